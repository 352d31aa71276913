/-! WAYS, SHELVES, NEW -/
def mZ : State → Heap → Prop := fun _ _ => True
abbrev at_X3 (D : va_G) (cI : ClassId) (A : Nat → Prop) (h0 : Nat) (u : Nat × Nat × Nat × Nat × Nat × Nat × (Nat → Nat) × ClassId) (t : State) : Prop := match u with
  | (a1, a2, a3, a4, a5, q, r, cA) => va_P D vwCl [(h0, .inr (3, [.int 0, .ref a1, .ref a2, .ref a3, .ref a4, .int 0, .ref a5, .ref q])), (a1, .inl (cI, 36, .inl (fun _ => 0))), (a2, .inl (cI, 1024, .inl (fun _ => 0))), (a3, .inl (cI, 1024, .inl (fun _ => 0))), (a4, .inl (cI, 1024, .inl (fun _ => 0))), (a5, .inl (cI, 64, .inl (fun _ => 0))), (q, .inl (cA, 5, .inr (.inr (.inr (.inr (fun i => if i < 5 then some (r i) else none)))))), (r 0, .inl (cI, 64, .inl (fun _ => 0))), (r 1, .inl (cI, 64, .inl (fun _ => 0))), (r 2, .inl (cI, 64, .inl (fun _ => 0))), (r 3, .inl (cI, 64, .inl (fun _ => 0))), (r 4, .inl (cI, 64, .inl (fun _ => 0)))] t.heap ∧ va_D A [(h0, .inr (3, [.int 0, .ref a1, .ref a2, .ref a3, .ref a4, .int 0, .ref a5, .ref q])), (a1, .inl (cI, 36, .inl (fun _ => 0))), (a2, .inl (cI, 1024, .inl (fun _ => 0))), (a3, .inl (cI, 1024, .inl (fun _ => 0))), (a4, .inl (cI, 1024, .inl (fun _ => 0))), (a5, .inl (cI, 64, .inl (fun _ => 0))), (q, .inl (cA, 5, .inr (.inr (.inr (.inr (fun i => if i < 5 then some (r i) else none)))))), (r 0, .inl (cI, 64, .inl (fun _ => 0))), (r 1, .inl (cI, 64, .inl (fun _ => 0))), (r 2, .inl (cI, 64, .inl (fun _ => 0))), (r 3, .inl (cI, 64, .inl (fun _ => 0))), (r 4, .inl (cI, 64, .inl (fun _ => 0)))] ∧ va_K D vwCl [(cI, .int), (cA, .array .int)] t
set_option maxHeartbeats 4000000 in
set_option maxRecDepth 100000 in
theorem c_X3_init (l : Launch) (D : va_G) (cI : ClassId) (h0 sz : Nat) : Met l yX3_init wsX3_init ({ frames := 1, cells := 11, slots := 3497, locals := 40 }) (va_Pc [.ref h0] (nB D cI [(h0, .inr (3, [.int 0, .null, .null, .null, .null, .int 0, .null, .null]))] sz)) (va_Qv (fun _ : Nat × Nat × Nat × Nat × Nat × Nat × (Nat → Nat) × ClassId => True) (at_X3 D cI (va_A [(h0, .inr (3, [.int 0, .null, .null, .null, .null, .int 0, .null, .null]))] sz) h0) (va_A [(h0, .inr (3, [.int 0, .null, .null, .null, .null, .int 0, .null, .null]))] sz)) 11 3497 (va_A [(h0, .inr (3, [.int 0, .null, .null, .null, .null, .int 0, .null, .null]))] sz) := by
  refine Met.ofW (cc := cX3_init) (maxL := 1) (ret := none) (by decide) rfl ?_
  intro p e s m args below meth c s₁ B hml hv
  obtain ⟨rfl, hsz, hP, hK, hD0, hO⟩ := hv
  have hx := B.exec
  have hb := B.bytes
  have hr := B.returns
  have hts := atoms_spec (ws := wsX3_init) B.pre
  have hown : s.vm.findClass RX3 = some m.cls := findClass_of_methodNamed B.named
  have hlocks := B.notSynchronized
  have hin : meth.name = "<init>" := (name_of_methodNamed B.named B.method).1
  subst hsz
  have hD := hD0.self (sz := s.heap.size)
  generalize hAe : va_A [(h0, .inr (3, [.int 0, .null, .null, .null, .null, .int 0, .null, .null]))] s.heap.size = A at hD ⊢
  have hA : ∀ q : Nat, s.heap.size ≤ q → A q := fun q h => by rw [← hAe]; exact Or.inr h
  have hS : va_S A s.heap s.heap [] := va_S.rf
  have hl := lv_entry ([.ref h0]) (n := 1) (Nat.le_of_ble_eq_true rfl)
  rw [lg_entry_eq]
  generalize (lg_sl ([.ref h0]) ++ List.replicate (1 - (lg_sl ([.ref h0])).length) Slot.unset).toArray = ls at hl ⊢
  have hl : lv_has ls 1 [(0, .ref h0)] := hl
  refine lv_aload_n hx hb dX3_init_0 rfl (lv_at hl 0 rfl) ?_
  refine W.objInit hx hb hown (hts (.methodLink RX3 5 objectInit) (List.mem_of_getElem? (i := 1) rfl)) (hts (.instanceMethod objectInit) (List.mem_of_getElem? (i := 2) rfl)) (hts _ (List.mem_of_getElem? (i := 3) rfl)) rfl (by rw [hml]; exact hl.1) rfl dX3_init_1 (Nat.le_of_ble_eq_true rfl) (Nat.le_of_ble_eq_true rfl) ?_
  refine W.eq (g2 := F0 m 4 ls []) rfl ?_
  refine lv_aload_n hx hb dX3_init_4 rfl (lv_at hl 0 rfl) ?_
  refine lv_bipush (v := 36) hx hb dX3_init_5 (by decide) ?_
  refine n_newI (N' := 36) hx hb (hts (.arrayClass .int) (List.mem_of_getElem? (i := 4) rfl)) hK 0 rfl hP hD hS hA (by decide) (by decide) (Nat.le_of_ble_eq_true rfl) (Nat.le_of_ble_eq_true rfl) (Nat.le_of_ble_eq_true rfl) dX3_init_7 (fun a1 H hP hD hS => ?_)
  have hP : va_P D vwCl [(h0, .inr (3, [.int 0, .null, .null, .null, .null, .int 0, .null, .null])), (a1, .inl (cI, 36, .inl (fun _ => 0)))] H := hP
  have hD : va_D A [(h0, .inr (3, [.int 0, .null, .null, .null, .null, .int 0, .null, .null])), (a1, .inl (cI, 36, .inl (fun _ => 0)))] := hD
  refine W.widen (k := 1) (n := 36) (Nat.le_of_ble_eq_true rfl) (Nat.le_of_ble_eq_true rfl) ?_
  refine va_putF (D := D) (ci := 3) (v := .ref a1) (ty := .array .int) (C := RX3) (T := TX3) (N := 8) hx hb hts (fun _ h => List.mem_cons_of_mem _ (List.mem_append_right _ h)) tyX3 tyX3_ok nmX3 hown hK hP hD hS 0 rfl rfl 1 (by decide) (hts (.fieldLink RX3 11 (TX3 1).1 (TX3 1).2.1 (TX3 1).2.2.1) (List.mem_of_getElem? (i := 5) rfl)) (fun _ h9 => h9) rfl hin rfl (by decide +kernel) rfl rfl (Nat.le_of_ble_eq_true rfl) dX3_init_9 (fun H locs hP hD hS => ?_)
  have hP : va_P D vwCl [(h0, .inr (3, [.int 0, .ref a1, .null, .null, .null, .int 0, .null, .null])), (a1, .inl (cI, 36, .inl (fun _ => 0)))] H := hP
  have hD : va_D A [(h0, .inr (3, [.int 0, .ref a1, .null, .null, .null, .int 0, .null, .null])), (a1, .inl (cI, 36, .inl (fun _ => 0)))] := hD
  refine lv_aload_n hx hb dX3_init_12 rfl (lv_at hl 0 rfl) ?_
  refine lv_sipush (v := 1024) hx hb dX3_init_13 (by decide) ?_
  refine n_newI (N' := 1024) hx hb (hts (.arrayClass .int) (List.mem_of_getElem? (i := 4) rfl)) hK 0 rfl hP hD hS hA (by decide) (by decide) (Nat.le_of_ble_eq_true rfl) (Nat.le_of_ble_eq_true rfl) (Nat.le_of_ble_eq_true rfl) dX3_init_16 (fun a2 H hP hD hS => ?_)
  have hP : va_P D vwCl [(h0, .inr (3, [.int 0, .ref a1, .null, .null, .null, .int 0, .null, .null])), (a1, .inl (cI, 36, .inl (fun _ => 0))), (a2, .inl (cI, 1024, .inl (fun _ => 0)))] H := hP
  have hD : va_D A [(h0, .inr (3, [.int 0, .ref a1, .null, .null, .null, .int 0, .null, .null])), (a1, .inl (cI, 36, .inl (fun _ => 0))), (a2, .inl (cI, 1024, .inl (fun _ => 0)))] := hD
  refine W.widen (k := 2) (n := 1060) (Nat.le_of_ble_eq_true rfl) (Nat.le_of_ble_eq_true rfl) ?_
  refine va_putF (D := D) (ci := 3) (v := .ref a2) (ty := .array .int) (C := RX3) (T := TX3) (N := 8) hx hb hts (fun _ h => List.mem_cons_of_mem _ (List.mem_append_right _ h)) tyX3 tyX3_ok nmX3 hown hK hP hD hS 0 rfl rfl 2 (by decide) (hts (.fieldLink RX3 15 (TX3 2).1 (TX3 2).2.1 (TX3 2).2.2.1) (List.mem_of_getElem? (i := 6) rfl)) (fun _ h9 => h9) rfl hin rfl (by decide +kernel) rfl rfl (Nat.le_of_ble_eq_true rfl) dX3_init_18 (fun H locs hP hD hS => ?_)
  have hP : va_P D vwCl [(h0, .inr (3, [.int 0, .ref a1, .ref a2, .null, .null, .int 0, .null, .null])), (a1, .inl (cI, 36, .inl (fun _ => 0))), (a2, .inl (cI, 1024, .inl (fun _ => 0)))] H := hP
  have hD : va_D A [(h0, .inr (3, [.int 0, .ref a1, .ref a2, .null, .null, .int 0, .null, .null])), (a1, .inl (cI, 36, .inl (fun _ => 0))), (a2, .inl (cI, 1024, .inl (fun _ => 0)))] := hD
  refine lv_aload_n hx hb dX3_init_21 rfl (lv_at hl 0 rfl) ?_
  refine lv_sipush (v := 1024) hx hb dX3_init_22 (by decide) ?_
  refine n_newI (N' := 1024) hx hb (hts (.arrayClass .int) (List.mem_of_getElem? (i := 4) rfl)) hK 0 rfl hP hD hS hA (by decide) (by decide) (Nat.le_of_ble_eq_true rfl) (Nat.le_of_ble_eq_true rfl) (Nat.le_of_ble_eq_true rfl) dX3_init_25 (fun a3 H hP hD hS => ?_)
  have hP : va_P D vwCl [(h0, .inr (3, [.int 0, .ref a1, .ref a2, .null, .null, .int 0, .null, .null])), (a1, .inl (cI, 36, .inl (fun _ => 0))), (a2, .inl (cI, 1024, .inl (fun _ => 0))), (a3, .inl (cI, 1024, .inl (fun _ => 0)))] H := hP
  have hD : va_D A [(h0, .inr (3, [.int 0, .ref a1, .ref a2, .null, .null, .int 0, .null, .null])), (a1, .inl (cI, 36, .inl (fun _ => 0))), (a2, .inl (cI, 1024, .inl (fun _ => 0))), (a3, .inl (cI, 1024, .inl (fun _ => 0)))] := hD
  refine W.widen (k := 3) (n := 2084) (Nat.le_of_ble_eq_true rfl) (Nat.le_of_ble_eq_true rfl) ?_
  refine va_putF (D := D) (ci := 3) (v := .ref a3) (ty := .array .int) (C := RX3) (T := TX3) (N := 8) hx hb hts (fun _ h => List.mem_cons_of_mem _ (List.mem_append_right _ h)) tyX3 tyX3_ok nmX3 hown hK hP hD hS 0 rfl rfl 3 (by decide) (hts (.fieldLink RX3 18 (TX3 3).1 (TX3 3).2.1 (TX3 3).2.2.1) (List.mem_of_getElem? (i := 7) rfl)) (fun _ h9 => h9) rfl hin rfl (by decide +kernel) rfl rfl (Nat.le_of_ble_eq_true rfl) dX3_init_27 (fun H locs hP hD hS => ?_)
  have hP : va_P D vwCl [(h0, .inr (3, [.int 0, .ref a1, .ref a2, .ref a3, .null, .int 0, .null, .null])), (a1, .inl (cI, 36, .inl (fun _ => 0))), (a2, .inl (cI, 1024, .inl (fun _ => 0))), (a3, .inl (cI, 1024, .inl (fun _ => 0)))] H := hP
  have hD : va_D A [(h0, .inr (3, [.int 0, .ref a1, .ref a2, .ref a3, .null, .int 0, .null, .null])), (a1, .inl (cI, 36, .inl (fun _ => 0))), (a2, .inl (cI, 1024, .inl (fun _ => 0))), (a3, .inl (cI, 1024, .inl (fun _ => 0)))] := hD
  refine lv_aload_n hx hb dX3_init_30 rfl (lv_at hl 0 rfl) ?_
  refine lv_sipush (v := 1024) hx hb dX3_init_31 (by decide) ?_
  refine n_newI (N' := 1024) hx hb (hts (.arrayClass .int) (List.mem_of_getElem? (i := 4) rfl)) hK 0 rfl hP hD hS hA (by decide) (by decide) (Nat.le_of_ble_eq_true rfl) (Nat.le_of_ble_eq_true rfl) (Nat.le_of_ble_eq_true rfl) dX3_init_34 (fun a4 H hP hD hS => ?_)
  have hP : va_P D vwCl [(h0, .inr (3, [.int 0, .ref a1, .ref a2, .ref a3, .null, .int 0, .null, .null])), (a1, .inl (cI, 36, .inl (fun _ => 0))), (a2, .inl (cI, 1024, .inl (fun _ => 0))), (a3, .inl (cI, 1024, .inl (fun _ => 0))), (a4, .inl (cI, 1024, .inl (fun _ => 0)))] H := hP
  have hD : va_D A [(h0, .inr (3, [.int 0, .ref a1, .ref a2, .ref a3, .null, .int 0, .null, .null])), (a1, .inl (cI, 36, .inl (fun _ => 0))), (a2, .inl (cI, 1024, .inl (fun _ => 0))), (a3, .inl (cI, 1024, .inl (fun _ => 0))), (a4, .inl (cI, 1024, .inl (fun _ => 0)))] := hD
  refine W.widen (k := 4) (n := 3108) (Nat.le_of_ble_eq_true rfl) (Nat.le_of_ble_eq_true rfl) ?_
  refine va_putF (D := D) (ci := 3) (v := .ref a4) (ty := .array .int) (C := RX3) (T := TX3) (N := 8) hx hb hts (fun _ h => List.mem_cons_of_mem _ (List.mem_append_right _ h)) tyX3 tyX3_ok nmX3 hown hK hP hD hS 0 rfl rfl 4 (by decide) (hts (.fieldLink RX3 21 (TX3 4).1 (TX3 4).2.1 (TX3 4).2.2.1) (List.mem_of_getElem? (i := 8) rfl)) (fun _ h9 => h9) rfl hin rfl (by decide +kernel) rfl rfl (Nat.le_of_ble_eq_true rfl) dX3_init_36 (fun H locs hP hD hS => ?_)
  have hP : va_P D vwCl [(h0, .inr (3, [.int 0, .ref a1, .ref a2, .ref a3, .ref a4, .int 0, .null, .null])), (a1, .inl (cI, 36, .inl (fun _ => 0))), (a2, .inl (cI, 1024, .inl (fun _ => 0))), (a3, .inl (cI, 1024, .inl (fun _ => 0))), (a4, .inl (cI, 1024, .inl (fun _ => 0)))] H := hP
  have hD : va_D A [(h0, .inr (3, [.int 0, .ref a1, .ref a2, .ref a3, .ref a4, .int 0, .null, .null])), (a1, .inl (cI, 36, .inl (fun _ => 0))), (a2, .inl (cI, 1024, .inl (fun _ => 0))), (a3, .inl (cI, 1024, .inl (fun _ => 0))), (a4, .inl (cI, 1024, .inl (fun _ => 0)))] := hD
  refine lv_aload_n hx hb dX3_init_39 rfl (lv_at hl 0 rfl) ?_
  refine lv_bipush (v := 64) hx hb dX3_init_40 (by decide) ?_
  refine n_newI (N' := 64) hx hb (hts (.arrayClass .int) (List.mem_of_getElem? (i := 4) rfl)) hK 0 rfl hP hD hS hA (by decide) (by decide) (Nat.le_of_ble_eq_true rfl) (Nat.le_of_ble_eq_true rfl) (Nat.le_of_ble_eq_true rfl) dX3_init_42 (fun a5 H hP hD hS => ?_)
  have hP : va_P D vwCl [(h0, .inr (3, [.int 0, .ref a1, .ref a2, .ref a3, .ref a4, .int 0, .null, .null])), (a1, .inl (cI, 36, .inl (fun _ => 0))), (a2, .inl (cI, 1024, .inl (fun _ => 0))), (a3, .inl (cI, 1024, .inl (fun _ => 0))), (a4, .inl (cI, 1024, .inl (fun _ => 0))), (a5, .inl (cI, 64, .inl (fun _ => 0)))] H := hP
  have hD : va_D A [(h0, .inr (3, [.int 0, .ref a1, .ref a2, .ref a3, .ref a4, .int 0, .null, .null])), (a1, .inl (cI, 36, .inl (fun _ => 0))), (a2, .inl (cI, 1024, .inl (fun _ => 0))), (a3, .inl (cI, 1024, .inl (fun _ => 0))), (a4, .inl (cI, 1024, .inl (fun _ => 0))), (a5, .inl (cI, 64, .inl (fun _ => 0)))] := hD
  refine W.widen (k := 5) (n := 3172) (Nat.le_of_ble_eq_true rfl) (Nat.le_of_ble_eq_true rfl) ?_
  refine va_putF (D := D) (ci := 3) (v := .ref a5) (ty := .array .int) (C := RX3) (T := TX3) (N := 8) hx hb hts (fun _ h => List.mem_cons_of_mem _ (List.mem_append_right _ h)) tyX3 tyX3_ok nmX3 hown hK hP hD hS 0 rfl rfl 6 (by decide) (hts (.fieldLink RX3 24 (TX3 6).1 (TX3 6).2.1 (TX3 6).2.2.1) (List.mem_of_getElem? (i := 9) rfl)) (fun _ h9 => h9) rfl hin rfl (by decide +kernel) rfl rfl (Nat.le_of_ble_eq_true rfl) dX3_init_44 (fun H locs hP hD hS => ?_)
  have hP : va_P D vwCl [(h0, .inr (3, [.int 0, .ref a1, .ref a2, .ref a3, .ref a4, .int 0, .ref a5, .null])), (a1, .inl (cI, 36, .inl (fun _ => 0))), (a2, .inl (cI, 1024, .inl (fun _ => 0))), (a3, .inl (cI, 1024, .inl (fun _ => 0))), (a4, .inl (cI, 1024, .inl (fun _ => 0))), (a5, .inl (cI, 64, .inl (fun _ => 0)))] H := hP
  have hD : va_D A [(h0, .inr (3, [.int 0, .ref a1, .ref a2, .ref a3, .ref a4, .int 0, .ref a5, .null])), (a1, .inl (cI, 36, .inl (fun _ => 0))), (a2, .inl (cI, 1024, .inl (fun _ => 0))), (a3, .inl (cI, 1024, .inl (fun _ => 0))), (a4, .inl (cI, 1024, .inl (fun _ => 0))), (a5, .inl (cI, 64, .inl (fun _ => 0)))] := hD
  refine lv_aload_n hx hb dX3_init_47 rfl (lv_at hl 0 rfl) ?_
  refine lv_iconst (v := 5) hx hb dX3_init_48 (by decide) ?_
  refine lv_bipush (v := 64) hx hb dX3_init_49 (by decide) ?_
  have hPm : va_P D vwCl ([(h0, .inr (3, [.int 0, .ref a1, .ref a2, .ref a3, .ref a4, .int 0, .ref a5, .null])), (a1, .inl (cI, 36, .inl (fun _ => 0))), (a2, .inl (cI, 1024, .inl (fun _ => 0))), (a3, .inl (cI, 1024, .inl (fun _ => 0))), (a4, .inl (cI, 1024, .inl (fun _ => 0))), (a5, .inl (cI, 64, .inl (fun _ => 0)))] ++ va_pl [] (fun _ => .inl (cI, 0, .inl (fun _ => 0)))) H := hP
  have hDm : va_D A ([(h0, .inr (3, [.int 0, .ref a1, .ref a2, .ref a3, .ref a4, .int 0, .ref a5, .null])), (a1, .inl (cI, 36, .inl (fun _ => 0))), (a2, .inl (cI, 1024, .inl (fun _ => 0))), (a3, .inl (cI, 1024, .inl (fun _ => 0))), (a4, .inl (cI, 1024, .inl (fun _ => 0))), (a5, .inl (cI, 64, .inl (fun _ => 0)))] ++ va_pl [] (fun _ => .inl (cI, 0, .inl (fun _ => 0)))) := hD
  refine va_mna (ty := .int) (cy := cI) (N' := 5) (K' := 64) (z := (64, .inl (fun _ => 0))) hx hb hown (hts (.classLink RX3 27 "[[I") (List.mem_of_getElem? (i := 10) rfl)) hO (hts (.arrayClass .int) (List.mem_of_getElem? (i := 4) rfl)) (hK.2 0 _ rfl).2 hK hPm hDm hS hA (by decide) (by decide) (by decide) (by decide) (Nat.le_of_ble_eq_true rfl) (Nat.le_of_ble_eq_true rfl) (Nat.le_of_ble_eq_true rfl) rfl rfl (Nat.le_of_ble_eq_true rfl) (Nat.le_of_ble_eq_true rfl) (fun c => arrV_new c 64 (.int 0)) dX3_init_51 (fun q r cA H hri hrn hK hP hD hS => ?_)
  rw [← vr_rows (fun a _ h9 => absurd h9 List.not_mem_nil)] at hP hD
  have hP : va_P D vwCl [(h0, .inr (3, [.int 0, .ref a1, .ref a2, .ref a3, .ref a4, .int 0, .ref a5, .null])), (a1, .inl (cI, 36, .inl (fun _ => 0))), (a2, .inl (cI, 1024, .inl (fun _ => 0))), (a3, .inl (cI, 1024, .inl (fun _ => 0))), (a4, .inl (cI, 1024, .inl (fun _ => 0))), (a5, .inl (cI, 64, .inl (fun _ => 0))), (q, .inl (cA, 5, .inr (.inr (.inr (.inr (fun i => if i < 5 then some (r i) else none)))))), (r 0, .inl (cI, 64, .inl (fun _ => 0))), (r 1, .inl (cI, 64, .inl (fun _ => 0))), (r 2, .inl (cI, 64, .inl (fun _ => 0))), (r 3, .inl (cI, 64, .inl (fun _ => 0))), (r 4, .inl (cI, 64, .inl (fun _ => 0)))] H := hP
  have hD : va_D A [(h0, .inr (3, [.int 0, .ref a1, .ref a2, .ref a3, .ref a4, .int 0, .ref a5, .null])), (a1, .inl (cI, 36, .inl (fun _ => 0))), (a2, .inl (cI, 1024, .inl (fun _ => 0))), (a3, .inl (cI, 1024, .inl (fun _ => 0))), (a4, .inl (cI, 1024, .inl (fun _ => 0))), (a5, .inl (cI, 64, .inl (fun _ => 0))), (q, .inl (cA, 5, .inr (.inr (.inr (.inr (fun i => if i < 5 then some (r i) else none)))))), (r 0, .inl (cI, 64, .inl (fun _ => 0))), (r 1, .inl (cI, 64, .inl (fun _ => 0))), (r 2, .inl (cI, 64, .inl (fun _ => 0))), (r 3, .inl (cI, 64, .inl (fun _ => 0))), (r 4, .inl (cI, 64, .inl (fun _ => 0)))] := hD
  refine W.widen (k := 11) (n := 3497) (Nat.le_of_ble_eq_true rfl) (Nat.le_of_ble_eq_true rfl) ?_
  refine va_putF (D := D) (ci := 3) (v := .ref q) (ty := .array (.array .int)) (C := RX3) (T := TX3) (N := 8) hx hb hts (fun _ h => List.mem_cons_of_mem _ (List.mem_append_right _ h)) tyX3 tyX3_ok nmX3 hown hK hP hD hS 0 rfl rfl 7 (by decide) (hts (.fieldLink RX3 29 (TX3 7).1 (TX3 7).2.1 (TX3 7).2.2.1) (List.mem_of_getElem? (i := 11) rfl)) (fun _ h9 => h9) rfl hin rfl (by decide +kernel) rfl rfl (Nat.le_of_ble_eq_true rfl) dX3_init_55 (fun H locs hP hD hS => ?_)
  have hP : va_P D vwCl [(h0, .inr (3, [.int 0, .ref a1, .ref a2, .ref a3, .ref a4, .int 0, .ref a5, .ref q])), (a1, .inl (cI, 36, .inl (fun _ => 0))), (a2, .inl (cI, 1024, .inl (fun _ => 0))), (a3, .inl (cI, 1024, .inl (fun _ => 0))), (a4, .inl (cI, 1024, .inl (fun _ => 0))), (a5, .inl (cI, 64, .inl (fun _ => 0))), (q, .inl (cA, 5, .inr (.inr (.inr (.inr (fun i => if i < 5 then some (r i) else none)))))), (r 0, .inl (cI, 64, .inl (fun _ => 0))), (r 1, .inl (cI, 64, .inl (fun _ => 0))), (r 2, .inl (cI, 64, .inl (fun _ => 0))), (r 3, .inl (cI, 64, .inl (fun _ => 0))), (r 4, .inl (cI, 64, .inl (fun _ => 0)))] H := hP
  have hD : va_D A [(h0, .inr (3, [.int 0, .ref a1, .ref a2, .ref a3, .ref a4, .int 0, .ref a5, .ref q])), (a1, .inl (cI, 36, .inl (fun _ => 0))), (a2, .inl (cI, 1024, .inl (fun _ => 0))), (a3, .inl (cI, 1024, .inl (fun _ => 0))), (a4, .inl (cI, 1024, .inl (fun _ => 0))), (a5, .inl (cI, 64, .inl (fun _ => 0))), (q, .inl (cA, 5, .inr (.inr (.inr (.inr (fun i => if i < 5 then some (r i) else none)))))), (r 0, .inl (cI, 64, .inl (fun _ => 0))), (r 1, .inl (cI, 64, .inl (fun _ => 0))), (r 2, .inl (cI, 64, .inl (fun _ => 0))), (r 3, .inl (cI, 64, .inl (fun _ => 0))), (r 4, .inl (cI, 64, .inl (fun _ => 0)))] := hD
  exact W.vret hx hb hr (fun t ht hW => ⟨⟨(a1, a2, a3, a4, a5, q, r, cA), rfl, trivial, by rw [ht]; exact hP, hD, va_K.moved hW.alike hK⟩, hS.F ht⟩) hS.2.2 dX3_init_58
theorem D_one (z : Nat) (e e' : va_E) (sz : Nat) : va_D (va_A [(z, e)] sz) [(z, e')] := by
  refine ⟨fun i j p q h1 h2 _ => ?_, fun k q h => ?_⟩
  · have a1 := (List.getElem?_eq_some_iff.mp h1).1
    have a2 := (List.getElem?_eq_some_iff.mp h2).1
    simp at a1 a2
    omega
  · have a1 := (List.getElem?_eq_some_iff.mp h).1
    have a2 : k = 0 := by
      simp at a1
      exact a1
    subst a2
    cases h
    exact Or.inl ⟨0, e, rfl⟩
def e1 (cI : ClassId) (n1 : Nat) : xEnt := fun _ f _ => .inl (cI, n1, .inl f)
theorem mZ1 {a0 : Nat} : gZm 1 (fun _ => a0) mZ := fun _ _ _ _ _ _ _ => trivial
set_option maxHeartbeats 4000000 in
set_option maxRecDepth 100000 in
theorem k_fill1 (l : Launch) (D : va_G) (cI : ClassId) (a0 : Nat) (I : xMem) (L : xLon) {n1 : Nat} (x2 : Int32) (r : xMem) (h : J7_fill_53178 I 0 n1 x2 = some r) : Met l yJ7_fill_53178 wsJ7_fill_53178 rm_J7_fill_53178 (va_Pc [.ref a0, .int x2] (gW D vwCl 1 (fun _ => a0) (e1 cI n1) [(cI, .int)] mZ I L)) (g_Pv D vwCl 1 (fun _ => a0) (e1 cI n1) [(cI, .int)] mZ r L) 0 0 (gA 1 (fun _ => a0)) := by
  refine g_met (own := RJ7) (cc := cJ7_fill_53178) (maxL := 4) (ret := none) (by decide) rfl (Nat.le_of_ble_eq_true rfl) rfl ?_
  intro p e s m args below meth c ls hx hb hml hr hlocks hown hts hG hK hZ hl
  generalize hQ : MQ below _ args s 0 0 _ = Q
  have hl : lv_has ls 4 [(0, .ref a0), (1, .int x2)] := hl
  have hS : va_S (gA 1 (fun _ => a0)) s.heap s.heap [] := va_S.rf
  have hi : gInj 1 (fun _ => a0) := fun i j h1 h2 _ => by omega
  unfold J7_fill_53178 at h
  refine lv_iconst (v := (0 : Int32)) hx hb dJ7_fill_53178_0 (by decide) ?_
  refine lv_istore_n (lv' := [(2, .int (0 : Int32)), (0, .ref a0), (1, .int x2)]) hx hb dJ7_fill_53178_1 rfl hl (by decide) rfl (fun ls hl => ?_)
  refine lv_aload_n hx hb dJ7_fill_53178_2 rfl (lv_at hl 1 rfl) ?_
  refine g_len hx hb hK hG (k := 0) (x := (n1, _)) Nat.one_pos rfl 0 rfl rfl dJ7_fill_53178_3 ?_
  refine lv_istore_n (lv' := [(3, .int (Int32.ofNat n1)), (2, .int (0 : Int32)), (0, .ref a0), (1, .int x2)]) hx hb dJ7_fill_53178_4 rfl hl (by decide) rfl (fun ls hl => ?_)
  have keyK1 : ∀ (K1 : xMem → Option (xMem)), (∀ (I4 : xMem) (H : Heap) (locs : List Loc) (ls : Array Slot), K1 I4 = some r → gG D vwCl 1 (fun _ => a0) (e1 cI n1) I4 L H → va_S (gA 1 (fun _ => a0)) s.heap H locs → lv_has ls 4 [] → W p l e rm_J7_fill_53178 s m args below meth c H locs 0 0 Q (F0 m 20 ls [])) → ∀ (n2 : Nat) (x2_2 : Int32) (I3 : xMem) (H : Heap) (locs : List Loc) (ls : Array Slot), J7_fill_53178_L1 0 n1 x2 K1 n2 x2_2 I3 = some r → gG D vwCl 1 (fun _ => a0) (e1 cI n1) I3 L H → va_S (gA 1 (fun _ => a0)) s.heap H locs → lv_has ls 4 [(0, .ref a0), (1, .int x2), (2, .int x2_2), (3, .int (Int32.ofNat n1))] → W p l e rm_J7_fill_53178 s m args below meth c H locs 0 0 Q (F0 m 5 ls []) := by
    intro K1 hkK1 n2
    induction n2 with
    | zero =>
      intro x2_2 I3 H locs ls h
      exact ono h
    | succ n2 ihn2 =>
      intro x2_2 I3 H locs ls h hG hS hl
      rw [J7_fill_53178_L1] at h
      refine lv_iload_n hx hb dJ7_fill_53178_5 rfl (lv_at hl 2 rfl) ?_
      refine lv_iload_n hx hb dJ7_fill_53178_6 rfl (lv_at hl 3 rfl) ?_
      refine lv_icmp_ge (tgt := 20) hx hb dJ7_fill_53178_7 (by decide) (fun c5 => ?_) (fun c5 => ?_)
      · have h := ite_t h c5
        exact hkK1 I3 _ _ _ h hG hS (lv_sub hl [] rfl)
      · have h := ite_f h c5
        refine lv_aload_n hx hb dJ7_fill_53178_10 rfl (lv_at hl 0 rfl) ?_
        refine lv_iload_n hx hb dJ7_fill_53178_11 rfl (lv_at hl 2 rfl) ?_
        refine lv_iload_n hx hb dJ7_fill_53178_12 rfl (lv_at hl 1 rfl) ?_
        refine g_ast hx hb hK hG hi hS (k := 0) (n := n1) Nat.one_pos (fun f => rfl) 0 rfl h dJ7_fill_53178_13 (fun I6 H locs h hG hS => ?_)
        refine lv_iinc (v := (x2_2 + (1 : Int32))) (lv' := [(2, .int (x2_2 + (1 : Int32))), (0, .ref a0), (1, .int x2), (3, .int (Int32.ofNat n1))]) hx hb dJ7_fill_53178_14 hl (k := 2) rfl rfl (by decide) rfl (fun ls hl => ?_)
        refine lv_goto (tgt := 5) hx hb dJ7_fill_53178_17 (by decide) ?_
        exact ihn2 (x2_2 + (1 : Int32)) I6 _ _ _ h hG hS (lv_sub hl [1, 2, 0, 3] rfl)
  refine keyK1 _ (fun I4 H locs ls h hG hS hl => ?_) bigF (0 : Int32) I _ _ _ h hG hS (lv_sub hl [2, 3, 1, 0] rfl)
  clear keyK1
  have h := Option.some.inj h
  subst h
  subst hQ
  exact g_vret hx hb hr hlocks mZ1 hK hZ hG hS dJ7_fill_53178_20
abbrev at_X2_6 (D : va_G) (cI : ClassId) (A : Nat → Prop) (h0 : Nat) (u : Nat × (Nat → Nat) × Nat × ClassId) (t : State) : Prop := match u with
  | (q, r, z, cA) => va_P D vwCl [(h0, .inr (2, [.int 6, .int 40, .ref q, .ref z, .int 0])), (q, .inl (cA, 6, .inr (.inr (.inr (.inr (fun i => if i < 6 then some (r i) else none)))))), (r 0, .inl (cI, 40, .inl (fun _ => 0))), (r 1, .inl (cI, 40, .inl (fun _ => 0))), (r 2, .inl (cI, 40, .inl (fun _ => 0))), (r 3, .inl (cI, 40, .inl (fun _ => 0))), (r 4, .inl (cI, 40, .inl (fun _ => 0))), (r 5, .inl (cI, 40, .inl (fun _ => 0))), (z, .inl (cI, 6, .inl (rgM (fun _ _ => 0) 0 0 6 (-1) 0)))] t.heap ∧ va_D A [(h0, .inr (2, [.int 6, .int 40, .ref q, .ref z, .int 0])), (q, .inl (cA, 6, .inr (.inr (.inr (.inr (fun i => if i < 6 then some (r i) else none)))))), (r 0, .inl (cI, 40, .inl (fun _ => 0))), (r 1, .inl (cI, 40, .inl (fun _ => 0))), (r 2, .inl (cI, 40, .inl (fun _ => 0))), (r 3, .inl (cI, 40, .inl (fun _ => 0))), (r 4, .inl (cI, 40, .inl (fun _ => 0))), (r 5, .inl (cI, 40, .inl (fun _ => 0))), (z, .inl (cI, 6, .inl (rgM (fun _ _ => 0) 0 0 6 (-1) 0)))] ∧ va_K D vwCl [(cI, .int), (cA, .array .int)] t
set_option maxHeartbeats 4000000 in
set_option maxRecDepth 100000 in
theorem c_X2_6_init (l : Launch) (D : va_G) (cI : ClassId) (h0 sz : Nat) : Met l yX2_init wsX2_init ({ frames := 2, cells := 8, slots := 252, locals := 60 }) (va_Pc [.ref h0, .int 6, .int 40, .int 0] (nB D cI [(h0, .inr (2, [.int 0, .int 0, .null, .null, .int 0]))] sz)) (va_Qv (fun _ : Nat × (Nat → Nat) × Nat × ClassId => True) (at_X2_6 D cI (va_A [(h0, .inr (2, [.int 0, .int 0, .null, .null, .int 0]))] sz) h0) (va_A [(h0, .inr (2, [.int 0, .int 0, .null, .null, .int 0]))] sz)) 8 252 (va_A [(h0, .inr (2, [.int 0, .int 0, .null, .null, .int 0]))] sz) := by
  refine Met.ofW (cc := cX2_init) (maxL := 4) (ret := none) (by decide) rfl ?_
  intro p e s m args below meth c s₁ B hml hv
  obtain ⟨rfl, hsz, hP, hK, hD0, hO⟩ := hv
  have hx := B.exec
  have hb := B.bytes
  have hr := B.returns
  have hts := atoms_spec (ws := wsX2_init) B.pre
  have hown : s.vm.findClass RX2 = some m.cls := findClass_of_methodNamed B.named
  have hlocks := B.notSynchronized
  have hin : meth.name = "<init>" := (name_of_methodNamed B.named B.method).1
  subst hsz
  have hD := hD0.self (sz := s.heap.size)
  generalize hAe : va_A [(h0, .inr (2, [.int 0, .int 0, .null, .null, .int 0]))] s.heap.size = A at hD ⊢
  have hA : ∀ q : Nat, s.heap.size ≤ q → A q := fun q h => by rw [← hAe]; exact Or.inr h
  have hS : va_S A s.heap s.heap [] := va_S.rf
  have hl := lv_entry ([.ref h0, .int 6, .int 40, .int 0]) (n := 4) (Nat.le_of_ble_eq_true rfl)
  rw [lg_entry_eq]
  generalize (lg_sl ([.ref h0, .int 6, .int 40, .int 0]) ++ List.replicate (4 - (lg_sl ([.ref h0, .int 6, .int 40, .int 0])).length) Slot.unset).toArray = ls at hl ⊢
  have hl : lv_has ls 4 [(0, .ref h0), (1, .int 6), (2, .int 40), (3, .int 0)] := hl
  refine lv_aload_n hx hb dX2_init_0 rfl (lv_at hl 0 rfl) ?_
  refine W.objInit hx hb hown (hts (.methodLink RX2 1 objectInit) (List.mem_of_getElem? (i := 1) rfl)) (hts (.instanceMethod objectInit) (List.mem_of_getElem? (i := 2) rfl)) (hts _ (List.mem_of_getElem? (i := 3) rfl)) rfl (by rw [hml]; exact hl.1) rfl dX2_init_1 (Nat.le_of_ble_eq_true rfl) (Nat.le_of_ble_eq_true rfl) ?_
  refine W.eq (g2 := F0 m 4 ls []) rfl ?_
  refine lv_aload_n hx hb dX2_init_4 rfl (lv_at hl 0 rfl) ?_
  refine lv_iload_n hx hb dX2_init_5 rfl (lv_at hl 1 rfl) ?_
  refine va_putF (D := D) (ci := 2) (v := .int 6) (ty := .int) (C := RX2) (T := TX2) (N := 5) hx hb hts (fun _ h => List.mem_cons_of_mem _ (List.mem_append_right _ h)) tyX2 tyX2_ok nmX2 hown hK hP hD hS 0 rfl rfl 0 (by decide) (hts (.fieldLink RX2 7 (TX2 0).1 (TX2 0).2.1 (TX2 0).2.2.1) (List.mem_of_getElem? (i := 4) rfl)) (fun _ h9 => h9) rfl hin rfl (by decide +kernel) rfl rfl (Nat.le_of_ble_eq_true rfl) dX2_init_6 (fun H locs hP hD hS => ?_)
  have hP : va_P D vwCl [(h0, .inr (2, [.int 6, .int 0, .null, .null, .int 0]))] H := hP
  have hD : va_D A [(h0, .inr (2, [.int 6, .int 0, .null, .null, .int 0]))] := hD
  refine lv_aload_n hx hb dX2_init_9 rfl (lv_at hl 0 rfl) ?_
  refine lv_iload_n hx hb dX2_init_10 rfl (lv_at hl 2 rfl) ?_
  refine va_putF (D := D) (ci := 2) (v := .int 40) (ty := .int) (C := RX2) (T := TX2) (N := 5) hx hb hts (fun _ h => List.mem_cons_of_mem _ (List.mem_append_right _ h)) tyX2 tyX2_ok nmX2 hown hK hP hD hS 0 rfl rfl 1 (by decide) (hts (.fieldLink RX2 13 (TX2 1).1 (TX2 1).2.1 (TX2 1).2.2.1) (List.mem_of_getElem? (i := 5) rfl)) (fun _ h9 => h9) rfl hin rfl (by decide +kernel) rfl rfl (Nat.le_of_ble_eq_true rfl) dX2_init_11 (fun H locs hP hD hS => ?_)
  have hP : va_P D vwCl [(h0, .inr (2, [.int 6, .int 40, .null, .null, .int 0]))] H := hP
  have hD : va_D A [(h0, .inr (2, [.int 6, .int 40, .null, .null, .int 0]))] := hD
  refine lv_aload_n hx hb dX2_init_14 rfl (lv_at hl 0 rfl) ?_
  refine lv_iload_n hx hb dX2_init_15 rfl (lv_at hl 3 rfl) ?_
  refine va_putF (D := D) (ci := 2) (v := .int 0) (ty := .int) (C := RX2) (T := TX2) (N := 5) hx hb hts (fun _ h => List.mem_cons_of_mem _ (List.mem_append_right _ h)) tyX2 tyX2_ok nmX2 hown hK hP hD hS 0 rfl rfl 4 (by decide) (hts (.fieldLink RX2 16 (TX2 4).1 (TX2 4).2.1 (TX2 4).2.2.1) (List.mem_of_getElem? (i := 6) rfl)) (fun _ h9 => h9) rfl hin rfl (by decide +kernel) rfl rfl (Nat.le_of_ble_eq_true rfl) dX2_init_16 (fun H locs hP hD hS => ?_)
  have hP : va_P D vwCl [(h0, .inr (2, [.int 6, .int 40, .null, .null, .int 0]))] H := hP
  have hD : va_D A [(h0, .inr (2, [.int 6, .int 40, .null, .null, .int 0]))] := hD
  refine lv_aload_n hx hb dX2_init_19 rfl (lv_at hl 0 rfl) ?_
  refine lv_iload_n hx hb dX2_init_20 rfl (lv_at hl 1 rfl) ?_
  refine lv_iload_n hx hb dX2_init_21 rfl (lv_at hl 2 rfl) ?_
  have hPm : va_P D vwCl ([(h0, .inr (2, [.int 6, .int 40, .null, .null, .int 0]))] ++ va_pl [] (fun _ => .inl (cI, 0, .inl (fun _ => 0)))) H := hP
  have hDm : va_D A ([(h0, .inr (2, [.int 6, .int 40, .null, .null, .int 0]))] ++ va_pl [] (fun _ => .inl (cI, 0, .inl (fun _ => 0)))) := hD
  refine va_mna (ty := .int) (cy := cI) (N' := 6) (K' := 40) (z := (40, .inl (fun _ => 0))) hx hb hown (hts (.classLink RX2 19 "[[I") (List.mem_of_getElem? (i := 7) rfl)) hO (hts (.arrayClass .int) (List.mem_of_getElem? (i := 8) rfl)) (hK.2 0 _ rfl).2 hK hPm hDm hS hA (by decide) (by decide) (by decide) (by decide) (Nat.le_of_ble_eq_true rfl) (Nat.le_of_ble_eq_true rfl) (Nat.le_of_ble_eq_true rfl) rfl rfl (Nat.le_of_ble_eq_true rfl) (Nat.le_of_ble_eq_true rfl) (fun c => arrV_new c 40 (.int 0)) dX2_init_22 (fun q r cA H hri hrn hK hP hD hS => ?_)
  rw [← vr_rows (fun a _ h9 => absurd h9 List.not_mem_nil)] at hP hD
  have hP : va_P D vwCl [(h0, .inr (2, [.int 6, .int 40, .null, .null, .int 0])), (q, .inl (cA, 6, .inr (.inr (.inr (.inr (fun i => if i < 6 then some (r i) else none)))))), (r 0, .inl (cI, 40, .inl (fun _ => 0))), (r 1, .inl (cI, 40, .inl (fun _ => 0))), (r 2, .inl (cI, 40, .inl (fun _ => 0))), (r 3, .inl (cI, 40, .inl (fun _ => 0))), (r 4, .inl (cI, 40, .inl (fun _ => 0))), (r 5, .inl (cI, 40, .inl (fun _ => 0)))] H := hP
  have hD : va_D A [(h0, .inr (2, [.int 6, .int 40, .null, .null, .int 0])), (q, .inl (cA, 6, .inr (.inr (.inr (.inr (fun i => if i < 6 then some (r i) else none)))))), (r 0, .inl (cI, 40, .inl (fun _ => 0))), (r 1, .inl (cI, 40, .inl (fun _ => 0))), (r 2, .inl (cI, 40, .inl (fun _ => 0))), (r 3, .inl (cI, 40, .inl (fun _ => 0))), (r 4, .inl (cI, 40, .inl (fun _ => 0))), (r 5, .inl (cI, 40, .inl (fun _ => 0)))] := hD
  refine W.widen (k := 7) (n := 246) (Nat.le_of_ble_eq_true rfl) (Nat.le_of_ble_eq_true rfl) ?_
  refine va_putF (D := D) (ci := 2) (v := .ref q) (ty := .array (.array .int)) (C := RX2) (T := TX2) (N := 5) hx hb hts (fun _ h => List.mem_cons_of_mem _ (List.mem_append_right _ h)) tyX2 tyX2_ok nmX2 hown hK hP hD hS 0 rfl rfl 2 (by decide) (hts (.fieldLink RX2 21 (TX2 2).1 (TX2 2).2.1 (TX2 2).2.2.1) (List.mem_of_getElem? (i := 9) rfl)) (fun _ h9 => h9) rfl hin rfl (by decide +kernel) rfl rfl (Nat.le_of_ble_eq_true rfl) dX2_init_26 (fun H locs hP hD hS => ?_)
  have hP : va_P D vwCl [(h0, .inr (2, [.int 6, .int 40, .ref q, .null, .int 0])), (q, .inl (cA, 6, .inr (.inr (.inr (.inr (fun i => if i < 6 then some (r i) else none)))))), (r 0, .inl (cI, 40, .inl (fun _ => 0))), (r 1, .inl (cI, 40, .inl (fun _ => 0))), (r 2, .inl (cI, 40, .inl (fun _ => 0))), (r 3, .inl (cI, 40, .inl (fun _ => 0))), (r 4, .inl (cI, 40, .inl (fun _ => 0))), (r 5, .inl (cI, 40, .inl (fun _ => 0)))] H := hP
  have hD : va_D A [(h0, .inr (2, [.int 6, .int 40, .ref q, .null, .int 0])), (q, .inl (cA, 6, .inr (.inr (.inr (.inr (fun i => if i < 6 then some (r i) else none)))))), (r 0, .inl (cI, 40, .inl (fun _ => 0))), (r 1, .inl (cI, 40, .inl (fun _ => 0))), (r 2, .inl (cI, 40, .inl (fun _ => 0))), (r 3, .inl (cI, 40, .inl (fun _ => 0))), (r 4, .inl (cI, 40, .inl (fun _ => 0))), (r 5, .inl (cI, 40, .inl (fun _ => 0)))] := hD
  refine lv_aload_n hx hb dX2_init_29 rfl (lv_at hl 0 rfl) ?_
  refine lv_iload_n hx hb dX2_init_30 rfl (lv_at hl 1 rfl) ?_
  refine n_newI (N' := 6) hx hb (hts (.arrayClass .int) (List.mem_of_getElem? (i := 8) rfl)) hK 0 rfl hP hD hS hA (by decide) (by decide) (Nat.le_of_ble_eq_true rfl) (Nat.le_of_ble_eq_true rfl) (Nat.le_of_ble_eq_true rfl) dX2_init_31 (fun z H hP hD hS => ?_)
  have hP : va_P D vwCl [(h0, .inr (2, [.int 6, .int 40, .ref q, .null, .int 0])), (q, .inl (cA, 6, .inr (.inr (.inr (.inr (fun i => if i < 6 then some (r i) else none)))))), (r 0, .inl (cI, 40, .inl (fun _ => 0))), (r 1, .inl (cI, 40, .inl (fun _ => 0))), (r 2, .inl (cI, 40, .inl (fun _ => 0))), (r 3, .inl (cI, 40, .inl (fun _ => 0))), (r 4, .inl (cI, 40, .inl (fun _ => 0))), (r 5, .inl (cI, 40, .inl (fun _ => 0))), (z, .inl (cI, 6, .inl (fun _ => 0)))] H := hP
  have hD : va_D A [(h0, .inr (2, [.int 6, .int 40, .ref q, .null, .int 0])), (q, .inl (cA, 6, .inr (.inr (.inr (.inr (fun i => if i < 6 then some (r i) else none)))))), (r 0, .inl (cI, 40, .inl (fun _ => 0))), (r 1, .inl (cI, 40, .inl (fun _ => 0))), (r 2, .inl (cI, 40, .inl (fun _ => 0))), (r 3, .inl (cI, 40, .inl (fun _ => 0))), (r 4, .inl (cI, 40, .inl (fun _ => 0))), (r 5, .inl (cI, 40, .inl (fun _ => 0))), (z, .inl (cI, 6, .inl (fun _ => 0)))] := hD
  refine W.widen (k := 8) (n := 252) (Nat.le_of_ble_eq_true rfl) (Nat.le_of_ble_eq_true rfl) ?_
  refine va_putF (D := D) (ci := 2) (v := .ref z) (ty := .array .int) (C := RX2) (T := TX2) (N := 5) hx hb hts (fun _ h => List.mem_cons_of_mem _ (List.mem_append_right _ h)) tyX2 tyX2_ok nmX2 hown hK hP hD hS 0 rfl rfl 3 (by decide) (hts (.fieldLink RX2 24 (TX2 3).1 (TX2 3).2.1 (TX2 3).2.2.1) (List.mem_of_getElem? (i := 10) rfl)) (fun _ h9 => h9) rfl hin rfl (by decide +kernel) rfl rfl (Nat.le_of_ble_eq_true rfl) dX2_init_33 (fun H locs hP hD hS => ?_)
  have hP : va_P D vwCl [(h0, .inr (2, [.int 6, .int 40, .ref q, .ref z, .int 0])), (q, .inl (cA, 6, .inr (.inr (.inr (.inr (fun i => if i < 6 then some (r i) else none)))))), (r 0, .inl (cI, 40, .inl (fun _ => 0))), (r 1, .inl (cI, 40, .inl (fun _ => 0))), (r 2, .inl (cI, 40, .inl (fun _ => 0))), (r 3, .inl (cI, 40, .inl (fun _ => 0))), (r 4, .inl (cI, 40, .inl (fun _ => 0))), (r 5, .inl (cI, 40, .inl (fun _ => 0))), (z, .inl (cI, 6, .inl (fun _ => 0)))] H := hP
  have hD : va_D A [(h0, .inr (2, [.int 6, .int 40, .ref q, .ref z, .int 0])), (q, .inl (cA, 6, .inr (.inr (.inr (.inr (fun i => if i < 6 then some (r i) else none)))))), (r 0, .inl (cI, 40, .inl (fun _ => 0))), (r 1, .inl (cI, 40, .inl (fun _ => 0))), (r 2, .inl (cI, 40, .inl (fun _ => 0))), (r 3, .inl (cI, 40, .inl (fun _ => 0))), (r 4, .inl (cI, 40, .inl (fun _ => 0))), (r 5, .inl (cI, 40, .inl (fun _ => 0))), (z, .inl (cI, 6, .inl (fun _ => 0)))] := hD
  refine lv_aload_n hx hb dX2_init_36 rfl (lv_at hl 0 rfl) ?_
  refine va_get (D := D) (C := RX2) (T := TX2) (N := 5) hx hb hts (fun _ h => List.mem_cons_of_mem _ (List.mem_append_right _ h)) hown hK hP 0 rfl rfl 3 (by decide) (hts (.fieldLink RX2 24 (TX2 3).1 (TX2 3).2.1 (TX2 3).2.2.1) (List.mem_of_getElem? (i := 10) rfl)) (fun _ h9 => h9) rfl dX2_init_37 ?_
  refine lv_iconst (v := -1) hx hb dX2_init_40 (by decide) ?_
  have hPc : va_P D vwCl [(z, .inl (cI, 6, .inl (fun _ => 0)))] H := hP.sub (ws' := [(z, .inl (cI, 6, .inl (fun _ => 0)))]) [8] rfl
  have hKc : va_K D vwCl [(cI, .int)] s := hK.sub (tys' := [(cI, .int)]) [0] rfl
  have hFc := va_free (wc := [(z, .inl (cI, 6, .inl (fun _ => 0)))]) hD hS hA [8] rfl
  have hgA : ∀ q9 : Nat, gA 1 (fun _ => z) q9 → va_A [(z, .inl (cI, 6, .inl (fun _ => 0)))] H.size q9 := fun q9 ⟨_, _, h9⟩ => Or.inl ⟨0, .inl (cI, 6, .inl (fun _ => 0)), by rw [← h9]; rfl⟩
  refine va_callv (va_runS (As := [.ref z, .int (-1)]) (rest := []) ⟨hx, hb, hml, hown, hts⟩ (k_fill1 l D cI z (fun _ _ => 0) (fun _ => 0) (n1 := 6) (-1) _ (fill_eq (fun _ _ => 0) 0 (by decide) (-1))) (va_cwS 2 hts gX2_init_J7_fill_53178 rfl rfl rfl cd_J7_fill_53178.2 ⟨Nat.le_of_ble_eq_true rfl, Nat.le_of_ble_eq_true rfl⟩) ⟨fun a U g mk q9 => by obtain ⟨q0, qG, qK, qZ⟩ := q9; exact ⟨q0, qG, va_K.moved (u := U) (U := U.calling g mk a) (Vm.Alike.refl U.vm) qK, trivial⟩, fun U hU hW => ⟨rfl, by rw [hU]; exact hPc, va_K.moved hW.alike hKc, trivial⟩⟩ rfl rfl hl.1 rfl (lv_room (Nat.le_of_ble_eq_true rfl)) dX2_init_41 ⟨Nat.le_of_ble_eq_true rfl, Nat.le_of_ble_eq_true rfl⟩) hS (fun q9 _ h => hFc q9 (hgA q9 h)) (fun q9 h => hFc q9 (hgA q9 h)) (fun u t H1 locs ht hvm hw hB hz1 hk1 hS => ?_)
  obtain ⟨hG1, hK1, -⟩ := hB
  rw [ht] at hG1
  have hP1 : va_P D vwCl [(z, .inl (cI, 6, .inl (rgM (fun _ _ => 0) 0 0 6 (-1) 0)))] H1 := hG1
  have hD1 : va_D (va_A [(z, .inl (cI, 6, .inl (fun _ => 0)))] H.size) [(z, .inl (cI, 6, .inl (rgM (fun _ _ => 0) 0 0 6 (-1) 0)))] := D_one _ _ _ _
  obtain ⟨hP, hD⟩ := va_join (wr := [(h0, .inr (2, [.int 6, .int 40, .ref q, .ref z, .int 0])), (q, .inl (cA, 6, .inr (.inr (.inr (.inr (fun i => if i < 6 then some (r i) else none)))))), (r 0, .inl (cI, 40, .inl (fun _ => 0))), (r 1, .inl (cI, 40, .inl (fun _ => 0))), (r 2, .inl (cI, 40, .inl (fun _ => 0))), (r 3, .inl (cI, 40, .inl (fun _ => 0))), (r 4, .inl (cI, 40, .inl (fun _ => 0))), (r 5, .inl (cI, 40, .inl (fun _ => 0)))]) (w1 := [(z, .inl (cI, 6, .inl (rgM (fun _ _ => 0) 0 0 6 (-1) 0)))]) hP hD [8] [0, 1, 2, 3, 4, 5, 6, 7] rfl rfl (by decide) (by decide) (fun q9 h1 h2 => hk1 q9 h1 (fun h3 => h2 (hgA q9 h3))) hFc hP1 hD1
  exact W.vret hx hb hr (fun t ht hW => ⟨⟨(q, r, z, cA), rfl, trivial, by rw [ht]; exact hP, hD, va_K.moved hW.alike hK⟩, hS.F ht⟩) hS.2.2 dX2_init_44
abbrev at_X2_4 (D : va_G) (cI : ClassId) (A : Nat → Prop) (h0 : Nat) (u : Nat × (Nat → Nat) × Nat × ClassId) (t : State) : Prop := match u with
  | (q, r, z, cA) => va_P D vwCl [(h0, .inr (2, [.int 4, .int 60, .ref q, .ref z, .int 32])), (q, .inl (cA, 4, .inr (.inr (.inr (.inr (fun i => if i < 4 then some (r i) else none)))))), (r 0, .inl (cI, 60, .inl (fun _ => 0))), (r 1, .inl (cI, 60, .inl (fun _ => 0))), (r 2, .inl (cI, 60, .inl (fun _ => 0))), (r 3, .inl (cI, 60, .inl (fun _ => 0))), (z, .inl (cI, 4, .inl (rgM (fun _ _ => 0) 0 0 4 (-1) 0)))] t.heap ∧ va_D A [(h0, .inr (2, [.int 4, .int 60, .ref q, .ref z, .int 32])), (q, .inl (cA, 4, .inr (.inr (.inr (.inr (fun i => if i < 4 then some (r i) else none)))))), (r 0, .inl (cI, 60, .inl (fun _ => 0))), (r 1, .inl (cI, 60, .inl (fun _ => 0))), (r 2, .inl (cI, 60, .inl (fun _ => 0))), (r 3, .inl (cI, 60, .inl (fun _ => 0))), (z, .inl (cI, 4, .inl (rgM (fun _ _ => 0) 0 0 4 (-1) 0)))] ∧ va_K D vwCl [(cI, .int), (cA, .array .int)] t
set_option maxHeartbeats 4000000 in
set_option maxRecDepth 100000 in
theorem c_X2_4_init (l : Launch) (D : va_G) (cI : ClassId) (h0 sz : Nat) : Met l yX2_init wsX2_init ({ frames := 2, cells := 6, slots := 248, locals := 60 }) (va_Pc [.ref h0, .int 4, .int 60, .int 32] (nB D cI [(h0, .inr (2, [.int 0, .int 0, .null, .null, .int 0]))] sz)) (va_Qv (fun _ : Nat × (Nat → Nat) × Nat × ClassId => True) (at_X2_4 D cI (va_A [(h0, .inr (2, [.int 0, .int 0, .null, .null, .int 0]))] sz) h0) (va_A [(h0, .inr (2, [.int 0, .int 0, .null, .null, .int 0]))] sz)) 6 248 (va_A [(h0, .inr (2, [.int 0, .int 0, .null, .null, .int 0]))] sz) := by
  refine Met.ofW (cc := cX2_init) (maxL := 4) (ret := none) (by decide) rfl ?_
  intro p e s m args below meth c s₁ B hml hv
  obtain ⟨rfl, hsz, hP, hK, hD0, hO⟩ := hv
  have hx := B.exec
  have hb := B.bytes
  have hr := B.returns
  have hts := atoms_spec (ws := wsX2_init) B.pre
  have hown : s.vm.findClass RX2 = some m.cls := findClass_of_methodNamed B.named
  have hlocks := B.notSynchronized
  have hin : meth.name = "<init>" := (name_of_methodNamed B.named B.method).1
  subst hsz
  have hD := hD0.self (sz := s.heap.size)
  generalize hAe : va_A [(h0, .inr (2, [.int 0, .int 0, .null, .null, .int 0]))] s.heap.size = A at hD ⊢
  have hA : ∀ q : Nat, s.heap.size ≤ q → A q := fun q h => by rw [← hAe]; exact Or.inr h
  have hS : va_S A s.heap s.heap [] := va_S.rf
  have hl := lv_entry ([.ref h0, .int 4, .int 60, .int 32]) (n := 4) (Nat.le_of_ble_eq_true rfl)
  rw [lg_entry_eq]
  generalize (lg_sl ([.ref h0, .int 4, .int 60, .int 32]) ++ List.replicate (4 - (lg_sl ([.ref h0, .int 4, .int 60, .int 32])).length) Slot.unset).toArray = ls at hl ⊢
  have hl : lv_has ls 4 [(0, .ref h0), (1, .int 4), (2, .int 60), (3, .int 32)] := hl
  refine lv_aload_n hx hb dX2_init_0 rfl (lv_at hl 0 rfl) ?_
  refine W.objInit hx hb hown (hts (.methodLink RX2 1 objectInit) (List.mem_of_getElem? (i := 1) rfl)) (hts (.instanceMethod objectInit) (List.mem_of_getElem? (i := 2) rfl)) (hts _ (List.mem_of_getElem? (i := 3) rfl)) rfl (by rw [hml]; exact hl.1) rfl dX2_init_1 (Nat.le_of_ble_eq_true rfl) (Nat.le_of_ble_eq_true rfl) ?_
  refine W.eq (g2 := F0 m 4 ls []) rfl ?_
  refine lv_aload_n hx hb dX2_init_4 rfl (lv_at hl 0 rfl) ?_
  refine lv_iload_n hx hb dX2_init_5 rfl (lv_at hl 1 rfl) ?_
  refine va_putF (D := D) (ci := 2) (v := .int 4) (ty := .int) (C := RX2) (T := TX2) (N := 5) hx hb hts (fun _ h => List.mem_cons_of_mem _ (List.mem_append_right _ h)) tyX2 tyX2_ok nmX2 hown hK hP hD hS 0 rfl rfl 0 (by decide) (hts (.fieldLink RX2 7 (TX2 0).1 (TX2 0).2.1 (TX2 0).2.2.1) (List.mem_of_getElem? (i := 4) rfl)) (fun _ h9 => h9) rfl hin rfl (by decide +kernel) rfl rfl (Nat.le_of_ble_eq_true rfl) dX2_init_6 (fun H locs hP hD hS => ?_)
  have hP : va_P D vwCl [(h0, .inr (2, [.int 4, .int 0, .null, .null, .int 0]))] H := hP
  have hD : va_D A [(h0, .inr (2, [.int 4, .int 0, .null, .null, .int 0]))] := hD
  refine lv_aload_n hx hb dX2_init_9 rfl (lv_at hl 0 rfl) ?_
  refine lv_iload_n hx hb dX2_init_10 rfl (lv_at hl 2 rfl) ?_
  refine va_putF (D := D) (ci := 2) (v := .int 60) (ty := .int) (C := RX2) (T := TX2) (N := 5) hx hb hts (fun _ h => List.mem_cons_of_mem _ (List.mem_append_right _ h)) tyX2 tyX2_ok nmX2 hown hK hP hD hS 0 rfl rfl 1 (by decide) (hts (.fieldLink RX2 13 (TX2 1).1 (TX2 1).2.1 (TX2 1).2.2.1) (List.mem_of_getElem? (i := 5) rfl)) (fun _ h9 => h9) rfl hin rfl (by decide +kernel) rfl rfl (Nat.le_of_ble_eq_true rfl) dX2_init_11 (fun H locs hP hD hS => ?_)
  have hP : va_P D vwCl [(h0, .inr (2, [.int 4, .int 60, .null, .null, .int 0]))] H := hP
  have hD : va_D A [(h0, .inr (2, [.int 4, .int 60, .null, .null, .int 0]))] := hD
  refine lv_aload_n hx hb dX2_init_14 rfl (lv_at hl 0 rfl) ?_
  refine lv_iload_n hx hb dX2_init_15 rfl (lv_at hl 3 rfl) ?_
  refine va_putF (D := D) (ci := 2) (v := .int 32) (ty := .int) (C := RX2) (T := TX2) (N := 5) hx hb hts (fun _ h => List.mem_cons_of_mem _ (List.mem_append_right _ h)) tyX2 tyX2_ok nmX2 hown hK hP hD hS 0 rfl rfl 4 (by decide) (hts (.fieldLink RX2 16 (TX2 4).1 (TX2 4).2.1 (TX2 4).2.2.1) (List.mem_of_getElem? (i := 6) rfl)) (fun _ h9 => h9) rfl hin rfl (by decide +kernel) rfl rfl (Nat.le_of_ble_eq_true rfl) dX2_init_16 (fun H locs hP hD hS => ?_)
  have hP : va_P D vwCl [(h0, .inr (2, [.int 4, .int 60, .null, .null, .int 32]))] H := hP
  have hD : va_D A [(h0, .inr (2, [.int 4, .int 60, .null, .null, .int 32]))] := hD
  refine lv_aload_n hx hb dX2_init_19 rfl (lv_at hl 0 rfl) ?_
  refine lv_iload_n hx hb dX2_init_20 rfl (lv_at hl 1 rfl) ?_
  refine lv_iload_n hx hb dX2_init_21 rfl (lv_at hl 2 rfl) ?_
  have hPm : va_P D vwCl ([(h0, .inr (2, [.int 4, .int 60, .null, .null, .int 32]))] ++ va_pl [] (fun _ => .inl (cI, 0, .inl (fun _ => 0)))) H := hP
  have hDm : va_D A ([(h0, .inr (2, [.int 4, .int 60, .null, .null, .int 32]))] ++ va_pl [] (fun _ => .inl (cI, 0, .inl (fun _ => 0)))) := hD
  refine va_mna (ty := .int) (cy := cI) (N' := 4) (K' := 60) (z := (60, .inl (fun _ => 0))) hx hb hown (hts (.classLink RX2 19 "[[I") (List.mem_of_getElem? (i := 7) rfl)) hO (hts (.arrayClass .int) (List.mem_of_getElem? (i := 8) rfl)) (hK.2 0 _ rfl).2 hK hPm hDm hS hA (by decide) (by decide) (by decide) (by decide) (Nat.le_of_ble_eq_true rfl) (Nat.le_of_ble_eq_true rfl) (Nat.le_of_ble_eq_true rfl) rfl rfl (Nat.le_of_ble_eq_true rfl) (Nat.le_of_ble_eq_true rfl) (fun c => arrV_new c 60 (.int 0)) dX2_init_22 (fun q r cA H hri hrn hK hP hD hS => ?_)
  rw [← vr_rows (fun a _ h9 => absurd h9 List.not_mem_nil)] at hP hD
  have hP : va_P D vwCl [(h0, .inr (2, [.int 4, .int 60, .null, .null, .int 32])), (q, .inl (cA, 4, .inr (.inr (.inr (.inr (fun i => if i < 4 then some (r i) else none)))))), (r 0, .inl (cI, 60, .inl (fun _ => 0))), (r 1, .inl (cI, 60, .inl (fun _ => 0))), (r 2, .inl (cI, 60, .inl (fun _ => 0))), (r 3, .inl (cI, 60, .inl (fun _ => 0)))] H := hP
  have hD : va_D A [(h0, .inr (2, [.int 4, .int 60, .null, .null, .int 32])), (q, .inl (cA, 4, .inr (.inr (.inr (.inr (fun i => if i < 4 then some (r i) else none)))))), (r 0, .inl (cI, 60, .inl (fun _ => 0))), (r 1, .inl (cI, 60, .inl (fun _ => 0))), (r 2, .inl (cI, 60, .inl (fun _ => 0))), (r 3, .inl (cI, 60, .inl (fun _ => 0)))] := hD
  refine W.widen (k := 5) (n := 244) (Nat.le_of_ble_eq_true rfl) (Nat.le_of_ble_eq_true rfl) ?_
  refine va_putF (D := D) (ci := 2) (v := .ref q) (ty := .array (.array .int)) (C := RX2) (T := TX2) (N := 5) hx hb hts (fun _ h => List.mem_cons_of_mem _ (List.mem_append_right _ h)) tyX2 tyX2_ok nmX2 hown hK hP hD hS 0 rfl rfl 2 (by decide) (hts (.fieldLink RX2 21 (TX2 2).1 (TX2 2).2.1 (TX2 2).2.2.1) (List.mem_of_getElem? (i := 9) rfl)) (fun _ h9 => h9) rfl hin rfl (by decide +kernel) rfl rfl (Nat.le_of_ble_eq_true rfl) dX2_init_26 (fun H locs hP hD hS => ?_)
  have hP : va_P D vwCl [(h0, .inr (2, [.int 4, .int 60, .ref q, .null, .int 32])), (q, .inl (cA, 4, .inr (.inr (.inr (.inr (fun i => if i < 4 then some (r i) else none)))))), (r 0, .inl (cI, 60, .inl (fun _ => 0))), (r 1, .inl (cI, 60, .inl (fun _ => 0))), (r 2, .inl (cI, 60, .inl (fun _ => 0))), (r 3, .inl (cI, 60, .inl (fun _ => 0)))] H := hP
  have hD : va_D A [(h0, .inr (2, [.int 4, .int 60, .ref q, .null, .int 32])), (q, .inl (cA, 4, .inr (.inr (.inr (.inr (fun i => if i < 4 then some (r i) else none)))))), (r 0, .inl (cI, 60, .inl (fun _ => 0))), (r 1, .inl (cI, 60, .inl (fun _ => 0))), (r 2, .inl (cI, 60, .inl (fun _ => 0))), (r 3, .inl (cI, 60, .inl (fun _ => 0)))] := hD
  refine lv_aload_n hx hb dX2_init_29 rfl (lv_at hl 0 rfl) ?_
  refine lv_iload_n hx hb dX2_init_30 rfl (lv_at hl 1 rfl) ?_
  refine n_newI (N' := 4) hx hb (hts (.arrayClass .int) (List.mem_of_getElem? (i := 8) rfl)) hK 0 rfl hP hD hS hA (by decide) (by decide) (Nat.le_of_ble_eq_true rfl) (Nat.le_of_ble_eq_true rfl) (Nat.le_of_ble_eq_true rfl) dX2_init_31 (fun z H hP hD hS => ?_)
  have hP : va_P D vwCl [(h0, .inr (2, [.int 4, .int 60, .ref q, .null, .int 32])), (q, .inl (cA, 4, .inr (.inr (.inr (.inr (fun i => if i < 4 then some (r i) else none)))))), (r 0, .inl (cI, 60, .inl (fun _ => 0))), (r 1, .inl (cI, 60, .inl (fun _ => 0))), (r 2, .inl (cI, 60, .inl (fun _ => 0))), (r 3, .inl (cI, 60, .inl (fun _ => 0))), (z, .inl (cI, 4, .inl (fun _ => 0)))] H := hP
  have hD : va_D A [(h0, .inr (2, [.int 4, .int 60, .ref q, .null, .int 32])), (q, .inl (cA, 4, .inr (.inr (.inr (.inr (fun i => if i < 4 then some (r i) else none)))))), (r 0, .inl (cI, 60, .inl (fun _ => 0))), (r 1, .inl (cI, 60, .inl (fun _ => 0))), (r 2, .inl (cI, 60, .inl (fun _ => 0))), (r 3, .inl (cI, 60, .inl (fun _ => 0))), (z, .inl (cI, 4, .inl (fun _ => 0)))] := hD
  refine W.widen (k := 6) (n := 248) (Nat.le_of_ble_eq_true rfl) (Nat.le_of_ble_eq_true rfl) ?_
  refine va_putF (D := D) (ci := 2) (v := .ref z) (ty := .array .int) (C := RX2) (T := TX2) (N := 5) hx hb hts (fun _ h => List.mem_cons_of_mem _ (List.mem_append_right _ h)) tyX2 tyX2_ok nmX2 hown hK hP hD hS 0 rfl rfl 3 (by decide) (hts (.fieldLink RX2 24 (TX2 3).1 (TX2 3).2.1 (TX2 3).2.2.1) (List.mem_of_getElem? (i := 10) rfl)) (fun _ h9 => h9) rfl hin rfl (by decide +kernel) rfl rfl (Nat.le_of_ble_eq_true rfl) dX2_init_33 (fun H locs hP hD hS => ?_)
  have hP : va_P D vwCl [(h0, .inr (2, [.int 4, .int 60, .ref q, .ref z, .int 32])), (q, .inl (cA, 4, .inr (.inr (.inr (.inr (fun i => if i < 4 then some (r i) else none)))))), (r 0, .inl (cI, 60, .inl (fun _ => 0))), (r 1, .inl (cI, 60, .inl (fun _ => 0))), (r 2, .inl (cI, 60, .inl (fun _ => 0))), (r 3, .inl (cI, 60, .inl (fun _ => 0))), (z, .inl (cI, 4, .inl (fun _ => 0)))] H := hP
  have hD : va_D A [(h0, .inr (2, [.int 4, .int 60, .ref q, .ref z, .int 32])), (q, .inl (cA, 4, .inr (.inr (.inr (.inr (fun i => if i < 4 then some (r i) else none)))))), (r 0, .inl (cI, 60, .inl (fun _ => 0))), (r 1, .inl (cI, 60, .inl (fun _ => 0))), (r 2, .inl (cI, 60, .inl (fun _ => 0))), (r 3, .inl (cI, 60, .inl (fun _ => 0))), (z, .inl (cI, 4, .inl (fun _ => 0)))] := hD
  refine lv_aload_n hx hb dX2_init_36 rfl (lv_at hl 0 rfl) ?_
  refine va_get (D := D) (C := RX2) (T := TX2) (N := 5) hx hb hts (fun _ h => List.mem_cons_of_mem _ (List.mem_append_right _ h)) hown hK hP 0 rfl rfl 3 (by decide) (hts (.fieldLink RX2 24 (TX2 3).1 (TX2 3).2.1 (TX2 3).2.2.1) (List.mem_of_getElem? (i := 10) rfl)) (fun _ h9 => h9) rfl dX2_init_37 ?_
  refine lv_iconst (v := -1) hx hb dX2_init_40 (by decide) ?_
  have hPc : va_P D vwCl [(z, .inl (cI, 4, .inl (fun _ => 0)))] H := hP.sub (ws' := [(z, .inl (cI, 4, .inl (fun _ => 0)))]) [6] rfl
  have hKc : va_K D vwCl [(cI, .int)] s := hK.sub (tys' := [(cI, .int)]) [0] rfl
  have hFc := va_free (wc := [(z, .inl (cI, 4, .inl (fun _ => 0)))]) hD hS hA [6] rfl
  have hgA : ∀ q9 : Nat, gA 1 (fun _ => z) q9 → va_A [(z, .inl (cI, 4, .inl (fun _ => 0)))] H.size q9 := fun q9 ⟨_, _, h9⟩ => Or.inl ⟨0, .inl (cI, 4, .inl (fun _ => 0)), by rw [← h9]; rfl⟩
  refine va_callv (va_runS (As := [.ref z, .int (-1)]) (rest := []) ⟨hx, hb, hml, hown, hts⟩ (k_fill1 l D cI z (fun _ _ => 0) (fun _ => 0) (n1 := 4) (-1) _ (fill_eq (fun _ _ => 0) 0 (by decide) (-1))) (va_cwS 2 hts gX2_init_J7_fill_53178 rfl rfl rfl cd_J7_fill_53178.2 ⟨Nat.le_of_ble_eq_true rfl, Nat.le_of_ble_eq_true rfl⟩) ⟨fun a U g mk q9 => by obtain ⟨q0, qG, qK, qZ⟩ := q9; exact ⟨q0, qG, va_K.moved (u := U) (U := U.calling g mk a) (Vm.Alike.refl U.vm) qK, trivial⟩, fun U hU hW => ⟨rfl, by rw [hU]; exact hPc, va_K.moved hW.alike hKc, trivial⟩⟩ rfl rfl hl.1 rfl (lv_room (Nat.le_of_ble_eq_true rfl)) dX2_init_41 ⟨Nat.le_of_ble_eq_true rfl, Nat.le_of_ble_eq_true rfl⟩) hS (fun q9 _ h => hFc q9 (hgA q9 h)) (fun q9 h => hFc q9 (hgA q9 h)) (fun u t H1 locs ht hvm hw hB hz1 hk1 hS => ?_)
  obtain ⟨hG1, hK1, -⟩ := hB
  rw [ht] at hG1
  have hP1 : va_P D vwCl [(z, .inl (cI, 4, .inl (rgM (fun _ _ => 0) 0 0 4 (-1) 0)))] H1 := hG1
  have hD1 : va_D (va_A [(z, .inl (cI, 4, .inl (fun _ => 0)))] H.size) [(z, .inl (cI, 4, .inl (rgM (fun _ _ => 0) 0 0 4 (-1) 0)))] := D_one _ _ _ _
  obtain ⟨hP, hD⟩ := va_join (wr := [(h0, .inr (2, [.int 4, .int 60, .ref q, .ref z, .int 32])), (q, .inl (cA, 4, .inr (.inr (.inr (.inr (fun i => if i < 4 then some (r i) else none)))))), (r 0, .inl (cI, 60, .inl (fun _ => 0))), (r 1, .inl (cI, 60, .inl (fun _ => 0))), (r 2, .inl (cI, 60, .inl (fun _ => 0))), (r 3, .inl (cI, 60, .inl (fun _ => 0)))]) (w1 := [(z, .inl (cI, 4, .inl (rgM (fun _ _ => 0) 0 0 4 (-1) 0)))]) hP hD [6] [0, 1, 2, 3, 4, 5] rfl rfl (by decide) (by decide) (fun q9 h1 h2 => hk1 q9 h1 (fun h3 => h2 (hgA q9 h3))) hFc hP1 hD1
  exact W.vret hx hb hr (fun t ht hW => ⟨⟨(q, r, z, cA), rfl, trivial, by rw [ht]; exact hP, hD, va_K.moved hW.alike hK⟩, hS.F ht⟩) hS.2.2 dX2_init_44
