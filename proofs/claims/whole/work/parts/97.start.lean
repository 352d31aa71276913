/-! THE LAW: its entry -/
theorem law_K0 {s : State} {args : Array Value} (hts : ∀ w ∈ lw_tbl, w.before args s = true) : ∃ D : va_G, va_K D vwCl [] s := by
  obtain ⟨c0, i0, h0⟩ := u_known (C := RX0) (T := TX0) (N := 5) (n := 5) hts inX0 (hts (.instantiable RX0 5) (by decide +kernel))
  obtain ⟨c1, i1, h1⟩ := u_known (C := RX1) (T := TX1) (N := 9) (n := 9) hts inX1 (hts (.instantiable RX1 9) (by decide +kernel))
  obtain ⟨c2, i2, h2⟩ := u_known (C := RX2) (T := TX2) (N := 5) (n := 5) hts inX2 (hts (.instantiable RX2 5) (by decide +kernel))
  obtain ⟨c3, i3, h3⟩ := u_known (C := RX3) (T := TX3) (N := 8) (n := 8) hts inX3 (hts (.instantiable RX3 8) (by decide +kernel))
  obtain ⟨c4, i4, h4⟩ := u_known (C := RX4) (T := TX4) (N := 13) (n := 13) hts inX4 (hts (.instantiable RX4 13) (by decide +kernel))
  obtain ⟨c5, i5, h5⟩ := u_known (C := RX5) (T := TX5) (N := 32) (n := 32) hts inX5 (hts (.instantiable RX5 32) (by decide +kernel))
  refine ⟨(fun k => if k = 0 then c0 else if k = 1 then c1 else if k = 2 then c2 else if k = 3 then c3 else if k = 4 then c4 else c5, fun k => if k = 0 then i0 else if k = 1 then i1 else if k = 2 then i2 else if k = 3 then i3 else if k = 4 then i4 else i5), ⟨?_, fun k q h => by simp at h⟩⟩
  intro k q hq
  match k, hq with
  | 0, hq => cases hq; exact h0
  | 1, hq => cases hq; exact h1
  | 2, hq => cases hq; exact h2
  | 3, hq => cases hq; exact h3
  | 4, hq => cases hq; exact h4
  | 5, hq => cases hq; exact h5
  | k + 6, hq => simp [vwCl] at hq
theorem law_Z {s : State} {b : Nat} {ad : Nat → Nat} (hts : ∀ w ∈ lw_tbl, w.before #[Value.ref b] s = true) (hgv : (Jvm.Cond.and given_1 narrow_1).before #[Value.ref b] s = true) (hA : ∀ a : Nat, a < s.heap.size → ¬ gA 62 ad a) : ∃ tI : Nat, cZ ad tI s s.heap := by
  have hs := flat_of_before _ hgv
  have n1 : va_Nw (.methodLinkNest "PairStairs$Plan" 76 yX4_counted "PairStairs") s := va_Nw.of rfl (hts (.methodLinkNest "PairStairs$Plan" 76 yX4_counted "PairStairs") (by decide +kernel))
  have n2 : va_Nw (.methodLinkNest "PairStairs$Plan" 84 yX4_sunk "PairStairs") s := va_Nw.of rfl (hts (.methodLinkNest "PairStairs$Plan" 84 yX4_sunk "PairStairs") (by decide +kernel))
  have n3 : va_Nw (.fieldLinkNest "PairStairs$Plan" 73 "PairStairs" "IS" "[I" "PairStairs") s := va_Nw.of rfl (hts (.fieldLinkNest "PairStairs$Plan" 73 "PairStairs" "IS" "[I" "PairStairs") (by decide +kernel))
  obtain ⟨tI, e1, T1⟩ := va_Tof (tm := .static "PairStairs" "IS" "[I") (ty := .int) (N := 6) (f := fun j => .int (isT j)) (A := gA 62 ad) (by decide) (hs (.arrayOf (.static "PairStairs" "IS" "[I") .int) (by decide +kernel)) (va_eqt (hs (.eq (.length (.static "PairStairs" "IS" "[I")) (.int 6)) (by decide +kernel))) (fun j hj => by
    match j, hj with
    | 0, _ => exact va_eqt (hs (.eq (.elem (.static "PairStairs" "IS" "[I") (.int 0)) (.int 1)) (by decide +kernel))
    | 1, _ => exact va_eqt (hs (.eq (.elem (.static "PairStairs" "IS" "[I") (.int 1)) (.int 3)) (by decide +kernel))
    | 2, _ => exact va_eqt (hs (.eq (.elem (.static "PairStairs" "IS" "[I") (.int 2)) (.int 5)) (by decide +kernel))
    | 3, _ => exact va_eqt (hs (.eq (.elem (.static "PairStairs" "IS" "[I") (.int 3)) (.int 9)) (by decide +kernel))
    | 4, _ => exact va_eqt (hs (.eq (.elem (.static "PairStairs" "IS" "[I") (.int 4)) (.int 25)) (by decide +kernel))
    | 5, _ => exact va_eqt (hs (.eq (.elem (.static "PairStairs" "IS" "[I") (.int 5)) (.int 37)) (by decide +kernel))
    | j + 6, hj => exact absurd hj (by omega)) hA
  exact ⟨tI, n1, n2, n3, va_Zref (hts (.laysStatic "PairStairs" "IS" "[I") (by decide +kernel)) (hts (.initialized "PairStairs") (by decide +kernel)) e1 hA, T1⟩
theorem P_app_l {D : va_G} {cl : List vw_C} {w1 w2 : va_W} {H : Heap} (h : va_P D cl (w1 ++ w2) H) : va_P D cl w1 H := fun k x hk => h k x (by rw [List.getElem?_append_left (List.getElem?_eq_some_iff.mp hk).1]; exact hk)
theorem P_app_r {D : va_G} {cl : List vw_C} {w1 w2 : va_W} {H : Heap} (h : va_P D cl (w1 ++ w2) H) : va_P D cl w2 H := fun k x hk => h (w1.length + k) x (by rw [List.getElem?_append_right (by omega), Nat.add_sub_cancel_left]; exact hk)
theorem D_app_r {A : Nat → Prop} {w1 w2 : va_W} (h : va_D A (w1 ++ w2)) : va_D A w2 := by
  have e : ∀ (k : Nat) (x : Nat × va_E), w2[k]? = some x → (w1 ++ w2)[w1.length + k]? = some x := fun k x hk => by rw [List.getElem?_append_right (by omega), Nat.add_sub_cancel_left]; exact hk
  exact ⟨fun i j p q hi hj hpq => by have := h.1 _ _ p q (e i p hi) (e j q hj) hpq; omega, fun k q hk => h.2 _ q (e k q hk)⟩
theorem D_apart {A : Nat → Prop} {K : Nat} {ad : Nat → Nat} {E : Nat → va_E} {q : Nat} {e : va_E} (h : va_D A (gwl K ad E ++ [(q, e)])) {k : Nat} (hk : k < K) : ad k ≠ q := by
  intro h1
  have e1 : (gwl K ad E ++ [(q, e)])[k]? = some (ad k, E k) := by rw [List.getElem?_append_left (by simp [gwl]; exact hk)]; exact gwl_at hk
  have e2 : (gwl K ad E ++ [(q, e)])[K]? = some (q, e) := by
    rw [List.getElem?_append_right (by simp [gwl])]
    simp [gwl]
  have := h.1 k K _ _ e1 e2 h1
  omega
theorem nC.call {D : va_G} {cI cB : ClassId} {ws : va_W} {sz : Nat} {U V : State} (hh : V.heap = U.heap) (hvm : U.vm = V.vm) (h : nC D cI cB ws sz U) : nC D cI cB ws sz V := by
  obtain ⟨h1, h2, h3, h4, h5, h6, h7, h8, h9⟩ := h
  have hal : U.vm.Alike V.vm := by rw [hvm]; exact Vm.Alike.refl V.vm
  exact ⟨by rw [hh]; exact h1, by rw [hh]; exact h2, va_K.moved hal h3, h4, h5.moved hal, h6.moved hal, va_Nw.same rfl hvm h7, va_Nw.same rfl hvm h8, va_Nw.same rfl hvm h9⟩
theorem nM.call {D : va_G} {cI cB : ClassId} {ws : va_W} {sz : Nat} {U V : State} (hh : V.heap = U.heap) (hvm : U.vm = V.vm) (h : nM D cI cB ws sz U) : nM D cI cB ws sz V := by
  obtain ⟨h1, h2, h3, h4⟩ := h
  have hal : U.vm.Alike V.vm := by rw [hvm]; exact Vm.Alike.refl V.vm
  exact ⟨by rw [hh]; exact h1, by rw [hh]; exact h2, va_K.moved hal h3, h4⟩
abbrev fs4 : List Value := [.null, .null, .null, .null, .null, .null, .null, .null, .null, .int 0, .int 0, .long 0, .long 0]
abbrev fs5 : List Value := [.null, .int 0, .int 0, .null, .int 0, .null, .null, .null, .null, .null, .null, .int 0, .long 0, .long 0, .int 0, .null, .int 0, .int 0, .int 0, .int 0, .null, .int 0, .null, .int 0, .int 0, .null, .null, .null, .int 0, .null, .null, .null]
theorem fs4_ok : ∀ j, j < 13 → defaultValue (tyX4 j) = vp_V fs4 j := by
  intro j hj
  rcases (show j = 0 ∨ j = 1 ∨ j = 2 ∨ j = 3 ∨ j = 4 ∨ j = 5 ∨ j = 6 ∨ j = 7 ∨ j = 8 ∨ j = 9 ∨ j = 10 ∨ j = 11 ∨ j = 12 by omega) with rfl | rfl | rfl | rfl | rfl | rfl | rfl | rfl | rfl | rfl | rfl | rfl | rfl <;> rfl
theorem fs5_ok : ∀ j, j < 32 → defaultValue (tyX5 j) = vp_V fs5 j := by
  intro j hj
  rcases (show j = 0 ∨ j = 1 ∨ j = 2 ∨ j = 3 ∨ j = 4 ∨ j = 5 ∨ j = 6 ∨ j = 7 ∨ j = 8 ∨ j = 9 ∨ j = 10 ∨ j = 11 ∨ j = 12 ∨ j = 13 ∨ j = 14 ∨ j = 15 ∨ j = 16 ∨ j = 17 ∨ j = 18 ∨ j = 19 ∨ j = 20 ∨ j = 21 ∨ j = 22 ∨ j = 23 ∨ j = 24 ∨ j = 25 ∨ j = 26 ∨ j = 27 ∨ j = 28 ∨ j = 29 ∨ j = 30 ∨ j = 31 by omega) with rfl | rfl | rfl | rfl | rfl | rfl | rfl | rfl | rfl | rfl | rfl | rfl | rfl | rfl | rfl | rfl | rfl | rfl | rfl | rfl | rfl | rfl | rfl | rfl | rfl | rfl | rfl | rfl | rfl | rfl | rfl | rfl <;> rfl
