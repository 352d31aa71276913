/-! THE LAW, from its entry -/
set_option maxHeartbeats 4000000 in
set_option maxRecDepth 100000 in
theorem law_new (hN : ∀ v, vLaw v → ∀ D, dOk v D → near100 (now v D)) {p : Program} {e : Env} {s : State} {m : MethodId} {below : List Frame} {meth : Method} {c : Code} (l : Launch) {b L : Nat} {xs : Nat → Int32} (hL : L ≤ 260) (C0 : lw_At p s m meth c b L xs) {ls : Array Slot} (hl : lv_has ls 43 [(0, .ref b)]) : W p l e room_1 s m #[Value.ref b] below meth c s.heap [] 0 0 (lw_Z below #[Value.ref b] s) (F0 m 0 ls []) := by
  obtain ⟨hx, hb, hr, hml, hown, hts, hX, hbl, hlocks, hgv⟩ := id C0
  have hA : ∀ q : Nat, s.heap.size ≤ q → (fun q : Nat => s.heap.size ≤ q) q := fun _ h => h
  obtain ⟨D, hK0⟩ := law_K0 hts
  obtain ⟨cI, aI1, aI2⟩ := arrK (hts (.arrayClass .int) (by decide +kernel))
  obtain ⟨cB, aB1, aB2⟩ := arrK (hts (.arrayClass .boolean) (by decide +kernel))
  have hK : va_K D vwCl [(cI, .int), (cB, .boolean)] s := ⟨hK0.1, fun k q h => by
    match k, h with
    | 0, h => cases h; exact ⟨aI1, aI2⟩
    | 1, h => cases h; exact ⟨aB1, aB2⟩
    | k + 2, h => simp at h⟩
  have hO : va_AOA .int s := hts (.arrayOver (.array .int)) (by decide +kernel)
  have hOD : va_AO RX0 s := va_AO.of (hts (.arrayOver (.object RX0)) (by decide +kernel))
  have hN23 : va_Nw (.methodLinkNest RX4 23 yX0_init RX4) s := va_Nw.of rfl (hts (.methodLinkNest RX4 23 yX0_init RX4) (by decide +kernel))
  have hN38 : va_Nw (.methodLinkNest RX4 38 yX3_init RX4) s := va_Nw.of rfl (hts (.methodLinkNest RX4 38 yX3_init RX4) (by decide +kernel))
  have hN49 : va_Nw (.methodLinkNest RX4 49 yX1_init RX4) s := va_Nw.of rfl (hts (.methodLinkNest RX4 49 yX1_init RX4) (by decide +kernel))
  have hS : va_S (fun q : Nat => s.heap.size ≤ q) s.heap s.heap [] := va_S.rf
  have hP : va_P D vwCl [] s.heap := fun k q h => by simp at h
  have hD : va_D (fun q : Nat => s.heap.size ≤ q) [] := ⟨fun i j p q h => by simp at h, fun k q h => by simp at h⟩
  refine va_new (ci := 4) (fs := fs4) (C := RX4) (T := TX4) (N := 13) hx hb hts inX4 tyX4 tyX4_ok hown (hts (.classLink RL 20 RX4) (by decide +kernel)) (hts (.instantiable RX4 13) (by decide +kernel)) (hts (.initialized RX4) (by decide +kernel)) hK hP hD hS hA rfl fs4_ok (Nat.le_of_ble_eq_true rfl) (Nat.le_of_ble_eq_true rfl) dL_law_0 (fun h0 H hP hD hS => ?_)
  have hP : va_P D vwCl [(h0, .inr (4, fs4))] H := hP
  have hD : va_D (fun q : Nat => s.heap.size ≤ q) [(h0, .inr (4, fs4))] := hD
  refine W.widen (k := 1) (n := 13) (Nat.le_of_ble_eq_true rfl) (Nat.le_of_ble_eq_true rfl) ?_
  refine lv_dup hx hb dL_law_3 rfl ?_
  have hFc := va_free (wc := [(h0, .inr (4, fs4))]) hD hS hA [0] rfl
  refine va_callv (va_runI (As := []) (rest := [.ref h0]) ⟨hx, hb, hml, hown, hts⟩ (c_X4_init l D cI cB h0 H.size) (cwI 0 hts (goodIn_up gL_law_X4_init) rfl rfl rfl (hts (.initialized RX4) (by decide +kernel)) (hts (.methodLink RL 87 yX4_init) (by decide +kernel)) (hts (.instanceMethod yX4_init) (by decide +kernel)) rfl (by decide +kernel) ⟨Nat.le_of_ble_eq_true rfl, Nat.le_of_ble_eq_true rfl⟩) ⟨fun a U g mk q9 => ⟨q9.1, nC.call rfl rfl q9.2⟩, fun U hU hW => ⟨rfl, by rw [hU], by rw [hU]; exact hP, va_K.moved hW.alike hK, hD.weaken (fun _ _ _ _ => trivial), hO.moved hW.alike, hOD.moved hW.alike, va_Nw.warmM hW hN23, va_Nw.warmM hW hN38, va_Nw.warmM hW hN49⟩⟩ rfl rfl hl.1 rfl (lv_room (Nat.le_of_ble_eq_true rfl)) dL_law_4 ⟨Nat.le_of_ble_eq_true rfl, Nat.le_of_ble_eq_true rfl⟩) hS (fun q9 _ h => hFc q9 h) hFc (fun u t H1 locs ht hvm hw hB hz1 hk1 hS => ?_)
  obtain ⟨cy, ad, ec0, ec1, ea0, hi, hAd, hG, hKc⟩ := hB
  rw [ht] at hG
  have hKc := va_K.moved hvm.symm hKc
  have hA4 : ∀ k, k < 62 → s.heap.size ≤ ad k := fun k hk => hFc _ (hAd k hk)
  generalize H1 = H at hG hS ⊢
  subst ea0
  refine W.widen (k := 62) (n := 4798) (Nat.le_of_ble_eq_true rfl) (Nat.le_of_ble_eq_true rfl) ?_
  refine lv_astore_n (lv' := [(1, .ref (ad 0)), (0, .ref b)]) hx hb dL_law_7 rfl hl (by decide) rfl (fun ls hl => ?_)
  have hD : va_D (fun q : Nat => s.heap.size ≤ q) (gwl 62 ad (fun a => cE cy ad 52 57 a (nI0 a) nL0)) := (gwl_D hi).weaken (fun k x _ h => by obtain ⟨j, h1, h2⟩ := h; rw [← h2]; exact hA4 j h1)
  subst ec0
  refine lv_bipush (v := 19) hx hb dL_law_8 (by decide) ?_
  refine n_newI (N' := 19) hx hb (hts (.arrayClass .int) (by decide +kernel)) hKc 0 rfl hG hD hS hA (by decide) (by decide) (Nat.le_of_ble_eq_true rfl) (Nat.le_of_ble_eq_true rfl) (Nat.le_of_ble_eq_true rfl) dL_law_10 (fun q1 H hP hD hS => ?_)
  refine W.widen (k := 63) (n := 4817) (Nat.le_of_ble_eq_true rfl) (Nat.le_of_ble_eq_true rfl) ?_
  refine lv_astore_n (lv' := [(2, .ref q1), (1, .ref (ad 0)), (0, .ref b)]) hx hb dL_law_12 rfl hl (by decide) rfl (fun ls hl => ?_)
  refine lv_iconst (v := 4) hx hb dL_law_13 (by decide) ?_
  refine n_newI (N' := 4) hx hb (hts (.arrayClass .int) (by decide +kernel)) hKc 0 rfl hP hD hS hA (by decide) (by decide) (Nat.le_of_ble_eq_true rfl) (Nat.le_of_ble_eq_true rfl) (Nat.le_of_ble_eq_true rfl) dL_law_14 (fun q2 H hP hD hS => ?_)
  obtain ⟨hG, hi, hA6⟩ := two_more rfl hP hD
  refine W.widen (k := 600000) (n := 7302250) (Nat.le_of_ble_eq_true rfl) (Nat.le_of_ble_eq_true rfl) ?_
  refine lv_astore_n (lv' := [(3, .ref q2), (2, .ref q1), (1, .ref (ad 0)), (0, .ref b)]) hx hb dL_law_16 rfl hl (by decide) rfl (fun ls hl => ?_)
  have hl : lv_has ls 43 [(3, .ref (adX ad q1 q2 63)), (2, .ref (adX ad q1 q2 62)), (1, .ref (adX ad q1 q2 0)), (0, .ref b)] := hl
  generalize adX ad q1 q2 = ad' at hG hi hA6 hl
  obtain ⟨tI, hZ⟩ := law_Z (ad := ad') hts hgv hX hbl (fun a h h9 => by obtain ⟨j, h1, h2⟩ := h9; have := hA6 j h1; omega)
  have C9 : LC p l e s m #[Value.ref b] below meth c (lw_Z below #[Value.ref b] s) D cy ad' (tI, b, L, xs) := ⟨⟨hx, hb, hml, hown, hts⟩, ⟨hKc, hZ⟩, hi, hA6, fun pc H locs ls hdg hS => va_forget (fun q hq => hS.2.2 q hq) (lw_ret hx hb hr hlocks hdg)⟩
  exact kc_17 C9 ⟨hi, cPlan_52, cPlan_57⟩ nI0 nL0 H locs ls (x_17 hN hL (Or.inl ⟨rfl, rfl⟩) nI0_rowK nI0_zerD (fun r hr => nI2 hr) (fun r _ hr => nI11 hr)) hG hS (lv_sub hl [3, 2, 1, 0] rfl)
theorem whole_startN (hN : ∀ v, vLaw v → ∀ D, dOk v D → near100 (now v D)) {p : Program} {e : Env} {s : State} {m : MethodId} {below : List Frame} {meth : Method} {c : Code} (l : Launch) (hflags : l.flags = flags0) {b L : Nat} {xs : Nat → Int32} (hL : L ≤ 260) (C0 : lw_At p s m meth c b L xs) : W p l e room_1 s m #[Value.ref b] below meth c s.heap [] 0 0 (lw_Z below #[Value.ref b] s) (entryFrame m ([Value.ref b] : List Value).toArray 43) := by
  have hl := lv_entry ([.ref b]) (n := 43) (Nat.le_of_ble_eq_true rfl)
  rw [lg_entry_eq]
  generalize (lg_sl ([.ref b]) ++ List.replicate (43 - (lg_sl ([.ref b])).length) Slot.unset).toArray = ls at hl ⊢
  have hl : lv_has ls 43 [(0, .ref b)] := hl
  exact law_new hN l hL C0 hl
