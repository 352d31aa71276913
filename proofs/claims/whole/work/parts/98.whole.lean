/-! THE LAW, from its entry -/
set_option maxHeartbeats 4000000 in
set_option maxRecDepth 100000 in
theorem law_new {p : Program} {e : Env} {s : State} {m : MethodId} {below : List Frame} {meth : Method} {c : Code} (l : Launch) {b L : Nat} {xs : Nat → Int32} (hL : L ≤ 3072) (C0 : lw_At p s m meth c b L xs) {ls : Array Slot} (hl : lv_has ls 4 [(0, .ref b)]) : W p l e room_1 s m #[Value.ref b] below meth c s.heap [] 0 0 (lw_Z below #[Value.ref b] s) (F0 m 0 ls []) := by
  obtain ⟨hx, hb, hr, hml, hown, hts, hX, hbl, hlocks, hgv⟩ := id C0
  have hA : ∀ q : Nat, s.heap.size ≤ q → (fun q : Nat => s.heap.size ≤ q) q := fun _ h => h
  obtain ⟨D, hK0⟩ := law_K0 hts
  obtain ⟨cI, aI1, aI2⟩ := arrK (hts (.arrayClass .int) (by decide +kernel))
  obtain ⟨cB, aB1, aB2⟩ := arrK (hts (.arrayClass .boolean) (by decide +kernel))
  have hK : va_K D vwCl [(cI, .int), (cB, .boolean)] s := ⟨hK0.1, fun k q h => by
    match k, h with
    | 0, h => cases h; exact ⟨aI1, aI2⟩
    | 1, h => cases h; exact ⟨aB1, aB2⟩
    | k + 2, h => simp at h⟩
  have hO : va_AOA .int s := hts (.arrayOver (.array .int)) (by decide +kernel)
  have hOD : va_AO RX0 s := va_AO.of (hts (.arrayOver (.object RX0)) (by decide +kernel))
  have hN23 : va_Nw (.methodLinkNest RX4 23 yX0_init RX4) s := va_Nw.of rfl (hts (.methodLinkNest RX4 23 yX0_init RX4) (by decide +kernel))
  have hN38 : va_Nw (.methodLinkNest RX4 38 yX3_init RX4) s := va_Nw.of rfl (hts (.methodLinkNest RX4 38 yX3_init RX4) (by decide +kernel))
  have hN49 : va_Nw (.methodLinkNest RX4 49 yX1_init RX4) s := va_Nw.of rfl (hts (.methodLinkNest RX4 49 yX1_init RX4) (by decide +kernel))
  have hS : va_S (fun q : Nat => s.heap.size ≤ q) s.heap s.heap [] := va_S.rf
  have hP : va_P D vwCl [] s.heap := fun k q h => by simp at h
  have hD : va_D (fun q : Nat => s.heap.size ≤ q) [] := ⟨fun i j p q h => by simp at h, fun k q h => by simp at h⟩
  refine va_new (ci := 4) (fs := fs4) (C := RX4) (T := TX4) (N := 13) hx hb hts inX4 tyX4 tyX4_ok hown (hts (.classLink RL 7 RX4) (by decide +kernel)) (hts (.instantiable RX4 13) (by decide +kernel)) (hts (.initialized RX4) (by decide +kernel)) hK hP hD hS hA rfl fs4_ok (Nat.le_of_ble_eq_true rfl) (Nat.le_of_ble_eq_true rfl) dL_law_0 (fun h0 H hP hD hS => ?_)
  have hP : va_P D vwCl [(h0, .inr (4, fs4))] H := hP
  have hD : va_D (fun q : Nat => s.heap.size ≤ q) [(h0, .inr (4, fs4))] := hD
  refine W.widen (k := 1) (n := 13) (Nat.le_of_ble_eq_true rfl) (Nat.le_of_ble_eq_true rfl) ?_
  refine lv_dup hx hb dL_law_3 rfl ?_
  have hFc := va_free (wc := [(h0, .inr (4, fs4))]) hD hS hA [0] rfl
  refine va_callv (va_runI (As := []) (rest := [.ref h0]) ⟨hx, hb, hml, hown, hts⟩ (c_X4_init l D cI cB h0 H.size) (cwI 0 hts (goodIn_up gL_law_X4_init) rfl rfl rfl (hts (.initialized RX4) (by decide +kernel)) (hts (.methodLink RL 9 yX4_init) (by decide +kernel)) (hts (.instanceMethod yX4_init) (by decide +kernel)) rfl (by decide +kernel) ⟨Nat.le_of_ble_eq_true rfl, Nat.le_of_ble_eq_true rfl⟩) ⟨fun a U g mk q9 => ⟨q9.1, nC.call rfl rfl q9.2⟩, fun U hU hW => ⟨rfl, by rw [hU], by rw [hU]; exact hP, va_K.moved hW.alike hK, hD.weaken (fun _ _ _ _ => trivial), hO.moved hW.alike, hOD.moved hW.alike, va_Nw.warmM hW hN23, va_Nw.warmM hW hN38, va_Nw.warmM hW hN49⟩⟩ rfl rfl hl.1 rfl (lv_room (Nat.le_of_ble_eq_true rfl)) dL_law_4 ⟨Nat.le_of_ble_eq_true rfl, Nat.le_of_ble_eq_true rfl⟩) hS (fun q9 _ h => hFc q9 h) hFc (fun u t H1 locs ht hvm hw hB hz1 hk1 hS => ?_)
  obtain ⟨cy, ad, ec0, ec1, ea0, hi, hAd, hG, hKc⟩ := hB
  rw [ht] at hG
  have hKc := va_K.moved hvm.symm hKc
  have hA4 : ∀ k, k < 62 → s.heap.size ≤ ad k := fun k hk => hFc _ (hAd k hk)
  generalize H1 = H at hG hS ⊢
  subst ea0
  refine W.widen (k := 62) (n := 4798) (Nat.le_of_ble_eq_true rfl) (Nat.le_of_ble_eq_true rfl) ?_
  refine lv_astore_n (lv' := [(1, .ref (ad 0)), (0, .ref b)]) hx hb dL_law_7 rfl hl (by decide) rfl (fun ls hl => ?_)
  have hD : va_D (fun q : Nat => s.heap.size ≤ q) (gwl 62 ad (fun a => cE cy ad 52 57 a (nI0 a) nL0)) := (gwl_D hi).weaken (fun k x _ h => by obtain ⟨j, h1, h2⟩ := h; rw [← h2]; exact hA4 j h1)
  refine va_new (ci := 5) (fs := fs5) (C := RX5) (T := TX5) (N := 32) hx hb hts inX5 tyX5 tyX5_ok hown (hts (.classLink RL 10 RX5) (by decide +kernel)) (hts (.instantiable RX5 32) (by decide +kernel)) (hts (.initialized RX5) (by decide +kernel)) hKc hG hD hS hA rfl fs5_ok (Nat.le_of_ble_eq_true rfl) (Nat.le_of_ble_eq_true rfl) dL_law_8 (fun m0 H hP hD hS => ?_)
  have hG : gG D vwCl 62 ad (cE cy ad 52 57) nI0 nL0 H := P_app_l hP
  have hPm : va_P D vwCl [(m0, .inr (5, fs5))] H := P_app_r hP
  have hDm : va_D (fun q : Nat => s.heap.size ≤ q) [(m0, .inr (5, fs5))] := D_app_r hD
  have hne : ∀ k, k < 62 → ad k ≠ m0 := fun k hk => D_apart hD hk
  refine W.widen (k := 63) (n := 4830) (Nat.le_of_ble_eq_true rfl) (Nat.le_of_ble_eq_true rfl) ?_
  refine lv_dup hx hb dL_law_11 rfl ?_
  have hFm := va_free (wc := [(m0, .inr (5, fs5))]) hDm hS hA [0] rfl
  refine va_callv (va_runI (As := []) (rest := [.ref m0]) ⟨hx, hb, hml, hown, hts⟩ (c_X5_init l D cI cB m0 H.size) (cwI 0 hts (goodIn_up gL_law_X5_init) rfl rfl rfl (hts (.initialized RX5) (by decide +kernel)) (hts (.methodLink RL 12 yX5_init) (by decide +kernel)) (hts (.instanceMethod yX5_init) (by decide +kernel)) rfl (by decide +kernel) ⟨Nat.le_of_ble_eq_true rfl, Nat.le_of_ble_eq_true rfl⟩) ⟨fun a U g mk q9 => ⟨q9.1, nM.call rfl rfl q9.2⟩, fun U hU hW => ⟨rfl, by rw [hU], by rw [hU]; exact hPm, va_K.moved hW.alike hK, hDm.weaken (fun _ _ _ _ => trivial)⟩⟩ rfl rfl hl.1 rfl (lv_room (Nat.le_of_ble_eq_true rfl)) dL_law_12 ⟨Nat.le_of_ble_eq_true rfl, Nat.le_of_ble_eq_true rfl⟩) hS (fun q9 _ h => hFm q9 h) hFm (fun u t H1 locs ht hvm hw hB hz1 hk1 hS => ?_)
  obtain ⟨cz, am, em0, em1, ema, him, hAm, hGm, hKm⟩ := hB
  rw [ht] at hGm
  have hKm := va_K.moved hvm.symm hKm
  have hA5 : ∀ k, k < 18 → s.heap.size ≤ am k := fun k hk => hFm _ (hAm k hk)
  have hlt : ∀ k, k < 62 → ad k < H.size := fun k hk => (hG k (ad k, cE cy ad 52 57 k (nI0 k) nL0) (gwl_at hk)).lt
  have hout : ∀ k, k < 62 → ¬ va_A [(m0, .inr (5, fs5))] H.size (ad k) := by
    intro k hk h
    rcases h with ⟨j, e9, h⟩ | h
    · match j, h with
      | 0, h => exact hne k hk (by simp at h; exact h.1.symm)
      | j + 1, h => simp at h
    · have := hlt k hk; omega
  have hG1 : gG D vwCl 62 ad (cE cy ad 52 57) nI0 nL0 H1 := va_P.kept hG (fun k x hx9 => by
    obtain ⟨h1, rfl⟩ := gwl_lt hx9
    exact hk1 _ (hlt k h1) (hout k h1))
  have hdis : ∀ k, k < 62 → ∀ j, j < 18 → ad k ≠ am j := fun k hk j hj h => hout k hk (by rw [h]; exact hAm j hj)
  subst ema
  refine W.widen (k := 600000) (n := 7302250) (Nat.le_of_ble_eq_true rfl) (Nat.le_of_ble_eq_true rfl) ?_
  refine lv_astore_n (lv' := [(2, .ref (am 0)), (1, .ref (ad 0)), (0, .ref b)]) hx hb dL_law_15 rfl hl (by decide) rfl (fun ls hl => ?_)
  refine lv_iconst (v := 0) hx hb dL_law_16 (by decide) ?_
  refine lv_istore_n (lv' := [(3, .int 0), (2, .ref (am 0)), (1, .ref (ad 0)), (0, .ref b)]) hx hb dL_law_17 rfl hl (by decide) rfl (fun ls hl => ?_)
  obtain ⟨tI, hZ⟩ := law_Z (ad := ad) hts hgv (fun a h h9 => by obtain ⟨j, h1, h2⟩ := h9; have := hA4 j h1; omega)
  have C9 : LW p s m #[Value.ref b] meth c D cy ad cz am tI b L xs := ⟨⟨hx, hb, hml, hown, hts⟩, ⟨hX, hbl, hL⟩, ⟨hKc, hKm, hZ⟩, hi, him, hA4, hA5, hdis⟩
  exact law_loop C9 hr hlocks (L + 1) 0 (Nat.zero_le L) (by omega) 52 57 nI0 nL0 mI0 mL0 H1 locs ⟨Sim_new, hG1, hGm, hS⟩ ls (by rw [nI_0]; exact lv_sub hl [3, 2, 1, 0] rfl)
theorem whole_start {p : Program} {e : Env} {s : State} {m : MethodId} {below : List Frame} {meth : Method} {c : Code} (l : Launch) (hflags : l.flags = flags0) {b L : Nat} {xs : Nat → Int32} (hL : L ≤ 3072) (C0 : lw_At p s m meth c b L xs) : W p l e room_1 s m #[Value.ref b] below meth c s.heap [] 0 0 (lw_Z below #[Value.ref b] s) (entryFrame m ([Value.ref b] : List Value).toArray 4) := by
  have hl := lv_entry ([.ref b]) (n := 4) (Nat.le_of_ble_eq_true rfl)
  rw [lg_entry_eq]
  generalize (lg_sl ([.ref b]) ++ List.replicate (4 - (lg_sl ([.ref b])).length) Slot.unset).toArray = ls at hl ⊢
  have hl : lv_has ls 4 [(0, .ref b)] := hl
  exact law_new l hL C0 hl
