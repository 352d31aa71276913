/-! THE LAW: its entry -/
theorem rgM_in {n j : Nat} (x : Int32) (h : j < n) : rgM (fun _ _ => 0) 0 0 n x 0 j = x := by
  rw [rgM_at, if_pos (by omega)]
theorem nIz {k j : Nat} (h1 : k ≠ 1) (h2 : k ≠ 2) (h10 : k ≠ 10) (h11 : k ≠ 11) : nI0 k j = 0 := by
  unfold nI0
  rw [if_neg h1, if_neg h10, if_neg h2, if_neg h11]
theorem nI2 {r : Nat} (h : r < 6) : nI0 2 r = -1 := rgM_in (-1) h
theorem nI11 {r : Nat} (h : r < 4) : nI0 11 r = -1 := rgM_in (-1) h
theorem nI0_rowK : rowK nI0 := ⟨rfl, rfl, rfl, rfl, rfl, rfl⟩
theorem nI0_zerD : zerD nI0 := ⟨nIz (by omega) (by omega) (by omega) (by omega), nIz (by omega) (by omega) (by omega) (by omega), nIz (by omega) (by omega) (by omega) (by omega), nIz (by omega) (by omega) (by omega) (by omega)⟩
theorem law_K0 {s : State} {args : Array Value} (hts : ∀ w ∈ lw_tbl, w.before args s = true) : ∃ D : va_G, va_K D vwCl [] s := by
  obtain ⟨c0, i0, h0⟩ := u_known (C := RX0) (T := TX0) (N := 5) (n := 5) hts inX0 (hts (.instantiable RX0 5) (by decide +kernel))
  obtain ⟨c1, i1, h1⟩ := u_known (C := RX1) (T := TX1) (N := 9) (n := 9) hts inX1 (hts (.instantiable RX1 9) (by decide +kernel))
  obtain ⟨c2, i2, h2⟩ := u_known (C := RX2) (T := TX2) (N := 5) (n := 5) hts inX2 (hts (.instantiable RX2 5) (by decide +kernel))
  obtain ⟨c3, i3, h3⟩ := u_known (C := RX3) (T := TX3) (N := 8) (n := 8) hts inX3 (hts (.instantiable RX3 8) (by decide +kernel))
  obtain ⟨c4, i4, h4⟩ := u_known (C := RX4) (T := TX4) (N := 13) (n := 13) hts inX4 (hts (.instantiable RX4 13) (by decide +kernel))
  refine ⟨(fun k => if k = 0 then c0 else if k = 1 then c1 else if k = 2 then c2 else if k = 3 then c3 else c4, fun k => if k = 0 then i0 else if k = 1 then i1 else if k = 2 then i2 else if k = 3 then i3 else i4), ⟨?_, fun k q h => by simp at h⟩⟩
  intro k q hq
  match k, hq with
  | 0, hq => cases hq; exact h0
  | 1, hq => cases hq; exact h1
  | 2, hq => cases hq; exact h2
  | 3, hq => cases hq; exact h3
  | 4, hq => cases hq; exact h4
  | k + 5, hq => simp [vwCl] at hq
theorem law_Z {s : State} {b N : Nat} {xs : Nat → Int32} {ad : Nat → Nat} (hts : ∀ w ∈ lw_tbl, w.before #[Value.ref b] s = true) (hgv : (Jvm.Cond.and given_1 narrow_1).before #[Value.ref b] s = true) (hX : va_X b N xs s s.heap) (hb : b < s.heap.size) (hA : ∀ a : Nat, a < s.heap.size → ¬ gA 64 ad a) : ∃ t : Nat, cZ ad (t, b, N, xs) s s.heap := by
  have hs := flat_of_before _ hgv
  have n1 : va_Nw (.methodLinkNest "PairStairs$Plan" 76 yX4_counted "PairStairs") s := va_Nw.of rfl (hts (.methodLinkNest "PairStairs$Plan" 76 yX4_counted "PairStairs") (by decide +kernel))
  have n2 : va_Nw (.methodLinkNest "PairStairs$Plan" 84 yX4_sunk "PairStairs") s := va_Nw.of rfl (hts (.methodLinkNest "PairStairs$Plan" 84 yX4_sunk "PairStairs") (by decide +kernel))
  have n3 : va_Nw (.fieldLinkNest "PairStairs$Plan" 73 "PairStairs" "IS" "[I" "PairStairs") s := va_Nw.of rfl (hts (.fieldLinkNest "PairStairs$Plan" 73 "PairStairs" "IS" "[I" "PairStairs") (by decide +kernel))
  obtain ⟨tI, e1, T1⟩ := va_Tof (tm := .static "PairStairs" "IS" "[I") (ty := .int) (N := 6) (f := fun j => .int (isT j)) (A := gA 64 ad) (by decide) (hs (.arrayOf (.static "PairStairs" "IS" "[I") .int) (by decide +kernel)) (va_eqt (hs (.eq (.length (.static "PairStairs" "IS" "[I")) (.int 6)) (by decide +kernel))) (fun j hj => by
    match j, hj with
    | 0, _ => exact va_eqt (hs (.eq (.elem (.static "PairStairs" "IS" "[I") (.int 0)) (.int 1)) (by decide +kernel))
    | 1, _ => exact va_eqt (hs (.eq (.elem (.static "PairStairs" "IS" "[I") (.int 1)) (.int 3)) (by decide +kernel))
    | 2, _ => exact va_eqt (hs (.eq (.elem (.static "PairStairs" "IS" "[I") (.int 2)) (.int 5)) (by decide +kernel))
    | 3, _ => exact va_eqt (hs (.eq (.elem (.static "PairStairs" "IS" "[I") (.int 3)) (.int 9)) (by decide +kernel))
    | 4, _ => exact va_eqt (hs (.eq (.elem (.static "PairStairs" "IS" "[I") (.int 4)) (.int 25)) (by decide +kernel))
    | 5, _ => exact va_eqt (hs (.eq (.elem (.static "PairStairs" "IS" "[I") (.int 5)) (.int 37)) (by decide +kernel))
    | j + 6, hj => exact absurd hj (by omega)) hA
  exact ⟨tI, n1, n2, n3, va_Zref (hts (.laysStatic "PairStairs" "IS" "[I") (by decide +kernel)) (hts (.initialized "PairStairs") (by decide +kernel)) e1 hA, T1, hX, hA b hb⟩
theorem nC.call {D : va_G} {cI cB : ClassId} {ws : va_W} {sz : Nat} {U V : State} (hh : V.heap = U.heap) (hvm : U.vm = V.vm) (h : nC D cI cB ws sz U) : nC D cI cB ws sz V := by
  obtain ⟨h1, h2, h3, h4, h5, h6, h7, h8, h9⟩ := h
  have hal : U.vm.Alike V.vm := by rw [hvm]; exact Vm.Alike.refl V.vm
  exact ⟨by rw [hh]; exact h1, by rw [hh]; exact h2, va_K.moved hal h3, h4, h5.moved hal, h6.moved hal, va_Nw.same rfl hvm h7, va_Nw.same rfl hvm h8, va_Nw.same rfl hvm h9⟩
abbrev fs4 : List Value := [.null, .null, .null, .null, .null, .null, .null, .null, .null, .int 0, .int 0, .long 0, .long 0]
theorem fs4_ok : ∀ j, j < 13 → defaultValue (tyX4 j) = vp_V fs4 j := by
  intro j hj
  rcases (show j = 0 ∨ j = 1 ∨ j = 2 ∨ j = 3 ∨ j = 4 ∨ j = 5 ∨ j = 6 ∨ j = 7 ∨ j = 8 ∨ j = 9 ∨ j = 10 ∨ j = 11 ∨ j = 12 by omega) with rfl | rfl | rfl | rfl | rfl | rfl | rfl | rfl | rfl | rfl | rfl | rfl | rfl <;> rfl
/-! two cells more -/
def adX (ad : Nat → Nat) (q1 q2 : Nat) : Nat → Nat := fun k => if k < 62 then ad k else if k = 62 then q1 else q2
theorem cT0 : ∀ k, k < 62 → cTy k = 0 → k + 4 < 62 := by decide +kernel
theorem cT1 : ∀ k, k < 62 → cTy k = 1 → k + 4 < 62 := by decide +kernel
theorem cT2 : ∀ k, k < 62 → cTy k = 2 → k + 2 < 62 := by decide +kernel
theorem cT8 : ∀ k, k < 62 → cTy k = 8 → cLen k = 3 := by decide +kernel
theorem cT9 : ∀ k, k < 62 → cTy k = 9 → k + cLen k < 62 := by decide +kernel
theorem cTall : ∀ k, k < 62 → cTy k = 6 ∨ cTy k = 0 ∨ cTy k = 1 ∨ cTy k = 2 ∨ cTy k = 3 ∨ cTy k = 4 ∨ cTy k = 7 ∨ cTy k = 8 ∨ cTy k = 9 := by decide +kernel
theorem cE_adX {D : va_G} {cy : Nat → ClassId} {ad ad' : Nat → Nat} (h : ∀ j, j < 62 → ad' j = ad j) {k a : Nat} (hk : k < 62) {f : Nat → Int32} {L : xLon} {H : Heap} (hh : va_at D vwCl (a, cE cy ad 52 57 k f L) H) : va_at D vwCl (a, cE cy ad' 52 57 k f L) H := by
  rcases cTall k hk with t | t | t | t | t | t | t | t | t
  · rw [show cE cy ad' 52 57 k f L = cE cy ad 52 57 k f L by simp [cE, t]]; exact hh
  · have b := cT0 k hk t
    rw [show cE cy ad' 52 57 k f L = cE cy ad 52 57 k f L by simp [cE, t, h _ (show k + 1 < 62 by omega), h _ (show k + 2 < 62 by omega), h _ (show k + 3 < 62 by omega), h _ (show k + 4 < 62 by omega)]]; exact hh
  · have b := cT1 k hk t
    rw [show cE cy ad' 52 57 k f L = cE cy ad 52 57 k f L by simp [cE, t, h _ (show k + 1 < 62 by omega), h _ (show k + 2 < 62 by omega), h _ (show k + 3 < 62 by omega), h _ (show k + 4 < 62 by omega)]]; exact hh
  · have b := cT2 k hk t
    rw [show cE cy ad' 52 57 k f L = cE cy ad 52 57 k f L by simp [cE, t, h _ (show k + 1 < 62 by omega), h _ (show k + 2 < 62 by omega)]]; exact hh
  · rw [show cE cy ad' 52 57 k f L = cE cy ad 52 57 k f L by simp [cE, t, h]]; exact hh
  · rw [show cE cy ad' 52 57 k f L = cE cy ad 52 57 k f L by simp [cE, t, h]]; exact hh
  · rw [show cE cy ad' 52 57 k f L = cE cy ad 52 57 k f L by simp [cE, t]]; exact hh
  · have b := cT8 k hk t
    rw [show cE cy ad 52 57 k f L = .inl (cy 2, cLen k, .inr (.inr (.inr (.inr (fun j => some (ad (23 + 5 * j))))))) by simp [cE, t]] at hh
    rw [show cE cy ad' 52 57 k f L = .inl (cy 2, cLen k, .inr (.inr (.inr (.inr (fun j => some (ad' (23 + 5 * j))))))) by simp [cE, t]]
    exact at_refs (fun j hj => by
      show some (ad (23 + 5 * j)) = some (ad' (23 + 5 * j))
      rw [h _ (by omega)]) hh
  · have b := cT9 k hk t
    rw [show cE cy ad 52 57 k f L = .inl (cy 3, cLen k, .inr (.inr (.inr (.inr (fun j => some (ad (k + 1 + j))))))) by simp [cE, t]] at hh
    rw [show cE cy ad' 52 57 k f L = .inl (cy 3, cLen k, .inr (.inr (.inr (.inr (fun j => some (ad' (k + 1 + j))))))) by simp [cE, t]]
    exact at_refs (fun j hj => by
      show some (ad (k + 1 + j)) = some (ad' (k + 1 + j))
      rw [h _ (by omega)]) hh
theorem two_more {D : va_G} {cy : Nat → ClassId} {ad : Nat → Nat} {q1 q2 : Nat} {H : Heap} {A : Nat → Prop} {ws : va_W} (hw : ws = gwl 62 ad (fun a => cE cy ad 52 57 a (nI0 a) nL0) ++ [(q1, .inl (cy 0, 19, .inl (fun _ => 0)))] ++ [(q2, .inl (cy 0, 4, .inl (fun _ => 0)))]) (hP : va_P D vwCl ws H) (hD : va_D A ws) : gG D vwCl 64 (adX ad q1 q2) (cE cy (adX ad q1 q2) 52 57) nI0 nL0 H ∧ gInj 64 (adX ad q1 q2) ∧ ∀ k, k < 64 → A (adX ad q1 q2 k) := by
  have hx : ∀ j, j < 62 → adX ad q1 q2 j = ad j := fun j hj => if_pos hj
  refine to_g hP hD (fun k => k) (fun i _ j _ e => e) (fun k hk => ?_)
  have hl : (gwl 62 ad (fun a => cE cy ad 52 57 a (nI0 a) nL0)).length = 62 := by simp [gwl]
  by_cases c : k < 62
  · refine ⟨cE cy ad 52 57 k (nI0 k) nL0, ?_, fun H h => ?_⟩
    · show ws[k]? = _
      rw [hw, List.append_assoc, List.getElem?_append_left (by rw [hl]; exact c), gwl_at c, hx k c]
    · exact cE_adX hx c h
  · by_cases c2 : k = 62
    · subst c2
      refine ⟨.inl (cy 0, 19, .inl (fun _ => 0)), ?_, fun H h => h⟩
      show ws[62]? = _
      rw [hw, List.append_assoc, List.getElem?_append_right (by rw [hl]; exact Nat.le_refl _), hl]
      rfl
    · have c3 : k = 63 := by omega
      subst c3
      refine ⟨.inl (cy 0, 4, .inl (fun _ => 0)), ?_, fun H h => h⟩
      show ws[63]? = _
      rw [hw, List.append_assoc, List.getElem?_append_right (by rw [hl]; omega), hl]
      rfl
