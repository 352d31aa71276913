/-! GOES TO COME, the class alone -/
theorem BI.in {v : TV} (hv : vOk v) {src : Nat → Prop} {s : BS} (h : BI v src s (be s) (fun _ _ => False)) : ∀ (n : Nat) {y : Nat}, WK v src n y → y < 1024 ∧ bd s y < 1024 ∧ bd s y ≤ n
  | 0, y, w => by
    have := h.2.2.2.2.2.2.2.2 y w
    omega
  | n + 1, y, w => by
    obtain ⟨x, p, c, w1, w2, rfl⟩ := w
    obtain ⟨a1, a2, a3⟩ := BI.in hv h n w1
    obtain ⟨i, i1, i2⟩ := h.2.2.1 x a1 (by omega)
    have hy := nx_lt hv a1 w2
    have e := h.2.2.2.2.2.2.1 i p c i1 (Or.inl i1) (by rw [i2]; exact w2)
    rw [i2] at e
    have := h.lab hy (by omega)
    omega
theorem mvN_bit (v : TV) (s : BS) (i : Nat) : ∀ m, (mvN v s m).testBit i = true ↔ ∃ k, k < m ∧ (bl s k / 16).testBit i ≠ (tt v).testBit i
  | 0 => by
    show (0 : Nat).testBit i = true ↔ _
    simp
  | m + 1 => by
    rw [mvN_succ, Nat.testBit_or, Bool.or_eq_true, mvN_bit v s i m, Nat.testBit_xor]
    constructor
    · rintro (⟨k, h1, h2⟩ | h)
      · exact ⟨k, by omega, h2⟩
      · exact ⟨m, by omega, by simpa using h⟩
    · rintro ⟨k, h1, h2⟩
      by_cases e : k = m
      · right
        rw [e] at h2
        simpa using h2
      · exact Or.inl ⟨k, by omega, h2⟩
section CSF
variable {I : xMem} {P Dr : Nat} {v : TV} {D : DD}
/-- the place where all are now -/
def plc (w : TV) : Nat := 16 * tt w + tu w
abbrev WKn (w : TV) (n y : Nat) : Prop := WK w (fun z => z = plc w) n y
theorem plc_d {w : TV} (hv : vOk w) : plc w / 16 = tt w ∧ plc w % 16 = tu w := by
  have := tu_lt hv
  unfold plc
  omega
theorem WK_top {w : TV} (hv : vOk w) {n y : Nat} (h : WKn w n y) : y / 16 < 2 ^ tn w ∧ y % 16 < 2 ^ ts w := by
  have := plc_d hv
  exact WK_in hv (by rw [this.1]; exact hv.2.2.2.2.2.2.2.1) (by rw [this.2]; exact hv.2.2.2.2.2.2.2.2) n h
theorem cs_few (h : CS I P Dr v D) {set tops : Nat} (hs : set < 64) (ht : tops < 64) :
    (∃ I', X4_fewestGoes P I (nI set) (nI tops) = some (-9, I') ∧ qAg I I' ∧ ∀ n y, WKn (now v D) n y → ¬ (y / 16) &&& set = tops) ∨
    ∃ m I' a, X4_fewestGoes P I (nI set) (nI tops) = some (nI m, I') ∧ m < 1024 ∧ qAg I I' ∧ I' 0 10 = a ∧ (∃ y, WKn (now v D) m y ∧ (y / 16) &&& set = tops) ∧ (∀ n y, WKn (now v D) n y → (y / 16) &&& set = tops → m ≤ n) ∧ ((m = 0 ∧ a = -9) ∨ (0 < m ∧ ∃ p, p < 36 ∧ a = nI p ∧ ∃ c y, eO (now v D) (plc (now v D)) p c ∧ WK (now v D) (fun z => z = nx (plc (now v D)) p c) (m - 1) y ∧ (y / 16) &&& set = tops)) := by
  have hv := h.vok
  have hC := h.vc
  have hP := h.pd
  have hnow := now_lt hv
  obtain ⟨A, a1, a2, a3⟩ := spread4_eq hP hv hC
  have hBA := fin_BA hv (s1_BA (now v D) hnow)
  obtain ⟨hBI, hBF⟩ := hBA
  have hBF := hBF _ rfl
  have hel := hBI.e_le
  generalize hw : now v D = w at *
  generalize hz : fin w (s1 (16 * tt w + tu w)) = z at *
  have inl : ∀ n y, WKn w n y → ∃ i, i < be z ∧ bl z i = y ∧ bd z y < 1024 ∧ bd z y ≤ n := fun n y hy => by
    obtain ⟨q1, q2, q3⟩ := hBI.in hv n hy
    obtain ⟨i, i1, i2⟩ := hBI.2.2.1 y q1 (by omega)
    exact ⟨i, i1, i2, q2, q3⟩
  have inr : ∀ i, i < be z → WKn w (bd z (bl z i)) (bl z i) := fun i hi => by
    obtain ⟨l1, l2⟩ := hBI.2.1 i hi
    exact hBI.2.2.2.2.2.2.2.1 _ l1 (by omega)
  unfold X4_fewestGoes
  rw [a1, bind_s]
  rcases nearest_eq hv hBI a3 hs ht with ⟨n1, n2⟩ | ⟨n, n1, n2, n3, n4⟩
  · left
    refine ⟨A, ?_, qAg.c a2, fun m y hy hg => ?_⟩
    · rw [n1, bind_s, if_pos rfl]
    · obtain ⟨i, i1, i2, -⟩ := inl m y hy
      rw [← i2] at hg
      exact n2 i i1 hg
  · right
    obtain ⟨l1, l2⟩ := hBI.2.1 n n1
    have hpl := pl_lt l1
    have hne : ¬ nI (pl (bl z n)) = -9 := nI_m9 (by omega)
    have r41 := a3.1 _ l1
    rw [if_neg (show ¬ bd z (bl z n) = 9999 by omega)] at r41
    have r42 := a3.2.1 _ l1 (by omega)
    have hmin : ∀ m y, WKn w m y → (y / 16) &&& set = tops → bd z (bl z n) ≤ m := fun m y hy hg => by
      obtain ⟨i, i1, i2, i3, i4⟩ := inl m y hy
      rw [← i2] at hg
      have hni : n ≤ i := by
        rcases Nat.lt_or_ge i n with q | q
        · exact absurd hg (n3 i q)
        · exact q
      have := hBI.2.2.2.2.1 n i hni i1
      rw [i2] at this
      omega
    by_cases c : bd z (bl z n) = 0
    · refine ⟨bd z (bl z n), wr A 0 10 (-9), -9, ?_, by omega, (qAg.c a2).tr (qAg.told _ _), wr_told _ _, ⟨_, inr n n1, n2⟩, hmin, Or.inl ⟨c, rfl⟩⟩
      rw [n4, bind_s, if_neg hne, rdI_nI hpl (by omega), bind_s, r41, if_pos (by rw [c]; rfl), bind_s, bind_s, rdI_nI hpl (by omega), bind_s, wr_off (k := 0) A _ (show (41 : Nat) ≠ 0 ∨ pl (bl z n) ≠ 10 by omega), r41]
    · obtain ⟨c', c1, c2⟩ := hBF.1 _ l1 (by omega) c
      have hp36 := eO_p hv c1
      rw [if_neg c] at r42
      refine ⟨bd z (bl z n), wr A 0 10 (nI (bf z (bl z n))), _, ?_, by omega, (qAg.c a2).tr (qAg.told _ _), wr_told _ _, ⟨_, inr n n1, n2⟩, hmin, Or.inr ⟨by omega, bf z (bl z n), hp36, rfl, c', bl z n, c1, c2, n2⟩⟩
      rw [n4, bind_s, if_neg hne, rdI_nI hpl (by omega), bind_s, r41, if_neg (by rw [i_0, nI_eq_iff (by omega) (by omega)]; exact c), rdI_nI hpl (by omega), bind_s, r42, bind_s, bind_s, rdI_nI hpl (by omega), bind_s, wr_off (k := 0) A _ (show (41 : Nat) ≠ 0 ∨ pl (bl z n) ≠ 10 by omega), r41]
theorem CS.gr (h : CS I P Dr v D) {set : Nat} (hs : set < 2 ^ tn v) : X4_isNoGroup P I (nI set) = 0 := by
  have hv := h.vok
  have hC := h.vc
  have h6 := h.n2
  have e1 : tn (now v D) = tn v := rfl
  have h64 := p2n hv
  rw [e1] at h64
  unfold X4_isNoGroup
  rw [hC.1.2.2, e1, i_1, nI_pow (by omega), if_neg (by rw [i_0, nI_lt_iff (by omega) (by omega)]; omega), if_pos (by rw [nI_lt_iff (by omega) (by omega)]; omega)]
  rfl
theorem fst_snd {α β : Type} (o : Option (α × β)) : (o.bind fun q2 => some (q2.1, q2.2)) = o := by
  cases o <;> rfl
theorem up_few (h : CS I P Dr v D) {set : Nat} (hs : set < 2 ^ tn v) : X4_up P I (nI set) = X4_fewestGoes P I (nI set) (nI set) := by
  unfold X4_up
  rw [h.gr hs, if00, fst_snd]
theorem down_few (h : CS I P Dr v D) {set : Nat} (hs : set < 2 ^ tn v) : X4_down P I (nI set) = X4_fewestGoes P I (nI set) (nI 0) := by
  unfold X4_down
  rw [h.gr hs, if00, fst_snd]
  rfl
theorem cs_ever (h : CS I P Dr v D) : ∃ e I', X4_ever P I = some (nI e, I') ∧ e < 2 ^ tn v ∧ qAg I I' ∧ ∀ i, e.testBit i = true ↔ ∃ n y, WKn (now v D) n y ∧ (y / 16).testBit i ≠ (tt (now v D)).testBit i := by
  have hv := h.vok
  have hC := h.vc
  have hP := h.pd
  have h6 := h.n2
  have e1 : tn (now v D) = tn v := rfl
  have hnow := now_lt hv
  obtain ⟨A, a1, a2, a3⟩ := spread4_eq hP hv hC
  have hBI := (fin_BA hv (s1_BA (now v D) hnow)).1
  generalize hz : fin (now v D) (s1 (16 * tt (now v D) + tu (now v D))) = z at *
  have inr : ∀ i, i < be z → WKn (now v D) (bd z (bl z i)) (bl z i) := fun i hi => by
    obtain ⟨l1, l2⟩ := hBI.2.1 i hi
    have hel := hBI.e_le
    exact hBI.2.2.2.2.2.2.2.1 _ l1 (by omega)
  have key : ∀ i, (mvN (now v D) z (be z)).testBit i = true ↔ ∃ n y, WKn (now v D) n y ∧ (y / 16).testBit i ≠ (tt (now v D)).testBit i := fun i => by
    rw [mvN_bit]
    constructor
    · rintro ⟨k, k1, k2⟩
      exact ⟨_, _, inr k k1, k2⟩
    · rintro ⟨n, y, y1, y2⟩
      obtain ⟨q1, q2, q3⟩ := hBI.in hv n y1
      obtain ⟨k, k1, k2⟩ := hBI.2.2.1 y q1 (by omega)
      exact ⟨k, k1, by rw [k2]; exact y2⟩
  refine ⟨mvN (now v D) z (be z), A, ?_, ?_, qAg.c a2, key⟩
  · unfold X4_ever
    rw [hC.1.2.2, if_neg (by rw [i_0, nI_eq_iff (by omega) (by omega)]; omega), a1, bind_s, (hC.cAg hP a2).top, bind_s, moved_eq hv hBI a3, bind_s]
  · refine Nat.lt_pow_two_of_testBit _ fun i hi => ?_
    cases hb : (mvN (now v D) z (be z)).testBit i with
    | false => rfl
    | true =>
      obtain ⟨n, y, y1, y2⟩ := (key i).mp hb
      have a := WK_top hv y1
      have hpw : 2 ^ tn v ≤ 2 ^ i := Nat.pow_le_pow_right (by decide) hi
      have b := hv.2.2.2.2.2.2.2.1
      rw [e1] at a b
      rw [Nat.testBit_lt_two_pow (by omega), Nat.testBit_lt_two_pow (by omega)] at y2
      exact absurd rfl y2
end CSF
