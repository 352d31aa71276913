/-! ROWS, TEXTS -/
/-- a stretch of a cell filled -/
def rgM (I : xMem) (y o n : Nat) (x : Int32) : xMem := fun a => if a = y then (fun j => if o ≤ j ∧ j < o + n then x else I y j) else I a
theorem rgM_at (I : xMem) (y o n : Nat) (x : Int32) (a j : Nat) : rgM I y o n x a j = if a = y ∧ o ≤ j ∧ j < o + n then x else I a j := by
  unfold rgM
  by_cases h : a = y
  · subst h
    simp
  · simp [h]
theorem rgM_0 (I : xMem) (y o : Nat) (x : Int32) : rgM I y o 0 x = I := by
  funext a j
  rw [rgM_at, if_neg (by omega)]
theorem rgM_s (I : xMem) (y o n : Nat) (x : Int32) : wr (rgM I y o n x) y (o + n) x = rgM I y o (n + 1) x := by
  funext a j
  rw [wr_at, rgM_at, rgM_at]
  by_cases h : a = y ∧ j = o + n
  · rw [if_pos h, if_pos (by omega)]
  · rw [if_neg h]
    by_cases q : a = y ∧ o ≤ j ∧ j < o + n
    · rw [if_pos q, if_pos (by omega)]
    · rw [if_neg q, if_neg (by omega)]
theorem fill_eq (I : xMem) (y : Nat) {n : Nat} (hn : n ≤ 2000) (x : Int32) : J7_fill_53178 I y n x = some (rgM I y 0 n x) := by
  unfold J7_fill_53178
  obtain ⟨M, hM, he⟩ := loop_I (fun fuel k (M : xMem) => J7_fill_53178_L1 y n x (fun I4 => some I4) fuel (nI k) M) (fun M => some M) n (fun k M => M = rgM I y 0 k x)
    (fun fuel k M hk hI => by
      refine ⟨wr M y k x, ?_, by rw [hI]; have := rgM_s I y 0 k x; rw [Nat.zero_add] at this; exact this⟩
      show J7_fill_53178_L1 y n x _ (fuel + 1) (nI k) M = _
      rw [J7_fill_53178_L1]
      rw [show Int32.ofNat n = nI n from rfl, if_neg (by rw [nI_le_iff (by omega) (by omega)]; omega), wrI_nI hk (by omega), bind_s, i_1, nI_sum])
    (fun fuel M hI => by
      show J7_fill_53178_L1 y n x _ (fuel + 1) (nI n) M = _
      rw [J7_fill_53178_L1]
      rw [show Int32.ofNat n = nI n from rfl, if_pos (Int32.le_refl _)])
    n bigF 0 I (by omega) (bigF_gt (by omega)) (rgM_0 I y 0 x).symm
  rw [hM] at he
  exact he
theorem makeRow_eq (J : xMem) {r : Nat} (hr : r < 6) (x : Int32) : X5_makeRow J (nI r) x = some (rgM (wr J 5 r x) 6 (40 * r) 40 0) := by
  unfold X5_makeRow
  rw [wrI_nI hr (by omega), bind_s]
  obtain ⟨M, hM, he⟩ := loop_I (fun fuel k (M : xMem) => X5_makeRow_L1 (nI r) (fun I5 => some I5) fuel (nI k) M) (fun M => some M) 40 (fun k M => M = rgM (wr J 5 r x) 6 (40 * r) k 0)
    (fun fuel k M hk hI => by
      refine ⟨wr M 6 (40 * r + k) 0, ?_, by rw [hI]; exact rgM_s _ _ _ _ _⟩
      show X5_makeRow_L1 (nI r) _ (fuel + 1) (nI k) M = _
      rw [X5_makeRow_L1]
      rw [if_neg (by rw [i_40, nI_le_iff (by omega) (by omega)]; omega), i_40, nI_mul, nI_sum, wrI_nI (by omega) (by omega), bind_s, i_1, nI_sum])
    (fun fuel M hI => by
      show X5_makeRow_L1 (nI r) _ (fuel + 1) (nI 40) M = _
      rw [X5_makeRow_L1]
      rw [if_pos (by rw [i_40]; exact Int32.le_refl _)])
    40 bigF 0 (wr J 5 r x) (by omega) (bigF_gt (by omega)) (rgM_0 _ _ _ _).symm
  rw [hM] at he
  exact he
theorem X5_text_loop (J : xMem) {t : Nat} (ht : t < 4) (x2 : Int32) : X5_text_L1 (nI t) (fun I8 => some (x2, I8)) bigF 0 J = some (x2, rgM J 8 (60 * t) 60 32) := by
  obtain ⟨M, hM, he⟩ := loop_I (fun fuel k (M : xMem) => X5_text_L1 (nI t) (fun I8 => some (x2, I8)) fuel (nI k) M) (fun M => some (x2, M)) 60 (fun k M => M = rgM J 8 (60 * t) k 32)
    (fun fuel k M hk hI => by
      refine ⟨wr M 8 (60 * t + k) 32, ?_, by rw [hI]; exact rgM_s _ _ _ _ _⟩
      show X5_text_L1 (nI t) _ (fuel + 1) (nI k) M = _
      rw [X5_text_L1]
      rw [if_neg (by rw [i_60, nI_le_iff (by omega) (by omega)]; omega), i_60, nI_mul, nI_sum, wrI_nI (by omega) (by omega), bind_s, i_1, nI_sum])
    (fun fuel M hI => by
      show X5_text_L1 (nI t) _ (fuel + 1) (nI 60) M = _
      rw [X5_text_L1]
      rw [if_pos (by rw [i_60]; exact Int32.le_refl _)])
    60 bigF 0 J (by omega) (bigF_gt (by omega)) (rgM_0 _ _ _ _).symm
  rw [hM] at he
  exact he
/-! the class's shelves -/
theorem hasNo_eq {I : xMem} {y N : Nat} (hm : I y 0 = nI N) (hN : N ≤ 6) (x : Int32) : X2_hasNo y I x = if ix x N then 0 else 1 := by
  have h0 : ((0 : Int32).toInt) = 0 := rfl
  unfold X2_hasNo
  rw [hm, nz_0, nz_1]
  simp only [Int32.lt_iff_toInt_lt, h0, nI_toInt (show N < 2 ^ 31 by omega), ix]
  by_cases h3 : x.toInt < 0
  · rw [if_pos h3, if_neg (by omega)]
  · rw [if_neg h3]
    by_cases h4 : x.toInt < (N : Int)
    · rw [if_pos h4, if_pos (by omega)]
    · rw [if_neg h4, if_neg (by omega)]
theorem nI_ne_m1 {s : Nat} (h : s < 2 ^ 31) : nI s ≠ -1 := by
  intro e
  have h1 := congrArg Int32.toInt e
  rw [nI_toInt h] at h1
  have h2 : ((-1 : Int32).toInt) = -1 := rfl
  omega
theorem missing_eq {I : xMem} {y N r : Nat} (hc : cLen (y + 1) = N) (hN : N ≤ 6) (hr : r < N) : X2_isMissing y I (nI r) = some (if I (y + 1) r = -1 then 1 else 0) := by
  unfold X2_isMissing
  rw [hc, rdI_nI hr (by omega), bind_s, nz_0, nz_1]
  split <;> rfl
theorem lacks_eq {I : xMem} {y N r s : Nat} (hc : cLen (y + 1) = N) (hN : N ≤ 6) (hr : r < N) (hs : s ≤ 60) (h : I (y + 1) r = nI s) (i n : Int32) : X2_lacks y I (nI r) i n = some (if 0 ≤ i.toInt ∧ i.toInt ≤ s ∧ n.toInt ≤ s - i.toInt then 0 else 1) := by
  have h0 : ((0 : Int32).toInt) = 0 := rfl
  unfold X2_lacks
  rw [hc, rdI_nI hr (by omega), bind_s, bind_s, h, nz_0, nz_1]
  by_cases c1 : i.toInt < 0
  · rw [if_pos (by rw [Int32.lt_iff_toInt_lt, h0]; exact c1), if_neg (by omega)]
  · rw [if_neg (by rw [Int32.lt_iff_toInt_lt, h0]; exact c1)]
    by_cases c2 : (s : Int) < i.toInt
    · rw [if_pos (by rw [Int32.lt_iff_toInt_lt, nI_toInt (by omega)]; exact c2), if_neg (by omega)]
    · rw [if_neg (by rw [Int32.lt_iff_toInt_lt, nI_toInt (by omega)]; exact c2)]
      obtain ⟨j, hj, rfl⟩ := nI_of (x := i) (by rw [Int32.lt_iff_toInt_lt, h0]; exact c1)
      rw [nI_toInt hj] at c2 ⊢
      rw [pk_sub (by omega)]
      by_cases c3 : n.toInt ≤ (s : Int) - (j : Int)
      · rw [if_pos (by rw [Int32.le_iff_toInt_le, nI_toInt (by omega)]; omega), if_pos (by omega)]
      · rw [if_neg (by rw [Int32.le_iff_toInt_le, nI_toInt (by omega)]; omega), if_neg (by omega)]
theorem refRow_eq {I : xMem} {y N : Nat} (hm : I y 0 = nI N) (hc : cLen (y + 1) = N) (hN : N ≤ 6) (x : Int32) : X4_refusedRow I y x = if ix x N then (if I (y + 1) x.toNatClampNeg = -1 then some (-3, cFnd I 1) else some (0, I)) else some (-1, I) := by
  unfold X4_refusedRow
  rw [hasNo_eq hm hN]
  by_cases hx : ix x N
  · rw [if_pos hx, if_pos rfl, if_pos hx]
    obtain ⟨r, hr, rfl⟩ := ix_of hx (by omega)
    rw [missing_eq hc hN hr, bind_s, nI_clamp (by omega)]
    by_cases h : I (y + 1) r = -1
    · rw [if_pos h, if_pos h, if_neg (by decide), i_1, found_eq I (by omega), bind_s]
    · rw [if_neg h, if_neg h, if_pos rfl]
  · rw [if_neg hx, if_neg hx, if_neg (by decide)]
theorem refPlace_eq {I : xMem} {y N r : Nat} (hm : I y 0 = nI N) (hc : cLen (y + 1) = N) (hN : N ≤ 6) (hr : r < N) (i : Int32) : X4_refusedPlace I y (nI r) i = if I (y + 1) r = -1 then some (-3, cFnd I 1) else (X2_lacks y I (nI r) i 1).bind fun v3 => if v3 = 0 then some (0, I) else some (-3, cFnd I 2) := by
  unfold X4_refusedPlace
  rw [refRow_eq hm hc hN, if_pos ((ix_nI (by omega)).mpr hr), nI_clamp (by omega)]
  by_cases h : I (y + 1) r = -1
  · rw [if_pos h, if_pos h, bind_s, ifm3]
  · rw [if_neg h, if_neg h, bind_s, if_pos rfl, i_2, found_eq I (by omega)]
    rfl
/-- a part of the rows that has changed -/
theorem Sim.ofR {I I' J J' : xMem} {L M : xLon} {P Dr : Nat} (h : Sim I L P Dr J M) (hI : ∀ k j, (k < 1 ∨ 16 < k) → I' k j = I k j) (hJ : ∀ k j, (k < 5 ∨ 8 < k) → J' k j = J k j) (hr : simR I' J') : Sim I' L P Dr J' M := by
  obtain ⟨p, r, f, l, v, d, T, U, E, S, w, a, b, c, k⟩ := h
  have hp := p
  unfold isPD at hp
  exact ⟨p, hr, f.congr (fun k j _ => hI _ _ (by omega)) (fun k j _ => hJ _ _ (by omega)), l, v, d, T, U, E, S, w, a.congr (fun k j _ _ => hI _ _ (by omega)) (fun k j _ => hJ _ _ (by omega)), b.congr (fun k j _ _ _ => hI _ _ (by omega)) (fun j _ _ => hJ _ _ (by omega)), c.congr (fun k _ _ => hI _ _ (by omega)), k.congr (fun k j _ _ => hI _ _ (by omega)) (fun j _ => hJ _ _ (by omega))⟩
section OPR
variable {I J : xMem} {L M : xLon} {P Dr : Nat}
theorem op_row (h : Sim I L P Dr J M) (x1 x2 : Int32) : Bt L P Dr M (X4_row I x1 x2) (X5_row J x1 x2) := by
  obtain ⟨⟨a1, a2, a3, a4, a5, a6⟩, b, c⟩ := h.2.1
  have h0 : ((0 : Int32).toInt) = 0 := rfl
  unfold X4_row X4_renewed X5_row
  rw [hasNo_eq a1 (by omega), isRow_spec, a2, i_40]
  by_cases hx : ix x1 6
  · rw [if_pos hx, if00, if_pos hx, if10]
    obtain ⟨r, hr, rfl⟩ := ix_of hx (by omega)
    by_cases h2 : x2 ≤ nI 40
    · rw [if_pos h2, if_pos h2]
      by_cases h3 : (0 : Int32) ≤ x2
      · rw [if_pos h3, if_pos h3]
        obtain ⟨s, hs, rfl⟩ := nI_of (x := x2) (by rw [Int32.lt_iff_toInt_lt, h0]; rw [Int32.le_iff_toInt_le, h0] at h3; omega)
        have hs40 : s ≤ 40 := (nI_le_iff hs (by omega)).mp h2
        rw [makeRow_eq J hr, bind_s]
        have hn : X2_renew 1 I (nI r) (nI s) = some (rgM (wr I 2 r (nI s)) (4 + r) 0 40 0) := by
          unfold X2_renew
          rw [show cLen (1 + 1) = 6 from rfl, show cLen (1 + 2) = 6 from rfl, show cLen (1 + 3) = 40 from rfl, wrI_nI hr (by omega), bind_s, rdX_nI hr (by omega), bind_s, fill_eq _ _ (by omega), bind_s, wr_off _ _ (show (1 : Nat) ≠ 1 + 1 ∨ 4 ≠ r by omega), a3]
          rw [show 1 + 2 + 1 + r = 4 + r by omega]
          rfl
        rw [hn, bind_s, bind_s]
        dsimp only
        refine Bt.mk rfl rfl rfl (h.ofR (fun k j hk => ?_) (fun k j hk => ?_) ⟨⟨?_, ?_, ?_, ?_, ?_, ?_⟩, fun q hq => ?_, fun q hq => ?_⟩)
        · rw [rgM_at, if_neg (by omega), wr_off _ _ (by omega)]
        · rw [rgM_at, if_neg (by omega), wr_off _ _ (by omega)]
        · rw [rgM_at, if_neg (by omega), wr_off _ _ (by omega)]; exact a1
        · rw [rgM_at, if_neg (by omega), wr_off _ _ (by omega)]; exact a2
        · rw [rgM_at, if_neg (by omega), wr_off _ _ (by omega)]; exact a3
        · rw [rgM_at, if_neg (by omega), wr_off _ _ (by omega)]; exact a4
        · rw [rgM_at, if_neg (by omega), wr_off _ _ (by omega)]; exact a5
        · rw [rgM_at, if_neg (by omega), wr_off _ _ (by omega)]; exact a6
        · obtain ⟨b1, b2, b3⟩ := b q hq
          rw [rgM_at, if_neg (by omega), rgM_at, if_neg (by omega)]
          by_cases e : q = r
          · subst e
            rw [wr_eq, wr_eq]
            exact ⟨Or.inr ⟨s, hs40, rfl⟩, rfl, fun i hi => by rw [rgM_at, if_pos (by omega), rgM_at, if_pos (by omega)]⟩
          · rw [wr_off _ _ (by omega), wr_off _ _ (by omega)]
            exact ⟨b1, b2, fun i hi => by rw [rgM_at, if_neg (by omega), rgM_at, if_neg (by omega), wr_off _ _ (by omega), wr_off _ _ (by omega)]; exact b3 i hi⟩
        · obtain ⟨c1, c2, c3⟩ := c q hq
          rw [rgM_at, if_neg (by omega), rgM_at, if_neg (by omega), wr_off _ _ (by omega), wr_off _ _ (by omega)]
          exact ⟨c1, c2, fun i hi => by rw [rgM_at, if_neg (by omega), rgM_at, if_neg (by omega), wr_off _ _ (by omega), wr_off _ _ (by omega)]; exact c3 i hi⟩
      · rw [if_neg h3, if_neg h3, i_5, found_eq I (by omega), find_eq J (by omega)]
        exact Bt.mk rfl rfl rfl (h.find (by omega) (by omega))
    · rw [if_neg h2, if_neg h2]
      exact Bt.mk rfl rfl rfl h
  · rw [if_neg hx, if10, if_neg hx, if00]
    exact Bt.mk rfl rfl rfl h
theorem op_text (h : Sim I L P Dr J M) (x1 x2 : Int32) : Bt L P Dr M (X4_text I x1 x2) (X5_text J x1 x2) := by
  obtain ⟨⟨a1, a2, a3, a4, a5, a6⟩, b, c⟩ := h.2.1
  have h0 : ((0 : Int32).toInt) = 0 := rfl
  unfold X4_text X4_renewed X5_text
  rw [hasNo_eq a4 (by omega), isText_spec, a5, i_60]
  by_cases hx : ix x1 4
  · rw [if_pos hx, if00, if_pos hx, if10]
    obtain ⟨r, hr, rfl⟩ := ix_of hx (by omega)
    by_cases h2 : x2 ≤ nI 60
    · rw [if_pos h2, if_pos h2]
      by_cases h3 : (0 : Int32) ≤ x2
      · rw [if_pos h3, if_pos h3]
        obtain ⟨s, hs, rfl⟩ := nI_of (x := x2) (by rw [Int32.lt_iff_toInt_lt, h0]; rw [Int32.le_iff_toInt_le, h0] at h3; omega)
        have hs40 : s ≤ 60 := (nI_le_iff hs (by omega)).mp h2
        rw [wrI_nI hr (by omega), bind_s, X5_text_loop _ hr]
        have hn : X2_renew 10 I (nI r) (nI s) = some (rgM (wr I 11 r (nI s)) (13 + r) 0 60 32) := by
          unfold X2_renew
          rw [show cLen (10 + 1) = 4 from rfl, show cLen (10 + 2) = 4 from rfl, show cLen (10 + 3) = 60 from rfl, wrI_nI hr (by omega), bind_s, rdX_nI hr (by omega), bind_s, fill_eq _ _ (by omega), bind_s, wr_off _ _ (show (10 : Nat) ≠ 10 + 1 ∨ 4 ≠ r by omega), a6]
          rw [show 10 + 2 + 1 + r = 13 + r by omega]
          rfl
        rw [hn, bind_s, bind_s]
        dsimp only
        refine Bt.mk rfl rfl rfl (h.ofR (fun k j hk => ?_) (fun k j hk => ?_) ⟨⟨?_, ?_, ?_, ?_, ?_, ?_⟩, fun q hq => ?_, fun q hq => ?_⟩)
        · rw [rgM_at, if_neg (by omega), wr_off _ _ (by omega)]
        · rw [rgM_at, if_neg (by omega), wr_off _ _ (by omega)]
        · rw [rgM_at, if_neg (by omega), wr_off _ _ (by omega)]; exact a1
        · rw [rgM_at, if_neg (by omega), wr_off _ _ (by omega)]; exact a2
        · rw [rgM_at, if_neg (by omega), wr_off _ _ (by omega)]; exact a3
        · rw [rgM_at, if_neg (by omega), wr_off _ _ (by omega)]; exact a4
        · rw [rgM_at, if_neg (by omega), wr_off _ _ (by omega)]; exact a5
        · rw [rgM_at, if_neg (by omega), wr_off _ _ (by omega)]; exact a6
        · obtain ⟨c1, c2, c3⟩ := b q hq
          rw [rgM_at, if_neg (by omega), rgM_at, if_neg (by omega), wr_off _ _ (by omega), wr_off _ _ (by omega)]
          exact ⟨c1, c2, fun i hi => by rw [rgM_at, if_neg (by omega), rgM_at, if_neg (by omega), wr_off _ _ (by omega), wr_off _ _ (by omega)]; exact c3 i hi⟩
        · obtain ⟨b1, b2, b3⟩ := c q hq
          rw [rgM_at, if_neg (by omega), rgM_at, if_neg (by omega)]
          by_cases e : q = r
          · subst e
            rw [wr_eq, wr_eq]
            exact ⟨Or.inr ⟨s, hs40, rfl⟩, rfl, fun i hi => by rw [rgM_at, if_pos (by omega), rgM_at, if_pos (by omega)]⟩
          · rw [wr_off _ _ (by omega), wr_off _ _ (by omega)]
            exact ⟨b1, b2, fun i hi => by rw [rgM_at, if_neg (by omega), rgM_at, if_neg (by omega), wr_off _ _ (by omega), wr_off _ _ (by omega)]; exact b3 i hi⟩
      · rw [if_neg h3, if_neg h3, i_5, found_eq I (by omega), find_eq J (by omega)]
        exact Bt.mk rfl rfl rfl (h.find (by omega) (by omega))
    · rw [if_neg h2, if_neg h2]
      exact Bt.mk rfl rfl rfl h
  · rw [if_neg hx, if10, if_neg hx, if00]
    exact Bt.mk rfl rfl rfl h
end OPR
