/-! PLACES OF ROWS -/
section OPR2
variable {I J : xMem} {L M : xLon} {P Dr : Nat}
theorem refPlace_s {I : xMem} {y N r s : Nat} (hm : I y 0 = nI N) (hc : cLen (y + 1) = N) (hN : N ≤ 6) (hr : r < N) (hs : s ≤ 60) (h : I (y + 1) r = nI s) (i : Int32) : X4_refusedPlace I y (nI r) i = if ix i s then some (0, I) else some (-3, cFnd I 2) := by
  rw [refPlace_eq hm hc hN hr, if_neg (by rw [h]; exact nI_ne_m1 (by omega)), lacks_eq hc hN hr hs h, bind_s]
  have h1 : ((1 : Int32).toInt) = 1 := rfl
  rw [h1]
  simp only [ix]
  by_cases c : 0 ≤ i.toInt ∧ i.toInt < (s : Int)
  · rw [if_pos (show 0 ≤ i.toInt ∧ i.toInt ≤ (s : Int) ∧ (1 : Int) ≤ s - i.toInt by omega), if00, if_pos c]
  · rw [if_neg (show ¬ (0 ≤ i.toInt ∧ i.toInt ≤ (s : Int) ∧ (1 : Int) ≤ s - i.toInt) by omega), if10, if_neg c]
theorem refPlace_m {I : xMem} {y N r : Nat} (hm : I y 0 = nI N) (hc : cLen (y + 1) = N) (hN : N ≤ 6) (hr : r < N) (h : I (y + 1) r = -1) (i : Int32) : X4_refusedPlace I y (nI r) i = some (-3, cFnd I 1) := by
  rw [refPlace_eq hm hc hN hr, if_pos h]
theorem refPlace_b {I : xMem} {y N : Nat} (hm : I y 0 = nI N) (hc : cLen (y + 1) = N) (hN : N ≤ 6) {x : Int32} (hx : ¬ ix x N) (i : Int32) : X4_refusedPlace I y x i = some (-1, I) := by
  unfold X4_refusedPlace
  rw [refRow_eq hm hc hN, if_neg hx, bind_s, ifm1]
theorem m1_neg : ¬ (0 : Int32) ≤ -1 := by decide
theorem nI_0le {s : Nat} (h : s < 2 ^ 31) : (0 : Int32) ≤ nI s := nI_pos' h
theorem refused_s {J : xMem} {r s : Nat} (hr : r < 6) (hs : s ≤ 60) (h : J 5 r = nI s) (i : Int32) : X5_refused J (nI r) i = if ix i s then some (0, J) else some (-3, mFnd J 2) := by
  unfold X5_refused
  rw [isRow_spec, if_pos ((ix_nI (by omega)).mpr hr), if10, rdI_nI hr (by omega), bind_s, bind_s, h, if_pos (nI_0le (by omega)), in_ix (by omega)]
  by_cases c : ix i s
  · rw [if_pos c, if10, if_pos c]
  · rw [if_neg c, if00, if_neg c, i_2, find_eq J (by omega), bind_s]
theorem refused_m {J : xMem} {r : Nat} (hr : r < 6) (h : J 5 r = -1) (i : Int32) : X5_refused J (nI r) i = some (-3, mFnd J 1) := by
  unfold X5_refused
  rw [isRow_spec, if_pos ((ix_nI (by omega)).mpr hr), if10, rdI_nI hr (by omega), bind_s, h, if_neg m1_neg, i_1, find_eq J (by omega), bind_s]
theorem refused_b {J : xMem} {x : Int32} (hx : ¬ ix x 6) (i : Int32) : X5_refused J x i = some (-1, J) := by
  unfold X5_refused
  rw [isRow_spec, if_neg hx, if00]
theorem tell_eq (J : xMem) (x : Int32) : X5_tell J x = some (1, wr J 0 11 x) := rfl
theorem Sim.item (h : Sim I L P Dr J M) {r i : Nat} (hr : r < 6) (hi : i < 40) : J 6 (40 * r + i) = I (4 + r) i := (h.2.1.2.1 r hr).2.2 i hi
theorem Sim.size (h : Sim I L P Dr J M) {r : Nat} (hr : r < 6) : (I 2 r = -1 ∧ J 5 r = -1) ∨ ∃ s, s ≤ 40 ∧ I 2 r = nI s ∧ J 5 r = nI s := by
  obtain ⟨h1, h2, -⟩ := h.2.1.2.1 r hr
  rcases h1 with h1 | ⟨s, hs, h1⟩
  · exact Or.inl ⟨h1, by rw [h2, h1]⟩
  · exact Or.inr ⟨s, hs, h1, by rw [h2, h1]⟩
theorem Sim.tsize (h : Sim I L P Dr J M) {r : Nat} (hr : r < 4) : (I 11 r = -1 ∧ J 7 r = -1) ∨ ∃ s, s ≤ 60 ∧ I 11 r = nI s ∧ J 7 r = nI s := by
  obtain ⟨h1, h2, -⟩ := h.2.1.2.2 r hr
  rcases h1 with h1 | ⟨s, hs, h1⟩
  · exact Or.inl ⟨h1, by rw [h2, h1]⟩
  · exact Or.inr ⟨s, hs, h1, by rw [h2, h1]⟩
/-- a place of a row is written on both sides -/
theorem Sim.lay (h : Sim I L P Dr J M) {r i : Nat} (hr : r < 6) (hi : i < 40) (x : Int32) : Sim (wr I (4 + r) i x) L P Dr (wr J 6 (40 * r + i) x) M := by
  obtain ⟨⟨a1, a2, a3, a4, a5, a6⟩, b, c⟩ := h.2.1
  refine h.ofR (fun k j hk => wr_off _ _ (by omega)) (fun k j hk => wr_off _ _ (by omega)) ⟨⟨?_, ?_, ?_, ?_, ?_, ?_⟩, fun q hq => ?_, fun q hq => ?_⟩
  · rw [wr_off _ _ (by omega)]; exact a1
  · rw [wr_off _ _ (by omega)]; exact a2
  · rw [wr_off _ _ (by omega)]; exact a3
  · rw [wr_off _ _ (by omega)]; exact a4
  · rw [wr_off _ _ (by omega)]; exact a5
  · rw [wr_off _ _ (by omega)]; exact a6
  · obtain ⟨b1, b2, b3⟩ := b q hq
    rw [wr_off _ _ (by omega), wr_off _ _ (by omega)]
    refine ⟨b1, b2, fun t ht => ?_⟩
    rw [wr_at, wr_at]
    by_cases e : q = r ∧ t = i
    · rw [if_pos (by omega), if_pos (by omega)]
    · rw [if_neg (by omega), if_neg (by omega)]
      exact b3 t ht
  · obtain ⟨c1, c2, c3⟩ := c q hq
    rw [wr_off _ _ (by omega), wr_off _ _ (by omega)]
    exact ⟨c1, c2, fun t ht => by rw [wr_off _ _ (by omega), wr_off _ _ (by omega)]; exact c3 t ht⟩
theorem op_lay (h : Sim I L P Dr J M) (x1 x2 x3 : Int32) : Bt L P Dr M (X4_lay I x1 x2 x3) (X5_lay J x1 x2 x3) := by
  have a1 := h.2.1.1.1
  unfold X4_lay X5_lay
  by_cases hx : ix x1 6
  · obtain ⟨r, hr, rfl⟩ := ix_of hx (by omega)
    rcases h.size hr with ⟨z1, z2⟩ | ⟨s, hs, z1, z2⟩
    · rw [refPlace_m a1 rfl (by omega) hr z1, refused_m hr z2, bind_s, bind_s]
      dsimp only
      rw [ifm3, ifm3]
      exact Bt.mk rfl rfl rfl (h.find (by omega) (by omega))
    · rw [refPlace_s a1 rfl (by omega) hr (by omega) z1, refused_s hr (by omega) z2]
      by_cases c : ix x2 s
      · rw [if_pos c, if_pos c, bind_s, bind_s]
        obtain ⟨i, hi, rfl⟩ := ix_of c (by omega)
        dsimp only
        rw [if00, if00, rdX_nI hr (by omega), bind_s, rdI_nI (by omega) (by omega), bind_s, bind_s, bind_s, wrI_nI (by omega) (by omega), bind_s, i_40, nI_mul, nI_sum, rdI_nI (by omega) (by omega), bind_s, wrI_nI (by omega) (by omega), bind_s, tell_eq, bind_s, h.item hr (by omega)]
        have h2 := (h.lay hr (show i < 40 by omega) x3).told (I (4 + r) i)
        rw [show 3 + 1 + r = 4 + r by omega]
        have e : wr (wr I 0 10 (I (4 + r) i)) (4 + r) i x3 = wr (wr I (4 + r) i x3) 0 10 (I (4 + r) i) := by
          funext a b
          simp only [wr_at]
          by_cases q1 : a = 4 + r ∧ b = i
          · rw [if_pos q1, if_neg (by omega), if_pos q1]
          · rw [if_neg q1, if_neg q1]
        rw [e]
        exact Bt.mk rfl rfl rfl h2
      · rw [if_neg c, if_neg c, bind_s, bind_s]
        dsimp only
        rw [ifm3, ifm3]
        exact Bt.mk rfl rfl rfl (h.find (by omega) (by omega))
  · rw [refPlace_b a1 rfl (by omega) hx, refused_b hx, bind_s, bind_s]
    dsimp only
    rw [ifm1, ifm1]
    exact Bt.mk rfl rfl rfl h
theorem op_at (h : Sim I L P Dr J M) (x1 x2 : Int32) : Bt L P Dr M (X4_at I x1 x2) (X5_at J x1 x2) := by
  have a1 := h.2.1.1.1
  unfold X4_at X5_at
  by_cases hx : ix x1 6
  · obtain ⟨r, hr, rfl⟩ := ix_of hx (by omega)
    rcases h.size hr with ⟨z1, z2⟩ | ⟨s, hs, z1, z2⟩
    · rw [refPlace_m a1 rfl (by omega) hr z1, refused_m hr z2, bind_s, bind_s]
      dsimp only
      rw [ifm3, ifm3]
      exact Bt.mk rfl rfl rfl (h.find (by omega) (by omega))
    · rw [refPlace_s a1 rfl (by omega) hr (by omega) z1, refused_s hr (by omega) z2]
      by_cases c : ix x2 s
      · rw [if_pos c, if_pos c, bind_s, bind_s]
        obtain ⟨i, hi, rfl⟩ := ix_of c (by omega)
        dsimp only
        rw [if00, if00, rdX_nI hr (by omega), bind_s, rdI_nI (by omega) (by omega), bind_s, bind_s, i_40, nI_mul, nI_sum, rdI_nI (by omega) (by omega), bind_s, tell_eq, bind_s, h.item hr (by omega), show 3 + 1 + r = 4 + r by omega]
        exact Bt.mk rfl rfl rfl (h.told _)
      · rw [if_neg c, if_neg c, bind_s, bind_s]
        dsimp only
        rw [ifm3, ifm3]
        exact Bt.mk rfl rfl rfl (h.find (by omega) (by omega))
  · rw [refPlace_b a1 rfl (by omega) hx, refused_b hx, bind_s, bind_s]
    dsimp only
    rw [ifm1, ifm1]
    exact Bt.mk rfl rfl rfl h
theorem op_tear (h : Sim I L P Dr J M) (x1 : Int32) : Bt L P Dr M (X4_tear I x1) (X5_tear J x1) := by
  obtain ⟨⟨a1, a2, a3, a4, a5, a6⟩, b, c⟩ := h.2.1
  unfold X4_tear X5_tear
  rw [refRow_eq a1 rfl (by omega), isRow_spec]
  by_cases hx : ix x1 6
  · rw [if_pos hx, if_pos hx, if10]
    obtain ⟨r, hr, rfl⟩ := ix_of hx (by omega)
    rw [nI_clamp (by omega), rdI_nI hr (by omega), bind_s]
    rcases h.size hr with ⟨z1, z2⟩ | ⟨s, hs, z1, z2⟩
    · rw [if_pos z1, z2, if_neg m1_neg, bind_s, i_1, find_eq J (by omega), bind_s]
      dsimp only
      rw [ifm3]
      exact Bt.mk rfl rfl rfl (h.find (by omega) (by omega))
    · rw [if_neg (by show I 2 r ≠ -1; rw [z1]; exact nI_ne_m1 (by omega)), z2, if_pos (nI_0le (by omega)), bind_s]
      dsimp only
      rw [if00, show cLen 2 = 6 from rfl, wrI_nI hr (by omega), bind_s, wrI_nI hr (by omega), bind_s]
      refine Bt.mk rfl rfl rfl (h.ofR (fun k j hk => wr_off _ _ (by omega)) (fun k j hk => wr_off _ _ (by omega)) ⟨⟨?_, ?_, ?_, ?_, ?_, ?_⟩, fun q hq => ?_, fun q hq => ?_⟩)
      · rw [wr_off _ _ (by omega)]; exact a1
      · rw [wr_off _ _ (by omega)]; exact a2
      · rw [wr_off _ _ (by omega)]; exact a3
      · rw [wr_off _ _ (by omega)]; exact a4
      · rw [wr_off _ _ (by omega)]; exact a5
      · rw [wr_off _ _ (by omega)]; exact a6
      · obtain ⟨b1, b2, b3⟩ := b q hq
        by_cases e : q = r
        · subst e
          rw [wr_eq, wr_eq]
          exact ⟨Or.inl rfl, rfl, fun t ht => by rw [wr_off _ _ (by omega), wr_off _ _ (by omega)]; exact b3 t ht⟩
        · rw [wr_off _ _ (by omega), wr_off _ _ (by omega)]
          exact ⟨b1, b2, fun t ht => by rw [wr_off _ _ (by omega), wr_off _ _ (by omega)]; exact b3 t ht⟩
      · obtain ⟨c1, c2, c3⟩ := c q hq
        rw [wr_off _ _ (by omega), wr_off _ _ (by omega)]
        exact ⟨c1, c2, fun t ht => by rw [wr_off _ _ (by omega), wr_off _ _ (by omega)]; exact c3 t ht⟩
  · rw [if_neg hx, if_neg hx, if00, bind_s]
    dsimp only
    rw [ifm1]
    exact Bt.mk rfl rfl rfl h
theorem op_put (h : Sim I L P Dr J M) (x1 x2 x3 : Int32) : Bt L P Dr M (X4_put I x1 x2 x3) (X5_put J x1 x2 x3) := by
  obtain ⟨⟨a1, a2, a3, a4, a5, a6⟩, b, c⟩ := h.2.1
  unfold X4_put X5_put
  rw [isText_spec]
  by_cases hx : ix x1 4
  · rw [if_pos hx, if10]
    obtain ⟨r, hr, rfl⟩ := ix_of hx (by omega)
    rw [rdI_nI hr (by omega), bind_s, bind_s]
    rcases h.tsize hr with ⟨z1, z2⟩ | ⟨s, hs, z1, z2⟩
    · rw [refPlace_m a4 rfl (by omega) hr z1, z2, if_neg m1_neg, bind_s, i_1, find_eq J (by omega), bind_s]
      dsimp only
      rw [ifm3]
      exact Bt.mk rfl rfl rfl (h.find (by omega) (by omega))
    · rw [refPlace_s a4 rfl (by omega) hr (by omega) z1, z2, if_pos (nI_0le (by omega)), in_ix (by omega)]
      by_cases cc : ix x2 s
      · rw [if_pos cc, if_pos cc, if10, bind_s]
        obtain ⟨i, hi, rfl⟩ := ix_of cc (by omega)
        dsimp only
        rw [if00, rdX_nI hr (by omega), bind_s, rdI_nI (by omega) (by omega), bind_s, bind_s, wrI_nI (by omega) (by omega), bind_s, i_60, nI_mul, nI_sum, rdI_nI (by omega) (by omega), bind_s, wrI_nI (by omega) (by omega), bind_s, (c r hr).2.2 i (by omega), show 12 + 1 + r = 13 + r by omega]
        refine Bt.mk rfl rfl rfl (h.ofR (fun k j hk => wr_off _ _ (by omega)) (fun k j hk => wr_off _ _ (by omega)) ⟨⟨?_, ?_, ?_, ?_, ?_, ?_⟩, fun q hq => ?_, fun q hq => ?_⟩)
        · rw [wr_off _ _ (by omega)]; exact a1
        · rw [wr_off _ _ (by omega)]; exact a2
        · rw [wr_off _ _ (by omega)]; exact a3
        · rw [wr_off _ _ (by omega)]; exact a4
        · rw [wr_off _ _ (by omega)]; exact a5
        · rw [wr_off _ _ (by omega)]; exact a6
        · obtain ⟨c1, c2, c3⟩ := b q hq
          rw [wr_off _ _ (by omega), wr_off _ _ (by omega)]
          exact ⟨c1, c2, fun t ht => by rw [wr_off _ _ (by omega), wr_off _ _ (by omega)]; exact c3 t ht⟩
        · obtain ⟨b1, b2, b3⟩ := c q hq
          rw [wr_off _ _ (by omega), wr_off _ _ (by omega)]
          refine ⟨b1, b2, fun t ht => ?_⟩
          rw [wr_at, wr_at]
          by_cases e : q = r ∧ t = i
          · rw [if_pos (by omega), if_pos (by omega)]
          · rw [if_neg (by omega), if_neg (by omega)]
            exact b3 t ht
      · rw [if_neg cc, if_neg cc, if00, bind_s, i_2, find_eq J (by omega), bind_s]
        dsimp only
        rw [ifm3]
        exact Bt.mk rfl rfl rfl (h.find (by omega) (by omega))
  · rw [refPlace_b a4 rfl (by omega) hx, if_neg hx, if00, bind_s]
    dsimp only
    rw [ifm1]
    exact Bt.mk rfl rfl rfl h
theorem lng_ne0 {s : Nat} (h0 : s ≠ 0) (h : s < 2 ^ 31) : ¬ (nI s).toInt64 = 0 := by
  intro e
  have h1 := congrArg Int64.toInt e
  rw [t64, nI_toInt h] at h1
  have h2 : ((0 : Int64).toInt) = 0 := rfl
  omega
theorem op_mean (h : Sim I L P Dr J M) (x1 : Int32) : Bt L P Dr M (X4_mean I x1) (X5_mean J x1) := by
  have a1 := h.2.1.1.1
  unfold X4_mean X5_mean
  rw [refRow_eq a1 rfl (by omega), isRow_spec]
  by_cases hx : ix x1 6
  · rw [if_pos hx, if_pos hx, if10]
    obtain ⟨r, hr, rfl⟩ := ix_of hx (by omega)
    rw [nI_clamp (by omega), rdI_nI hr (by omega), bind_s, bind_s]
    rcases h.size hr with ⟨z1, z2⟩ | ⟨s, hs, z1, z2⟩
    · rw [if_pos z1, z2, if_neg m1_neg, bind_s, i_1, find_eq J (by omega), bind_s]
      dsimp only
      rw [ifm3]
      exact Bt.mk rfl rfl rfl (h.find (by omega) (by omega))
    · rw [if_neg (by show I 2 r ≠ -1; rw [z1]; exact nI_ne_m1 (by omega)), z2, if_pos (nI_0le (by omega)), bind_s]
      dsimp only
      rw [if00, show cLen 2 = 6 from rfl, rdI_nI hr (by omega), bind_s, z1]
      by_cases c : s = 0
      · rw [if_pos (by rw [c]; rfl), if_pos (by rw [c]; rfl), i_4, found_eq I (by omega), find_eq J (by omega), bind_s, bind_s]
        exact Bt.mk rfl rfl rfl (h.find (by omega) (by omega))
      · have cn : ¬ nI s = 0 := by
          rw [i_0, nI_eq_iff (by omega) (by omega)]
          exact c
        rw [if_neg cn, if_neg cn]
        have e1 : X2_sum 1 I (nI r) = some (foldF (fun k (a : Int64) => a + (I (4 + r) k).toInt64) 0 s 0) := by
          unfold X2_sum
          exact loop_F (fun fuel k (a : Int64) => X2_sum_L1 1 I (nI r) (fun z => some z) fuel a (nI k)) (fun a => some a) s (fun k a => a + (I (4 + r) k).toInt64) (fun _ _ => True)
            (fun fuel k a hk _ => ⟨by
              show X2_sum_L1 1 I (nI r) _ (fuel + 1) a (nI k) = _
              rw [X2_sum_L1]
              rw [show cLen (1 + 1) = 6 from rfl, show cLen (1 + 2) = 6 from rfl, show cLen (1 + 3) = 40 from rfl, rdI_nI hr (by omega), bind_s, show I (1 + 1) r = nI s from z1, if_neg (by rw [nI_le_iff (by omega) (by omega)]; omega), rdX_nI hr (by omega), bind_s, rdI_nI (by omega) (by omega), bind_s, show 1 + 2 + 1 + r = 4 + r by omega, i_1, nI_sum], trivial⟩)
            (fun fuel a _ => by
              show X2_sum_L1 1 I (nI r) _ (fuel + 1) a (nI s) = _
              rw [X2_sum_L1]
              rw [show cLen (1 + 1) = 6 from rfl, rdI_nI hr (by omega), bind_s, show I (1 + 1) r = nI s from z1, if_pos (Int32.le_refl _)])
            s bigF 0 0 (by omega) (bigF_gt (by omega)) trivial
        have e2 : ∀ K : Int64 → Option (Int32 × xMem), X5_mean_L1 J (nI r) K bigF 0 0 = K (foldF (fun k (a : Int64) => a + (I (4 + r) k).toInt64) 0 s 0) := by
          intro K
          exact loop_F (fun fuel k (a : Int64) => X5_mean_L1 J (nI r) K fuel a (nI k)) K s (fun k a => a + (I (4 + r) k).toInt64) (fun _ _ => True)
            (fun fuel k a hk _ => ⟨by
              show X5_mean_L1 J (nI r) _ (fuel + 1) a (nI k) = _
              rw [X5_mean_L1]
              rw [rdI_nI hr (by omega), bind_s, z2, if_neg (by rw [nI_le_iff (by omega) (by omega)]; omega), i_40, nI_mul, nI_sum, rdI_nI (by omega) (by omega), bind_s, h.item hr (by omega), i_1, nI_sum], trivial⟩)
            (fun fuel a _ => by
              show X5_mean_L1 J (nI r) _ (fuel + 1) a (nI s) = _
              rw [X5_mean_L1]
              rw [rdI_nI hr (by omega), bind_s, z2, if_pos (Int32.le_refl _)])
            s bigF 0 0 (by omega) (bigF_gt (by omega)) trivial
        rw [e1, e2, bind_s, bind_s, bind_s]
        have ed : ∀ y, dvL y (nI s).toInt64 = some (y / (nI s).toInt64) := fun y => by
          unfold dvL
          rw [if_neg (lng_ne0 c (by omega))]
        rw [ed, bind_s, bind_s, bind_s, tell_eq, bind_s]
        exact Bt.mk rfl rfl rfl (h.told _)
  · rw [if_neg hx, if_neg hx, if00, bind_s]
    dsimp only
    rw [ifm1]
    exact Bt.mk rfl rfl rfl h
end OPR2
