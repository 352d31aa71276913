/-! COPY -/
/-- places lo .. hi of a stretch at b of the items come from the stretch at a, as it was -/
def rcM (J : xMem) (a b lo hi : Nat) : xMem := fun y => if y = 6 then (fun q => if b + lo ≤ q ∧ q < b + hi then J 6 (a + (q - b)) else J 6 q) else J y
theorem rcM_at (J : xMem) (a b lo hi y q : Nat) : rcM J a b lo hi y q = if y = 6 ∧ b + lo ≤ q ∧ q < b + hi then J 6 (a + (q - b)) else J y q := by
  unfold rcM
  by_cases h : y = 6
  · subst h
    simp
  · simp [h]
section OPC
variable {I J : xMem} {L M : xLon} {P Dr : Nat}
theorem span_eq {J : xMem} {r s : Nat} (hr : r < 6) (hs : s ≤ 60) (h : J 5 r = nI s) {i n : Int32} (hn : 0 ≤ n.toInt) : X5_isSpan J (nI r) i n = some (if 0 ≤ i.toInt ∧ i.toInt ≤ s ∧ n.toInt ≤ s - i.toInt then 1 else 0) := by
  have h0 : ((0 : Int32).toInt) = 0 := rfl
  unfold X5_isSpan
  rw [nz_0, nz_1]
  by_cases c : i.toInt < 0
  · rw [if_pos (by rw [Int32.lt_iff_toInt_lt, h0]; exact c), if_neg (by omega)]
  · rw [if_neg (by rw [Int32.lt_iff_toInt_lt, h0]; exact c), rdI_nI hr (by omega), bind_s, h]
    have hl := i.toInt_lt
    have hl2 := n.toInt_lt
    have e : (i.toInt64 + n.toInt64).toInt = i.toInt + n.toInt := by
      rw [Int64.toInt_add, t64, t64, Int.bmod_eq_of_le (by omega) (by omega)]
    simp only [lg_gt0]
    rw [e, t64, nI_toInt (by omega)]
    by_cases d : (s : Int) < i.toInt + n.toInt
    · rw [if_pos d, if_neg (by omega)]
    · rw [if_neg d, if_pos (by omega)]
theorem copy_loop (J : xMem) {r t i j n : Nat} (hr : r < 6) (ht : t < 6) (hi : i + n ≤ 40) (hj : j + n ≤ 40) : X5_copy_L1 (nI r) (nI i) (nI t) (nI j) (nI n) (if i < j then 1 else 0) (fun I19 => some (1, I19)) bigF 0 J = some (1, rcM J (40 * r + i) (40 * t + j) 0 n) := by
  by_cases bk : i < j
  · rw [if_pos bk]
    obtain ⟨M, hM, he⟩ := loop_I (fun fuel k (M : xMem) => X5_copy_L1 (nI r) (nI i) (nI t) (nI j) (nI n) 1 (fun I19 => some (1, I19)) fuel (nI k) M) (fun M => some (1, M)) n (fun k M => M = rcM J (40 * r + i) (40 * t + j) (n - k) n)
      (fun fuel k M hk hI => by
        refine ⟨rcM J (40 * r + i) (40 * t + j) (n - (k + 1)) n, ?_, rfl⟩
        show X5_copy_L1 (nI r) (nI i) (nI t) (nI j) (nI n) 1 _ (fuel + 1) (nI k) M = _
        rw [X5_copy_L1]
        rw [if_neg (by rw [nI_le_iff (by omega) (by omega)]; omega), if10, bind_s, i_1, pk_sub (by omega), pk_sub (by omega), i_40, nI_mul, nI_mul, nI_sum, nI_sum, nI_sum, nI_sum, rdI_nI (by omega) (by omega), bind_s, wrI_nI (by omega) (by omega), bind_s, nI_sum]
        congr 1
        rw [hI]
        funext y q
        rw [wr_at, rcM_at, rcM_at, rcM_at]
        by_cases e : y = 6 ∧ q = 40 * t + j + (n - 1 - k)
        · rw [if_pos e, if_neg (by omega), if_pos (by omega), show 40 * r + i + (q - (40 * t + j)) = 40 * r + i + (n - 1 - k) by omega]
        · rw [if_neg e]
          by_cases e2 : y = 6 ∧ 40 * t + j + (n - k) ≤ q ∧ q < 40 * t + j + n
          · rw [if_pos e2, if_pos (by omega)]
          · rw [if_neg e2, if_neg (by omega)])
      (fun fuel M hI => by
        show X5_copy_L1 (nI r) (nI i) (nI t) (nI j) (nI n) 1 _ (fuel + 1) (nI n) M = _
        rw [X5_copy_L1]
        rw [if_pos (Int32.le_refl _)])
      n bigF 0 J (by omega) (bigF_gt (by omega)) (by
        funext y q
        rw [rcM_at, if_neg (by omega)])
    rw [hM, show n - n = 0 by omega] at he
    exact he
  · rw [if_neg bk]
    obtain ⟨M, hM, he⟩ := loop_I (fun fuel k (M : xMem) => X5_copy_L1 (nI r) (nI i) (nI t) (nI j) (nI n) 0 (fun I19 => some (1, I19)) fuel (nI k) M) (fun M => some (1, M)) n (fun k M => M = rcM J (40 * r + i) (40 * t + j) 0 k)
      (fun fuel k M hk hI => by
        refine ⟨rcM J (40 * r + i) (40 * t + j) 0 (k + 1), ?_, rfl⟩
        show X5_copy_L1 (nI r) (nI i) (nI t) (nI j) (nI n) 0 _ (fuel + 1) (nI k) M = _
        rw [X5_copy_L1]
        rw [if_neg (by rw [nI_le_iff (by omega) (by omega)]; omega), if00, bind_s, i_1, i_40, nI_mul, nI_mul, nI_sum, nI_sum, nI_sum, nI_sum, rdI_nI (by omega) (by omega), bind_s, wrI_nI (by omega) (by omega), bind_s, nI_sum]
        congr 1
        rw [hI]
        funext y q
        rw [wr_at, rcM_at, rcM_at, rcM_at]
        by_cases e : y = 6 ∧ q = 40 * t + j + k
        · rw [if_pos e, if_neg (by omega), if_pos (by omega), show 40 * r + i + (q - (40 * t + j)) = 40 * r + i + k by omega]
        · rw [if_neg e]
          by_cases e2 : y = 6 ∧ 40 * t + j + 0 ≤ q ∧ q < 40 * t + j + k
          · rw [if_pos e2, if_pos (by omega)]
          · rw [if_neg e2, if_neg (by omega)])
      (fun fuel M hI => by
        show X5_copy_L1 (nI r) (nI i) (nI t) (nI j) (nI n) 0 _ (fuel + 1) (nI n) M = _
        rw [X5_copy_L1]
        rw [if_pos (Int32.le_refl _)])
      n bigF 0 J (by omega) (bigF_gt (by omega)) (by
        funext y q
        rw [rcM_at, if_neg (by omega)])
    rw [hM] at he
    exact he
theorem op_copy (h : Sim I L P Dr J M) (x1 x2 x3 x4 x5 : Int32) : Bt L P Dr M (X4_copy I x1 x2 x3 x4 x5) (X5_copy J x1 x2 x3 x4 x5) := by
  obtain ⟨⟨a1, a2, a3, a4, a5, a6⟩, b, c⟩ := h.2.1
  have h0 : ((0 : Int32).toInt) = 0 := rfl
  unfold X4_copy X5_copy
  rw [hasNo_eq a1 (by omega), hasNo_eq a1 (by omega), isRow_spec, isRow_spec]
  by_cases hx : ix x1 6
  · rw [if_pos hx, if_pos hx, if00, if10]
    by_cases hy : ix x3 6
    · rw [if_pos hy, if_pos hy, if00, if10]
      obtain ⟨r, hr, rfl⟩ := ix_of hx (by omega)
      obtain ⟨t, ht, rfl⟩ := ix_of hy (by omega)
      by_cases h5 : (0 : Int32) ≤ x5
      · rw [if_pos h5, if_pos h5]
        have h5' : 0 ≤ x5.toInt := by
          rw [Int32.le_iff_toInt_le, h0] at h5
          exact h5
        rw [missing_eq (y := 1) (N := 6) rfl (by omega) hr, missing_eq (y := 1) (N := 6) rfl (by omega) ht, bind_s, bind_s, rdI_nI hr (by omega), bind_s, rdI_nI ht (by omega), bind_s]
        rcases h.size hr with ⟨z1, z2⟩ | ⟨s, hs, z1, z2⟩
        · rw [if_pos (show I (1 + 1) r = -1 from z1), if10, z2, if_pos (by decide), i_1, found_eq I (by omega), find_eq J (by omega), bind_s, bind_s]
          exact Bt.mk rfl rfl rfl (h.find (by omega) (by omega))
        · rw [if_neg (show ¬ I (1 + 1) r = -1 by show I 2 r ≠ -1; rw [z1]; exact nI_ne_m1 (by omega)), if00, z2, if_neg (nI_pos (by omega))]
          rcases h.size ht with ⟨w1, w2⟩ | ⟨u, hu, w1, w2⟩
          · rw [if_pos (show I (1 + 1) t = -1 from w1), if10, w2, if_neg m1_neg, i_1, found_eq I (by omega), find_eq J (by omega), bind_s, bind_s]
            exact Bt.mk rfl rfl rfl (h.find (by omega) (by omega))
          · rw [if_neg (show ¬ I (1 + 1) t = -1 by show I 2 t ≠ -1; rw [w1]; exact nI_ne_m1 (by omega)), if00, w2, if_pos (nI_0le (by omega))]
            rw [lacks_eq (y := 1) (N := 6) rfl (by omega) hr (by omega) z1, lacks_eq (y := 1) (N := 6) rfl (by omega) ht (by omega) w1, bind_s, bind_s, span_eq hr (by omega) z2 h5', span_eq ht (by omega) w2 h5', bind_s, bind_s]
            by_cases p1 : 0 ≤ x2.toInt ∧ x2.toInt ≤ (s : Int) ∧ x5.toInt ≤ s - x2.toInt
            · rw [if_pos p1, if00, if_pos p1, if10]
              by_cases p2 : 0 ≤ x4.toInt ∧ x4.toInt ≤ (u : Int) ∧ x5.toInt ≤ u - x4.toInt
              · rw [if_pos p2, if00, if_pos p2, if10]
                obtain ⟨i, hi, rfl⟩ := nI_of (x := x2) (by rw [Int32.lt_iff_toInt_lt, h0]; omega)
                obtain ⟨j, hj, rfl⟩ := nI_of (x := x4) (by rw [Int32.lt_iff_toInt_lt, h0]; omega)
                obtain ⟨n, hn, rfl⟩ := nI_of (x := x5) (by rw [Int32.lt_iff_toInt_lt, h0]; omega)
                rw [nI_toInt hi, nI_toInt hn] at p1
                rw [nI_toInt hj, nI_toInt hn] at p2
                have hfl : (if nI j ≤ nI i then some (0 : Int32) else some 1).bind (fun q14 => X5_copy_L1 (nI r) (nI i) (nI t) (nI j) (nI n) q14 (fun I19 => some (1, I19)) bigF 0 J) = X5_copy_L1 (nI r) (nI i) (nI t) (nI j) (nI n) (if i < j then 1 else 0) (fun I19 => some (1, I19)) bigF 0 J := by
                  by_cases q : i < j
                  · rw [if_neg (by rw [nI_le_iff (by omega) (by omega)]; omega), if_pos q, bind_s]
                  · rw [if_pos (by rw [nI_le_iff (by omega) (by omega)]; omega), if_neg q, bind_s]
                rw [hfl, copy_loop J hr ht (by omega) (by omega), rdX_nI hr (by omega), bind_s, rdX_nI ht (by omega), bind_s]
                have hcp : cpI I (3 + 1 + r) 40 (nI i) (3 + 1 + t) 40 (nI j) (nI n) = some (cpM I (4 + r) i (4 + t) j n) := by
                  unfold cpI
                  rw [nI_toInt hi, nI_toInt hj, nI_toInt hn, nI_clamp hi, nI_clamp hj, nI_clamp hn, if_pos (by omega)]
                rw [hcp, bind_s]
                have cat : ∀ y q, cpM I (4 + r) i (4 + t) j n y q = if y = 4 + t ∧ j ≤ q ∧ q < j + n then I (4 + r) (i + (q - j)) else I y q := by
                  intro y q
                  unfold cpM va_cpy
                  by_cases e : y = 4 + t
                  · subst e
                    simp
                  · simp [e]
                refine Bt.mk rfl rfl rfl (h.ofR (fun k q hk => ?_) (fun k q hk => ?_) ⟨⟨?_, ?_, ?_, ?_, ?_, ?_⟩, fun q hq => ?_, fun q hq => ?_⟩)
                · rw [cat, if_neg (by omega)]
                · rw [rcM_at, if_neg (by omega)]
                · rw [cat, if_neg (by omega)]; exact a1
                · rw [cat, if_neg (by omega)]; exact a2
                · rw [cat, if_neg (by omega)]; exact a3
                · rw [cat, if_neg (by omega)]; exact a4
                · rw [cat, if_neg (by omega)]; exact a5
                · rw [cat, if_neg (by omega)]; exact a6
                · obtain ⟨b1, b2, b3⟩ := b q hq
                  rw [cat, if_neg (by omega), rcM_at, if_neg (by omega)]
                  refine ⟨b1, b2, fun k hk => ?_⟩
                  rw [cat, rcM_at]
                  by_cases e : q = t ∧ j ≤ k ∧ k < j + n
                  · rw [if_pos (by omega), if_pos (by omega), ← h.item hr (by omega)]
                    congr 1
                    omega
                  · rw [if_neg (by omega), if_neg (by omega)]
                    exact b3 k hk
                · obtain ⟨c1, c2, c3⟩ := c q hq
                  rw [cat, if_neg (by omega), rcM_at, if_neg (by omega)]
                  exact ⟨c1, c2, fun k hk => by rw [cat, if_neg (by omega), rcM_at, if_neg (by omega)]; exact c3 k hk⟩
              · rw [if_neg p2, if10, if_neg p2, if00, i_2, found_eq I (by omega), find_eq J (by omega), bind_s, bind_s]
                exact Bt.mk rfl rfl rfl (h.find (by omega) (by omega))
            · rw [if_neg p1, if10, if_neg p1, if00, i_2, found_eq I (by omega), find_eq J (by omega), bind_s, bind_s]
              exact Bt.mk rfl rfl rfl (h.find (by omega) (by omega))
      · rw [if_neg h5, if_neg h5, i_5, found_eq I (by omega), find_eq J (by omega), bind_s, bind_s]
        exact Bt.mk rfl rfl rfl (h.find (by omega) (by omega))
    · rw [if_neg hy, if_neg hy, if10, if00]
      exact Bt.mk rfl rfl rfl h
  · rw [if_neg hx, if_neg hx, if10, if00]
    exact Bt.mk rfl rfl rfl h
end OPC
