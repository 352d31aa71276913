/-! ROWS, TEXTS -/
/-- a stretch of a cell filled -/
def rgM (I : xMem) (y o n : Nat) (x : Int32) : xMem := fun a => if a = y then (fun j => if o ≤ j ∧ j < o + n then x else I y j) else I a
theorem rgM_at (I : xMem) (y o n : Nat) (x : Int32) (a j : Nat) : rgM I y o n x a j = if a = y ∧ o ≤ j ∧ j < o + n then x else I a j := by
  unfold rgM
  by_cases h : a = y
  · subst h
    simp
  · simp [h]
theorem rgM_0 (I : xMem) (y o : Nat) (x : Int32) : rgM I y o 0 x = I := by
  funext a j
  rw [rgM_at, if_neg (by omega)]
theorem rgM_s (I : xMem) (y o n : Nat) (x : Int32) : wr (rgM I y o n x) y (o + n) x = rgM I y o (n + 1) x := by
  funext a j
  rw [wr_at, rgM_at, rgM_at]
  by_cases h : a = y ∧ j = o + n
  · rw [if_pos h, if_pos (by omega)]
  · rw [if_neg h]
    by_cases q : a = y ∧ o ≤ j ∧ j < o + n
    · rw [if_pos q, if_pos (by omega)]
    · rw [if_neg q, if_neg (by omega)]
theorem fill_eq (I : xMem) (y : Nat) {n : Nat} (hn : n ≤ 2000) (x : Int32) : J7_fill_53178 I y n x = some (rgM I y 0 n x) := by
  unfold J7_fill_53178
  obtain ⟨M, hM, he⟩ := loop_I (fun fuel k (M : xMem) => J7_fill_53178_L1 y n x (fun I4 => some I4) fuel (nI k) M) (fun M => some M) n (fun k M => M = rgM I y 0 k x)
    (fun fuel k M hk hI => by
      refine ⟨wr M y k x, ?_, by rw [hI]; have := rgM_s I y 0 k x; rw [Nat.zero_add] at this; exact this⟩
      show J7_fill_53178_L1 y n x _ (fuel + 1) (nI k) M = _
      rw [J7_fill_53178_L1]
      rw [show Int32.ofNat n = nI n from rfl, if_neg (by rw [nI_le_iff (by omega) (by omega)]; omega), wrI_nI hk (by omega), bind_s, i_1, nI_sum])
    (fun fuel M hI => by
      show J7_fill_53178_L1 y n x _ (fuel + 1) (nI n) M = _
      rw [J7_fill_53178_L1]
      rw [show Int32.ofNat n = nI n from rfl, if_pos (Int32.le_refl _)])
    n bigF 0 I (by omega) (bigF_gt (by omega)) (rgM_0 I y 0 x).symm
  rw [hM] at he
  exact he
/-! the class's shelves -/
theorem hasNo_eq {I : xMem} {y N : Nat} (hm : I y 0 = nI N) (hN : N ≤ 6) (x : Int32) : X2_hasNo y I x = if ix x N then 0 else 1 := by
  have h0 : ((0 : Int32).toInt) = 0 := rfl
  unfold X2_hasNo
  rw [hm, nz_0, nz_1]
  simp only [Int32.lt_iff_toInt_lt, h0, nI_toInt (show N < 2 ^ 31 by omega), ix]
  by_cases h3 : x.toInt < 0
  · rw [if_pos h3, if_neg (by omega)]
  · rw [if_neg h3]
    by_cases h4 : x.toInt < (N : Int)
    · rw [if_pos h4, if_pos (by omega)]
    · rw [if_neg h4, if_neg (by omega)]
theorem nI_ne_m1 {s : Nat} (h : s < 2 ^ 31) : nI s ≠ -1 := by
  intro e
  have h1 := congrArg Int32.toInt e
  rw [nI_toInt h] at h1
  have h2 : ((-1 : Int32).toInt) = -1 := rfl
  omega
theorem missing_eq {I : xMem} {y N r : Nat} (hc : cLen (y + 1) = N) (hN : N ≤ 6) (hr : r < N) : X2_isMissing y I (nI r) = some (if I (y + 1) r = -1 then 1 else 0) := by
  unfold X2_isMissing
  rw [hc, rdI_nI hr (by omega), bind_s, nz_0, nz_1]
  split <;> rfl
theorem lacks_eq {I : xMem} {y N r s : Nat} (hc : cLen (y + 1) = N) (hN : N ≤ 6) (hr : r < N) (hs : s ≤ 60) (h : I (y + 1) r = nI s) (i n : Int32) : X2_lacks y I (nI r) i n = some (if 0 ≤ i.toInt ∧ i.toInt ≤ s ∧ n.toInt ≤ s - i.toInt then 0 else 1) := by
  have h0 : ((0 : Int32).toInt) = 0 := rfl
  unfold X2_lacks
  rw [hc, rdI_nI hr (by omega), bind_s, bind_s, h, nz_0, nz_1]
  by_cases c1 : i.toInt < 0
  · rw [if_pos (by rw [Int32.lt_iff_toInt_lt, h0]; exact c1), if_neg (by omega)]
  · rw [if_neg (by rw [Int32.lt_iff_toInt_lt, h0]; exact c1)]
    by_cases c2 : (s : Int) < i.toInt
    · rw [if_pos (by rw [Int32.lt_iff_toInt_lt, nI_toInt (by omega)]; exact c2), if_neg (by omega)]
    · rw [if_neg (by rw [Int32.lt_iff_toInt_lt, nI_toInt (by omega)]; exact c2)]
      obtain ⟨j, hj, rfl⟩ := nI_of (x := i) (by rw [Int32.lt_iff_toInt_lt, h0]; exact c1)
      rw [nI_toInt hj] at c2 ⊢
      rw [pk_sub (by omega)]
      by_cases c3 : n.toInt ≤ (s : Int) - (j : Int)
      · rw [if_pos (by rw [Int32.le_iff_toInt_le, nI_toInt (by omega)]; omega), if_pos (by omega)]
      · rw [if_neg (by rw [Int32.le_iff_toInt_le, nI_toInt (by omega)]; omega), if_neg (by omega)]
theorem refRow_eq {I : xMem} {y N : Nat} (hm : I y 0 = nI N) (hc : cLen (y + 1) = N) (hN : N ≤ 6) (x : Int32) : X4_refusedRow I y x = if ix x N then (if I (y + 1) x.toNatClampNeg = -1 then some (-3, cFnd I 1) else some (0, I)) else some (-1, I) := by
  unfold X4_refusedRow
  rw [hasNo_eq hm hN]
  by_cases hx : ix x N
  · rw [if_pos hx, if_pos rfl, if_pos hx]
    obtain ⟨r, hr, rfl⟩ := ix_of hx (by omega)
    rw [missing_eq hc hN hr, bind_s, nI_clamp (by omega)]
    by_cases h : I (y + 1) r = -1
    · rw [if_pos h, if_pos h, if_neg (by decide), i_1, found_eq I (by omega), bind_s]
    · rw [if_neg h, if_neg h, if_pos rfl]
  · rw [if_neg hx, if_neg hx, if_neg (by decide)]
theorem refPlace_eq {I : xMem} {y N r : Nat} (hm : I y 0 = nI N) (hc : cLen (y + 1) = N) (hN : N ≤ 6) (hr : r < N) (i : Int32) : X4_refusedPlace I y (nI r) i = if I (y + 1) r = -1 then some (-3, cFnd I 1) else (X2_lacks y I (nI r) i 1).bind fun v3 => if v3 = 0 then some (0, I) else some (-3, cFnd I 2) := by
  unfold X4_refusedPlace
  rw [refRow_eq hm hc hN, if_pos ((ix_nI (by omega)).mpr hr), nI_clamp (by omega)]
  by_cases h : I (y + 1) r = -1
  · rw [if_pos h, if_pos h, bind_s, ifm3]
  · rw [if_neg h, if_neg h, bind_s, if_pos rfl, i_2, found_eq I (by omega)]
    rfl
section OPR
variable {I J : xMem} {L M : xLon} {P Dr : Nat}
end OPR
