/-! PLACES OF ROWS -/
section OPR2
variable {I J : xMem} {L M : xLon} {P Dr : Nat}
theorem refPlace_s {I : xMem} {y N r s : Nat} (hm : I y 0 = nI N) (hc : cLen (y + 1) = N) (hN : N ≤ 6) (hr : r < N) (hs : s ≤ 60) (h : I (y + 1) r = nI s) (i : Int32) : X4_refusedPlace I y (nI r) i = if ix i s then some (0, I) else some (-3, cFnd I 2) := by
  rw [refPlace_eq hm hc hN hr, if_neg (by rw [h]; exact nI_ne_m1 (by omega)), lacks_eq hc hN hr hs h, bind_s]
  have h1 : ((1 : Int32).toInt) = 1 := rfl
  rw [h1]
  simp only [ix]
  by_cases c : 0 ≤ i.toInt ∧ i.toInt < (s : Int)
  · rw [if_pos (show 0 ≤ i.toInt ∧ i.toInt ≤ (s : Int) ∧ (1 : Int) ≤ s - i.toInt by omega), if00, if_pos c]
  · rw [if_neg (show ¬ (0 ≤ i.toInt ∧ i.toInt ≤ (s : Int) ∧ (1 : Int) ≤ s - i.toInt) by omega), if10, if_neg c]
theorem refPlace_m {I : xMem} {y N r : Nat} (hm : I y 0 = nI N) (hc : cLen (y + 1) = N) (hN : N ≤ 6) (hr : r < N) (h : I (y + 1) r = -1) (i : Int32) : X4_refusedPlace I y (nI r) i = some (-3, cFnd I 1) := by
  rw [refPlace_eq hm hc hN hr, if_pos h]
theorem refPlace_b {I : xMem} {y N : Nat} (hm : I y 0 = nI N) (hc : cLen (y + 1) = N) (hN : N ≤ 6) {x : Int32} (hx : ¬ ix x N) (i : Int32) : X4_refusedPlace I y x i = some (-1, I) := by
  unfold X4_refusedPlace
  rw [refRow_eq hm hc hN, if_neg hx, bind_s, ifm1]
theorem m1_neg : ¬ (0 : Int32) ≤ -1 := by decide
theorem nI_0le {s : Nat} (h : s < 2 ^ 31) : (0 : Int32) ≤ nI s := nI_pos' h
theorem lng_ne0 {s : Nat} (h0 : s ≠ 0) (h : s < 2 ^ 31) : ¬ (nI s).toInt64 = 0 := by
  intro e
  have h1 := congrArg Int64.toInt e
  rw [t64, nI_toInt h] at h1
  have h2 : ((0 : Int64).toInt) = 0 := rfl
  omega
end OPR2
