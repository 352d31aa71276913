/-! DEEDS -/
section OPD
variable {I J : xMem} {L M : xLon} {P Dr : Nat}
/-- the class adds a deed -/
def adM (I : xMem) (d : Nat) (t u e x : Int32) : xMem := wr (wr (wr (wr (wr I 18 (d + 1) t) 19 (d + 1) u) 20 (d + 1) e) 21 (d + 1) x) 17 0 (nI (d + 1))
theorem add_eq (I : xMem) {d : Nat} (hd : d < 40) (h0 : I 17 0 = nI d) (x1 x2 x3 x4 : Int32) : X0_add 17 I x1 x2 x3 x4 = some (adM I d (I 18 d ^^^ x1) (I 19 d ^^^ x2) (I 20 d + x3) (I 21 d + x4)) := by
  unfold X0_add adM
  have q : ∀ (A : xMem) (k j : Nat) (z : Int32), k ≠ 17 → wr A k j z 17 0 = A 17 0 := fun A k j z hk => wr_off _ _ (by omega)
  rw [h0, if_pos (by rw [i_40, nI_lt_iff (by omega) (by omega)]; omega), rdI_nI (by omega) (by omega), bind_s, i_1, nI_sum, wrI_nI (by omega) (by omega), bind_s, q _ _ _ _ (by omega), h0, rdI_nI (by omega) (by omega), bind_s, nI_sum, wrI_nI (by omega) (by omega), bind_s, q _ _ _ _ (by omega), q _ _ _ _ (by omega), h0, rdI_nI (by omega) (by omega), bind_s, nI_sum, wrI_nI (by omega) (by omega), bind_s, q _ _ _ _ (by omega), q _ _ _ _ (by omega), q _ _ _ _ (by omega), h0, rdI_nI (by omega) (by omega), bind_s, nI_sum, wrI_nI (by omega) (by omega), bind_s, q _ _ _ _ (by omega), q _ _ _ _ (by omega), q _ _ _ _ (by omega), q _ _ _ _ (by omega), h0, nI_sum, bind_s]
  rw [wr_off (k := 17 + 1) I _ (show 17 + 2 ≠ 17 + 1 ∨ d ≠ d + 1 by omega), wr_off (k := 17 + 2) _ _ (show 17 + 3 ≠ 17 + 2 ∨ d ≠ d + 1 by omega), wr_off (k := 17 + 1) I _ (show 17 + 3 ≠ 17 + 1 ∨ d ≠ d + 1 by omega), wr_off (k := 17 + 3) _ _ (show 17 + 4 ≠ 17 + 3 ∨ d ≠ d + 1 by omega), wr_off (k := 17 + 2) _ _ (show 17 + 4 ≠ 17 + 2 ∨ d ≠ d + 1 by omega), wr_off (k := 17 + 1) I _ (show 17 + 4 ≠ 17 + 1 ∨ d ≠ d + 1 by omega)]
theorem adM_17 (I : xMem) (d : Nat) (t u e x : Int32) : adM I d t u e x 17 0 = nI (d + 1) := wr_eq _ _ _ _
theorem adM_18 (I : xMem) (d : Nat) (t u e x : Int32) : adM I d t u e x 18 (d + 1) = t := by
  unfold adM
  rw [wr_off _ _ (by omega), wr_off _ _ (by omega), wr_off _ _ (by omega), wr_off _ _ (by omega), wr_eq]
theorem adM_19 (I : xMem) (d : Nat) (t u e x : Int32) : adM I d t u e x 19 (d + 1) = u := by
  unfold adM
  rw [wr_off _ _ (by omega), wr_off _ _ (by omega), wr_off _ _ (by omega), wr_eq]
theorem adM_20 (I : xMem) (d : Nat) (t u e x : Int32) : adM I d t u e x 20 (d + 1) = e := by
  unfold adM
  rw [wr_off _ _ (by omega), wr_off _ _ (by omega), wr_eq]
theorem adM_21 (I : xMem) (d : Nat) (t u e x : Int32) : adM I d t u e x 21 (d + 1) = x := by
  unfold adM
  rw [wr_off _ _ (by omega), wr_eq]
theorem adM_o (I : xMem) (d : Nat) (t u e x : Int32) (k j : Nat) (q : k < 17 ∨ 21 < k ∨ (18 ≤ k ∧ j ≠ d + 1)) : adM I d t u e x k j = I k j := by
  unfold adM
  rw [wr_off _ _ (by omega), wr_off _ _ (by omega), wr_off _ _ (by omega), wr_off _ _ (by omega), wr_off _ _ (by omega)]
/-- the model keeps what was -/
def kpM (J : xMem) (d : Nat) : xMem := fun y q => if y = 1 ∧ q = 0 then nI (d + 1) else if y = 1 ∧ 5 + 4 * d ≤ q ∧ q < 9 + 4 * d then J 1 (q - (4 + 4 * d)) else J y q
theorem kpM_0 (J : xMem) (d : Nat) : kpM J d 1 0 = nI (d + 1) := by
  unfold kpM
  rw [if_pos (by omega)]
theorem kpM_p (J : xMem) (d : Nat) {k : Nat} (hk : k < 4) : kpM J d 1 (5 + 4 * d + k) = J 1 (1 + k) := by
  unfold kpM
  rw [if_neg (by omega), if_pos (by omega), show 5 + 4 * d + k - (4 + 4 * d) = 1 + k by omega]
theorem kpM_o (J : xMem) {d : Nat} (hd : d < 40) (y q : Nat) (h : y ≠ 1 ∨ (1 ≤ q ∧ q < 5 + 4 * d) ∨ 165 ≤ q) : kpM J d y q = J y q := by
  unfold kpM
  rw [if_neg (by omega), if_neg (by omega)]
/-- the model's row behind a GO -/
def goM (J : xMem) (t u : Nat) (x : Int32) : xMem := wr (wr (wr J 1 4 x) 1 2 (nI t)) 1 3 (nI u)
theorem goM_o (J : xMem) (t u : Nat) (x : Int32) (y q : Nat) (h : y ≠ 1 ∨ q < 2 ∨ 4 < q) : goM J t u x y q = J y q := by
  unfold goM
  rw [wr_off _ _ (by omega), wr_off _ _ (by omega), wr_off _ _ (by omega)]
theorem goM_2 (J : xMem) (t u : Nat) (x : Int32) : goM J t u x 1 2 = nI t := by
  unfold goM
  rw [wr_off _ _ (by omega), wr_eq]
theorem goM_3 (J : xMem) (t u : Nat) (x : Int32) : goM J t u x 1 3 = nI u := wr_eq _ _ _ _
theorem goM_4 (J : xMem) (t u : Nat) (x : Int32) : goM J t u x 1 4 = x := by
  unfold goM
  rw [wr_off _ _ (by omega), wr_off _ _ (by omega), wr_eq]
theorem pow_lt2 {i n : Nat} (h : i < n) : 2 ^ i < 2 ^ n := Nat.pow_lt_pow_right (by decide) h
end OPD
