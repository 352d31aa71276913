/-! leaves of the model -/
theorem lg_lt0 (x y : Int64) : lg_cmp x y < (0 : Int32) ↔ x.toInt < y.toInt := by
  unfold lg_cmp
  simp only [gt_iff_lt, Int64.lt_iff_toInt_lt, ← Int64.toInt_inj]
  repeat' split
  all_goals (constructor <;> intro hh <;> first | omega | decide | exact absurd hh (by decide))
theorem lg_gt0 (x y : Int64) : (0 : Int32) < lg_cmp x y ↔ y.toInt < x.toInt := by
  unfold lg_cmp
  simp only [gt_iff_lt, Int64.lt_iff_toInt_lt, ← Int64.toInt_inj]
  repeat' split
  all_goals (constructor <;> intro hh <;> first | omega | decide | exact absurd hh (by decide))
theorem lg_eq0 (x y : Int64) : lg_cmp x y = (0 : Int32) ↔ x = y := by
  unfold lg_cmp
  simp only [gt_iff_lt, Int64.lt_iff_toInt_lt, ← Int64.toInt_inj]
  repeat' split
  all_goals (constructor <;> intro hh <;> first | omega | decide | exact absurd hh (by decide))
theorem t64 (x : Int32) : x.toInt64.toInt = x.toInt := Int32.toInt_toInt64 x
theorem nI_m1 {n : Nat} (h : n < 2 ^ 30) : (nI n - 1).toInt = (n : Int) - 1 := pk_sub_toInt (b := 1) h (by decide)
theorem foldF_sum (f : Nat → Nat) : ∀ m, foldF (fun k s => s + f k) 0 m 0 = sumN f m
  | 0 => rfl
  | m + 1 => by
    rw [foldF_succ, foldF_sum f m, Nat.zero_add]
    rfl
section VMs
variable {J : xMem} {v : TV}
end VMs
section VCt
variable {I : xMem} {P : Nat} {v : TV}
theorem VC.noSets (hv : vOk v) (h : VC I P v) (x y : Int32) : X4_areNoSets P I x y = if ix x (2 ^ ts v) ∧ ix y (2 ^ ts v) ∧ x &&& y = 0 then 0 else 1 := by
  have h2 := hv.2.1
  have h3 := p2s hv
  have h4 : 0 < 2 ^ ts v := Nat.pos_of_ne_zero (by simp)
  have h0 : ((0 : Int32).toInt) = 0 := rfl
  unfold X4_areNoSets
  rw [h.allStones hv, nz_0, nz_1]
  unfold allS
  simp only [Int32.lt_iff_toInt_lt, h0, nI_toInt (show 2 ^ ts v - 1 < 2 ^ 31 by omega), ix]
  by_cases a1 : x.toInt < 0
  · rw [if_pos a1, if_neg (by omega)]
  · rw [if_neg a1]
    by_cases a2 : ((2 ^ ts v - 1 : Nat) : Int) < x.toInt
    · rw [if_pos a2, if_neg (by omega)]
    · rw [if_neg a2]
      by_cases a3 : y.toInt < 0
      · rw [if_pos a3, if_neg (by omega)]
      · rw [if_neg a3]
        by_cases a4 : ((2 ^ ts v - 1 : Nat) : Int) < y.toInt
        · rw [if_pos a4, if_neg (by omega)]
        · rw [if_neg a4]
          by_cases a5 : x &&& y = 0
          · rw [if_pos a5, if_pos ⟨by omega, by omega, a5⟩]
          · rw [if_neg a5, if_neg (fun q => a5 q.2.2)]
end VCt
