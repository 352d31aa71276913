/-! leaves of the model -/
theorem lg_lt0 (x y : Int64) : lg_cmp x y < (0 : Int32) ↔ x.toInt < y.toInt := by
  unfold lg_cmp
  simp only [gt_iff_lt, Int64.lt_iff_toInt_lt, ← Int64.toInt_inj]
  repeat' split
  all_goals (constructor <;> intro hh <;> first | omega | decide | exact absurd hh (by decide))
theorem lg_gt0 (x y : Int64) : (0 : Int32) < lg_cmp x y ↔ y.toInt < x.toInt := by
  unfold lg_cmp
  simp only [gt_iff_lt, Int64.lt_iff_toInt_lt, ← Int64.toInt_inj]
  repeat' split
  all_goals (constructor <;> intro hh <;> first | omega | decide | exact absurd hh (by decide))
theorem lg_eq0 (x y : Int64) : lg_cmp x y = (0 : Int32) ↔ x = y := by
  unfold lg_cmp
  simp only [gt_iff_lt, Int64.lt_iff_toInt_lt, ← Int64.toInt_inj]
  repeat' split
  all_goals (constructor <;> intro hh <;> first | omega | decide | exact absurd hh (by decide))
theorem in_spec (x a b : Int64) : X5_in x a b = if a.toInt ≤ x.toInt ∧ x.toInt ≤ b.toInt then 1 else 0 := by
  unfold X5_in
  rw [nz_0, nz_1]
  simp only [lg_lt0, lg_gt0]
  by_cases h1 : x.toInt < a.toInt
  · rw [if_pos h1, if_neg (by omega)]
  · rw [if_neg h1]
    by_cases h2 : b.toInt < x.toInt
    · rw [if_pos h2, if_neg (by omega)]
    · rw [if_neg h2, if_pos (by omega)]
theorem t64 (x : Int32) : x.toInt64.toInt = x.toInt := Int32.toInt_toInt64 x
theorem nI_m1 {n : Nat} (h : n < 2 ^ 30) : (nI n - 1).toInt = (n : Int) - 1 := pk_sub_toInt (b := 1) h (by decide)
theorem in_ix {x : Int32} {n : Nat} (h : n < 2 ^ 30) : X5_in x.toInt64 0 ((nI n - 1).toInt64) = if ix x n then 1 else 0 := by
  rw [in_spec, t64, t64, nI_m1 h]
  have h0 : ((0 : Int64).toInt) = 0 := rfl
  simp only [ix, h0]
  by_cases c : 0 ≤ x.toInt ∧ x.toInt ≤ (n : Int) - 1
  · rw [if_pos c, if_pos (by omega)]
  · rw [if_neg c, if_neg (by omega)]
theorem isRow_spec (x : Int32) : X5_isRow x = if ix x 6 then 1 else 0 := by
  unfold X5_isRow
  rw [in_spec, t64]
  have h0 : ((0 : Int64).toInt) = 0 := rfl
  have h5 : ((5 : Int64).toInt) = 5 := rfl
  simp only [ix, h0, h5]
  by_cases c : 0 ≤ x.toInt ∧ x.toInt ≤ 5
  · rw [if_pos c, if_pos (by omega)]
    rfl
  · rw [if_neg c, if_neg (by omega)]
    rfl
theorem isText_spec (x : Int32) : X5_isText x = if ix x 4 then 1 else 0 := by
  unfold X5_isText
  rw [in_spec, t64]
  have h0 : ((0 : Int64).toInt) = 0 := rfl
  have h5 : ((3 : Int64).toInt) = 3 := rfl
  simp only [ix, h0, h5]
  by_cases c : 0 ≤ x.toInt ∧ x.toInt ≤ 3
  · rw [if_pos c, if_pos (by omega)]
    rfl
  · rw [if_neg c, if_neg (by omega)]
    rfl
theorem has_spec {a k : Nat} (hk : k < 32) (ha : a < 2 ^ 31) : X5_has (nI a) (nI k) = if a.testBit k then 1 else 0 := by
  unfold X5_has
  rw [nz_0, nz_1, i_1]
  by_cases h : a.testBit k = true
  · rw [if_pos ((nI_bit1 hk ha).mpr h), if_pos h]
  · rw [if_neg (fun q => h ((nI_bit1 hk ha).mp q)), if_neg h]
theorem foldF_sum (f : Nat → Nat) : ∀ m, foldF (fun k s => s + f k) 0 m 0 = sumN f m
  | 0 => rfl
  | m + 1 => by
    rw [foldF_succ, foldF_sum f m, Nat.zero_add]
    rfl
section VMs
variable {J : xMem} {v : TV}
theorem VM.one (hv : vOk v) (h : VM J v) (x : Int32) : X5_isOne J x = if ix x (tn v) then 1 else 0 := by
  have h2 := hv.1
  unfold X5_isOne
  rw [h.1.2.2, in_ix (by omega)]
  split <;> rfl
theorem VM.two (hv : vOk v) (h : VM J v) (x y : Int32) : X5_areTwo J x y = if ix x (tn v) ∧ ix y (tn v) ∧ x ≠ y then 1 else 0 := by
  unfold X5_areTwo
  rw [h.one hv x, h.one hv y, nz_0, nz_1]
  by_cases h1 : ix x (tn v)
  · by_cases h2 : ix y (tn v)
    · by_cases h3 : x = y <;> simp [h1, h2, h3]
    · simp [h1, h2]
  · simp [h1]
theorem VM.counts (hv : vOk v) (h : VM J v) {i : Nat} (hi : i < tn v) : X5_counts J (nI i) = some (nI (cnt v i)) := by
  have h2 := hv.1
  unfold X5_counts
  rw [rdI_nI (by omega) (by omega), bind_s, rdI_nI (by omega) (by omega), bind_s, i_1, rdI_nI (by omega) (by omega), bind_s, (h.2.1 i hi).1, (h.2.1 i hi).2, h.2.2.2.1, countsBy_eq, cnt_nI (hv.2.2.2.1 i) (hv.2.2.2.2.1 i) hv.2.2.2.2.2.2.1]
  rfl
theorem VM.pounds (hv : vOk v) (h : VM J v) {a : Nat} (ha : a < 16) : X5_poundsOf J (nI a) = some (nI (setW v a)) := by
  have h2 := hv.2.1
  unfold X5_poundsOf
  have key := loop_F (fun fuel k (s : Nat) => X5_poundsOf_L1 J (nI a) (fun z => some z) fuel (nI s) (nI k)) (fun s => some (nI s)) (ts v) (fun k s => s + (if a.testBit k then tp v k else 0)) (fun _ _ => True)
    (fun fuel k s hk _ => ⟨by
      show X5_poundsOf_L1 J (nI a) _ (fuel + 1) (nI s) (nI k) = _
      rw [X5_poundsOf_L1]
      rw [h.1.2.1, if_neg (by rw [nI_le_iff (by omega) (by omega)]; omega), has_spec (by omega) (by omega), i_1, nI_sum]
      by_cases hb : a.testBit k = true
      · rw [if_pos hb, if_neg (by decide), rdI_nI (by omega) (by omega), bind_s, bind_s, h.2.2.1 k hk, nI_sum, if_pos hb]
      · rw [if_neg hb, if_pos rfl, bind_s, i_0, nI_sum, if_neg hb], trivial⟩)
    (fun fuel s _ => by
      show X5_poundsOf_L1 J (nI a) _ (fuel + 1) (nI s) (nI (ts v)) = _
      rw [X5_poundsOf_L1]
      rw [h.1.2.1, if_pos (by rw [nI_le_iff (by omega) (by omega)]; omega)])
    (ts v) bigF 0 0 (by omega) (bigF_gt (by omega)) trivial
  rw [foldF_sum] at key
  exact key
theorem apart_nI {a b : Nat} (ha : a < 2 ^ 31) (hb : b < 2 ^ 31) : X5_apart (nI a) (nI b) = nI (dist a b) := by
  unfold X5_apart dist
  by_cases h : b ≤ a
  · rw [if_pos ((nI_le_iff hb ha).mpr h), if_pos h, pk_sub h]
  · rw [if_neg (fun q => h ((nI_le_iff hb ha).mp q)), if_neg h, pk_sub (by omega)]
theorem VM.under (hv : vOk v) (h : VM J v) {k j a b : Nat} (hj : j < tn v) (hk : k < 6) (ha : a < 2 ^ 30) (hb : b < 2 ^ 30) : X5_sinkUnder J (nI k) (nI a) (nI j) (nI b) = some (nI (sunkN a b (k = 1 ∧ tk v j = 1))) := by
  have h2 := hv.1
  have h3 := hv.2.2.2.1 j
  have hd : dist a b < 2 ^ 31 := by
    have := dist_le (Nat.le_of_lt ha) (Nat.le_of_lt hb)
    omega
  unfold X5_sinkUnder sunkN
  rw [apart_nI (by omega) (by omega), rdI_nI (by omega) (by omega), bind_s, (h.2.1 j hj).1, i_1, i_2, nI_div hd (by omega) (by omega)]
  simp (disch := omega) only [nI_eq_iff]
  by_cases q : k = 1
  · by_cases r : tk v j = 1
    · simp [q, r]
    · simp [q, r]
  · simp [q]
theorem VM.sink (hv : vOk v) (h : VM J v) {i j a b : Nat} (hi : i < tn v) (hj : j < tn v) (ha : a < 16) (hb : b < 16) : X5_sinkOf J (nI i) (nI j) (nI a) (nI b) = some (nI (skN v i j a b)) := by
  have h2 := hv.1
  have c1 := cnt_le hv i
  have c2 := cnt_le hv j
  have w1 := setW_le hv a
  have w2 := setW_le hv b
  unfold X5_sinkOf
  rw [rdI_nI (by omega) (by omega), bind_s, h.counts hv hi, bind_s, h.pounds hv ha, bind_s, h.counts hv hj, bind_s, h.pounds hv hb, bind_s, (h.2.1 i hi).1, nI_sum, nI_sum, h.under hv hj (hv.2.2.2.1 i) (by omega) (by omega), bind_s]
  rfl
theorem VM.isTop (hv : vOk v) (h : VM J v) {i : Nat} (hi : i < tn v) : X5_isTop J (nI i) = some (if (tt v).testBit i then 1 else 0) := by
  have h2 := hv.1
  have h3 := tt_lt hv
  unfold X5_isTop
  rw [i_2, rdI_nI (by omega) (by omega), bind_s, h.2.2.2.2.1, has_spec (by omega) (by omega)]
  split <;> rfl
theorem VM.oneEnd (hv : vOk v) (h : VM J v) {i j : Nat} (hi : i < tn v) (hj : j < tn v) : X5_areAtOneEnd J (nI i) (nI j) = some (if same v i j then 1 else 0) := by
  unfold X5_areAtOneEnd same
  rw [h.isTop hv hi, bind_s, h.isTop hv hj, bind_s, nz_0, nz_1]
  cases (tt v).testBit i <;> cases (tt v).testBit j <;> rfl
theorem VM.stonesBy (hv : vOk v) (h : VM J v) {i : Nat} (hi : i < tn v) : X5_stonesBy J (nI i) = some (nI (stW v i)) := by
  have h2 := hv.2.1
  have h3 : 0 < 2 ^ ts v := Nat.pos_of_ne_zero (by simp)
  unfold X5_stonesBy stW
  rw [h.isTop hv hi, bind_s, h.1.2.1, i_3, rdI_nI (by omega) (by omega), bind_s, bind_s, h.2.2.2.2.2]
  cases (tt v).testBit i with
  | true => rfl
  | false =>
    show some (((1 : Int32) <<< (nI (ts v) &&& 31) - 1) &&& (nI (tu v) ^^^ (-1))) = some (nI (nd (allS v) (tu v)))
    rw [i_1, nI_pow (by omega), pk_sub (by omega), nI_ndN]
    rfl
theorem VM.sets (hv : vOk v) (h : VM J v) (x y : Int32) : X5_areSets J x y = if ix x (2 ^ ts v) ∧ ix y (2 ^ ts v) ∧ x &&& y = 0 then 1 else 0 := by
  have h2 := hv.2.1
  have h3 := p2s hv
  unfold X5_areSets
  rw [h.1.2.1, show ((1 : Int32) <<< (nI (ts v) &&& 31)) = nI (2 ^ ts v) from nI_pow (by omega), in_ix (by omega), in_ix (by omega), nz_0, nz_1]
  by_cases h1 : ix x (2 ^ ts v)
  · rw [if_pos h1, if_neg (by decide)]
    by_cases h2 : ix y (2 ^ ts v)
    · rw [if_pos h2, if_neg (by decide)]
      by_cases h3 : x &&& y = 0
      · rw [if_pos h3, if_pos ⟨h1, h2, h3⟩]
      · rw [if_neg h3, if_neg (fun q => h3 q.2.2)]
    · rw [if_neg h2, if_pos rfl, if_neg (fun q => h2 q.2.1)]
  · rw [if_neg h1, if_pos rfl, if_neg (fun q => h1 q.1)]
end VMs
section VCt
variable {I : xMem} {P : Nat} {v : TV}
theorem VC.noSets (hv : vOk v) (h : VC I P v) (x y : Int32) : X4_areNoSets P I x y = if ix x (2 ^ ts v) ∧ ix y (2 ^ ts v) ∧ x &&& y = 0 then 0 else 1 := by
  have h2 := hv.2.1
  have h3 := p2s hv
  have h4 : 0 < 2 ^ ts v := Nat.pos_of_ne_zero (by simp)
  have h0 : ((0 : Int32).toInt) = 0 := rfl
  unfold X4_areNoSets
  rw [h.allStones hv, nz_0, nz_1]
  unfold allS
  simp only [Int32.lt_iff_toInt_lt, h0, nI_toInt (show 2 ^ ts v - 1 < 2 ^ 31 by omega), ix]
  by_cases a1 : x.toInt < 0
  · rw [if_pos a1, if_neg (by omega)]
  · rw [if_neg a1]
    by_cases a2 : ((2 ^ ts v - 1 : Nat) : Int) < x.toInt
    · rw [if_pos a2, if_neg (by omega)]
    · rw [if_neg a2]
      by_cases a3 : y.toInt < 0
      · rw [if_pos a3, if_neg (by omega)]
      · rw [if_neg a3]
        by_cases a4 : ((2 ^ ts v - 1 : Nat) : Int) < y.toInt
        · rw [if_pos a4, if_neg (by omega)]
        · rw [if_neg a4]
          by_cases a5 : x &&& y = 0
          · rw [if_pos a5, if_pos ⟨by omega, by omega, a5⟩]
          · rw [if_neg a5, if_neg (fun q => a5 q.2.2)]
end VCt
