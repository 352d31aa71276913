/-! THE TOWER AS NUMBERS: people n, stones, limit, kinds, weights, stones' pounds, loaves, who is at the top (bits), which stones are (bits) -/
abbrev TV : Type := Nat × Nat × Nat × (Nat → Nat) × (Nat → Nat) × (Nat → Nat) × Nat × Nat × Nat
def tn (v : TV) : Nat := v.1
def ts (v : TV) : Nat := v.2.1
def tl (v : TV) : Nat := v.2.2.1
def tk (v : TV) : Nat → Nat := v.2.2.2.1
def tw (v : TV) : Nat → Nat := v.2.2.2.2.1
def tp (v : TV) : Nat → Nat := v.2.2.2.2.2.1
def te (v : TV) : Nat := v.2.2.2.2.2.2.1
def tt (v : TV) : Nat := v.2.2.2.2.2.2.2.1
def tu (v : TV) : Nat := v.2.2.2.2.2.2.2.2
def vOk (v : TV) : Prop := tn v ≤ 6 ∧ ts v ≤ 4 ∧ tl v ≤ 9 ∧ (∀ i, tk v i < 6) ∧ (∀ i, tw v i ≤ 99) ∧ (∀ i, tp v i ≤ 9) ∧ te v ≤ 9 ∧ tt v < 2 ^ tn v ∧ tu v < 2 ^ ts v
/-- what one counts -/
def cntOf (k w e : Nat) : Nat := if k = 2 then w / 2 else if k = 3 then w + 5 else if k = 4 then w + 5 + e else if k = 5 then w / 2 / 2 else w
def cnt (v : TV) (i : Nat) : Nat := cntOf (tk v i) (tw v i) (te v)
/-- by how much two numbers differ, half of it (cut) for twins -/
def dist (a b : Nat) : Nat := if b ≤ a then a - b else b - a
def sunkN (a b : Nat) (t : Prop) [Decidable t] : Nat := if t then dist a b / 2 else dist a b
abbrev twins (v : TV) (i j : Nat) : Prop := tk v i = 1 ∧ tk v j = 1
/-- pounds of a set of stones -/
def setW (v : TV) (set : Nat) : Nat := sumN (fun s => if set.testBit s then tp v s else 0) (ts v)
def skN (v : TV) (i j a b : Nat) : Nat := sunkN (cnt v i + setW v a) (cnt v j + setW v b) (twins v i j)
def allS (v : TV) : Nat := 2 ^ ts v - 1
/-- stones at one's end -/
def stW (v : TV) (i : Nat) : Nat := if (tt v).testBit i then tu v else nd (allS v) (tu v)
abbrev same (v : TV) (i j : Nat) : Prop := (tt v).testBit i = (tt v).testBit j
/-- the class holds the tower -/
def VC (I : xMem) (P : Nat) (v : TV) : Prop := (I P 0 = nI (tl v) ∧ I P 1 = nI (ts v) ∧ I P 2 = nI (tn v)) ∧ (∀ i, i < tn v → I (P + 3) i = nI (tk v i) ∧ I (P + 4) i = nI (tw v i)) ∧ (∀ s, s < ts v → I (P + 1) s = nI (tp v s)) ∧ (∀ a, a < 2 ^ ts v → I (P + 2) a = nI (setW v a)) ∧ ∃ d, d ≤ 40 ∧ I 17 0 = nI d ∧ I 18 d = nI (tt v) ∧ I 19 d = nI (tu v) ∧ I 20 d = nI (te v)
theorem sumN_le {f : Nat → Nat} {b : Nat} (h : ∀ i, f i ≤ b) : ∀ n, sumN f n ≤ b * n
  | 0 => by simp [sumN]
  | n + 1 => by
    have h1 := sumN_le h n
    have h2 := h n
    show sumN f n + f n ≤ b * (n + 1)
    rw [Nat.mul_succ]
    omega
theorem cntOf_le {k w e : Nat} (hw : w ≤ 99) (he : e ≤ 9) : cntOf k w e ≤ 113 := by
  unfold cntOf
  repeat' split
  all_goals omega
theorem cnt_le {v : TV} (hv : vOk v) (i : Nat) : cnt v i ≤ 113 := cntOf_le (hv.2.2.2.2.1 i) hv.2.2.2.2.2.2.1
theorem setW_le {v : TV} (hv : vOk v) (a : Nat) : setW v a ≤ 36 := by
  have h1 := sumN_le (f := fun s => if a.testBit s then tp v s else 0) (b := 9) (fun i => by
    show (if a.testBit i then tp v i else 0) ≤ 9
    split
    · exact hv.2.2.2.2.2.1 i
    · omega) (ts v)
  have h2 := hv.2.1
  show sumN _ _ ≤ 36
  omega
theorem dist_le {a b N : Nat} (ha : a ≤ N) (hb : b ≤ N) : dist a b ≤ N := by
  unfold dist
  split <;> omega
theorem sunkN_le {a b N : Nat} {t : Prop} [Decidable t] (ha : a ≤ N) (hb : b ≤ N) : sunkN a b t ≤ N := by
  have := dist_le ha hb
  unfold sunkN
  split <;> omega
theorem skN_le {v : TV} (hv : vOk v) (i j a b : Nat) : skN v i j a b ≤ 149 := by
  have h1 := cnt_le hv i
  have h2 := cnt_le hv j
  have h3 := setW_le hv a
  have h4 := setW_le hv b
  exact sunkN_le (by omega) (by omega)
theorem p2s {v : TV} (hv : vOk v) : 2 ^ ts v ≤ 16 := by
  have h1 : 2 ^ ts v ≤ 2 ^ 4 := Nat.pow_le_pow_right (by decide) hv.2.1
  omega
theorem p2n {v : TV} (hv : vOk v) : 2 ^ tn v ≤ 64 := by
  have h1 : 2 ^ tn v ≤ 2 ^ 6 := Nat.pow_le_pow_right (by decide) hv.1
  omega
theorem tt_lt {v : TV} (hv : vOk v) : tt v < 64 := Nat.lt_of_lt_of_le hv.2.2.2.2.2.2.2.1 (p2n hv)
theorem tu_lt {v : TV} (hv : vOk v) : tu v < 16 := Nat.lt_of_lt_of_le hv.2.2.2.2.2.2.2.2 (p2s hv)
theorem allS_lt {v : TV} (hv : vOk v) : allS v < 16 := by
  have := p2s hv
  unfold allS
  omega
theorem nd_le (a b : Nat) : nd a b ≤ a := by
  apply Nat.le_of_testBit
  intro i h
  rw [nd_bit] at h
  simp only [Bool.and_eq_true] at h
  exact h.1
theorem stW_lt {v : TV} (hv : vOk v) (i : Nat) : stW v i < 2 ^ ts v := by
  unfold stW
  have h2 : 0 < 2 ^ ts v := Nat.pos_of_ne_zero (by simp)
  split
  · exact hv.2.2.2.2.2.2.2.2
  · have := nd_le (allS v) (tu v)
    unfold allS at this ⊢
    omega
/-! leaves of both -/
theorem sk_nI {a b : Nat} (ha : a < 2 ^ 30) (hb : b < 2 ^ 30) : (if (0 : Int32) ≤ nI a - nI b then nI a - nI b else 0 - (nI a - nI b)) = nI (dist a b) := by
  have h0 : ((0 : Int32).toInt) = 0 := rfl
  have h1 := pk_sub_toInt ha hb
  by_cases h : b ≤ a
  · rw [if_pos (by rw [Int32.le_iff_toInt_le, h0, h1]; omega), pk_sub h]
    unfold dist
    rw [if_pos h]
  · rw [if_neg (by rw [Int32.le_iff_toInt_le, h0, h1]; omega)]
    unfold dist
    rw [if_neg h]
    rw [Int32.zero_sub, Int32.neg_sub, pk_sub (by omega)]
theorem sunk_nI {a b : Nat} (ha : a < 2 ^ 30) (hb : b < 2 ^ 30) (t : Prop) [Decidable t] : X4_sunk (nI a - nI b) (if t then nI 1 else nI 0) = nI (sunkN a b t) := by
  unfold X4_sunk sunkN
  rw [sk_nI ha hb]
  have hd : dist a b < 2 ^ 31 := by
    have := dist_le (Nat.le_of_lt ha) (Nat.le_of_lt hb)
    omega
  by_cases h : t
  · simp only [h, if_true]
    rw [if_neg (by rw [i_0, nI_eq_iff (by omega) (by omega)]; omega), i_2, nI_div hd (by omega) (by omega)]
  · simp only [h, if_false]
    rw [if_pos (show nI 0 = 0 from rfl)]
theorem cnt_nI {k w e : Nat} (hk : k < 6) (hw : w ≤ 99) (he : e ≤ 9) : X4_counted (nI k) (nI w) (nI e) = nI (cntOf k w e) := by
  unfold X4_counted cntOf
  simp (disch := omega) only [i_0, i_1, i_2, i_3, i_4, i_5, i_6, i_7, i_8, i_9, i_10, i_12, i_15, i_16, i_20, i_24, i_30, i_32, i_36, i_39, i_40, i_41, i_47, i_48, i_57, i_58, i_60, i_63, i_64, i_98, i_99, i_100, i_103, i_108, i_110, i_111, i_116, i_120, i_128, i_165, i_200, i_256, i_1000, i_1024, i_9999, nI_eq_iff, nI_div, nI_sum]
  repeat' split
  all_goals rfl
section VCs
variable {I : xMem} {P : Nat} {v : TV}
theorem VC.top (h : VC I P v) : X0_top 17 I = some (nI (tt v)) := by
  obtain ⟨-, -, -, -, d, hd, h0, h1, -, -⟩ := h
  unfold X0_top
  rw [h0, rdI_nI (by omega) (by omega), bind_s, h1]
theorem VC.stonesUp (h : VC I P v) : X0_stonesUp 17 I = some (nI (tu v)) := by
  obtain ⟨-, -, -, -, d, hd, h0, -, h1, -⟩ := h
  unfold X0_stonesUp
  rw [h0, rdI_nI (by omega) (by omega), bind_s, h1]
theorem VC.eaten (h : VC I P v) : X0_eaten 17 I = some (nI (te v)) := by
  obtain ⟨-, -, -, -, d, hd, h0, -, -, h1⟩ := h
  unfold X0_eaten
  rw [h0, rdI_nI (by omega) (by omega), bind_s, h1]
theorem VC.allStones (hv : vOk v) (h : VC I P v) : X1_allStones P I = nI (allS v) := by
  obtain ⟨⟨-, h1, -⟩, -⟩ := h
  have h2 := hv.2.1
  have h3 : 0 < 2 ^ ts v := Nat.pos_of_ne_zero (by simp)
  unfold X1_allStones
  rw [h1, i_1, nI_pow (by omega), pk_sub (by omega)]
  rfl
theorem VC.counts (hv : vOk v) (h : VC I P v) {i : Nat} (hi : i < tn v) : X4_counts P I (nI i) = some (nI (cnt v i)) := by
  have h1 := h.eaten
  have h2 := hv.1
  unfold X4_counts
  rw [rdI_nI (by omega) (by omega), bind_s, rdI_nI (by omega) (by omega), bind_s, h1, bind_s, (h.2.1 i hi).1, (h.2.1 i hi).2, cnt_nI (hv.2.2.2.1 i) (hv.2.2.2.2.1 i) hv.2.2.2.2.2.2.1]
  rfl
theorem VC.nobody (hv : vOk v) (h : VC I P v) (x : Int32) : X4_isNobody P I x = if ix x (tn v) then 0 else 1 := by
  have h2 := hv.1
  have h0 : ((0 : Int32).toInt) = 0 := rfl
  unfold X4_isNobody
  rw [h.1.2.2, nz_0, nz_1]
  simp only [Int32.lt_iff_toInt_lt, h0, nI_toInt (show tn v < 2 ^ 31 by omega), ix]
  by_cases h3 : x.toInt < 0
  · rw [if_pos h3, if_neg (by omega)]
  · rw [if_neg h3]
    by_cases h4 : x.toInt < (tn v : Int)
    · rw [if_pos h4, if_pos (by omega)]
    · rw [if_neg h4, if_neg (by omega)]
theorem VC.noPair (hv : vOk v) (h : VC I P v) (x y : Int32) : X4_isNoPair P I x y = if ix x (tn v) ∧ ix y (tn v) ∧ x ≠ y then 0 else 1 := by
  unfold X4_isNoPair
  rw [h.nobody hv x, h.nobody hv y, nz_0, nz_1]
  by_cases h1 : ix x (tn v)
  · by_cases h2 : ix y (tn v)
    · by_cases h3 : x = y <;> simp [h1, h2, h3]
    · simp [h1, h2]
  · simp [h1]
theorem VC.tws (hv : vOk v) (h : VC I P v) {i j : Nat} (hi : i < tn v) (hj : j < tn v) : X1_areTwins P I (nI i) (nI j) = some (if twins v i j then nI 1 else nI 0) := by
  have h2 := hv.1
  have h3 := hv.2.2.2.1 i
  have h4 := hv.2.2.2.1 j
  unfold X1_areTwins
  rw [rdI_nI (by omega) (by omega), bind_s, rdI_nI (by omega) (by omega), bind_s, (h.2.1 i hi).1, (h.2.1 j hj).1, nz_0, nz_1, i_1, i_0]
  simp (disch := omega) only [nI_eq_iff]
  by_cases a : tk v i = 1
  · by_cases b : tk v j = 1
    · simp [a, b]
    · simp [a, b]
  · simp [a]
theorem VC.apart (hv : vOk v) (h : VC I P v) {i j : Nat} (hi : i < tn v) (hj : j < tn v) : X4_areApart I (nI i) (nI j) = some (if same v i j then nI 0 else nI 1) := by
  have h2 := hv.1
  have h3 := tt_lt hv
  unfold X4_areApart
  rw [h.top, bind_s, bind_s, nz_0, nz_1, i_1, i_0, nI_bit (by omega) (by omega), nI_bit (by omega) (by omega)]
  simp (disch := omega) only [nI_eq_iff]
  have key : (tt v / 2 ^ i % 2 = tt v / 2 ^ j % 2) ↔ same v i j := by
    unfold same
    rw [tb_div, tb_div]
    rcases Nat.mod_two_eq_zero_or_one (tt v / 2 ^ i) with a | a <;> rcases Nat.mod_two_eq_zero_or_one (tt v / 2 ^ j) with b | b <;> simp [a, b]
  by_cases hs : same v i j
  · rw [if_pos (key.mpr hs), if_pos hs]
  · rw [if_neg (fun q => hs (key.mp q)), if_neg hs]
theorem VC.stonesWith (hv : vOk v) (h : VC I P v) {i : Nat} (hi : i < tn v) : X4_stonesWith P I (nI i) = some (nI (stW v i)) := by
  have h2 := hv.1
  have h3 := tt_lt hv
  have hm : (-1 : Int32) = (-1 : Int32) := rfl
  unfold X4_stonesWith stW
  rw [h.stonesUp, bind_s, h.top, bind_s, i_1]
  by_cases hb : (tt v).testBit i = true
  · rw [if_pos ((nI_bit1 (by omega) (by omega)).mpr hb), if_pos hb]
  · rw [if_neg (fun q => hb ((nI_bit1 (by omega) (by omega)).mp q)), if_neg hb, h.allStones hv, nI_ndN]
theorem VC.steps (hv : vOk v) (h : VC I P v) {i j a b : Nat} (hi : i < tn v) (hj : j < tn v) (ha : a < 2 ^ ts v) (hb : b < 2 ^ ts v) : X1_steps P I (nI i) (nI j) (nI a) (nI b) (nI (te v)) = some (nI (skN v i j a b)) := by
  have h2 := hv.1
  have h3 := p2s hv
  have c1 := cnt_le hv i
  have c2 := cnt_le hv j
  have w1 := setW_le hv a
  have w2 := setW_le hv b
  unfold X1_steps
  rw [rdI_nI (by omega) (by omega), bind_s, rdI_nI (by omega) (by omega), bind_s, rdI_nI (by omega) (by omega), bind_s, rdI_nI (by omega) (by omega), bind_s, rdI_nI (by omega) (by omega), bind_s, rdI_nI (by omega) (by omega), bind_s, h.tws hv hi hj, bind_s]
  rw [(h.2.1 i hi).1, (h.2.1 i hi).2, (h.2.1 j hj).1, (h.2.1 j hj).2, h.2.2.2.1 a ha, h.2.2.2.1 b hb, cnt_nI (hv.2.2.2.1 i) (hv.2.2.2.2.1 i) hv.2.2.2.2.2.2.1, cnt_nI (hv.2.2.2.1 j) (hv.2.2.2.2.1 j) hv.2.2.2.2.2.2.1, nI_sum, nI_sum]
  rw [sunk_nI (by show cnt v i + _ < _; omega) (by show cnt v j + _ < _; omega)]
  rfl
theorem VC.steps4 (hv : vOk v) (h : VC I P v) {i j a b : Nat} (hi : i < tn v) (hj : j < tn v) (ha : a < 2 ^ ts v) (hb : b < 2 ^ ts v) : X4_steps P I (nI i) (nI j) (nI a) (nI b) = some (nI (skN v i j a b)) := by
  unfold X4_steps
  rw [h.eaten, bind_s, h.steps hv hi hj ha hb, bind_s]
end VCs
