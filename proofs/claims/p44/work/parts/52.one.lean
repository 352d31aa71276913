/-! ONE, MARK, COUNTS OF KINDS -/
def compN (v : TV) (i : Nat) : Nat := foldF (fun k s => if i ≠ k ∧ canL v i k 0 then s ||| 2 ^ k else s) 0 (tn v) 0
def aboutN (v : TV) (i w : Nat) : Nat := if w = 0 then tk v i else if w = 1 then tw v i else if w = 2 then cnt v i else if w = 3 then (if (tt v).testBit i then 1 else 0) else compN v i
section OPO
variable {I J : xMem} {L M : xLon} {P Dr : Nat}
theorem VC.comp {I : xMem} {P : Nat} {v : TV} (hv : vOk v) (h : VC I P v) {i : Nat} (hi : i < tn v) : X4_companions P I (nI i) = some (nI (compN v i)) := by
  have h6 := hv.1
  unfold X4_companions
  exact loop_F (fun fuel k (s : Nat) => X4_companions_L1 P I (nI i) (fun z => some z) fuel (nI s) (nI k)) (fun s => some (nI s)) (tn v) (fun k s => if i ≠ k ∧ canL v i k 0 then s ||| 2 ^ k else s) (fun _ _ => True)
    (fun fuel k s hk _ => ⟨by
      show X4_companions_L1 P I (nI i) _ (fuel + 1) (nI s) (nI k) = _
      rw [X4_companions_L1]
      have q1 : ¬ nI (tn v) ≤ nI k := by rw [nI_le_iff (by omega) (by omega)]; omega
      rw [h.1.2.2, if_neg q1]
      by_cases e : k = i
      · rw [if_pos (by rw [e]), if_neg (fun w => w.1 e.symm), i_1, nI_sum]
      · have q2 : ¬ nI k = nI i := by rw [nI_eq_iff (by omega) (by omega)]; exact e
        rw [if_neg q2, i_0, h.can hv hi hk, bind_s]
        by_cases c : canL v i k 0
        · rw [if_pos c, if_neg (by decide), if_pos ⟨Ne.symm e, c⟩, i_1, nI_pow (by omega), nI_or, nI_sum]
        · rw [if_neg c, if_pos rfl, if_neg (fun w => c w.2), i_1, nI_sum], trivial⟩)
    (fun fuel s _ => by
      show X4_companions_L1 P I (nI i) _ (fuel + 1) (nI s) (nI (tn v)) = _
      rw [X4_companions_L1]
      rw [h.1.2.2, if_pos (Int32.le_refl _)])
    (tn v) bigF 0 0 (by omega) (bigF_gt (by omega)) trivial
theorem VC.about {I : xMem} {P : Nat} {v : TV} (hv : vOk v) (h : VC I P v) {i w : Nat} (hi : i < tn v) (hw : w ≤ 4) : X4_about P I (nI i) (nI w) = some (nI (aboutN v i w)) := by
  have h6 := hv.1
  have ht := tt_lt hv
  unfold X4_about aboutN
  simp (disch := omega) only [i_0, i_1, i_2, i_3, i_4, i_5, i_6, i_7, i_8, i_9, i_10, i_12, i_15, i_16, i_20, i_24, i_30, i_32, i_36, i_39, i_40, i_41, i_47, i_48, i_57, i_58, i_60, i_63, i_64, i_98, i_99, i_100, i_103, i_108, i_110, i_111, i_116, i_120, i_128, i_165, i_200, i_256, i_1000, i_1024, i_9999, nI_eq_iff]
  by_cases c0 : w = 0
  · rw [if_pos c0, if_pos c0, rdI_nI (by omega) (by omega), bind_s, (h.2.1 i hi).1]
  · rw [if_neg c0, if_neg c0]
    by_cases c1 : w = 1
    · rw [if_pos c1, if_pos c1, rdI_nI (by omega) (by omega), bind_s, (h.2.1 i hi).2]
    · rw [if_neg c1, if_neg c1]
      by_cases c2 : w = 2
      · rw [if_pos c2, if_pos c2, h.counts hv hi, bind_s]
      · rw [if_neg c2, if_neg c2]
        by_cases c3 : w = 3
        · rw [if_pos c3, if_pos c3, h.top, bind_s, nI_bit (by omega) (by omega)]
          by_cases b : (tt v).testBit i = true
          · rw [if_pos b]
            rw [tb_div, decide_eq_true_eq] at b
            rw [b]
          · rw [if_neg b]
            rw [tb_div, decide_eq_true_eq] at b
            rw [show tt v / 2 ^ i % 2 = 0 by omega]
        · rw [if_neg c3, if_neg c3, h.comp hv hi, bind_s]
theorem out4 {x : Int32} {α : Type} (a b : α) : (if x < 0 then a else if x ≤ 4 then b else a) = if ix x 5 then b else a := by
  have h0 : ((0 : Int32).toInt) = 0 := rfl
  have h3 : ((4 : Int32).toInt) = 4 := rfl
  simp only [Int32.lt_iff_toInt_lt, Int32.le_iff_toInt_le, h0, h3, ix]
  by_cases c1 : x.toInt < 0
  · rw [if_pos c1, if_neg (by omega)]
  · rw [if_neg c1]
    by_cases c2 : x.toInt ≤ 4
    · rw [if_pos c2, if_pos (by omega)]
    · rw [if_neg c2, if_neg (by omega)]
/-- how many are of a kind -/
def kindN (v : TV) (q : Nat) : Nat := sumN (fun i => if isA (tk v i) q then 1 else 0) (tn v)
theorem kindN_le {v : TV} (hv : vOk v) (q : Nat) : kindN v q ≤ 6 := by
  have h1 := sumN_le (f := fun i => if isA (tk v i) q then 1 else 0) (b := 1) (fun i => by
    show (if isA (tk v i) q then 1 else 0) ≤ 1
    split <;> omega) (tn v)
  have h2 := hv.1
  show sumN _ _ ≤ 6
  omega
theorem VC.howMany {I : xMem} {P : Nat} {v : TV} (hv : vOk v) (h : VC I P v) {q : Nat} (hq : 1 ≤ q) (hq5 : q ≤ 5) : X1_howMany P I (nI q) = some (nI (kindN v q)) := by
  have h6 := hv.1
  unfold X1_howMany
  have key := loop_F (fun fuel k (s : Nat) => X1_howMany_L1 P I (nI q) (fun z => some z) fuel (nI s) (nI k)) (fun s => some (nI s)) (tn v) (fun k s => s + (if isA (tk v k) q then 1 else 0)) (fun _ _ => True)
    (fun fuel k s hk _ => ⟨by
      show X1_howMany_L1 P I (nI q) _ (fuel + 1) (nI s) (nI k) = _
      rw [X1_howMany_L1]
      have q1 : ¬ nI (tn v) ≤ nI k := by rw [nI_le_iff (by omega) (by omega)]; omega
      have hb := isT_bit (tk v k) (hv.2.2.2.1 k) (q - 1) (by omega)
      rw [show q - 1 + 1 = q by omega] at hb
      rw [h.1.2.2, if_neg q1, rdI_nI (by omega) (by omega), bind_s, (h.2.1 k hk).1, rdT_nI (hv.2.2.2.1 k) (by omega), bind_s, hb]
      cases isA (tk v k) q
      · simp only [Bool.false_eq_true, if_false]
        rw [i_0, i_1, nI_sum, nI_sum]
      · simp only [if_true]
        rw [i_1, nI_sum, nI_sum], trivial⟩)
    (fun fuel s _ => by
      show X1_howMany_L1 P I (nI q) _ (fuel + 1) (nI s) (nI (tn v)) = _
      rw [X1_howMany_L1]
      rw [h.1.2.2, if_pos (Int32.le_refl _)])
    (tn v) bigF 0 0 (by omega) (bigF_gt (by omega)) trivial
  rw [foldF_sum (fun k => if isA (tk v k) q then 1 else 0)] at key
  exact key
/-- how many of the others count more -/
def heavN (v : TV) (i : Nat) : Nat := sumN (fun j => if cnt v i < cnt v j then 1 else 0) (tn v)
end OPO
