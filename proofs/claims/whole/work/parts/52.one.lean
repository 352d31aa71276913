/-! ONE, MARK, COUNTS OF KINDS -/
def compN (v : TV) (i : Nat) : Nat := foldF (fun k s => if i ≠ k ∧ canL v i k 0 then s ||| 2 ^ k else s) 0 (tn v) 0
def aboutN (v : TV) (i w : Nat) : Nat := if w = 0 then tk v i else if w = 1 then tw v i else if w = 2 then cnt v i else if w = 3 then (if (tt v).testBit i then 1 else 0) else compN v i
section OPO
variable {I J : xMem} {L M : xLon} {P Dr : Nat}
theorem VC.comp {I : xMem} {P : Nat} {v : TV} (hv : vOk v) (h : VC I P v) {i : Nat} (hi : i < tn v) : X4_companions P I (nI i) = some (nI (compN v i)) := by
  have h6 := hv.1
  unfold X4_companions
  exact loop_F (fun fuel k (s : Nat) => X4_companions_L1 P I (nI i) (fun z => some z) fuel (nI s) (nI k)) (fun s => some (nI s)) (tn v) (fun k s => if i ≠ k ∧ canL v i k 0 then s ||| 2 ^ k else s) (fun _ _ => True)
    (fun fuel k s hk _ => ⟨by
      show X4_companions_L1 P I (nI i) _ (fuel + 1) (nI s) (nI k) = _
      rw [X4_companions_L1]
      have q1 : ¬ nI (tn v) ≤ nI k := by rw [nI_le_iff (by omega) (by omega)]; omega
      rw [h.1.2.2, if_neg q1]
      by_cases e : k = i
      · rw [if_pos (by rw [e]), if_neg (fun w => w.1 e.symm), i_1, nI_sum]
      · have q2 : ¬ nI k = nI i := by rw [nI_eq_iff (by omega) (by omega)]; exact e
        rw [if_neg q2, i_0, h.can hv hi hk, bind_s]
        by_cases c : canL v i k 0
        · rw [if_pos c, if_neg (by decide), if_pos ⟨Ne.symm e, c⟩, i_1, nI_pow (by omega), nI_or, nI_sum]
        · rw [if_neg c, if_pos rfl, if_neg (fun w => c w.2), i_1, nI_sum], trivial⟩)
    (fun fuel s _ => by
      show X4_companions_L1 P I (nI i) _ (fuel + 1) (nI s) (nI (tn v)) = _
      rw [X4_companions_L1]
      rw [h.1.2.2, if_pos (Int32.le_refl _)])
    (tn v) bigF 0 0 (by omega) (bigF_gt (by omega)) trivial
theorem VM.comp {J : xMem} {v : TV} (hv : vOk v) (h : VM J v) {i : Nat} (hi : i < tn v) : ∃ J', X5_toldOf_L1 (nI i) (fun z3 I13 => some (z3, I13)) bigF 0 0 J = some (nI (compN v i), J') ∧ s24 J J' := by
  have h6 := hv.1
  obtain ⟨⟨s, J'⟩, ⟨hs, hJ⟩, he⟩ := loop_I (fun fuel k (z : Nat × xMem) => X5_toldOf_L1 (nI i) (fun z3 I13 => some (z3, I13)) fuel (nI z.1) (nI k) z.2) (fun z => some (nI z.1, z.2)) (tn v) (fun k z => z.1 = foldF (fun k s => if i ≠ k ∧ canL v i k 0 then s ||| 2 ^ k else s) 0 k 0 ∧ s24 J z.2)
    (fun fuel k z hk hI => by
      obtain ⟨s, Z⟩ := z
      obtain ⟨hs, hZ⟩ := hI
      have hs : s = _ := hs
      have hZ : s24 J Z := hZ
      have hM := h.sc hZ
      show ∃ s', X5_toldOf_L1 (nI i) _ (fuel + 1) (nI s) (nI k) Z = _ ∧ _
      rw [X5_toldOf_L1]
      have q1 : ¬ nI (tn v) ≤ nI k := by rw [nI_le_iff (by omega) (by omega)]; omega
      obtain ⟨Z', e1, e2⟩ := hM.can hv hi hk (but := 0)
      rw [hM.1.2.2, if_neg q1, i_0, e1, bind_s]
      dsimp only
      by_cases c : i ≠ k ∧ canL v i k 0
      · rw [if_pos c, if_neg (by decide), bind_s, i_1, nI_pow (by omega), nI_or, nI_sum]
        exact ⟨(s ||| 2 ^ k, Z'), rfl, by rw [foldF_succ, Nat.zero_add, if_pos c, hs], hZ.tr e2⟩
      · rw [if_neg c, if_pos (show (0 : Int32) = nI 0 from rfl), bind_s, i_1, nI_sum, nI_or, Nat.or_zero]
        exact ⟨(s, Z'), rfl, by rw [foldF_succ, Nat.zero_add, if_neg c, hs], hZ.tr e2⟩)
    (fun fuel z hI => by
      obtain ⟨s, Z⟩ := z
      have hM := h.sc hI.2
      show X5_toldOf_L1 (nI i) _ (fuel + 1) (nI s) (nI (tn v)) Z = _
      rw [X5_toldOf_L1]
      rw [show Z 0 4 = nI (tn v) from hM.1.2.2, if_pos (Int32.le_refl _)])
    (tn v) bigF 0 (0, J) (by omega) (bigF_gt (by omega)) ⟨rfl, s24.rf J⟩
  refine ⟨J', ?_, hJ⟩
  rw [show compN v i = s from hs.symm]
  exact he
theorem VC.about {I : xMem} {P : Nat} {v : TV} (hv : vOk v) (h : VC I P v) {i w : Nat} (hi : i < tn v) (hw : w ≤ 4) : X4_about P I (nI i) (nI w) = some (nI (aboutN v i w)) := by
  have h6 := hv.1
  have ht := tt_lt hv
  unfold X4_about aboutN
  simp (disch := omega) only [i_0, i_1, i_2, i_3, i_4, i_5, i_6, i_7, i_8, i_9, i_10, i_12, i_15, i_16, i_20, i_24, i_30, i_32, i_36, i_39, i_40, i_41, i_47, i_48, i_57, i_58, i_60, i_63, i_64, i_98, i_99, i_100, i_103, i_108, i_110, i_111, i_116, i_120, i_128, i_165, i_200, i_256, i_1000, i_1024, i_9999, nI_eq_iff]
  by_cases c0 : w = 0
  · rw [if_pos c0, if_pos c0, rdI_nI (by omega) (by omega), bind_s, (h.2.1 i hi).1]
  · rw [if_neg c0, if_neg c0]
    by_cases c1 : w = 1
    · rw [if_pos c1, if_pos c1, rdI_nI (by omega) (by omega), bind_s, (h.2.1 i hi).2]
    · rw [if_neg c1, if_neg c1]
      by_cases c2 : w = 2
      · rw [if_pos c2, if_pos c2, h.counts hv hi, bind_s]
      · rw [if_neg c2, if_neg c2]
        by_cases c3 : w = 3
        · rw [if_pos c3, if_pos c3, h.top, bind_s, nI_bit (by omega) (by omega)]
          by_cases b : (tt v).testBit i = true
          · rw [if_pos b]
            rw [tb_div, decide_eq_true_eq] at b
            rw [b]
          · rw [if_neg b]
            rw [tb_div, decide_eq_true_eq] at b
            rw [show tt v / 2 ^ i % 2 = 0 by omega]
        · rw [if_neg c3, if_neg c3, h.comp hv hi, bind_s]
theorem VM.about {J : xMem} {v : TV} (hv : vOk v) (h : VM J v) {i w : Nat} (hi : i < tn v) (hw : w ≤ 4) : ∃ J', X5_toldOf J (nI i) (nI w) = some (nI (aboutN v i w), J') ∧ s24 J J' := by
  have h6 := hv.1
  unfold X5_toldOf aboutN
  have hlit : ∀ n, n < 5 → (nI w = nI n ↔ w = n) := fun n hn => nI_eq_iff (by omega) (by omega)
  by_cases c0 : w = 0
  · rw [c0, if_pos (show nI 0 = 0 from rfl), if_pos rfl, rdI_nI (by omega) (by omega), bind_s, (h.2.1 i hi).1]
    exact ⟨J, rfl, s24.rf J⟩
  · rw [if_neg (show ¬ nI w = 0 from fun q => c0 ((hlit 0 (by omega)).mp q)), if_neg c0]
    by_cases c1 : w = 1
    · rw [c1, if_pos (show nI 1 = 1 from rfl), if_pos rfl, rdI_nI (by omega) (by omega), bind_s, (h.2.1 i hi).2]
      exact ⟨J, rfl, s24.rf J⟩
    · rw [if_neg (show ¬ nI w = 1 from fun q => c1 ((hlit 1 (by omega)).mp q)), if_neg c1]
      by_cases c2 : w = 2
      · rw [c2, if_pos (show nI 2 = 2 from rfl), if_pos rfl, h.counts hv hi, bind_s]
        exact ⟨J, rfl, s24.rf J⟩
      · rw [if_neg (show ¬ nI w = 2 from fun q => c2 ((hlit 2 (by omega)).mp q)), if_neg c2]
        by_cases c3 : w = 3
        · rw [c3, if_pos (show nI 3 = 3 from rfl), if_pos rfl, h.isTop hv hi, bind_s]
          cases (tt v).testBit i
          · exact ⟨J, rfl, s24.rf J⟩
          · exact ⟨J, rfl, s24.rf J⟩
        · rw [if_neg (show ¬ nI w = 3 from fun q => c3 ((hlit 3 (by omega)).mp q)), if_neg c3]
          exact h.comp hv hi
theorem in_04 (x : Int32) : X5_in x.toInt64 0 4 = if ix x 5 then 1 else 0 := by
  rw [in_spec, t64]
  have h0 : ((0 : Int64).toInt) = 0 := rfl
  have h2 : ((4 : Int64).toInt) = 4 := rfl
  simp only [ix, h0, h2]
  by_cases c : 0 ≤ x.toInt ∧ x.toInt ≤ 4
  · rw [if_pos c, if_pos (by omega)]
  · rw [if_neg c, if_neg (by omega)]
theorem out4 {x : Int32} {α : Type} (a b : α) : (if x < 0 then a else if x ≤ 4 then b else a) = if ix x 5 then b else a := by
  have h0 : ((0 : Int32).toInt) = 0 := rfl
  have h3 : ((4 : Int32).toInt) = 4 := rfl
  simp only [Int32.lt_iff_toInt_lt, Int32.le_iff_toInt_le, h0, h3, ix]
  by_cases c1 : x.toInt < 0
  · rw [if_pos c1, if_neg (by omega)]
  · rw [if_neg c1]
    by_cases c2 : x.toInt ≤ 4
    · rw [if_pos c2, if_pos (by omega)]
    · rw [if_neg c2, if_neg (by omega)]
theorem op_one (h : Sim I L P Dr J M) (x1 x2 : Int32) : Bt L P Dr M (X4_one P I x1 x2) (X5_one J x1 x2) := by
  obtain ⟨v, hv, hC, hM⟩ := h.view
  have h6 := hv.1
  unfold X4_one X5_one
  rw [hC.nobody hv, hM.one hv, in_04, out4]
  by_cases c1 : ix x1 (tn v)
  · rw [if_pos c1, if00, if_pos c1, if10]
    obtain ⟨i, hi, rfl⟩ := ix_of c1 (by omega)
    by_cases c2 : ix x2 5
    · rw [if_pos c2, if_pos c2, if10]
      obtain ⟨w, hw, rfl⟩ := ix_of c2 (by omega)
      obtain ⟨J', e1, e2⟩ := hM.about hv hi (show w ≤ 4 by omega)
      rw [hC.about hv hi (by omega), bind_s, bind_s, e1, bind_s]
      dsimp only
      rw [tell_eq, bind_s]
      exact Bt.mk rfl rfl rfl ((h.scr (cAg.rf I) e2.ag).told _)
    · rw [if_neg c2, if_neg c2, if00]
      exact Bt.mk rfl rfl rfl h
  · rw [if_neg c1, if10, if_neg c1, if00]
    exact Bt.mk rfl rfl rfl h
/-- how many are of a kind -/
def kindN (v : TV) (q : Nat) : Nat := sumN (fun i => if isA (tk v i) q then 1 else 0) (tn v)
theorem kindN_le {v : TV} (hv : vOk v) (q : Nat) : kindN v q ≤ 6 := by
  have h1 := sumN_le (f := fun i => if isA (tk v i) q then 1 else 0) (b := 1) (fun i => by
    show (if isA (tk v i) q then 1 else 0) ≤ 1
    split <;> omega) (tn v)
  have h2 := hv.1
  show sumN _ _ ≤ 6
  omega
theorem VC.howMany {I : xMem} {P : Nat} {v : TV} (hv : vOk v) (h : VC I P v) {q : Nat} (hq : 1 ≤ q) (hq5 : q ≤ 5) : X1_howMany P I (nI q) = some (nI (kindN v q)) := by
  have h6 := hv.1
  unfold X1_howMany
  have key := loop_F (fun fuel k (s : Nat) => X1_howMany_L1 P I (nI q) (fun z => some z) fuel (nI s) (nI k)) (fun s => some (nI s)) (tn v) (fun k s => s + (if isA (tk v k) q then 1 else 0)) (fun _ _ => True)
    (fun fuel k s hk _ => ⟨by
      show X1_howMany_L1 P I (nI q) _ (fuel + 1) (nI s) (nI k) = _
      rw [X1_howMany_L1]
      have q1 : ¬ nI (tn v) ≤ nI k := by rw [nI_le_iff (by omega) (by omega)]; omega
      have hb := isT_bit (tk v k) (hv.2.2.2.1 k) (q - 1) (by omega)
      rw [show q - 1 + 1 = q by omega] at hb
      rw [h.1.2.2, if_neg q1, rdI_nI (by omega) (by omega), bind_s, (h.2.1 k hk).1, rdT_nI (hv.2.2.2.1 k) (by omega), bind_s, hb]
      cases isA (tk v k) q
      · simp only [Bool.false_eq_true, if_false]
        rw [i_0, i_1, nI_sum, nI_sum]
      · simp only [if_true]
        rw [i_1, nI_sum, nI_sum], trivial⟩)
    (fun fuel s _ => by
      show X1_howMany_L1 P I (nI q) _ (fuel + 1) (nI s) (nI (tn v)) = _
      rw [X1_howMany_L1]
      rw [h.1.2.2, if_pos (Int32.le_refl _)])
    (tn v) bigF 0 0 (by omega) (bigF_gt (by omega)) trivial
  rw [foldF_sum (fun k => if isA (tk v k) q then 1 else 0)] at key
  exact key
theorem VM.isOf {J : xMem} {v : TV} (hv : vOk v) (h : VM J v) {i q : Nat} (hi : i < tn v) (hq5 : q ≤ 5) : X5_isOf J (nI i) (nI q) = some (if isA (tk v i) q then 1 else 0) := by
  have h6 := hv.1
  have hk := hv.2.2.2.1 i
  unfold X5_isOf
  rw [rdI_nI (by omega) (by omega), bind_s, (h.2.1 i hi).1, nz_0, nz_1]
  simp (disch := omega) only [i_0, i_1, i_2, i_3, i_4, i_5, i_6, i_7, i_8, i_9, i_10, i_12, i_15, i_16, i_20, i_24, i_30, i_32, i_36, i_39, i_40, i_41, i_47, i_48, i_57, i_58, i_60, i_63, i_64, i_98, i_99, i_100, i_103, i_108, i_110, i_111, i_116, i_120, i_128, i_165, i_200, i_256, i_1000, i_1024, i_9999, nI_eq_iff]
  generalize tk v i = k at hk ⊢
  have key : ∀ k, k < 6 → ∀ q, q < 6 → (if k = q then some (nI 1) else if q = 2 then if k = 5 then some (nI 1) else if q = 3 then if k = 4 then some (nI 1) else some (nI 0) else some (nI 0) else if q = 3 then if k = 4 then some (nI 1) else some (nI 0) else some (nI 0)) = some (if isA k q = true then nI 1 else nI 0) := by decide
  exact key k hk q (by omega)
/-- how many of the others count more -/
def heavN (v : TV) (i : Nat) : Nat := sumN (fun j => if cnt v i < cnt v j then 1 else 0) (tn v)
theorem VC.heavier {I : xMem} {P : Nat} {v : TV} (hv : vOk v) (h : VC I P v) {i : Nat} (hi : i < tn v) : X4_heavier P I (nI i) = some (nI (heavN v i)) := by
  have h6 := hv.1
  have hc := cnt_le hv
  unfold X4_heavier
  have key := loop_F (fun fuel k (s : Nat) => X4_heavier_L1 P I (nI i) (fun z => some z) fuel (nI s) (nI k)) (fun s => some (nI s)) (tn v) (fun k s => s + (if cnt v i < cnt v k then 1 else 0)) (fun _ _ => True)
    (fun fuel k s hk _ => ⟨by
      show X4_heavier_L1 P I (nI i) _ (fuel + 1) (nI s) (nI k) = _
      rw [X4_heavier_L1]
      have q1 : ¬ nI (tn v) ≤ nI k := by rw [nI_le_iff (by omega) (by omega)]; omega
      have c1 := hc i
      have c2 := hc k
      rw [h.1.2.2, if_neg q1, h.counts hv hk, bind_s, h.counts hv hi, bind_s]
      by_cases c : cnt v i < cnt v k
      · have q2 : ¬ nI (cnt v k) ≤ nI (cnt v i) := by rw [nI_le_iff (by omega) (by omega)]; omega
        rw [if_neg q2, bind_s, if_pos c, i_1, nI_sum, nI_sum]
      · have q2 : nI (cnt v k) ≤ nI (cnt v i) := by rw [nI_le_iff (by omega) (by omega)]; omega
        rw [if_pos q2, bind_s, if_neg c, i_0, i_1, nI_sum, nI_sum], trivial⟩)
    (fun fuel s _ => by
      show X4_heavier_L1 P I (nI i) _ (fuel + 1) (nI s) (nI (tn v)) = _
      rw [X4_heavier_L1]
      rw [h.1.2.2, if_pos (Int32.le_refl _)])
    (tn v) bigF 0 0 (by omega) (bigF_gt (by omega)) trivial
  rw [foldF_sum (fun k => if cnt v i < cnt v k then 1 else 0)] at key
  exact key
theorem VM.others {J : xMem} {v : TV} (hv : vOk v) (h : VM J v) {i : Nat} (hi : i < tn v) (b : Bool) : X5_othersThat J (nI i) (if b then 1 else 0) = some (nI (sumN (fun j => if j = i then 0 else if b then (if tk v j = 1 then 1 else 0) else (if cnt v i < cnt v j then 1 else 0)) (tn v))) := by
  have h6 := hv.1
  have hc := cnt_le hv
  unfold X5_othersThat
  have key := loop_F (fun fuel k (s : Nat) => X5_othersThat_L1 J (nI i) (if b then 1 else 0) (fun z => some z) fuel (nI s) (nI k)) (fun s => some (nI s)) (tn v) (fun k s => s + (if k = i then 0 else if b then (if tk v k = 1 then 1 else 0) else (if cnt v i < cnt v k then 1 else 0))) (fun _ _ => True)
    (fun fuel k s hk _ => ⟨by
      show X5_othersThat_L1 J (nI i) _ _ (fuel + 1) (nI s) (nI k) = _
      rw [X5_othersThat_L1]
      have q1 : ¬ nI (tn v) ≤ nI k := by rw [nI_le_iff (by omega) (by omega)]; omega
      have c1 := hc i
      have c2 := hc k
      have c3 := hv.2.2.2.1 k
      rw [h.1.2.2, if_neg q1]
      by_cases e : k = i
      · rw [if_pos (by rw [e]), bind_s, if_pos e, i_0, i_1, nI_sum, nI_sum]
      · have q2 : ¬ nI k = nI i := by rw [nI_eq_iff (by omega) (by omega)]; exact e
        rw [if_neg q2, if_neg e]
        cases b with
        | true =>
          simp only [if_true]
          rw [if10, rdI_nI (by omega) (by omega), bind_s, (h.2.1 k hk).1]
          by_cases c : tk v k = 1
          · rw [if_pos (by rw [c]; rfl), bind_s, if_pos c, i_1, nI_sum, nI_sum]
          · have q3 : ¬ nI (tk v k) = 1 := by rw [i_1, nI_eq_iff (by omega) (by omega)]; exact c
            rw [if_neg q3, bind_s, if_neg c, i_0, i_1, nI_sum, nI_sum]
        | false =>
          simp only [Bool.false_eq_true, if_false]
          rw [if_pos trivial, h.counts hv hk, bind_s, h.counts hv hi, bind_s]
          by_cases c : cnt v i < cnt v k
          · have q3 : ¬ nI (cnt v k) ≤ nI (cnt v i) := by rw [nI_le_iff (by omega) (by omega)]; omega
            rw [if_neg q3, bind_s, if_pos c, i_1, nI_sum, nI_sum]
          · have q3 : nI (cnt v k) ≤ nI (cnt v i) := by rw [nI_le_iff (by omega) (by omega)]; omega
            rw [if_pos q3, bind_s, if_neg c, i_0, i_1, nI_sum, nI_sum], trivial⟩)
    (fun fuel s _ => by
      show X5_othersThat_L1 J (nI i) _ _ (fuel + 1) (nI s) (nI (tn v)) = _
      rw [X5_othersThat_L1]
      rw [h.1.2.2, if_pos (Int32.le_refl _)])
    (tn v) bigF 0 0 (by omega) (bigF_gt (by omega)) trivial
  rw [foldF_sum (fun k => if k = i then 0 else if b then (if tk v k = 1 then 1 else 0) else (if cnt v i < cnt v k then 1 else 0))] at key
  exact key
theorem in_15 (x : Int32) : X5_in x.toInt64 1 5 = if 1 ≤ x.toInt ∧ x.toInt ≤ 5 then 1 else 0 := by
  rw [in_spec, t64]
  rfl
theorem op_mark (h : Sim I L P Dr J M) (x1 x2 : Int32) : Bt L P Dr M (X4_mark P I x1 x2) (X5_mark J x1 x2) := by
  obtain ⟨v, hv, hC, hM⟩ := h.view
  have h6 := hv.1
  have h1' : ((1 : Int32).toInt) = 1 := rfl
  have h5' : ((5 : Int32).toInt) = 5 := rfl
  unfold X4_mark X5_mark
  rw [hC.nobody hv, hM.one hv, in_15]
  by_cases c1 : ix x1 (tn v)
  · rw [if_pos c1, if00, if_pos c1, if10]
    obtain ⟨i, hi, rfl⟩ := ix_of c1 (by omega)
    by_cases c2 : 1 ≤ x2.toInt ∧ x2.toInt ≤ 5
    · have q1 : ¬ x2 < 1 := by rw [Int32.lt_iff_toInt_lt, h1']; omega
      have q2 : x2 ≤ 5 := by rw [Int32.le_iff_toInt_le, h5']; omega
      rw [if_pos c2, if10, if_neg q1, if_pos q2]
      obtain ⟨q, hq, rfl⟩ := nI_of (x := x2) (by rw [Int32.lt_iff_toInt_lt]; show ¬ x2.toInt < 0; omega)
      rw [nI_toInt hq] at c2
      have hb := isT_bit (tk v i) (hv.2.2.2.1 i) (q - 1) (by omega)
      rw [show q - 1 + 1 = q by omega] at hb
      have hk := hv.2.2.2.1 i
      rw [rdI_nI (by omega) (by omega), bind_s, (hC.2.1 i hi).1, rdT_nI (by omega) (by omega), bind_s, hb, hM.isOf hv hi (by omega), bind_s]
      cases ha : isA (tk v i) q
      · simp only [Bool.false_eq_true, if_false]
        rw [if_pos trivial, if_pos trivial, i_3, found_eq I (by omega), find_eq J (by omega)]
        exact Bt.mk rfl rfl rfl (h.find (by omega) (by omega))
      · simp only [if_true]
        rw [if10, if10]
        have e1 : rdI I (P + 4) 6 (nI i) = some (nI (tw v i)) := by rw [rdI_nI (by omega) (by omega), (hC.2.1 i hi).2]
        have e2 : rdI J 4 6 (nI i) = some (nI (tw v i)) := by rw [rdI_nI (by omega) (by omega), (hM.2.1 i hi).2]
        have o1 := hM.others hv hi true
        have o2 := hM.others hv hi false
        simp only [if_true] at o1
        simp only [Bool.false_eq_true, if_false] at o2
        rw [e1, bind_s, bind_s, e2, bind_s, bind_s, hC.counts hv hi, bind_s, bind_s, hM.counts hv hi, bind_s, bind_s, o1, o2, bind_s, bind_s, hC.heavier hv hi, bind_s, hC.eaten, bind_s, show (1 : Int32) = nI 1 from rfl, hC.howMany hv (by omega) (by omega), bind_s, rdI_nI (by omega) (by omega), bind_s, hM.2.2.2.1]
        by_cases d1 : nI q = nI 1
        · rw [if_pos d1, if_pos d1]
          have d1 : q = 1 := (nI_eq_iff (by omega) (by omega)).mp d1
          subst d1
          refine Bt.mk rfl rfl ?_ h
          have hk1 : tk v i = 1 := by
            have key : ∀ k, k < 6 → isA k 1 = true → k = 1 := by decide
            exact key _ hk ha
          have e := sumN_but (f := fun j => if isA (tk v j) 1 then 1 else 0) (i := i) (tn v)
          rw [if_pos hi, hk1] at e
          have e' : sumN (fun j => if j = i then 0 else if tk v j = 1 then 1 else 0) (tn v) = sumN (fun j => if j = i then 0 else if isA (tk v j) 1 then 1 else 0) (tn v) := sumN_congr _ (fun j hj => by
            by_cases z : j = i
            · rw [if_pos z, if_pos z]
            · rw [if_neg z, if_neg z]
              have key : ∀ k, k < 6 → (if k = 1 then (1 : Nat) else 0) = if isA k 1 = true then 1 else 0 := by decide
              exact key _ (hv.2.2.2.1 j))
          rw [e']
          have e'' : kindN v 1 = sumN (fun j => if j = i then 0 else if isA (tk v j) 1 then 1 else 0) (tn v) + 1 := by
            rw [show kindN v 1 = sumN (fun j => if isA (tk v j) 1 then 1 else 0) (tn v) from rfl, ← e]
            rfl
          rw [e'', pk_sub (by omega), Nat.add_sub_cancel]
        · rw [if_neg d1, if_neg d1]
          by_cases d2 : nI q = 2
          · rw [if_pos d2, if_pos d2]
            exact Bt.mk rfl rfl rfl h
          · rw [if_neg d2, if_neg d2]
            by_cases d3 : nI q = 3
            · rw [if_pos d3, if_pos d3]
              refine Bt.mk rfl rfl ?_ h
              have e := sumN_but (f := fun j => if cnt v i < cnt v j then 1 else 0) (i := i) (tn v)
              rw [if_pos hi, if_neg (by omega), Nat.add_zero] at e
              rw [e]
              rfl
            · rw [if_neg d3, if_neg d3]
              by_cases d4 : nI q = 4
              · rw [if_pos d4, if_pos d4]
                exact Bt.mk rfl rfl rfl h
              · rw [if_neg d4, if_neg d4]
                exact Bt.mk rfl rfl rfl h
    · rw [if_neg c2, if00]
      by_cases q1 : x2 < 1
      · rw [if_pos q1]
        exact Bt.mk rfl rfl rfl h
      · rw [if_neg q1]
        have q2 : ¬ x2 ≤ 5 := by
          rw [Int32.lt_iff_toInt_lt, h1'] at q1
          rw [Int32.le_iff_toInt_le, h5']
          omega
        rw [if_neg q2]
        exact Bt.mk rfl rfl rfl h
  · rw [if_neg c1, if10, if_neg c1, if00]
    exact Bt.mk rfl rfl rfl h
end OPO
