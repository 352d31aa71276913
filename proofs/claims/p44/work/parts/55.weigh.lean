/-! POUNDS, KINDS, NEXT: BY HOW FAR IT SANK -/
def skW (v : TV) (k w j : Nat) : Nat := sunkN (cntOf k w (te v)) (cnt v j) (k = 1 ∧ tk v j = 1)
theorem skW_le {v : TV} (hv : vOk v) {k w j : Nat} (hw : w ≤ 99) : skW v k w j ≤ 113 := sunkN_le (cntOf_le hw hv.2.2.2.2.2.2.1) (cnt_le hv j)
/-- pair t of a row is as it should be -/
abbrev wOk (v : TV) (i : Nat) (g : Nat → Int32) (t : Nat) : Prop := ix (g (2 * t)) (tn v) ∧ ¬ g (2 * t) = nI i ∧ 0 ≤ (g (2 * t + 1)).toInt ∧ (g (2 * t + 1)).toInt ≤ 200
/-- one of a kind, of a weight, fits what is told -/
abbrev fitP (v : TV) (g : Nat → Int32) (k w t : Nat) : Prop := nI (skW v k w (szN (g (2 * t)))) = g (2 * t + 1)
abbrev fitN (v : TV) (g : Nat → Int32) (m k w : Nat) : Prop := ∀ t, t < m → fitP v g k w t
theorem wOk_a {v : TV} (hv : vOk v) {i : Nat} {g : Nat → Int32} {t : Nat} (h : wOk v i g t) : szN (g (2 * t)) < tn v ∧ g (2 * t) = nI (szN (g (2 * t))) := by
  obtain ⟨a, ha, e⟩ := ix_of h.1 (by have := hv.1; omega)
  have : szN (g (2 * t)) = a := by rw [e]; exact nI_clamp (by have := hv.1; omega)
  rw [this]
  exact ⟨ha, e⟩
section OPW
variable {I J : xMem} {L M : xLon} {P Dr : Nat}
theorem VC.stepsAs {I : xMem} {P : Nat} {v : TV} (hv : vOk v) (h : VC I P v) {k w j : Nat} (hk : k < 6) (hw : w ≤ 99) (hj : j < tn v) : X4_stepsAs P I (nI k) (nI w) (nI j) = some (nI (skW v k w j)) := by
  have h6 := hv.1
  have hkj := hv.2.2.2.1 j
  have c1 := cntOf_le (k := k) hw hv.2.2.2.2.2.2.1
  have c2 := cnt_le hv j
  unfold X4_stepsAs
  rw [h.eaten, bind_s, h.counts hv hj, bind_s, rdI_nI (by omega) (by omega), bind_s, (h.2.1 j hj).1, cnt_nI hk hw hv.2.2.2.2.2.2.1]
  have e : (if nI k = 1 then (if nI (tk v j) = 1 then (some (1 : Int32)) else (some (0 : Int32))) else (some (0 : Int32))) = some (if k = 1 ∧ tk v j = 1 then nI 1 else nI 0) := by
    rw [i_1, i_0]
    simp (disch := omega) only [nI_eq_iff]
    by_cases a : k = 1
    · by_cases b : tk v j = 1 <;> simp [a, b]
    · simp [a]
  rw [e, bind_s, sunk_nI (by omega) (by omega)]
  rfl
theorem VC.refL {I : xMem} {P : Nat} {v : TV} (hv : vOk v) (h : VC I P v) {i r m : Nat} (hi : i < tn v) (hr : r < 6) (hm : m ≤ 8) (K : Option (Int32 × xMem)) : ((∀ t, t < m → wOk v i (I (4 + r)) t) ∧ X4_refusedWeighing_L1 P (nI i) (nI r) (0, I) (nI (2 * m)) K bigF 0 = K) ∨ ((¬ ∀ t, t < m → wOk v i (I (4 + r)) t) ∧ X4_refusedWeighing_L1 P (nI i) (nI r) (0, I) (nI (2 * m)) K bigF 0 = some (-3, cFnd I 3)) := by
  have h0 : ((0 : Int32).toInt) = 0 := rfl
  have h200 : ((200 : Int32).toInt) = 200 := rfl
  refine loop_T (fun fuel t (_ : Unit) => X4_refusedWeighing_L1 P (nI i) (nI r) (0, I) (nI (2 * m)) K fuel (nI (2 * t))) (fun o => ((∀ t, t < m → wOk v i (I (4 + r)) t) ∧ o = K) ∨ ((¬ ∀ t, t < m → wOk v i (I (4 + r)) t) ∧ o = some (-3, cFnd I 3))) m (fun t _ => ∀ t', t' < t → wOk v i (I (4 + r)) t')
    (fun fuel t _ ht hI => ?_) (fun fuel _ hI => ?_) m bigF 0 () (by omega) (bigF_gt (by omega)) (fun t' h => absurd h (by omega))
  · show (_ ∧ X4_refusedWeighing_L1 P (nI i) (nI r) (0, I) (nI (2 * m)) K (fuel + 1) (nI (2 * t)) = K ∨ _ ∧ X4_refusedWeighing_L1 P (nI i) (nI r) (0, I) (nI (2 * m)) K (fuel + 1) (nI (2 * t)) = _) ∨ ∃ s', X4_refusedWeighing_L1 P (nI i) (nI r) (0, I) (nI (2 * m)) K (fuel + 1) (nI (2 * t)) = _ ∧ _
    rw [X4_refusedWeighing_L1]
    have q1 : ¬ nI (2 * m) ≤ nI (2 * t + 1) := by rw [nI_le_iff (by omega) (by omega)]; omega
    rw [i_1, nI_sum, if_neg q1, rdX_nI hr (by omega), bind_s]
    dsimp only
    rw [show 3 + 1 + r = 4 + r by omega, rdI_nI (by omega) (by omega), bind_s, bind_s, rdI_nI (by omega) (by omega), bind_s, h.nobody hv]
    by_cases c1 : ix (I (4 + r) (2 * t)) (tn v)
    · rw [if_pos c1, if00]
      by_cases c2 : I (4 + r) (2 * t) = nI i
      · rw [if_pos c2, i_3, found_eq I (by omega), bind_s]
        exact Or.inl (Or.inr ⟨fun w => (w t ht).2.1 c2, rfl⟩)
      · rw [if_neg c2]
        by_cases c3 : I (4 + r) (2 * t + 1) < 0
        · rw [if_pos c3, i_3, found_eq I (by omega), bind_s]
          rw [Int32.lt_iff_toInt_lt, h0] at c3
          exact Or.inl (Or.inr ⟨fun w => by have := (w t ht).2.2.1; omega, rfl⟩)
        · rw [if_neg c3]
          by_cases c4 : I (4 + r) (2 * t + 1) ≤ 200
          · rw [if_pos c4, i_2, nI_sum]
            rw [Int32.lt_iff_toInt_lt, h0] at c3
            rw [Int32.le_iff_toInt_le, h200] at c4
            refine Or.inr ⟨(), rfl, fun t' ht' => ?_⟩
            rcases Nat.lt_or_ge t' t with q | q
            · exact hI t' q
            · rw [show t' = t by omega]
              exact ⟨c1, c2, by omega, c4⟩
          · rw [if_neg c4, i_3, found_eq I (by omega), bind_s]
            rw [Int32.le_iff_toInt_le, h200] at c4
            exact Or.inl (Or.inr ⟨fun w => by have := (w t ht).2.2.2; omega, rfl⟩)
    · rw [if_neg c1, if10, i_3, found_eq I (by omega), bind_s]
      exact Or.inl (Or.inr ⟨fun w => c1 (w t ht).1, rfl⟩)
  · show _ ∧ X4_refusedWeighing_L1 P (nI i) (nI r) (0, I) (nI (2 * m)) K (fuel + 1) (nI (2 * m)) = K ∨ _ ∧ X4_refusedWeighing_L1 P (nI i) (nI r) (0, I) (nI (2 * m)) K (fuel + 1) (nI (2 * m)) = _
    rw [X4_refusedWeighing_L1]
    have q1 : nI (2 * m) ≤ nI (2 * m + 1) := by rw [nI_le_iff (by omega) (by omega)]; omega
    rw [i_1, nI_sum, if_pos q1]
    exact Or.inl ⟨hI, rfl⟩
theorem VC.fits {I : xMem} {P : Nat} {v : TV} (hv : vOk v) (h : VC I P v) {i r m k w : Nat} {g : Nat → Int32} (hr : r < 6) (hm : m ≤ 8) (h2 : I 2 r = nI (2 * m)) (hg : ∀ j, j < 40 → I (4 + r) j = g j) (ho : ∀ t, t < m → wOk v i g t) (hk : k < 6) (hw : w ≤ 99) : X4_fits P I (nI k) (nI w) (nI r) = some (if fitN v g m k w then nI 1 else nI 0) := by
  unfold X4_fits
  refine loop_T (fun fuel t (_ : Unit) => X4_fits_L1 P I (nI k) (nI w) (nI r) (some (nz 1)) fuel (nI (2 * t))) (fun o => o = some (if fitN v g m k w then nI 1 else nI 0)) m (fun t _ => ∀ t', t' < t → fitP v g k w t')
    (fun fuel t _ ht hI => ?_) (fun fuel _ hI => ?_) m bigF 0 () (by omega) (bigF_gt (by omega)) (fun t' h => absurd h (by omega))
  · show X4_fits_L1 P I (nI k) (nI w) (nI r) _ (fuel + 1) (nI (2 * t)) = _ ∨ ∃ s', X4_fits_L1 P I (nI k) (nI w) (nI r) _ (fuel + 1) (nI (2 * t)) = _ ∧ _
    rw [X4_fits_L1]
    have q1 : ¬ nI (2 * m) ≤ nI (2 * t + 1) := by rw [nI_le_iff (by omega) (by omega)]; omega
    obtain ⟨a1, a2⟩ := wOk_a hv (ho t ht)
    rw [show cLen 2 = 6 from rfl, rdI_nI hr (by omega), bind_s, h2, i_1, nI_sum, if_neg q1, rdX_nI hr (by omega), bind_s, show 3 + 1 + r = 4 + r by omega, rdI_nI (by omega) (by omega), bind_s, hg _ (by omega), a2, h.stepsAs hv hk hw a1, bind_s, bind_s, rdI_nI (by omega) (by omega), bind_s, hg _ (by omega)]
    by_cases c : fitP v g k w t
    · right
      rw [if_pos c, i_2, nI_sum]
      refine ⟨(), rfl, fun t' ht' => ?_⟩
      rcases Nat.lt_or_ge t' t with q | q
      · exact hI t' q
      · rw [show t' = t by omega]; exact c
    · left
      rw [if_neg c, if_neg (fun w => c (w t ht))]
      rfl
  · show X4_fits_L1 P I (nI k) (nI w) (nI r) _ (fuel + 1) (nI (2 * m)) = _
    rw [X4_fits_L1]
    have q1 : nI (2 * m) ≤ nI (2 * m + 1) := by rw [nI_le_iff (by omega) (by omega)]; omega
    rw [show cLen 2 = 6 from rfl, rdI_nI hr (by omega), bind_s, h2, i_1, nI_sum, if_pos q1, if_pos hI]
    rfl
def kfN (v : TV) (g : Nat → Int32) (m w : Nat) : Nat := foldF (fun k s => if fitN v g m k w then s ||| 2 ^ k else s) 0 6 0
theorem VC.kf {I : xMem} {P : Nat} {v : TV} (hv : vOk v) (h : VC I P v) {i r m : Nat} {g : Nat → Int32} (hi : i < tn v) (hr : r < 6) (hm : m ≤ 8) (h2 : I 2 r = nI (2 * m)) (hg : ∀ j, j < 40 → I (4 + r) j = g j) (ho : ∀ t, t < m → wOk v i g t) : X4_fittingKinds P I (nI i) (nI r) = some (nI (kfN v g m (tw v i))) := by
  have h6 := hv.1
  unfold X4_fittingKinds
  exact loop_F (fun fuel k (s : Nat) => X4_fittingKinds_L1 P I (nI i) (nI r) (fun z => some z) fuel (nI s) (nI k)) (fun s => some (nI s)) 6 (fun k s => if fitN v g m k (tw v i) then s ||| 2 ^ k else s) (fun _ _ => True)
    (fun fuel k s hk _ => ⟨by
      show X4_fittingKinds_L1 P I (nI i) (nI r) _ (fuel + 1) (nI s) (nI k) = _
      rw [X4_fittingKinds_L1]
      have q1 : ¬ (6 : Int32) ≤ nI k := by rw [i_6, nI_le_iff (by omega) (by omega)]; omega
      rw [if_neg q1, rdI_nI (by omega) (by omega), bind_s, (h.2.1 i hi).2, h.fits hv hr hm h2 hg ho hk (hv.2.2.2.2.1 i), bind_s]
      by_cases c : fitN v g m k (tw v i)
      · rw [if_pos c, if_neg (show ¬ nI 1 = 0 by decide), if_pos c, i_1, nI_pow (by omega), nI_or, nI_sum]
      · rw [if_neg c, if_pos (show nI 0 = 0 from rfl), if_neg c, i_1, nI_sum], trivial⟩)
    (fun fuel s _ => by
      show X4_fittingKinds_L1 P I (nI i) (nI r) _ (fuel + 1) (nI s) (nI 6) = _
      rw [X4_fittingKinds_L1]
      rw [if_pos (by decide)])
    6 bigF 0 0 (by omega) (bigF_gt (by omega)) trivial
theorem kfN_lt (v : TV) (g : Nat → Int32) (m w : Nat) : kfN v g m w < 64 := by
  refine foldF_inv _ (fun k s => k ≤ 6 → s < 2 ^ 6) 6 0 0 (fun _ => by decide) (fun j s _ h2 hI hj => ?_) (by decide)
  show (if fitN v g m j w then s ||| 2 ^ j else s) < 2 ^ 6
  split
  · exact Nat.or_lt_two_pow (hI (by omega)) (Nat.pow_lt_pow_right (by decide) (by omega))
  · exact hI (by omega)
/-- kinds of a set that sink alike -/
abbrev alikeP (v : TV) (w set j a b : Nat) : Prop := set.testBit a = true ∧ set.testBit b = true ∧ skW v a w j = skW v b w j
def grI (v : TV) (w set j a : Nat) : Nat := sumN (fun b => if alikeP v w set j a b then 1 else 0) 6
def grP (v : TV) (w set j : Nat) : Nat := foldF (fun a s => if s < grI v w set j a then grI v w set j a else s) 0 6 0
theorem grI_le (v : TV) (w set j a : Nat) : grI v w set j a ≤ 6 := by
  have h1 := sumN_le (f := fun b => if alikeP v w set j a b then 1 else 0) (b := 1) (fun b => by
    show (if alikeP v w set j a b then 1 else 0) ≤ 1
    split <;> omega) 6
  show sumN _ _ ≤ 6
  omega
theorem grP_le (v : TV) (w set j : Nat) : grP v w set j ≤ 6 := by
  refine foldF_inv _ (fun k s => s ≤ 6) 6 0 0 (by omega) (fun a s _ h2 hI => ?_)
  show (if s < grI v w set j a then grI v w set j a else s) ≤ 6
  have := grI_le v w set j a
  split
  · exact this
  · exact hI
theorem VC.gr {I : xMem} {P : Nat} {v : TV} (hv : vOk v) (h : VC I P v) {w set j : Nat} (hw : w ≤ 99) (hs : set < 64) (hj : j < tn v) : X4_greatestPart P I (nI w) (nI set) (nI j) = some (nI (grP v w set j)) := by
  have inner : ∀ (K : Int32 → Option Int32) (a : Nat), a < 6 → X4_greatestPart_L2 P I (nI w) (nI set) (nI j) (nI a) K bigF (nI 0) (nI 0) = K (nI (grI v w set j a)) := by
    intro K a ha
    have key := loop_F (fun fuel b (s : Nat) => X4_greatestPart_L2 P I (nI w) (nI set) (nI j) (nI a) K fuel (nI s) (nI b)) (fun s => K (nI s)) 6 (fun b s => s + if alikeP v w set j a b then 1 else 0) (fun _ _ => True)
      (fun fuel b s hb _ => ⟨by
        show X4_greatestPart_L2 P I (nI w) (nI set) (nI j) (nI a) K (fuel + 1) (nI s) (nI b) = _
        rw [X4_greatestPart_L2]
        have q1 : ¬ nI 6 ≤ nI b := by rw [nI_le_iff (by omega) (by omega)]; omega
        have k1 := skW_le hv (k := a) (j := j) hw
        have k2 := skW_le hv (k := b) (j := j) hw
        rw [i_6, if_neg q1, i_1, h.stepsAs hv ha hw hj, bind_s, h.stepsAs hv hb hw hj, bind_s]
        by_cases c1 : set.testBit a = true
        · by_cases c2 : set.testBit b = true
          · rw [if_pos ((nI_bit1 (by omega) (by omega)).mpr c1), if_pos ((nI_bit1 (by omega) (by omega)).mpr c2), bind_s, if_neg (show ¬ nI 1 = 0 by decide)]
            by_cases c3 : skW v a w j = skW v b w j
            · rw [if_pos (by rw [c3]), if_pos ⟨c1, c2, c3⟩, nI_sum, nI_sum]
            · rw [if_neg (by rw [nI_eq_iff (by omega) (by omega)]; exact c3), if_neg (fun q => c3 q.2.2), nI_sum]
              try rfl
          · rw [if_pos ((nI_bit1 (by omega) (by omega)).mpr c1), if_neg (fun q => c2 ((nI_bit1 (by omega) (by omega)).mp q)), bind_s, if00, if_neg (fun q => c2 q.2.1), nI_sum]
            try rfl
        · rw [if_neg (fun q => c1 ((nI_bit1 (by omega) (by omega)).mp q)), bind_s, if00, if_neg (fun q => c1 q.1), nI_sum]
          try rfl, trivial⟩)
      (fun fuel s _ => by
        show X4_greatestPart_L2 P I (nI w) (nI set) (nI j) (nI a) K (fuel + 1) (nI s) (nI 6) = _
        rw [X4_greatestPart_L2]
        rw [if_pos (by decide)])
      6 bigF 0 0 (by omega) (bigF_gt (by omega)) trivial
    rw [foldF_sum (fun b => if alikeP v w set j a b then 1 else 0)] at key
    exact key
  unfold X4_greatestPart
  exact loop_F (fun fuel a (s : Nat) => X4_greatestPart_L1 P I (nI w) (nI set) (nI j) (fun z => some z) fuel (nI s) (nI a)) (fun s => some (nI s)) 6 (fun a s => if s < grI v w set j a then grI v w set j a else s) (fun _ s => s ≤ 6)
    (fun fuel a s ha hI => by
      have hg := grI_le v w set j a
      refine ⟨?_, ?_⟩
      · show X4_greatestPart_L1 P I (nI w) (nI set) (nI j) _ (fuel + 1) (nI s) (nI a) = _
        rw [X4_greatestPart_L1]
        have q1 : ¬ (6 : Int32) ≤ nI a := by rw [i_6, nI_le_iff (by omega) (by omega)]; omega
        rw [if_neg q1, i_0, inner _ a ha, i_1, nI_sum]
        by_cases c : s < grI v w set j a
        · rw [if_pos ((nI_lt_iff (by omega) (by omega)).mpr c), if_pos c]
        · rw [if_neg (fun q => c ((nI_lt_iff (by omega) (by omega)).mp q)), if_neg c]
      · show (if s < grI v w set j a then grI v w set j a else s) ≤ 6
        split
        · exact hg
        · exact hI)
    (fun fuel s _ => by
      show X4_greatestPart_L1 P I (nI w) (nI set) (nI j) _ (fuel + 1) (nI s) (nI 6) = _
      rw [X4_greatestPart_L1]
      rw [if_pos (by decide)])
    6 bigF 0 0 (by omega) (bigF_gt (by omega)) (by omega)
end OPW
