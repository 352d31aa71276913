/-! POUNDS, KINDS, NEXT: BY HOW FAR IT SANK -/
def skW (v : TV) (k w j : Nat) : Nat := sunkN (cntOf k w (te v)) (cnt v j) (k = 1 ∧ tk v j = 1)
theorem skW_le {v : TV} (hv : vOk v) {k w j : Nat} (hw : w ≤ 99) : skW v k w j ≤ 113 := sunkN_le (cntOf_le hw hv.2.2.2.2.2.2.1) (cnt_le hv j)
/-- pair t of a row is as it should be -/
abbrev wOk (v : TV) (i : Nat) (g : Nat → Int32) (t : Nat) : Prop := ix (g (2 * t)) (tn v) ∧ ¬ g (2 * t) = nI i ∧ 0 ≤ (g (2 * t + 1)).toInt ∧ (g (2 * t + 1)).toInt ≤ 200
/-- one of a kind, of a weight, fits what is told -/
abbrev fitP (v : TV) (g : Nat → Int32) (k w t : Nat) : Prop := nI (skW v k w (szN (g (2 * t)))) = g (2 * t + 1)
abbrev fitN (v : TV) (g : Nat → Int32) (m k w : Nat) : Prop := ∀ t, t < m → fitP v g k w t
def X5W (J : xMem) (x1 x2 : Int32) (F : Int32 × xMem → Option (Int32 × xMem)) : Option (Int32 × xMem) := if (X5_isOne J x1) = (0 : Int32) then (some ((-1 : Int32), J)) else (if (X5_isRow x2) = (0 : Int32) then (some ((-1 : Int32), J)) else ((X5_noPairs J x1 x2).bind F))
theorem wOk_a {v : TV} (hv : vOk v) {i : Nat} {g : Nat → Int32} {t : Nat} (h : wOk v i g t) : szN (g (2 * t)) < tn v ∧ g (2 * t) = nI (szN (g (2 * t))) := by
  obtain ⟨a, ha, e⟩ := ix_of h.1 (by have := hv.1; omega)
  have : szN (g (2 * t)) = a := by rw [e]; exact nI_clamp (by have := hv.1; omega)
  rw [this]
  exact ⟨ha, e⟩
section OPW
variable {I J : xMem} {L M : xLon} {P Dr : Nat}
theorem VC.stepsAs {I : xMem} {P : Nat} {v : TV} (hv : vOk v) (h : VC I P v) {k w j : Nat} (hk : k < 6) (hw : w ≤ 99) (hj : j < tn v) : X4_stepsAs P I (nI k) (nI w) (nI j) = some (nI (skW v k w j)) := by
  have h6 := hv.1
  have hkj := hv.2.2.2.1 j
  have c1 := cntOf_le (k := k) hw hv.2.2.2.2.2.2.1
  have c2 := cnt_le hv j
  unfold X4_stepsAs
  rw [h.eaten, bind_s, h.counts hv hj, bind_s, rdI_nI (by omega) (by omega), bind_s, (h.2.1 j hj).1, cnt_nI hk hw hv.2.2.2.2.2.2.1]
  have e : (if nI k = 1 then (if nI (tk v j) = 1 then (some (1 : Int32)) else (some (0 : Int32))) else (some (0 : Int32))) = some (if k = 1 ∧ tk v j = 1 then nI 1 else nI 0) := by
    rw [i_1, i_0]
    simp (disch := omega) only [nI_eq_iff]
    by_cases a : k = 1
    · by_cases b : tk v j = 1 <;> simp [a, b]
    · simp [a]
  rw [e, bind_s, sunk_nI (by omega) (by omega)]
  rfl
theorem VM.sank {J : xMem} {v : TV} (hv : vOk v) (h : VM J v) {k w j : Nat} (hk : k < 6) (hw : w ≤ 99) (hj : j < tn v) : X5_sankUnder J (nI k) (nI w) (nI j) = some (nI (skW v k w j)) := by
  have c1 := cntOf_le (k := k) hw hv.2.2.2.2.2.2.1
  have c2 := cnt_le hv j
  unfold X5_sankUnder
  rw [i_1, rdI_nI (by omega) (by omega), bind_s, h.counts hv hj, bind_s, h.2.2.2.1, countsBy_eq, cnt_nI hk hw hv.2.2.2.2.2.2.1, h.under hv hj hk (by omega) (by omega), bind_s]
  rfl
theorem VC.refL {I : xMem} {P : Nat} {v : TV} (hv : vOk v) (h : VC I P v) {i r m : Nat} (hi : i < tn v) (hr : r < 6) (hm : m ≤ 8) (K : Option (Int32 × xMem)) : ((∀ t, t < m → wOk v i (I (4 + r)) t) ∧ X4_refusedWeighing_L1 P (nI i) (nI r) (0, I) (nI (2 * m)) K bigF 0 = K) ∨ ((¬ ∀ t, t < m → wOk v i (I (4 + r)) t) ∧ X4_refusedWeighing_L1 P (nI i) (nI r) (0, I) (nI (2 * m)) K bigF 0 = some (-3, cFnd I 3)) := by
  have h0 : ((0 : Int32).toInt) = 0 := rfl
  have h200 : ((200 : Int32).toInt) = 200 := rfl
  refine loop_T (fun fuel t (_ : Unit) => X4_refusedWeighing_L1 P (nI i) (nI r) (0, I) (nI (2 * m)) K fuel (nI (2 * t))) (fun o => ((∀ t, t < m → wOk v i (I (4 + r)) t) ∧ o = K) ∨ ((¬ ∀ t, t < m → wOk v i (I (4 + r)) t) ∧ o = some (-3, cFnd I 3))) m (fun t _ => ∀ t', t' < t → wOk v i (I (4 + r)) t')
    (fun fuel t _ ht hI => ?_) (fun fuel _ hI => ?_) m bigF 0 () (by omega) (bigF_gt (by omega)) (fun t' h => absurd h (by omega))
  · show (_ ∧ X4_refusedWeighing_L1 P (nI i) (nI r) (0, I) (nI (2 * m)) K (fuel + 1) (nI (2 * t)) = K ∨ _ ∧ X4_refusedWeighing_L1 P (nI i) (nI r) (0, I) (nI (2 * m)) K (fuel + 1) (nI (2 * t)) = _) ∨ ∃ s', X4_refusedWeighing_L1 P (nI i) (nI r) (0, I) (nI (2 * m)) K (fuel + 1) (nI (2 * t)) = _ ∧ _
    rw [X4_refusedWeighing_L1]
    have q1 : ¬ nI (2 * m) ≤ nI (2 * t + 1) := by rw [nI_le_iff (by omega) (by omega)]; omega
    rw [i_1, nI_sum, if_neg q1, rdX_nI hr (by omega), bind_s]
    dsimp only
    rw [show 3 + 1 + r = 4 + r by omega, rdI_nI (by omega) (by omega), bind_s, bind_s, rdI_nI (by omega) (by omega), bind_s, h.nobody hv]
    by_cases c1 : ix (I (4 + r) (2 * t)) (tn v)
    · rw [if_pos c1, if00]
      by_cases c2 : I (4 + r) (2 * t) = nI i
      · rw [if_pos c2, i_3, found_eq I (by omega), bind_s]
        exact Or.inl (Or.inr ⟨fun w => (w t ht).2.1 c2, rfl⟩)
      · rw [if_neg c2]
        by_cases c3 : I (4 + r) (2 * t + 1) < 0
        · rw [if_pos c3, i_3, found_eq I (by omega), bind_s]
          rw [Int32.lt_iff_toInt_lt, h0] at c3
          exact Or.inl (Or.inr ⟨fun w => by have := (w t ht).2.2.1; omega, rfl⟩)
        · rw [if_neg c3]
          by_cases c4 : I (4 + r) (2 * t + 1) ≤ 200
          · rw [if_pos c4, i_2, nI_sum]
            rw [Int32.lt_iff_toInt_lt, h0] at c3
            rw [Int32.le_iff_toInt_le, h200] at c4
            refine Or.inr ⟨(), rfl, fun t' ht' => ?_⟩
            rcases Nat.lt_or_ge t' t with q | q
            · exact hI t' q
            · rw [show t' = t by omega]
              exact ⟨c1, c2, by omega, c4⟩
          · rw [if_neg c4, i_3, found_eq I (by omega), bind_s]
            rw [Int32.le_iff_toInt_le, h200] at c4
            exact Or.inl (Or.inr ⟨fun w => by have := (w t ht).2.2.2; omega, rfl⟩)
    · rw [if_neg c1, if10, i_3, found_eq I (by omega), bind_s]
      exact Or.inl (Or.inr ⟨fun w => c1 (w t ht).1, rfl⟩)
  · show _ ∧ X4_refusedWeighing_L1 P (nI i) (nI r) (0, I) (nI (2 * m)) K (fuel + 1) (nI (2 * m)) = K ∨ _ ∧ X4_refusedWeighing_L1 P (nI i) (nI r) (0, I) (nI (2 * m)) K (fuel + 1) (nI (2 * m)) = _
    rw [X4_refusedWeighing_L1]
    have q1 : nI (2 * m) ≤ nI (2 * m + 1) := by rw [nI_le_iff (by omega) (by omega)]; omega
    rw [i_1, nI_sum, if_pos q1]
    exact Or.inl ⟨hI, rfl⟩
theorem in_0200 (x : Int32) : X5_in x.toInt64 0 200 = if 0 ≤ x.toInt ∧ x.toInt ≤ 200 then 1 else 0 := by
  rw [in_spec, t64]
  rfl
theorem VM.refL {J : xMem} {v : TV} (hv : vOk v) (h : VM J v) {i r m : Nat} {g : Nat → Int32} (hi : i < tn v) (hr : r < 6) (hm : m ≤ 8) (h5 : J 5 r = nI (2 * m)) (hg : ∀ j, j < 40 → J 6 (40 * r + j) = g j) (K : Int32 → Option (Int32 × xMem)) : ((∀ t, t < m → wOk v i g t) ∧ X5_noPairs_L1 J (nI i) (nI r) K bigF 1 (nI (40 * r)) = K (nI 1)) ∨ ((¬ ∀ t, t < m → wOk v i g t) ∧ X5_noPairs_L1 J (nI i) (nI r) K bigF 1 (nI (40 * r)) = K (nI 0)) := by
  obtain ⟨z, hz, he⟩ := loop_I (fun fuel t (z : Nat) => X5_noPairs_L1 J (nI i) (nI r) K fuel (nI z) (nI (40 * r + 2 * t))) (fun z => K (nI z)) m (fun t z => (z = 1 ∧ ∀ t', t' < t → wOk v i g t') ∨ (z = 0 ∧ ¬ ∀ t, t < m → wOk v i g t))
    (fun fuel t z ht hI => by
      show ∃ s', X5_noPairs_L1 J (nI i) (nI r) K (fuel + 1) (nI z) (nI (40 * r + 2 * t)) = _ ∧ _
      rw [X5_noPairs_L1]
      have q1 : ¬ nI (40 * r + 2 * m) ≤ nI (40 * r + 2 * t) := by rw [nI_le_iff (by omega) (by omega)]; omega
      rw [rdI_nI hr (by omega), bind_s, h5, i_40, nI_mul, nI_sum, if_neg q1]
      have e2 : ∀ n, n + 2 * t + 2 = n + 2 * (t + 1) := fun n => by omega
      rcases hI with ⟨rfl, hI⟩ | ⟨rfl, hI⟩
      · have q2 : ¬ nI 1 = (0 : Int32) := by decide
        rw [if_neg q2, rdI_nI (by omega) (by omega), bind_s, hg _ (by omega), h.two hv, i_1, nI_sum, rdI_nI (by omega) (by omega), bind_s, Nat.add_assoc (40 * r) (2 * t) 1, hg _ (by omega), in_0200, i_2, nI_sum, e2]
        have hix : ix (nI i) (tn v) := (ix_nI (by have := hv.1; omega)).mpr hi
        by_cases c1 : ix (g (2 * t)) (tn v) ∧ ¬ g (2 * t) = nI i
        · have w1 : (if ix (nI i) (tn v) ∧ ix (g (2 * t)) (tn v) ∧ nI i ≠ g (2 * t) then nI 1 else (0 : Int32)) = nI 1 := if_pos ⟨hix, c1.1, fun e => c1.2 e.symm⟩
          rw [w1, if_neg q2]
          by_cases c2 : 0 ≤ (g (2 * t + 1)).toInt ∧ (g (2 * t + 1)).toInt ≤ 200
          · have w2 : (if 0 ≤ (g (2 * t + 1)).toInt ∧ (g (2 * t + 1)).toInt ≤ 200 then (1 : Int32) else (0 : Int32)) = 1 := if_pos c2
            rw [w2, if10]
            refine ⟨1, rfl, Or.inl ⟨rfl, fun t' ht' => ?_⟩⟩
            rcases Nat.lt_or_ge t' t with q | q
            · exact hI t' q
            · rw [show t' = t by omega]
              exact ⟨c1.1, c1.2, c2⟩
          · have w2 : (if 0 ≤ (g (2 * t + 1)).toInt ∧ (g (2 * t + 1)).toInt ≤ 200 then (1 : Int32) else (0 : Int32)) = 0 := if_neg c2
            rw [w2, if00]
            exact ⟨0, rfl, Or.inr ⟨rfl, fun w => c2 (w t ht).2.2⟩⟩
        · have w1 : (if ix (nI i) (tn v) ∧ ix (g (2 * t)) (tn v) ∧ nI i ≠ g (2 * t) then nI 1 else (0 : Int32)) = 0 := if_neg (fun w => c1 ⟨w.2.1, fun e => w.2.2 e.symm⟩)
          rw [w1, if00]
          exact ⟨0, rfl, Or.inr ⟨rfl, fun w => c1 ⟨(w t ht).1, (w t ht).2.1⟩⟩⟩
      · rw [if_pos (show nI 0 = (0 : Int32) from rfl), i_2, nI_sum, e2]
        exact ⟨0, rfl, Or.inr ⟨rfl, hI⟩⟩)
    (fun fuel z hI => by
      show X5_noPairs_L1 J (nI i) (nI r) K (fuel + 1) (nI z) (nI (40 * r + 2 * m)) = _
      rw [X5_noPairs_L1]
      rw [rdI_nI hr (by omega), bind_s, h5, i_40, nI_mul, nI_sum, if_pos (Int32.le_refl _)])
    m bigF 0 1 (by omega) (bigF_gt (by omega)) (Or.inl ⟨rfl, fun t' h => absurd h (by omega)⟩)
  rcases hz with ⟨rfl, hz⟩ | ⟨rfl, hz⟩
  · exact Or.inl ⟨hz, he⟩
  · exact Or.inr ⟨hz, he⟩
theorem weigh (h : Sim I L P Dr J M) {v : TV} (hv : vOk v) (hC : VC I P v) (hM : VM J v) (x1 x2 : Int32) :
    (∃ r I' J', ¬ r = (0 : Int32) ∧ X4_refusedWeighing P I x1 x2 = some (r, I') ∧ (∀ F : Int32 × xMem → Option (Int32 × xMem), (∀ r' J'', ¬ r' = (0 : Int32) → F (r', J'') = some (r', J'')) → X5W J x1 x2 F = some (r, J')) ∧ Sim I' L P Dr J' M) ∨
    (∃ i r m, x1 = nI i ∧ x2 = nI r ∧ i < tn v ∧ r < 6 ∧ m ≤ 8 ∧ I 2 r = nI (2 * m) ∧ J 5 r = nI (2 * m) ∧ (∀ t, t < m → wOk v i (I (4 + r)) t) ∧ X4_refusedWeighing P I x1 x2 = some (0, I) ∧ ∀ F : Int32 × xMem → Option (Int32 × xMem), X5W J x1 x2 F = F (0, J)) := by
  have h6 := hv.1
  have n1 : ¬ (-1 : Int32) = 0 := by decide
  have n3 : ¬ (-3 : Int32) = 0 := by decide
  unfold X4_refusedWeighing X5W
  rw [hC.nobody hv, hM.one hv, isRow_spec, refRow_eq (N := 6) h.2.1.1.1 rfl (by omega)]
  by_cases c1 : ix x1 (tn v)
  · rw [if_pos c1, if00, if_pos c1]
    obtain ⟨i, hi, rfl⟩ := ix_of c1 (by omega)
    by_cases c2 : ix x2 6
    · obtain ⟨r, hr, rfl⟩ := ix_of c2 (by omega)
      rw [if_pos c2, if_pos c2, nI_clamp (by omega)]
      simp only [if10]
      unfold X5_noPairs
      rw [rdI_nI hr (by omega), bind_s, show (1 : Nat) + 1 = 2 from rfl]
      rcases h.size hr with ⟨s1, s2⟩ | ⟨s, hs, s1, s2⟩
      · left
        rw [if_pos s1, bind_s, s2, if_neg m1_neg, i_1, find_eq J (by omega)]
        dsimp only
        rw [ifm3]
        exact ⟨-3, cFnd I 1, mFnd J 1, n3, rfl, fun F hF => by rw [bind_s, bind_s]; exact hF _ _ n3, h.find (by omega) (by omega)⟩
      · rw [if_neg (by rw [s1]; exact nI_ne_m1 (by omega)), bind_s, s2, if_pos (nI_0le (by omega))]
        dsimp only
        rw [if00, show cLen 2 = 6 from rfl, rdI_nI hr (by decide), bind_s, bind_s, s1, i_2, nI_rem (by omega) (by omega) (by omega)]
        by_cases c3 : s % 2 = 0
        · have e3 : nI (s % 2) = 0 := by rw [c3]; rfl
          rw [if_pos e3, if_pos e3, bind_s]
          by_cases c4 : s ≤ 16
          · have e4 : nI s ≤ 16 := by rw [i_16, nI_le_iff (by omega) (by omega)]; exact c4
            obtain ⟨m, rfl⟩ : ∃ m, s = 2 * m := ⟨s / 2, by omega⟩
            rw [if_pos e4, if_pos e4, i_40, nI_mul]
            have a := hC.refL hv hi hr (show m ≤ 8 by omega) (some (0, I))
            have b := hM.refL hv (g := I (4 + r)) hi hr (show m ≤ 8 by omega) s2 (fun j hj => h.item hr hj) (fun (z3_9 : Int32) => if z3_9 = (0 : Int32) then ((X5_find J (3 : Int32)).bind fun q18 => some (q18.1, q18.2)) else (some ((0 : Int32), J)))
            rcases a with ⟨a1, a2⟩ | ⟨a1, a2⟩
            · rcases b with ⟨b1, b2⟩ | ⟨b1, b2⟩
              · right
                rw [a2, b2]
                exact ⟨i, r, m, rfl, rfl, hi, hr, by omega, s1, s2, a1, rfl, fun F => rfl⟩
              · exact absurd a1 b1
            · rcases b with ⟨b1, b2⟩ | ⟨b1, b2⟩
              · exact absurd b1 a1
              · left
                rw [a2, b2, if_pos (show nI 0 = (0 : Int32) from rfl), i_3, find_eq J (by omega)]
                exact ⟨-3, cFnd I 3, mFnd J 3, n3, rfl, fun F hF => by rw [bind_s, bind_s]; exact hF _ _ n3, h.find (by omega) (by omega)⟩
          · have e4 : ¬ nI s ≤ 16 := by rw [i_16, nI_le_iff (by omega) (by omega)]; exact c4
            left
            rw [if_neg e4, if_neg e4, i_5, found_eq I (by omega), find_eq J (by omega)]
            exact ⟨-3, cFnd I 5, mFnd J 5, n3, rfl, fun F hF => by rw [bind_s, bind_s]; exact hF _ _ n3, h.find (by omega) (by omega)⟩
        · have e3 : ¬ nI (s % 2) = 0 := by rw [i_0, nI_eq_iff (by omega) (by omega)]; exact c3
          left
          rw [if_neg e3, if_neg e3, i_5, found_eq I (by omega), find_eq J (by omega)]
          exact ⟨-3, cFnd I 5, mFnd J 5, n3, rfl, fun F hF => by rw [bind_s, bind_s]; exact hF _ _ n3, h.find (by omega) (by omega)⟩
    · left
      rw [if_neg c2, if_neg c2, bind_s]
      dsimp only
      rw [ifm1]
      exact ⟨-1, I, J, n1, rfl, fun F hF => rfl, h⟩
  · left
    rw [if_neg c1, if10, if_neg c1]
    exact ⟨-1, I, J, n1, rfl, fun F hF => rfl, h⟩
theorem VC.fits {I : xMem} {P : Nat} {v : TV} (hv : vOk v) (h : VC I P v) {i r m k w : Nat} {g : Nat → Int32} (hr : r < 6) (hm : m ≤ 8) (h2 : I 2 r = nI (2 * m)) (hg : ∀ j, j < 40 → I (4 + r) j = g j) (ho : ∀ t, t < m → wOk v i g t) (hk : k < 6) (hw : w ≤ 99) : X4_fits P I (nI k) (nI w) (nI r) = some (if fitN v g m k w then nI 1 else nI 0) := by
  unfold X4_fits
  refine loop_T (fun fuel t (_ : Unit) => X4_fits_L1 P I (nI k) (nI w) (nI r) (some (nz 1)) fuel (nI (2 * t))) (fun o => o = some (if fitN v g m k w then nI 1 else nI 0)) m (fun t _ => ∀ t', t' < t → fitP v g k w t')
    (fun fuel t _ ht hI => ?_) (fun fuel _ hI => ?_) m bigF 0 () (by omega) (bigF_gt (by omega)) (fun t' h => absurd h (by omega))
  · show X4_fits_L1 P I (nI k) (nI w) (nI r) _ (fuel + 1) (nI (2 * t)) = _ ∨ ∃ s', X4_fits_L1 P I (nI k) (nI w) (nI r) _ (fuel + 1) (nI (2 * t)) = _ ∧ _
    rw [X4_fits_L1]
    have q1 : ¬ nI (2 * m) ≤ nI (2 * t + 1) := by rw [nI_le_iff (by omega) (by omega)]; omega
    obtain ⟨a1, a2⟩ := wOk_a hv (ho t ht)
    rw [show cLen 2 = 6 from rfl, rdI_nI hr (by omega), bind_s, h2, i_1, nI_sum, if_neg q1, rdX_nI hr (by omega), bind_s, show 3 + 1 + r = 4 + r by omega, rdI_nI (by omega) (by omega), bind_s, hg _ (by omega), a2, h.stepsAs hv hk hw a1, bind_s, bind_s, rdI_nI (by omega) (by omega), bind_s, hg _ (by omega)]
    by_cases c : fitP v g k w t
    · right
      rw [if_pos c, i_2, nI_sum]
      refine ⟨(), rfl, fun t' ht' => ?_⟩
      rcases Nat.lt_or_ge t' t with q | q
      · exact hI t' q
      · rw [show t' = t by omega]; exact c
    · left
      rw [if_neg c, if_neg (fun w => c (w t ht))]
      rfl
  · show X4_fits_L1 P I (nI k) (nI w) (nI r) _ (fuel + 1) (nI (2 * m)) = _
    rw [X4_fits_L1]
    have q1 : nI (2 * m) ≤ nI (2 * m + 1) := by rw [nI_le_iff (by omega) (by omega)]; omega
    rw [show cLen 2 = 6 from rfl, rdI_nI hr (by omega), bind_s, h2, i_1, nI_sum, if_pos q1, if_pos hI]
    rfl
theorem VM.fits {J : xMem} {v : TV} (hv : vOk v) (h : VM J v) {i r m k w : Nat} {g : Nat → Int32} (hr : r < 6) (hm : m ≤ 8) (h5 : J 5 r = nI (2 * m)) (hg : ∀ j, j < 40 → J 6 (40 * r + j) = g j) (ho : ∀ t, t < m → wOk v i g t) (hk : k < 6) (hw : w ≤ 99) : X5_isSo J (nI r) (nI k) (nI w) = some (if fitN v g m k w then nI 1 else nI 0) := by
  unfold X5_isSo
  obtain ⟨z, hz, he⟩ := loop_I (fun fuel t (z : Nat) => X5_isSo_L1 J (nI r) (nI k) (nI w) (fun z => some (nz z)) fuel (nI z) (nI (40 * r + 2 * t))) (fun z => some (nz (nI z))) m (fun t z => (z = 1 ∧ ∀ t', t' < t → fitP v g k w t') ∨ (z = 0 ∧ ¬ fitN v g m k w))
    (fun fuel t z ht hI => by
      show ∃ s', X5_isSo_L1 J (nI r) (nI k) (nI w) _ (fuel + 1) (nI z) (nI (40 * r + 2 * t)) = _ ∧ _
      rw [X5_isSo_L1]
      have q1 : ¬ nI (40 * r + 2 * m) ≤ nI (40 * r + 2 * t) := by rw [nI_le_iff (by omega) (by omega)]; omega
      rw [rdI_nI hr (by omega), bind_s, h5, i_40, nI_mul, nI_sum, if_neg q1]
      have e2 : ∀ n, n + 2 * t + 2 = n + 2 * (t + 1) := fun n => by omega
      obtain ⟨a1, a2⟩ := wOk_a hv (ho t ht)
      rcases hI with ⟨rfl, hI⟩ | ⟨rfl, hI⟩
      · rw [if_neg (by decide), rdI_nI (by omega) (by omega), bind_s, hg _ (by omega), a2, h.sank hv hk hw a1, bind_s, i_1, nI_sum, rdI_nI (by omega) (by omega), bind_s, Nat.add_assoc (40 * r) (2 * t) 1, hg _ (by omega), i_2, nI_sum, e2]
        by_cases c : fitP v g k w t
        · rw [if_pos c]
          refine ⟨1, rfl, Or.inl ⟨rfl, fun t' ht' => ?_⟩⟩
          rcases Nat.lt_or_ge t' t with q | q
          · exact hI t' q
          · rw [show t' = t by omega]; exact c
        · rw [if_neg c]
          exact ⟨0, rfl, Or.inr ⟨rfl, fun w => c (w t ht)⟩⟩
      · rw [if_pos (show nI 0 = (0 : Int32) from rfl), i_2, nI_sum, e2]
        exact ⟨0, rfl, Or.inr ⟨rfl, hI⟩⟩)
    (fun fuel z hI => by
      show X5_isSo_L1 J (nI r) (nI k) (nI w) _ (fuel + 1) (nI z) (nI (40 * r + 2 * m)) = _
      rw [X5_isSo_L1]
      rw [rdI_nI hr (by omega), bind_s, h5, i_40, nI_mul, nI_sum, if_pos (Int32.le_refl _)])
    m bigF 0 1 (by omega) (bigF_gt (by omega)) (Or.inl ⟨rfl, fun t' h => absurd h (by omega)⟩)
  rw [show (40 : Int32) * nI r = nI (40 * r + 2 * 0) from by rw [i_40, nI_mul]; rfl, show (1 : Int32) = nI 1 from rfl, he]
  rcases hz with ⟨rfl, hz⟩ | ⟨rfl, hz⟩
  · rw [if_pos hz]
    rfl
  · rw [if_neg hz]
    rfl
theorem op_pounds (h : Sim I L P Dr J M) (x1 x2 : Int32) : Bt L P Dr M (X4_pounds P I x1 x2) (X5_pounds J x1 x2) := by
  obtain ⟨v, hv, hC, hM⟩ := h.view
  have h6 := hv.1
  have hp := h.1
  unfold isPD at hp
  show Bt L P Dr M _ (X5W J x1 x2 (fun q3 => if q3.1 = (0 : Int32) then ((some (wr q3.2 0 11 (-9 : Int32))).bind fun I5 => X5_pounds_L1 x1 x2 (fun (z4_8 : Int32) (I9 : xMem) => some (z4_8, I9)) bigF (0 : Int32) (99 : Int32) I5) else (some (q3.1, q3.2))))
  unfold X4_pounds
  rcases weigh h hv hC hM x1 x2 with ⟨r, I', J', q, a1, a2, a3⟩ | ⟨i, r, m, rfl, rfl, hi, hr, hm, s1, s2, ho, a1, a2⟩
  · rw [a1, bind_s, a2 _ (fun r' J'' q' => if_neg q')]
    rw [if_neg q]
    exact Bt.mk rfl rfl rfl a3
  · rw [a1, bind_s, a2]
    dsimp only
    rw [if00, if00, bind_s, bind_s]
    have key : ∀ (n fuel c : Nat) (x : Int32), n ≤ 99 → n < fuel → Bt L P Dr M (X4_pounds_L1 P (nI i) (nI r) (fun (z4_6 : Int32) (I7 : xMem) => some (z4_6, I7)) fuel (nI c) (nI n) (wr I 0 10 x)) (X5_pounds_L1 (nI i) (nI r) (fun (z4_8 : Int32) (I9 : xMem) => some (z4_8, I9)) fuel (nI c) (nI n) (wr J 0 11 x)) := by
      intro n
      induction n with
      | zero =>
        intro fuel c x hn hf
        obtain ⟨f, rfl⟩ : ∃ f, fuel = f + 1 := ⟨fuel - 1, by omega⟩
        rw [X4_pounds_L1, X5_pounds_L1]
        rw [if_pos (by decide), if_pos (by decide)]
        exact Bt.mk rfl rfl rfl (h.told x)
      | succ n ih =>
        intro fuel c x hn hf
        obtain ⟨f, rfl⟩ : ∃ f, fuel = f + 1 := ⟨fuel - 1, by omega⟩
        have hC' := hC.told (by omega) x
        have hM' := hM.told x
        have q1 : ¬ nI (n + 1) < 1 := by rw [i_1, nI_lt_iff (by omega) (by omega)]; omega
        have q2 : ¬ nI (n + 1) ≤ 0 := by rw [i_0, nI_le_iff (by omega) (by omega)]; omega
        have em1 : nI (n + 1) + (-1) = nI n := by
          rw [← Int32.sub_eq_add_neg, show (1 : Int32) = nI 1 from rfl, pk_sub (by omega), Nat.add_sub_cancel]
        have f1 := hC'.fits (g := I (4 + r)) (k := tk v i) (w := n + 1) hv hr hm (by rw [wr_off _ _ (by omega)]; exact s1) (fun j _ => wr_off _ _ (by omega)) ho (hv.2.2.2.1 i) (by omega)
        have f2 := hM'.fits (g := I (4 + r)) (k := tk v i) (w := n + 1) hv hr hm (by rw [wr_off _ _ (by omega)]; exact s2) (fun j hj => by rw [wr_off _ _ (by omega)]; exact h.item hr hj) ho (hv.2.2.2.1 i) (by omega)
        rw [X4_pounds_L1, X5_pounds_L1]
        rw [if_neg q1, if_neg q2, rdI_nI (by omega) (by omega), bind_s, rdI_nI (by omega) (by omega), bind_s, (hC'.2.1 i hi).1, bind_s, (hM'.2.1 i hi).1, f1, bind_s, f2, bind_s, em1]
        by_cases c1 : fitN v (I (4 + r)) m (tk v i) (n + 1)
        · rw [if_pos c1, if_neg (show ¬ nI 1 = 0 by decide), if_neg (show ¬ nI 1 = 0 by decide), bind_s, if_neg (show ¬ nI 1 = 0 by decide), bind_s, wr_wr, wr_wr, i_1, nI_sum]
          exact ih f (c + 1) (nI (n + 1)) (by omega) (by omega)
        · rw [if_neg c1, if_pos (show nI 0 = 0 from rfl), if_pos (show nI 0 = 0 from rfl), bind_s, if_pos (show nI 0 = 0 from rfl), bind_s, wr_id, i_0, nI_sum]
          exact ih f c x (by omega) (by omega)
    exact key 99 bigF 0 (-9) (by omega) (bigF_gt (by omega))
def kfN (v : TV) (g : Nat → Int32) (m w : Nat) : Nat := foldF (fun k s => if fitN v g m k w then s ||| 2 ^ k else s) 0 6 0
theorem VC.kf {I : xMem} {P : Nat} {v : TV} (hv : vOk v) (h : VC I P v) {i r m : Nat} {g : Nat → Int32} (hi : i < tn v) (hr : r < 6) (hm : m ≤ 8) (h2 : I 2 r = nI (2 * m)) (hg : ∀ j, j < 40 → I (4 + r) j = g j) (ho : ∀ t, t < m → wOk v i g t) : X4_fittingKinds P I (nI i) (nI r) = some (nI (kfN v g m (tw v i))) := by
  have h6 := hv.1
  unfold X4_fittingKinds
  exact loop_F (fun fuel k (s : Nat) => X4_fittingKinds_L1 P I (nI i) (nI r) (fun z => some z) fuel (nI s) (nI k)) (fun s => some (nI s)) 6 (fun k s => if fitN v g m k (tw v i) then s ||| 2 ^ k else s) (fun _ _ => True)
    (fun fuel k s hk _ => ⟨by
      show X4_fittingKinds_L1 P I (nI i) (nI r) _ (fuel + 1) (nI s) (nI k) = _
      rw [X4_fittingKinds_L1]
      have q1 : ¬ (6 : Int32) ≤ nI k := by rw [i_6, nI_le_iff (by omega) (by omega)]; omega
      rw [if_neg q1, rdI_nI (by omega) (by omega), bind_s, (h.2.1 i hi).2, h.fits hv hr hm h2 hg ho hk (hv.2.2.2.2.1 i), bind_s]
      by_cases c : fitN v g m k (tw v i)
      · rw [if_pos c, if_neg (show ¬ nI 1 = 0 by decide), if_pos c, i_1, nI_pow (by omega), nI_or, nI_sum]
      · rw [if_neg c, if_pos (show nI 0 = 0 from rfl), if_neg c, i_1, nI_sum], trivial⟩)
    (fun fuel s _ => by
      show X4_fittingKinds_L1 P I (nI i) (nI r) _ (fuel + 1) (nI s) (nI 6) = _
      rw [X4_fittingKinds_L1]
      rw [if_pos (by decide)])
    6 bigF 0 0 (by omega) (bigF_gt (by omega)) trivial
theorem VM.kf {J : xMem} {v : TV} (hv : vOk v) (h : VM J v) {i r m : Nat} {g : Nat → Int32} (hi : i < tn v) (hr : r < 6) (hm : m ≤ 8) (h5 : J 5 r = nI (2 * m)) (hg : ∀ j, j < 40 → J 6 (40 * r + j) = g j) (ho : ∀ t, t < m → wOk v i g t) : X5_kindsBy J (nI i) (nI r) = some (nI (kfN v g m (tw v i))) := by
  have h6 := hv.1
  unfold X5_kindsBy
  exact loop_F (fun fuel k (s : Nat) => X5_kindsBy_L1 J (nI i) (nI r) (fun z => some z) fuel (nI s) (nI k)) (fun s => some (nI s)) 6 (fun k s => if fitN v g m k (tw v i) then s ||| 2 ^ k else s) (fun _ _ => True)
    (fun fuel k s hk _ => ⟨by
      show X5_kindsBy_L1 J (nI i) (nI r) _ (fuel + 1) (nI s) (nI k) = _
      rw [X5_kindsBy_L1]
      have q1 : ¬ (6 : Int32) ≤ nI k := by rw [i_6, nI_le_iff (by omega) (by omega)]; omega
      rw [if_neg q1, rdI_nI (by omega) (by omega), bind_s, (h.2.1 i hi).2, h.fits hv hr hm h5 hg ho hk (hv.2.2.2.2.1 i), bind_s]
      by_cases c : fitN v g m k (tw v i)
      · rw [if_pos c, if_neg (show ¬ nI 1 = 0 by decide), if_pos c, bind_s, i_1, nI_pow (by omega), nI_or, nI_sum]
      · rw [if_neg c, if_pos (show nI 0 = 0 from rfl), if_neg c, bind_s, i_0, i_1, nI_or, nI_sum, Nat.or_zero], trivial⟩)
    (fun fuel s _ => by
      show X5_kindsBy_L1 J (nI i) (nI r) _ (fuel + 1) (nI s) (nI 6) = _
      rw [X5_kindsBy_L1]
      rw [if_pos (by decide)])
    6 bigF 0 0 (by omega) (bigF_gt (by omega)) trivial
theorem kfN_lt (v : TV) (g : Nat → Int32) (m w : Nat) : kfN v g m w < 64 := by
  refine foldF_inv _ (fun k s => k ≤ 6 → s < 2 ^ 6) 6 0 0 (fun _ => by decide) (fun j s _ h2 hI hj => ?_) (by decide)
  show (if fitN v g m j w then s ||| 2 ^ j else s) < 2 ^ 6
  split
  · exact Nat.or_lt_two_pow (hI (by omega)) (Nat.pow_lt_pow_right (by decide) (by omega))
  · exact hI (by omega)
theorem op_kinds (h : Sim I L P Dr J M) (x1 x2 : Int32) : Bt L P Dr M (X4_kinds P I x1 x2) (X5_kinds J x1 x2) := by
  obtain ⟨v, hv, hC, hM⟩ := h.view
  show Bt L P Dr M _ (X5W J x1 x2 (fun q3 => if q3.1 = (0 : Int32) then ((X5_kindsBy q3.2 x1 x2).bind fun v5 => some (v5, q3.2)) else (some (q3.1, q3.2))))
  unfold X4_kinds
  rcases weigh h hv hC hM x1 x2 with ⟨r, I', J', q, a1, a2, a3⟩ | ⟨i, r, m, rfl, rfl, hi, hr, hm, s1, s2, ho, a1, a2⟩
  · rw [a1, bind_s, a2 _ (fun r' J'' q' => if_neg q')]
    rw [if_neg q]
    exact Bt.mk rfl rfl rfl a3
  · rw [a1, bind_s, a2]
    dsimp only
    rw [if00, if00, hC.kf hv hi hr hm s1 (fun j _ => rfl) ho, bind_s, hM.kf hv hi hr hm s2 (fun j hj => h.item hr hj) ho, bind_s]
    exact Bt.mk rfl rfl rfl h
/-- kinds of a set that sink alike -/
abbrev alikeP (v : TV) (w set j a b : Nat) : Prop := set.testBit a = true ∧ set.testBit b = true ∧ skW v a w j = skW v b w j
def grI (v : TV) (w set j a : Nat) : Nat := sumN (fun b => if alikeP v w set j a b then 1 else 0) 6
def grP (v : TV) (w set j : Nat) : Nat := foldF (fun a s => if s < grI v w set j a then grI v w set j a else s) 0 6 0
theorem grI_le (v : TV) (w set j a : Nat) : grI v w set j a ≤ 6 := by
  have h1 := sumN_le (f := fun b => if alikeP v w set j a b then 1 else 0) (b := 1) (fun b => by
    show (if alikeP v w set j a b then 1 else 0) ≤ 1
    split <;> omega) 6
  show sumN _ _ ≤ 6
  omega
theorem grP_le (v : TV) (w set j : Nat) : grP v w set j ≤ 6 := by
  refine foldF_inv _ (fun k s => s ≤ 6) 6 0 0 (by omega) (fun a s _ h2 hI => ?_)
  show (if s < grI v w set j a then grI v w set j a else s) ≤ 6
  have := grI_le v w set j a
  split
  · exact this
  · exact hI
theorem VC.gr {I : xMem} {P : Nat} {v : TV} (hv : vOk v) (h : VC I P v) {w set j : Nat} (hw : w ≤ 99) (hs : set < 64) (hj : j < tn v) : X4_greatestPart P I (nI w) (nI set) (nI j) = some (nI (grP v w set j)) := by
  have inner : ∀ (K : Int32 → Option Int32) (a : Nat), a < 6 → X4_greatestPart_L2 P I (nI w) (nI set) (nI j) (nI a) K bigF (nI 0) (nI 0) = K (nI (grI v w set j a)) := by
    intro K a ha
    have key := loop_F (fun fuel b (s : Nat) => X4_greatestPart_L2 P I (nI w) (nI set) (nI j) (nI a) K fuel (nI s) (nI b)) (fun s => K (nI s)) 6 (fun b s => s + if alikeP v w set j a b then 1 else 0) (fun _ _ => True)
      (fun fuel b s hb _ => ⟨by
        show X4_greatestPart_L2 P I (nI w) (nI set) (nI j) (nI a) K (fuel + 1) (nI s) (nI b) = _
        rw [X4_greatestPart_L2]
        have q1 : ¬ nI 6 ≤ nI b := by rw [nI_le_iff (by omega) (by omega)]; omega
        have k1 := skW_le hv (k := a) (j := j) hw
        have k2 := skW_le hv (k := b) (j := j) hw
        rw [i_6, if_neg q1, i_1, h.stepsAs hv ha hw hj, bind_s, h.stepsAs hv hb hw hj, bind_s]
        by_cases c1 : set.testBit a = true
        · by_cases c2 : set.testBit b = true
          · rw [if_pos ((nI_bit1 (by omega) (by omega)).mpr c1), if_pos ((nI_bit1 (by omega) (by omega)).mpr c2), bind_s, if_neg (show ¬ nI 1 = 0 by decide)]
            by_cases c3 : skW v a w j = skW v b w j
            · rw [if_pos (by rw [c3]), if_pos ⟨c1, c2, c3⟩, nI_sum, nI_sum]
            · rw [if_neg (by rw [nI_eq_iff (by omega) (by omega)]; exact c3), if_neg (fun q => c3 q.2.2), nI_sum]
              try rfl
          · rw [if_pos ((nI_bit1 (by omega) (by omega)).mpr c1), if_neg (fun q => c2 ((nI_bit1 (by omega) (by omega)).mp q)), bind_s, if00, if_neg (fun q => c2 q.2.1), nI_sum]
            try rfl
        · rw [if_neg (fun q => c1 ((nI_bit1 (by omega) (by omega)).mp q)), bind_s, if00, if_neg (fun q => c1 q.1), nI_sum]
          try rfl, trivial⟩)
      (fun fuel s _ => by
        show X4_greatestPart_L2 P I (nI w) (nI set) (nI j) (nI a) K (fuel + 1) (nI s) (nI 6) = _
        rw [X4_greatestPart_L2]
        rw [if_pos (by decide)])
      6 bigF 0 0 (by omega) (bigF_gt (by omega)) trivial
    rw [foldF_sum (fun b => if alikeP v w set j a b then 1 else 0)] at key
    exact key
  unfold X4_greatestPart
  exact loop_F (fun fuel a (s : Nat) => X4_greatestPart_L1 P I (nI w) (nI set) (nI j) (fun z => some z) fuel (nI s) (nI a)) (fun s => some (nI s)) 6 (fun a s => if s < grI v w set j a then grI v w set j a else s) (fun _ s => s ≤ 6)
    (fun fuel a s ha hI => by
      have hg := grI_le v w set j a
      refine ⟨?_, ?_⟩
      · show X4_greatestPart_L1 P I (nI w) (nI set) (nI j) _ (fuel + 1) (nI s) (nI a) = _
        rw [X4_greatestPart_L1]
        have q1 : ¬ (6 : Int32) ≤ nI a := by rw [i_6, nI_le_iff (by omega) (by omega)]; omega
        rw [if_neg q1, i_0, inner _ a ha, i_1, nI_sum]
        by_cases c : s < grI v w set j a
        · rw [if_pos ((nI_lt_iff (by omega) (by omega)).mpr c), if_pos c]
        · rw [if_neg (fun q => c ((nI_lt_iff (by omega) (by omega)).mp q)), if_neg c]
      · show (if s < grI v w set j a then grI v w set j a else s) ≤ 6
        split
        · exact hg
        · exact hI)
    (fun fuel s _ => by
      show X4_greatestPart_L1 P I (nI w) (nI set) (nI j) _ (fuel + 1) (nI s) (nI 6) = _
      rw [X4_greatestPart_L1]
      rw [if_pos (by decide)])
    6 bigF 0 0 (by omega) (bigF_gt (by omega)) (by omega)
theorem VM.gr {J : xMem} {v : TV} (hv : vOk v) (h : VM J v) {i set j : Nat} (hi : i < tn v) (hs : set < 64) (hj : j < tn v) : X5_greatestPart J (nI i) (nI set) (nI j) = some (nI (grP v (tw v i) set j)) := by
  have h6 := hv.1
  have hw := hv.2.2.2.2.1 i
  have inner : ∀ (K : Int32 → Option Int32) (a : Nat), a < 6 → X5_greatestPart_L2 J (nI i) (nI set) (nI j) (nI a) K bigF (nI 0) (nI 0) = K (nI (grI v (tw v i) set j a)) := by
    intro K a ha
    have key := loop_F (fun fuel b (s : Nat) => X5_greatestPart_L2 J (nI i) (nI set) (nI j) (nI a) K fuel (nI s) (nI b)) (fun s => K (nI s)) 6 (fun b s => s + if alikeP v (tw v i) set j a b then 1 else 0) (fun _ _ => True)
      (fun fuel b s hb _ => ⟨by
        show X5_greatestPart_L2 J (nI i) (nI set) (nI j) (nI a) K (fuel + 1) (nI s) (nI b) = _
        rw [X5_greatestPart_L2]
        have q1 : ¬ nI 6 ≤ nI b := by rw [nI_le_iff (by omega) (by omega)]; omega
        have k1 := skW_le hv (k := a) (j := j) hw
        have k2 := skW_le hv (k := b) (j := j) hw
        rw [i_6, if_neg q1, has_spec (by omega) (by omega), has_spec (by omega) (by omega), rdI_nI (by omega) (by omega), bind_s, (h.2.1 i hi).2, h.sank hv ha hw hj, bind_s, bind_s, h.sank hv hb hw hj, bind_s, i_1, nI_sum]
        by_cases c1 : set.testBit a = true
        · by_cases c2 : set.testBit b = true
          · rw [if_pos c1, if_pos c2, if_neg (show ¬ nI 1 = 0 by decide), if_neg (show ¬ nI 1 = 0 by decide)]
            by_cases c3 : skW v a (tw v i) j = skW v b (tw v i) j
            · rw [if_pos (by rw [c3]), if_pos ⟨c1, c2, c3⟩, bind_s, nI_sum]
            · rw [if_neg (by rw [nI_eq_iff (by omega) (by omega)]; exact c3), if_neg (fun q => c3 q.2.2), bind_s, i_0, nI_sum]
          · rw [if_pos c1, if_neg c2, if_neg (show ¬ nI 1 = 0 by decide), if00, bind_s, if_neg (fun q => c2 q.2.1), i_0, nI_sum]
        · rw [if_neg c1, if00, bind_s, if_neg (fun q => c1 q.1), i_0, nI_sum], trivial⟩)
      (fun fuel s _ => by
        show X5_greatestPart_L2 J (nI i) (nI set) (nI j) (nI a) K (fuel + 1) (nI s) (nI 6) = _
        rw [X5_greatestPart_L2]
        rw [if_pos (by decide)])
      6 bigF 0 0 (by omega) (bigF_gt (by omega)) trivial
    rw [foldF_sum (fun b => if alikeP v (tw v i) set j a b then 1 else 0)] at key
    exact key
  unfold X5_greatestPart
  exact loop_F (fun fuel a (s : Nat) => X5_greatestPart_L1 J (nI i) (nI set) (nI j) (fun z => some z) fuel (nI s) (nI a)) (fun s => some (nI s)) 6 (fun a s => if s < grI v (tw v i) set j a then grI v (tw v i) set j a else s) (fun _ s => s ≤ 6)
    (fun fuel a s ha hI => by
      have hg := grI_le v (tw v i) set j a
      refine ⟨?_, ?_⟩
      · show X5_greatestPart_L1 J (nI i) (nI set) (nI j) _ (fuel + 1) (nI s) (nI a) = _
        rw [X5_greatestPart_L1]
        have q1 : ¬ (6 : Int32) ≤ nI a := by rw [i_6, nI_le_iff (by omega) (by omega)]; omega
        rw [if_neg q1, i_0, inner _ a ha, i_1, nI_sum]
        by_cases c : s < grI v (tw v i) set j a
        · rw [if_neg (by rw [nI_le_iff (by omega) (by omega)]; omega), if_pos c]
        · rw [if_pos (by rw [nI_le_iff (by omega) (by omega)]; omega), if_neg c]
      · show (if s < grI v (tw v i) set j a then grI v (tw v i) set j a else s) ≤ 6
        split
        · exact hg
        · exact hI)
    (fun fuel s _ => by
      show X5_greatestPart_L1 J (nI i) (nI set) (nI j) _ (fuel + 1) (nI s) (nI 6) = _
      rw [X5_greatestPart_L1]
      rw [if_pos (by decide)])
    6 bigF 0 0 (by omega) (bigF_gt (by omega)) (by omega)
theorem op_next (h : Sim I L P Dr J M) (x1 x2 : Int32) : Bt L P Dr M (X4_next P I x1 x2) (X5_next J x1 x2) := by
  obtain ⟨v, hv, hC, hM⟩ := h.view
  have h6 := hv.1
  have hn1 := h.n1 hv hC
  show Bt L P Dr M _ (X5W J x1 x2 (fun q3 => if q3.1 = (0 : Int32) then ((X5_kindsBy q3.2 x1 x2).bind fun v5 => if v5 = (0 : Int32) then (some ((-9 : Int32), q3.2)) else (X5_next_L1 x1 q3 v5 (fun (z5_8 : Int32) (z6_8 : Int32) => (some (wr q3.2 0 11 z6_8)).bind fun I16 => some (z5_8, I16)) bigF (-9 : Int32) (9999 : Int32) (0 : Int32))) else (some (q3.1, q3.2))))
  unfold X4_next
  rcases weigh h hv hC hM x1 x2 with ⟨r, I', J', q, a1, a2, a3⟩ | ⟨i, r, m, rfl, rfl, hi, hr, hm, s1, s2, ho, a1, a2⟩
  · rw [a1, bind_s, a2 _ (fun r' J'' q' => if_neg q')]
    rw [if_neg q]
    exact Bt.mk rfl rfl rfl a3
  · rw [a1, bind_s, a2]
    dsimp only
    have hk := kfN_lt v (I (4 + r)) m (tw v i)
    rw [if00, if00, hC.kf hv hi hr hm s1 (fun j _ => rfl) ho, bind_s, hM.kf hv hi hr hm s2 (fun j hj => h.item hr hj) ho, bind_s]
    generalize kfN v (I (4 + r)) m (tw v i) = set at hk ⊢
    by_cases c : nI set = 0
    · rw [if_pos c, if_pos c]
      exact Bt.mk rfl rfl rfl h
    · rw [if_neg c, if_neg c]
      have hw := hv.2.2.2.2.1 i
      have key : ∀ (n fuel p : Nat) (b l b' l' : Int32), p + n = tn v → n < fuel → ((b = -9 ∧ l = 7 ∧ b' = -9 ∧ l' = 9999 ∧ ∀ j, j < p → j = i) ∨ ∃ x, x ≤ 6 ∧ b = b' ∧ l = nI x ∧ l' = nI x) → Bt L P Dr M (X4_next_L1 P (nI i) (0, I) (nI set) (fun (z5_6 : Int32) (z6_6 : Int32) => (some (wr I 0 10 z6_6)).bind fun I13 => some (z5_6, I13)) fuel b l (nI p)) (X5_next_L1 (nI i) (0, J) (nI set) (fun (z5_8 : Int32) (z6_8 : Int32) => (some (wr J 0 11 z6_8)).bind fun I16 => some (z5_8, I16)) fuel b' l' (nI p)) := by
        intro n
        induction n with
        | zero =>
          intro fuel p b l b' l' hp hf hI
          obtain ⟨f, rfl⟩ : ∃ f, fuel = f + 1 := ⟨fuel - 1, by omega⟩
          have : p = tn v := by omega
          subst this
          rw [X4_next_L1, X5_next_L1]
          rw [show (((0 : Int32), I) : Int32 × xMem).2 = I from rfl, show (((0 : Int32), J) : Int32 × xMem).2 = J from rfl]
          rw [hC.1.2.2, hM.1.2.2, if_pos (Int32.le_refl _), if_pos (Int32.le_refl _), bind_s, bind_s]
          rcases hI with ⟨-, -, -, -, g⟩ | ⟨x, -, g1, g2, g3⟩
          · have := g 0 (by omega)
            have := g 1 (by omega)
            omega
          · rw [g1, g2, g3]
            exact Bt.mk rfl rfl rfl (h.told _)
        | succ n ih =>
          intro fuel p b l b' l' hp hf hI
          obtain ⟨f, rfl⟩ : ∃ f, fuel = f + 1 := ⟨fuel - 1, by omega⟩
          have hpn : p < tn v := by omega
          have q1 : ¬ nI (tn v) ≤ nI p := by rw [nI_le_iff (by omega) (by omega)]; omega
          have hg := grP_le v (tw v i) set p
          rw [X4_next_L1, X5_next_L1]
          rw [show (((0 : Int32), I) : Int32 × xMem).2 = I from rfl, show (((0 : Int32), J) : Int32 × xMem).2 = J from rfl]
          rw [hC.1.2.2, hM.1.2.2, if_neg q1, if_neg q1, rdI_nI (by omega) (by omega), bind_s, (hC.2.1 i hi).2, hC.gr hv hw hk hpn, bind_s, hM.gr hv hi hk hpn, bind_s, show nI p + 1 = nI (p + 1) from nI_1 p]
          by_cases e : p = i
          · have e' : nI p = nI i := by rw [e]
            rw [if_pos e', if_pos e', bind_s, bind_s]
            have hl : l ≤ 7 ∧ l' ≤ 9999 := by
              rcases hI with ⟨-, g1, -, g2, -⟩ | ⟨x, g0, -, g1, g2⟩
              · rw [g1, g2]; decide
              · rw [g1, g2, show (7 : Int32) = nI 7 from rfl, i_9999, nI_le_iff (by omega) (by omega), nI_le_iff (by omega) (by omega)]
                omega
            rw [if_pos hl.1, if_pos hl.2, bind_s, if_pos hl.2]
            refine ih f (p + 1) b l b' l' (by omega) (by omega) ?_
            rcases hI with ⟨g0, g1, g2, g3, g4⟩ | g
            · refine Or.inl ⟨g0, g1, g2, g3, fun j hj => ?_⟩
              rcases Nat.lt_or_ge j p with w | w
              · exact g4 j w
              · omega
            · exact Or.inr g
          · have e' : ¬ nI p = nI i := by rw [nI_eq_iff (by omega) (by omega)]; exact e
            rw [if_neg e', if_neg e', bind_s, bind_s]
            rcases hI with ⟨g0, g1, g2, g3, g4⟩ | ⟨x, g0, g1, g2, g3⟩
            · have w1 : ¬ l ≤ nI (grP v (tw v i) set p) := by rw [g1, show (7 : Int32) = nI 7 from rfl, nI_le_iff (by omega) (by omega)]; omega
              have w2 : ¬ l' ≤ nI (grP v (tw v i) set p) := by rw [g3, i_9999, nI_le_iff (by omega) (by omega)]; omega
              rw [if_neg w1, if_neg w2, bind_s, if_neg w2]
              exact ih f (p + 1) _ _ _ _ (by omega) (by omega) (Or.inr ⟨_, hg, rfl, rfl, rfl⟩)
            · subst g1
              subst g2
              subst g3
              by_cases w1 : nI x ≤ nI (grP v (tw v i) set p)
              · rw [if_pos w1, if_pos w1, bind_s, if_pos w1]
                exact ih f (p + 1) _ _ _ _ (by omega) (by omega) (Or.inr ⟨_, g0, rfl, rfl, rfl⟩)
              · rw [if_neg w1, if_neg w1, bind_s, if_neg w1]
                exact ih f (p + 1) _ _ _ _ (by omega) (by omega) (Or.inr ⟨_, hg, rfl, rfl, rfl⟩)
      exact key (tn v) bigF 0 (-9) 7 (-9) 9999 (by omega) (bigF_gt (by omega)) (Or.inl ⟨rfl, rfl, rfl, rfl, fun j hj => absurd hj (by omega)⟩)
end OPW
