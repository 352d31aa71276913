/-! THE DIGEST, the class alone: of a tower as it began -/
def dgK (I : xMem) : Prop := rowK I ∧ (∀ r, r < 6 → I 2 r = -1) ∧ I 11 0 = nI 40 ∧ (∀ r, 1 ≤ r → r < 4 → I 11 r = -1) ∧ ∀ k, k < 3 → I 38 k = 0
def cntN (w : TV) (k : Nat) : Nat := if k = 0 then tn w else if k = 1 then ts w else if k = 2 then 0 else if k = 3 then te w else if k = 4 then tt w else if k = 5 then tu w else if k = 6 then tl w else if k = 7 then 0 else if k = 8 then kindN w 2 else if k = 9 then kindN w 3 else if k = 11 then 1 else 0
def dgF (w : TV) (C : Nat → Int32) : Int64 :=
  foldF (fun r z => if r = 0 then foldF (fun i z => dg (C i) z) 0 40 (dg (nI 40) z) else dg (-1) z) 0 4
    (foldF (fun _ z => dg (-1) z) 0 6
      (foldF (fun _ z => dg (-1) z) 0 3
        (foldF (fun i z => foldF (fun k z => dg (nI (aboutN w i k)) z) 0 5 z) 0 (tn w)
          (foldF (fun k z => dg (nI (tp w k)) z) 0 (ts w)
            (foldF (fun k z => dg (nI (cntN w k)) z) 0 13 17)))))
theorem dgF_congr (w : TV) {C C' : Nat → Int32} (h : ∀ j, j < 40 → C' j = C j) : dgF w C' = dgF w C := by
  unfold dgF
  refine foldF_congr 4 0 _ fun r s _ _ => ?_
  by_cases c : r = 0
  · rw [if_pos c, if_pos c]
    exact foldF_congr 40 0 _ fun i s _ hi => by rw [h i (by omega)]
  · rw [if_neg c, if_neg c]
section DIG
variable {I : xMem} {P Dr : Nat} {v : TV}
theorem szm1 : szN (-1) = 0 := rfl
theorem sz40 : szN (nI 40) = 40 := nI_clamp (by omega)
theorem cs_kept0 (h : ∀ k, k < 3 → I 38 k = 0) : X4_howManyKept I = some (nI 0) := by
  unfold X4_howManyKept
  have key := loop_F (fun fuel k (s : Nat) => X4_howManyKept_L1 I (fun z => some z) fuel (nI s) (nI k)) (fun s => some (nI s)) 3 (fun k s => s) (fun _ _ => True)
    (fun fuel k s hk _ => ⟨by
      show X4_howManyKept_L1 I _ (fuel + 1) (nI s) (nI k) = _
      rw [X4_howManyKept_L1]
      have q1 : ¬ (3 : Int32) ≤ nI k := by rw [i_3, nI_le_iff (by omega) (by omega)]; omega
      rw [if_neg q1, rdI_nI hk (by omega), bind_s, if_pos (h k hk), bind_s, i_0, i_1, nI_sum, nI_sum]
      rfl, trivial⟩)
    (fun fuel s _ => by
      show X4_howManyKept_L1 I _ (fuel + 1) (nI s) (nI 3) = _
      rw [X4_howManyKept_L1]
      rw [if_pos (by decide)])
    3 bigF 0 0 (by omega) (bigF_gt (by omega)) trivial
  exact key
theorem cs_dcount (h : CS I P Dr v D0) (z : dgK I) {w : Nat} (hw : w < 13) : X4_count P I (nI w) = some (nI (cntN (now v D0) w)) := by
  obtain ⟨z1, z2, z3, z4, z5⟩ := z
  have hv := h.vok
  have hC := h.vc
  have hs : w = 0 ∨ w = 1 ∨ w = 2 ∨ w = 3 ∨ w = 4 ∨ w = 5 ∨ w = 6 ∨ w = 7 ∨ w = 8 ∨ w = 9 ∨ w = 10 ∨ w = 11 ∨ w = 12 := by omega
  rcases hs with rfl | rfl | rfl | rfl | rfl | rfl | rfl | rfl | rfl | rfl | rfl | rfl | rfl
  · exact congrArg some hC.1.2.2
  · exact congrArg some hC.1.2.1
  · exact cs_count2 h
  · exact cs_count3 h
  · exact cs_count4 h
  · exact cs_count5 h
  · exact congrArg some hC.1.1
  · exact cs_count7 h
  · show (X1_howMany P I (nI 2)).bind (fun v5 => some v5) = _
    rw [hC.howMany hv (by omega) (by omega), bind_s]
    rfl
  · show (X1_howMany P I (nI 3)).bind (fun v5 => some v5) = _
    rw [hC.howMany hv (by omega) (by omega), bind_s]
    rfl
  · show (X2_howMany 1 I).bind (fun v5 => some v5) = _
    rw [howRows (N := 6) z1.1 rfl (by omega), bind_s]
    have e : thN (I (1 + 1)) 6 = 0 := by
      simp only [thN, sumN, show (1 + 1 : Nat) = 2 from rfl, z2 0 (by omega), z2 1 (by omega), z2 2 (by omega), z2 3 (by omega), z2 4 (by omega), z2 5 (by omega), if_true]
    rw [e]
    rfl
  · show (X2_howMany 10 I).bind (fun v5 => some v5) = _
    rw [howRows (N := 4) z1.2.2.2.1 rfl (by omega), bind_s]
    have e : thN (I (10 + 1)) 4 = 1 := by
      have q : ¬ nI 40 = -1 := by decide
      simp only [thN, sumN, show (10 + 1 : Nat) = 11 from rfl, z3, z4 1 (by omega) (by omega), z4 2 (by omega) (by omega), z4 3 (by omega) (by omega), if_true, q, if_false]
    rw [e]
    rfl
  · show (X4_howManyKept I).bind (fun v5 => some v5) = _
    rw [cs_kept0 z5, bind_s]
    rfl
theorem cs_digest (h : CS I P Dr v D0) (z : dgK I) : X4_digest P I = some (dgF (now v D0) (I 13)) := by
  have hv := h.vok
  have hC := h.vc
  have hz := z
  obtain ⟨z1, z2, z3, z4, z5⟩ := z
  have h6 := hv.1
  have h4 := hv.2.1
  generalize hw : now v D0 = w at *
  have a1 : ∀ (K : Int64 → Option Int64), X4_digest_L1 P I K bigF 17 0 = K (foldF (fun k z => dg (nI (cntN w k)) z) 0 13 17) := fun K =>
    loop_F (fun fuel k (s : Int64) => X4_digest_L1 P I K fuel s (nI k)) (fun s => K s) 13 (fun k z => dg (nI (cntN w k)) z) (fun _ _ => True)
      (fun fuel k s hk _ => ⟨by
        show X4_digest_L1 P I K (fuel + 1) s (nI k) = _
        rw [X4_digest_L1]
        have q1 : ¬ (12 : Int32) < nI k := by rw [i_12, nI_lt_iff (by omega) (by omega)]; omega
        rw [if_neg q1, cs_dcount h hz hk, bind_s, i_1, nI_sum, hw]
        rfl, trivial⟩)
      (fun fuel s _ => by
        show X4_digest_L1 P I K (fuel + 1) s (nI 13) = _
        rw [X4_digest_L1]
        rw [if_pos (by decide)])
      13 bigF 0 17 (by omega) (bigF_gt (by omega)) trivial
  have a2 : ∀ (K : Int64 → Option Int64) (z : Int64), X4_digest_L2 P I K bigF z 0 = K (foldF (fun k z => dg (nI (tp w k)) z) 0 (ts w) z) := fun K z =>
    loop_F (fun fuel k (s : Int64) => X4_digest_L2 P I K fuel s (nI k)) (fun s => K s) (ts w) (fun k z => dg (nI (tp w k)) z) (fun _ _ => True)
      (fun fuel k s hk _ => ⟨by
        show X4_digest_L2 P I K (fuel + 1) s (nI k) = _
        rw [X4_digest_L2]
        have q1 : ¬ nI (ts w) ≤ nI k := by rw [nI_le_iff (by omega) (by omega)]; omega
        rw [hC.1.2.1, if_neg q1, rdI_nI (by omega) (by omega), bind_s, hC.2.2.1 k hk, i_1, nI_sum]
        rfl, trivial⟩)
      (fun fuel s _ => by
        show X4_digest_L2 P I K (fuel + 1) s (nI (ts w)) = _
        rw [X4_digest_L2]
        rw [hC.1.2.1, if_pos (Int32.le_refl _)])
      (ts w) bigF 0 z (by omega) (bigF_gt (by omega)) trivial
  have a4 : ∀ (K : Int64 → Option Int64) (i : Nat) (z : Int64), i < tn w → X4_digest_L4 P I (nI i) K bigF z 0 = K (foldF (fun k z => dg (nI (aboutN w i k)) z) 0 5 z) := fun K i z hi =>
    loop_F (fun fuel k (s : Int64) => X4_digest_L4 P I (nI i) K fuel s (nI k)) (fun s => K s) 5 (fun k z => dg (nI (aboutN w i k)) z) (fun _ _ => True)
      (fun fuel k s hk _ => ⟨by
        show X4_digest_L4 P I (nI i) K (fuel + 1) s (nI k) = _
        rw [X4_digest_L4]
        have q1 : ¬ (4 : Int32) < nI k := by rw [i_4, nI_lt_iff (by omega) (by omega)]; omega
        rw [if_neg q1, hC.about hv hi (by omega), bind_s, i_1, nI_sum]
        rfl, trivial⟩)
      (fun fuel s _ => by
        show X4_digest_L4 P I (nI i) K (fuel + 1) s (nI 5) = _
        rw [X4_digest_L4]
        rw [if_pos (by decide)])
      5 bigF 0 z (by omega) (bigF_gt (by omega)) trivial
  have a3 : ∀ (K : Int64 → Option Int64) (z : Int64), X4_digest_L3 P I K bigF z 0 = K (foldF (fun i z => foldF (fun k z => dg (nI (aboutN w i k)) z) 0 5 z) 0 (tn w) z) := fun K z =>
    loop_F (fun fuel k (s : Int64) => X4_digest_L3 P I K fuel s (nI k)) (fun s => K s) (tn w) (fun i z => foldF (fun k z => dg (nI (aboutN w i k)) z) 0 5 z) (fun _ _ => True)
      (fun fuel k s hk _ => ⟨by
        show X4_digest_L3 P I K (fuel + 1) s (nI k) = _
        rw [X4_digest_L3]
        have q1 : ¬ nI (tn w) ≤ nI k := by rw [nI_le_iff (by omega) (by omega)]; omega
        rw [hC.1.2.2, if_neg q1, a4 _ k s hk, i_1, nI_sum], trivial⟩)
      (fun fuel s _ => by
        show X4_digest_L3 P I K (fuel + 1) s (nI (tn w)) = _
        rw [X4_digest_L3]
        rw [hC.1.2.2, if_pos (Int32.le_refl _)])
      (tn w) bigF 0 z (by omega) (bigF_gt (by omega)) trivial
  have a5 : ∀ (K : Int64 → Option Int64) (z : Int64), X4_digest_L5 I K bigF z 0 = K (foldF (fun _ z => dg (-1) z) 0 3 z) := fun K z =>
    loop_F (fun fuel k (s : Int64) => X4_digest_L5 I K fuel s (nI k)) (fun s => K s) 3 (fun _ z => dg (-1) z) (fun _ _ => True)
      (fun fuel k s hk _ => ⟨by
        show X4_digest_L5 I K (fuel + 1) s (nI k) = _
        rw [X4_digest_L5]
        have q1 : ¬ (3 : Int32) ≤ nI k := by rw [i_3, nI_le_iff (by omega) (by omega)]; omega
        rw [if_neg q1, rdI_nI hk (by omega), bind_s, if_pos (z5 k hk), bind_s, i_1, nI_sum]
        rfl, trivial⟩)
      (fun fuel s _ => by
        show X4_digest_L5 I K (fuel + 1) s (nI 3) = _
        rw [X4_digest_L5]
        rw [if_pos (by decide)])
      3 bigF 0 z (by omega) (bigF_gt (by omega)) trivial
  have hr : ∀ r, r < 6 → szOk (I (1 + 1) r) 40 := fun r hr => Or.inl (z2 r hr)
  have ht : ∀ r, r < 4 → szOk (I (10 + 1) r) 60 := fun r hr => by
    by_cases c : r = 0
    · rw [c]; exact Or.inr ⟨40, by omega, z3⟩
    · exact Or.inl (z4 r (by omega) hr)
  unfold X4_digest
  rw [a1, a2, a3, a5, digRow (N := 6) (Q := 40) z1.1 rfl rfl rfl (by omega) (by omega) hr, bind_s, digRow (N := 4) (Q := 60) z1.2.2.2.1 rfl rfl rfl (by omega) (by omega) ht, bind_s]
  have e1 : ∀ z, rowD (I (1 + 1)) (fun r => I (1 + 3 + r)) 6 z = foldF (fun _ z => dg (-1) z) 0 6 z := fun z => by
    unfold rowD
    refine foldF_congr 6 0 _ fun r s _ hr => ?_
    rw [show I (1 + 1) r = -1 from z2 r (by omega), szm1]
    rfl
  have e2 : ∀ z, rowD (I (10 + 1)) (fun r => I (10 + 3 + r)) 4 z = foldF (fun r z => if r = 0 then foldF (fun i z => dg (I 13 i) z) 0 40 (dg (nI 40) z) else dg (-1) z) 0 4 z := fun z => by
    unfold rowD
    refine foldF_congr 4 0 _ fun r s _ hr => ?_
    by_cases c : r = 0
    · subst c
      rw [show I (10 + 1) 0 = nI 40 from z3, sz40, if_pos rfl]
    · rw [show I (10 + 1) r = -1 from z4 r (by omega) (by omega), szm1, if_neg c]
      rfl
  rw [e1, e2]
  rfl
end DIG
