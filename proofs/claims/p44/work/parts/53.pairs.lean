/-! PAIRS, WORTH -/
def cntP (v : TV) (but : Nat) : Nat := sumN (fun i => sumN (fun t => if canL v i (i + 1 + t) but then 1 else 0) (tn v - (i + 1))) (tn v)
theorem cntP_le {v : TV} (hv : vOk v) (but : Nat) : cntP v but ≤ 36 := by
  have h6 := hv.1
  have h1 := sumN_le (f := fun i => sumN (fun t => if canL v i (i + 1 + t) but then 1 else 0) (tn v - (i + 1))) (b := 6) (fun i => by
    have h2 := sumN_le (f := fun t => if canL v i (i + 1 + t) but then 1 else 0) (b := 1) (fun t => by
      show (if canL v i (i + 1 + t) but then 1 else 0) ≤ 1
      split <;> omega) (tn v - (i + 1))
    show sumN _ _ ≤ 6
    omega) (tn v)
  show sumN _ _ ≤ 36
  omega
/-- r is the first pair that can go, or there is none -/
def isFirst (v : TV) (r : Int32) : Prop := (r = -9 ∧ ∀ i j, i < j → j < tn v → ¬ canL v i j 0) ∨ ∃ i j, i < j ∧ j < tn v ∧ canL v i j 0 ∧ r = nI (6 * i + j) ∧ ∀ i' j', i' < j' → j' < tn v → canL v i' j' 0 → 6 * i + j ≤ 6 * i' + j'
theorem isFirst_uniq {v : TV} {r r' : Int32} (h : isFirst v r) (h' : isFirst v r') : r = r' := by
  rcases h with ⟨h1, h2⟩ | ⟨i, j, h1, h2, h3, h4, h5⟩
  · rcases h' with ⟨g1, g2⟩ | ⟨i', j', g1, g2, g3, g4, g5⟩
    · rw [h1, g1]
    · exact absurd g3 (h2 i' j' g1 g2)
  · rcases h' with ⟨g1, g2⟩ | ⟨i', j', g1, g2, g3, g4, g5⟩
    · exact absurd h3 (g2 i j h1 h2)
    · have a := h5 i' j' g1 g2 g3
      have b := g5 i j h1 h2 h3
      rw [h4, g4, show 6 * i + j = 6 * i' + j' by omega]
theorem VC.told {I : xMem} {P : Nat} {v : TV} (hP : 52 ≤ P) (h : VC I P v) (x : Int32) : VC (wr I 0 10 x) P v := by
  obtain ⟨⟨h1, h2, h3⟩, h4, h5, h6, d, h7, h8, h9, h10, h11⟩ := h
  refine ⟨⟨?_, ?_, ?_⟩, fun i hi => ?_, fun s hs => ?_, fun a ha => ?_, d, h7, ?_, ?_, ?_, ?_⟩
  · rw [wr_off _ _ (by omega)]; exact h1
  · rw [wr_off _ _ (by omega)]; exact h2
  · rw [wr_off _ _ (by omega)]; exact h3
  · rw [wr_off _ _ (by omega), wr_off _ _ (by omega)]; exact h4 i hi
  · rw [wr_off _ _ (by omega)]; exact h5 s hs
  · rw [wr_off _ _ (by omega)]; exact h6 a ha
  · rw [wr_off _ _ (by omega)]; exact h8
  · rw [wr_off _ _ (by omega)]; exact h9
  · rw [wr_off _ _ (by omega)]; exact h10
  · rw [wr_off _ _ (by omega)]; exact h11
theorem wr_comm (I : xMem) (k j : Nat) (x : Int32) {k' j' : Nat} (y : Int32) (h : k ≠ k' ∨ j ≠ j') : wr (wr I k j x) k' j' y = wr (wr I k' j' y) k j x := by
  funext a b
  simp only [wr_at]
  by_cases e : a = k' ∧ b = j'
  · rw [if_pos e, if_neg (by omega), if_pos e]
  · rw [if_neg e, if_neg e]
section OPP
variable {I J : xMem} {L M : xLon} {P Dr : Nat}
theorem VC.pairsW {I : xMem} {P : Nat} {v : TV} (hv : vOk v) (h : VC I P v) (but : Nat) : X4_pairsWithout P I (nI but) = some (nI (cntP v but)) := by
  have h6 := hv.1
  have inner : ∀ (K : Int32 → Option Int32) (i s : Nat), i < tn v → X4_pairsWithout_L2 P I (nI but) (nI i) K bigF (nI s) (nI (i + 1)) = K (nI (s + sumN (fun t => if canL v i (i + 1 + t) but then 1 else 0) (tn v - (i + 1)))) := by
    intro K i s hi
    have key := loop_F (fun fuel k (s : Nat) => X4_pairsWithout_L2 P I (nI but) (nI i) K fuel (nI s) (nI k)) (fun s => K (nI s)) (tn v) (fun k s => s + (if canL v i k but then 1 else 0)) (fun _ _ => True)
      (fun fuel k s hk _ => ⟨by
        show X4_pairsWithout_L2 P I (nI but) (nI i) K (fuel + 1) (nI s) (nI k) = _
        rw [X4_pairsWithout_L2]
        have q1 : ¬ nI (tn v) ≤ nI k := by rw [nI_le_iff (by omega) (by omega)]; omega
        rw [h.1.2.2, if_neg q1, h.can hv hi hk, bind_s]
        by_cases c : canL v i k but
        · rw [if_pos c, if_neg (by decide), bind_s, if_pos c, i_1, nI_sum, nI_sum]
        · rw [if_neg c, if_pos (show nI 0 = 0 from rfl), bind_s, if_neg c, i_0, i_1, nI_sum, nI_sum], trivial⟩)
      (fun fuel s _ => by
        show X4_pairsWithout_L2 P I (nI but) (nI i) K (fuel + 1) (nI s) (nI (tn v)) = _
        rw [X4_pairsWithout_L2]
        rw [h.1.2.2, if_pos (Int32.le_refl _)])
      (tn v - (i + 1)) bigF (i + 1) s (by omega) (bigF_gt (by omega)) trivial
    rw [foldF_sumk (fun k => if canL v i k but then 1 else 0)] at key
    exact key
  unfold X4_pairsWithout
  have key := loop_F (fun fuel k (s : Nat) => X4_pairsWithout_L1 P I (nI but) (fun z => some z) fuel (nI s) (nI k)) (fun s => some (nI s)) (tn v) (fun i s => s + sumN (fun t => if canL v i (i + 1 + t) but then 1 else 0) (tn v - (i + 1))) (fun _ _ => True)
    (fun fuel k s hk _ => ⟨by
      show X4_pairsWithout_L1 P I (nI but) _ (fuel + 1) (nI s) (nI k) = _
      rw [X4_pairsWithout_L1]
      have q1 : ¬ nI (tn v) ≤ nI k := by rw [nI_le_iff (by omega) (by omega)]; omega
      rw [h.1.2.2, if_neg q1, i_1, nI_sum, inner _ k s hk], trivial⟩)
    (fun fuel s _ => by
      show X4_pairsWithout_L1 P I (nI but) _ (fuel + 1) (nI s) (nI (tn v)) = _
      rw [X4_pairsWithout_L1]
      rw [h.1.2.2, if_pos (Int32.le_refl _)])
    (tn v) bigF 0 0 (by omega) (bigF_gt (by omega)) trivial
  rw [foldF_sum (fun i => sumN (fun t => if canL v i (i + 1 + t) but then 1 else 0) (tn v - (i + 1)))] at key
  exact key
theorem VC.firstP {I : xMem} {P : Nat} {v : TV} (hv : vOk v) (h : VC I P v) : ∃ r, X4_firstPair P I = some r ∧ isFirst v r := by
  have h6 := hv.1
  have inner : ∀ (i : Nat) (K : Option Int32), i < tn v → (∀ i' j', i' < i → i' < j' → j' < tn v → ¬ canL v i' j' 0) → (∃ r, X4_firstPair_L2 P I (nI i) K bigF (nI (i + 1)) = some r ∧ isFirst v r) ∨ (X4_firstPair_L2 P I (nI i) K bigF (nI (i + 1)) = K ∧ ∀ j, i < j → j < tn v → ¬ canL v i j 0) := by
    intro i K hi hno
    exact loop_T (fun fuel k (_ : Unit) => X4_firstPair_L2 P I (nI i) K fuel (nI k)) (fun o => (∃ r, o = some r ∧ isFirst v r) ∨ (o = K ∧ ∀ j, i < j → j < tn v → ¬ canL v i j 0)) (tn v) (fun k _ => i + 1 ≤ k ∧ ∀ j, i < j → j < k → ¬ canL v i j 0)
      (fun fuel k _ hk hI => by
        show ((∃ r, X4_firstPair_L2 P I (nI i) K (fuel + 1) (nI k) = some r ∧ _) ∨ (X4_firstPair_L2 P I (nI i) K (fuel + 1) (nI k) = K ∧ _)) ∨ ∃ s', X4_firstPair_L2 P I (nI i) K (fuel + 1) (nI k) = _ ∧ _
        rw [X4_firstPair_L2]
        have q1 : ¬ nI (tn v) ≤ nI k := by rw [nI_le_iff (by omega) (by omega)]; omega
        rw [h.1.2.2, if_neg q1, i_0, h.can hv hi hk, bind_s]
        by_cases c : canL v i k 0
        · left; left
          rw [if_pos c, if_neg (by decide), i_6, nI_mul, nI_sum]
          refine ⟨_, rfl, Or.inr ⟨i, k, by omega, hk, c, rfl, fun i' j' a1 a2 a3 => ?_⟩⟩
          rcases Nat.lt_or_ge i' i with w | w
          · exact absurd a3 (hno i' j' w a1 a2)
          · by_cases e : i' = i
            · subst e
              rcases Nat.lt_or_ge j' k with u | u
              · exact absurd a3 (hI.2 j' a1 u)
              · omega
            · omega
        · right
          rw [if_neg c, if_pos rfl, i_1, nI_sum]
          refine ⟨(), rfl, by omega, fun j a1 a2 => ?_⟩
          by_cases e : j = k
          · rw [e]; exact c
          · exact hI.2 j a1 (by omega))
      (fun fuel _ hI => by
        show (∃ r, X4_firstPair_L2 P I (nI i) K (fuel + 1) (nI (tn v)) = some r ∧ _) ∨ (X4_firstPair_L2 P I (nI i) K (fuel + 1) (nI (tn v)) = K ∧ _)
        rw [X4_firstPair_L2]
        rw [h.1.2.2, if_pos (Int32.le_refl _)]
        exact Or.inr ⟨rfl, hI.2⟩)
      (tn v - (i + 1)) bigF (i + 1) () (by omega) (bigF_gt (by omega)) ⟨by omega, fun j a1 a2 => absurd a2 (by omega)⟩
  unfold X4_firstPair
  exact loop_T (fun fuel k (_ : Unit) => X4_firstPair_L1 P I (some (-9)) fuel (nI k)) (fun o => ∃ r, o = some r ∧ isFirst v r) (tn v) (fun k _ => ∀ i' j', i' < k → i' < j' → j' < tn v → ¬ canL v i' j' 0)
    (fun fuel k _ hk hI => by
      show (∃ r, X4_firstPair_L1 P I (some (-9)) (fuel + 1) (nI k) = some r ∧ _) ∨ ∃ s', X4_firstPair_L1 P I (some (-9)) (fuel + 1) (nI k) = _ ∧ _
      rw [X4_firstPair_L1]
      have q1 : ¬ nI (tn v) ≤ nI k := by rw [nI_le_iff (by omega) (by omega)]; omega
      rw [h.1.2.2, if_neg q1, i_1, nI_sum]
      rcases inner k (X4_firstPair_L1 P I (some (-9)) fuel (nI (k + 1))) hk hI with g | ⟨g1, g2⟩
      · exact Or.inl g
      · refine Or.inr ⟨(), g1, fun i' j' a1 a2 a3 => ?_⟩
        by_cases e : i' = k
        · rw [e] at a2 ⊢
          exact g2 j' a2 a3
        · exact hI i' j' (by omega) a2 a3)
    (fun fuel _ hI => by
      show ∃ r, X4_firstPair_L1 P I (some (-9)) (fuel + 1) (nI (tn v)) = some r ∧ _
      rw [X4_firstPair_L1]
      rw [h.1.2.2, if_pos (Int32.le_refl _)]
      exact ⟨_, rfl, Or.inl ⟨rfl, fun i j a1 a2 => hI i j (by omega) a1 a2⟩⟩)
    (tn v) bigF 0 () (by omega) (bigF_gt (by omega)) (fun i' j' a => absurd a (by omega))
/-- of the pairs whose number is m or more -/
def isFrom (v : TV) (m : Nat) (r : Int32) : Prop := (r = -9 ∧ ∀ i j, i < j → j < tn v → m ≤ i * tn v + j → ¬ canL v i j 0) ∨ ∃ i j, i < j ∧ j < tn v ∧ canL v i j 0 ∧ m ≤ i * tn v + j ∧ r = nI (6 * i + j) ∧ ∀ i' j', i' < j' → j' < tn v → m ≤ i' * tn v + j' → canL v i' j' 0 → i * tn v + j ≤ i' * tn v + j'
theorem isFrom_0 {v : TV} (hv : vOk v) {r : Int32} (h : isFrom v 0 r) : isFirst v r := by
  rcases h with ⟨h1, h2⟩ | ⟨i, j, h1, h2, h3, h4, h5, h6⟩
  · exact Or.inl ⟨h1, fun i j a b => h2 i j a b (by omega)⟩
  · refine Or.inr ⟨i, j, h1, h2, h3, h5, fun i' j' a b c => ?_⟩
    have := h6 i' j' a b (by omega) c
    have hn := hv.1
    rcases Nat.lt_trichotomy i i' with q | q | q
    · omega
    · subst q
      omega
    · have q2 : (i' + 1) * tn v ≤ i * tn v := Nat.mul_le_mul_right _ q
      rw [Nat.succ_mul] at q2
      omega
def worG (v : TV) (k : Nat) (z : Nat × Nat) : Nat × Nat := if z.2 ≤ cntP v (2 ^ k) then z else (k, cntP v (2 ^ k))
def worN (v : TV) (m : Nat) : Nat × Nat := foldF (worG v) 1 m (0, cntP v 1)
theorem worN_le {v : TV} (hv : vOk v) : ∀ m, (worN v m).2 ≤ 36 ∧ (worN v m).1 ≤ m
  | 0 => ⟨cntP_le hv 1, Nat.le_refl 0⟩
  | m + 1 => by
    have h := worN_le hv m
    have h2 := cntP_le hv (2 ^ (1 + m))
    have e : worN v (m + 1) = worG v (1 + m) (worN v m) := foldF_succ _ _ _ _
    rw [e]
    unfold worG
    split
    · exact ⟨h.1, by omega⟩
    · exact ⟨h2, by show 1 + m ≤ m + 1; omega⟩
theorem VC.worL {I : xMem} {P : Nat} {v : TV} (hv : vOk v) (h : VC I P v) (h0 : 0 < ts v) (K : Int32 → Int32 → Option (Int32 × xMem)) : X4_worth_L1 P I K bigF (nI 0) (nI (cntP v 1)) (nI 1) = K (nI (worN v (ts v - 1)).1) (nI (worN v (ts v - 1)).2) := by
  have h4 := hv.2.1
  exact loop_F (fun fuel k (z : Nat × Nat) => X4_worth_L1 P I K fuel (nI z.1) (nI z.2) (nI k)) (fun z => K (nI z.1) (nI z.2)) (ts v) (worG v) (fun _ z => z.2 ≤ 36)
    (fun fuel k z hk hI => by
      obtain ⟨b, f⟩ := z
      have hI : f ≤ 36 := hI
      have hc := cntP_le hv (2 ^ k)
      show X4_worth_L1 P I K (fuel + 1) (nI b) (nI f) (nI k) = _ ∧ _
      rw [X4_worth_L1]
      have q1 : ¬ nI (ts v) ≤ nI k := by rw [nI_le_iff (by omega) (by omega)]; omega
      rw [h.1.2.1, if_neg q1, i_1, nI_pow (by omega), h.pairsW hv, bind_s, nI_sum]
      unfold worG
      by_cases c : f ≤ cntP v (2 ^ k)
      · have q2 : nI f ≤ nI (cntP v (2 ^ k)) := by rw [nI_le_iff (by omega) (by omega)]; exact c
        have q3 : (b, f).2 ≤ cntP v (2 ^ k) := c
        rw [if_pos q2, if_pos q3]
        exact ⟨rfl, hI⟩
      · have q2 : ¬ nI f ≤ nI (cntP v (2 ^ k)) := by rw [nI_le_iff (by omega) (by omega)]; exact c
        have q3 : ¬ (b, f).2 ≤ cntP v (2 ^ k) := c
        rw [if_neg q2, if_neg q3]
        exact ⟨rfl, hc⟩)
    (fun fuel z _ => by
      show X4_worth_L1 P I K (fuel + 1) (nI z.1) (nI z.2) (nI (ts v)) = _
      rw [X4_worth_L1]
      rw [h.1.2.1, if_pos (Int32.le_refl _)])
    (ts v - 1) bigF 1 (0, cntP v 1) (by omega) (bigF_gt (by omega)) (cntP_le hv 1)
end OPP
