/-! PAIRS, WORTH -/
def cntP (v : TV) (but : Nat) : Nat := sumN (fun i => sumN (fun t => if canL v i (i + 1 + t) but then 1 else 0) (tn v - (i + 1))) (tn v)
theorem cntP_le {v : TV} (hv : vOk v) (but : Nat) : cntP v but ≤ 36 := by
  have h6 := hv.1
  have h1 := sumN_le (f := fun i => sumN (fun t => if canL v i (i + 1 + t) but then 1 else 0) (tn v - (i + 1))) (b := 6) (fun i => by
    have h2 := sumN_le (f := fun t => if canL v i (i + 1 + t) but then 1 else 0) (b := 1) (fun t => by
      show (if canL v i (i + 1 + t) but then 1 else 0) ≤ 1
      split <;> omega) (tn v - (i + 1))
    show sumN _ _ ≤ 6
    omega) (tn v)
  show sumN _ _ ≤ 36
  omega
/-- r is the first pair that can go, or there is none -/
def isFirst (v : TV) (r : Int32) : Prop := (r = -9 ∧ ∀ i j, i < j → j < tn v → ¬ canL v i j 0) ∨ ∃ i j, i < j ∧ j < tn v ∧ canL v i j 0 ∧ r = nI (6 * i + j) ∧ ∀ i' j', i' < j' → j' < tn v → canL v i' j' 0 → 6 * i + j ≤ 6 * i' + j'
theorem isFirst_uniq {v : TV} {r r' : Int32} (h : isFirst v r) (h' : isFirst v r') : r = r' := by
  rcases h with ⟨h1, h2⟩ | ⟨i, j, h1, h2, h3, h4, h5⟩
  · rcases h' with ⟨g1, g2⟩ | ⟨i', j', g1, g2, g3, g4, g5⟩
    · rw [h1, g1]
    · exact absurd g3 (h2 i' j' g1 g2)
  · rcases h' with ⟨g1, g2⟩ | ⟨i', j', g1, g2, g3, g4, g5⟩
    · exact absurd h3 (g2 i j h1 h2)
    · have a := h5 i' j' g1 g2 g3
      have b := g5 i j h1 h2 h3
      rw [h4, g4, show 6 * i + j = 6 * i' + j' by omega]
theorem VC.told {I : xMem} {P : Nat} {v : TV} (hP : 52 ≤ P) (h : VC I P v) (x : Int32) : VC (wr I 0 10 x) P v := by
  obtain ⟨⟨h1, h2, h3⟩, h4, h5, h6, d, h7, h8, h9, h10, h11⟩ := h
  refine ⟨⟨?_, ?_, ?_⟩, fun i hi => ?_, fun s hs => ?_, fun a ha => ?_, d, h7, ?_, ?_, ?_, ?_⟩
  · rw [wr_off _ _ (by omega)]; exact h1
  · rw [wr_off _ _ (by omega)]; exact h2
  · rw [wr_off _ _ (by omega)]; exact h3
  · rw [wr_off _ _ (by omega), wr_off _ _ (by omega)]; exact h4 i hi
  · rw [wr_off _ _ (by omega)]; exact h5 s hs
  · rw [wr_off _ _ (by omega)]; exact h6 a ha
  · rw [wr_off _ _ (by omega)]; exact h8
  · rw [wr_off _ _ (by omega)]; exact h9
  · rw [wr_off _ _ (by omega)]; exact h10
  · rw [wr_off _ _ (by omega)]; exact h11
theorem VM.told {J : xMem} {v : TV} (h : VM J v) (x : Int32) : VM (wr J 0 11 x) v := by
  obtain ⟨⟨h1, h2, h3⟩, h4, h5, h6, h7, h8⟩ := h
  refine ⟨⟨?_, ?_, ?_⟩, fun i hi => ?_, fun s hs => ?_, ?_, ?_, ?_⟩
  · rw [wr_off _ _ (by omega)]; exact h1
  · rw [wr_off _ _ (by omega)]; exact h2
  · rw [wr_off _ _ (by omega)]; exact h3
  · rw [wr_off _ _ (by omega), wr_off _ _ (by omega)]; exact h4 i hi
  · rw [wr_off _ _ (by omega)]; exact h5 s hs
  · rw [wr_off _ _ (by omega)]; exact h6
  · rw [wr_off _ _ (by omega)]; exact h7
  · rw [wr_off _ _ (by omega)]; exact h8
theorem wr_comm (I : xMem) (k j : Nat) (x : Int32) {k' j' : Nat} (y : Int32) (h : k ≠ k' ∨ j ≠ j') : wr (wr I k j x) k' j' y = wr (wr I k' j' y) k j x := by
  funext a b
  simp only [wr_at]
  by_cases e : a = k' ∧ b = j'
  · rw [if_pos e, if_neg (by omega), if_pos e]
  · rw [if_neg e, if_neg e]
section OPP
variable {I J : xMem} {L M : xLon} {P Dr : Nat}
theorem VC.pairsW {I : xMem} {P : Nat} {v : TV} (hv : vOk v) (h : VC I P v) (but : Nat) : X4_pairsWithout P I (nI but) = some (nI (cntP v but)) := by
  have h6 := hv.1
  have inner : ∀ (K : Int32 → Option Int32) (i s : Nat), i < tn v → X4_pairsWithout_L2 P I (nI but) (nI i) K bigF (nI s) (nI (i + 1)) = K (nI (s + sumN (fun t => if canL v i (i + 1 + t) but then 1 else 0) (tn v - (i + 1)))) := by
    intro K i s hi
    have key := loop_F (fun fuel k (s : Nat) => X4_pairsWithout_L2 P I (nI but) (nI i) K fuel (nI s) (nI k)) (fun s => K (nI s)) (tn v) (fun k s => s + (if canL v i k but then 1 else 0)) (fun _ _ => True)
      (fun fuel k s hk _ => ⟨by
        show X4_pairsWithout_L2 P I (nI but) (nI i) K (fuel + 1) (nI s) (nI k) = _
        rw [X4_pairsWithout_L2]
        have q1 : ¬ nI (tn v) ≤ nI k := by rw [nI_le_iff (by omega) (by omega)]; omega
        rw [h.1.2.2, if_neg q1, h.can hv hi hk, bind_s]
        by_cases c : canL v i k but
        · rw [if_pos c, if_neg (by decide), bind_s, if_pos c, i_1, nI_sum, nI_sum]
        · rw [if_neg c, if_pos (show nI 0 = 0 from rfl), bind_s, if_neg c, i_0, i_1, nI_sum, nI_sum], trivial⟩)
      (fun fuel s _ => by
        show X4_pairsWithout_L2 P I (nI but) (nI i) K (fuel + 1) (nI s) (nI (tn v)) = _
        rw [X4_pairsWithout_L2]
        rw [h.1.2.2, if_pos (Int32.le_refl _)])
      (tn v - (i + 1)) bigF (i + 1) s (by omega) (bigF_gt (by omega)) trivial
    rw [foldF_sumk (fun k => if canL v i k but then 1 else 0)] at key
    exact key
  unfold X4_pairsWithout
  have key := loop_F (fun fuel k (s : Nat) => X4_pairsWithout_L1 P I (nI but) (fun z => some z) fuel (nI s) (nI k)) (fun s => some (nI s)) (tn v) (fun i s => s + sumN (fun t => if canL v i (i + 1 + t) but then 1 else 0) (tn v - (i + 1))) (fun _ _ => True)
    (fun fuel k s hk _ => ⟨by
      show X4_pairsWithout_L1 P I (nI but) _ (fuel + 1) (nI s) (nI k) = _
      rw [X4_pairsWithout_L1]
      have q1 : ¬ nI (tn v) ≤ nI k := by rw [nI_le_iff (by omega) (by omega)]; omega
      rw [h.1.2.2, if_neg q1, i_1, nI_sum, inner _ k s hk], trivial⟩)
    (fun fuel s _ => by
      show X4_pairsWithout_L1 P I (nI but) _ (fuel + 1) (nI s) (nI (tn v)) = _
      rw [X4_pairsWithout_L1]
      rw [h.1.2.2, if_pos (Int32.le_refl _)])
    (tn v) bigF 0 0 (by omega) (bigF_gt (by omega)) trivial
  rw [foldF_sum (fun i => sumN (fun t => if canL v i (i + 1 + t) but then 1 else 0) (tn v - (i + 1)))] at key
  exact key
theorem VM.pairsB {J : xMem} {v : TV} (hv : vOk v) (h : VM J v) (but : Nat) : ∃ J', X5_pairsBut J (nI but) = some (nI (cntP v but), J') ∧ s24 J J' := by
  have h6 := hv.1
  have inner : ∀ (K : Int32 → xMem → Option (Int32 × xMem)) (i s : Nat) (Z : xMem), i < tn v → s24 J Z → ∃ Z', s24 J Z' ∧ X5_pairsBut_L2 (nI but) (nI i) K bigF (nI s) (nI (i + 1)) Z = K (nI (s + sumN (fun t => if canL v i (i + 1 + t) but then 1 else 0) (tn v - (i + 1)))) Z' := by
    intro K i s Z hi hZ
    obtain ⟨⟨s', Z'⟩, ⟨hs, hZ'⟩, he⟩ := loop_I (fun fuel k (z : Nat × xMem) => X5_pairsBut_L2 (nI but) (nI i) K fuel (nI z.1) (nI k) z.2) (fun z => K (nI z.1) z.2) (tn v) (fun k z => z.1 = s + sumN (fun t => if canL v i (i + 1 + t) but then 1 else 0) (k - (i + 1)) ∧ s24 J z.2 ∧ i + 1 ≤ k)
      (fun fuel k z hk hI => by
        obtain ⟨s', Z⟩ := z
        obtain ⟨hs, hZ, hik⟩ := hI
        have hs : s' = _ := hs
        have hZ : s24 J Z := hZ
        have hM := h.sc hZ
        show ∃ s'', X5_pairsBut_L2 (nI but) (nI i) K (fuel + 1) (nI s') (nI k) Z = _ ∧ _
        rw [X5_pairsBut_L2]
        have q1 : ¬ nI (tn v) ≤ nI k := by rw [nI_le_iff (by omega) (by omega)]; omega
        obtain ⟨Z', e1, e2⟩ := hM.can hv hi hk (but := but)
        have hsum : sumN (fun t => if canL v i (i + 1 + t) but then 1 else 0) (k + 1 - (i + 1)) = sumN (fun t => if canL v i (i + 1 + t) but then 1 else 0) (k - (i + 1)) + if canL v i k but then 1 else 0 := by
          rw [show k + 1 - (i + 1) = (k - (i + 1)) + 1 by omega]
          show _ + (if canL v i (i + 1 + (k - (i + 1))) but then 1 else 0) = _
          rw [show i + 1 + (k - (i + 1)) = k by omega]
        rw [hM.1.2.2, if_neg q1, e1, bind_s]
        dsimp only
        by_cases c : canL v i k but
        · have hv1 : (if i ≠ k ∧ canL v i k but then (1 : Int32) else 0) = 1 := if_pos ⟨by omega, c⟩
          rw [hv1, if10, bind_s, i_1, nI_sum, nI_sum]
          refine ⟨(s' + 1, Z'), rfl, ?_, hZ.tr e2, by omega⟩
          show s' + 1 = _
          rw [hsum, if_pos c]
          omega
        · have hv0 : (if i ≠ k ∧ canL v i k but then (1 : Int32) else 0) = 0 := if_neg (fun w => c w.2)
          rw [hv0, if00, bind_s, i_0, i_1, nI_sum, nI_sum]
          refine ⟨(s' + 0, Z'), rfl, ?_, hZ.tr e2, by omega⟩
          show s' + 0 = _
          rw [hsum, if_neg c]
          omega)
      (fun fuel z hI => by
        obtain ⟨s', Z⟩ := z
        have hM := h.sc hI.2.1
        show X5_pairsBut_L2 (nI but) (nI i) K (fuel + 1) (nI s') (nI (tn v)) Z = _
        rw [X5_pairsBut_L2]
        rw [show Z 0 4 = nI (tn v) from hM.1.2.2, if_pos (Int32.le_refl _)])
      (tn v - (i + 1)) bigF (i + 1) (s, Z) (by omega) (bigF_gt (by omega)) ⟨by rw [Nat.sub_self]; rfl, hZ, by omega⟩
    have hs : s' = _ := hs
    exact ⟨Z', hZ'.1, by rw [← hs]; exact he⟩
  unfold X5_pairsBut
  obtain ⟨⟨s', Z'⟩, ⟨hs, hZ'⟩, he⟩ := loop_I (fun fuel k (z : Nat × xMem) => X5_pairsBut_L1 (nI but) (fun z2 I4 => some (z2, I4)) fuel (nI z.1) (nI k) z.2) (fun z => some (nI z.1, z.2)) (tn v) (fun k z => z.1 = sumN (fun i => sumN (fun t => if canL v i (i + 1 + t) but then 1 else 0) (tn v - (i + 1))) k ∧ s24 J z.2)
    (fun fuel k z hk hI => by
      obtain ⟨s', Z⟩ := z
      obtain ⟨hs, hZ⟩ := hI
      have hs : s' = _ := hs
      have hZ : s24 J Z := hZ
      have hM := h.sc hZ
      obtain ⟨Z', g1, g2⟩ := inner (fun z2 I9 => X5_pairsBut_L1 (nI but) (fun z2 I4 => some (z2, I4)) fuel z2 (nI k + 1) I9) k s' Z hk hZ
      refine ⟨(s' + sumN (fun t => if canL v k (k + 1 + t) but then 1 else 0) (tn v - (k + 1)), Z'), ?_, ?_, g1⟩
      · show X5_pairsBut_L1 (nI but) _ (fuel + 1) (nI s') (nI k) Z = _
        rw [X5_pairsBut_L1]
        have q1 : ¬ nI (tn v) ≤ nI k := by rw [nI_le_iff (by omega) (by omega)]; omega
        rw [hM.1.2.2, if_neg q1]
        rw [show nI k + 1 = nI (k + 1) from nI_1 k] at g2 ⊢
        exact g2
      · show s' + _ = _
        rw [hs]
        rfl)
    (fun fuel z hI => by
      obtain ⟨s', Z⟩ := z
      have hM := h.sc hI.2
      show X5_pairsBut_L1 (nI but) _ (fuel + 1) (nI s') (nI (tn v)) Z = _
      rw [X5_pairsBut_L1]
      rw [show Z 0 4 = nI (tn v) from hM.1.2.2, if_pos (Int32.le_refl _)])
    (tn v) bigF 0 (0, J) (by omega) (bigF_gt (by omega)) ⟨rfl, s24.rf J⟩
  have hs : s' = _ := hs
  exact ⟨Z', by rw [show cntP v but = s' from hs.symm]; exact he, hZ'⟩
theorem VC.firstP {I : xMem} {P : Nat} {v : TV} (hv : vOk v) (h : VC I P v) : ∃ r, X4_firstPair P I = some r ∧ isFirst v r := by
  have h6 := hv.1
  have inner : ∀ (i : Nat) (K : Option Int32), i < tn v → (∀ i' j', i' < i → i' < j' → j' < tn v → ¬ canL v i' j' 0) → (∃ r, X4_firstPair_L2 P I (nI i) K bigF (nI (i + 1)) = some r ∧ isFirst v r) ∨ (X4_firstPair_L2 P I (nI i) K bigF (nI (i + 1)) = K ∧ ∀ j, i < j → j < tn v → ¬ canL v i j 0) := by
    intro i K hi hno
    exact loop_T (fun fuel k (_ : Unit) => X4_firstPair_L2 P I (nI i) K fuel (nI k)) (fun o => (∃ r, o = some r ∧ isFirst v r) ∨ (o = K ∧ ∀ j, i < j → j < tn v → ¬ canL v i j 0)) (tn v) (fun k _ => i + 1 ≤ k ∧ ∀ j, i < j → j < k → ¬ canL v i j 0)
      (fun fuel k _ hk hI => by
        show ((∃ r, X4_firstPair_L2 P I (nI i) K (fuel + 1) (nI k) = some r ∧ _) ∨ (X4_firstPair_L2 P I (nI i) K (fuel + 1) (nI k) = K ∧ _)) ∨ ∃ s', X4_firstPair_L2 P I (nI i) K (fuel + 1) (nI k) = _ ∧ _
        rw [X4_firstPair_L2]
        have q1 : ¬ nI (tn v) ≤ nI k := by rw [nI_le_iff (by omega) (by omega)]; omega
        rw [h.1.2.2, if_neg q1, i_0, h.can hv hi hk, bind_s]
        by_cases c : canL v i k 0
        · left; left
          rw [if_pos c, if_neg (by decide), i_6, nI_mul, nI_sum]
          refine ⟨_, rfl, Or.inr ⟨i, k, by omega, hk, c, rfl, fun i' j' a1 a2 a3 => ?_⟩⟩
          rcases Nat.lt_or_ge i' i with w | w
          · exact absurd a3 (hno i' j' w a1 a2)
          · by_cases e : i' = i
            · subst e
              rcases Nat.lt_or_ge j' k with u | u
              · exact absurd a3 (hI.2 j' a1 u)
              · omega
            · omega
        · right
          rw [if_neg c, if_pos rfl, i_1, nI_sum]
          refine ⟨(), rfl, by omega, fun j a1 a2 => ?_⟩
          by_cases e : j = k
          · rw [e]; exact c
          · exact hI.2 j a1 (by omega))
      (fun fuel _ hI => by
        show (∃ r, X4_firstPair_L2 P I (nI i) K (fuel + 1) (nI (tn v)) = some r ∧ _) ∨ (X4_firstPair_L2 P I (nI i) K (fuel + 1) (nI (tn v)) = K ∧ _)
        rw [X4_firstPair_L2]
        rw [h.1.2.2, if_pos (Int32.le_refl _)]
        exact Or.inr ⟨rfl, hI.2⟩)
      (tn v - (i + 1)) bigF (i + 1) () (by omega) (bigF_gt (by omega)) ⟨by omega, fun j a1 a2 => absurd a2 (by omega)⟩
  unfold X4_firstPair
  exact loop_T (fun fuel k (_ : Unit) => X4_firstPair_L1 P I (some (-9)) fuel (nI k)) (fun o => ∃ r, o = some r ∧ isFirst v r) (tn v) (fun k _ => ∀ i' j', i' < k → i' < j' → j' < tn v → ¬ canL v i' j' 0)
    (fun fuel k _ hk hI => by
      show (∃ r, X4_firstPair_L1 P I (some (-9)) (fuel + 1) (nI k) = some r ∧ _) ∨ ∃ s', X4_firstPair_L1 P I (some (-9)) (fuel + 1) (nI k) = _ ∧ _
      rw [X4_firstPair_L1]
      have q1 : ¬ nI (tn v) ≤ nI k := by rw [nI_le_iff (by omega) (by omega)]; omega
      rw [h.1.2.2, if_neg q1, i_1, nI_sum]
      rcases inner k (X4_firstPair_L1 P I (some (-9)) fuel (nI (k + 1))) hk hI with g | ⟨g1, g2⟩
      · exact Or.inl g
      · refine Or.inr ⟨(), g1, fun i' j' a1 a2 a3 => ?_⟩
        by_cases e : i' = k
        · rw [e] at a2 ⊢
          exact g2 j' a2 a3
        · exact hI i' j' (by omega) a2 a3)
    (fun fuel _ hI => by
      show ∃ r, X4_firstPair_L1 P I (some (-9)) (fuel + 1) (nI (tn v)) = some r ∧ _
      rw [X4_firstPair_L1]
      rw [h.1.2.2, if_pos (Int32.le_refl _)]
      exact ⟨_, rfl, Or.inl ⟨rfl, fun i j a1 a2 => hI i j (by omega) a1 a2⟩⟩)
    (tn v) bigF 0 () (by omega) (bigF_gt (by omega)) (fun i' j' a => absurd a (by omega))
/-- of the pairs whose number is m or more -/
def isFrom (v : TV) (m : Nat) (r : Int32) : Prop := (r = -9 ∧ ∀ i j, i < j → j < tn v → m ≤ i * tn v + j → ¬ canL v i j 0) ∨ ∃ i j, i < j ∧ j < tn v ∧ canL v i j 0 ∧ m ≤ i * tn v + j ∧ r = nI (6 * i + j) ∧ ∀ i' j', i' < j' → j' < tn v → m ≤ i' * tn v + j' → canL v i' j' 0 → i * tn v + j ≤ i' * tn v + j'
theorem isFrom_0 {v : TV} (hv : vOk v) {r : Int32} (h : isFrom v 0 r) : isFirst v r := by
  rcases h with ⟨h1, h2⟩ | ⟨i, j, h1, h2, h3, h4, h5, h6⟩
  · exact Or.inl ⟨h1, fun i j a b => h2 i j a b (by omega)⟩
  · refine Or.inr ⟨i, j, h1, h2, h3, h5, fun i' j' a b c => ?_⟩
    have := h6 i' j' a b (by omega) c
    have hn := hv.1
    rcases Nat.lt_trichotomy i i' with q | q | q
    · omega
    · subst q
      omega
    · have q2 : (i' + 1) * tn v ≤ i * tn v := Nat.mul_le_mul_right _ q
      rw [Nat.succ_mul] at q2
      omega
theorem VM.pairsL {J : xMem} {v : TV} (hv : vOk v) (h : VM J v) (K : xMem → Option (Int32 × xMem)) : ∃ r J1, s24 J J1 ∧ isFirst v r ∧ X5_pairs_L1 K bigF (nI (tn v * tn v) - 1) (wr J 0 11 (-9)) = K (wr J1 0 11 r) := by
  have h6 := hv.1
  have hnn : tn v * tn v ≤ 36 := Nat.mul_le_mul h6 h6
  have key : ∀ (m fuel : Nat) (J1 : xMem) (r : Int32), m ≤ tn v * tn v → m < fuel → s24 J J1 → isFrom v m r → ∃ r' J2, s24 J J2 ∧ isFirst v r' ∧ X5_pairs_L1 K fuel (nI m - 1) (wr J1 0 11 r) = K (wr J2 0 11 r') := by
    intro m
    induction m with
    | zero =>
      intro fuel J1 r hm hf hJ hr
      obtain ⟨f, rfl⟩ : ∃ f, fuel = f + 1 := ⟨fuel - 1, by omega⟩
      refine ⟨r, J1, hJ, isFrom_0 hv hr, ?_⟩
      rw [X5_pairs_L1]
      rw [if_pos (by decide)]
    | succ m ih =>
      intro fuel J1 r hm hf hJ hr
      obtain ⟨f, rfl⟩ : ∃ f, fuel = f + 1 := ⟨fuel - 1, by omega⟩
      have hn0 : 0 < tn v := by
        rcases Nat.eq_zero_or_pos (tn v) with q | q
        · rw [q] at hm
          omega
        · exact q
      have hM : VM (wr J1 0 11 r) v := (h.sc hJ).told r
      have q0 : ¬ nI (tn v) = 0 := by rw [i_0, nI_eq_iff (by omega) (by omega)]; omega
      have hi : m / tn v < tn v := Nat.div_lt_of_lt_mul (by omega)
      have hj : m % tn v < tn v := Nat.mod_lt _ hn0
      have hmd : m / tn v * tn v + m % tn v = m := by rw [Nat.mul_comm]; exact Nat.div_add_mod m (tn v)
      have uniq : ∀ i j, j < tn v → i * tn v + j = m → i = m / tn v ∧ j = m % tn v := by
        intro i j hjn e
        have e1 : (i * tn v + j) / tn v = i := by rw [Nat.mul_comm, Nat.mul_add_div hn0, Nat.div_eq_of_lt hjn, Nat.add_zero]
        have e2 : (i * tn v + j) % tn v = j := by rw [Nat.mul_comm, Nat.mul_add_mod, Nat.mod_eq_of_lt hjn]
        rw [← e]
        exact ⟨e1.symm, e2.symm⟩
      rw [X5_pairs_L1]
      rw [nI_pred, if_neg (nI_pos (by omega)), hM.1.2.2]
      have ed : dvI (nI m) (nI (tn v)) = some (nI (m / tn v)) := by
        unfold dvI
        rw [if_neg q0, nI_div (by omega) hn0 (by omega)]
      have er : rmI (nI m) (nI (tn v)) = some (nI (m % tn v)) := by
        unfold rmI
        rw [if_neg q0, nI_rem (by omega) hn0 (by omega)]
      rw [ed, bind_s, er, bind_s]
      have em1 : nI m + (-1) = nI m - 1 := (Int32.sub_eq_add_neg _ _).symm
      have skip : ¬ (m / tn v < m % tn v ∧ canL v (m / tn v) (m % tn v) 0) → isFrom v m r := by
        intro hn
        rcases hr with ⟨g1, g2⟩ | ⟨i, j, g1, g2, g3, g4, g5, g6⟩
        · refine Or.inl ⟨g1, fun i j a b c d => ?_⟩
          by_cases e : i * tn v + j = m
          · obtain ⟨e1, e2⟩ := uniq i j b e
            subst e1; subst e2
            exact hn ⟨a, d⟩
          · exact g2 i j a b (by omega) d
        · refine Or.inr ⟨i, j, g1, g2, g3, by omega, g5, fun i' j' a b c d => ?_⟩
          by_cases e : i' * tn v + j' = m
          · obtain ⟨e1, e2⟩ := uniq i' j' b e
            subst e1; subst e2
            exact absurd ⟨a, d⟩ hn
          · exact g6 i' j' a b (by omega) d
      by_cases c1 : m / tn v < m % tn v
      · have q2 : ¬ nI (m % tn v) ≤ nI (m / tn v) := by rw [nI_le_iff (by omega) (by omega)]; omega
        obtain ⟨Z, e1, y, e2⟩ := hM.can hv hi hj (but := 0)
        rw [if_neg q2, i_0, e1, bind_s]
        dsimp only
        have eZ : Z = wr (wr J1 0 24 y) 0 11 r := by rw [e2, wr_comm _ _ _ _ _ (by omega)]
        have hJ2 : s24 J (wr J1 0 24 y) := hJ.tr ⟨y, rfl⟩
        by_cases c2 : canL v (m / tn v) (m % tn v) 0
        · have hv1 : (if m / tn v ≠ m % tn v ∧ canL v (m / tn v) (m % tn v) 0 then (1 : Int32) else 0) = 1 := if_pos ⟨by omega, c2⟩
          rw [hv1, if_neg (show ¬ (1 : Int32) = nI 0 by decide), bind_s, em1, eZ, wr_wr, i_6, nI_mul, nI_sum]
          refine ih f (wr J1 0 24 y) _ (by omega) (by omega) hJ2 (Or.inr ⟨m / tn v, m % tn v, c1, hj, c2, by omega, rfl, fun i' j' a b c d => by omega⟩)
        · have hv0 : (if m / tn v ≠ m % tn v ∧ canL v (m / tn v) (m % tn v) 0 then (1 : Int32) else 0) = 0 := if_neg (fun w => c2 w.2)
          rw [hv0, if_pos (show (0 : Int32) = nI 0 from rfl), bind_s, em1, eZ, wr_id]
          exact ih f (wr J1 0 24 y) r (by omega) (by omega) hJ2 (skip (fun w => c2 w.2))
      · have q2 : nI (m % tn v) ≤ nI (m / tn v) := by rw [nI_le_iff (by omega) (by omega)]; omega
        rw [if_pos q2, bind_s, em1, wr_id]
        exact ih f J1 r (by omega) (by omega) hJ (skip (fun w => c1 w.1))
  exact key (tn v * tn v) bigF J (-9) (Nat.le_refl _) (bigF_gt (by omega)) (s24.rf J) (Or.inl ⟨rfl, fun i j a b c d => by
    have q2 : (i + 1) * tn v ≤ tn v * tn v := Nat.mul_le_mul_right _ (by omega)
    rw [Nat.succ_mul] at q2
    omega⟩)
theorem op_pairs (h : Sim I L P Dr J M) : Bt L P Dr M (X4_pairs P I) (X5_pairs J) := by
  obtain ⟨v, hv, hC, hM⟩ := h.view
  have hp := h.1
  unfold isPD at hp
  obtain ⟨r, r1, r2⟩ := hC.firstP hv
  obtain ⟨r', J1, j1, j2, j3⟩ := hM.pairsL hv (fun I5 => (X5_pairsBut I5 0).bind fun q15 => some (q15.1, q15.2))
  have er : r' = r := isFirst_uniq j2 r2
  subst er
  obtain ⟨J2, p1, p2⟩ := ((hM.sc j1).told r').pairsB hv 0
  unfold X4_pairs X5_pairs
  rw [r1, bind_s, bind_s, show (0 : Int32) = nI 0 from rfl, (hC.told (by omega) r').pairsW hv 0, bind_s, bind_s, wr_off J _ (show 0 ≠ 0 ∨ 4 ≠ 11 by omega), hM.1.2.2, nI_mul]
  rw [show (0 : Int32) = nI 0 from rfl, p1] at j3
  rw [j3, bind_s]
  exact Bt.mk rfl rfl rfl (((h.scr (cAg.rf I) j1.ag).told r').scr (cAg.rf _) p2.ag)
def worG (v : TV) (k : Nat) (z : Nat × Nat) : Nat × Nat := if z.2 ≤ cntP v (2 ^ k) then z else (k, cntP v (2 ^ k))
def worN (v : TV) (m : Nat) : Nat × Nat := foldF (worG v) 1 m (0, cntP v 1)
theorem worN_le {v : TV} (hv : vOk v) : ∀ m, (worN v m).2 ≤ 36 ∧ (worN v m).1 ≤ m
  | 0 => ⟨cntP_le hv 1, Nat.le_refl 0⟩
  | m + 1 => by
    have h := worN_le hv m
    have h2 := cntP_le hv (2 ^ (1 + m))
    have e : worN v (m + 1) = worG v (1 + m) (worN v m) := foldF_succ _ _ _ _
    rw [e]
    unfold worG
    split
    · exact ⟨h.1, by omega⟩
    · exact ⟨h2, by show 1 + m ≤ m + 1; omega⟩
theorem VC.worL {I : xMem} {P : Nat} {v : TV} (hv : vOk v) (h : VC I P v) (h0 : 0 < ts v) (K : Int32 → Int32 → Option (Int32 × xMem)) : X4_worth_L1 P I K bigF (nI 0) (nI (cntP v 1)) (nI 1) = K (nI (worN v (ts v - 1)).1) (nI (worN v (ts v - 1)).2) := by
  have h4 := hv.2.1
  exact loop_F (fun fuel k (z : Nat × Nat) => X4_worth_L1 P I K fuel (nI z.1) (nI z.2) (nI k)) (fun z => K (nI z.1) (nI z.2)) (ts v) (worG v) (fun _ z => z.2 ≤ 36)
    (fun fuel k z hk hI => by
      obtain ⟨b, f⟩ := z
      have hI : f ≤ 36 := hI
      have hc := cntP_le hv (2 ^ k)
      show X4_worth_L1 P I K (fuel + 1) (nI b) (nI f) (nI k) = _ ∧ _
      rw [X4_worth_L1]
      have q1 : ¬ nI (ts v) ≤ nI k := by rw [nI_le_iff (by omega) (by omega)]; omega
      rw [h.1.2.1, if_neg q1, i_1, nI_pow (by omega), h.pairsW hv, bind_s, nI_sum]
      unfold worG
      by_cases c : f ≤ cntP v (2 ^ k)
      · have q2 : nI f ≤ nI (cntP v (2 ^ k)) := by rw [nI_le_iff (by omega) (by omega)]; exact c
        have q3 : (b, f).2 ≤ cntP v (2 ^ k) := c
        rw [if_pos q2, if_pos q3]
        exact ⟨rfl, hI⟩
      · have q2 : ¬ nI f ≤ nI (cntP v (2 ^ k)) := by rw [nI_le_iff (by omega) (by omega)]; exact c
        have q3 : ¬ (b, f).2 ≤ cntP v (2 ^ k) := c
        rw [if_neg q2, if_neg q3]
        exact ⟨rfl, hc⟩)
    (fun fuel z _ => by
      show X4_worth_L1 P I K (fuel + 1) (nI z.1) (nI z.2) (nI (ts v)) = _
      rw [X4_worth_L1]
      rw [h.1.2.1, if_pos (Int32.le_refl _)])
    (ts v - 1) bigF 1 (0, cntP v 1) (by omega) (bigF_gt (by omega)) (cntP_le hv 1)
theorem VM.worL {J : xMem} {v : TV} (hv : vOk v) (h : VM J v) (h0 : 0 < ts v) (K : Int32 → Int32 → xMem → Option (Int32 × xMem)) : ∃ J', s24 J J' ∧ X5_worth_L1 K bigF (-9) 9999 0 J = K (nI (worN v (ts v - 1)).1) (nI (worN v (ts v - 1)).2) J' := by
  have h4 := hv.2.1
  obtain ⟨J1, e1, e2⟩ := h.pairsB hv 1
  have hc1 := cntP_le hv 1
  have q0 : ¬ nI (ts v) ≤ nI 0 := by rw [nI_le_iff (by omega) (by omega)]; omega
  have q9 : ¬ nI 9999 ≤ nI (cntP v 1) := by rw [nI_le_iff (by omega) (by omega)]; omega
  have step1 : X5_worth_L1 K bigF (-9) 9999 0 J = X5_worth_L1 K 1999999 (nI 0) (nI (cntP v 1)) (nI 1) J1 := by
    rw [show bigF = 1999999 + 1 from rfl, X5_worth_L1]
    rw [h.1.2.1, i_0, if_neg q0, show (1 : Int32) <<< (nI 0 &&& 31) = nI 1 from rfl, e1, bind_s, i_9999]
    dsimp only
    rw [if_neg q9, bind_s, if_neg q9, i_1, nI_sum]
  obtain ⟨⟨⟨b, f⟩, J'⟩, ⟨hz, hJ, -⟩, he⟩ := loop_I (fun fuel k (z : (Nat × Nat) × xMem) => X5_worth_L1 K fuel (nI z.1.1) (nI z.1.2) (nI k) z.2) (fun z => K (nI z.1.1) (nI z.1.2) z.2) (ts v) (fun k z => z.1 = worN v (k - 1) ∧ s24 J z.2 ∧ 1 ≤ k)
    (fun fuel k z hk hI => by
      obtain ⟨⟨b, f⟩, Z⟩ := z
      obtain ⟨hz, hZ, hk1⟩ := hI
      have hz : (b, f) = worN v (k - 1) := hz
      have hZ : s24 J Z := hZ
      have hM := h.sc hZ
      have hc := cntP_le hv (2 ^ k)
      have hf : f ≤ 36 := by
        have := (worN_le hv (k - 1)).1
        rw [← hz] at this
        exact this
      have hs : worN v (k + 1 - 1) = worG v k (b, f) := by
        rw [hz, show k + 1 - 1 = (k - 1) + 1 by omega]
        show foldF (worG v) 1 (k - 1 + 1) _ = _
        rw [foldF_succ, show 1 + (k - 1) = k by omega]
        rfl
      obtain ⟨Z', g1, g2⟩ := hM.pairsB hv (2 ^ k)
      show ∃ s', X5_worth_L1 K (fuel + 1) (nI b) (nI f) (nI k) Z = _ ∧ _
      rw [X5_worth_L1]
      have q1 : ¬ nI (ts v) ≤ nI k := by rw [nI_le_iff (by omega) (by omega)]; omega
      rw [hM.1.2.1, if_neg q1, i_1, nI_pow (by omega), g1, bind_s, nI_sum]
      dsimp only
      refine ⟨(worG v k (b, f), Z'), ?_, hs.symm, hZ.tr g2, by omega⟩
      unfold worG
      by_cases c : f ≤ cntP v (2 ^ k)
      · have q2 : nI f ≤ nI (cntP v (2 ^ k)) := by rw [nI_le_iff (by omega) (by omega)]; exact c
        have q3 : (b, f).2 ≤ cntP v (2 ^ k) := c
        rw [if_pos q2, if_pos q3, bind_s, if_pos q2]
      · have q2 : ¬ nI f ≤ nI (cntP v (2 ^ k)) := by rw [nI_le_iff (by omega) (by omega)]; exact c
        have q3 : ¬ (b, f).2 ≤ cntP v (2 ^ k) := c
        rw [if_neg q2, if_neg q3, bind_s, if_neg q2])
    (fun fuel z hI => by
      obtain ⟨⟨b, f⟩, Z⟩ := z
      have hM := h.sc hI.2.1
      show X5_worth_L1 K (fuel + 1) (nI b) (nI f) (nI (ts v)) Z = _
      rw [X5_worth_L1]
      rw [show Z 0 2 = nI (ts v) from hM.1.2.1, if_pos (Int32.le_refl _)])
    (ts v - 1) 1999999 1 ((0, cntP v 1), J1) (by omega) (by omega) ⟨rfl, e2, by omega⟩
  have hz : (b, f) = worN v (ts v - 1) := hz
  rw [← hz]
  exact ⟨J', hJ, step1.trans he⟩
theorem op_worth (h : Sim I L P Dr J M) : Bt L P Dr M (X4_worth P I) (X5_worth J) := by
  obtain ⟨v, hv, hC, hM⟩ := h.view
  have h4 := hv.2.1
  have h6 := hv.1
  unfold X4_worth X5_worth
  rw [hC.1.2.2, hM.1.2.2]
  by_cases c0 : nI (tn v) = 0
  · rw [if_pos c0, if_pos c0]
    exact Bt.mk rfl rfl rfl h
  · rw [if_neg c0, if_neg c0, hC.1.2.1]
    by_cases c1 : ts v = 0
    · rw [if_pos (by rw [c1]; rfl)]
      refine Bt.mk (I' := I) (J' := J) (r' := -9) rfl ?_ rfl h
      rw [show bigF = 1999999 + 1 from rfl, X5_worth_L1]
      rw [hM.1.2.1, if_pos (by rw [c1]; decide), if_pos rfl, bind_s, wr_id]
    · have q1 : ¬ nI (ts v) = 0 := by rw [i_0, nI_eq_iff (by omega) (by omega)]; exact c1
      obtain ⟨J1, a1, a2⟩ := hM.worL hv (by omega) (fun (z1_4 : Int32) (z2_4 : Int32) (I5 : xMem) => if z1_4 = (-9 : Int32) then ((some (wr I5 0 11 (I5 0 11))).bind fun I14 => some (z1_4, I14)) else ((X5_pairsBut I5 (0 : Int32)).bind fun q12 => (some (wr q12.2 0 11 (q12.1 - z2_4))).bind fun I13 => some (z1_4, I13)))
      obtain ⟨J2, b1, b2⟩ := (hM.sc a1).pairsB hv 0
      have hw := worN_le hv (ts v - 1)
      rw [if_neg q1, a2]
      rw [show (1 : Int32) = nI 1 from rfl, show (0 : Int32) = nI 0 from rfl, hC.pairsW hv 1, bind_s, hC.worL hv (by omega), hC.pairsW hv 0, bind_s, bind_s, b1, bind_s, bind_s]
      have q9 : ¬ nI (worN v (ts v - 1)).1 = -9 := by
        intro w
        have w := congrArg Int32.toInt w
        rw [nI_toInt (by omega)] at w
        have : ((-9 : Int32).toInt) = -9 := rfl
        omega
      rw [if_neg q9]
      exact Bt.mk rfl rfl rfl ((h.scr (cAg.rf I) (a1.tr b2).ag).told _)
end OPP
