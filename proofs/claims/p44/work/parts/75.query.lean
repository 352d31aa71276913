/-! QUESTIONS, the class alone -/
section CSQ
variable {I : xMem} {P Dr : Nat} {v : TV} {D : DD}
theorem wr_told (I : xMem) (x : Int32) : wr I 0 10 x 0 10 = x := wr_eq _ _ _ _
theorem cs_sink (h : CS I P Dr v D) {i j a b : Nat} (hi : i < tn v) (hj : j < tn v) (hij : i ≠ j) (ha : a < 2 ^ ts v) (hb : b < 2 ^ ts v) (hab : a &&& b = 0) : X4_sink P I (nI i) (nI j) (nI a) (nI b) = some (nI (skN (now v D) i j a b)) := by
  have hv := h.vok
  have hC := h.vc
  have h16 := p2s hv
  have e1 : tn (now v D) = tn v := rfl
  have e2 : ts (now v D) = ts v := rfl
  rw [e2] at h16
  have h6 := h.n2
  unfold X4_sink
  rw [h.np hi hj hij, if00, h.ns ha hb hab, if00, hC.steps4 hv hi hj ha hb, bind_s]
/-- the best stones of two, as best() tells them -/
def bestN (w : TV) (i j : Nat) : Nat := lstV w i j (stW w i)
theorem cs_best (h : CS I P Dr v D) {i j : Nat} (hi : i < tn v) (hj : j < tn v) (hij : i ≠ j) : X4_best P I (nI i) (nI j) = if same (now v D) i j then some (nI (bestN (now v D) i j / 256), wr I 0 10 (nI (bestN (now v D) i j % 256))) else some (-4, I) := by
  have hv := h.vok
  have hC := h.vc
  have e1 : tn (now v D) = tn v := rfl
  have h6 := h.n2
  unfold X4_best bestN
  rw [h.np hi hj hij, if00, hC.apart hv hi hj, bind_s]
  by_cases c3 : same (now v D) i j
  · have hst := stW_lt hv i
    have hl := lstV_lt hv i j (stW (now v D) i)
    rw [if_pos c3, if_pos c3, if_pos (show nI 0 = 0 from rfl), hC.stonesWith hv hi, bind_s, hC.least4 hv hi hj hst, bind_s, bind_s]
    rw [i_256, nI_rem (by omega) (by omega) (by omega), nI_div (by omega) (by omega) (by omega)]
  · rw [if_neg c3, if_neg c3, if_neg (show ¬ nI 1 = 0 by decide)]
/-- by how much it sinks under two without stones, with so many loaves -/
def skE (w : TV) (i j e : Nat) : Nat := sunkN (cntOf (tk w i) (tw w i) e) (cntOf (tk w j) (tw w j) e) (twins w i j)
theorem skE_now (w : TV) (i j : Nat) : skE w i j (te w) = skN w i j 0 0 := by
  unfold skE skN cnt
  rw [setW_0, Nat.add_zero, Nat.add_zero]
theorem cs_loaves (h : CS I P Dr v D) {i j : Nat} (hi : i < tn v) (hj : j < tn v) (hij : i ≠ j) : (¬ same (now v D) i j ∧ X4_loaves P I (nI i) (nI j) = some (-4)) ∨ (same (now v D) i j ∧ ((X4_loaves P I (nI i) (nI j) = some (-9) ∧ ∀ k, te (now v D) + k ≤ 9 → ¬ skE (now v D) i j (te (now v D) + k) ≤ tl v) ∨ ∃ k, te (now v D) + k ≤ 9 ∧ skE (now v D) i j (te (now v D) + k) ≤ tl v ∧ (∀ k', k' < k → ¬ skE (now v D) i j (te (now v D) + k') ≤ tl v) ∧ X4_loaves P I (nI i) (nI j) = some (nI k))) := by
  have hv := h.vok
  have hC := h.vc
  have he := hv.2.2.2.2.2.2.1
  have hl := hv.2.2.1
  have e1 : tn (now v D) = tn v := rfl
  have e3 : tl (now v D) = tl v := rfl
  have h6 := h.n2
  unfold X4_loaves
  rw [h.np hi hj hij, if00, hC.apart hv hi hj, bind_s]
  by_cases c3 : same (now v D) i j
  · right
    refine ⟨c3, ?_⟩
    rw [if_pos c3, if_pos (show nI 0 = 0 from rfl)]
    generalize hw : now v D = w at *
    have key : ∀ (m fuel k : Nat), k + m = 10 - te w → m < fuel → (∀ k', k' < k → ¬ skE w i j (te w + k') ≤ tl v) → (X4_loaves_L1 P I (nI i) (nI j) (some (-9)) fuel (nI k) = some (-9) ∧ ∀ k, te w + k ≤ 9 → ¬ skE w i j (te w + k) ≤ tl v) ∨ ∃ q, te w + q ≤ 9 ∧ skE w i j (te w + q) ≤ tl v ∧ (∀ k', k' < q → ¬ skE w i j (te w + k') ≤ tl v) ∧ X4_loaves_L1 P I (nI i) (nI j) (some (-9)) fuel (nI k) = some (nI q) := by
      intro m
      induction m with
      | zero =>
        intro fuel k hk hf hn
        obtain ⟨f, rfl⟩ : ∃ f, fuel = f + 1 := ⟨fuel - 1, by omega⟩
        left
        rw [X4_loaves_L1]
        rw [hC.eaten, bind_s, i_9, pk_sub (by omega), if_pos (by rw [nI_lt_iff (by omega) (by omega)]; omega)]
        exact ⟨rfl, fun k' hk' => hn k' (by omega)⟩
      | succ m ih =>
        intro fuel k hk hf hn
        obtain ⟨f, rfl⟩ : ∃ f, fuel = f + 1 := ⟨fuel - 1, by omega⟩
        have s1 := hC.stepsE hv (i := i) (j := j) (by omega) (by omega) (show te w + k ≤ 9 by omega)
        have ca := cntOf_le (k := tk w i) (hv.2.2.2.2.1 i) (show te w + k ≤ 9 by omega)
        have cb := cntOf_le (k := tk w j) (hv.2.2.2.2.1 j) (show te w + k ≤ 9 by omega)
        have hs : skE w i j (te w + k) ≤ 113 := sunkN_le ca cb
        rw [X4_loaves_L1]
        have q1 : ¬ nI (9 - te w) < nI k := by rw [nI_lt_iff (by omega) (by omega)]; omega
        rw [hC.eaten, bind_s, i_9, pk_sub (by omega), if_neg q1, bind_s, nI_sum, i_0, s1, bind_s, hC.1.1]
        show (if nI (tl w) < nI (skE w i j (te w + k)) then X4_loaves_L1 P I (nI i) (nI j) (some (-9)) f (nI k + 1) else some (nI k)) = _ ∧ _ ∨ ∃ q, _ ∧ _ ∧ _ ∧ (if nI (tl w) < nI (skE w i j (te w + k)) then X4_loaves_L1 P I (nI i) (nI j) (some (-9)) f (nI k + 1) else some (nI k)) = _
        by_cases q : skE w i j (te w + k) ≤ tl v
        · right
          refine ⟨k, by omega, q, hn, ?_⟩
          rw [if_neg (by rw [nI_lt_iff (by omega) (by omega)]; omega)]
        · rw [if_pos (by rw [nI_lt_iff (by omega) (by omega)]; omega), i_1, nI_sum]
          refine ih f (k + 1) (by omega) (by omega) (fun k' hk' => ?_)
          rcases Nat.lt_or_ge k' k with z | z
          · exact hn k' z
          · rw [show k' = k by omega]
            exact q
    exact key (10 - te w) bigF 0 (by omega) (bigF_gt (by omega)) (fun k' h => absurd h (by omega))
  · left
    refine ⟨c3, ?_⟩
    rw [if_neg c3, if_neg (show ¬ nI 1 = 0 by decide)]
theorem cs_waits (h : CS I P Dr v D) {i : Nat} (hi : i < tn v) : (X4_waits P I (nI i) = some (-9) ∧ ∀ p, 1 ≤ p → p ≤ 99 → ¬ lst (now v D) (cnt (now v D) i) p False (stW (now v D) i) / 256 ≤ tl v) ∨ ∃ p, 1 ≤ p ∧ p ≤ 99 ∧ lst (now v D) (cnt (now v D) i) p False (stW (now v D) i) / 256 ≤ tl v ∧ (∀ p', 1 ≤ p' → p' < p → ¬ lst (now v D) (cnt (now v D) i) p' False (stW (now v D) i) / 256 ≤ tl v) ∧ X4_waits P I (nI i) = some (nI p) := by
  have hv := h.vok
  have hC := h.vc
  have hl := hv.2.2.1
  have e1 : tn (now v D) = tn v := rfl
  have e3 : tl (now v D) = tl v := rfl
  have h6 := h.n2
  generalize hw : now v D = w at *
  have hst := stW_lt hv i
  have hc := cnt_le hv i
  unfold X4_waits
  rw [h.nb hi, if00, hC.counts hv (by omega), bind_s, hC.stonesWith hv (by omega), bind_s]
  have key : ∀ (m fuel p : Nat), p + m = 100 → 1 ≤ p → m < fuel → (∀ p', 1 ≤ p' → p' < p → ¬ lst w (cnt w i) p' False (stW w i) / 256 ≤ tl v) → (X4_waits_L1 P I (nI (cnt w i)) (nI (stW w i)) (some (-9)) fuel (nI p) = some (-9) ∧ ∀ p, 1 ≤ p → p ≤ 99 → ¬ lst w (cnt w i) p False (stW w i) / 256 ≤ tl v) ∨ ∃ q, 1 ≤ q ∧ q ≤ 99 ∧ lst w (cnt w i) q False (stW w i) / 256 ≤ tl v ∧ (∀ p', 1 ≤ p' → p' < q → ¬ lst w (cnt w i) p' False (stW w i) / 256 ≤ tl v) ∧ X4_waits_L1 P I (nI (cnt w i)) (nI (stW w i)) (some (-9)) fuel (nI p) = some (nI q) := by
    intro m
    induction m with
    | zero =>
      intro fuel p hp h1 hf hn
      obtain ⟨f, rfl⟩ : ∃ f, fuel = f + 1 := ⟨fuel - 1, by omega⟩
      left
      rw [X4_waits_L1]
      rw [i_99, if_pos (by rw [nI_lt_iff (by omega) (by omega)]; omega)]
      exact ⟨rfl, fun p' q1 q2 => hn p' q1 (by omega)⟩
    | succ m ih =>
      intro fuel p hp h1 hf hn
      obtain ⟨f, rfl⟩ : ∃ f, fuel = f + 1 := ⟨fuel - 1, by omega⟩
      have hlt := lst_lt hv (show cnt w i ≤ 200 by omega) (show p ≤ 200 by omega) False (stW w i)
      have hle := hC.least hv (show cnt w i ≤ 200 by omega) (show p ≤ 200 by omega) False hst
      rw [if_neg (fun q => q)] at hle
      rw [X4_waits_L1]
      rw [i_99, if_neg (by rw [nI_lt_iff (by omega) (by omega)]; omega), show (0 : Int32) = nI 0 from rfl, hle, bind_s, hC.1.1, i_256, nI_div (by omega) (by omega) (by omega), i_1, nI_sum]
      by_cases q : lst w (cnt w i) p False (stW w i) / 256 ≤ tl v
      · right
        refine ⟨p, h1, by omega, q, hn, ?_⟩
        rw [if_neg (by rw [nI_lt_iff (by omega) (by omega)]; omega)]
      · rw [if_pos (by rw [nI_lt_iff (by omega) (by omega)]; omega)]
        refine ih f (p + 1) (by omega) (by omega) (by omega) (fun p' q1 q2 => ?_)
        rcases Nat.lt_or_ge p' p with z | z
        · exact hn p' q1 z
        · rw [show p' = p by omega]
          exact q
  exact key 99 bigF 1 (by omega) (by omega) (bigF_gt (by omega)) (fun p' q1 q2 => absurd q2 (by omega))
theorem cs_told (h : CS I P Dr v D) {i k : Nat} (hi : i < tn v) (hk : k ≤ 4) : L_told P I (nI i) (nI k) = some (nI (aboutN (now v D) i k), wr I 0 10 (nI (aboutN (now v D) i k))) := by
  have hv := h.vok
  have hC := h.vc
  have e1 : tn (now v D) = tn v := rfl
  have h6 := h.n2
  unfold L_told X4_one
  rw [h.nb hi, if00, out4, if_pos ((ix_nI (by omega)).mpr (by omega)), hC.about hv hi hk, bind_s, bind_s, bind_s]
  dsimp only
  rw [if_pos rfl]
  show some (X4_asked (wr I 0 10 (nI (aboutN (now v D) i k))), _) = _
  rw [X4_asked, wr_told]
theorem cs_pairs (h : CS I P Dr v D) : ∃ r, isFirst (now v D) r ∧ X4_pairs P I = some (nI (cntP (now v D) 0), wr I 0 10 r) := by
  have hv := h.vok
  have hC := h.vc
  have hp := h.pd
  obtain ⟨r, r1, r2⟩ := hC.firstP hv
  refine ⟨r, r2, ?_⟩
  unfold X4_pairs
  rw [r1, bind_s, bind_s, show (0 : Int32) = nI 0 from rfl, (hC.told (by omega) r).pairsW hv 0, bind_s]
theorem cs_match (h : CS I P Dr v D) : ∃ s I', s < 64 ∧ s < 2 ^ tn v ∧ isMost (fun g => AO (now v D) g (allS (now v D))) (2 ^ tn v) s ∧ qAg I I' ∧ I' 0 10 = nI s ∧ X4_match P I = some (nI (pc s / 2), I') := by
  have hv := h.vok
  have hC := h.vc
  have hP := h.pd
  have h6 := h.n2
  have e1 : tn (now v D) = tn v := rfl
  obtain ⟨I1, e1, e2, e3⟩ := hC.ways hP hv
  have hC1 := hC.wA2 hP e2
  obtain ⟨s, I2, b1, b2, b3, b4, b5⟩ := paired_eq hv e3
  refine ⟨s, wr I2 0 10 (nI s), b1, b2, b3, ((qAg.c e2.c).tr (qAg.c b4.c)).tr (qAg.told _ _), wr_told _ _, ?_⟩
  unfold X4_match
  rw [hC.1.2.2, if_neg (by rw [i_0, nI_eq_iff (by omega) (by omega)]; omega), e1, bind_s, hC1.top, bind_s, hC1.stonesUp, bind_s, hC1.allStones hv, b5, bind_s]
  dsimp only
  rw [bind_s, wr_eq, bc_pc s b1, i_2, nI_div (by have := pc_le s; omega) (by omega) (by omega)]
theorem cs_worth (h : CS I P Dr v D) : (ts v = 0 ∧ X4_worth P I = some (-9, I)) ∨ (0 < ts v ∧ X4_worth P I = some (nI (worN (now v D) (ts v - 1)).1, wr I 0 10 (nI (cntP (now v D) 0) - nI (worN (now v D) (ts v - 1)).2))) := by
  have hv := h.vok
  have hC := h.vc
  have h6 := h.n2
  have h4 := hv.2.1
  have e1 : tn (now v D) = tn v := rfl
  have e2 : ts (now v D) = ts v := rfl
  unfold X4_worth
  rw [hC.1.2.2, if_neg (by rw [i_0, nI_eq_iff (by omega) (by omega)]; omega), hC.1.2.1]
  by_cases c1 : ts v = 0
  · left
    refine ⟨c1, ?_⟩
    rw [e2, if_pos (by rw [c1]; rfl)]
  · right
    refine ⟨by omega, ?_⟩
    rw [if_neg (by rw [i_0, nI_eq_iff (by omega) (by omega)]; exact c1), show (1 : Int32) = nI 1 from rfl, show (0 : Int32) = nI 0 from rfl, hC.pairsW hv 1, bind_s, hC.worL hv (by omega), hC.pairsW hv 0, bind_s, bind_s]
    rfl
end CSQ
