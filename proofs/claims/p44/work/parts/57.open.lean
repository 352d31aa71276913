/-! WITH WHICH SETS TWO CAN GO, of whatever stones: 16 times the one's, the other's -/
abbrev okO (v : TV) (i j q : Nat) : Prop := (q / 16) &&& (q % 16) = 0 ∧ q / 16 < 2 ^ ts v ∧ q % 16 < 2 ^ ts v ∧ skN v i j (q / 16) (q % 16) ≤ tl v
def opS (v : TV) (i j c : Nat) : Prop := ∃ q, q < 256 ∧ okO v i j q ∧ q / 16 ||| q % 16 = c
/-- the bits of f q of all good q below N -/
def accB (ok : Nat → Prop) (f : Nat → Nat) (N s : Nat) : Prop := s < 65536 ∧ ∀ c, s.testBit c = true ↔ ∃ q, q < N ∧ ok q ∧ f q = c
theorem accB_0 (ok : Nat → Prop) (f : Nat → Nat) : accB ok f 0 0 := ⟨by omega, fun c => by
  simp⟩
theorem accB_no {ok : Nat → Prop} {f : Nat → Nat} {N M s : Nat} (h : accB ok f N s) (hNM : N ≤ M) (hn : ∀ c, N ≤ c → c < M → ¬ ok c) : accB ok f M s := by
  refine ⟨h.1, fun c => (h.2 c).trans ⟨?_, ?_⟩⟩
  · rintro ⟨q, q1, q2, q3⟩
    exact ⟨q, by omega, q2, q3⟩
  · rintro ⟨q, q1, q2, q3⟩
    rcases Nat.lt_or_ge q N with w | w
    · exact ⟨q, w, q2, q3⟩
    · exact absurd q2 (hn q w q1)
theorem accB_yes {ok : Nat → Prop} {f : Nat → Nat} {N s : Nat} (h : accB ok f N s) (hk : ok N) (hf : f N < 16) : accB ok f (N + 1) (s ||| 2 ^ f N) := by
  have h2 : 2 ^ f N < 2 ^ 16 := Nat.pow_lt_pow_right (by decide) hf
  refine ⟨Nat.or_lt_two_pow (n := 16) h.1 h2, fun c => ?_⟩
  rw [Nat.testBit_or, Nat.testBit_two_pow, Bool.or_eq_true, h.2 c, decide_eq_true_eq]
  constructor
  · rintro (⟨q, q1, q2, q3⟩ | q)
    · exact ⟨q, by omega, q2, q3⟩
    · exact ⟨N, by omega, hk, q⟩
  · rintro ⟨q, q1, q2, q3⟩
    rcases Nat.lt_or_ge q N with w | w
    · exact Or.inl ⟨q, w, q2, q3⟩
    · have : q = N := by omega
      subst this
      exact Or.inr q3
theorem accB_uniq {ok : Nat → Prop} {f : Nat → Nat} {N s s' : Nat} (h : accB ok f N s) (h' : accB ok f N s') : s = s' := by
  apply Nat.eq_of_testBit_eq
  intro i
  rw [Bool.eq_iff_iff, h.2 i, h'.2 i]
abbrev fO (q : Nat) : Nat := q / 16 ||| q % 16
theorem fO_lt {q : Nat} (h : q < 256) : fO q < 16 := Nat.or_lt_two_pow (n := 4) (by omega) (by omega)
def opN (v : TV) (i j : Nat) : Nat := foldF (fun q s => if okO v i j q then s ||| 2 ^ fO q else s) 0 256 0
theorem opN_is (v : TV) (i j : Nat) : accB (okO v i j) fO 256 (opN v i j) := by
  have h := foldF_inv (fun q s => if okO v i j q then s ||| 2 ^ fO q else s) (fun c s => c ≤ 256 → accB (okO v i j) fO c s) 256 0 0 (fun _ => accB_0 _ _) (fun q s h1 h2 h3 h4 => by
    have h3 := h3 (by omega)
    by_cases hk : okO v i j q
    · rw [if_pos hk]
      exact accB_yes h3 hk (fO_lt (by omega))
    · rw [if_neg hk]
      exact accB_no h3 (by omega) (fun c a b => by
        have : c = q := by omega
        subst this
        exact hk))
  exact h (by decide)
theorem opN_bit (v : TV) (i j c : Nat) : (opN v i j).testBit c = true ↔ opS v i j c := (opN_is v i j).2 c
theorem opN_lt (v : TV) (i j : Nat) : opN v i j < 65536 := (opN_is v i j).1
theorem opS_lt {v : TV} {i j c : Nat} (h : opS v i j c) : c < 2 ^ ts v := by
  obtain ⟨q, q1, ⟨q2, q3, q4, q5⟩, q6⟩ := h
  rw [← q6]
  exact Nat.or_lt_two_pow q3 q4
section OPV
variable {I J : xMem} {P : Nat} {v : TV}
theorem VC.opens (hv : vOk v) (h : VC I P v) {i j : Nat} : X1_openSets P I (nI (cnt v i) - nI (cnt v j)) (if twins v i j then nI 1 else nI 0) = some (nI (opN v i j)) := by
  have h2 := hv.2.1
  have h3 := p2s hv
  have h4 : 0 < 2 ^ ts v := Nat.pos_of_ne_zero (by simp)
  have hall := h.allStones hv
  have e4 : allS v = 2 ^ ts v - 1 := rfl
  have wl := setW_le hv
  have hl := hv.2.2.1
  have ca := cnt_le hv i
  have cb := cnt_le hv j
  have inner : ∀ (K : Int32 → Option Int32) (a : Nat), a < 2 ^ ts v → ∀ s, accB (okO v i j) fO (16 * a) s → ∃ s', accB (okO v i j) fO (16 * (a + 1)) s' ∧ X1_openSets_L2 P I (nI (cnt v i) - nI (cnt v j)) (if twins v i j then nI 1 else nI 0) (nI a) K bigF (nI s) (nI 0) = K (nI s') := by
    intro K a ha2 s hI
    have wa := wl a
    refine loop_T (fun fuel k (s : Nat) => X1_openSets_L2 P I (nI (cnt v i) - nI (cnt v j)) (if twins v i j then nI 1 else nI 0) (nI a) K fuel (nI s) (nI k)) (fun o => ∃ s', accB (okO v i j) fO (16 * (a + 1)) s' ∧ o = K (nI s')) (2 ^ ts v) (fun k s => accB (okO v i j) fO (16 * a + k) s)
      (fun fuel k s hk hI => ?_) (fun fuel s hI => ?_) (2 ^ ts v) bigF 0 s (by omega) (bigF_gt (by omega)) hI
    · show (∃ s', _ ∧ X1_openSets_L2 P I (nI (cnt v i) - nI (cnt v j)) _ (nI a) K (fuel + 1) (nI s) (nI k) = K (nI s')) ∨ ∃ s', X1_openSets_L2 P I (nI (cnt v i) - nI (cnt v j)) _ (nI a) K (fuel + 1) (nI s) (nI k) = _ ∧ _
      right
      rw [X1_openSets_L2]
      have wk := wl k
      have e1 : (16 * a + k) / 16 = a := by omega
      have e2 : (16 * a + k) % 16 = k := by omega
      rw [hall, if_neg (by rw [nI_lt_iff (by omega) (by omega)]; omega), rdI_nI (by omega) (by omega), bind_s, rdI_nI (by omega) (by omega), bind_s, h.2.2.2.1 a ha2, h.2.2.2.1 k hk, sub4, sunk_nI (by omega) (by omega), nI_and]
      have hand : a &&& k < 2 ^ 31 := Nat.lt_of_le_of_lt Nat.and_le_left (by omega)
      have hsk : skN v i j a k ≤ 149 := skN_le hv i j a k
      by_cases c1 : a &&& k = 0
      · rw [if_pos (by rw [c1]; rfl), h.1.1, show sunkN (cnt v i + setW v a) (cnt v j + setW v k) (twins v i j) = skN v i j a k from rfl]
        by_cases c2 : skN v i j a k ≤ tl v
        · rw [if_neg (by rw [nI_lt_iff (by omega) (by omega)]; omega), nI_or, i_1]
          have hor : a ||| k < 2 ^ 4 := Nat.or_lt_two_pow (by omega) (by omega)
          rw [nI_pow (by omega), nI_or, nI_sum]
          refine ⟨_, rfl, ?_⟩
          have := accB_yes hI (show okO v i j (16 * a + k) by rw [okO, e1, e2]; exact ⟨c1, ha2, hk, c2⟩) (fO_lt (by omega))
          rw [show fO (16 * a + k) = a ||| k by unfold fO; rw [e1, e2]] at this
          exact this
        · rw [if_pos (by rw [nI_lt_iff (by omega) (by omega)]; omega), i_1, nI_sum]
          refine ⟨_, rfl, accB_no hI (by omega) (fun c q1 q2 => ?_)⟩
          have : c = 16 * a + k := by omega
          subst this
          rw [okO]
          rw [e1, e2]
          exact fun w => c2 w.2.2.2
      · rw [if_neg (by rw [i_0, nI_eq_iff hand (by omega)]; exact c1), i_1, nI_sum]
        refine ⟨_, rfl, accB_no hI (by omega) (fun c q1 q2 => ?_)⟩
        have : c = 16 * a + k := by omega
        subst this
        rw [okO]
        rw [e1, e2]
        exact fun w => c1 w.1
    · show ∃ s', _ ∧ X1_openSets_L2 P I (nI (cnt v i) - nI (cnt v j)) _ (nI a) K (fuel + 1) (nI s) (nI (2 ^ ts v)) = K (nI s')
      rw [X1_openSets_L2]
      rw [hall, if_pos (by rw [nI_lt_iff (by omega) (by omega)]; omega)]
      refine ⟨s, accB_no hI (by omega) (fun c q1 q2 w => ?_), rfl⟩
      have := w.2.2.1
      omega
  unfold X1_openSets
  obtain ⟨s', hI, he⟩ := loop_I (fun fuel k (s : Nat) => X1_openSets_L1 P I (nI (cnt v i) - nI (cnt v j)) (if twins v i j then nI 1 else nI 0) (fun z => some z) fuel (nI s) (nI k)) (fun s => some (nI s)) (2 ^ ts v) (fun k s => accB (okO v i j) fO (16 * k) s)
    (fun fuel k s hk hI => by
      obtain ⟨s', g1, g2⟩ := inner (fun z => X1_openSets_L1 P I (nI (cnt v i) - nI (cnt v j)) (if twins v i j then nI 1 else nI 0) (fun z => some z) fuel z (nI k + 1)) k hk s hI
      refine ⟨s', ?_, g1⟩
      show X1_openSets_L1 P I (nI (cnt v i) - nI (cnt v j)) _ _ (fuel + 1) (nI s) (nI k) = _
      rw [X1_openSets_L1]
      rw [hall, if_neg (by rw [nI_lt_iff (by omega) (by omega)]; omega)]
      refine g2.trans ?_
      rw [show nI k + 1 = nI (k + 1) from nI_1 k])
    (fun fuel s hI => by
      show X1_openSets_L1 P I (nI (cnt v i) - nI (cnt v j)) _ _ (fuel + 1) (nI s) (nI (2 ^ ts v)) = _
      rw [X1_openSets_L1]
      rw [hall, if_pos (by rw [nI_lt_iff (by omega) (by omega)]; omega)])
    (2 ^ ts v) bigF 0 0 (by omega) (bigF_gt (by omega)) (accB_0 _ _)
  have hI' : accB (okO v i j) fO 256 s' := accB_no hI (by omega) (fun c q1 q2 w => by
    have := w.2.1
    omega)
  rw [accB_uniq (opN_is v i j) hI']
  exact he
/-- the class has laid them -/
def wCl (v : TV) (I : xMem) : Prop := I 39 0 = nI (tn v) ∧ ∀ i j, i < j → j < tn v → I 40 (6 * i + j) = nI (opN v i j)
/-- cells that findWays leaves alone -/
def wAg (I I' : xMem) : Prop := ∀ k j, (k ≠ 39 ∨ j ≠ 0) → k ≠ 40 → I' k j = I k j
theorem wAg.c {I I' : xMem} (h : wAg I I') : cAg I I' := fun k j q => h k j (by unfold cX at q; omega) (by unfold cX at q; omega)
theorem VC.wA2 {I' : xMem} (hP : P = 52 ∨ P = 57) (h : VC I P v) (g : wAg I I') : VC I' P v := h.cAg hP g.c
theorem VC.ways (hP : P = 52 ∨ P = 57) (hv : vOk v) (h : VC I P v) : ∃ I', X4_findWays P I = some I' ∧ wAg I I' ∧ wCl v I' := by
  have h6 := hv.1
  have inner : ∀ (K : xMem → Option xMem) (i : Nat) (A : xMem), i < tn v → wAg I A → A 39 0 = nI (tn v) → (∀ a b, a < i → a < b → b < tn v → A 40 (6 * a + b) = nI (opN v a b)) → ∃ B, (wAg I B ∧ B 39 0 = nI (tn v) ∧ ∀ a b, a < i + 1 → a < b → b < tn v → B 40 (6 * a + b) = nI (opN v a b)) ∧ X4_findWays_L2 P (nI i) K bigF (nI (i + 1)) A = K B := by
    intro K i A hi hA h39 hA40
    obtain ⟨B, hB, he⟩ := loop_I (fun fuel k (A : xMem) => X4_findWays_L2 P (nI i) K fuel (nI k) A) K (tn v) (fun k A => i + 1 ≤ k ∧ wAg I A ∧ A 39 0 = nI (tn v) ∧ (∀ a b, a < i → a < b → b < tn v → A 40 (6 * a + b) = nI (opN v a b)) ∧ ∀ b, i < b → b < k → A 40 (6 * i + b) = nI (opN v i b))
      (fun fuel k A hk hI => by
        obtain ⟨g0, g1, g2, g3, g4⟩ := hI
        have hC := h.wA2 hP g1
        refine ⟨wr A 40 (6 * i + k) (nI (opN v i k)), ?_, by omega, fun x y q1 q2 => ?_, ?_, fun a b q1 q2 q3 => ?_, fun b q1 q2 => ?_⟩
        · show X4_findWays_L2 P (nI i) K (fuel + 1) (nI k) A = _
          rw [X4_findWays_L2]
          rw [hC.1.2.2, if_neg (by rw [nI_le_iff (by omega) (by omega)]; omega), hC.counts hv hi, bind_s, hC.counts hv hk, bind_s, hC.tws hv hi hk, bind_s, hC.opens hv, bind_s, i_6, nI_mul, nI_sum, wrI_nI (by omega) (by omega), bind_s, i_1, nI_sum]
        · rw [wr_off _ _ (by omega)]; exact g1 x y q1 q2
        · rw [wr_off _ _ (by omega)]; exact g2
        · rw [wr_off _ _ (by omega)]; exact g3 a b q1 q2 q3
        · by_cases e : b = k
          · subst e
            exact wr_eq _ _ _ _
          · rw [wr_off _ _ (by omega)]; exact g4 b q1 (by omega))
      (fun fuel A hI => by
        obtain ⟨g0, g1, g2, g3, g4⟩ := hI
        have hC := h.wA2 hP g1
        show X4_findWays_L2 P (nI i) K (fuel + 1) (nI (tn v)) A = _
        rw [X4_findWays_L2]
        rw [hC.1.2.2, if_pos (Int32.le_refl _)])
      (tn v - (i + 1)) bigF (i + 1) A (by omega) (bigF_gt (by omega)) ⟨by omega, hA, h39, hA40, fun b q1 q2 => absurd q2 (by omega)⟩
    obtain ⟨g0, g1, g2, g3, g4⟩ := hB
    refine ⟨B, ⟨g1, g2, fun a b q1 q2 q3 => ?_⟩, he⟩
    by_cases e : a = i
    · subst e
      exact g4 b q2 q3
    · exact g3 a b (by omega) q2 q3
  unfold X4_findWays
  rw [bind_s, h.1.2.2]
  obtain ⟨B, hB, he⟩ := loop_I (fun fuel k (A : xMem) => X4_findWays_L1 P (fun I5 => some I5) fuel (nI k) A) (fun A => some A) (tn v) (fun k A => wAg I A ∧ A 39 0 = nI (tn v) ∧ ∀ a b, a < k → a < b → b < tn v → A 40 (6 * a + b) = nI (opN v a b))
    (fun fuel k A hk hI => by
      obtain ⟨g1, g2, g3⟩ := hI
      have hC := h.wA2 hP g1
      obtain ⟨B, hB, he⟩ := inner (fun I10 => X4_findWays_L1 P (fun I5 => some I5) fuel (nI k + 1) I10) k A hk g1 g2 g3
      refine ⟨B, ?_, hB⟩
      show X4_findWays_L1 P _ (fuel + 1) (nI k) A = _
      rw [X4_findWays_L1]
      rw [hC.1.2.2, if_neg (by rw [nI_le_iff (by omega) (by omega)]; omega)]
      rw [show nI k + 1 = nI (k + 1) from nI_1 k] at he ⊢
      exact he)
    (fun fuel A hI => by
      have hC := h.wA2 hP hI.1
      show X4_findWays_L1 P _ (fuel + 1) (nI (tn v)) A = _
      rw [X4_findWays_L1]
      rw [hC.1.2.2, if_pos (Int32.le_refl _)])
    (tn v) bigF 0 (wr I 39 0 (nI (tn v))) (by omega) (bigF_gt (by omega)) ⟨fun k j q1 q2 => wr_off _ _ q1, wr_eq _ _ _ _, fun a b q => absurd q (by omega)⟩
  exact ⟨B, he, hB.1, hB.2.1, fun i j a b => hB.2.2 i j (by omega) a b⟩
/-- what the model lays -/
def ldN (v : TV) (p : Nat) : Nat := if p / 6 < p % 6 ∧ p % 6 < tn v then opN v (p / 6) (p % 6) else 0
theorem ldN_lt (v : TV) (p : Nat) : ldN v p < 65536 := by
  unfold ldN
  split
  · exact opN_lt _ _ _
  · omega
def lAg (J J' : xMem) : Prop := ∀ k j, k ≠ 15 → J' k j = J k j
end OPV
