/-! FEWEST GOES: both -/
section FB4
variable {I : xMem} {P : Nat} {v : TV}
theorem spread3_eq (hv : vOk v) (hw : wCl v I) : ∃ B, X3_spread I (nI (tt v)) (nI (tu v)) (nI (allS v)) = some B ∧ fAg I B ∧ RC B (fin v (s1 (16 * tt v + tu v))) := by
  have htt := tt_lt hv
  have htu := tu_lt hv
  have hnow := now_lt hv
  have hBA := s1_BA v hnow
  have epl : pl (16 * tt v + tu v) = tt v + 64 * tu v := by
    unfold pl
    rw [show (16 * tt v + tu v) / 16 = tt v by omega, show (16 * tt v + tu v) % 16 = tu v by omega]
  have hpl := pl_lt hnow
  generalize 16 * tt v + tu v = x0 at *
  unfold X3_spread
  obtain ⟨F, f1, f2, f3⟩ := fillW I 41 (n := 1024) (by omega) (-9)
  rw [f1, bind_s, i_64, nI_mul, nI_sum, ← epl, wrI_nI hpl (by omega), bind_s, wrI_nI hpl (by omega), bind_s, i_0, wrI_nI (by omega) (by omega), bind_s, bind_s]
  have r0 : RC (wr (wr (wr (wr F 41 (pl x0) (nI 0)) 42 (pl x0) (-9)) 43 0 (nI (pl x0))) 39 5 1) (s1 x0) := by
    refine ⟨fun y hy => ?_, fun y hy hd => ?_, fun k hk => ?_, wr_eq _ _ _ _⟩
    · rw [wr_off _ _ (by omega), wr_off _ _ (by omega), wr_off _ _ (by omega), wr_at]
      by_cases e : y = x0
      · have hz : bd (s1 x0) y = 0 := if_pos e
        rw [if_pos ⟨rfl, by rw [e]⟩, hz, if_neg (by decide)]
      · have hz : bd (s1 x0) y = 9999 := if_neg e
        rw [if_neg (fun w => e (pl_inj hy hnow w.2)), hz, if_pos rfl]
        exact f3 _ (pl_lt hy)
    · have e : y = x0 := by
        by_cases e : y = x0
        · exact e
        · exact absurd (if_neg e : bd (s1 x0) y = 9999) hd
      have hz : bd (s1 x0) y = 0 := if_pos e
      rw [hz, if_pos rfl, wr_off _ _ (by omega), wr_off _ _ (by omega), e, wr_eq]
    · have hk : k < 1 := hk
      have e : k = 0 := by omega
      subst e
      rw [wr_off _ _ (by omega), wr_eq]
      rfl
  have a0 : fAg I (wr (wr (wr (wr F 41 (pl x0) (nI 0)) 42 (pl x0) (-9)) 43 0 (nI (pl x0))) 39 5 1) := fun a b q1 q2 q3 q4 => by
    rw [wr_off _ _ (by omega), wr_off _ _ (by omega), wr_off _ _ (by omega), wr_off _ _ (by omega)]
    exact f2 a b q1
  have run : ∃ B, fAg I B ∧ RC B (fin v (s1 x0)) ∧ X3_spread_L1 (nI (allS v)) (fun (I9 : xMem) => some I9) bigF (nI 0) (wr (wr (wr (wr F 41 (pl x0) (nI 0)) 42 (pl x0) (-9)) 43 0 (nI (pl x0))) 39 5 1) = some B := by
    refine loop_T (fun fuel k (A : xMem) => X3_spread_L1 (nI (allS v)) (fun (I9 : xMem) => some I9) fuel (nI k) A) (fun o => ∃ B, fAg I B ∧ RC B (fin v (s1 x0)) ∧ o = some B) 1024 (fun k A => k ≤ be (st v (s1 x0) k) ∧ RC A (st v (s1 x0) k) ∧ fAg I A)
      (fun fuel k A hk hI => ?_) (fun fuel A hI => ?_) 1024 bigF 0 _ (by omega) (bigF_gt (by omega)) ⟨Nat.zero_le _, r0, a0⟩
    · obtain ⟨g1, g2, g3⟩ := hI
      have hB := (st_BA hv hBA k g1).1
      have hel := hB.e_le
      have hwA := hw.f g3
      show (∃ B, _ ∧ _ ∧ X3_spread_L1 (nI (allS v)) _ (fuel + 1) (nI k) A = some B) ∨ ∃ s', X3_spread_L1 (nI (allS v)) _ (fuel + 1) (nI k) A = _ ∧ _
      rw [X3_spread_L1]
      by_cases c : k < be (st v (s1 x0) k)
      · right
        have hCX : CX v (fun z => z = x0) k (bl (st v (s1 x0) k) k) A A (st v (s1 x0) k) := ⟨g2, fAg.rf A, ⟨_, hB⟩, c, rfl⟩
        obtain ⟨B, b1, b2, b3, b4, b5, b6⟩ := leave_eq hv hwA hCX
        refine ⟨B, ?_, ?_, by rw [st_lt c]; exact b2, g3.tr b3⟩
        · rw [g2.2.2.2, if_neg (by rw [nI_le_iff (by omega) (by omega)]; omega), if_neg (by rw [show (1024 : Int32) = nI 1024 from rfl, nI_le_iff (by omega) (by omega)]; omega), rdI_nI (by omega) (by omega), bind_s, g2.2.2.1 k c, b1, bind_s, i_1, nI_sum]
        · have := (st_gr v (s1 x0) k).1
          omega
      · left
        rw [g2.2.2.2, if_pos (by rw [nI_le_iff (by omega) (by omega)]; omega)]
        have e := st_stay (v := v) (s0 := s1 x0) (E := k) (by omega) (1024 - k)
        rw [show k + (1024 - k) = 1024 by omega] at e
        refine ⟨A, g3, ?_, rfl⟩
        show RC A (st v (s1 x0) 1024)
        rw [e]
        exact g2
    · obtain ⟨g1, g2, g3⟩ := hI
      have hel := (st_BA hv hBA 1024 g1).1.e_le
      show ∃ B, _ ∧ _ ∧ X3_spread_L1 (nI (allS v)) _ (fuel + 1) (nI 1024) A = some B
      rw [X3_spread_L1]
      rw [g2.2.2.2, if_pos (by rw [nI_le_iff (by omega) (by omega)]; omega)]
      exact ⟨A, g3, g2, rfl⟩
  obtain ⟨B, b1, b2, b3⟩ := run
  exact ⟨B, b3, b1, b2⟩
theorem spread4_eq (hP : P = 52 ∨ P = 57) (hv : vOk v) (h : VC I P v) : ∃ B, X4_spread P I = some B ∧ cAg I B ∧ RC B (fin v (s1 (16 * tt v + tu v))) := by
  obtain ⟨I1, e1, e2, e3⟩ := h.ways hP hv
  have hC1 := h.wA2 hP e2
  obtain ⟨B, b1, b2, b3⟩ := spread3_eq hv e3
  unfold X4_spread
  refine ⟨B, ?_, e2.c.tr b2.c, b3⟩
  rw [e1, bind_s, hC1.top, bind_s, hC1.stonesUp, bind_s, hC1.allStones hv, b1, bind_s]
theorem and64 {x set : Nat} (hs : set < 64) : pl x &&& set = (x / 16) % 64 &&& set := by
  have e : set = 63 &&& set := by
    rw [Nat.and_comm]
    exact (Nat.and_two_pow_sub_one_of_lt_two_pow (n := 6) hs).symm
  have e2 : pl x &&& 63 = (x / 16) % 64 := by
    rw [show pl x &&& 63 = pl x % 64 from Nat.and_two_pow_sub_one_eq_mod (pl x) 6]
    unfold pl
    omega
  rw [e, ← Nat.and_assoc, e2, Nat.and_comm 63 set, Nat.and_two_pow_sub_one_of_lt_two_pow (n := 6) hs]
theorem nearest_eq (hv : vOk v) {src : Nat → Prop} {s : BS} (hB : BI v src s (be s) (fun _ _ => False)) (hR : RC I s) {set tops : Nat} (hs : set < 64) (ht : tops < 64) : (X3_nearest I (nI set) (nI tops) = some (-9) ∧ ∀ k, k < be s → ¬ (bl s k / 16) &&& set = tops) ∨ ∃ n, n < be s ∧ (bl s n / 16) &&& set = tops ∧ (∀ k, k < n → ¬ (bl s k / 16) &&& set = tops) ∧ X3_nearest I (nI set) (nI tops) = some (nI (pl (bl s n))) := by
  have hel := hB.e_le
  unfold X3_nearest
  refine loop_T (fun fuel k (_ : Unit) => X3_nearest_L1 I (nI set) (nI tops) (some (-9 : Int32)) fuel (nI k)) (fun o => (o = some (-9) ∧ ∀ k, k < be s → ¬ (bl s k / 16) &&& set = tops) ∨ ∃ n, n < be s ∧ (bl s n / 16) &&& set = tops ∧ (∀ k, k < n → ¬ (bl s k / 16) &&& set = tops) ∧ o = some (nI (pl (bl s n)))) (be s) (fun k _ => ∀ k', k' < k → ¬ (bl s k' / 16) &&& set = tops)
    (fun fuel k _ hk hI => ?_) (fun fuel _ hI => ?_) (be s) bigF 0 () (by omega) (bigF_gt (by omega)) (fun k' q => absurd q (by omega))
  · show ((X3_nearest_L1 I (nI set) (nI tops) _ (fuel + 1) (nI k) = _ ∧ _) ∨ ∃ n, n < be s ∧ _ ∧ _ ∧ X3_nearest_L1 I (nI set) (nI tops) _ (fuel + 1) (nI k) = _) ∨ ∃ s' : Unit, X3_nearest_L1 I (nI set) (nI tops) _ (fuel + 1) (nI k) = _ ∧ _
    have hln := (hB.2.1 k hk).1
    have hpl := pl_lt hln
    have hand : (bl s k / 16) % 64 &&& set < 64 := Nat.lt_of_le_of_lt Nat.and_le_right hs
    rw [X3_nearest_L1]
    rw [hR.2.2.2, if_neg (by rw [nI_le_iff (by omega) (by omega)]; omega), if_neg (by rw [show (1024 : Int32) = nI 1024 from rfl, nI_le_iff (by omega) (by omega)]; omega), rdI_nI (by omega) (by omega), bind_s, bind_s, hR.2.2.1 k hk, nI_and, and64 hs, show bl s k / 16 % 64 = bl s k / 16 by omega]
    rw [show bl s k / 16 % 64 = bl s k / 16 by omega] at hand
    by_cases c : (bl s k / 16) &&& set = tops
    · left
      rw [if_pos (by rw [c])]
      exact Or.inr ⟨k, hk, c, hI, rfl⟩
    · right
      rw [if_neg (by rw [nI_eq_iff (by omega) (by omega)]; exact c), i_1, nI_sum]
      refine ⟨(), rfl, fun k' q => ?_⟩
      by_cases e : k' = k
      · rw [e]; exact c
      · exact hI k' (by omega)
  · show (X3_nearest_L1 I (nI set) (nI tops) _ (fuel + 1) (nI (be s)) = _ ∧ _) ∨ ∃ n, n < be s ∧ _ ∧ _ ∧ X3_nearest_L1 I (nI set) (nI tops) _ (fuel + 1) (nI (be s)) = _
    rw [X3_nearest_L1]
    rw [hR.2.2.2, if_pos (Int32.le_refl _)]
    exact Or.inl ⟨rfl, hI⟩
theorem moved_eq (hv : vOk v) {src : Nat → Prop} {s : BS} (hB : BI v src s (be s) (fun _ _ => False)) (hR : RC I s) : X3_moved I (nI (tt v)) = some (nI (mvN v s (be s))) := by
  have hel := hB.e_le
  unfold X3_moved
  obtain ⟨a, ha, he⟩ := loop_I (fun fuel k (a : Nat) => X3_moved_L1 I (nI (tt v)) (fun z => some z) fuel (nI a) (nI k)) (fun a => some (nI a)) (be s) (fun k a => a = mvN v s k)
    (fun fuel k a hk hI => by
      have hln := (hB.2.1 k hk).1
      have hpl := pl_lt hln
      refine ⟨a ||| ((bl s k / 16) ^^^ tt v), ?_, by rw [mvN_succ, hI]⟩
      show X3_moved_L1 I (nI (tt v)) _ (fuel + 1) (nI a) (nI k) = _
      rw [X3_moved_L1]
      rw [hR.2.2.2, if_neg (by rw [nI_le_iff (by omega) (by omega)]; omega), if_neg (by rw [show (1024 : Int32) = nI 1024 from rfl, nI_le_iff (by omega) (by omega)]; omega), rdI_nI (by omega) (by omega), bind_s, hR.2.2.1 k hk, i_64, nI_rem (by omega) (by omega) (by omega), nI_xor, nI_or, i_1, nI_sum, show pl (bl s k) % 64 = bl s k / 16 by unfold pl; omega])
    (fun fuel a hI => by
      show X3_moved_L1 I (nI (tt v)) _ (fuel + 1) (nI a) (nI (be s)) = _
      rw [X3_moved_L1]
      rw [hR.2.2.2, if_pos (Int32.le_refl _)])
    (be s) bigF 0 0 (by omega) (bigF_gt (by omega)) rfl
  rw [← ha]
  exact he
theorem WK_in (hv : vOk v) {x0 : Nat} (h1 : x0 / 16 < 2 ^ tn v) (h2 : x0 % 16 < 2 ^ ts v) : ∀ (n : Nat) {y : Nat}, WK v (fun z => z = x0) n y → y / 16 < 2 ^ tn v ∧ y % 16 < 2 ^ ts v
  | 0, y, w => by
    have w : y = x0 := w
    rw [w]
    exact ⟨h1, h2⟩
  | n + 1, y, ⟨x, p, c, w1, w2, w3⟩ => by
    obtain ⟨a, b⟩ := WK_in hv h1 h2 n w1
    have hc := eO_c hv w2
    have hc16 := eO_c16 hv w2
    have hh := w2.1
    rw [w3, nx_div hc16, nx_mod hc16]
    exact ⟨xp_lt a (by omega) (by omega), Nat.xor_lt_two_pow b hc⟩
end FB4
section OPF
variable {I J : xMem} {L M : xLon} {P Dr : Nat}
end OPF
