/-! AT ONCE: both sides -/
section MA2
variable {I J : xMem} {P : Nat} {v : TV}
theorem Mt_big : ∀ (n : Nat) {g S : Nat}, Mt v n g S → g < 2 ^ tn v
  | 0, g, S, w => by
    rw [w.1]
    exact Nat.pos_of_ne_zero (by simp)
  | n + 1, g, S, w => by
    obtain ⟨a, b, c, S', m, -, m2⟩ := w
    have h1 := Mt_big n m2
    have h2 : g = (g ^^^ pr a b) ^^^ pr a b := by rw [Nat.xor_assoc, Nat.xor_self, Nat.xor_zero]
    rw [h2]
    exact xp_lt h1 (by have := m.1; have := m.2.1; omega) m.2.1
theorem isMost_lt (hv : vOk v) {N s : Nat} (h : isMost (fun g => AO v g (allS v)) N s) : s < 2 ^ tn v := by
  obtain ⟨S, ⟨n, w1⟩, -⟩ := h.1
  exact Mt_big n w1
/-! the class -/
theorem bit16 {s x : Nat} (hs : s < 65536) (h : s.testBit x = true) : x < 16 := by
  rcases Nat.lt_or_ge x 16 with w | w
  · exact w
  · have h2 : 2 ^ 16 ≤ 2 ^ x := Nat.pow_le_pow_right (by decide) w
    rw [Nat.testBit_lt_two_pow (by omega)] at h
    cases h
abbrev okJ (s o f q : Nat) : Prop := s.testBit (q / 16) = true ∧ o.testBit (q % 16) = true ∧ nd (q % 16) (nd f (q / 16)) = 0
abbrev okA (o f q : Nat) : Prop := o.testBit q = true ∧ nd q f = 0
theorem added_eq {S o f : Nat} (hS : S < 16) (ho : o < 65536) (hf : f < 16) : ∃ r, X3_added (nI S) (nI o) (nI f) = some (nI r) ∧ accB (okA o f) (fun q => S ||| q) 16 r := by
  unfold X3_added
  refine loop_T (fun fuel k (t : Nat) => X3_added_L1 (nI S) (nI o) (nI f) (fun z => some z) fuel (nI t) (nI k)) (fun o' => ∃ r, o' = some (nI r) ∧ accB (okA o f) (fun q => S ||| q) 16 r) 16 (fun k t => accB (okA o f) (fun q => S ||| q) k t)
    (fun fuel k t hk hI => ?_) (fun fuel t hI => ?_) 16 bigF 0 0 (by omega) (bigF_gt (by omega)) (accB_0 _ _)
  · show (∃ r, X3_added_L1 (nI S) (nI o) (nI f) _ (fuel + 1) (nI t) (nI k) = some (nI r) ∧ _) ∨ ∃ t', X3_added_L1 (nI S) (nI o) (nI f) _ (fuel + 1) (nI t) (nI k) = _ ∧ _
    rw [X3_added_L1]
    have hdiv : o / 2 ^ k < 2 ^ 31 := Nat.lt_of_le_of_lt (Nat.div_le_self _ _) (by omega)
    have hnd := nd_le k f
    rw [if_neg (by rw [i_16, nI_le_iff (by omega) (by omega)]; omega), nI_shr (by omega) (by omega), nI_nd]
    by_cases c1 : o / 2 ^ k = 0
    · left
      rw [if_pos (show nI (o / 2 ^ k) = 0 by rw [c1]; rfl)]
      refine ⟨t, rfl, accB_no hI (by omega) (fun q q1 q2 w => ?_)⟩
      have hb := w.1
      have hlt : o < 2 ^ k := (Nat.div_eq_zero_iff_lt (Nat.pos_of_ne_zero (by simp))).mp c1
      have h2 : 2 ^ k ≤ 2 ^ q := Nat.pow_le_pow_right (by decide) q1
      rw [Nat.testBit_lt_two_pow (by omega)] at hb
      cases hb
    · right
      rw [if_neg (show ¬ nI (o / 2 ^ k) = 0 by rw [i_0, nI_eq_iff hdiv (by omega)]; exact c1), i_1, nI_and, Nat.and_one_is_mod, nI_or]
      have hor : S ||| k < 16 := Nat.or_lt_two_pow (n := 4) hS hk
      have tb := tb_div o k
      by_cases c2 : o.testBit k = true
      · rw [c2] at tb
        have tb2 : o / 2 ^ k % 2 = 1 := by simpa using tb.symm
        rw [if_pos (by rw [tb2])]
        by_cases c3 : nd k f = 0
        · rw [if_pos (show nI (nd k f) = 0 by rw [c3]; rfl), nI_pow (by omega), nI_or, nI_sum]
          exact ⟨_, rfl, accB_yes (f := fun q => S ||| q) hI ⟨c2, c3⟩ hor⟩
        · rw [if_neg (show ¬ nI (nd k f) = 0 by rw [i_0, nI_eq_iff (by omega) (by omega)]; exact c3), nI_sum]
          refine ⟨_, rfl, accB_no hI (by omega) (fun q q1 q2 w => ?_)⟩
          rw [show q = k by omega] at w
          exact c3 w.2
      · have tb2 : ¬ o / 2 ^ k % 2 = 1 := by
          intro w
          rw [w] at tb
          exact c2 (by simpa using tb)
        rw [if_neg (by rw [nI_eq_iff (by omega) (by omega)]; exact tb2), nI_sum]
        refine ⟨_, rfl, accB_no hI (by omega) (fun q q1 q2 w => ?_)⟩
        rw [show q = k by omega] at w
        exact c2 w.1
  · show ∃ r, X3_added_L1 (nI S) (nI o) (nI f) _ (fuel + 1) (nI t) (nI 16) = some (nI r) ∧ _
    rw [X3_added_L1]
    rw [if_pos (by rw [i_16]; exact Int32.le_refl _)]
    exact ⟨t, rfl, hI⟩
theorem accB_or {s o f k t r : Nat} (h : accB (okJ s o f) fO (16 * k) t) (hs : s.testBit k = true) (g : accB (okA o (nd f k)) (fun q => k ||| q) 16 r) : accB (okJ s o f) fO (16 * (k + 1)) (t ||| r) := by
  refine ⟨Nat.or_lt_two_pow (n := 16) h.1 g.1, fun c => ?_⟩
  rw [Nat.testBit_or, Bool.or_eq_true, h.2 c, g.2 c]
  constructor
  · rintro (⟨q, q1, q2, q3⟩ | ⟨q, q1, q2, q3⟩)
    · exact ⟨q, by omega, q2, q3⟩
    · have e1 : (16 * k + q) / 16 = k := by omega
      have e2 : (16 * k + q) % 16 = q := by omega
      refine ⟨16 * k + q, by omega, ?_, ?_⟩
      · rw [okJ, e1, e2]
        exact ⟨hs, q2.1, q2.2⟩
      · unfold fO
        rw [e1, e2]
        exact q3
  · rintro ⟨q, q1, q2, q3⟩
    rcases Nat.lt_or_ge q (16 * k) with w | w
    · exact Or.inl ⟨q, w, q2, q3⟩
    · have e1 : q / 16 = k := by omega
      rw [okJ, e1] at q2
      refine Or.inr ⟨q % 16, by omega, ⟨q2.2.1, q2.2.2⟩, ?_⟩
      rw [← q3]
      unfold fO
      rw [e1]
theorem joined_eq {s o f : Nat} (hs : s < 65536) (ho : o < 65536) (hf : f < 16) : ∃ r, X3_joined (nI s) (nI o) (nI f) = some (nI r) ∧ accB (okJ s o f) fO 256 r := by
  unfold X3_joined
  obtain ⟨r, hr, he⟩ := loop_I (fun fuel k (t : Nat) => X3_joined_L1 (nI s) (nI o) (nI f) (fun z => some z) fuel (nI t) (nI k)) (fun t => some (nI t)) 16 (fun k t => accB (okJ s o f) fO (16 * k) t)
    (fun fuel k t hk hI => by
      have hnd := nd_le f k
      show ∃ s', X3_joined_L1 (nI s) (nI o) (nI f) _ (fuel + 1) (nI t) (nI k) = _ ∧ _
      rw [X3_joined_L1]
      rw [if_neg (by rw [i_16, nI_le_iff (by omega) (by omega)]; omega)]
      by_cases c : s.testBit k = true
      · obtain ⟨r, e1, e2⟩ := added_eq (S := k) (o := o) (f := nd f k) hk ho (by omega)
        rw [if_pos (show (nI s >>> (nI k &&& 31)) &&& (1 : Int32) = 1 from (nI_bit1 (by omega) (by omega)).mpr c), nI_nd, e1, bind_s, nI_or, show nI k + 1 = nI (k + 1) from nI_1 k]
        exact ⟨_, rfl, accB_or hI c e2⟩
      · rw [if_neg (show ¬ (nI s >>> (nI k &&& 31)) &&& (1 : Int32) = 1 from fun w => c ((nI_bit1 (by omega) (by omega)).mp w)), show nI k + 1 = nI (k + 1) from nI_1 k]
        refine ⟨_, rfl, accB_no hI (by omega) (fun q q1 q2 w => ?_)⟩
        have w1 := w.1
        rw [show q / 16 = k by omega] at w1
        exact c w1)
    (fun fuel t hI => by
      show X3_joined_L1 (nI s) (nI o) (nI f) _ (fuel + 1) (nI t) (nI 16) = _
      rw [X3_joined_L1]
      rw [if_pos (by rw [i_16]; exact Int32.le_refl _)])
    16 bigF 0 0 (by omega) (bigF_gt (by omega)) (accB_0 _ _)
  exact ⟨r, he, hr⟩
theorem stonesAt_eq (hv : vOk v) (i : Nat) (hi : i < tn v) : X3_stonesAt (nI (tt v)) (nI i) (nI (tu v)) (nI (allS v)) = nI (stW v i) := by
  have h6 := hv.1
  have h64 := tt_lt hv
  unfold X3_stonesAt stW
  rw [i_1, nI_ndN]
  by_cases c : (tt v).testBit i = true
  · rw [if_pos ((nI_bit1 (by omega) (by omega)).mpr c), if_pos c]
  · rw [if_neg (fun w => c ((nI_bit1 (by omega) (by omega)).mp w)), if_neg c]
end MA2
