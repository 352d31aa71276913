/-! AT ONCE: both sides -/
section MA2
variable {I J : xMem} {P : Nat} {v : TV}
theorem Mt_big : ∀ (n : Nat) {g S : Nat}, Mt v n g S → g < 2 ^ tn v
  | 0, g, S, w => by
    rw [w.1]
    exact Nat.pos_of_ne_zero (by simp)
  | n + 1, g, S, w => by
    obtain ⟨a, b, c, S', m, -, m2⟩ := w
    have h1 := Mt_big n m2
    have h2 : g = (g ^^^ pr a b) ^^^ pr a b := by rw [Nat.xor_assoc, Nat.xor_self, Nat.xor_zero]
    rw [h2]
    exact xp_lt h1 (by have := m.1; have := m.2.1; omega) m.2.1
theorem isMost_lt (hv : vOk v) {N s : Nat} (h : isMost (fun g => AO v g (allS v)) N s) : s < 2 ^ tn v := by
  obtain ⟨S, ⟨n, w1⟩, -⟩ := h.1
  exact Mt_big n w1
theorem match5_eq (hv : vOk v) (h : VM J v) (hn0 : 0 < tn v) : ∃ s J', s < 64 ∧ s < 2 ^ tn v ∧ isMost (fun g => AO v g (allS v)) (2 ^ tn v) s ∧ mAg J J' ∧ X5_match J = some (nI (pc s / 2), wr J' 0 11 (nI s)) := by
  have h6 := hv.1
  have h64 := p2n hv
  have h16 := p2s hv
  have h2 := hv.2.1
  have hs0 : 0 < 2 ^ ts v := Nat.pos_of_ne_zero (by simp)
  have hn1 : 0 < 2 ^ tn v := Nat.pos_of_ne_zero (by simp)
  have inner : ∀ (K : xMem → Option (Int32 × xMem)) (g : Nat) (A : xMem), g < 2 ^ tn v → mAg J A → tbM v A g → ∃ B, (mAg J B ∧ tbM v B (g + 1)) ∧ X5_match_L2 J (nI g) K bigF (nI 0) A = K B := by
    intro K g A hg hA hT
    obtain ⟨B, hB, he⟩ := loop_I (fun fuel k (A : xMem) => X5_match_L2 J (nI g) K fuel (nI k) A) K (2 ^ ts v) (fun k A => mAg J A ∧ tbM v A g ∧ ∀ T, T < k → bvI (A 12 (16 * g + T)) (AO v g T))
      (fun fuel k A hk hI => by
        obtain ⟨g1, g2, g3⟩ := hI
        have hM := h.mAg g1
        have put : ∀ x, bvI x (AO v g k) → (mAg J (wr A 12 (16 * g + k) x) ∧ tbM v (wr A 12 (16 * g + k) x) g ∧ ∀ T, T < k + 1 → bvI (wr A 12 (16 * g + k) x 12 (16 * g + T)) (AO v g T)) := fun x hx => by
          refine ⟨fun a b q => ?_, fun g' q1 T q2 => ?_, fun T q => ?_⟩
          · rw [wr_off _ _ (by unfold mX at q; omega)]
            exact g1 a b q
          · rw [wr_off _ _ (by omega)]
            exact g2 g' q1 T q2
          · by_cases e : T = k
            · subst e
              rw [wr_eq]
              exact hx
            · rw [wr_off _ _ (by omega)]
              exact g3 T (by omega)
        show ∃ s', X5_match_L2 J (nI g) K (fuel + 1) (nI k) A = _ ∧ _
        rw [X5_match_L2]
        rw [h.1.2.1, i_1, nI_pow (by omega), nI_subL (by omega), if_neg (by rw [nI_lt_iff (by omega) (by omega)]; omega), i_16, nI_mul, nI_sum, nI_sum]
        have n1 : nz (nI 1) = 1 := rfl
        by_cases c0 : g = 0
        · refine ⟨wr A 12 (16 * g + k) 1, ?_, put 1 (Or.inl ⟨rfl, by rw [c0]; exact AO_0 v k⟩)⟩
          rw [if_pos (show nI g = 0 by rw [c0]; rfl), n1, wrI_nI (by omega) (by omega), bind_s]
        · rw [if_neg (show ¬ nI g = 0 by rw [i_0, nI_eq_iff (by omega) (by omega)]; exact c0), bits_pc (by omega), bind_s, i_2, nI_rem (by have := pc_le g; omega) (by omega) (by omega)]
          by_cases c1 : pc g % 2 = 0
          · obtain ⟨r, e1, e2⟩ := hM.atOnce hv hg c0 hk g2
            rw [if_pos (show nI (pc g % 2) = 0 by rw [c1]; rfl), e1, bind_s]
            refine ⟨wr A 12 (16 * g + k) r, ?_, put r e2⟩
            rcases e2 with ⟨rfl, e2⟩ | ⟨rfl, e2⟩
            · rw [if10, n1, wrI_nI (by omega) (by omega), bind_s]
            · rw [if00, nz_0, wrI_nI (by omega) (by omega), bind_s]
          · rw [if_neg (show ¬ nI (pc g % 2) = 0 by rw [i_0, nI_eq_iff (by omega) (by omega)]; exact c1), nz_0, wrI_nI (by omega) (by omega), bind_s]
            refine ⟨wr A 12 (16 * g + k) 0, rfl, put 0 (Or.inr ⟨rfl, fun w => ?_⟩)⟩
            obtain ⟨S, ⟨n, w1⟩, -⟩ := w
            exact c1 (Mt_even hv n (by omega) w1))
      (fun fuel A hI => by
        show X5_match_L2 J (nI g) K (fuel + 1) (nI (2 ^ ts v)) A = _
        rw [X5_match_L2]
        rw [h.1.2.1, i_1, nI_pow (by omega), nI_subL (by omega), if_pos (by rw [nI_lt_iff (by omega) (by omega)]; omega)])
      (2 ^ ts v) bigF 0 A (by omega) (bigF_gt (by omega)) ⟨hA, hT, fun T q => absurd q (by omega)⟩
    refine ⟨B, ⟨hB.1, fun g' q1 T q2 => ?_⟩, he⟩
    by_cases e : g' = g
    · rw [e]
      exact hB.2.2 T q2
    · exact hB.2.1 g' (by omega) T q2
  unfold X5_match
  rw [h.1.2.2, if_neg (by rw [i_0, nI_eq_iff (by omega) (by omega)]; omega)]
  obtain ⟨⟨s, B⟩, ⟨k1, k2, k3⟩, he⟩ := loop_I (fun fuel k (z : Nat × xMem) => X5_match_L1 J (fun (z1_4 : Int32) (I5 : xMem) => (some (wr I5 0 11 z1_4)).bind fun I26 => (X5_bits z1_4).bind fun v27 => some ((v27 / (2 : Int32)), I26)) fuel (nI z.1) (nI k) z.2) (fun z => (X5_bits (nI z.1)).bind fun v27 => some ((v27 / (2 : Int32)), wr z.2 0 11 (nI z.1))) (2 ^ tn v) (fun k z => isMost (fun g => AO v g (allS v)) k z.1 ∧ mAg J z.2 ∧ tbM v z.2 k)
    (fun fuel k z hk hI => by
      obtain ⟨s, A⟩ := z
      obtain ⟨g1, g2, g3⟩ := hI
      have g1 : isMost (fun g => AO v g (allS v)) k s := g1
      have g2 : mAg J A := g2
      have g3 : tbM v A k := g3
      have hsk := g1.2.1
      have hM := h.mAg g2
      obtain ⟨B, hB, hb⟩ := inner (fun (I10 : xMem) => (rdI I10 12 1024 (((16 : Int32) * nI k) + (((1 : Int32) <<< ((J 0 2) &&& 31)) - (1 : Int32)))).bind fun v21 => if v21 = (0 : Int32) then (X5_match_L1 J (fun (z1_4 : Int32) (I5 : xMem) => (some (wr I5 0 11 z1_4)).bind fun I26 => (X5_bits z1_4).bind fun v27 => some ((v27 / (2 : Int32)), I26)) fuel (nI s) (nI k + (1 : Int32)) I10) else ((X5_bits (nI k)).bind fun v23 => (X5_bits (nI s)).bind fun v24 => if v23 ≤ v24 then (X5_match_L1 J (fun (z1_4 : Int32) (I5 : xMem) => (some (wr I5 0 11 z1_4)).bind fun I26 => (X5_bits z1_4).bind fun v27 => some ((v27 / (2 : Int32)), I26)) fuel (nI s) (nI k + (1 : Int32)) I10) else (X5_match_L1 J (fun (z1_4 : Int32) (I5 : xMem) => (some (wr I5 0 11 z1_4)).bind fun I26 => (X5_bits z1_4).bind fun v27 => some ((v27 / (2 : Int32)), I26)) fuel (nI k) (nI k + (1 : Int32)) I10))) k A hk g2 g3
      have hall : ((1 : Int32) <<< ((J 0 2) &&& 31)) - (1 : Int32) = nI (allS v) := by
        rw [h.1.2.1, i_1, nI_pow (by omega), nI_subL (by omega)]
        rfl
      have hal : allS v < 2 ^ ts v := by
        unfold allS
        omega
      have hread := hB.2 k (by omega) (allS v) hal
      have hpk := pc_le k
      have hps := pc_le s
      rcases hread with ⟨r1, r2⟩ | ⟨r1, r2⟩
      · refine ⟨(if pc k ≤ pc s then s else k, B), ?_, isMost_yes g1 r2, hB⟩
        show X5_match_L1 J _ (fuel + 1) (nI s) (nI k) A = X5_match_L1 J _ fuel (nI (if pc k ≤ pc s then s else k)) (nI (k + 1)) B
        rw [X5_match_L1]
        rw [hM.1.2.2, i_1, nI_pow (by omega), if_neg (by rw [nI_le_iff (by omega) (by omega)]; omega)]
        refine hb.trans ?_
        rw [hall, i_16, nI_mul, nI_sum, rdI_nI (by omega) (by omega), bind_s, r1, if10, bits_pc (by omega), bind_s, bits_pc (by omega), bind_s]
        by_cases c : pc k ≤ pc s
        · rw [if_pos (by rw [nI_le_iff (by omega) (by omega)]; exact c), if_pos c, show nI k + 1 = nI (k + 1) from nI_1 k]
        · rw [if_neg (by rw [nI_le_iff (by omega) (by omega)]; exact c), if_neg c, show nI k + 1 = nI (k + 1) from nI_1 k]
      · refine ⟨(s, B), ?_, isMost_no g1 r2, hB⟩
        show X5_match_L1 J _ (fuel + 1) (nI s) (nI k) A = X5_match_L1 J _ fuel (nI s) (nI (k + 1)) B
        rw [X5_match_L1]
        rw [hM.1.2.2, i_1, nI_pow (by omega), if_neg (by rw [nI_le_iff (by omega) (by omega)]; omega)]
        refine hb.trans ?_
        rw [hall, i_16, nI_mul, nI_sum, rdI_nI (by omega) (by omega), bind_s, r1, if00, show nI k + 1 = nI (k + 1) from nI_1 k])
    (fun fuel z hI => by
      obtain ⟨s, A⟩ := z
      have hM : VM A v := h.mAg hI.2.1
      show X5_match_L1 J _ (fuel + 1) (nI s) (nI (2 ^ tn v)) A = _
      rw [X5_match_L1]
      rw [hM.1.2.2, i_1, nI_pow (by omega), if_pos (Int32.le_refl _), bind_s])
    (2 ^ tn v) bigF 0 (0, J) (by omega) (bigF_gt (by omega)) ⟨isMost_0 (AO_0 v _), mAg.rf J, fun g q => absurd q (by omega)⟩
  have k1 : isMost (fun g => AO v g (allS v)) (2 ^ tn v) s := k1
  have hs : s < 2 ^ tn v := by
    rcases Nat.lt_or_ge s (2 ^ tn v) with w | w
    · exact w
    · exact isMost_lt hv k1
  refine ⟨s, B, by omega, hs, k1, k2, he.trans ?_⟩
  show (X5_bits (nI s)).bind _ = _
  rw [bits_pc (by omega), bind_s, i_2, nI_div (by have := pc_le s; omega) (by omega) (by omega)]
/-! the class -/
theorem bit16 {s x : Nat} (hs : s < 65536) (h : s.testBit x = true) : x < 16 := by
  rcases Nat.lt_or_ge x 16 with w | w
  · exact w
  · have h2 : 2 ^ 16 ≤ 2 ^ x := Nat.pow_le_pow_right (by decide) w
    rw [Nat.testBit_lt_two_pow (by omega)] at h
    cases h
abbrev okJ (s o f q : Nat) : Prop := s.testBit (q / 16) = true ∧ o.testBit (q % 16) = true ∧ nd (q % 16) (nd f (q / 16)) = 0
abbrev okA (o f q : Nat) : Prop := o.testBit q = true ∧ nd q f = 0
theorem added_eq {S o f : Nat} (hS : S < 16) (ho : o < 65536) (hf : f < 16) : ∃ r, X3_added (nI S) (nI o) (nI f) = some (nI r) ∧ accB (okA o f) (fun q => S ||| q) 16 r := by
  unfold X3_added
  refine loop_T (fun fuel k (t : Nat) => X3_added_L1 (nI S) (nI o) (nI f) (fun z => some z) fuel (nI t) (nI k)) (fun o' => ∃ r, o' = some (nI r) ∧ accB (okA o f) (fun q => S ||| q) 16 r) 16 (fun k t => accB (okA o f) (fun q => S ||| q) k t)
    (fun fuel k t hk hI => ?_) (fun fuel t hI => ?_) 16 bigF 0 0 (by omega) (bigF_gt (by omega)) (accB_0 _ _)
  · show (∃ r, X3_added_L1 (nI S) (nI o) (nI f) _ (fuel + 1) (nI t) (nI k) = some (nI r) ∧ _) ∨ ∃ t', X3_added_L1 (nI S) (nI o) (nI f) _ (fuel + 1) (nI t) (nI k) = _ ∧ _
    rw [X3_added_L1]
    have hdiv : o / 2 ^ k < 2 ^ 31 := Nat.lt_of_le_of_lt (Nat.div_le_self _ _) (by omega)
    have hnd := nd_le k f
    rw [if_neg (by rw [i_16, nI_le_iff (by omega) (by omega)]; omega), nI_shr (by omega) (by omega), nI_nd]
    by_cases c1 : o / 2 ^ k = 0
    · left
      rw [if_pos (show nI (o / 2 ^ k) = 0 by rw [c1]; rfl)]
      refine ⟨t, rfl, accB_no hI (by omega) (fun q q1 q2 w => ?_)⟩
      have hb := w.1
      have hlt : o < 2 ^ k := (Nat.div_eq_zero_iff_lt (Nat.pos_of_ne_zero (by simp))).mp c1
      have h2 : 2 ^ k ≤ 2 ^ q := Nat.pow_le_pow_right (by decide) q1
      rw [Nat.testBit_lt_two_pow (by omega)] at hb
      cases hb
    · right
      rw [if_neg (show ¬ nI (o / 2 ^ k) = 0 by rw [i_0, nI_eq_iff hdiv (by omega)]; exact c1), i_1, nI_and, Nat.and_one_is_mod, nI_or]
      have hor : S ||| k < 16 := Nat.or_lt_two_pow (n := 4) hS hk
      have tb := tb_div o k
      by_cases c2 : o.testBit k = true
      · rw [c2] at tb
        have tb2 : o / 2 ^ k % 2 = 1 := by simpa using tb.symm
        rw [if_pos (by rw [tb2])]
        by_cases c3 : nd k f = 0
        · rw [if_pos (show nI (nd k f) = 0 by rw [c3]; rfl), nI_pow (by omega), nI_or, nI_sum]
          exact ⟨_, rfl, accB_yes (f := fun q => S ||| q) hI ⟨c2, c3⟩ hor⟩
        · rw [if_neg (show ¬ nI (nd k f) = 0 by rw [i_0, nI_eq_iff (by omega) (by omega)]; exact c3), nI_sum]
          refine ⟨_, rfl, accB_no hI (by omega) (fun q q1 q2 w => ?_)⟩
          rw [show q = k by omega] at w
          exact c3 w.2
      · have tb2 : ¬ o / 2 ^ k % 2 = 1 := by
          intro w
          rw [w] at tb
          exact c2 (by simpa using tb)
        rw [if_neg (by rw [nI_eq_iff (by omega) (by omega)]; exact tb2), nI_sum]
        refine ⟨_, rfl, accB_no hI (by omega) (fun q q1 q2 w => ?_)⟩
        rw [show q = k by omega] at w
        exact c2 w.1
  · show ∃ r, X3_added_L1 (nI S) (nI o) (nI f) _ (fuel + 1) (nI t) (nI 16) = some (nI r) ∧ _
    rw [X3_added_L1]
    rw [if_pos (by rw [i_16]; exact Int32.le_refl _)]
    exact ⟨t, rfl, hI⟩
theorem accB_or {s o f k t r : Nat} (h : accB (okJ s o f) fO (16 * k) t) (hs : s.testBit k = true) (g : accB (okA o (nd f k)) (fun q => k ||| q) 16 r) : accB (okJ s o f) fO (16 * (k + 1)) (t ||| r) := by
  refine ⟨Nat.or_lt_two_pow (n := 16) h.1 g.1, fun c => ?_⟩
  rw [Nat.testBit_or, Bool.or_eq_true, h.2 c, g.2 c]
  constructor
  · rintro (⟨q, q1, q2, q3⟩ | ⟨q, q1, q2, q3⟩)
    · exact ⟨q, by omega, q2, q3⟩
    · have e1 : (16 * k + q) / 16 = k := by omega
      have e2 : (16 * k + q) % 16 = q := by omega
      refine ⟨16 * k + q, by omega, ?_, ?_⟩
      · rw [okJ, e1, e2]
        exact ⟨hs, q2.1, q2.2⟩
      · unfold fO
        rw [e1, e2]
        exact q3
  · rintro ⟨q, q1, q2, q3⟩
    rcases Nat.lt_or_ge q (16 * k) with w | w
    · exact Or.inl ⟨q, w, q2, q3⟩
    · have e1 : q / 16 = k := by omega
      rw [okJ, e1] at q2
      refine Or.inr ⟨q % 16, by omega, ⟨q2.2.1, q2.2.2⟩, ?_⟩
      rw [← q3]
      unfold fO
      rw [e1]
theorem joined_eq {s o f : Nat} (hs : s < 65536) (ho : o < 65536) (hf : f < 16) : ∃ r, X3_joined (nI s) (nI o) (nI f) = some (nI r) ∧ accB (okJ s o f) fO 256 r := by
  unfold X3_joined
  obtain ⟨r, hr, he⟩ := loop_I (fun fuel k (t : Nat) => X3_joined_L1 (nI s) (nI o) (nI f) (fun z => some z) fuel (nI t) (nI k)) (fun t => some (nI t)) 16 (fun k t => accB (okJ s o f) fO (16 * k) t)
    (fun fuel k t hk hI => by
      have hnd := nd_le f k
      show ∃ s', X3_joined_L1 (nI s) (nI o) (nI f) _ (fuel + 1) (nI t) (nI k) = _ ∧ _
      rw [X3_joined_L1]
      rw [if_neg (by rw [i_16, nI_le_iff (by omega) (by omega)]; omega)]
      by_cases c : s.testBit k = true
      · obtain ⟨r, e1, e2⟩ := added_eq (S := k) (o := o) (f := nd f k) hk ho (by omega)
        rw [if_pos (show (nI s >>> (nI k &&& 31)) &&& (1 : Int32) = 1 from (nI_bit1 (by omega) (by omega)).mpr c), nI_nd, e1, bind_s, nI_or, show nI k + 1 = nI (k + 1) from nI_1 k]
        exact ⟨_, rfl, accB_or hI c e2⟩
      · rw [if_neg (show ¬ (nI s >>> (nI k &&& 31)) &&& (1 : Int32) = 1 from fun w => c ((nI_bit1 (by omega) (by omega)).mp w)), show nI k + 1 = nI (k + 1) from nI_1 k]
        refine ⟨_, rfl, accB_no hI (by omega) (fun q q1 q2 w => ?_)⟩
        have w1 := w.1
        rw [show q / 16 = k by omega] at w1
        exact c w1)
    (fun fuel t hI => by
      show X3_joined_L1 (nI s) (nI o) (nI f) _ (fuel + 1) (nI t) (nI 16) = _
      rw [X3_joined_L1]
      rw [if_pos (by rw [i_16]; exact Int32.le_refl _)])
    16 bigF 0 0 (by omega) (bigF_gt (by omega)) (accB_0 _ _)
  exact ⟨r, he, hr⟩
theorem stonesAt_eq (hv : vOk v) (i : Nat) (hi : i < tn v) : X3_stonesAt (nI (tt v)) (nI i) (nI (tu v)) (nI (allS v)) = nI (stW v i) := by
  have h6 := hv.1
  have h64 := tt_lt hv
  unfold X3_stonesAt stW
  rw [i_1, nI_ndN]
  by_cases c : (tt v).testBit i = true
  · rw [if_pos ((nI_bit1 (by omega) (by omega)).mpr c), if_pos c]
  · rw [if_neg (fun w => c ((nI_bit1 (by omega) (by omega)).mp w)), if_neg c]
end MA2
