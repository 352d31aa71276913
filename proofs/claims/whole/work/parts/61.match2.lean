/-! AT ONCE: both sides -/
section MA2
variable {I J : xMem} {P : Nat} {v : TV}
theorem Mt_big : ∀ (n : Nat) {g S : Nat}, Mt v n g S → g < 2 ^ tn v
  | 0, g, S, w => by
    rw [w.1]
    exact Nat.pos_of_ne_zero (by simp)
  | n + 1, g, S, w => by
    obtain ⟨a, b, c, S', m, -, m2⟩ := w
    have h1 := Mt_big n m2
    have h2 : g = (g ^^^ pr a b) ^^^ pr a b := by rw [Nat.xor_assoc, Nat.xor_self, Nat.xor_zero]
    rw [h2]
    exact xp_lt h1 (by have := m.1; have := m.2.1; omega) m.2.1
theorem isMost_lt (hv : vOk v) {N s : Nat} (h : isMost (fun g => AO v g (allS v)) N s) : s < 2 ^ tn v := by
  obtain ⟨S, ⟨n, w1⟩, -⟩ := h.1
  exact Mt_big n w1
theorem match5_eq (hv : vOk v) (h : VM J v) (hn0 : 0 < tn v) : ∃ s J', s < 64 ∧ s < 2 ^ tn v ∧ isMost (fun g => AO v g (allS v)) (2 ^ tn v) s ∧ mAg J J' ∧ X5_match J = some (nI (pc s / 2), wr J' 0 11 (nI s)) := by
  have h6 := hv.1
  have h64 := p2n hv
  have h16 := p2s hv
  have h2 := hv.2.1
  have hs0 : 0 < 2 ^ ts v := Nat.pos_of_ne_zero (by simp)
  have hn1 : 0 < 2 ^ tn v := Nat.pos_of_ne_zero (by simp)
  have inner : ∀ (K : xMem → Option (Int32 × xMem)) (g : Nat) (A : xMem), g < 2 ^ tn v → mAg J A → tbM v A g → ∃ B, (mAg J B ∧ tbM v B (g + 1)) ∧ X5_match_L2 J (nI g) K bigF (nI 0) A = K B := by
    intro K g A hg hA hT
    obtain ⟨B, hB, he⟩ := loop_I (fun fuel k (A : xMem) => X5_match_L2 J (nI g) K fuel (nI k) A) K (2 ^ ts v) (fun k A => mAg J A ∧ tbM v A g ∧ ∀ T, T < k → bvI (A 12 (16 * g + T)) (AO v g T))
      (fun fuel k A hk hI => by
        obtain ⟨g1, g2, g3⟩ := hI
        have hM := h.mAg g1
        have put : ∀ x, bvI x (AO v g k) → (mAg J (wr A 12 (16 * g + k) x) ∧ tbM v (wr A 12 (16 * g + k) x) g ∧ ∀ T, T < k + 1 → bvI (wr A 12 (16 * g + k) x 12 (16 * g + T)) (AO v g T)) := fun x hx => by
          refine ⟨fun a b q => ?_, fun g' q1 T q2 => ?_, fun T q => ?_⟩
          · rw [wr_off _ _ (by unfold mX at q; omega)]
            exact g1 a b q
          · rw [wr_off _ _ (by omega)]
            exact g2 g' q1 T q2
          · by_cases e : T = k
            · subst e
              rw [wr_eq]
              exact hx
            · rw [wr_off _ _ (by omega)]
              exact g3 T (by omega)
        show ∃ s', X5_match_L2 J (nI g) K (fuel + 1) (nI k) A = _ ∧ _
        rw [X5_match_L2]
        rw [h.1.2.1, i_1, nI_pow (by omega), nI_subL (by omega), if_neg (by rw [nI_lt_iff (by omega) (by omega)]; omega), i_16, nI_mul, nI_sum, nI_sum]
        have n1 : nz (nI 1) = 1 := rfl
        by_cases c0 : g = 0
        · refine ⟨wr A 12 (16 * g + k) 1, ?_, put 1 (Or.inl ⟨rfl, by rw [c0]; exact AO_0 v k⟩)⟩
          rw [if_pos (show nI g = 0 by rw [c0]; rfl), n1, wrI_nI (by omega) (by omega), bind_s]
        · rw [if_neg (show ¬ nI g = 0 by rw [i_0, nI_eq_iff (by omega) (by omega)]; exact c0), bits_pc (by omega), bind_s, i_2, nI_rem (by have := pc_le g; omega) (by omega) (by omega)]
          by_cases c1 : pc g % 2 = 0
          · obtain ⟨r, e1, e2⟩ := hM.atOnce hv hg c0 hk g2
            rw [if_pos (show nI (pc g % 2) = 0 by rw [c1]; rfl), e1, bind_s]
            refine ⟨wr A 12 (16 * g + k) r, ?_, put r e2⟩
            rcases e2 with ⟨rfl, e2⟩ | ⟨rfl, e2⟩
            · rw [if10, n1, wrI_nI (by omega) (by omega), bind_s]
            · rw [if00, nz_0, wrI_nI (by omega) (by omega), bind_s]
          · rw [if_neg (show ¬ nI (pc g % 2) = 0 by rw [i_0, nI_eq_iff (by omega) (by omega)]; exact c1), nz_0, wrI_nI (by omega) (by omega), bind_s]
            refine ⟨wr A 12 (16 * g + k) 0, rfl, put 0 (Or.inr ⟨rfl, fun w => ?_⟩)⟩
            obtain ⟨S, ⟨n, w1⟩, -⟩ := w
            exact c1 (Mt_even hv n (by omega) w1))
      (fun fuel A hI => by
        show X5_match_L2 J (nI g) K (fuel + 1) (nI (2 ^ ts v)) A = _
        rw [X5_match_L2]
        rw [h.1.2.1, i_1, nI_pow (by omega), nI_subL (by omega), if_pos (by rw [nI_lt_iff (by omega) (by omega)]; omega)])
      (2 ^ ts v) bigF 0 A (by omega) (bigF_gt (by omega)) ⟨hA, hT, fun T q => absurd q (by omega)⟩
    refine ⟨B, ⟨hB.1, fun g' q1 T q2 => ?_⟩, he⟩
    by_cases e : g' = g
    · rw [e]
      exact hB.2.2 T q2
    · exact hB.2.1 g' (by omega) T q2
  unfold X5_match
  rw [h.1.2.2, if_neg (by rw [i_0, nI_eq_iff (by omega) (by omega)]; omega)]
  obtain ⟨⟨s, B⟩, ⟨k1, k2, k3⟩, he⟩ := loop_I (fun fuel k (z : Nat × xMem) => X5_match_L1 J (fun (z1_4 : Int32) (I5 : xMem) => (some (wr I5 0 11 z1_4)).bind fun I26 => (X5_bits z1_4).bind fun v27 => some ((v27 / (2 : Int32)), I26)) fuel (nI z.1) (nI k) z.2) (fun z => (X5_bits (nI z.1)).bind fun v27 => some ((v27 / (2 : Int32)), wr z.2 0 11 (nI z.1))) (2 ^ tn v) (fun k z => isMost (fun g => AO v g (allS v)) k z.1 ∧ mAg J z.2 ∧ tbM v z.2 k)
    (fun fuel k z hk hI => by
      obtain ⟨s, A⟩ := z
      obtain ⟨g1, g2, g3⟩ := hI
      have g1 : isMost (fun g => AO v g (allS v)) k s := g1
      have g2 : mAg J A := g2
      have g3 : tbM v A k := g3
      have hsk := g1.2.1
      have hM := h.mAg g2
      obtain ⟨B, hB, hb⟩ := inner (fun (I10 : xMem) => (rdI I10 12 1024 (((16 : Int32) * nI k) + (((1 : Int32) <<< ((J 0 2) &&& 31)) - (1 : Int32)))).bind fun v21 => if v21 = (0 : Int32) then (X5_match_L1 J (fun (z1_4 : Int32) (I5 : xMem) => (some (wr I5 0 11 z1_4)).bind fun I26 => (X5_bits z1_4).bind fun v27 => some ((v27 / (2 : Int32)), I26)) fuel (nI s) (nI k + (1 : Int32)) I10) else ((X5_bits (nI k)).bind fun v23 => (X5_bits (nI s)).bind fun v24 => if v23 ≤ v24 then (X5_match_L1 J (fun (z1_4 : Int32) (I5 : xMem) => (some (wr I5 0 11 z1_4)).bind fun I26 => (X5_bits z1_4).bind fun v27 => some ((v27 / (2 : Int32)), I26)) fuel (nI s) (nI k + (1 : Int32)) I10) else (X5_match_L1 J (fun (z1_4 : Int32) (I5 : xMem) => (some (wr I5 0 11 z1_4)).bind fun I26 => (X5_bits z1_4).bind fun v27 => some ((v27 / (2 : Int32)), I26)) fuel (nI k) (nI k + (1 : Int32)) I10))) k A hk g2 g3
      have hall : ((1 : Int32) <<< ((J 0 2) &&& 31)) - (1 : Int32) = nI (allS v) := by
        rw [h.1.2.1, i_1, nI_pow (by omega), nI_subL (by omega)]
        rfl
      have hal : allS v < 2 ^ ts v := by
        unfold allS
        omega
      have hread := hB.2 k (by omega) (allS v) hal
      have hpk := pc_le k
      have hps := pc_le s
      rcases hread with ⟨r1, r2⟩ | ⟨r1, r2⟩
      · refine ⟨(if pc k ≤ pc s then s else k, B), ?_, isMost_yes g1 r2, hB⟩
        show X5_match_L1 J _ (fuel + 1) (nI s) (nI k) A = X5_match_L1 J _ fuel (nI (if pc k ≤ pc s then s else k)) (nI (k + 1)) B
        rw [X5_match_L1]
        rw [hM.1.2.2, i_1, nI_pow (by omega), if_neg (by rw [nI_le_iff (by omega) (by omega)]; omega)]
        refine hb.trans ?_
        rw [hall, i_16, nI_mul, nI_sum, rdI_nI (by omega) (by omega), bind_s, r1, if10, bits_pc (by omega), bind_s, bits_pc (by omega), bind_s]
        by_cases c : pc k ≤ pc s
        · rw [if_pos (by rw [nI_le_iff (by omega) (by omega)]; exact c), if_pos c, show nI k + 1 = nI (k + 1) from nI_1 k]
        · rw [if_neg (by rw [nI_le_iff (by omega) (by omega)]; exact c), if_neg c, show nI k + 1 = nI (k + 1) from nI_1 k]
      · refine ⟨(s, B), ?_, isMost_no g1 r2, hB⟩
        show X5_match_L1 J _ (fuel + 1) (nI s) (nI k) A = X5_match_L1 J _ fuel (nI s) (nI (k + 1)) B
        rw [X5_match_L1]
        rw [hM.1.2.2, i_1, nI_pow (by omega), if_neg (by rw [nI_le_iff (by omega) (by omega)]; omega)]
        refine hb.trans ?_
        rw [hall, i_16, nI_mul, nI_sum, rdI_nI (by omega) (by omega), bind_s, r1, if00, show nI k + 1 = nI (k + 1) from nI_1 k])
    (fun fuel z hI => by
      obtain ⟨s, A⟩ := z
      have hM : VM A v := h.mAg hI.2.1
      show X5_match_L1 J _ (fuel + 1) (nI s) (nI (2 ^ tn v)) A = _
      rw [X5_match_L1]
      rw [hM.1.2.2, i_1, nI_pow (by omega), if_pos (Int32.le_refl _), bind_s])
    (2 ^ tn v) bigF 0 (0, J) (by omega) (bigF_gt (by omega)) ⟨isMost_0 (AO_0 v _), mAg.rf J, fun g q => absurd q (by omega)⟩
  have k1 : isMost (fun g => AO v g (allS v)) (2 ^ tn v) s := k1
  have hs : s < 2 ^ tn v := by
    rcases Nat.lt_or_ge s (2 ^ tn v) with w | w
    · exact w
    · exact isMost_lt hv k1
  refine ⟨s, B, by omega, hs, k1, k2, he.trans ?_⟩
  show (X5_bits (nI s)).bind _ = _
  rw [bits_pc (by omega), bind_s, i_2, nI_div (by have := pc_le s; omega) (by omega) (by omega)]
/-! the class -/
def wN (x : Nat) : Nat := foldF (fun m s => if nd m x = 0 then s ||| 2 ^ m else s) 0 16 0
theorem wiT_eq : ∀ x, x < 16 → wiT x = nI (wN x) := by decide +kernel
theorem wN_lt : ∀ x, x < 16 → wN x < 65536 := by decide +kernel
theorem wN_bit0 : ∀ x, x < 16 → ∀ m, m < 16 → (wN x).testBit m = decide (nd m x = 0) := by decide +kernel
theorem bit16 {s x : Nat} (hs : s < 65536) (h : s.testBit x = true) : x < 16 := by
  rcases Nat.lt_or_ge x 16 with w | w
  · exact w
  · have h2 : 2 ^ 16 ≤ 2 ^ x := Nat.pow_le_pow_right (by decide) w
    rw [Nat.testBit_lt_two_pow (by omega)] at h
    cases h
abbrev okJ (s o f q : Nat) : Prop := s.testBit (q / 16) = true ∧ o.testBit (q % 16) = true ∧ nd (q % 16) (nd f (q / 16)) = 0
theorem joined_eq {s o f : Nat} (hs : s < 65536) (ho : o < 65536) (hf : f < 16) : ∃ r, X3_joined (nI s) (nI o) (nI f) = some (nI r) ∧ accB (okJ s o f) fO 256 r := by
  have inner : ∀ (K : Int32 → Option Int32) (S a : Nat), S < 16 → a < 65536 → (∀ m, m < 16 → (a.testBit m = true ↔ okJ s o f (16 * S + m))) → ∀ t, accB (okJ s o f) fO (16 * S) t → ∃ t', accB (okJ s o f) fO (16 * (S + 1)) t' ∧ X3_joined_L2 (nI S) (nI a) K bigF (nI t) (nI 0) = K (nI t') := by
    intro K S a hS ha hbit t ht
    refine loop_T (fun fuel k (t : Nat) => X3_joined_L2 (nI S) (nI a) K fuel (nI t) (nI k)) (fun o' => ∃ t', accB (okJ s o f) fO (16 * (S + 1)) t' ∧ o' = K (nI t')) 16 (fun k t => accB (okJ s o f) fO (16 * S + k) t)
      (fun fuel k t hk hI => ?_) (fun fuel t hI => ?_) 16 bigF 0 t (by omega) (bigF_gt (by omega)) ht
    · show (∃ t', _ ∧ X3_joined_L2 (nI S) (nI a) K (fuel + 1) (nI t) (nI k) = K (nI t')) ∨ ∃ t', X3_joined_L2 (nI S) (nI a) K (fuel + 1) (nI t) (nI k) = _ ∧ _
      rw [X3_joined_L2]
      have hdiv : a / 2 ^ k < 2 ^ 31 := Nat.lt_of_le_of_lt (Nat.div_le_self _ _) (by omega)
      rw [if_neg (by rw [i_16, nI_le_iff (by omega) (by omega)]; omega), nI_shr (by omega) (by omega)]
      by_cases c1 : a / 2 ^ k = 0
      · left
        rw [if_pos (show nI (a / 2 ^ k) = 0 by rw [c1]; rfl)]
        refine ⟨t, accB_no hI (by omega) (fun q q1 q2 w => ?_), rfl⟩
        have hm : q - 16 * S < 16 := by omega
        have hb := (hbit (q - 16 * S) hm).mpr (by rw [show 16 * S + (q - 16 * S) = q by omega]; exact w)
        have hlt : a < 2 ^ k := (Nat.div_eq_zero_iff_lt (Nat.pos_of_ne_zero (by simp))).mp c1
        have h2 : 2 ^ k ≤ 2 ^ (q - 16 * S) := Nat.pow_le_pow_right (by decide) (by omega)
        rw [Nat.testBit_lt_two_pow (by omega)] at hb
        cases hb
      · right
        rw [if_neg (show ¬ nI (a / 2 ^ k) = 0 by rw [i_0, nI_eq_iff hdiv (by omega)]; exact c1), i_1, nI_and, Nat.and_one_is_mod, nI_or]
        have hor : S ||| k < 16 := Nat.or_lt_two_pow (n := 4) hS hk
        have tb := tb_div a k
        by_cases c2 : a.testBit k = true
        · rw [c2] at tb
          have tb2 : a / 2 ^ k % 2 = 1 := by simpa using tb.symm
          rw [if_pos (by rw [tb2]), nI_pow (by omega), nI_or, nI_sum]
          refine ⟨_, rfl, ?_⟩
          have := accB_yes hI ((hbit k hk).mp c2) (fO_lt (by omega))
          rw [show fO (16 * S + k) = S ||| k by unfold fO; rw [show (16 * S + k) / 16 = S by omega, show (16 * S + k) % 16 = k by omega]] at this
          exact this
        · have tb2 : ¬ a / 2 ^ k % 2 = 1 := by
            intro w
            rw [w] at tb
            exact c2 (by simpa using tb)
          rw [if_neg (by rw [nI_eq_iff (by omega) (by omega)]; exact tb2), nI_sum]
          refine ⟨_, rfl, accB_no hI (by omega) (fun q q1 q2 w => ?_)⟩
          rw [show q = 16 * S + k by omega] at w
          exact c2 ((hbit k hk).mpr w)
    · show ∃ t', _ ∧ X3_joined_L2 (nI S) (nI a) K (fuel + 1) (nI t) (nI 16) = K (nI t')
      rw [X3_joined_L2]
      rw [if_pos (by rw [i_16]; exact Int32.le_refl _)]
      exact ⟨t, by rw [show 16 * (S + 1) = 16 * S + 16 by omega]; exact hI, rfl⟩
  unfold X3_joined
  obtain ⟨r, hr, he⟩ := loop_I (fun fuel k (t : Nat) => X3_joined_L1 (nI s) (nI o) (nI f) (fun z => some z) fuel (nI t) (nI k)) (fun t => some (nI t)) 16 (fun k t => accB (okJ s o f) fO (16 * k) t)
    (fun fuel k t hk hI => by
      have hnd := nd_le f k
      have hw := wN_lt (nd f k) (by omega)
      have hand : o &&& wN (nd f k) < 65536 := Nat.lt_of_le_of_lt Nat.and_le_left ho
      have hbits : ∀ m, m < 16 → ((if s.testBit k then o &&& wN (nd f k) else 0).testBit m = true ↔ okJ s o f (16 * k + m)) := fun m hm => by
        rw [okJ, show (16 * k + m) / 16 = k by omega, show (16 * k + m) % 16 = m by omega]
        by_cases c : s.testBit k = true
        · rw [if_pos c, Nat.testBit_and, wN_bit0 _ (by omega) m hm, Bool.and_eq_true, decide_eq_true_eq]
          exact ⟨fun w => ⟨c, w⟩, fun w => w.2⟩
        · rw [if_neg c, Nat.zero_testBit]
          exact ⟨(fun w => nomatch w), (fun w => absurd w.1 c)⟩
      obtain ⟨t', g1, g2⟩ := inner (fun z => X3_joined_L1 (nI s) (nI o) (nI f) (fun z => some z) fuel z (nI k + 1)) k (if s.testBit k then o &&& wN (nd f k) else 0) hk (by split <;> omega) hbits t hI
      refine ⟨t', ?_, g1⟩
      show X3_joined_L1 (nI s) (nI o) (nI f) _ (fuel + 1) (nI t) (nI k) = _
      rw [X3_joined_L1]
      rw [if_neg (by rw [i_16, nI_le_iff (by omega) (by omega)]; omega)]
      have e1 : (if ((nI s >>> (nI k &&& 31)) &&& (1 : Int32)) = (1 : Int32) then ((rdT wiT 16 (nI f &&& (nI k ^^^ (-1 : Int32)))).bind fun v6 => some (nI o &&& v6)) else (some (0 : Int32))) = some (nI (if s.testBit k then o &&& wN (nd f k) else 0)) := by
        by_cases c : s.testBit k = true
        · rw [if_pos (show (nI s >>> (nI k &&& 31)) &&& (1 : Int32) = 1 from (nI_bit1 (by omega) (by omega)).mpr c), nI_nd, rdT_nI (by omega) (by omega), bind_s, wiT_eq _ (by omega), nI_and, if_pos c]
        · rw [if_neg (show ¬ (nI s >>> (nI k &&& 31)) &&& (1 : Int32) = 1 from fun w => c ((nI_bit1 (by omega) (by omega)).mp w)), if_neg c]
          rfl
      rw [e1, bind_s, show (0 : Int32) = nI 0 from rfl]
      rw [show nI k + 1 = nI (k + 1) from nI_1 k] at g2 ⊢
      exact g2)
    (fun fuel t hI => by
      show X3_joined_L1 (nI s) (nI o) (nI f) _ (fuel + 1) (nI t) (nI 16) = _
      rw [X3_joined_L1]
      rw [if_pos (by rw [i_16]; exact Int32.le_refl _)])
    16 bigF 0 0 (by omega) (bigF_gt (by omega)) (accB_0 _ _)
  exact ⟨r, he, hr⟩
theorem stonesAt_eq (hv : vOk v) (i : Nat) (hi : i < tn v) : X3_stonesAt (nI (tt v)) (nI i) (nI (tu v)) (nI (allS v)) = nI (stW v i) := by
  have h6 := hv.1
  have h64 := tt_lt hv
  unfold X3_stonesAt stW
  rw [i_1, nI_ndN]
  by_cases c : (tt v).testBit i = true
  · rw [if_pos ((nI_bit1 (by omega) (by omega)).mpr c), if_pos c]
  · rw [if_neg (fun w => c ((nI_bit1 (by omega) (by omega)).mp w)), if_neg c]
end MA2
