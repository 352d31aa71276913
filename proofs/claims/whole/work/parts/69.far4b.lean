/-! FEWEST GOES: both -/
section FB4
variable {I : xMem} {P : Nat} {v : TV}
theorem spread3_eq (hv : vOk v) (hw : wCl v I) : ∃ B, X3_spread I (nI (tt v)) (nI (tu v)) (nI (allS v)) = some B ∧ fAg I B ∧ RC B (fin v (s1 (16 * tt v + tu v))) := by
  have htt := tt_lt hv
  have htu := tu_lt hv
  have hnow := now_lt hv
  have hBA := s1_BA v hnow
  have epl : pl (16 * tt v + tu v) = tt v + 64 * tu v := by
    unfold pl
    rw [show (16 * tt v + tu v) / 16 = tt v by omega, show (16 * tt v + tu v) % 16 = tu v by omega]
  have hpl := pl_lt hnow
  generalize 16 * tt v + tu v = x0 at *
  unfold X3_spread
  obtain ⟨F, f1, f2, f3⟩ := fillW I 41 (n := 1024) (by omega) (-9)
  rw [f1, bind_s, i_64, nI_mul, nI_sum, ← epl, wrI_nI hpl (by omega), bind_s, wrI_nI hpl (by omega), bind_s, i_0, wrI_nI (by omega) (by omega), bind_s, bind_s]
  have r0 : RC (wr (wr (wr (wr F 41 (pl x0) (nI 0)) 42 (pl x0) (-9)) 43 0 (nI (pl x0))) 39 5 1) (s1 x0) := by
    refine ⟨fun y hy => ?_, fun y hy hd => ?_, fun k hk => ?_, wr_eq _ _ _ _⟩
    · rw [wr_off _ _ (by omega), wr_off _ _ (by omega), wr_off _ _ (by omega), wr_at]
      by_cases e : y = x0
      · have hz : bd (s1 x0) y = 0 := if_pos e
        rw [if_pos ⟨rfl, by rw [e]⟩, hz, if_neg (by decide)]
      · have hz : bd (s1 x0) y = 9999 := if_neg e
        rw [if_neg (fun w => e (pl_inj hy hnow w.2)), hz, if_pos rfl]
        exact f3 _ (pl_lt hy)
    · have e : y = x0 := by
        by_cases e : y = x0
        · exact e
        · exact absurd (if_neg e : bd (s1 x0) y = 9999) hd
      have hz : bd (s1 x0) y = 0 := if_pos e
      rw [hz, if_pos rfl, wr_off _ _ (by omega), wr_off _ _ (by omega), e, wr_eq]
    · have hk : k < 1 := hk
      have e : k = 0 := by omega
      subst e
      rw [wr_off _ _ (by omega), wr_eq]
      rfl
  have a0 : fAg I (wr (wr (wr (wr F 41 (pl x0) (nI 0)) 42 (pl x0) (-9)) 43 0 (nI (pl x0))) 39 5 1) := fun a b q1 q2 q3 q4 => by
    rw [wr_off _ _ (by omega), wr_off _ _ (by omega), wr_off _ _ (by omega), wr_off _ _ (by omega)]
    exact f2 a b q1
  have run : ∃ B, fAg I B ∧ RC B (fin v (s1 x0)) ∧ X3_spread_L1 (nI (allS v)) (fun (I9 : xMem) => some I9) bigF (nI 0) (wr (wr (wr (wr F 41 (pl x0) (nI 0)) 42 (pl x0) (-9)) 43 0 (nI (pl x0))) 39 5 1) = some B := by
    refine loop_T (fun fuel k (A : xMem) => X3_spread_L1 (nI (allS v)) (fun (I9 : xMem) => some I9) fuel (nI k) A) (fun o => ∃ B, fAg I B ∧ RC B (fin v (s1 x0)) ∧ o = some B) 1024 (fun k A => k ≤ be (st v (s1 x0) k) ∧ RC A (st v (s1 x0) k) ∧ fAg I A)
      (fun fuel k A hk hI => ?_) (fun fuel A hI => ?_) 1024 bigF 0 _ (by omega) (bigF_gt (by omega)) ⟨Nat.zero_le _, r0, a0⟩
    · obtain ⟨g1, g2, g3⟩ := hI
      have hB := (st_BA hv hBA k g1).1
      have hel := hB.e_le
      have hwA := hw.f g3
      show (∃ B, _ ∧ _ ∧ X3_spread_L1 (nI (allS v)) _ (fuel + 1) (nI k) A = some B) ∨ ∃ s', X3_spread_L1 (nI (allS v)) _ (fuel + 1) (nI k) A = _ ∧ _
      rw [X3_spread_L1]
      by_cases c : k < be (st v (s1 x0) k)
      · right
        have hCX : CX v (fun z => z = x0) k (bl (st v (s1 x0) k) k) A A (st v (s1 x0) k) := ⟨g2, fAg.rf A, ⟨_, hB⟩, c, rfl⟩
        obtain ⟨B, b1, b2, b3, b4, b5, b6⟩ := leave_eq hv hwA hCX
        refine ⟨B, ?_, ?_, by rw [st_lt c]; exact b2, g3.tr b3⟩
        · rw [g2.2.2.2, if_neg (by rw [nI_le_iff (by omega) (by omega)]; omega), if_neg (by rw [show (1024 : Int32) = nI 1024 from rfl, nI_le_iff (by omega) (by omega)]; omega), rdI_nI (by omega) (by omega), bind_s, g2.2.2.1 k c, b1, bind_s, i_1, nI_sum]
        · have := (st_gr v (s1 x0) k).1
          omega
      · left
        rw [g2.2.2.2, if_pos (by rw [nI_le_iff (by omega) (by omega)]; omega)]
        have e := st_stay (v := v) (s0 := s1 x0) (E := k) (by omega) (1024 - k)
        rw [show k + (1024 - k) = 1024 by omega] at e
        refine ⟨A, g3, ?_, rfl⟩
        show RC A (st v (s1 x0) 1024)
        rw [e]
        exact g2
    · obtain ⟨g1, g2, g3⟩ := hI
      have hel := (st_BA hv hBA 1024 g1).1.e_le
      show ∃ B, _ ∧ _ ∧ X3_spread_L1 (nI (allS v)) _ (fuel + 1) (nI 1024) A = some B
      rw [X3_spread_L1]
      rw [g2.2.2.2, if_pos (by rw [nI_le_iff (by omega) (by omega)]; omega)]
      exact ⟨A, g3, g2, rfl⟩
  obtain ⟨B, b1, b2, b3⟩ := run
  exact ⟨B, b3, b1, b2⟩
theorem spread4_eq (hP : P = 52 ∨ P = 57) (hv : vOk v) (h : VC I P v) : ∃ B, X4_spread P I = some B ∧ cAg I B ∧ RC B (fin v (s1 (16 * tt v + tu v))) := by
  obtain ⟨I1, e1, e2, e3⟩ := h.ways hP hv
  have hC1 := h.wA2 hP e2
  obtain ⟨B, b1, b2, b3⟩ := spread3_eq hv e3
  unfold X4_spread
  refine ⟨B, ?_, e2.c.tr b2.c, b3⟩
  rw [e1, bind_s, hC1.top, bind_s, hC1.stonesUp, bind_s, hC1.allStones hv, b1, bind_s]
theorem and64 {x set : Nat} (hs : set < 64) : pl x &&& set = (x / 16) % 64 &&& set := by
  have e : set = 63 &&& set := by
    rw [Nat.and_comm]
    exact (Nat.and_two_pow_sub_one_of_lt_two_pow (n := 6) hs).symm
  have e2 : pl x &&& 63 = (x / 16) % 64 := by
    rw [show pl x &&& 63 = pl x % 64 from Nat.and_two_pow_sub_one_eq_mod (pl x) 6]
    unfold pl
    omega
  rw [e, ← Nat.and_assoc, e2, Nat.and_comm 63 set, Nat.and_two_pow_sub_one_of_lt_two_pow (n := 6) hs]
theorem nearest_eq (hv : vOk v) {src : Nat → Prop} {s : BS} (hB : BI v src s (be s) (fun _ _ => False)) (hR : RC I s) {set tops : Nat} (hs : set < 64) (ht : tops < 64) : (X3_nearest I (nI set) (nI tops) = some (-9) ∧ ∀ k, k < be s → ¬ (bl s k / 16) &&& set = tops) ∨ ∃ n, n < be s ∧ (bl s n / 16) &&& set = tops ∧ (∀ k, k < n → ¬ (bl s k / 16) &&& set = tops) ∧ X3_nearest I (nI set) (nI tops) = some (nI (pl (bl s n))) := by
  have hel := hB.e_le
  unfold X3_nearest
  refine loop_T (fun fuel k (_ : Unit) => X3_nearest_L1 I (nI set) (nI tops) (some (-9 : Int32)) fuel (nI k)) (fun o => (o = some (-9) ∧ ∀ k, k < be s → ¬ (bl s k / 16) &&& set = tops) ∨ ∃ n, n < be s ∧ (bl s n / 16) &&& set = tops ∧ (∀ k, k < n → ¬ (bl s k / 16) &&& set = tops) ∧ o = some (nI (pl (bl s n)))) (be s) (fun k _ => ∀ k', k' < k → ¬ (bl s k' / 16) &&& set = tops)
    (fun fuel k _ hk hI => ?_) (fun fuel _ hI => ?_) (be s) bigF 0 () (by omega) (bigF_gt (by omega)) (fun k' q => absurd q (by omega))
  · show ((X3_nearest_L1 I (nI set) (nI tops) _ (fuel + 1) (nI k) = _ ∧ _) ∨ ∃ n, n < be s ∧ _ ∧ _ ∧ X3_nearest_L1 I (nI set) (nI tops) _ (fuel + 1) (nI k) = _) ∨ ∃ s' : Unit, X3_nearest_L1 I (nI set) (nI tops) _ (fuel + 1) (nI k) = _ ∧ _
    have hln := (hB.2.1 k hk).1
    have hpl := pl_lt hln
    have hand : (bl s k / 16) % 64 &&& set < 64 := Nat.lt_of_le_of_lt Nat.and_le_right hs
    rw [X3_nearest_L1]
    rw [hR.2.2.2, if_neg (by rw [nI_le_iff (by omega) (by omega)]; omega), if_neg (by rw [show (1024 : Int32) = nI 1024 from rfl, nI_le_iff (by omega) (by omega)]; omega), rdI_nI (by omega) (by omega), bind_s, bind_s, hR.2.2.1 k hk, nI_and, and64 hs, show bl s k / 16 % 64 = bl s k / 16 by omega]
    rw [show bl s k / 16 % 64 = bl s k / 16 by omega] at hand
    by_cases c : (bl s k / 16) &&& set = tops
    · left
      rw [if_pos (by rw [c])]
      exact Or.inr ⟨k, hk, c, hI, rfl⟩
    · right
      rw [if_neg (by rw [nI_eq_iff (by omega) (by omega)]; exact c), i_1, nI_sum]
      refine ⟨(), rfl, fun k' q => ?_⟩
      by_cases e : k' = k
      · rw [e]; exact c
      · exact hI k' (by omega)
  · show (X3_nearest_L1 I (nI set) (nI tops) _ (fuel + 1) (nI (be s)) = _ ∧ _) ∨ ∃ n, n < be s ∧ _ ∧ _ ∧ X3_nearest_L1 I (nI set) (nI tops) _ (fuel + 1) (nI (be s)) = _
    rw [X3_nearest_L1]
    rw [hR.2.2.2, if_pos (Int32.le_refl _)]
    exact Or.inl ⟨rfl, hI⟩
theorem moved_eq (hv : vOk v) {src : Nat → Prop} {s : BS} (hB : BI v src s (be s) (fun _ _ => False)) (hR : RC I s) : X3_moved I (nI (tt v)) = some (nI (mvN v s (be s))) := by
  have hel := hB.e_le
  unfold X3_moved
  obtain ⟨a, ha, he⟩ := loop_I (fun fuel k (a : Nat) => X3_moved_L1 I (nI (tt v)) (fun z => some z) fuel (nI a) (nI k)) (fun a => some (nI a)) (be s) (fun k a => a = mvN v s k)
    (fun fuel k a hk hI => by
      have hln := (hB.2.1 k hk).1
      have hpl := pl_lt hln
      refine ⟨a ||| ((bl s k / 16) ^^^ tt v), ?_, by rw [mvN_succ, hI]⟩
      show X3_moved_L1 I (nI (tt v)) _ (fuel + 1) (nI a) (nI k) = _
      rw [X3_moved_L1]
      rw [hR.2.2.2, if_neg (by rw [nI_le_iff (by omega) (by omega)]; omega), if_neg (by rw [show (1024 : Int32) = nI 1024 from rfl, nI_le_iff (by omega) (by omega)]; omega), rdI_nI (by omega) (by omega), bind_s, hR.2.2.1 k hk, i_64, nI_rem (by omega) (by omega) (by omega), nI_xor, nI_or, i_1, nI_sum, show pl (bl s k) % 64 = bl s k / 16 by unfold pl; omega])
    (fun fuel a hI => by
      show X3_moved_L1 I (nI (tt v)) _ (fuel + 1) (nI a) (nI (be s)) = _
      rw [X3_moved_L1]
      rw [hR.2.2.2, if_pos (Int32.le_refl _)])
    (be s) bigF 0 0 (by omega) (bigF_gt (by omega)) rfl
  rw [← ha]
  exact he
theorem WK_in (hv : vOk v) {x0 : Nat} (h1 : x0 / 16 < 2 ^ tn v) (h2 : x0 % 16 < 2 ^ ts v) : ∀ (n : Nat) {y : Nat}, WK v (fun z => z = x0) n y → y / 16 < 2 ^ tn v ∧ y % 16 < 2 ^ ts v
  | 0, y, w => by
    have w : y = x0 := w
    rw [w]
    exact ⟨h1, h2⟩
  | n + 1, y, ⟨x, p, c, w1, w2, w3⟩ => by
    obtain ⟨a, b⟩ := WK_in hv h1 h2 n w1
    have hc := eO_c hv w2
    have hc16 := eO_c16 hv w2
    have hh := w2.1
    rw [w3, nx_div hc16, nx_mod hc16]
    exact ⟨xp_lt a (by omega) (by omega), Nat.xor_lt_two_pow b hc⟩
end FB4
section OPF
variable {I J : xMem} {L M : xLon} {P Dr : Nat}
theorem few_both (h : Sim I L P Dr J M) {v : TV} (hv : vOk v) (hC : VC I P v) (hM : VM J v) {set tops : Nat} (hs : set < 64) (ht : tops < 64) : Bt L P Dr M (X4_fewestGoes P I (nI set) (nI tops)) (X5_fewestGoes J (nI set) (nI tops)) := by
  have hPD := h.1
  unfold isPD at hPD
  have hP : P = 52 ∨ P = 57 := by omega
  have hnow := now_lt hv
  have htt := hv.2.2.2.2.2.2.2.1
  have htu := hv.2.2.2.2.2.2.2.2
  have htu16 := tu_lt hv
  obtain ⟨t, B, t1, t2, t3⟩ := few5_eq hv hM set tops hs ht
  obtain ⟨A, a1, a2, a3⟩ := spread4_eq hP hv hC
  have hBA := fin_BA hv (s1_BA v hnow)
  obtain ⟨m1, m2⟩ := ways_meet hv hBA t1
  have hBI := hBA.1
  generalize hz : fin v (s1 (16 * tt v + tu v)) = z at a3 m1 m2 hBI
  clear hBA hz
  have d1 : (16 * tt v + tu v) / 16 = tt v := by omega
  have d2 : (16 * tt v + tu v) % 16 = tu v := by omega
  have goal : ∀ k, k < be z → ((bl z k / 16) &&& set = tops ↔ gG5 v set tops (bl z k)) := fun k hk => by
    have hel := hBI.e_le
    obtain ⟨l1, l2⟩ := hBI.2.1 k hk
    obtain ⟨w1, w2⟩ := WK_in hv (by rw [d1]; exact htt) (by rw [d2]; exact htu) _ (hBI.2.2.2.2.2.2.2.1 _ l1 (by omega))
    exact ⟨fun w => ⟨l1, w1, w2, w⟩, fun w => w.2.2.2⟩
  unfold X4_fewestGoes
  rw [a1, bind_s]
  rcases nearest_eq hv hBI a3 hs ht with ⟨n1, n2⟩ | ⟨n, n1, n2, n3, n4⟩
  · have far := m1 (fun i hi w => n2 i hi ((goal i hi).mpr w))
    rcases t3 with ⟨q1, q2⟩ | ⟨q1, -⟩
    · rw [n1, bind_s, if_pos rfl, q2]
      exact Bt.mk rfl rfl rfl (h.scr a2 t2)
    · exact absurd far q1
  · obtain ⟨k1, k2, k3⟩ := m2 n n1 ((goal n n1).mp n2) (fun i hi w => n3 i hi ((goal i (by omega)).mpr w))
    have l1 := (hBI.2.1 n n1).1
    have hpl := pl_lt l1
    rcases t3 with ⟨q1, -⟩ | ⟨q1, a, q2, q3⟩
    · omega
    · have hne : ¬ nI (pl (bl z n)) = -9 := fun w => by
        have := congrArg Int32.toInt w
        rw [nI_toInt (by omega), show (-9 : Int32).toInt = -9 from rfl] at this
        omega
      have r41 := a3.1 _ l1
      rw [if_neg (show ¬ bd z (bl z n) = 9999 by omega)] at r41
      have r42 := a3.2.1 _ l1 (by omega)
      rw [q3]
      rw [n4, bind_s, if_neg hne, rdI_nI hpl (by omega), bind_s, r41, rdI_nI hpl (by omega), bind_s, r42]
      have ea : (if nI (bd z (bl z n)) = (0 : Int32) then (some (-9 : Int32)) else some (if bd z (bl z n) = 0 then (-9 : Int32) else nI (bf z (bl z n)))) = some a := by
        by_cases c : bd z (bl z n) = 0
        · rw [if_pos (by rw [c]; rfl)]
          rcases q2 with ⟨e1, -⟩ | ⟨q, -, -, ⟨c', w1, w2, w3⟩, -⟩
          · rw [e1]
          · omega
        · rw [if_neg (by rw [i_0, nI_eq_iff (by omega) (by omega)]; exact c), if_neg c]
          obtain ⟨⟨c', w1, w2⟩, w3⟩ := k3 (by omega)
          have hc16 := eO_c16 hv w1
          have hp36 := eO_p hv w1
          rcases q2 with ⟨-, e2⟩ | ⟨q, e1, e2, ⟨c2, x1, x2, x3⟩, e4, e5⟩
          · exact absurd ⟨c', hc16, w1, w2⟩ (e2 _ (Nat.zero_le _) hp36)
          · have y1 := w3 q c2 x2 x3
            have y2 : q ≤ bf z (bl z n) := by
              rcases Nat.lt_or_ge (bf z (bl z n)) q with w | w
              · exact absurd ⟨c', hc16, w1, w2⟩ (e5 _ (Nat.zero_le _) w)
              · exact w
            rw [e4, show q = bf z (bl z n) by omega]
      rw [ea, bind_s, bind_s, rdI_nI hpl (by omega), bind_s, wr_off (k := 0) A a (show (41 : Nat) ≠ 0 ∨ pl (bl z n) ≠ 10 by omega), r41]
      exact Bt.mk rfl rfl (by rw [k1]) ((h.scr a2 t2).told a)
theorem op_ever (h : Sim I L P Dr J M) : Bt L P Dr M (X4_ever P I) (X5_ever J) := by
  obtain ⟨v, hv, hC, hM⟩ := h.view
  have hPD := h.1
  unfold isPD at hPD
  have hP : P = 52 ∨ P = 57 := by omega
  have h6 := hv.1
  have hnow := now_lt hv
  by_cases c : tn v = 0
  · unfold X4_ever X5_ever
    rw [hC.1.2.2, hM.1.2.2, if_pos (by rw [c]; rfl), if_pos (by rw [c]; rfl)]
    exact Bt.mk rfl rfl rfl h
  · obtain ⟨B, b1, b2⟩ := ever5_eq hv hM (by omega)
    obtain ⟨A, a1, a2, a3⟩ := spread4_eq hP hv hC
    have hBI := (fin_BA hv (s1_BA v hnow)).1
    refine Bt.mk (I' := A) ?_ b2 rfl (h.scr a2 b1)
    unfold X4_ever
    rw [hC.1.2.2, if_neg (by rw [i_0, nI_eq_iff (by omega) (by omega)]; exact c), a1, bind_s, (hC.cAg hP a2).top, bind_s, moved_eq hv hBI a3, bind_s]
theorem group_eq (h : Sim I L P Dr J M) (x1 : Int32) : (X4_isNoGroup P I x1 = 1 ∧ X5_areOnes J x1 = 0) ∨ ∃ set, set < 64 ∧ x1 = nI set ∧ X4_isNoGroup P I x1 = 0 ∧ X5_areOnes J x1 = 1 := by
  obtain ⟨v, hv, hC, hM⟩ := h.view
  have h6 := hv.1
  have h64 := p2n hv
  have h0 : 0 < 2 ^ tn v := Nat.pos_of_ne_zero (by simp)
  have q0 : (0 : Int32).toInt = 0 := rfl
  have r0 : (0 : Int64).toInt = 0 := rfl
  unfold X4_isNoGroup X5_areOnes
  rw [in_spec, t64, r0, hC.1.2.2, hM.1.2.2, i_1, nI_pow (by omega), nI_subL (by omega), t64, nI_toInt (by omega)]
  simp only [Int32.lt_iff_toInt_lt, nI_toInt (show 2 ^ tn v < 2 ^ 31 by omega), q0]
  by_cases c : 0 ≤ x1.toInt ∧ x1.toInt ≤ ((2 ^ tn v - 1 : Nat) : Int)
  · obtain ⟨set, hs, rfl⟩ := ix_of (x := x1) (N := 64) ⟨by omega, by omega⟩ (by omega)
    right
    refine ⟨set, hs, rfl, ?_, ?_⟩
    · rw [if_neg (by omega), if_pos (by omega)]
      rfl
    · rw [if_pos c]
      rfl
  · left
    refine ⟨?_, ?_⟩
    · by_cases c2 : x1.toInt < 0
      · rw [if_pos c2]
        rfl
      · rw [if_neg c2, if_neg (by omega)]
        rfl
    · rw [if_neg c]
      rfl
theorem op_up (h : Sim I L P Dr J M) (x1 : Int32) : Bt L P Dr M (X4_up P I x1) (X5_up J x1) := by
  unfold X4_up X5_up
  rcases group_eq h x1 with ⟨g1, g2⟩ | ⟨set, hs, rfl, g1, g2⟩
  · rw [g1, g2, if10, if00]
    exact Bt.mk rfl rfl rfl h
  · obtain ⟨v, hv, hC, hM⟩ := h.view
    obtain ⟨r, A, B, e1, e2, e3⟩ := few_both h hv hC hM hs hs
    rw [g1, g2, if00, if10, e1, e2]
    exact Bt.mk rfl rfl rfl e3
theorem op_down (h : Sim I L P Dr J M) (x1 : Int32) : Bt L P Dr M (X4_down P I x1) (X5_down J x1) := by
  unfold X4_down X5_down
  rcases group_eq h x1 with ⟨g1, g2⟩ | ⟨set, hs, rfl, g1, g2⟩
  · rw [g1, g2, if10, if00]
    exact Bt.mk rfl rfl rfl h
  · obtain ⟨v, hv, hC, hM⟩ := h.view
    obtain ⟨r, A, B, e1, e2, e3⟩ := few_both h hv hC hM hs (tops := 0) (by omega)
    rw [g1, g2, if00, if10, show (0 : Int32) = nI 0 from rfl, e1, e2]
    exact Bt.mk rfl rfl rfl e3
end OPF
