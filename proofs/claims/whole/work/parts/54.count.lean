/-! WHAT IS TOLD, COUNTS, DIGEST -/
theorem foldF_add {σ : Type} (g : Nat → σ → σ) : ∀ (a b k : Nat) (s : σ), foldF g k (a + b) s = foldF g (k + a) b (foldF g k a s)
  | a, 0, k, s => rfl
  | a, b + 1, k, s => by
    rw [← Nat.add_assoc, foldF_succ, foldF_succ, foldF_add g a b k s, Nat.add_assoc]
theorem foldF_shift {σ : Type} (g : Nat → σ → σ) (o : Nat) : ∀ (m k : Nat) (s : σ), foldF (fun w => g (o + w)) k m s = foldF g (o + k) m s
  | 0, _, _ => rfl
  | m + 1, k, s => by
    show foldF (fun w => g (o + w)) (k + 1) m (g (o + k) s) = foldF g (o + k + 1) m (g (o + k) s)
    rw [foldF_shift g o m (k + 1), Nat.add_assoc]
theorem foldF_flat {σ : Type} (g : Nat → σ → σ) (c : Nat) : ∀ (n : Nat) (s : σ), foldF g 0 (c * n) s = foldF (fun i z => foldF (fun w => g (c * i + w)) 0 c z) 0 n s
  | 0, _ => rfl
  | n + 1, s => by
    rw [Nat.mul_succ, foldF_add, foldF_flat g c n s, foldF_succ]
    show _ = foldF (fun w => g (c * (0 + n) + w)) 0 c _
    rw [foldF_shift, Nat.zero_add, Nat.add_zero, Nat.zero_add]
def dg (x : Int32) (z : Int64) : Int64 := (31 : Int64) * z + x.toInt64
def szN (x : Int32) : Nat := x.toNatClampNeg
theorem szN_cases {x : Int32} {N : Nat} (h : szOk x N) (hN : N < 2 ^ 31) : (x = -1 ∧ szN x = 0) ∨ (szN x ≤ N ∧ x = nI (szN x)) := by
  rcases h with h | ⟨s, h1, h2⟩
  · exact Or.inl ⟨h, by rw [h]; rfl⟩
  · refine Or.inr ?_
    have : szN x = s := by rw [h2]; exact nI_clamp (by omega)
    rw [this]
    exact ⟨h1, h2⟩
theorem szN_end {x : Int32} {N : Nat} (h : szOk x N) (hN : N < 2 ^ 31) : x ≤ nI (szN x) := by
  rcases szN_cases h hN with ⟨h1, h2⟩ | ⟨h1, h2⟩
  · rw [h2, h1]; decide
  · rw [← h2]; exact Int32.le_refl _
theorem szN_in {x : Int32} {N k : Nat} (h : szOk x N) (hN : N < 2 ^ 31) (hk : k < szN x) : ¬ x ≤ nI k ∧ k < N := by
  rcases szN_cases h hN with ⟨h1, h2⟩ | ⟨h1, h2⟩
  · omega
  · refine ⟨?_, by omega⟩
    rw [h2, nI_le_iff (by omega) (by omega)]
    omega
/-- rows, by their lengths and items -/
def rowD (sz : Nat → Int32) (it : Nat → Nat → Int32) (N : Nat) (z : Int64) : Int64 := foldF (fun r z => foldF (fun i z => dg (it r i) z) 0 (szN (sz r)) (dg (sz r) z)) 0 N z
theorem rowD_congr {sz sz' : Nat → Int32} {it it' : Nat → Nat → Int32} {N M : Nat} (hM : M < 2 ^ 31) (h0 : ∀ r, r < N → szOk (sz r) M) (h1 : ∀ r, r < N → sz' r = sz r) (h2 : ∀ r i, r < N → i < M → it' r i = it r i) (z : Int64) : rowD sz' it' N z = rowD sz it N z :=
  foldF_congr N 0 z (fun r s _ h => by
    rw [h1 r (by omega)]
    exact foldF_congr _ 0 _ (fun i s _ hi => by
      have := (szN_in (k := i) (h0 r (by omega)) hM (by omega)).2
      rw [h2 r i (by omega) this]))
theorem i_11 : (11 : Int32) = nI 11 := rfl
section OPC
variable {I J : xMem} {L M : xLon} {P Dr : Nat}
theorem op_asked (h : Sim I L P Dr J M) : X4_asked I = X5_asked J := h.2.2.1.1
theorem op_upper (h : Sim I L P Dr J M) : X4_upper L = X5_upper M := h.2.2.2.1.1
theorem op_lower (h : Sim I L P Dr J M) : X4_lower L = X5_lower M := h.2.2.2.1.2
theorem op_finding (h : Sim I L P Dr J M) : X4_finding I = X5_finding J := h.2.2.1.2.1
theorem op_findings (h : Sim I L P Dr J M) (x1 : Int32) : ∃ r, X4_findings I x1 = some r ∧ X5_findings J x1 = some r := by
  have h1' : ((1 : Int32).toInt) = 1 := rfl
  have h5' : ((5 : Int32).toInt) = 5 := rfl
  unfold X4_findings X5_findings
  rw [in_15]
  by_cases c2 : 1 ≤ x1.toInt ∧ x1.toInt ≤ 5
  · have q1 : ¬ x1 < 1 := by rw [Int32.lt_iff_toInt_lt, h1']; omega
    have q2 : x1 ≤ 5 := by rw [Int32.le_iff_toInt_le, h5']; omega
    rw [if_pos c2, if10, if_neg q1, if_pos q2]
    obtain ⟨q, hq, rfl⟩ := nI_of (x := x1) (by rw [Int32.lt_iff_toInt_lt]; show ¬ x1.toInt < 0; omega)
    rw [nI_toInt hq] at c2
    rw [rdI_nI (by omega) (by omega), bind_s, rdI_nI (by omega) (by omega), bind_s, h.2.2.1.2.2 q (by omega) (by omega)]
    exact ⟨_, rfl, rfl⟩
  · rw [if_neg c2, if00]
    by_cases q1 : x1 < 1
    · rw [if_pos q1]
      exact ⟨_, rfl, rfl⟩
    · rw [if_neg q1]
      have q2 : ¬ x1 ≤ 5 := by
        rw [Int32.lt_iff_toInt_lt, h1'] at q1
        rw [Int32.le_iff_toInt_le, h5']
        omega
      rw [if_neg q2]
      exact ⟨_, rfl, rfl⟩
theorem VM.those {J : xMem} {v : TV} (hv : vOk v) (h : VM J v) {q : Nat} (hq5 : q ≤ 5) : X5_those J (nI q) = some (nI (kindN v q)) := by
  have h6 := hv.1
  unfold X5_those
  have key := loop_F (fun fuel k (s : Nat) => X5_those_L1 J (nI q) (fun z => some z) fuel (nI s) (nI k)) (fun s => some (nI s)) (tn v) (fun k s => s + (if isA (tk v k) q then 1 else 0)) (fun _ _ => True)
    (fun fuel k s hk _ => ⟨by
      show X5_those_L1 J (nI q) _ (fuel + 1) (nI s) (nI k) = _
      rw [X5_those_L1]
      have q1 : ¬ nI (tn v) ≤ nI k := by rw [nI_le_iff (by omega) (by omega)]; omega
      rw [h.1.2.2, if_neg q1, h.isOf hv hk hq5, bind_s]
      cases isA (tk v k) q
      · simp only [Bool.false_eq_true, if_false]
        rw [if_pos trivial, bind_s, i_0, i_1, nI_sum, nI_sum]
      · simp only [if_true]
        rw [if10, bind_s, i_1, nI_sum, nI_sum], trivial⟩)
    (fun fuel s _ => by
      show X5_those_L1 J (nI q) _ (fuel + 1) (nI s) (nI (tn v)) = _
      rw [X5_those_L1]
      rw [h.1.2.2, if_pos (Int32.le_refl _)])
    (tn v) bigF 0 0 (by omega) (bigF_gt (by omega)) trivial
  rw [foldF_sum (fun k => if isA (tk v k) q then 1 else 0)] at key
  exact key
/-- how many rows, texts are there; towers kept -/
def thN (f : Nat → Int32) (N : Nat) : Nat := sumN (fun k => if f k = -1 then 0 else 1) N
theorem howRows {I : xMem} {y N : Nat} (hm : I y 0 = nI N) (hc : cLen (y + 1) = N) (hN : N ≤ 6) : X2_howMany y I = some (nI (thN (I (y + 1)) N)) := by
  unfold X2_howMany
  have key := loop_F (fun fuel k (s : Nat) => X2_howMany_L1 y I (fun z => some z) fuel (nI s) (nI k)) (fun s => some (nI s)) N (fun k s => s + (if I (y + 1) k = -1 then 0 else 1)) (fun _ _ => True)
    (fun fuel k s hk _ => ⟨by
      show X2_howMany_L1 y I _ (fuel + 1) (nI s) (nI k) = _
      rw [X2_howMany_L1]
      have q1 : ¬ nI N ≤ nI k := by rw [nI_le_iff (by omega) (by omega)]; omega
      rw [hm, if_neg q1, missing_eq hc hN hk, bind_s]
      by_cases c : I (y + 1) k = -1
      · rw [if_pos c, if10, bind_s, if_pos c, i_0, i_1, nI_sum, nI_sum]
      · rw [if_neg c, if00, bind_s, if_neg c, i_1, nI_sum, nI_sum], trivial⟩)
    (fun fuel s _ => by
      show X2_howMany_L1 y I _ (fuel + 1) (nI s) (nI N) = _
      rw [X2_howMany_L1]
      rw [hm, if_pos (Int32.le_refl _)])
    N bigF 0 0 (by omega) (bigF_gt (by omega)) trivial
  rw [foldF_sum (fun k => if I (y + 1) k = -1 then 0 else 1)] at key
  exact key
theorem neg_sz {x : Int32} {N : Nat} (h : szOk x N) (hN : N < 2 ^ 31) : (x < 0 ↔ x = -1) ∧ (0 ≤ x ↔ ¬ x = -1) := by
  have h0 : ((0 : Int32).toInt) = 0 := rfl
  rcases h with h | ⟨s, h1, h2⟩
  · rw [h]; decide
  · have hs : x.toInt = s := by rw [h2]; exact nI_toInt (by omega)
    have hm : ¬ x = -1 := by
      intro w
      rw [w] at hs
      have : ((-1 : Int32).toInt) = -1 := rfl
      omega
    rw [Int32.lt_iff_toInt_lt, Int32.le_iff_toInt_le, h0, hs]
    exact ⟨⟨fun w => by omega, fun w => absurd w hm⟩, ⟨fun _ => hm, fun _ => by omega⟩⟩
theorem thereRows (h : Sim I L P Dr J M) : X5_thereOf J 10 = some (nI (thN (I 2) 6)) := by
  unfold X5_thereOf
  have key := loop_F (fun fuel k (s : Nat) => X5_thereOf_L1 J 10 (fun z => some z) fuel (nI s) (nI k)) (fun s => some (nI s)) 6 (fun k s => s + (if I 2 k = -1 then 0 else 1)) (fun _ _ => True)
    (fun fuel k s hk _ => ⟨by
      show X5_thereOf_L1 J 10 _ (fuel + 1) (nI s) (nI k) = _
      rw [X5_thereOf_L1]
      have q1 : ¬ (6 : Int32) ≤ nI k := by rw [i_6, nI_le_iff (by omega) (by omega)]; omega
      obtain ⟨z1, z2, -⟩ := h.2.1.2.1 k hk
      rw [if_neg q1, if_pos rfl, rdI_nI hk (by omega), bind_s, z2]
      by_cases c : I 2 k = -1
      · rw [if_neg (fun w => (neg_sz z1 (by omega)).2.mp w c), bind_s, if_pos c, i_0, i_1, nI_sum, nI_sum]
      · rw [if_pos ((neg_sz z1 (by omega)).2.mpr c), bind_s, if_neg c, i_1, nI_sum, nI_sum], trivial⟩)
    (fun fuel s _ => by
      show X5_thereOf_L1 J 10 _ (fuel + 1) (nI s) (nI 6) = _
      rw [X5_thereOf_L1]
      rw [if_pos (by decide)])
    6 bigF 0 0 (by omega) (bigF_gt (by omega)) trivial
  rw [foldF_sum (fun k => if I 2 k = -1 then 0 else 1)] at key
  exact key
theorem thereTexts (h : Sim I L P Dr J M) : X5_thereOf J 11 = some (nI (thN (I 11) 4)) := by
  unfold X5_thereOf
  have key := loop_F (fun fuel k (s : Nat) => X5_thereOf_L1 J 11 (fun z => some z) fuel (nI s) (nI k)) (fun s => some (nI s)) 6 (fun k s => s + (if 4 ≤ k then 0 else if I 11 k = -1 then 0 else 1)) (fun _ _ => True)
    (fun fuel k s hk _ => ⟨by
      show X5_thereOf_L1 J 11 _ (fuel + 1) (nI s) (nI k) = _
      rw [X5_thereOf_L1]
      have q1 : ¬ (6 : Int32) ≤ nI k := by rw [i_6, nI_le_iff (by omega) (by omega)]; omega
      have q2 : ¬ (11 : Int32) = 10 := by decide
      rw [if_neg q1, if_neg q2, if_pos rfl]
      by_cases c4 : 4 ≤ k
      · have q3 : (4 : Int32) ≤ nI k := by rw [i_4, nI_le_iff (by omega) (by omega)]; omega
        rw [if_pos q3, bind_s, if_pos c4, i_0, i_1, nI_sum, nI_sum]
      · have q3 : ¬ (4 : Int32) ≤ nI k := by rw [i_4, nI_le_iff (by omega) (by omega)]; omega
        obtain ⟨z1, z2, -⟩ := h.2.1.2.2 k (by omega)
        rw [if_neg q3, if_neg c4, rdI_nI (by omega) (by omega), bind_s, z2]
        by_cases c : I 11 k = -1
        · rw [if_pos ((neg_sz z1 (by omega)).1.mpr c), bind_s, if_pos c, i_0, i_1, nI_sum, nI_sum]
        · rw [if_neg (fun w => c ((neg_sz z1 (by omega)).1.mp w)), bind_s, if_neg c, i_1, nI_sum, nI_sum], trivial⟩)
    (fun fuel s _ => by
      show X5_thereOf_L1 J 11 _ (fuel + 1) (nI s) (nI 6) = _
      rw [X5_thereOf_L1]
      rw [if_pos (by decide)])
    6 bigF 0 0 (by omega) (bigF_gt (by omega)) trivial
  rw [foldF_sum (fun k => if 4 ≤ k then 0 else if I 11 k = -1 then 0 else 1)] at key
  exact key
/-- the value of a kept place -/
theorem Sim.kv (h : Sim I L P Dr J M) {k : Nat} (hk : k < 3) : szOk (J 1 (165 + 165 * k)) 40 ∧ ((I 38 k = 0 ∧ J 1 (165 + 165 * k) = -1) ∨ (¬ I 38 k = 0 ∧ J 1 (165 + 165 * k) = I (23 + 5 * k) 0 ∧ ¬ I (23 + 5 * k) 0 = -1)) := by
  obtain ⟨-, -, -, -, v, d, T, U, E, S, -, -, -, -, hK⟩ := h
  obtain ⟨-, q⟩ := hK k hk
  rcases q with ⟨q1, q2⟩ | ⟨q1, d', T', U', E', S', q2⟩
  · exact ⟨Or.inl q2, Or.inl ⟨q1, q2⟩⟩
  · obtain ⟨g0, ⟨g1, g2⟩, -⟩ := q2
    refine ⟨Or.inr ⟨d', g0, g2⟩, Or.inr ⟨?_, ?_, ?_⟩⟩
    · rw [q1]; decide
    · rw [g1, g2]
    · rw [g1]; exact nI_ne_m1 (by omega)
theorem howKept (h : Sim I L P Dr J M) : X4_howManyKept I = some (nI (thN (fun k => J 1 (165 + 165 * k)) 3)) := by
  unfold X4_howManyKept
  have key := loop_F (fun fuel k (s : Nat) => X4_howManyKept_L1 I (fun z => some z) fuel (nI s) (nI k)) (fun s => some (nI s)) 3 (fun k s => s + (if J 1 (165 + 165 * k) = -1 then 0 else 1)) (fun _ _ => True)
    (fun fuel k s hk _ => ⟨by
      show X4_howManyKept_L1 I _ (fuel + 1) (nI s) (nI k) = _
      rw [X4_howManyKept_L1]
      have q1 : ¬ (3 : Int32) ≤ nI k := by rw [i_3, nI_le_iff (by omega) (by omega)]; omega
      rw [if_neg q1, rdI_nI hk (by omega), bind_s]
      rcases (h.kv hk).2 with ⟨a, b⟩ | ⟨a, b, c⟩
      · rw [if_pos a, bind_s, if_pos b, i_0, i_1, nI_sum, nI_sum]
      · rw [if_neg a, bind_s, b, if_neg c, i_1, nI_sum, nI_sum], trivial⟩)
    (fun fuel s _ => by
      show X4_howManyKept_L1 I _ (fuel + 1) (nI s) (nI 3) = _
      rw [X4_howManyKept_L1]
      rw [if_pos (by decide)])
    3 bigF 0 0 (by omega) (bigF_gt (by omega)) trivial
  rw [foldF_sum (fun k => if J 1 (165 + 165 * k) = -1 then 0 else 1)] at key
  exact key
theorem thereKept (h : Sim I L P Dr J M) : X5_thereOf J 12 = some (nI (thN (fun k => J 1 (165 + 165 * k)) 3)) := by
  unfold X5_thereOf
  have key := loop_F (fun fuel k (s : Nat) => X5_thereOf_L1 J 12 (fun z => some z) fuel (nI s) (nI k)) (fun s => some (nI s)) 6 (fun k s => s + (if 3 ≤ k then 0 else if J 1 (165 + 165 * k) = -1 then 0 else 1)) (fun _ _ => True)
    (fun fuel k s hk _ => ⟨by
      show X5_thereOf_L1 J 12 _ (fuel + 1) (nI s) (nI k) = _
      rw [X5_thereOf_L1]
      have q1 : ¬ (6 : Int32) ≤ nI k := by rw [i_6, nI_le_iff (by omega) (by omega)]; omega
      have q2 : ¬ (12 : Int32) = 10 := by decide
      have q2' : ¬ (12 : Int32) = 11 := by decide
      rw [if_neg q1, if_neg q2, if_neg q2']
      by_cases c4 : 3 ≤ k
      · have q3 : (3 : Int32) ≤ nI k := by rw [i_3, nI_le_iff (by omega) (by omega)]; omega
        rw [if_pos q3, bind_s, if_pos c4, i_0, i_1, nI_sum, nI_sum]
      · have q3 : ¬ (3 : Int32) ≤ nI k := by rw [i_3, nI_le_iff (by omega) (by omega)]; omega
        have z1 := (h.kv (show k < 3 by omega)).1
        have e : ((165 : Int32) * ((1 : Int32) + nI k)) + (0 : Int32) = nI (165 + 165 * k) := by
          rw [i_165, i_1, i_0, nI_sum, nI_mul, nI_sum]
          congr 1
          omega
        rw [if_neg q3, if_neg c4, e, rdI_nI (by omega) (by omega), bind_s]
        by_cases c : J 1 (165 + 165 * k) = -1
        · rw [if_pos ((neg_sz z1 (by omega)).1.mpr c), bind_s, if_pos c, i_0, i_1, nI_sum, nI_sum]
        · rw [if_neg (fun w => c ((neg_sz z1 (by omega)).1.mp w)), bind_s, if_neg c, i_1, nI_sum, nI_sum], trivial⟩)
    (fun fuel s _ => by
      show X5_thereOf_L1 J 12 _ (fuel + 1) (nI s) (nI 6) = _
      rw [X5_thereOf_L1]
      rw [if_pos (by decide)])
    6 bigF 0 0 (by omega) (bigF_gt (by omega)) trivial
  rw [foldF_sum (fun k => if 3 ≤ k then 0 else if J 1 (165 + 165 * k) = -1 then 0 else 1)] at key
  exact key
theorem countOf_eq (h : Sim I L P Dr J M) {w : Nat} (hw : w < 13) : ∃ r, X4_count P I (nI w) = some r ∧ X5_countOf J (nI w) = some r := by
  obtain ⟨v, d, hv, hC, hM, d0, d1, d2, d3, d4, d5, d6⟩ := h.opn
  have h6 := hv.1
  have hs : w = 0 ∨ w = 1 ∨ w = 2 ∨ w = 3 ∨ w = 4 ∨ w = 5 ∨ w = 6 ∨ w = 7 ∨ w = 8 ∨ w = 9 ∨ w = 10 ∨ w = 11 ∨ w = 12 := by omega
  have r1 := h.2.1.1
  rcases hs with rfl | rfl | rfl | rfl | rfl | rfl | rfl | rfl | rfl | rfl | rfl | rfl | rfl
  · exact ⟨nI (tn v), congrArg some hC.1.2.2, congrArg some hM.1.2.2⟩
  · exact ⟨nI (ts v), congrArg some hC.1.2.1, congrArg some hM.1.2.1⟩
  · refine ⟨nI d, congrArg some d1, ?_⟩
    show (rdI J 1 660 (nI 0)).bind (fun v4 => some v4) = _
    rw [rdI_nI (by omega) (by omega), bind_s, d2]
  · refine ⟨nI (te v), ?_, ?_⟩
    · show (X0_eaten 17 I).bind (fun v5 => some v5) = _
      rw [hC.eaten, bind_s]
    · show (rdI J 1 660 (nI 1)).bind (fun v4 => some v4) = _
      rw [rdI_nI (by omega) (by omega), bind_s, hM.2.2.2.1]
  · refine ⟨nI (tt v), ?_, ?_⟩
    · show (X0_top 17 I).bind (fun v5 => some v5) = _
      rw [hC.top, bind_s]
    · show (rdI J 1 660 (nI 2)).bind (fun v4 => some v4) = _
      rw [rdI_nI (by omega) (by omega), bind_s, hM.2.2.2.2.1]
  · refine ⟨nI (tu v), ?_, ?_⟩
    · show (X0_stonesUp 17 I).bind (fun v5 => some v5) = _
      rw [hC.stonesUp, bind_s]
    · show (rdI J 1 660 (nI 3)).bind (fun v4 => some v4) = _
      rw [rdI_nI (by omega) (by omega), bind_s, hM.2.2.2.2.2]
  · exact ⟨nI (tl v), congrArg some hC.1.1, congrArg some hM.1.1⟩
  · refine ⟨J 1 4, ?_, ?_⟩
    · show (X0_stepsSunk 17 I).bind (fun v5 => some v5) = _
      unfold X0_stepsSunk
      rw [d1, rdI_nI (by omega) (by omega), bind_s, bind_s, d6]
    · show (rdI J 1 660 (nI 4)).bind (fun v4 => some v4) = _
      rw [rdI_nI (by omega) (by omega), bind_s]
  · refine ⟨nI (kindN v 2), ?_, ?_⟩
    · show (X1_howMany P I (nI 2)).bind (fun v5 => some v5) = _
      rw [hC.howMany hv (by omega) (by omega), bind_s]
    · show (X5_those J (nI 2)).bind (fun v4 => some v4) = _
      rw [hM.those hv (by omega), bind_s]
  · refine ⟨nI (kindN v 3), ?_, ?_⟩
    · show (X1_howMany P I (nI 3)).bind (fun v5 => some v5) = _
      rw [hC.howMany hv (by omega) (by omega), bind_s]
    · show (X5_those J (nI 3)).bind (fun v4 => some v4) = _
      rw [hM.those hv (by omega), bind_s]
  · refine ⟨nI (thN (I 2) 6), ?_, ?_⟩
    · show (X2_howMany 1 I).bind (fun v5 => some v5) = _
      rw [howRows (N := 6) r1.1 rfl (by omega), bind_s]
    · show (X5_thereOf J 10).bind (fun v4 => some v4) = _
      rw [thereRows h, bind_s]
  · refine ⟨nI (thN (I 11) 4), ?_, ?_⟩
    · show (X2_howMany 10 I).bind (fun v5 => some v5) = _
      rw [howRows (N := 4) r1.2.2.2.1 rfl (by omega), bind_s]
    · show (X5_thereOf J 11).bind (fun v4 => some v4) = _
      rw [thereTexts h, bind_s]
  · refine ⟨nI (thN (fun k => J 1 (165 + 165 * k)) 3), ?_, ?_⟩
    · show (X4_howManyKept I).bind (fun v5 => some v5) = _
      rw [howKept h, bind_s]
    · show (X5_thereOf J 12).bind (fun v4 => some v4) = _
      rw [thereKept h, bind_s]
theorem op_count (h : Sim I L P Dr J M) (x1 : Int32) : ∃ r, X4_count P I x1 = some r ∧ X5_count J x1 = some r := by
  have hin : X5_in x1.toInt64 (0 : Int64) (12 : Int64) = if ix x1 13 then 1 else 0 := by
    rw [in_spec, t64]
    have h0 : ((0 : Int64).toInt) = 0 := rfl
    have h2 : ((12 : Int64).toInt) = 12 := rfl
    simp only [ix, h0, h2]
    by_cases c : 0 ≤ x1.toInt ∧ x1.toInt ≤ 12
    · rw [if_pos c, if_pos (by omega)]
    · rw [if_neg c, if_neg (by omega)]
  unfold X5_count
  rw [hin]
  by_cases c : ix x1 13
  · rw [if_pos c, if10]
    obtain ⟨w, hw, rfl⟩ := ix_of c (by omega)
    obtain ⟨r, r1, r2⟩ := countOf_eq h hw
    exact ⟨r, r1, by rw [r2, bind_s]⟩
  · rw [if_neg c, if00]
    refine ⟨-1, ?_, rfl⟩
    have hne : ∀ n, n < 13 → ¬ x1 = nI n := fun n hn e => c (by rw [e]; exact (ix_nI (by omega)).mpr hn)
    unfold X4_count
    rw [if_neg (show ¬ x1 = 0 from hne 0 (by omega)), if_neg (show ¬ x1 = 1 from hne 1 (by omega)), if_neg (show ¬ x1 = 2 from hne 2 (by omega)), if_neg (show ¬ x1 = 3 from hne 3 (by omega)), if_neg (show ¬ x1 = 4 from hne 4 (by omega)), if_neg (show ¬ x1 = 5 from hne 5 (by omega)), if_neg (show ¬ x1 = 6 from hne 6 (by omega)), if_neg (show ¬ x1 = 7 from hne 7 (by omega)), if_neg (show ¬ x1 = 8 from hne 8 (by omega)), if_neg (show ¬ x1 = 9 from hne 9 (by omega)), if_neg (show ¬ x1 = 10 from hne 10 (by omega)), if_neg (show ¬ x1 = 11 from hne 11 (by omega)), if_neg (show ¬ x1 = 12 from hne 12 (by omega))]
theorem digRow {I : xMem} {y N Q : Nat} (hm : I y 0 = nI N) (hc : cLen (y + 1) = N) (hc2 : cLen (y + 2) = N) (hc3 : cLen (y + 3) = Q) (hN : N ≤ 6) (hQ : Q ≤ 60) (hz : ∀ r, r < N → szOk (I (y + 1) r) Q) (z : Int64) : X2_digested y I z = some (rowD (I (y + 1)) (fun r => I (y + 3 + r)) N z) := by
  unfold X2_digested rowD
  have inner : ∀ (K : Int64 → Option Int64) (r : Nat) (z : Int64), r < N → X2_digested_L2 y I (nI r) K bigF z (nI 0) = K (foldF (fun i z => dg (I (y + 3 + r) i) z) 0 (szN (I (y + 1) r)) z) := by
    intro K r z hr
    have hzr := hz r hr
    have hb : szN (I (y + 1) r) ≤ 60 := by
      rcases szN_cases hzr (by omega) with ⟨-, w⟩ | ⟨w, -⟩ <;> omega
    exact loop_F (fun fuel k (s : Int64) => X2_digested_L2 y I (nI r) K fuel s (nI k)) (fun s => K s) (szN (I (y + 1) r)) (fun i z => dg (I (y + 3 + r) i) z) (fun _ _ => True)
      (fun fuel k s hk _ => ⟨by
        show X2_digested_L2 y I (nI r) K (fuel + 1) s (nI k) = _
        rw [X2_digested_L2]
        obtain ⟨g1, g2⟩ := szN_in hzr (by omega) hk
        rw [hc, rdI_nI hr (by omega), bind_s, if_neg g1, hc2, rdX_nI hr (by omega), bind_s, show y + 2 + 1 + r = y + 3 + r by omega, hc3, rdI_nI g2 (by omega), bind_s, i_1, nI_sum]
        rfl, trivial⟩)
      (fun fuel s _ => by
        show X2_digested_L2 y I (nI r) K (fuel + 1) s (nI _) = _
        rw [X2_digested_L2]
        rw [hc, rdI_nI hr (by omega), bind_s, if_pos (szN_end hzr (by omega))])
      (szN (I (y + 1) r)) bigF 0 z (by omega) (bigF_gt (by omega)) trivial
  exact loop_F (fun fuel k (s : Int64) => X2_digested_L1 y I (fun z => some z) fuel s (nI k)) (fun s => some s) N (fun r z => foldF (fun i z => dg (I (y + 3 + r) i) z) 0 (szN (I (y + 1) r)) (dg (I (y + 1) r) z)) (fun _ _ => True)
    (fun fuel k s hk _ => ⟨by
      show X2_digested_L1 y I _ (fuel + 1) s (nI k) = _
      rw [X2_digested_L1]
      have q1 : ¬ nI N ≤ nI k := by rw [nI_le_iff (by omega) (by omega)]; omega
      rw [hm, if_neg q1, hc, rdI_nI hk (by omega), bind_s, i_0, inner _ k _ hk, i_1, nI_sum]
      rfl, trivial⟩)
    (fun fuel s _ => by
      show X2_digested_L1 y I _ (fuel + 1) s (nI N) = _
      rw [X2_digested_L1]
      rw [hm, if_pos (Int32.le_refl _)])
    N bigF 0 z (by omega) (bigF_gt (by omega)) trivial
theorem digRows5 {J : xMem} (hz : ∀ r, r < 6 → szOk (J 5 r) 40) (K : Int64 → Option (Int64 × xMem)) (z : Int64) : X5_digest_L5 J K bigF z (nI 0) = K (rowD (J 5) (fun r i => J 6 (40 * r + i)) 6 z) := by
  unfold rowD
  have inner : ∀ (K : Int64 → Option (Int64 × xMem)) (r : Nat) (z : Int64), r < 6 → X5_digest_L6 J (nI r) K bigF z (nI 0) = K (foldF (fun i z => dg (J 6 (40 * r + i)) z) 0 (szN (J 5 r)) z) := by
    intro K r z hr
    have hzr := hz r hr
    have hb : szN (J 5 r) ≤ 60 := by
      rcases szN_cases hzr (by omega) with ⟨-, w⟩ | ⟨w, -⟩ <;> omega
    exact loop_F (fun fuel k (s : Int64) => X5_digest_L6 J (nI r) K fuel s (nI k)) (fun s => K s) (szN (J 5 r)) (fun i z => dg (J 6 (40 * r + i)) z) (fun _ _ => True)
      (fun fuel k s hk _ => ⟨by
        show X5_digest_L6 J (nI r) K (fuel + 1) s (nI k) = _
        rw [X5_digest_L6]
        obtain ⟨g1, g2⟩ := szN_in hzr (by omega) hk
        rw [rdI_nI hr (by omega), bind_s, if_neg g1, i_40, nI_mul, nI_sum, rdI_nI (by omega) (by omega), bind_s, i_1, nI_sum]
        rfl, trivial⟩)
      (fun fuel s _ => by
        show X5_digest_L6 J (nI r) K (fuel + 1) s (nI _) = _
        rw [X5_digest_L6]
        rw [rdI_nI hr (by omega), bind_s, if_pos (szN_end hzr (by omega))])
      (szN (J 5 r)) bigF 0 z (by omega) (bigF_gt (by omega)) trivial
  exact loop_F (fun fuel k (s : Int64) => X5_digest_L5 J K fuel s (nI k)) (fun s => K s) 6 (fun r z => foldF (fun i z => dg (J 6 (40 * r + i)) z) 0 (szN (J 5 r)) (dg (J 5 r) z)) (fun _ _ => True)
    (fun fuel k s hk _ => ⟨by
      show X5_digest_L5 J K (fuel + 1) s (nI k) = _
      rw [X5_digest_L5]
      have q1 : ¬ (6 : Int32) ≤ nI k := by rw [i_6, nI_le_iff (by omega) (by omega)]; omega
      rw [if_neg q1, rdI_nI hk (by omega), bind_s, i_0, inner _ k _ hk, i_1, nI_sum]
      rfl, trivial⟩)
    (fun fuel s _ => by
      show X5_digest_L5 J K (fuel + 1) s (nI 6) = _
      rw [X5_digest_L5]
      rw [if_pos (by decide)])
    6 bigF 0 z (by omega) (bigF_gt (by omega)) trivial
theorem digRows7 {J : xMem} (hz : ∀ r, r < 4 → szOk (J 7 r) 60) (K : Int64 → Option (Int64 × xMem)) (z : Int64) : X5_digest_L7 J K bigF z (nI 0) = K (rowD (J 7) (fun r i => J 8 (60 * r + i)) 4 z) := by
  unfold rowD
  have inner : ∀ (K : Int64 → Option (Int64 × xMem)) (r : Nat) (z : Int64), r < 4 → X5_digest_L8 J (nI r) K bigF z (nI 0) = K (foldF (fun i z => dg (J 8 (60 * r + i)) z) 0 (szN (J 7 r)) z) := by
    intro K r z hr
    have hzr := hz r hr
    have hb : szN (J 7 r) ≤ 60 := by
      rcases szN_cases hzr (by omega) with ⟨-, w⟩ | ⟨w, -⟩ <;> omega
    exact loop_F (fun fuel k (s : Int64) => X5_digest_L8 J (nI r) K fuel s (nI k)) (fun s => K s) (szN (J 7 r)) (fun i z => dg (J 8 (60 * r + i)) z) (fun _ _ => True)
      (fun fuel k s hk _ => ⟨by
        show X5_digest_L8 J (nI r) K (fuel + 1) s (nI k) = _
        rw [X5_digest_L8]
        obtain ⟨g1, g2⟩ := szN_in hzr (by omega) hk
        rw [rdI_nI hr (by omega), bind_s, if_neg g1, i_60, nI_mul, nI_sum, rdI_nI (by omega) (by omega), bind_s, i_1, nI_sum]
        rfl, trivial⟩)
      (fun fuel s _ => by
        show X5_digest_L8 J (nI r) K (fuel + 1) s (nI _) = _
        rw [X5_digest_L8]
        rw [rdI_nI hr (by omega), bind_s, if_pos (szN_end hzr (by omega))])
      (szN (J 7 r)) bigF 0 z (by omega) (bigF_gt (by omega)) trivial
  exact loop_F (fun fuel k (s : Int64) => X5_digest_L7 J K fuel s (nI k)) (fun s => K s) 4 (fun r z => foldF (fun i z => dg (J 8 (60 * r + i)) z) 0 (szN (J 7 r)) (dg (J 7 r) z)) (fun _ _ => True)
    (fun fuel k s hk _ => ⟨by
      show X5_digest_L7 J K (fuel + 1) s (nI k) = _
      rw [X5_digest_L7]
      have q1 : ¬ (4 : Int32) ≤ nI k := by rw [i_4, nI_le_iff (by omega) (by omega)]; omega
      rw [if_neg q1, rdI_nI hk (by omega), bind_s, i_0, inner _ k _ hk, i_1, nI_sum]
      rfl, trivial⟩)
    (fun fuel s _ => by
      show X5_digest_L7 J K (fuel + 1) s (nI 4) = _
      rw [X5_digest_L7]
      rw [if_pos (by decide)])
    4 bigF 0 z (by omega) (bigF_gt (by omega)) trivial
theorem op_digest (h : Sim I L P Dr J M) : ∃ r I' J', X4_digest P I = some r ∧ X5_digest J = some (r, J') ∧ I' = I ∧ Sim I' L P Dr J' M := by
  obtain ⟨v, hv, hC, hM⟩ := h.view
  have h6 := hv.1
  have h4 := hv.2.1
  have hc : ∀ w, w < 13 → X4_count P I (nI w) = some ((X5_countOf J (nI w)).getD 0) ∧ X5_countOf J (nI w) = some ((X5_countOf J (nI w)).getD 0) := fun w hw => by
    obtain ⟨r, r1, r2⟩ := countOf_eq h hw
    rw [r2]
    exact ⟨r1, rfl⟩
  generalize hcd : (fun w => (X5_countOf J (nI w)).getD 0) = c at *
  have hc1 : ∀ w, w < 13 → X4_count P I (nI w) = some (c w) := fun w hw => by rw [← hcd]; exact (hc w hw).1
  have hc2 : ∀ w, w < 13 → X5_countOf J (nI w) = some (c w) := fun w hw => by rw [← hcd]; exact (hc w hw).2
  have a1 : ∀ (K : Int64 → Option Int64), X4_digest_L1 P I K bigF 17 0 = K (foldF (fun k z => dg (c k) z) 0 13 17) := fun K =>
    loop_F (fun fuel k (s : Int64) => X4_digest_L1 P I K fuel s (nI k)) (fun s => K s) 13 (fun k z => dg (c k) z) (fun _ _ => True)
      (fun fuel k s hk _ => ⟨by
        show X4_digest_L1 P I K (fuel + 1) s (nI k) = _
        rw [X4_digest_L1]
        have q1 : ¬ (12 : Int32) < nI k := by rw [i_12, nI_lt_iff (by omega) (by omega)]; omega
        rw [if_neg q1, hc1 k hk, bind_s, i_1, nI_sum]
        rfl, trivial⟩)
      (fun fuel s _ => by
        show X4_digest_L1 P I K (fuel + 1) s (nI 13) = _
        rw [X4_digest_L1]
        rw [if_pos (by decide)])
      13 bigF 0 17 (by omega) (bigF_gt (by omega)) trivial
  have b1 : ∀ (K : Int64 → Option (Int64 × xMem)), X5_digest_L1 J K bigF 17 0 = K (foldF (fun k z => dg (c k) z) 0 13 17) := fun K =>
    loop_F (fun fuel k (s : Int64) => X5_digest_L1 J K fuel s (nI k)) (fun s => K s) 13 (fun k z => dg (c k) z) (fun _ _ => True)
      (fun fuel k s hk _ => ⟨by
        show X5_digest_L1 J K (fuel + 1) s (nI k) = _
        rw [X5_digest_L1]
        have q1 : ¬ (13 : Int32) ≤ nI k := by rw [show (13 : Int32) = nI 13 from rfl, nI_le_iff (by omega) (by omega)]; omega
        rw [if_neg q1, hc2 k hk, bind_s, i_1, nI_sum]
        rfl, trivial⟩)
      (fun fuel s _ => by
        show X5_digest_L1 J K (fuel + 1) s (nI 13) = _
        rw [X5_digest_L1]
        rw [if_pos (by decide)])
      13 bigF 0 17 (by omega) (bigF_gt (by omega)) trivial
  have a2 : ∀ (K : Int64 → Option Int64) (z : Int64), X4_digest_L2 P I K bigF z 0 = K (foldF (fun k z => dg (nI (tp v k)) z) 0 (ts v) z) := fun K z =>
    loop_F (fun fuel k (s : Int64) => X4_digest_L2 P I K fuel s (nI k)) (fun s => K s) (ts v) (fun k z => dg (nI (tp v k)) z) (fun _ _ => True)
      (fun fuel k s hk _ => ⟨by
        show X4_digest_L2 P I K (fuel + 1) s (nI k) = _
        rw [X4_digest_L2]
        have q1 : ¬ nI (ts v) ≤ nI k := by rw [nI_le_iff (by omega) (by omega)]; omega
        rw [hC.1.2.1, if_neg q1, rdI_nI (by omega) (by omega), bind_s, hC.2.2.1 k hk, i_1, nI_sum]
        rfl, trivial⟩)
      (fun fuel s _ => by
        show X4_digest_L2 P I K (fuel + 1) s (nI (ts v)) = _
        rw [X4_digest_L2]
        rw [hC.1.2.1, if_pos (Int32.le_refl _)])
      (ts v) bigF 0 z (by omega) (bigF_gt (by omega)) trivial
  have b2 : ∀ (K : Int64 → Option (Int64 × xMem)) (z : Int64), X5_digest_L2 J K bigF z 0 = K (foldF (fun k z => dg (nI (tp v k)) z) 0 (ts v) z) := fun K z =>
    loop_F (fun fuel k (s : Int64) => X5_digest_L2 J K fuel s (nI k)) (fun s => K s) (ts v) (fun k z => dg (nI (tp v k)) z) (fun _ _ => True)
      (fun fuel k s hk _ => ⟨by
        show X5_digest_L2 J K (fuel + 1) s (nI k) = _
        rw [X5_digest_L2]
        have q1 : ¬ nI (ts v) ≤ nI k := by rw [nI_le_iff (by omega) (by omega)]; omega
        rw [hM.1.2.1, if_neg q1, rdI_nI (by omega) (by omega), bind_s, hM.2.2.1 k hk, i_1, nI_sum]
        rfl, trivial⟩)
      (fun fuel s _ => by
        show X5_digest_L2 J K (fuel + 1) s (nI (ts v)) = _
        rw [X5_digest_L2]
        rw [hM.1.2.1, if_pos (Int32.le_refl _)])
      (ts v) bigF 0 z (by omega) (bigF_gt (by omega)) trivial
  have a4 : ∀ (K : Int64 → Option Int64) (i : Nat) (z : Int64), i < tn v → X4_digest_L4 P I (nI i) K bigF z 0 = K (foldF (fun k z => dg (nI (aboutN v i k)) z) 0 5 z) := fun K i z hi =>
    loop_F (fun fuel k (s : Int64) => X4_digest_L4 P I (nI i) K fuel s (nI k)) (fun s => K s) 5 (fun k z => dg (nI (aboutN v i k)) z) (fun _ _ => True)
      (fun fuel k s hk _ => ⟨by
        show X4_digest_L4 P I (nI i) K (fuel + 1) s (nI k) = _
        rw [X4_digest_L4]
        have q1 : ¬ (4 : Int32) < nI k := by rw [i_4, nI_lt_iff (by omega) (by omega)]; omega
        rw [if_neg q1, hC.about hv hi (by omega), bind_s, i_1, nI_sum]
        rfl, trivial⟩)
      (fun fuel s _ => by
        show X4_digest_L4 P I (nI i) K (fuel + 1) s (nI 5) = _
        rw [X4_digest_L4]
        rw [if_pos (by decide)])
      5 bigF 0 z (by omega) (bigF_gt (by omega)) trivial
  have a3 : ∀ (K : Int64 → Option Int64) (z : Int64), X4_digest_L3 P I K bigF z 0 = K (foldF (fun i z => foldF (fun k z => dg (nI (aboutN v i k)) z) 0 5 z) 0 (tn v) z) := fun K z =>
    loop_F (fun fuel k (s : Int64) => X4_digest_L3 P I K fuel s (nI k)) (fun s => K s) (tn v) (fun i z => foldF (fun k z => dg (nI (aboutN v i k)) z) 0 5 z) (fun _ _ => True)
      (fun fuel k s hk _ => ⟨by
        show X4_digest_L3 P I K (fuel + 1) s (nI k) = _
        rw [X4_digest_L3]
        have q1 : ¬ nI (tn v) ≤ nI k := by rw [nI_le_iff (by omega) (by omega)]; omega
        rw [hC.1.2.2, if_neg q1, a4 _ k s hk, i_1, nI_sum], trivial⟩)
      (fun fuel s _ => by
        show X4_digest_L3 P I K (fuel + 1) s (nI (tn v)) = _
        rw [X4_digest_L3]
        rw [hC.1.2.2, if_pos (Int32.le_refl _)])
      (tn v) bigF 0 z (by omega) (bigF_gt (by omega)) trivial
  have b3 : ∀ (K : Int64 → xMem → Option (Int64 × xMem)) (z : Int64), ∃ J', s24 J J' ∧ X5_digest_L3 K bigF z 0 J = K (foldF (fun i z => foldF (fun k z => dg (nI (aboutN v i k)) z) 0 5 z) 0 (tn v) z) J' := by
    intro K z
    obtain ⟨⟨s, J'⟩, ⟨hs, hJ⟩, he⟩ := loop_I (fun fuel k (s : Int64 × xMem) => X5_digest_L3 K fuel s.1 (nI k) s.2) (fun s => K s.1 s.2) (5 * tn v) (fun k s => s.1 = foldF (fun k z => dg (nI (aboutN v (k / 5) (k % 5))) z) 0 k z ∧ s24 J s.2)
      (fun fuel k s hk hI => by
        obtain ⟨s, Z⟩ := s
        obtain ⟨hs, hZ⟩ := hI
        have hs : s = _ := hs
        have hZ : s24 J Z := hZ
        have hMZ := hM.sc hZ
        obtain ⟨Z', e1, e2⟩ := hMZ.about hv (i := k / 5) (w := k % 5) (by omega) (by omega)
        show ∃ s', X5_digest_L3 K (fuel + 1) s (nI k) Z = _ ∧ _
        rw [X5_digest_L3]
        have q1 : ¬ nI (5 * tn v) ≤ nI k := by rw [nI_le_iff (by omega) (by omega)]; omega
        rw [hMZ.1.2.2, i_5, nI_mul, if_neg q1, nI_rem (by omega) (by omega) (by omega), nI_div (by omega) (by omega) (by omega), e1, bind_s, i_1, nI_sum]
        refine ⟨(dg (nI (aboutN v (k / 5) (k % 5))) s, Z'), rfl, ?_, hZ.tr e2⟩
        rw [foldF_succ, Nat.zero_add, ← hs])
      (fun fuel s hI => by
        obtain ⟨s, Z⟩ := s
        have hMZ := hM.sc hI.2
        show X5_digest_L3 K (fuel + 1) s (nI (5 * tn v)) Z = _
        rw [X5_digest_L3]
        rw [show Z 0 4 = nI (tn v) from hMZ.1.2.2, i_5, nI_mul, if_pos (Int32.le_refl _)])
      (5 * tn v) bigF 0 (z, J) (by omega) (bigF_gt (by omega)) ⟨rfl, s24.rf J⟩
    have hs : s = _ := hs
    rw [foldF_flat] at hs
    have e : (fun i z => foldF (fun w => (fun k z => dg (nI (aboutN v (k / 5) (k % 5))) z) (5 * i + w)) 0 5 z) = fun i z => foldF (fun k z => dg (nI (aboutN v i k)) z) 0 5 z := by
      funext i z
      exact foldF_congr 5 0 z (fun j s _ hj => by
        show dg (nI (aboutN v ((5 * i + j) / 5) ((5 * i + j) % 5))) s = _
        rw [show (5 * i + j) / 5 = i by omega, show (5 * i + j) % 5 = j by omega])
    rw [e] at hs
    rw [← hs]
    exact ⟨J', hJ, he⟩
  have a5 : ∀ (K : Int64 → Option Int64) (z : Int64), X4_digest_L5 I K bigF z 0 = K (foldF (fun k z => dg (J 1 (165 + 165 * k)) z) 0 3 z) := fun K z =>
    loop_F (fun fuel k (s : Int64) => X4_digest_L5 I K fuel s (nI k)) (fun s => K s) 3 (fun k z => dg (J 1 (165 + 165 * k)) z) (fun _ _ => True)
      (fun fuel k s hk _ => ⟨by
        show X4_digest_L5 I K (fuel + 1) s (nI k) = _
        rw [X4_digest_L5]
        have q1 : ¬ (3 : Int32) ≤ nI k := by rw [i_3, nI_le_iff (by omega) (by omega)]; omega
        rw [if_neg q1, rdI_nI hk (by omega), bind_s]
        rcases (h.kv hk).2 with ⟨x, y⟩ | ⟨x, y, -⟩
        · rw [if_pos x, bind_s, y, i_1, nI_sum]
          rfl
        · rw [if_neg x, rdX_nI hk (by omega), bind_s, bind_s, y, i_1, nI_sum]
          rfl, trivial⟩)
      (fun fuel s _ => by
        show X4_digest_L5 I K (fuel + 1) s (nI 3) = _
        rw [X4_digest_L5]
        rw [if_pos (by decide)])
      3 bigF 0 z (by omega) (bigF_gt (by omega)) trivial
  have b5 : ∀ (J' : xMem), s24 J J' → ∀ (K : Int64 → Option (Int64 × xMem)) (z : Int64), X5_digest_L4 J' K bigF z 1 = K (foldF (fun k z => dg (J 1 (165 + 165 * k)) z) 0 3 z) := fun J' hJ K z => by
    have key := loop_F (fun fuel k (s : Int64) => X5_digest_L4 J' K fuel s (nI k)) (fun s => K s) 4 (fun k z => dg (J 1 (165 * k)) z) (fun _ _ => True)
      (fun fuel k s hk _ => ⟨by
        show X5_digest_L4 J' K (fuel + 1) s (nI k) = _
        rw [X5_digest_L4]
        have q1 : ¬ (4 : Int32) ≤ nI k := by rw [i_4, nI_le_iff (by omega) (by omega)]; omega
        rw [if_neg q1, i_165, i_0, nI_mul, nI_sum, rdI_nI (by omega) (by omega), bind_s, hJ.at (by omega), i_1, nI_sum]
        rfl, trivial⟩)
      (fun fuel s _ => by
        show X5_digest_L4 J' K (fuel + 1) s (nI 4) = _
        rw [X5_digest_L4]
        rw [if_pos (by decide)])
      3 bigF 1 z (by omega) (bigF_gt (by omega)) trivial
    have e := foldF_shift (fun k z => dg (J 1 (165 * k)) z) 1 3 0 z
    have e2 : (fun w => (fun k z => dg (J 1 (165 * k)) z) (1 + w)) = (fun k z => dg (J 1 (165 + 165 * k)) z) := by
      funext k z
      show dg (J 1 (165 * (1 + k))) z = _
      rw [show 165 * (1 + k) = 165 + 165 * k by omega]
    rw [e2] at e
    rw [e]
    exact key
  obtain ⟨r1, r2, r3⟩ := h.2.1
  obtain ⟨J', j1, j2⟩ := b3 (fun (z1_11 : Int64) (I12 : xMem) => X5_digest_L4 I12 (fun (z1_16 : Int64) => X5_digest_L5 I12 (fun (z1_20 : Int64) => X5_digest_L7 I12 (fun (z1_29 : Int64) => some (z1_29, I12)) bigF z1_20 (0 : Int32)) bigF z1_16 (0 : Int32)) bigF z1_11 (1 : Int32)) (foldF (fun k z => dg (nI (tp v k)) z) 0 (ts v) (foldF (fun k z => dg (c k) z) 0 13 17))
  have hS := h.scr (cAg.rf I) j1.ag
  obtain ⟨s1, s2, s3⟩ := hS.2.1
  unfold X4_digest X5_digest
  rw [a1, b1, a2, b2, a3, a5, j2, b5 J' j1]
  rw [digRow (N := 6) (Q := 40) r1.1 rfl rfl rfl (by omega) (by omega) (fun r hr => (r2 r hr).1), bind_s, digRow (N := 4) (Q := 60) r1.2.2.2.1 rfl rfl rfl (by omega) (by omega) (fun r hr => (r3 r hr).1), bind_s]
  rw [show (0 : Int32) = nI 0 from rfl, digRows5 (fun r hr => by rw [(s2 r hr).2.1]; exact (s2 r hr).1), digRows7 (fun r hr => by rw [(s3 r hr).2.1]; exact (s3 r hr).1)]
  refine ⟨_, I, J', rfl, ?_, rfl, hS⟩
  rw [rowD_congr (M := 40) (by omega) (fun r hr => (s2 r hr).1) (fun r hr => (s2 r hr).2.1) (fun r i hr hi => (s2 r hr).2.2 i hi), rowD_congr (M := 60) (by omega) (fun r hr => (s3 r hr).1) (fun r hr => (s3 r hr).2.1) (fun r i hr hi => (s3 r hr).2.2 i hi)]
end OPC
