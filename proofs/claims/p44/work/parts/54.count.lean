/-! WHAT IS TOLD, COUNTS, DIGEST -/
theorem foldF_add {σ : Type} (g : Nat → σ → σ) : ∀ (a b k : Nat) (s : σ), foldF g k (a + b) s = foldF g (k + a) b (foldF g k a s)
  | a, 0, k, s => rfl
  | a, b + 1, k, s => by
    rw [← Nat.add_assoc, foldF_succ, foldF_succ, foldF_add g a b k s, Nat.add_assoc]
theorem foldF_shift {σ : Type} (g : Nat → σ → σ) (o : Nat) : ∀ (m k : Nat) (s : σ), foldF (fun w => g (o + w)) k m s = foldF g (o + k) m s
  | 0, _, _ => rfl
  | m + 1, k, s => by
    show foldF (fun w => g (o + w)) (k + 1) m (g (o + k) s) = foldF g (o + k + 1) m (g (o + k) s)
    rw [foldF_shift g o m (k + 1), Nat.add_assoc]
theorem foldF_flat {σ : Type} (g : Nat → σ → σ) (c : Nat) : ∀ (n : Nat) (s : σ), foldF g 0 (c * n) s = foldF (fun i z => foldF (fun w => g (c * i + w)) 0 c z) 0 n s
  | 0, _ => rfl
  | n + 1, s => by
    rw [Nat.mul_succ, foldF_add, foldF_flat g c n s, foldF_succ]
    show _ = foldF (fun w => g (c * (0 + n) + w)) 0 c _
    rw [foldF_shift, Nat.zero_add, Nat.add_zero, Nat.zero_add]
def dg (x : Int32) (z : Int64) : Int64 := (31 : Int64) * z + x.toInt64
def szN (x : Int32) : Nat := x.toNatClampNeg
theorem szN_cases {x : Int32} {N : Nat} (h : szOk x N) (hN : N < 2 ^ 31) : (x = -1 ∧ szN x = 0) ∨ (szN x ≤ N ∧ x = nI (szN x)) := by
  rcases h with h | ⟨s, h1, h2⟩
  · exact Or.inl ⟨h, by rw [h]; rfl⟩
  · refine Or.inr ?_
    have : szN x = s := by rw [h2]; exact nI_clamp (by omega)
    rw [this]
    exact ⟨h1, h2⟩
theorem szN_end {x : Int32} {N : Nat} (h : szOk x N) (hN : N < 2 ^ 31) : x ≤ nI (szN x) := by
  rcases szN_cases h hN with ⟨h1, h2⟩ | ⟨h1, h2⟩
  · rw [h2, h1]; decide
  · rw [← h2]; exact Int32.le_refl _
theorem szN_in {x : Int32} {N k : Nat} (h : szOk x N) (hN : N < 2 ^ 31) (hk : k < szN x) : ¬ x ≤ nI k ∧ k < N := by
  rcases szN_cases h hN with ⟨h1, h2⟩ | ⟨h1, h2⟩
  · omega
  · refine ⟨?_, by omega⟩
    rw [h2, nI_le_iff (by omega) (by omega)]
    omega
/-- rows, by their lengths and items -/
def rowD (sz : Nat → Int32) (it : Nat → Nat → Int32) (N : Nat) (z : Int64) : Int64 := foldF (fun r z => foldF (fun i z => dg (it r i) z) 0 (szN (sz r)) (dg (sz r) z)) 0 N z
theorem rowD_congr {sz sz' : Nat → Int32} {it it' : Nat → Nat → Int32} {N M : Nat} (hM : M < 2 ^ 31) (h0 : ∀ r, r < N → szOk (sz r) M) (h1 : ∀ r, r < N → sz' r = sz r) (h2 : ∀ r i, r < N → i < M → it' r i = it r i) (z : Int64) : rowD sz' it' N z = rowD sz it N z :=
  foldF_congr N 0 z (fun r s _ h => by
    rw [h1 r (by omega)]
    exact foldF_congr _ 0 _ (fun i s _ hi => by
      have := (szN_in (k := i) (h0 r (by omega)) hM (by omega)).2
      rw [h2 r i (by omega) this]))
theorem i_11 : (11 : Int32) = nI 11 := rfl
section OPC
variable {I J : xMem} {L M : xLon} {P Dr : Nat}
/-- how many rows, texts are there; towers kept -/
def thN (f : Nat → Int32) (N : Nat) : Nat := sumN (fun k => if f k = -1 then 0 else 1) N
theorem howRows {I : xMem} {y N : Nat} (hm : I y 0 = nI N) (hc : cLen (y + 1) = N) (hN : N ≤ 6) : X2_howMany y I = some (nI (thN (I (y + 1)) N)) := by
  unfold X2_howMany
  have key := loop_F (fun fuel k (s : Nat) => X2_howMany_L1 y I (fun z => some z) fuel (nI s) (nI k)) (fun s => some (nI s)) N (fun k s => s + (if I (y + 1) k = -1 then 0 else 1)) (fun _ _ => True)
    (fun fuel k s hk _ => ⟨by
      show X2_howMany_L1 y I _ (fuel + 1) (nI s) (nI k) = _
      rw [X2_howMany_L1]
      have q1 : ¬ nI N ≤ nI k := by rw [nI_le_iff (by omega) (by omega)]; omega
      rw [hm, if_neg q1, missing_eq hc hN hk, bind_s]
      by_cases c : I (y + 1) k = -1
      · rw [if_pos c, if10, bind_s, if_pos c, i_0, i_1, nI_sum, nI_sum]
      · rw [if_neg c, if00, bind_s, if_neg c, i_1, nI_sum, nI_sum], trivial⟩)
    (fun fuel s _ => by
      show X2_howMany_L1 y I _ (fuel + 1) (nI s) (nI N) = _
      rw [X2_howMany_L1]
      rw [hm, if_pos (Int32.le_refl _)])
    N bigF 0 0 (by omega) (bigF_gt (by omega)) trivial
  rw [foldF_sum (fun k => if I (y + 1) k = -1 then 0 else 1)] at key
  exact key
theorem neg_sz {x : Int32} {N : Nat} (h : szOk x N) (hN : N < 2 ^ 31) : (x < 0 ↔ x = -1) ∧ (0 ≤ x ↔ ¬ x = -1) := by
  have h0 : ((0 : Int32).toInt) = 0 := rfl
  rcases h with h | ⟨s, h1, h2⟩
  · rw [h]; decide
  · have hs : x.toInt = s := by rw [h2]; exact nI_toInt (by omega)
    have hm : ¬ x = -1 := by
      intro w
      rw [w] at hs
      have : ((-1 : Int32).toInt) = -1 := rfl
      omega
    rw [Int32.lt_iff_toInt_lt, Int32.le_iff_toInt_le, h0, hs]
    exact ⟨⟨fun w => by omega, fun w => absurd w hm⟩, ⟨fun _ => hm, fun _ => by omega⟩⟩
theorem digRow {I : xMem} {y N Q : Nat} (hm : I y 0 = nI N) (hc : cLen (y + 1) = N) (hc2 : cLen (y + 2) = N) (hc3 : cLen (y + 3) = Q) (hN : N ≤ 6) (hQ : Q ≤ 60) (hz : ∀ r, r < N → szOk (I (y + 1) r) Q) (z : Int64) : X2_digested y I z = some (rowD (I (y + 1)) (fun r => I (y + 3 + r)) N z) := by
  unfold X2_digested rowD
  have inner : ∀ (K : Int64 → Option Int64) (r : Nat) (z : Int64), r < N → X2_digested_L2 y I (nI r) K bigF z (nI 0) = K (foldF (fun i z => dg (I (y + 3 + r) i) z) 0 (szN (I (y + 1) r)) z) := by
    intro K r z hr
    have hzr := hz r hr
    have hb : szN (I (y + 1) r) ≤ 60 := by
      rcases szN_cases hzr (by omega) with ⟨-, w⟩ | ⟨w, -⟩ <;> omega
    exact loop_F (fun fuel k (s : Int64) => X2_digested_L2 y I (nI r) K fuel s (nI k)) (fun s => K s) (szN (I (y + 1) r)) (fun i z => dg (I (y + 3 + r) i) z) (fun _ _ => True)
      (fun fuel k s hk _ => ⟨by
        show X2_digested_L2 y I (nI r) K (fuel + 1) s (nI k) = _
        rw [X2_digested_L2]
        obtain ⟨g1, g2⟩ := szN_in hzr (by omega) hk
        rw [hc, rdI_nI hr (by omega), bind_s, if_neg g1, hc2, rdX_nI hr (by omega), bind_s, show y + 2 + 1 + r = y + 3 + r by omega, hc3, rdI_nI g2 (by omega), bind_s, i_1, nI_sum]
        rfl, trivial⟩)
      (fun fuel s _ => by
        show X2_digested_L2 y I (nI r) K (fuel + 1) s (nI _) = _
        rw [X2_digested_L2]
        rw [hc, rdI_nI hr (by omega), bind_s, if_pos (szN_end hzr (by omega))])
      (szN (I (y + 1) r)) bigF 0 z (by omega) (bigF_gt (by omega)) trivial
  exact loop_F (fun fuel k (s : Int64) => X2_digested_L1 y I (fun z => some z) fuel s (nI k)) (fun s => some s) N (fun r z => foldF (fun i z => dg (I (y + 3 + r) i) z) 0 (szN (I (y + 1) r)) (dg (I (y + 1) r) z)) (fun _ _ => True)
    (fun fuel k s hk _ => ⟨by
      show X2_digested_L1 y I _ (fuel + 1) s (nI k) = _
      rw [X2_digested_L1]
      have q1 : ¬ nI N ≤ nI k := by rw [nI_le_iff (by omega) (by omega)]; omega
      rw [hm, if_neg q1, hc, rdI_nI hk (by omega), bind_s, i_0, inner _ k _ hk, i_1, nI_sum]
      rfl, trivial⟩)
    (fun fuel s _ => by
      show X2_digested_L1 y I _ (fuel + 1) s (nI N) = _
      rw [X2_digested_L1]
      rw [hm, if_pos (Int32.le_refl _)])
    N bigF 0 z (by omega) (bigF_gt (by omega)) trivial
end OPC
