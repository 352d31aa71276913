/-! A TEXT'S TOWER -/
/-- what has been read, as a tower -/
def vNum (v : TV) : Prop := tn v ≤ 6 ∧ ts v ≤ 4 ∧ tl v ≤ 9 ∧ (∀ i, tk v i < 6) ∧ (∀ i, tw v i ≤ 99) ∧ (∀ i, tp v i ≤ 9) ∧ 2 ≤ tn v
def rdC (b : Nat) (A : xMem) (v : TV) : Prop := (A b 0 = nI (tl v) ∧ A b 1 = nI (ts v) ∧ A b 2 = nI (tn v)) ∧ (∀ i, i < tn v → A (b + 3) i = nI (tk v i) ∧ A (b + 4) i = nI (tw v i)) ∧ (∀ s, s < ts v → A (b + 1) s = nI (tp v s)) ∧ (∀ a, a < 2 ^ ts v → A (b + 2) a = nI (setW v a))
def rdM (J : xMem) (v : TV) : Prop := J 0 19 = nI (tl v) ∧ J 0 21 = nI (ts v) ∧ J 0 23 = nI (tn v) ∧ (∀ s, s < ts v → J 10 s = nI (tp v s)) ∧ ∀ i, i < tn v → J 11 (2 * i) = nI (tk v i) ∧ J 11 (2 * i + 1) = nI (tw v i)
def KM (z2_13 : Int32) (I14 : xMem) : Option (Int32 × xMem) := if z2_13 = (0 : Int32) then (some ((I14 0 17), I14)) else (if (I14 0 23) ≤ (1 : Int32) then (some ((I14 0 17), I14)) else (some ((-9 : Int32), I14)))
section TOW
variable {I A J0 J : xMem} {b y t sz pos w S N : Nat} {lim : Int32} {sp kk ww : Nat → Nat} {ch : Nat → Int32}
theorem sets_n (h : A b 1 = nI S) (hS : S ≤ 4) : X1_allStones b A = nI (2 ^ S - 1) := by
  have h3 : 0 < 2 ^ S := Nat.pos_of_ne_zero (by simp)
  unfold X1_allStones
  rw [h, i_1, nI_pow (by omega), nI_subL (by omega)]
theorem weigh_eq (hA : dAg b I A) (h1 : A b 1 = nI S) (hS : S ≤ 4) (hsp : ∀ s, s < S → A (b + 1) s = nI (sp s)) (hb : ∀ s, sp s ≤ 9) : ∃ B, X1_weighSets b A = some B ∧ (∀ k j, k ≠ b + 2 → B k j = A k j) ∧ ∀ a, a < 2 ^ S → B (b + 2) a = nI (sumN (fun s => if a.testBit s then sp s else 0) S) := by
  have h16 : 2 ^ S ≤ 16 := by
    have : 2 ^ S ≤ 2 ^ 4 := Nat.pow_le_pow_right (by decide) hS
    omega
  have h0 : 0 < 2 ^ S := Nat.pos_of_ne_zero (by simp)
  have inner : ∀ (K : xMem → Option xMem) (a : Nat) (B : xMem), a < 2 ^ S → (∀ k j, k ≠ b + 2 → B k j = A k j) → X1_weighSets_L2 b (nI a) K bigF (nI 0) (wr B (b + 2) a 0) = K (wr B (b + 2) a (nI (sumN (fun s => if a.testBit s then sp s else 0) S))) := by
    intro K a B ha hB
    obtain ⟨z, hz, he⟩ := loop_I (fun fuel k (z : Nat) => X1_weighSets_L2 b (nI a) K fuel (nI k) (wr B (b + 2) a (nI z))) (fun z => K (wr B (b + 2) a (nI z))) S (fun k z => z = sumN (fun s => if a.testBit s then sp s else 0) k)
      (fun fuel k z hk hI => by
        refine ⟨sumN (fun s => if a.testBit s then sp s else 0) (k + 1), ?_, rfl⟩
        show X1_weighSets_L2 b (nI a) K (fuel + 1) (nI k) (wr B (b + 2) a (nI z)) = X1_weighSets_L2 b (nI a) K fuel (nI (k + 1)) (wr B (b + 2) a (nI (sumN _ k + if a.testBit k then sp k else 0)))
        rw [X1_weighSets_L2]
        rw [wr_off (k := b + 2) B _ (show b ≠ b + 2 ∨ 1 ≠ a by omega), hB b 1 (by omega), h1, if_neg (by rw [nI_le_iff (by omega) (by omega)]; omega), rdI_nI (by omega) (by omega), bind_s, wr_eq, rdI_nI (by omega) (by omega), bind_s, wr_off (k := b + 2) B _ (show b + 1 ≠ b + 2 ∨ k ≠ a by omega), hB (b + 1) k (by omega), hsp k hk, i_1, nI_bit (by omega) (by omega), nI_mul, nI_sum, wrI_nI (by omega) (by omega), bind_s, wr_wr, nI_sum]
        congr 3
        rw [← hI]
        congr 1
        have tb := tb_div a k
        rcases Nat.mod_two_eq_zero_or_one (a / 2 ^ k) with q | q
        · rw [q] at tb
          have tb : a.testBit k = false := by simpa using tb
          rw [q, tb, Nat.zero_mul]
          rfl
        · rw [q] at tb
          have tb : a.testBit k = true := by simpa using tb
          rw [q, tb, Nat.one_mul]
          rfl)
      (fun fuel z hI => by
        show X1_weighSets_L2 b (nI a) K (fuel + 1) (nI S) (wr B (b + 2) a (nI z)) = _
        rw [X1_weighSets_L2]
        rw [wr_off (k := b + 2) B _ (show b ≠ b + 2 ∨ 1 ≠ a by omega), hB b 1 (by omega), h1, if_pos (Int32.le_refl _)])
      S bigF 0 0 (by omega) (bigF_gt (by omega)) rfl
    rw [← hz]
    exact he
  unfold X1_weighSets
  obtain ⟨B, hB, he⟩ := loop_I (fun fuel k (B : xMem) => X1_weighSets_L1 b (fun I4 => some I4) fuel (nI k) B) (fun B => some B) (2 ^ S) (fun k B => (∀ k j, k ≠ b + 2 → B k j = A k j) ∧ ∀ a, a < k → B (b + 2) a = nI (sumN (fun s => if a.testBit s then sp s else 0) S))
    (fun fuel k B hk hI => by
      refine ⟨wr B (b + 2) k (nI (sumN (fun s => if k.testBit s then sp s else 0) S)), ?_, fun x j q => by rw [wr_off _ _ (by omega)]; exact hI.1 x j q, fun a q => ?_⟩
      · show X1_weighSets_L1 b _ (fuel + 1) (nI k) B = _
        rw [X1_weighSets_L1]
        rw [sets_n (A := B) (by rw [hI.1 b 1 (by omega)]; exact h1) hS, if_neg (by rw [nI_lt_iff (by omega) (by omega)]; omega), wrI_nI (by omega) (by omega), bind_s]
        refine (inner _ k B hk hI.1).trans ?_
        rw [show nI k + 1 = nI (k + 1) from nI_1 k]
      · by_cases e : a = k
        · subst e
          exact wr_eq _ _ _ _
        · rw [wr_off _ _ (by omega)]; exact hI.2 a (by omega))
    (fun fuel B hI => by
      show X1_weighSets_L1 b _ (fuel + 1) (nI (2 ^ S)) B = _
      rw [X1_weighSets_L1]
      rw [sets_n (A := B) (by rw [hI.1 b 1 (by omega)]; exact h1) hS, if_pos (by rw [nI_lt_iff (by omega) (by omega)]; omega)])
    (2 ^ S) bigF 0 A (by omega) (bigF_gt (by omega)) ⟨fun k j q => rfl, fun a q => absurd q (by omega)⟩
  exact ⟨B, he, hB⟩
end TOW
