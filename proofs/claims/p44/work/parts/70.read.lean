/-! WHAT A TEXT SAYS: signs -/
def nofig (c : Int32) : Prop := ¬ (48 ≤ c.toInt ∧ c.toInt ≤ 57)
theorem fig_or (c : Int32) : (∃ f, f ≤ 9 ∧ c = nI (48 + f)) ∨ nofig c := by
  by_cases h : 48 ≤ c.toInt ∧ c.toInt ≤ 57
  · left
    obtain ⟨n, hn, rfl⟩ := ix_of (x := c) (N := 58) ⟨by omega, by omega⟩ (by omega)
    rw [nI_toInt (by omega)] at h
    exact ⟨n - 48, by omega, by rw [show 48 + (n - 48) = n by omega]⟩
  · exact Or.inr h
theorem fig_q {f : Nat} (hf : f ≤ 9) : (if (nI (48 + f) - (48 : Int32)) < (0 : Int32) then (some (0 : Int32)) else (if (9 : Int32) < (nI (48 + f) - (48 : Int32)) then (some (0 : Int32)) else (some (1 : Int32)))) = some 1 := by
  rw [i_48, nI_subL (by omega), show 48 + f - 48 = f by omega, if_neg (by rw [i_0, nI_lt_iff (by omega) (by omega)]; omega), if_neg (by rw [i_9, nI_lt_iff (by omega) (by omega)]; omega)]
theorem fig_m {f : Nat} (hf : f ≤ 9) : nI (48 + f) - (48 : Int32) = nI f := by
  rw [i_48, nI_subL (by omega), show 48 + f - 48 = f by omega]
theorem nofig_q {c : Int32} (h : nofig c) : (if (c - (48 : Int32)) < (0 : Int32) then (some (0 : Int32)) else (if (9 : Int32) < (c - (48 : Int32)) then (some (0 : Int32)) else (some (1 : Int32)))) = some 0 := by
  have h0 : ((0 : Int32).toInt) = 0 := rfl
  have h9 : ((9 : Int32).toInt) = 9 := rfl
  have h48 : ((48 : Int32).toInt) = 48 := rfl
  by_cases c1 : (c - (48 : Int32)) < (0 : Int32)
  · rw [if_pos c1]
  · rw [if_neg c1]
    by_cases c2 : (9 : Int32) < (c - (48 : Int32))
    · rw [if_pos c2]
    · exfalso
      apply h
      rw [Int32.lt_iff_toInt_lt, h0] at c1
      rw [Int32.lt_iff_toInt_lt, h9] at c2
      have e : c = (c - 48) + 48 := (Int32.sub_add_cancel c 48).symm
      have e2 : c.toInt = ((c - 48).toInt + 48).bmod (2 ^ 32) := by
        rw [← h48, ← Int32.toInt_add, ← e]
      have e3 : ((c - 48).toInt + 48).bmod (2 ^ 32) = (c - 48).toInt + 48 := by
        apply Int.bmod_eq_of_le <;> omega
      omega
theorem nI_m9 {n : Nat} (h : n < 2 ^ 31) : nI n ≠ -9 := fun w => by
  have := congrArg Int32.toInt w
  rw [nI_toInt h, show (-9 : Int32).toInt = -9 from rfl] at this
  omega
/-! what the class has read -/
def dAg (b : Nat) (I A : xMem) : Prop := ∀ k j, (k < b ∨ b + 4 < k) → A k j = I k j
def RA (b : Nat) (I A : xMem) (w S N : Nat) (lim : Int32) (sp kk ww : Nat → Nat) : Prop := dAg b I A ∧ A b 7 = nI w ∧ A b 1 = nI S ∧ A b 2 = nI N ∧ A b 0 = lim ∧ (∀ s, s < S → A (b + 1) s = nI (sp s)) ∧ ∀ i, i < N → A (b + 3) i = nI (kk i) ∧ A (b + 4) i = nI (ww i)
/-- the class, from a place on -/
def CR (b y sz : Nat) (K : xMem → Option (Int32 × xMem)) (pos : Nat) (A : xMem) : Option (Int32 × xMem) := X1_read_L1 b y 60 (nI sz) K (bigF - pos) (nI pos) A
section RD
variable {I A : xMem} {b y sz pos w S N : Nat} {lim : Int32} {sp kk ww : Nat → Nat}
theorem bigF_sub {n : Nat} (h : n ≤ 60) : bigF - n = (1999999 - n) + 1 := by
  have : bigF = 2000000 := rfl
  omega
theorem CR_end {K : xMem → Option (Int32 × xMem)} (hs : sz ≤ 60) : CR b y sz K sz A = K A := by
  unfold CR
  rw [bigF_sub hs, X1_read_L1]
  rw [if_pos (Int32.le_refl _)]
theorem CR_step {K : xMem → Option (Int32 × xMem)} (hs : sz ≤ 60) (hp : pos < sz) : CR b y sz K pos A = (X1_takes b A (A y pos)).bind fun q => if q.1 = 0 then some (nI pos, q.2) else CR b y sz K (pos + 1) q.2 := by
  unfold CR
  rw [bigF_sub (n := pos) (by omega), X1_read_L1]
  rw [if_neg (by rw [nI_le_iff (by omega) (by omega)]; omega), rdI_nI (by omega) (by omega), bind_s, i_1, nI_sum]
  rw [show bigF - (pos + 1) = 1999999 - pos by
    have : bigF = 2000000 := rfl
    omega]
theorem takes_0 (h : A b 7 = nI 0) (c : Int32) : X1_takes b A c = if c = 120 then some (1, wr A b 7 1) else if c = 32 then some (1, A) else some (0, A) := by
  unfold X1_takes X1_takesAhead
  have n1 : nz (1 : Int32) = 1 := rfl
  have n0 : nz (0 : Int32) = 0 := rfl
  rcases fig_or c with ⟨f, hf, rfl⟩ | q
  · rw [fig_q hf, bind_s, h, if_pos (show nI 0 = 0 from rfl)]
    by_cases c1 : nI (48 + f) = 120
    · simp only [if_pos c1, bind_s]
      rfl
    · by_cases c2 : nI (48 + f) = 32
      · simp only [if_neg c1, if_pos c2, bind_s]
        rfl
      · simp only [if_neg c1, if_neg c2, bind_s]
        rfl
  · rw [nofig_q q, bind_s, h, if_pos (show nI 0 = 0 from rfl)]
    by_cases c1 : c = 120
    · simp only [if_pos c1, bind_s]
      rfl
    · by_cases c2 : c = 32
      · simp only [if_neg c1, if_pos c2, bind_s]
        rfl
      · simp only [if_neg c1, if_neg c2, bind_s]
        rfl
theorem w_ne {w v : Nat} (h : A b 7 = nI w) (hw : w < 100) (hv : v < 100) (e : w ≠ v) : ¬ A b 7 = nI v := by
  rw [h, nI_eq_iff (by omega) (by omega)]
  exact e
theorem takes_1 (h : A b 7 = nI 1) {c : Int32} : (∀ f, f ≤ 9 → c = nI (48 + f) → X1_takes b A c = some (1, wr (wr A b 0 (nI f)) b 7 2)) ∧ (nofig c → X1_takes b A c = some (0, A)) := by
  have e0 : ¬ A b 7 = 0 := w_ne h (by omega) (v := 0) (by omega) (by omega)
  have e1 : A b 7 = 1 := h
  refine ⟨fun f hf hc => ?_, fun hc => ?_⟩
  · subst hc
    unfold X1_takes X1_takesLimit
    rw [fig_q hf, bind_s, if_neg e0, if_pos e1, if10, fig_m hf]
    rfl
  · unfold X1_takes
    rw [nofig_q hc, bind_s, if_neg e0, if_pos e1, if00]
    rfl
theorem takes_3 (h : A b 7 = nI 3) (h1 : A b 1 = nI S) (hS : S < 4) {c : Int32} : (∀ f, 1 ≤ f → f ≤ 9 → c = nI (48 + f) → X1_takes b A c = some (1, wr (wr (wr A (b + 1) S (nI f)) b 1 (nI (S + 1))) b 7 2)) ∧ ((nofig c ∨ c = nI 48) → X1_takes b A c = some (0, A)) := by
  have e0 : ¬ A b 7 = 0 := w_ne h (by omega) (v := 0) (by omega) (by omega)
  have e1 : ¬ A b 7 = 1 := w_ne h (by omega) (v := 1) (by omega) (by omega)
  have e2 : ¬ A b 7 = 2 := w_ne h (by omega) (v := 2) (by omega) (by omega)
  have e3 : A b 7 = 3 := h
  refine ⟨fun f hf1 hf hc => ?_, fun hc => ?_⟩
  · subst hc
    unfold X1_takes X1_takesStone
    rw [fig_q hf, bind_s, if_neg e0, if_neg e1, if_neg e2, if_pos e3, if10, fig_m hf, if_neg (by rw [i_0, nI_eq_iff (by omega) (by omega)]; omega), h1, wrI_nI hS (by omega), bind_s, bind_s, wr_off (k := b + 1) A _ (show b ≠ b + 1 ∨ 1 ≠ S by omega), h1, i_1, nI_sum]
    rfl
  · rcases hc with hc | hc
    · unfold X1_takes
      rw [nofig_q hc, bind_s, if_neg e0, if_neg e1, if_neg e2, if_pos e3, if00]
      rfl
    · subst hc
      unfold X1_takes X1_takesStone
      rw [show nI 48 = nI (48 + 0) from rfl, fig_q (by omega), bind_s, if_neg e0, if_neg e1, if_neg e2, if_pos e3, if10, fig_m (by omega), if_pos (show nI 0 = 0 from rfl)]
      rfl
theorem takes_4 (h : A b 7 = nI 4) {c : Int32} : (∀ f, f ≤ 9 → c = nI (48 + f) → X1_takes b A c = some (1, wr (wr A b 8 (nI f)) b 7 5)) ∧ (nofig c → X1_takes b A c = some (0, A)) := by
  have e0 : ¬ A b 7 = 0 := w_ne h (by omega) (v := 0) (by omega) (by omega)
  have e1 : ¬ A b 7 = 1 := w_ne h (by omega) (v := 1) (by omega) (by omega)
  have e2 : ¬ A b 7 = 2 := w_ne h (by omega) (v := 2) (by omega) (by omega)
  have e3 : ¬ A b 7 = 3 := w_ne h (by omega) (v := 3) (by omega) (by omega)
  have e4 : A b 7 = 4 := h
  refine ⟨fun f hf hc => ?_, fun hc => ?_⟩
  · subst hc
    unfold X1_takes X1_takesTens
    rw [fig_q hf, bind_s, if_neg e0, if_neg e1, if_neg e2, if_neg e3, if_pos e4, if10, fig_m hf]
    rfl
  · unfold X1_takes
    rw [nofig_q hc, bind_s, if_neg e0, if_neg e1, if_neg e2, if_neg e3, if_pos e4, if00]
    rfl
theorem takes_5 (h : A b 7 = nI 5) {g : Nat} (hg : g ≤ 9) (h8 : A b 8 = nI g) (h2 : A b 2 = nI N) (hN : N < 6) {c : Int32} : (∀ f, f ≤ 9 → 10 * g + f ≠ 0 → c = nI (48 + f) → X1_takes b A c = some (1, wr (wr (wr A (b + 4) N (nI (10 * g + f))) b 2 (nI (N + 1))) b 7 2)) ∧ ((nofig c ∨ (c = nI 48 ∧ g = 0)) → X1_takes b A c = some (0, A)) := by
  have e0 : ¬ A b 7 = 0 := w_ne h (by omega) (v := 0) (by omega) (by omega)
  have e1 : ¬ A b 7 = 1 := w_ne h (by omega) (v := 1) (by omega) (by omega)
  have e2 : ¬ A b 7 = 2 := w_ne h (by omega) (v := 2) (by omega) (by omega)
  have e3 : ¬ A b 7 = 3 := w_ne h (by omega) (v := 3) (by omega) (by omega)
  have e4 : ¬ A b 7 = 4 := w_ne h (by omega) (v := 4) (by omega) (by omega)
  refine ⟨fun f hf hne hc => ?_, fun hc => ?_⟩
  · subst hc
    unfold X1_takes X1_takesPounds
    rw [fig_q hf, bind_s, if_neg e0, if_neg e1, if_neg e2, if_neg e3, if_neg e4, if10, fig_m hf, h8, i_10, nI_mul, nI_sum, if_neg (by rw [i_0, nI_eq_iff (by omega) (by omega)]; exact hne), h2, wrI_nI hN (by omega), bind_s, bind_s, wr_off (k := b + 4) A _ (show b ≠ b + 4 ∨ 2 ≠ N by omega), h2, i_1, nI_sum]
    rfl
  · rcases hc with hc | ⟨hc, hg0⟩
    · unfold X1_takes
      rw [nofig_q hc, bind_s, if_neg e0, if_neg e1, if_neg e2, if_neg e3, if_neg e4, if00]
      rfl
    · subst hc
      subst hg0
      unfold X1_takes X1_takesPounds
      rw [show nI 48 = nI (48 + 0) from rfl, fig_q (by omega), bind_s, if_neg e0, if_neg e1, if_neg e2, if_neg e3, if_neg e4, if10, fig_m (by omega), h8, i_10, nI_mul, nI_sum, if_pos (show nI (10 * 0 + 0) = 0 from rfl)]
      rfl
end RD
