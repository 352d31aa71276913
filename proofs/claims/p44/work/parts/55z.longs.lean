/-! LONGS AS NUMBERS -/
def nL (n : Nat) : Int64 := Int64.ofNat n
theorem nL_toInt {n : Nat} (h : n < 2 ^ 63) : (nL n).toInt = (n : Int) := by
  unfold nL
  rw [Int64.toInt_ofNat_of_lt h]
theorem nL_of {x : Int64} (h : 0 ≤ x.toInt) : x = nL x.toInt.toNat := by
  have h1 := Int64.toInt_lt x
  apply Int64.toInt_inj.mp
  rw [nL_toInt (by omega)]
  omega
theorem nL_ext {x : Int64} {n : Nat} (hn : n < 2 ^ 63) (h : x.toInt = (n : Int)) : x = nL n := by
  apply Int64.toInt_inj.mp
  rw [nL_toInt hn, h]
theorem bm64 {n : Int} (h0 : 0 ≤ n) (h : n < 2 ^ 63) : n.bmod (2 ^ 64) = n := by
  apply Int.bmod_eq_of_le <;> omega
theorem bm64s {n : Int} (h0 : - 2 ^ 63 ≤ n) (h : n < 2 ^ 63) : n.bmod (2 ^ 64) = n := by
  apply Int.bmod_eq_of_le <;> omega
theorem nL_mul {a b : Nat} (h : a * b < 2 ^ 63) (ha : a < 2 ^ 63) (hb : b < 2 ^ 63) : nL a * nL b = nL (a * b) := by
  apply nL_ext h
  rw [Int64.toInt_mul, nL_toInt ha, nL_toInt hb, ← Int.natCast_mul]
  exact bm64 (by omega) (by omega)
theorem nL_sum {a b : Nat} (h : a + b < 2 ^ 63) : nL a + nL b = nL (a + b) := by
  apply nL_ext h
  rw [Int64.toInt_add, nL_toInt (by omega), nL_toInt (by omega), ← Int.natCast_add]
  exact bm64 (by omega) (by omega)
theorem nL_sub {a b : Nat} (h : b ≤ a) (ha : a < 2 ^ 63) : nL a - nL b = nL (a - b) := by
  apply nL_ext (by omega)
  rw [Int64.toInt_sub, nL_toInt (by omega), nL_toInt (by omega)]
  rw [bm64 (by omega) (by omega)]
  omega
theorem nL_div {a b : Nat} (ha : a < 2 ^ 63) (hb : b < 2 ^ 63) : nL a / nL b = nL (a / b) := by
  have h1 : a / b ≤ a := Nat.div_le_self a b
  apply nL_ext (by omega)
  rw [Int64.toInt_div, nL_toInt ha, nL_toInt hb, Int.tdiv_eq_ediv_of_nonneg (by omega), ← Int.natCast_ediv]
  generalize a / b = c at h1 ⊢
  exact bm64 (by omega) (by omega)
theorem nL_rem {a b : Nat} (ha : a < 2 ^ 63) (hb : b < 2 ^ 63) : nL a - nL a / nL b * nL b = nL (a % b) := by
  have h1 : a / b * b ≤ a := Nat.div_mul_le_self a b
  have h2 := Nat.mod_add_div a b
  have h3 : a / b ≤ a := Nat.div_le_self a b
  rw [nL_div ha hb, nL_mul (by omega) (by omega) hb, nL_sub h1 ha]
  congr 1
  rw [Nat.mul_comm b] at h2
  omega
theorem nL_32 (n : Nat) : (nL n).toInt32 = nI n := by
  apply Int32.toBitVec_inj.mp
  rw [Int64.toBitVec_toInt32, BitVec.signExtend_eq_setWidth_of_le _ (by decide)]
  apply BitVec.eq_of_toNat_eq
  rw [BitVec.toNat_setWidth]
  show n % 2 ^ 64 % 2 ^ 32 = n % 2 ^ 32
  omega
theorem nI_64 {n : Nat} (h : n < 2 ^ 31) : (nI n).toInt64 = nL n := by
  apply nL_ext (by omega)
  rw [t64, nI_toInt h]
theorem nL_eq {a b : Nat} (ha : a < 2 ^ 63) (hb : b < 2 ^ 63) : nL a = nL b ↔ a = b := by
  rw [← Int64.toInt_inj, nL_toInt ha, nL_toInt hb]
  omega
theorem nL_lt {a b : Nat} (ha : a < 2 ^ 63) (hb : b < 2 ^ 63) : lg_cmp (nL a) (nL b) < 0 ↔ a < b := by
  rw [lg_lt0, nL_toInt ha, nL_toInt hb]
  omega
theorem nL_gt {a b : Nat} (ha : a < 2 ^ 63) (hb : b < 2 ^ 63) : 0 < lg_cmp (nL a) (nL b) ↔ b < a := by
  rw [lg_gt0, nL_toInt ha, nL_toInt hb]
  omega
theorem nL_0 {a : Nat} (ha : a < 2 ^ 63) : lg_cmp (nL a) 0 = 0 ↔ a = 0 := by
  rw [lg_eq0]
  exact nL_eq ha (by decide)
theorem rmL_nL {a n : Nat} (ha : a < 2 ^ 63) (h0 : 0 < n) (hn : n < 2 ^ 31) : rmL (nL a) ((nI n).toInt64) = some (nL (a % n)) := by
  unfold rmL
  rw [nI_64 hn, if_neg (by
    show ¬ nL n = nL 0
    rw [nL_eq (by omega) (by omega)]
    omega), nL_rem ha (by omega)]
theorem dvL_nL {a n : Nat} (ha : a < 2 ^ 63) (h0 : 0 < n) (hn : n < 2 ^ 63) : dvL (nL a) (nL n) = some (nL (a / n)) := by
  unfold dvL
  rw [if_neg (by
    show ¬ nL n = nL 0
    rw [nL_eq (by omega) (by omega)]
    omega), nL_div ha hn]
theorem rmL_nLL {a n : Nat} (ha : a < 2 ^ 63) (h0 : 0 < n) (hn : n < 2 ^ 63) : rmL (nL a) (nL n) = some (nL (a % n)) := by
  unfold rmL
  rw [if_neg (by
    show ¬ nL n = nL 0
    rw [nL_eq (by omega) (by omega)]
    omega), nL_rem ha hn]
/-! a loop of whatever result, such as two loops at once -/
theorem loop_G {σ ρ : Type} (Lf : Nat → Nat → σ → ρ) (T : ρ → Prop) (N : Nat) (Inv : Nat → σ → Prop)
    (hs : ∀ fuel k s, k < N → Inv k s → T (Lf (fuel + 1) k s) ∨ ∃ s', Lf (fuel + 1) k s = Lf fuel (k + 1) s' ∧ Inv (k + 1) s')
    (he : ∀ fuel s, Inv N s → T (Lf (fuel + 1) N s)) : ∀ (m fuel k : Nat) (s : σ), k + m = N → m < fuel → Inv k s → T (Lf fuel k s) := by
  intro m
  induction m with
  | zero =>
    intro fuel k s hk hf hI
    obtain ⟨f, rfl⟩ : ∃ f, fuel = f + 1 := ⟨fuel - 1, by omega⟩
    have : k = N := by omega
    subst this
    exact he f s hI
  | succ m ih =>
    intro fuel k s hk hf hI
    obtain ⟨f, rfl⟩ : ∃ f, fuel = f + 1 := ⟨fuel - 1, by omega⟩
    rcases hs f k s (by omega) hI with h | ⟨s', h1, h2⟩
    · exact h
    · rw [h1]
      exact ih f (k + 1) s' (by omega) (by omega) h2
