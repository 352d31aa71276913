/-! FEWEST GOES: the model's rows -/
theorem comb16 (a b c d : Nat) (hb : b < 16) (hd : d < 16) : (16 * a + b) ^^^ (16 * c + d) = 16 * (a ^^^ c) + (b ^^^ d) := by
  have h1 : b ^^^ d < 2 ^ 4 := Nat.xor_lt_two_pow (n := 4) hb hd
  apply Nat.eq_of_testBit_eq
  intro k
  have e1 := Nat.testBit_two_pow_mul_add a (b := b) (i := 4) hb k
  have e2 := Nat.testBit_two_pow_mul_add c (b := d) (i := 4) hd k
  have e3 := Nat.testBit_two_pow_mul_add (a ^^^ c) (b := b ^^^ d) (i := 4) h1 k
  rw [show (2 : Nat) ^ 4 = 16 from rfl] at e1 e2 e3
  rw [Nat.testBit_xor, e1, e2, e3]
  by_cases q : k < 4
  · simp only [if_pos q, Nat.testBit_xor]
  · simp only [if_neg q, Nat.testBit_xor]
theorem or16 (a c : Nat) (hc : c < 16) : 16 * a ||| c = 16 * a + c := by
  apply Nat.eq_of_testBit_eq
  intro k
  have e1 := Nat.testBit_two_pow_mul_add a (b := 0) (i := 4) (by decide) k
  have e2 := Nat.testBit_two_pow_mul_add a (b := c) (i := 4) hc k
  rw [show (2 : Nat) ^ 4 = 16 from rfl] at e1 e2
  rw [Nat.add_zero] at e1
  rw [Nat.testBit_or, e1, e2]
  by_cases q : k < 4
  · simp only [if_pos q, Nat.zero_testBit, Bool.false_or]
  · have h2 : 2 ^ 4 ≤ 2 ^ k := Nat.pow_le_pow_right (by decide) (by omega)
    simp only [if_neg q]
    rw [Nat.testBit_lt_two_pow (show c < 2 ^ k by omega), Bool.or_false]
theorem pr16 (i j : Nat) : 16 * 2 ^ i ||| 16 * 2 ^ j = 16 * pr i j := by
  unfold pr
  apply Nat.eq_of_testBit_eq
  intro k
  have e1 := Nat.testBit_two_pow_mul_add (2 ^ i) (b := 0) (i := 4) (by decide) k
  have e2 := Nat.testBit_two_pow_mul_add (2 ^ j) (b := 0) (i := 4) (by decide) k
  have e3 := Nat.testBit_two_pow_mul_add (2 ^ i ||| 2 ^ j) (b := 0) (i := 4) (by decide) k
  rw [show (2 : Nat) ^ 4 = 16 from rfl, Nat.add_zero] at e1 e2 e3
  rw [Nat.testBit_or, e1, e2, e3]
  by_cases q : k < 4
  · simp [if_pos q]
  · simp only [if_neg q, Nat.testBit_or]
theorem bit4 (x j : Nat) : (x / 16).testBit j = x.testBit (4 + j) := by
  rw [Nat.add_comm]
  exact Nat.testBit_div_two_pow (n := 4) x j
theorem nd15 (x : Nat) : nd 15 x = nd 15 (x % 16) := by
  have h : x % 16 = x &&& 15 := (Nat.and_two_pow_sub_one_eq_mod x 4).symm
  apply Nat.eq_of_testBit_eq
  intro k
  rw [nd_bit, nd_bit, h, Nat.testBit_and]
  cases (15 : Nat).testBit k <;> simp
theorem ldN_bit {v : TV} {p c : Nat} : (ldN v p).testBit c = true ↔ (p / 6 < p % 6 ∧ p % 6 < tn v) ∧ (opN v (p / 6) (p % 6)).testBit c = true := by
  unfold ldN
  by_cases h : p / 6 < p % 6 ∧ p % 6 < tn v
  · rw [if_pos h]
    exact ⟨fun w => ⟨h, w⟩, fun w => w.2⟩
  · rw [if_neg h, Nat.zero_testBit]
    exact ⟨fun w => (nomatch w), fun w => absurd w.1 h⟩
def LD (v : TV) (J : xMem) : Prop := ∀ p, p < 36 → J 15 p = nI (ldN v p)
section FAR
variable {J : xMem} {v : TV}
/-- the model holds the way -/
def RM (A : xMem) (s : BS) : Prop := (∀ x, x < 1024 → A 13 x = nI (bd s x)) ∧ (∀ k, k < be s → A 14 k = nI (bl s k)) ∧ A 0 28 = nI (be s)
theorem lvP_none {v : TV} {x p : Nat} (s : BS) (h : ∀ c, ¬ eO v x p c) : lvP v x p s = s := by
  have := foldF_inv (fun c s => vis v x p c s) (fun _ s' => s' = s) 16 0 s rfl (fun c s' _ _ e => by
    rw [e]
    exact vis_n (fun w => h c w.1))
  exact this
end FAR
