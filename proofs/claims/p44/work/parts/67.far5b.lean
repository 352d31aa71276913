/-! FEWEST GOES: the model's calls -/
theorem st_fin {v : TV} {s0 : BS} : ∀ (m : Nat) {k : Nat}, k + m = 1024 → gr (st v s0 k) (fin v s0)
  | 0, k, h => by
    rw [show k = 1024 by omega]
    exact gr.rf _
  | m + 1, k, h => (st_gr v s0 k).tr (st_fin m (k := k + 1) (by omega))
/-- who is elsewhere somewhere on the line -/
def mvN (v : TV) (s : BS) (m : Nat) : Nat := foldF (fun k a => a ||| ((bl s k / 16) ^^^ tt v)) 0 m 0
theorem mvN_succ (v : TV) (s : BS) (m : Nat) : mvN v s (m + 1) = mvN v s m ||| ((bl s m / 16) ^^^ tt v) := by
  unfold mvN
  rw [foldF_succ, Nat.zero_add]
section FA2
variable {J : xMem} {v : TV}
theorem now_lt (hv : vOk v) : 16 * tt v + tu v < 1024 := by
  have := tt_lt hv
  have := tu_lt hv
  omega
/-- the goals -/
def gG5 (v : TV) (set tops : Nat) (y : Nat) : Prop := y < 1024 ∧ y / 16 < 2 ^ tn v ∧ y % 16 < 2 ^ ts v ∧ (y / 16) &&& set = tops
/-- the least pair that goes nearer, of those from m on -/
def lowQ (Q : Nat → Prop) (m : Nat) (a : Int32) : Prop := (a = -9 ∧ ∀ p, m ≤ p → p < 36 → ¬ Q p) ∨ ∃ q, m ≤ q ∧ q < 36 ∧ Q q ∧ a = nI q ∧ ∀ p, m ≤ p → p < q → ¬ Q p
abbrev nearer (v : TV) (t : BS) (x p : Nat) : Prop := ∃ c, c < 16 ∧ eO v x p c ∧ bd t (nx x p c) + 1 = bd t x
theorem less1 {a D : Nat} (ha : a ≤ 9999) (hD : D ≤ 9999) : nI a = nI D - 1 ↔ a + 1 = D := by
  constructor
  · intro h
    have h2 : nI a + 1 = nI D := by
      rw [h, Int32.sub_add_cancel]
    rw [i_1, nI_sum, nI_eq_iff (by omega) (by omega)] at h2
    exact h2
  · intro h
    rw [← h]
    exact (nI_subL (a := a + 1) (b := 1) (by omega)).symm
end FA2
