/-! AT ONCE: who of a group can go two by two with sets apart -/
def mStep (v : TV) (g i j c S : Nat) : Prop := i < j ∧ j < tn v ∧ g.testBit i = true ∧ g.testBit j = true ∧ tog (tt v) i j ∧ opS v i j c ∧ nd c (nd (stW v i) S) = 0
def Mt (v : TV) : Nat → Nat → Nat → Prop
  | 0, g, S => g = 0 ∧ S = 0
  | n + 1, g, S => ∃ i j c S', mStep v g i j c S' ∧ S = S' ||| c ∧ Mt v n (g ^^^ pr i j) S'
def TK (v : TV) (g S : Nat) : Prop := ∃ n, Mt v n g S
theorem TK_iff (v : TV) (g S : Nat) : TK v g S ↔ (g = 0 ∧ S = 0) ∨ ∃ i j c S', mStep v g i j c S' ∧ S = S' ||| c ∧ TK v (g ^^^ pr i j) S' := by
  constructor
  · rintro ⟨n, h⟩
    cases n with
    | zero => exact Or.inl h
    | succ n =>
      obtain ⟨i, j, c, S', h1, h2, h3⟩ := h
      exact Or.inr ⟨i, j, c, S', h1, h2, n, h3⟩
  · rintro (h | ⟨i, j, c, S', h1, h2, n, h3⟩)
    · exact ⟨0, h⟩
    · exact ⟨n + 1, i, j, c, S', h1, h2, h3⟩
theorem nd_0 (a b : Nat) : nd a b = 0 ↔ ∀ x, a.testBit x = true → b.testBit x = true := by
  constructor
  · intro h x hx
    have h1 : (nd a b).testBit x = false := by rw [h]; simp
    rw [nd_bit, hx] at h1
    simpa using h1
  · intro h
    apply Nat.eq_of_testBit_eq
    intro x
    rw [nd_bit, Nat.zero_testBit]
    cases hx : a.testBit x
    · rfl
    · rw [h x hx]
      rfl
theorem nd_nd0 (c w S : Nat) : nd c (nd w S) = 0 ↔ ∀ x, c.testBit x = true → w.testBit x = true ∧ S.testBit x = false := by
  rw [nd_0]
  constructor
  · intro h x hx
    have := h x hx
    rw [nd_bit] at this
    simpa using this
  · intro h x hx
    rw [nd_bit, (h x hx).1, (h x hx).2]
    rfl
theorem pr_bit (i j x : Nat) : (pr i j).testBit x = true ↔ (x = i ∨ x = j) := by
  unfold pr
  rw [Nat.testBit_or, Nat.testBit_two_pow, Nat.testBit_two_pow, Bool.or_eq_true, decide_eq_true_eq, decide_eq_true_eq]
  omega
theorem xp_bit {g i j : Nat} (hi : g.testBit i = true) (hj : g.testBit j = true) (x : Nat) : (g ^^^ pr i j).testBit x = true ↔ g.testBit x = true ∧ x ≠ i ∧ x ≠ j := by
  rw [Nat.testBit_xor]
  by_cases h : x = i ∨ x = j
  · have h1 : (pr i j).testBit x = true := (pr_bit i j x).mpr h
    have h2 : g.testBit x = true := by rcases h with rfl | rfl <;> assumption
    rw [h1, h2]
    simp
    omega
  · have h1 : (pr i j).testBit x = false := by
      cases q : (pr i j).testBit x
      · rfl
      · exact absurd ((pr_bit i j x).mp q) h
    rw [h1, Bool.xor_false]
    constructor
    · intro w
      exact ⟨w, by omega, by omega⟩
    · exact fun w => w.1
theorem Mt.swap {v : TV} {i : Nat} : ∀ (n : Nat) {g S : Nat}, Mt v (n + 1) g S → g.testBit i = true → ∃ a b c S', mStep v g a b c S' ∧ S = S' ||| c ∧ Mt v n (g ^^^ pr a b) S' ∧ (a = i ∨ b = i)
  | 0, g, S, h, hi => by
    obtain ⟨a, b, c, S', h1, h2, h3, h4⟩ := h
    refine ⟨a, b, c, S', h1, h2, ⟨h3, h4⟩, ?_⟩
    by_cases w : i ≠ a ∧ i ≠ b
    · have := (xp_bit h1.2.2.1 h1.2.2.2.1 i).mpr ⟨hi, w⟩
      rw [h3] at this
      simp at this
    · omega
  | n + 1, g, S, h, hi => by
    obtain ⟨a, b, c, S', h1, h2, h3⟩ := h
    by_cases w : i ≠ a ∧ i ≠ b
    · have hi' := (xp_bit h1.2.2.1 h1.2.2.2.1 i).mpr ⟨hi, w⟩
      obtain ⟨a', b', c', S'', k1, k2, k3, k4⟩ := Mt.swap n h3 hi'
      obtain ⟨m1, m2, m3, m4, m5, m6, m7⟩ := h1
      obtain ⟨l1, l2, l3, l4, l5, l6, l7⟩ := k1
      have e1 := (xp_bit m3 m4 a').mp l3
      have e2 := (xp_bit m3 m4 b').mp l4
      rw [nd_nd0] at m7 l7
      refine ⟨a', b', c', S'' ||| c, ⟨l1, l2, e1.1, e2.1, l5, l6, ?_⟩, ?_, ⟨a, b, c, S'', ⟨m1, m2, ?_, ?_, m5, m6, ?_⟩, rfl, ?_⟩, k4⟩
      · rw [nd_nd0]
        intro x hx
        refine ⟨(l7 x hx).1, ?_⟩
        rw [Nat.testBit_or, (l7 x hx).2, Bool.false_or]
        cases q : c.testBit x
        · rfl
        · have := (m7 x q).2
          rw [k2, Nat.testBit_or, hx] at this
          simp at this
      · rw [h2, k2, Nat.or_assoc, Nat.or_assoc, Nat.or_comm c' c]
      · exact (xp_bit e1.1 e2.1 a).mpr ⟨m3, fun q => e1.2.1 q.symm, fun q => e2.2.1 q.symm⟩
      · exact (xp_bit e1.1 e2.1 b).mpr ⟨m4, fun q => e1.2.2 q.symm, fun q => e2.2.2 q.symm⟩
      · rw [nd_nd0]
        intro x hx
        refine ⟨(m7 x hx).1, ?_⟩
        have := (m7 x hx).2
        rw [k2, Nat.testBit_or] at this
        simp only [Bool.or_eq_false_iff] at this
        exact this.1
      · rw [Nat.xor_assoc, Nat.xor_comm (pr a' b'), ← Nat.xor_assoc]
        exact k3
    · exact ⟨a, b, c, S', h1, h2, h3, by omega⟩
theorem Mt_lt {v : TV} : ∀ (n : Nat) {g S : Nat}, Mt v n g S → S < 2 ^ ts v
  | 0, g, S, h => by
    rw [h.2]
    exact Nat.pos_of_ne_zero (by simp)
  | n + 1, g, S, h => by
    obtain ⟨a, b, c, S', h1, h2, h3⟩ := h
    rw [h2]
    exact Nat.or_lt_two_pow (Mt_lt n h3) (opS_lt h1.2.2.2.2.2.1)
theorem TK_lt {v : TV} {g S : Nat} (h : TK v g S) : S < 2 ^ ts v := by
  obtain ⟨n, h⟩ := h
  exact Mt_lt n h
theorem pc_pr0 : ∀ g, g < 64 → ∀ i, i < 6 → ∀ j, j < 6 → (i = j ∨ ((g.testBit i && g.testBit j) = false ∨ pc (g ^^^ pr i j) % 2 = pc g % 2)) := by decide +kernel
theorem pc_pr (g : Nat) (hg : g < 64) (i : Nat) (hi : i < 6) (j : Nat) (hj : j < 6) (h : i ≠ j) (h1 : g.testBit i = true) (h2 : g.testBit j = true) : pc (g ^^^ pr i j) % 2 = pc g % 2 := by
  rcases pc_pr0 g hg i hi j hj with w | w | w
  · exact absurd w h
  · rw [h1, h2] at w
    cases w
  · exact w
theorem Mt_even {v : TV} (hv : vOk v) : ∀ (n : Nat) {g S : Nat}, g < 64 → Mt v n g S → pc g % 2 = 0
  | 0, g, S, _, h => by
    rw [h.1]
    rfl
  | n + 1, g, S, hg, h => by
    obtain ⟨a, b, c, S', ⟨h1, h2, h3, h4, -⟩, -, h5⟩ := h
    have h6 := hv.1
    rw [← pc_pr g hg a (by omega) b (by omega) (by omega) h3 h4]
    exact Mt_even hv n (xp_lt (n := 6) hg (by omega) (by omega)) h5
def AO (v : TV) (g T : Nat) : Prop := ∃ S, TK v g S ∧ nd S T = 0
theorem AO_0 (v : TV) (T : Nat) : AO v 0 T := ⟨0, ⟨0, rfl, rfl⟩, by simp [nd]⟩
theorem AO_iff {v : TV} {g T i : Nat} (hi : g.testBit i = true) (hm : ∀ x, x < i → g.testBit x = false) : AO v g T ↔ ∃ j, i < j ∧ j < tn v ∧ g.testBit j = true ∧ tog (tt v) i j ∧ ∃ c, opS v i j c ∧ nd c (T &&& stW v i) = 0 ∧ AO v (g ^^^ pr i j) (nd T c) := by
  constructor
  · rintro ⟨S, ⟨n, hn⟩, hS⟩
    cases n with
    | zero =>
      rw [hn.1] at hi
      simp at hi
    | succ n =>
      obtain ⟨a, b, c, S', ⟨m1, m2, m3, m4, m5, m6, m7⟩, h2, h3, h4⟩ := Mt.swap n hn hi
      have ea : a = i := by
        rcases h4 with w | w
        · exact w
        · have := hm a (by omega)
          rw [m3] at this
          cases this
      subst ea
      rw [nd_nd0] at m7
      rw [nd_0] at hS
      refine ⟨b, m1, m2, m4, m5, c, m6, ?_, S', ⟨n, h3⟩, ?_⟩
      · rw [nd_0]
        intro x hx
        rw [Nat.testBit_and, (m7 x hx).1, hS x (by rw [h2, Nat.testBit_or, hx, Bool.or_true])]
        rfl
      · rw [nd_nd0]
        intro x hx
        refine ⟨hS x (by rw [h2, Nat.testBit_or, hx, Bool.true_or]), ?_⟩
        cases q : c.testBit x
        · rfl
        · have := (m7 x q).2
          rw [hx] at this
          cases this
  · rintro ⟨j, h1, h2, h3, h4, c, h5, h6, S, h7, h8⟩
    rw [nd_0] at h6
    rw [nd_nd0] at h8
    refine ⟨S ||| c, (TK_iff v g _).mpr (Or.inr ⟨i, j, c, S, ⟨h1, h2, hi, h3, h4, h5, ?_⟩, rfl, h7⟩), ?_⟩
    · rw [nd_nd0]
      intro x hx
      have := h6 x hx
      rw [Nat.testBit_and, Bool.and_eq_true] at this
      refine ⟨this.2, ?_⟩
      cases q : S.testBit x
      · rfl
      · have := (h8 x q).2
        rw [hx] at this
        cases this
    · rw [nd_0]
      intro x hx
      rw [Nat.testBit_or, Bool.or_eq_true] at hx
      rcases hx with hx | hx
      · exact (h8 x hx).1
      · have := h6 x hx
        rw [Nat.testBit_and, Bool.and_eq_true] at this
        exact this.1
theorem AO_all {v : TV} (g : Nat) : AO v g (allS v) ↔ ∃ S, TK v g S := by
  constructor
  · rintro ⟨S, h, -⟩
    exact ⟨S, h⟩
  · rintro ⟨S, h⟩
    refine ⟨S, h, ?_⟩
    rw [nd_0]
    intro x hx
    have h1 := TK_lt h
    unfold allS
    rw [Nat.testBit_two_pow_sub_one, decide_eq_true_eq]
    rcases Nat.lt_or_ge x (ts v) with w | w
    · exact w
    · have h2 : 2 ^ ts v ≤ 2 ^ x := Nat.pow_le_pow_right (by decide) w
      rw [Nat.testBit_lt_two_pow (by omega)] at hx
      cases hx
/-- yes or no as a number -/
def bvI (r : Int32) (p : Prop) : Prop := (r = 1 ∧ p) ∨ (r = 0 ∧ ¬ p)
theorem bvI.iff {r : Int32} {p q : Prop} (h : bvI r p) (w : p ↔ q) : bvI r q := by
  rcases h with h | h
  · exact Or.inl ⟨h.1, w.mp h.2⟩
  · exact Or.inr ⟨h.1, fun x => h.2 (w.mpr x)⟩
/-- the most, of like many the least number -/
def isMost (C : Nat → Prop) (N s : Nat) : Prop := C s ∧ s ≤ N ∧ ∀ g, g < N → C g → pc g < pc s ∨ (pc g = pc s ∧ s ≤ g)
theorem isMost_0 {C : Nat → Prop} (h : C 0) : isMost C 0 0 := ⟨h, Nat.le_refl _, fun g q => absurd q (by omega)⟩
theorem isMost_no {C : Nat → Prop} {N s : Nat} (h : isMost C N s) (hn : ¬ C N) : isMost C (N + 1) s := ⟨h.1, by have := h.2.1; omega, fun g q c => by
  by_cases e : g = N
  · subst e
    exact absurd c hn
  · exact h.2.2 g (by omega) c⟩
theorem isMost_yes {C : Nat → Prop} {N s : Nat} (h : isMost C N s) (hn : C N) : isMost C (N + 1) (if pc N ≤ pc s then s else N) := by
  obtain ⟨h1, h2, h3⟩ := h
  by_cases c : pc N ≤ pc s
  · rw [if_pos c]
    refine ⟨h1, by omega, fun g q k => ?_⟩
    by_cases e : g = N
    · subst e
      omega
    · exact h3 g (by omega) k
  · rw [if_neg c]
    refine ⟨hn, by omega, fun g q k => ?_⟩
    by_cases e : g = N
    · subst e
      omega
    · have := h3 g (by omega) k
      omega
theorem isMost_uniq {C : Nat → Prop} {N s s' : Nat} (h : isMost C N s) (h' : isMost C N s') (hs : s < N) (hs' : s' < N) : s = s' := by
  have a := h.2.2 s' hs' h'.1
  have b := h'.2.2 s hs h.1
  omega
section MAT
variable {I J : xMem} {P : Nat} {v : TV}
theorem nd_pr {g i j : Nat} (hi : g.testBit i = true) (hj : g.testBit j = true) : nd g (pr i j) = g ^^^ pr i j := by
  unfold nd
  congr 1
  apply Nat.eq_of_testBit_eq
  intro x
  rw [Nat.testBit_and]
  cases q : (pr i j).testBit x
  · rw [Bool.and_false]
  · rcases (pr_bit i j x).mp q with rfl | rfl
    · rw [hi]
      rfl
    · rw [hj]
      rfl
theorem xp_less {g i j : Nat} (hi : g.testBit i = true) (hj : g.testBit j = true) : g ^^^ pr i j < g := by
  rw [← nd_pr hi hj]
  have h1 := nd_le g (pr i j)
  rcases Nat.lt_or_ge (nd g (pr i j)) g with w | w
  · exact w
  · have e : nd g (pr i j) = g := by omega
    have h2 : (nd g (pr i j)).testBit i = true := by rw [e]; exact hi
    rw [nd_bit, (pr_bit i j i).mpr (Or.inl rfl), hi] at h2
    cases h2
/-- with which sets the model looks whether two of a group can go -/
def gdM (v : TV) (g i j T q : Nat) : Prop := okO v i j q ∧ nd (fO q) (T &&& stW v i) = 0 ∧ AO v (g ^^^ pr i j) (nd T (fO q))
theorem gdM_iff (v : TV) (g i j T : Nat) : (∃ q, q < 256 ∧ gdM v g i j T q) ↔ ∃ c, opS v i j c ∧ nd c (T &&& stW v i) = 0 ∧ AO v (g ^^^ pr i j) (nd T c) := by
  constructor
  · rintro ⟨q, q1, q2, q3, q4⟩
    exact ⟨fO q, ⟨q, q1, q2, rfl⟩, q3, q4⟩
  · rintro ⟨c, ⟨q, q1, q2, q3⟩, h2, h3⟩
    rw [← q3] at h2 h3
    exact ⟨q, q1, q2, h2, h3⟩
/-- the model's table up to a group -/
def tbM (v : TV) (J : xMem) (k : Nat) : Prop := ∀ g, g < k → ∀ T, T < 2 ^ ts v → bvI (J 12 (16 * g + T)) (AO v g T)
end MAT
