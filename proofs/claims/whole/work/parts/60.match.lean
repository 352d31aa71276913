/-! AT ONCE: who of a group can go two by two with sets apart -/
def mStep (v : TV) (g i j c S : Nat) : Prop := i < j ∧ j < tn v ∧ g.testBit i = true ∧ g.testBit j = true ∧ tog (tt v) i j ∧ opS v i j c ∧ nd c (nd (stW v i) S) = 0
def Mt (v : TV) : Nat → Nat → Nat → Prop
  | 0, g, S => g = 0 ∧ S = 0
  | n + 1, g, S => ∃ i j c S', mStep v g i j c S' ∧ S = S' ||| c ∧ Mt v n (g ^^^ pr i j) S'
def TK (v : TV) (g S : Nat) : Prop := ∃ n, Mt v n g S
theorem TK_iff (v : TV) (g S : Nat) : TK v g S ↔ (g = 0 ∧ S = 0) ∨ ∃ i j c S', mStep v g i j c S' ∧ S = S' ||| c ∧ TK v (g ^^^ pr i j) S' := by
  constructor
  · rintro ⟨n, h⟩
    cases n with
    | zero => exact Or.inl h
    | succ n =>
      obtain ⟨i, j, c, S', h1, h2, h3⟩ := h
      exact Or.inr ⟨i, j, c, S', h1, h2, n, h3⟩
  · rintro (h | ⟨i, j, c, S', h1, h2, n, h3⟩)
    · exact ⟨0, h⟩
    · exact ⟨n + 1, i, j, c, S', h1, h2, h3⟩
theorem nd_0 (a b : Nat) : nd a b = 0 ↔ ∀ x, a.testBit x = true → b.testBit x = true := by
  constructor
  · intro h x hx
    have h1 : (nd a b).testBit x = false := by rw [h]; simp
    rw [nd_bit, hx] at h1
    simpa using h1
  · intro h
    apply Nat.eq_of_testBit_eq
    intro x
    rw [nd_bit, Nat.zero_testBit]
    cases hx : a.testBit x
    · rfl
    · rw [h x hx]
      rfl
theorem nd_nd0 (c w S : Nat) : nd c (nd w S) = 0 ↔ ∀ x, c.testBit x = true → w.testBit x = true ∧ S.testBit x = false := by
  rw [nd_0]
  constructor
  · intro h x hx
    have := h x hx
    rw [nd_bit] at this
    simpa using this
  · intro h x hx
    rw [nd_bit, (h x hx).1, (h x hx).2]
    rfl
theorem pr_bit (i j x : Nat) : (pr i j).testBit x = true ↔ (x = i ∨ x = j) := by
  unfold pr
  rw [Nat.testBit_or, Nat.testBit_two_pow, Nat.testBit_two_pow, Bool.or_eq_true, decide_eq_true_eq, decide_eq_true_eq]
  omega
theorem xp_bit {g i j : Nat} (hi : g.testBit i = true) (hj : g.testBit j = true) (x : Nat) : (g ^^^ pr i j).testBit x = true ↔ g.testBit x = true ∧ x ≠ i ∧ x ≠ j := by
  rw [Nat.testBit_xor]
  by_cases h : x = i ∨ x = j
  · have h1 : (pr i j).testBit x = true := (pr_bit i j x).mpr h
    have h2 : g.testBit x = true := by rcases h with rfl | rfl <;> assumption
    rw [h1, h2]
    simp
    omega
  · have h1 : (pr i j).testBit x = false := by
      cases q : (pr i j).testBit x
      · rfl
      · exact absurd ((pr_bit i j x).mp q) h
    rw [h1, Bool.xor_false]
    constructor
    · intro w
      exact ⟨w, by omega, by omega⟩
    · exact fun w => w.1
theorem Mt.swap {v : TV} {i : Nat} : ∀ (n : Nat) {g S : Nat}, Mt v (n + 1) g S → g.testBit i = true → ∃ a b c S', mStep v g a b c S' ∧ S = S' ||| c ∧ Mt v n (g ^^^ pr a b) S' ∧ (a = i ∨ b = i)
  | 0, g, S, h, hi => by
    obtain ⟨a, b, c, S', h1, h2, h3, h4⟩ := h
    refine ⟨a, b, c, S', h1, h2, ⟨h3, h4⟩, ?_⟩
    by_cases w : i ≠ a ∧ i ≠ b
    · have := (xp_bit h1.2.2.1 h1.2.2.2.1 i).mpr ⟨hi, w⟩
      rw [h3] at this
      simp at this
    · omega
  | n + 1, g, S, h, hi => by
    obtain ⟨a, b, c, S', h1, h2, h3⟩ := h
    by_cases w : i ≠ a ∧ i ≠ b
    · have hi' := (xp_bit h1.2.2.1 h1.2.2.2.1 i).mpr ⟨hi, w⟩
      obtain ⟨a', b', c', S'', k1, k2, k3, k4⟩ := Mt.swap n h3 hi'
      obtain ⟨m1, m2, m3, m4, m5, m6, m7⟩ := h1
      obtain ⟨l1, l2, l3, l4, l5, l6, l7⟩ := k1
      have e1 := (xp_bit m3 m4 a').mp l3
      have e2 := (xp_bit m3 m4 b').mp l4
      rw [nd_nd0] at m7 l7
      refine ⟨a', b', c', S'' ||| c, ⟨l1, l2, e1.1, e2.1, l5, l6, ?_⟩, ?_, ⟨a, b, c, S'', ⟨m1, m2, ?_, ?_, m5, m6, ?_⟩, rfl, ?_⟩, k4⟩
      · rw [nd_nd0]
        intro x hx
        refine ⟨(l7 x hx).1, ?_⟩
        rw [Nat.testBit_or, (l7 x hx).2, Bool.false_or]
        cases q : c.testBit x
        · rfl
        · have := (m7 x q).2
          rw [k2, Nat.testBit_or, hx] at this
          simp at this
      · rw [h2, k2, Nat.or_assoc, Nat.or_assoc, Nat.or_comm c' c]
      · exact (xp_bit e1.1 e2.1 a).mpr ⟨m3, fun q => e1.2.1 q.symm, fun q => e2.2.1 q.symm⟩
      · exact (xp_bit e1.1 e2.1 b).mpr ⟨m4, fun q => e1.2.2 q.symm, fun q => e2.2.2 q.symm⟩
      · rw [nd_nd0]
        intro x hx
        refine ⟨(m7 x hx).1, ?_⟩
        have := (m7 x hx).2
        rw [k2, Nat.testBit_or] at this
        simp only [Bool.or_eq_false_iff] at this
        exact this.1
      · rw [Nat.xor_assoc, Nat.xor_comm (pr a' b'), ← Nat.xor_assoc]
        exact k3
    · exact ⟨a, b, c, S', h1, h2, h3, by omega⟩
theorem Mt_lt {v : TV} : ∀ (n : Nat) {g S : Nat}, Mt v n g S → S < 2 ^ ts v
  | 0, g, S, h => by
    rw [h.2]
    exact Nat.pos_of_ne_zero (by simp)
  | n + 1, g, S, h => by
    obtain ⟨a, b, c, S', h1, h2, h3⟩ := h
    rw [h2]
    exact Nat.or_lt_two_pow (Mt_lt n h3) (opS_lt h1.2.2.2.2.2.1)
theorem TK_lt {v : TV} {g S : Nat} (h : TK v g S) : S < 2 ^ ts v := by
  obtain ⟨n, h⟩ := h
  exact Mt_lt n h
theorem pc_pr0 : ∀ g, g < 64 → ∀ i, i < 6 → ∀ j, j < 6 → (i = j ∨ ((g.testBit i && g.testBit j) = false ∨ pc (g ^^^ pr i j) % 2 = pc g % 2)) := by decide +kernel
theorem pc_pr (g : Nat) (hg : g < 64) (i : Nat) (hi : i < 6) (j : Nat) (hj : j < 6) (h : i ≠ j) (h1 : g.testBit i = true) (h2 : g.testBit j = true) : pc (g ^^^ pr i j) % 2 = pc g % 2 := by
  rcases pc_pr0 g hg i hi j hj with w | w | w
  · exact absurd w h
  · rw [h1, h2] at w
    cases w
  · exact w
theorem Mt_even {v : TV} (hv : vOk v) : ∀ (n : Nat) {g S : Nat}, g < 64 → Mt v n g S → pc g % 2 = 0
  | 0, g, S, _, h => by
    rw [h.1]
    rfl
  | n + 1, g, S, hg, h => by
    obtain ⟨a, b, c, S', ⟨h1, h2, h3, h4, -⟩, -, h5⟩ := h
    have h6 := hv.1
    rw [← pc_pr g hg a (by omega) b (by omega) (by omega) h3 h4]
    exact Mt_even hv n (xp_lt (n := 6) hg (by omega) (by omega)) h5
def AO (v : TV) (g T : Nat) : Prop := ∃ S, TK v g S ∧ nd S T = 0
theorem AO_0 (v : TV) (T : Nat) : AO v 0 T := ⟨0, ⟨0, rfl, rfl⟩, by simp [nd]⟩
theorem AO_iff {v : TV} {g T i : Nat} (hi : g.testBit i = true) (hm : ∀ x, x < i → g.testBit x = false) : AO v g T ↔ ∃ j, i < j ∧ j < tn v ∧ g.testBit j = true ∧ tog (tt v) i j ∧ ∃ c, opS v i j c ∧ nd c (T &&& stW v i) = 0 ∧ AO v (g ^^^ pr i j) (nd T c) := by
  constructor
  · rintro ⟨S, ⟨n, hn⟩, hS⟩
    cases n with
    | zero =>
      rw [hn.1] at hi
      simp at hi
    | succ n =>
      obtain ⟨a, b, c, S', ⟨m1, m2, m3, m4, m5, m6, m7⟩, h2, h3, h4⟩ := Mt.swap n hn hi
      have ea : a = i := by
        rcases h4 with w | w
        · exact w
        · have := hm a (by omega)
          rw [m3] at this
          cases this
      subst ea
      rw [nd_nd0] at m7
      rw [nd_0] at hS
      refine ⟨b, m1, m2, m4, m5, c, m6, ?_, S', ⟨n, h3⟩, ?_⟩
      · rw [nd_0]
        intro x hx
        rw [Nat.testBit_and, (m7 x hx).1, hS x (by rw [h2, Nat.testBit_or, hx, Bool.or_true])]
        rfl
      · rw [nd_nd0]
        intro x hx
        refine ⟨hS x (by rw [h2, Nat.testBit_or, hx, Bool.true_or]), ?_⟩
        cases q : c.testBit x
        · rfl
        · have := (m7 x q).2
          rw [hx] at this
          cases this
  · rintro ⟨j, h1, h2, h3, h4, c, h5, h6, S, h7, h8⟩
    rw [nd_0] at h6
    rw [nd_nd0] at h8
    refine ⟨S ||| c, (TK_iff v g _).mpr (Or.inr ⟨i, j, c, S, ⟨h1, h2, hi, h3, h4, h5, ?_⟩, rfl, h7⟩), ?_⟩
    · rw [nd_nd0]
      intro x hx
      have := h6 x hx
      rw [Nat.testBit_and, Bool.and_eq_true] at this
      refine ⟨this.2, ?_⟩
      cases q : S.testBit x
      · rfl
      · have := (h8 x q).2
        rw [hx] at this
        cases this
    · rw [nd_0]
      intro x hx
      rw [Nat.testBit_or, Bool.or_eq_true] at hx
      rcases hx with hx | hx
      · exact (h8 x hx).1
      · have := h6 x hx
        rw [Nat.testBit_and, Bool.and_eq_true] at this
        exact this.1
theorem AO_all {v : TV} (g : Nat) : AO v g (allS v) ↔ ∃ S, TK v g S := by
  constructor
  · rintro ⟨S, h, -⟩
    exact ⟨S, h⟩
  · rintro ⟨S, h⟩
    refine ⟨S, h, ?_⟩
    rw [nd_0]
    intro x hx
    have h1 := TK_lt h
    unfold allS
    rw [Nat.testBit_two_pow_sub_one, decide_eq_true_eq]
    rcases Nat.lt_or_ge x (ts v) with w | w
    · exact w
    · have h2 : 2 ^ ts v ≤ 2 ^ x := Nat.pow_le_pow_right (by decide) w
      rw [Nat.testBit_lt_two_pow (by omega)] at hx
      cases hx
/-- yes or no as a number -/
def bvI (r : Int32) (p : Prop) : Prop := (r = 1 ∧ p) ∨ (r = 0 ∧ ¬ p)
theorem bvI.iff {r : Int32} {p q : Prop} (h : bvI r p) (w : p ↔ q) : bvI r q := by
  rcases h with h | h
  · exact Or.inl ⟨h.1, w.mp h.2⟩
  · exact Or.inr ⟨h.1, fun x => h.2 (w.mpr x)⟩
/-- the most, of like many the least number -/
def isMost (C : Nat → Prop) (N s : Nat) : Prop := C s ∧ s ≤ N ∧ ∀ g, g < N → C g → pc g < pc s ∨ (pc g = pc s ∧ s ≤ g)
theorem isMost_0 {C : Nat → Prop} (h : C 0) : isMost C 0 0 := ⟨h, Nat.le_refl _, fun g q => absurd q (by omega)⟩
theorem isMost_no {C : Nat → Prop} {N s : Nat} (h : isMost C N s) (hn : ¬ C N) : isMost C (N + 1) s := ⟨h.1, by have := h.2.1; omega, fun g q c => by
  by_cases e : g = N
  · subst e
    exact absurd c hn
  · exact h.2.2 g (by omega) c⟩
theorem isMost_yes {C : Nat → Prop} {N s : Nat} (h : isMost C N s) (hn : C N) : isMost C (N + 1) (if pc N ≤ pc s then s else N) := by
  obtain ⟨h1, h2, h3⟩ := h
  by_cases c : pc N ≤ pc s
  · rw [if_pos c]
    refine ⟨h1, by omega, fun g q k => ?_⟩
    by_cases e : g = N
    · subst e
      omega
    · exact h3 g (by omega) k
  · rw [if_neg c]
    refine ⟨hn, by omega, fun g q k => ?_⟩
    by_cases e : g = N
    · subst e
      omega
    · have := h3 g (by omega) k
      omega
theorem isMost_uniq {C : Nat → Prop} {N s s' : Nat} (h : isMost C N s) (h' : isMost C N s') (hs : s < N) (hs' : s' < N) : s = s' := by
  have a := h.2.2 s' hs' h'.1
  have b := h'.2.2 s hs h.1
  omega
section MAT
variable {I J : xMem} {P : Nat} {v : TV}
theorem nd_pr {g i j : Nat} (hi : g.testBit i = true) (hj : g.testBit j = true) : nd g (pr i j) = g ^^^ pr i j := by
  unfold nd
  congr 1
  apply Nat.eq_of_testBit_eq
  intro x
  rw [Nat.testBit_and]
  cases q : (pr i j).testBit x
  · rw [Bool.and_false]
  · rcases (pr_bit i j x).mp q with rfl | rfl
    · rw [hi]
      rfl
    · rw [hj]
      rfl
theorem xp_less {g i j : Nat} (hi : g.testBit i = true) (hj : g.testBit j = true) : g ^^^ pr i j < g := by
  rw [← nd_pr hi hj]
  have h1 := nd_le g (pr i j)
  rcases Nat.lt_or_ge (nd g (pr i j)) g with w | w
  · exact w
  · have e : nd g (pr i j) = g := by omega
    have h2 : (nd g (pr i j)).testBit i = true := by rw [e]; exact hi
    rw [nd_bit, (pr_bit i j i).mpr (Or.inl rfl), hi] at h2
    cases h2
/-- with which sets the model looks whether two of a group can go -/
def gdM (v : TV) (g i j T q : Nat) : Prop := okO v i j q ∧ nd (fO q) (T &&& stW v i) = 0 ∧ AO v (g ^^^ pr i j) (nd T (fO q))
theorem gdM_iff (v : TV) (g i j T : Nat) : (∃ q, q < 256 ∧ gdM v g i j T q) ↔ ∃ c, opS v i j c ∧ nd c (T &&& stW v i) = 0 ∧ AO v (g ^^^ pr i j) (nd T c) := by
  constructor
  · rintro ⟨q, q1, q2, q3, q4⟩
    exact ⟨fO q, ⟨q, q1, q2, rfl⟩, q3, q4⟩
  · rintro ⟨c, ⟨q, q1, q2, q3⟩, h2, h3⟩
    rw [← q3] at h2 h3
    exact ⟨q, q1, q2, h2, h3⟩
/-- the model's table up to a group -/
def tbM (v : TV) (J : xMem) (k : Nat) : Prop := ∀ g, g < k → ∀ T, T < 2 ^ ts v → bvI (J 12 (16 * g + T)) (AO v g T)
theorem VM.goWith (hv : vOk v) (h : VM J v) {g T i j : Nat} (hg : g < 2 ^ tn v) (hT : T < 2 ^ ts v) (hJ : tbM v J g) (hi : i < tn v) (hj : j < tn v) (bi : g.testBit i = true) (bj : g.testBit j = true) : ∃ r, X5_goWith J (nI g) (nI i) (nI j) (nI T) = some r ∧ bvI r (∃ c, opS v i j c ∧ nd c (T &&& stW v i) = 0 ∧ AO v (g ^^^ pr i j) (nd T c)) := by
  have h6 := hv.1
  have h64 := p2n hv
  have h16 := p2s hv
  have hl := hv.2.2.1
  have hst := stW_lt hv i
  have hx := xp_less bi bj
  have fin : ∃ r, X5_goWith J (nI g) (nI i) (nI j) (nI T) = some r ∧ bvI r (∃ q, q < 256 ∧ gdM v g i j T q) := by
    unfold X5_goWith
    refine loop_T (fun fuel k (_ : Unit) => X5_goWith_L1 J (nI g) (nI i) (nI j) (nI T) (some (nz (0 : Int32))) fuel (nI k)) (fun o => ∃ r, o = some r ∧ bvI r (∃ q, q < 256 ∧ gdM v g i j T q)) 256 (fun k _ => ∀ q, q < k → ¬ gdM v g i j T q)
      (fun fuel k _ hk hI => ?_) (fun fuel _ hI => ?_) 256 bigF 0 () (by omega) (bigF_gt (by omega)) (fun q w => absurd w (by omega))
    · show (∃ r, X5_goWith_L1 J (nI g) (nI i) (nI j) (nI T) _ (fuel + 1) (nI k) = some r ∧ _) ∨ ∃ s', X5_goWith_L1 J (nI g) (nI i) (nI j) (nI T) _ (fuel + 1) (nI k) = _ ∧ _
      have hand : k / 16 &&& k % 16 < 2 ^ 31 := Nat.lt_of_le_of_lt Nat.and_le_left (by omega)
      have hor : k / 16 ||| k % 16 < 16 := fO_lt hk
      have hnd := nd_le (k / 16 ||| k % 16) (T &&& stW v i)
      have hnd2 := nd_le T (k / 16 ||| k % 16)
      have hsk := skN_le hv i j (k / 16) (k % 16)
      have htab := hJ (g ^^^ pr i j) hx (nd T (k / 16 ||| k % 16)) (by omega)
      rw [X5_goWith_L1]
      rw [if_neg (by rw [i_256, nI_le_iff (by omega) (by omega)]; omega), i_16, nI_rem (by omega) (by omega) (by omega), nI_div (by omega) (by omega) (by omega), nI_and, nI_or, h.stonesBy hv hi, bind_s, pr_nI (by omega) (by omega), nI_and, nI_nd, nI_nd, nI_nd, nd_pr bi bj, nI_mul, nI_sum, h.sink hv hi hj (by omega) (by omega), h.1.1]
      have next : ¬ gdM v g i j T k → ∀ (K : Int32 → Option Int32), K 0 = X5_goWith_L1 J (nI g) (nI i) (nI j) (nI T) (some (nz (0 : Int32))) fuel (nI k + 1) → ∃ s' : Unit, K 0 = X5_goWith_L1 J (nI g) (nI i) (nI j) (nI T) (some (nz (0 : Int32))) fuel (nI (k + 1)) ∧ ∀ q, q < k + 1 → ¬ gdM v g i j T q := fun w K e => ⟨(), by rw [e, show nI k + 1 = nI (k + 1) from nI_1 k], fun q w2 => by
        by_cases c : q = k
        · rw [c]; exact w
        · exact hI q (by omega)⟩
      by_cases c1 : k / 16 &&& k % 16 = 0
      · rw [if_pos (show nI (k / 16 &&& k % 16) = 0 by rw [c1]; rfl)]
        by_cases c2 : nd (k / 16 ||| k % 16) (T &&& stW v i) = 0
        · rw [if_pos (show nI (nd (k / 16 ||| k % 16) (T &&& stW v i)) = 0 by rw [c2]; rfl), rdI_nI (by omega) (by omega), bind_s]
          rcases htab with ⟨t1, t2⟩ | ⟨t1, t2⟩
          · rw [t1, if10, bind_s, if10, bind_s]
            by_cases c3 : skN v i j (k / 16) (k % 16) ≤ tl v
            · left
              rw [if_neg (by rw [nI_lt_iff (by omega) (by omega)]; omega)]
              have hle := nd0_le c2
              have hTl : T &&& stW v i ≤ T := Nat.and_le_left
              have a1 : k / 16 ≤ k / 16 ||| k % 16 := Nat.left_le_or
              have a2 : k % 16 ≤ k / 16 ||| k % 16 := Nat.right_le_or
              exact ⟨1, rfl, Or.inl ⟨rfl, k, hk, ⟨c1, by omega, by omega, c3⟩, c2, t2⟩⟩
            · right
              rw [if_pos (by rw [nI_lt_iff (by omega) (by omega)]; omega)]
              exact next (fun w => c3 w.1.2.2.2) (fun _ => X5_goWith_L1 J (nI g) (nI i) (nI j) (nI T) (some (nz (0 : Int32))) fuel (nI k + 1)) rfl
          · right
            rw [t1, if00, bind_s, if00]
            exact next (fun w => t2 w.2.2) (fun _ => X5_goWith_L1 J (nI g) (nI i) (nI j) (nI T) (some (nz (0 : Int32))) fuel (nI k + 1)) rfl
        · right
          rw [if_neg (show ¬ nI (nd (k / 16 ||| k % 16) (T &&& stW v i)) = 0 by rw [i_0, nI_eq_iff (by omega) (by omega)]; exact c2), bind_s, if00]
          exact next (fun w => c2 w.2.1) (fun _ => X5_goWith_L1 J (nI g) (nI i) (nI j) (nI T) (some (nz (0 : Int32))) fuel (nI k + 1)) rfl
      · right
        rw [if_neg (show ¬ nI (k / 16 &&& k % 16) = 0 by rw [i_0, nI_eq_iff hand (by omega)]; exact c1), bind_s, if00]
        exact next (fun w => c1 w.1.1) (fun _ => X5_goWith_L1 J (nI g) (nI i) (nI j) (nI T) (some (nz (0 : Int32))) fuel (nI k + 1)) rfl
    · show ∃ r, X5_goWith_L1 J (nI g) (nI i) (nI j) (nI T) _ (fuel + 1) (nI 256) = some r ∧ _
      rw [X5_goWith_L1]
      rw [if_pos (by rw [i_256]; exact Int32.le_refl _)]
      exact ⟨0, rfl, Or.inr ⟨rfl, fun ⟨q, q1, q2⟩ => hI q q1 q2⟩⟩
  obtain ⟨r, e1, e2⟩ := fin
  exact ⟨r, e1, e2.iff (gdM_iff v g i j T)⟩
theorem VM.atOnce (hv : vOk v) (h : VM J v) {g T : Nat} (hg : g < 2 ^ tn v) (hg0 : g ≠ 0) (hT : T < 2 ^ ts v) (hJ : tbM v J g) : ∃ r, X5_isAtOnce J (nI g) (nI T) = some r ∧ bvI r (AO v g T) := by
  have h6 := hv.1
  have h64 := p2n hv
  obtain ⟨i, hi, bi, hm⟩ : ∃ i, i < tn v ∧ g.testBit i = true ∧ ∀ x, x < i → g.testBit x = false := by
    have : ∀ m, (∀ x, x < m → g.testBit x = false) ∨ ∃ i, i < m ∧ g.testBit i = true ∧ ∀ x, x < i → g.testBit x = false := by
      intro m
      induction m with
      | zero => exact Or.inl (fun x w => absurd w (by omega))
      | succ m ih =>
        rcases ih with w | ⟨i, i1, i2, i3⟩
        · cases q : g.testBit m
          · refine Or.inl (fun x w2 => ?_)
            by_cases e : x = m
            · rw [e]; exact q
            · exact w x (by omega)
          · exact Or.inr ⟨m, by omega, q, w⟩
        · exact Or.inr ⟨i, by omega, i2, i3⟩
    rcases this (tn v) with w | w
    · refine absurd (Nat.eq_of_testBit_eq fun x => ?_) hg0
      rw [Nat.zero_testBit]
      rcases Nat.lt_or_ge x (tn v) with q | q
      · exact w x q
      · have h2 : 2 ^ tn v ≤ 2 ^ x := Nat.pow_le_pow_right (by decide) q
        exact Nat.testBit_lt_two_pow (by omega)
    · exact w
  have second : ∃ r, X5_isAtOnce_L2 J (nI g) (nI T) (nI i) (some (nz (0 : Int32))) bigF (nI (i + 1)) = some r ∧ bvI r (AO v g T) := by
    refine loop_T (fun fuel k (_ : Unit) => X5_isAtOnce_L2 J (nI g) (nI T) (nI i) (some (nz (0 : Int32))) fuel (nI k)) (fun o => ∃ r, o = some r ∧ bvI r (AO v g T)) (tn v) (fun k _ => i + 1 ≤ k ∧ ∀ j, i < j → j < k → ¬ (g.testBit j = true ∧ tog (tt v) i j ∧ ∃ c, opS v i j c ∧ nd c (T &&& stW v i) = 0 ∧ AO v (g ^^^ pr i j) (nd T c)))
      (fun fuel k _ hk hI => ?_) (fun fuel _ hI => ?_) (tn v - (i + 1)) bigF (i + 1) () (by omega) (bigF_gt (by omega)) ⟨by omega, fun j a b => absurd b (by omega)⟩
    · show (∃ r, X5_isAtOnce_L2 J (nI g) (nI T) (nI i) _ (fuel + 1) (nI k) = some r ∧ _) ∨ ∃ s', X5_isAtOnce_L2 J (nI g) (nI T) (nI i) _ (fuel + 1) (nI k) = _ ∧ _
      rw [X5_isAtOnce_L2]
      rw [h.1.2.2, if_neg (by rw [nI_le_iff (by omega) (by omega)]; omega), has_spec (by omega) (by omega)]
      have next : ¬ (g.testBit k = true ∧ tog (tt v) i k ∧ ∃ c, opS v i k c ∧ nd c (T &&& stW v i) = 0 ∧ AO v (g ^^^ pr i k) (nd T c)) → ∃ s' : Unit, X5_isAtOnce_L2 J (nI g) (nI T) (nI i) (some (nz (0 : Int32))) fuel (nI k + 1) = X5_isAtOnce_L2 J (nI g) (nI T) (nI i) (some (nz (0 : Int32))) fuel (nI (k + 1)) ∧ (i + 1 ≤ k + 1 ∧ ∀ j, i < j → j < k + 1 → ¬ (g.testBit j = true ∧ tog (tt v) i j ∧ ∃ c, opS v i j c ∧ nd c (T &&& stW v i) = 0 ∧ AO v (g ^^^ pr i j) (nd T c))) := fun w => ⟨(), by rw [show nI k + 1 = nI (k + 1) from nI_1 k], by omega, fun j a b => by
        by_cases c : j = k
        · rw [c]; exact w
        · exact hI.2 j a (by omega)⟩
      by_cases c1 : g.testBit k = true
      · rw [if_pos c1, if10, h.oneEnd hv hi hk, bind_s]
        by_cases c2 : same v i k
        · obtain ⟨r, e1, e2⟩ := h.goWith hv hg hT hJ hi hk bi c1
          rw [if_pos c2, if10, e1, bind_s]
          rcases e2 with ⟨rfl, e2⟩ | ⟨rfl, e2⟩
          · left
            rw [if10]
            exact ⟨1, rfl, Or.inl ⟨rfl, (AO_iff bi hm).mpr ⟨k, by omega, hk, c1, c2, e2⟩⟩⟩
          · right
            rw [if00]
            exact next (fun w => e2 w.2.2)
        · right
          rw [if_neg c2, if00]
          exact next (fun w => c2 w.2.1)
      · right
        rw [if_neg c1, if00]
        exact next (fun w => c1 w.1)
    · show ∃ r, X5_isAtOnce_L2 J (nI g) (nI T) (nI i) _ (fuel + 1) (nI (tn v)) = some r ∧ _
      rw [X5_isAtOnce_L2]
      rw [h.1.2.2, if_pos (Int32.le_refl _)]
      refine ⟨0, rfl, Or.inr ⟨rfl, fun w => ?_⟩⟩
      obtain ⟨j, j1, j2, j3, j4, j5⟩ := (AO_iff bi hm).mp w
      exact hI.2 j j1 j2 ⟨j3, j4, j5⟩
  unfold X5_isAtOnce
  obtain ⟨s, -, he⟩ := loop_I (fun fuel k (_ : Unit) => X5_isAtOnce_L1 (nI g) (fun z3 => X5_isAtOnce_L2 J (nI g) (nI T) z3 (some (nz (0 : Int32))) bigF (z3 + 1)) fuel (nI k)) (fun _ => X5_isAtOnce_L2 J (nI g) (nI T) (nI i) (some (nz (0 : Int32))) bigF (nI i + 1)) i (fun k _ => True)
    (fun fuel k s hk _ => ⟨(), by
      show X5_isAtOnce_L1 (nI g) _ (fuel + 1) (nI k) = _
      rw [X5_isAtOnce_L1]
      rw [has_spec (by omega) (by omega), hm k hk, if_neg (show ¬ (false = true) by decide), if00, show nI k + 1 = nI (k + 1) from nI_1 k], trivial⟩)
    (fun fuel s _ => by
      show X5_isAtOnce_L1 (nI g) _ (fuel + 1) (nI i) = _
      rw [X5_isAtOnce_L1]
      rw [has_spec (by omega) (by omega), if_pos bi, if10])
    i bigF 0 () (by omega) (bigF_gt (by omega)) trivial
  rw [show nI i + 1 = nI (i + 1) from nI_1 i] at he
  rw [i_0]
  exact ⟨second.choose, he.trans second.choose_spec.1, second.choose_spec.2⟩
end MAT
