/-! the least by which two sink with stones that are free, and with which: 256 times it, 16 times the one's set, the other's -/
abbrev okS (f c : Nat) : Prop := (c / 16) &&& (c % 16) = 0 ∧ nd ((c / 16) ||| (c % 16)) f = 0
def valS (v : TV) (ca cb : Nat) (t : Prop) [Decidable t] (c : Nat) : Nat := 256 * sunkN (ca + setW v (c / 16)) (cb + setW v (c % 16)) t + c
/-- s is the least of the values at good codes below N, or none is good and s is B -/
def leastB (ok : Nat → Prop) (val : Nat → Nat) (B N s : Nat) : Prop := (s = B ∧ ∀ c, c < N → ¬ ok c) ∨ ∃ c, c < N ∧ ok c ∧ s = val c ∧ ∀ c', c' < N → ok c' → s ≤ val c'
theorem leastB_0 (ok : Nat → Prop) (val : Nat → Nat) (B : Nat) : leastB ok val B 0 B := Or.inl ⟨rfl, fun _ h => absurd h (by omega)⟩
theorem leastB_no {ok : Nat → Prop} {val : Nat → Nat} {B N M s : Nat} (h : leastB ok val B N s) (hNM : N ≤ M) (hn : ∀ c, N ≤ c → c < M → ¬ ok c) : leastB ok val B M s := by
  rcases h with ⟨h1, h2⟩ | ⟨c, h1, h2, h3, h4⟩
  · exact Or.inl ⟨h1, fun c hc hk => by
      rcases Nat.lt_or_ge c N with q | q
      · exact h2 c q hk
      · exact hn c q hc hk⟩
  · exact Or.inr ⟨c, by omega, h2, h3, fun c' hc hk => by
      rcases Nat.lt_or_ge c' N with q | q
      · exact h4 c' q hk
      · exact absurd hk (hn c' q hc)⟩
theorem leastB_yes {ok : Nat → Prop} {val : Nat → Nat} {B N s : Nat} (h : leastB ok val B N s) (hk : ok N) (hB : val N ≤ B) : leastB ok val B (N + 1) (if val N < s then val N else s) := by
  refine Or.inr ?_
  rcases h with ⟨h1, h2⟩ | ⟨c, h1, h2, h3, h4⟩
  · refine ⟨N, by omega, hk, ?_, fun c' hc hk' => ?_⟩
    · split
      · rfl
      · omega
    · have : c' = N := by
        rcases Nat.lt_or_ge c' N with q | q
        · exact absurd hk' (h2 c' q)
        · omega
      subst this
      split <;> omega
  · by_cases q : val N < s
    · rw [if_pos q]
      refine ⟨N, by omega, hk, rfl, fun c' hc hk' => ?_⟩
      rcases Nat.lt_or_ge c' N with w | w
      · have := h4 c' w hk'
        omega
      · have : c' = N := by omega
        subst this
        exact Nat.le_refl _
    · rw [if_neg q]
      refine ⟨c, by omega, h2, h3, fun c' hc hk' => ?_⟩
      rcases Nat.lt_or_ge c' N with w | w
      · exact h4 c' w hk'
      · have : c' = N := by omega
        subst this
        omega
theorem leastB_uniq {ok : Nat → Prop} {val : Nat → Nat} {B B' N s s' c0 : Nat} (hc : c0 < N) (hk : ok c0) (h : leastB ok val B N s) (h' : leastB ok val B' N s') : s = s' := by
  rcases h with ⟨-, h2⟩ | ⟨c, h1, h2, h3, h4⟩
  · exact absurd hk (h2 c0 hc)
  · rcases h' with ⟨-, g2⟩ | ⟨d, g1, g2, g3, g4⟩
    · exact absurd hk (g2 c0 hc)
    · have a := h4 d g1 g2
      have b := g4 c h1 h2
      omega
theorem or0 (a b : Nat) : a ||| b = 0 ↔ a = 0 ∧ b = 0 := by
  constructor
  · intro h
    have h1 : ∀ i, a.testBit i = false ∧ b.testBit i = false := fun i => by
      have : (a ||| b).testBit i = false := by rw [h]; simp
      rw [Nat.testBit_or] at this
      simpa using this
    exact ⟨Nat.eq_of_testBit_eq fun i => by rw [(h1 i).1]; simp, Nat.eq_of_testBit_eq fun i => by rw [(h1 i).2]; simp⟩
  · rintro ⟨rfl, rfl⟩
    rfl
theorem nd_or (a b f : Nat) : nd (a ||| b) f = nd a f ||| nd b f := by
  apply Nat.eq_of_testBit_eq
  intro i
  simp only [nd_bit, Nat.testBit_or]
  cases a.testBit i <;> cases b.testBit i <;> cases f.testBit i <;> rfl
theorem nd0_le {a f : Nat} (h : nd a f = 0) : a ≤ f := by
  apply Nat.le_of_testBit
  intro i hi
  have h1 : (nd a f).testBit i = false := by rw [h]; simp
  rw [nd_bit, hi] at h1
  simpa using h1
theorem okS_iff (f a o : Nat) (ho : o < 16) : okS f (16 * a + o) ↔ nd a f = 0 ∧ (o &&& a) ||| nd o f = 0 := by
  have e1 : (16 * a + o) / 16 = a := by omega
  have e2 : (16 * a + o) % 16 = o := by omega
  unfold okS
  rw [e1, e2, nd_or, or0, or0, Nat.and_comm o a]
  constructor
  · rintro ⟨h1, h2, h3⟩
    exact ⟨h2, h1, h3⟩
  · rintro ⟨h2, h1, h3⟩
    exact ⟨h1, h2, h3⟩
theorem okS_0 (f : Nat) : okS f 0 := by
  unfold okS
  simp [nd]
/-- the least, as a number -/
def lst (v : TV) (ca cb : Nat) (t : Prop) [Decidable t] (f : Nat) : Nat := foldF (fun c s => if okS f c then (if valS v ca cb t c < s then valS v ca cb t c else s) else s) 0 256 1073741824
theorem valS_le {v : TV} (hv : vOk v) {ca cb : Nat} (ha : ca ≤ 200) (hb : cb ≤ 200) (t : Prop) [Decidable t] {c : Nat} (hc : c < 256) : valS v ca cb t c < 65536 := by
  have h1 := setW_le hv (c / 16)
  have h2 := setW_le hv (c % 16)
  have h3 : sunkN (ca + setW v (c / 16)) (cb + setW v (c % 16)) t ≤ 236 := sunkN_le (by omega) (by omega)
  unfold valS
  omega
theorem lst_is {v : TV} (hv : vOk v) {ca cb : Nat} (ha : ca ≤ 200) (hb : cb ≤ 200) (t : Prop) [Decidable t] (f : Nat) : leastB (okS f) (valS v ca cb t) 1073741824 256 (lst v ca cb t f) := by
  have h := foldF_inv (fun c s => if okS f c then (if valS v ca cb t c < s then valS v ca cb t c else s) else s) (fun c s => c ≤ 256 → leastB (okS f) (valS v ca cb t) 1073741824 c s) 256 0 1073741824 (fun _ => leastB_0 _ _ _) (fun j s h1 h2 h3 h4 => by
    have h3 := h3 (by omega)
    by_cases hk : okS f j
    · rw [if_pos hk]
      exact leastB_yes h3 hk (by have := valS_le hv ha hb t (c := j) (by omega); omega)
    · rw [if_neg hk]
      exact leastB_no h3 (by omega) (fun c a b => by
        have : c = j := by omega
        subst this
        exact hk))
  exact h (by decide)
theorem lst_lt {v : TV} (hv : vOk v) {ca cb : Nat} (ha : ca ≤ 200) (hb : cb ≤ 200) (t : Prop) [Decidable t] (f : Nat) : lst v ca cb t f < 65536 := by
  rcases lst_is hv ha hb t f with ⟨-, h2⟩ | ⟨c, h1, h2, h3, h4⟩
  · exact absurd (okS_0 f) (h2 0 (by omega))
  · rw [h3]
    exact valS_le hv ha hb t h1
theorem sub4 (x y p q : Nat) : nI x - nI y + nI p - nI q = nI (x + p) - nI (y + q) := by
  rw [← nI_sum, ← nI_sum, Int32.sub_eq_add_neg, Int32.sub_eq_add_neg, Int32.sub_eq_add_neg, Int32.neg_add, Int32.sub_eq_add_neg]
  ac_rfl
theorem VC.least {I : xMem} {P : Nat} {v : TV} (hv : vOk v) (h : VC I P v) {ca cb f : Nat} (ha : ca ≤ 200) (hb : cb ≤ 200) (t : Prop) [Decidable t] (hf : f < 2 ^ ts v) : X1_least P I (nI ca - nI cb) (if t then nI 1 else nI 0) (nI f) = some (nI (lst v ca cb t f)) := by
  have h2 := hv.2.1
  have h3 := p2s hv
  have h4 : 0 < 2 ^ ts v := Nat.pos_of_ne_zero (by simp)
  have hall := h.allStones hv
  have e4 : allS v = 2 ^ ts v - 1 := rfl
  have wl := setW_le hv
  have inner : ∀ (K : Int32 → Option Int32) (a : Nat), a < 2 ^ ts v → ∀ s, s < 2 ^ 31 → leastB (okS f) (valS v ca cb t) 1073741824 (16 * a) s → ∃ s', (s' < 2 ^ 31 ∧ leastB (okS f) (valS v ca cb t) 1073741824 (16 * (a + 1)) s') ∧ X1_least_L2 P I (nI ca - nI cb) (if t then nI 1 else nI 0) (nI f) (nI a) K bigF (nI s) (nI 0) = K (nI s') := by
    intro K a ha2 s hs hI
    have wa := wl a
    refine loop_T (fun fuel k (s : Nat) => X1_least_L2 P I (nI ca - nI cb) (if t then nI 1 else nI 0) (nI f) (nI a) K fuel (nI s) (nI k)) (fun o => ∃ s', (s' < 2 ^ 31 ∧ leastB (okS f) (valS v ca cb t) 1073741824 (16 * (a + 1)) s') ∧ o = K (nI s')) (2 ^ ts v) (fun k s => s < 2 ^ 31 ∧ leastB (okS f) (valS v ca cb t) 1073741824 (16 * a + k) s)
      (fun fuel k s hk hI => ?_) (fun fuel s hI => ?_) (2 ^ ts v) bigF 0 s (by omega) (bigF_gt (by omega)) ⟨hs, hI⟩
    · show (∃ s', _ ∧ X1_least_L2 P I (nI ca - nI cb) _ (nI f) (nI a) K (fuel + 1) (nI s) (nI k) = K (nI s')) ∨ ∃ s', X1_least_L2 P I (nI ca - nI cb) _ (nI f) (nI a) K (fuel + 1) (nI s) (nI k) = _ ∧ _
      obtain ⟨hs, hI⟩ := hI
      rw [X1_least_L2]
      rw [hall, if_neg (by rw [nI_lt_iff (by omega) (by omega)]; omega), nI_nd]
      have ndl := nd_le a f
      by_cases c1 : nd a f = 0
      · rw [if_pos (by rw [c1]; rfl), nI_ndor]
        by_cases c2 : (k &&& a) ||| nd k f = 0
        · right
          rw [if_pos (by rw [c2]; rfl), rdI_nI (by omega) (by omega), bind_s, rdI_nI (by omega) (by omega), bind_s, h.2.2.2.1 a ha2, h.2.2.2.1 k hk, sub4, sunk_nI (by have := wl a; omega) (by have := wl k; omega)]
          have hok : okS f (16 * a + k) := (okS_iff f a k (by omega)).mpr ⟨c1, c2⟩
          have hval : 256 * sunkN (ca + setW v a) (cb + setW v k) t + 16 * a + k = valS v ca cb t (16 * a + k) := by
            unfold valS
            rw [show (16 * a + k) / 16 = a by omega, show (16 * a + k) % 16 = k by omega]
            omega
          have hlt := valS_le hv ha hb t (c := 16 * a + k) (by omega)
          have hB : valS v ca cb t (16 * a + k) ≤ 1073741824 := by omega
          rw [i_256, i_16, nI_mul, nI_mul, nI_sum, nI_sum, hval, i_1, nI_sum]
          refine ⟨if valS v ca cb t (16 * a + k) < s then valS v ca cb t (16 * a + k) else s, ?_, ?_, ?_⟩
          · congr 1
            by_cases q : valS v ca cb t (16 * a + k) < s
            · rw [if_pos q, if_pos ((nI_lt_iff (by omega) hs).mpr q)]
            · rw [if_neg q, if_neg (fun w => q ((nI_lt_iff (by omega) hs).mp w))]
          · split <;> omega
          · exact leastB_yes hI hok hB
        · right
          have hlo : (k &&& a) ||| nd k f < 2 ^ 31 := by
            have q1 : k &&& a < 2 ^ 4 := Nat.and_lt_two_pow _ (by omega)
            have q2 : nd k f < 2 ^ 4 := by have := nd_le k f; omega
            have := Nat.or_lt_two_pow q1 q2
            omega
          rw [if_neg (by rw [i_0, nI_eq_iff hlo (by omega)]; exact c2), i_1, nI_sum]
          exact ⟨s, rfl, hs, leastB_no hI (by omega) (fun c q1 q2 => by
            have : c = 16 * a + k := by omega
            subst this
            rw [okS_iff f a k (by omega)]
            exact fun w => c2 w.2)⟩
      · left
        rw [if_neg (by rw [i_0, nI_eq_iff (by omega) (by omega)]; exact c1)]
        exact ⟨s, ⟨hs, leastB_no hI (by omega) (fun c q1 q2 => by
          rw [show c = 16 * a + (c - 16 * a) by omega, okS_iff f a _ (by omega)]
          exact fun w => c1 w.1)⟩, rfl⟩
    · show ∃ s', _ ∧ X1_least_L2 P I (nI ca - nI cb) _ (nI f) (nI a) K (fuel + 1) (nI s) (nI (2 ^ ts v)) = K (nI s')
      obtain ⟨hs, hI⟩ := hI
      rw [X1_least_L2]
      rw [hall, if_pos (by rw [nI_lt_iff (by omega) (by omega)]; omega)]
      exact ⟨s, ⟨hs, leastB_no hI (by omega) (fun c q1 q2 => by
        rw [show c = 16 * a + (c - 16 * a) by omega, okS_iff f a _ (by omega)]
        intro w
        have := nd0_le ((or0 _ _).mp w.2).2
        omega)⟩, rfl⟩
  unfold X1_least
  obtain ⟨s', ⟨hs, hI⟩, he⟩ := loop_I (fun fuel k (s : Nat) => X1_least_L1 P I (nI ca - nI cb) (if t then nI 1 else nI 0) (nI f) (fun z => some z) fuel (nI s) (nI k)) (fun s => some (nI s)) (2 ^ ts v) (fun k s => s < 2 ^ 31 ∧ leastB (okS f) (valS v ca cb t) 1073741824 (16 * k) s)
    (fun fuel k s hk hI => by
      obtain ⟨s', g1, g2⟩ := inner (fun z => X1_least_L1 P I (nI ca - nI cb) (if t then nI 1 else nI 0) (nI f) (fun z => some z) fuel z (nI k + 1)) k hk s hI.1 hI.2
      refine ⟨s', ?_, g1⟩
      show X1_least_L1 P I (nI ca - nI cb) _ (nI f) _ (fuel + 1) (nI s) (nI k) = _
      rw [X1_least_L1]
      rw [hall, if_neg (by rw [nI_lt_iff (by omega) (by omega)]; omega)]
      refine g2.trans ?_
      rw [show nI k + 1 = nI (k + 1) from nI_1 k])
    (fun fuel s hI => by
      show X1_least_L1 P I (nI ca - nI cb) _ (nI f) _ (fuel + 1) (nI s) (nI (2 ^ ts v)) = _
      rw [X1_least_L1]
      rw [hall, if_pos (by rw [nI_lt_iff (by omega) (by omega)]; omega)])
    (2 ^ ts v) bigF 0 1073741824 (by omega) (bigF_gt (by omega)) ⟨by omega, leastB_0 _ _ _⟩
  have hI' : leastB (okS f) (valS v ca cb t) 1073741824 256 s' := leastB_no hI (by omega) (fun c q1 q2 => by
    rw [show c = 16 * (c / 16) + c % 16 by omega, okS_iff f _ _ (by omega)]
    intro w
    have := nd0_le w.1
    omega)
  rw [leastB_uniq (by omega) (okS_0 f) (lst_is hv ha hb t f) hI']
  exact he
