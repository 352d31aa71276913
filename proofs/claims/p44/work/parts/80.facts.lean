/-! WHAT HOLDS OF A TOWER'S NUMBERS -/
theorem dist_comm (a b : Nat) : dist a b = dist b a := by
  unfold dist
  split <;> split <;> omega
theorem sunkN_cong {a b a' b' : Nat} {t t' : Prop} [Decidable t] [Decidable t'] (h : dist a b = dist a' b') (ht : t ↔ t') : sunkN a b t = sunkN a' b' t' := by
  unfold sunkN
  rw [h]
  by_cases c : t
  · rw [if_pos c, if_pos (ht.mp c)]
  · rw [if_neg c, if_neg (fun q => c (ht.mpr q))]
theorem skN_sym (w : TV) (i j a b : Nat) : skN w i j a b = skN w j i b a := sunkN_cong (dist_comm _ _) ⟨fun h => ⟨h.2, h.1⟩, fun h => ⟨h.2, h.1⟩⟩
theorem nd_zero (a : Nat) : nd a 0 = a := by
  unfold nd
  simp
theorem canL0 (w : TV) (i j : Nat) : canL w i j 0 ↔ same w i j ∧ bestN w i j / 256 ≤ tl w := by
  unfold bestN
  rw [canL, nd_zero]
theorem lstV_le {w : TV} (hv : vOk w) (i j f m : Nat) : lstV w i j f / 256 ≤ m ↔ ∃ c, c < 256 ∧ okS f c ∧ skN w i j (c / 16) (c % 16) ≤ m := by
  have h1 := cnt_le hv i
  have h2 := cnt_le hv j
  exact lst_le hv (show cnt w i ≤ 200 by omega) (show cnt w j ≤ 200 by omega) _ f m
theorem lstV_ok {w : TV} (hv : vOk w) (i j f : Nat) : okS f (lstV w i j f % 256) ∧ lstV w i j f / 256 = skN w i j (lstV w i j f % 256 / 16) (lstV w i j f % 256 % 16) := by
  have h1 := cnt_le hv i
  have h2 := cnt_le hv j
  rcases lst_is hv (show cnt w i ≤ 200 by omega) (show cnt w j ≤ 200 by omega) (twins w i j) f with ⟨-, q⟩ | ⟨c, c1, c2, c3, -⟩
  · exact absurd (okS_0 f) (q 0 (by omega))
  · have e : lstV w i j f = 256 * skN w i j (c / 16) (c % 16) + c := c3
    rw [show lstV w i j f % 256 = c by omega, show lstV w i j f / 256 = skN w i j (c / 16) (c % 16) by omega]
    exact ⟨c2, rfl⟩
/-- the best stones sink no more than others that are there -/
theorem best_le {w : TV} (hv : vOk w) {i j a b : Nat} (ha : a < 16) (hb : b < 16) (hab : a &&& b = 0) (hs : nd (a ||| b) (stW w i) = 0) : bestN w i j / 256 ≤ skN w i j a b := by
  refine (lstV_le hv i j (stW w i) _).mpr ⟨16 * a + b, by omega, ⟨?_, ?_⟩, ?_⟩
  · rw [show (16 * a + b) / 16 = a by omega, show (16 * a + b) % 16 = b by omega]; exact hab
  · rw [show (16 * a + b) / 16 = a by omega, show (16 * a + b) % 16 = b by omega]; exact hs
  · rw [show (16 * a + b) / 16 = a by omega, show (16 * a + b) % 16 = b by omega]
    exact Nat.le_refl _
theorem best_0 {w : TV} (hv : vOk w) (i j : Nat) : bestN w i j / 256 ≤ skN w i j 0 0 := best_le hv (by omega) (by omega) rfl (by simp [nd])
theorem stW_same {w : TV} {i j : Nat} (h : same w i j) : stW w i = stW w j := by
  unfold stW
  rw [show (tt w).testBit i = (tt w).testBit j from h]
theorem okS_swap {f c : Nat} (h : c < 256) (hk : okS f c) : okS f (16 * (c % 16) + c / 16) := by
  unfold okS at *
  rw [show (16 * (c % 16) + c / 16) / 16 = c % 16 by omega, show (16 * (c % 16) + c / 16) % 16 = c / 16 by omega, Nat.and_comm, Nat.or_comm]
  exact hk
theorem best_sym {w : TV} (hv : vOk w) {i j : Nat} (h : same w i j) : bestN w i j / 256 = bestN w j i / 256 := by
  have key : ∀ i j, same w i j → bestN w j i / 256 ≤ bestN w i j / 256 := fun i j h => by
    obtain ⟨c, c1, c2, c3⟩ := (lstV_le hv i j (stW w i) (bestN w i j / 256)).mp (Nat.le_refl _)
    refine (lstV_le hv j i (stW w j) _).mpr ⟨16 * (c % 16) + c / 16, by omega, ?_, ?_⟩
    · rw [← stW_same h]
      exact okS_swap c1 c2
    · rw [show (16 * (c % 16) + c / 16) / 16 = c % 16 by omega, show (16 * (c % 16) + c / 16) % 16 = c / 16 by omega, skN_sym]
      exact c3
  have := key i j h
  have := key j i h.symm
  omega
theorem canL_sym {w : TV} (hv : vOk w) {i j : Nat} : canL w i j 0 ↔ canL w j i 0 := by
  rw [canL0, canL0]
  constructor
  · rintro ⟨a, b⟩
    exact ⟨a.symm, by rw [← best_sym hv a]; exact b⟩
  · rintro ⟨a, b⟩
    exact ⟨a.symm, by rw [← best_sym hv a]; exact b⟩
theorem comp_bit (w : TV) (i k : Nat) : (compN w i).testBit k = true ↔ k < tn w ∧ i ≠ k ∧ canL w i k 0 := foldF_bits (fun k => i ≠ k ∧ canL w i k 0) (tn w) k
theorem lt_of_bits {s n : Nat} (h : ∀ k, s.testBit k = true → k < n) : s < 2 ^ n := by
  refine Nat.lt_pow_two_of_testBit _ fun i hi => ?_
  cases hb : s.testBit i with
  | false => rfl
  | true => have := h i hb; omega
theorem comp_lt (w : TV) (i : Nat) : compN w i < 2 ^ tn w := lt_of_bits fun k h => ((comp_bit w i k).mp h).1
theorem bit_lt {s n k : Nat} (h : s < 2 ^ n) (hb : s.testBit k = true) : k < n := by
  rcases Nat.lt_or_ge k n with q | q
  · exact q
  · have : 2 ^ n ≤ 2 ^ k := Nat.pow_le_pow_right (by decide) q
    rw [Nat.testBit_lt_two_pow (by omega)] at hb
    cases hb
theorem allS_bit (w : TV) (k : Nat) : (allS w).testBit k = decide (k < ts w) := Nat.testBit_two_pow_sub_one _ _
/-! how many pairs -/
def rowC (w : TV) (but i m : Nat) : Nat := sumN (fun b => if i < b ∧ canL w i b but then 1 else 0) m
theorem rowC_eq (w : TV) (but i : Nat) : ∀ m, rowC w but i (i + 1 + m) = sumN (fun t => if canL w i (i + 1 + t) but then 1 else 0) m
  | 0 => by
    have : ∀ q, q ≤ i + 1 → sumN (fun b => if i < b ∧ canL w i b but then 1 else 0) q = 0 := by
      intro q
      induction q with
      | zero => intro _; rfl
      | succ q ih =>
        intro hq
        show sumN (fun b => if i < b ∧ canL w i b but then 1 else 0) q + (if i < q ∧ canL w i q but then 1 else 0) = 0
        rw [ih (by omega), if_neg (fun h => by omega)]
    exact this _ (Nat.le_refl _)
  | m + 1 => by
    show rowC w but i (i + 1 + m) + (if i < i + 1 + m ∧ canL w i (i + 1 + m) but then 1 else 0) = _
    rw [rowC_eq w but i m]
    show _ = sumN (fun t => if canL w i (i + 1 + t) but then 1 else 0) m + (if canL w i (i + 1 + m) but then 1 else 0)
    congr 1
    by_cases c : canL w i (i + 1 + m) but
    · rw [if_pos ⟨by omega, c⟩, if_pos c]
    · rw [if_neg (fun h => c h.2), if_neg c]
theorem cntP_rows (w : TV) (but : Nat) : cntP w but = sumN (fun i => rowC w but i (tn w)) (tn w) := by
  unfold cntP
  refine sumN_congr _ fun i hi => ?_
  show _ = rowC w but i (tn w)
  rw [← rowC_eq, show i + 1 + (tn w - (i + 1)) = tn w by omega]
theorem sumN_pos {f : Nat → Nat} {i : Nat} : ∀ n, i < n → 0 < f i → 0 < sumN f n
  | n + 1, h, h0 => by
    show 0 < sumN f n + f n
    by_cases e : i = n
    · subst e; omega
    · have := sumN_pos (f := f) n (show i < n by omega) h0
      omega
theorem sumN_pos' {f : Nat → Nat} : ∀ n, 0 < sumN f n → ∃ i, i < n ∧ 0 < f i
  | n + 1, h => by
    have h : 0 < sumN f n + f n := h
    by_cases e : 0 < f n
    · exact ⟨n, by omega, e⟩
    · obtain ⟨i, h1, h2⟩ := sumN_pos' n (show 0 < sumN f n by omega)
      exact ⟨i, by omega, h2⟩
theorem cntP_pos (w : TV) (but : Nat) : 0 < cntP w but ↔ ∃ i j, i < j ∧ j < tn w ∧ canL w i j but := by
  rw [cntP_rows]
  constructor
  · intro h
    obtain ⟨i, i1, i2⟩ := sumN_pos' _ h
    obtain ⟨j, j1, j2⟩ := sumN_pos' (f := fun b => if i < b ∧ canL w i b but then 1 else 0) _ i2
    by_cases c : i < j ∧ canL w i j but
    · exact ⟨i, j, c.1, j1, c.2⟩
    · rw [if_neg c] at j2
      omega
  · rintro ⟨i, j, h1, h2, h3⟩
    refine sumN_pos (i := i) _ (by omega) ?_
    show 0 < rowC w but i (tn w)
    refine sumN_pos (f := fun b => if i < b ∧ canL w i b but then 1 else 0) (i := j) _ h2 ?_
    rw [if_pos ⟨h1, h3⟩]
    omega
theorem canL_less {w : TV} (hv : vOk w) {i j but : Nat} (h : canL w i j but) : canL w i j 0 := by
  obtain ⟨h1, h2⟩ := h
  refine ⟨h1, ?_⟩
  rw [nd_zero]
  obtain ⟨c, c1, c2, c3⟩ := (lstV_le hv i j _ _).mp h2
  refine (lstV_le hv i j _ _).mpr ⟨c, c1, ⟨c2.1, (nd_0 _ _).mpr fun x hx => ?_⟩, c3⟩
  have := (nd_0 _ _).mp c2.2 x hx
  rw [nd_bit] at this
  simp only [Bool.and_eq_true] at this
  exact this.1
theorem cntP_less {w : TV} (hv : vOk w) (but : Nat) : cntP w but ≤ cntP w 0 := by
  rw [cntP_rows, cntP_rows]
  refine sumN_mono _ fun i hi => sumN_mono _ fun j hj => ?_
  show (if i < j ∧ canL w i j but then 1 else 0) ≤ (if i < j ∧ canL w i j 0 then 1 else 0)
  by_cases c : i < j ∧ canL w i j but
  · rw [if_pos c, if_pos ⟨c.1, canL_less hv c.2⟩]
    exact Nat.le_refl _
  · rw [if_neg c]
    exact Nat.zero_le _
theorem wor_less {w : TV} (hv : vOk w) : ∀ m, (worN w m).2 ≤ cntP w 0
  | 0 => cntP_less hv 1
  | m + 1 => by
    have h := wor_less hv m
    show (foldF (worG w) 1 (m + 1) (0, cntP w 1)).2 ≤ _
    rw [foldF_succ]
    show (worG w (1 + m) (worN w m)).2 ≤ _
    unfold worG
    split
    · exact h
    · exact cntP_less hv _
/-! who can go, by sets of stones -/
theorem canL_op {w : TV} (hv : vOk w) {i j : Nat} : canL w i j 0 ↔ same w i j ∧ ∃ c, opS w i j c ∧ nd c (stW w i) = 0 := by
  rw [canL0]
  constructor
  · rintro ⟨h1, h2⟩
    refine ⟨h1, ?_⟩
    obtain ⟨c, c1, c2, c3⟩ := (lstV_le hv i j _ _).mp h2
    have hst := stW_lt hv i
    have hx := nd0_le (show nd (c / 16) (stW w i) = 0 by have := c2.2; rw [nd_or, or0] at this; exact this.1)
    have hy := nd0_le (show nd (c % 16) (stW w i) = 0 by have := c2.2; rw [nd_or, or0] at this; exact this.2)
    exact ⟨c / 16 ||| c % 16, ⟨c, c1, ⟨c2.1, by omega, by omega, c3⟩, rfl⟩, c2.2⟩
  · rintro ⟨h1, c, ⟨q, q1, ⟨q2, q3, q4, q5⟩, rfl⟩, h3⟩
    exact ⟨h1, (lstV_le hv i j _ _).mpr ⟨q, q1, ⟨q2, h3⟩, q5⟩⟩
/-! all that can go at once -/
theorem step_can {w : TV} (hv : vOk w) {g i j c S : Nat} (h : mStep w g i j c S) : i < j ∧ j < tn w ∧ g.testBit i = true ∧ g.testBit j = true ∧ canL w i j 0 := by
  obtain ⟨h1, h2, h3, h4, h5, h6, h7⟩ := h
  refine ⟨h1, h2, h3, h4, (canL_op hv).mpr ⟨h5, c, h6, (nd_0 _ _).mpr fun x hx => ((nd_nd0 c _ _).mp h7 x hx).1⟩⟩
theorem Mt_pc {w : TV} (hv : vOk w) : ∀ (n : Nat) {g S : Nat}, g < 64 → Mt w n g S → pc g = 2 * n
  | 0, g, S, hg, h => by
    rw [h.1]
    rfl
  | n + 1, g, S, hg, h => by
    obtain ⟨i, j, c, S', h1, h2, h3⟩ := h
    have h6 := hv.1
    obtain ⟨s1, s2, s3, s4, -⟩ := step_can hv h1
    have hlt := xp_less s3 s4
    have := Mt_pc hv n (by omega) h3
    have key : ∀ g, g < 64 → ∀ i, i < 6 → ∀ j, j < 6 → i = j ∨ (g.testBit i && g.testBit j) = false ∨ pc (g ^^^ pr i j) + 2 = pc g := by decide +kernel
    rcases key g hg i (by omega) j (by omega) with q | q | q
    · omega
    · rw [s3, s4] at q
      cases q
    · omega
theorem xand (g t i j : Nat) (h : t.testBit i = t.testBit j) : (g ^^^ pr i j) &&& t = if t.testBit i then (g &&& t) ^^^ pr i j else g &&& t := by
  apply Nat.eq_of_testBit_eq
  intro x
  have hp := pr_bit i j x
  by_cases c : t.testBit i = true
  · rw [if_pos c]
    simp only [Nat.testBit_and, Nat.testBit_xor]
    by_cases e : x = i ∨ x = j
    · have ht : t.testBit x = true := by
        rcases e with rfl | rfl
        · exact c
        · rw [← h]; exact c
      rw [ht, hp.mpr e]
      simp
    · have hf : (pr i j).testBit x = false := by
        cases hb : (pr i j).testBit x with
        | false => rfl
        | true => exact absurd (hp.mp hb) e
      rw [hf]
      simp
  · rw [if_neg c]
    simp only [Nat.testBit_and, Nat.testBit_xor]
    by_cases e : x = i ∨ x = j
    · have ht : t.testBit x = false := by
        have c' : t.testBit i = false := by
          cases hb : t.testBit i with
          | false => rfl
          | true => exact absurd hb c
        rcases e with rfl | rfl
        · exact c'
        · rw [← h]; exact c'
      rw [ht]
      simp
    · have hf : (pr i j).testBit x = false := by
        cases hb : (pr i j).testBit x with
        | false => rfl
        | true => exact absurd (hp.mp hb) e
      rw [hf]
      simp
theorem Mt_top {w : TV} (hv : vOk w) : ∀ (n : Nat) {g S : Nat}, g < 64 → Mt w n g S → pc (g &&& tt w) % 2 = 0
  | 0, g, S, hg, h => by
    rw [h.1, Nat.zero_and]
    rfl
  | n + 1, g, S, hg, h => by
    obtain ⟨i, j, c, S', h1, h2, h3⟩ := h
    have h6 := hv.1
    obtain ⟨s1, s2, s3, s4, s5, -⟩ := step_can hv h1
    have hlt := xp_less s3 s4
    have := Mt_top hv n (by omega) h3
    rw [xand g (tt w) i j s5] at this
    split at this
    · rw [pc_xpr (Nat.lt_of_le_of_lt Nat.and_le_left hg) (by omega) (by omega) (by omega)] at this
      exact this
    · exact this
/-- pairs that can go within a group -/
def cg (w : TV) (g : Nat) : Nat := sumN (fun i => sumN (fun j => if (g.testBit i = true ∧ g.testBit j = true) ∧ i < j ∧ canL w i j 0 then 1 else 0) (tn w)) (tn w)
theorem cg_le (w : TV) (g : Nat) : cg w g ≤ cntP w 0 := by
  rw [cntP_rows]
  refine sumN_mono _ fun i hi => sumN_mono _ fun j hj => ?_
  show (if (g.testBit i = true ∧ g.testBit j = true) ∧ i < j ∧ canL w i j 0 then 1 else 0) ≤ (if i < j ∧ canL w i j 0 then 1 else 0)
  by_cases c : (g.testBit i = true ∧ g.testBit j = true) ∧ i < j ∧ canL w i j 0
  · rw [if_pos c, if_pos c.2]
    exact Nat.le_refl _
  · rw [if_neg c]
    exact Nat.zero_le _
theorem sumN_lt {f g : Nat → Nat} {i : Nat} : ∀ n, (∀ k, k < n → f k ≤ g k) → i < n → f i < g i → sumN f n < sumN g n
  | n + 1, h, hi, hl => by
    show sumN f n + f n < sumN g n + g n
    by_cases e : i = n
    · subst e
      have := sumN_mono i fun k hk => h k (by omega)
      omega
    · have := sumN_lt n (fun k hk => h k (by omega)) (show i < n by omega) hl
      have := h n (by omega)
      omega
theorem cg_step {w : TV} {g i j : Nat} (h1 : i < j) (h2 : j < tn w) (h3 : g.testBit i = true) (h4 : g.testBit j = true) (h5 : canL w i j 0) : cg w (g ^^^ pr i j) < cg w g := by
  have sub : ∀ a b, (if ((g ^^^ pr i j).testBit a = true ∧ (g ^^^ pr i j).testBit b = true) ∧ a < b ∧ canL w a b 0 then 1 else 0) ≤ (if (g.testBit a = true ∧ g.testBit b = true) ∧ a < b ∧ canL w a b 0 then 1 else 0) := fun a b => by
    by_cases c : ((g ^^^ pr i j).testBit a = true ∧ (g ^^^ pr i j).testBit b = true) ∧ a < b ∧ canL w a b 0
    · rw [if_pos c, if_pos ⟨⟨((xp_bit h3 h4 a).mp c.1.1).1, ((xp_bit h3 h4 b).mp c.1.2).1⟩, c.2⟩]
      exact Nat.le_refl _
    · rw [if_neg c]
      exact Nat.zero_le _
  refine sumN_lt (i := i) _ (fun a ha => sumN_mono _ fun b hb => sub a b) (by omega) ?_
  refine sumN_lt (i := j) _ (fun b hb => sub i b) h2 ?_
  show (if ((g ^^^ pr i j).testBit i = true ∧ (g ^^^ pr i j).testBit j = true) ∧ i < j ∧ canL w i j 0 then 1 else 0) < (if (g.testBit i = true ∧ g.testBit j = true) ∧ i < j ∧ canL w i j 0 then 1 else 0)
  have q1 : ¬ (((g ^^^ pr i j).testBit i = true ∧ (g ^^^ pr i j).testBit j = true) ∧ i < j ∧ canL w i j 0) := by
    rintro ⟨⟨q, -⟩, -⟩
    exact ((xp_bit h3 h4 i).mp q).2.1 rfl
  rw [if_neg q1, if_pos ⟨⟨h3, h4⟩, h1, h5⟩]
  exact Nat.zero_lt_one
theorem Mt_cg {w : TV} (hv : vOk w) : ∀ (n : Nat) {g S : Nat}, Mt w n g S → n ≤ cg w g
  | 0, _, _, _ => Nat.zero_le _
  | n + 1, g, S, h => by
    obtain ⟨i, j, c, S', h1, h2, h3⟩ := h
    obtain ⟨s1, s2, s3, s4, s5⟩ := step_can hv h1
    have := Mt_cg hv n h3
    have := cg_step s1 s2 s3 s4 s5
    omega
theorem Mt_with {w : TV} (hv : vOk w) {n g S i : Nat} (h : Mt w n g S) (hi : g.testBit i = true) : ∃ j, g.testBit j = true ∧ j < tn w ∧ i ≠ j ∧ canL w i j 0 := by
  match n, h with
  | 0, h =>
    rw [h.1] at hi
    simp at hi
  | n + 1, h =>
    obtain ⟨a, b, c, S', h1, -, -, h4⟩ := Mt.swap n h hi
    obtain ⟨s1, s2, s3, s4, s5⟩ := step_can hv h1
    rcases h4 with rfl | rfl
    · exact ⟨b, s4, s2, by omega, s5⟩
    · exact ⟨a, s3, by omega, by omega, (canL_sym hv).mp s5⟩
/-- a pair that can go is a group that can -/
theorem pair_AO {w : TV} (hv : vOk w) {i j : Nat} (h1 : i < j) (h2 : j < tn w) (h3 : canL w i j 0) : AO w (pr i j) (allS w) := by
  obtain ⟨a1, c, a2, a3⟩ := (canL_op hv).mp h3
  refine (AO_all _).mpr ⟨0 ||| c, 1, i, j, c, 0, ⟨h1, h2, (pr_bit i j i).mpr (Or.inl rfl), (pr_bit i j j).mpr (Or.inr rfl), a1, a2, ?_⟩, rfl, ?_⟩
  · rw [nd_zero]
    exact a3
  · exact ⟨Nat.xor_self _, rfl⟩
theorem pc_pr2 : ∀ i, i < 6 → ∀ j, j < 6 → i = j ∨ pc (pr i j) = 2 := by decide +kernel
theorem pc_n : ∀ n, n ≤ 6 → ∀ s, s < 2 ^ n → pc s ≤ n := by decide +kernel
theorem pc_0 : ∀ s, s < 64 → pc s = 0 → s = 0 := by decide +kernel
