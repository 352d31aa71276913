/-! BY TURNS -/
abbrev tog (g i j : Nat) : Prop := g.testBit i = g.testBit j
def pr (i j : Nat) : Nat := 2 ^ i ||| 2 ^ j
theorem pr_lt {i j n : Nat} (hi : i < n) (hj : j < n) : pr i j < 2 ^ n := Nat.or_lt_two_pow (pow_lt2 hi) (pow_lt2 hj)
theorem xp_lt {g i j n : Nat} (hg : g < 2 ^ n) (hi : i < n) (hj : j < n) : g ^^^ pr i j < 2 ^ n := Nat.xor_lt_two_pow hg (pr_lt hi hj)
def wF (v : TV) (m : Nat) (later : Nat → Nat) (g i j s : Nat) : Nat := if tog g i j ∧ skN v i j 0 0 ≤ tl v then (if m % 2 = 0 then (if s < later (g ^^^ pr i j) then later (g ^^^ pr i j) else s) else (if later (g ^^^ pr i j) < s then later (g ^^^ pr i j) else s)) else s
def bF (v : TV) (m : Nat) (later : Nat → Nat) (g : Nat) : Nat := foldF (fun i s => foldF (fun j s => wF v m later g i j s) (i + 1) (tn v - (i + 1)) s) 0 (tn v) (later g)
def sv (v : TV) : Nat → Nat → Nat
  | 0, g => pc g
  | k + 1, g => bF v (k + 1) (sv v k) g
theorem wF_le {v : TV} {m : Nat} {later : Nat → Nat} (h : ∀ g, later g ≤ 6) (g i j : Nat) {s : Nat} (hs : s ≤ 6) : wF v m later g i j s ≤ 6 := by
  have := h (g ^^^ pr i j)
  unfold wF
  repeat' split
  all_goals omega
theorem wF2_le {v : TV} {m : Nat} {later : Nat → Nat} (h : ∀ g, later g ≤ 6) (g i : Nat) {s : Nat} (hs : s ≤ 6) (a b : Nat) : foldF (fun j s => wF v m later g i j s) a b s ≤ 6 :=
  foldF_inv (fun j s => wF v m later g i j s) (fun _ s => s ≤ 6) b a s hs (fun j s _ _ hs => wF_le h g i j hs)
theorem bF_le {v : TV} {m : Nat} {later : Nat → Nat} (h : ∀ g, later g ≤ 6) (g : Nat) : bF v m later g ≤ 6 :=
  foldF_inv (fun i s => foldF (fun j s => wF v m later g i j s) (i + 1) (tn v - (i + 1)) s) (fun _ s => s ≤ 6) (tn v) 0 (later g) (h g) (fun i s _ _ hs => wF2_le h g i hs _ _)
theorem pc_le (g : Nat) : pc g ≤ 6 := by
  unfold pc
  omega
theorem sv_le (v : TV) : ∀ k g, sv v k g ≤ 6
  | 0, g => pc_le g
  | k + 1, g => bF_le (sv_le v k) g
theorem opS_0 (v : TV) (i j : Nat) : opS v i j 0 ↔ skN v i j 0 0 ≤ tl v := by
  have h2 : 0 < 2 ^ ts v := Nat.pos_of_ne_zero (by simp)
  constructor
  · rintro ⟨q, q1, ⟨q2, q3, q4, q5⟩, q6⟩
    obtain ⟨e1, e2⟩ := (or0 _ _).mp q6
    rw [e1, e2] at q5
    exact q5
  · intro h
    exact ⟨0, by omega, ⟨by decide, h2, h2, h⟩, rfl⟩
theorem tog_c {g i j : Nat} (hg : g < 2 ^ 31) (hi : i < 32) (hj : j < 32) : X3_areTogether (nI g) (nI i) (nI j) = if tog g i j then 1 else 0 := by
  unfold X3_areTogether
  rw [nz_0, nz_1, i_1, nI_bit hi hg, nI_bit hj hg]
  simp (disch := omega) only [nI_eq_iff]
  have key : (g / 2 ^ i % 2 = g / 2 ^ j % 2) ↔ tog g i j := by
    unfold tog
    rw [tb_div, tb_div]
    rcases Nat.mod_two_eq_zero_or_one (g / 2 ^ i) with a | a <;> rcases Nat.mod_two_eq_zero_or_one (g / 2 ^ j) with b | b <;> simp [a, b]
  by_cases h : tog g i j
  · rw [if_pos (key.mpr h), if_pos h]
  · rw [if_neg (fun w => h (key.mp w)), if_neg h]
theorem pr_nI {i j : Nat} (hi : i < 31) (hj : j < 31) : ((1 : Int32) <<< (nI i &&& 31)) ||| ((1 : Int32) <<< (nI j &&& 31)) = nI (pr i j) := by
  rw [i_1, nI_pow hi, nI_pow hj, nI_or]
  rfl
theorem par_q (m : Nat) : (if m % 2 = 0 then (1 : Int32) else 0) = 0 ↔ ¬ m % 2 = 0 := by
  by_cases h : m % 2 = 0
  · rw [if_pos h]
    exact ⟨fun w => absurd w (by decide), fun w => absurd h w⟩
  · rw [if_neg h]
    exact ⟨fun _ => h, fun _ => rfl⟩
section SND
variable {I J : xMem} {P : Nat} {v : TV}
theorem wanted_eq (hv : vOk v) (hw : wCl v I) {y : Nat} {later : Nat → Nat} (hl : ∀ g, g < 64 → I y g = nI (later g)) (hb : ∀ g, later g ≤ 6) {g : Nat} (hg : g < 64) (m : Nat) {q : Int32} (hq : q = 0 ↔ ¬ m % 2 = 0) : X3_wanted I y (nI g) q = some (nI (bF v m later g)) := by
  have h6 := hv.1
  have inner : ∀ (K : Int32 → Option Int32) (i s : Nat), i < tn v → s ≤ 6 → X3_wanted_L2 I y (nI g) q (nI i) K bigF (nI s) (nI (i + 1)) = K (nI (foldF (fun j s => wF v m later g i j s) (i + 1) (tn v - (i + 1)) s)) := by
    intro K i s hi hs
    exact loop_F (fun fuel k (s : Nat) => X3_wanted_L2 I y (nI g) q (nI i) K fuel (nI s) (nI k)) (fun s => K (nI s)) (tn v) (fun j s => wF v m later g i j s) (fun k s => i + 1 ≤ k ∧ s ≤ 6)
      (fun fuel k s hk hI => ⟨by
        show X3_wanted_L2 I y (nI g) _ (nI i) K (fuel + 1) (nI s) (nI k) = _
        have hx : g ^^^ pr i k < 64 := xp_lt (n := 6) hg (by omega) (by omega)
        have hlx := hb (g ^^^ pr i k)
        have ho := opN_lt v i k
        rw [X3_wanted_L2]
        rw [hw.1, if_neg (by rw [nI_le_iff (by omega) (by omega)]; omega), tog_c (by omega) (by omega) (by omega)]
        unfold wF
        by_cases c1 : tog g i k
        · rw [if_pos c1, if10, i_6, nI_mul, nI_sum, rdI_nI (by omega) (by omega), bind_s, hw.2 i k (by omega) hk]
          by_cases c2 : skN v i k 0 0 ≤ tl v
          · have hbit : (opN v i k).testBit 0 = true := (opN_bit v i k 0).mpr ((opS_0 v i k).mpr c2)
            have hone : nI (opN v i k) &&& 1 = 1 := by
              rw [i_1, nI_and, Nat.and_one_is_mod, nI_eq_iff (by omega) (by omega)]
              rw [tb_div] at hbit
              simpa using hbit
            rw [if_pos hone, pr_nI (by omega) (by omega), nI_xor, rdI_nI (by omega) (by omega), bind_s, hl _ hx, if_pos (⟨c1, c2⟩ : tog g i k ∧ skN v i k 0 0 ≤ tl v), i_1, nI_sum]
            by_cases c3 : m % 2 = 0
            · rw [if_neg (fun w => hq.mp w c3), if_pos c3]
              by_cases c4 : s < later (g ^^^ pr i k)
              · rw [if_pos ((nI_lt_iff (by omega) (by omega)).mpr c4), if_pos c4]
              · rw [if_neg (fun w => c4 ((nI_lt_iff (by omega) (by omega)).mp w)), if_neg c4]
            · rw [if_pos (hq.mpr c3), if_neg c3]
              by_cases c4 : later (g ^^^ pr i k) < s
              · rw [if_pos ((nI_lt_iff (by omega) (by omega)).mpr c4), if_pos c4]
              · rw [if_neg (fun w => c4 ((nI_lt_iff (by omega) (by omega)).mp w)), if_neg c4]
          · have hbit : ¬ (opN v i k).testBit 0 = true := fun w => c2 ((opS_0 v i k).mp ((opN_bit v i k 0).mp w))
            have hone : ¬ nI (opN v i k) &&& 1 = 1 := by
              rw [i_1, nI_and, Nat.and_one_is_mod, nI_eq_iff (by omega) (by omega)]
              rw [tb_div] at hbit
              simpa using hbit
            rw [if_neg hone, if_neg (fun w => c2 w.2), i_1, nI_sum]
        · rw [if_neg c1, if00, if_neg (fun w => c1 w.1), i_1, nI_sum], by omega, wF_le hb g i k hI.2⟩)
      (fun fuel s hI => by
        show X3_wanted_L2 I y (nI g) _ (nI i) K (fuel + 1) (nI s) (nI (tn v)) = _
        rw [X3_wanted_L2]
        rw [hw.1, if_pos (Int32.le_refl _)])
      (tn v - (i + 1)) bigF (i + 1) s (by omega) (bigF_gt (by omega)) ⟨by omega, hs⟩
  unfold X3_wanted
  rw [rdI_nI (by omega) (by omega), bind_s, hl g hg]
  exact loop_F (fun fuel k (s : Nat) => X3_wanted_L1 I y (nI g) q (fun z => some z) fuel (nI s) (nI k)) (fun s => some (nI s)) (tn v) (fun i s => foldF (fun j s => wF v m later g i j s) (i + 1) (tn v - (i + 1)) s) (fun _ s => s ≤ 6)
    (fun fuel k s hk hs => ⟨by
      show X3_wanted_L1 I y (nI g) _ _ (fuel + 1) (nI s) (nI k) = _
      rw [X3_wanted_L1]
      rw [hw.1, if_neg (by rw [nI_le_iff (by omega) (by omega)]; omega)]
      have := inner (fun z => X3_wanted_L1 I y (nI g) q (fun z => some z) fuel z (nI k + 1)) k s hk hs
      rw [show nI k + 1 = nI (k + 1) from nI_1 k] at this ⊢
      exact this, wF2_le hb g k hs _ _⟩)
    (fun fuel s _ => by
      show X3_wanted_L1 I y (nI g) _ _ (fuel + 1) (nI s) (nI (tn v)) = _
      rw [X3_wanted_L1]
      rw [hw.1, if_pos (Int32.le_refl _)])
    (tn v) bigF 0 (later g) (by omega) (bigF_gt (by omega)) (hb g)
theorem byTurns_eq (hv : vOk v) (hw : wCl v I) {n t : Nat} (hn : n ≤ 2) (ht : t < 64) : ∃ I', X3_byTurns I (nI (2 * n)) (nI t) = some (nI (sv v (2 * n) t), I') ∧ cAg I I' := by
  have h6 := hv.1
  have wcl : ∀ {A : xMem} {k g : Nat} {x : Int32}, wCl v A → 45 ≤ k → wCl v (wr A k g x) := fun {A k g x} h hk => ⟨by rw [wr_off _ _ (by omega)]; exact h.1, fun i j a b => by rw [wr_off _ _ (by omega)]; exact h.2 i j a b⟩
  have cag : ∀ {A : xMem} {k g : Nat} {x : Int32}, cAg I A → 45 ≤ k → k ≤ 50 → cAg I (wr A k g x) := fun {A k g x} h hk hk2 => fun a b q => by
    rw [wr_off _ _ (by unfold cX at q; omega)]
    exact h a b q
  have row : ∀ (K : xMem → Option (Int32 × xMem)) (l : Nat) (A : xMem), 1 ≤ l → l ≤ 4 → cAg I A → wCl v A → (∀ g, g < 64 → A (46 + (l - 1)) g = nI (sv v (l - 1) g)) → ∃ B, (cAg I B ∧ wCl v B ∧ ∀ g, g < 64 → B (46 + l) g = nI (sv v l g)) ∧ X3_byTurns_L3 (nI l) K bigF (nI 0) A = K B := by
    intro K l A h1 h4 hA hwA hl
    obtain ⟨B, hB, he⟩ := loop_I (fun fuel k (A : xMem) => X3_byTurns_L3 (nI l) K fuel (nI k) A) K 64 (fun k A => cAg I A ∧ wCl v A ∧ (∀ g, g < 64 → A (46 + (l - 1)) g = nI (sv v (l - 1) g)) ∧ ∀ g, g < k → A (46 + l) g = nI (sv v l g))
      (fun fuel k A hk hI => by
        obtain ⟨g1, g2, g3, g4⟩ := hI
        refine ⟨wr A (46 + l) k (nI (sv v l k)), ?_, cag g1 (by omega) (by omega), wcl g2 (by omega), fun g q => by rw [wr_off _ _ (by omega)]; exact g3 g q, fun g q => ?_⟩
        · show X3_byTurns_L3 (nI l) K (fuel + 1) (nI k) A = _
          rw [X3_byTurns_L3]
          have e1 : nI l - 1 = nI (l - 1) := nI_subL h1
          have e2 : sv v l k = bF v l (sv v (l - 1)) k := by
            obtain ⟨l', rfl⟩ : ∃ l', l = l' + 1 := ⟨l - 1, by omega⟩
            rfl
          have e3 : (if nI (l % 2) = 0 then (1 : Int32) else 0) = if l % 2 = 0 then 1 else 0 := by
            by_cases w : l % 2 = 0
            · rw [if_pos w, if_pos (by rw [w]; rfl)]
            · rw [if_neg w, if_neg (by rw [i_0, nI_eq_iff (by omega) (by omega)]; exact w)]
          rw [if_neg (by rw [i_64, nI_le_iff (by omega) (by omega)]; omega), rdX_nI (by omega) (by omega), bind_s, e1, rdX_nI (by omega) (by omega), bind_s, i_2, nI_rem (by omega) (by omega) (by omega), ite_bind, e3, show 45 + 1 + (l - 1) = 46 + (l - 1) by omega, wanted_eq hv g2 g3 (sv_le v _) hk l (par_q l), bind_s, show 45 + 1 + l = 46 + l by omega, wrI_nI (by omega) (by omega), bind_s, e2, i_1, nI_sum]
        · by_cases e : g = k
          · subst e
            exact wr_eq _ _ _ _
          · rw [wr_off _ _ (by omega)]; exact g4 g (by omega))
      (fun fuel A hI => by
        show X3_byTurns_L3 (nI l) K (fuel + 1) (nI 64) A = _
        rw [X3_byTurns_L3]
        rw [if_pos (by rw [i_64]; exact Int32.le_refl _)])
      64 bigF 0 A (by omega) (bigF_gt (by omega)) ⟨hA, hwA, hl, fun g q => absurd q (by omega)⟩
    exact ⟨B, ⟨hB.1, hB.2.1, hB.2.2.2⟩, he⟩
  have all : ∀ (K : xMem → Option (Int32 × xMem)) (A : xMem), cAg I A → wCl v A → (∀ g, g < 64 → A 46 g = nI (sv v 0 g)) → ∃ B, (cAg I B ∧ wCl v B ∧ ∀ g, g < 64 → B (46 + 2 * n) g = nI (sv v (2 * n) g)) ∧ X3_byTurns_L2 (nI (2 * n)) K bigF (nI 1) A = K B := by
    intro K A hA hwA hl
    obtain ⟨B, hB, he⟩ := loop_I (fun fuel k (A : xMem) => X3_byTurns_L2 (nI (2 * n)) K fuel (nI k) A) K (2 * n + 1) (fun k A => 1 ≤ k ∧ cAg I A ∧ wCl v A ∧ ∀ g, g < 64 → A (46 + (k - 1)) g = nI (sv v (k - 1) g))
      (fun fuel k A hk hI => by
        obtain ⟨g0, g1, g2, g3⟩ := hI
        obtain ⟨B, hB, he⟩ := row (fun I17 => X3_byTurns_L2 (nI (2 * n)) K fuel (nI k + 1) I17) k A g0 (by omega) g1 g2 g3
        refine ⟨B, ?_, by omega, hB⟩
        show X3_byTurns_L2 (nI (2 * n)) K (fuel + 1) (nI k) A = _
        rw [X3_byTurns_L2]
        rw [if_neg (by rw [nI_lt_iff (by omega) (by omega)]; omega), if_neg (by rw [i_5, nI_le_iff (by omega) (by omega)]; omega)]
        rw [show nI k + 1 = nI (k + 1) from nI_1 k] at he ⊢
        exact he)
      (fun fuel A hI => by
        show X3_byTurns_L2 (nI (2 * n)) K (fuel + 1) (nI (2 * n + 1)) A = _
        rw [X3_byTurns_L2]
        rw [if_pos (by rw [nI_lt_iff (by omega) (by omega)]; omega)])
      (2 * n) bigF 1 A (by omega) (bigF_gt (by omega)) ⟨by omega, hA, hwA, hl⟩
    exact ⟨B, hB.2, he⟩
  unfold X3_byTurns
  obtain ⟨B, hB, he⟩ := loop_I (fun fuel k (A : xMem) => X3_byTurns_L1 (fun (I4 : xMem) => X3_byTurns_L2 (nI (2 * n)) (fun (I11 : xMem) => (rdX 5 (nI (2 * n))).bind fun j25 => (rdI I11 (45 + 1 + j25) 64 (nI t)).bind fun v26 => some (v26, I11)) bigF (1 : Int32) I4) fuel (nI k) A) (fun (I4 : xMem) => X3_byTurns_L2 (nI (2 * n)) (fun (I11 : xMem) => (rdX 5 (nI (2 * n))).bind fun j25 => (rdI I11 (45 + 1 + j25) 64 (nI t)).bind fun v26 => some (v26, I11)) bigF (1 : Int32) I4) 64 (fun k A => cAg I A ∧ wCl v A ∧ ∀ g, g < k → A 46 g = nI (pc g))
    (fun fuel k A hk hI => by
      obtain ⟨g1, g2, g3⟩ := hI
      refine ⟨wr A 46 k (nI (pc k)), ?_, cag g1 (by omega) (by omega), wcl g2 (by omega), fun g q => ?_⟩
      · show X3_byTurns_L1 _ (fuel + 1) (nI k) A = _
        rw [X3_byTurns_L1]
        rw [if_neg (by rw [i_64, nI_le_iff (by omega) (by omega)]; omega), i_0, rdX_nI (by omega) (by omega), bind_s, bc_pc k hk, wrI_nI (by omega) (by omega), bind_s, i_1, nI_sum]
      · by_cases e : g = k
        · subst e
          exact wr_eq _ _ _ _
        · rw [wr_off _ _ (by omega)]; exact g3 g (by omega))
    (fun fuel A hI => by
      show X3_byTurns_L1 _ (fuel + 1) (nI 64) A = _
      rw [X3_byTurns_L1]
      rw [if_pos (by rw [i_64]; exact Int32.le_refl _)])
    64 bigF 0 I (by omega) (bigF_gt (by omega)) ⟨cAg.rf I, hw, fun g q => absurd q (by omega)⟩
  obtain ⟨C, hC, hc⟩ := all (fun (I11 : xMem) => (rdX 5 (nI (2 * n))).bind fun j25 => (rdI I11 (45 + 1 + j25) 64 (nI t)).bind fun v26 => some (v26, I11)) B hB.1 hB.2.1 hB.2.2
  refine ⟨C, he.trans (hc.trans ?_), hC.1⟩
  rw [rdX_nI (by omega) (by omega), bind_s, rdI_nI (by omega) (by omega), bind_s, show 45 + 1 + 2 * n = 46 + 2 * n by omega, hC.2.2 t ht]
end SND
section OPSD
variable {I J : xMem} {L M : xLon} {P Dr : Nat}
end OPSD
