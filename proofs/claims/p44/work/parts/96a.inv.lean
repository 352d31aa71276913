/-! WHAT HOLDS ALL THROUGH THE LAW -/
def LI (A I : xMem) (P Dr : Nat) (v : TV) (D : DD) : Prop := LSt I P Dr v D ∧ (∀ i, i < tn v → 1 ≤ tw v i) ∧ dd D + 7 ≤ 40 ∧ rowK I ∧ (∀ r, r < 6 → r ≠ 3 → I 2 r = -1) ∧ (I 2 3 = -1 ∨ I 2 3 = nI 2) ∧ (∀ k j, 10 ≤ k → k < 17 → I k j = A k j) ∧ I 38 0 = nI 1 ∧ dD I 23 D0
section LIS
variable {tI : xTab} {P Dr : Nat} {v : TV} {D : DD} {A I : xMem} {L : xLon} {x7 : Int64} {x9 x10 : Int32}
theorem LI.cs (h : LI A I P Dr v D) : CS I P Dr v D := h.1.1
theorem LI.d40 (h : LI A I P Dr v D) : dd D + 7 ≤ 40 := h.2.2.1
theorem LI.pos (h : LI A I P Dr v D) {i : Nat} (hi : i < tn v) : 1 ≤ tw v i := h.2.1 i hi
theorem LI.h (h : LI A I P Dr v D) {I' : xMem} (g : hAg I I') (c : CS I' P Dr v D) : LI A I' P Dr v D := by
  obtain ⟨⟨a1, a2, a3⟩, a4, a5, a6, a7, a8, a9, a10, a11⟩ := h
  refine ⟨⟨c, a2.cg fun j => g 62 j (by omega), a3.cg fun j => g 63 j (by omega)⟩, a4, a5, a6.cg fun k j _ => g k j (by omega), fun r h1 h2 => ?_, ?_, fun k j h1 h2 => ?_, ?_, a11.cg fun k j _ _ => g k j (by omega)⟩
  · rw [g _ _ (by omega)]; exact a7 r h1 h2
  · rw [g _ _ (by omega)]; exact a8
  · rw [g _ _ (by omega)]; exact a9 k j h1 h2
  · rw [g _ _ (by omega)]; exact a10
theorem LI.q (h : LI A I P Dr v D) {I' : xMem} (g : qAg I I') : LI A I' P Dr v D := h.h g.h (h.cs.ag g)
theorem LI.told (h : LI A I P Dr v D) (x : Int32) : LI A (wr I 0 10 x) P Dr v D := h.q (qAg.told I x)
theorem shr4 {n : Nat} (h : n < 2 ^ 31) : nI n >>> ((4 : Int32) &&& 31) = nI (n / 16) := by
  rw [i_4, nI_shr (by omega) h]
theorem and15 (n : Nat) : nI n &&& (15 : Int32) = nI (n % 16) := by
  rw [i_15, nI_and]
  congr 1
  exact Nat.and_two_pow_sub_one_eq_mod (n := 4) n
theorem nlt9 {n : Nat} (h : n < 2 ^ 31) : ¬ nI n < (-9 : Int32) := by
  rw [Int32.lt_iff_toInt_lt, nI_toInt h, show (-9 : Int32).toInt = -9 from rfl]
  omega
theorem nle9 {n : Nat} (h : n < 2 ^ 31) : ¬ nI n ≤ (-9 : Int32) := by
  rw [Int32.le_iff_toInt_le, nI_toInt h, show (-9 : Int32).toInt = -9 from rfl]
  omega
theorem lt_m9 {n : Nat} (h : n < 2 ^ 31) : (-9 : Int32) < nI n := by
  rw [Int32.lt_iff_toInt_lt, nI_toInt h, show (-9 : Int32).toInt = -9 from rfl]
  omega
theorem CS.s16 (h : CS I P Dr v D) : 2 ^ ts v ≤ 16 := by
  have h4 := h.2.1.2.1
  have : 2 ^ ts v ≤ 2 ^ 4 := Nat.pow_le_pow_right (by decide) h4
  omega
theorem CS.n64 (h : CS I P Dr v D) : 2 ^ tn v ≤ 64 := by
  have h4 := h.2.1.1
  have : 2 ^ tn v ≤ 2 ^ 6 := Nat.pow_le_pow_right (by decide) h4
  omega
theorem CS.st (h : CS I P Dr v D) (i : Nat) : stW (now v D) i < 2 ^ ts v := stW_lt h.vok i
theorem CS.lim (h : CS I P Dr v D) : tl v ≤ 9 := h.2.1.2.2.1
theorem CS.tt64 (h : CS I P Dr v D) : tt (now v D) < 64 := tt_lt h.vok
theorem CS.ttn (h : CS I P Dr v D) : tt (now v D) < 2 ^ tn v := h.vok.2.2.2.2.2.2.2.1
theorem CS.tus (h : CS I P Dr v D) : tu (now v D) < 2 ^ ts v := h.vok.2.2.2.2.2.2.2.2
theorem with_if (h : CS I P Dr v D) {i j : Nat} (hj : j < tn v) (hij : i ≠ j) {α : Type} (x y : α) : (if ((nI (compN (now v D) i) >>> (nI j &&& 31)) &&& (1 : Int32)) = (1 : Int32) then x else y) = if canL (now v D) i j 0 then x else y := by
  have h6 := h.n2
  have h64 := h.n64
  have hcl : compN (now v D) i < 2 ^ tn v := comp_lt (now v D) i
  rw [i_1]
  by_cases q : canL (now v D) i j 0
  · rw [if_pos ((nI_bit1 (by omega) (by omega)).mpr ((comp_bit (now v D) i j).mpr ⟨hj, hij, q⟩)), if_pos q]
  · rw [if_neg (fun w => q ((comp_bit (now v D) i j).mp ((nI_bit1 (by omega) (by omega)).mp w)).2.2), if_neg q]
theorem top_if (h : CS I P Dr v D) {i : Nat} (hi : i < tn v) {α : Type} (x y : α) : (if ((nI (tt (now v D)) >>> (nI i &&& 31)) &&& (1 : Int32)) = (1 : Int32) then x else y) = if (tt (now v D)).testBit i then x else y := by
  have h6 := h.n2
  have ht := h.tt64
  rw [i_1]
  by_cases q : (tt (now v D)).testBit i = true
  · rw [if_pos ((nI_bit1 (by omega) (by omega)).mpr q), if_pos q]
  · rw [if_neg (fun w => q ((nI_bit1 (by omega) (by omega)).mp w)), if_neg q]
theorem same_if (h : CS I P Dr v D) {i j : Nat} (hi : i < tn v) (hj : j < tn v) {α : Type} (x y : α) : (if ((nI (tt (now v D)) >>> (nI i &&& 31)) &&& (1 : Int32)) = ((nI (tt (now v D)) >>> (nI j &&& 31)) &&& (1 : Int32)) then x else y) = if same (now v D) i j then x else y := by
  have h6 := h.n2
  have ht := h.tt64
  rw [i_1, nI_bit (by omega) (by omega), nI_bit (by omega) (by omega)]
  have key : (nI (tt (now v D) / 2 ^ i % 2) = nI (tt (now v D) / 2 ^ j % 2)) ↔ same (now v D) i j := by
    rw [nI_eq_iff (by omega) (by omega), same, tb_div, tb_div]
    rcases Nat.mod_two_eq_zero_or_one (tt (now v D) / 2 ^ i) with a | a <;> rcases Nat.mod_two_eq_zero_or_one (tt (now v D) / 2 ^ j) with b | b <;> simp [a, b]
  by_cases q : same (now v D) i j
  · rw [if_pos (key.mpr q), if_pos q]
  · rw [if_neg (fun w => q (key.mp w)), if_neg q]
theorem ite_some {α : Type} (p : Prop) [Decidable p] (x y : α) : (if p then some x else some y) = some (if p then x else y) := by split <;> rfl
theorem cs_sink0 (h : CS I P Dr v D) {i j : Nat} (hi : i < tn v) (hj : j < tn v) (hij : i ≠ j) : X4_sink P I (nI i) (nI j) 0 0 = some (nI (skN (now v D) i j 0 0)) := by
  have hp : 0 < 2 ^ ts v := Nat.pos_of_ne_zero (by simp)
  exact cs_sink h hi hj hij hp hp rfl
theorem and_nd0 (a b : Nat) : a &&& nd b a = 0 := by
  apply Nat.eq_of_testBit_eq
  intro i
  rw [Nat.testBit_and, nd_bit, Nat.zero_testBit]
  cases a.testBit i <;> simp
theorem nd_lt {a b n : Nat} (h : a < n) : nd a b < n := Nat.lt_of_le_of_lt (nd_le a b) h
/-- a go and its undoing -/
theorem undo1 {I' : xMem} {t u e x : Nat} (h : LI A I P Dr v D) (g : hAg I I') (c : CS I' P Dr v (dpush D t u e x)) : ∃ I2, X4_undo I' (nI (dd D)) = some (1, I2) ∧ LI A I2 P Dr v D := by
  obtain ⟨I2, u1, u2, u3⟩ := cs_undo c (n := dd D) (Nat.le_succ _)
  refine ⟨I2, ?_, h.h (g.tr u2) u3.back⟩
  rw [u1]
  have : dd (dpush D t u e x) - dd D = 1 := by
    show dd D + 1 - dd D = 1
    omega
  rw [this]
  rfl
end LIS
