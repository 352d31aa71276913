/-! UNDONE, KEPT, GONE ON FROM -/
section OPK
variable {I J : xMem} {L M : xLon} {P Dr : Nat}
/-! the class copies deeds -/
def bcM (I : xMem) (b y d : Nat) : xMem := fun k j => if k = b ∧ j = 0 then nI d else if b + 1 ≤ k ∧ k ≤ b + 4 ∧ j ≤ d then I (y + (k - b)) j else I k j
theorem become_eq (I : xMem) {b y d : Nat} (hd : d ≤ 40) (h0 : I y 0 = nI d) (hby : b + 5 ≤ y ∨ y + 5 ≤ b) : X0_become b I y = some (bcM I b y d) := by
  have cp : ∀ (A : xMem) (k1 k2 : Nat), cpI A k1 41 0 k2 41 0 (nI (d + 1)) = some (cpM A k1 0 k2 0 (d + 1)) := fun A k1 k2 => by
    unfold cpI
    have z : ((0 : Int32).toInt) = 0 := rfl
    rw [z, nI_toInt (by omega), nI_clamp (by omega), sb_cl0, if_pos (by omega)]
  have cat : ∀ (A : xMem) (k1 k2 k j : Nat), cpM A k1 0 k2 0 (d + 1) k j = if k = k2 ∧ j ≤ d then A k1 j else A k j := by
    intro A k1 k2 k j
    unfold cpM va_cpy
    by_cases e : k = k2
    · subst e
      by_cases q : j ≤ d
      · simp [q, show j < d + 1 by omega]
      · simp [q, show ¬ j < d + 1 by omega]
    · simp [e]
  unfold X0_become
  rw [h0, bind_s, wr_eq, i_1, nI_sum, cp, bind_s, cat, if_neg (by omega), wr_eq, nI_sum, cp, bind_s, cat, if_neg (by omega), cat, if_neg (by omega), wr_eq, nI_sum, cp, bind_s, cat, if_neg (by omega), cat, if_neg (by omega), cat, if_neg (by omega), wr_eq, nI_sum, cp, bind_s]
  congr 1
  funext k j
  unfold bcM
  by_cases e0 : k = b ∧ j = 0
  · rw [if_pos e0, cat, if_neg (by omega), cat, if_neg (by omega), cat, if_neg (by omega), cat, if_neg (by omega), wr_at, if_pos e0]
  · by_cases e1 : b + 1 ≤ k ∧ k ≤ b + 4 ∧ j ≤ d
    · rw [if_neg e0, if_pos e1]
      rcases (show k = b + 1 ∨ k = b + 2 ∨ k = b + 3 ∨ k = b + 4 by omega) with e | e | e | e
      · rw [cat, if_neg (by omega), cat, if_neg (by omega), cat, if_neg (by omega), cat, if_pos (by omega), wr_off _ _ (by omega), show y + (k - b) = y + 1 by omega]
      · rw [cat, if_neg (by omega), cat, if_neg (by omega), cat, if_pos (by omega), cat, if_neg (by omega), wr_off _ _ (by omega), show y + (k - b) = y + 2 by omega]
      · rw [cat, if_neg (by omega), cat, if_pos (by omega), cat, if_neg (by omega), cat, if_neg (by omega), wr_off _ _ (by omega), show y + (k - b) = y + 3 by omega]
      · rw [cat, if_pos (by omega), cat, if_neg (by omega), cat, if_neg (by omega), cat, if_neg (by omega), wr_off _ _ (by omega), show y + (k - b) = y + 4 by omega]
    · rw [if_neg e0, if_neg e1, cat, if_neg (by omega), cat, if_neg (by omega), cat, if_neg (by omega), cat, if_neg (by omega), wr_off _ _ (by omega)]
theorem bcM_0 (I : xMem) (b y d : Nat) : bcM I b y d b 0 = nI d := by
  unfold bcM
  rw [if_pos (by omega)]
theorem bcM_i (I : xMem) (b y d : Nat) {q j : Nat} (h1 : 1 ≤ q) (h2 : q ≤ 4) (h3 : j ≤ d) : bcM I b y d (b + q) j = I (y + q) j := by
  unfold bcM
  rw [if_neg (by omega), if_pos (by omega), show b + q - b = q by omega]
theorem bcM_o (I : xMem) (b y d : Nat) {k j : Nat} (h : k < b ∨ b + 4 < k) : bcM I b y d k j = I k j := by
  unfold bcM
  rw [if_neg (by omega), if_neg (by omega)]
theorem bcM_z (I : xMem) {b y d : Nat} (hz : zer I y) : zer (bcM I b y d) b := by
  obtain ⟨h1, h2, h3, h4⟩ := hz
  refine ⟨?_, ?_, ?_, ?_⟩
  · rw [bcM_i I b y d (by omega) (by omega) (by omega)]; exact h1
  · rw [bcM_i I b y d (by omega) (by omega) (by omega)]; exact h2
  · rw [bcM_i I b y d (by omega) (by omega) (by omega)]; exact h3
  · rw [bcM_i I b y d (by omega) (by omega) (by omega)]; exact h4
/-- the model copies a tower -/
def ctM (J : xMem) (a b : Nat) : xMem := fun y q => if y = 1 ∧ b ≤ q ∧ q < b + 165 then J 1 (a + (q - b)) else J y q
theorem ctM_i (J : xMem) (a b : Nat) {q : Nat} (h : q < 165) : ctM J a b 1 (b + q) = J 1 (a + q) := by
  unfold ctM
  rw [if_pos (by omega), show a + (b + q - b) = a + q by omega]
theorem ctM_o (J : xMem) (a b : Nat) {y q : Nat} (h : y ≠ 1 ∨ q < b ∨ b + 165 ≤ q) : ctM J a b y q = J y q := by
  unfold ctM
  rw [if_neg (by omega)]
theorem out3 {x : Int32} {α : Type} (a b : α) : (if x < 0 then a else if x < 3 then b else a) = if ix x 3 then b else a := by
  have h0 : ((0 : Int32).toInt) = 0 := rfl
  have h3 : ((3 : Int32).toInt) = 3 := rfl
  simp only [Int32.lt_iff_toInt_lt, h0, h3, ix]
  by_cases c1 : x.toInt < 0
  · rw [if_pos c1, if_neg (by omega)]
  · rw [if_neg c1]
    by_cases c2 : x.toInt < 3
    · rw [if_pos c2, if_pos (by omega)]
    · rw [if_neg c2, if_neg (by omega)]
end OPK
