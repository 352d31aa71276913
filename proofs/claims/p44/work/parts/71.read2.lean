/-! WHAT A TEXT SAYS: both read it -/
section RD2
variable {J0 J : xMem} {t sz pos S N : Nat} {lim : Int32} {sp kk ww : Nat → Nat} {ch : Nat → Int32}
theorem wr_slf {A : xMem} {k j : Nat} {x : Int32} (h : A k j = x) : wr A k j x = A := by
  rw [← h]
  exact wr_id A k j
end RD2
/-! the class in step -/
/-- the class at the end of a text -/
def KC (b sz : Nat) (I7 : xMem) : Option (Int32 × xMem) := if (I7 b 7) = (2 : Int32) then (if (2 : Int32) ≤ (I7 b 2) then ((X1_weighSets b I7).bind fun q14 => some ((-9 : Int32), q14)) else (some (nI sz, I7))) else (some (nI sz, I7))
theorem KC_bad {b sz w : Nat} {A : xMem} (h : A b 7 = nI w) (hw : w < 100) (h2 : w ≠ 2) : KC b sz A = some (nI sz, A) := by
  unfold KC
  rw [if_neg (show ¬ A b 7 = 2 from w_ne h hw (v := 2) (by omega) h2)]
section RD3
variable {I A J0 J : xMem} {b y t sz pos w S N : Nat} {lim : Int32} {sp kk ww : Nat → Nat} {ch : Nat → Int32}
theorem dAg.put {k j : Nat} {x : Int32} (h : dAg b I A) (q : b ≤ k ∧ k ≤ b + 4) : dAg b I (wr A k j x) := fun a c e => by
  rw [wr_off _ _ (by omega)]
  exact h a c e
theorem RA.w7 (h : RA b I A w S N lim sp kk ww) (w' : Nat) : RA b I (wr A b 7 (nI w')) w' S N lim sp kk ww := by
  obtain ⟨h1, h2, h3, h4, h5, h6, h7⟩ := h
  refine ⟨h1.put (by omega), wr_eq _ _ _ _, ?_, ?_, ?_, fun s hs => ?_, fun i hi => ?_⟩
  · rw [wr_off _ _ (by omega)]; exact h3
  · rw [wr_off _ _ (by omega)]; exact h4
  · rw [wr_off _ _ (by omega)]; exact h5
  · rw [wr_off _ _ (by omega)]; exact h6 s hs
  · rw [wr_off _ _ (by omega), wr_off _ _ (by omega)]; exact h7 i hi
end RD3
