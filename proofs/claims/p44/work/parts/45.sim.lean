/-! CLASS AND MODEL ALIKE -/
def szOk (x : Int32) (N : Nat) : Prop := x = -1 ∨ ∃ s, s ≤ N ∧ x = nI s
/-- the place of the class where deeds are ahead of any: nothing -/
def zer (I : xMem) (b : Nat) : Prop := I (b + 1) 0 = nI 0 ∧ I (b + 2) 0 = nI 0 ∧ I (b + 3) 0 = nI 0 ∧ I (b + 4) 0 = nI 0
def isPD (P Dr : Nat) : Prop := (P = 52 ∧ Dr = 57) ∨ (P = 57 ∧ Dr = 52)
/-- the tower's numbers with what is done -/
def tAt (v : TV) (e t u : Nat) : TV := (tn v, ts v, tl v, tk v, tw v, tp v, e, t, u)
/-- the scratch of each -/
def cX (k : Nat) : Prop := 39 ≤ k ∧ k ≤ 50
def cAg (I I' : xMem) : Prop := ∀ k j, ¬ cX k → I' k j = I k j
theorem cAg.rf (I : xMem) : cAg I I := fun _ _ _ => rfl
theorem cAg.tr {A B C : xMem} (h : cAg A B) (g : cAg B C) : cAg A C := fun k j q => (g k j q).trans (h k j q)
theorem cAg.of {A B : xMem} (h : cAg A B) {k : Nat} (j : Nat) (q : k < 39 ∨ 50 < k := by omega) : B k j = A k j := h k j (by unfold cX; omega)
/-! each part looks at its cells alone -/
theorem zer.congr {I I' : xMem} {b : Nat} (h : zer I b) (hI : ∀ k, b < k → k ≤ b + 4 → I' k 0 = I k 0) : zer I' b := by
  obtain ⟨h1, h2, h3, h4⟩ := h
  refine ⟨?_, ?_, ?_, ?_⟩
  · rw [hI _ (by omega) (by omega)]; exact h1
  · rw [hI _ (by omega) (by omega)]; exact h2
  · rw [hI _ (by omega) (by omega)]; exact h3
  · rw [hI _ (by omega) (by omega)]; exact h4
/-- a finding, on both sides -/
def cFnd (I : xMem) (f : Nat) : xMem := wr (wr I 0 9 (nI f)) 51 f (I 51 f + 1)
theorem found_eq (I : xMem) {f : Nat} (h : f < 6) : X4_found I (nI f) = some ((-3 : Int32), cFnd I f) := by
  unfold X4_found cFnd
  rw [bind_s, rdI_nI h (by omega), bind_s, wrI_nI h (by omega), bind_s, wr_off (k := 0) (j := 9) I (nI f) (show 51 ≠ 0 ∨ f ≠ 9 by omega)]
/-! what the tower is, out of it -/
theorem VC.cAg {I I' : xMem} {P : Nat} {v : TV} (hP : P = 52 ∨ P = 57) (h : VC I P v) (g : cAg I I') : VC I' P v := by
  obtain ⟨⟨h1, h2, h3⟩, h4, h5, h6, d, h7, h8, h9, h10, h11⟩ := h
  refine ⟨⟨?_, ?_, ?_⟩, fun i hi => ?_, fun s hs => ?_, fun a ha => ?_, d, h7, ?_, ?_, ?_, ?_⟩
  · rw [g.of _ (by omega)]; exact h1
  · rw [g.of _ (by omega)]; exact h2
  · rw [g.of _ (by omega)]; exact h3
  · rw [g.of _ (by omega), g.of _ (by omega)]; exact h4 i hi
  · rw [g.of _ (by omega)]; exact h5 s hs
  · rw [g.of _ (by omega)]; exact h6 a ha
  · rw [g.of _ (by omega)]; exact h8
  · rw [g.of _ (by omega)]; exact h9
  · rw [g.of _ (by omega)]; exact h10
  · rw [g.of _ (by omega)]; exact h11