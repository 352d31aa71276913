/-! MY WORLD: the class (62 cells), two arrays of the law (62, 63) -/
def cTyL : List Nat := [4, 2, 6, 9, 6, 6, 6, 6, 6, 6, 2, 6, 9, 6, 6, 6, 6, 0, 6, 6, 6, 6, 8, 0, 6, 6, 6, 6, 0, 6, 6, 6, 6, 0, 6, 6, 6, 6, 7, 3, 6, 6, 6, 6, 6, 9, 6, 6, 6, 6, 6, 6, 1, 6, 6, 6, 6, 1, 6, 6, 6, 6, 6, 6]
def cLenL : List Nat := [0, 0, 6, 6, 40, 40, 40, 40, 40, 40, 0, 4, 4, 60, 60, 60, 60, 0, 41, 41, 41, 41, 3, 0, 41, 41, 41, 41, 0, 41, 41, 41, 41, 0, 41, 41, 41, 41, 3, 0, 36, 1024, 1024, 1024, 64, 5, 64, 64, 64, 64, 64, 6, 0, 4, 16, 6, 6, 0, 4, 16, 6, 6, 19, 4]
def cTy (k : Nat) : Nat := cTyL.getD k 99
def cLen (k : Nat) : Nat := cLenL.getD k 0
def cE (cy : Nat → ClassId) (ad : Nat → Nat) (P Dr : Nat) : xEnt := fun k f L =>
  if cTy k = 6 then .inl (cy 0, cLen k, .inl f)
  else if cTy k = 0 then .inr (0, [.int (f 0), .ref (ad (k + 1)), .ref (ad (k + 2)), .ref (ad (k + 3)), .ref (ad (k + 4))])
  else if cTy k = 1 then .inr (1, [.int (f 0), .int (f 1), .int (f 2), .ref (ad (k + 1)), .ref (ad (k + 2)), .ref (ad (k + 3)), .ref (ad (k + 4)), .int (f 7), .int (f 8)])
  else if cTy k = 2 then .inr (2, [.int (f 0), .int (f 1), .ref (ad (k + 2)), .ref (ad (k + 1)), .int (f 4)])
  else if cTy k = 3 then .inr (3, [.int (f 0), .ref (ad 40), .ref (ad 41), .ref (ad 42), .ref (ad 43), .int (f 5), .ref (ad 44), .ref (ad 45)])
  else if cTy k = 4 then .inr (4, [.ref (ad 1), .ref (ad 10), .ref (ad 17), .ref (ad 22), .ref (ad 38), .ref (ad 39), .ref (ad 51), .ref (ad P), .ref (ad Dr), .int (f 9), .int (f 10), .long (L 11), .long (L 12)])
  else if cTy k = 7 then .inl (cy 1, cLen k, .inl f)
  else if cTy k = 8 then .inl (cy 2, cLen k, .inr (.inr (.inr (.inr (fun j => some (ad (23 + 5 * j)))))))
  else .inl (cy 3, cLen k, .inr (.inr (.inr (.inr (fun j => some (ad (k + 1 + j)))))))
abbrev cIA (k n : Nat) : Prop := (k < 64 ∧ cTy k = 6) ∧ cLen k = n
abbrev cDeeds (k : Nat) : Prop := (k < 64 ∧ cTy k = 0) ∧ cIA (k + 1) 41 ∧ cIA (k + 2) 41 ∧ cIA (k + 3) 41 ∧ cIA (k + 4) 41
abbrev cPlan (k : Nat) : Prop := (k < 64 ∧ cTy k = 1) ∧ cIA (k + 1) 4 ∧ cIA (k + 2) 16 ∧ cIA (k + 3) 6 ∧ cIA (k + 4) 6
abbrev cShelf (k : Nat) : Prop := (k < 64 ∧ cTy k = 2) ∧ cIA (k + 1) (cLen (k + 1)) ∧ (k + 2 < 64 ∧ cTy (k + 2) = 9) ∧ ∀ j, j < cLen (k + 2) → cIA (k + 2 + 1 + j) (cLen (k + 3))
theorem cIA_e {cy : Nat → ClassId} {ad : Nat → Nat} {P Dr k n : Nat} (h : cIA k n) (f : Nat → Int32) (L : xLon) : cE cy ad P Dr k f L = .inl (cy 0, n, .inl f) := by simp [cE, h.1.2, h.2]
theorem cE_0 {cy : Nat → ClassId} {ad : Nat → Nat} {P Dr k : Nat} (h : k < 64 ∧ cTy k = 0) (f : Nat → Int32) (L : xLon) : cE cy ad P Dr k f L = .inr (0, [.int (f 0), .ref (ad (k + 1)), .ref (ad (k + 2)), .ref (ad (k + 3)), .ref (ad (k + 4))]) := by simp [cE, h.2]
theorem cE_1 {cy : Nat → ClassId} {ad : Nat → Nat} {P Dr k : Nat} (h : k < 64 ∧ cTy k = 1) (f : Nat → Int32) (L : xLon) : cE cy ad P Dr k f L = .inr (1, [.int (f 0), .int (f 1), .int (f 2), .ref (ad (k + 1)), .ref (ad (k + 2)), .ref (ad (k + 3)), .ref (ad (k + 4)), .int (f 7), .int (f 8)]) := by simp [cE, h.2]
theorem cE_2 {cy : Nat → ClassId} {ad : Nat → Nat} {P Dr k : Nat} (h : k < 64 ∧ cTy k = 2) (f : Nat → Int32) (L : xLon) : cE cy ad P Dr k f L = .inr (2, [.int (f 0), .int (f 1), .ref (ad (k + 2)), .ref (ad (k + 1)), .int (f 4)]) := by simp [cE, h.2]
theorem cE_3 {cy : Nat → ClassId} {ad : Nat → Nat} {P Dr : Nat} (f : Nat → Int32) (L : xLon) : cE cy ad P Dr 39 f L = .inr (3, [.int (f 0), .ref (ad 40), .ref (ad 41), .ref (ad 42), .ref (ad 43), .int (f 5), .ref (ad 44), .ref (ad 45)]) := rfl
theorem cE_4 {cy : Nat → ClassId} {ad : Nat → Nat} {P Dr : Nat} (f : Nat → Int32) (L : xLon) : cE cy ad P Dr 0 f L = .inr (4, [.ref (ad 1), .ref (ad 10), .ref (ad 17), .ref (ad 22), .ref (ad 38), .ref (ad 39), .ref (ad 51), .ref (ad P), .ref (ad Dr), .int (f 9), .int (f 10), .long (L 11), .long (L 12)]) := rfl
theorem cE_7 {cy : Nat → ClassId} {ad : Nat → Nat} {P Dr : Nat} (f : Nat → Int32) (L : xLon) : cE cy ad P Dr 38 f L = .inl (cy 1, 3, .inl f) := rfl
theorem cE_8 {cy : Nat → ClassId} {ad : Nat → Nat} {P Dr : Nat} (f : Nat → Int32) (L : xLon) : cE cy ad P Dr 22 f L = .inl (cy 2, 3, .inr (.inr (.inr (.inr (fun j => some (ad (23 + 5 * j))))))) := rfl
theorem cE_9 {cy : Nat → ClassId} {ad : Nat → Nat} {P Dr k : Nat} (h : k < 64 ∧ cTy k = 9) (f : Nat → Int32) (L : xLon) : cE cy ad P Dr k f L = .inl (cy 3, cLen k, .inr (.inr (.inr (.inr (fun j => some (ad (k + 1 + j))))))) := by simp [cE, h.2]
theorem cTy_ne4 {k : Nat} (h : k ≠ 0) : cTy k ≠ 4 := by
  intro h4
  have : k < 64 := by
    rcases Nat.lt_or_ge k 64 with q | q
    · exact q
    · rw [cTy, List.getD_eq_getElem?_getD, List.getElem?_eq_none (by simpa [cTyL] using q)] at h4
      exact absurd h4 (by decide)
  have key : ∀ k, k < 64 → cTy k = 4 → k = 0 := by decide +kernel
  exact h (key k this h4)
theorem cE_L {cy : Nat → ClassId} {ad : Nat → Nat} {P Dr : Nat} (L L' : xLon) (k : Nat) (f : Nat → Int32) (h : k ≠ 0) : cE cy ad P Dr k f L = cE cy ad P Dr k f L' := by simp [cE, cTy_ne4 h]
theorem cE_PD {cy : Nat → ClassId} {ad : Nat → Nat} {P Dr P' Dr' : Nat} (L : xLon) (k : Nat) (f : Nat → Int32) (h : k ≠ 0) : cE cy ad P Dr k f L = cE cy ad P' Dr' k f L := by simp [cE, cTy_ne4 h]
theorem cShelf_1 : cShelf 1 := by decide +kernel
theorem cShelf_10 : cShelf 10 := by decide +kernel
theorem cDeeds_17 : cDeeds 17 := by decide +kernel
theorem cDeeds_k : ∀ j, j < 3 → cDeeds (23 + 5 * j) := by decide +kernel
theorem cVal_k : ∀ j, j < 5 → cIA (45 + 1 + j) 64 := by decide +kernel
theorem cPlan_52 : cPlan 52 := by decide +kernel
theorem cPlan_57 : cPlan 57 := by decide +kernel
abbrev cTys (cy : Nat → ClassId) : List (ClassId × FieldType) := [(cy 0, .int), (cy 1, .boolean), (cy 2, .object "PairStairs$Deeds"), (cy 3, .array .int)]
def isT (j : Nat) : Int32 := ([1, 3, 5, 9, 25, 37] : List Int32).getD j 0
def rdT (f : Nat → Int32) (n : Nat) (i : Int32) : Option Int32 := if ix i n then some (f i.toNatClampNeg) else none
/-- the table IS; the script: where it is, its length, its ints -/
abbrev xTab : Type := Nat × Nat × Nat × (Nat → Int32)
def cZ (ad : Nat → Nat) (tI : xTab) : State → Heap → Prop := fun U H =>
  va_Nw (.methodLinkNest "PairStairs$Plan" 76 yX4_counted "PairStairs") U ∧ va_Nw (.methodLinkNest "PairStairs$Plan" 84 yX4_sunk "PairStairs") U ∧ va_Nw (.fieldLinkNest "PairStairs$Plan" 73 "PairStairs" "IS" "[I" "PairStairs") U ∧
  va_Z "PairStairs" "IS" "[I" (.ref tI.1) (gA 64 ad) U H ∧ va_T .int tI.1 6 (fun j => .int (isT j)) (gA 64 ad) U H ∧
  va_X tI.2.1 tI.2.2.1 tI.2.2.2 U H ∧ ¬ gA 64 ad tI.2.1
theorem cZm {ad : Nat → Nat} {tI : xTab} : gZm 64 ad (cZ ad tI) := by
  intro u U H H1 hW hq h
  obtain ⟨h1, h2, h3, h4, h5, h6, h7⟩ := h
  refine ⟨va_Nw.warmM hW h1, va_Nw.warmM hW h2, va_Nw.warmF hW h3, (h4.moved hW.alike).kept hq, (h5.moved hW.alike).kept hq, (h6.moved hW.alike).kept (hq _ ?_ h7), h7⟩
  obtain ⟨scr, a, -⟩ := h6
  exact (Array.getElem?_eq_some_iff.mp a).1
abbrev cOk (ad : Nat → Nat) (P Dr : Nat) : Prop := gInj 64 ad ∧ cPlan P ∧ cPlan Dr

