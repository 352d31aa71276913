/-! WHERE PLAN AND DRAFT ARE BEHIND tower -/
theorem ite_or {c : Prop} [Decidable c] {α : Type} {a b r : α} (h : (if c then a else b) = r) : a = r ∨ b = r := by
  by_cases hc : c
  · exact Or.inl (ite_t h hc)
  · exact Or.inr (ite_f h hc)
def isPDr (P Dr : Nat) (r : Int32 × xMem × Nat × Nat) : Prop := (r.2.2.1 = P ∧ r.2.2.2 = Dr) ∨ (r.2.2.1 = Dr ∧ r.2.2.2 = P)
theorem pd_X4_L1 {P Dr : Nat} {K : xMem → Option (Int32 × xMem × Nat × Nat)} (hK : ∀ I r, K I = some r → isPDr P Dr r) : ∀ (n : Nat) (x : Int32) (I : xMem) (r), X4_tower_L1 K n x I = some r → isPDr P Dr r := by
  intro n
  induction n with
  | zero => intro x I r h; exact ono h
  | succ n ih =>
    intro x I r h
    rw [X4_tower_L1] at h
    rcases ite_or h with h | h
    · exact hK _ _ h
    · obtain ⟨_, -, h⟩ := obind h
      exact ih _ _ _ h
theorem pd_X4_tower {P Dr : Nat} {I : xMem} {x : Int32} {r : Int32 × xMem × Nat × Nat} (h : X4_tower P Dr I x = some r) : isPDr P Dr r := by
  unfold X4_tower at h
  obtain ⟨_, -, h⟩ := obind h
  rcases ite_or h with h | h
  · obtain ⟨_, -, h⟩ := obind h
    obtain ⟨_, -, h⟩ := obind h
    obtain ⟨_, -, h⟩ := obind h
    rcases ite_or h with h | h
    · obtain ⟨_, -, h⟩ := obind h
      refine pd_X4_L1 (fun I r e => ?_) _ _ _ _ h
      rw [← Option.some.inj e]
      exact Or.inr ⟨rfl, rfl⟩
    · rw [← Option.some.inj h]
      exact Or.inl ⟨rfl, rfl⟩
  · rw [← Option.some.inj h]
    exact Or.inl ⟨rfl, rfl⟩
theorem pd_t1 {P Dr : Nat} {K : xMem → Option (Int32 × xMem × Nat × Nat)} (hK : ∀ I r, K I = some r → isPDr P Dr r) : ∀ (n : Nat) (x : Int32) (I : xMem) (r), L_tower_L1 K n x I = some r → isPDr P Dr r := by
  intro n
  induction n with
  | zero => intro x I r h; exact ono h
  | succ n ih =>
    intro x I r h
    rw [L_tower_L1] at h
    rcases ite_or h with h | h
    · exact hK _ _ h
    · obtain ⟨_, -, h⟩ := obind h
      exact ih _ _ _ h
theorem pd_t2 {P Dr : Nat} {tI : xTab} {K : Int32 → xMem → Option (Int32 × xMem × Nat × Nat)} (hK : ∀ z I r, K z I = some r → isPDr P Dr r) : ∀ (n : Nat) (x y : Int32) (I : xMem) (r), L_tower_L2 tI K n x y I = some r → isPDr P Dr r := by
  intro n
  induction n with
  | zero => intro x y I r h; exact ono h
  | succ n ih =>
    intro x y I r h
    rw [L_tower_L2] at h
    obtain ⟨_, -, h⟩ := obind h
    rcases ite_or h with h | h
    · exact hK _ _ _ h
    · obtain ⟨_, -, h⟩ := obind h
      obtain ⟨_, -, h⟩ := obind h
      obtain ⟨_, -, h⟩ := obind h
      rcases ite_or h with h | h
      · exact ih _ _ _ _ h
      · obtain ⟨_, -, h⟩ := obind h
        rcases ite_or h with h | h
        · obtain ⟨_, -, h⟩ := obind h
          obtain ⟨_, -, h⟩ := obind h
          rcases ite_or h with h | h
          · exact ih _ _ _ _ h
          · exact ih _ _ _ _ h
        · exact ih _ _ _ _ h
theorem pd_t3 {P Dr : Nat} {tI : xTab} {v : Int32} {K : Int32 → xMem → Option (Int32 × xMem × Nat × Nat)} (hK : ∀ z I r, K z I = some r → isPDr P Dr r) : ∀ (n : Nat) (x y : Int32) (I : xMem) (r), L_tower_L3 tI v K n x y I = some r → isPDr P Dr r := by
  intro n
  induction n with
  | zero => intro x y I r h; exact ono h
  | succ n ih =>
    intro x y I r h
    rw [L_tower_L3] at h
    obtain ⟨_, -, h⟩ := obind h
    rcases ite_or h with h | h
    · exact hK _ _ _ h
    · obtain ⟨_, -, h⟩ := obind h
      obtain ⟨_, -, h⟩ := obind h
      obtain ⟨_, -, h⟩ := obind h
      obtain ⟨_, -, h⟩ := obind h
      obtain ⟨_, -, h⟩ := obind h
      rcases ite_or h with h | h
      · exact ih _ _ _ _ h
      · obtain ⟨_, -, h⟩ := obind h
        obtain ⟨_, -, h⟩ := obind h
        rcases ite_or h with h | h
        · obtain ⟨_, -, h⟩ := obind h
          obtain ⟨_, -, h⟩ := obind h
          rcases ite_or h with h | h
          · obtain ⟨_, -, h⟩ := obind h
            obtain ⟨_, -, h⟩ := obind h
            rcases ite_or h with h | h
            · exact ih _ _ _ _ h
            · exact ih _ _ _ _ h
          · exact ih _ _ _ _ h
        · exact ih _ _ _ _ h
theorem pd_L_tower {P Dr : Nat} {I : xMem} {tI : xTab} {r : Int32 × xMem × Nat × Nat} (h : L_tower P Dr I tI = some r) : isPDr P Dr r := by
  unfold L_tower at h
  obtain ⟨_, -, h⟩ := obind h
  obtain ⟨_, -, h⟩ := obind h
  obtain ⟨_, -, h⟩ := obind h
  obtain ⟨_, -, h⟩ := obind h
  obtain ⟨_, -, h⟩ := obind h
  obtain ⟨_, -, h⟩ := obind h
  obtain ⟨_, -, h⟩ := obind h
  refine pd_t1 (fun I r h => ?_) _ _ _ _ h
  obtain ⟨_, -, h⟩ := obind h
  obtain ⟨_, -, h⟩ := obind h
  refine pd_t2 (fun z I r h => ?_) _ _ _ _ _ h
  refine pd_t3 (fun z I r h => ?_) _ _ _ _ _ h
  rcases ite_or h with h | h
  · rw [← Option.some.inj h]
    exact Or.inl ⟨rfl, rfl⟩
  · obtain ⟨_, -, h⟩ := obind h
    rcases ite_or h with h | h
    · obtain ⟨q, e, h⟩ := obind h
      have e := pd_X4_tower e
      obtain ⟨_, -, h⟩ := obind h
      rcases ite_or h with h | h
      · rw [← Option.some.inj h]
        exact e
      · rw [← Option.some.inj h]
        exact e
    · rw [← Option.some.inj h]
      exact Or.inl ⟨rfl, rfl⟩
