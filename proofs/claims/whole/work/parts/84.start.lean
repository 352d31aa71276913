/-! BOTH, NEW, ARE ALIKE -/
theorem rgM_in {n j : Nat} (x : Int32) (h : j < n) : rgM (fun _ _ => 0) 0 0 n x 0 j = x := by
  rw [rgM_at, if_pos (by omega)]
theorem mI5 : ∀ r, r < 6 → mI0 5 r = -1 := by decide +kernel
theorem mI7 : ∀ r, r < 4 → mI0 7 r = -1 := by decide +kernel
theorem mI1 : ∀ k, k < 3 → mI0 1 (165 + 165 * k) = -1 := by decide +kernel
theorem mI1z : ∀ j, j < 165 → mI0 1 j = 0 := by decide +kernel
theorem mIz {k j : Nat} (h1 : k ≠ 1) (h5 : k ≠ 5) (h7 : k ≠ 7) : mI0 k j = 0 := by
  unfold mI0
  rw [if_neg h1, if_neg h5, if_neg h7]
theorem nIz {k j : Nat} (h1 : k ≠ 1) (h2 : k ≠ 2) (h10 : k ≠ 10) (h11 : k ≠ 11) : nI0 k j = 0 := by
  unfold nI0
  rw [if_neg h1, if_neg h10, if_neg h2, if_neg h11]
theorem nI2 {r : Nat} (h : r < 6) : nI0 2 r = -1 := rgM_in (-1) h
theorem nI11 {r : Nat} (h : r < 4) : nI0 11 r = -1 := rgM_in (-1) h
theorem Sim_new : Sim nI0 nL0 52 57 mI0 mL0 := by
  have z0 : (0 : Int32) = nI 0 := rfl
  refine ⟨Or.inl ⟨rfl, rfl⟩, ⟨⟨rfl, rfl, rfl, rfl, rfl, rfl⟩, fun r hr => ⟨Or.inl (nI2 hr), ?_, fun i hi => ?_⟩, fun r hr => ⟨Or.inl (nI11 hr), ?_, fun i hi => ?_⟩⟩, ⟨?_, ?_, fun f h1 h2 => ?_⟩, ⟨rfl, rfl⟩, (0, 0, 0, fun _ => 0, fun _ => 0, fun _ => 0, 0, 0, 0), 0, fun _ => 0, fun _ => 0, fun _ => 0, fun _ => 0, ⟨Nat.zero_le _, Nat.zero_le _, Nat.zero_le _, fun _ => (by decide : 0 < 6), fun _ => Nat.zero_le _, fun _ => Nat.zero_le _, (by decide : 0 ≠ 1)⟩, ⟨⟨⟨?_, ?_, ?_⟩, fun i hi => absurd hi (Nat.not_lt_zero _), fun s hs => absurd hs (Nat.not_lt_zero _), fun a ha => ?_⟩, ⟨?_, ?_, ?_⟩, fun i hi => absurd hi (Nat.not_lt_zero _), fun s hs => absurd hs (Nat.not_lt_zero _)⟩, ⟨Nat.zero_le _, ⟨?_, ?_⟩, fun k hk => ?_, fun k hk => absurd hk (Nat.not_lt_zero _), ⟨?_, ?_, ?_, ?_⟩, fun k hk => ⟨(by decide : 0 < 2 ^ 0), (by decide : 0 < 2 ^ 0), Nat.zero_le _⟩⟩, ⟨?_, ?_, ?_, ?_⟩, fun k hk => ⟨⟨?_, ?_, ?_, ?_⟩, Or.inl ⟨?_, mI1 k hk⟩⟩⟩
  · rw [mI5 r hr, nI2 hr]
  · rw [mIz (by omega) (by omega) (by omega), nIz (by omega) (by omega) (by omega) (by omega)]
  · rw [mI7 r hr, nI11 hr]
  · rw [mIz (by omega) (by omega) (by omega), nIz (by omega) (by omega) (by omega) (by omega)]
  · rw [mIz (by omega) (by omega) (by omega), nIz (by omega) (by omega) (by omega) (by omega)]
  · rw [mIz (by omega) (by omega) (by omega), nIz (by omega) (by omega) (by omega) (by omega)]
  · rw [mIz (by omega) (by omega) (by omega), nIz (by omega) (by omega) (by omega) (by omega)]
  · exact nIz (by omega) (by omega) (by omega) (by omega)
  · exact nIz (by omega) (by omega) (by omega) (by omega)
  · exact nIz (by omega) (by omega) (by omega) (by omega)
  · exact nIz (by omega) (by omega) (by omega) (by omega)
  · exact mIz (by omega) (by omega) (by omega)
  · exact mIz (by omega) (by omega) (by omega)
  · exact mIz (by omega) (by omega) (by omega)
  · exact nIz (by omega) (by omega) (by omega) (by omega)
  · exact mI1z _ (by omega)
  · exact ⟨nIz (by omega) (by omega) (by omega) (by omega), nIz (by omega) (by omega) (by omega) (by omega), nIz (by omega) (by omega) (by omega) (by omega), nIz (by omega) (by omega) (by omega) (by omega)⟩
  · exact mI1z _ (by omega)
  · exact mI1z _ (by omega)
  · exact mI1z _ (by omega)
  · exact mI1z _ (by omega)
  · exact nIz (by omega) (by omega) (by omega) (by omega)
  · exact nIz (by omega) (by omega) (by omega) (by omega)
  · exact nIz (by omega) (by omega) (by omega) (by omega)
  · exact nIz (by omega) (by omega) (by omega) (by omega)
  · exact nIz (by omega) (by omega) (by omega) (by omega)
  · exact nIz (by omega) (by omega) (by omega) (by omega)
  · exact nIz (by omega) (by omega) (by omega) (by omega)
  · exact nIz (by omega) (by omega) (by omega) (by omega)
  · exact nIz (by omega) (by omega) (by omega) (by omega)
