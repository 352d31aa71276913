/-! DAYS BY LOTS -/
def pc (t : Nat) : Nat := t % 2 + t / 2 % 2 + t / 4 % 2 + t / 8 % 2 + t / 16 % 2 + t / 32 % 2
theorem bc_pc : ∀ t, t < 64 → J6_bitCount_0f7a4 (nI t) = nI (pc t) := by decide +kernel
/-- what the least by which two sink says: by how much, with which -/
theorem lstV_sk {v : TV} (hv : vOk v) (i j f : Nat) : lstV v i j f / 256 = skN v i j (lstV v i j f % 256 / 16) (lstV v i j f % 256 % 16) ∧ nd (lstV v i j f % 256 / 16) f = 0 ∧ nd (lstV v i j f % 256 % 16) f = 0 := by
  have h1 := cnt_le hv i
  have h2 := cnt_le hv j
  rcases lst_is hv (ca := cnt v i) (cb := cnt v j) (by omega) (by omega) (twins v i j) f with ⟨-, g⟩ | ⟨c, g1, g2, g3, g4⟩
  · exact absurd (okS_0 f) (g 0 (by omega))
  · have e : lstV v i j f = 256 * skN v i j (c / 16) (c % 16) + c := g3
    have e1 : lstV v i j f % 256 = c := by omega
    rw [e1]
    have g5 := g2.2
    rw [nd_or, or0] at g5
    exact ⟨by omega, g5⟩
theorem if9 {e : Nat} (he : e ≤ 9) : (if nI 9 ≤ nI e then (0 : Int32) else 1) = nI (if 9 ≤ e then 0 else 1) := by
  by_cases h : 9 ≤ e
  · rw [if_pos ((nI_le_iff (by omega) (by omega)).mpr h), if_pos h]
    rfl
  · rw [if_neg (fun w => h ((nI_le_iff (by omega) (by omega)).mp w)), if_neg h]
    rfl
section OPL
variable {I J : xMem} {L M : xLon} {P Dr : Nat}
end OPL
