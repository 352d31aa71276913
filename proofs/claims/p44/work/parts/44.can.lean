/-! who can go with whom -/
def lstV (v : TV) (i j f : Nat) : Nat := lst v (cnt v i) (cnt v j) (twins v i j) f
abbrev canL (v : TV) (i j but : Nat) : Prop := same v i j ∧ lstV v i j (nd (stW v i) but) / 256 ≤ tl v
theorem lstV_lt {v : TV} (hv : vOk v) (i j f : Nat) : lstV v i j f < 65536 := by
  have h1 := cnt_le hv i
  have h2 := cnt_le hv j
  exact lst_lt hv (by omega) (by omega) _ f
theorem VC.least4 {I : xMem} {P : Nat} {v : TV} (hv : vOk v) (h : VC I P v) {i j f : Nat} (hi : i < tn v) (hj : j < tn v) (hf : f < 2 ^ ts v) : X4_least P I (nI i) (nI j) (nI f) = some (nI (lstV v i j f)) := by
  have h1 := cnt_le hv i
  have h2 := cnt_le hv j
  unfold X4_least
  rw [h.counts hv hi, bind_s, h.counts hv hj, bind_s, h.tws hv hi hj, bind_s, h.least hv (by omega) (by omega) _ hf, bind_s]
  rfl
theorem VC.can {I : xMem} {P : Nat} {v : TV} (hv : vOk v) (h : VC I P v) {i j but : Nat} (hi : i < tn v) (hj : j < tn v) : X4_canGo P I (nI i) (nI j) (nI but) = some (if canL v i j but then nI 1 else nI 0) := by
  have h1 := stW_lt hv i
  have h2 := nd_le (stW v i) but
  have h3 := lstV_lt hv i j (nd (stW v i) but)
  have h4 := hv.2.2.1
  unfold X4_canGo
  rw [h.apart hv hi hj, bind_s, h.stonesWith hv hi, bind_s, nI_nd, h.least4 hv hi hj (by omega), bind_s, h.1.1, nz_0, nz_1, i_256, nI_div (by omega) (by omega) (by omega)]
  simp (disch := omega) only [nI_lt_iff]
  by_cases q : same v i j
  · rw [if_pos q, if_pos (show nI 0 = 0 from rfl)]
    by_cases r : lstV v i j (nd (stW v i) but) / 256 ≤ tl v
    · rw [if_neg (by omega), if_pos ⟨q, r⟩]
      rfl
    · rw [if_pos (by omega), if_neg (fun w => r w.2)]
      rfl
  · rw [if_neg q, if_neg (by decide), if_neg (fun w => q w.1)]
    rfl
theorem wr_wr (I : xMem) (k j : Nat) (a b : Int32) : wr (wr I k j a) k j b = wr I k j b := by
  funext p q
  simp only [wr_at]
  split <;> rfl
theorem wr_id (I : xMem) (k j : Nat) : wr I k j (I k j) = I := by
  funext p q
  simp only [wr_at]
  split
  · rename_i h
    rw [h.1, h.2]
  · rfl