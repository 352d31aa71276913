/-! ROWS, TEXTS, the class alone -/
section CSR
variable {I : xMem}
def rowK (I : xMem) : Prop := I 1 0 = nI 6 ∧ I 1 1 = nI 40 ∧ I 1 4 = nI 0 ∧ I 10 0 = nI 4 ∧ I 10 1 = nI 60 ∧ I 10 4 = nI 32
theorem rowK.cg (h : rowK I) {I' : xMem} (g : ∀ k j, k = 1 ∨ k = 10 → I' k j = I k j) : rowK I' := by
  obtain ⟨a, b, c, d, e, f⟩ := h
  refine ⟨?_, ?_, ?_, ?_, ?_, ?_⟩
  · rw [g _ _ (by omega)]; exact a
  · rw [g _ _ (by omega)]; exact b
  · rw [g _ _ (by omega)]; exact c
  · rw [g _ _ (by omega)]; exact d
  · rw [g _ _ (by omega)]; exact e
  · rw [g _ _ (by omega)]; exact f
theorem cs_row (h : rowK I) {r n : Nat} (hr : r < 6) (hn : n ≤ 40) : ∃ I', X4_row I (nI r) (nI n) = some (nI n, I') ∧ I' 2 r = nI n ∧ (∀ k j, (k ≠ 2 ∨ j ≠ r) → k ≠ 4 + r → I' k j = I k j) := by
  obtain ⟨h1, h2, h3, -⟩ := h
  refine ⟨rgM (wr I 2 r (nI n)) (4 + r) 0 40 (I 1 4), ?_, ?_, fun k j q1 q2 => ?_⟩
  · unfold X4_row X4_renewed X2_renew
    rw [hasNo_eq (N := 6) h1 (by omega), if_pos ((ix_nI (by omega)).mpr hr), if00, h2, if_pos (by rw [nI_le_iff (by omega) (by omega)]; omega), if_pos (by rw [i_0, nI_le_iff (by omega) (by omega)]; omega), show cLen (1 + 1) = 6 from rfl, show cLen (1 + 2) = 6 from rfl, show cLen (1 + 3) = 40 from rfl, wrI_nI hr (by omega), bind_s, rdX_nI hr (by omega), bind_s, wr_off (k := 1 + 1) I _ (show 1 ≠ 1 + 1 ∨ 4 ≠ r by omega), show 1 + 2 + 1 + r = 4 + r by omega, fill_eq _ _ (by omega), bind_s, bind_s, bind_s]
  · rw [rgM_at, if_neg (by omega), wr_eq]
  · rw [rgM_at, if_neg (by omega), wr_off _ _ (by omega)]
theorem cs_lay (h : rowK I) {r i s : Nat} (hr : r < 6) (hs : s ≤ 40) (h2 : I 2 r = nI s) (hi : i < s) (x : Int32) : ∃ I', X4_lay I (nI r) (nI i) x = some (1, I') ∧ I' (4 + r) i = x ∧ (∀ k j, k ≠ 0 → (k ≠ 4 + r ∨ j ≠ i) → I' k j = I k j) := by
  obtain ⟨h1, -⟩ := h
  refine ⟨wr (wr I 0 10 (I (4 + r) i)) (4 + r) i x, ?_, wr_eq _ _ _ _, fun k j q1 q2 => ?_⟩
  · unfold X4_lay
    rw [refPlace_eq (N := 6) h1 rfl (by omega) hr, if_neg (by rw [h2]; exact nI_ne_m1 (by omega)), lacks_eq (N := 6) rfl (by omega) hr (show s ≤ 60 by omega) h2, if_pos (by rw [nI_toInt (by omega), show (1 : Int32).toInt = 1 from rfl]; omega), bind_s, if00, bind_s, if00, rdX_nI hr (by omega), bind_s, show 3 + 1 + r = 4 + r by omega, rdI_nI (by omega) (by omega), bind_s, bind_s, bind_s, show 3 + 1 + r = 4 + r by omega, wrI_nI (by omega) (by omega), bind_s]
  · rw [wr_off _ _ (by omega), wr_off _ _ (by omega)]
theorem cs_tear (h : rowK I) {r : Nat} (hr : r < 6) : (I 2 r = -1 ∧ X4_tear I (nI r) = some (-3, cFnd I 1)) ∨ (I 2 r ≠ -1 ∧ X4_tear I (nI r) = some (1, wr I 2 r (-1))) := by
  obtain ⟨h1, -⟩ := h
  unfold X4_tear
  rw [refRow_eq (N := 6) h1 rfl (by omega), if_pos ((ix_nI (by omega)).mpr hr), nI_clamp (by omega)]
  by_cases c : I 2 r = -1
  · left
    rw [if_pos c, bind_s]
    exact ⟨c, ifm3 _ _⟩
  · right
    rw [if_neg c, bind_s]
    refine ⟨c, ?_⟩
    rw [if00, show cLen 2 = 6 from rfl, wrI_nI hr (by omega), bind_s]
theorem cs_text (h : rowK I) {t n : Nat} (ht : t < 4) (hn : n ≤ 60) : ∃ I', X4_text I (nI t) (nI n) = some (nI n, I') ∧ I' 11 t = nI n ∧ (∀ j, j < 60 → I' (13 + t) j = nI 32) ∧ (∀ k j, (k ≠ 11 ∨ j ≠ t) → k ≠ 13 + t → I' k j = I k j) := by
  obtain ⟨-, -, -, h1, h2, h3⟩ := h
  refine ⟨rgM (wr I 11 t (nI n)) (13 + t) 0 60 (I 10 4), ?_, ?_, fun j hj => ?_, fun k j q1 q2 => ?_⟩
  · unfold X4_text X4_renewed X2_renew
    rw [hasNo_eq (N := 4) h1 (by omega), if_pos ((ix_nI (by omega)).mpr ht), if00, h2, if_pos (by rw [nI_le_iff (by omega) (by omega)]; omega), if_pos (by rw [i_0, nI_le_iff (by omega) (by omega)]; omega), show cLen (10 + 1) = 4 from rfl, show cLen (10 + 2) = 4 from rfl, show cLen (10 + 3) = 60 from rfl, wrI_nI ht (by omega), bind_s, rdX_nI ht (by omega), bind_s, wr_off (k := 10 + 1) I _ (show 10 ≠ 10 + 1 ∨ 4 ≠ t by omega), show 10 + 2 + 1 + t = 13 + t by omega, fill_eq _ _ (by omega), bind_s, bind_s, bind_s]
  · rw [rgM_at, if_neg (by omega), wr_eq]
  · rw [rgM_at, if_pos (by omega), h3]
  · rw [rgM_at, if_neg (by omega), wr_off _ _ (by omega)]
theorem byte_id : ∀ c, c < 128 → (nI c).toInt8.toInt32 = nI c := by decide +kernel
theorem cs_put (h : rowK I) {t i s c : Nat} (ht : t < 4) (hs : s ≤ 60) (h2 : I 11 t = nI s) (hi : i < s) (hc : c < 128) : X4_put I (nI t) (nI i) (nI c) = some (I (13 + t) i + 1000, wr I (13 + t) i (nI c)) := by
  obtain ⟨-, -, -, h1, -⟩ := h
  unfold X4_put
  rw [refPlace_eq (N := 4) h1 rfl (by omega) ht, if_neg (by rw [h2]; exact nI_ne_m1 (by omega)), lacks_eq (N := 4) rfl (by omega) ht hs h2, if_pos (by rw [nI_toInt (by omega), show (1 : Int32).toInt = 1 from rfl]; omega), bind_s, if00, bind_s, if00, rdX_nI ht (by omega), bind_s, show 12 + 1 + t = 13 + t by omega, rdI_nI (by omega) (by omega), bind_s, bind_s, show 12 + 1 + t = 13 + t by omega, wrI_nI (by omega) (by omega), bind_s, byte_id c hc]
end CSR
