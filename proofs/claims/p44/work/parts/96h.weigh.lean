/-! THE LAW: by how far it sank, by turns -/
section LW1
variable {tI : xTab} {P Dr : Nat} {v : TV} {D : DD} {A I : xMem} {L : xLon} {x7 : Int64} {x9 x10 : Int32}
variable {G67 : (Int32 → Int32 → Int32 → Int64 → Int32 → xMem → xLon → Option Int32)} {i o : Nat}
theorem LI.row3 (h : LI A I P Dr v D) {I' : xMem} (g : ∀ k j, k ≠ 0 → k ≠ 7 → (k ≠ 2 ∨ j ≠ 3) → I' k j = I k j) (h2 : I' 2 3 = nI 2) : LI A I' P Dr v D := by
  have hp := h.cs.pd
  obtain ⟨⟨⟨b1, b2, b3, b4, b5⟩, a2, a3⟩, a4, a5, a6, a7, a8, a9, a10, a11⟩ := h
  refine ⟨⟨⟨b1, b2, b3.cg fun k j _ _ => g k j (by omega) (by omega) (by omega), b4, b5.cg fun k j _ _ => g k j (by omega) (by omega) (by omega)⟩, a2.cg fun j => g 62 j (by omega) (by omega) (by omega), a3.cg fun j => g 63 j (by omega) (by omega) (by omega)⟩, a4, a5, a6.cg fun k j _ => g k j (by omega) (by omega) (by omega), fun r h1 h2 => ?_, Or.inr h2, fun k j h1 h2 => ?_, ?_, a11.cg fun k j _ _ => g k j (by omega) (by omega) (by omega)⟩
  · rw [g _ _ (by omega) (by omega) (by omega)]; exact a7 r h1 h2
  · rw [g _ _ (by omega) (by omega) (by omega)]; exact a9 k j h1 h2
  · rw [g _ _ (by omega) (by omega) (by omega)]; exact a10
theorem LI.rk (h : LI A I P Dr v D) : rowK I := h.2.2.2.1
/-- two of PEOPLE that are unlike -/
def twoP (v : TV) (i o : Nat) : Prop := i < tn v ∧ o < tn v ∧ o ≠ i
theorem x_1997 (h : LI A I P Dr v D) (hi : i < tn v) (ho : o < tn v) {a b : Nat} (ha : a % 2 = 0 ∧ a ≤ tn v) (ha2 : a ≤ pc (tt (now v D)) + 2) (hb : b % 2 = 0 ∧ b ≤ tn v) (hE : ∀ p, p < 13 → XC_2080 tI P Dr G67 (nI (tn v)) (nI (tl v)) (nI (allS v)) x7 x9 x10 (nI (dd D)) (nI (te (now v D))) (nI (tt (now v D))) (nI (tu (now v D))) (nI (dS D (dd D))) (nI i) (nI o) (nI p) (sameI (now v D) i o) I L = some 1) : XC_1997 tI P Dr G67 (nI (tn v)) (nI (tl v)) (nI (allS v)) x7 x9 x10 (nI (dd D)) (nI (te (now v D))) (nI (tt (now v D))) (nI (tu (now v D))) (nI (dS D (dd D))) (nI i) (nI o) (nI a) (nI b) I L = some 1 := by
  have hC := h.cs
  have h6 := hC.n2
  have hpc := pc_le (tt (now v D))
  obtain ⟨p, hp, e0⟩ := low_nI (x10 >>> ((17 : Int32) &&& 31)) (n := 13) (by omega) (by omega)
  unfold XC_1997
  rw [if_neg (by rw [nI_lt_iff (by omega) (by omega)]; omega), show (2 : Int32) = nI 2 from rfl, nI_rem (by omega) (by omega) (by omega), ha.1, if_pos (show nI 0 = 0 from rfl), bits_nI hC.tt64, bind_s, nI_sum, if_neg (by rw [nI_lt_iff (by omega) (by omega)]; omega), if_neg (nI_pos (by omega)), if_neg (by rw [nI_lt_iff (by omega) (by omega)]; omega), nI_rem (by omega) (by omega) (by omega), hb.1, if_pos (show nI 0 = 0 from rfl), show (13 : Int32) = nI 13 from rfl, e0, bind_s, same_if hC hi ho, ite_some, bind_s]
  exact hE p hp
theorem x_1921 (h : LI A I P Dr v D) (hi : i < tn v) (ho : o < tn v) {kd b pt : Nat} (hk : kd < 64) (hb : b < tn v) (hbi : b ≠ i) (hp1 : 1 ≤ pt) (hp2 : pt ≤ pc kd) (hE : ∀ (p : Nat) (I : xMem) (L : xLon), LI A I P Dr v D → p < 13 → XC_2080 tI P Dr G67 (nI (tn v)) (nI (tl v)) (nI (allS v)) x7 x9 x10 (nI (dd D)) (nI (te (now v D))) (nI (tt (now v D))) (nI (tu (now v D))) (nI (dS D (dd D))) (nI i) (nI o) (nI p) (sameI (now v D) i o) I L = some 1) : XC_1921 tI P Dr G67 (nI (tn v)) (nI (tl v)) (nI (allS v)) x7 x9 x10 (nI (dd D)) (nI (te (now v D))) (nI (tt (now v D))) (nI (tu (now v D))) (nI (dS D (dd D))) (nI i) (nI o) (nI kd) (nI b) (nI pt) I L = some 1 := by
  have hC := h.cs
  have hv := hC.vok
  have h6 := hC.n2
  have hpc := pc_le kd
  have htn := hC.ttn
  have hev := hC.even
  obtain ⟨I1, s1, q1⟩ := cs_send hC (n := 1) (by omega)
  have h1 := h.q q1
  obtain ⟨I2, s2, q2⟩ := cs_send h1.cs (n := 2) (by omega)
  have h2 := h1.q q2
  obtain ⟨I3, s3, q3⟩ := cs_send h2.cs (n := 0) (by omega)
  have h3 := h2.q q3
  have a1 := sv_even hv 2 htn hev
  have a2 := sv_2 hv htn
  have a4 := sv_even hv 4 htn hev
  have e1 : sv (now v D) (2 * 1) (tt (now v D)) = sv (now v D) 2 (tt (now v D)) := rfl
  have e2 : sv (now v D) (2 * 2) (tt (now v D)) = sv (now v D) 4 (tt (now v D)) := rfl
  have e3 : sv (now v D) (2 * 0) (tt (now v D)) = pc (tt (now v D)) := rfl
  have s1 : X4_send P I 1 = _ := s1
  have s2 : X4_send P I1 2 = _ := s2
  have s3 : X4_send P I2 0 = _ := s3
  rw [e1] at s1
  rw [e2] at s2
  rw [e3] at s3
  have htn6 : tn (now v D) = tn v := rfl
  rw [htn6] at a1 a4
  unfold XC_1921
  rw [if_neg (by rw [i_63, nI_lt_iff (by omega) (by omega)]; omega), if_neg (nI_pos (by omega)), if_neg (by rw [nI_le_iff (by omega) (by omega)]; omega), if_neg (by rw [nI_eq_iff (by omega) (by omega)]; omega), if_neg (by rw [i_1, nI_lt_iff (by omega) (by omega)]; omega), bits_nI hk, bind_s, if_pos (by rw [nI_le_iff (by omega) (by omega)]; exact hp2), s1, bind_s, s2, bind_s, s3, bind_s, bits_nI hC.tt64, bind_s, if_pos rfl, if_neg (nI_pos (by omega))]
  exact x_1997 h3 hi ho a1 a2 a4 (fun p hp => hE p _ L h3 hp)
theorem x_1835 (h : LI A I P Dr v D) (hi : i < tn v) (ho : o < tn v) (hio : o ≠ i) (hr : row3 I o (skN (now v D) i o 0 0)) (hE : ∀ (p : Nat) (I : xMem) (L : xLon), LI A I P Dr v D → p < 13 → XC_2080 tI P Dr G67 (nI (tn v)) (nI (tl v)) (nI (allS v)) x7 x9 x10 (nI (dd D)) (nI (te (now v D))) (nI (tt (now v D))) (nI (tu (now v D))) (nI (dS D (dd D))) (nI i) (nI o) (nI p) (sameI (now v D) i o) I L = some 1) : XC_1835 tI P Dr G67 (nI (tn v)) (nI (tl v)) (nI (allS v)) x7 x9 x10 (nI (dd D)) (nI (te (now v D))) (nI (tt (now v D))) (nI (tu (now v D))) (nI (dS D (dd D))) (nI i) (nI o) I L = some 1 := by
  have hC := h.cs
  have hv := hC.vok
  have h6 := hC.n2
  obtain ⟨c, l, e1, c1, c2, l1, l2⟩ := cs_pounds hC hi ho hio (h.pos hi) hr
  have r3 : ∀ x, row3 (wr I 0 10 x) o (skN (now v D) i o 0 0) := fun x => by
    obtain ⟨a, b, c, d⟩ := hr
    exact ⟨a.cg fun k j _ => wr_off _ _ (by omega), by rw [wr_off _ _ (by omega)]; exact b, by rw [wr_off _ _ (by omega)]; exact c, by rw [wr_off _ _ (by omega)]; exact d⟩
  have h1 := h.told (nI l)
  have e2 := cs_kinds h1.cs hi ho hio (r3 _)
  obtain ⟨b, b1, b2, e3⟩ := cs_next h1.cs hi ho hio (r3 (nI l))
  have hk64 : kdN (now v D) (wr I 0 10 (nI l)) i < 64 := kfN_lt _ _ _ _
  have hown := kdN_own hv hi ho (r3 (nI l))
  have hkk := hv.2.2.2.1 i
  have p1 := grP_1 (w := now v D) (x := tw v i) (j := b) hk64 hown
  have p2 := grP_pc (w := now v D) (x := tw v i) (j := b) hk64
  generalize kdN (now v D) (wr I 0 10 (nI l)) i = kd at *
  generalize grP (now v D) (tw v i) kd b = pt at *
  have h2 := h1.told (nI pt)
  have hww : tw v i ≤ 99 := hv.2.2.2.2.1 i
  have t1 := cs_told h2.cs hi (k := 1) (by omega)
  have t1 : L_told P (wr (wr I 0 10 (nI l)) 0 10 (nI pt)) (nI i) 1 = some (nI (tw v i), wr (wr (wr I 0 10 (nI l)) 0 10 (nI pt)) 0 10 (nI (tw v i))) := t1
  have h3 := h2.told (nI (tw v i))
  have t0 := cs_told h3.cs hi (k := 0) (by omega)
  have t0 : L_told P (wr (wr (wr I 0 10 (nI l)) 0 10 (nI pt)) 0 10 (nI (tw v i))) (nI i) 0 = some (nI (tk (now v D) i), _) := t0
  have h4 := h3.told (nI (tk (now v D) i))
  have e1 : X4_pounds P I (nI i) 3 = _ := e1
  have e2 : X4_kinds P (wr I 0 10 (nI l)) (nI i) 3 = _ := e2
  have e3 : X4_next P (wr I 0 10 (nI l)) (nI i) 3 = _ := e3
  unfold XC_1835
  rw [e1, bind_s, e2, bind_s, e3, bind_s, if_neg (by rw [i_1, nI_lt_iff (by omega) (by omega)]; omega), if_neg (by rw [i_99, nI_lt_iff (by omega) (by omega)]; omega)]
  dsimp only
  rw [asked_told, asked_told, if_neg (by rw [i_1, nI_lt_iff (by omega) (by omega)]; omega), t1, bind_s, if_neg (by rw [nI_lt_iff (by omega) (by omega)]; omega), t0, bind_s, bit_if (by omega) (by omega), if_pos hown]
  exact x_1921 h4 hi ho hk64 b1 b2 p1 p2 hE
theorem x_1757 (h : LI A I P Dr v D) (hE : ∀ (i o p : Nat) (I : xMem) (L : xLon), LI A I P Dr v D → i < tn v → o < tn v → o ≠ i → p < 13 → XC_2080 tI P Dr G67 (nI (tn v)) (nI (tl v)) (nI (allS v)) x7 x9 x10 (nI (dd D)) (nI (te (now v D))) (nI (tt (now v D))) (nI (tu (now v D))) (nI (dS D (dd D))) (nI i) (nI o) (nI p) (sameI (now v D) i o) I L = some 1) : XC_1757 tI P Dr G67 (nI (tn v)) (nI (tl v)) (nI (allS v)) x7 x9 x10 (nI (dd D)) (nI (te (now v D))) (nI (tt (now v D))) (nI (tu (now v D))) (nI (dS D (dd D))) I L = some 1 := by
  have hC := h.cs
  have h6 := hC.n2
  obtain ⟨i, hi, ei⟩ := low_nI (x10 >>> ((11 : Int32) &&& 31)) (n := tn v) (by omega) (by omega)
  obtain ⟨r, hr, er⟩ := low_nI (x10 >>> ((14 : Int32) &&& 31)) (n := tn v - 1) (by omega) (by omega)
  have ho : (i + 1 + r) % tn v < tn v := Nat.mod_lt _ (by omega)
  have hio : (i + 1 + r) % tn v ≠ i := by
    rcases Nat.lt_or_ge (i + 1 + r) (tn v) with q | q
    · rw [Nat.mod_eq_of_lt q]; omega
    · rw [Nat.mod_eq_sub_mod q, Nat.mod_eq_of_lt (by omega)]; omega
  have ejm : rmI ((nI i + (1 : Int32)) + nI r) (nI (tn v)) = some (nI ((i + 1 + r) % tn v)) := by
    unfold rmI
    rw [if_neg (by rw [i_0, nI_eq_iff (by omega) (by omega)]; omega), i_1, nI_sum, nI_sum, nI_rem (by omega) (by omega) (by omega)]
  generalize (i + 1 + r) % tn v = o at *
  obtain ⟨I1, a1, a2, a3⟩ := cs_row h.rk (r := 3) (n := 2) (by omega) (by omega)
  have h1 : LI A I1 P Dr v D := h.row3 (fun k j q1 q2 q3 => a3 k j q3 (by omega)) a2
  obtain ⟨I2, b1, b2, b3⟩ := cs_lay h1.rk (r := 3) (i := 0) (s := 2) (by omega) (by omega) a2 (by omega) (nI o)
  have h22 : I2 2 3 = nI 2 := by rw [b3 _ _ (by omega) (by omega)]; exact a2
  have h2 : LI A I2 P Dr v D := h1.row3 (fun k j q1 q2 q3 => b3 k j q1 (by omega)) h22
  have es := cs_sink0 h2.cs hi ho (fun w => hio w.symm)
  obtain ⟨I3, c1, c2, c3⟩ := cs_lay h2.rk (r := 3) (i := 1) (s := 2) (by omega) (by omega) h22 (by omega) (nI (skN (now v D) i o 0 0))
  have h23 : I3 2 3 = nI 2 := by rw [c3 _ _ (by omega) (by omega)]; exact h22
  have h3 : LI A I3 P Dr v D := h2.row3 (fun k j q1 q2 q3 => c3 k j q1 (by omega)) h23
  have hr3 : row3 I3 o (skN (now v D) i o 0 0) := ⟨h3.rk, h23, by rw [c3 7 0 (by omega) (by omega)]; exact b2, c2⟩
  have a1 : X4_row I 3 2 = some (2, I1) := a1
  have b1 : X4_lay I1 3 0 (nI o) = some (1, I2) := b1
  have c1 : X4_lay I2 3 1 (nI (skN (now v D) i o 0 0)) = some (1, I3) := c1
  unfold XC_1757
  rw [ei, bind_s, show nI (tn v) - (1 : Int32) = nI (tn v - 1) from pk_sub (b := 1) (by omega), er, bind_s, ejm, bind_s, a1, bind_s, if_pos rfl, b1, bind_s, if_pos rfl, es, bind_s, c1, bind_s, if_pos rfl]
  exact x_1835 h3 hi ho hio hr3 (fun p I L h hp => hE i o p I L h hi ho hio hp)
end LW1
