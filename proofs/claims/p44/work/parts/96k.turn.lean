/-! THE LAW: one turn -/
theorem LI.s {A I I' : xMem} {P Dr : Nat} {v : TV} {D D' : DD} (h : LI A I P Dr v D) (hL : LSt I' P Dr v D') (g : sAg I I') (hd : dd D' + 7 ≤ 40) : LI A I' P Dr v D' := by
  obtain ⟨-, a4, -, a6, a7, a8, a9, a10, a11⟩ := h
  refine ⟨hL, a4, hd, a6.cg fun k j _ => g k j (by omega), fun r h1 h2 => ?_, ?_, fun k j h1 h2 => ?_, ?_, a11.cg fun k j _ _ => g k j (by omega)⟩
  · rw [g _ _ (by omega)]; exact a7 r h1 h2
  · rw [g _ _ (by omega)]; exact a8
  · rw [g _ _ (by omega)]; exact a9 k j h1 h2
  · rw [g _ _ (by omega)]; exact a10
theorem seed_nI (x : Int32) : ∃ s, s ≤ 16777215 ∧ x &&& 16777215 = nI s := by
  refine ⟨(x &&& 16777215).toBitVec.toNat, ?_, ?_⟩
  · have h : (x &&& 16777215).toBitVec = x.toBitVec &&& 16777215#32 := rfl
    rw [h, BitVec.toNat_and]
    exact Nat.and_le_right
  · apply Int32.toBitVec_inj.mp
    apply BitVec.eq_of_toNat_eq
    show _ = (BitVec.ofNat 32 _).toNat
    rw [BitVec.toNat_ofNat, Nat.mod_eq_of_lt (x &&& 16777215).toBitVec.isLt]
section LK
variable {tI : xTab} {P Dr : Nat} {v : TV} {D : DD} {A I : xMem} {L : xLon} {x7 : Int64} {x9 x10 : Int32}
variable {G67 : (Int32 → Int32 → Int32 → Int64 → Int32 → xMem → xLon → Option Int32)}
theorem x_2439 (h : LI A I P Dr v D) (hE : ∀ (I : xMem) (L : xLon), LI A I P Dr v D → G67 (nI (tn v)) (nI (tl v)) (nI (allS v)) x7 (x9 + 1) I L = some 1) : XC_2439 tI P Dr G67 (nI (tn v)) (nI (tl v)) (nI (allS v)) x7 x9 (nI (te (now v D))) (nI (tt (now v D))) (nI (tu (now v D))) (nI (dS D (dd D))) I L = some 1 := by
  have hC := h.cs
  unfold XC_2439
  rw [cs_count3 hC, bind_s, if_pos rfl, cs_count4 hC, bind_s, if_pos rfl, cs_count5 hC, bind_s, if_pos rfl, cs_count7 hC, bind_s, if_pos rfl]
  exact hE I L h
theorem x_2367 (h : LI A I P Dr v D) (hE : ∀ (I : xMem) (L : xLon), LI A I P Dr v D → G67 (nI (tn v)) (nI (tl v)) (nI (allS v)) x7 (x9 + 1) I L = some 1) : XC_2367 tI P Dr G67 (nI (tn v)) (nI (tl v)) (nI (allS v)) x7 x9 x10 (nI (dd D)) (nI (te (now v D))) (nI (tt (now v D))) (nI (tu (now v D))) (nI (dS D (dd D))) I L = some 1 := by
  have hC := h.cs
  have h6 := hC.n2
  have d40 := h.d40
  obtain ⟨s, s1, s2⟩ := seed_nI x10
  obtain ⟨I1, D1, l1, l2, l3, l4, l5⟩ := cs_lots hC (n := 4) (s := 1 + s) (by omega) (by omega) (by omega) (by omega) (by omega)
  have l1 : X4_lots P I 4 (nI (1 + s)) = _ := l1
  have e : (1 : Int32) + (x10 &&& (16777215 : Int32)) = nI (1 + s) := by rw [s2, i_1, nI_sum]
  have t64 := l3.tt64
  have tn' := l3.ttn
  have pc6 : pc (tt (now v D1)) ≤ tn v := pc_n _ (by omega) _ l3.ttn
  obtain ⟨I2, u1, u2, u3⟩ := cs_undo l3 (n := dd D) (by omega)
  have s3 : dS D1 (dd D) = dS D (dd D) := (l5 _ (Nat.le_refl _)).2.2.2
  have s4 := l3.2.2.2.1.2.2.1 (dd D) (dd D1) (by omega) (Nat.le_refl _)
  have s5 := l3.sle
  have s6 := hC.sle
  have hb : CS I2 P Dr v D := u3.to rfl fun k hk => by
    obtain ⟨q1, q2, q3, q4⟩ := l5 k hk
    exact ⟨q1.symm, q2.symm, q3.symm, q4.symm⟩
  have h2 := h.h (l2.tr u2) hb
  unfold XC_2367
  rw [e, l1, bind_s, if_neg (by rw [i_0, nI_lt_iff (by omega) (by omega)]; omega), if_neg (by rw [nI_lt_iff (by omega) (by omega)]; omega)]
  dsimp only
  rw [cs_count4 l3, bind_s, bits_nI t64, bind_s, if_pos rfl, cs_count2 l3, bind_s, i_4, nI_sum, l4, if_pos rfl, cs_count7 l3, bind_s, if_neg (by rw [nI_lt_iff (by omega) (by omega)]; omega), u1, bind_s, if_pos (show nI (dd D1 - dd D) = nI 4 by rw [l4]; congr 1; omega)]
  exact x_2439 h2 hE
theorem x_146 (h : LI A I P Dr v D) (hN : near100 (now v D)) (hE : ∀ (I : xMem) (L : xLon), LI A I P Dr v D → G67 (nI (tn v)) (nI (tl v)) (nI (allS v)) x7 (x9 + 1) I L = some 1) : XC_146 tI P Dr G67 (nI (tn v)) (nI (tl v)) (nI (allS v)) x7 x9 x10 (nI (dd D)) (nI (te (now v D))) (nI (tt (now v D))) (nI (tu (now v D))) (nI (dS D (dd D))) I L = some 1 := by
  have hC := h.cs
  have hv := hC.vok
  have h6 := hC.n2
  have h64 := hC.n64
  have htn := hC.ttn
  have htu := hC.tus
  have h16 := hC.s16
  have he9 := hv.2.2.2.2.2.2.1
  have hev := hC.even
  have hs := hC.sle
  have pc6 : pc (tt (now v D)) ≤ tn v := pc_n _ (by omega) _ hC.ttn
  have hp : 0 < 2 ^ ts v := Nat.pos_of_ne_zero (by simp)
  unfold XC_146
  rw [if_neg (by rw [i_9, nI_lt_iff (by omega) (by omega)]; omega), if_neg (by rw [i_0, nI_lt_iff (by omega) (by omega)]; omega), i_1, nI_pow (by omega), if_neg (by rw [nI_le_iff (by omega) (by omega)]; omega), bits_nI hC.tt64, bind_s, i_2, nI_rem (by omega) (by omega) (by omega), hev, if_pos (show nI 0 = (0 : Int32) from rfl), if_neg (by rw [i_0, nI_lt_iff (by omega) (by omega)]; omega), if_neg (by rw [nI_lt_iff (by unfold allS; omega) (by omega)]; unfold allS; omega), if_pos (by rw [i_0, nI_le_iff (by omega) (by omega)]; omega)]
  have e0 : sumR (now v D) 0 = 0 := rfl
  have key := x_202 (tI := tI) (x7 := x7) (x9 := x9) (x10 := x10) (G67 := G67) (A := A) (P := P) (Dr := Dr) (v := v) (D := D) (fun I L h => x_1022 h fun I L h => x_1288 h hN fun I L h => x_1757 h fun i o p I L h hi ho hio hp => x_2080 h hi ho hio hp fun I L h => x_2367 h hE) (tn v) bigF 0 I L (by omega) (bigF_gt (by omega)) h
  rw [e0] at key
  exact key
end LK
