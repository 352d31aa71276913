/-! THE LAW: kept, gone on from, undone; rows torn; the tower again -/
section LE
variable {tI : xTab} {P Dr : Nat} {v : TV} {D : DD} {A I : xMem} {L : xLon} {x7 : Int64} {x9 x10 : Int32}
theorem tear_all {x4 : Int32} (hk : rowK I) (hE : ∀ (J : xMem), rowK J → (∀ r, r < 6 → J 2 r = -1) → (∀ k j, 1 ≤ k → k < 39 → k ≠ 2 → J k j = I k j) → XC_2591 tI P Dr x4 x7 J L = some 1) : ∀ (m fuel r : Nat) (J : xMem), r + m = 6 → m < fuel → rowK J → (∀ q, q < r → J 2 q = -1) → (∀ k j, 1 ≤ k → k < 39 → k ≠ 2 → J k j = I k j) → XC_2555 tI P Dr fuel x4 x7 (nI r) J L = some 1 := by
  intro m
  induction m with
  | zero =>
    intro fuel r J hr hf h1 h2 h3
    obtain ⟨f, rfl⟩ : ∃ f, fuel = f + 1 := ⟨fuel - 1, by omega⟩
    have e : r = 6 := by omega
    subst e
    rw [XC_2555]
    rw [if_pos (by decide)]
    exact hE J h1 h2 h3
  | succ m ih =>
    intro fuel r J hr hf h1 h2 h3
    obtain ⟨f, rfl⟩ : ∃ f, fuel = f + 1 := ⟨fuel - 1, by omega⟩
    rw [XC_2555]
    rw [if_neg (by rw [i_6, nI_le_iff (by omega) (by omega)]; omega)]
    rcases cs_tear h1 (r := r) (by omega) with ⟨c, e⟩ | ⟨c, e⟩
    · have q : qAg J (cFnd J 1) := qAg.fnd J 1
      rw [e, bind_s, if_neg (show ¬ (-3 : Int32) = 1 by decide), if_pos rfl]
      dsimp only
      unfold XC_2585
      rw [show nI r + (1 : Int32) = nI (r + 1) from nI_sum r 1]
      refine ih f (r + 1) _ (by omega) (by omega) (h1.cg fun k j _ => q k j (by omega)) (fun p hp => ?_) (fun k j k1 k2 k3 => ?_)
      · rw [q _ _ (by omega)]
        rcases Nat.lt_or_ge p r with z | z
        · exact h2 p z
        · rw [show p = r by omega]; exact c
      · rw [q _ _ (by omega)]; exact h3 k j k1 k2 k3
    · rw [e, bind_s, if_pos rfl]
      dsimp only
      unfold XC_2585
      rw [show nI r + (1 : Int32) = nI (r + 1) from nI_sum r 1]
      refine ih f (r + 1) _ (by omega) (by omega) (h1.cg fun k j _ => wr_off _ _ (by omega)) (fun p hp => ?_) (fun k j k1 k2 k3 => ?_)
      · by_cases z : p = r
        · rw [z]; exact wr_eq _ _ _ _
        · show wr J 2 r (-1) 2 p = -1
          rw [wr_off _ _ (by omega)]
          exact h2 p (by omega)
      · show wr J 2 r (-1) k j = _
        rw [wr_off _ _ (by omega)]
        exact h3 k j k1 k2 k3
theorem x_2591 (hPD : isPD P Dr) (hk : rowK I) (h2 : ∀ r, r < 6 → I 2 r = -1) (h11 : I 11 0 = nI 40) (h11' : ∀ r, 1 ≤ r → r < 4 → I 11 r = -1) (hv : vLaw v) (hT : TX (I 13) v) (hz : zerD I) {C : Nat → Int32} (hC : ∀ j, j < 40 → I 13 j = C j) : XC_2591 tI P Dr (nI (tn v)) (dgF (now v D0) C) I L = some 1 := by
  obtain ⟨I', t1, t2, t3, t4⟩ := cs_tower hPD hk h11 hv hT hz
  have hp : (k : Nat) → k < 52 → (k < Dr ∨ Dr + 4 < k) := fun k h => by
    unfold isPD at hPD
    omega
  have o : ∀ k j, k < 17 → I' k j = I k j := fun k j h => t4 k j (hp k (by omega)) (by omega) (by omega)
  have dK : dgK I' := ⟨hk.cg fun k j h => o k j (by omega), fun r hr => by rw [o _ _ (by omega)]; exact h2 r hr, by rw [o _ _ (by omega)]; exact h11, fun r r1 r2 => by rw [o _ _ (by omega)]; exact h11' r r1 r2, t3⟩
  have hd := cs_digest t2 dK
  have e : dgF (now v D0) (I' 13) = dgF (now v D0) C := dgF_congr _ fun j hj => by rw [o _ _ (by omega)]; exact hC j hj
  have lg : ∀ (a : Int64), lg_cmp a a = 0 := fun a => by
    unfold lg_cmp
    rw [if_neg (show ¬ a > a from Int64.lt_irrefl), if_pos rfl]
  unfold XC_2591
  rw [t1, bind_s, if_pos rfl]
  dsimp only
  rw [hd, bind_s, e, lg, if_pos rfl]
theorem x_2488 (h : LI A I P Dr v D) (hv : vLaw v) (a11 : A 11 0 = nI 40) (a11' : ∀ r, 1 ≤ r → r < 4 → A 11 r = -1) (hT : TX (A 13) v) : XC_2488 tI P Dr (nI (tn v)) (dgF (now v D0) (A 13)) I L = some 1 := by
  have hC := h.cs
  have hd40 := hC.d40
  obtain ⟨-, -, -, b1, -, -, b2, b3, b4⟩ := h
  obtain ⟨I1, k1, k2, k3, k4, k5⟩ := cs_keep hC (m := 1) (by omega)
  have k1 : X4_keep P I 1 = _ := k1
  have q1 : I1 38 0 = nI 1 := by rw [k5 _ _ (by omega) (by omega)]; exact b3
  have q2 : dD I1 (23 + 5 * 0) D0 := b4.cg fun k j _ _ => k5 k j (by omega) (by omega)
  obtain ⟨I2, o1, o2, o3⟩ := cs_on k2 (m := 0) (by omega) q1 q2 (D0_ok v)
  have o1 : X4_on I1 0 = _ := o1
  have q3 : I2 38 1 = nI 1 := by rw [o3 _ _ (by omega)]; exact k3
  have q4 : dD I2 (23 + 5 * 1) D := k4.cg fun k j _ _ => o3 k j (by omega)
  obtain ⟨I3, p1, p2, p3⟩ := cs_on o2 (m := 1) (by omega) q3 q4 hC.2.2.2.1
  have p1 : X4_on I2 1 = _ := p1
  obtain ⟨I4, u1, u2, u3⟩ := cs_undo p2 (n := 0) (Nat.zero_le _)
  have u1 : X4_undo I3 0 = _ := u1
  have hok := hC.2.2.2.1.2.2.2
  have fr : ∀ k j, 1 ≤ k → k < 17 → I4 k j = I k j := fun k j h1 h2 => by
    rw [u2 _ _ (by omega), p3 _ _ (by omega), o3 _ _ (by omega), k5 _ _ (by omega) (by omega)]
  have hk4 : rowK I4 := b1.cg fun k j h => fr k j (by omega) (by omega)
  have z4 : zerD I4 := by
    obtain ⟨w1, w2, w3, w4⟩ := u3.2.2.2.2.2 0 (Nat.zero_le _)
    refine ⟨w1.trans ?_, w2.trans ?_, w3.trans ?_, w4.trans ?_⟩
    · rw [show dT (dcut D 0) 0 = 0 from hok.1]; rfl
    · rw [show dU (dcut D 0) 0 = 0 from hok.2.1]; rfl
    · rw [show dE (dcut D 0) 0 = 0 from hok.2.2.1]; rfl
    · rw [show dS (dcut D 0) 0 = 0 from hok.2.2.2]; rfl
  unfold XC_2488
  rw [cs_count2 hC, bind_s, k1, bind_s, if_pos rfl]
  dsimp only
  rw [o1, bind_s, if_pos (show nI (dd D0) = 0 from rfl)]
  dsimp only
  rw [cs_count4 o2, bind_s, if_pos (show nI (tt (now v D0)) = 0 from rfl), p1, bind_s, if_pos rfl]
  dsimp only
  rw [u1, bind_s, if_pos (show nI (dd D - 0) = nI (dd D) from rfl)]
  dsimp only
  rw [cs_count7 u3, bind_s, show dS (dcut D 0) (dd (dcut D 0)) = 0 from hok.2.2.2, if_pos (show nI 0 = (0 : Int32) from rfl)]
  refine tear_all (I := I4) hk4 (fun J j1 j2 j3 => ?_) 6 bigF 0 I4 (by omega) (bigF_gt (by omega)) hk4 (fun q hq => absurd hq (by omega)) (fun _ _ _ _ _ => rfl)
  have e : ∀ k j, 10 ≤ k → k < 17 → J k j = A k j := fun k j h1 h2 => by
    rw [j3 _ _ (by omega) (by omega) (by omega), fr _ _ (by omega) (by omega)]
    exact b2 k j h1 h2
  refine x_2591 hC.1 j1 j2 (by rw [e _ _ (by omega) (by omega)]; exact a11) (fun r r1 r2 => by rw [e _ _ (by omega) (by omega)]; exact a11' r r1 r2) hv ?_ ?_ (fun j _ => e _ _ (by omega) (by omega))
  · have e13 : J 13 = A 13 := funext fun j => e 13 j (by omega) (by omega)
    rw [e13]; exact hT
  · obtain ⟨w1, w2, w3, w4⟩ := z4
    refine ⟨?_, ?_, ?_, ?_⟩
    · rw [j3 _ _ (by omega) (by omega) (by omega)]; exact w1
    · rw [j3 _ _ (by omega) (by omega) (by omega)]; exact w2
    · rw [j3 _ _ (by omega) (by omega) (by omega)]; exact w3
    · rw [j3 _ _ (by omega) (by omega) (by omega)]; exact w4
theorem x_67 (hN : ∀ D, dOk v D → near100 (now v D)) (hT : tI.2.2.1 ≤ 260) (hE : ∀ (D : DD) (I : xMem) (L : xLon), LI A I P Dr v D → XC_2488 tI P Dr (nI (tn v)) x7 I L = some 1) : ∀ (m fuel k : Nat) (D : DD) (I : xMem) (L : xLon), k + m = 2 → m < fuel → dd D ≤ 3 * k → LI A I P Dr v D → XC_67 tI P Dr fuel (nI (tn v)) (nI (tl v)) (nI (allS v)) x7 (nI k) I L = some 1 := by
  intro m
  induction m with
  | zero =>
    intro fuel k D I L hk hf hd h
    obtain ⟨f, rfl⟩ : ∃ f, fuel = f + 1 := ⟨fuel - 1, by omega⟩
    have e : k = 2 := by omega
    subst e
    rw [XC_67]
    rw [if_pos (by decide)]
    exact hE D I L h
  | succ m ih =>
    intro fuel k D I L hk hf hd h
    obtain ⟨f, rfl⟩ : ∃ f, fuel = f + 1 := ⟨fuel - 1, by omega⟩
    obtain ⟨c1, e1⟩ := cell_nI I tI hT (k := 8 + k) (by omega)
    obtain ⟨c2, e2⟩ := cell_nI I tI hT (k := 10 + k) (by omega)
    obtain ⟨I1, D1, s1, s2, s3, s4, s5⟩ := l_stir h.1 (by omega) c2
    have h1 := h.s s2 s3 (by omega)
    have hC := h1.cs
    rw [XC_67]
    rw [if_neg (by rw [i_2, nI_le_iff (by omega) (by omega)]; omega), show (8 : Int32) + nI k = nI (8 + k) from nI_sum 8 k, e1, bind_s, show (10 : Int32) + nI k = nI (10 + k) from nI_sum 10 k, e2, bind_s, s1, bind_s, if_neg (show ¬ (1 : Int32) = 0 by decide)]
    dsimp only
    have he9 := hC.vok.2.2.2.2.2.2.1
    rw [cs_count2 hC, bind_s, cs_count3 hC, bind_s, cs_count4 hC, bind_s, cs_count5 hC, bind_s, cs_count7 hC, bind_s, if_neg (by rw [i_0, nI_lt_iff (by omega) (by omega)]; omega)]
    refine x_146 h1 (hN D1 hC.2.2.2.1) fun I L h => ?_
    rw [i_1, nI_sum]
    exact ih f (k + 1) D1 I L (by omega) (by omega) (by omega) h
theorem x_17 (hN : ∀ v, vLaw v → ∀ D, dOk v D → near100 (now v D)) (hT : tI.2.2.1 ≤ 260) (hPD : isPD P Dr) (hk : rowK I) (hz : zerD I) (h2 : ∀ r, r < 6 → I 2 r = -1) (h11 : ∀ r, 1 ≤ r → r < 4 → I 11 r = -1) : XC_17 tI P Dr I L = some 1 := by
  obtain ⟨I1, v, t1, hv, hC, hG, hV, t38, tT, t11, fr⟩ := l_tower (P := P) (Dr := Dr) hT hPD hk hz
  have h6 := hC.n2
  have hk1 : rowK I1 := hk.cg fun k j h => fr k j (by omega) (by omega) (by omega) (by omega) (by omega)
  have r2 : ∀ r, r < 6 → I1 2 r = -1 := fun r hr => by rw [fr _ _ (by omega) (by omega) (by omega) (by omega) (by omega)]; exact h2 r hr
  have r11 : ∀ r, 1 ≤ r → r < 4 → I1 11 r = -1 := fun r q1 q2 => by rw [fr _ _ (by omega) (by omega) (by omega) (by omega) (by omega)]; exact h11 r q1 q2
  have dK : dgK I1 := ⟨hk1, r2, t11, r11, t38⟩
  obtain ⟨I2, k1, k2, k3, k4, k5⟩ := cs_keep hC (m := 0) (by omega)
  have k1 : X4_keep Dr I1 0 = _ := k1
  have hL : LI I1 I2 Dr P v D0 := by
    refine ⟨⟨k2, hG.cg fun j => k5 62 j (by omega) (by omega), hV.cg fun j => k5 63 j (by omega) (by omega)⟩, hv.2.2, (show 0 + 7 ≤ 40 by omega), hk1.cg fun k j _ => k5 k j (by omega) (by omega), fun r q1 q2 => ?_, ?_, fun k j q1 q2 => k5 k j (by omega) (by omega), k3, k4⟩
    · rw [k5 _ _ (by omega) (by omega)]; exact r2 r q1
    · rw [k5 _ _ (by omega) (by omega)]; exact Or.inl (r2 3 (by omega))
  have g0 : rdI I1 62 19 (0 : Int32) = some (nI (tn v)) := (rdI_nI (I := I1) (k := 62) (N := 19) (n := 0) (by omega) (by omega)).trans (congrArg some hG.1.1)
  have g1 : rdI I1 62 19 (1 : Int32) = some (nI (ts v)) := (rdI_nI (I := I1) (k := 62) (N := 19) (n := 1) (by omega) (by omega)).trans (congrArg some hG.1.2.1)
  have g2 : rdI I1 62 19 (2 : Int32) = some (nI (tl v)) := (rdI_nI (I := I1) (k := 62) (N := 19) (n := 2) (by omega) (by omega)).trans (congrArg some hG.1.2.2)
  have hs4 := hC.2.1.2.1
  have eS : ((1 : Int32) <<< (nI (ts v) &&& 31)) - (1 : Int32) = nI (allS v) := by
    rw [i_1, nI_pow (by omega), pk_sub (Nat.pos_of_ne_zero (by simp))]
    rfl
  unfold XC_17
  rw [t1, bind_s, if_neg (show ¬ (1 : Int32) = 0 by decide)]
  dsimp only
  rw [g0, bind_s, g2, bind_s, g1, bind_s, cs_digest hC dK, bind_s, k1, bind_s, if_pos (show nI (dd D0) = 0 from rfl), eS]
  exact x_67 (A := I1) (fun D hD => hN v hv D hD) hT (fun D I L h => x_2488 h hv t11 r11 tT) 2 bigF 0 D0 I2 L (by omega) (bigF_gt (by omega)) (Nat.le_refl _) hL
end LE
