/-! THE LAW'S TOWER, whole -/
section LT2
variable {P Dr : Nat} {tI : xTab}
theorem l_tower {I : xMem} (hN : tI.2.2.1 ≤ 260) (hPD : isPD P Dr) (hk : rowK I) (hz : zerD I) : ∃ I' v, L_tower P Dr I tI = some (1, I', Dr, P) ∧ vLaw v ∧ CS I' Dr P v D0 ∧ GV I' v ∧ VV I' (now v D0) 0 ∧ (∀ k, k < 3 → I' 38 k = 0) ∧ TX (I' 13) v ∧ I' 11 0 = nI 40 ∧ ∀ k j, k < 52 → k ≠ 13 → (k ≠ 11 ∨ j ≠ 0) → k ≠ 17 → k ≠ 38 → I' k j = I k j := by
  have hPD2 := hPD
  unfold isPD at hPD2
  obtain ⟨x, ex⟩ := cell_nI I tI hN (k := 0) (by omega)
  have ex : L_cell I tI 0 = some x := ex
  obtain ⟨r0, hr0, er0⟩ := low_nI x (n := 5) (by omega) (by omega)
  have er0 : L_low x 5 = some (nI r0) := er0
  obtain ⟨S, hS, eS⟩ := low_nI (x >>> ((3 : Int32) &&& 31)) (n := 5) (by omega) (by omega)
  have eS : L_low (x >>> ((3 : Int32) &&& 31)) 5 = some (nI S) := eS
  obtain ⟨l, hl, el⟩ := low_nI (x >>> ((6 : Int32) &&& 31)) (n := 10) (by omega) (by omega)
  have el : L_low (x >>> ((6 : Int32) &&& 31)) 10 = some (nI l) := el
  unfold L_tower
  rw [ex, bind_s, er0, bind_s, show (2 : Int32) + nI r0 = nI (2 + r0) from nI_sum 2 r0, show wrI I 62 19 (0 : Int32) (nI (2 + r0)) = some (wr I 62 0 (nI (2 + r0))) from wrI_nI (n := 0) (by omega) (by omega), bind_s, eS, bind_s, show wrI (wr I 62 0 (nI (2 + r0))) 62 19 (1 : Int32) (nI S) = some (wr (wr I 62 0 (nI (2 + r0))) 62 1 (nI S)) from wrI_nI (n := 1) (by omega) (by omega), bind_s, el, bind_s, show wrI (wr (wr I 62 0 (nI (2 + r0))) 62 1 (nI S)) 62 19 (2 : Int32) (nI l) = some (wr (wr (wr I 62 0 (nI (2 + r0))) 62 1 (nI S)) 62 2 (nI l)) from wrI_nI (n := 2) (by omega) (by omega), bind_s]
  generalize h7 : wr (wr (wr I 62 0 (nI (2 + r0))) 62 1 (nI S)) 62 2 (nI l) = I7
  have g0 : I7 62 0 = nI (2 + r0) := by rw [← h7, wr_off _ _ (by omega), wr_off _ _ (by omega), wr_eq]
  have g1 : I7 62 1 = nI S := by rw [← h7, wr_off _ _ (by omega), wr_eq]
  have g2 : I7 62 2 = nI l := by rw [← h7, wr_eq]
  have g7 : ∀ k j, k ≠ 62 → I7 k j = I k j := fun k j hk => by rw [← h7, wr_off _ _ (by omega), wr_off _ _ (by omega), wr_off _ _ (by omega)]
  generalize hK : (fun (I11 : xMem) => (X4_text I11 (0 : Int32) (40 : Int32)).bind fun q14 => _) = K
  obtain ⟨Z, ⟨z1, z2⟩, he⟩ := loop_I (fun fuel k (Z : xMem) => L_tower_L1 K fuel (nI k) Z) K 4 (fun k Z => (∀ q, q < k → Z 63 q = 0) ∧ ∀ a q, a ≠ 63 → Z a q = I7 a q)
    (fun fuel k Z hk hI => by
      refine ⟨wr Z 63 k 0, ?_, fun q hq => ?_, fun a q ha => ?_⟩
      · show L_tower_L1 K (fuel + 1) (nI k) Z = _
        rw [L_tower_L1]
        rw [if_neg (by rw [i_4, nI_le_iff (by omega) (by omega)]; omega), wrI_nI hk (by omega), bind_s, i_1, nI_sum]
      · by_cases e : q = k
        · subst e
          exact wr_eq _ _ _ _
        · rw [wr_off _ _ (by omega)]
          exact hI.1 q (by omega)
      · rw [wr_off _ _ (by omega)]
        exact hI.2 a q ha)
    (fun fuel Z hI => by
      show L_tower_L1 K (fuel + 1) (nI 4) Z = _
      rw [L_tower_L1]
      rw [if_pos (by decide)])
    4 bigF 0 I7 (by omega) (bigF_gt (by omega)) ⟨fun q hq => absurd hq (by omega), fun a q _ => rfl⟩
  have he : L_tower_L1 K bigF 0 I7 = K Z := he
  rw [he, ← hK]
  dsimp only
  have zk : ∀ k j, k ≠ 62 → k ≠ 63 → Z k j = I k j := fun k j q1 q2 => by rw [z2 k j q2]; exact g7 k j q1
  have hkZ : rowK Z := hk.cg fun k j _ => zk k j (by omega) (by omega)
  obtain ⟨I2, a1, a2, a3, a4⟩ := cs_text hkZ (t := 0) (n := 40) (by omega) (by omega)
  have a1 : X4_text Z 0 40 = some (40, I2) := a1
  have hk2 : rowK I2 := hkZ.cg fun k j _ => a4 k j (by omega) (by omega)
  have a3 : ∀ j, j < 60 → I2 13 j = 32 := a3
  have p1 := put32 (i := 0) (c := 120) hk2 a2 (by omega) (a3 0 (by omega)) (by omega)
  have p1 : X4_put I2 0 0 120 = some (1032, wr I2 13 0 120) := p1
  have hk3 : rowK (wr I2 13 0 120) := hk2.cg fun k j _ => wr_off _ _ (by omega)
  have p2 := put32 (i := 1) (c := 48 + l) hk3 (by rw [wr_off _ _ (by omega)]; exact a2) (by omega) (by rw [wr_off _ _ (by omega)]; exact a3 1 (by omega)) (by omega)
  have p2 : X4_put (wr I2 13 0 120) 0 1 (nI (48 + l)) = some (1032, wr (wr I2 13 0 120) 13 1 (nI (48 + l))) := p2
  have r2 : rdI (wr I2 13 0 120) 62 19 (2 : Int32) = some (nI l) := by
    refine (rdI_nI (k := 62) (N := 19) (n := 2) (by omega) (by omega)).trans ?_
    rw [wr_off _ _ (by omega), a4 _ _ (by omega) (by omega), z2 _ _ (by omega), g2]
  rw [a1, bind_s, if_pos rfl, p1, bind_s, if_pos rfl]
  dsimp only
  rw [r2, bind_s, show (48 : Int32) + nI l = nI (48 + l) from nI_sum 48 l, p2, bind_s, if_pos rfl, bind_s]
  dsimp only
  generalize h20 : wr (wr I2 13 0 120) 13 1 (nI (48 + l)) = I20
  have k20 : ∀ k j, k ≠ 13 → I20 k j = I2 k j := fun k j hk => by rw [← h20, wr_off _ _ (by omega), wr_off _ _ (by omega)]
  have c20 : ∀ j, 2 ≤ j → j < 60 → I20 13 j = 32 := fun j h1 h2 => by rw [← h20, wr_off _ _ (by omega), wr_off _ _ (by omega)]; exact a3 j h2
  have t0 : tSt I I20 (2 + r0) S l 0 0 (fun _ => 0) (fun _ => 0) (fun _ => 0) := by
    refine ⟨fun k j q1 q2 q3 q4 => ?_, ?_, ⟨?_, ?_, ?_⟩, ⟨?_, ?_, ?_⟩, fun q hq => absurd hq (by omega), fun q hq => absurd hq (by omega), fun p q1 q2 q3 => c20 p (by omega) (by omega), fun p q1 q2 => c20 p (by omega) (by omega), fun j hj => ?_, ⟨fun q => Nat.zero_le _, fun q hq => absurd hq (by omega)⟩, ⟨fun q => (show 0 < 6 by decide), fun q => Nat.zero_le _, fun q hq => absurd hq (by omega)⟩⟩
    · rw [k20 k j q1, a4 k j (by omega) (by omega)]
      exact zk k j q2 q3
    · rw [k20 _ _ (by omega)]; exact a2
    · rw [k20 _ _ (by omega), a4 _ _ (by omega) (by omega), z2 _ _ (by omega)]; exact g0
    · rw [k20 _ _ (by omega), a4 _ _ (by omega) (by omega), z2 _ _ (by omega)]; exact g1
    · rw [k20 _ _ (by omega), a4 _ _ (by omega) (by omega), z2 _ _ (by omega)]; exact g2
    · rw [← h20, wr_off _ _ (by omega), wr_eq]
    · rw [← h20, wr_eq]
    · exact c20 2 (by omega) (by omega)
    · rw [k20 _ _ (by omega), a4 _ _ (by omega) (by omega)]; exact z1 j hj
  obtain ⟨I3, sp, s1, s2⟩ := lt_stones hN hk (show S ≤ 4 by omega) (fun (z5_24 : Int32) (I25 : xMem) => L_tower_L3 tI x (fun (z5_39 : Int32) (I40 : xMem) => if z5_39 = (0 : Int32) then (some ((nz (0 : Int32)), I40, P, Dr)) else ((X4_fault Dr I40 (0 : Int32)).bind fun q62 => if q62.1 = (-9 : Int32) then ((X4_tower P Dr q62.2 (0 : Int32)).bind fun q64 => (rdI q64.2.1 62 19 (0 : Int32)).bind fun v65 => if q64.1 = v65 then (some ((nz (1 : Int32)), q64.2.1, q64.2.2.1, q64.2.2.2)) else (some ((nz (0 : Int32)), q64.2.1, q64.2.2.1, q64.2.2.2))) else (some ((nz (0 : Int32)), q62.2, P, Dr)))) bigF z5_24 (0 : Int32) I25) S bigF 0 I20 _ (by omega) (bigF_gt (by omega)) t0
  have s1 : L_tower_L2 tI _ bigF 1 0 I20 = _ := s1
  rw [s1]
  obtain ⟨I4, kk, ww, o1, o2⟩ := lt_ones hN hk (show S ≤ 4 by omega) (show 2 + r0 ≤ 6 by omega) x (fun (z5_39 : Int32) (I40 : xMem) => if z5_39 = (0 : Int32) then (some ((nz (0 : Int32)), I40, P, Dr)) else ((X4_fault Dr I40 (0 : Int32)).bind fun q62 => if q62.1 = (-9 : Int32) then ((X4_tower P Dr q62.2 (0 : Int32)).bind fun q64 => (rdI q64.2.1 62 19 (0 : Int32)).bind fun v65 => if q64.1 = v65 then (some ((nz (1 : Int32)), q64.2.1, q64.2.2.1, q64.2.2.2)) else (some ((nz (0 : Int32)), q64.2.1, q64.2.2.1, q64.2.2.2))) else (some ((nz (0 : Int32)), q62.2, P, Dr)))) (2 + r0) bigF 0 I3 _ _ (by omega) (bigF_gt (by omega)) s2
  have o1 : L_tower_L3 tI x _ bigF 1 0 I3 = _ := o1
  rw [o1, if_neg (by decide)]
  obtain ⟨b1, b2, ⟨b3, b4, b5⟩, ⟨b6, b7, b8⟩, b9, b10, b11, b12, b13, ⟨b14, b15⟩, ⟨b16, b17, b18⟩⟩ := o2
  -- the tower's numbers
  have hv : vLaw (2 + r0, S, l, kk, ww, sp, 0, 0, 0) := ⟨⟨show 2 + r0 ≤ 6 by omega, show S ≤ 4 by omega, show l ≤ 9 by omega, b16, b17, b14, show 2 ≤ 2 + r0 by omega⟩, b15, b18⟩
  have hT : TX (I4 13) (2 + r0, S, l, kk, ww, sp, 0, 0, 0) := ⟨⟨b6, b7, b8⟩, fun k hk => ⟨(b9 k hk).2.1, (b9 k hk).2.2⟩, fun p q1 q2 => b11 p q1 (by omega) q2, fun i hi => (b10 i hi).2, fun p q1 q2 => b12 p q1 (by omega)⟩
  have hk4 : rowK I4 := hk.fr b1
  obtain ⟨B, f1, f2⟩ := cs_fault hPD hk4 b2 hv hT
  have e13 : B 13 = I4 13 := funext fun j => f2 13 j (by omega)
  have hkB : rowK B := hk4.cg fun k j _ => f2 k j (by omega)
  have hzB : zerD B := by
    obtain ⟨q1, q2, q3, q4⟩ := hz
    refine ⟨?_, ?_, ?_, ?_⟩
    · rw [f2 _ _ (by omega), b1 _ _ (by omega) (by omega) (by omega) (by omega)]; exact q1
    · rw [f2 _ _ (by omega), b1 _ _ (by omega) (by omega) (by omega) (by omega)]; exact q2
    · rw [f2 _ _ (by omega), b1 _ _ (by omega) (by omega) (by omega) (by omega)]; exact q3
    · rw [f2 _ _ (by omega), b1 _ _ (by omega) (by omega) (by omega) (by omega)]; exact q4
  obtain ⟨I5, t1, t2, t3, t4⟩ := cs_tower hPD hkB (by rw [f2 _ _ (by omega)]; exact b2) hv (by rw [e13]; exact hT) hzB
  have o5 : ∀ k j, (k < Dr ∨ Dr + 4 < k) → (k ≠ 17 ∨ j ≠ 0) → k ≠ 38 → I5 k j = I4 k j := fun k j q1 q2 q3 => by rw [t4 k j q1 q2 q3]; exact f2 k j q1
  have rn : rdI I5 62 19 (0 : Int32) = some (nI (2 + r0)) := by
    refine (rdI_nI (k := 62) (N := 19) (n := 0) (by omega) (by omega)).trans ?_
    rw [o5 _ _ (by omega) (by omega) (by omega), b3]
  refine ⟨I5, (2 + r0, S, l, kk, ww, sp, 0, 0, 0), ?_, hv, t2, ⟨⟨?_, ?_, ?_⟩, fun k hk => ?_, fun i hi => ?_⟩, ⟨?_, ?_, ?_, ?_⟩, t3, ?_, ?_, fun k j q1 q2 q3 q4 q5 => ?_⟩
  · rw [f1, bind_s, if_pos rfl, t1, bind_s]
    dsimp only
    rw [rn, bind_s, if_pos (show nI (tn (2 + r0, S, l, kk, ww, sp, 0, 0, 0)) = nI (2 + r0) from rfl)]
    rfl
  · rw [o5 _ _ (by omega) (by omega) (by omega)]; exact b3
  · rw [o5 _ _ (by omega) (by omega) (by omega)]; exact b4
  · rw [o5 _ _ (by omega) (by omega) (by omega)]; exact b5
  · rw [o5 _ _ (by omega) (by omega) (by omega)]; exact (b9 k hk).1
  · rw [o5 _ _ (by omega) (by omega) (by omega), o5 _ _ (by omega) (by omega) (by omega)]; exact (b10 i hi).1
  · rw [o5 _ _ (by omega) (by omega) (by omega)]; exact b13 0 (by omega)
  · rw [o5 _ _ (by omega) (by omega) (by omega)]; exact b13 1 (by omega)
  · rw [o5 _ _ (by omega) (by omega) (by omega)]; exact b13 2 (by omega)
  · rw [o5 _ _ (by omega) (by omega) (by omega)]; exact b13 3 (by omega)
  · have e : I5 13 = I4 13 := funext fun j => o5 13 j (by omega) (by omega) (by omega)
    rw [e]
    exact hT
  · rw [o5 _ _ (by omega) (by omega) (by omega)]; exact b2
  · rw [o5 _ _ (by omega) (by omega) q5]
    exact b1 k j q2 (by omega) (by omega) q3
end LT2
