/-! SOME DEEDS BY A CELL -/
def sAg (I I' : xMem) : Prop := ∀ k j, (1 ≤ k ∧ k < 17) ∨ (22 ≤ k ∧ k < 39) ∨ (52 ≤ k ∧ k ≠ 63) → I' k j = I k j
theorem sAg.rf (I : xMem) : sAg I I := fun _ _ _ => rfl
theorem sAg.tr {A B C : xMem} (h : sAg A B) (g : sAg B C) : sAg A C := fun k j q => (g k j q).trans (h k j q)
theorem hAg.s {A B : xMem} (h : hAg A B) : sAg A B := fun k j q => h k j (by omega)
theorem CS.v63 {I I' : xMem} {P Dr : Nat} {v : TV} {D : DD} (h : CS I P Dr v D) (g : ∀ k j, k ≠ 63 → I' k j = I k j) : CS I' P Dr v D := by
  have hp := h.pd
  exact ⟨h.1, h.2.1, h.2.2.1.cg fun k j _ _ => g k j (by omega), h.2.2.2.1, h.2.2.2.2.cg fun k j _ _ => g k j (by omega)⟩
/-- class and law agree -/
def LSt (I : xMem) (P Dr : Nat) (v : TV) (D : DD) : Prop := CS I P Dr v D ∧ GV I v ∧ VV I (now v D) (dS D (dd D))
theorem GV.to {I : xMem} {v : TV} (D : DD) (h : GV I v) : GV I (now v D) := h
section STIR
variable {I : xMem} {P Dr : Nat} {v : TV} {D : DD}
def stirG (P : Nat) (i j : Int32) (I3 : xMem) (F : Int32 → xMem → Option (Int32 × xMem)) : Option (Int32 × xMem) := (L_can I3 i j).bind fun v13 => if v13 = (0 : Int32) then (F (1 : Int32) I3) else ((L_there I3 i).bind fun v15 => (L_least I3 i j v15).bind fun v16 => (L_go I3 i j ((v16 >>> ((4 : Int32) &&& 31)) &&& (15 : Int32)) (v16 &&& (15 : Int32))).bind fun q17 => if (1 : Int32) = (0 : Int32) then (F (0 : Int32) q17.2) else ((X4_go P q17.2 i j ((v16 >>> ((4 : Int32) &&& 31)) &&& (15 : Int32)) (v16 &&& (15 : Int32))).bind fun q19 => if q19.1 = q17.1 then (F (1 : Int32) q19.2) else (F (0 : Int32) q19.2)))
theorem stirG_eq (h : LSt I P Dr v D) (hd : dd D < 40) {i j : Nat} (hi : i < tn v) (hj : j < tn v) (hij : i ≠ j) (F : Int32 → xMem → Option (Int32 × xMem)) : ∃ I' D', stirG P (nI i) (nI j) I F = F 1 I' ∧ LSt I' P Dr v D' ∧ sAg I I' ∧ dd D ≤ dd D' ∧ dd D' ≤ dd D + 1 := by
  obtain ⟨hC, hG, hV⟩ := h
  have hv := hC.vok
  have h6 := hC.n2
  have e1 : tn (now v D) = tn v := rfl
  have e2 : ts (now v D) = ts v := rfl
  have hst := stW_lt hv i
  have h16 := p2s hv
  rw [e2] at hst h16
  have htl := hv.2.2.1
  unfold stirG
  rw [l_can hv (hG.to D) hV hi hj hij, bind_s]
  by_cases c : canL (now v D) i j 0
  · have hb := (canL0 _ _ _).mp c
    obtain ⟨ok, sk⟩ := lstV_ok hv i j (stW (now v D) i)
    have hl := lstV_lt hv i j (stW (now v D) i)
    have hn := ok.2
    rw [nd_or, or0] at hn
    have na := nd0_le hn.1
    have nb := nd0_le hn.2
    have hb2 : lstV (now v D) i j (stW (now v D) i) / 256 ≤ tl v := hb.2
    rw [if_pos c, if_neg (by decide), l_there hv (hG.to D) hV hi, bind_s, l_least hv (hG.to D) hV hi hj (by omega), bind_s]
    generalize lstV (now v D) i j (stW (now v D) i) = q at *
    have ea : q / 2 ^ 4 &&& 15 = q % 256 / 16 := by
      have : q / 2 ^ 4 &&& 15 = q / 2 ^ 4 % 16 := Nat.and_two_pow_sub_one_eq_mod (n := 4) _
      rw [this]
      omega
    have eb : q &&& 15 = q % 256 % 16 := by
      have : q &&& 15 = q % 16 := Nat.and_two_pow_sub_one_eq_mod (n := 4) _
      rw [this]
      omega
    rw [i_4, i_15, nI_shr (by omega) (by omega), nI_and, nI_and, ea, eb]
    obtain ⟨I1, g1, g2, g3⟩ := l_go hv (hG.to D) hV hi hj hij (a := q % 256 / 16) (b := q % 256 % 16) (by omega) (by omega)
    have hC1 := hC.v63 g2
    rw [g1, bind_s, if_neg (by decide)]
    rcases cs_go hC1 hi hj hij (a := q % 256 / 16) (b := q % 256 % 16) (by omega) (by omega) ok.1 hd with ⟨w1, -⟩ | ⟨-, w1, -⟩ | ⟨-, -, I2, w1, w2, w3⟩
    · exact absurd ⟨hb.1, ok.2⟩ w1
    · omega
    · rw [w1, bind_s, if_pos rfl]
      refine ⟨I2, _, rfl, ⟨w3, hG.cg fun j => ?_, ?_⟩, ?_, Nat.le_succ _, Nat.le_refl _⟩
      · rw [w2 62 j (by omega), g2 62 j (by omega)]
      · have hV2 := g3.cg (I' := I2) fun j => w2 63 j (by omega)
        have en : now v (goP D (now v D) i j (q % 256 / 16) (q % 256 % 16)) = tAt v (te (now v D)) (goT (now v D) i j) (goU (now v D) (q % 256 / 16) (q % 256 % 16)) := dpush_now _ _ _ _ _ _
        have es : dS (goP D (now v D) i j (q % 256 / 16) (q % 256 % 16)) (dd (goP D (now v D) i j (q % 256 / 16) (q % 256 % 16))) = dS D (dd D) + skN (now v D) i j (q % 256 / 16) (q % 256 % 16) := by
          simp [goP, dpush, dS, dd]
        rw [en, es]
        exact hV2
      · exact (show sAg I I1 from fun k j hk => g2 k j (by omega)).tr w2.s
  · rw [if_neg c, if_pos rfl]
    exact ⟨I, D, rfl, ⟨hC, hG, hV⟩, sAg.rf I, Nat.le_refl _, Nat.le_succ _⟩
theorem l_stir (h : LSt I P Dr v D) (hd : dd D + 3 ≤ 40) (x : Int32) : ∃ I' D', L_stir P I x 3 = some (1, I') ∧ LSt I' P Dr v D' ∧ sAg I I' ∧ dd D ≤ dd D' ∧ dd D' ≤ dd D + 3 := by
  unfold L_stir
  obtain ⟨⟨I', D'⟩, hI, he⟩ := loop_I (fun fuel k (z : xMem × DD) => L_stir_L1 P x 3 (fun (z5_3 : Int32) (I4 : xMem) => some ((nz z5_3), I4)) fuel 1 (nI k) z.1) (fun z => some (1, z.1)) 3 (fun k z => LSt z.1 P Dr v z.2 ∧ sAg I z.1 ∧ dd D ≤ dd z.2 ∧ dd z.2 ≤ dd D + k)
    (fun fuel k z hk hI => by
      obtain ⟨A, B⟩ := z
      obtain ⟨hL, hs, d1, d2⟩ := hI
      have d1 : dd D ≤ dd B := d1
      have d2 : dd B ≤ dd D + k := d2
      have hL : LSt A P Dr v B := hL
      have hs : sAg I A := hs
      obtain ⟨hC, hG, hV⟩ := id hL
      have hv := hC.vok
      have h6 := hC.n2
      have e1 : tn (now v B) = tn v := rfl
      show ∃ s' : xMem × DD, L_stir_L1 P x 3 (fun (z5_3 : Int32) (I4 : xMem) => some ((nz z5_3), I4)) (fuel + 1) 1 (nI k) A = L_stir_L1 P x 3 (fun (z5_3 : Int32) (I4 : xMem) => some ((nz z5_3), I4)) fuel 1 (nI (k + 1)) s'.1 ∧ _
      rw [L_stir_L1]
      rw [if_neg (by rw [i_3, nI_le_iff (by omega) (by omega)]; omega), show rdI A 62 19 (0 : Int32) = some (nI (tn v)) from (rdI_nI (I := A) (k := 62) (N := 19) (n := 0) (by omega) (by omega)).trans (congrArg some hG.1.1), bind_s]
      generalize ((x >>> (((3 : Int32) * nI k) &&& 31)) + ((7 : Int32) * nI k)) = y
      obtain ⟨i, hi, ei⟩ := low_nI (y >>> ((2 : Int32) &&& 31)) (n := tn v) (by omega) (by omega)
      obtain ⟨r, hr, er⟩ := low_nI (y >>> ((5 : Int32) &&& 31)) (n := tn v - 1) (by omega) (by omega)
      have hj : (i + 1 + r) % tn v < tn v := Nat.mod_lt _ (by omega)
      have hij : i ≠ (i + 1 + r) % tn v := by
        rcases Nat.lt_or_ge (i + 1 + r) (tn v) with q | q
        · rw [Nat.mod_eq_of_lt q]; omega
        · rw [Nat.mod_eq_sub_mod q, Nat.mod_eq_of_lt (by omega)]; omega
      have ejm : rmI ((nI i + (1 : Int32)) + nI r) (nI (tn v)) = some (nI ((i + 1 + r) % tn v)) := by
        unfold rmI
        rw [if_neg (by rw [i_0, nI_eq_iff (by omega) (by omega)]; omega), i_1, nI_sum, nI_sum, nI_rem (by omega) (by omega) (by omega)]
      rw [ei, bind_s, bind_s, i_1, pk_sub (by omega), er, bind_s, bind_s, ← i_1, ejm, bind_s]
      generalize (i + 1 + r) % tn v = j at *
      have goes : ∃ s' : xMem × DD, stirG P (nI i) (nI j) A (fun z I4 => L_stir_L1 P x 3 (fun (z5_3 : Int32) (I4 : xMem) => some ((nz z5_3), I4)) fuel z (nI k + 1) I4) = L_stir_L1 P x 3 (fun (z5_3 : Int32) (I4 : xMem) => some ((nz z5_3), I4)) fuel 1 (nI (k + 1)) s'.1 ∧ LSt s'.1 P Dr v s'.2 ∧ sAg I s'.1 ∧ dd D ≤ dd s'.2 ∧ dd s'.2 ≤ dd D + (k + 1) := by
        obtain ⟨I2, D2, g1, g2, g3, g4, g5⟩ := stirG_eq hL (by omega) hi hj hij (fun z I4 => L_stir_L1 P x 3 (fun (z5_3 : Int32) (I4 : xMem) => some ((nz z5_3), I4)) fuel z (nI k + 1) I4)
        refine ⟨(I2, D2), ?_, g2, hs.tr g3, by show dd D ≤ dd D2; omega, by show dd D2 ≤ dd D + (k + 1); omega⟩
        rw [g1, i_1, nI_sum]
      by_cases c : y &&& (3 : Int32) = 0
      · rw [if_pos c, show rdI A 63 4 (0 : Int32) = some (nI (te (now v B))) from (rdI_nI (I := A) (k := 63) (N := 4) (n := 0) (by omega) (by omega)).trans (congrArg some hV.1), bind_s]
        have he9 := hv.2.2.2.2.2.2.1
        by_cases c9 : 9 ≤ te (now v B)
        · rw [if_pos (by rw [i_9, nI_le_iff (by omega) (by omega)]; exact c9)]
          exact goes
        · rw [if_neg (by rw [i_9, nI_le_iff (by omega) (by omega)]; exact c9), bind_s, i_1, nI_sum, show wrI A 63 4 (0 : Int32) (nI (te (now v B) + 1)) = some (wr A 63 0 (nI (te (now v B) + 1))) from wrI_nI (I := A) (k := 63) (N := 4) (n := 0) (by omega) (by omega), bind_s, if_neg (show ¬ nI 1 = (0 : Int32) by decide)]
          have hC1 := hC.v63 (I' := wr A 63 0 (nI (te (now v B) + 1))) fun k j hk => wr_off _ _ (by omega)
          obtain ⟨I2, l1, l2, l3⟩ := cs_loaf hC1 (by omega) (by omega)
          have r63 : ∀ q, I2 63 q = wr A 63 0 (nI (te (now v B) + 1)) 63 q := fun q => l2 63 q (by omega)
          rw [l1, bind_s, show rdI I2 63 4 (0 : Int32) = some (I2 63 0) from rdI_nI (I := I2) (k := 63) (N := 4) (n := 0) (by omega) (by omega), bind_s, r63, wr_eq, if_pos rfl, bind_s, nI_sum]
          have en : now v (dpush B (tt (now v B)) (tu (now v B)) (te (now v B) + 1) (dS B (dd B))) = tAt v (te (now v B) + 1) (tt (now v B)) (tu (now v B)) := dpush_now _ _ _ _ _ _
          have es : dS (dpush B (tt (now v B)) (tu (now v B)) (te (now v B) + 1) (dS B (dd B))) (dd (dpush B (tt (now v B)) (tu (now v B)) (te (now v B) + 1) (dS B (dd B)))) = dS B (dd B) := by
            simp [dpush, dS, dd]
          have hL2 : LSt I2 P Dr v (dpush B (tt (now v B)) (tu (now v B)) (te (now v B) + 1) (dS B (dd B))) := by
            refine ⟨l3, hG.cg fun j => ?_, ?_⟩
            · rw [l2 62 j (by omega), wr_off _ _ (by omega)]
            · rw [en, es]
              refine ⟨?_, ?_, ?_, ?_⟩
              · rw [r63, wr_eq]
                rfl
              · rw [r63, wr_off _ _ (by omega)]
                exact hV.2.1
              · rw [r63, wr_off _ _ (by omega)]
                exact hV.2.2.1
              · rw [r63, wr_off _ _ (by omega)]
                exact hV.2.2.2
          exact ⟨(I2, _), rfl, hL2, hs.tr ((show sAg A (wr A 63 0 (nI (te (now v B) + 1))) from fun k j hk => wr_off _ _ (by omega)).tr l2.s), (show dd D ≤ dd B + 1 by omega), (show dd B + 1 ≤ dd D + (k + 1) by omega)⟩
      · rw [if_neg c]
        exact goes)
    (fun fuel z hI => by
      show L_stir_L1 P x 3 (fun (z5_3 : Int32) (I4 : xMem) => some ((nz z5_3), I4)) (fuel + 1) 1 (nI 3) z.1 = some (1, z.1)
      rw [L_stir_L1]
      rw [if_pos (by decide), nz_1])
    3 bigF 0 (I, D) (by omega) (bigF_gt (by omega)) ⟨h, sAg.rf I, Nat.le_refl _, Nat.le_refl _⟩
  exact ⟨I', D', he, hI⟩
end STIR
