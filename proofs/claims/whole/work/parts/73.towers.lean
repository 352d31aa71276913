/-! FAULT, TOWER -/
section OPT
variable {I J : xMem} {L M : xLon} {P Dr : Nat}
/-- the answer with the plan and the draft -/
def BtT (L : xLon) (M : xLon) (a : Option (Int32 × xMem × Nat × Nat)) (b : Option (Int32 × xMem)) : Prop := ∃ r I' P' Dr' J', a = some (r, I', P', Dr') ∧ b = some (r, J') ∧ Sim I' L P' Dr' J' M
theorem Sim.dr (h : Sim I L P Dr J M) {I' J' : xMem} (hI : dAg Dr I I') (hJ : mAg J J') : Sim I' L P Dr J' M := by
  have hp := h.1
  unfold isPD at hp
  exact h.congr (fun k j q => hI k j (by omega)) (fun k j q1 q2 => hJ.of (by omega))
theorem text_of (h : Sim I L P Dr J M) {t sz : Nat} (ht : t < 4) (hs : sz ≤ 60) (he : I 11 t = nI sz) : PR Dr I J (X1_read Dr I (12 + 1 + t) 60 (nI sz)) (X5_faultOf J (nI t)) := by
  have hp := h.1
  unfold isPD at hp
  obtain ⟨q1, q2, q3⟩ := h.2.1.2.2 t ht
  refine text_both (ch := fun i => I (13 + t) i) ht hs (by omega) (fun i hi => by rw [show 12 + 1 + t = 13 + t by omega]) (fun i hi => q3 i hi) (q2.trans he)
theorem op_fault (h : Sim I L P Dr J M) (x1 : Int32) : Bt L P Dr M (X4_fault Dr I x1) (X5_fault J x1) := by
  have hr := h.2.1
  obtain ⟨⟨-, -, -, s1, s2, s3⟩, -, sT⟩ := hr
  unfold X4_fault X5_fault
  rw [refRow_eq (y := 10) (N := 4) s1 rfl (by omega), isText_spec]
  by_cases hx : ix x1 4
  · rw [if_pos hx, if_pos hx, if10]
    obtain ⟨t, ht, rfl⟩ := ix_of hx (by omega)
    obtain ⟨q1, q2, q3⟩ := sT t ht
    rw [nI_clamp (by omega), rdI_nI ht (by omega), bind_s, q2]
    rcases q1 with e | ⟨s, e1, e2⟩
    · rw [if_pos (show I (10 + 1) t = -1 from e), bind_s]
      dsimp only
      rw [ifm3, e, if_neg (show ¬ (0 : Int32) ≤ -1 by decide), i_1, find_eq J (by omega), bind_s]
      exact Bt.mk rfl rfl rfl (h.find (by omega) (by omega))
    · rw [if_neg (show ¬ I (10 + 1) t = -1 by
        rw [show I (10 + 1) t = nI s from e2]
        exact nI_ne_m1 (by omega)), bind_s]
      dsimp only
      rw [if00, rdX_nI ht (by omega), bind_s, show cLen 11 = 4 from rfl, rdI_nI ht (by omega), bind_s, e2, if_pos (show (0 : Int32) ≤ nI s by rw [i_0, nI_le_iff (by omega) (by omega)]; omega)]
      obtain ⟨A', J', a1, a2, w⟩ := text_of h ht e1 e2
      rcases w with ⟨p, p1, p2, p3⟩ | ⟨v, v1, v2, v3, v4, v5⟩
      · rw [p2, p3, bind_s, bind_s]
        exact Bt.mk rfl rfl rfl (h.dr a1 a2)
      · rw [v4, v5, bind_s, bind_s]
        exact Bt.mk rfl rfl rfl (h.dr a1 a2)
  · rw [if_neg hx, bind_s, if_neg hx, if00]
    dsimp only
    rw [ifm1]
    exact Bt.mk rfl rfl rfl h
/-- the model's tower anew -/
theorem newM {J0 : xMem} {v : TV} (hv : vNum v) (hr : rdM J0 v) (r : Option (Int32 × xMem)) (hr2 : r = (X5_tower_L1 (fun (I9 : xMem) => (some (wr I9 0 1 (I9 0 19))).bind fun I12 => (some (wr I12 0 2 (I12 0 21))).bind fun I13 => (some (wr I13 0 4 (I13 0 23))).bind fun I14 => X5_tower_L2 (fun (I18 : xMem) => X5_tower_L3 (fun (I25 : xMem) => X5_tower_L4 (fun (I34 : xMem) => some ((I34 0 4), I34)) bigF (1 : Int32) I25) bigF (0 : Int32) I18) bigF (0 : Int32) I14) bigF (0 : Int32) J0)) : ∃ J', r = some (nI (tn v), J') ∧ (J' 0 1 = nI (tl v) ∧ J' 0 2 = nI (ts v) ∧ J' 0 4 = nI (tn v)) ∧ (∀ i, i < tn v → J' 3 i = nI (tk v i) ∧ J' 4 i = nI (tw v i)) ∧ (∀ s, s < ts v → J' 2 s = nI (tp v s)) ∧ (∀ j, j < 165 → J' 1 j = nI 0) ∧ (∀ k, k < 3 → J' 1 (165 + 165 * k) = -1) ∧ ∀ k j, (5 ≤ k ∨ (k = 0 ∧ j ≠ 1 ∧ j ≠ 2 ∧ j ≠ 4)) → J' k j = J0 k j := by
  obtain ⟨n1, n2, n3, n4, n5, n6, n7⟩ := hv
  obtain ⟨m1, m2, m3, m4, m5⟩ := hr
  obtain ⟨A, ⟨a1, a2⟩, ha⟩ := loop_I (fun fuel k (A : xMem) => X5_tower_L1 (fun (I9 : xMem) => (some (wr I9 0 1 (I9 0 19))).bind fun I12 => (some (wr I12 0 2 (I12 0 21))).bind fun I13 => (some (wr I13 0 4 (I13 0 23))).bind fun I14 => X5_tower_L2 (fun (I18 : xMem) => X5_tower_L3 (fun (I25 : xMem) => X5_tower_L4 (fun (I34 : xMem) => some ((I34 0 4), I34)) bigF (1 : Int32) I25) bigF (0 : Int32) I18) bigF (0 : Int32) I14) fuel (nI k) A) (fun (I9 : xMem) => (some (wr I9 0 1 (I9 0 19))).bind fun I12 => (some (wr I12 0 2 (I12 0 21))).bind fun I13 => (some (wr I13 0 4 (I13 0 23))).bind fun I14 => X5_tower_L2 (fun (I18 : xMem) => X5_tower_L3 (fun (I25 : xMem) => X5_tower_L4 (fun (I34 : xMem) => some ((I34 0 4), I34)) bigF (1 : Int32) I25) bigF (0 : Int32) I18) bigF (0 : Int32) I14) 165 (fun k A => (∀ x j, x ≠ 1 → A x j = J0 x j) ∧ ∀ j, j < k → A 1 j = nI 0)
    (fun fuel k A hk hI => by
      refine ⟨wr A 1 k 0, ?_, fun x j q => by rw [wr_off _ _ (by omega)]; exact hI.1 x j q, fun j q => ?_⟩
      · show X5_tower_L1 _ (fuel + 1) (nI k) A = _
        rw [X5_tower_L1]
        rw [if_neg (by rw [i_165, nI_le_iff (by omega) (by omega)]; omega), wrI_nI (by omega) (by omega), bind_s, i_1, nI_sum]
      · by_cases e : j = k
        · subst e
          exact wr_eq _ _ _ _
        · rw [wr_off _ _ (by omega)]; exact hI.2 j (by omega))
    (fun fuel A hI => by
      show X5_tower_L1 _ (fuel + 1) (nI 165) A = _
      rw [X5_tower_L1]
      rw [if_pos (by rw [i_165]; exact Int32.le_refl _)])
    165 bigF 0 J0 (by omega) (bigF_gt (by omega)) ⟨fun _ _ _ => rfl, fun j q => absurd q (by omega)⟩
  -- the numbers
  have b0 : A 0 19 = nI (tl v) := (a1 _ _ (by omega)).trans m1
  have b1 : A 0 21 = nI (ts v) := (a1 _ _ (by omega)).trans m2
  have b2 : A 0 23 = nI (tn v) := (a1 _ _ (by omega)).trans m3
  have e1 : wr A 0 1 (A 0 19) 0 21 = nI (ts v) := (wr_off _ _ (by omega)).trans b1
  have e2 : wr (wr A 0 1 (A 0 19)) 0 2 (nI (ts v)) 0 23 = nI (tn v) := (wr_off _ _ (by omega)).trans ((wr_off _ _ (by omega)).trans b2)
  have hB : ∃ B, (B = wr (wr (wr A 0 1 (nI (tl v))) 0 2 (nI (ts v))) 0 4 (nI (tn v))) := ⟨_, rfl⟩
  obtain ⟨B, hB⟩ := hB
  have B1 : B 0 1 = nI (tl v) := by rw [hB, wr_off _ _ (by omega), wr_off _ _ (by omega), wr_eq]
  have B2 : B 0 2 = nI (ts v) := by rw [hB, wr_off _ _ (by omega), wr_eq]
  have B4 : B 0 4 = nI (tn v) := by rw [hB, wr_eq]
  have Bo : ∀ k j, (k ≠ 0 ∨ (j ≠ 1 ∧ j ≠ 2 ∧ j ≠ 4)) → B k j = A k j := fun k j q => by
    rw [hB, wr_off _ _ (by omega), wr_off _ _ (by omega), wr_off _ _ (by omega)]
  obtain ⟨C, ⟨c1, c2⟩, hc⟩ := loop_I (fun fuel k (C : xMem) => X5_tower_L2 (fun (I18 : xMem) => X5_tower_L3 (fun (I25 : xMem) => X5_tower_L4 (fun (I34 : xMem) => some ((I34 0 4), I34)) bigF (1 : Int32) I25) bigF (0 : Int32) I18) fuel (nI k) C) (fun (I18 : xMem) => X5_tower_L3 (fun (I25 : xMem) => X5_tower_L4 (fun (I34 : xMem) => some ((I34 0 4), I34)) bigF (1 : Int32) I25) bigF (0 : Int32) I18) (ts v) (fun k C => (∀ x j, x ≠ 2 → C x j = B x j) ∧ ∀ j, j < k → C 2 j = nI (tp v j))
    (fun fuel k C hk hI => by
      refine ⟨wr C 2 k (nI (tp v k)), ?_, fun x j q => by rw [wr_off _ _ (by omega)]; exact hI.1 x j q, fun j q => ?_⟩
      · show X5_tower_L2 _ (fuel + 1) (nI k) C = _
        rw [X5_tower_L2]
        rw [hI.1 0 2 (by omega), B2, if_neg (by rw [nI_le_iff (by omega) (by omega)]; omega), rdI_nI (by omega) (by omega), bind_s, hI.1 10 k (by omega), Bo 10 k (by omega), a1 10 k (by omega), m4 k hk, wrI_nI (by omega) (by omega), bind_s, i_1, nI_sum]
      · by_cases e : j = k
        · subst e
          exact wr_eq _ _ _ _
        · rw [wr_off _ _ (by omega)]; exact hI.2 j (by omega))
    (fun fuel C hI => by
      show X5_tower_L2 _ (fuel + 1) (nI (ts v)) C = _
      rw [X5_tower_L2]
      rw [hI.1 0 2 (by omega), B2, if_pos (Int32.le_refl _)])
    (ts v) bigF 0 B (by omega) (bigF_gt (by omega)) ⟨fun _ _ _ => rfl, fun j q => absurd q (by omega)⟩
  obtain ⟨D, ⟨d1, d2⟩, hd⟩ := loop_I (fun fuel k (D : xMem) => X5_tower_L3 (fun (I25 : xMem) => X5_tower_L4 (fun (I34 : xMem) => some ((I34 0 4), I34)) bigF (1 : Int32) I25) fuel (nI k) D) (fun (I25 : xMem) => X5_tower_L4 (fun (I34 : xMem) => some ((I34 0 4), I34)) bigF (1 : Int32) I25) (tn v) (fun k D => (∀ x j, x ≠ 3 → x ≠ 4 → D x j = C x j) ∧ ∀ j, j < k → D 3 j = nI (tk v j) ∧ D 4 j = nI (tw v j))
    (fun fuel k D hk hI => by
      have r1 : D 11 (2 * k) = nI (tk v k) := by
        rw [hI.1 11 _ (by omega) (by omega), c1 11 _ (by omega), Bo 11 _ (by omega), a1 11 _ (by omega)]
        exact (m5 k hk).1
      have r2 : D 11 (2 * k + 1) = nI (tw v k) := by
        rw [hI.1 11 _ (by omega) (by omega), c1 11 _ (by omega), Bo 11 _ (by omega), a1 11 _ (by omega)]
        exact (m5 k hk).2
      refine ⟨wr (wr D 3 k (nI (tk v k))) 4 k (nI (tw v k)), ?_, fun x j q1 q2 => by rw [wr_off _ _ (by omega), wr_off _ _ (by omega)]; exact hI.1 x j q1 q2, fun j q => ?_⟩
      · show X5_tower_L3 _ (fuel + 1) (nI k) D = _
        rw [X5_tower_L3]
        rw [hI.1 0 4 (by omega) (by omega), c1 0 4 (by omega), B4, if_neg (by rw [nI_le_iff (by omega) (by omega)]; omega), i_2, nI_mul, rdI_nI (by omega) (by omega), bind_s, r1, wrI_nI (by omega) (by omega), bind_s, i_1, nI_sum, rdI_nI (by omega) (by omega), bind_s, wr_off (k := 3) D _ (show 11 ≠ 3 ∨ 2 * k + 1 ≠ k by omega), r2, wrI_nI (by omega) (by omega), bind_s, nI_sum]
      · by_cases e : j = k
        · subst e
          exact ⟨by rw [wr_off _ _ (by omega), wr_eq], wr_eq _ _ _ _⟩
        · rw [wr_off _ _ (by omega), wr_off _ _ (by omega), wr_off _ _ (by omega), wr_off _ _ (by omega)]; exact hI.2 j (by omega))
    (fun fuel D hI => by
      show X5_tower_L3 _ (fuel + 1) (nI (tn v)) D = _
      rw [X5_tower_L3]
      rw [hI.1 0 4 (by omega) (by omega), c1 0 4 (by omega), B4, if_pos (Int32.le_refl _)])
    (tn v) bigF 0 C (by omega) (bigF_gt (by omega)) ⟨fun _ _ _ _ => rfl, fun j q => absurd q (by omega)⟩
  obtain ⟨E, ⟨⟨g1, g2⟩, -⟩, he⟩ := loop_I (fun fuel k (E : xMem) => X5_tower_L4 (fun (I34 : xMem) => some ((I34 0 4), I34)) fuel (nI k) E) (fun (I34 : xMem) => some ((I34 0 4), I34)) 4 (fun k E => ((∀ x j, (x ≠ 1 ∨ j < 165) → E x j = D x j) ∧ ∀ j, 1 ≤ j → j < k → E 1 (165 * j) = -1) ∧ 1 ≤ k)
    (fun fuel k E hk hI => by
      refine ⟨wr E 1 (165 * k + 0) (-1), ?_, ⟨fun x j q => ?_, fun j q1 q2 => ?_⟩, by omega⟩
      · show X5_tower_L4 _ (fuel + 1) (nI k) E = _
        rw [X5_tower_L4]
        rw [if_neg (by rw [i_4, nI_le_iff (by omega) (by omega)]; omega), i_165, i_0, nI_mul, nI_sum, wrI_nI (by omega) (by omega), bind_s, i_1, nI_sum]
      · by_cases w : x = 1
        · have hk1 : 1 ≤ k := hI.2
          rw [wr_off _ _ (by omega)]; exact hI.1.1 x j q
        · rw [wr_off _ _ (by omega)]; exact hI.1.1 x j q
      · by_cases e : j = k
        · subst e
          exact wr_eq _ _ _ _
        · rw [wr_off _ _ (by omega)]; exact hI.1.2 j q1 (by omega))
    (fun fuel E hI => by
      show X5_tower_L4 _ (fuel + 1) (nI 4) E = _
      rw [X5_tower_L4]
      rw [if_pos (by rw [i_4]; exact Int32.le_refl _)])
    3 bigF 1 D (by omega) (bigF_gt (by omega)) ⟨⟨fun _ _ _ => rfl, fun j q1 q2 => absurd q2 (by omega)⟩, Nat.le_refl _⟩
  have all : ∀ k j, (k ≠ 1 ∧ k ≠ 2 ∧ k ≠ 3 ∧ k ≠ 4) → E k j = B k j := fun k j q => by
    rw [g1 _ _ (by omega), d1 _ _ (by omega) (by omega), c1 _ _ (by omega)]
  refine ⟨E, ?_, ⟨?_, ?_, ?_⟩, fun i hi => ?_, fun s hs => ?_, fun j hj => ?_, fun k hk => ?_, fun k j q => ?_⟩
  · rw [hr2]
    refine ha.trans ?_
    rw [bind_s, bind_s, bind_s, e1, e2, b0, ← hB]
    refine hc.trans (hd.trans (he.trans ?_))
    rw [all 0 4 (by omega), B4]
  · rw [all _ _ (by omega)]; exact B1
  · rw [all _ _ (by omega)]; exact B2
  · rw [all _ _ (by omega)]; exact B4
  · rw [g1 _ _ (by omega), g1 _ _ (by omega)]; exact d2 i hi
  · rw [g1 _ _ (by omega), d1 _ _ (by omega) (by omega)]; exact c2 s hs
  · rw [g1 _ _ (by omega), d1 _ _ (by omega) (by omega), c1 _ _ (by omega), Bo _ _ (by omega)]; exact a2 j hj
  · rw [show 165 + 165 * k = 165 * (k + 1) by omega]
    exact g2 (k + 1) (by omega) (by omega)
  · rw [all _ _ (by omega), Bo _ _ (by omega), a1 _ _ (by omega)]
theorem op_tower (h : Sim I L P Dr J M) (x1 : Int32) : BtT L M (X4_tower P Dr I x1) (X5_tower J x1) := by
  have hr := h.2.1
  have hPD := h.1
  obtain ⟨⟨-, -, -, s1, s2, s3⟩, -, sT⟩ := hr
  unfold X4_tower X5_tower
  rw [refRow_eq (y := 10) (N := 4) s1 rfl (by omega), isText_spec]
  by_cases hx : ix x1 4
  · rw [if_pos hx, if_pos hx, if10]
    obtain ⟨t, ht, rfl⟩ := ix_of hx (by omega)
    obtain ⟨q1, q2, q3⟩ := sT t ht
    rw [nI_clamp (by omega), rdI_nI ht (by omega), bind_s, q2]
    rcases q1 with e | ⟨s, e1, e2⟩
    · rw [if_pos (show I (10 + 1) t = -1 from e), bind_s]
      dsimp only
      rw [ifm3, e, if_neg (show ¬ (0 : Int32) ≤ -1 by decide), i_1, find_eq J (by omega), bind_s]
      exact ⟨_, _, _, _, _, rfl, rfl, h.find (by omega) (by omega)⟩
    · rw [if_neg (show ¬ I (10 + 1) t = -1 by
        rw [show I (10 + 1) t = nI s from e2]
        exact nI_ne_m1 (by omega)), bind_s]
      dsimp only
      rw [if00, rdX_nI ht (by omega), bind_s, show cLen 11 = 4 from rfl, rdI_nI ht (by omega), bind_s, e2, if_pos (show (0 : Int32) ≤ nI s by rw [i_0, nI_le_iff (by omega) (by omega)]; omega)]
      obtain ⟨A', J', a1, a2, w⟩ := text_of h ht e1 e2
      rcases w with ⟨p, p1, p2, p3⟩ | ⟨v, v1, v2, v3, v4, v5⟩
      · have h9 : nI p ≠ -9 := nI_m9 (by omega)
        rw [p2, p3]
        exact ⟨-4, A', P, Dr, J', by rw [bind_s]; exact if_neg h9, by rw [bind_s]; exact if_neg h9, h.dr a1 a2⟩
      · rw [v4, v5]
        have h2 := h.dr a1 a2
        obtain ⟨J2, m0, ⟨m1, m2, m3⟩, m4, m5, m6, m7, m8⟩ := newM v1 v3 _ rfl
        obtain ⟨n1, n2, n3, n4, n5, n6, n7⟩ := v1
        -- the class forgets what was kept
        obtain ⟨C, ⟨c1, c2⟩, hc⟩ := loop_I (fun fuel k (C : xMem) => X4_tower_L1 (fun (I11 : xMem) => some ((I11 Dr 2), I11, Dr, P)) fuel (nI k) C) (fun (I11 : xMem) => some ((I11 Dr 2), I11, Dr, P)) 3 (fun k C => (∀ x j, x ≠ 38 → C x j = (wr A' 17 0 0) x j) ∧ ∀ j, j < k → C 38 j = nI 0)
          (fun fuel k C hk hI => by
            refine ⟨wr C 38 k 0, ?_, fun x j q => by rw [wr_off _ _ (by omega)]; exact hI.1 x j q, fun j q => ?_⟩
            · show X4_tower_L1 _ (fuel + 1) (nI k) C = _
              rw [X4_tower_L1]
              rw [if_neg (by rw [i_3, nI_le_iff (by omega) (by omega)]; omega), nz_0, wrI_nI (by omega) (by omega), bind_s, i_1, nI_sum]
            · by_cases e : j = k
              · subst e
                exact wr_eq _ _ _ _
              · rw [wr_off _ _ (by omega)]; exact hI.2 j (by omega))
          (fun fuel C hI => by
            show X4_tower_L1 _ (fuel + 1) (nI 3) C = _
            rw [X4_tower_L1]
            rw [if_pos (by rw [i_3]; exact Int32.le_refl _)])
          3 bigF 0 (wr A' 17 0 0) (by omega) (bigF_gt (by omega)) ⟨fun _ _ _ => rfl, fun j q => absurd q (by omega)⟩
        have hPD2 : isPD Dr P := by
          unfold isPD at hPD ⊢
          omega
        unfold isPD at hPD
        have cO : ∀ x j, x ≠ 38 → (x ≠ 17 ∨ j ≠ 0) → C x j = A' x j := fun x j q1 q2 => by
          rw [c1 x j q1, wr_off _ _ (by omega)]
        refine ⟨nI (tn v), C, Dr, P, J2, ?_, by rw [bind_s]; exact (if_pos rfl).trans m0, ?_⟩
        · rw [bind_s]
          refine (if_pos rfl).trans ?_
          rw [bind_s]
          refine hc.trans ?_
          rw [cO _ _ (by omega) (by omega), v2.1.2.2]
        · obtain ⟨-, r, f, l, v', d', T', U', E', S', -, -, -, zz, kk⟩ := h2
          refine ⟨hPD2, r.congr (fun k j _ _ => cO _ _ (by omega) (by omega)) (fun k j _ _ => m8 _ _ (by omega)), f.congr (fun k j _ => cO _ _ (by omega) (by omega)) (fun k j _ => m8 _ _ (by omega)), l, v, 0, fun _ => 0, fun _ => 0, fun _ => 0, fun _ => 0, ⟨n1, n2, n3, n4, n5, n6, by omega⟩, ⟨⟨⟨?_, ?_, ?_⟩, fun i hi => ?_, fun s hs => ?_, fun a ha => ?_⟩, ⟨m1, m2, m3⟩, m4, m5⟩, ⟨by omega, ⟨?_, m6 0 (by omega)⟩, fun k hk => ?_, fun k hk => absurd hk (by omega), ⟨m6 _ (by omega), m6 _ (by omega), m6 _ (by omega), m6 _ (by omega)⟩, fun k hk => ⟨Nat.pos_of_ne_zero (by simp), Nat.pos_of_ne_zero (by simp), Nat.zero_le _⟩⟩, zz.congr (fun k _ _ => cO _ _ (by omega) (by omega)), fun k hk => ⟨(kk k hk).1.congr (fun x _ _ => cO _ _ (by omega) (by omega)), Or.inl ⟨c2 k hk, m7 k hk⟩⟩⟩
          · rw [cO _ _ (by omega) (by omega)]; exact v2.1.1
          · rw [cO _ _ (by omega) (by omega)]; exact v2.1.2.1
          · rw [cO _ _ (by omega) (by omega)]; exact v2.1.2.2
          · rw [cO _ _ (by omega) (by omega), cO _ _ (by omega) (by omega)]; exact v2.2.1 i hi
          · rw [cO _ _ (by omega) (by omega)]; exact v2.2.2.1 s hs
          · rw [cO _ _ (by omega) (by omega)]; exact v2.2.2.2 a ha
          · rw [c1 _ _ (by omega), wr_eq]
            rfl
          · have e : k = 0 := by omega
            subst e
            obtain ⟨z1, z2, z3, z4⟩ := zz
            rw [cO _ _ (by omega) (by omega), cO _ _ (by omega) (by omega), cO _ _ (by omega) (by omega), cO _ _ (by omega) (by omega)]
            exact ⟨z1, z2, z3, z4⟩
  · rw [if_neg hx, bind_s, if_neg hx, if00]
    dsimp only
    rw [ifm1]
    exact ⟨_, _, _, _, _, rfl, rfl, h⟩
end OPT
