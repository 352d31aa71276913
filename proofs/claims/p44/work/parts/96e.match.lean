/-! THE LAW: pairs, all at once, the stone that is worth most -/
section LM
variable {tI : xTab} {P Dr : Nat} {v : TV} {D : DD} {A I : xMem} {L : xLon} {x7 : Int64} {x9 x10 : Int32}
variable {G67 : (Int32 → Int32 → Int32 → Int64 → Int32 → xMem → xLon → Option Int32)}
theorem bit_if {s k : Nat} (hs : s < 2 ^ 31) (hk : k < 32) {α : Type} (x y : α) : (if ((nI s >>> (nI k &&& 31)) &&& (1 : Int32)) = (1 : Int32) then x else y) = if s.testBit k then x else y := by
  rw [i_1]
  by_cases q : s.testBit k = true
  · rw [if_pos ((nI_bit1 hk hs).mpr q), if_pos q]
  · rw [if_neg (fun w => q ((nI_bit1 hk hs).mp w)), if_neg q]
theorem x_1233 (h : LI A I P Dr v D) (hE : ∀ (I : xMem) (L : xLon), LI A I P Dr v D → XC_1288 tI P Dr G67 (nI (tn v)) (nI (tl v)) (nI (allS v)) x7 x9 x10 (nI (dd D)) (nI (te (now v D))) (nI (tt (now v D))) (nI (tu (now v D))) (nI (dS D (dd D))) (nI (cntP (now v D) 0)) I L = some 1) : XC_1233 tI P Dr G67 (nI (tn v)) (nI (tl v)) (nI (allS v)) x7 x9 x10 (nI (dd D)) (nI (te (now v D))) (nI (tt (now v D))) (nI (tu (now v D))) (nI (dS D (dd D))) (nI (cntP (now v D) 0)) I L = some 1 := by
  have hC := h.cs
  have hv := hC.vok
  have h4 : ts v ≤ 4 := hv.2.1
  have hg := h.1.2.1.1.2.1
  have hcp := cntP_le hv 0
  unfold XC_1233
  have rd : ∀ I', qAg I I' → rdI I' 62 19 (1 : Int32) = some (nI (ts v)) := fun I' g => by
    refine (rdI_nI (I := I') (k := 62) (N := 19) (n := 1) (by omega) (by omega)).trans ?_
    rw [g 62 1 (by omega), hg]
  rcases cs_worth hC with ⟨c, e⟩ | ⟨c, e⟩
  · rw [e, bind_s, rd I (qAg.rf I), bind_s, if_pos (by rw [c]; rfl), if_pos rfl]
    exact hE I L h
  · have hw := worN_le hv (ts v - 1)
    have hl := wor_less hv (ts v - 1)
    rw [e, bind_s, rd _ (qAg.told _ _), bind_s, if_neg (by rw [i_0, nI_eq_iff (by omega) (by omega)]; omega), if_neg (nI_pos (by omega)), bind_s, if_neg (by rw [nI_le_iff (by omega) (by omega)]; omega)]
    dsimp only
    rw [asked_told, pk_sub hl, if_neg (nI_pos (by omega)), if_pos (by rw [nI_le_iff (by omega) (by omega)]; omega)]
    exact hE _ L (h.told _)
theorem x_1194 {s n S : Nat} (hs : s < 64) (hM : Mt (now v D) n s S) (hE : ∀ (I : xMem) (L : xLon), LI A I P Dr v D → XC_1288 tI P Dr G67 (nI (tn v)) (nI (tl v)) (nI (allS v)) x7 x9 x10 (nI (dd D)) (nI (te (now v D))) (nI (tt (now v D))) (nI (tu (now v D))) (nI (dS D (dd D))) (nI (cntP (now v D) 0)) I L = some 1) : ∀ (m fuel i : Nat) (I : xMem) (L : xLon), i + m = tn v → m < fuel → LI A I P Dr v D → XC_1194 tI P Dr G67 fuel (nI (tn v)) (nI (tl v)) (nI (allS v)) x7 x9 x10 (nI (dd D)) (nI (te (now v D))) (nI (tt (now v D))) (nI (tu (now v D))) (nI (dS D (dd D))) (nI (cntP (now v D) 0)) (nI s) (nI i) I L = some 1 := by
  intro m
  induction m with
  | zero =>
    intro fuel i I L hi hf h
    obtain ⟨f, rfl⟩ : ∃ f, fuel = f + 1 := ⟨fuel - 1, by omega⟩
    have e : i = tn v := by omega
    subst e
    rw [XC_1194]
    rw [if_pos (Int32.le_refl _)]
    exact x_1233 h hE
  | succ m ih =>
    intro fuel i I L hi hf h
    obtain ⟨f, rfl⟩ : ∃ f, fuel = f + 1 := ⟨fuel - 1, by omega⟩
    have hC := h.cs
    have hv := hC.vok
    have h6 := hC.n2
    have h64 := hC.n64
    have hin : i < tn v := by omega
    have hcl : compN (now v D) i < 2 ^ tn v := comp_lt (now v D) i
    have go : ∀ I L, LI A I P Dr v D → XC_1227 tI P Dr G67 (XC_1194 tI P Dr G67 f) (nI (tn v)) (nI (tl v)) (nI (allS v)) x7 x9 x10 (nI (dd D)) (nI (te (now v D))) (nI (tt (now v D))) (nI (tu (now v D))) (nI (dS D (dd D))) (nI (cntP (now v D) 0)) (nI s) (nI i) I L = some 1 := fun I L h => by
      unfold XC_1227
      rw [i_1, nI_sum]
      exact ih f (i + 1) I L (by omega) (by omega) h
    rw [XC_1194]
    rw [if_neg (by rw [nI_le_iff (by omega) (by omega)]; omega)]
    by_cases c : s.testBit i = true
    · have t4 := cs_told hC hin (k := 4) (by omega)
      have e4 : aboutN (now v D) i 4 = compN (now v D) i := rfl
      rw [e4] at t4
      have t4 : L_told P I (nI i) 4 = _ := t4
      rw [bit_if (by omega) (by omega), if_pos c, t4, bind_s]
      dsimp only
      rw [nI_and, if_neg]
      · exact go _ L (h.told _)
      · rw [i_0, nI_eq_iff (Nat.lt_of_le_of_lt Nat.and_le_left (by omega)) (by omega)]
        intro z
        obtain ⟨j, j1, j2, j3, j4⟩ := Mt_with hv hM c
        have hb : (compN (now v D) i &&& s).testBit j = true := by
          rw [Nat.testBit_and, (comp_bit (now v D) i j).mpr ⟨j2, j3, j4⟩, j1]
          rfl
        rw [z] at hb
        simp at hb
    · rw [bit_if (by omega) (by omega), if_neg c]
      exact go I L h
theorem x_1108 (h : LI A I P Dr v D) (hE : ∀ (I : xMem) (L : xLon), LI A I P Dr v D → XC_1288 tI P Dr G67 (nI (tn v)) (nI (tl v)) (nI (allS v)) x7 x9 x10 (nI (dd D)) (nI (te (now v D))) (nI (tt (now v D))) (nI (tu (now v D))) (nI (dS D (dd D))) (nI (cntP (now v D) 0)) I L = some 1) : XC_1108 tI P Dr G67 (nI (tn v)) (nI (tl v)) (nI (allS v)) x7 x9 x10 (nI (dd D)) (nI (te (now v D))) (nI (tt (now v D))) (nI (tu (now v D))) (nI (dS D (dd D))) (nI (cntP (now v D) 0)) I L = some 1 := by
  have hC := h.cs
  have hv := hC.vok
  have h6 := hC.n2
  have h64 := hC.n64
  have htt := hC.tt64
  have hcp := cntP_le hv 0
  obtain ⟨s, I', s1, s2, ⟨m1, m2, m3⟩, s4, s5, e⟩ := cs_match hC
  obtain ⟨S, n, hM⟩ := (AO_all s).mp m1
  have hpc := Mt_pc hv n s1 hM
  have hpn := pc_n (tn v) h6.2 s s2
  have htop := Mt_top hv n s1 hM
  have hcg := Mt_cg hv n hM
  have hcg2 := cg_le (now v D) s
  have hand : s &&& tt (now v D) < 64 := Nat.lt_of_le_of_lt Nat.and_le_left s1
  have h0 : n = 0 ↔ cntP (now v D) 0 = 0 := by
    constructor
    · intro z
      rcases Nat.eq_zero_or_pos (cntP (now v D) 0) with q | q
      · exact q
      · obtain ⟨i, j, i1, i2, i3⟩ := (cntP_pos _ _).mp q
        have i2 : j < tn v := i2
        have g := m3 (pr i j) (pr_lt (by omega) i2) (pair_AO hv i1 i2 i3)
        have := (pc_pr2 i (by omega) j (by omega)).resolve_left (by omega)
        omega
    · intro z
      omega
  have e2 : pc s / 2 = n := by omega
  unfold XC_1108
  rw [e, bind_s, e2, if_neg (nI_pos (by omega)), i_2, nI_div (by omega) (by omega) (by omega), if_neg (by rw [nI_lt_iff (by omega) (by omega)]; omega)]
  have ea : X4_asked I' = nI s := s5
  dsimp only
  rw [ea, bits_nI s1, bind_s, nI_mul, if_pos (by rw [hpc]), nI_and, bits_nI hand, i_0]
  have hh : (if nI n = nI 0 then some (1 : Int32) else some (nI 0)) = (if nI (cntP (now v D) 0) = nI 0 then some (1 : Int32) else some (nI 0)) := by
    by_cases z : n = 0
    · rw [if_pos (by rw [z]), if_pos (by rw [h0.mp z])]
    · rw [if_neg (by rw [nI_eq_iff (by omega) (by omega)]; exact z), if_neg (by rw [nI_eq_iff (by omega) (by omega)]; exact fun w => z (h0.mpr w))]
  rw [hh, ite_some, bind_s, bind_s, if_pos rfl, bind_s, nI_rem (by have := pc_le (s &&& tt (now v D)); omega) (by omega) (by omega), htop, if_pos rfl]
  unfold XC_1182
  rw [if_pos (by rw [nI_le_iff (by omega) (by omega)]; omega)]
  exact x_1194 s1 hM hE (tn v) bigF 0 I' L (by omega) (bigF_gt (by omega)) (h.q s4)
theorem x_1022 (h : LI A I P Dr v D) (hE : ∀ (I : xMem) (L : xLon), LI A I P Dr v D → XC_1288 tI P Dr G67 (nI (tn v)) (nI (tl v)) (nI (allS v)) x7 x9 x10 (nI (dd D)) (nI (te (now v D))) (nI (tt (now v D))) (nI (tu (now v D))) (nI (dS D (dd D))) (nI (cntP (now v D) 0)) I L = some 1) : XC_1022 tI P Dr G67 (nI (tn v)) (nI (tl v)) (nI (allS v)) x7 x9 x10 (nI (dd D)) (nI (te (now v D))) (nI (tt (now v D))) (nI (tu (now v D))) (nI (dS D (dd D))) (nI (cntP (now v D) 0)) I L = some 1 := by
  have hC := h.cs
  have hv := hC.vok
  have h6 := hC.n2
  have hcp := cntP_le hv 0
  obtain ⟨r, hr, e⟩ := cs_pairs hC
  unfold XC_1022
  rw [e, bind_s, if_pos rfl]
  dsimp only
  rw [asked_told]
  have h1 := h.told r
  rcases hr with ⟨rfl, hn⟩ | ⟨i, j, i1, i2, i3, rfl, -⟩
  · have z : cntP (now v D) 0 = 0 := by
      rcases Nat.eq_zero_or_pos (cntP (now v D) 0) with q | q
      · exact q
      · obtain ⟨i, j, i1, i2, i3⟩ := (cntP_pos _ _).mp q
        exact absurd i3 (hn i j i1 i2)
    rw [if_pos rfl, bind_s, if_pos (by rw [z]; rfl), bind_s, if_pos rfl, if_pos (by decide)]
    exact x_1108 h1 hE
  · have i2 : j < tn v := i2
    have z := (cntP_pos (now v D) 0).mpr ⟨i, j, i1, i2, i3⟩
    have t4 := cs_told h1.cs (i := i) (by omega) (k := 4) (by omega)
    have e4 : aboutN (now v D) i 4 = compN (now v D) i := rfl
    rw [e4] at t4
    have t4 : L_told P (wr I 0 10 (nI (6 * i + j))) (nI i) 4 = _ := t4
    rw [if_neg (nI_m9 (by omega)), bind_s, if_neg (by rw [i_0, nI_eq_iff (by omega) (by omega)]; omega), bind_s, if_pos rfl, if_neg (nI_pos (by omega)), show (6 : Int32) = nI 6 from rfl, nI_rem (by omega) (by omega) (by omega), nI_div (by omega) (by omega) (by omega), show (6 * i + j) % 6 = j by omega, show (6 * i + j) / 6 = i by omega, if_neg (by rw [nI_le_iff (by omega) (by omega)]; omega), t4, bind_s, with_if hC i2 (by omega), if_pos i3]
    exact x_1108 (h1.told _) hE
end LM
