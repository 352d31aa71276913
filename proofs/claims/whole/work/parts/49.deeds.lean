/-! DEEDS -/
section OPD
variable {I J : xMem} {L M : xLon} {P Dr : Nat}
theorem Sim.deed (h : Sim I L P Dr J M) {d n s t u e : Nat} {x : Int32} {I' J' : xMem} (hd : I 17 0 = nI d) (hd40 : d < 40) (hn : I P 2 = nI n) (hs : I P 1 = nI s) (hn6 : n ≤ 6) (hs4 : s ≤ 4) (ht : t < 2 ^ n) (hu : u < 2 ^ s) (he : e ≤ 9)
    (i0 : I' 17 0 = nI (d + 1)) (i1 : I' 18 (d + 1) = nI t) (i2 : I' 19 (d + 1) = nI u) (i3 : I' 20 (d + 1) = nI e) (i4 : I' 21 (d + 1) = x) (io : ∀ k j, (k < 17 ∨ 21 < k ∨ (18 ≤ k ∧ j ≠ d + 1)) → I' k j = I k j)
    (j0 : J' 1 0 = nI (d + 1)) (j1 : J' 1 1 = nI e) (j2 : J' 1 2 = nI t) (j3 : J' 1 3 = nI u) (j4 : J' 1 4 = x) (jp : ∀ k, k < 4 → J' 1 (5 + 4 * d + k) = J 1 (1 + k)) (jo : ∀ y q, (y ≠ 1 ∨ (5 ≤ q ∧ q < 5 + 4 * d) ∨ 165 ≤ q) → J' y q = J y q) : Sim I' L P Dr J' M := by
  obtain ⟨p, r, f, l, v, d0, T, U, E, S, w, a, b, c, k⟩ := h
  have hp := p
  unfold isPD at hp
  obtain ⟨w1, w2, w3⟩ := w
  obtain ⟨b1, ⟨b2, b2'⟩, b3, b4, ⟨b5, b6, b7, b8⟩, b9⟩ := b
  have e1 : d0 = d := (nI_eq_iff (by omega) (by omega)).mp (b2.symm.trans hd)
  have e2 : tn v = n := (nI_eq_iff (by omega) (by omega)).mp (a.1.1.2.2.symm.trans hn)
  have e3 : ts v = s := (nI_eq_iff (by omega) (by omega)).mp (a.1.1.2.1.symm.trans hs)
  subst e1
  refine ⟨p, r.congr (fun k j _ _ => io _ _ (by omega)) (fun k j _ _ => jo _ _ (by omega)), f.congr (fun k j _ => io _ _ (by omega)) (fun k j _ => jo _ _ (by omega)), l, v, d0 + 1, fun k => if k = d0 + 1 then t else T k, fun k => if k = d0 + 1 then u else U k, fun k => if k = d0 + 1 then e else E k, fun k => if k = d0 + 1 then x else S k, ⟨w1, w2, w3⟩, a.congr (fun k j _ _ => io _ _ (by omega)) (fun k j _ => jo _ _ (by omega)), ⟨by omega, ⟨i0, j0⟩, fun k hk => ?_, fun k hk => ?_, ⟨?_, ?_, ?_, ?_⟩, fun k hk => ?_⟩, c.congr (fun k _ _ => io _ _ (by omega)), k.congr (fun k j _ _ => io _ _ (by omega)) (fun j _ => jo _ _ (by omega))⟩
  · by_cases q : k = d0 + 1
    · subst q
      simp only [if_true]
      exact ⟨i1, i2, i3, i4⟩
    · simp only [if_neg q]
      rw [io _ _ (by omega), io _ _ (by omega), io _ _ (by omega), io _ _ (by omega)]
      exact b3 k (by omega)
  · simp only [if_neg (show ¬ k = d0 + 1 by omega)]
    by_cases q : k = d0
    · subst q
      refine ⟨?_, ?_, ?_, ?_⟩
      · rw [show 0 + 5 + 4 * k = 5 + 4 * k + 0 by omega, jp 0 (by omega)]; exact b5
      · rw [show 0 + 6 + 4 * k = 5 + 4 * k + 1 by omega, jp 1 (by omega)]; exact b6
      · rw [show 0 + 7 + 4 * k = 5 + 4 * k + 2 by omega, jp 2 (by omega)]; exact b7
      · rw [show 0 + 8 + 4 * k = 5 + 4 * k + 3 by omega, jp 3 (by omega)]; exact b8
    · rw [jo _ _ (by omega), jo _ _ (by omega), jo _ _ (by omega), jo _ _ (by omega)]
      exact b4 k (by omega)
  · simp only [if_true]; exact j1
  · simp only [if_true]; exact j2
  · simp only [if_true]; exact j3
  · simp only [if_true]; exact j4
  · by_cases q : k = d0 + 1
    · simp only [if_pos q, e2, e3]
      exact ⟨ht, hu, he⟩
    · simp only [if_neg q]
      exact b9 k (by omega)
/-- the tower with where the deeds stand -/
theorem Sim.opn (h : Sim I L P Dr J M) : ∃ v d, vOk v ∧ VC I P v ∧ VM J v ∧ d ≤ 40 ∧ I 17 0 = nI d ∧ J 1 0 = nI d ∧ I 18 d = nI (tt v) ∧ I 19 d = nI (tu v) ∧ I 20 d = nI (te v) ∧ I 21 d = J 1 4 := by
  obtain ⟨-, -, -, -, v, d, T, U, E, S, w, a, b, c, k⟩ := h
  obtain ⟨b0, ⟨b1, b1'⟩, b2, -, ⟨b3, b4, b5, b5'⟩, b6⟩ := b
  obtain ⟨g1, g2, g3⟩ := b6 d (Nat.le_refl d)
  obtain ⟨k1, k2, k3, k4⟩ := b2 d (Nat.le_refl d)
  obtain ⟨w1, w2, w3, w4, w5, w6, -⟩ := w
  exact ⟨tAt v (E d) (T d) (U d), d, ⟨w1, w2, w3, w4, w5, w6, g3, g1, g2⟩, ⟨a.1.1, a.1.2.1, a.1.2.2.1, a.1.2.2.2, d, b0, b1, k1, k2, k3⟩, ⟨a.2.1, a.2.2.1, a.2.2.2, b3, b4, b5⟩, b0, b1, b1', k1, k2, k3, k4.trans b5'.symm⟩
/-- the class adds a deed -/
def adM (I : xMem) (d : Nat) (t u e x : Int32) : xMem := wr (wr (wr (wr (wr I 18 (d + 1) t) 19 (d + 1) u) 20 (d + 1) e) 21 (d + 1) x) 17 0 (nI (d + 1))
theorem add_eq (I : xMem) {d : Nat} (hd : d < 40) (h0 : I 17 0 = nI d) (x1 x2 x3 x4 : Int32) : X0_add 17 I x1 x2 x3 x4 = some (adM I d (I 18 d ^^^ x1) (I 19 d ^^^ x2) (I 20 d + x3) (I 21 d + x4)) := by
  unfold X0_add adM
  have q : ∀ (A : xMem) (k j : Nat) (z : Int32), k ≠ 17 → wr A k j z 17 0 = A 17 0 := fun A k j z hk => wr_off _ _ (by omega)
  rw [h0, if_pos (by rw [i_40, nI_lt_iff (by omega) (by omega)]; omega), rdI_nI (by omega) (by omega), bind_s, i_1, nI_sum, wrI_nI (by omega) (by omega), bind_s, q _ _ _ _ (by omega), h0, rdI_nI (by omega) (by omega), bind_s, nI_sum, wrI_nI (by omega) (by omega), bind_s, q _ _ _ _ (by omega), q _ _ _ _ (by omega), h0, rdI_nI (by omega) (by omega), bind_s, nI_sum, wrI_nI (by omega) (by omega), bind_s, q _ _ _ _ (by omega), q _ _ _ _ (by omega), q _ _ _ _ (by omega), h0, rdI_nI (by omega) (by omega), bind_s, nI_sum, wrI_nI (by omega) (by omega), bind_s, q _ _ _ _ (by omega), q _ _ _ _ (by omega), q _ _ _ _ (by omega), q _ _ _ _ (by omega), h0, nI_sum, bind_s]
  rw [wr_off (k := 17 + 1) I _ (show 17 + 2 ≠ 17 + 1 ∨ d ≠ d + 1 by omega), wr_off (k := 17 + 2) _ _ (show 17 + 3 ≠ 17 + 2 ∨ d ≠ d + 1 by omega), wr_off (k := 17 + 1) I _ (show 17 + 3 ≠ 17 + 1 ∨ d ≠ d + 1 by omega), wr_off (k := 17 + 3) _ _ (show 17 + 4 ≠ 17 + 3 ∨ d ≠ d + 1 by omega), wr_off (k := 17 + 2) _ _ (show 17 + 4 ≠ 17 + 2 ∨ d ≠ d + 1 by omega), wr_off (k := 17 + 1) I _ (show 17 + 4 ≠ 17 + 1 ∨ d ≠ d + 1 by omega)]
theorem adM_17 (I : xMem) (d : Nat) (t u e x : Int32) : adM I d t u e x 17 0 = nI (d + 1) := wr_eq _ _ _ _
theorem adM_18 (I : xMem) (d : Nat) (t u e x : Int32) : adM I d t u e x 18 (d + 1) = t := by
  unfold adM
  rw [wr_off _ _ (by omega), wr_off _ _ (by omega), wr_off _ _ (by omega), wr_off _ _ (by omega), wr_eq]
theorem adM_19 (I : xMem) (d : Nat) (t u e x : Int32) : adM I d t u e x 19 (d + 1) = u := by
  unfold adM
  rw [wr_off _ _ (by omega), wr_off _ _ (by omega), wr_off _ _ (by omega), wr_eq]
theorem adM_20 (I : xMem) (d : Nat) (t u e x : Int32) : adM I d t u e x 20 (d + 1) = e := by
  unfold adM
  rw [wr_off _ _ (by omega), wr_off _ _ (by omega), wr_eq]
theorem adM_21 (I : xMem) (d : Nat) (t u e x : Int32) : adM I d t u e x 21 (d + 1) = x := by
  unfold adM
  rw [wr_off _ _ (by omega), wr_eq]
theorem adM_o (I : xMem) (d : Nat) (t u e x : Int32) (k j : Nat) (q : k < 17 ∨ 21 < k ∨ (18 ≤ k ∧ j ≠ d + 1)) : adM I d t u e x k j = I k j := by
  unfold adM
  rw [wr_off _ _ (by omega), wr_off _ _ (by omega), wr_off _ _ (by omega), wr_off _ _ (by omega), wr_off _ _ (by omega)]
/-- the model keeps what was -/
def kpM (J : xMem) (d : Nat) : xMem := fun y q => if y = 1 ∧ q = 0 then nI (d + 1) else if y = 1 ∧ 5 + 4 * d ≤ q ∧ q < 9 + 4 * d then J 1 (q - (4 + 4 * d)) else J y q
theorem keepPast_eq (J : xMem) {d : Nat} (hd : d < 40) (h0 : J 1 0 = nI d) : X5_keepPast J = some (kpM J d) := by
  unfold X5_keepPast
  obtain ⟨M, hM, he⟩ := loop_I (fun fuel k (M : xMem) => X5_keepPast_L1 (fun (I4 : xMem) => (rdI I4 1 660 (0 : Int32)).bind fun v9 => (wrI I4 1 660 (0 : Int32) (v9 + (1 : Int32))).bind fun I10 => some I10) fuel (nI k) M) (fun I4 => (rdI I4 1 660 (0 : Int32)).bind fun v9 => (wrI I4 1 660 (0 : Int32) (v9 + (1 : Int32))).bind fun I10 => some I10) 4 (fun k M => M = fun y q => if y = 1 ∧ 5 + 4 * d ≤ q ∧ q < 5 + 4 * d + k then J 1 (q - (4 + 4 * d)) else J y q)
    (fun fuel k M hk hI => by
      refine ⟨_, ?_, rfl⟩
      show X5_keepPast_L1 _ (fuel + 1) (nI k) M = _
      rw [X5_keepPast_L1]
      have m0 : M 1 0 = nI d := by
        rw [hI]
        show (if 1 = 1 ∧ 5 + 4 * d ≤ 0 ∧ 0 < 5 + 4 * d + k then J 1 (0 - (4 + 4 * d)) else J 1 0) = _
        rw [if_neg (by omega), h0]
      have mk : M 1 (1 + k) = J 1 (1 + k) := by
        rw [hI]
        show (if 1 = 1 ∧ 5 + 4 * d ≤ 1 + k ∧ 1 + k < 5 + 4 * d + k then J 1 (1 + k - (4 + 4 * d)) else J 1 (1 + k)) = _
        rw [if_neg (by omega)]
      rw [if_neg (by rw [i_4, nI_le_iff (by omega) (by omega)]; omega), i_0, rdI_nI (by omega) (by omega), bind_s, i_1, nI_sum, rdI_nI (by omega) (by omega), bind_s, m0, mk, i_5, i_4, nI_mul, nI_sum, nI_sum, wrI_nI (by omega) (by omega), bind_s, nI_sum]
      congr 1
      rw [hI]
      funext y q
      rw [wr_at]
      by_cases e : y = 1 ∧ q = 5 + 4 * d + k
      · rw [if_pos e, if_pos (by omega), show q - (4 + 4 * d) = 1 + k by omega]
      · rw [if_neg e]
        by_cases e2 : y = 1 ∧ 5 + 4 * d ≤ q ∧ q < 5 + 4 * d + k
        · rw [if_pos e2, if_pos (by omega)]
        · rw [if_neg e2, if_neg (by omega)])
    (fun fuel M hI => by
      show X5_keepPast_L1 _ (fuel + 1) (nI 4) M = _
      rw [X5_keepPast_L1]
      rw [if_pos (by rw [i_4]; exact Int32.le_refl _)])
    4 bigF 0 J (by omega) (bigF_gt (by omega)) (by
      funext y q
      rw [if_neg (by omega)])
  refine he.trans ?_
  have m0 : M 1 0 = nI d := by
    rw [hM]
    show (if 1 = 1 ∧ 5 + 4 * d ≤ 0 ∧ 0 < 5 + 4 * d + 4 then J 1 (0 - (4 + 4 * d)) else J 1 0) = _
    rw [if_neg (by omega), h0]
  rw [i_0, rdI_nI (by omega) (by omega), bind_s, m0, i_1, nI_sum, wrI_nI (by omega) (by omega), bind_s]
  congr 1
  rw [hM]
  funext y q
  rw [wr_at]
  unfold kpM
  by_cases e : y = 1 ∧ q = 0
  · rw [if_pos e, if_pos e]
  · rw [if_neg e, if_neg e, show 5 + 4 * d + 4 = 9 + 4 * d by omega]
theorem kpM_0 (J : xMem) (d : Nat) : kpM J d 1 0 = nI (d + 1) := by
  unfold kpM
  rw [if_pos (by omega)]
theorem kpM_p (J : xMem) (d : Nat) {k : Nat} (hk : k < 4) : kpM J d 1 (5 + 4 * d + k) = J 1 (1 + k) := by
  unfold kpM
  rw [if_neg (by omega), if_pos (by omega), show 5 + 4 * d + k - (4 + 4 * d) = 1 + k by omega]
theorem kpM_o (J : xMem) {d : Nat} (hd : d < 40) (y q : Nat) (h : y ≠ 1 ∨ (1 ≤ q ∧ q < 5 + 4 * d) ∨ 165 ≤ q) : kpM J d y q = J y q := by
  unfold kpM
  rw [if_neg (by omega), if_neg (by omega)]
theorem VM.kp {J : xMem} {v : TV} (h : VM J v) {d : Nat} (hd : d < 40) : VM (kpM J d) v := by
  obtain ⟨⟨h1, h2, h3⟩, h4, h5, h6, h7, h8⟩ := h
  refine ⟨⟨?_, ?_, ?_⟩, fun i hi => ?_, fun s hs => ?_, ?_, ?_, ?_⟩
  · rw [kpM_o J hd _ _ (by omega)]; exact h1
  · rw [kpM_o J hd _ _ (by omega)]; exact h2
  · rw [kpM_o J hd _ _ (by omega)]; exact h3
  · rw [kpM_o J hd _ _ (by omega), kpM_o J hd _ _ (by omega)]; exact h4 i hi
  · rw [kpM_o J hd _ _ (by omega)]; exact h5 s hs
  · rw [kpM_o J hd _ _ (by omega)]; exact h6
  · rw [kpM_o J hd _ _ (by omega)]; exact h7
  · rw [kpM_o J hd _ _ (by omega)]; exact h8
/-- the model's row behind a GO -/
def goM (J : xMem) (t u : Nat) (x : Int32) : xMem := wr (wr (wr J 1 4 x) 1 2 (nI t)) 1 3 (nI u)
theorem goes_eq {J : xMem} {v : TV} (hv : vOk v) (h : VM J v) {i j a b : Nat} (hi : i < tn v) (hj : j < tn v) (ha : a < 16) (hb : b < 16) : X5_goes J (nI i) (nI j) (nI a) (nI b) = some (goM J (tt v ^^^ (2 ^ i ||| 2 ^ j)) (tu v ^^^ (a ||| b)) (J 1 4 + nI (skN v i j a b))) := by
  have h6 := hv.1
  unfold X5_goes goM
  rw [i_4, rdI_nI (by omega) (by omega), bind_s, h.sink hv hi hj ha hb, bind_s, wrI_nI (by omega) (by omega), bind_s, i_2, rdI_nI (by omega) (by omega), bind_s, wr_off J _ (show 1 ≠ 1 ∨ 2 ≠ 4 by omega), h.2.2.2.2.1, i_1, nI_pow (by omega), nI_pow (by omega), nI_or, nI_xor, wrI_nI (by omega) (by omega), bind_s, i_3, rdI_nI (by omega) (by omega), bind_s, wr_off _ _ (show 1 ≠ 1 ∨ 3 ≠ 2 by omega), wr_off _ _ (show 1 ≠ 1 ∨ 3 ≠ 4 by omega), h.2.2.2.2.2, nI_or, nI_xor, wrI_nI (by omega) (by omega), bind_s]
theorem goM_o (J : xMem) (t u : Nat) (x : Int32) (y q : Nat) (h : y ≠ 1 ∨ q < 2 ∨ 4 < q) : goM J t u x y q = J y q := by
  unfold goM
  rw [wr_off _ _ (by omega), wr_off _ _ (by omega), wr_off _ _ (by omega)]
theorem goM_2 (J : xMem) (t u : Nat) (x : Int32) : goM J t u x 1 2 = nI t := by
  unfold goM
  rw [wr_off _ _ (by omega), wr_eq]
theorem goM_3 (J : xMem) (t u : Nat) (x : Int32) : goM J t u x 1 3 = nI u := wr_eq _ _ _ _
theorem goM_4 (J : xMem) (t u : Nat) (x : Int32) : goM J t u x 1 4 = x := by
  unfold goM
  rw [wr_off _ _ (by omega), wr_off _ _ (by omega), wr_eq]
theorem pow_lt2 {i n : Nat} (h : i < n) : 2 ^ i < 2 ^ n := Nat.pow_lt_pow_right (by decide) h
/-- a GO on both sides -/
theorem Sim.goes (h : Sim I L P Dr J M) {v : TV} {d : Nat} (hv : vOk v) (hC : VC I P v) (hM : VM J v) (hd : d < 40) (d1 : I 17 0 = nI d) (d2 : J 1 0 = nI d) (d3 : I 18 d = nI (tt v)) (d4 : I 19 d = nI (tu v)) (d5 : I 20 d = nI (te v)) (d6 : I 21 d = J 1 4) {i j a b : Nat} (hi : i < tn v) (hj : j < tn v) (ha : a < 2 ^ ts v) (hb : b < 2 ^ ts v) : Sim (adM I d (nI (tt v) ^^^ nI (2 ^ i ||| 2 ^ j)) (nI (tu v) ^^^ nI (a ||| b)) (nI (te v) + nI 0) (J 1 4 + nI (skN v i j a b))) L P Dr (goM (kpM J d) (tt v ^^^ (2 ^ i ||| 2 ^ j)) (tu v ^^^ (a ||| b)) (J 1 4 + nI (skN v i j a b))) M := by
  have h1 := hv.2.2.2.2.2.2.2
  refine h.deed (n := tn v) (s := ts v) (t := tt v ^^^ (2 ^ i ||| 2 ^ j)) (u := tu v ^^^ (a ||| b)) (e := te v) (x := J 1 4 + nI (skN v i j a b)) d1 hd hC.1.2.2 hC.1.2.1 hv.1 hv.2.1 (Nat.xor_lt_two_pow h1.1 (Nat.or_lt_two_pow (pow_lt2 hi) (pow_lt2 hj))) (Nat.xor_lt_two_pow h1.2 (Nat.or_lt_two_pow ha hb)) hv.2.2.2.2.2.2.1 (adM_17 _ _ _ _ _ _) ?_ ?_ ?_ (adM_21 _ _ _ _ _ _) (adM_o I d _ _ _ _) ?_ ?_ (goM_2 _ _ _ _) (goM_3 _ _ _ _) (goM_4 _ _ _ _) (fun k hk => ?_) (fun y q hq => ?_)
  · rw [adM_18, nI_xor]
  · rw [adM_19, nI_xor]
  · rw [adM_20, nI_sum, Nat.add_zero]
  · rw [goM_o _ _ _ _ _ _ (by omega), kpM_0]
  · rw [goM_o _ _ _ _ _ _ (by omega), kpM_o J hd _ _ (by omega)]; exact hM.2.2.2.1
  · rw [goM_o _ _ _ _ _ _ (by omega), kpM_p J d hk]
  · rw [goM_o _ _ _ _ _ _ (by omega), kpM_o J hd _ _ (by omega)]
theorem op_go (h : Sim I L P Dr J M) (x1 x2 x3 x4 : Int32) : Bt L P Dr M (X4_go P I x1 x2 x3 x4) (X5_go J x1 x2 x3 x4) := by
  obtain ⟨v, d, hv, hC, hM, hd, d1, d2, d3, d4, d5, d6⟩ := h.opn
  have h16 := p2s hv
  have hsk := skN_le hv
  have h9 := hv.2.2.1
  unfold X4_go X5_go
  rw [hC.noPair hv, hM.two hv]
  by_cases c1 : ix x1 (tn v) ∧ ix x2 (tn v) ∧ x1 ≠ x2
  · rw [if_pos c1, if00, if_pos c1, if10, hC.noSets hv, hM.sets hv]
    by_cases c2 : ix x3 (2 ^ ts v) ∧ ix x4 (2 ^ ts v) ∧ x3 &&& x4 = 0
    · rw [if_pos c2, if00, if_pos c2, if10]
      obtain ⟨i, hi, rfl⟩ := ix_of c1.1 (by have := hv.1; omega)
      obtain ⟨j, hj, rfl⟩ := ix_of c1.2.1 (by have := hv.1; omega)
      obtain ⟨a, ha, rfl⟩ := ix_of c2.1 (by omega)
      obtain ⟨b, hb, rfl⟩ := ix_of c2.2.1 (by omega)
      rw [hC.apart hv hi hj, bind_s, hM.oneEnd hv hi hj, bind_s]
      by_cases c3 : same v i j
      · rw [if_pos c3, if_pos c3, if_pos (show nI 0 = 0 from rfl), if10, hC.stonesWith hv hi, bind_s, hM.stonesBy hv hi, bind_s, nI_or]
        by_cases c4 : nI (a ||| b) &&& (nI (stW v i) ^^^ (-1)) = 0
        · rw [if_pos c4, if_pos c4, hC.steps4 hv hi hj ha hb, bind_s, hM.sink hv hi hj (by omega) (by omega), bind_s, hC.1.1, hM.1.1]
          by_cases c5 : nI (skN v i j a b) ≤ nI (tl v)
          · rw [if_pos c5, if_pos c5, i_0, rdI_nI (by omega) (by omega), bind_s, d1, d2]
            by_cases c6 : d < 40
            · rw [if_pos (by rw [i_40, nI_lt_iff (by omega) (by omega)]; omega), if_neg (by rw [i_40, nI_eq_iff (by omega) (by omega)]; omega), keepPast_eq J c6 d2, bind_s, goes_eq hv (hM.kp c6) hi hj (by omega) (by omega), bind_s, i_1, nI_pow (by have := hv.1; omega), nI_pow (by have := hv.1; omega), nI_or, add_eq I c6 d1, bind_s, kpM_o J c6 1 4 (by omega), d3, d4, d5, d6]
              exact Bt.mk rfl rfl rfl (h.goes hv hC hM c6 d1 d2 d3 d4 d5 d6 hi hj ha hb)
            · rw [if_neg (by rw [i_40, nI_lt_iff (by omega) (by omega)]; omega), if_pos (by rw [i_40, nI_eq_iff (by omega) (by omega)]; omega)]
              exact Bt.mk rfl rfl rfl h
          · rw [if_neg c5, if_neg c5]
            exact Bt.mk rfl rfl rfl h
        · rw [if_neg c4, if_neg c4]
          exact Bt.mk rfl rfl rfl h
      · rw [if_neg c3, if_neg c3, if_neg (show ¬ nI 1 = 0 by decide), if00]
        exact Bt.mk rfl rfl rfl h
    · rw [if_neg c2, if10, if_neg c2, if00]
      exact Bt.mk rfl rfl rfl h
  · rw [if_neg c1, if10, if_neg c1, if00]
    exact Bt.mk rfl rfl rfl h
theorem op_loaf (h : Sim I L P Dr J M) : Bt L P Dr M (X4_loaf P I) (X5_loaf J) := by
  obtain ⟨v, d, hv, hC, hM, hd, d1, d2, d3, d4, d5, d6⟩ := h.opn
  have h9 := hv.2.2.2.2.2.2.1
  have h1 := hv.2.2.2.2.2.2.2
  unfold X4_loaf X5_loaf
  rw [hC.1.2.2, hM.1.2.2, hC.eaten, bind_s]
  by_cases c1 : nI (tn v) = 0
  · rw [if_pos c1, if_pos c1]
    exact Bt.mk rfl rfl rfl h
  · rw [if_neg c1, if_neg c1, i_1, rdI_nI (by omega) (by omega), bind_s, hM.2.2.2.1]
    by_cases c2 : te v < 9
    · have q1 : nI (te v) < (9 : Int32) := by rw [i_9, nI_lt_iff (by omega) (by omega)]; omega
      have q2 : ¬ nI (te v) = (9 : Int32) := by rw [i_9, nI_eq_iff (by omega) (by omega)]; omega
      rw [if_pos q1, if_neg q2, i_0, rdI_nI (by omega) (by omega), bind_s, d1, d2]
      by_cases c6 : d < 40
      · rw [if_pos (by rw [i_40, nI_lt_iff (by omega) (by omega)]; omega), if_neg (by rw [i_40, nI_eq_iff (by omega) (by omega)]; omega), keepPast_eq J c6 d2, bind_s, rdI_nI (by omega) (by omega), bind_s, kpM_o J c6 1 1 (by omega), hM.2.2.2.1, nI_sum, wrI_nI (by omega) (by omega), bind_s, rdI_nI (by omega) (by omega), bind_s, wr_eq, add_eq I c6 d1, bind_s, d3, d4, d5, d6]
        have he : X0_eaten 17 (adM I d (nI (tt v) ^^^ nI 0) (nI (tu v) ^^^ nI 0) (nI (te v) + nI 1) (J 1 4 + nI 0)) = some (nI (te v + 1)) := by
          unfold X0_eaten
          rw [adM_17, rdI_nI (by omega) (by omega), bind_s]
          show some (adM I d (nI (tt v) ^^^ nI 0) (nI (tu v) ^^^ nI 0) (nI (te v) + nI 1) (J 1 4 + nI 0) 20 (d + 1)) = _
          rw [adM_20, nI_sum]
        rw [he, bind_s]
        refine Bt.mk rfl rfl rfl ?_
        refine h.deed (n := tn v) (s := ts v) (t := tt v) (u := tu v) (e := te v + 1) (x := J 1 4 + nI 0) d1 c6 hC.1.2.2 hC.1.2.1 hv.1 hv.2.1 h1.1 h1.2 (by omega) (adM_17 _ _ _ _ _ _) ?_ ?_ ?_ (adM_21 _ _ _ _ _ _) (adM_o I d _ _ _ _) ?_ ?_ ?_ ?_ ?_ (fun k hk => ?_) (fun y q hq => ?_)
        · rw [adM_18, nI_xor, Nat.xor_zero]
        · rw [adM_19, nI_xor, Nat.xor_zero]
        · rw [adM_20, nI_sum]
        · rw [wr_off _ _ (by omega), kpM_0]
        · rw [wr_eq]
        · rw [wr_off _ _ (by omega), kpM_o J c6 _ _ (by omega)]; exact hM.2.2.2.2.1
        · rw [wr_off _ _ (by omega), kpM_o J c6 _ _ (by omega)]; exact hM.2.2.2.2.2
        · rw [wr_off _ _ (by omega), kpM_o J c6 _ _ (by omega), show nI 0 = 0 from rfl, Int32.add_zero]
        · rw [wr_off _ _ (by omega), kpM_p J d hk]
        · rw [wr_off _ _ (by omega), kpM_o J c6 _ _ (by omega)]
      · rw [if_neg (by rw [i_40, nI_lt_iff (by omega) (by omega)]; omega), if_pos (by rw [i_40, nI_eq_iff (by omega) (by omega)]; omega)]
        exact Bt.mk rfl rfl rfl h
    · have q1 : ¬ nI (te v) < (9 : Int32) := by rw [i_9, nI_lt_iff (by omega) (by omega)]; omega
      have q2 : nI (te v) = (9 : Int32) := by rw [i_9, nI_eq_iff (by omega) (by omega)]; omega
      rw [if_neg q1, if_pos q2]
      exact Bt.mk rfl rfl rfl h
end OPD
