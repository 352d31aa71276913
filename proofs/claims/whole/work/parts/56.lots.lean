/-! DAYS BY LOTS -/
def pc (t : Nat) : Nat := t % 2 + t / 2 % 2 + t / 4 % 2 + t / 8 % 2 + t / 16 % 2 + t / 32 % 2
theorem bc_pc : ∀ t, t < 64 → J6_bitCount_0f7a4 (nI t) = nI (pc t) := by decide +kernel
theorem bits_pc {t : Nat} (ht : t < 64) : X5_bits (nI t) = some (nI (pc t)) := by
  unfold X5_bits
  have key := loop_F (fun fuel k (s : Nat) => X5_bits_L1 (nI t) (fun z => some z) fuel (nI s) (nI k)) (fun s => some (nI s)) 6 (fun k s => s + t / 2 ^ k % 2) (fun _ _ => True)
    (fun fuel k s hk _ => ⟨by
      show X5_bits_L1 (nI t) _ (fuel + 1) (nI s) (nI k) = _
      rw [X5_bits_L1]
      rw [if_neg (by rw [i_6, nI_le_iff (by omega) (by omega)]; omega), i_1, nI_bit (by omega) (by omega), nI_sum, nI_sum], trivial⟩)
    (fun fuel s _ => by
      show X5_bits_L1 (nI t) _ (fuel + 1) (nI s) (nI 6) = _
      rw [X5_bits_L1]
      rw [if_pos (by rw [i_6, nI_le_iff (by omega) (by omega)]; omega)])
    6 bigF 0 0 (by omega) (bigF_gt (by omega)) trivial
  refine key.trans ?_
  congr 2
  simp only [foldF, pc]
  omega
theorem mAg.w {A B : xMem} (h : mAg A B) (k j : Nat) (x : Int32) : mAg (wr A k j x) (wr B k j x) := fun a b q => by
  rw [wr_at, wr_at, h a b q]
theorem wr_mAg (A : xMem) {k j : Nat} (x : Int32) (h : mX k j) : mAg A (wr A k j x) := fun a b q => by
  rw [wr_at, if_neg]
  rintro ⟨rfl, rfl⟩
  exact q h
theorem goM_ag {A B : xMem} (h : mAg A B) (t u : Nat) (x : Int32) : mAg (goM A t u x) (goM B t u x) := ((h.w _ _ _).w _ _ _).w _ _ _
/-- what the least by which two sink says: by how much, with which -/
theorem lstV_sk {v : TV} (hv : vOk v) (i j f : Nat) : lstV v i j f / 256 = skN v i j (lstV v i j f % 256 / 16) (lstV v i j f % 256 % 16) ∧ nd (lstV v i j f % 256 / 16) f = 0 ∧ nd (lstV v i j f % 256 % 16) f = 0 := by
  have h1 := cnt_le hv i
  have h2 := cnt_le hv j
  rcases lst_is hv (ca := cnt v i) (cb := cnt v j) (by omega) (by omega) (twins v i j) f with ⟨-, g⟩ | ⟨c, g1, g2, g3, g4⟩
  · exact absurd (okS_0 f) (g 0 (by omega))
  · have e : lstV v i j f = 256 * skN v i j (c / 16) (c % 16) + c := g3
    have e1 : lstV v i j f % 256 = c := by omega
    rw [e1]
    have g5 := g2.2
    rw [nd_or, or0] at g5
    exact ⟨by omega, g5⟩
theorem if9 {e : Nat} (he : e ≤ 9) : (if nI 9 ≤ nI e then (0 : Int32) else 1) = nI (if 9 ≤ e then 0 else 1) := by
  by_cases h : 9 ≤ e
  · rw [if_pos ((nI_le_iff (by omega) (by omega)).mpr h), if_pos h]
    rfl
  · rw [if_neg (fun w => h ((nI_le_iff (by omega) (by omega)).mp w)), if_neg h]
    rfl
section OPL
variable {I J : xMem} {L M : xLon} {P Dr : Nat}
theorem Sim.lot (h : Sim I L P Dr J M) {n d l l0 : Nat} (hn : I P 2 = nI n) (hn6 : n ≤ 6) (hn0 : 0 < n) (hd : I 17 0 = nI d) (hd40 : d < 40) (hl : l < 2 ^ 31) (hl0 : l0 < 2 ^ 31) (e : l = l0 * 48271 % 2147483647) (x1 : Int32) : ∃ I' J', X4_doByLot P I (nL l) = some I' ∧ (∀ K fuel x5, ¬ x1 ≤ x5 → X5_lots_L1 x1 K (fuel + 1) (nL l0) x5 J = X5_lots_L1 x1 K fuel (nL l) (x5 + 1) J') ∧ Sim I' L P Dr J' M ∧ I' 17 0 = nI (d + 1) ∧ I' P 2 = nI n := by
  obtain ⟨v, d', hv, hC, hM, hd', d1, d2, d3, d4, d5, d6⟩ := h.opn
  have hPD := h.1
  unfold isPD at hPD
  have hv6 := hv.1
  have ed : d' = d := (nI_eq_iff (by omega) (by omega)).mp (d1.symm.trans hd)
  subst ed
  have en : tn v = n := (nI_eq_iff (by omega) (by omega)).mp (hC.1.2.2.symm.trans hn)
  subst en
  have e9 := hv.2.2.2.2.2.2.1
  have h1 := hv.2.2.2.2.2.2.2
  have hkp := hM.kp hd40
  have eL : nL l0 * 48271 - nL l0 * 48271 / 2147483647 * 2147483647 = nL l := by
    rw [show (48271 : Int64) = nL 48271 from rfl, show (2147483647 : Int64) = nL 2147483647 from rfl, nL_mul (by omega) (by omega) (by omega), nL_rem (by omega) (by omega), e]
  have e8 : nL l / 8 - nL l / 8 / 4 * 4 = nL (l / 8 % 4) := by
    rw [show (8 : Int64) = nL 8 from rfl, show (4 : Int64) = nL 4 from rfl, nL_div (by omega) (by omega), nL_rem (by omega) (by omega)]
  have e64 : nL l / 64 = nL (l / 64) := nL_div (b := 64) (by omega) (by omega)
  have hi : l % tn v < tn v := Nat.mod_lt _ hn0
  have hj : l / 64 % tn v < tn v := Nat.mod_lt _ hn0
  have sameP : ∀ t u ee x, adM I d' t u ee x P 2 = nI (tn v) := fun t u ee x => by
    rw [adM_o I d' _ _ _ _ _ _ (by omega)]; exact hn
  by_cases c0 : l / 8 % 4 = 0
  · have q0 : lg_cmp (nL (l / 8 % 4)) 0 = 0 := (nL_0 (by omega)).mpr c0
    refine ⟨adM I d' (nI (tt v) ^^^ 0) (nI (tu v) ^^^ 0) (nI (te v) + nI (if 9 ≤ te v then 0 else 1)) (J 1 4 + 0), wr (kpM J d') 1 1 (nI (te v) + nI (if 9 ≤ te v then 0 else 1)), ?_, ?_, ?_, adM_17 _ _ _ _ _ _, sameP _ _ _ _⟩
    · unfold X4_doByLot
      rw [e8, if_pos q0, hC.eaten, bind_s, ite_bind, add_eq I hd40 d1, bind_s, d3, d4, d5, d6]
      congr 3
      exact if9 e9
    · intro K fuel x5 hx
      rw [X5_lots_L1]
      rw [if_neg hx, eL, e8, hM.1.2.2, rmL_nL (by omega) hn0 (by omega), bind_s, e64, rmL_nL (by omega) hn0 (by omega), bind_s, keepPast_eq J hd40 d2, bind_s, if_pos q0, show (rdI (kpM J d') 1 660 (1 : Int32)) = some (nI (te v)) from (rdI_nI (I := kpM J d') (k := 1) (N := 660) (n := 1) (by omega) (by omega)).trans (congrArg some hkp.2.2.2.1), bind_s, bind_s, ite_bind, show (wrI (kpM J d') 1 660 (1 : Int32)) = fun z => some (wr (kpM J d') 1 1 z) from funext fun z => wrI_nI (I := kpM J d') (k := 1) (N := 660) (n := 1) (by omega) (by omega), bind_s]
      congr 4
      exact if9 e9
    · refine h.deed (n := tn v) (s := ts v) (t := tt v) (u := tu v) (e := te v + if 9 ≤ te v then 0 else 1) (x := J 1 4 + 0) d1 hd40 hC.1.2.2 hC.1.2.1 hv.1 hv.2.1 h1.1 h1.2 (by split <;> omega) (adM_17 _ _ _ _ _ _) ?_ ?_ ?_ (adM_21 _ _ _ _ _ _) (adM_o I d' _ _ _ _) ?_ ?_ ?_ ?_ ?_ (fun k hk => ?_) (fun y q hq => ?_)
      · rw [adM_18, i_0, nI_xor, Nat.xor_zero]
      · rw [adM_19, i_0, nI_xor, Nat.xor_zero]
      · rw [adM_20, nI_sum]
      · rw [wr_off _ _ (by omega), kpM_0]
      · rw [wr_eq, nI_sum]
      · rw [wr_off _ _ (by omega), kpM_o J hd40 _ _ (by omega)]; exact hM.2.2.2.2.1
      · rw [wr_off _ _ (by omega), kpM_o J hd40 _ _ (by omega)]; exact hM.2.2.2.2.2
      · rw [wr_off _ _ (by omega), kpM_o J hd40 _ _ (by omega), Int32.add_zero]
      · rw [wr_off _ _ (by omega), kpM_p J d' hk]
      · rw [wr_off _ _ (by omega), kpM_o J hd40 _ _ (by omega)]
  · have q0 : ¬ lg_cmp (nL (l / 8 % 4)) 0 = 0 := fun w => c0 ((nL_0 (by omega)).mp w)
    -- nothing happens
    have hno : ∀ J', mAg (kpM J d') J' → Sim (adM I d' (nI (tt v) ^^^ 0) (nI (tu v) ^^^ 0) (nI (te v) + 0) (J 1 4 + 0)) L P Dr J' M := fun J' g => by
      refine Sim.scr ?_ (cAg.rf _) g
      refine h.deed (n := tn v) (s := ts v) (t := tt v) (u := tu v) (e := te v) (x := J 1 4 + 0) d1 hd40 hC.1.2.2 hC.1.2.1 hv.1 hv.2.1 h1.1 h1.2 e9 (adM_17 _ _ _ _ _ _) ?_ ?_ ?_ (adM_21 _ _ _ _ _ _) (adM_o I d' _ _ _ _) ?_ ?_ ?_ ?_ ?_ (fun k hk => ?_) (fun y q hq => ?_)
      · rw [adM_18, i_0, nI_xor, Nat.xor_zero]
      · rw [adM_19, i_0, nI_xor, Nat.xor_zero]
      · rw [adM_20, Int32.add_zero]
      · rw [kpM_0]
      · rw [kpM_o J hd40 _ _ (by omega)]; exact hM.2.2.2.1
      · rw [kpM_o J hd40 _ _ (by omega)]; exact hM.2.2.2.2.1
      · rw [kpM_o J hd40 _ _ (by omega)]; exact hM.2.2.2.2.2
      · rw [kpM_o J hd40 _ _ (by omega), Int32.add_zero]
      · rw [kpM_p J d' hk]
      · rw [kpM_o J hd40 _ _ (by omega)]
    have clN : (∀ f : Int32 → Option xMem, f 1073741824 = some (adM I d' (nI (tt v) ^^^ 0) (nI (tu v) ^^^ 0) (nI (te v) + 0) (J 1 4 + 0)) → f 1073741824 = some (adM I d' (nI (tt v) ^^^ 0) (nI (tu v) ^^^ 0) (nI (te v) + 0) (J 1 4 + 0))) := fun f g => g
    have big : ¬ ((1073741824 : Int32) / 256) ≤ nI (tl v) := by
      rw [show (1073741824 : Int32) / 256 = nI 4194304 by decide, nI_le_iff (by omega) (by have := hv.2.2.1; omega)]
      have := hv.2.2.1
      omega
    generalize hie : l % tn v = i at hi
    generalize hje : l / 64 % tn v = j at hj
    have c00 : ∀ {α : Type} (a b : α), (if nI i = nI j then a else b) = if i = j then a else b := fun a b => by
      by_cases w : i = j
      · rw [if_pos w, if_pos (by rw [w])]
      · rw [if_neg w, if_neg (by rw [nI_eq_iff (by omega) (by omega)]; exact w)]
    have pre : ∀ (K : xMem → Option (Int32 × xMem)) (fuel : Nat) (x5 : Int32), ¬ x1 ≤ x5 → X5_lots_L1 x1 K (fuel + 1) (nL l0) x5 J = if i = j then X5_lots_L1 x1 K fuel (nL l) (x5 + 1) (kpM J d') else if same v i j then (X5_stonesBy (kpM J d') (nI i)).bind fun v18 => (X5_leastSink (kpM J d') (nI i) (nI j) v18).bind fun q19 => if (q19.2 0 1) < q19.1 then (X5_lots_L1 x1 K fuel (nL l) (x5 + 1) q19.2) else ((X5_goes q19.2 (nI i) (nI j) ((q19.2 0 24) / (16 : Int32)) ((q19.2 0 24) - (q19.2 0 24) / (16 : Int32) * (16 : Int32))).bind fun q21 => X5_lots_L1 x1 K fuel (nL l) (x5 + 1) q21) else X5_lots_L1 x1 K fuel (nL l) (x5 + 1) (kpM J d') := fun K fuel x5 hx => by
      rw [X5_lots_L1]
      rw [if_neg hx, eL, e8, hM.1.2.2, rmL_nL (by omega) hn0 (by omega), bind_s, e64, rmL_nL (by omega) hn0 (by omega), bind_s, keepPast_eq J hd40 d2, bind_s, if_neg q0, nL_32, nL_32, hie, hje, c00]
      by_cases w : i = j
      · rw [if_pos w, if_pos w]
      · rw [if_neg w, if_neg w, hkp.oneEnd hv hi hj, bind_s]
        by_cases s : same v i j
        · rw [if_pos s, if10, if_pos s]
        · rw [if_neg s, if00, if_neg s]
    have cl : X4_doByLot P I (nL l) = (if i = j then (some (1073741824 : Int32)) else if same v i j then some (nI (lstV v i j (stW v i))) else (some (1073741824 : Int32))).bind fun q4 => if (q4 / (256 : Int32)) ≤ nI (tl v) then ((X0_add 17 I (nI (2 ^ i) ||| nI (2 ^ j)) (((q4 - q4 / (256 : Int32) * (256 : Int32)) / (16 : Int32)) ||| (q4 - q4 / (16 : Int32) * (16 : Int32))) (0 : Int32) (q4 / (256 : Int32))).bind fun q11 => some q11) else ((X0_add 17 I (0 : Int32) (0 : Int32) (0 : Int32) (0 : Int32)).bind fun q12 => some q12) := by
      unfold X4_doByLot
      rw [e8, if_neg q0, hC.1.2.2, rmL_nL (by omega) hn0 (by omega), bind_s, e64, rmL_nL (by omega) hn0 (by omega), bind_s, nL_32, nL_32, hie, hje, c00, hC.1.1, i_1, nI_pow (by omega), nI_pow (by omega)]
      congr 1
      by_cases w : i = j
      · rw [if_pos w, if_pos w]
      · rw [if_neg w, if_neg w, hC.apart hv hi hj, bind_s]
        by_cases s : same v i j
        · rw [if_pos s, if_pos (show nI 0 = 0 from rfl), if_pos s, hC.stonesWith hv hi, bind_s, hC.least4 hv hi hj (stW_lt hv i), bind_s]
        · rw [if_neg s, if_neg (by decide), if_neg s]
    have nothing : (X0_add 17 I (0 : Int32) (0 : Int32) (0 : Int32) (0 : Int32)).bind (fun q12 => some q12) = some (adM I d' (nI (tt v) ^^^ 0) (nI (tu v) ^^^ 0) (nI (te v) + 0) (J 1 4 + 0)) := by
      rw [add_eq I hd40 d1, bind_s, d3, d4, d5, d6]
    by_cases w : i = j
    · refine ⟨_, kpM J d', ?_, fun K fuel x5 hx => ?_, hno _ (mAg.rf _), adM_17 _ _ _ _ _ _, sameP _ _ _ _⟩
      · rw [cl, if_pos w, bind_s, if_neg big, nothing]
      · rw [pre K fuel x5 hx, if_pos w]
    · by_cases s : same v i j
      · have hlt := lstV_lt hv i j (stW v i)
        have hst := stW_lt hv i
        have p16 := p2s hv
        obtain ⟨k1, k2, k3⟩ := lstV_sk hv i j (stW v i)
        have hsk := skN_le hv i j (lstV v i j (stW v i) % 256 / 16) (lstV v i j (stW v i) % 256 % 16)
        have n1 := nd0_le k2
        have n2 := nd0_le k3
        have hle := hkp.least hv hi hj (f := stW v i) (by omega)
        have hq16 : lstV v i j (stW v i) % 16 = lstV v i j (stW v i) % 256 % 16 := by omega
        generalize lstV v i j (stW v i) = q at *
        have htl := hv.2.2.1
        have hs24 : s24 (kpM J d') (wr (kpM J d') 0 24 (nI (q % 256))) := ⟨_, rfl⟩
        have at24 : wr (kpM J d') 0 24 (nI (q % 256)) 0 24 = nI (q % 256) := wr_eq _ _ _ _
        have at1 : wr (kpM J d') 0 24 (nI (q % 256)) 0 1 = nI (tl v) := (wr_off _ _ (by omega)).trans hkp.1.1
        by_cases c3 : q / 256 ≤ tl v
        · refine ⟨_, goM (wr (kpM J d') 0 24 (nI (q % 256))) (tt v ^^^ (2 ^ i ||| 2 ^ j)) (tu v ^^^ (q % 256 / 16 ||| q % 256 % 16)) (J 1 4 + nI (skN v i j (q % 256 / 16) (q % 256 % 16))), ?_, fun K fuel x5 hx => ?_, (h.goes hv hC hM hd40 d1 d2 d3 d4 d5 d6 hi hj (a := q % 256 / 16) (b := q % 256 % 16) (by omega) (by omega)).scr (cAg.rf _) (goM_ag hs24.ag _ _ _), adM_17 _ _ _ _ _ _, sameP _ _ _ _⟩
          · rw [cl, if_neg w, if_pos s, bind_s, i_256, i_16, nI_div (by omega) (by omega) (by omega), if_pos ((nI_le_iff (by omega) (by omega)).mpr c3), ← nI_div (a := q) (d := 256) (by omega) (by omega) (by omega), nI_rem (by omega) (by omega) (by omega), nI_rem (by omega) (by omega) (by omega), nI_div (by omega) (by omega) (by omega), nI_div (by omega) (by omega) (by omega), nI_or, nI_or, add_eq I hd40 d1, bind_s, d3, d4, d5, d6, hq16, k1]
            rfl
          · rw [pre K fuel x5 hx, if_neg w, if_pos s, hkp.stonesBy hv hi, bind_s, hle, bind_s]
            dsimp only
            rw [if_neg (show ¬ wr (kpM J d') 0 24 (nI (q % 256)) 0 1 < nI (q / 256) by rw [at1, nI_lt_iff (by omega) (by omega)]; omega), at24, i_16, nI_rem (by omega) (by omega) (by omega), nI_div (by omega) (by omega) (by omega), goes_eq hv (hkp.sc hs24) hi hj (by omega) (by omega), bind_s, hs24.at (by omega), kpM_o J hd40 1 4 (by omega)]
        · refine ⟨_, wr (kpM J d') 0 24 (nI (q % 256)), ?_, fun K fuel x5 hx => ?_, hno _ hs24.ag, adM_17 _ _ _ _ _ _, sameP _ _ _ _⟩
          · rw [cl, if_neg w, if_pos s, bind_s, i_256, nI_div (by omega) (by omega) (by omega), if_neg (by rw [nI_le_iff (by omega) (by omega)]; exact c3), nothing]
          · rw [pre K fuel x5 hx, if_neg w, if_pos s, hkp.stonesBy hv hi, bind_s, hle, bind_s]
            dsimp only
            rw [if_pos (show wr (kpM J d') 0 24 (nI (q % 256)) 0 1 < nI (q / 256) by rw [at1, nI_lt_iff (by omega) (by omega)]; omega)]
      · refine ⟨_, kpM J d', ?_, fun K fuel x5 hx => ?_, hno _ (mAg.rf _), adM_17 _ _ _ _ _ _, sameP _ _ _ _⟩
        · rw [cl, if_neg w, if_neg s, bind_s, if_neg big, nothing]
        · rw [pre K fuel x5 hx, if_neg w, if_neg s]
theorem op_lots (h : Sim I L P Dr J M) (x1 x2 : Int32) : Bt L P Dr M (X4_lots P I x1 x2) (X5_lots J x1 x2) := by
  obtain ⟨v, d, hv, hC, hM, hd, d1, d2, -⟩ := h.opn
  have h6 := hv.1
  unfold X4_lots X5_lots
  have q1 : (1 : Int32).toInt = 1 := rfl
  have q20 : (20 : Int32).toInt = 20 := rfl
  have r1 : (1 : Int64).toInt = 1 := rfl
  have r20 : (20 : Int64).toInt = 20 := rfl
  have rm : (2147483646 : Int64).toInt = 2147483646 := rfl
  have rM : (2147483647 : Int64).toInt = 2147483647 := rfl
  rw [in_spec, in_spec, t64, t64, r1, r20, rm]
  simp only [Int32.lt_iff_toInt_lt, q1, q20]
  by_cases c1 : 1 ≤ x1.toInt ∧ x1.toInt ≤ 20
  · rw [if_neg (by omega), if_neg (by omega), if_pos c1, if10]
    by_cases c2 : 1 ≤ x2.toInt ∧ x2.toInt ≤ 2147483646
    · rw [if_neg (by omega), if_pos ((by
        have := lg_lt0 x2.toInt64 2147483647
        rw [Int32.lt_iff_toInt_lt] at this
        rw [this, t64, rM]
        omega)), if_pos c2, if10, hC.1.2.2, hM.1.2.2]
      by_cases c3 : nI (tn v) = 0
      · rw [if_pos c3, if_pos c3]
        exact Bt.mk rfl rfl rfl h
      · rw [if_neg c3, if_neg c3, i_0, rdI_nI (by omega) (by omega), bind_s, d1, d2]
        obtain ⟨m, hm, rfl⟩ := ix_of (x := x1) (N := 21) ⟨by omega, by omega⟩ (by omega)
        obtain ⟨s, hs, rfl⟩ := ix_of (x := x2) (N := 2147483647) ⟨by omega, by omega⟩ (by omega)
        have hn0 : 0 < tn v := by
          rcases Nat.eq_zero_or_pos (tn v) with w | w
          · exact absurd (by rw [w]; rfl) c3
          · exact w
        rw [nI_sum]
        by_cases c4 : d + m ≤ 40
        · rw [if_pos (by rw [i_40, nI_le_iff (by omega) (by omega)]; omega), if_pos (by rw [i_40, nI_le_iff (by omega) (by omega)]; omega), nI_64 (by omega)]
          refine loop_G (fun fuel k (z : Nat × xMem × xMem) => (X4_lots_L1 P (nI m) (fun (I10 : xMem) => (X0_top 17 I10).bind fun v13 => some ((J6_bitCount_0f7a4 v13), I10)) fuel (nL z.1) (nI k) z.2.1, X5_lots_L1 (nI m) (fun (I9 : xMem) => (rdI I9 1 660 (2 : Int32)).bind fun v27 => (X5_bits v27).bind fun v28 => some (v28, I9)) fuel (nL z.1) (nI k) z.2.2)) (fun o : Option (Int32 × xMem) × Option (Int32 × xMem) => Bt L P Dr M o.1 o.2) m (fun k z => z.1 < 2 ^ 31 ∧ Sim z.2.1 L P Dr z.2.2 M ∧ z.2.1 17 0 = nI (d + k) ∧ z.2.1 P 2 = nI (tn v))
            (fun fuel k z hk hI => ?_) (fun fuel z hI => ?_) m bigF 0 (s, I, J) (by omega) (bigF_gt (by omega)) ⟨by show s < _; omega, h, d1, hC.1.2.2⟩
          · obtain ⟨l0, A, B⟩ := z
            obtain ⟨g1, g2, g3, g4⟩ := hI
            obtain ⟨A', B', f1, f2, f3, f4, f5⟩ := g2.lot (l := l0 * 48271 % 2147483647) g4 h6 hn0 g3 (by omega) (by omega) g1 rfl (nI m)
            have hlt : ¬ nI m ≤ nI k := by rw [nI_le_iff (by omega) (by omega)]; omega
            refine Or.inr ⟨(l0 * 48271 % 2147483647, A', B'), ?_, by show _ % _ < _; omega, f3, f4, f5⟩
            show (X4_lots_L1 P (nI m) _ (fuel + 1) (nL l0) (nI k) A, X5_lots_L1 (nI m) _ (fuel + 1) (nL l0) (nI k) B) = _
            rw [f2 _ _ _ hlt, X4_lots_L1]
            have eL : nL l0 * 48271 - nL l0 * 48271 / 2147483647 * 2147483647 = nL (l0 * 48271 % 2147483647) := by
              have g1 : l0 < 2 ^ 31 := g1
              rw [show (48271 : Int64) = nL 48271 from rfl, show (2147483647 : Int64) = nL 2147483647 from rfl, nL_mul (by omega) (by omega) (by omega), nL_rem (by omega) (by omega)]
            rw [if_neg hlt, eL, f1, bind_s, i_1, nI_sum]
          · obtain ⟨l0, A, B⟩ := z
            obtain ⟨g1, g2, g3, g4⟩ := hI
            obtain ⟨v', k1, k2, k3⟩ := g2.view
            have g2 : Sim A L P Dr B M := g2
            have k2 : VC A P v' := k2
            have k3 : VM B v' := k3
            show Bt L P Dr M (X4_lots_L1 P (nI m) _ (fuel + 1) (nL l0) (nI m) A) (X5_lots_L1 (nI m) _ (fuel + 1) (nL l0) (nI m) B)
            rw [X4_lots_L1, X5_lots_L1]
            rw [if_pos (Int32.le_refl _), if_pos (Int32.le_refl _), k2.top, bind_s, i_2, rdI_nI (by omega) (by omega), bind_s, k3.2.2.2.2.1, bits_pc (tt_lt k1), bind_s, bc_pc _ (tt_lt k1)]
            exact Bt.mk rfl rfl rfl g2
        · rw [if_neg (by rw [i_40, nI_le_iff (by omega) (by omega)]; omega), if_neg (by rw [i_40, nI_le_iff (by omega) (by omega)]; omega)]
          exact Bt.mk rfl rfl rfl h
    · rw [if_neg c2, if00]
      by_cases c3 : x2.toInt < 1
      · rw [if_pos c3]
        exact Bt.mk rfl rfl rfl h
      · rw [if_neg c3, if_neg ((by
          have := lg_lt0 x2.toInt64 2147483647
          rw [Int32.lt_iff_toInt_lt] at this
          rw [this, t64, rM]
          omega))]
        exact Bt.mk rfl rfl rfl h
  · rw [if_neg c1, if00]
    by_cases c2 : x1.toInt < 1
    · rw [if_pos c2]
      exact Bt.mk rfl rfl rfl h
    · rw [if_neg c2, if_pos (by omega)]
      exact Bt.mk rfl rfl rfl h
end OPL
