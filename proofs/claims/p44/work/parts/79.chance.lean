/-! BY TURNS, CHANCES, LOTS, COUNTS, the class alone -/
section CSC
variable {I : xMem} {L : xLon} {P Dr : Nat} {v : TV} {D : DD}
theorem cs_count2 (h : CS I P Dr v D) : X4_count P I 2 = some (nI (dd D)) := by
  unfold X4_count
  rw [if_neg (by decide), if_neg (by decide), if_pos rfl, h.2.2.2.2.1]
theorem cs_count3 (h : CS I P Dr v D) : X4_count P I 3 = some (nI (te (now v D))) := by
  unfold X4_count
  rw [if_neg (by decide), if_neg (by decide), if_neg (by decide), if_pos rfl, h.vc.eaten, bind_s]
theorem cs_count4 (h : CS I P Dr v D) : X4_count P I 4 = some (nI (tt (now v D))) := by
  unfold X4_count
  rw [if_neg (by decide), if_neg (by decide), if_neg (by decide), if_neg (by decide), if_pos rfl, h.vc.top, bind_s]
theorem cs_count5 (h : CS I P Dr v D) : X4_count P I 5 = some (nI (tu (now v D))) := by
  unfold X4_count
  rw [if_neg (by decide), if_neg (by decide), if_neg (by decide), if_neg (by decide), if_neg (by decide), if_pos rfl, h.vc.stonesUp, bind_s]
theorem cs_count7 (h : CS I P Dr v D) : X4_count P I 7 = some (nI (dS D (dd D))) := by
  have d1 := h.2.2.2.2.1
  have d40 := h.d40
  obtain ⟨k1, k2, k3, k4⟩ := h.2.2.2.2.2 _ (Nat.le_refl _)
  unfold X4_count X0_stepsSunk
  rw [if_neg (by decide), if_neg (by decide), if_neg (by decide), if_neg (by decide), if_neg (by decide), if_neg (by decide), if_neg (by decide), if_pos rfl, d1, rdI_nI (by omega) (by omega), bind_s, k4, bind_s]
theorem cs_send (h : CS I P Dr v D) {n : Nat} (hn : n ≤ 2) : ∃ I', X4_send P I (nI n) = some (nI (sv (now v D) (2 * n) (tt (now v D))), I') ∧ qAg I I' := by
  have hv := h.vok
  have hC := h.vc
  have hP := h.pd
  have h6 := h.n2
  have e0 : tn (now v D) = tn v := rfl
  obtain ⟨I1, e1, e2, e3⟩ := hC.ways hP hv
  have hC1 := hC.wA2 hP e2
  obtain ⟨I2, f1, f2⟩ := byTurns_eq hv e3 (n := n) (t := tt (now v D)) (by omega) (tt_lt hv)
  refine ⟨I2, ?_, (qAg.c e2.c).tr (qAg.c f2)⟩
  unfold X4_send
  rw [if_neg (by rw [i_0, nI_lt_iff (by omega) (by omega)]; omega), if_pos (by rw [i_2, nI_le_iff (by omega) (by omega)]; omega), hC.1.2.2, if_neg (by rw [i_0, nI_eq_iff (by omega) (by omega)]; omega), e1, bind_s, hC1.top, bind_s, i_2, nI_mul, f1, bind_s]
/-- what is told of a chance, in lowest terms -/
def frL (L : xLon) (a b : Nat) : xLon := wrL (wrL L 11 (nL (a / Nat.gcd a b))) 12 (nL (b / Nat.gcd a b))
theorem frL_up (L : xLon) (a b : Nat) : X4_upper (frL L a b) = nL (a / Nat.gcd a b) := rfl
theorem frL_lo (L : xLon) (a b : Nat) : X4_lower (frL L a b) = nL (b / Nat.gcd a b) := rfl
theorem den_lt {w : TV} (hv : vOk w) (i : Nat) : 12 ^ pc (stW w i) ≤ 20736 ∧ 0 < 12 ^ pc (stW w i) := by
  have h1 := stW_lt hv i
  have h2 := p2s hv
  have : ∀ t, t < 16 → 12 ^ pc t ≤ 20736 := by decide +kernel
  exact ⟨this _ (by omega), Nat.pos_of_ne_zero (by simp)⟩
theorem cs_odds (h : CS I P Dr v D) {i j p : Nat} (hi : i < tn v) (hj : j < tn v) (hij : i ≠ j) (hp : p < 13) : X4_odds P I L (nI i) (nI j) (nI p) = if same (now v D) i j then some (1, frL L (upN (now v D) i j 0 p) (12 ^ pc (stW (now v D) i))) else some (-4, L) := by
  have hv := h.vok
  have hC := h.vc
  have h6 := h.n2
  have hd := den_lt hv i
  unfold X4_odds
  rw [h.np hi hj hij, if00, if_neg (by rw [i_0, nI_lt_iff (by omega) (by omega)]; omega), if_pos (by rw [i_12, nI_le_iff (by omega) (by omega)]; omega), hC.apart hv hi hj, bind_s]
  by_cases c : same (now v D) i j
  · have hs := stW_lt hv i
    have h16 := p2s hv
    have hu : upN (now v D) i j 0 p ≤ 20736 * 255 * 16 := up_lt hv i j 0 hp (n := 16) (by omega)
    rw [if_pos c, if_pos (show nI 0 = 0 from rfl), if_pos c]
    refine (oddsC_sum hv hC hi hj hp _).trans ?_
    rw [hC.stonesWith hv hi, bind_s, bc_pc _ (by omega), i_12, power_eq (by omega) (pc_le _), bind_s, tellC_eq L (by omega) (by omega) hd.2, bind_s]
    rfl
  · rw [if_neg c, if_neg (by decide), if_neg c]
theorem cs_mid (h : CS I P Dr v D) {i j p : Nat} (hi : i < tn v) (hj : j < tn v) (hij : i ≠ j) (hp : p < 13) : X4_mid P I L (nI i) (nI j) (nI p) = if same (now v D) i j then some (1, frL L (upN (now v D) i j 1 p) (12 ^ pc (stW (now v D) i))) else some (-4, L) := by
  have hv := h.vok
  have hC := h.vc
  have h6 := h.n2
  have hd := den_lt hv i
  unfold X4_mid
  rw [h.np hi hj hij, if00, if_neg (by rw [i_0, nI_lt_iff (by omega) (by omega)]; omega), if_pos (by rw [i_12, nI_le_iff (by omega) (by omega)]; omega), hC.apart hv hi hj, bind_s]
  by_cases c : same (now v D) i j
  · have hs := stW_lt hv i
    have h16 := p2s hv
    have hu : upN (now v D) i j 1 p ≤ 20736 * 255 * 16 := up_lt hv i j 1 hp (n := 16) (by omega)
    rw [if_pos c, if_pos (show nI 0 = 0 from rfl), if_pos c]
    refine (midC_sum hv hC hi hj hp _).trans ?_
    rw [hC.stonesWith hv hi, bind_s, bc_pc _ (by omega), i_12, power_eq (by omega) (pc_le _), bind_s, tellC_eq L (by omega) (by omega) hd.2, bind_s]
    rfl
  · rw [if_neg c, if_neg (by decide), if_neg c]
/-- deeds ahead are as they were -/
def dagr (D D' : DD) : Prop := ∀ k, k ≤ dd D → dT D' k = dT D k ∧ dU D' k = dU D k ∧ dE D' k = dE D k ∧ dS D' k = dS D k
theorem dagr_push (D : DD) (t u e x : Nat) : dagr D (dpush D t u e x) := fun k hk => by
  have e : ¬ k = dd D + 1 := by omega
  simp only [dpush, dT, dU, dE, dS, e, if_false]
  exact ⟨trivial, trivial, trivial, trivial⟩
theorem dagr.tr {A B C : DD} (h : dagr A B) (g : dagr B C) (hle : dd A ≤ dd B) : dagr A C := fun k hk => by
  obtain ⟨a1, a2, a3, a4⟩ := h k hk
  obtain ⟨b1, b2, b3, b4⟩ := g k (by omega)
  exact ⟨b1.trans a1, b2.trans a2, b3.trans a3, b4.trans a4⟩
theorem cs_lot (h : CS I P Dr v D) (hd : dd D < 40) {l : Nat} (hl : l < 2 ^ 31) : ∃ I' D', X4_doByLot P I (nL l) = some I' ∧ hAg I I' ∧ CS I' P Dr v D' ∧ dd D' = dd D + 1 ∧ dagr D D' := by
  have hv := h.vok
  have hC := h.vc
  have hP := h.pd
  have h6 := h.n2
  have e0 : tn (now v D) = tn v := rfl
  have hn0 : 0 < tn v := by omega
  have e9 := hv.2.2.2.2.2.2.1
  have h1 := hv.2.2.2.2.2.2.2
  have htl := hv.2.2.1
  have d1 := h.2.2.2.2.1
  obtain ⟨k1, k2, k3, k4⟩ := h.2.2.2.2.2 _ (Nat.le_refl _)
  have hsle := (h.2.2.2.1.2.1 _ (Nat.le_refl _)).2.2
  have e8 : nL l / 8 - nL l / 8 / 4 * 4 = nL (l / 8 % 4) := by
    rw [show (8 : Int64) = nL 8 from rfl, show (4 : Int64) = nL 4 from rfl, nL_div (by omega) (by omega), nL_rem (by omega) (by omega)]
  have e64 : nL l / 64 = nL (l / 64) := nL_div (b := 64) (by omega) (by omega)
  have hi : l % tn v < tn v := Nat.mod_lt _ hn0
  have hj : l / 64 % tn v < tn v := Nat.mod_lt _ hn0
  -- a deed that moves nobody
  have hno : ∀ e, e ≤ 9 → CS (adM I (dd D) (I 18 (dd D) ^^^ 0) (I 19 (dd D) ^^^ 0) (nI e) (I 21 (dd D) + 0)) P Dr v (dpush D (tt (now v D)) (tu (now v D)) e (dS D (dd D))) := fun e he => by
    refine h.push hd h1.1 h1.2 he h.even (Nat.le_refl _) (by omega) (adM_17 _ _ _ _ _ _) ?_ ?_ ?_ ?_ (fun k q hk _ => adM_o I _ _ _ _ _ _ _ hk)
    · rw [adM_18, k1, i_0, nI_xor, Nat.xor_zero]
      rfl
    · rw [adM_19, k2, i_0, nI_xor, Nat.xor_zero]
      rfl
    · rw [adM_20]
    · rw [adM_21, k4, Int32.add_zero]
  by_cases c0 : l / 8 % 4 = 0
  · have q0 : lg_cmp (nL (l / 8 % 4)) 0 = 0 := (nL_0 (by omega)).mpr c0
    refine ⟨adM I (dd D) (I 18 (dd D) ^^^ 0) (I 19 (dd D) ^^^ 0) (nI (te (now v D) + if 9 ≤ te (now v D) then 0 else 1)) (I 21 (dd D) + 0), _, ?_, fun k q hk => adM_o I _ _ _ _ _ _ _ (by omega), hno _ (by split <;> omega), rfl, dagr_push _ _ _ _ _⟩
    unfold X4_doByLot
    rw [e8, if_pos q0, hC.eaten, bind_s, ite_bind, add_eq I hd d1, bind_s, ← nI_sum]
    congr 3
    exact if9 e9
  · have q0 : ¬ lg_cmp (nL (l / 8 % 4)) 0 = 0 := fun w => c0 ((nL_0 (by omega)).mp w)
    have big : ¬ ((1073741824 : Int32) / 256) ≤ nI (tl (now v D)) := by
      rw [show (1073741824 : Int32) / 256 = nI 4194304 by decide, nI_le_iff (by omega) (by omega)]
      omega
    generalize hie : l % tn v = i at hi
    generalize hje : l / 64 % tn v = j at hj
    have c00 : ∀ {α : Type} (a b : α), (if nI i = nI j then a else b) = if i = j then a else b := fun a b => by
      by_cases w : i = j
      · rw [if_pos w, if_pos (by rw [w])]
      · rw [if_neg w, if_neg (by rw [nI_eq_iff (by omega) (by omega)]; exact w)]
    have cl : X4_doByLot P I (nL l) = (if i = j then (some (1073741824 : Int32)) else if same (now v D) i j then some (nI (lstV (now v D) i j (stW (now v D) i))) else (some (1073741824 : Int32))).bind fun q4 => if (q4 / (256 : Int32)) ≤ nI (tl (now v D)) then ((X0_add 17 I (nI (2 ^ i) ||| nI (2 ^ j)) (((q4 - q4 / (256 : Int32) * (256 : Int32)) / (16 : Int32)) ||| (q4 - q4 / (16 : Int32) * (16 : Int32))) (0 : Int32) (q4 / (256 : Int32))).bind fun q11 => some q11) else ((X0_add 17 I (0 : Int32) (0 : Int32) (0 : Int32) (0 : Int32)).bind fun q12 => some q12) := by
      unfold X4_doByLot
      rw [e8, if_neg q0, hC.1.2.2, e0, rmL_nL (by omega) hn0 (by omega), bind_s, e64, rmL_nL (by omega) hn0 (by omega), bind_s, nL_32, nL_32, hie, hje, c00, hC.1.1, i_1, nI_pow (by omega), nI_pow (by omega)]
      congr 1
      by_cases w : i = j
      · rw [if_pos w, if_pos w]
      · rw [if_neg w, if_neg w, hC.apart hv hi hj, bind_s]
        by_cases s : same (now v D) i j
        · rw [if_pos s, if_pos (show nI 0 = 0 from rfl), if_pos s, hC.stonesWith hv hi, bind_s, hC.least4 hv hi hj (stW_lt hv i), bind_s]
        · rw [if_neg s, if_neg (by decide), if_neg s]
    have nothing : (X0_add 17 I (0 : Int32) (0 : Int32) (0 : Int32) (0 : Int32)).bind (fun q12 => some q12) = some (adM I (dd D) (I 18 (dd D) ^^^ 0) (I 19 (dd D) ^^^ 0) (nI (te (now v D))) (I 21 (dd D) + 0)) := by
      rw [add_eq I hd d1, bind_s, k3, Int32.add_zero]
      rfl
    have stay : ∀ o, X4_doByLot P I (nL l) = o → o = some (adM I (dd D) (I 18 (dd D) ^^^ 0) (I 19 (dd D) ^^^ 0) (nI (te (now v D))) (I 21 (dd D) + 0)) → ∃ I' D', X4_doByLot P I (nL l) = some I' ∧ hAg I I' ∧ CS I' P Dr v D' ∧ dd D' = dd D + 1 ∧ dagr D D' := fun o h1 h2 => ⟨_, _, h1.trans h2, fun k q hk => adM_o I _ _ _ _ _ _ _ (by omega), hno _ e9, rfl, dagr_push _ _ _ _ _⟩
    by_cases w : i = j
    · refine stay _ cl ?_
      rw [if_pos w, bind_s, if_neg big, nothing]
    · by_cases s : same (now v D) i j
      · have hlt := lstV_lt hv i j (stW (now v D) i)
        have hst := stW_lt hv i
        have p16 := p2s hv
        obtain ⟨g1, g2, g3⟩ := lstV_sk hv i j (stW (now v D) i)
        have hsk := skN_le hv i j (lstV (now v D) i j (stW (now v D) i) % 256 / 16) (lstV (now v D) i j (stW (now v D) i) % 256 % 16)
        have n1 := nd0_le g2
        have n2 := nd0_le g3
        have hq16 : lstV (now v D) i j (stW (now v D) i) % 16 = lstV (now v D) i j (stW (now v D) i) % 256 % 16 := by omega
        generalize lstV (now v D) i j (stW (now v D) i) = q at *
        by_cases c3 : q / 256 ≤ tl (now v D)
        · have e2 : ts (now v D) = ts v := rfl
          refine ⟨adM I (dd D) (I 18 (dd D) ^^^ (nI (2 ^ i) ||| nI (2 ^ j))) (I 19 (dd D) ^^^ (nI (q % 256 / 16) ||| nI (q % 256 % 16))) (I 20 (dd D) + 0) (I 21 (dd D) + nI (q / 256)), dpush D (goT (now v D) i j) (goU (now v D) (q % 256 / 16) (q % 256 % 16)) (te (now v D)) (dS D (dd D) + q / 256), ?_, fun k q hk => adM_o I _ _ _ _ _ _ _ (by omega), ?_, rfl, dagr_push _ _ _ _ _⟩
          · rw [cl, if_neg w, if_pos s, bind_s, i_256, i_16, nI_div (by omega) (by omega) (by omega), if_pos ((nI_le_iff (by omega) (by omega)).mpr c3), ← nI_div (a := q) (d := 256) (by omega) (by omega) (by omega), nI_rem (by omega) (by omega) (by omega), nI_rem (by omega) (by omega) (by omega), nI_div (by omega) (by omega) (by omega), nI_div (by omega) (by omega) (by omega), add_eq I hd d1, bind_s, hq16]
          · refine h.push hd (goT_lt hv hi hj) (goU_lt hv (by omega) (by omega)) e9 ?_ (Nat.le_add_right _ _) (by omega) (adM_17 _ _ _ _ _ _) ?_ ?_ ?_ ?_ (fun k q hk _ => adM_o I _ _ _ _ _ _ _ hk)
            · rw [goT, pc_xpr (tt_lt hv) (by omega) (by omega) w]
              exact h.even
            · rw [adM_18, k1, nI_or, nI_xor]
              rfl
            · rw [adM_19, k2, nI_or, nI_xor]
              rfl
            · rw [adM_20, k3, Int32.add_zero]
              rfl
            · rw [adM_21, k4, nI_sum]
        · refine stay _ cl ?_
          rw [if_neg w, if_pos s, bind_s, i_256, nI_div (by omega) (by omega) (by omega), if_neg (by rw [nI_le_iff (by omega) (by omega)]; exact c3), nothing]
      · refine stay _ cl ?_
        rw [if_neg w, if_neg s, bind_s, if_neg big, nothing]
theorem cs_lots (h : CS I P Dr v D) {n s : Nat} (hn : 1 ≤ n) (hn20 : n ≤ 20) (hd : dd D + n ≤ 40) (hs1 : 1 ≤ s) (hs2 : s < 2147483647) : ∃ I' D', X4_lots P I (nI n) (nI s) = some (nI (pc (tt (now v D'))), I') ∧ hAg I I' ∧ CS I' P Dr v D' ∧ dd D' = dd D + n ∧ dagr D D' := by
  have hC := h.vc
  have h6 := h.n2
  have e0 : tn (now v D) = tn v := rfl
  have d1 := h.2.2.2.2.1
  unfold X4_lots
  rw [if_neg (by rw [i_1, nI_lt_iff (by omega) (by omega)]; omega), if_neg (by rw [i_20, nI_lt_iff (by omega) (by omega)]; omega), if_neg (by rw [i_1, nI_lt_iff (by omega) (by omega)]; omega), nI_64 (by omega), show (2147483647 : Int64) = nL 2147483647 from rfl, if_pos ((nL_lt (b := 2147483647) (by omega) (by omega)).mpr hs2), hC.1.2.2, if_neg (by rw [i_0, nI_eq_iff (by omega) (by omega)]; omega), d1, nI_sum, if_pos (by rw [i_40, nI_le_iff (by omega) (by omega)]; omega)]
  have key : ∀ (m fuel k l : Nat) (A : xMem) (B : DD), k + m = n → m < fuel → l < 2147483647 → hAg I A → CS A P Dr v B → dd B = dd D + k → dagr D B → ∃ I' D', X4_lots_L1 P (nI n) (fun (I10 : xMem) => (X0_top 17 I10).bind fun v13 => some ((J6_bitCount_0f7a4 v13), I10)) fuel (nL l) (nI k) A = some (nI (pc (tt (now v D'))), I') ∧ hAg I I' ∧ CS I' P Dr v D' ∧ dd D' = dd D + n ∧ dagr D D' := by
    intro m
    induction m with
    | zero =>
      intro fuel k l A B hk hf hl g1 g2 g3 g4
      obtain ⟨f, rfl⟩ : ∃ f, fuel = f + 1 := ⟨fuel - 1, by omega⟩
      rw [X4_lots_L1]
      rw [if_pos (by rw [nI_le_iff (by omega) (by omega)]; omega), g2.vc.top, bind_s, bc_pc _ (tt_lt g2.vok)]
      exact ⟨A, B, rfl, g1, g2, by omega, g4⟩
    | succ m ih =>
      intro fuel k l A B hk hf hl g1 g2 g3 g4
      obtain ⟨f, rfl⟩ : ∃ f, fuel = f + 1 := ⟨fuel - 1, by omega⟩
      have eL : nL l * 48271 - nL l * 48271 / 2147483647 * 2147483647 = nL (l * 48271 % 2147483647) := by
        rw [show (48271 : Int64) = nL 48271 from rfl, show (2147483647 : Int64) = nL 2147483647 from rfl, nL_mul (by omega) (by omega) (by omega), nL_rem (by omega) (by omega)]
      have hl2 : l * 48271 % 2147483647 < 2147483647 := Nat.mod_lt _ (by decide)
      obtain ⟨A', B', a1, a2, a3, a4, a5⟩ := cs_lot g2 (by omega) (l := l * 48271 % 2147483647) (by omega)
      rw [X4_lots_L1]
      rw [if_neg (by rw [nI_le_iff (by omega) (by omega)]; omega), eL, a1, bind_s, i_1, nI_sum]
      exact ih f (k + 1) _ A' B' (by omega) (by omega) hl2 (g1.tr a2) a3 (by omega) (g4.tr a5 (by omega))
  exact key n bigF 0 s I D (by omega) (bigF_gt (by omega)) hs2 (hAg.rf I) h (by omega) (fun k _ => ⟨rfl, rfl, rfl, rfl⟩)
end CSC
