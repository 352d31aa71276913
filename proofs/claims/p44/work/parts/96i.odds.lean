/-! THE LAW: chances -/
section LO
variable {tI : xTab} {P Dr : Nat} {v : TV} {D : DD} {A I : xMem} {L : xLon} {x7 : Int64} {x9 x10 : Int32}
variable {G67 : (Int32 → Int32 → Int32 → Int64 → Int32 → xMem → xLon → Option Int32)} {i o p : Nat}
theorem lgz {a b : Nat} (h : a = b) : lg_cmp (nL a) (nL b) = 0 := (lg_eq0 _ _).mpr (by rw [h])
theorem gg_01 (w : TV) (i j f : Nat) : gg w i j 0 f = if lstV w i j f / 256 ≤ tl w then 1 else 0 := rfl
theorem gg_1 (w : TV) (i j f : Nat) : gg w i j 1 f = lstV w i j f / 256 := rfl
theorem x_2311 (h : LI A I P Dr v D) (hi : i < tn v) (ho : o < tn v) (hio : o ≠ i) (hp : p < 13) (hs : same (now v D) i o) (hE : ∀ (I : xMem) (L : xLon), LI A I P Dr v D → XC_2367 tI P Dr G67 (nI (tn v)) (nI (tl v)) (nI (allS v)) x7 x9 x10 (nI (dd D)) (nI (te (now v D))) (nI (tt (now v D))) (nI (tu (now v D))) (nI (dS D (dd D))) I L = some 1) : XC_2311 tI P Dr G67 (nI (tn v)) (nI (tl v)) (nI (allS v)) x7 x9 x10 (nI (dd D)) (nI (te (now v D))) (nI (tt (now v D))) (nI (tu (now v D))) (nI (dS D (dd D))) (nI i) (nI o) (nI p) (nI (bestN (now v D) i o / 256)) I L = some 1 := by
  have hC := h.cs
  have hv := hC.vok
  have hd := den_lt hv i
  have hlt : bestN (now v D) i o < 65536 := lstV_lt hv i o _
  have hsk := skN_le hv i o 0 0
  have e := cs_mid (L := L) hC hi ho (fun w => hio w.symm) hp
  rw [if_pos hs] at e
  have b := up_between hv i o 1 hp (lo := bestN (now v D) i o / 256) (hi := skN (now v D) i o 0 0) (fun x hx hn => ⟨lst_sub hv i o hn, lst_none hv i o x⟩)
  have q := fr_le (a := upN (now v D) i o 1 p) (c := bestN (now v D) i o / 256) hd.2
  have q2 := fr_le (a := upN (now v D) i o 1 p) (c := skN (now v D) i o 0 0) hd.2
  have r1 := q.1 b.1
  have r2 := q2.2 b.2
  have hg : 0 < Nat.gcd (upN (now v D) i o 1 p) (12 ^ pc (stW (now v D) i)) := Nat.gcd_pos_of_pos_right _ hd.2
  have hden : 12 ^ pc (stW (now v D) i) / Nat.gcd (upN (now v D) i o 1 p) (12 ^ pc (stW (now v D) i)) ≤ 20736 := Nat.le_trans (Nat.div_le_self _ _) hd.1
  have hup : upN (now v D) i o 1 p / Nat.gcd (upN (now v D) i o 1 p) (12 ^ pc (stW (now v D) i)) ≤ 20736 * 149 := Nat.le_trans r2 (Nat.mul_le_mul hden hsk)
  have hm1 : bestN (now v D) i o / 256 * (12 ^ pc (stW (now v D) i) / Nat.gcd (upN (now v D) i o 1 p) (12 ^ pc (stW (now v D) i))) ≤ 256 * 20736 := Nat.mul_le_mul (by omega) hden
  have hm2 : skN (now v D) i o 0 0 * (12 ^ pc (stW (now v D) i) / Nat.gcd (upN (now v D) i o 1 p) (12 ^ pc (stW (now v D) i))) ≤ 256 * 20736 := Nat.mul_le_mul (by omega) hden
  unfold XC_2311
  rw [e, bind_s, if_pos rfl]
  dsimp only
  rw [frL_up, frL_lo, nI_64 (by omega)]
  rw [Nat.mul_comm] at r1 r2
  generalize 12 ^ pc (stW (now v D) i) / Nat.gcd (upN (now v D) i o 1 p) (12 ^ pc (stW (now v D) i)) = dn at *
  generalize upN (now v D) i o 1 p / Nat.gcd (upN (now v D) i o 1 p) (12 ^ pc (stW (now v D) i)) = up at *
  rw [nL_mul (by omega) (by omega) (by omega), if_neg (fun w => by
    have := (nL_lt (by omega) (by omega)).mp w
    omega), cs_sink0 hC hi ho (fun w => hio w.symm), bind_s, nI_64 (by omega), nL_mul (by omega) (by omega) (by omega), if_pos (Int32.not_lt.mp fun w => by
    have := (nL_gt (by omega) (by omega)).mp w
    omega)]
  exact hE I _ h
theorem x_2233 (h : LI A I P Dr v D) (hi : i < tn v) (ho : o < tn v) (hio : o ≠ i) (hp : p < 13) (hs : same (now v D) i o) (hE : ∀ (I : xMem) (L : xLon), LI A I P Dr v D → XC_2367 tI P Dr G67 (nI (tn v)) (nI (tl v)) (nI (allS v)) x7 x9 x10 (nI (dd D)) (nI (te (now v D))) (nI (tt (now v D))) (nI (tu (now v D))) (nI (dS D (dd D))) I L = some 1) {a b : Nat} (hab : a ≤ b) (hb : b < 100000) (e1 : X4_upper L = nL a) (e2 : X4_lower L = nL b) : XC_2233 tI P Dr G67 (nI (tn v)) (nI (tl v)) (nI (allS v)) x7 x9 x10 (nI (dd D)) (nI (te (now v D))) (nI (tt (now v D))) (nI (tu (now v D))) (nI (dS D (dd D))) (nI i) (nI o) (nI p) (nI (bestN (now v D) i o / 256)) I L = some 1 := by
  have hC := h.cs
  have hv := hC.vok
  have hd := den_lt hv i
  have hlt : bestN (now v D) i o < 65536 := lstV_lt hv i o _
  have hsk := skN_le hv i o 0 0
  have ne : i ≠ o := fun w => hio w.symm
  have m0 := cs_mid (L := L) hC hi ho ne (p := 0) (by omega)
  rw [if_pos hs, up_p0 hv, gg_1] at m0
  have m12 := fun L' => cs_mid (L := L') hC hi ho ne (p := 12) (by omega)
  simp only [if_pos hs, up_p12 hv, gg_1, lst_0 hv] at m12
  have f0 := fr_mul (a := lstV (now v D) i o (stW (now v D) i) / 256) hd.2
  have f12 := fr_mul (a := skN (now v D) i o 0 0) hd.2
  have m0 : X4_mid P I L (nI i) (nI o) 0 = _ := m0
  unfold XC_2233
  rw [e1, e2, if_neg (fun w => by
    have := (nL_gt (by omega) (by omega)).mp w
    omega), m0, bind_s, if_pos rfl]
  dsimp only
  rw [frL_up, frL_lo, f0.1, f0.2, nI_64 (by omega), if_pos (lgz (a := lstV (now v D) i o (stW (now v D) i) / 256) (b := bestN (now v D) i o / 256) rfl), if_pos (show lg_cmp (nL 1) 1 = 0 from lgz (b := 1) rfl)]
  generalize frL L (12 ^ pc (stW (now v D) i) * (lstV (now v D) i o (stW (now v D) i) / 256)) (12 ^ pc (stW (now v D) i)) = L1
  have m12' : X4_mid P I L1 (nI i) (nI o) 12 = _ := m12 L1
  rw [m12', bind_s, if_pos rfl]
  dsimp only
  rw [cs_sink0 hC hi ho ne, bind_s, frL_up, f12.1, nI_64 (by omega), if_pos (lgz rfl)]
  exact x_2311 h hi ho hio hp hs hE
theorem x_2159 (h : LI A I P Dr v D) (hi : i < tn v) (ho : o < tn v) (hio : o ≠ i) (hp : p < 13) (hs : same (now v D) i o) (hE : ∀ (I : xMem) (L : xLon), LI A I P Dr v D → XC_2367 tI P Dr G67 (nI (tn v)) (nI (tl v)) (nI (allS v)) x7 x9 x10 (nI (dd D)) (nI (te (now v D))) (nI (tt (now v D))) (nI (tu (now v D))) (nI (dS D (dd D))) I L = some 1) (e1 : X4_lower L = nL 1) : XC_2159 tI P Dr G67 (nI (tn v)) (nI (tl v)) (nI (allS v)) x7 x9 x10 (nI (dd D)) (nI (te (now v D))) (nI (tt (now v D))) (nI (tu (now v D))) (nI (dS D (dd D))) (nI i) (nI o) (nI p) (nI (bestN (now v D) i o / 256)) I L = some 1 := by
  have hC := h.cs
  have hv := hC.vok
  have hd := den_lt hv i
  have hlim := hC.lim
  have hsk := skN_le hv i o 0 0
  have ne : i ≠ o := fun w => hio w.symm
  have m12 := cs_odds (L := L) hC hi ho ne (p := 12) (by omega)
  rw [if_pos hs, up_p12 hv, gg_01, lst_0 hv] at m12
  have f12 := fr_mul (a := if skN (now v D) i o 0 0 ≤ tl (now v D) then 1 else 0) hd.2
  have m12 : X4_odds P I L (nI i) (nI o) 12 = _ := m12
  have mp := fun L' => cs_odds (L := L') hC hi ho ne hp
  simp only [if_pos hs] at mp
  have b := up_between hv i o 0 hp (lo := 0) (hi := 1) (fun x hx hn => ⟨Nat.zero_le _, by rw [gg_01]; split <;> omega⟩)
  have q := fr_le (a := upN (now v D) i o 0 p) (c := 1) hd.2
  have r2 := q.2 b.2
  rw [Nat.mul_one] at r2
  have hden : 12 ^ pc (stW (now v D) i) / Nat.gcd (upN (now v D) i o 0 p) (12 ^ pc (stW (now v D) i)) ≤ 20736 := Nat.le_trans (Nat.div_le_self _ _) hd.1
  have hx : (if nI (tl v) < nI (skN (now v D) i o 0 0) then some (0 : Int64) else some (1 : Int64)) = some (nL (if skN (now v D) i o 0 0 ≤ tl (now v D) then 1 else 0)) := by
    have e3 : tl (now v D) = tl v := rfl
    rw [e3]
    by_cases z : skN (now v D) i o 0 0 ≤ tl v
    · rw [if_neg (by rw [nI_lt_iff (by omega) (by omega)]; omega), if_pos z]
      rfl
    · rw [if_pos (by rw [nI_lt_iff (by omega) (by omega)]; omega), if_neg z]
      rfl
  unfold XC_2159
  rw [e1, if_pos (show lg_cmp (nL 1) 1 = 0 from lgz (b := 1) rfl), m12, bind_s, if_pos rfl, cs_sink0 hC hi ho ne, bind_s, hx, bind_s]
  dsimp only
  rw [frL_up, f12.1, if_pos (lgz rfl), mp, bind_s, if_pos rfl]
  dsimp only
  have hge : ¬ lg_cmp (nL (upN (now v D) i o 0 p / Nat.gcd (upN (now v D) i o 0 p) (12 ^ pc (stW (now v D) i)))) 0 < 0 := fun w => absurd ((nL_lt (b := 0) (Nat.lt_of_le_of_lt (Nat.le_trans r2 hden) (by decide)) (by decide)).mp w) (Nat.not_lt_zero _)
  rw [frL_up, if_neg hge]
  exact x_2233 h hi ho hio hp hs hE (a := upN (now v D) i o 0 p / Nat.gcd (upN (now v D) i o 0 p) (12 ^ pc (stW (now v D) i))) (b := 12 ^ pc (stW (now v D) i) / Nat.gcd (upN (now v D) i o 0 p) (12 ^ pc (stW (now v D) i))) r2 (by omega) rfl rfl
theorem x_2080 (h : LI A I P Dr v D) (hi : i < tn v) (ho : o < tn v) (hio : o ≠ i) (hp : p < 13) (hE : ∀ (I : xMem) (L : xLon), LI A I P Dr v D → XC_2367 tI P Dr G67 (nI (tn v)) (nI (tl v)) (nI (allS v)) x7 x9 x10 (nI (dd D)) (nI (te (now v D))) (nI (tt (now v D))) (nI (tu (now v D))) (nI (dS D (dd D))) I L = some 1) : XC_2080 tI P Dr G67 (nI (tn v)) (nI (tl v)) (nI (allS v)) x7 x9 x10 (nI (dd D)) (nI (te (now v D))) (nI (tt (now v D))) (nI (tu (now v D))) (nI (dS D (dd D))) (nI i) (nI o) (nI p) (sameI (now v D) i o) I L = some 1 := by
  have hC := h.cs
  have hv := hC.vok
  have hd := den_lt hv i
  have ne : i ≠ o := fun w => hio w.symm
  have t4 := cs_told hC hi (k := 4) (by omega)
  have e4 : aboutN (now v D) i 4 = compN (now v D) i := rfl
  rw [e4] at t4
  have t4 : L_told P I (nI i) 4 = _ := t4
  have h1 := h.told (nI (compN (now v D) i))
  have hb := cs_best h1.cs hi ho ne
  unfold XC_2080
  rw [t4, bind_s]
  dsimp only
  rw [with_if hC ho ne, ite_some, bind_s, hb]
  by_cases s : same (now v D) i o
  · have h2 := h1.told (nI (bestN (now v D) i o % 256))
    have od := cs_odds (L := L) h2.cs hi ho ne (p := 0) (by omega)
    rw [if_pos s, up_p0 hv, gg_01] at od
    have od : X4_odds P (wr (wr I 0 10 (nI (compN (now v D) i))) 0 10 (nI (bestN (now v D) i o % 256))) L (nI i) (nI o) 0 = _ := od
    have f0 := fr_mul (a := if lstV (now v D) i o (stW (now v D) i) / 256 ≤ tl (now v D) then 1 else 0) hd.2
    have hc : canL (now v D) i o 0 ↔ same (now v D) i o ∧ lstV (now v D) i o (stW (now v D) i) / 256 ≤ tl (now v D) := canL0 (now v D) i o
    have hx : (if (if canL (now v D) i o 0 then (1 : Int32) else 0) = (0 : Int32) then some (0 : Int64) else some (1 : Int64)) = some (nL (if lstV (now v D) i o (stW (now v D) i) / 256 ≤ tl (now v D) then 1 else 0)) := by
      by_cases z : canL (now v D) i o 0
      · rw [if_pos z, if_neg (by decide), if_pos (hc.mp z).2]
        rfl
      · rw [if_neg z, if_pos rfl, if_neg (fun w => z (hc.mpr ⟨s, w⟩))]
        rfl
    rw [if_pos s, bind_s]
    dsimp only
    rw [od, bind_s, show sameI (now v D) i o = 1 from if_pos s, if_neg (by decide), bind_s, if_pos rfl, if_neg (by decide), hx, bind_s]
    dsimp only
    rw [frL_up, f0.1, if_pos (lgz rfl)]
    exact x_2159 h2 hi ho hio hp s hE (by rw [frL_lo, f0.2])
  · have od := cs_odds (L := L) h1.cs hi ho ne (p := 0) (by omega)
    rw [if_neg s] at od
    have od : X4_odds P (wr I 0 10 (nI (compN (now v D) i))) L (nI i) (nI o) 0 = _ := od
    rw [if_neg s, bind_s]
    dsimp only
    rw [od, bind_s, show sameI (now v D) i o = 0 from if_neg s, if_pos rfl, bind_s, if_pos rfl, if_pos rfl]
    exact hE _ _ h1
end LO
