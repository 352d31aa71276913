/-! THE LAW: two of PEOPLE -/
section LJ
variable {tI : xTab} {P Dr : Nat} {v : TV} {D : DD} {A I : xMem} {L : xLon} {x7 : Int64} {x9 x10 : Int32}
variable {G67 : (Int32 → Int32 → Int32 → Int64 → Int32 → xMem → xLon → Option Int32)} {G202 : (Int32 → Int32 → Int32 → Int64 → Int32 → Int32 → Int32 → Int32 → Int32 → Int32 → Int32 → Int32 → Int32 → xMem → xLon → Option Int32)} {F : (Int32 → Int32 → Int32 → Int64 → Int32 → Int32 → Int32 → Int32 → Int32 → Int32 → Int32 → Int32 → Int32 → Int32 → Int32 → Int32 → xMem → xLon → Option Int32)} {c i j : Nat}
/-- what is to come for the next one -/
def nextJ (A : xMem) (P Dr : Nat) (v : TV) (D : DD) (x7 : Int64) (x9 x10 : Int32) (F : (Int32 → Int32 → Int32 → Int64 → Int32 → Int32 → Int32 → Int32 → Int32 → Int32 → Int32 → Int32 → Int32 → Int32 → Int32 → Int32 → xMem → xLon → Option Int32)) (c i j : Nat) : Prop := ∀ (I : xMem) (L : xLon), LI A I P Dr v D → F (nI (tn v)) (nI (tl v)) (nI (allS v)) x7 x9 x10 (nI (dd D)) (nI (te (now v D))) (nI (tt (now v D))) (nI (tu (now v D))) (nI (dS D (dd D))) (nI c) (nI i) (nI (compN (now v D) i)) (nI (stW (now v D) i)) (nI (j + 1)) I L = some 1
theorem x_917 (h : LI A I P Dr v D) (hF : nextJ A P Dr v D x7 x9 x10 F c i j) : XC_917 tI P Dr G67 G202 F (nI (tn v)) (nI (tl v)) (nI (allS v)) x7 x9 x10 (nI (dd D)) (nI (te (now v D))) (nI (tt (now v D))) (nI (tu (now v D))) (nI (dS D (dd D))) (nI c) (nI i) (nI (compN (now v D) i)) (nI (stW (now v D) i)) (nI j) I L = some 1 := by
  unfold XC_917
  rw [i_1, nI_sum]
  exact hF I L h
theorem x_882 (h : LI A I P Dr v D) (hi : i < tn v) (hj : j < tn v) (hij : i ≠ j) {r : Int32} (hr : r = 0 ↔ skN (now v D) i j 0 0 ≤ tl v) (hF : nextJ A P Dr v D x7 x9 x10 F c i j) : XC_882 tI P Dr G67 G202 F (nI (tn v)) (nI (tl v)) (nI (allS v)) x7 x9 x10 (nI (dd D)) (nI (te (now v D))) (nI (tt (now v D))) (nI (tu (now v D))) (nI (dS D (dd D))) (nI c) (nI i) (nI (compN (now v D) i)) (nI (stW (now v D) i)) (nI j) r I L = some 1 := by
  have hC := h.cs
  have hsk := skN_le hC.vok i j 0 0
  have htl := hC.2.1.2.2.1
  unfold XC_882
  rw [cs_sink0 hC hi hj hij]
  by_cases q : skN (now v D) i j 0 0 ≤ tl v
  · rw [if_pos (hr.mpr q), bind_s, bind_s, if_neg (by rw [nI_lt_iff (by omega) (by omega)]; omega), bind_s, if_pos rfl]
    exact x_917 h hF
  · rw [if_neg (fun w => q (hr.mp w)), bind_s, bind_s, if_pos (by rw [nI_lt_iff (by omega) (by omega)]; omega), bind_s, if_pos rfl]
    exact x_917 h hF
theorem x_828 (h : LI A I P Dr v D) (hi : i < tn v) (hj : j < tn v) (hij : i ≠ j) (hF : nextJ A P Dr v D x7 x9 x10 F c i j) : XC_828 tI P Dr G67 G202 F (nI (tn v)) (nI (tl v)) (nI (allS v)) x7 x9 x10 (nI (dd D)) (nI (te (now v D))) (nI (tt (now v D))) (nI (tu (now v D))) (nI (dS D (dd D))) (nI c) (nI i) (nI (compN (now v D) i)) (nI (stW (now v D) i)) (nI j) (if same (now v D) i j then 1 else 0) I L = some 1 := by
  have hC := h.cs
  have he := hC.vok.2.2.2.2.2.2.1
  unfold XC_828
  rcases cs_loaves hC hi hj hij with ⟨c1, e⟩ | ⟨c1, ⟨e, hn⟩ | ⟨k, k1, k2, k3, e⟩⟩
  · rw [e, bind_s, if_neg c1, if_pos rfl, if_pos rfl]
    exact x_917 h hF
  · rw [e, bind_s, if_pos c1, if_neg (by decide), if_neg (by decide), if_neg, if_pos (by decide)]
    · refine x_882 h hi hj hij ⟨fun w => absurd w (by decide), fun w => ?_⟩ hF
      have := hn 0 (by omega)
      rw [Nat.add_zero, skE_now] at this
      exact absurd w this
    · rw [show (9 : Int32) = nI 9 from rfl, pk_sub (by omega)]
      intro w
      exact Int32.lt_irrefl (Int32.lt_trans (lt_m9 (n := 9 - te (now v D)) (by omega)) w)
  · have m9 : ¬ nI k ≤ (-9 : Int32) := by
      rw [Int32.le_iff_toInt_le, nI_toInt (by omega), show (-9 : Int32).toInt = -9 from rfl]
      omega
    have m9' : ¬ nI k < (-9 : Int32) := by
      rw [Int32.lt_iff_toInt_lt, nI_toInt (by omega), show (-9 : Int32).toInt = -9 from rfl]
      omega
    rw [e, bind_s, if_pos c1, if_neg (by decide), if_neg m9', if_neg (by rw [i_9, pk_sub (by omega), nI_lt_iff (by omega) (by omega)]; omega), if_neg m9, if_neg (by rw [i_0, nI_lt_iff (by omega) (by omega)]; omega)]
    refine x_882 h hi hj hij ?_ hF
    rw [i_0, nI_eq_iff (by omega) (by omega)]
    constructor
    · intro w
      subst w
      rw [Nat.add_zero, skE_now] at k2
      exact k2
    · intro w
      rcases Nat.eq_zero_or_pos k with z | z
      · exact z
      · have := k3 0 z
        rw [Nat.add_zero, skE_now] at this
        exact absurd w this
theorem x_816 (h : LI A I P Dr v D) (hi : i < tn v) (hj : j < tn v) (hij : i ≠ j) (hF : nextJ A P Dr v D x7 x9 x10 F c i j) : XC_816 tI P Dr G67 G202 F (nI (tn v)) (nI (tl v)) (nI (allS v)) x7 x9 x10 (nI (dd D)) (nI (te (now v D))) (nI (tt (now v D))) (nI (tu (now v D))) (nI (dS D (dd D))) (nI c) (nI i) (nI (compN (now v D) i)) (nI (stW (now v D) i)) (nI j) (if same (now v D) i j then 1 else 0) I L = some 1 := by
  unfold XC_816
  rw [cs_count5 h.cs, bind_s, if_pos rfl]
  exact x_828 h hi hj hij hF
/-- whether one more pair is counted -/
def oneC (w : TV) (i j : Nat) : Nat := if i < j ∧ canL w i j 0 then 1 else 0
theorem x_747 (h : LI A I P Dr v D) (hi : i < tn v) (hj : j < tn v) (hij : i ≠ j) {x29 x30 : Int32} (hb : canL (now v D) i j 0 → x29 = nI (bestN (now v D) i j / 256) ∧ x30 = nI (bestN (now v D) i j % 256)) (hF : nextJ A P Dr v D x7 x9 x10 F (c + oneC (now v D) i j) i j) : XC_747 tI P Dr G67 G202 F (nI (tn v)) (nI (tl v)) (nI (allS v)) x7 x9 x10 (nI (dd D)) (nI (te (now v D))) (nI (tt (now v D))) (nI (tu (now v D))) (nI (dS D (dd D))) (nI c) (nI i) (nI (compN (now v D) i)) (nI (stW (now v D) i)) (nI j) (if same (now v D) i j then 1 else 0) (if canL (now v D) i j 0 then 1 else 0) x29 x30 I L = some 1 := by
  have hC := h.cs
  have hv := hC.vok
  have h6 := hC.n2
  have h16 := hC.s16
  have hst := hC.st i
  have hd := h.d40
  unfold XC_747
  by_cases q : canL (now v D) i j 0
  · obtain ⟨e1, e2⟩ := hb q
    have hbb := (canL0 _ _ _).mp q
    obtain ⟨ok, sk⟩ := lstV_ok hv i j (stW (now v D) i)
    have hn := ok.2
    rw [nd_or, or0] at hn
    have na := nd0_le hn.1
    have nb := nd0_le hn.2
    have hle : bestN (now v D) i j / 256 ≤ tl v := hbb.2
    have hlt : bestN (now v D) i j < 65536 := lstV_lt hv i j _
    have ok : okS (stW (now v D) i) (bestN (now v D) i j % 256) := ok
    have sk : bestN (now v D) i j / 256 = skN (now v D) i j (bestN (now v D) i j % 256 / 16) (bestN (now v D) i j % 256 % 16) := sk
    have na : bestN (now v D) i j % 256 / 16 ≤ stW (now v D) i := na
    have nb : bestN (now v D) i j % 256 % 16 ≤ stW (now v D) i := nb
    have ecnt : (if (1 : Int32) = 0 then (some (0 : Int32)) else (if nI j ≤ nI i then (some (0 : Int32)) else (some (1 : Int32)))) = some (nI (oneC (now v D) i j)) := by
      rw [if_neg (by decide)]
      unfold oneC
      by_cases z : i < j
      · rw [if_neg (by rw [nI_le_iff (by omega) (by omega)]; omega), if_pos ⟨z, q⟩]
        rfl
      · rw [if_pos (by rw [nI_le_iff (by omega) (by omega)]; omega), if_neg (fun w => z w.1)]
        rfl
    rw [if_pos q, ecnt, bind_s, if_neg (by decide), e1, e2, shr4 (by omega), and15]
    rcases cs_go hC hi hj hij (a := bestN (now v D) i j % 256 / 16) (b := bestN (now v D) i j % 256 % 16) (by omega) (by omega) ok.1 (by omega) with ⟨w1, -⟩ | ⟨-, w1, -⟩ | ⟨-, -, I2, w1, w2, w3⟩
    · exact absurd ⟨hbb.1, ok.2⟩ w1
    · omega
    · obtain ⟨I3, u1, u2⟩ := undo1 h w2 w3
      rw [w1, bind_s, if_pos (by rw [← sk]), u1, bind_s, if_pos rfl, cs_count4 u2.cs, bind_s, if_pos rfl, nI_sum]
      exact x_816 u2 hi hj hij hF
  · have eo : oneC (now v D) i j = 0 := if_neg (fun w => q w.2)
    rw [if_neg q, if_pos rfl, bind_s, if_pos rfl, i_0, nI_sum]
    rw [eo] at hF
    exact x_828 h hi hj hij hF
theorem x_675 (h : LI A I P Dr v D) (hi : i < tn v) (hj : j < tn v) (hij : i ≠ j) (hs : same (now v D) i j) (hF : nextJ A P Dr v D x7 x9 x10 F (c + oneC (now v D) i j) i j) : XC_675 tI P Dr G67 G202 F (nI (tn v)) (nI (tl v)) (nI (allS v)) x7 x9 x10 (nI (dd D)) (nI (te (now v D))) (nI (tt (now v D))) (nI (tu (now v D))) (nI (dS D (dd D))) (nI c) (nI i) (nI (compN (now v D) i)) (nI (stW (now v D) i)) (nI j) (if same (now v D) i j then 1 else 0) (if canL (now v D) i j 0 then 1 else 0) (nI (bestN (now v D) i j / 256)) (nI (bestN (now v D) i j % 256)) I L = some 1 := by
  have hC := h.cs
  have hv := hC.vok
  have h16 := hC.s16
  have hst := hC.st i
  have htl := hC.2.1.2.2.1
  obtain ⟨ok, sk⟩ := lstV_ok hv i j (stW (now v D) i)
  have hlt : bestN (now v D) i j < 65536 := lstV_lt hv i j _
  have ok : okS (stW (now v D) i) (bestN (now v D) i j % 256) := ok
  have sk : bestN (now v D) i j / 256 = skN (now v D) i j (bestN (now v D) i j % 256 / 16) (bestN (now v D) i j % 256 % 16) := sk
  have hn := ok.2
  rw [nd_or, or0] at hn
  have na := nd0_le hn.1
  have nb := nd0_le hn.2
  have hb := canL0 (now v D) i j
  have e3 : tl (now v D) = tl v := rfl
  unfold XC_675
  rw [shr4 (by omega), and15, nI_and, show nI (bestN (now v D) i j % 256 / 16 &&& bestN (now v D) i j % 256) &&& (15 : Int32) = 0 by
    rw [and15]
    have : (bestN (now v D) i j % 256 / 16 &&& bestN (now v D) i j % 256) % 16 = 0 := by
      have e := Nat.and_two_pow_sub_one_eq_mod (n := 4) (bestN (now v D) i j % 256 / 16 &&& bestN (now v D) i j % 256)
      have e15 : bestN (now v D) i j % 256 &&& 15 = bestN (now v D) i j % 256 % 16 := Nat.and_two_pow_sub_one_eq_mod (n := 4) _
      rw [← e, Nat.and_assoc]
      show bestN (now v D) i j % 256 / 16 &&& (bestN (now v D) i j % 256 &&& 15) = 0
      rw [e15]
      exact ok.1
    rw [this]
    rfl, if_pos rfl, nI_or, nI_nd, if_pos (by rw [ok.2]; rfl), cs_sink hC hi hj hij (by omega) (by omega) ok.1, bind_s, ← sk, if_pos rfl]
  have key : (if nI (tl v) < nI (bestN (now v D) i j / 256) then some (0 : Int32) else some 1) = some (if canL (now v D) i j 0 then 1 else 0) := by
    by_cases z : bestN (now v D) i j / 256 ≤ tl v
    · rw [if_pos (hb.mpr ⟨hs, z⟩), if_neg (by rw [nI_lt_iff (by omega) (by omega)]; omega)]
    · rw [if_neg (fun w => z (hb.mp w).2), if_pos (by rw [nI_lt_iff (by omega) (by omega)]; omega)]
  rw [key, bind_s, if_pos rfl]
  exact x_747 h hi hj hij (fun _ => ⟨rfl, rfl⟩) hF
end LJ
