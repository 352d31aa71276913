/-! THE LAW: goes to come, on -/
section LG2
variable {tI : xTab} {P Dr : Nat} {v : TV} {D : DD} {A I : xMem} {L : xLon} {x7 : Int64} {x9 x10 : Int32}
variable {G67 : (Int32 → Int32 → Int32 → Int64 → Int32 → xMem → xLon → Option Int32)}
/-- no place that can be come to is farther than a hundred goes -/
def near100 (w : TV) : Prop := ∀ set m, set < 2 ^ tn w → (∃ y, WKn w m y ∧ goalP set set y) → (∀ n y, WKn w n y → goalP set set y → m ≤ n) → m ≤ 100
theorem x_1551 (h : LI A I P Dr v D) {set m i j q0 e : Nat} (hm : 0 < m) (hm2 : m ≤ 100) (hs : set < 2 ^ tn v) (g : firstGo (now v D) set m i j q0) (hE : ∀ (I : xMem) (L : xLon), LI A I P Dr v D → XC_1718 tI P Dr G67 (nI (tn v)) (nI (tl v)) (nI (allS v)) x7 x9 x10 (nI (dd D)) (nI (te (now v D))) (nI (tt (now v D))) (nI (tu (now v D))) (nI (dS D (dd D))) (nI e) I L = some 1) : XC_1551 tI P Dr G67 (nI (tn v)) (nI (tl v)) (nI (allS v)) x7 x9 x10 (nI (dd D)) (nI (te (now v D))) (nI (tt (now v D))) (nI (tu (now v D))) (nI (dS D (dd D))) (nI set) (nI m) (nI e) (nI i) (nI j) 99 I L = some 1 := by
  have hC := h.cs
  have h6 := hC.n2
  have hij := g.ij
  have hjn : j < tn v := g.jn
  have t4 := cs_told hC (i := i) (by omega) (k := 4) (by omega)
  have e4 : aboutN (now v D) i 4 = compN (now v D) i := rfl
  rw [e4] at t4
  have t4 : L_told P I (nI i) 4 = _ := t4
  unfold XC_1551
  rw [if_neg (by rw [nI_le_iff (by omega) (by omega)]; omega), t4, bind_s]
  dsimp only
  rw [with_if hC hjn (by omega), if_pos g.can]
  exact x_1579 hm hm2 hs g hE 256 bigF 0 99 _ L (by omega) (bigF_gt (by omega)) (by omega) (by omega) (Or.inr (Nat.zero_le _)) (h.told _)
theorem fewA.first {w : TV} (hv : vOk w) {set m p c y : Nat} (hm : 0 < m) (h1 : eO w (plc w) p c) (h2 : WK w (fun z => z = nx (plc w) p c) (m - 1) y) (h3 : goalP set set y) (h4 : ∀ n y, WKn w n y → goalP set set y → m ≤ n) : ∃ q0, firstGo w set m (p / 6) (p % 6) q0 := by
  obtain ⟨a1, a2, a3, ⟨q, q1, q2, q3⟩, a5⟩ := eO_now hv h1
  obtain ⟨-, -, b3⟩ := eO_can hv h1
  have q3 : fO q = c := q3
  refine ⟨q, a1, a2, b3, q1, ⟨q2, by rw [q3]; exact a5⟩, ⟨y, ?_, h3⟩, h4⟩
  rw [q3, show 6 * (p / 6) + p % 6 = p by omega]
  exact h2
theorem x_1477 (h : LI A I P Dr v D) {set e : Nat} (hs : set < 2 ^ tn v) {r a : Int32} (hf : fewA (now v D) set set r a) (he : evA (now v D) e) (hN : near100 (now v D)) (hE : ∀ (I : xMem) (L : xLon), LI A I P Dr v D → XC_1757 tI P Dr G67 (nI (tn v)) (nI (tl v)) (nI (allS v)) x7 x9 x10 (nI (dd D)) (nI (te (now v D))) (nI (tt (now v D))) (nI (tu (now v D))) (nI (dS D (dd D))) I L = some 1) : XC_1477 tI P Dr G67 (nI (tn v)) (nI (tl v)) (nI (allS v)) x7 x9 x10 (nI (dd D)) (nI (te (now v D))) (nI (tt (now v D))) (nI (tu (now v D))) (nI (dS D (dd D))) (nI (cntP (now v D) 0)) (nI set) r a (nI e) I L = some 1 := by
  have hC := h.cs
  have hv := hC.vok
  have h6 := hC.n2
  have h64 := hC.n64
  have hcp := cntP_le hv 0
  have hel : e < 2 ^ tn v := he.1
  have hE2 : ∀ (I : xMem) (L : xLon), LI A I P Dr v D → XC_1718 tI P Dr G67 (nI (tn v)) (nI (tl v)) (nI (allS v)) x7 x9 x10 (nI (dd D)) (nI (te (now v D))) (nI (tt (now v D))) (nI (tu (now v D))) (nI (dS D (dd D))) (nI e) I L = some 1 := fun I L h => x_1718 h he hE
  have hz := ever_iff hv he.1 he.2
  unfold XC_1477
  have hh : (if nI e = (0 : Int32) then some (1 : Int32) else some (0 : Int32)) = (if nI (cntP (now v D) 0) = (0 : Int32) then some (1 : Int32) else some (0 : Int32)) := by
    by_cases z : e = 0
    · rw [if_pos (by rw [z]; rfl), if_pos (by rw [hz.mp z]; rfl)]
    · rw [if_neg (by rw [i_0, nI_eq_iff (by omega) (by omega)]; exact z), if_neg (by rw [i_0, nI_eq_iff (by omega) (by omega)]; exact fun w => z (hz.mpr w))]
  rw [if_neg (nI_pos (by omega)), show ((1 : Int32) <<< (nI (tn v) &&& 31)) = nI (2 ^ tn v) from nI_pow (by omega), if_neg (by rw [nI_le_iff (by omega) (by omega)]; omega), hh, ite_some, bind_s, bind_s, if_pos rfl]
  rcases hf with ⟨rfl, hn⟩ | ⟨m, rfl, m1, m2, m3, ⟨rfl, rfl⟩ | ⟨m4, p, p1, rfl, c, y, c1, c2, c3⟩⟩
  · rw [if_pos (by decide)]
    exact hE2 I L h
  · rw [if_pos (by decide)]
    exact hE2 I L h
  · obtain ⟨q0, g⟩ := fewA.first hv m4 c1 c2 c3 m3
    have hij := g.ij
    rw [if_neg (by rw [i_0, nI_le_iff (by omega) (by omega)]; omega), if_neg (nI_pos (by omega)), show (6 : Int32) = nI 6 from rfl, nI_rem (by omega) (by omega) (by omega), nI_div (by omega) (by omega) (by omega), if_neg (by rw [nI_le_iff (by omega) (by omega)]; omega)]
    exact x_1551 h m4 (hN set m hs m2 m3) hs g hE2
theorem ndz {a b : Nat} : nd a b = 0 ↔ ∀ i, a.testBit i = true → b.testBit i = true := nd_0 a b
theorem x_1439 (h : LI A I P Dr v D) {set e : Nat} (hs : set < 2 ^ tn v) {r a r2 a2 : Int32} (hf : fewA (now v D) set set r a) (hf2 : fewA (now v D) set 0 r2 a2) (he : evA (now v D) e) (hN : near100 (now v D)) (hE : ∀ (I : xMem) (L : xLon), LI A I P Dr v D → XC_1757 tI P Dr G67 (nI (tn v)) (nI (tl v)) (nI (allS v)) x7 x9 x10 (nI (dd D)) (nI (te (now v D))) (nI (tt (now v D))) (nI (tu (now v D))) (nI (dS D (dd D))) I L = some 1) : XC_1439 tI P Dr G67 (nI (tn v)) (nI (tl v)) (nI (allS v)) x7 x9 x10 (nI (dd D)) (nI (te (now v D))) (nI (tt (now v D))) (nI (tu (now v D))) (nI (dS D (dd D))) (nI (cntP (now v D) 0)) (nI set) r a r2 (nI e) I L = some 1 := by
  have g2 : XC_1459 tI P Dr G67 (nI (tn v)) (nI (tl v)) (nI (allS v)) x7 x9 x10 (nI (dd D)) (nI (te (now v D))) (nI (tt (now v D))) (nI (tu (now v D))) (nI (dS D (dd D))) (nI (cntP (now v D) 0)) (nI set) r a r2 (nI e) I L = some 1 := by
    unfold XC_1459
    by_cases c : r2 < 0
    · rw [if_pos c]
      exact x_1477 h hs hf he hN hE
    · obtain ⟨n, y, y1, y2⟩ := hf2.sign.2.2.2 c
      rw [if_neg c, nI_and, nI_nd, show nd (set &&& tt (now v D)) e = 0 from (nd_0 _ _).mpr fun i hi => by
        rw [Nat.testBit_and, Bool.and_eq_true] at hi
        exact goal_ever he.2 y1 y2 hi.1 (by rw [hi.2, Nat.zero_testBit]; decide), if_pos (show nI 0 = 0 from rfl)]
      exact x_1477 h hs hf he hN hE
  unfold XC_1439
  by_cases c : r < 0
  · rw [if_pos c]
    exact g2
  · obtain ⟨n, y, y1, y2⟩ := hf.sign.2.2.2 c
    have hz : nd (nd set (tt (now v D))) e = 0 := (nd_0 _ _).mpr fun i hi => by
      rw [nd_bit, Bool.and_eq_true] at hi
      refine goal_ever he.2 y1 y2 hi.1 ?_
      rw [hi.1]
      have h2 := hi.2
      cases hb : (tt (now v D)).testBit i with
      | false => decide
      | true =>
        rw [hb] at h2
        cases h2
    rw [if_neg c, nI_nd, nI_nd, hz, if_pos (show nI 0 = 0 from rfl)]
    exact g2
theorem x_1377 (h : LI A I P Dr v D) {set e : Nat} (hs : set < 2 ^ tn v) {r a r2 a2 : Int32} (hf : fewA (now v D) set set r a) (hf2 : fewA (now v D) set 0 r2 a2) (he : evA (now v D) e) (hN : near100 (now v D)) (hE : ∀ (I : xMem) (L : xLon), LI A I P Dr v D → XC_1757 tI P Dr G67 (nI (tn v)) (nI (tl v)) (nI (allS v)) x7 x9 x10 (nI (dd D)) (nI (te (now v D))) (nI (tt (now v D))) (nI (tu (now v D))) (nI (dS D (dd D))) I L = some 1) : XC_1377 tI P Dr G67 (nI (tn v)) (nI (tl v)) (nI (allS v)) x7 x9 x10 (nI (dd D)) (nI (te (now v D))) (nI (tt (now v D))) (nI (tu (now v D))) (nI (dS D (dd D))) (nI (cntP (now v D) 0)) (nI set) r a r2 a2 (nI e) I L = some 1 := by
  have hC := h.cs
  have hv := hC.vok
  have h64 := hC.n64
  have g1 : XC_1427 tI P Dr G67 (nI (tn v)) (nI (tl v)) (nI (allS v)) x7 x9 x10 (nI (dd D)) (nI (te (now v D))) (nI (tt (now v D))) (nI (tu (now v D))) (nI (dS D (dd D))) (nI (cntP (now v D) 0)) (nI set) r a r2 a2 (nI e) I L = some 1 := by
    unfold XC_1427
    by_cases c : r2 = 0
    · rw [if_pos c, if_pos (hf2.sign.2.2.1 c)]
      exact x_1439 h hs hf hf2 he hN hE
    · rw [if_neg c]
      exact x_1439 h hs hf hf2 he hN hE
  have g2 : XC_1415 tI P Dr G67 (nI (tn v)) (nI (tl v)) (nI (allS v)) x7 x9 x10 (nI (dd D)) (nI (te (now v D))) (nI (tt (now v D))) (nI (tu (now v D))) (nI (dS D (dd D))) (nI (cntP (now v D) 0)) (nI set) r a r2 a2 (nI e) I L = some 1 := by
    unfold XC_1415
    by_cases c : r = 0
    · rw [if_pos c, if_pos (hf.sign.2.2.1 c)]
      exact g1
    · rw [if_neg c]
      exact g1
  have z2 := hf2.zero hv
  have hand : set &&& tt (now v D) < 2 ^ 31 := Nat.lt_of_le_of_lt Nat.and_le_left (by omega)
  have hh : (if r2 = (0 : Int32) then some (1 : Int32) else some (0 : Int32)) = (if (nI set &&& nI (tt (now v D))) = (0 : Int32) then some (1 : Int32) else some (0 : Int32)) := by
    rw [nI_and]
    by_cases c : r2 = 0
    · have := z2.mp c
      rw [Nat.and_comm] at this
      rw [if_pos c, if_pos (by rw [this]; rfl)]
    · rw [if_neg c, if_neg]
      rw [i_0, nI_eq_iff hand (by omega), Nat.and_comm]
      exact fun w => c (z2.mpr w)
  unfold XC_1377
  rw [hh, ite_some, bind_s, bind_s, if_pos rfl]
  rcases hf.sign.2.1 with c | c
  · rw [if_pos c]
    exact g2
  · by_cases c2 : r ≤ -9
    · rw [if_pos c2]
      exact g2
    · rw [if_neg c2, if_neg c]
      exact g2
theorem x_1288 (h : LI A I P Dr v D) (hN : near100 (now v D)) (hE : ∀ (I : xMem) (L : xLon), LI A I P Dr v D → XC_1757 tI P Dr G67 (nI (tn v)) (nI (tl v)) (nI (allS v)) x7 x9 x10 (nI (dd D)) (nI (te (now v D))) (nI (tt (now v D))) (nI (tu (now v D))) (nI (dS D (dd D))) I L = some 1) : XC_1288 tI P Dr G67 (nI (tn v)) (nI (tl v)) (nI (allS v)) x7 x9 x10 (nI (dd D)) (nI (te (now v D))) (nI (tt (now v D))) (nI (tu (now v D))) (nI (dS D (dd D))) (nI (cntP (now v D) 0)) I L = some 1 := by
  have hC := h.cs
  have hv := hC.vok
  have h6 := hC.n2
  have h64 := hC.n64
  have hp : 0 < 2 ^ tn v := Nat.pos_of_ne_zero (by simp)
  obtain ⟨set, hs, e0⟩ := low_nI (x10 >>> ((5 : Int32) &&& 31)) hp (show 2 ^ tn v < 2 ^ 31 by omega)
  obtain ⟨r, I1, u1, u2, u3⟩ := cs_few2 hC (set := set) (tops := set) (by omega) (by omega)
  have h1 := h.q u2
  obtain ⟨r2, I2, w1, w2, w3⟩ := cs_few2 h1.cs (set := set) (tops := 0) (by omega) (by omega)
  have h2 := h1.q w2
  obtain ⟨e, I3, f1, f2, f3, f4⟩ := cs_ever h2.cs
  have h3 := h2.q f3
  have z := u3.zero hv
  have hnd := nd_le set (tt (now v D))
  have hh : (if r = (0 : Int32) then some (1 : Int32) else some (0 : Int32)) = (if (nI set &&& (nI (tt (now v D)) ^^^ (-1 : Int32))) = (0 : Int32) then some (1 : Int32) else some (0 : Int32)) := by
    rw [nI_nd]
    have key : tt (now v D) &&& set = set ↔ nd set (tt (now v D)) = 0 := by
      rw [Nat.and_comm]
      exact and_nd _ _
    by_cases c : r = 0
    · rw [if_pos c, if_pos (by rw [key.mp (z.mp c)]; rfl)]
    · rw [if_neg c, if_neg]
      rw [i_0, nI_eq_iff (by omega) (by omega)]
      exact fun w => c (z.mpr (key.mpr w))
  unfold XC_1288
  rw [show ((1 : Int32) <<< (nI (tn v) &&& 31)) = nI (2 ^ tn v) from nI_pow (by omega), e0, bind_s, up_few hC hs, u1, bind_s, down_few h1.cs hs, w1, bind_s, f1, bind_s, if_neg u3.sign.1, if_neg w3.sign.1, hh, ite_some, bind_s, bind_s, if_pos rfl]
  exact x_1377 h3 hs u3 w3 ⟨f2, f4⟩ hN hE
end LG2
