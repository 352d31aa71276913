/-! THE LAW: two of PEOPLE, on -/
section LJ2
variable {tI : xTab} {P Dr : Nat} {v : TV} {D : DD} {A I : xMem} {L : xLon} {x7 : Int64} {x9 x10 : Int32}
variable {G67 : (Int32 → Int32 → Int32 → Int64 → Int32 → xMem → xLon → Option Int32)} {G202 : (Int32 → Int32 → Int32 → Int64 → Int32 → Int32 → Int32 → Int32 → Int32 → Int32 → Int32 → Int32 → Int32 → xMem → xLon → Option Int32)} {F : (Int32 → Int32 → Int32 → Int64 → Int32 → Int32 → Int32 → Int32 → Int32 → Int32 → Int32 → Int32 → Int32 → Int32 → Int32 → Int32 → xMem → xLon → Option Int32)} {c i j : Nat}
abbrev sameI (w : TV) (i j : Nat) : Int32 := if same w i j then 1 else 0
abbrev canI (w : TV) (i j : Nat) : Int32 := if canL w i j 0 then 1 else 0
theorem asked_told (I : xMem) (x : Int32) : X4_asked (wr I 0 10 x) = x := wr_told I x
abbrev hereP (w : TV) (i j a b : Nat) : Prop := same w i j ∧ nd (a ||| b) (stW w i) = 0
abbrev hereI (w : TV) (i j a b : Nat) : Int32 := if hereP w i j a b then 1 else 0
theorem x_612 (h : LI A I P Dr v D) (hi : i < tn v) (hj : j < tn v) (hij : i ≠ j) {a b : Nat} (ha : a < 2 ^ ts v) (hb : b < 2 ^ ts v) (hab : a &&& b = 0) (hF : nextJ A P Dr v D x7 x9 x10 F (c + oneC (now v D) i j) i j) : XC_612 tI P Dr G67 G202 F (nI (tn v)) (nI (tl v)) (nI (allS v)) x7 x9 x10 (nI (dd D)) (nI (te (now v D))) (nI (tt (now v D))) (nI (tu (now v D))) (nI (dS D (dd D))) (nI c) (nI i) (nI (compN (now v D) i)) (nI (stW (now v D) i)) (nI j) (sameI (now v D) i j) (canI (now v D) i j) (nI (skN (now v D) i j a b)) (hereI (now v D) i j a b) I L = some 1 := by
  have hC := h.cs
  have hv := hC.vok
  have h16 := hC.s16
  have hsk := skN_le hv i j a b
  have hsk0 := skN_le hv i j 0 0
  have hlt : bestN (now v D) i j < 65536 := lstV_lt hv i j _
  unfold XC_612
  rw [cs_best hC hi hj hij]
  by_cases s : same (now v D) i j
  · have b0 := best_0 hv i j
    rw [if_pos s, bind_s, show sameI (now v D) i j = 1 from if_pos s, if_neg (by decide), if_neg (nI_pos (by omega)), cs_sink0 (hC.ag (qAg.told _ _)) hi hj hij, bind_s, if_neg (by rw [nI_lt_iff (by omega) (by omega)]; omega)]
    dsimp only
    rw [asked_told]
    have g := x_675 (G67 := G67) (G202 := G202) (F := F) (c := c) (L := L) (tI := tI) (h.told (nI (bestN (now v D) i j % 256))) hi hj hij s hF
    rw [if_pos s] at g
    by_cases z : hereP (now v D) i j a b
    · have bl := best_le hv (i := i) (j := j) (show a < 16 by omega) (show b < 16 by omega) hab z.2
      rw [show hereI (now v D) i j a b = 1 from if_pos z, if_neg (by decide), if_neg (by rw [nI_lt_iff (by omega) (by omega)]; omega)]
      exact g
    · rw [show hereI (now v D) i j a b = 0 from if_neg z, if_pos rfl]
      exact g
  · rw [if_neg s, bind_s, show sameI (now v D) i j = 0 from if_neg s, if_pos rfl, if_pos rfl]
    have g := x_747 (G67 := G67) (G202 := G202) (F := F) (c := c) (L := L) (tI := tI) (x29 := -4) (x30 := X4_asked I) h hi hj hij (fun q => absurd q.1 s) hF
    rw [if_neg s] at g
    exact g
theorem x_545 (h : LI A I P Dr v D) (hi : i < tn v) (hj : j < tn v) (hij : i ≠ j) {a b : Nat} (ha : a < 2 ^ ts v) (hb : b < 2 ^ ts v) (hab : a &&& b = 0) (hh : hereP (now v D) i j a b) (hle : skN (now v D) i j a b ≤ tl v) {I' : xMem} (g : hAg I I') (hG : CS I' P Dr v (goP D (now v D) i j a b)) (hF : nextJ A P Dr v D x7 x9 x10 F (c + oneC (now v D) i j) i j) : XC_545 tI P Dr G67 G202 F (nI (tn v)) (nI (tl v)) (nI (allS v)) x7 x9 x10 (nI (dd D)) (nI (te (now v D))) (nI (tt (now v D))) (nI (tu (now v D))) (nI (dS D (dd D))) (nI c) (nI i) (nI (compN (now v D) i)) (nI (stW (now v D) i)) (nI j) (sameI (now v D) i j) (canI (now v D) i j) (nI a) (nI b) (nI (skN (now v D) i j a b)) (hereI (now v D) i j a b) I' L = some 1 := by
  have hC := h.cs
  have hv := hC.vok
  have h16 := hC.s16
  have h6 := hC.n2
  have bl := best_le hv (i := i) (j := j) (show a < 16 by omega) (show b < 16 by omega) hab hh.2
  have hcan : canL (now v D) i j 0 := (canL0 _ _ _).mpr ⟨hh.1, show bestN (now v D) i j / 256 ≤ tl v by omega⟩
  have en : now v (goP D (now v D) i j a b) = tAt v (te (now v D)) (goT (now v D) i j) (goU (now v D) a b) := dpush_now _ _ _ _ _ _
  have es : dS (goP D (now v D) i j a b) (dd (goP D (now v D) i j a b)) = dS D (dd D) + skN (now v D) i j a b := by
    simp [goP, dpush, dS, dd]
  have e4 := cs_count4 hG
  have e5 := cs_count5 hG
  have e7 := cs_count7 hG
  rw [en] at e4 e5
  rw [es] at e7
  have e4 : X4_count P I' 4 = some (nI (goT (now v D) i j)) := e4
  have e5 : X4_count P I' 5 = some (nI (goU (now v D) a b)) := e5
  obtain ⟨I3, u1, u2⟩ := undo1 h g hG
  unfold XC_545
  rw [show canI (now v D) i j = 1 from if_pos hcan, if_neg (by decide), e4, bind_s, if_pos, e5, bind_s, if_pos, e7, bind_s, if_pos, u1, bind_s, if_pos rfl]
  · have r := x_612 (G67 := G67) (G202 := G202) (F := F) (c := c) (L := L) (tI := tI) u2 hi hj hij ha hb hab hF
    rw [show canI (now v D) i j = 1 from if_pos hcan] at r
    exact r
  · rw [nI_sum]
  · rw [nI_or, nI_xor]
    rfl
  · rw [show (1 : Int32) = nI 1 from rfl, nI_pow (by omega), nI_pow (by omega), nI_xor, nI_xor, Nat.xor_assoc, (xor_pr i (by omega) j (by omega)).resolve_left hij]
    rfl
theorem x_472 (h : LI A I P Dr v D) (hi : i < tn v) (hj : j < tn v) (hij : i ≠ j) {a b : Nat} (ha : a < 2 ^ ts v) (hb : b < 2 ^ ts v) (hab : a &&& b = 0) (hF : nextJ A P Dr v D x7 x9 x10 F (c + oneC (now v D) i j) i j) : XC_472 tI P Dr G67 G202 F (nI (tn v)) (nI (tl v)) (nI (allS v)) x7 x9 x10 (nI (dd D)) (nI (te (now v D))) (nI (tt (now v D))) (nI (tu (now v D))) (nI (dS D (dd D))) (nI c) (nI i) (nI (compN (now v D) i)) (nI (stW (now v D) i)) (nI j) (sameI (now v D) i j) (canI (now v D) i j) (nI a) (nI b) (nI (skN (now v D) i j a b)) I L = some 1 := by
  have hC := h.cs
  have hv := hC.vok
  have h16 := hC.s16
  have hsk := skN_le hv i j a b
  have hlim := hC.lim
  have hnd := nd_le (a ||| b) (stW (now v D) i)
  have hor : a ||| b < 2 ^ 4 := Nat.or_lt_two_pow (by omega) (by omega)
  have here : (if sameI (now v D) i j = (0 : Int32) then (some (0 : Int32)) else (if ((nI a ||| nI b) &&& (nI (stW (now v D) i) ^^^ (-1 : Int32))) = (0 : Int32) then (some (1 : Int32)) else (some (0 : Int32)))) = some (hereI (now v D) i j a b) := by
    rw [nI_or, nI_nd]
    by_cases s : same (now v D) i j
    · rw [show sameI (now v D) i j = 1 from if_pos s, if_neg (by decide)]
      by_cases z : nd (a ||| b) (stW (now v D) i) = 0
      · rw [if_pos (by rw [z]; rfl), show hereI (now v D) i j a b = 1 from if_pos ⟨s, z⟩]
      · rw [if_neg (by rw [i_0, nI_eq_iff (by omega) (by omega)]; exact z), show hereI (now v D) i j a b = 0 from if_neg fun w => z w.2]
    · rw [show sameI (now v D) i j = 0 from if_neg s, if_pos rfl, show hereI (now v D) i j a b = 0 from if_neg fun w => s w.1]
  have hd := h.d40
  unfold XC_472
  rw [here]
  have neg4 : ((-4 : Int32) < 0) := by decide
  have neg6 : ((-6 : Int32) < 0) := by decide
  rcases cs_go hC hi hj hij ha hb hab (by omega) with ⟨w1, w2⟩ | ⟨w1, w2, w3⟩ | ⟨w1, w2, I2, w3, w4, w5⟩
  · have e : hereI (now v D) i j a b = 0 := if_neg w1
    have r := x_612 (G67 := G67) (G202 := G202) (F := F) (c := c) (L := L) (tI := tI) h hi hj hij ha hb hab hF
    rw [e] at r
    rw [w2, bind_s, e, bind_s, if_pos rfl, bind_s, if_pos rfl, if_pos neg4]
    exact r
  · have e : hereI (now v D) i j a b = 1 := if_pos w1
    have r := x_612 (G67 := G67) (G202 := G202) (F := F) (c := c) (L := L) (tI := tI) h hi hj hij ha hb hab hF
    rw [e] at r
    rw [w3, bind_s, e, bind_s, if_neg (by decide), if_pos (by rw [nI_lt_iff (by omega) (by omega)]; omega), bind_s, if_pos rfl, if_pos neg6]
    exact r
  · have e : hereI (now v D) i j a b = 1 := if_pos w1
    have r := x_545 (G67 := G67) (G202 := G202) (F := F) (c := c) (L := L) (tI := tI) h hi hj hij ha hb hab w1 w2 w4 w5 hF
    rw [e] at r
    rw [w3, bind_s, e, bind_s, if_neg (by decide), if_neg (by rw [nI_lt_iff (by omega) (by omega)]; omega), bind_s, if_pos rfl, if_neg (nI_pos (by omega))]
    exact r
theorem x_389 (h : LI A I P Dr v D) (hi : i < tn v) (hj : j < tn v) (hij : i ≠ j) {a : Nat} (ha : a < 2 ^ ts v) (hF : nextJ A P Dr v D x7 x9 x10 F (c + oneC (now v D) i j) i j) : XC_389 tI P Dr G67 G202 F (nI (tn v)) (nI (tl v)) (nI (allS v)) x7 x9 x10 (nI (dd D)) (nI (te (now v D))) (nI (tt (now v D))) (nI (tu (now v D))) (nI (dS D (dd D))) (nI c) (nI i) (nI (compN (now v D) i)) (nI (stW (now v D) i)) (nI j) (sameI (now v D) i j) (canI (now v D) i j) (nI a) I L = some 1 := by
  have hC := h.cs
  have hv := hC.vok
  have h16 := hC.s16
  have h64 := hC.n64
  have h6 := hC.n2
  have hp : 0 < 2 ^ ts v := Nat.pos_of_ne_zero (by simp)
  have eall : nI (allS v) + (1 : Int32) = nI (2 ^ ts v) := by
    rw [i_1, nI_sum]
    unfold allS
    rw [Nat.sub_add_cancel hp]
  obtain ⟨b0, hb0, e0⟩ := low_nI (x10 >>> (nI j &&& 31)) hp (show 2 ^ ts v < 2 ^ 31 by omega)
  have hb : nd b0 a < 2 ^ ts v := nd_lt hb0
  have hsk := skN_le hv i j a (nd b0 a)
  have hcl : compN (now v D) j < 2 ^ tn v := comp_lt (now v D) j
  have hcan : (if ((nI (compN (now v D) j) >>> (nI i &&& 31)) &&& (1 : Int32)) = (1 : Int32) then (some (1 : Int32)) else (some (0 : Int32))) = some (canI (now v D) i j) := by
    rw [with_if hC hi (fun w => hij w.symm), ite_some]
    congr 1
    by_cases q : canL (now v D) i j 0
    · rw [if_pos ((canL_sym hv).mp q), show canI (now v D) i j = 1 from if_pos q]
    · rw [if_neg (fun w => q ((canL_sym hv).mp w)), show canI (now v D) i j = 0 from if_neg q]
  unfold XC_389
  rw [eall, e0, bind_s, nI_nd, cs_sink hC hi hj hij ha hb (and_nd0 a b0), bind_s, if_neg (nI_pos (by omega)), cs_sink hC hj hi (fun w => hij w.symm) hb ha (by rw [Nat.and_comm]; exact and_nd0 a b0), bind_s, skN_sym (now v D) j i, if_pos rfl, show (4 : Int32) = nI 4 from rfl, cs_told hC hj (by omega), bind_s]
  have e4 : aboutN (now v D) j 4 = compN (now v D) j := rfl
  dsimp only
  rw [e4, hcan, bind_s, if_pos rfl]
  exact x_472 (h.told _) hi hj hij ha hb (and_nd0 a b0) hF
theorem cnt_row (w : TV) (i j : Nat) : rowC w 0 i (j + 1) = rowC w 0 i j + oneC w i j := rfl
/-- all others of one -/
theorem x_319 (hi : i < tn v) (c0 : Nat) (hE : ∀ (I : xMem) (L : xLon), LI A I P Dr v D → XC_923 tI P Dr G67 G202 (nI (tn v)) (nI (tl v)) (nI (allS v)) x7 x9 x10 (nI (dd D)) (nI (te (now v D))) (nI (tt (now v D))) (nI (tu (now v D))) (nI (dS D (dd D))) (nI (c0 + rowC (now v D) 0 i (tn v))) (nI i) (nI (compN (now v D) i)) I L = some 1) : ∀ (m fuel j : Nat) (I : xMem) (L : xLon), j + m = tn v → m < fuel → LI A I P Dr v D → XC_319 tI P Dr G67 G202 fuel (nI (tn v)) (nI (tl v)) (nI (allS v)) x7 x9 x10 (nI (dd D)) (nI (te (now v D))) (nI (tt (now v D))) (nI (tu (now v D))) (nI (dS D (dd D))) (nI (c0 + rowC (now v D) 0 i j)) (nI i) (nI (compN (now v D) i)) (nI (stW (now v D) i)) (nI j) I L = some 1 := by
  intro m
  induction m with
  | zero =>
    intro fuel j I L hj hf h
    obtain ⟨f, rfl⟩ : ∃ f, fuel = f + 1 := ⟨fuel - 1, by omega⟩
    have e : j = tn v := by omega
    subst e
    rw [XC_319]
    rw [if_pos (Int32.le_refl _)]
    exact hE I L h
  | succ m ih =>
    intro fuel j I L hj hf h
    obtain ⟨f, rfl⟩ : ∃ f, fuel = f + 1 := ⟨fuel - 1, by omega⟩
    have hC := h.cs
    have hv := hC.vok
    have h16 := hC.s16
    have h64 := hC.n64
    have h6 := hC.n2
    have ht := hC.tt64
    have hjn : j < tn v := by omega
    rw [XC_319]
    rw [if_neg (by rw [nI_le_iff (by omega) (by omega)]; omega)]
    by_cases e : i = j
    · rw [if_pos (by rw [e])]
      refine x_917 h fun I L h => ?_
      have := ih f (j + 1) I L (by omega) (by omega) h
      rw [cnt_row, show oneC (now v D) i j = 0 from if_neg (by omega), Nat.add_zero] at this
      exact this
    · have hp : 0 < 2 ^ ts v := Nat.pos_of_ne_zero (by simp)
      have eall : nI (allS v) + (1 : Int32) = nI (2 ^ ts v) := by
        rw [i_1, nI_sum]
        unfold allS
        rw [Nat.sub_add_cancel hp]
      obtain ⟨a, ha, e0⟩ := low_nI (x10 >>> (nI i &&& 31)) hp (show 2 ^ ts v < 2 ^ 31 by omega)
      have hcl : compN (now v D) i < 2 ^ tn v := comp_lt (now v D) i
      have hcan : (if ((nI (compN (now v D) i) >>> (nI j &&& 31)) &&& (1 : Int32)) = (1 : Int32) then (some (1 : Int32)) else (some (0 : Int32))) = some (canI (now v D) i j) := by rw [with_if hC hjn e, ite_some]
      have hsame : (if ((nI (tt (now v D)) >>> (nI i &&& 31)) &&& (1 : Int32)) = ((nI (tt (now v D)) >>> (nI j &&& 31)) &&& (1 : Int32)) then (some (1 : Int32)) else (some (0 : Int32))) = some (sameI (now v D) i j) := by rw [same_if hC hi hjn, ite_some]
      rw [if_neg (by rw [nI_eq_iff (by omega) (by omega)]; exact e), hsame, bind_s, hcan, bind_s, eall, e0, bind_s]
      refine x_389 h hi hjn e ha fun I L h => ?_
      have := ih f (j + 1) I L (by omega) (by omega) h
      rw [cnt_row, ← Nat.add_assoc] at this
      exact this
end LJ2
