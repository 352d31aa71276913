/-! THE LAW: each of PEOPLE -/
section LI1
variable {tI : xTab} {P Dr : Nat} {v : TV} {D : DD} {A I : xMem} {L : xLon} {x7 : Int64} {x9 x10 : Int32}
variable {G67 : (Int32 → Int32 → Int32 → Int64 → Int32 → xMem → xLon → Option Int32)} {G202 : (Int32 → Int32 → Int32 → Int64 → Int32 → Int32 → Int32 → Int32 → Int32 → Int32 → Int32 → Int32 → Int32 → xMem → xLon → Option Int32)} {c i j : Nat}
theorem with_if2 (h : CS I P Dr v D) {i j : Nat} (hj : j < tn v) {α : Type} (x y : α) : (if ((nI (compN (now v D) i) >>> (nI j &&& 31)) &&& (1 : Int32)) = (1 : Int32) then x else y) = if i ≠ j ∧ canL (now v D) i j 0 then x else y := by
  have h6 := h.n2
  have h64 := h.n64
  have hcl : compN (now v D) i < 2 ^ tn v := comp_lt (now v D) i
  rw [i_1]
  by_cases q : i ≠ j ∧ canL (now v D) i j 0
  · rw [if_pos ((nI_bit1 (by omega) (by omega)).mpr ((comp_bit (now v D) i j).mpr ⟨hj, q⟩)), if_pos q]
  · rw [if_neg (fun w => q ((comp_bit (now v D) i j).mp ((nI_bit1 (by omega) (by omega)).mp w)).2), if_neg q]
/-- whom one waits for is no heavier than a guest who could go -/
def wtOk (w : TV) (i : Nat) (x : Int32) : Prop := ∀ j, j < tn w → canL w i j 0 → tk w j = 0 → ∃ p, x = nI p ∧ p ≤ tw w j
theorem waits_ok (h : LI A I P Dr v D) (hi : i < tn v) : ∃ x, X4_waits P I (nI i) = some x ∧ wtOk (now v D) i x ∧ (x = -9 ∨ ∃ p, 1 ≤ p ∧ p ≤ 99 ∧ x = nI p) := by
  have hC := h.cs
  have hv := hC.vok
  have key : ∀ j, j < tn v → canL (now v D) i j 0 → tk (now v D) j = 0 → lst (now v D) (cnt (now v D) i) (tw (now v D) j) False (stW (now v D) i) / 256 ≤ tl v := fun j hj hc hk => by
    have hb := (canL0 _ _ _).mp hc
    have c1 := cnt_le hv i
    have w9 := hv.2.2.2.2.1 j
    obtain ⟨q, q1, q2, q3⟩ := (lstV_le hv i j (stW (now v D) i) (tl v)).mp hb.2
    have ec : cnt (now v D) j = tw (now v D) j := by
      unfold cnt cntOf
      rw [hk]
      rfl
    refine (lst_le hv (show cnt (now v D) i ≤ 200 by omega) (show tw (now v D) j ≤ 200 by omega) False _ _).mpr ⟨q, q1, q2, ?_⟩
    unfold skN at q3
    rw [ec] at q3
    refine Nat.le_trans (Nat.le_of_eq (sunkN_cong rfl ⟨fun w => w.elim, fun w => ?_⟩)) q3
    have := w.2
    omega
  rcases cs_waits hC hi with ⟨e, hn⟩ | ⟨p, p1, p2, p3, p4, e⟩
  · refine ⟨_, e, fun j hj hc hk => ?_, Or.inl rfl⟩
    have hp : 1 ≤ tw v j := h.pos hj
    exact absurd (key j hj hc hk) (hn (tw (now v D) j) hp (hv.2.2.2.2.1 j))
  · refine ⟨_, e, fun j hj hc hk => ⟨p, rfl, ?_⟩, Or.inr ⟨p, p1, p2, rfl⟩⟩
    have hp : 1 ≤ tw v j := h.pos hj
    rcases Nat.lt_or_ge (tw (now v D) j) p with q | q
    · exact absurd (key j hj hc hk) (p4 _ hp q)
    · exact q
/-- what is to come for the next one -/
def nextI (A : xMem) (P Dr : Nat) (v : TV) (D : DD) (x7 : Int64) (x9 x10 : Int32) (G : (Int32 → Int32 → Int32 → Int64 → Int32 → Int32 → Int32 → Int32 → Int32 → Int32 → Int32 → Int32 → Int32 → xMem → xLon → Option Int32)) (c i : Nat) : Prop := ∀ (I : xMem) (L : xLon), LI A I P Dr v D → G (nI (tn v)) (nI (tl v)) (nI (allS v)) x7 x9 x10 (nI (dd D)) (nI (te (now v D))) (nI (tt (now v D))) (nI (tu (now v D))) (nI (dS D (dd D))) (nI c) (nI (i + 1)) I L = some 1
theorem x_963 (hi : i < tn v) {x21 : Int32} (hw : wtOk (now v D) i x21) (hE : nextI A P Dr v D x7 x9 x10 G202 c i) : ∀ (m fuel j : Nat) (I : xMem) (L : xLon), j + m = tn v → m < fuel → LI A I P Dr v D → XC_963 tI P Dr G67 G202 fuel (nI (tn v)) (nI (tl v)) (nI (allS v)) x7 x9 x10 (nI (dd D)) (nI (te (now v D))) (nI (tt (now v D))) (nI (tu (now v D))) (nI (dS D (dd D))) (nI c) (nI i) (nI (compN (now v D) i)) x21 (nI j) I L = some 1 := by
  intro m
  induction m with
  | zero =>
    intro fuel j I L hj hf h
    obtain ⟨f, rfl⟩ : ∃ f, fuel = f + 1 := ⟨fuel - 1, by omega⟩
    have e : j = tn v := by omega
    subst e
    rw [XC_963]
    rw [if_pos (Int32.le_refl _)]
    unfold XC_1016
    rw [i_1, nI_sum]
    exact hE I L h
  | succ m ih =>
    intro fuel j I L hj hf h
    obtain ⟨f, rfl⟩ : ∃ f, fuel = f + 1 := ⟨fuel - 1, by omega⟩
    have hC := h.cs
    have h6 := hC.n2
    have hjn : j < tn v := by omega
    have hkk := hC.vok.2.2.2.1 j
    have hww := hC.vok.2.2.2.2.1 j
    have go : ∀ I L, LI A I P Dr v D → XC_1010 tI P Dr G67 G202 (XC_963 tI P Dr G67 G202 f) (nI (tn v)) (nI (tl v)) (nI (allS v)) x7 x9 x10 (nI (dd D)) (nI (te (now v D))) (nI (tt (now v D))) (nI (tu (now v D))) (nI (dS D (dd D))) (nI c) (nI i) (nI (compN (now v D) i)) x21 (nI j) I L = some 1 := fun I L h => by
      unfold XC_1010
      rw [i_1, nI_sum]
      exact ih f (j + 1) I L (by omega) (by omega) h
    rw [XC_963]
    rw [if_neg (by rw [nI_le_iff (by omega) (by omega)]; omega), with_if2 hC hjn]
    by_cases q : i ≠ j ∧ canL (now v D) i j 0
    · have t0 := cs_told hC hjn (k := 0) (by omega)
      have e0 : aboutN (now v D) j 0 = tk (now v D) j := rfl
      rw [e0] at t0
      have t0 : L_told P I (nI j) 0 = some (nI (tk (now v D) j), wr I 0 10 (nI (tk (now v D) j))) := t0
      rw [if_pos q, t0, bind_s]
      dsimp only
      have h1 := h.told (nI (tk (now v D) j))
      by_cases z : tk (now v D) j = 0
      · obtain ⟨p, p1, p2⟩ := hw j hjn q.2 z
        have t1 := cs_told h1.cs hjn (k := 1) (by omega)
        have e1 : aboutN (now v D) j 1 = tw (now v D) j := rfl
        rw [e1] at t1
        have t1 : L_told P (wr I 0 10 (nI (tk (now v D) j))) (nI j) 1 = _ := t1
        rw [if_pos (by rw [z]; rfl), if_neg (by rw [p1]; exact nI_pos (by omega)), t1, bind_s, if_pos (by rw [p1, nI_le_iff (by omega) (by omega)]; exact p2)]
        exact go _ L (h1.told _)
      · rw [if_neg (by rw [i_0, nI_eq_iff (by omega) (by omega)]; exact z)]
        exact go _ L h1
    · rw [if_neg q]
      exact go I L h
theorem x_923 (h : LI A I P Dr v D) (hi : i < tn v) (hE : nextI A P Dr v D x7 x9 x10 G202 c i) : XC_923 tI P Dr G67 G202 (nI (tn v)) (nI (tl v)) (nI (allS v)) x7 x9 x10 (nI (dd D)) (nI (te (now v D))) (nI (tt (now v D))) (nI (tu (now v D))) (nI (dS D (dd D))) (nI c) (nI i) (nI (compN (now v D) i)) I L = some 1 := by
  have h6 := h.cs.n2
  obtain ⟨x, e, hw, hx⟩ := waits_ok h hi
  have go : XC_960 tI P Dr G67 G202 (nI (tn v)) (nI (tl v)) (nI (allS v)) x7 x9 x10 (nI (dd D)) (nI (te (now v D))) (nI (tt (now v D))) (nI (tu (now v D))) (nI (dS D (dd D))) (nI c) (nI i) (nI (compN (now v D) i)) x I L = some 1 := by
    unfold XC_960
    exact x_963 hi hw hE (tn v) bigF 0 I L (by omega) (bigF_gt (by omega)) h
  unfold XC_923
  rw [e, bind_s]
  rcases hx with rfl | ⟨p, p1, p2, rfl⟩
  · rw [if_neg (by decide), if_neg (by decide), if_pos (by decide)]
    exact go
  · rw [if_neg (nlt9 (by omega)), if_neg (by rw [i_99, nI_lt_iff (by omega) (by omega)]; omega), if_neg (nle9 (by omega)), if_pos (by rw [i_1, nI_le_iff (by omega) (by omega)]; omega)]
    exact go
/-- all pairs of those ahead -/
def sumR (w : TV) (i : Nat) : Nat := sumN (fun i => rowC w 0 i (tn w)) i
theorem x_275 (h : LI A I P Dr v D) (hi : i < tn v) (hE : nextI A P Dr v D x7 x9 x10 G202 (sumR (now v D) (i + 1)) i) : XC_275 tI P Dr G67 G202 (nI (tn v)) (nI (tl v)) (nI (allS v)) x7 x9 x10 (nI (dd D)) (nI (te (now v D))) (nI (tt (now v D))) (nI (tu (now v D))) (nI (dS D (dd D))) (nI (sumR (now v D) i)) (nI i) (nI (compN (now v D) i)) (if (tt (now v D)).testBit i then 1 else 0) (nI (stW (now v D) i)) I L = some 1 := by
  have hC := h.cs
  have h6 := hC.n2
  have h64 := hC.n64
  have htn := hC.ttn
  have hcl : compN (now v D) i < 2 ^ tn v := comp_lt (now v D) i
  have hp : 0 < 2 ^ tn v := Nat.pos_of_ne_zero (by simp)
  have hq : ∀ (x : Nat), (∀ k, k < tn v → same (now v D) i k → x.testBit k = true) → nI (compN (now v D) i) &&& (nI x ^^^ (-1 : Int32)) = 0 := fun x hx => by
    rw [nI_nd, show nd (compN (now v D) i) x = 0 from (nd_0 _ _).mpr fun k hk => by
      obtain ⟨k1, k2, k3⟩ := (comp_bit (now v D) i k).mp hk
      exact hx k k1 k3.1]
    rfl
  have go : XC_319 tI P Dr G67 G202 bigF (nI (tn v)) (nI (tl v)) (nI (allS v)) x7 x9 x10 (nI (dd D)) (nI (te (now v D))) (nI (tt (now v D))) (nI (tu (now v D))) (nI (dS D (dd D))) (nI (sumR (now v D) i)) (nI i) (nI (compN (now v D) i)) (nI (stW (now v D) i)) 0 I L = some 1 :=
    x_319 hi (sumR (now v D) i) (fun I L h => x_923 h hi hE) (tn v) bigF 0 I L (by omega) (bigF_gt (by omega)) h
  have b0 : nI (compN (now v D) i) >>> (nI i &&& 31) &&& (1 : Int32) = 0 := (nI_bit0 (by omega) (by omega)).mpr (by
    cases hb : (compN (now v D) i).testBit i with
    | false => rfl
    | true => exact absurd rfl ((comp_bit (now v D) i i).mp hb).2.1)
  unfold XC_275
  rw [if_pos b0]
  by_cases c : (tt (now v D)).testBit i = true
  · rw [if_pos c, if_neg (by decide), bind_s, hq _ (fun k _ hk => by rw [← show (tt (now v D)).testBit i = (tt (now v D)).testBit k from hk]; exact c), if_pos rfl]
    exact go
  · have e : (((1 : Int32) <<< (nI (tn v) &&& 31)) - 1) &&& (nI (tt (now v D)) ^^^ -1) = nI (nd (2 ^ tn v - 1) (tt (now v D))) := by
      rw [i_1, nI_pow (by omega), pk_sub (by omega)]
      exact nI_nd _ _
    rw [if_neg c, if_pos rfl, e, bind_s, hq _ (fun k hk1 hk => by
      rw [nd_bit, Nat.testBit_two_pow_sub_one, ← show (tt (now v D)).testBit i = (tt (now v D)).testBit k from hk]
      simp [hk1, c]), if_pos rfl]
    exact go
theorem x_202 (hE : ∀ (I : xMem) (L : xLon), LI A I P Dr v D → XC_1022 tI P Dr G67 (nI (tn v)) (nI (tl v)) (nI (allS v)) x7 x9 x10 (nI (dd D)) (nI (te (now v D))) (nI (tt (now v D))) (nI (tu (now v D))) (nI (dS D (dd D))) (nI (cntP (now v D) 0)) I L = some 1) : ∀ (m fuel i : Nat) (I : xMem) (L : xLon), i + m = tn v → m < fuel → LI A I P Dr v D → XC_202 tI P Dr G67 fuel (nI (tn v)) (nI (tl v)) (nI (allS v)) x7 x9 x10 (nI (dd D)) (nI (te (now v D))) (nI (tt (now v D))) (nI (tu (now v D))) (nI (dS D (dd D))) (nI (sumR (now v D) i)) (nI i) I L = some 1 := by
  intro m
  induction m with
  | zero =>
    intro fuel i I L hi hf h
    obtain ⟨f, rfl⟩ : ∃ f, fuel = f + 1 := ⟨fuel - 1, by omega⟩
    have e : i = tn v := by omega
    subst e
    rw [XC_202]
    rw [if_pos (Int32.le_refl _)]
    have e2 : sumR (now v D) (tn v) = cntP (now v D) 0 := (cntP_rows (now v D) 0).symm
    rw [e2]
    exact hE I L h
  | succ m ih =>
    intro fuel i I L hi hf h
    obtain ⟨f, rfl⟩ : ∃ f, fuel = f + 1 := ⟨fuel - 1, by omega⟩
    have hC := h.cs
    have h6 := hC.n2
    have hin : i < tn v := by omega
    have t4 := cs_told hC hin (k := 4) (by omega)
    have e4 : aboutN (now v D) i 4 = compN (now v D) i := rfl
    rw [e4] at t4
    have t4 : L_told P I (nI i) 4 = _ := t4
    have h1 := h.told (nI (compN (now v D) i))
    have t3 := cs_told h1.cs hin (k := 3) (by omega)
    have e3 : aboutN (now v D) i 3 = if (tt (now v D)).testBit i then 1 else 0 := rfl
    rw [e3] at t3
    have t3 : L_told P (wr I 0 10 (nI (compN (now v D) i))) (nI i) 3 = _ := t3
    have h2 := h1.told (nI (if (tt (now v D)).testBit i then 1 else 0))
    have hst : (if (if (tt (now v D)).testBit i then (1 : Int32) else 0) = (0 : Int32) then (some (nI (allS v) &&& (nI (tu (now v D)) ^^^ (-1 : Int32)))) else (some (nI (tu (now v D))))) = some (nI (stW (now v D) i)) := by
      unfold stW
      by_cases c : (tt (now v D)).testBit i = true
      · rw [if_pos c, if_neg (by decide), if_pos c]
      · rw [if_neg c, if_pos rfl, if_neg c, nI_nd]
        rfl
    have hup : (if (if (tt (now v D)).testBit i then (1 : Int32) else 0) = (0 : Int32) then (some (0 : Int32)) else (some (1 : Int32))) = some (nI (if (tt (now v D)).testBit i then 1 else 0)) := by
      by_cases c : (tt (now v D)).testBit i = true
      · rw [if_pos c, if_neg (by decide), if_pos c]
        rfl
      · rw [if_neg c, if_pos rfl, if_neg c]
        rfl
    rw [XC_202]
    rw [if_neg (by rw [nI_le_iff (by omega) (by omega)]; omega), t4, bind_s, top_if hC hin, ite_some, bind_s, hst, bind_s, t3, bind_s, hup, bind_s, if_pos rfl]
    refine x_275 h2 hin fun I L h => ?_
    exact ih f (i + 1) I L (by omega) (by omega) h
end LI1
