/-! A TOWER BY A TEXT, the class alone; the law's tower -/
/-- no deeds -/
def D0 : DD := (0, fun _ => 0, fun _ => 0, fun _ => 0, fun _ => 0)
theorem D0_ok (v : TV) : dOk v D0 := by
  have h1 : 0 < 2 ^ tn v := Nat.pos_of_ne_zero (by simp)
  have h2 : 0 < 2 ^ ts v := Nat.pos_of_ne_zero (by simp)
  exact ⟨Nat.zero_le _, fun k hk => ⟨⟨h1, h2, Nat.zero_le _⟩, (show pc 0 % 2 = 0 from rfl), Nat.zero_le _⟩, fun j k _ _ => Nat.le_refl _, rfl, rfl, rfl, rfl⟩
def zerD (I : xMem) : Prop := I 18 0 = 0 ∧ I 19 0 = 0 ∧ I 20 0 = 0 ∧ I 21 0 = 0
section CT
variable {I : xMem} {P Dr : Nat} {v : TV}
theorem cs_fault (hPD : isPD P Dr) (hk : rowK I) (h11 : I 11 0 = nI 40) (hv : vLaw v) (hT : TX (I 13) v) : ∃ B, X4_fault Dr I 0 = some (-9, B) ∧ dAg Dr I B := by
  unfold isPD at hPD
  obtain ⟨-, -, -, k1, -⟩ := hk
  obtain ⟨B, b1, b2, -⟩ := tx_read (b := Dr) (y := 13) hv hT (by omega)
  refine ⟨B, ?_, b2⟩
  have e := refRow_eq (I := I) (y := 10) (N := 4) k1 rfl (by omega) 0
  rw [if_pos (by decide), show (0 : Int32).toNatClampNeg = 0 from rfl, if_neg (show ¬ I (10 + 1) 0 = -1 by rw [show (10 : Nat) + 1 = 11 from rfl, h11]; decide)] at e
  unfold X4_fault
  rw [e, bind_s]
  dsimp only
  rw [if_pos rfl, show rdX 4 (0 : Int32) = some 0 from rdX_nI (n := 0) (by omega) (by omega), bind_s, show cLen 11 = 4 from rfl, show rdI I 11 4 (0 : Int32) = some (I 11 0) from rdI_nI (n := 0) (by omega) (by omega), bind_s, h11, show 12 + 1 + 0 = 13 from rfl, b1, bind_s]
theorem cs_tower (hPD : isPD P Dr) (hk : rowK I) (h11 : I 11 0 = nI 40) (hv : vLaw v) (hT : TX (I 13) v) (hz : zerD I) : ∃ I', X4_tower P Dr I 0 = some (nI (tn v), I', Dr, P) ∧ CS I' Dr P v D0 ∧ (∀ k, k < 3 → I' 38 k = 0) ∧ ∀ k j, (k < Dr ∨ Dr + 4 < k) → (k ≠ 17 ∨ j ≠ 0) → k ≠ 38 → I' k j = I k j := by
  have hPD' : isPD Dr P := by
    unfold isPD at hPD ⊢
    omega
  unfold isPD at hPD
  obtain ⟨-, -, -, k1, -⟩ := hk
  obtain ⟨B, b1, b2, b3⟩ := tx_read (b := Dr) (y := 13) hv hT (by omega)
  have e := refRow_eq (I := I) (y := 10) (N := 4) k1 rfl (by omega) 0
  rw [if_pos (by decide), show (0 : Int32).toNatClampNeg = 0 from rfl, if_neg (show ¬ I (10 + 1) 0 = -1 by rw [show (10 : Nat) + 1 = 11 from rfl, h11]; decide)] at e
  obtain ⟨Z, hZ, he⟩ := loop_I (fun fuel k (Z : xMem) => X4_tower_L1 (fun (I11 : xMem) => some ((I11 Dr 2), I11, Dr, P)) fuel (nI k) Z) (fun Z => some ((Z Dr 2), Z, Dr, P)) 3 (fun k Z => (∀ q, q < k → Z 38 q = 0) ∧ ∀ a q, a ≠ 38 → Z a q = wr B 17 0 0 a q)
    (fun fuel k Z hk hI => by
      refine ⟨wr Z 38 k (nz 0), ?_, fun q hq => ?_, fun a q ha => ?_⟩
      · show X4_tower_L1 (fun (I11 : xMem) => some ((I11 Dr 2), I11, Dr, P)) (fuel + 1) (nI k) Z = _
        rw [X4_tower_L1]
        rw [if_neg (by rw [i_3, nI_le_iff (by omega) (by omega)]; omega), wrI_nI hk (by omega), bind_s, i_1, nI_sum]
      · by_cases e : q = k
        · subst e
          rw [wr_eq]
          rfl
        · rw [wr_off _ _ (by omega)]
          exact hI.1 q (by omega)
      · rw [wr_off _ _ (by omega)]
        exact hI.2 a q ha)
    (fun fuel Z hI => by
      show X4_tower_L1 (fun (I11 : xMem) => some ((I11 Dr 2), I11, Dr, P)) (fuel + 1) (nI 3) Z = _
      rw [X4_tower_L1]
      rw [if_pos (by decide)])
    3 bigF 0 (wr B 17 0 0) (by omega) (bigF_gt (by omega)) ⟨fun q hq => absurd hq (by omega), fun a q _ => rfl⟩
  obtain ⟨z1, z2⟩ := hZ
  have he : X4_tower_L1 (fun (I11 : xMem) => some ((I11 Dr 2), I11, Dr, P)) bigF 0 (wr B 17 0 0) = some ((Z Dr 2), Z, Dr, P) := he
  have zo : ∀ a q, a ≠ 38 → (a ≠ 17 ∨ q ≠ 0) → Z a q = B a q := fun a q h1 h2 => by rw [z2 a q h1, wr_off _ _ (by omega)]
  have zi : ∀ a q, a ≠ 38 → (a ≠ 17 ∨ q ≠ 0) → (a < Dr ∨ Dr + 4 < a) → Z a q = I a q := fun a q h1 h2 h3 => by rw [zo a q h1 h2]; exact b2 a q h3
  refine ⟨Z, ?_, ⟨hPD', hv.1, b3.cg fun k j _ _ => zo k j (by omega) (by omega), D0_ok v, ?_, fun k hk => ?_⟩, z1, fun k j h1 h2 h3 => zi k j h3 h2 h1⟩
  · unfold X4_tower
    rw [e, bind_s]
    dsimp only
    rw [if_pos rfl, show rdX 4 (0 : Int32) = some 0 from rdX_nI (n := 0) (by omega) (by omega), bind_s, show cLen 11 = 4 from rfl, show rdI I 11 4 (0 : Int32) = some (I 11 0) from rdI_nI (n := 0) (by omega) (by omega), bind_s, h11, show 12 + 1 + 0 = 13 from rfl, b1, bind_s]
    dsimp only
    rw [if_pos rfl, bind_s, he, zo Dr 2 (by omega) (by omega), b3.1.2.2]
  · rw [z2 17 0 (by omega), wr_eq]
    rfl
  · have hk : k = 0 := by
      have : k ≤ 0 := hk
      omega
    subst hk
    obtain ⟨q1, q2, q3, q4⟩ := hz
    rw [zi _ _ (by omega) (by omega) (by omega), zi _ _ (by omega) (by omega) (by omega), zi _ _ (by omega) (by omega) (by omega), zi _ _ (by omega) (by omega) (by omega)]
    exact ⟨q1, q2, q3, q4⟩
end CT
section LT
variable {P Dr : Nat} {tI : xTab}
/-- beside the text and the law's arrays nothing has changed -/
def tFr (I0 I : xMem) : Prop := ∀ k j, k ≠ 13 → k ≠ 62 → k ≠ 63 → (k ≠ 11 ∨ j ≠ 0) → I k j = I0 k j
theorem i_1032 : (32 : Int32) + 1000 = 1032 := by decide
theorem put32 {I : xMem} {i c : Nat} (hk : rowK I) (h11 : I 11 0 = nI 40) (hi : i < 40) (h32 : I 13 i = 32) (hc : c < 128) : X4_put I 0 (nI i) (nI c) = some (1032, wr I 13 i (nI c)) := by
  have := cs_put hk (t := 0) (s := 40) (by omega) (by omega) h11 hi hc
  rw [show 13 + 0 = 13 from rfl, h32, i_1032] at this
  exact this
/-- the law's text so far: x, the limit, so many stones, so many of PEOPLE; blanks behind -/
def tSt (I0 I : xMem) (n S l k i : Nat) (sp kk ww : Nat → Nat) : Prop := tFr I0 I ∧ I 11 0 = nI 40 ∧ (I 62 0 = nI n ∧ I 62 1 = nI S ∧ I 62 2 = nI l) ∧ (I 13 0 = 120 ∧ I 13 1 = nI (48 + l) ∧ I 13 2 = 32) ∧ (∀ q, q < k → I 62 (3 + q) = nI (sp q) ∧ I 13 (3 + 2 * q) = 111 ∧ I 13 (4 + 2 * q) = nI (48 + sp q)) ∧ (∀ q, q < i → (I 62 (7 + q) = nI (kk q) ∧ I 62 (13 + q) = nI (ww q)) ∧ I 13 (12 + 4 * q) = L_letter (nI (kk q)) ∧ I 13 (13 + 4 * q) = nI (48 + ww q / 10) ∧ I 13 (14 + 4 * q) = nI (48 + ww q % 10) ∧ I 13 (15 + 4 * q) = 32) ∧ (∀ p, 3 + 2 * k ≤ p → p < 12 + 4 * i → p < 12 → I 13 p = 32) ∧ (∀ p, 12 + 4 * i ≤ p → p < 60 → I 13 p = 32) ∧ (∀ j, j < 4 → I 63 j = 0) ∧ ((∀ q, sp q ≤ 9) ∧ ∀ q, q < k → 1 ≤ sp q) ∧ ((∀ q, kk q < 6) ∧ (∀ q, ww q ≤ 99) ∧ ∀ q, q < i → 1 ≤ ww q)
theorem rowK.fr {I0 I : xMem} (h : rowK I0) (g : tFr I0 I) : rowK I := h.cg fun k j _ => g k j (by omega) (by omega) (by omega) (by omega)
theorem lt_stones {I0 : xMem} (hN : tI.2.2.1 ≤ 260) (hk : rowK I0) {n S l : Nat} (hS : S ≤ 4) (K : Int32 → xMem → Option (Int32 × xMem × Nat × Nat)) : ∀ (m fuel k : Nat) (I : xMem) (sp : Nat → Nat), k + m = S → m < fuel → tSt I0 I n S l k 0 sp (fun _ => 0) (fun _ => 0) → ∃ I' sp', L_tower_L2 tI K fuel 1 (nI k) I = K 1 I' ∧ tSt I0 I' n S l S 0 sp' (fun _ => 0) (fun _ => 0) := by
  intro m
  induction m with
  | zero =>
    intro fuel k I sp hks hf h
    obtain ⟨f, rfl⟩ : ∃ f, fuel = f + 1 := ⟨fuel - 1, by omega⟩
    have e : k = S := by omega
    subst e
    refine ⟨I, sp, ?_, h⟩
    rw [L_tower_L2]
    rw [show rdI I 62 19 (1 : Int32) = some (nI k) from (rdI_nI (I := I) (k := 62) (N := 19) (n := 1) (by omega) (by omega)).trans (congrArg some h.2.2.1.2.1), bind_s, if_pos (Int32.le_refl _)]
  | succ m ih =>
    intro fuel k I sp hks hf h
    obtain ⟨f, rfl⟩ : ∃ f, fuel = f + 1 := ⟨fuel - 1, by omega⟩
    obtain ⟨h1, h2, ⟨h3, h4, h5⟩, ⟨h6, h7, h8⟩, h9, h10, h11, h12, h13, ⟨h14, h15⟩, h16⟩ := h
    obtain ⟨c, hc⟩ := cell_nI I tI hN (k := 1) (by omega)
    have hc : L_cell I tI 1 = some c := hc
    obtain ⟨r, hr, er⟩ := low_nI (c >>> (((5 : Int32) * nI k) &&& 31)) (n := 9) (by omega) (by omega)
    have er : L_low (c >>> (((5 : Int32) * nI k) &&& 31)) 9 = some (nI r) := er
    have hkI : rowK (wr I 62 (3 + k) (nI (1 + r))) := (hk.fr h1).cg fun a j _ => wr_off _ _ (by omega)
    have p1 := put32 (i := 3 + 2 * k) (c := 111) hkI (by rw [wr_off _ _ (by omega)]; exact h2) (by omega) (by rw [wr_off _ _ (by omega)]; exact h11 _ (by omega) (by omega) (by omega)) (by omega)
    have hkI2 : rowK (wr (wr I 62 (3 + k) (nI (1 + r))) 13 (3 + 2 * k) (nI 111)) := hkI.cg fun a j _ => wr_off _ _ (by omega)
    have p2 := put32 (i := 4 + 2 * k) (c := 48 + (1 + r)) hkI2 (by rw [wr_off _ _ (by omega), wr_off _ _ (by omega)]; exact h2) (by omega) (by rw [wr_off _ _ (by omega), wr_off _ _ (by omega)]; exact h11 _ (by omega) (by omega) (by omega)) (by omega)
    have o13 : ∀ a, a ≠ 3 + 2 * k → a ≠ 4 + 2 * k → wr (wr (wr I 62 (3 + k) (nI (1 + r))) 13 (3 + 2 * k) (nI 111)) 13 (4 + 2 * k) (nI (48 + (1 + r))) 13 a = I 13 a := fun a b1 b2 => by
      rw [wr_off _ _ (by omega), wr_off _ _ (by omega), wr_off _ _ (by omega)]
    have o62 : ∀ a, a ≠ 3 + k → wr (wr (wr I 62 (3 + k) (nI (1 + r))) 13 (3 + 2 * k) (nI 111)) 13 (4 + 2 * k) (nI (48 + (1 + r))) 62 a = I 62 a := fun a b1 => by
      rw [wr_off _ _ (by omega), wr_off _ _ (by omega), wr_off _ _ (by omega)]
    have hnew : tSt I0 (wr (wr (wr I 62 (3 + k) (nI (1 + r))) 13 (3 + 2 * k) (nI 111)) 13 (4 + 2 * k) (nI (48 + (1 + r)))) n S l (k + 1) 0 (fun q => if q = k then 1 + r else sp q) (fun _ => 0) (fun _ => 0) := by
      refine ⟨fun a j q1 q2 q3 q4 => ?_, ?_, ⟨?_, ?_, ?_⟩, ⟨?_, ?_, ?_⟩, fun q hq => ?_, fun q hq => absurd hq (by omega), fun p q1 q2 q3 => ?_, fun p q1 q2 => ?_, fun j hj => ?_, ⟨fun q => ?_, fun q hq => ?_⟩, h16⟩
      · rw [wr_off _ _ (by omega), wr_off _ _ (by omega), wr_off _ _ (by omega)]
        exact h1 a j q1 q2 q3 q4
      · rw [wr_off _ _ (by omega), wr_off _ _ (by omega), wr_off _ _ (by omega)]
        exact h2
      · rw [o62 _ (by omega)]; exact h3
      · rw [o62 _ (by omega)]; exact h4
      · rw [o62 _ (by omega)]; exact h5
      · rw [o13 _ (by omega) (by omega)]; exact h6
      · rw [o13 _ (by omega) (by omega)]; exact h7
      · rw [o13 _ (by omega) (by omega)]; exact h8
      · by_cases e : q = k
        · subst e
          simp only [if_true]
          refine ⟨?_, ?_, wr_eq _ _ _ _⟩
          · rw [wr_off _ _ (by omega), wr_off _ _ (by omega), wr_eq]
          · rw [wr_off _ _ (by omega), wr_eq]
            rfl
        · simp only [e, if_false]
          rw [o62 _ (by omega), o13 _ (by omega) (by omega), o13 _ (by omega) (by omega)]
          exact h9 q (by omega)
      · rw [o13 _ (by omega) (by omega)]
        exact h11 p (by omega) q2 q3
      · rw [o13 _ (by omega) (by omega)]
        exact h12 p q1 q2
      · rw [wr_off _ _ (by omega), wr_off _ _ (by omega), wr_off _ _ (by omega)]
        exact h13 j hj
      · show (if q = k then 1 + r else sp q) ≤ 9
        split
        · omega
        · exact h14 q
      · show 1 ≤ (if q = k then 1 + r else sp q)
        split
        · omega
        · exact h15 q (by omega)
    obtain ⟨I', sp', e1, e2⟩ := ih f (k + 1) _ _ (by omega) (by omega) hnew
    refine ⟨I', sp', ?_, e2⟩
    rw [L_tower_L2]
    rw [show rdI I 62 19 (1 : Int32) = some (nI S) from (rdI_nI (I := I) (k := 62) (N := 19) (n := 1) (by omega) (by omega)).trans (congrArg some h4), bind_s, if_neg (by rw [nI_le_iff (by omega) (by omega)]; omega), hc, bind_s, er, bind_s, show (3 : Int32) + nI k = nI (3 + k) from nI_sum 3 k, show (1 : Int32) + nI r = nI (1 + r) from nI_sum 1 r, wrI_nI (by omega) (by omega), bind_s, if_neg (by decide), show (3 : Int32) + (2 : Int32) * nI k = nI (3 + 2 * k) by rw [show (2 : Int32) * nI k = nI (2 * k) from nI_mul 2 k]; exact nI_sum 3 (2 * k)]
    have p1 : X4_put (wr I 62 (3 + k) (nI (1 + r))) 0 (nI (3 + 2 * k)) 111 = _ := p1
    rw [p1, bind_s, if_pos rfl]
    dsimp only
    rw [rdI_nI (by omega) (by omega), bind_s, wr_off _ _ (by omega), wr_eq, show (4 : Int32) + (2 : Int32) * nI k = nI (4 + 2 * k) by rw [show (2 : Int32) * nI k = nI (2 * k) from nI_mul 2 k]; exact nI_sum 4 (2 * k), show (48 : Int32) + nI (1 + r) = nI (48 + (1 + r)) from nI_sum 48 (1 + r), p2, bind_s, if_pos rfl, show nI k + (1 : Int32) = nI (k + 1) from nI_sum k 1]
    exact e1
theorem lt_ones {I0 : xMem} (hN : tI.2.2.1 ≤ 260) (hk : rowK I0) {n S l : Nat} (hS : S ≤ 4) (hn : n ≤ 6) {sp : Nat → Nat} (x : Int32) (K : Int32 → xMem → Option (Int32 × xMem × Nat × Nat)) : ∀ (m fuel i : Nat) (I : xMem) (kk ww : Nat → Nat), i + m = n → m < fuel → tSt I0 I n S l S i sp kk ww → ∃ I' kk' ww', L_tower_L3 tI x K fuel 1 (nI i) I = K 1 I' ∧ tSt I0 I' n S l S n sp kk' ww' := by
  intro m
  induction m with
  | zero =>
    intro fuel i I kk ww his hf h
    obtain ⟨f, rfl⟩ : ∃ f, fuel = f + 1 := ⟨fuel - 1, by omega⟩
    have e : i = n := by omega
    subst e
    refine ⟨I, kk, ww, ?_, h⟩
    rw [L_tower_L3]
    rw [show rdI I 62 19 (0 : Int32) = some (nI i) from (rdI_nI (I := I) (k := 62) (N := 19) (n := 0) (by omega) (by omega)).trans (congrArg some h.2.2.1.1), bind_s, if_pos (Int32.le_refl _)]
  | succ m ih =>
    intro fuel i I kk ww his hf h
    obtain ⟨f, rfl⟩ : ∃ f, fuel = f + 1 := ⟨fuel - 1, by omega⟩
    obtain ⟨h1, h2, ⟨h3, h4, h5⟩, ⟨h6, h7, h8⟩, h9, h10, h11, h12, h13, h14, ⟨h15, h16, h17⟩⟩ := h
    obtain ⟨y, hy⟩ := cell_nI I tI hN (k := 2 + i) (by omega)
    obtain ⟨k, hkk, ek⟩ := low_nI y (n := 6) (by omega) (by omega)
    have ek : L_low y 6 = some (nI k) := ek
    have hw : ∃ w, 1 ≤ w ∧ w ≤ 99 ∧ (if ((x >>> ((20 : Int32) &&& 31)) &&& (1 : Int32)) = (0 : Int32) then ((L_low (y >>> ((3 : Int32) &&& 31)) (30 : Int32)).bind fun v49 => some ((1 : Int32) + v49)) else ((L_low (y >>> ((3 : Int32) &&& 31)) (99 : Int32)).bind fun v48 => some ((1 : Int32) + v48))) = some (nI w) := by
      by_cases c : ((x >>> ((20 : Int32) &&& 31)) &&& (1 : Int32)) = (0 : Int32)
      · obtain ⟨r, hr, er⟩ := low_nI (y >>> ((3 : Int32) &&& 31)) (n := 30) (by omega) (by omega)
        have er : L_low (y >>> ((3 : Int32) &&& 31)) 30 = some (nI r) := er
        refine ⟨1 + r, by omega, by omega, ?_⟩
        rw [if_pos c, er, bind_s]
        exact congrArg some (nI_sum 1 r)
      · obtain ⟨r, hr, er⟩ := low_nI (y >>> ((3 : Int32) &&& 31)) (n := 99) (by omega) (by omega)
        have er : L_low (y >>> ((3 : Int32) &&& 31)) 99 = some (nI r) := er
        refine ⟨1 + r, by omega, by omega, ?_⟩
        rw [if_neg c, er, bind_s]
        exact congrArg some (nI_sum 1 r)
    obtain ⟨w, w1, w2, ew⟩ := hw
    have lk : ∀ k, k < 6 → ∃ c, c < 128 ∧ L_letter (nI k) = nI c := by
      intro k hk
      rcases (show k = 0 ∨ k = 1 ∨ k = 2 ∨ k = 3 ∨ k = 4 ∨ k = 5 by omega) with rfl | rfl | rfl | rfl | rfl | rfl
      · exact ⟨103, by omega, rfl⟩
      · exact ⟨116, by omega, rfl⟩
      · exact ⟨99, by omega, rfl⟩
      · exact ⟨108, by omega, rfl⟩
      · exact ⟨110, by omega, rfl⟩
      · exact ⟨98, by omega, rfl⟩
    obtain ⟨lc, lc1, lc2⟩ := lk k hkk
    have hb : ∀ j, j < 4 → I 13 (12 + 4 * i + j) = 32 := fun j hj => h12 _ (by omega) (by omega)
    have hk0 : rowK I := hk.fr h1
    have hkI : rowK (wr (wr I 62 (7 + i) (nI k)) 62 (13 + i) (nI w)) := hk0.cg fun a j _ => by rw [wr_off _ _ (by omega), wr_off _ _ (by omega)]
    have p1 := put32 (i := 12 + 4 * i) (c := lc) hkI (by rw [wr_off _ _ (by omega), wr_off _ _ (by omega)]; exact h2) (by omega) (by rw [wr_off _ _ (by omega), wr_off _ _ (by omega)]; exact hb 0 (by omega)) lc1
    have hkI2 : rowK (wr (wr (wr I 62 (7 + i) (nI k)) 62 (13 + i) (nI w)) 13 (12 + 4 * i) (nI lc)) := hkI.cg fun a j _ => wr_off _ _ (by omega)
    have p2 := put32 (i := 12 + 4 * i + 1) (c := 48 + w / 10) hkI2 (by rw [wr_off _ _ (by omega), wr_off _ _ (by omega), wr_off _ _ (by omega)]; exact h2) (by omega) (by rw [wr_off _ _ (by omega), wr_off _ _ (by omega), wr_off _ _ (by omega)]; exact hb 1 (by omega)) (by omega)
    have hkI3 : rowK (wr (wr (wr (wr I 62 (7 + i) (nI k)) 62 (13 + i) (nI w)) 13 (12 + 4 * i) (nI lc)) 13 (12 + 4 * i + 1) (nI (48 + w / 10))) := hkI2.cg fun a j _ => wr_off _ _ (by omega)
    have p3 := put32 (i := 12 + 4 * i + 2) (c := 48 + w % 10) hkI3 (by rw [wr_off _ _ (by omega), wr_off _ _ (by omega), wr_off _ _ (by omega), wr_off _ _ (by omega)]; exact h2) (by omega) (by rw [wr_off _ _ (by omega), wr_off _ _ (by omega), wr_off _ _ (by omega), wr_off _ _ (by omega)]; exact hb 2 (by omega)) (by omega)
    generalize hZ : wr (wr (wr (wr (wr I 62 (7 + i) (nI k)) 62 (13 + i) (nI w)) 13 (12 + 4 * i) (nI lc)) 13 (12 + 4 * i + 1) (nI (48 + w / 10))) 13 (12 + 4 * i + 2) (nI (48 + w % 10)) = Z at p3
    have o13 : ∀ a, a ≠ 12 + 4 * i → a ≠ 12 + 4 * i + 1 → a ≠ 12 + 4 * i + 2 → Z 13 a = I 13 a := fun a b1 b2 b3 => by
      rw [← hZ, wr_off _ _ (by omega), wr_off _ _ (by omega), wr_off _ _ (by omega), wr_off _ _ (by omega), wr_off _ _ (by omega)]
    have o62 : ∀ a, a ≠ 7 + i → a ≠ 13 + i → Z 62 a = I 62 a := fun a b1 b2 => by
      rw [← hZ, wr_off _ _ (by omega), wr_off _ _ (by omega), wr_off _ _ (by omega), wr_off _ _ (by omega), wr_off _ _ (by omega)]
    have oth : ∀ a j, a ≠ 13 → a ≠ 62 → Z a j = I a j := fun a j b1 b2 => by
      rw [← hZ, wr_off _ _ (by omega), wr_off _ _ (by omega), wr_off _ _ (by omega), wr_off _ _ (by omega), wr_off _ _ (by omega)]
    have hnew : tSt I0 Z n S l S (i + 1) sp (fun q => if q = i then k else kk q) (fun q => if q = i then w else ww q) := by
      refine ⟨fun a j q1 q2 q3 q4 => ?_, ?_, ⟨?_, ?_, ?_⟩, ⟨?_, ?_, ?_⟩, fun q hq => ?_, fun q hq => ?_, fun p q1 q2 q3 => ?_, fun p q1 q2 => ?_, fun j hj => ?_, h14, ⟨fun q => ?_, fun q => ?_, fun q hq => ?_⟩⟩
      · rw [oth a j q1 q2]
        exact h1 a j q1 q2 q3 q4
      · rw [oth _ _ (by omega) (by omega)]
        exact h2
      · rw [o62 _ (by omega) (by omega)]; exact h3
      · rw [o62 _ (by omega) (by omega)]; exact h4
      · rw [o62 _ (by omega) (by omega)]; exact h5
      · rw [o13 _ (by omega) (by omega) (by omega)]; exact h6
      · rw [o13 _ (by omega) (by omega) (by omega)]; exact h7
      · rw [o13 _ (by omega) (by omega) (by omega)]; exact h8
      · rw [o62 _ (by omega) (by omega), o13 _ (by omega) (by omega) (by omega), o13 _ (by omega) (by omega) (by omega)]
        exact h9 q hq
      · by_cases e : q = i
        · subst e
          simp only [if_true]
          refine ⟨⟨?_, ?_⟩, ?_, ?_, ?_, ?_⟩
          · rw [← hZ, wr_off _ _ (by omega), wr_off _ _ (by omega), wr_off _ _ (by omega), wr_off _ _ (by omega), wr_eq]
          · rw [← hZ, wr_off _ _ (by omega), wr_off _ _ (by omega), wr_off _ _ (by omega), wr_eq]
          · rw [← hZ, wr_off _ _ (by omega), wr_off _ _ (by omega), wr_eq]
            exact lc2.symm
          · rw [← hZ, wr_off _ _ (by omega), show 13 + 4 * q = 12 + 4 * q + 1 by omega, wr_eq]
          · rw [← hZ, show 14 + 4 * q = 12 + 4 * q + 2 by omega, wr_eq]
          · rw [o13 _ (by omega) (by omega) (by omega)]
            exact h12 _ (by omega) (by omega)
        · simp only [e, if_false]
          rw [o62 _ (by omega) (by omega), o62 _ (by omega) (by omega), o13 _ (by omega) (by omega) (by omega), o13 _ (by omega) (by omega) (by omega), o13 _ (by omega) (by omega) (by omega), o13 _ (by omega) (by omega) (by omega)]
          exact h10 q (by omega)
      · rw [o13 _ (by omega) (by omega) (by omega)]
        exact h11 p q1 (by omega) q3
      · rw [o13 _ (by omega) (by omega) (by omega)]
        exact h12 p (by omega) q2
      · rw [oth _ _ (by omega) (by omega)]
        exact h13 j hj
      · show (if q = i then k else kk q) < 6
        split
        · exact hkk
        · exact h15 q
      · show (if q = i then w else ww q) ≤ 99
        split
        · exact w2
        · exact h16 q
      · show 1 ≤ (if q = i then w else ww q)
        split
        · exact w1
        · exact h17 q (by omega)
    obtain ⟨I', kk', ww', e1, e2⟩ := ih f (i + 1) _ _ _ (by omega) (by omega) hnew
    refine ⟨I', kk', ww', ?_, e2⟩
    have r7 : rdI (wr (wr I 62 (7 + i) (nI k)) 62 (13 + i) (nI w)) 62 19 (nI (7 + i)) = some (nI k) := by
      rw [rdI_nI (by omega) (by omega), wr_off _ _ (by omega), wr_eq]
    rw [L_tower_L3]
    rw [show rdI I 62 19 (0 : Int32) = some (nI n) from (rdI_nI (I := I) (k := 62) (N := 19) (n := 0) (by omega) (by omega)).trans (congrArg some h3), bind_s, if_neg (by rw [nI_le_iff (by omega) (by omega)]; omega), show (2 : Int32) + nI i = nI (2 + i) from nI_sum 2 i, hy, bind_s, ek, bind_s, show (7 : Int32) + nI i = nI (7 + i) from nI_sum 7 i, wrI_nI (by omega) (by omega), bind_s, ew, bind_s, show (13 : Int32) + nI i = nI (13 + i) from nI_sum 13 i, wrI_nI (by omega) (by omega), bind_s, if_neg (by decide), r7, bind_s, show (12 : Int32) + (4 : Int32) * nI i = nI (12 + 4 * i) by rw [show (4 : Int32) * nI i = nI (4 * i) from nI_mul 4 i]; exact nI_sum 12 (4 * i), lc2, p1, bind_s, if_pos rfl]
    dsimp only
    rw [rdI_nI (by omega) (by omega), bind_s, wr_off _ _ (by omega), wr_eq, show nI (12 + 4 * i) + (1 : Int32) = nI (12 + 4 * i + 1) from nI_sum _ 1, show nI w / (10 : Int32) = nI (w / 10) from nI_div (d := 10) (by omega) (by omega) (by omega), show (48 : Int32) + nI (w / 10) = nI (48 + w / 10) from nI_sum 48 _, p2, bind_s, if_pos rfl]
    dsimp only
    rw [rdI_nI (by omega) (by omega), bind_s, wr_off _ _ (by omega), wr_off _ _ (by omega), wr_eq, show nI (12 + 4 * i) + (2 : Int32) = nI (12 + 4 * i + 2) from nI_sum _ 2, show nI w / (10 : Int32) = nI (w / 10) from nI_div (d := 10) (by omega) (by omega) (by omega), show (10 : Int32) = nI 10 from rfl, show nI w - nI (w / 10) * nI 10 = nI (w % 10) by rw [← nI_div (a := w) (d := 10) (by omega) (by omega) (by omega)]; exact nI_rem (by omega) (by omega) (by omega), show (48 : Int32) + nI (w % 10) = nI (48 + w % 10) from nI_sum 48 _, p3, bind_s, if_pos rfl, show nI i + (1 : Int32) = nI (i + 1) from nI_sum i 1]
    exact e1
end LT
