/-! THE LAW'S OWN METHODS: what they answer -/
theorem low_nI (x : Int32) {n : Nat} (h0 : 0 < n) (hn : n < 2 ^ 31) : ∃ r, r < n ∧ L_low x (nI n) = some (nI r) := by
  have h : ∃ k, k < 2 ^ 31 ∧ x &&& 2147483647 = nI k := by
    refine ⟨(x &&& 2147483647).toBitVec.toNat, ?_, ?_⟩
    · have h : (x &&& 2147483647).toBitVec = x.toBitVec &&& 2147483647#32 := rfl
      rw [h, BitVec.toNat_and]
      have := Nat.and_le_right (n := x.toBitVec.toNat) (m := (2147483647#32).toNat)
      have h2 : (2147483647#32).toNat = 2147483647 := rfl
      omega
    · apply Int32.toBitVec_inj.mp
      show (x &&& 2147483647).toBitVec = BitVec.ofNat 32 _
      rw [BitVec.ofNat_toNat, BitVec.setWidth_eq]
  obtain ⟨k, hk, e⟩ := h
  refine ⟨k % n, Nat.mod_lt _ h0, ?_⟩
  unfold L_low rmI
  rw [e, if_neg (by rw [i_0, nI_eq_iff (by omega) (by omega)]; omega), bind_s, nI_rem hk h0 hn]
theorem cell_nI (I : xMem) (tI : xTab) (hN : tI.2.2.1 ≤ 260) {k : Nat} (hk : k < 1000) : ∃ x, L_cell I tI (nI k) = some x := by
  unfold L_cell
  by_cases c : (Int32.ofNat tI.2.2.1) ≤ nI k
  · rw [if_pos c]
    exact ⟨_, rfl⟩
  · rw [if_neg c]
    have c2 : k < tI.2.2.1 := by
      rcases Nat.lt_or_ge k tI.2.2.1 with q | q
      · exact q
      · exact absurd ((nI_le_iff (a := tI.2.2.1) (b := k) (by omega) (by omega)).mpr q) c
    rw [rdT_nI c2 (by omega), bind_s]
    exact ⟨_, rfl⟩
theorem bits_nI {t : Nat} (ht : t < 64) : L_bits (nI t) = some (nI (pc t)) := by
  unfold L_bits
  have key := loop_F (fun fuel k (s : Nat) => L_bits_L1 (nI t) (fun z => some z) fuel (nI s) (nI k)) (fun s => some (nI s)) 6 (fun k s => s + t / 2 ^ k % 2) (fun _ _ => True)
    (fun fuel k s hk _ => ⟨by
      show L_bits_L1 (nI t) _ (fuel + 1) (nI s) (nI k) = _
      rw [L_bits_L1]
      rw [if_neg (by rw [i_6, nI_le_iff (by omega) (by omega)]; omega), i_1, nI_bit (by omega) (by omega), nI_sum, nI_sum], trivial⟩)
    (fun fuel s _ => by
      show L_bits_L1 (nI t) _ (fuel + 1) (nI s) (nI 6) = _
      rw [L_bits_L1]
      rw [if_pos (by decide)])
    6 bigF 0 0 (by omega) (bigF_gt (by omega)) trivial
  rw [foldF_sum (fun k => t / 2 ^ k % 2)] at key
  refine key.trans ?_
  congr 2
  show sumN (fun k => t / 2 ^ k % 2) 6 = pc t
  unfold pc
  simp [sumN]
/-- the law's arrays hold the tower's numbers; how it stands -/
def GV (I : xMem) (v : TV) : Prop := (I 62 0 = nI (tn v) ∧ I 62 1 = nI (ts v) ∧ I 62 2 = nI (tl v)) ∧ (∀ k, k < ts v → I 62 (3 + k) = nI (tp v k)) ∧ ∀ i, i < tn v → I 62 (7 + i) = nI (tk v i) ∧ I 62 (13 + i) = nI (tw v i)
def VV (I : xMem) (w : TV) (s : Nat) : Prop := I 63 0 = nI (te w) ∧ I 63 1 = nI (tt w) ∧ I 63 2 = nI (tu w) ∧ I 63 3 = nI s
theorem GV.cg {I I' : xMem} {v : TV} (h : GV I v) (g : ∀ j, I' 62 j = I 62 j) : GV I' v := by
  obtain ⟨⟨a, b, c⟩, d, e⟩ := h
  exact ⟨⟨by rw [g]; exact a, by rw [g]; exact b, by rw [g]; exact c⟩, fun k hk => by rw [g]; exact d k hk, fun i hi => by rw [g, g]; exact e i hi⟩
theorem VV.cg {I I' : xMem} {w : TV} {s : Nat} (h : VV I w s) (g : ∀ j, I' 63 j = I 63 j) : VV I' w s := by
  obtain ⟨a, b, c, d⟩ := h
  exact ⟨by rw [g]; exact a, by rw [g]; exact b, by rw [g]; exact c, by rw [g]; exact d⟩
section LFN
variable {I : xMem} {w : TV} {s : Nat}
theorem counts_nI {k q e : Nat} (hk : k < 6) (hw : q ≤ 99) (he : e ≤ 9) : L_counts (nI k) (nI q) (nI e) = nI (cntOf k q e) := by
  unfold L_counts cntOf
  rw [i_1, i_2, nI_shr (by omega) (by omega), nI_shr (by omega) (by omega)]
  simp (disch := omega) only [i_0, i_1, i_2, i_3, i_4, i_5, i_6, i_7, i_8, i_9, i_10, i_12, i_15, i_16, i_20, i_24, i_30, i_32, i_36, i_39, i_40, i_41, i_47, i_48, i_57, i_58, i_60, i_63, i_64, i_98, i_99, i_100, i_103, i_108, i_110, i_111, i_116, i_120, i_128, i_165, i_200, i_256, i_1000, i_1024, i_9999, nI_eq_iff, nI_sum]
  rw [show q / 2 ^ 1 = q / 2 by omega, show q / 2 ^ 2 = q / 2 / 2 by omega]
  by_cases c2 : k = 2
  · rw [if_pos c2, if_pos c2]
  · rw [if_neg c2, if_neg c2]
    by_cases c5 : k = 5
    · rw [if_pos c5, if_neg (by omega), if_neg (by omega), if_pos c5]
    · rw [if_neg c5]
      by_cases c3 : k = 3
      · rw [if_pos c3, if_pos c3]
      · rw [if_neg c3, if_neg c3]
        by_cases c4 : k = 4
        · rw [if_pos c4, if_pos c4]
        · rw [if_neg c4, if_neg c4, if_neg c5]
theorem l_count (hv : vOk w) (g : GV I w) (h : VV I w s) {i : Nat} (hi : i < tn w) : L_count I (nI i) = some (nI (cnt w i)) := by
  have h6 := hv.1
  unfold L_count
  rw [show (7 : Int32) = nI 7 from rfl, show (13 : Int32) = nI 13 from rfl, i_0, nI_sum, nI_sum, rdI_nI (by omega) (by omega), bind_s, rdI_nI (by omega) (by omega), bind_s, rdI_nI (by omega) (by omega), bind_s, (g.2.2 i hi).1, (g.2.2 i hi).2, h.1, counts_nI (hv.2.2.2.1 i) (hv.2.2.2.2.1 i) hv.2.2.2.2.2.2.1]
  rfl
theorem off_nI {a b : Nat} (ha : a < 2 ^ 31) (hb : b < 2 ^ 31) : L_off (nI a) (nI b) = nI (dist a b) := by
  unfold L_off dist
  by_cases c : a ≤ b
  · rw [if_pos ((nI_le_iff ha hb).mpr c), pk_sub c]
    by_cases e : b ≤ a
    · rw [if_pos e, show b - a = a - b by omega]
    · rw [if_neg e]
  · rw [if_neg (fun q => c ((nI_le_iff ha hb).mp q)), if_pos (by omega), pk_sub (by omega)]
theorem l_weight (hv : vOk w) (g : GV I w) {a : Nat} (ha : a < 16) : L_weight I (nI a) = some (nI (setW w a)) := by
  have h4 := hv.2.1
  unfold L_weight
  have key := loop_F (fun fuel k (z : Nat) => L_weight_L1 I (nI a) (fun z => some z) fuel (nI z) (nI k)) (fun z => some (nI z)) (ts w) (fun k z => z + (if a.testBit k then tp w k else 0)) (fun _ _ => True)
    (fun fuel k z hk _ => ⟨by
      show L_weight_L1 I (nI a) _ (fuel + 1) (nI z) (nI k) = _
      rw [L_weight_L1]
      rw [i_1, rdI_nI (by omega) (by omega), bind_s, g.1.2.1, if_neg (by rw [nI_le_iff (by omega) (by omega)]; omega), i_3, nI_sum, rdI_nI (by omega) (by omega), bind_s, g.2.1 k hk, nI_bit (by omega) (by omega), nI_mul, nI_sum, nI_sum]
      congr 2
      rw [tb_div]
      rcases Nat.mod_two_eq_zero_or_one (a / 2 ^ k) with e | e
      · simp [e]
      · simp [e], trivial⟩)
    (fun fuel z _ => by
      show L_weight_L1 I (nI a) _ (fuel + 1) (nI z) (nI (ts w)) = _
      rw [L_weight_L1]
      rw [i_1, rdI_nI (by omega) (by omega), bind_s, g.1.2.1, if_pos (Int32.le_refl _)])
    (ts w) bigF 0 0 (by omega) (bigF_gt (by omega)) trivial
  rw [foldF_sum] at key
  exact key
theorem l_sink (hv : vOk w) (g : GV I w) (h : VV I w s) {i j a b : Nat} (hi : i < tn w) (hj : j < tn w) (ha : a < 16) (hb : b < 16) : L_sink I (nI i) (nI j) (nI a) (nI b) = some (nI (skN w i j a b)) := by
  have h6 := hv.1
  have c1 := cnt_le hv i
  have c2 := cnt_le hv j
  have w1 := setW_le hv a
  have w2 := setW_le hv b
  have k1 := hv.2.2.2.1 i
  have k2 := hv.2.2.2.1 j
  have hd : dist (cnt w i + setW w a) (cnt w j + setW w b) ≤ 149 := dist_le (by omega) (by omega)
  unfold L_sink
  rw [l_count hv g h hi, bind_s, l_weight hv g ha, bind_s, l_count hv g h hj, bind_s, l_weight hv g hb, bind_s, show (7 : Int32) = nI 7 from rfl, nI_sum, nI_sum, nI_sum, nI_sum, rdI_nI (by omega) (by omega), bind_s, rdI_nI (by omega) (by omega), bind_s, (g.2.2 i hi).1, (g.2.2 j hj).1, off_nI (by omega) (by omega), i_1, nI_shr (by omega) (by omega)]
  simp (disch := omega) only [nI_eq_iff]
  unfold skN sunkN
  by_cases e1 : tk w i = 1
  · rw [if_pos e1]
    by_cases e2 : tk w j = 1
    · rw [if_pos e2, if_pos ⟨e1, e2⟩]
    · rw [if_neg e2, if_neg (fun q => e2 q.2)]
  · rw [if_neg e1, if_neg (fun q => e1 q.1)]
theorem l_there (hv : vOk w) (g : GV I w) (h : VV I w s) {i : Nat} (hi : i < tn w) : L_there I (nI i) = some (nI (stW w i)) := by
  have h6 := hv.1
  have h4 := hv.2.1
  have ht := tt_lt hv
  have hu := hv.2.2.2.2.2.2.2.2
  have h0 : 0 < 2 ^ ts w := Nat.pos_of_ne_zero (by simp)
  unfold L_there stW
  rw [i_1, i_2, rdI_nI (k := 63) (n := 1) (by omega) (by omega), bind_s, h.2.1, rdI_nI (k := 63) (n := 2) (by omega) (by omega), rdI_nI (k := 62) (n := 1) (by omega) (by omega)]
  simp only [bind_s]
  rw [h.2.2.1, g.1.2.1]
  by_cases hb : (tt w).testBit i = true
  · rw [if_pos ((nI_bit1 (by omega) (by omega)).mpr hb), if_pos hb]
  · rw [if_neg (fun q => hb ((nI_bit1 (by omega) (by omega)).mp q)), if_neg hb, nI_pow (by omega), pk_sub (by omega), nI_xor]
    congr 2
    apply Nat.eq_of_testBit_eq
    intro x
    rw [nd_bit, Nat.testBit_xor, allS_bit, Nat.testBit_two_pow_sub_one]
    by_cases c : x < ts w
    · simp [c]
    · have : (tu w).testBit x = false := Nat.testBit_lt_two_pow (Nat.lt_of_lt_of_le hu (Nat.pow_le_pow_right (by decide) (by omega)))
      simp [c, this]
theorem l_together (hv : vOk w) (h : VV I w s) {i j : Nat} (hi : i < tn w) (hj : j < tn w) : L_together I (nI i) (nI j) = some (if same w i j then 1 else 0) := by
  have h6 := hv.1
  have ht := tt_lt hv
  unfold L_together
  rw [i_1, rdI_nI (by omega) (by omega), bind_s, bind_s, h.2.1, nI_bit (by omega) (by omega), nI_bit (by omega) (by omega), show nz (nI 1) = 1 from rfl, nz_0]
  have key : (nI (tt w / 2 ^ i % 2) = nI (tt w / 2 ^ j % 2)) ↔ same w i j := by
    rw [nI_eq_iff (by omega) (by omega), same, tb_div, tb_div]
    rcases Nat.mod_two_eq_zero_or_one (tt w / 2 ^ i) with a | a <;> rcases Nat.mod_two_eq_zero_or_one (tt w / 2 ^ j) with b | b <;> simp [a, b]
  by_cases c : same w i j
  · rw [if_pos (key.mpr c), if_pos c]
    rfl
  · rw [if_neg (fun q => c (key.mp q)), if_neg c]
theorem or256 (a c : Nat) (hc : c < 256) : a * 2 ^ 8 ||| c = 256 * a + c := by
  have := Nat.two_pow_add_eq_or_of_lt (i := 8) (b := c) (by omega) a
  rw [Nat.mul_comm, ← this]
theorem and_nd (x s : Nat) : x &&& s = x ↔ nd x s = 0 := by
  constructor
  · intro h
    unfold nd
    rw [h, Nat.xor_self]
  · intro h
    have := (nd_0 x s).mp h
    apply Nat.eq_of_testBit_eq
    intro i
    rw [Nat.testBit_and]
    cases hb : x.testBit i with
    | false => rfl
    | true => rw [this i hb]; rfl
theorem l_least (hv : vOk w) (g : GV I w) (h : VV I w s) {i j f : Nat} (hi : i < tn w) (hj : j < tn w) (hf : f < 16) : L_least I (nI i) (nI j) (nI f) = some (nI (lstV w i j f)) := by
  have c1 := cnt_le hv i
  have c2 := cnt_le hv j
  have hl := lst_is hv (show cnt w i ≤ 200 by omega) (show cnt w j ≤ 200 by omega) (twins w i j) f
  have hval : ∀ c, valS w (cnt w i) (cnt w j) (twins w i j) c = 256 * skN w i j (c / 16) (c % 16) + c := fun c => rfl
  have skl := skN_le hv i j
  unfold L_least
  obtain ⟨z, hI, he⟩ := loop_I (fun fuel c (z : Nat) => L_least_L1 I (nI i) (nI j) (nI f) (fun z => some z) fuel (nI z) (nI c)) (fun z => some (nI z)) 256
    (fun c z => z ≤ 1048576 ∧ leastB (okS f) (valS w (cnt w i) (cnt w j) (twins w i j)) 1048576 c z)
    (fun fuel c z hc hI => by
      obtain ⟨hz, hI⟩ := hI
      have sk := skl (c / 16) (c % 16)
      have hand : c / 16 &&& c % 16 < 2 ^ 31 := Nat.lt_of_le_of_lt Nat.and_le_left (by omega)
      have hor : c / 16 ||| c % 16 < 2 ^ 4 := Nat.or_lt_two_pow (by omega) (by omega)
      have hor2 : (c / 16 ||| c % 16) &&& f < 2 ^ 31 := Nat.lt_of_le_of_lt Nat.and_le_left (by omega)
      have e15 : c &&& 15 = c % 16 := Nat.and_two_pow_sub_one_eq_mod (n := 4) c
      have hno : ¬ okS f c → ∃ s', L_least_L1 I (nI i) (nI j) (nI f) (fun z => some z) fuel (nI z) (nI (c + 1)) = L_least_L1 I (nI i) (nI j) (nI f) (fun z => some z) fuel (nI s') (nI (c + 1)) ∧ s' ≤ 1048576 ∧ leastB (okS f) (valS w (cnt w i) (cnt w j) (twins w i j)) 1048576 (c + 1) s' := fun hn => ⟨z, rfl, hz, leastB_no hI (by omega) (fun q a b => by
        rw [show q = c by omega]
        exact hn)⟩
      show ∃ s', L_least_L1 I (nI i) (nI j) (nI f) (fun z => some z) (fuel + 1) (nI z) (nI c) = L_least_L1 I (nI i) (nI j) (nI f) (fun z => some z) fuel (nI s') (nI (c + 1)) ∧ _
      rw [L_least_L1]
      rw [if_neg (by rw [i_256, nI_le_iff (by omega) (by omega)]; omega), i_4, i_15, i_1, nI_shr (by omega) (by omega), nI_and c 15, e15, show c / 2 ^ 4 = c / 16 by omega, nI_and, nI_or, nI_and, nI_sum]
      by_cases k1 : c / 16 &&& c % 16 = 0
      · rw [if_pos (by rw [k1]; rfl)]
        by_cases k2 : (c / 16 ||| c % 16) &&& f = c / 16 ||| c % 16
        · have hok : okS f c := ⟨k1, (and_nd _ _).mp k2⟩
          have hlt : valS w (cnt w i) (cnt w j) (twins w i j) c < 65536 := by rw [hval]; omega
          rw [if_pos ((nI_eq_iff hor2 (by omega)).mpr k2), l_sink hv g h hi hj (by omega) (by omega), bind_s, i_8, nI_shl (by omega) (by omega), nI_or, or256 _ _ hc]
          have hy := leastB_yes hI hok (show valS w (cnt w i) (cnt w j) (twins w i j) c ≤ 1048576 by omega)
          rw [hval] at hy hlt
          by_cases q : z ≤ 256 * skN w i j (c / 16) (c % 16) + c
          · rw [if_pos ((nI_le_iff (by omega) (by omega)).mpr q)]
            refine ⟨z, rfl, hz, ?_⟩
            rw [if_neg (by omega)] at hy
            exact hy
          · rw [if_neg (fun r => q ((nI_le_iff (by omega) (by omega)).mp r))]
            refine ⟨_, rfl, by omega, ?_⟩
            rw [if_pos (by omega)] at hy
            exact hy
        · rw [if_neg (fun r => k2 ((nI_eq_iff hor2 (by omega)).mp r))]
          exact hno (fun r => k2 ((and_nd _ _).mpr r.2))
      · rw [if_neg (by rw [i_0, nI_eq_iff hand (by omega)]; exact k1)]
        exact hno (fun r => k1 r.1))
    (fun fuel z hI => by
      show L_least_L1 I (nI i) (nI j) (nI f) (fun z => some z) (fuel + 1) (nI z) (nI 256) = _
      rw [L_least_L1]
      rw [if_pos (by decide)])
    256 bigF 0 1048576 (by omega) (bigF_gt (by omega)) ⟨Nat.le_refl _, leastB_0 _ _ _⟩
  have e : lstV w i j f = z := leastB_uniq (by omega) (okS_0 f) hl hI.2
  rw [e]
  exact he
theorem l_can (hv : vOk w) (g : GV I w) (h : VV I w s) {i j : Nat} (hi : i < tn w) (hj : j < tn w) (hij : i ≠ j) : L_can I (nI i) (nI j) = some (if canL w i j 0 then 1 else 0) := by
  have h6 := hv.1
  have hst := stW_lt hv i
  have h16 := p2s hv
  have hl := lstV_lt hv i j (stW w i)
  have htl := hv.2.2.1
  have hc := canL0 w i j
  unfold L_can
  rw [if_neg (by rw [nI_eq_iff (by omega) (by omega)]; exact hij), l_together hv h hi hj, bind_s, nz_0, nz_1]
  by_cases c : same w i j
  · rw [if_pos c, if_neg (by decide), l_there hv g h hi, bind_s, l_least hv g h hi hj (by omega), bind_s, i_2, rdI_nI (by omega) (by omega), bind_s, g.1.2.2, i_8, nI_shr (by omega) (by omega)]
    by_cases q : bestN w i j / 256 ≤ tl w
    · rw [if_pos (hc.mpr ⟨c, q⟩), if_neg]
      rw [nI_lt_iff (by omega) (by omega)]
      unfold bestN at q
      omega
    · rw [if_neg (fun r => q (hc.mp r).2), if_pos]
      rw [nI_lt_iff (by omega) (by omega)]
      unfold bestN at q
      omega
  · rw [if_neg c, if_pos rfl, if_neg (fun r => c (hc.mp r).1)]
theorem xor_pr : ∀ i, i < 6 → ∀ j, j < 6 → i = j ∨ 2 ^ i ^^^ 2 ^ j = pr i j := by decide +kernel
theorem l_go (hv : vOk w) (g : GV I w) (h : VV I w s) {i j a b : Nat} (hi : i < tn w) (hj : j < tn w) (hij : i ≠ j) (ha : a < 16) (hb : b < 16) : ∃ I', L_go I (nI i) (nI j) (nI a) (nI b) = some (nI (skN w i j a b), I') ∧ (∀ k j, k ≠ 63 → I' k j = I k j) ∧ VV I' (tAt w (te w) (goT w i j) (goU w a b)) (s + skN w i j a b) := by
  have h6 := hv.1
  refine ⟨wr (wr (wr (wr I 63 3 (nI (s + skN w i j a b))) 63 1 (nI (tt w ^^^ 2 ^ i))) 63 1 (nI (tt w ^^^ 2 ^ i ^^^ 2 ^ j))) 63 2 (nI (tu w ^^^ (a ||| b))), ?_, fun k q hk => ?_, ?_, ?_, ?_, ?_⟩
  · unfold L_go
    rw [l_sink hv g h hi hj ha hb, bind_s, i_3, i_1, i_2, rdI_nI (by omega) (by omega), bind_s, h.2.2.2, nI_sum, wrI_nI (by omega) (by omega), bind_s, rdI_nI (by omega) (by omega), bind_s, wr_off _ _ (by omega), h.2.1, nI_pow (by omega), nI_xor, wrI_nI (by omega) (by omega), bind_s, rdI_nI (by omega) (by omega), bind_s, wr_eq, nI_pow (by omega), nI_xor, wrI_nI (by omega) (by omega), bind_s, rdI_nI (by omega) (by omega), bind_s, wr_off _ _ (by omega), wr_off _ _ (by omega), wr_off _ _ (by omega), h.2.2.1, nI_or, nI_xor, wrI_nI (by omega) (by omega), bind_s]
  · rw [wr_off _ _ (by omega), wr_off _ _ (by omega), wr_off _ _ (by omega), wr_off _ _ (by omega)]
  · rw [wr_off _ _ (by omega), wr_off _ _ (by omega), wr_off _ _ (by omega), wr_off _ _ (by omega)]
    exact h.1
  · rw [wr_off _ _ (by omega), wr_eq]
    show _ = nI (goT w i j)
    rw [Nat.xor_assoc, (xor_pr i (by omega) j (by omega)).resolve_left hij]
    rfl
  · rw [wr_eq]
    rfl
  · rw [wr_off _ _ (by omega), wr_off _ _ (by omega), wr_off _ _ (by omega), wr_eq]
end LFN
