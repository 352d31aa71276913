/-! BY HOW FAR IT SANK: one pair in row 3, the class alone -/
section CSW
variable {I : xMem} {P Dr : Nat} {v : TV} {D : DD}
/-- row 3 holds another one and a number -/
def row3 (I : xMem) (o x : Nat) : Prop := rowK I ∧ I 2 3 = nI 2 ∧ I 7 0 = nI o ∧ I 7 1 = nI x
theorem row3.ok {o x : Nat} (h : row3 I o x) {w : TV} (hv : vOk w) {i : Nat} (ho : o < tn w) (hi : i < tn w) (hio : o ≠ i) (hx : x ≤ 200) : ∀ t, t < 1 → wOk w i (I (4 + 3)) t := by
  intro t ht
  have h6 := hv.1
  have e : t = 0 := by omega
  subst e
  refine ⟨?_, ?_, ?_, ?_⟩
  · show ix (I 7 0) (tn w)
    rw [h.2.2.1]
    exact (ix_nI (by omega)).mpr ho
  · show ¬ I 7 0 = nI i
    rw [h.2.2.1, nI_eq_iff (by omega) (by omega)]
    exact hio
  · show 0 ≤ (I 7 1).toInt
    rw [h.2.2.2, nI_toInt (by omega)]
    omega
  · show (I 7 1).toInt ≤ 200
    rw [h.2.2.2, nI_toInt (by omega)]
    omega
theorem cs_ref (h : CS I P Dr v D) {i o x : Nat} (hr : row3 I o x) (hi : i < tn v) (ho : o < tn v) (hio : o ≠ i) (hx : x ≤ 200) : X4_refusedWeighing P I (nI i) (nI 3) = some (0, I) := by
  have hv := h.vok
  have hC := h.vc
  have hok := hr.ok hv ho hi hio hx
  obtain ⟨⟨k1, -⟩, k2, -⟩ := hr
  unfold X4_refusedWeighing
  rw [h.nb hi, if00, refRow_eq (N := 6) k1 rfl (by omega), if_pos ((ix_nI (by omega)).mpr (by omega)), nI_clamp (by omega), show (1 : Nat) + 1 = 2 from rfl, k2, if_neg (by decide), bind_s]
  dsimp only
  rw [if00, show cLen 2 = 6 from rfl, rdI_nI (by omega) (by omega), bind_s, k2, if_pos (by decide), if_pos (by decide)]
  rcases hC.refL hv (r := 3) (m := 1) hi (by omega) (by omega) (some (0, I)) with ⟨a1, a2⟩ | ⟨a1, a2⟩
  · exact a2
  · exact absurd hok a1
/-- one's own kind and pounds fit -/
theorem own_fits {w : TV} (hv : vOk w) {i o : Nat} (hi : i < tn w) (ho : o < tn w) (hr : row3 I o (skN w i o 0 0)) : fitN w (I (4 + 3)) 1 (tk w i) (tw w i) := by
  intro t ht
  have e : t = 0 := by omega
  subst e
  have h6 := hv.1
  show nI (skW w (tk w i) (tw w i) (szN (I 7 0))) = I 7 1
  have e : szN (nI o) = o := by
    unfold szN
    exact nI_clamp (by omega)
  rw [hr.2.2.1, hr.2.2.2, e]
  unfold skW skN cnt
  rw [setW_0]
  rfl
theorem cs_pounds (h : CS I P Dr v D) {i o : Nat} (hi : i < tn v) (ho : o < tn v) (hio : o ≠ i) (h1 : 1 ≤ tw v i) (hr : row3 I o (skN (now v D) i o 0 0)) : ∃ c l, X4_pounds P I (nI i) (nI 3) = some (nI c, wr I 0 10 (nI l)) ∧ 1 ≤ c ∧ c ≤ 99 ∧ 1 ≤ l ∧ l ≤ tw v i := by
  have hv := h.vok
  have hC := h.vc
  have hp := h.pd
  have h6 := h.n2
  have e1 : tn (now v D) = tn v := rfl
  have hsk := skN_le hv i o 0 0
  have hok := hr.ok hv ho hi hio (by omega)
  have hown := own_fits hv hi ho hr
  have hw99 := hv.2.2.2.2.1 i
  unfold X4_pounds
  rw [cs_ref h hr hi ho hio (by omega), bind_s]
  dsimp only
  rw [if00, bind_s]
  have key : ∀ (n fuel c : Nat) (x : Int32), c + n ≤ 99 → n < fuel → (n < tw v i → 1 ≤ c ∧ ∃ l, x = nI l ∧ 1 ≤ l ∧ l ≤ tw v i) → ∃ c' l, X4_pounds_L1 P (nI i) (nI 3) (fun (z4_6 : Int32) (I7 : xMem) => some (z4_6, I7)) fuel (nI c) (nI n) (wr I 0 10 x) = some (nI c', wr I 0 10 (nI l)) ∧ 1 ≤ c' ∧ c' ≤ 99 ∧ 1 ≤ l ∧ l ≤ tw v i := by
    intro n
    induction n with
    | zero =>
      intro fuel c x hn hf hI
      obtain ⟨f, rfl⟩ : ∃ f, fuel = f + 1 := ⟨fuel - 1, by omega⟩
      obtain ⟨c1, l, rfl, l1, l2⟩ := hI (by omega)
      rw [X4_pounds_L1]
      rw [if_pos (by decide)]
      exact ⟨c, l, rfl, c1, by omega, l1, l2⟩
    | succ n ih =>
      intro fuel c x hn hf hI
      obtain ⟨f, rfl⟩ : ∃ f, fuel = f + 1 := ⟨fuel - 1, by omega⟩
      have hC' := hC.told (by omega) x
      have q1 : ¬ nI (n + 1) < 1 := by rw [i_1, nI_lt_iff (by omega) (by omega)]; omega
      have em1 : nI (n + 1) + (-1) = nI n := by
        rw [← Int32.sub_eq_add_neg, show (1 : Int32) = nI 1 from rfl, pk_sub (by omega), Nat.add_sub_cancel]
      have f1 := hC'.fits (g := I (4 + 3)) (k := tk (now v D) i) (w := n + 1) (i := i) (r := 3) (m := 1) hv (by omega) (by omega) (by rw [wr_off _ _ (by omega)]; exact hr.2.1) (fun j _ => wr_off _ _ (by omega)) hok (hv.2.2.2.1 i) (by omega)
      rw [X4_pounds_L1]
      rw [if_neg q1, rdI_nI (by omega) (by omega), bind_s, (hC'.2.1 i hi).1, f1, bind_s, em1]
      by_cases c1 : fitN (now v D) (I (4 + 3)) 1 (tk (now v D) i) (n + 1)
      · rw [if_pos c1, if_neg (show ¬ nI 1 = 0 by decide), bind_s, wr_wr, i_1, nI_sum]
        exact ih f (c + 1) (nI (n + 1)) (by omega) (by omega) (fun hlt => ⟨by omega, n + 1, rfl, by omega, by omega⟩)
      · rw [if_neg c1, if_pos (show nI 0 = 0 from rfl)]
        refine ih f c x (by omega) (by omega) (fun hlt => ?_)
        by_cases e : n + 1 = tw v i
        · rw [e] at c1
          exact absurd hown c1
        · exact hI (by omega)
  exact key 99 bigF 0 (-9) (by omega) (bigF_gt (by omega)) (fun q => by have : tw (now v D) i = tw v i := rfl; omega)
theorem foldF_bits (Q : Nat → Prop) [DecidablePred Q] : ∀ m, ∀ k, (foldF (fun k s => if Q k then s ||| 2 ^ k else s) 0 m 0).testBit k = true ↔ k < m ∧ Q k
  | 0, k => by
    show (0 : Nat).testBit k = true ↔ _
    simp
  | m + 1, k => by
    rw [foldF_succ, Nat.zero_add]
    by_cases c : Q m
    · rw [if_pos c, Nat.testBit_or, Bool.or_eq_true, foldF_bits Q m k, Nat.testBit_two_pow, decide_eq_true_eq]
      constructor
      · rintro (⟨a, b⟩ | rfl)
        · exact ⟨by omega, b⟩
        · exact ⟨by omega, c⟩
      · rintro ⟨a, b⟩
        by_cases e : m = k
        · exact Or.inr e
        · exact Or.inl ⟨by omega, b⟩
    · rw [if_neg c, foldF_bits Q m k]
      constructor
      · rintro ⟨a, b⟩
        exact ⟨by omega, b⟩
      · rintro ⟨a, b⟩
        refine ⟨?_, b⟩
        rcases Nat.lt_or_ge k m with q | q
        · exact q
        · rw [show k = m by omega] at b
          exact absurd b c
/-- the kinds by row 3 -/
def kdN (w : TV) (I : xMem) (i : Nat) : Nat := kfN w (I (4 + 3)) 1 (tw w i)
theorem kdN_own {w : TV} (hv : vOk w) {i o : Nat} (hi : i < tn w) (ho : o < tn w) (hr : row3 I o (skN w i o 0 0)) : (kdN w I i).testBit (tk w i) = true := (foldF_bits (fun k => fitN w (I (4 + 3)) 1 k (tw w i)) 6 (tk w i)).mpr ⟨hv.2.2.2.1 i, own_fits hv hi ho hr⟩
theorem cs_kinds (h : CS I P Dr v D) {i o : Nat} (hi : i < tn v) (ho : o < tn v) (hio : o ≠ i) (hr : row3 I o (skN (now v D) i o 0 0)) : X4_kinds P I (nI i) (nI 3) = some (nI (kdN (now v D) I i), I) := by
  have hv := h.vok
  have hC := h.vc
  have hsk := skN_le hv i o 0 0
  have hok := hr.ok hv ho hi hio (by omega)
  unfold X4_kinds
  rw [cs_ref h hr hi ho hio (by omega), bind_s]
  dsimp only
  rw [if00, hC.kf hv (r := 3) (m := 1) (g := I (4 + 3)) hi (by omega) (by omega) hr.2.1 (fun j _ => rfl) hok, bind_s]
  rfl
theorem cs_next (h : CS I P Dr v D) {i o : Nat} (hi : i < tn v) (ho : o < tn v) (hio : o ≠ i) (hr : row3 I o (skN (now v D) i o 0 0)) : ∃ b, b < tn v ∧ b ≠ i ∧ X4_next P I (nI i) (nI 3) = some (nI b, wr I 0 10 (nI (grP (now v D) (tw v i) (kdN (now v D) I i) b))) := by
  have hv := h.vok
  have hC := h.vc
  have h6 := h.n2
  have e1 : tn (now v D) = tn v := rfl
  have hsk := skN_le hv i o 0 0
  have hok := hr.ok hv ho hi hio (by omega)
  have hk := kfN_lt (now v D) (I (4 + 3)) 1 (tw (now v D) i)
  have hown := kdN_own hv hi ho hr
  unfold X4_next
  rw [cs_ref h hr hi ho hio (by omega), bind_s]
  dsimp only
  rw [if00, hC.kf hv (r := 3) (m := 1) (g := I (4 + 3)) hi (by omega) (by omega) hr.2.1 (fun j _ => rfl) hok, bind_s]
  unfold kdN at hown ⊢
  generalize kfN (now v D) (I (4 + 3)) 1 (tw (now v D) i) = set at hk hown ⊢
  have hw := hv.2.2.2.2.1 i
  have c : ¬ nI set = 0 := by
    rw [i_0, nI_eq_iff (by omega) (by omega)]
    intro e
    rw [e] at hown
    simp at hown
  rw [if_neg c]
  have key : ∀ (n fuel p : Nat) (b l : Int32), p + n = tn v → n < fuel → ((b = -9 ∧ l = 7 ∧ ∀ j, j < p → j = i) ∨ ∃ x, x < tn v ∧ x ≠ i ∧ b = nI x ∧ l = nI (grP (now v D) (tw v i) set x)) → ∃ b', b' < tn v ∧ b' ≠ i ∧ X4_next_L1 P (nI i) (0, I) (nI set) (fun (z5_6 : Int32) (z6_6 : Int32) => (some (wr I 0 10 z6_6)).bind fun I13 => some (z5_6, I13)) fuel b l (nI p) = some (nI b', wr I 0 10 (nI (grP (now v D) (tw v i) set b'))) := by
    intro n
    induction n with
    | zero =>
      intro fuel p b l hp hf hI
      obtain ⟨f, rfl⟩ : ∃ f, fuel = f + 1 := ⟨fuel - 1, by omega⟩
      have : p = tn v := by omega
      subst this
      rw [X4_next_L1]
      rw [show (((0 : Int32), I) : Int32 × xMem).2 = I from rfl]
      rw [hC.1.2.2, e1, if_pos (Int32.le_refl _), bind_s]
      rcases hI with ⟨-, -, g⟩ | ⟨x, x1, x2, g1, g2⟩
      · have := g 0 (by omega)
        have := g 1 (by omega)
        omega
      · rw [g1, g2]
        exact ⟨x, x1, x2, rfl⟩
    | succ n ih =>
      intro fuel p b l hp hf hI
      obtain ⟨f, rfl⟩ : ∃ f, fuel = f + 1 := ⟨fuel - 1, by omega⟩
      have hpn : p < tn v := by omega
      have q1 : ¬ nI (tn v) ≤ nI p := by rw [nI_le_iff (by omega) (by omega)]; omega
      have hg := grP_le (now v D) (tw v i) set p
      have hgr := hC.gr hv hw hk (show p < tn (now v D) by omega)
      rw [X4_next_L1]
      rw [show (((0 : Int32), I) : Int32 × xMem).2 = I from rfl]
      rw [hC.1.2.2, e1, if_neg q1, rdI_nI (by omega) (by omega), bind_s, (hC.2.1 i hi).2, hgr, bind_s, show nI p + 1 = nI (p + 1) from nI_1 p]
      by_cases e : p = i
      · have e' : nI p = nI i := by rw [e]
        rw [if_pos e', bind_s]
        have hl : l ≤ 7 := by
          rcases hI with ⟨-, g1, -⟩ | ⟨x, -, -, -, g1⟩
          · rw [g1]; decide
          · have := grP_le (now v D) (tw v i) set x
            rw [g1, show (7 : Int32) = nI 7 from rfl, nI_le_iff (by omega) (by omega)]
            omega
        rw [if_pos hl]
        refine ih f (p + 1) b l (by omega) (by omega) ?_
        rcases hI with ⟨g0, g1, g4⟩ | g
        · refine Or.inl ⟨g0, g1, fun j hj => ?_⟩
          rcases Nat.lt_or_ge j p with w | w
          · exact g4 j w
          · omega
        · exact Or.inr g
      · have e' : ¬ nI p = nI i := by rw [nI_eq_iff (by omega) (by omega)]; exact e
        rw [if_neg e', bind_s]
        by_cases w1 : l ≤ nI (grP (now v D) (tw (now v D) i) set p)
        · rw [if_pos w1]
          refine ih f (p + 1) b l (by omega) (by omega) ?_
          rcases hI with ⟨g0, g1, g4⟩ | g
          · rw [g1, show (7 : Int32) = nI 7 from rfl, nI_le_iff (by omega) (by have := grP_le (now v D) (tw (now v D) i) set p; omega)] at w1
            have := grP_le (now v D) (tw (now v D) i) set p
            omega
          · exact Or.inr g
        · rw [if_neg w1]
          exact ih f (p + 1) _ _ (by omega) (by omega) (Or.inr ⟨p, hpn, e, rfl, rfl⟩)
  exact key (tn v) bigF 0 (-9) 7 (by omega) (bigF_gt (by omega)) (Or.inl ⟨rfl, rfl, fun j hj => absurd hj (by omega)⟩)
/-- how many of six bits -/
theorem pc_sum : ∀ s, s < 64 → pc s = sumN (fun b => if s.testBit b then 1 else 0) 6 := by decide +kernel
theorem sumN_mono {f g : Nat → Nat} : ∀ n, (∀ i, i < n → f i ≤ g i) → sumN f n ≤ sumN g n
  | 0, _ => Nat.le_refl _
  | n + 1, h => Nat.add_le_add (sumN_mono n fun i hi => h i (by omega)) (h n (by omega))
theorem sumN_ge {f : Nat → Nat} {i : Nat} : ∀ n, i < n → f i ≤ sumN f n
  | n + 1, h => by
    show f i ≤ sumN f n + f n
    by_cases e : i = n
    · subst e; omega
    · have := sumN_ge (f := f) n (show i < n by omega)
      omega
theorem grI_pc {w : TV} {x set j a : Nat} (hs : set < 64) : grI w x set j a ≤ pc set := by
  rw [pc_sum set hs]
  refine sumN_mono 6 fun b _ => ?_
  show (if alikeP w x set j a b then 1 else 0) ≤ (if set.testBit b then 1 else 0)
  by_cases c : alikeP w x set j a b
  · rw [if_pos c, if_pos c.2.1]
    exact Nat.le_refl _
  · rw [if_neg c]
    exact Nat.zero_le _
theorem maxF (f : Nat → Nat) (B : Nat) : ∀ m, (∀ a, a < m → f a ≤ B) → foldF (fun a s => if s < f a then f a else s) 0 m 0 ≤ B ∧ ∀ a, a < m → f a ≤ foldF (fun a s => if s < f a then f a else s) 0 m 0
  | 0, _ => ⟨Nat.zero_le _, fun a h => absurd h (by omega)⟩
  | m + 1, h => by
    obtain ⟨q1, q2⟩ := maxF f B m (fun a ha => h a (by omega))
    rw [foldF_succ, Nat.zero_add]
    have hm := h m (by omega)
    refine ⟨by split <;> omega, fun a ha => ?_⟩
    by_cases e : a = m
    · subst e
      split <;> omega
    · have := q2 a (by omega)
      split <;> omega
theorem grP_pc {w : TV} {x set j : Nat} (hs : set < 64) : grP w x set j ≤ pc set := (maxF (grI w x set j) (pc set) 6 fun a _ => grI_pc hs).1
theorem grP_1 {w : TV} {x set j a : Nat} (hs : set < 64) (ha : set.testBit a = true) : 1 ≤ grP w x set j := by
  have h6 : a < 6 := by
    rcases Nat.lt_or_ge a 6 with q | q
    · exact q
    · have : 2 ^ 6 ≤ 2 ^ a := Nat.pow_le_pow_right (by decide) q
      rw [Nat.testBit_lt_two_pow (by omega)] at ha
      cases ha
  have h1 := (maxF (grI w x set j) (pc set) 6 fun a _ => grI_pc hs).2 a h6
  have h2 := sumN_ge (f := fun b => if alikeP w x set j a b then 1 else 0) (i := a) 6 h6
  rw [if_pos ⟨ha, ha, rfl⟩] at h2
  exact Nat.le_trans h2 h1
end CSW
