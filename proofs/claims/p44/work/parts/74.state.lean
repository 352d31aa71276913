/-! THE CLASS ALONE: the tower's numbers, its deeds; what calls leave as it was -/
/-- deeds: how many, who is at the top, which stones are, loaves, steps ahead of each and behind the last -/
abbrev DD : Type := Nat × (Nat → Nat) × (Nat → Nat) × (Nat → Nat) × (Nat → Nat)
def dd (D : DD) : Nat := D.1
def dT (D : DD) : Nat → Nat := D.2.1
def dU (D : DD) : Nat → Nat := D.2.2.1
def dE (D : DD) : Nat → Nat := D.2.2.2.1
def dS (D : DD) : Nat → Nat := D.2.2.2.2
def now (v : TV) (D : DD) : TV := tAt v (dE D (dd D)) (dT D (dd D)) (dU D (dd D))
def dOk (v : TV) (D : DD) : Prop := dd D ≤ 40 ∧ (∀ k, k ≤ dd D → (dT D k < 2 ^ tn v ∧ dU D k < 2 ^ ts v ∧ dE D k ≤ 9) ∧ pc (dT D k) % 2 = 0 ∧ dS D k ≤ 149 * k) ∧ (∀ j k, j ≤ k → k ≤ dd D → dS D j ≤ dS D k) ∧ (dT D 0 = 0 ∧ dU D 0 = 0 ∧ dE D 0 = 0 ∧ dS D 0 = 0)
def dD (I : xMem) (b : Nat) (D : DD) : Prop := I b 0 = nI (dd D) ∧ ∀ k, k ≤ dd D → I (b + 1) k = nI (dT D k) ∧ I (b + 2) k = nI (dU D k) ∧ I (b + 3) k = nI (dE D k) ∧ I (b + 4) k = nI (dS D k)
def CS (I : xMem) (P Dr : Nat) (v : TV) (D : DD) : Prop := isPD P Dr ∧ vNum v ∧ rdC P I v ∧ dOk v D ∧ dD I 17 D
/-- what a question leaves; what a deed leaves -/
def qAg (I I' : xMem) : Prop := ∀ k j, (1 ≤ k ∧ k < 39) ∨ 52 ≤ k → I' k j = I k j
def hAg (I I' : xMem) : Prop := ∀ k j, (1 ≤ k ∧ k < 17) ∨ (22 ≤ k ∧ k < 39) ∨ 52 ≤ k → I' k j = I k j
theorem qAg.rf (I : xMem) : qAg I I := fun _ _ _ => rfl
theorem qAg.tr {A B C : xMem} (h : qAg A B) (g : qAg B C) : qAg A C := fun k j q => (g k j q).trans (h k j q)
theorem hAg.rf (I : xMem) : hAg I I := fun _ _ _ => rfl
theorem hAg.tr {A B C : xMem} (h : hAg A B) (g : hAg B C) : hAg A C := fun k j q => (g k j q).trans (h k j q)
theorem qAg.h {A B : xMem} (h : qAg A B) : hAg A B := fun k j q => h k j (by omega)
theorem qAg.c {A B : xMem} (h : cAg A B) : qAg A B := fun k j q => h.of j (by omega)
theorem qAg.told (I : xMem) (x : Int32) : qAg I (wr I 0 10 x) := fun k j q => wr_off _ _ (by omega)
theorem qAg.fnd (I : xMem) (f : Nat) : qAg I (cFnd I f) := fun k j q => by
  unfold cFnd
  rw [wr_off _ _ (by omega), wr_off _ _ (by omega)]
theorem rdC.cg {I I' : xMem} {P : Nat} {v : TV} (h : rdC P I v) (g : ∀ k j, P ≤ k → k ≤ P + 4 → I' k j = I k j) : rdC P I' v := by
  obtain ⟨⟨h1, h2, h3⟩, h4, h5, h6⟩ := h
  refine ⟨⟨?_, ?_, ?_⟩, fun i hi => ?_, fun s hs => ?_, fun a ha => ?_⟩
  · rw [g _ _ (by omega) (by omega)]; exact h1
  · rw [g _ _ (by omega) (by omega)]; exact h2
  · rw [g _ _ (by omega) (by omega)]; exact h3
  · rw [g _ _ (by omega) (by omega), g _ _ (by omega) (by omega)]; exact h4 i hi
  · rw [g _ _ (by omega) (by omega)]; exact h5 s hs
  · rw [g _ _ (by omega) (by omega)]; exact h6 a ha
theorem dD.cg {I I' : xMem} {b : Nat} {D : DD} (h : dD I b D) (g : ∀ k j, b ≤ k → k ≤ b + 4 → I' k j = I k j) : dD I' b D := by
  refine ⟨?_, fun k hk => ?_⟩
  · rw [g _ _ (by omega) (by omega)]; exact h.1
  · rw [g _ _ (by omega) (by omega), g _ _ (by omega) (by omega), g _ _ (by omega) (by omega), g _ _ (by omega) (by omega)]; exact h.2 k hk
theorem dD.to {I : xMem} {b : Nat} {D D' : DD} (h : dD I b D) (e : dd D' = dd D) (g : ∀ k, k ≤ dd D → dT D' k = dT D k ∧ dU D' k = dU D k ∧ dE D' k = dE D k ∧ dS D' k = dS D k) : dD I b D' := by
  refine ⟨by rw [e]; exact h.1, fun k hk => ?_⟩
  rw [e] at hk
  obtain ⟨g1, g2, g3, g4⟩ := g k hk
  rw [g1, g2, g3, g4]
  exact h.2 k hk
section CSS
variable {I : xMem} {P Dr : Nat} {v : TV} {D : DD}
theorem CS.pd (h : CS I P Dr v D) : P = 52 ∨ P = 57 := by
  have := h.1
  unfold isPD at this
  omega
theorem CS.ag (h : CS I P Dr v D) {I' : xMem} (g : qAg I I') : CS I' P Dr v D := by
  have hp := h.pd
  exact ⟨h.1, h.2.1, h.2.2.1.cg fun k j _ _ => g k j (by omega), h.2.2.2.1, h.2.2.2.2.cg fun k j _ _ => g k j (by omega)⟩
theorem CS.vok (h : CS I P Dr v D) : vOk (now v D) := by
  obtain ⟨-, ⟨h1, h2, h3, h4, h5, h6, h7⟩, -, ⟨q1, q2, -⟩, -⟩ := h
  obtain ⟨⟨a, b, c⟩, -⟩ := q2 _ (Nat.le_refl _)
  exact ⟨h1, h2, h3, h4, h5, h6, c, a, b⟩
theorem CS.vc (h : CS I P Dr v D) : VC I P (now v D) := by
  obtain ⟨-, -, ⟨a1, a2, a3, a4⟩, ⟨q1, -⟩, b1, b2⟩ := h
  obtain ⟨c1, c2, c3, c4⟩ := b2 _ (Nat.le_refl _)
  exact ⟨a1, a2, a3, a4, dd D, q1, b1, c1, c2, c3⟩
theorem CS.d40 (h : CS I P Dr v D) : dd D ≤ 40 := h.2.2.2.1.1
theorem CS.n2 (h : CS I P Dr v D) : 2 ≤ tn v ∧ tn v ≤ 6 := ⟨h.2.1.2.2.2.2.2.2, h.2.1.1⟩
theorem CS.even (h : CS I P Dr v D) : pc (tt (now v D)) % 2 = 0 := (h.2.2.2.1.2.1 _ (Nat.le_refl _)).2.1
theorem CS.sle (h : CS I P Dr v D) : dS D (dd D) ≤ 5960 := by
  have := (h.2.2.2.1.2.1 _ (Nat.le_refl _)).2.2
  have := h.d40
  omega
theorem CS.np (h : CS I P Dr v D) {i j : Nat} (hi : i < tn v) (hj : j < tn v) (hij : i ≠ j) : X4_isNoPair P I (nI i) (nI j) = 0 := by
  have h6 := h.n2
  have e1 : tn (now v D) = tn v := rfl
  rw [h.vc.noPair h.vok, if_pos ⟨(ix_nI (by omega)).mpr (by omega), (ix_nI (by omega)).mpr (by omega), fun q => hij ((nI_eq_iff (by omega) (by omega)).mp q)⟩]
theorem CS.ns (h : CS I P Dr v D) {a b : Nat} (ha : a < 2 ^ ts v) (hb : b < 2 ^ ts v) (hab : a &&& b = 0) : X4_areNoSets P I (nI a) (nI b) = 0 := by
  have h16 : 2 ^ ts (now v D) ≤ 16 := p2s h.vok
  have e2 : ts (now v D) = ts v := rfl
  rw [e2] at h16
  rw [h.vc.noSets h.vok, if_pos ⟨(ix_nI (by omega)).mpr (by rw [e2]; omega), (ix_nI (by omega)).mpr (by rw [e2]; omega), by rw [nI_and, hab]; rfl⟩]
theorem CS.nb (h : CS I P Dr v D) {i : Nat} (hi : i < tn v) : X4_isNobody P I (nI i) = 0 := by
  have h6 := h.n2
  have e1 : tn (now v D) = tn v := rfl
  rw [h.vc.nobody h.vok, if_pos ((ix_nI (by omega)).mpr (by omega))]
def dpush (D : DD) (t u e x : Nat) : DD := (dd D + 1, fun k => if k = dd D + 1 then t else dT D k, fun k => if k = dd D + 1 then u else dU D k, fun k => if k = dd D + 1 then e else dE D k, fun k => if k = dd D + 1 then x else dS D k)
def dcut (D : DD) (n : Nat) : DD := (n, D.2)
theorem dpush_now (v : TV) (D : DD) (t u e x : Nat) : now v (dpush D t u e x) = tAt v e t u := by
  simp [now, dpush, dd, dT, dU, dE]
theorem CS.push (h : CS I P Dr v D) {I' : xMem} {t u e x : Nat} (hd : dd D < 40) (ht : t < 2 ^ tn v) (hu : u < 2 ^ ts v) (he : e ≤ 9) (hp : pc t % 2 = 0) (hx : dS D (dd D) ≤ x) (hx2 : x ≤ 149 * (dd D + 1)) (h0 : I' 17 0 = nI (dd D + 1)) (h1 : I' 18 (dd D + 1) = nI t) (h2 : I' 19 (dd D + 1) = nI u) (h3 : I' 20 (dd D + 1) = nI e) (h4 : I' 21 (dd D + 1) = nI x) (ho : ∀ k j, k < 17 ∨ 21 < k ∨ (18 ≤ k ∧ j ≠ dd D + 1) → (1 ≤ k ∧ k < 39) ∨ 52 ≤ k → I' k j = I k j) : CS I' P Dr v (dpush D t u e x) := by
  have hpd := h.pd
  obtain ⟨a, b, c, ⟨d1, d2, d3, d4⟩, f1, f2⟩ := h
  refine ⟨a, b, c.cg fun k j _ _ => ho k j (by omega) (by omega), ⟨by show dd D + 1 ≤ 40; omega, fun k hk => ?_, fun j k hj hk => ?_, ?_⟩, h0, fun k hk => ?_⟩
  · have hk : k ≤ dd D + 1 := hk
    by_cases e : k = dd D + 1
    · simp only [dpush, dT, dU, dE, dS, e, if_true]
      exact ⟨⟨ht, hu, he⟩, hp, by omega⟩
    · simp only [dpush, dT, dU, dE, dS, e, if_false]
      exact d2 k (by omega)
  · have hk : k ≤ dd D + 1 := hk
    by_cases e : k = dd D + 1
    · by_cases e2 : j = dd D + 1
      · rw [e, e2]; exact Nat.le_refl _
      · have := d3 j (dd D) (by omega) (Nat.le_refl _)
        simp only [dpush, dS, e, e2, if_true, if_false]
        exact Nat.le_trans this hx
    · have e2 : ¬ j = dd D + 1 := by omega
      simp only [dpush, dS, e, e2, if_false]
      exact d3 j k hj (by omega)
  · have e : ¬ 0 = dd D + 1 := by omega
    simp only [dpush, dT, dU, dE, dS, e, if_false]
    exact d4
  · have hk : k ≤ dd D + 1 := hk
    by_cases e : k = dd D + 1
    · rw [e]
      simp only [dpush, dT, dU, dE, dS, if_true]
      exact ⟨h1, h2, h3, h4⟩
    · simp only [dpush, dT, dU, dE, dS, e, if_false]
      rw [ho _ _ (by omega) (by omega), ho _ _ (by omega) (by omega), ho _ _ (by omega) (by omega), ho _ _ (by omega) (by omega)]
      exact f2 k (by omega)
theorem CS.cut (h : CS I P Dr v D) {I' : xMem} {n : Nat} (hn : n ≤ dd D) (h0 : I' 17 0 = nI n) (ho : ∀ k j, (k ≠ 17 ∨ j ≠ 0) → (1 ≤ k ∧ k < 39) ∨ 52 ≤ k → I' k j = I k j) : CS I' P Dr v (dcut D n) := by
  have hpd := h.pd
  obtain ⟨a, b, c, ⟨d1, d2, d3, d4⟩, f1, f2⟩ := h
  refine ⟨a, b, c.cg fun k j _ _ => ho k j (by omega) (by omega), ⟨by show n ≤ 40; omega, fun k hk => d2 k (Nat.le_trans hk hn), fun j k hj hk => d3 j k hj (Nat.le_trans hk hn), d4⟩, h0, fun k hk => ?_⟩
  have hk : k ≤ n := hk
  rw [ho _ _ (by omega) (by omega), ho _ _ (by omega) (by omega), ho _ _ (by omega) (by omega), ho _ _ (by omega) (by omega)]
  exact f2 k (by omega)
theorem CS.to (h : CS I P Dr v D) {D' : DD} (e : dd D' = dd D) (g : ∀ k, k ≤ dd D → dT D' k = dT D k ∧ dU D' k = dU D k ∧ dE D' k = dE D k ∧ dS D' k = dS D k) : CS I P Dr v D' := by
  obtain ⟨a, b, c, ⟨d1, d2, d3, d4⟩, f⟩ := h
  refine ⟨a, b, c, ⟨by rw [e]; exact d1, fun k hk => ?_, fun j k hj hk => ?_, ?_⟩, f.to e g⟩
  · rw [e] at hk
    obtain ⟨g1, g2, g3, g4⟩ := g k hk
    rw [g1, g2, g3, g4]
    exact d2 k hk
  · rw [e] at hk
    rw [(g j (by omega)).2.2.2, (g k hk).2.2.2]
    exact d3 j k hj hk
  · obtain ⟨g1, g2, g3, g4⟩ := g 0 (Nat.zero_le _)
    rw [g1, g2, g3, g4]
    exact d4
/-- a deed undone: as it was -/
theorem CS.back {t u e x : Nat} (h : CS I P Dr v (dcut (dpush D t u e x) (dd D))) : CS I P Dr v D := by
  refine h.to rfl fun k hk => ?_
  have hk : k ≤ dd D := hk
  have e : ¬ k = dd D + 1 := by omega
  simp only [dcut, dpush, dT, dU, dE, dS, e, if_false]
  exact ⟨trivial, trivial, trivial, trivial⟩
end CSS
/-! deeds -/
theorem pc_xpr0 : ∀ g, g < 64 → ∀ i, i < 6 → ∀ j, j < 6 → (i = j ∨ pc (g ^^^ pr i j) % 2 = pc g % 2) := by decide +kernel
theorem pc_xpr {g i j : Nat} (hg : g < 64) (hi : i < 6) (hj : j < 6) (h : i ≠ j) : pc (g ^^^ pr i j) % 2 = pc g % 2 := (pc_xpr0 g hg i hi j hj).resolve_left h
section CSD
variable {I : xMem} {P Dr : Nat} {v : TV} {D : DD}
/-- two go: where all are then -/
def goT (w : TV) (i j : Nat) : Nat := tt w ^^^ pr i j
def goU (w : TV) (a b : Nat) : Nat := tu w ^^^ (a ||| b)
theorem goT_lt {w : TV} (hv : vOk w) {i j : Nat} (hi : i < tn w) (hj : j < tn w) : goT w i j < 2 ^ tn w := Nat.xor_lt_two_pow hv.2.2.2.2.2.2.2.1 (Nat.or_lt_two_pow (pow_lt2 hi) (pow_lt2 hj))
theorem goU_lt {w : TV} (hv : vOk w) {a b : Nat} (ha : a < 2 ^ ts w) (hb : b < 2 ^ ts w) : goU w a b < 2 ^ ts w := Nat.xor_lt_two_pow hv.2.2.2.2.2.2.2.2 (Nat.or_lt_two_pow ha hb)
def goP (D : DD) (w : TV) (i j a b : Nat) : DD := dpush D (goT w i j) (goU w a b) (te w) (dS D (dd D) + skN w i j a b)
theorem cs_go (h : CS I P Dr v D) {i j a b : Nat} (hi : i < tn v) (hj : j < tn v) (hij : i ≠ j) (ha : a < 2 ^ ts v) (hb : b < 2 ^ ts v) (hab : a &&& b = 0) (hd : dd D < 40) :
    (¬ (same (now v D) i j ∧ nd (a ||| b) (stW (now v D) i) = 0) ∧ X4_go P I (nI i) (nI j) (nI a) (nI b) = some (-4, I)) ∨
    ((same (now v D) i j ∧ nd (a ||| b) (stW (now v D) i) = 0) ∧ ¬ skN (now v D) i j a b ≤ tl v ∧ X4_go P I (nI i) (nI j) (nI a) (nI b) = some (-6, I)) ∨
    ((same (now v D) i j ∧ nd (a ||| b) (stW (now v D) i) = 0) ∧ skN (now v D) i j a b ≤ tl v ∧ ∃ I', X4_go P I (nI i) (nI j) (nI a) (nI b) = some (nI (skN (now v D) i j a b), I') ∧ hAg I I' ∧ CS I' P Dr v (goP D (now v D) i j a b)) := by
  have hv := h.vok
  have hC := h.vc
  have h16 := p2s hv
  have hsk := skN_le hv i j a b
  have h9 := hv.2.2.1
  have e1 : tn (now v D) = tn v := rfl
  have e2 : ts (now v D) = ts v := rfl
  have e3 : tl (now v D) = tl v := rfl
  rw [e2] at h16
  rw [e3] at h9
  have h6 := h.n2
  have hab' : a ||| b < 2 ^ 4 := Nat.or_lt_two_pow (by omega) (by omega)
  unfold X4_go
  rw [h.np hi hj hij, if00, h.ns ha hb hab, if00, hC.apart hv hi hj, bind_s]
  by_cases c3 : same (now v D) i j
  · rw [if_pos c3, if_pos (show nI 0 = 0 from rfl), hC.stonesWith hv hi, bind_s, nI_or, nI_nd]
    have hnd := nd_le (a ||| b) (stW (now v D) i)
    by_cases c4 : nd (a ||| b) (stW (now v D) i) = 0
    · rw [if_pos (by rw [c4]; rfl), hC.steps4 hv hi hj ha hb, bind_s, hC.1.1, e3]
      by_cases c5 : skN (now v D) i j a b ≤ tl v
      · right; right
        have d1 := h.2.2.2.2.1
        obtain ⟨k1, k2, k3, k4⟩ := h.2.2.2.2.2 _ (Nat.le_refl _)
        refine ⟨⟨c3, c4⟩, c5, adM I (dd D) (I 18 (dd D) ^^^ nI (2 ^ i ||| 2 ^ j)) (I 19 (dd D) ^^^ nI (a ||| b)) (I 20 (dd D) + nI 0) (I 21 (dd D) + nI (skN (now v D) i j a b)), ?_, fun k q hk => adM_o I _ _ _ _ _ _ _ (by omega), ?_⟩
        · rw [if_pos ((nI_le_iff (by omega) (by omega)).mpr c5), d1, if_pos (by rw [i_40, nI_lt_iff (by omega) (by omega)]; omega), i_1, nI_pow (by omega), nI_pow (by omega), nI_or, i_0, add_eq I hd d1, bind_s]
        · have hsle := (h.2.2.2.1.2.1 _ (Nat.le_refl _)).2.2
          refine h.push hd (goT_lt hv hi hj) (goU_lt hv ha hb) hv.2.2.2.2.2.2.1 ?_ (Nat.le_add_right _ _) (by omega) (adM_17 _ _ _ _ _ _) ?_ ?_ ?_ ?_ (fun k q hk _ => adM_o I _ _ _ _ _ _ _ hk)
          · rw [goT, pc_xpr (tt_lt hv) (by omega) (by omega) hij]
            exact h.even
          · rw [adM_18, k1, nI_xor]
            rfl
          · rw [adM_19, k2, nI_xor]
            rfl
          · rw [adM_20, k3, nI_sum, Nat.add_zero]
            rfl
          · rw [adM_21, k4, nI_sum]
      · right; left
        refine ⟨⟨c3, c4⟩, c5, ?_⟩
        rw [if_neg (fun q => c5 ((nI_le_iff (by omega) (by omega)).mp q))]
    · left
      refine ⟨fun q => c4 q.2, ?_⟩
      rw [if_neg (by rw [i_0, nI_eq_iff (by omega) (by omega)]; exact c4)]
  · left
    refine ⟨fun q => c3 q.1, ?_⟩
    rw [if_neg c3, if_neg (show ¬ nI 1 = 0 by decide)]
theorem cs_loaf (h : CS I P Dr v D) (hd : dd D < 40) (he : te (now v D) < 9) : ∃ I', X4_loaf P I = some (nI (te (now v D) + 1), I') ∧ hAg I I' ∧ CS I' P Dr v (dpush D (tt (now v D)) (tu (now v D)) (te (now v D) + 1) (dS D (dd D))) := by
  have hv := h.vok
  have hC := h.vc
  have h6 := h.n2
  have e1 : tn (now v D) = tn v := rfl
  have h1 := hv.2.2.2.2.2.2.2
  have d1 := h.2.2.2.2.1
  obtain ⟨k1, k2, k3, k4⟩ := h.2.2.2.2.2 _ (Nat.le_refl _)
  have hsle := (h.2.2.2.1.2.1 _ (Nat.le_refl _)).2.2
  refine ⟨adM I (dd D) (I 18 (dd D) ^^^ nI 0) (I 19 (dd D) ^^^ nI 0) (I 20 (dd D) + nI 1) (I 21 (dd D) + nI 0), ?_, fun k q hk => adM_o I _ _ _ _ _ _ _ (by omega), ?_⟩
  · unfold X4_loaf
    rw [hC.1.2.2, if_neg (by rw [i_0, nI_eq_iff (by omega) (by omega)]; omega), hC.eaten, bind_s, if_pos (by rw [i_9, nI_lt_iff (by omega) (by omega)]; omega), d1, if_pos (by rw [i_40, nI_lt_iff (by omega) (by omega)]; omega), i_0, i_1, add_eq I hd d1, bind_s]
    have hex : X0_eaten 17 (adM I (dd D) (I 18 (dd D) ^^^ nI 0) (I 19 (dd D) ^^^ nI 0) (I 20 (dd D) + nI 1) (I 21 (dd D) + nI 0)) = some (nI (te (now v D) + 1)) := by
      unfold X0_eaten
      rw [adM_17, rdI_nI (by omega) (by omega), bind_s]
      show some (adM I (dd D) (I 18 (dd D) ^^^ nI 0) (I 19 (dd D) ^^^ nI 0) (I 20 (dd D) + nI 1) (I 21 (dd D) + nI 0) 20 (dd D + 1)) = _
      rw [adM_20, k3, nI_sum]
      rfl
    rw [hex, bind_s]
  · refine h.push hd h1.1 h1.2 (by omega) h.even (Nat.le_refl _) (by omega) (adM_17 _ _ _ _ _ _) ?_ ?_ ?_ ?_ (fun k q hk _ => adM_o I _ _ _ _ _ _ _ hk)
    · rw [adM_18, k1, nI_xor, Nat.xor_zero]
      rfl
    · rw [adM_19, k2, nI_xor, Nat.xor_zero]
      rfl
    · rw [adM_20, k3, nI_sum]
      rfl
    · rw [adM_21, k4, nI_sum, Nat.add_zero]
theorem cs_undo (h : CS I P Dr v D) {n : Nat} (hn : n ≤ dd D) : ∃ I', X4_undo I (nI n) = some (nI (dd D - n), I') ∧ hAg I I' ∧ CS I' P Dr v (dcut D n) := by
  have d1 := h.2.2.2.2.1
  have d40 := h.d40
  refine ⟨wr I 17 0 (nI n), ?_, fun k j q => wr_off _ _ (by omega), h.cut hn (wr_eq _ _ _ _) (fun k j q _ => wr_off _ _ q)⟩
  unfold X4_undo
  rw [d1, if_neg (by rw [i_0, nI_lt_iff (by omega) (by omega)]; omega), if_pos (by rw [nI_le_iff (by omega) (by omega)]; omega), pk_sub (by omega), bind_s]
theorem cs_keep (h : CS I P Dr v D) {m : Nat} (hm : m < 3) : ∃ I', X4_keep P I (nI m) = some (nI (dd D), I') ∧ CS I' P Dr v D ∧ I' 38 m = nI 1 ∧ dD I' (23 + 5 * m) D ∧ ∀ k j, (k < 23 + 5 * m ∨ 23 + 5 * m + 4 < k) → (k ≠ 38 ∨ j ≠ m) → I' k j = I k j := by
  have d1 := h.2.2.2.2.1
  have d40 := h.d40
  have h6 := h.n2
  have hp := h.pd
  have hO : ∀ k j, (k < 23 + 5 * m ∨ 23 + 5 * m + 4 < k) → (k ≠ 38 ∨ j ≠ m) → wr (bcM I (23 + 5 * m) 17 (dd D)) 38 m (nz (nI 1)) k j = I k j := fun k j q1 q2 => by
    rw [wr_off _ _ q2, bcM_o I _ _ _ q1]
  refine ⟨wr (bcM I (23 + 5 * m) 17 (dd D)) 38 m (nz (nI 1)), ?_, ⟨h.1, h.2.1, h.2.2.1.cg fun k j _ _ => hO k j (by omega) (by omega), h.2.2.2.1, h.2.2.2.2.cg fun k j _ _ => hO k j (by omega) (by omega)⟩, wr_eq _ _ _ _, ⟨?_, fun k hk => ?_⟩, hO⟩
  · unfold X4_keep
    rw [out3, if_pos ((ix_nI (by omega)).mpr hm), h.2.2.1.1.2.2, if_neg (by rw [i_0, nI_eq_iff (by omega) (by omega)]; omega), rdX_nI hm (by omega), bind_s, become_eq I d40 d1 (by omega), bind_s, wrI_nI hm (by omega), bind_s, i_1]
    rw [wr_off _ _ (by omega), bcM_o I _ _ _ (by omega), d1]
  · rw [wr_off _ _ (by omega), bcM_0]
  · rw [wr_off _ _ (by omega), wr_off _ _ (by omega), wr_off _ _ (by omega), wr_off _ _ (by omega), bcM_i I _ _ _ (by omega) (by omega) hk, bcM_i I _ _ _ (by omega) (by omega) hk, bcM_i I _ _ _ (by omega) (by omega) hk, bcM_i I _ _ _ (by omega) (by omega) hk]
    exact h.2.2.2.2.2 k hk
theorem cs_on (h : CS I P Dr v D) {m : Nat} (hm : m < 3) {D' : DD} (h38 : I 38 m = nI 1) (hD : dD I (23 + 5 * m) D') (hk : dOk v D') : ∃ I', X4_on I (nI m) = some (nI (dd D'), I') ∧ CS I' P Dr v D' ∧ ∀ k j, (k < 17 ∨ 21 < k) → I' k j = I k j := by
  have hp := h.pd
  refine ⟨bcM I 17 (23 + 5 * m) (dd D'), ?_, ⟨h.1, h.2.1, h.2.2.1.cg fun k j _ _ => bcM_o I _ _ _ (by omega), hk, bcM_0 _ _ _ _, fun k q => ?_⟩, fun k j q => bcM_o I _ _ _ (by omega)⟩
  · unfold X4_on
    rw [out3, if_pos ((ix_nI (by omega)).mpr hm), rdI_nI hm (by omega), bind_s, h38, if_neg (by decide), rdX_nI hm (by omega), bind_s, become_eq I hk.1 hD.1 (by omega), bind_s, bcM_0]
  · rw [bcM_i I _ _ _ (by omega) (by omega) q, bcM_i I _ _ _ (by omega) (by omega) q, bcM_i I _ _ _ (by omega) (by omega) q, bcM_i I _ _ _ (by omega) (by omega) q]
    exact hD.2 k q
end CSD
