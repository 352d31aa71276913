/-! CLASS AND MODEL ALIKE -/
def szOk (x : Int32) (N : Nat) : Prop := x = -1 ∨ ∃ s, s ≤ N ∧ x = nI s
/-- rows, texts -/
def simR (I J : xMem) : Prop := (I 1 0 = nI 6 ∧ I 1 1 = nI 40 ∧ I 1 4 = nI 0 ∧ I 10 0 = nI 4 ∧ I 10 1 = nI 60 ∧ I 10 4 = nI 32) ∧ (∀ r, r < 6 → szOk (I 2 r) 40 ∧ J 5 r = I 2 r ∧ ∀ i, i < 40 → J 6 (40 * r + i) = I (4 + r) i) ∧ (∀ r, r < 4 → szOk (I 11 r) 60 ∧ J 7 r = I 11 r ∧ ∀ i, i < 60 → J 8 (60 * r + i) = I (13 + r) i)
/-- what is told, findings -/
def simF (I J : xMem) : Prop := I 0 10 = J 0 11 ∧ I 0 9 = J 0 14 ∧ ∀ f, 1 ≤ f → f ≤ 5 → I 51 f = J 9 f
/-- the plan -/
def simP (I : xMem) (P : Nat) (J : xMem) (v : TV) : Prop := ((I P 0 = nI (tl v) ∧ I P 1 = nI (ts v) ∧ I P 2 = nI (tn v)) ∧ (∀ i, i < tn v → I (P + 3) i = nI (tk v i) ∧ I (P + 4) i = nI (tw v i)) ∧ (∀ s, s < ts v → I (P + 1) s = nI (tp v s)) ∧ (∀ a, a < 2 ^ ts v → I (P + 2) a = nI (setW v a))) ∧ (J 0 1 = nI (tl v) ∧ J 0 2 = nI (ts v) ∧ J 0 4 = nI (tn v)) ∧ (∀ i, i < tn v → J 3 i = nI (tk v i) ∧ J 4 i = nI (tw v i)) ∧ (∀ s, s < ts v → J 2 s = nI (tp v s))
/-- deeds of the class at b, in the model's row from o on: d of them; who, which stones, how many loaves, steps ahead of each and behind the last -/
def simD (I : xMem) (b : Nat) (J : xMem) (o : Nat) (n s d : Nat) (T U E : Nat → Nat) (S : Nat → Int32) : Prop :=
  d ≤ 40 ∧ (I b 0 = nI d ∧ J 1 o = nI d) ∧ (∀ k, k ≤ d → I (b + 1) k = nI (T k) ∧ I (b + 2) k = nI (U k) ∧ I (b + 3) k = nI (E k) ∧ I (b + 4) k = S k) ∧ (∀ k, k < d → J 1 (o + 5 + 4 * k) = nI (E k) ∧ J 1 (o + 6 + 4 * k) = nI (T k) ∧ J 1 (o + 7 + 4 * k) = nI (U k) ∧ J 1 (o + 8 + 4 * k) = S k) ∧ (J 1 (o + 1) = nI (E d) ∧ J 1 (o + 2) = nI (T d) ∧ J 1 (o + 3) = nI (U d) ∧ J 1 (o + 4) = S d) ∧ ∀ k, k ≤ d → T k < 2 ^ n ∧ U k < 2 ^ s ∧ E k ≤ 9
/-- the place of the class where deeds are ahead of any: nothing -/
def zer (I : xMem) (b : Nat) : Prop := I (b + 1) 0 = nI 0 ∧ I (b + 2) 0 = nI 0 ∧ I (b + 3) 0 = nI 0 ∧ I (b + 4) 0 = nI 0
/-- kept towers -/
def simK (I J : xMem) (n s : Nat) : Prop := ∀ k, k < 3 → zer I (23 + 5 * k) ∧ ((I 38 k = nI 0 ∧ J 1 (165 + 165 * k) = -1) ∨ (I 38 k = nI 1 ∧ ∃ d T U E S, simD I (23 + 5 * k) J (165 + 165 * k) n s d T U E S))
def isPD (P Dr : Nat) : Prop := (P = 52 ∧ Dr = 57) ∨ (P = 57 ∧ Dr = 52)
/-- the tower's numbers with what is done -/
def tAt (v : TV) (e t u : Nat) : TV := (tn v, ts v, tl v, tk v, tw v, tp v, e, t, u)
def Sim (I : xMem) (L : xLon) (P Dr : Nat) (J : xMem) (M : xLon) : Prop :=
  isPD P Dr ∧ simR I J ∧ simF I J ∧ (L 11 = M 12 ∧ L 12 = M 13) ∧ ∃ (v : TV) (d : Nat) (T U E : Nat → Nat) (S : Nat → Int32), (tn v ≤ 6 ∧ ts v ≤ 4 ∧ tl v ≤ 9 ∧ (∀ i, tk v i < 6) ∧ (∀ i, tw v i ≤ 99) ∧ (∀ i, tp v i ≤ 9) ∧ tn v ≠ 1) ∧ simP I P J v ∧ simD I 17 J 0 (tn v) (ts v) d T U E S ∧ zer I 17 ∧ simK I J (tn v) (ts v)
/-- the scratch of each -/
def cX (k : Nat) : Prop := 39 ≤ k ∧ k ≤ 50
def mX (k j : Nat) : Prop := (k = 0 ∧ 16 ≤ j) ∨ 10 ≤ k
def cAg (I I' : xMem) : Prop := ∀ k j, ¬ cX k → I' k j = I k j
def mAg (J J' : xMem) : Prop := ∀ k j, ¬ mX k j → J' k j = J k j
theorem cAg.rf (I : xMem) : cAg I I := fun _ _ _ => rfl
theorem mAg.rf (I : xMem) : mAg I I := fun _ _ _ => rfl
theorem cAg.tr {A B C : xMem} (h : cAg A B) (g : cAg B C) : cAg A C := fun k j q => (g k j q).trans (h k j q)
theorem mAg.tr {A B C : xMem} (h : mAg A B) (g : mAg B C) : mAg A C := fun k j q => (g k j q).trans (h k j q)
theorem s24.ag {A B : xMem} (h : s24 A B) : mAg A B := fun k j q => h.at (by
  unfold mX at q
  omega)
theorem cAg.of {A B : xMem} (h : cAg A B) {k : Nat} (j : Nat) (q : k < 39 ∨ 50 < k := by omega) : B k j = A k j := h k j (by unfold cX; omega)
theorem mAg.of {A B : xMem} (h : mAg A B) {k j : Nat} (q : k < 10 ∧ (k ≠ 0 ∨ j < 16) := by omega) : B k j = A k j := h k j (by unfold mX; omega)
/-! each part looks at its cells alone -/
theorem simR.congr {I J I' J' : xMem} (h : simR I J) (hI : ∀ k j, 1 ≤ k → k ≤ 16 → I' k j = I k j) (hJ : ∀ k j, 5 ≤ k → k ≤ 8 → J' k j = J k j) : simR I' J' := by
  obtain ⟨⟨a1, a2, a3, a4, a5, a6⟩, b, c⟩ := h
  refine ⟨⟨?_, ?_, ?_, ?_, ?_, ?_⟩, fun r hr => ?_, fun r hr => ?_⟩
  · rw [hI _ _ (by omega) (by omega)]; exact a1
  · rw [hI _ _ (by omega) (by omega)]; exact a2
  · rw [hI _ _ (by omega) (by omega)]; exact a3
  · rw [hI _ _ (by omega) (by omega)]; exact a4
  · rw [hI _ _ (by omega) (by omega)]; exact a5
  · rw [hI _ _ (by omega) (by omega)]; exact a6
  · rw [hI _ _ (by omega) (by omega), hJ _ _ (by omega) (by omega)]
    exact ⟨(b r hr).1, (b r hr).2.1, fun i hi => by rw [hI _ _ (by omega) (by omega), hJ _ _ (by omega) (by omega)]; exact (b r hr).2.2 i hi⟩
  · rw [hI _ _ (by omega) (by omega), hJ _ _ (by omega) (by omega)]
    exact ⟨(c r hr).1, (c r hr).2.1, fun i hi => by rw [hI _ _ (by omega) (by omega), hJ _ _ (by omega) (by omega)]; exact (c r hr).2.2 i hi⟩
theorem simF.congr {I J I' J' : xMem} (h : simF I J) (hI : ∀ k j, (k = 0 ∧ (j = 9 ∨ j = 10)) ∨ k = 51 → I' k j = I k j) (hJ : ∀ k j, (k = 0 ∧ (j = 11 ∨ j = 14)) ∨ k = 9 → J' k j = J k j) : simF I' J' := by
  obtain ⟨a, b, c⟩ := h
  refine ⟨?_, ?_, fun f h1 h2 => ?_⟩
  · rw [hI _ _ (by omega), hJ _ _ (by omega)]; exact a
  · rw [hI _ _ (by omega), hJ _ _ (by omega)]; exact b
  · rw [hI _ _ (by omega), hJ _ _ (by omega)]; exact c f h1 h2
theorem simP.congr {I J I' J' : xMem} {P : Nat} {v : TV} (h : simP I P J v) (hI : ∀ k j, P ≤ k → k ≤ P + 4 → I' k j = I k j) (hJ : ∀ k j, (k = 0 ∧ (j = 1 ∨ j = 2 ∨ j = 4)) ∨ (2 ≤ k ∧ k ≤ 4) → J' k j = J k j) : simP I' P J' v := by
  obtain ⟨⟨⟨a1, a2, a3⟩, b, c, d⟩, ⟨e1, e2, e3⟩, f, g⟩ := h
  refine ⟨⟨⟨?_, ?_, ?_⟩, fun i hi => ?_, fun s hs => ?_, fun a ha => ?_⟩, ⟨?_, ?_, ?_⟩, fun i hi => ?_, fun s hs => ?_⟩
  · rw [hI _ _ (by omega) (by omega)]; exact a1
  · rw [hI _ _ (by omega) (by omega)]; exact a2
  · rw [hI _ _ (by omega) (by omega)]; exact a3
  · rw [hI _ _ (by omega) (by omega), hI _ _ (by omega) (by omega)]; exact b i hi
  · rw [hI _ _ (by omega) (by omega)]; exact c s hs
  · rw [hI _ _ (by omega) (by omega)]; exact d a ha
  · rw [hJ _ _ (by omega)]; exact e1
  · rw [hJ _ _ (by omega)]; exact e2
  · rw [hJ _ _ (by omega)]; exact e3
  · rw [hJ _ _ (by omega), hJ _ _ (by omega)]; exact f i hi
  · rw [hJ _ _ (by omega)]; exact g s hs
theorem simD.congr {I J I' J' : xMem} {b o n s d : Nat} {T U E : Nat → Nat} {S : Nat → Int32} (h : simD I b J o n s d T U E S) (hI : ∀ k j, b ≤ k → k ≤ b + 4 → j ≤ d → I' k j = I k j) (hJ : ∀ j, o ≤ j → j < o + 5 + 4 * d → J' 1 j = J 1 j) : simD I' b J' o n s d T U E S := by
  obtain ⟨a, ⟨b1, b2⟩, c, dd, ⟨e1, e2, e3, e4⟩, f⟩ := h
  refine ⟨a, ⟨?_, ?_⟩, fun k hk => ?_, fun k hk => ?_, ⟨?_, ?_, ?_, ?_⟩, f⟩
  · rw [hI _ _ (by omega) (by omega) (by omega)]; exact b1
  · rw [hJ _ (by omega) (by omega)]; exact b2
  · rw [hI _ _ (by omega) (by omega) (by omega), hI _ _ (by omega) (by omega) (by omega), hI _ _ (by omega) (by omega) (by omega), hI _ _ (by omega) (by omega) (by omega)]; exact c k hk
  · rw [hJ _ (by omega) (by omega), hJ _ (by omega) (by omega), hJ _ (by omega) (by omega), hJ _ (by omega) (by omega)]; exact dd k hk
  · rw [hJ _ (by omega) (by omega)]; exact e1
  · rw [hJ _ (by omega) (by omega)]; exact e2
  · rw [hJ _ (by omega) (by omega)]; exact e3
  · rw [hJ _ (by omega) (by omega)]; exact e4
theorem zer.congr {I I' : xMem} {b : Nat} (h : zer I b) (hI : ∀ k, b < k → k ≤ b + 4 → I' k 0 = I k 0) : zer I' b := by
  obtain ⟨h1, h2, h3, h4⟩ := h
  refine ⟨?_, ?_, ?_, ?_⟩
  · rw [hI _ (by omega) (by omega)]; exact h1
  · rw [hI _ (by omega) (by omega)]; exact h2
  · rw [hI _ (by omega) (by omega)]; exact h3
  · rw [hI _ (by omega) (by omega)]; exact h4
theorem simK.congr {I J I' J' : xMem} {n s : Nat} (h : simK I J n s) (hI : ∀ k j, 23 ≤ k → k ≤ 38 → I' k j = I k j) (hJ : ∀ j, 165 ≤ j → J' 1 j = J 1 j) : simK I' J' n s := by
  intro k hk
  obtain ⟨z, q⟩ := h k hk
  refine ⟨z.congr fun a _ _ => hI _ _ (by omega) (by omega), ?_⟩
  rcases q with ⟨q1, q2⟩ | ⟨q1, d, T, U, E, S, q2⟩
  · refine Or.inl ⟨?_, ?_⟩
    · rw [hI _ _ (by omega) (by omega)]; exact q1
    · rw [hJ _ (by omega)]; exact q2
  · refine Or.inr ⟨?_, d, T, U, E, S, q2.congr (fun a j _ _ _ => hI _ _ (by omega) (by omega)) (fun j _ _ => hJ _ (by omega))⟩
    rw [hI _ _ (by omega) (by omega)]; exact q1
theorem Sim.congr {I I' J J' : xMem} {L M : xLon} {P Dr : Nat} (h : Sim I L P Dr J M) (hI : ∀ k j, (k < 39 ∨ k = 51 ∨ (P ≤ k ∧ k ≤ P + 4)) → I' k j = I k j) (hJ : ∀ k j, k < 10 → (k ≠ 0 ∨ j < 16) → J' k j = J k j) : Sim I' L P Dr J' M := by
  obtain ⟨p, r, f, l, v, d, T, U, E, S, w, a, b, c, k⟩ := h
  refine ⟨p, r.congr (fun k j _ _ => hI _ _ (by omega)) (fun k j _ _ => hJ _ _ (by omega) (by omega)), f.congr (fun k j _ => hI _ _ (by omega)) (fun k j _ => hJ _ _ (by omega) (by omega)), l, v, d, T, U, E, S, w, a.congr (fun k j _ _ => hI _ _ (by omega)) (fun k j _ => hJ _ _ (by omega) (by omega)), b.congr (fun k j _ _ _ => hI _ _ (by omega)) (fun j _ _ => hJ _ _ (by omega) (by omega)), c.congr (fun k _ _ => hI _ _ (by omega)), k.congr (fun k j _ _ => hI _ _ (by omega)) (fun j _ => hJ _ _ (by omega) (by omega))⟩
theorem Sim.scr {I I' J J' : xMem} {L M : xLon} {P Dr : Nat} (h : Sim I L P Dr J M) (hI : cAg I I') (hJ : mAg J J') : Sim I' L P Dr J' M := by
  have hp := h.1
  unfold isPD at hp
  exact h.congr (fun k j q => hI.of _ (by omega)) (fun k j q1 q2 => hJ.of (by omega))
theorem Sim.told {I J : xMem} {L M : xLon} {P Dr : Nat} (h : Sim I L P Dr J M) (x : Int32) : Sim (wr I 0 10 x) L P Dr (wr J 0 11 x) M := by
  obtain ⟨p, r, f, l, v, d, T, U, E, S, w, a, b, c, k⟩ := h
  have hp := p
  unfold isPD at hp
  refine ⟨p, r.congr (fun k j _ _ => wr_off _ _ (by omega)) (fun k j _ _ => wr_off _ _ (by omega)), ⟨?_, ?_, fun g _ _ => ?_⟩, l, v, d, T, U, E, S, w, a.congr (fun k j _ _ => wr_off _ _ (by omega)) (fun k j _ => wr_off _ _ (by omega)), b.congr (fun k j _ _ _ => wr_off _ _ (by omega)) (fun j _ _ => wr_off _ _ (by omega)), c.congr (fun k _ _ => wr_off _ _ (by omega)), k.congr (fun k j _ _ => wr_off _ _ (by omega)) (fun j _ => wr_off _ _ (by omega))⟩
  · rw [wr_eq, wr_eq]
  · rw [wr_off _ _ (by omega), wr_off _ _ (by omega)]; exact f.2.1
  · rw [wr_off _ _ (by omega), wr_off _ _ (by omega)]; exact f.2.2 g (by omega) (by omega)
/-- a finding, on both sides -/
def cFnd (I : xMem) (f : Nat) : xMem := wr (wr I 0 9 (nI f)) 51 f (I 51 f + 1)
def mFnd (J : xMem) (f : Nat) : xMem := wr (wr J 0 14 (nI f)) 9 f (J 9 f + 1)
theorem found_eq (I : xMem) {f : Nat} (h : f < 6) : X4_found I (nI f) = some ((-3 : Int32), cFnd I f) := by
  unfold X4_found cFnd
  rw [bind_s, rdI_nI h (by omega), bind_s, wrI_nI h (by omega), bind_s, wr_off (k := 0) (j := 9) I (nI f) (show 51 ≠ 0 ∨ f ≠ 9 by omega)]
theorem find_eq (J : xMem) {f : Nat} (h : f < 6) : X5_find J (nI f) = some ((-3 : Int32), mFnd J f) := by
  unfold X5_find mFnd
  rw [bind_s, rdI_nI h (by omega), bind_s, wrI_nI h (by omega), bind_s, wr_off (k := 0) (j := 14) J (nI f) (show 9 ≠ 0 ∨ f ≠ 14 by omega)]
theorem Sim.find {I J : xMem} {L M : xLon} {P Dr : Nat} (h : Sim I L P Dr J M) {f : Nat} (h1 : 1 ≤ f) (h2 : f ≤ 5) : Sim (cFnd I f) L P Dr (mFnd J f) M := by
  obtain ⟨p, r, ff, l, v, d, T, U, E, S, w, a, b, c, k⟩ := h
  have hp := p
  unfold isPD at hp
  have cO : ∀ k j, (k ≠ 0 ∨ j ≠ 9) → (k ≠ 51 ∨ j ≠ f) → cFnd I f k j = I k j := fun k j q1 q2 => by
    unfold cFnd
    rw [wr_off _ _ (by omega), wr_off _ _ (by omega)]
  have mO : ∀ k j, (k ≠ 0 ∨ j ≠ 14) → (k ≠ 9 ∨ j ≠ f) → mFnd J f k j = J k j := fun k j q1 q2 => by
    unfold mFnd
    rw [wr_off _ _ (by omega), wr_off _ _ (by omega)]
  refine ⟨p, r.congr (fun k j _ _ => cO _ _ (by omega) (by omega)) (fun k j _ _ => mO _ _ (by omega) (by omega)), ⟨?_, ?_, fun g _ _ => ?_⟩, l, v, d, T, U, E, S, w, a.congr (fun k j _ _ => cO _ _ (by omega) (by omega)) (fun k j _ => mO _ _ (by omega) (by omega)), b.congr (fun k j _ _ _ => cO _ _ (by omega) (by omega)) (fun j _ _ => mO _ _ (by omega) (by omega)), c.congr (fun k _ _ => cO _ _ (by omega) (by omega)), k.congr (fun k j _ _ => cO _ _ (by omega) (by omega)) (fun j _ => mO _ _ (by omega) (by omega))⟩
  · rw [cO _ _ (by omega) (by omega), mO _ _ (by omega) (by omega)]; exact ff.1
  · unfold cFnd mFnd
    rw [wr_off _ _ (by omega), wr_eq, wr_off _ _ (by omega), wr_eq]
  · unfold cFnd mFnd
    by_cases e : g = f
    · subst e
      rw [wr_eq, wr_eq, ff.2.2 g (by omega) (by omega)]
    · rw [wr_off _ _ (by omega), wr_off _ _ (by omega), wr_off _ _ (by omega), wr_off _ _ (by omega)]
      exact ff.2.2 g (by omega) (by omega)
/-! what the tower is, out of it -/
theorem Sim.view {I J : xMem} {L M : xLon} {P Dr : Nat} (h : Sim I L P Dr J M) : ∃ v, vOk v ∧ VC I P v ∧ VM J v := by
  obtain ⟨-, -, -, -, v, d, T, U, E, S, w, a, b, c, k⟩ := h
  obtain ⟨b0, ⟨b1, b1'⟩, b2, -, ⟨b3, b4, b5, -⟩, b6⟩ := b
  obtain ⟨g1, g2, g3⟩ := b6 d (Nat.le_refl d)
  obtain ⟨k1, k2, k3, -⟩ := b2 d (Nat.le_refl d)
  obtain ⟨w1, w2, w3, w4, w5, w6, -⟩ := w
  have hW : ∀ x, setW (tAt v (E d) (T d) (U d)) x = setW v x := fun x => rfl
  refine ⟨tAt v (E d) (T d) (U d), ⟨w1, w2, w3, w4, w5, w6, g3, g1, g2⟩, ⟨a.1.1, a.1.2.1, a.1.2.2.1, a.1.2.2.2, d, b0, b1, k1, k2, k3⟩, ⟨a.2.1, a.2.2.1, a.2.2.2, b3, b4, b5⟩⟩
/-- nobody is alone -/
theorem Sim.n1 {I J : xMem} {L M : xLon} {P Dr : Nat} (h : Sim I L P Dr J M) {v : TV} (hv : vOk v) (hC : VC I P v) : tn v ≠ 1 := by
  obtain ⟨-, -, -, -, v', d, T, U, E, S, w, a, -⟩ := h
  have h1 := a.1.1.2.2
  have h2 := hC.1.2.2
  have h3 := hv.1
  have h4 := w.1
  rw [h1, nI_eq_iff (by omega) (by omega)] at h2
  rw [← h2]
  exact w.2.2.2.2.2.2
theorem VC.cAg {I I' : xMem} {P : Nat} {v : TV} (hP : P = 52 ∨ P = 57) (h : VC I P v) (g : cAg I I') : VC I' P v := by
  obtain ⟨⟨h1, h2, h3⟩, h4, h5, h6, d, h7, h8, h9, h10, h11⟩ := h
  refine ⟨⟨?_, ?_, ?_⟩, fun i hi => ?_, fun s hs => ?_, fun a ha => ?_, d, h7, ?_, ?_, ?_, ?_⟩
  · rw [g.of _ (by omega)]; exact h1
  · rw [g.of _ (by omega)]; exact h2
  · rw [g.of _ (by omega)]; exact h3
  · rw [g.of _ (by omega), g.of _ (by omega)]; exact h4 i hi
  · rw [g.of _ (by omega)]; exact h5 s hs
  · rw [g.of _ (by omega)]; exact h6 a ha
  · rw [g.of _ (by omega)]; exact h8
  · rw [g.of _ (by omega)]; exact h9
  · rw [g.of _ (by omega)]; exact h10
  · rw [g.of _ (by omega)]; exact h11
theorem VM.mAg {J J' : xMem} {v : TV} (h : VM J v) (g : mAg J J') : VM J' v := by
  obtain ⟨⟨h1, h2, h3⟩, h4, h5, h6, h7, h8⟩ := h
  refine ⟨⟨?_, ?_, ?_⟩, fun i hi => ?_, fun s hs => ?_, ?_, ?_, ?_⟩
  · rw [g.of (by omega)]; exact h1
  · rw [g.of (by omega)]; exact h2
  · rw [g.of (by omega)]; exact h3
  · rw [g.of (by omega), g.of (by omega)]; exact h4 i hi
  · rw [g.of (by omega)]; exact h5 s hs
  · rw [g.of (by omega)]; exact h6
  · rw [g.of (by omega)]; exact h7
  · rw [g.of (by omega)]; exact h8
/-- both answer, alike, and go on alike -/
def Bt (L : xLon) (P Dr : Nat) (M : xLon) (a b : Option (Int32 × xMem)) : Prop := ∃ r I' J', a = some (r, I') ∧ b = some (r, J') ∧ Sim I' L P Dr J' M
theorem Bt.mk {L : xLon} {P Dr : Nat} {M : xLon} {a b : Option (Int32 × xMem)} {r r' : Int32} {I' J' : xMem} (h1 : a = some (r, I')) (h2 : b = some (r', J')) (e : r = r') (h3 : Sim I' L P Dr J' M) : Bt L P Dr M a b := ⟨r, I', J', h1, by rw [e]; exact h2, h3⟩
