/-! WHAT A TEXT SAYS: both read it -/
def RJ (t sz : Nat) (J0 J : xMem) (pos S N : Nat) (lim : Int32) (sp kk ww : Nat → Nat) : Prop := mAg J0 J ∧ J 0 16 = nI (60 * t) ∧ J 0 17 = nI pos ∧ J 0 18 = nI sz ∧ J 0 21 = nI S ∧ J 0 23 = nI N ∧ J 0 19 = lim ∧ (∀ s, s < S → J 10 s = nI (sp s)) ∧ ∀ i, i < N → J 11 (2 * i) = nI (kk i) ∧ J 11 (2 * i + 1) = nI (ww i)
theorem mAg.x {J0 J : xMem} (h : mAg J0 J) {k j : Nat} (x : Int32) (q : mX k j) : mAg J0 (wr J k j x) := h.tr (wr_mAg J x q)
section RD2
variable {J0 J : xMem} {t sz pos S N : Nat} {lim : Int32} {sp kk ww : Nat → Nat} {ch : Nat → Int32}
theorem RJ.to (h : RJ t sz J0 J pos S N lim sp kk ww) (p : Nat) : RJ t sz J0 (wr J 0 17 (nI p)) p S N lim sp kk ww := by
  obtain ⟨h1, h2, h3, h4, h5, h6, h7, h8, h9⟩ := h
  refine ⟨h1.x _ (by unfold mX; omega), ?_, wr_eq _ _ _ _, ?_, ?_, ?_, ?_, fun s hs => ?_, fun i hi => ?_⟩
  · rw [wr_off _ _ (by omega)]; exact h2
  · rw [wr_off _ _ (by omega)]; exact h4
  · rw [wr_off _ _ (by omega)]; exact h5
  · rw [wr_off _ _ (by omega)]; exact h6
  · rw [wr_off _ _ (by omega)]; exact h7
  · rw [wr_off _ _ (by omega)]; exact h8 s hs
  · rw [wr_off _ _ (by omega), wr_off _ _ (by omega)]; exact h9 i hi
theorem RJ.here (h : RJ t sz J0 J pos S N lim sp kk ww) (ht : t < 4) (hp : pos < 60) (hJ : ∀ i, i < 60 → J0 8 (60 * t + i) = ch i) : X5_here J = some (ch pos) := by
  unfold X5_here
  rw [h.2.1, h.2.2.1, nI_sum, rdI_nI (by omega) (by omega), bind_s, h.1.of (by omega), hJ pos hp]
theorem wr_slf {A : xMem} {k j : Nat} {x : Int32} (h : A k j = x) : wr A k j x = A := by
  rw [← h]
  exact wr_id A k j
theorem RJ.skip (h : RJ t sz J0 J pos S N lim sp kk ww) (ht : t < 4) (hp : pos ≤ sz) (hs : sz ≤ 60) (hJ : ∀ i, i < 60 → J0 8 (60 * t + i) = ch i) : ∃ p, pos ≤ p ∧ p ≤ sz ∧ X5_skip J = some (wr J 0 17 (nI p)) ∧ (∀ i, pos ≤ i → i < p → ch i = 32) ∧ (p = sz ∨ ch p ≠ 32) := by
  unfold X5_skip
  have key := loop_T (fun fuel k (_ : Unit) => X5_skip_L1 (fun I4 => some I4) fuel (wr J 0 17 (nI k))) (fun o => ∃ p, pos ≤ p ∧ p ≤ sz ∧ o = some (wr J 0 17 (nI p)) ∧ (∀ i, pos ≤ i → i < p → ch i = 32) ∧ (p = sz ∨ ch p ≠ 32)) sz (fun k _ => pos ≤ k ∧ ∀ i, pos ≤ i → i < k → ch i = 32)
    (fun fuel k _ hk hI => by
      have hh := h.to k
      show (∃ p, _ ∧ _ ∧ X5_skip_L1 _ (fuel + 1) (wr J 0 17 (nI k)) = _ ∧ _) ∨ ∃ s' : Unit, X5_skip_L1 _ (fuel + 1) (wr J 0 17 (nI k)) = _ ∧ _
      rw [X5_skip_L1]
      rw [hh.2.2.2.1, hh.2.2.1, if_neg (by rw [nI_le_iff (by omega) (by omega)]; omega), hh.here ht (by omega) hJ, bind_s, bind_s, i_1, nI_sum, wr_wr]
      by_cases c : ch k = 32
      · right
        rw [if_pos c]
        refine ⟨(), rfl, by omega, fun i q1 q2 => ?_⟩
        by_cases e : i = k
        · rw [e]; exact c
        · exact hI.2 i q1 (by omega)
      · left
        rw [if_neg c]
        exact ⟨k, hI.1, by omega, rfl, hI.2, Or.inr c⟩)
    (fun fuel _ hI => by
      have hh := h.to sz
      show ∃ p, _ ∧ _ ∧ X5_skip_L1 _ (fuel + 1) (wr J 0 17 (nI sz)) = _ ∧ _
      rw [X5_skip_L1]
      rw [hh.2.2.2.1, hh.2.2.1, if_pos (Int32.le_refl _)]
      exact ⟨sz, hI.1, Nat.le_refl _, rfl, hI.2, Or.inl rfl⟩)
    (sz - pos) bigF pos () (by omega) (bigF_gt (by omega)) ⟨Nat.le_refl _, fun i q1 q2 => absurd q2 (by omega)⟩
  have key : ∃ p, pos ≤ p ∧ p ≤ sz ∧ X5_skip_L1 (fun I4 => some I4) bigF (wr J 0 17 (nI pos)) = some (wr J 0 17 (nI p)) ∧ (∀ i, pos ≤ i → i < p → ch i = 32) ∧ (p = sz ∨ ch p ≠ 32) := key
  rw [wr_slf h.2.2.1] at key
  exact key
theorem RJ.fig (h : RJ t sz J0 J pos S N lim sp kk ww) (ht : t < 4) (hp : pos ≤ sz) (hs : sz ≤ 60) (hJ : ∀ i, i < 60 → J0 8 (60 * t + i) = ch i) {lo : Nat} (hlo : lo ≤ 9) : (pos = sz → X5_figure J (nI lo) 9 = some (-9, J)) ∧ (pos < sz → ∀ f, lo ≤ f → f ≤ 9 → ch pos = nI (48 + f) → X5_figure J (nI lo) 9 = some (nI f, wr J 0 17 (nI (pos + 1)))) ∧ (pos < sz → (nofig (ch pos) ∨ ∃ f, f < lo ∧ ch pos = nI (48 + f)) → X5_figure J (nI lo) 9 = some (-9, J)) := by
  unfold X5_figure
  rw [h.2.2.1, h.2.2.2.1]
  refine ⟨fun e => ?_, fun hlt f hf1 hf2 hc => ?_, fun hlt hc => ?_⟩
  · rw [if_pos (by rw [e])]
  · rw [if_neg (by rw [nI_eq_iff (by omega) (by omega)]; omega), h.here ht (by omega) hJ, bind_s, hc, fig_in hf2 hlo, if_pos hf1, if10, bind_s, i_1, nI_sum]
    have hh := h.to (pos + 1)
    rw [hh.2.1, hh.2.2.1, nI_sum, nI_subL (by omega), rdI_nI (by omega) (by omega), bind_s, show 60 * t + (pos + 1) - 1 = 60 * t + pos by omega, hh.1.of (by omega), hJ pos (by omega), hc, fig_m hf2]
  · rw [if_neg (by rw [nI_eq_iff (by omega) (by omega)]; omega), h.here ht (by omega) hJ, bind_s]
    rcases hc with hc | ⟨f, hf, hc⟩
    · rw [nofig_in hc hlo, if00]
    · rw [hc, fig_in (by omega) hlo, if_neg (show ¬ lo ≤ f by omega), if00]
end RD2
/-! the class in step -/
/-- the class at the end of a text -/
def KC (b sz : Nat) (I7 : xMem) : Option (Int32 × xMem) := if (I7 b 7) = (2 : Int32) then (if (2 : Int32) ≤ (I7 b 2) then ((X1_weighSets b I7).bind fun q14 => some ((-9 : Int32), q14)) else (some (nI sz, I7))) else (some (nI sz, I7))
theorem KC_bad {b sz w : Nat} {A : xMem} (h : A b 7 = nI w) (hw : w < 100) (h2 : w ≠ 2) : KC b sz A = some (nI sz, A) := by
  unfold KC
  rw [if_neg (show ¬ A b 7 = 2 from w_ne h hw (v := 2) (by omega) h2)]
section RD3
variable {I A J0 J : xMem} {b y t sz pos w S N : Nat} {lim : Int32} {sp kk ww : Nat → Nat} {ch : Nat → Int32}
theorem dAg.put {k j : Nat} {x : Int32} (h : dAg b I A) (q : b ≤ k ∧ k ≤ b + 4) : dAg b I (wr A k j x) := fun a c e => by
  rw [wr_off _ _ (by omega)]
  exact h a c e
theorem RA.w7 (h : RA b I A w S N lim sp kk ww) (w' : Nat) : RA b I (wr A b 7 (nI w')) w' S N lim sp kk ww := by
  obtain ⟨h1, h2, h3, h4, h5, h6, h7⟩ := h
  refine ⟨h1.put (by omega), wr_eq _ _ _ _, ?_, ?_, ?_, fun s hs => ?_, fun i hi => ?_⟩
  · rw [wr_off _ _ (by omega)]; exact h3
  · rw [wr_off _ _ (by omega)]; exact h4
  · rw [wr_off _ _ (by omega)]; exact h5
  · rw [wr_off _ _ (by omega)]; exact h6 s hs
  · rw [wr_off _ _ (by omega), wr_off _ _ (by omega)]; exact h7 i hi
theorem CR_skip {K : xMem → Option (Int32 × xMem)} (hs : sz ≤ 60) (hch : ∀ i, i < 60 → A y i = ch i) (hw : A b 7 = nI 0 ∨ (A b 7 = nI 2 ∧ A b 1 = nI S ∧ A b 2 = nI N ∧ S ≤ 4 ∧ N ≤ 6)) : ∀ (m pos : Nat), pos + m ≤ sz → (∀ i, pos ≤ i → i < pos + m → ch i = 32) → CR b y sz K pos A = CR b y sz K (pos + m) A
  | 0, pos, _, _ => rfl
  | m + 1, pos, h1, h2 => by
    have hc := h2 pos (Nat.le_refl _) (by omega)
    have ht : X1_takes b A 32 = some (1, A) := by
      rcases hw with w | ⟨w1, w2, w3, w4, w5⟩
      · rw [takes_0 w, if_neg (by decide), if_pos rfl]
      · rw [takes_2 w1 w2 w3 w4 w5, if_pos rfl]
    rw [CR_step hs (by omega), hch pos (by omega), hc, ht, bind_s]
    dsimp only
    rw [if10, CR_skip hs hch hw m (pos + 1) (by omega) (fun i a c => h2 i (by omega) (by omega)), show pos + 1 + m = pos + (m + 1) by omega]
/-- both stand between two things of a text -/
def RLv (b t sz : Nat) (I J0 A J : xMem) (pos S N l : Nat) (sp kk ww : Nat → Nat) : Prop := RA b I A 2 S N (nI l) sp kk ww ∧ RJ t sz J0 J pos S N (nI l) sp kk ww ∧ S ≤ 4 ∧ N ≤ 6 ∧ l ≤ 9 ∧ (∀ s, sp s ≤ 9) ∧ (∀ i, kk i < 6) ∧ (∀ i, ww i ≤ 99) ∧ pos ≤ sz
/-- both have failed -/
def RF (b sz : Nat) (I J0 : xMem) (a : Option (Int32 × xMem)) (c : Option (Int32 × xMem)) : Prop := ∃ p A' J', p ≤ sz ∧ dAg b I A' ∧ mAg J0 J' ∧ J' 0 17 = nI p ∧ a = some (nI p, A') ∧ c = some (0, J')
theorem stone_step {l : Nat} (h : RLv b t sz I J0 A J pos S N l sp kk ww) (ht : t < 4) (hs : sz ≤ 60) (hy : y < b) (hI : ∀ i, i < 60 → I y i = ch i) (hJ : ∀ i, i < 60 → J0 8 (60 * t + i) = ch i) (hp : pos < sz) (hc : ch pos = 111) : RF b sz I J0 (CR b y sz (KC b sz) pos A) (X5_readsStone J) ∨ ∃ A' J' sp', RLv b t sz I J0 A' J' (pos + 2) (S + 1) N l sp' kk ww ∧ CR b y sz (KC b sz) pos A = CR b y sz (KC b sz) (pos + 2) A' ∧ X5_readsStone J = some (1, J') := by
  obtain ⟨hA, hR, hS, hN, hl, hsp, hkk, hww, -⟩ := h
  have chA : ∀ {B : xMem}, dAg b I B → ∀ i, i < 60 → B y i = ch i := fun {B} hB i hi => (hB y i (by omega)).trans (hI i hi)
  unfold X5_readsStone
  rw [CR_step hs hp, chA hA.1 pos (by omega), hc, takes_2 hA.2.1 hA.2.2.1 hA.2.2.2.1 hS hN, if_neg (by decide), if_pos rfl, hR.2.2.2.2.1, hR.2.2.2.2.2.1]
  by_cases c1 : N = 0 ∧ S < 4
  · have hA1 : RA b I (wr A b 7 3) 3 S N (nI l) sp kk ww := hA.w7 3
    have hR1 := hR.to (pos + 1)
    rw [if_pos c1, bind_s]
    dsimp only
    rw [if10, if_neg (by rw [i_4, nI_eq_iff (by omega) (by omega)]; omega), if_pos (by rw [i_0, nI_le_iff (by omega) (by omega)]; omega), bind_s, hR.2.2.1, i_1, nI_sum]
    obtain ⟨f1, f2, f3⟩ := hR1.fig ht (by omega) hs hJ (lo := 1) (by omega)
    have fail : X5_figure (wr J 0 17 (nI (pos + 1))) (nI 1) 9 = some (-9, wr J 0 17 (nI (pos + 1))) → ∀ A', dAg b I A' → CR b y sz (KC b sz) (pos + 1) (wr A b 7 3) = some (nI (pos + 1), A') → RF b sz I J0 (CR b y sz (KC b sz) (pos + 1) (wr A b 7 3)) ((X5_figure (wr J 0 17 (nI (pos + 1))) (nI 1) 9).bind fun q4 => if q4.1 = (-9 : Int32) then (some ((nz (0 : Int32)), q4.2)) else ((wrI q4.2 10 4 (q4.2 0 21) q4.1).bind fun I6 => (some (wr I6 0 21 ((I6 0 21) + nI 1))).bind fun I7 => some ((nz (nI 1)), I7))) := fun e A' hA' e2 => by
      refine ⟨pos + 1, A', wr J 0 17 (nI (pos + 1)), by omega, hA', hR1.1, hR1.2.2.1, e2, ?_⟩
      rw [e, bind_s, if_pos rfl]
      rfl
    by_cases c2 : pos + 1 = sz
    · left
      refine fail (f1 c2) _ hA1.1 ?_
      rw [c2, CR_end hs]
      exact KC_bad hA1.2.1 (by omega) (by omega)
    · have hlt : pos + 1 < sz := by omega
      have cs := CR_step (b := b) (y := y) (A := wr A b 7 3) (K := KC b sz) hs hlt
      rw [chA hA1.1 (pos + 1) (by omega)] at cs
      obtain ⟨k1, k2⟩ := takes_3 (c := ch (pos + 1)) hA1.2.1 hA1.2.2.1 c1.2
      rcases fig_or (ch (pos + 1)) with ⟨f, hf, hfc⟩ | hno
      · by_cases c3 : f = 0
        · left
          refine fail (f3 hlt (Or.inr ⟨0, by omega, by rw [hfc, c3]⟩)) _ hA1.1 ?_
          rw [cs, k2 (Or.inr (by rw [hfc, c3])), bind_s]
          rfl
        · right
          rw [f2 hlt f (by omega) hf hfc, bind_s, cs, k1 f (by omega) hf hfc, bind_s]
          dsimp only
          rw [if10, if_neg (nI_m9 (by omega)), wr_wr]
          have hR2 := hR.to (pos + 2)
          rw [show pos + 1 + 1 = pos + 2 by omega, hR2.2.2.2.2.1, wrI_nI (by omega) (by omega), bind_s, bind_s, wr_off (k := 10) _ (nI f) (show (0 : Nat) ≠ 10 ∨ 21 ≠ S by omega), hR2.2.2.2.2.1, nI_sum]
          refine ⟨_, _, fun s => if s = S then f else sp s, ⟨⟨((hA1.1.put (by omega)).put (by omega)).put (by omega), wr_eq _ _ _ _, ?_, ?_, ?_, fun s hs2 => ?_, fun i hi => ?_⟩, ⟨(hR2.1.x _ (by unfold mX; omega)).x _ (by unfold mX; omega), ?_, ?_, ?_, wr_eq _ _ _ _, ?_, ?_, fun s hs2 => ?_, fun i hi => ?_⟩, by omega, hN, hl, fun s => ?_, hkk, hww, by omega⟩, rfl, rfl⟩
          · rw [wr_off _ _ (by omega), wr_eq]
          · rw [wr_off _ _ (by omega), wr_off _ _ (by omega), wr_off _ _ (by omega)]; exact hA1.2.2.2.1
          · rw [wr_off _ _ (by omega), wr_off _ _ (by omega), wr_off _ _ (by omega)]; exact hA1.2.2.2.2.1
          · rw [wr_off _ _ (by omega), wr_off _ _ (by omega), wr_at]
            dsimp only
            by_cases e : s = S
            · rw [if_pos ⟨rfl, e⟩, if_pos e]
            · rw [if_neg (fun w => e w.2), if_neg e]
              exact hA1.2.2.2.2.2.1 s (by omega)
          · exact absurd hi (by omega)
          · rw [wr_off _ _ (by omega), wr_off _ _ (by omega)]; exact hR2.2.1
          · rw [wr_off _ _ (by omega), wr_off _ _ (by omega)]; exact hR2.2.2.1
          · rw [wr_off _ _ (by omega), wr_off _ _ (by omega)]; exact hR2.2.2.2.1
          · rw [wr_off _ _ (by omega), wr_off _ _ (by omega)]; exact hR2.2.2.2.2.2.1
          · rw [wr_off _ _ (by omega), wr_off _ _ (by omega)]; exact hR2.2.2.2.2.2.2.1
          · rw [wr_off _ _ (by omega), wr_at]
            dsimp only
            by_cases e : s = S
            · rw [if_pos ⟨rfl, e⟩, if_pos e]
            · rw [if_neg (fun w => e w.2), if_neg e]
              exact hR2.2.2.2.2.2.2.2.1 s (by omega)
          · exact absurd hi (by omega)
          · show (if s = S then f else sp s) ≤ 9
            have := hsp s
            split <;> omega
      · left
        refine fail (f3 hlt (Or.inl hno)) _ hA1.1 ?_
        rw [cs, k2 (Or.inl hno), bind_s]
        rfl
  · left
    rw [if_neg c1, bind_s]
    dsimp only
    rw [if00]
    refine ⟨pos, wr A b 7 3, J, by omega, (hA.w7 3).1, hR.1, hR.2.2.1, rfl, ?_⟩
    by_cases c2 : S = 4
    · rw [if_pos (by rw [c2]; rfl)]
      rfl
    · rw [if_neg (by rw [i_4, nI_eq_iff (by omega) (by omega)]; exact c2), if_neg (by rw [i_0, nI_le_iff (by omega) (by omega)]; omega)]
      rfl
theorem one_step {l : Nat} (h : RLv b t sz I J0 A J pos S N l sp kk ww) (ht : t < 4) (hs : sz ≤ 60) (hy : y < b) (hI : ∀ i, i < 60 → I y i = ch i) (hJ : ∀ i, i < 60 → J0 8 (60 * t + i) = ch i) (hp : pos < sz) (hc : ch pos ≠ 111) (hb : ch pos ≠ 32) : RF b sz I J0 (CR b y sz (KC b sz) pos A) (X5_readsOne J) ∨ ∃ A' J' kk' ww', RLv b t sz I J0 A' J' (pos + 3) S (N + 1) l sp kk' ww' ∧ CR b y sz (KC b sz) pos A = CR b y sz (KC b sz) (pos + 3) A' ∧ X5_readsOne J = some (1, J') := by
  obtain ⟨hA, hR, hS, hN, hl, hsp, hkk, hww, -⟩ := h
  have chA : ∀ {B : xMem}, dAg b I B → ∀ i, i < 60 → B y i = ch i := fun {B} hB i hi => (hB y i (by omega)).trans (hI i hi)
  unfold X5_readsOne
  rw [CR_step hs hp, chA hA.1 pos (by omega), takes_2 hA.2.1 hA.2.2.1 hA.2.2.2.1 hS hN, if_neg hb, if_neg hc, hR.here ht (by omega) hJ, bind_s, hR.2.2.2.2.2.1]
  rcases kind_or (ch pos) with hk | ⟨k, hk6, hk⟩
  · left
    rw [if_pos hk, if_pos hk, bind_s]
    exact ⟨pos, A, J, by omega, hA.1, hR.1, hR.2.2.1, rfl, rfl⟩
  · have hk9 : ¬ X5_kindOfLetter (ch pos) = -9 := by rw [hk]; exact nI_m9 (by omega)
    rw [if_neg hk9, if_neg hk9]
    by_cases c1 : N < 6
    · rw [if_pos c1, bind_s]
      dsimp only
      rw [if10, if_neg (by rw [i_6, nI_eq_iff (by omega) (by omega)]; omega), bind_s, hR.2.2.1, i_1, nI_sum, hk]
      -- the letter
      have hA1 : RA b I (wr (wr A (b + 3) N (nI k)) b 7 4) 4 S N (nI l) sp kk ww := by
        obtain ⟨h1, h2, h3, h4, h5, h6, h7⟩ := hA
        refine RA.w7 (w := 2) ⟨h1.put (by omega), ?_, ?_, ?_, ?_, fun s hs => ?_, fun i hi => ?_⟩ 4
        · rw [wr_off _ _ (by omega)]; exact h2
        · rw [wr_off _ _ (by omega)]; exact h3
        · rw [wr_off _ _ (by omega)]; exact h4
        · rw [wr_off _ _ (by omega)]; exact h5
        · rw [wr_off _ _ (by omega)]; exact h6 s hs
        · rw [wr_off _ _ (by omega), wr_off _ _ (by omega)]; exact h7 i hi
      have hA1k : wr (wr A (b + 3) N (nI k)) b 7 4 (b + 3) N = nI k := by
        rw [wr_off _ _ (by omega), wr_eq]
      generalize wr (wr A (b + 3) N (nI k)) b 7 4 = A1 at hA1 hA1k ⊢
      have hR1 := hR.to (pos + 1)
      obtain ⟨f1, f2, f3⟩ := hR1.fig ht (by omega) hs hJ (lo := 0) (by omega)
      have e0 : (0 : Int32) = nI 0 := rfl
      have fail1 : X5_figure (wr J 0 17 (nI (pos + 1))) (nI 0) 9 = some (-9, wr J 0 17 (nI (pos + 1))) → ∀ (A' : xMem) (G : Int32 × xMem → Option (Int32 × xMem)) (H : Int32 × xMem → Int32 × xMem → Option (Int32 × xMem)), dAg b I A' → (∀ q z, q.1 = -9 → H z q = some (0, q.2)) → CR b y sz (KC b sz) (pos + 1) A1 = some (nI (pos + 1), A') → RF b sz I J0 (CR b y sz (KC b sz) (pos + 1) A1) ((X5_figure (wr J 0 17 (nI (pos + 1))) (nI 0) 9).bind fun q5 => (if q5.1 = (-9 : Int32) then (some ((-9 : Int32), q5.2)) else G q5).bind fun q6 => H q5 q6) := fun e A' G H hA' hH e2 => by
        refine ⟨pos + 1, A', wr J 0 17 (nI (pos + 1)), by omega, hA', hR1.1, hR1.2.2.1, e2, ?_⟩
        rw [e, bind_s, if_pos rfl, bind_s]
        exact hH _ _ rfl
      have hH0 : ∀ (q z : Int32 × xMem), q.1 = -9 → (if q.1 = (-9 : Int32) then (some ((nz (0 : Int32)), q.2)) else ((wrI q.2 11 12 ((2 : Int32) * (q.2 0 23)) (nI k)).bind fun I12 => (wrI I12 11 12 (((2 : Int32) * (I12 0 23)) + nI 1) (((10 : Int32) * z.1) + q.1)).bind fun I13 => (some (wr I13 0 23 ((I13 0 23) + nI 1))).bind fun I14 => some ((nz (nI 1)), I14))) = some (0, q.2) := fun q z e => by
        rw [if_pos e]
        rfl
      by_cases c2 : pos + 1 = sz
      · left
        refine fail1 (f1 c2) A1 _ _ hA1.1 hH0 ?_
        rw [c2, CR_end hs]
        exact KC_bad hA1.2.1 (by omega) (by omega)
      · have hlt : pos + 1 < sz := by omega
        have cs := CR_step (b := b) (y := y) (A := A1) (K := KC b sz) hs hlt
        rw [chA hA1.1 (pos + 1) (by omega)] at cs
        obtain ⟨k1, k2⟩ := takes_4 (c := ch (pos + 1)) hA1.2.1
        rcases fig_or (ch (pos + 1)) with ⟨g, hg, hgc⟩ | hno
        · -- the tens
          have e5 : X5_figure (wr J 0 17 (nI (pos + 1))) (0 : Int32) 9 = some (nI g, wr (wr J 0 17 (nI (pos + 1))) 0 17 (nI (pos + 1 + 1))) := f2 hlt g (Nat.zero_le _) hg hgc
          have hA2 : RA b I (wr (wr A1 b 8 (nI g)) b 7 5) 5 S N (nI l) sp kk ww := by
            obtain ⟨h1, h2, h3, h4, h5, h6, h7⟩ := hA1
            refine RA.w7 (w := 4) ⟨h1.put (by omega), ?_, ?_, ?_, ?_, fun s hs => ?_, fun i hi => ?_⟩ 5
            · rw [wr_off _ _ (by omega)]; exact h2
            · rw [wr_off _ _ (by omega)]; exact h3
            · rw [wr_off _ _ (by omega)]; exact h4
            · rw [wr_off _ _ (by omega)]; exact h5
            · rw [wr_off _ _ (by omega)]; exact h6 s hs
            · rw [wr_off _ _ (by omega), wr_off _ _ (by omega)]; exact h7 i hi
          have hA2k : wr (wr A1 b 8 (nI g)) b 7 5 (b + 3) N = nI k := by
            rw [wr_off _ _ (by omega), wr_off _ _ (by omega)]; exact hA1k
          have hA28 : wr (wr A1 b 8 (nI g)) b 7 5 b 8 = nI g := by
            rw [wr_off _ _ (by omega), wr_eq]
          rw [cs, k1 g hg hgc, bind_s, e5, bind_s]
          dsimp only
          generalize wr (wr A1 b 8 (nI g)) b 7 5 = A2 at hA2 hA2k hA28 ⊢
          rw [if10, if_neg (nI_m9 (by omega)), wr_wr, show pos + 1 + 1 = pos + 2 by omega]
          have hR2 := hR.to (pos + 2)
          have elo : (if nI g = (0 : Int32) then (some (nI 1 : Int32)) else (some (0 : Int32))) = some (nI (if g = 0 then 1 else 0)) := by
            by_cases e : g = 0
            · rw [if_pos (by rw [e]; rfl), if_pos e]
            · rw [if_neg (by rw [i_0, nI_eq_iff (by omega) (by omega)]; exact e), if_neg e]
              rfl
          rw [elo, bind_s]
          obtain ⟨u1, u2, u3⟩ := hR2.fig ht (by omega) hs hJ (lo := if g = 0 then 1 else 0) (by split <;> omega)
          have fail2 : X5_figure (wr J 0 17 (nI (pos + 2))) (nI (if g = 0 then 1 else 0)) 9 = some (-9, wr J 0 17 (nI (pos + 2))) → ∀ (A' : xMem) (H : Int32 × xMem → Option (Int32 × xMem)), dAg b I A' → (∀ q, q.1 = -9 → H q = some (0, q.2)) → CR b y sz (KC b sz) (pos + 2) A2 = some (nI (pos + 2), A') → RF b sz I J0 (CR b y sz (KC b sz) (pos + 2) A2) (((X5_figure (wr J 0 17 (nI (pos + 2))) (nI (if g = 0 then 1 else 0)) 9).bind fun q10 => some (q10.1, q10.2)).bind H) := fun e A' H hA' hH e2 => by
            refine ⟨pos + 2, A', wr J 0 17 (nI (pos + 2)), by omega, hA', hR2.1, hR2.2.2.1, e2, ?_⟩
            rw [e, bind_s, bind_s]
            exact hH _ rfl
          have hH1 : ∀ (q : Int32 × xMem), q.1 = -9 → (if q.1 = (-9 : Int32) then (some ((nz (0 : Int32)), q.2)) else ((wrI q.2 11 12 ((2 : Int32) * (q.2 0 23)) (nI k)).bind fun I12 => (wrI I12 11 12 (((2 : Int32) * (I12 0 23)) + nI 1) (((10 : Int32) * nI g) + q.1)).bind fun I13 => (some (wr I13 0 23 ((I13 0 23) + nI 1))).bind fun I14 => some ((nz (nI 1)), I14))) = some (0, q.2) := fun q e => by
            rw [if_pos e]
            rfl
          by_cases c3 : pos + 2 = sz
          · left
            refine fail2 (u1 c3) A2 _ hA2.1 hH1 ?_
            rw [c3, CR_end hs]
            exact KC_bad hA2.2.1 (by omega) (by omega)
          · have hlt2 : pos + 2 < sz := by omega
            have cs2 := CR_step (b := b) (y := y) (A := A2) (K := KC b sz) hs hlt2
            rw [chA hA2.1 (pos + 2) (by omega)] at cs2
            obtain ⟨v1, v2⟩ := takes_5 (c := ch (pos + 2)) hA2.2.1 hg hA28 hA2.2.2.2.1 c1
            rcases fig_or (ch (pos + 2)) with ⟨f, hf, hfc⟩ | hno
            · by_cases c4 : g = 0 ∧ f = 0
              · left
                refine fail2 (u3 hlt2 (Or.inr ⟨0, by rw [if_pos c4.1]; omega, by rw [hfc, c4.2]⟩)) A2 _ hA2.1 hH1 ?_
                rw [cs2, v2 (Or.inr ⟨by rw [hfc, c4.2], c4.1⟩), bind_s]
                rfl
              · right
                rw [u2 hlt2 f (by split <;> omega) hf hfc, bind_s, bind_s, cs2, v1 f hf (by omega) hfc, bind_s]
                dsimp only
                have hR3 := hR.to (pos + 3)
                rw [if10, if_neg (nI_m9 (by omega)), wr_wr, show pos + 2 + 1 = pos + 3 by omega]
                rw [hR3.2.2.2.2.2.1, i_2, nI_mul, wrI_nI (by omega) (by omega), bind_s, wr_off (k := 11) _ (nI k) (show (0 : Nat) ≠ 11 ∨ 23 ≠ 2 * N by omega), hR3.2.2.2.2.2.1, nI_mul, nI_sum, i_10, nI_mul, nI_sum, wrI_nI (by omega) (by omega), bind_s, bind_s, wr_off (k := 11) _ (nI (10 * g + f)) (show (0 : Nat) ≠ 11 ∨ 23 ≠ 2 * N + 1 by omega), wr_off (k := 11) _ (nI k) (show (0 : Nat) ≠ 11 ∨ 23 ≠ 2 * N by omega), hR3.2.2.2.2.2.1, nI_sum]
                refine ⟨_, _, fun i => if i = N then k else kk i, fun i => if i = N then 10 * g + f else ww i, ⟨⟨((hA2.1.put (by omega)).put (by omega)).put (by omega), wr_eq _ _ _ _, ?_, ?_, ?_, fun s hs2 => ?_, fun i hi => ?_⟩, ⟨((hR3.1.x _ (by unfold mX; omega)).x _ (by unfold mX; omega)).x _ (by unfold mX; omega), ?_, ?_, ?_, ?_, wr_eq _ _ _ _, ?_, fun s hs2 => ?_, fun i hi => ?_⟩, hS, by omega, hl, hsp, fun i => ?_, fun i => ?_, by omega⟩, rfl, rfl⟩
                · rw [wr_off _ _ (by omega), wr_off _ _ (by omega), wr_off _ _ (by omega)]; exact hA2.2.2.1
                · rw [wr_off _ _ (by omega), wr_eq]
                · rw [wr_off _ _ (by omega), wr_off _ _ (by omega), wr_off _ _ (by omega)]; exact hA2.2.2.2.2.1
                · rw [wr_off _ _ (by omega), wr_off _ _ (by omega), wr_off _ _ (by omega)]; exact hA2.2.2.2.2.2.1 s hs2
                · rw [wr_off _ _ (by omega), wr_off _ _ (by omega), wr_off _ _ (by omega), wr_off _ _ (by omega), wr_off _ _ (by omega), wr_at]
                  dsimp only
                  by_cases e : i = N
                  · exact ⟨by rw [if_pos e, e]; exact hA2k, by rw [if_pos ⟨rfl, e⟩, if_pos e]⟩
                  · have hold := hA2.2.2.2.2.2.2 i (by omega)
                    exact ⟨by rw [if_neg e]; exact hold.1, by rw [if_neg (fun w => e w.2), if_neg e]; exact hold.2⟩
                · rw [wr_off _ _ (by omega), wr_off _ _ (by omega), wr_off _ _ (by omega)]; exact hR3.2.1
                · rw [wr_off _ _ (by omega), wr_off _ _ (by omega), wr_off _ _ (by omega)]; exact hR3.2.2.1
                · rw [wr_off _ _ (by omega), wr_off _ _ (by omega), wr_off _ _ (by omega)]; exact hR3.2.2.2.1
                · rw [wr_off _ _ (by omega), wr_off _ _ (by omega), wr_off _ _ (by omega)]; exact hR3.2.2.2.2.1
                · rw [wr_off _ _ (by omega), wr_off _ _ (by omega), wr_off _ _ (by omega)]; exact hR3.2.2.2.2.2.2.1
                · rw [wr_off _ _ (by omega), wr_off _ _ (by omega), wr_off _ _ (by omega)]; exact hR3.2.2.2.2.2.2.2.1 s hs2
                · dsimp only
                  by_cases e : i = N
                  · rw [if_pos e, if_pos e, e]
                    refine ⟨?_, ?_⟩
                    · rw [wr_off _ _ (by omega), wr_off _ _ (by omega), wr_eq]
                    · rw [wr_off _ _ (by omega), wr_eq]
                  · rw [if_neg e, if_neg e]
                    have hold := hR3.2.2.2.2.2.2.2.2 i (by omega)
                    exact ⟨by rw [wr_off _ _ (by omega), wr_off _ _ (by omega), wr_off _ _ (by omega)]; exact hold.1, by rw [wr_off _ _ (by omega), wr_off _ _ (by omega), wr_off _ _ (by omega)]; exact hold.2⟩
                · show (if i = N then k else kk i) < 6
                  have := hkk i
                  split <;> omega
                · show (if i = N then 10 * g + f else ww i) ≤ 99
                  have := hww i
                  split <;> omega
            · left
              refine fail2 (u3 hlt2 (Or.inl hno)) A2 _ hA2.1 hH1 ?_
              rw [cs2, v2 (Or.inl hno), bind_s]
              rfl
        · left
          refine fail1 (f3 hlt (Or.inl hno)) A1 _ _ hA1.1 hH0 ?_
          rw [cs, k2 hno, bind_s]
          rfl
    · left
      rw [if_neg c1, bind_s]
      dsimp only
      rw [if00, if_pos (show nI N = (6 : Int32) by rw [i_6, nI_eq_iff (by omega) (by omega)]; omega)]
      exact ⟨pos, A, J, by omega, hA.1, hR.1, hR.2.2.1, rfl, rfl⟩
end RD3
