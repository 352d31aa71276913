/-! A TEXT'S TOWER -/
/-- what has been read, as a tower -/
def vNum (v : TV) : Prop := tn v ≤ 6 ∧ ts v ≤ 4 ∧ tl v ≤ 9 ∧ (∀ i, tk v i < 6) ∧ (∀ i, tw v i ≤ 99) ∧ (∀ i, tp v i ≤ 9) ∧ 2 ≤ tn v
def rdC (b : Nat) (A : xMem) (v : TV) : Prop := (A b 0 = nI (tl v) ∧ A b 1 = nI (ts v) ∧ A b 2 = nI (tn v)) ∧ (∀ i, i < tn v → A (b + 3) i = nI (tk v i) ∧ A (b + 4) i = nI (tw v i)) ∧ (∀ s, s < ts v → A (b + 1) s = nI (tp v s)) ∧ (∀ a, a < 2 ^ ts v → A (b + 2) a = nI (setW v a))
def rdM (J : xMem) (v : TV) : Prop := J 0 19 = nI (tl v) ∧ J 0 21 = nI (ts v) ∧ J 0 23 = nI (tn v) ∧ (∀ s, s < ts v → J 10 s = nI (tp v s)) ∧ ∀ i, i < tn v → J 11 (2 * i) = nI (tk v i) ∧ J 11 (2 * i + 1) = nI (tw v i)
/-- both have read -/
def PR (b : Nat) (I J0 : xMem) (a c : Option (Int32 × xMem)) : Prop := ∃ A' J', dAg b I A' ∧ mAg J0 J' ∧ ((∃ p, p ≤ 60 ∧ a = some (nI p, A') ∧ c = some (nI p, J')) ∨ ∃ v, vNum v ∧ rdC b A' v ∧ rdM J' v ∧ a = some (-9, A') ∧ c = some (-9, J'))
def KM (z2_13 : Int32) (I14 : xMem) : Option (Int32 × xMem) := if z2_13 = (0 : Int32) then (some ((I14 0 17), I14)) else (if (I14 0 23) ≤ (1 : Int32) then (some ((I14 0 17), I14)) else (some ((-9 : Int32), I14)))
section TOW
variable {I A J0 J : xMem} {b y t sz pos w S N : Nat} {lim : Int32} {sp kk ww : Nat → Nat} {ch : Nat → Int32}
theorem sets_n (h : A b 1 = nI S) (hS : S ≤ 4) : X1_allStones b A = nI (2 ^ S - 1) := by
  have h3 : 0 < 2 ^ S := Nat.pos_of_ne_zero (by simp)
  unfold X1_allStones
  rw [h, i_1, nI_pow (by omega), nI_subL (by omega)]
theorem weigh_eq (hA : dAg b I A) (h1 : A b 1 = nI S) (hS : S ≤ 4) (hsp : ∀ s, s < S → A (b + 1) s = nI (sp s)) (hb : ∀ s, sp s ≤ 9) : ∃ B, X1_weighSets b A = some B ∧ (∀ k j, k ≠ b + 2 → B k j = A k j) ∧ ∀ a, a < 2 ^ S → B (b + 2) a = nI (sumN (fun s => if a.testBit s then sp s else 0) S) := by
  have h16 : 2 ^ S ≤ 16 := by
    have : 2 ^ S ≤ 2 ^ 4 := Nat.pow_le_pow_right (by decide) hS
    omega
  have h0 : 0 < 2 ^ S := Nat.pos_of_ne_zero (by simp)
  have inner : ∀ (K : xMem → Option xMem) (a : Nat) (B : xMem), a < 2 ^ S → (∀ k j, k ≠ b + 2 → B k j = A k j) → X1_weighSets_L2 b (nI a) K bigF (nI 0) (wr B (b + 2) a 0) = K (wr B (b + 2) a (nI (sumN (fun s => if a.testBit s then sp s else 0) S))) := by
    intro K a B ha hB
    obtain ⟨z, hz, he⟩ := loop_I (fun fuel k (z : Nat) => X1_weighSets_L2 b (nI a) K fuel (nI k) (wr B (b + 2) a (nI z))) (fun z => K (wr B (b + 2) a (nI z))) S (fun k z => z = sumN (fun s => if a.testBit s then sp s else 0) k)
      (fun fuel k z hk hI => by
        refine ⟨sumN (fun s => if a.testBit s then sp s else 0) (k + 1), ?_, rfl⟩
        show X1_weighSets_L2 b (nI a) K (fuel + 1) (nI k) (wr B (b + 2) a (nI z)) = X1_weighSets_L2 b (nI a) K fuel (nI (k + 1)) (wr B (b + 2) a (nI (sumN _ k + if a.testBit k then sp k else 0)))
        rw [X1_weighSets_L2]
        rw [wr_off (k := b + 2) B _ (show b ≠ b + 2 ∨ 1 ≠ a by omega), hB b 1 (by omega), h1, if_neg (by rw [nI_le_iff (by omega) (by omega)]; omega), rdI_nI (by omega) (by omega), bind_s, wr_eq, rdI_nI (by omega) (by omega), bind_s, wr_off (k := b + 2) B _ (show b + 1 ≠ b + 2 ∨ k ≠ a by omega), hB (b + 1) k (by omega), hsp k hk, i_1, nI_bit (by omega) (by omega), nI_mul, nI_sum, wrI_nI (by omega) (by omega), bind_s, wr_wr, nI_sum]
        congr 3
        rw [← hI]
        congr 1
        have tb := tb_div a k
        rcases Nat.mod_two_eq_zero_or_one (a / 2 ^ k) with q | q
        · rw [q] at tb
          have tb : a.testBit k = false := by simpa using tb
          rw [q, tb, Nat.zero_mul]
          rfl
        · rw [q] at tb
          have tb : a.testBit k = true := by simpa using tb
          rw [q, tb, Nat.one_mul]
          rfl)
      (fun fuel z hI => by
        show X1_weighSets_L2 b (nI a) K (fuel + 1) (nI S) (wr B (b + 2) a (nI z)) = _
        rw [X1_weighSets_L2]
        rw [wr_off (k := b + 2) B _ (show b ≠ b + 2 ∨ 1 ≠ a by omega), hB b 1 (by omega), h1, if_pos (Int32.le_refl _)])
      S bigF 0 0 (by omega) (bigF_gt (by omega)) rfl
    rw [← hz]
    exact he
  unfold X1_weighSets
  obtain ⟨B, hB, he⟩ := loop_I (fun fuel k (B : xMem) => X1_weighSets_L1 b (fun I4 => some I4) fuel (nI k) B) (fun B => some B) (2 ^ S) (fun k B => (∀ k j, k ≠ b + 2 → B k j = A k j) ∧ ∀ a, a < k → B (b + 2) a = nI (sumN (fun s => if a.testBit s then sp s else 0) S))
    (fun fuel k B hk hI => by
      refine ⟨wr B (b + 2) k (nI (sumN (fun s => if k.testBit s then sp s else 0) S)), ?_, fun x j q => by rw [wr_off _ _ (by omega)]; exact hI.1 x j q, fun a q => ?_⟩
      · show X1_weighSets_L1 b _ (fuel + 1) (nI k) B = _
        rw [X1_weighSets_L1]
        rw [sets_n (A := B) (by rw [hI.1 b 1 (by omega)]; exact h1) hS, if_neg (by rw [nI_lt_iff (by omega) (by omega)]; omega), wrI_nI (by omega) (by omega), bind_s]
        refine (inner _ k B hk hI.1).trans ?_
        rw [show nI k + 1 = nI (k + 1) from nI_1 k]
      · by_cases e : a = k
        · subst e
          exact wr_eq _ _ _ _
        · rw [wr_off _ _ (by omega)]; exact hI.2 a (by omega))
    (fun fuel B hI => by
      show X1_weighSets_L1 b _ (fuel + 1) (nI (2 ^ S)) B = _
      rw [X1_weighSets_L1]
      rw [sets_n (A := B) (by rw [hI.1 b 1 (by omega)]; exact h1) hS, if_pos (by rw [nI_lt_iff (by omega) (by omega)]; omega)])
    (2 ^ S) bigF 0 A (by omega) (bigF_gt (by omega)) ⟨fun k j q => rfl, fun a q => absurd q (by omega)⟩
  exact ⟨B, he, hB⟩
/-- at the end of the text -/
theorem end_both {l : Nat} (h : RLv b t sz I J0 A J sz S N l sp kk ww) (hs : sz ≤ 60) : PR b I J0 (KC b sz A) (KM 1 J) := by
  obtain ⟨hA, hR, hS, hN, hl, hsp, hkk, hww, -⟩ := h
  unfold KC KM
  rw [if_pos (show A b 7 = 2 from hA.2.1), hA.2.2.2.1, if10, hR.2.2.2.2.2.1, hR.2.2.1]
  by_cases c : 2 ≤ N
  · obtain ⟨B, b1, b2, b3⟩ := weigh_eq hA.1 hA.2.2.1 hS hA.2.2.2.2.2.1 hsp
    rw [if_pos (by rw [i_2, nI_le_iff (by omega) (by omega)]; omega), b1, bind_s, if_neg (by rw [i_1, nI_le_iff (by omega) (by omega)]; omega)]
    refine ⟨B, J, fun k j q => by rw [b2 k j (by omega)]; exact hA.1 k j q, hR.1, Or.inr ⟨(N, S, l, kk, ww, sp, 0, 0, 0), ⟨hN, hS, hl, hkk, hww, hsp, c⟩, ⟨⟨?_, ?_, ?_⟩, fun i hi => ?_, fun s hs => ?_, b3⟩, ⟨hR.2.2.2.2.2.2.1, hR.2.2.2.2.1, hR.2.2.2.2.2.1, hR.2.2.2.2.2.2.2.1, hR.2.2.2.2.2.2.2.2⟩, rfl, rfl⟩⟩
    · rw [b2 _ _ (by omega)]; exact hA.2.2.2.2.1
    · rw [b2 _ _ (by omega)]; exact hA.2.2.1
    · rw [b2 _ _ (by omega)]; exact hA.2.2.2.1
    · rw [b2 _ _ (by omega), b2 _ _ (by omega)]; exact hA.2.2.2.2.2.2 i hi
    · rw [b2 _ _ (by omega)]; exact hA.2.2.2.2.2.1 s hs
  · rw [if_neg (by rw [i_2, nI_le_iff (by omega) (by omega)]; omega), if_pos (by rw [i_1, nI_le_iff (by omega) (by omega)]; omega)]
    exact ⟨A, J, hA.1, hR.1, Or.inl ⟨sz, by omega, rfl, rfl⟩⟩
theorem fail_both {a c : Option (Int32 × xMem)} (h : RF b sz I J0 a c) (hs : sz ≤ 60) (fuel : Nat) (G : Int32 × xMem → Option (Int32 × xMem)) : PR b I J0 a ((c.bind fun q => some (q.1, q.2)).bind fun q18 => if q18.1 = (0 : Int32) then (X5_faultOf_L1 KM (fuel + 1) q18.1 q18.2) else G q18) := by
  obtain ⟨p, A', J', h1, h2, h3, h4, h5, h6⟩ := h
  refine ⟨A', J', h2, h3, Or.inl ⟨p, by omega, h5, ?_⟩⟩
  rw [h6, bind_s, bind_s]
  dsimp only
  rw [if00, X5_faultOf_L1]
  rw [if_pos rfl]
  unfold KM
  rw [if00, h4]
theorem read_on (ht : t < 4) (hs : sz ≤ 60) (hy : y < b) (hI : ∀ i, i < 60 → I y i = ch i) (hJ : ∀ i, i < 60 → J0 8 (60 * t + i) = ch i) : ∀ (m fuel : Nat) {pos S N l : Nat} {sp kk ww : Nat → Nat} {A J : xMem}, sz - pos ≤ m → m + 1 < fuel → RLv b t sz I J0 A J pos S N l sp kk ww → (pos = sz ∨ ch pos ≠ 32) → PR b I J0 (CR b y sz (KC b sz) pos A) (X5_faultOf_L1 KM fuel 1 J) := by
  intro m
  induction m with
  | zero =>
    intro fuel pos S N l sp kk ww A J h1 h2 h3 _
    obtain ⟨f, rfl⟩ : ∃ f, fuel = f + 1 := ⟨fuel - 1, by omega⟩
    have e : pos = sz := by have := h3.2.2.2.2.2.2.2.2; omega
    subst e
    rw [CR_end hs, X5_faultOf_L1]
    rw [if10, h3.2.1.2.2.2.1, h3.2.1.2.2.1, if_pos (Int32.le_refl _)]
    exact end_both h3 hs
  | succ m ih =>
    intro fuel pos S N l sp kk ww A J h1 h2 h3 h4
    obtain ⟨f, rfl⟩ : ∃ f, fuel = f + 1 := ⟨fuel - 1, by omega⟩
    have hle := h3.2.2.2.2.2.2.2.2
    rw [X5_faultOf_L1]
    rw [if10, h3.2.1.2.2.2.1, h3.2.1.2.2.1]
    by_cases e : pos = sz
    · subst e
      rw [CR_end hs, if_pos (Int32.le_refl _)]
      exact end_both h3 hs
    · have hb : ch pos ≠ 32 := by
        rcases h4 with w | w
        · exact absurd w e
        · exact w
      rw [if_neg (by rw [nI_le_iff (by omega) (by omega)]; omega), h3.2.1.here ht (by omega) hJ, bind_s]
      -- goes on behind what has been read
      have go : ∀ {pos' S' N' : Nat} {sp' kk' ww' : Nat → Nat} {A' J' : xMem}, pos < pos' → RLv b t sz I J0 A' J' pos' S' N' l sp' kk' ww' → PR b I J0 (CR b y sz (KC b sz) pos' A') ((X5_skip J').bind fun q23 => X5_faultOf_L1 KM f 1 q23) := fun {pos' S' N' sp' kk' ww' A' J'} hlt hr => by
        obtain ⟨hA, hR, hS, hN, hl, hsp, hkk, hww, hpl⟩ := hr
        obtain ⟨p, p1, p2, p3, p4, p5⟩ := hR.skip ht hpl hs hJ
        have cs := CR_skip (K := KC b sz) hs (fun i hi => (hA.1 y i (by omega)).trans (hI i hi)) (Or.inr ⟨hA.2.1, hA.2.2.1, hA.2.2.2.1, hS, hN⟩) (p - pos') pos' (by omega) (fun i a c => p4 i a (by omega))
        rw [show pos' + (p - pos') = p by omega] at cs
        rw [cs, p3, bind_s]
        exact ih f (by omega) (by omega) ⟨hA, hR.to p, hS, hN, hl, hsp, hkk, hww, p2⟩ p5
      obtain ⟨f', rfl⟩ : ∃ f', f = f' + 1 := ⟨f - 1, by omega⟩
      by_cases c : ch pos = 111
      · rw [if_pos c]
        rcases stone_step h3 ht hs hy hI hJ (by omega) c with w | ⟨A', J', sp', w1, w2, w3⟩
        · exact fail_both w hs f' (fun q18 => (X5_skip q18.2).bind fun q23 => X5_faultOf_L1 KM (f' + 1) q18.1 q23)
        · rw [w2, w3, bind_s, bind_s]
          dsimp only
          rw [if10]
          exact go (by omega) w1
      · rw [if_neg c]
        rcases one_step h3 ht hs hy hI hJ (by omega) c hb with w | ⟨A', J', kk', ww', w1, w2, w3⟩
        · exact fail_both w hs f' (fun q18 => (X5_skip q18.2).bind fun q23 => X5_faultOf_L1 KM (f' + 1) q18.1 q23)
        · rw [w2, w3, bind_s, bind_s]
          dsimp only
          rw [if10]
          exact go (by omega) w1
theorem limit_both (ht : t < 4) (hs : sz ≤ 60) (hy : y < b) (hI : ∀ i, i < 60 → I y i = ch i) (hJ : ∀ i, i < 60 → J0 8 (60 * t + i) = ch i) (hA : RA b I A 0 0 0 (A b 0) (fun _ => 0) (fun _ => 0) (fun _ => 0)) (hR : RJ t sz J0 J 0 0 0 (J 0 19) (fun _ => 0) (fun _ => 0) (fun _ => 0)) : RF b sz I J0 (CR b y sz (KC b sz) 0 A) (X5_readsLimit J) ∨ ∃ pos l A' J', RLv b t sz I J0 A' J' pos 0 0 l (fun _ => 0) (fun _ => 0) (fun _ => 0) ∧ CR b y sz (KC b sz) 0 A = CR b y sz (KC b sz) pos A' ∧ X5_readsLimit J = some (1, J') := by
  have chA : ∀ {B : xMem}, dAg b I B → ∀ i, i < 60 → B y i = ch i := fun {B} hB i hi => (hB y i (by omega)).trans (hI i hi)
  obtain ⟨p, p1, p2, p3, p4, p5⟩ := hR.skip ht (Nat.zero_le _) hs hJ
  have cs := CR_skip (K := KC b sz) (S := 0) (N := 0) hs (chA hA.1) (Or.inl hA.2.1) p 0 (by omega) (fun i a c => p4 i a (by omega))
  rw [Nat.zero_add] at cs
  have hR1 := hR.to p
  unfold X5_readsLimit
  rw [cs, p3, bind_s]
  rw [hR1.2.2.1, hR1.2.2.2.1]
  by_cases c1 : p = sz
  · left
    rw [if_pos (by rw [c1])]
    refine ⟨p, A, _, p2, hA.1, hR1.1, hR1.2.2.1, ?_, rfl⟩
    rw [c1, CR_end hs]
    exact KC_bad hA.2.1 (by omega) (by omega)
  · have hb : ch p ≠ 32 := by
      rcases p5 with w | w
      · exact absurd w c1
      · exact w
    have hlt : p < sz := by omega
    rw [if_neg (by rw [nI_eq_iff (by omega) (by omega)]; exact c1), hR1.here ht (by omega) hJ, bind_s, CR_step hs hlt, chA hA.1 p (by omega), takes_0 hA.2.1]
    by_cases c2 : ch p = 120
    · rw [if_pos c2, if_pos c2, bind_s, bind_s]
      dsimp only
      have hA1 : RA b I (wr A b 7 1) 1 0 0 (A b 0) (fun _ => 0) (fun _ => 0) (fun _ => 0) := hA.w7 1
      have hR2 := hR.to (p + 1)
      rw [if10, i_1, nI_sum, wr_wr]
      obtain ⟨f1, f2, f3⟩ := hR2.fig ht (by omega) hs hJ (lo := 0) (by omega)
      have fail : X5_figure (wr J 0 17 (nI (p + 1))) (nI 0) 9 = some (-9, wr J 0 17 (nI (p + 1))) → CR b y sz (KC b sz) (p + 1) (wr A b 7 1) = some (nI (p + 1), wr A b 7 1) → RF b sz I J0 (CR b y sz (KC b sz) (p + 1) (wr A b 7 1)) ((X5_figure (wr J 0 17 (nI (p + 1))) (0 : Int32) 9).bind fun q6 => (some (wr q6.2 0 19 q6.1)).bind fun I7 => if (I7 0 19) = (-9 : Int32) then (some ((nz (0 : Int32)), I7)) else (some ((nz (nI 1)), I7))) := fun e e2 => by
        refine ⟨p + 1, _, wr (wr J 0 17 (nI (p + 1))) 0 19 (-9), by omega, hA1.1, hR2.1.x _ (by unfold mX; omega), (wr_off _ _ (by omega)).trans hR2.2.2.1, e2, ?_⟩
        rw [show (0 : Int32) = nI 0 from rfl, e, bind_s, bind_s, if_pos (wr_eq _ _ _ _)]
        rfl
      by_cases c3 : p + 1 = sz
      · left
        refine fail (f1 c3) ?_
        rw [c3, CR_end hs]
        exact KC_bad hA1.2.1 (by omega) (by omega)
      · have hlt2 : p + 1 < sz := by omega
        have cs2 := CR_step (b := b) (y := y) (A := wr A b 7 1) (K := KC b sz) hs hlt2
        rw [chA hA1.1 (p + 1) (by omega)] at cs2
        obtain ⟨k1, k2⟩ := takes_1 (c := ch (p + 1)) hA1.2.1
        rcases fig_or (ch (p + 1)) with ⟨f, hf, hfc⟩ | hno
        · right
          have e6 : X5_figure (wr J 0 17 (nI (p + 1))) (0 : Int32) 9 = some (nI f, wr (wr J 0 17 (nI (p + 1))) 0 17 (nI (p + 1 + 1))) := f2 hlt2 f (Nat.zero_le _) hf hfc
          rw [show nI 1 = (1 : Int32) from rfl, cs2, k1 f hf hfc, e6, bind_s, bind_s, bind_s]
          dsimp only
          have hR3 := hR.to (p + 2)
          have hne : ¬ wr (wr (wr J 0 17 (nI (p + 1))) 0 17 (nI (p + 1 + 1))) 0 19 (nI f) 0 19 = -9 := by
            rw [wr_eq]
            exact nI_m9 (by omega)
          rw [if10, if_neg hne, wr_wr, show p + 1 + 1 = p + 2 by omega]
          refine ⟨p + 2, f, _, _, ⟨⟨(hA1.1.put (by omega)).put (by omega), wr_eq _ _ _ _, ?_, ?_, ?_, fun s hs => absurd hs (by omega), fun i hi => absurd hi (by omega)⟩, ⟨hR3.1.x _ (by unfold mX; omega), ?_, ?_, ?_, ?_, ?_, wr_eq _ _ _ _, fun s hs => absurd hs (by omega), fun i hi => absurd hi (by omega)⟩, by omega, by omega, hf, fun _ => Nat.zero_le _, fun _ => (by decide : 0 < 6), fun _ => Nat.zero_le _, by omega⟩, rfl, rfl⟩
          · rw [wr_off _ _ (by omega), wr_off _ _ (by omega)]; exact hA1.2.2.1
          · rw [wr_off _ _ (by omega), wr_off _ _ (by omega)]; exact hA1.2.2.2.1
          · rw [wr_off _ _ (by omega), wr_eq]
          · rw [wr_off _ _ (by omega)]; exact hR3.2.1
          · rw [wr_off _ _ (by omega)]; exact hR3.2.2.1
          · rw [wr_off _ _ (by omega)]; exact hR3.2.2.2.1
          · rw [wr_off _ _ (by omega)]; exact hR3.2.2.2.2.1
          · rw [wr_off _ _ (by omega)]; exact hR3.2.2.2.2.2.1
        · left
          refine fail (f3 hlt2 (Or.inl hno)) ?_
          rw [cs2, k2 hno, bind_s]
          rfl
    · left
      rw [if_neg c2, if_neg hb, bind_s, if_neg c2]
      exact ⟨p, A, _, p2, hA.1, hR1.1, hR1.2.2.1, rfl, rfl⟩
theorem text_both (ht : t < 4) (hs : sz ≤ 60) (hy : y < b) (hI : ∀ i, i < 60 → I y i = ch i) (hJ : ∀ i, i < 60 → J0 8 (60 * t + i) = ch i) (hsz : J0 7 t = nI sz) : PR b I J0 (X1_read b I y 60 (nI sz)) (X5_faultOf J0 (nI t)) := by
  unfold X1_read X5_faultOf
  rw [bind_s, bind_s, bind_s, bind_s, bind_s, i_60, nI_mul]
  have e7 : (wr (wr J0 0 16 (nI (60 * t))) 0 17 0) 7 t = nI sz := by
    rw [wr_off _ _ (by omega), wr_off _ _ (by omega)]
    exact hsz
  rw [rdI_nI ht (by omega), bind_s, e7, bind_s, bind_s, bind_s]
  have hA : RA b I (wr (wr (wr I b 1 0) b 2 0) b 7 0) 0 0 0 ((wr (wr (wr I b 1 0) b 2 0) b 7 0) b 0) (fun _ => 0) (fun _ => 0) (fun _ => 0) := by
    refine ⟨fun k j q => ?_, wr_eq _ _ _ _, ?_, ?_, rfl, fun s hs => absurd hs (by omega), fun i hi => absurd hi (by omega)⟩
    · rw [wr_off _ _ (by omega), wr_off _ _ (by omega), wr_off _ _ (by omega)]
    · rw [wr_off _ _ (by omega), wr_off _ _ (by omega), wr_eq]
      rfl
    · rw [wr_off _ _ (by omega), wr_eq]
      rfl
  have hR : RJ t sz J0 (wr (wr (wr (wr (wr J0 0 16 (nI (60 * t))) 0 17 0) 0 18 (nI sz)) 0 21 0) 0 23 0) 0 0 0 ((wr (wr (wr (wr (wr J0 0 16 (nI (60 * t))) 0 17 0) 0 18 (nI sz)) 0 21 0) 0 23 0) 0 19) (fun _ => 0) (fun _ => 0) (fun _ => 0) := by
    refine ⟨((((((mAg.rf J0).x _ (by unfold mX; omega)).x _ (by unfold mX; omega)).x _ (by unfold mX; omega)).x _ (by unfold mX; omega)).x _ (by unfold mX; omega)), ?_, ?_, ?_, ?_, wr_eq _ _ _ _, rfl, fun s hs => absurd hs (by omega), fun i hi => absurd hi (by omega)⟩
    · rw [wr_off _ _ (by omega), wr_off _ _ (by omega), wr_off _ _ (by omega), wr_off _ _ (by omega), wr_eq]
    · rw [wr_off _ _ (by omega), wr_off _ _ (by omega), wr_off _ _ (by omega), wr_eq]
      rfl
    · rw [wr_off _ _ (by omega), wr_off _ _ (by omega), wr_eq]
    · rw [wr_off _ _ (by omega), wr_eq]
      rfl
  generalize wr (wr (wr I b 1 0) b 2 0) b 7 0 = A at hA ⊢
  generalize wr (wr (wr (wr (wr J0 0 16 (nI (60 * t))) 0 17 0) 0 18 (nI sz)) 0 21 0) 0 23 0 = J at hR ⊢
  show PR b I J0 (CR b y sz (KC b sz) 0 A) ((X5_readsLimit J).bind fun q7 => (if q7.1 = (0 : Int32) then (some q7.2) else ((X5_skip q7.2).bind fun q10 => some q10)).bind fun q8 => X5_faultOf_L1 KM bigF q7.1 q8)
  rcases limit_both ht hs hy hI hJ hA hR with ⟨p, A', J', h1, h2, h3, h4, h5, h6⟩ | ⟨pos, l, A', J', h1, h2, h3⟩
  · refine ⟨A', J', h2, h3, Or.inl ⟨p, by omega, h5, ?_⟩⟩
    rw [h6, bind_s]
    dsimp only
    rw [if00, bind_s]
    show X5_faultOf_L1 KM (1999999 + 1) 0 J' = _
    rw [X5_faultOf_L1]
    rw [if_pos rfl]
    unfold KM
    rw [if00, h4]
  · obtain ⟨hA2, hR2, hS, hN, hl, hsp, hkk, hww, hpl⟩ := h1
    obtain ⟨p, p1, p2, p3, p4, p5⟩ := hR2.skip ht hpl hs hJ
    have cs := CR_skip (K := KC b sz) hs (fun i hi => (hA2.1 y i (by omega)).trans (hI i hi)) (Or.inr ⟨hA2.2.1, hA2.2.2.1, hA2.2.2.2.1, hS, hN⟩) (p - pos) pos (by omega) (fun i a c => p4 i a (by omega))
    rw [show pos + (p - pos) = p by omega] at cs
    rw [h2, cs, h3, bind_s]
    dsimp only
    rw [if10, p3, bind_s, bind_s]
    exact read_on ht hs hy hI hJ 60 bigF (by omega) (bigF_gt (by omega)) ⟨hA2, hR2.to p, hS, hN, hl, hsp, hkk, hww, p2⟩ p5
end TOW
