/-! A TEXT IN STEP -/
section TXS
variable {I A : xMem} {b y sz pos S N : Nat} {lim : Int32} {sp kk ww : Nat → Nat} {ch : Nat → Int32}
theorem takes_2 (h : A b 7 = nI 2) (h1 : A b 1 = nI S) (h2 : A b 2 = nI N) (hS : S ≤ 4) (hN : N ≤ 6) (c : Int32) : X1_takes b A c = if c = 32 then some (1, A) else if c = 111 then (if N = 0 ∧ S < 4 then some (1, wr A b 7 3) else some (0, wr A b 7 3)) else if X1_kindOf c = -9 then some (0, A) else if N < 6 then some (1, wr (wr A (b + 3) N (X1_kindOf c)) b 7 4) else some (0, A) := by
  have e0 : ¬ A b 7 = 0 := w_ne h (by omega) (v := 0) (by omega) (by omega)
  have e1 : ¬ A b 7 = 1 := w_ne h (by omega) (v := 1) (by omega) (by omega)
  have e2 : A b 7 = 2 := h
  have go : ∀ q : Option Int32, (q = some 0 ∨ q = some 1) → (∀ g : Int32 → Option (Int32 × xMem), (∀ z, g z = (if c = (32 : Int32) then (some ((nz (1 : Int32)), A)) else ((X1_takesLetter b A c).bind fun q12 => if q12.1 = (0 : Int32) then (some ((nz (0 : Int32)), q12.2)) else (some ((nz (1 : Int32)), q12.2))))) → q.bind g = (if c = (32 : Int32) then (some ((nz (1 : Int32)), A)) else ((X1_takesLetter b A c).bind fun q12 => if q12.1 = (0 : Int32) then (some ((nz (0 : Int32)), q12.2)) else (some ((nz (1 : Int32)), q12.2))))) := fun q hq g hg => by
    rcases hq with rfl | rfl
    · rw [bind_s, hg]
    · rw [bind_s, hg]
  unfold X1_takes
  refine (go _ ?_ _ (fun z => ?_)).trans ?_
  · rcases fig_or c with ⟨f, hf, rfl⟩ | q
    · exact Or.inr (fig_q hf)
    · exact Or.inl (nofig_q q)
  · rw [if_neg e0, if_neg e1, if_pos e2]
  · by_cases c1 : c = 32
    · rw [if_pos c1, if_pos c1]
      rfl
    · rw [if_neg c1, if_neg c1]
      unfold X1_takesLetter
      by_cases c2 : c = 111
      · rw [if_pos c2, if_pos c2, bind_s, wr_off (k := b) A 3 (show b ≠ b ∨ 2 ≠ 7 by omega), wr_off (k := b) A 3 (show b ≠ b ∨ 1 ≠ 7 by omega), h1, h2]
        by_cases c3 : N = 0
        · rw [if_pos (by rw [c3]; rfl)]
          by_cases c4 : S < 4
          · rw [if_neg (by rw [i_4, nI_le_iff (by omega) (by omega)]; omega), if_pos ⟨c3, c4⟩]
            rfl
          · rw [if_pos (by rw [i_4, nI_le_iff (by omega) (by omega)]; omega), if_neg (fun w => c4 w.2)]
            rfl
        · rw [if_neg (by rw [i_0, nI_eq_iff (by omega) (by omega)]; exact c3), if_neg (fun w => c3 w.1)]
          rfl
      · rw [if_neg c2, if_neg c2]
        by_cases c3 : X1_kindOf c = -9
        · rw [if_pos c3, if_pos c3]
          rfl
        · rw [if_neg c3, if_neg c3, h2]
          by_cases c4 : N < 6
          · rw [if_pos (by rw [i_6, nI_lt_iff (by omega) (by omega)]; omega), if_pos c4, wrI_nI c4 (by omega)]
            rfl
          · rw [if_neg (by rw [i_6, nI_lt_iff (by omega) (by omega)]; omega), if_neg c4]
            rfl
theorem CR_skip {K : xMem → Option (Int32 × xMem)} (hs : sz ≤ 60) (hch : ∀ i, i < 60 → A y i = ch i) (hw : A b 7 = nI 0 ∨ (A b 7 = nI 2 ∧ A b 1 = nI S ∧ A b 2 = nI N ∧ S ≤ 4 ∧ N ≤ 6)) : ∀ (m pos : Nat), pos + m ≤ sz → (∀ i, pos ≤ i → i < pos + m → ch i = 32) → CR b y sz K pos A = CR b y sz K (pos + m) A
  | 0, pos, _, _ => rfl
  | m + 1, pos, h1, h2 => by
    have hc := h2 pos (Nat.le_refl _) (by omega)
    have ht : X1_takes b A 32 = some (1, A) := by
      rcases hw with w | ⟨w1, w2, w3, w4, w5⟩
      · rw [takes_0 w, if_neg (by decide), if_pos rfl]
      · rw [takes_2 w1 w2 w3 w4 w5, if_pos rfl]
    rw [CR_step hs (by omega), hch pos (by omega), hc, ht, bind_s]
    dsimp only
    rw [if10, CR_skip hs hch hw m (pos + 1) (by omega) (fun i a c => h2 i (by omega) (by omega)), show pos + 1 + m = pos + (m + 1) by omega]

theorem dAg.put7 (h : dAg b I A) (x : Int32) : dAg b I (wr A b 7 x) := h.put (by omega)
theorem dAg.at {j : Nat} (h : dAg b I A) (hy : y < b) : A y j = I y j := h y j (Or.inl hy)
/-- a stone -/
theorem st_stone {K : xMem → Option (Int32 × xMem)} (h : RA b I A 2 S 0 lim sp kk ww) (hS : S < 4) (hy : y < b) (hs : sz ≤ 60) (hp : pos + 1 < sz) (hI : ∀ i, i < 60 → I y i = ch i) (h1 : 1 ≤ sp S) (h9 : sp S ≤ 9) (c1 : ch pos = 111) (c2 : ch (pos + 1) = nI (48 + sp S)) : ∃ A', CR b y sz K pos A = CR b y sz K (pos + 2) A' ∧ RA b I A' 2 (S + 1) 0 lim sp kk ww := by
  obtain ⟨a1, a2, a3, a4, a5, a6, a7⟩ := h
  have e7 : wr A b 7 3 b 7 = nI 3 := wr_eq _ _ _ _
  have e1 : wr A b 7 3 b 1 = nI S := by rw [wr_off _ _ (by omega)]; exact a3
  refine ⟨wr (wr (wr (wr A b 7 3) (b + 1) S (nI (sp S))) b 1 (nI (S + 1))) b 7 2, ?_, ?_⟩
  · rw [CR_step hs (by omega), a1.at hy, hI pos (by omega), c1, takes_2 a2 a3 a4 (by omega) (by omega), if_neg (by decide), if_pos rfl, if_pos ⟨rfl, hS⟩, bind_s]
    dsimp only
    rw [if10, CR_step hs hp, wr_off _ _ (by omega), a1.at hy, hI _ (by omega), c2, (takes_3 e7 e1 hS).1 (sp S) h1 h9 rfl, bind_s]
    dsimp only
    rw [if10]
  · refine ⟨(((a1.put7 3).put (by omega)).put (by omega)).put7 2, wr_eq _ _ _ _, ?_, ?_, ?_, fun s hs2 => ?_, fun i hi => absurd hi (by omega)⟩
    · rw [wr_off _ _ (by omega), wr_eq]
    · rw [wr_off _ _ (by omega), wr_off _ _ (by omega), wr_off _ _ (by omega), wr_off _ _ (by omega)]
      exact a4
    · rw [wr_off _ _ (by omega), wr_off _ _ (by omega), wr_off _ _ (by omega), wr_off _ _ (by omega)]
      exact a5
    · by_cases e : s = S
      · subst e
        rw [wr_off _ _ (by omega), wr_off _ _ (by omega), wr_eq]
      · rw [wr_off _ _ (by omega), wr_off _ _ (by omega), wr_off _ _ (by omega), wr_off _ _ (by omega)]
        exact a6 s (by omega)
theorem letter_ok : ∀ k, k < 6 → X1_kindOf (L_letter (nI k)) = nI k ∧ L_letter (nI k) ≠ 32 ∧ L_letter (nI k) ≠ 111 := by decide +kernel
/-- one of PEOPLE -/
theorem st_one {K : xMem → Option (Int32 × xMem)} (h : RA b I A 2 S N lim sp kk ww) (hS : S ≤ 4) (hN : N < 6) (hy : y < b) (hs : sz ≤ 60) (hp : pos + 2 < sz) (hI : ∀ i, i < 60 → I y i = ch i) (hk : kk N < 6) (h1 : 1 ≤ ww N) (h9 : ww N ≤ 99) (c1 : ch pos = L_letter (nI (kk N))) (c2 : ch (pos + 1) = nI (48 + ww N / 10)) (c3 : ch (pos + 2) = nI (48 + ww N % 10)) : ∃ A', CR b y sz K pos A = CR b y sz K (pos + 3) A' ∧ RA b I A' 2 S (N + 1) lim sp kk ww := by
  obtain ⟨a1, a2, a3, a4, a5, a6, a7⟩ := h
  obtain ⟨l1, l2, l3⟩ := letter_ok (kk N) hk
  have e1 : wr (wr A (b + 3) N (nI (kk N))) b 7 4 b 7 = nI 4 := wr_eq _ _ _ _
  have e5 : wr (wr (wr (wr A (b + 3) N (nI (kk N))) b 7 4) b 8 (nI (ww N / 10))) b 7 5 b 7 = nI 5 := wr_eq _ _ _ _
  have e8 : wr (wr (wr (wr A (b + 3) N (nI (kk N))) b 7 4) b 8 (nI (ww N / 10))) b 7 5 b 8 = nI (ww N / 10) := by
    rw [wr_off _ _ (by omega), wr_eq]
  have e2 : wr (wr (wr (wr A (b + 3) N (nI (kk N))) b 7 4) b 8 (nI (ww N / 10))) b 7 5 b 2 = nI N := by
    rw [wr_off _ _ (by omega), wr_off _ _ (by omega), wr_off _ _ (by omega), wr_off _ _ (by omega)]
    exact a4
  have ew : 10 * (ww N / 10) + ww N % 10 = ww N := by omega
  refine ⟨wr (wr (wr (wr (wr (wr (wr A (b + 3) N (nI (kk N))) b 7 4) b 8 (nI (ww N / 10))) b 7 5) (b + 4) N (nI (ww N))) b 2 (nI (N + 1))) b 7 2, ?_, ?_⟩
  · rw [CR_step hs (by omega), a1.at hy, hI pos (by omega), c1, takes_2 a2 a3 a4 hS (by omega), if_neg l2, if_neg l3, l1, if_neg (nI_m9 (by omega)), if_pos hN, bind_s]
    dsimp only
    rw [if10, CR_step hs (by omega), wr_off _ _ (by omega), wr_off _ _ (by omega), a1.at hy, hI _ (by omega), c2, (takes_4 e1).1 (ww N / 10) (by omega) rfl, bind_s]
    dsimp only
    rw [if10, show pos + 1 + 1 = pos + 2 by omega, CR_step hs hp, wr_off _ _ (by omega), wr_off _ _ (by omega), wr_off _ _ (by omega), wr_off _ _ (by omega), a1.at hy, hI _ (by omega), c3, (takes_5 e5 (show ww N / 10 ≤ 9 by omega) e8 e2 hN).1 (ww N % 10) (by omega) (by omega) rfl, bind_s]
    dsimp only
    rw [if10, ew]
  · refine ⟨((((((a1.put (by omega)).put7 4).put (by omega)).put7 5).put (by omega)).put (by omega)).put7 2, wr_eq _ _ _ _, ?_, ?_, ?_, fun s hs2 => ?_, fun i hi => ?_⟩
    · rw [wr_off _ _ (by omega), wr_off _ _ (by omega), wr_off _ _ (by omega), wr_off _ _ (by omega), wr_off _ _ (by omega), wr_off _ _ (by omega), wr_off _ _ (by omega)]
      exact a3
    · rw [wr_off _ _ (by omega), wr_eq]
    · rw [wr_off _ _ (by omega), wr_off _ _ (by omega), wr_off _ _ (by omega), wr_off _ _ (by omega), wr_off _ _ (by omega), wr_off _ _ (by omega), wr_off _ _ (by omega)]
      exact a5
    · rw [wr_off _ _ (by omega), wr_off _ _ (by omega), wr_off _ _ (by omega), wr_off _ _ (by omega), wr_off _ _ (by omega), wr_off _ _ (by omega), wr_off _ _ (by omega)]
      exact a6 s hs2
    · by_cases e : i = N
      · subst e
        refine ⟨?_, ?_⟩
        · rw [wr_off _ _ (by omega), wr_off _ _ (by omega), wr_off _ _ (by omega), wr_off _ _ (by omega), wr_off _ _ (by omega), wr_off _ _ (by omega), wr_eq]
        · rw [wr_off _ _ (by omega), wr_off _ _ (by omega), wr_eq]
      · refine ⟨?_, ?_⟩
        · rw [wr_off _ _ (by omega), wr_off _ _ (by omega), wr_off _ _ (by omega), wr_off _ _ (by omega), wr_off _ _ (by omega), wr_off _ _ (by omega), wr_off _ _ (by omega)]
          exact (a7 i (by omega)).1
        · rw [wr_off _ _ (by omega), wr_off _ _ (by omega), wr_off _ _ (by omega), wr_off _ _ (by omega), wr_off _ _ (by omega), wr_off _ _ (by omega), wr_off _ _ (by omega)]
          exact (a7 i (by omega)).2
/-- the law's text of a tower -/
def TX (C : Nat → Int32) (v : TV) : Prop := (C 0 = 120 ∧ C 1 = nI (48 + tl v) ∧ C 2 = 32) ∧ (∀ k, k < ts v → C (3 + 2 * k) = 111 ∧ C (4 + 2 * k) = nI (48 + tp v k)) ∧ (∀ p, 3 + 2 * ts v ≤ p → p < 12 → C p = 32) ∧ (∀ i, i < tn v → C (12 + 4 * i) = L_letter (nI (tk v i)) ∧ C (13 + 4 * i) = nI (48 + tw v i / 10) ∧ C (14 + 4 * i) = nI (48 + tw v i % 10) ∧ C (15 + 4 * i) = 32) ∧ ∀ p, 12 + 4 * tn v ≤ p → p < 40 → C p = 32
/-- numbers as the law has them -/
def vLaw (v : TV) : Prop := vNum v ∧ (∀ k, k < ts v → 1 ≤ tp v k) ∧ ∀ i, i < tn v → 1 ≤ tw v i
theorem tx_read {v : TV} (hv : vLaw v) (hT : TX (I y) v) (hy : y < b) : ∃ B, X1_read b I y 60 (nI 40) = some (-9, B) ∧ dAg b I B ∧ rdC b B v := by
  obtain ⟨⟨v1, v2, v3, v4, v5, v6, v7⟩, p1, p2⟩ := hv
  obtain ⟨⟨t0, t1, t2⟩, tS, tB, tP, tE⟩ := hT
  have hch : ∀ i, i < 60 → I y i = I y i := fun i _ => rfl
  -- x, the limit
  have a0 : dAg b I (wr (wr (wr I b 1 0) b 2 0) b 7 0) := (((show dAg b I I from fun _ _ _ => rfl).put (by omega)).put (by omega)).put7 0
  have e7 : wr (wr (wr I b 1 0) b 2 0) b 7 0 b 7 = nI 0 := wr_eq _ _ _ _
  have z1 : wr (wr (wr I b 1 0) b 2 0) b 7 0 b 1 = nI 0 := by
    rw [wr_off _ _ (by omega), wr_off _ _ (by omega), wr_eq]
    rfl
  have z2 : wr (wr (wr I b 1 0) b 2 0) b 7 0 b 2 = nI 0 := by
    rw [wr_off _ _ (by omega), wr_eq]
    rfl
  unfold X1_read
  rw [bind_s, bind_s, bind_s]
  generalize wr (wr (wr I b 1 0) b 2 0) b 7 0 = Z at a0 e7 z1 z2 ⊢
  show ∃ B, CR b y 40 (KC b 40) 0 Z = some (-9, B) ∧ _ ∧ _
  have e71 : wr Z b 7 1 b 7 = nI 1 := wr_eq _ _ _ _
  rw [CR_step (by omega) (by omega), a0.at hy, t0, takes_0 e7, if_pos rfl, bind_s]
  dsimp only
  rw [if10, CR_step (by omega) (by omega), wr_off _ _ (by omega), a0.at hy, show (0 : Nat) + 1 = 1 from rfl, t1, (takes_1 e71).1 (tl v) v3 rfl, bind_s]
  dsimp only
  rw [if10, show (1 : Nat) + 1 = 2 from rfl]
  have hA : RA b I (wr (wr (wr Z b 7 1) b 0 (nI (tl v))) b 7 2) 2 0 0 (nI (tl v)) (tp v) (tk v) (tw v) := by
    refine ⟨((a0.put7 1).put (by omega)).put7 2, wr_eq _ _ _ _, ?_, ?_, ?_, fun s hs => absurd hs (by omega), fun i hi => absurd hi (by omega)⟩
    · rw [wr_off _ _ (by omega), wr_off _ _ (by omega), wr_off _ _ (by omega)]
      exact z1
    · rw [wr_off _ _ (by omega), wr_off _ _ (by omega), wr_off _ _ (by omega)]
      exact z2
    · rw [wr_off _ _ (by omega), wr_eq]
  generalize wr (wr (wr Z b 7 1) b 0 (nI (tl v))) b 7 2 = A0 at hA ⊢
  have skip : ∀ (A : xMem) (S N pos m : Nat), RA b I A 2 S N (nI (tl v)) (tp v) (tk v) (tw v) → S ≤ 4 → N ≤ 6 → pos + m ≤ 40 → (∀ i, pos ≤ i → i < pos + m → I y i = 32) → CR b y 40 (KC b 40) pos A = CR b y 40 (KC b 40) (pos + m) A := fun A S N pos m h hS hN h1 h2 => by
    refine CR_skip (ch := I y) (S := S) (N := N) (by omega) (fun i _ => h.1.at hy) (Or.inr ⟨h.2.1, h.2.2.1, h.2.2.2.1, hS, hN⟩) m pos h1 h2
  rw [skip A0 0 0 2 1 hA (by omega) (by omega) (by omega) (fun i h1 h2 => by rw [show i = 2 by omega]; exact t2), show (2 : Nat) + 1 = 3 from rfl]
  -- stones
  have stones : ∀ m k (A : xMem), k + m = ts v → RA b I A 2 k 0 (nI (tl v)) (tp v) (tk v) (tw v) → ∃ A', CR b y 40 (KC b 40) (3 + 2 * k) A = CR b y 40 (KC b 40) (3 + 2 * ts v) A' ∧ RA b I A' 2 (ts v) 0 (nI (tl v)) (tp v) (tk v) (tw v) := by
    intro m
    induction m with
    | zero =>
      intro k A hk h
      have e : k = ts v := by omega
      subst e
      exact ⟨A, rfl, h⟩
    | succ m ih =>
      intro k A hk h
      obtain ⟨c1, c2⟩ := tS k (by omega)
      obtain ⟨A', q1, q2⟩ := st_stone (K := KC b 40) (sz := 40) (pos := 3 + 2 * k) h (by omega) hy (by omega) (by omega) hch (p1 k (by omega)) (v6 k) c1 (by rw [show 3 + 2 * k + 1 = 4 + 2 * k by omega]; exact c2)
      obtain ⟨A2, w1, w2⟩ := ih (k + 1) A' (by omega) q2
      refine ⟨A2, ?_, w2⟩
      rw [q1, show 3 + 2 * k + 2 = 3 + 2 * (k + 1) by omega]
      exact w1
  obtain ⟨A1, s1, s2⟩ := stones (ts v) 0 A0 (by omega) hA
  have s1 : CR b y 40 (KC b 40) 3 A0 = CR b y 40 (KC b 40) (3 + 2 * ts v) A1 := s1
  rw [s1, skip A1 (ts v) 0 (3 + 2 * ts v) (12 - (3 + 2 * ts v)) s2 v2 (by omega) (by omega) (fun i h1 h2 => tB i h1 (by omega)), show 3 + 2 * ts v + (12 - (3 + 2 * ts v)) = 12 by omega]
  -- people
  have ones : ∀ m k (A : xMem), k + m = tn v → RA b I A 2 (ts v) k (nI (tl v)) (tp v) (tk v) (tw v) → ∃ A', CR b y 40 (KC b 40) (12 + 4 * k) A = CR b y 40 (KC b 40) (12 + 4 * tn v) A' ∧ RA b I A' 2 (ts v) (tn v) (nI (tl v)) (tp v) (tk v) (tw v) := by
    intro m
    induction m with
    | zero =>
      intro k A hk h
      have e : k = tn v := by omega
      subst e
      exact ⟨A, rfl, h⟩
    | succ m ih =>
      intro k A hk h
      obtain ⟨c1, c2, c3, c4⟩ := tP k (by omega)
      obtain ⟨A', q1, q2⟩ := st_one (K := KC b 40) (sz := 40) (pos := 12 + 4 * k) h v2 (by omega) hy (by omega) (by omega) hch (v4 k) (p2 k (by omega)) (v5 k) c1 (by rw [show 12 + 4 * k + 1 = 13 + 4 * k by omega]; exact c2) (by rw [show 12 + 4 * k + 2 = 14 + 4 * k by omega]; exact c3)
      obtain ⟨A2, w1, w2⟩ := ih (k + 1) A' (by omega) q2
      refine ⟨A2, ?_, w2⟩
      rw [q1, skip A' (ts v) (k + 1) (12 + 4 * k + 3) 1 q2 v2 (by omega) (by omega) (fun i h1 h2 => by rw [show i = 15 + 4 * k by omega]; exact c4), show 12 + 4 * k + 3 + 1 = 12 + 4 * (k + 1) by omega]
      exact w1
  obtain ⟨A2, w1, w2⟩ := ones (tn v) 0 A1 (by omega) s2
  have w1 : CR b y 40 (KC b 40) 12 A1 = CR b y 40 (KC b 40) (12 + 4 * tn v) A2 := w1
  rw [w1, skip A2 (ts v) (tn v) (12 + 4 * tn v) (40 - (12 + 4 * tn v)) w2 v2 v1 (by omega) (fun i h1 h2 => tE i h1 (by omega)), show 12 + 4 * tn v + (40 - (12 + 4 * tn v)) = 40 by omega, CR_end (by omega)]
  obtain ⟨r1, r2, r3, r4, r5, r6, r7⟩ := w2
  obtain ⟨B, b1, b2, b3⟩ := weigh_eq r1 r3 v2 r6 v6
  refine ⟨B, ?_, fun k j hk => ?_, ⟨?_, ?_, ?_⟩, fun i hi => ?_, fun s hs => ?_, fun a ha => ?_⟩
  · unfold KC
    rw [if_pos (show A2 b 7 = 2 from r2), r4, if_pos (by rw [show (2 : Int32) = nI 2 from rfl, nI_le_iff (by omega) (by omega)]; omega), b1, bind_s]
  · rw [b2 _ _ (by omega)]
    exact r1 k j hk
  · rw [b2 _ _ (by omega)]; exact r5
  · rw [b2 _ _ (by omega)]; exact r3
  · rw [b2 _ _ (by omega)]; exact r4
  · rw [b2 _ _ (by omega), b2 _ _ (by omega)]; exact r7 i hi
  · rw [b2 _ _ (by omega)]; exact r6 s hs
  · exact b3 a ha
end TXS
