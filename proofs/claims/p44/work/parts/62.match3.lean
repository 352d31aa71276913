/-! AT ONCE: the class's table -/
theorem pr_fact0 : ∀ g, g < 64 → ∀ i, i < 6 → ∀ j, j < 6 → ((g &&& pr i j = 0 ∧ (g ||| pr i j) ^^^ pr i j = g ∧ (g ||| pr i j).testBit i = true ∧ (g ||| pr i j).testBit j = true ∧ g < (g ||| pr i j)) ∨ g &&& pr i j ≠ 0) := by decide +kernel
theorem pr_back0 : ∀ G, G < 64 → ∀ i, i < 6 → ∀ j, j < 6 → ((G.testBit i && G.testBit j) = false ∨ ((G ^^^ pr i j) &&& pr i j = 0 ∧ (G ^^^ pr i j) ||| pr i j = G)) := by decide +kernel
theorem pr_back {G i j : Nat} (hG : G < 64) (hi : i < 6) (hj : j < 6) (h1 : G.testBit i = true) (h2 : G.testBit j = true) : (G ^^^ pr i j) &&& pr i j = 0 ∧ (G ^^^ pr i j) ||| pr i j = G := by
  rcases pr_back0 G hG i hi j hj with w | w
  · rw [h1, h2] at w
    cases w
  · exact w
/-- what the class has when it has gone on from all groups below k, and from k by the pairs D -/
def BB (v : TV) (k : Nat) (D : Nat → Nat → Prop) (G S : Nat) : Prop := (G = 0 ∧ S = 0) ∨ ∃ i j c S', mStep v G i j c S' ∧ S = S' ||| c ∧ TK v (G ^^^ pr i j) S' ∧ (G ^^^ pr i j < k ∨ (G ^^^ pr i j = k ∧ D i j))
def tbC (v : TV) (A : xMem) (k : Nat) (D : Nat → Nat → Prop) : Prop := ∀ G, G < 64 → ∃ t, A 44 G = nI t ∧ t < 65536 ∧ ∀ S, t.testBit S = true ↔ BB v k D G S
theorem BB_self (v : TV) {k : Nat} (D : Nat → Nat → Prop) (S : Nat) : BB v k D k S ↔ TK v k S := by
  rw [TK_iff]
  constructor
  · rintro (h | ⟨i, j, c, S', h1, h2, h3, -⟩)
    · exact Or.inl h
    · exact Or.inr ⟨i, j, c, S', h1, h2, h3⟩
  · rintro (h | ⟨i, j, c, S', h1, h2, h3⟩)
    · exact Or.inl h
    · exact Or.inr ⟨i, j, c, S', h1, h2, h3, Or.inl (xp_less h1.2.2.1 h1.2.2.2.1)⟩
theorem BB_cg {v : TV} {k k' : Nat} {D D' : Nat → Nat → Prop} {G S : Nat} (h : ∀ i j c S', mStep v G i j c S' → TK v (G ^^^ pr i j) S' → ((G ^^^ pr i j < k ∨ (G ^^^ pr i j = k ∧ D i j)) ↔ (G ^^^ pr i j < k' ∨ (G ^^^ pr i j = k' ∧ D' i j)))) : BB v k D G S ↔ BB v k' D' G S := by
  constructor
  · rintro (h1 | ⟨i, j, c, S', h1, h2, h3, h4⟩)
    · exact Or.inl h1
    · exact Or.inr ⟨i, j, c, S', h1, h2, h3, (h i j c S' h1 h3).mp h4⟩
  · rintro (h1 | ⟨i, j, c, S', h1, h2, h3, h4⟩)
    · exact Or.inl h1
    · exact Or.inr ⟨i, j, c, S', h1, h2, h3, (h i j c S' h1 h3).mpr h4⟩
theorem tbC.cg {v : TV} {A : xMem} {k k' : Nat} {D D' : Nat → Nat → Prop} (t : tbC v A k D) (h : ∀ G, G < 64 → ∀ i j c S', mStep v G i j c S' → TK v (G ^^^ pr i j) S' → ((G ^^^ pr i j < k ∨ (G ^^^ pr i j = k ∧ D i j)) ↔ (G ^^^ pr i j < k' ∨ (G ^^^ pr i j = k' ∧ D' i j)))) : tbC v A k' D' := fun G hG => by
  obtain ⟨x, x1, x2, x3⟩ := t G hG
  exact ⟨x, x1, x2, fun S => (x3 S).trans (BB_cg (h G hG))⟩
/-- of the ways' cells the table alone changes -/
def jAg (I I' : xMem) : Prop := ∀ k j, k ≠ 44 → I' k j = I k j
theorem jAg.c {I I' : xMem} (h : jAg I I') : cAg I I' := fun k j q => h k j (by unfold cX at q; omega)
section MA3
variable {I : xMem} {P : Nat} {v : TV}
theorem wCl.j {I' : xMem} (h : wCl v I) (g : jAg I I') : wCl v I' := ⟨by rw [g _ _ (by omega)]; exact h.1, fun i j a b => by rw [g _ _ (by omega)]; exact h.2 i j a b⟩
theorem join_eq (hv : vOk v) (hw : wCl v I) {g : Nat} (hg : g < 2 ^ tn v) (hT : tbC v I g (fun _ _ => False)) : ∃ I', X3_join I (nI g) (nI (tt v)) (nI (tu v)) (nI (allS v)) = some I' ∧ jAg I I' ∧ tbC v I' (g + 1) (fun _ _ => False) := by
  have h6 := hv.1
  have h64 := p2n hv
  have h16 := p2s hv
  have htt := tt_lt hv
  have inner : ∀ (K : xMem → Option xMem) (i : Nat) (A : xMem), i < tn v → jAg I A → tbC v A g (fun a _ => a < i) → ∃ B, (jAg I B ∧ tbC v B g (fun a _ => a < i + 1)) ∧ X3_join_L2 (nI g) (nI (tt v)) (nI (tu v)) (nI (allS v)) (nI i) K bigF (nI (i + 1)) A = K B := by
    intro K i A hi hA hAT
    obtain ⟨B, hB, he⟩ := loop_I (fun fuel k (A : xMem) => X3_join_L2 (nI g) (nI (tt v)) (nI (tu v)) (nI (allS v)) (nI i) K fuel (nI k) A) K (tn v) (fun k A => i + 1 ≤ k ∧ jAg I A ∧ tbC v A g (fun a b => a < i ∨ (a = i ∧ b < k)))
      (fun fuel k A hk hI => by
        obtain ⟨g0, g1, g2⟩ := hI
        have hwA := hw.j g1
        show ∃ s', X3_join_L2 (nI g) (nI (tt v)) (nI (tu v)) (nI (allS v)) (nI i) K (fuel + 1) (nI k) A = _ ∧ _
        rw [X3_join_L2]
        rw [hwA.1, if_neg (by rw [nI_le_iff (by omega) (by omega)]; omega), pr_nI (by omega) (by omega), nI_and, nI_or]
        have hpr : pr i k < 64 := pr_lt (n := 6) (by omega) (by omega)
        have hand : g &&& pr i k < 2 ^ 31 := Nat.lt_of_le_of_lt Nat.and_le_left (by omega)
        -- nothing is added
        have skip : (¬ (g &&& pr i k = 0 ∧ tog (tt v) i k)) → tbC v A g (fun a b => a < i ∨ (a = i ∧ b < k + 1)) := fun w => g2.cg (fun G hG a b c S' m tk => by
          have e : G ^^^ pr a b = g → ¬ (a = i ∧ b = k) := fun q w2 => by
            obtain ⟨m1, m2, m3, m4, m5, -⟩ := m
            have := pr_back hG (by omega) (by omega) m3 m4
            rw [q, w2.1, w2.2] at this
            rw [w2.1, w2.2] at m5
            exact w ⟨this.1, m5⟩
          constructor
          · rintro (q | ⟨q, q2⟩)
            · exact Or.inl q
            · exact Or.inr ⟨q, by omega⟩
          · rintro (q | ⟨q, q2⟩)
            · exact Or.inl q
            · exact Or.inr ⟨q, by have := e q; omega⟩)
        by_cases c1 : g &&& pr i k = 0
        · rw [if_pos (show nI (g &&& pr i k) = 0 by rw [c1]; rfl), tog_c (by omega) (by omega) (by omega)]
          by_cases c2 : tog (tt v) i k
          · obtain ⟨-, p1, p2, p3, p4⟩ : g &&& pr i k = 0 ∧ (g ||| pr i k) ^^^ pr i k = g ∧ (g ||| pr i k).testBit i = true ∧ (g ||| pr i k).testBit k = true ∧ g < (g ||| pr i k) := by
              rcases pr_fact0 g (by omega) i (by omega) k (by omega) with w | w
              · exact w
              · exact absurd c1 w
            have hG : g ||| pr i k < 64 := Nat.or_lt_two_pow (n := 6) (by omega) hpr
            obtain ⟨t, t1, t2, t3⟩ := g2 g (by omega)
            obtain ⟨u, u1, u2, u3⟩ := g2 (g ||| pr i k) hG
            have ho := opN_lt v i k
            have hst := stW_lt hv i
            obtain ⟨r, r1, r2⟩ := joined_eq t2 ho (f := stW v i) (by omega)
            rw [if_pos c2, if10, rdI_nI (by omega) (by omega), bind_s, rdI_nI (by omega) (by omega), bind_s, i_6, nI_mul, nI_sum, rdI_nI (by omega) (by omega), bind_s, hwA.2 i k (by omega) hk, t1, u1, stonesAt_eq hv i hi, r1, bind_s, nI_or, wrI_nI (by omega) (by omega), bind_s, i_1, nI_sum]
            refine ⟨_, rfl, by omega, fun a b q => by rw [wr_off _ _ (by omega)]; exact g1 a b q, fun G hG2 => ?_⟩
            by_cases e : G = g ||| pr i k
            · subst e
              refine ⟨u ||| r, wr_eq _ _ _ _, Nat.or_lt_two_pow (n := 16) u2 r2.1, fun S => ?_⟩
              rw [Nat.testBit_or, Bool.or_eq_true, u3 S, r2.2 S]
              constructor
              · rintro (q | ⟨q, q1, ⟨q2, q3, q4⟩, q5⟩)
                · rcases q with q | ⟨a, b, c, S', m, m2, m3, m4⟩
                  · exact Or.inl q
                  · exact Or.inr ⟨a, b, c, S', m, m2, m3, by omega⟩
                · have tk : TK v g (q / 16) := (BB_self v _ _).mp ((t3 _).mp q2)
                  refine Or.inr ⟨i, k, q % 16, q / 16, ⟨by omega, hk, p2, p3, c2, (opN_bit v i k _).mp q3, q4⟩, q5.symm, by rw [p1]; exact tk, Or.inr ⟨p1, Or.inr ⟨rfl, by omega⟩⟩⟩
              · rintro (q | ⟨a, b, c, S', m, m2, m3, m4⟩)
                · exact Or.inl (Or.inl q)
                · by_cases w : a = i ∧ b = k
                  · rw [w.1, w.2] at m m3
                    right
                    rw [p1] at m3
                    obtain ⟨m5, m6, m7, m8, m9, m10, m11⟩ := m
                    have hS := TK_lt m3
                    have hc := opS_lt m10
                    refine ⟨16 * S' + c, by omega, ⟨?_, ?_, ?_⟩, ?_⟩
                    · rw [show (16 * S' + c) / 16 = S' by omega]
                      exact (t3 _).mpr ((BB_self v _ _).mpr m3)
                    · rw [show (16 * S' + c) % 16 = c by omega]
                      exact (opN_bit v i k c).mpr m10
                    · rw [show (16 * S' + c) / 16 = S' by omega, show (16 * S' + c) % 16 = c by omega]
                      exact m11
                    · rw [m2]
                      unfold fO
                      rw [show (16 * S' + c) / 16 = S' by omega, show (16 * S' + c) % 16 = c by omega]
                  · exact Or.inl (Or.inr ⟨a, b, c, S', m, m2, m3, by omega⟩)
            · obtain ⟨x, x1, x2, x3⟩ := g2 G hG2
              refine ⟨x, by rw [wr_off _ _ (by omega)]; exact x1, x2, fun S => (x3 S).trans (BB_cg fun a b c S' m tk => ?_)⟩
              have en : G ^^^ pr a b = g → ¬ (a = i ∧ b = k) := fun q w2 => by
                obtain ⟨m1, m2, m3, m4, m5, -⟩ := m
                have := pr_back hG2 (by omega) (by omega) m3 m4
                rw [q, w2.1, w2.2] at this
                exact e this.2.symm
              constructor
              · rintro (q | ⟨q, q2⟩)
                · exact Or.inl q
                · exact Or.inr ⟨q, by omega⟩
              · rintro (q | ⟨q, q2⟩)
                · exact Or.inl q
                · exact Or.inr ⟨q, by have := en q; omega⟩
          · rw [if_neg c2, if00, i_1, nI_sum]
            exact ⟨A, rfl, by omega, g1, skip (fun w => c2 w.2)⟩
        · rw [if_neg (show ¬ nI (g &&& pr i k) = 0 by rw [i_0, nI_eq_iff hand (by omega)]; exact c1), i_1, nI_sum]
          exact ⟨A, rfl, by omega, g1, skip (fun w => c1 w.1)⟩)
      (fun fuel A hI => by
        have hwA := hw.j hI.2.1
        show X3_join_L2 (nI g) (nI (tt v)) (nI (tu v)) (nI (allS v)) (nI i) K (fuel + 1) (nI (tn v)) A = _
        rw [X3_join_L2]
        rw [hwA.1, if_pos (Int32.le_refl _)])
      (tn v - (i + 1)) bigF (i + 1) A (by omega) (bigF_gt (by omega)) ⟨by omega, hA, hAT.cg (fun G hG a b c S' m tk => by
        have := m.1
        constructor
        · rintro (q | ⟨q, q2⟩)
          · exact Or.inl q
          · exact Or.inr ⟨q, Or.inl q2⟩
        · rintro (q | ⟨q, q2⟩)
          · exact Or.inl q
          · exact Or.inr ⟨q, by omega⟩)⟩
    refine ⟨B, ⟨hB.2.1, hB.2.2.cg (fun G hG a b c S' m tk => ?_)⟩, he⟩
    have := m.2.1
    constructor
    · rintro (q | ⟨q, q2⟩)
      · exact Or.inl q
      · exact Or.inr ⟨q, by omega⟩
    · rintro (q | ⟨q, q2⟩)
      · exact Or.inl q
      · exact Or.inr ⟨q, by omega⟩
  unfold X3_join
  obtain ⟨B, hB, he⟩ := loop_I (fun fuel k (A : xMem) => X3_join_L1 (nI g) (nI (tt v)) (nI (tu v)) (nI (allS v)) (fun I4 => some I4) fuel (nI k) A) (fun A => some A) (tn v) (fun k A => jAg I A ∧ tbC v A g (fun a _ => a < k))
    (fun fuel k A hk hI => by
      have hwA := hw.j hI.1
      obtain ⟨B, hB, hb⟩ := inner (fun I9 => X3_join_L1 (nI g) (nI (tt v)) (nI (tu v)) (nI (allS v)) (fun I4 => some I4) fuel (nI k + 1) I9) k A hk hI.1 hI.2
      refine ⟨B, ?_, hB⟩
      show X3_join_L1 (nI g) (nI (tt v)) (nI (tu v)) (nI (allS v)) _ (fuel + 1) (nI k) A = _
      rw [X3_join_L1]
      rw [hwA.1, if_neg (by rw [nI_le_iff (by omega) (by omega)]; omega)]
      rw [show nI k + 1 = nI (k + 1) from nI_1 k] at hb ⊢
      exact hb)
    (fun fuel A hI => by
      have hwA := hw.j hI.1
      show X3_join_L1 (nI g) (nI (tt v)) (nI (tu v)) (nI (allS v)) _ (fuel + 1) (nI (tn v)) A = _
      rw [X3_join_L1]
      rw [hwA.1, if_pos (Int32.le_refl _)])
    (tn v) bigF 0 I (by omega) (bigF_gt (by omega)) ⟨fun k j q => rfl, hT.cg (fun G hG a b c S' m tk => by
      constructor
      · rintro (q | ⟨q, q2⟩)
        · exact Or.inl q
        · exact absurd q2 (fun x => x)
      · rintro (q | ⟨q, q2⟩)
        · exact Or.inl q
        · exact absurd q2 (by omega))⟩
  refine ⟨B, he, hB.1, hB.2.cg (fun G hG a b c S' m tk => ?_)⟩
  have m1 := m.1
  have m2 := m.2.1
  constructor
  · rintro (q | ⟨q, q2⟩)
    · exact Or.inl (by omega)
    · exact Or.inl (by omega)
  · rintro (q | ⟨q, q2⟩)
    · by_cases e : G ^^^ pr a b = g
      · exact Or.inr ⟨e, by omega⟩
      · exact Or.inl (by omega)
    · exact absurd q2 (fun x => x)
/-- filling an array -/
theorem fillW (I : xMem) (y : Nat) {n : Nat} (hn : n < 100000) (x : Int32) : ∃ I', J7_fill_53178 I y n x = some I' ∧ (∀ k j, k ≠ y → I' k j = I k j) ∧ ∀ j, j < n → I' y j = x := by
  unfold J7_fill_53178
  obtain ⟨B, hB, he⟩ := loop_I (fun fuel k (A : xMem) => J7_fill_53178_L1 y n x (fun I4 => some I4) fuel (nI k) A) (fun A => some A) n (fun k A => (∀ a j, a ≠ y → A a j = I a j) ∧ ∀ j, j < k → A y j = x)
    (fun fuel k A hk hI => by
      refine ⟨wr A y k x, ?_, fun a j q => by rw [wr_off _ _ (by omega)]; exact hI.1 a j q, fun j q => ?_⟩
      · show J7_fill_53178_L1 y n x _ (fuel + 1) (nI k) A = _
        rw [J7_fill_53178_L1]
        rw [show Int32.ofNat n = nI n from rfl, if_neg (by rw [nI_le_iff (by omega) (by omega)]; omega), wrI_nI hk (by omega), bind_s, i_1, nI_sum]
      · by_cases e : j = k
        · subst e
          exact wr_eq _ _ _ _
        · rw [wr_off _ _ (by omega)]; exact hI.2 j (by omega))
    (fun fuel A hI => by
      show J7_fill_53178_L1 y n x _ (fuel + 1) (nI n) A = _
      rw [J7_fill_53178_L1]
      rw [show Int32.ofNat n = nI n from rfl, if_pos (Int32.le_refl _)])
    n bigF 0 I (by omega) (bigF_gt (by omega)) ⟨fun a j q => rfl, fun j q => absurd q (by omega)⟩
  exact ⟨B, he, hB⟩
theorem paired_eq (hv : vOk v) (hw : wCl v I) : ∃ s I', s < 64 ∧ s < 2 ^ tn v ∧ isMost (fun g => AO v g (allS v)) (2 ^ tn v) s ∧ jAg I I' ∧ X3_paired I (nI (tt v)) (nI (tu v)) (nI (allS v)) = some (nI s, I') := by
  have h6 := hv.1
  have h64 := p2n hv
  have hn1 : 0 < 2 ^ tn v := Nat.pos_of_ne_zero (by simp)
  unfold X3_paired
  obtain ⟨F, f1, f2, f3⟩ := fillW I 44 (n := 64) (by omega) 0
  rw [f1, bind_s, i_0, wrI_nI (by omega) (by omega), bind_s]
  have hT0 : tbC v (wr F 44 0 1) 0 (fun _ _ => False) := fun G hG => by
    refine ⟨if G = 0 then 1 else 0, ?_, by split <;> omega, fun S => ?_⟩
    · by_cases e : G = 0
      · rw [if_pos e, e, wr_eq]
        rfl
      · rw [if_neg e, wr_off _ _ (by omega), f3 G hG]
        rfl
    · have nob : BB v 0 (fun _ _ => False) G S ↔ (G = 0 ∧ S = 0) := by
        constructor
        · rintro (q | ⟨a, b, c, S', m, m2, m3, m4⟩)
          · exact q
          · rcases m4 with m4 | m4
            · omega
            · exact absurd m4.2 (fun x => x)
        · exact Or.inl
      rw [nob]
      by_cases e : G = 0
      · rw [if_pos e, show (1 : Nat) = 2 ^ 0 from rfl, Nat.testBit_two_pow, decide_eq_true_eq]
        omega
      · rw [if_neg e, Nat.zero_testBit]
        exact ⟨fun w => (nomatch w), fun w => absurd w.1 e⟩
  obtain ⟨⟨s, B⟩, ⟨k1, k2, k3⟩, he⟩ := loop_I (fun fuel k (z : Nat × xMem) => X3_paired_L1 (nI (tt v)) (nI (tu v)) (nI (allS v)) (fun (z4_5 : Int32) (I6 : xMem) => some (z4_5, I6)) fuel (nI z.1) (nI k) z.2) (fun z => some (nI z.1, z.2)) (2 ^ tn v) (fun k z => isMost (fun g => AO v g (allS v)) k z.1 ∧ jAg I z.2 ∧ tbC v z.2 k (fun _ _ => False))
    (fun fuel k z hk hI => by
      obtain ⟨s, A⟩ := z
      obtain ⟨g1, g2, g3⟩ := hI
      have g1 : isMost (fun g => AO v g (allS v)) k s := g1
      have g2 : jAg I A := g2
      have g3 : tbC v A k (fun _ _ => False) := g3
      have hwA := hw.j g2
      have hsk := g1.2.1
      have hpk := pc_le k
      have hps := pc_le s
      obtain ⟨t, t1, t2, t3⟩ := g3 k (by omega)
      have q1 : ¬ nI (2 ^ tn v) ≤ nI k := by rw [nI_le_iff (by omega) (by omega)]; omega
      by_cases c : t = 0
      · refine ⟨(s, A), ?_, isMost_no g1 (fun w => ?_), g2, g3.cg (fun G hG a b cc S' m tk => ?_)⟩
        · show X3_paired_L1 (nI (tt v)) (nI (tu v)) (nI (allS v)) _ (fuel + 1) (nI s) (nI k) A = _
          rw [X3_paired_L1]
          rw [hwA.1, i_1, nI_pow (by omega), if_neg q1, rdI_nI (by omega) (by omega), bind_s, t1, if_pos (show nI t = 0 by rw [c]; rfl), nI_sum]
        · obtain ⟨S, w⟩ := (AO_all k).mp w
          have := (t3 S).mpr ((BB_self v _ _).mpr w)
          rw [c, Nat.zero_testBit] at this
          cases this
        · have no : G ^^^ pr a b ≠ k := fun w => by
            rw [w] at tk
            have := (t3 S').mpr ((BB_self v _ _).mpr tk)
            rw [c, Nat.zero_testBit] at this
            cases this
          constructor
          · rintro (q | ⟨q, q2⟩)
            · exact Or.inl (by omega)
            · exact absurd q2 (fun x => x)
          · rintro (q | ⟨q, q2⟩)
            · exact Or.inl (by omega)
            · exact absurd q2 (fun x => x)
      · obtain ⟨B, b1, b2, b3⟩ := join_eq hv hwA hk g3
        have hC : AO v k (allS v) := by
          rw [AO_all]
          obtain ⟨S, hS⟩ : ∃ S, t.testBit S = true := Nat.exists_testBit_of_ne_zero c
          exact ⟨S, (BB_self v _ _).mp ((t3 S).mp hS)⟩
        refine ⟨(if pc k ≤ pc s then s else k, B), ?_, isMost_yes g1 hC, fun a j q => (b2 a j q).trans (g2 a j q), b3⟩
        show X3_paired_L1 (nI (tt v)) (nI (tu v)) (nI (allS v)) _ (fuel + 1) (nI s) (nI k) A = X3_paired_L1 (nI (tt v)) (nI (tu v)) (nI (allS v)) _ fuel (nI (if pc k ≤ pc s then s else k)) (nI (k + 1)) B
        rw [X3_paired_L1]
        rw [hwA.1, i_1, nI_pow (by omega), if_neg q1, rdI_nI (by omega) (by omega), bind_s, t1, if_neg (show ¬ nI t = 0 by rw [i_0, nI_eq_iff (by omega) (by omega)]; exact c), b1, bind_s, bc_pc k (by omega), bc_pc s (by omega), nI_sum]
        by_cases c2 : pc k ≤ pc s
        · rw [if_pos (by rw [nI_le_iff (by omega) (by omega)]; exact c2), if_pos c2]
        · rw [if_neg (by rw [nI_le_iff (by omega) (by omega)]; exact c2), if_neg c2])
    (fun fuel z hI => by
      obtain ⟨s, A⟩ := z
      have hwA : wCl v A := hw.j hI.2.1
      show X3_paired_L1 (nI (tt v)) (nI (tu v)) (nI (allS v)) _ (fuel + 1) (nI s) (nI (2 ^ tn v)) A = _
      rw [X3_paired_L1]
      rw [hwA.1, i_1, nI_pow (by omega), if_pos (Int32.le_refl _)])
    (2 ^ tn v) bigF 0 (0, wr F 44 0 1) (by omega) (bigF_gt (by omega)) ⟨isMost_0 (AO_0 v _), fun k j q => (wr_off F 1 (show k ≠ 44 ∨ j ≠ 0 by omega)).trans (f2 k j q), hT0⟩
  have k1 : isMost (fun g => AO v g (allS v)) (2 ^ tn v) s := k1
  have hs : s < 2 ^ tn v := by
    rcases Nat.lt_or_ge s (2 ^ tn v) with w | w
    · exact w
    · exact isMost_lt hv k1
  exact ⟨s, B, by omega, hs, k1, k2, he⟩
end MA3
section OPM
variable {I J : xMem} {L M : xLon} {P Dr : Nat}
end OPM
