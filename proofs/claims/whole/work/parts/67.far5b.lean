/-! FEWEST GOES: the model's calls -/
theorem st_fin {v : TV} {s0 : BS} : ∀ (m : Nat) {k : Nat}, k + m = 1024 → gr (st v s0 k) (fin v s0)
  | 0, k, h => by
    rw [show k = 1024 by omega]
    exact gr.rf _
  | m + 1, k, h => (st_gr v s0 k).tr (st_fin m (k := k + 1) (by omega))
/-- who is elsewhere somewhere on the line -/
def mvN (v : TV) (s : BS) (m : Nat) : Nat := foldF (fun k a => a ||| ((bl s k / 16) ^^^ tt v)) 0 m 0
theorem mvN_succ (v : TV) (s : BS) (m : Nat) : mvN v s (m + 1) = mvN v s m ||| ((bl s m / 16) ^^^ tt v) := by
  unfold mvN
  rw [foldF_succ, Nat.zero_add]
section FA2
variable {J : xMem} {v : TV}
theorem RX.of {src : Nat → Prop} {k : Nat} {A : xMem} {s : BS} (h1 : RM A s) (h3 : LD v A) (h4 : BI v src s k (fun _ _ => False)) (hk : k < be s) : RX v src k (bl s k) A A s := ⟨h1, mAg.rf A, h3, ⟨_, h4⟩, hk, rfl⟩
theorem run5 (hv : vOk v) {src : Nat → Prop} {s0 : BS} (h0 : BA v src s0 0 (fun _ _ => False) 0) (hR : RM J s0) (hL : LD v J) (K : xMem → Option xMem) : ∃ B, RM B (fin v s0) ∧ mAg J B ∧ LD v B ∧ X5_layFar_L2 K bigF (nI 0) J = K B := by
  refine loop_T (fun fuel k (A : xMem) => X5_layFar_L2 K fuel (nI k) A) (fun o => ∃ B, RM B (fin v s0) ∧ mAg J B ∧ LD v B ∧ o = K B) 1024 (fun k A => k ≤ be (st v s0 k) ∧ RM A (st v s0 k) ∧ mAg J A ∧ LD v A)
    (fun fuel k A hk hI => ?_) (fun fuel A hI => ?_) 1024 bigF 0 J (by omega) (bigF_gt (by omega)) ⟨Nat.zero_le _, hR, mAg.rf J, hL⟩
  · obtain ⟨g1, g2, g3, g4⟩ := hI
    have hB := (st_BA hv h0 k g1).1
    have hel := hB.e_le
    show (∃ B, _ ∧ _ ∧ _ ∧ X5_layFar_L2 K (fuel + 1) (nI k) A = K B) ∨ ∃ s', X5_layFar_L2 K (fuel + 1) (nI k) A = _ ∧ _
    rw [X5_layFar_L2]
    by_cases c : k < be (st v s0 k)
    · right
      obtain ⟨B, b1, b2, b3, b4, b5, b6, b7⟩ := goOn_eq hv (RX.of g2 g4 hB c)
      refine ⟨B, ?_, ?_, by rw [st_lt c]; exact b2, g3.tr b3, b4⟩
      · rw [g2.2.2, if_neg (by rw [nI_le_iff (by omega) (by omega)]; omega), rdI_nI (by omega) (by omega), bind_s, g2.2.1 k c, b1, bind_s, i_1, nI_sum]
      · have := (st_gr v s0 k).1
        omega
    · left
      rw [g2.2.2, if_pos (by rw [nI_le_iff (by omega) (by omega)]; omega)]
      have e := st_stay (v := v) (s0 := s0) (E := k) (by omega) (1024 - k)
      rw [show k + (1024 - k) = 1024 by omega] at e
      refine ⟨A, ?_, g3, g4, rfl⟩
      show RM A (st v s0 1024)
      rw [e]
      exact g2
  · obtain ⟨g1, g2, g3, g4⟩ := hI
    have hel := (st_BA hv h0 1024 g1).1.e_le
    show ∃ B, _ ∧ _ ∧ _ ∧ X5_layFar_L2 K (fuel + 1) (nI 1024) A = K B
    rw [X5_layFar_L2]
    rw [g2.2.2, if_pos (by rw [nI_le_iff (by omega) (by omega)]; omega)]
    exact ⟨A, g2, g3, g4, rfl⟩
theorem runE (hv : vOk v) (hM : VM J v) {src : Nat → Prop} {s0 : BS} (h0 : BA v src s0 0 (fun _ _ => False) 0) (hR : RM J s0) (hL : LD v J) (K : Int32 → xMem → Option (Int32 × xMem)) : ∃ B, mAg J B ∧ X5_ever_L2 K bigF (nI 0) (nI 0) J = K (nI (mvN v (fin v s0) (be (fin v s0)))) B := by
  refine loop_T (fun fuel k (z : Nat × xMem) => X5_ever_L2 K fuel (nI z.1) (nI k) z.2) (fun o => ∃ B, mAg J B ∧ o = K (nI (mvN v (fin v s0) (be (fin v s0)))) B) 1024 (fun k z => z.1 = mvN v (fin v s0) k ∧ k ≤ be (st v s0 k) ∧ RM z.2 (st v s0 k) ∧ mAg J z.2 ∧ LD v z.2)
    (fun fuel k z hk hI => ?_) (fun fuel z hI => ?_) 1024 bigF 0 (0, J) (by omega) (bigF_gt (by omega)) ⟨rfl, Nat.zero_le _, hR, mAg.rf J, hL⟩
  · obtain ⟨a, A⟩ := z
    obtain ⟨ga, g1, g2, g3, g4⟩ := hI
    have ga : a = _ := ga
    have g2 : RM A (st v s0 k) := g2
    have g3 : mAg J A := g3
    have g4 : LD v A := g4
    have hA := hM.mAg g3
    have hB := (st_BA hv h0 k g1).1
    have hel := hB.e_le
    show (∃ B, _ ∧ X5_ever_L2 K (fuel + 1) (nI a) (nI k) A = K _ B) ∨ ∃ s', X5_ever_L2 K (fuel + 1) (nI a) (nI k) A = _ ∧ _
    rw [X5_ever_L2]
    by_cases c : k < be (st v s0 k)
    · right
      obtain ⟨B, b1, b2, b3, b4, b5, b6, b7⟩ := goOn_eq hv (RX.of g2 g4 hB c)
      have hln := (hB.2.1 k c).1
      have el := (st_fin (v := v) (s0 := s0) (1024 - k) (k := k) (by omega)).2 k c
      refine ⟨(a ||| ((bl (st v s0 k) k / 16) ^^^ tt v), B), ?_, ?_, ?_, by show RM B (st v s0 (k + 1)); rw [st_lt c]; exact b2, g3.tr b3, b4⟩
      · rw [g2.2.2, if_neg (by rw [nI_le_iff (by omega) (by omega)]; omega), rdI_nI (by omega) (by omega), bind_s, i_2, rdI_nI (by omega) (by omega), bind_s, bind_s, g2.2.1 k c, b1, bind_s, hA.2.2.2.2.1, i_4, nI_shr (by omega) (by omega), nI_xor, nI_or, i_1, nI_sum]
      · show a ||| _ = mvN v (fin v s0) (k + 1)
        rw [mvN_succ, ga, el]
      · have := (st_gr v s0 k).1
        show k + 1 ≤ be (st v s0 (k + 1))
        omega
    · left
      rw [g2.2.2, if_pos (by rw [nI_le_iff (by omega) (by omega)]; omega)]
      have e := st_stay (v := v) (s0 := s0) (E := k) (by omega) (1024 - k)
      rw [show k + (1024 - k) = 1024 by omega] at e
      have e : fin v s0 = st v s0 k := e
      refine ⟨A, g3, ?_⟩
      rw [ga, e, show be (st v s0 k) = k by omega]
  · obtain ⟨a, A⟩ := z
    obtain ⟨ga, g1, g2, g3, g4⟩ := hI
    have ga : a = _ := ga
    have g2 : RM A (st v s0 1024) := g2
    have hel := (st_BA hv h0 1024 g1).1.e_le
    show ∃ B, _ ∧ X5_ever_L2 K (fuel + 1) (nI a) (nI 1024) A = K _ B
    rw [X5_ever_L2]
    rw [g2.2.2, if_pos (by rw [nI_le_iff (by omega) (by omega)]; omega)]
    refine ⟨A, g3, ?_⟩
    have e : be (fin v s0) = 1024 := by
      unfold fin
      omega
    rw [ga, e]
theorem now_lt (hv : vOk v) : 16 * tt v + tu v < 1024 := by
  have := tt_lt hv
  have := tu_lt hv
  omega
theorem ever5_eq (hv : vOk v) (h : VM J v) (hn0 : 0 < tn v) : ∃ B, mAg J B ∧ X5_ever J = some (nI (mvN v (fin v (s1 (16 * tt v + tu v))) (be (fin v (s1 (16 * tt v + tu v))))), B) := by
  have h6 := hv.1
  have htt := tt_lt hv
  have htu := tu_lt hv
  have hnow := now_lt hv
  obtain ⟨J1, j1, j2, j3⟩ := h.loads hv
  have hM1 := h.mAg j2.m
  unfold X5_ever
  rw [h.1.2.2, if_neg (by rw [i_0, nI_eq_iff (by omega) (by omega)]; omega), i_2, rdI_nI (by omega) (by omega), bind_s, i_3, rdI_nI (by omega) (by omega), bind_s, h.2.2.2.2.1, h.2.2.2.2.2, j1, bind_s, i_16, nI_mul, nI_sum]
  obtain ⟨A, ⟨a1, a2, a3⟩, he⟩ := loop_I (fun fuel k (A : xMem) => X5_ever_L1 (fun (I8 : xMem) => (wrI I8 13 1024 (nI (16 * tt v + tu v)) (0 : Int32)).bind fun I11 => (wrI I11 14 1024 (0 : Int32) (nI (16 * tt v + tu v))).bind fun I12 => (some (wr I12 0 28 (1 : Int32))).bind fun I13 => X5_ever_L2 (fun (z2_16 : Int32) (I17 : xMem) => some (z2_16, I17)) bigF (0 : Int32) (0 : Int32) I13) fuel (nI k) A) (fun (I8 : xMem) => (wrI I8 13 1024 (nI (16 * tt v + tu v)) (0 : Int32)).bind fun I11 => (wrI I11 14 1024 (0 : Int32) (nI (16 * tt v + tu v))).bind fun I12 => (some (wr I12 0 28 (1 : Int32))).bind fun I13 => X5_ever_L2 (fun (z2_16 : Int32) (I17 : xMem) => some (z2_16, I17)) bigF (0 : Int32) (0 : Int32) I13) 1024 (fun k A => mAg J A ∧ LD v A ∧ ∀ x, x < k → A 13 x = 9999)
    (fun fuel k A hk hI => by
      refine ⟨wr A 13 k 9999, ?_, fun a b q => by rw [wr_off _ _ (by unfold mX at q; omega)]; exact hI.1 a b q, fun p hp => by rw [wr_off _ _ (by omega)]; exact hI.2.1 p hp, fun x hx => ?_⟩
      · show X5_ever_L1 _ (fuel + 1) (nI k) A = _
        rw [X5_ever_L1]
        rw [if_neg (by rw [show (1024 : Int32) = nI 1024 from rfl, nI_le_iff (by omega) (by omega)]; omega), wrI_nI hk (by omega), bind_s, i_1, nI_sum]
      · by_cases e : x = k
        · subst e
          exact wr_eq _ _ _ _
        · rw [wr_off _ _ (by omega)]; exact hI.2.2 x (by omega))
    (fun fuel A hI => by
      show X5_ever_L1 _ (fuel + 1) (nI 1024) A = _
      rw [X5_ever_L1]
      rw [if_pos (by rw [show (1024 : Int32) = nI 1024 from rfl]; exact Int32.le_refl _)])
    1024 bigF 0 J1 (by omega) (bigF_gt (by omega)) ⟨j2.m, j3, fun x q => absurd q (by omega)⟩
  have e0 : wrI A 13 1024 (nI (16 * tt v + tu v)) 0 = some (wr A 13 (16 * tt v + tu v) 0) := wrI_nI hnow (by omega)
  have e1 : wrI (wr A 13 (16 * tt v + tu v) 0) 14 1024 (0 : Int32) (nI (16 * tt v + tu v)) = some (wr (wr A 13 (16 * tt v + tu v) 0) 14 0 (nI (16 * tt v + tu v))) := wrI_nI (n := 0) (by omega) (by omega)
  have hR : RM (wr (wr (wr A 13 (16 * tt v + tu v) 0) 14 0 (nI (16 * tt v + tu v))) 0 28 1) (s1 (16 * tt v + tu v)) := by
    refine ⟨fun x hx => ?_, fun k hk => ?_, wr_eq _ _ _ _⟩
    · show _ = nI (if x = 16 * tt v + tu v then 0 else 9999)
      rw [wr_off _ _ (by omega), wr_off _ _ (by omega), wr_at]
      by_cases e : x = 16 * tt v + tu v
      · rw [if_pos ⟨rfl, e⟩, if_pos e]
        rfl
      · rw [if_neg (fun w => e w.2), if_neg e]
        exact a3 x hx
    · have hk : k < 1 := hk
      have e : k = 0 := by omega
      subst e
      rw [wr_off _ _ (by omega), wr_eq]
      rfl
  have ag : mAg J (wr (wr (wr A 13 (16 * tt v + tu v) 0) 14 0 (nI (16 * tt v + tu v))) 0 28 1) := fun a b q => by
    unfold mX at q
    rw [wr_off _ _ (by omega), wr_off _ _ (by omega), wr_off _ _ (by omega)]
    exact a1 a b (by unfold mX; omega)
  have hL : LD v (wr (wr (wr A 13 (16 * tt v + tu v) 0) 14 0 (nI (16 * tt v + tu v))) 0 28 1) := fun p hp => by
    rw [wr_off _ _ (by omega), wr_off _ _ (by omega), wr_off _ _ (by omega)]
    exact a2 p hp
  obtain ⟨B, b1, b2⟩ := runE hv (h.mAg ag) (s1_BA v hnow) hR hL (fun (z2_16 : Int32) (I17 : xMem) => some (z2_16, I17))
  refine ⟨B, ag.tr b1, he.trans ?_⟩
  show (wrI A 13 1024 (nI (16 * tt v + tu v)) (0 : Int32)).bind _ = _
  rw [e0, bind_s, e1, bind_s, bind_s]
  exact b2
/-- the goals -/
def gG5 (v : TV) (set tops : Nat) (y : Nat) : Prop := y < 1024 ∧ y / 16 < 2 ^ tn v ∧ y % 16 < 2 ^ ts v ∧ (y / 16) &&& set = tops
theorem layFar_eq (hv : vOk v) (h : VM J v) (set tops : Nat) (hs : set < 64) (ht : tops < 64) : ∃ t B, BA v (gG5 v set tops) t (be t) (fun _ _ => False) 0 ∧ mAg J B ∧ LD v B ∧ RM B t ∧ X5_layFar J (nI set) (nI tops) = some B := by
  have h6 := hv.1
  have h4 := hv.2.1
  have h64 := p2n hv
  have h16 := p2s hv
  obtain ⟨J1, j1, j2, j3⟩ := h.loads hv
  unfold X5_layFar
  rw [j1, bind_s, bind_s]
  have L0 : LD v (wr J1 0 28 0) := fun p hp => by rw [wr_off _ _ (by omega)]; exact j3 p hp
  have A0 : mAg J (wr J1 0 28 0) := fun a b q => by
    rw [wr_off _ _ (by unfold mX at q; omega)]
    exact j2.m a b q
  obtain ⟨⟨A, e, l, d⟩, ⟨a1, a2, a3, a4, a5, a6, a7⟩, he⟩ := loop_I (fun fuel k (z : xMem × Nat × (Nat → Nat) × (Nat → Nat)) => X5_layFar_L1 (nI set) (nI tops) (fun (I6 : xMem) => X5_layFar_L2 (fun (I18 : xMem) => some I18) bigF (0 : Int32) I6) fuel (nI k) z.1) (fun z => X5_layFar_L2 (fun (I18 : xMem) => some I18) bigF (0 : Int32) z.1) 1024 (fun k z => mAg J z.1 ∧ LD v z.1 ∧ gls (gG5 v set tops) k z.2.1 z.2.2.1 z.2.2.2 ∧ z.2.1 ≤ k ∧ (∀ x, x < k → z.1 13 x = nI (z.2.2.2 x)) ∧ (∀ i, i < z.2.1 → z.1 14 i = nI (z.2.2.1 i)) ∧ z.1 0 28 = nI z.2.1)
    (fun fuel k z hk hI => by
      obtain ⟨A, e, l, d⟩ := z
      obtain ⟨a1, a2, a3, a4, a5, a6, a7⟩ := hI
      have a1 : mAg J A := a1
      have a2 : LD v A := a2
      have a3 : gls (gG5 v set tops) k e l d := a3
      have a4 : e ≤ k := a4
      have a5 : ∀ x, x < k → A 13 x = nI (d x) := a5
      have a6 : ∀ i, i < e → A 14 i = nI (l i) := a6
      have a7 : A 0 28 = nI e := a7
      have hA := h.mAg a1
      show ∃ s', X5_layFar_L1 (nI set) (nI tops) _ (fuel + 1) (nI k) A = _ ∧ _
      rw [X5_layFar_L1]
      have m4 : wr A 13 k 9999 0 4 = nI (tn v) := (wr_off _ _ (by omega)).trans hA.1.2.2
      have m2 : wr A 13 k 9999 0 2 = nI (ts v) := (wr_off _ _ (by omega)).trans hA.1.2.1
      have m28 : (wr (wr A 13 k 9999) 13 k 0) 0 28 = nI e := (wr_off _ _ (by omega)).trans ((wr_off _ _ (by omega)).trans a7)
      have m28b : (wr (wr (wr A 13 k 9999) 13 k 0) 14 e (nI k)) 0 28 = nI e := (wr_off _ _ (by omega)).trans m28
      rw [if_neg (by rw [show (1024 : Int32) = nI 1024 from rfl, nI_le_iff (by omega) (by omega)]; omega), wrI_nI hk (by omega), bind_s, m4, m2, i_1, nI_pow (by omega), nI_pow (by omega), i_4, nI_shr (by omega) (by omega), i_15, nI_and, show k &&& 15 = k % 16 from Nat.and_two_pow_sub_one_eq_mod k 4, nI_and]
      have hand : k / 2 ^ 4 &&& set < 64 := Nat.lt_of_le_of_lt Nat.and_le_right hs
      have e16 : k / 2 ^ 4 = k / 16 := rfl
      rw [e16] at hand ⊢
      have no : ¬ gG5 v set tops k → (mAg J (wr A 13 k 9999) ∧ LD v (wr A 13 k 9999) ∧ gls (gG5 v set tops) (k + 1) e l (fun y => if y = k then 9999 else d y) ∧ e ≤ k + 1 ∧ (∀ x, x < k + 1 → (wr A 13 k 9999) 13 x = nI (if x = k then 9999 else d x)) ∧ (∀ i, i < e → (wr A 13 k 9999) 14 i = nI (l i)) ∧ (wr A 13 k 9999) 0 28 = nI e) := fun hn => by
        obtain ⟨g1, g2, g3, g4⟩ := a3
        refine ⟨fun a b q => ?_, fun p hp => ?_, ⟨?_, fun i hi => ?_, fun x hx => ?_, g4⟩, by omega, fun x hx => ?_, fun i hi => ?_, ?_⟩
        · rw [wr_off _ _ (by unfold mX at q; omega)]
          exact a1 a b q
        · rw [wr_off _ _ (by omega)]; exact a2 p hp
        · show sumN (fun x => if (if x = k then 9999 else d x) = 9999 then 0 else 1) k + (if (if k = k then 9999 else d k) = 9999 then 0 else 1) = e
          rw [sumN_congr (g := fun x => if d x = 9999 then 0 else 1) k (fun x hx => by rw [if_neg (show ¬ x = k by omega)]), g1, if_pos rfl, if_pos rfl]
          rfl
        · have := g2 i hi
          exact ⟨by omega, this.2⟩
        · show (gG5 v set tops x ∧ (if x = k then 9999 else d x) = 0 ∧ _) ∨ (_ ∧ (if x = k then 9999 else d x) = 9999)
          by_cases w : x = k
          · rw [if_pos w, w]
            exact Or.inr ⟨hn, rfl⟩
          · rw [if_neg w]
            exact g3 x (by omega)
        · rw [wr_at]
          by_cases w : x = k
          · rw [if_pos ⟨rfl, w⟩, if_pos w]
            rfl
          · rw [if_neg (fun q => w q.2), if_neg w]
            exact a5 x (by omega)
        · rw [wr_off _ _ (by omega)]; exact a6 i hi
        · rw [wr_off _ _ (by omega)]; exact a7
      by_cases c1 : k / 16 < 2 ^ tn v
      · rw [if_neg (by rw [nI_le_iff (by omega) (by omega)]; omega)]
        by_cases c2 : k % 16 < 2 ^ ts v
        · rw [if_neg (by rw [nI_le_iff (by omega) (by omega)]; omega)]
          by_cases c3 : k / 16 &&& set = tops
          · rw [if_pos (by rw [c3]), wrI_nI hk (by omega), bind_s, m28, wrI_nI (by omega) (by omega), bind_s, bind_s, m28b, nI_sum, nI_sum]
            have hy : gG5 v set tops k := ⟨by omega, c1, c2, c3⟩
            obtain ⟨g1, g2, g3, g4⟩ := a3
            refine ⟨(wr (wr (wr (wr A 13 k 9999) 13 k 0) 14 e (nI k)) 0 28 (nI (e + 1)), e + 1, fun i => if i = e then k else l i, fun y => if y = k then 0 else d y), rfl, fun a b q => ?_, fun p hp => ?_, ⟨?_, fun i hi => ?_, fun x hx => ?_, fun i j hi hj hh => ?_⟩, by show e + 1 ≤ k + 1; omega, fun x hx => ?_, fun i hi => ?_, ?_⟩
            · unfold mX at q
              show wr (wr (wr (wr A 13 k 9999) 13 k 0) 14 e (nI k)) 0 28 (nI (e + 1)) a b = _
              rw [wr_off _ _ (by omega), wr_off _ _ (by omega), wr_off _ _ (by omega), wr_off _ _ (by omega)]
              exact a1 a b (by unfold mX; omega)
            · show wr (wr (wr (wr A 13 k 9999) 13 k 0) 14 e (nI k)) 0 28 (nI (e + 1)) 15 p = _
              rw [wr_off _ _ (by omega), wr_off _ _ (by omega), wr_off _ _ (by omega), wr_off _ _ (by omega)]
              exact a2 p hp
            · show sumN (fun x => if (if x = k then 0 else d x) = 9999 then 0 else 1) k + (if (if k = k then 0 else d k) = 9999 then 0 else 1) = e + 1
              rw [sumN_congr (g := fun x => if d x = 9999 then 0 else 1) k (fun x hx => by rw [if_neg (show ¬ x = k by omega)]), g1, if_pos rfl, if_neg (by decide)]
            · show (if i = e then k else l i) < k + 1 ∧ gG5 v set tops (if i = e then k else l i)
              have hi : i < e + 1 := hi
              by_cases w : i = e
              · rw [if_pos w]
                exact ⟨by omega, hy⟩
              · rw [if_neg w]
                have := g2 i (by omega)
                exact ⟨by omega, this.2⟩
            · show (gG5 v set tops x ∧ (if x = k then 0 else d x) = 0 ∧ ∃ i, i < e + 1 ∧ (if i = e then k else l i) = x) ∨ (_ ∧ (if x = k then 0 else d x) = 9999)
              by_cases w : x = k
              · rw [if_pos w, w]
                exact Or.inl ⟨hy, rfl, e, by omega, if_pos rfl⟩
              · rw [if_neg w]
                rcases g3 x (by omega) with ⟨q1, q2, i, q3, q4⟩ | q
                · exact Or.inl ⟨q1, q2, i, by omega, by rw [if_neg (by omega)]; exact q4⟩
                · exact Or.inr q
            · have hi : i < e + 1 := hi
              have hj : j < e + 1 := hj
              have hh : (if i = e then k else l i) = (if j = e then k else l j) := hh
              by_cases w : i = e
              · by_cases w2 : j = e
                · omega
                · rw [if_pos w, if_neg w2] at hh
                  have := (g2 j (by omega)).1
                  omega
              · by_cases w2 : j = e
                · rw [if_neg w, if_pos w2] at hh
                  have := (g2 i (by omega)).1
                  omega
                · rw [if_neg w, if_neg w2] at hh
                  exact g4 i j (by omega) (by omega) hh
            · show wr (wr (wr (wr A 13 k 9999) 13 k 0) 14 e (nI k)) 0 28 (nI (e + 1)) 13 x = nI (if x = k then 0 else d x)
              rw [wr_off _ _ (by omega), wr_off _ _ (by omega), wr_at]
              by_cases w : x = k
              · rw [if_pos ⟨rfl, w⟩, if_pos w]
                rfl
              · rw [if_neg (fun q => w q.2), if_neg w, wr_off _ _ (by omega)]
                exact a5 x (by omega)
            · show wr (wr (wr (wr A 13 k 9999) 13 k 0) 14 e (nI k)) 0 28 (nI (e + 1)) 14 i = nI (if i = e then k else l i)
              have hi : i < e + 1 := hi
              rw [wr_off _ _ (by omega), wr_at]
              by_cases w : i = e
              · rw [if_pos ⟨rfl, w⟩, if_pos w]
              · rw [if_neg (fun q => w q.2), if_neg w, wr_off _ _ (by omega), wr_off _ _ (by omega)]
                exact a6 i (by omega)
            · show wr (wr (wr (wr A 13 k 9999) 13 k 0) 14 e (nI k)) 0 28 (nI (e + 1)) 0 28 = nI (e + 1)
              exact wr_eq _ _ _ _
          · rw [if_neg (by rw [nI_eq_iff (by omega) (by omega)]; exact c3), nI_sum]
            exact ⟨(wr A 13 k 9999, e, l, fun y => if y = k then 9999 else d y), rfl, no (fun w => c3 w.2.2.2)⟩
        · rw [if_pos (by rw [nI_le_iff (by omega) (by omega)]; omega), nI_sum]
          exact ⟨(wr A 13 k 9999, e, l, fun y => if y = k then 9999 else d y), rfl, no (fun w => c2 w.2.2.1)⟩
      · rw [if_pos (by rw [nI_le_iff (by omega) (by omega)]; omega), nI_sum]
        exact ⟨(wr A 13 k 9999, e, l, fun y => if y = k then 9999 else d y), rfl, no (fun w => c1 w.2.1)⟩)
    (fun fuel z hI => by
      show X5_layFar_L1 (nI set) (nI tops) _ (fuel + 1) (nI 1024) z.1 = _
      rw [X5_layFar_L1]
      rw [if_pos (by rw [show (1024 : Int32) = nI 1024 from rfl]; exact Int32.le_refl _)])
    1024 bigF 0 (wr J1 0 28 0, 0, fun _ => 0, fun _ => 0) (by omega) (bigF_gt (by omega)) ⟨A0, L0, ⟨rfl, fun i q => absurd q (Nat.not_lt_zero _), fun x q => absurd q (Nat.not_lt_zero _), fun i j q => absurd q (Nat.not_lt_zero _)⟩, Nat.le_refl _, fun x q => absurd q (Nat.not_lt_zero _), fun i q => absurd q (Nat.not_lt_zero _), (wr_eq J1 0 28 0 : wr J1 0 28 0 0 28 = 0)⟩
  have hBA : BA v (gG5 v set tops) (d, fun _ => 0, l, e) 0 (fun _ _ => False) 0 := gls_BA (fun y hy => hy.1) a3
  obtain ⟨B, b1, b2, hld, b3⟩ := run5 hv hBA ⟨a5, a6, a7⟩ a2 (fun I18 => some I18)
  have b2 : mAg A B := b2
  have a1 : mAg J A := a1
  exact ⟨fin v (d, fun _ => 0, l, e), B, fin_BA hv hBA, a1.tr b2, hld, b1, he.trans b3⟩
/-- the least pair that goes nearer, of those from m on -/
def lowQ (Q : Nat → Prop) (m : Nat) (a : Int32) : Prop := (a = -9 ∧ ∀ p, m ≤ p → p < 36 → ¬ Q p) ∨ ∃ q, m ≤ q ∧ q < 36 ∧ Q q ∧ a = nI q ∧ ∀ p, m ≤ p → p < q → ¬ Q p
abbrev nearer (v : TV) (t : BS) (x p : Nat) : Prop := ∃ c, c < 16 ∧ eO v x p c ∧ bd t (nx x p c) + 1 = bd t x
theorem less1 {a D : Nat} (ha : a ≤ 9999) (hD : D ≤ 9999) : nI a = nI D - 1 ↔ a + 1 = D := by
  constructor
  · intro h
    have h2 : nI a + 1 = nI D := by
      rw [h, Int32.sub_add_cancel]
    rw [i_1, nI_sum, nI_eq_iff (by omega) (by omega)] at h2
    exact h2
  · intro h
    rw [← h]
    exact (nI_subL (a := a + 1) (b := 1) (by omega)).symm
theorem few5_eq (hv : vOk v) (h : VM J v) (set tops : Nat) (hs : set < 64) (ht : tops < 64) : ∃ t B, BA v (gG5 v set tops) t (be t) (fun _ _ => False) 0 ∧ mAg J B ∧ ((bd t (16 * tt v + tu v) = 9999 ∧ X5_fewestGoes J (nI set) (nI tops) = some (-9, B)) ∨ (bd t (16 * tt v + tu v) ≠ 9999 ∧ ∃ a, lowQ (nearer v t (16 * tt v + tu v)) 0 a ∧ X5_fewestGoes J (nI set) (nI tops) = some (nI (bd t (16 * tt v + tu v)), wr B 0 11 a))) := by
  have hnow := now_lt hv
  have htt := tt_lt hv
  have htu := tu_lt hv
  obtain ⟨t, B, b1, b2, b3, b4, b5⟩ := layFar_eq hv h set tops hs ht
  have hle : ∀ x, x < 1024 → bd t x ≤ 9999 := fun x hx => by
    by_cases q : bd t x = 9999
    · omega
    · have := b1.1.lab hx q
      omega
  refine ⟨t, B, b1, b2, ?_⟩
  unfold X5_fewestGoes
  rw [i_2, rdI_nI (by omega) (by omega), bind_s, i_3, rdI_nI (by omega) (by omega), bind_s, h.2.2.2.2.1, h.2.2.2.2.2, b5, bind_s, i_16, nI_mul, nI_sum, rdI_nI hnow (by omega), bind_s, b4.1 _ hnow]
  by_cases c : bd t (16 * tt v + tu v) = 9999
  · left
    refine ⟨c, ?_⟩
    rw [if_pos (show nI (bd t (16 * tt v + tu v)) = 9999 by rw [c]; rfl)]
  · right
    refine ⟨c, ?_⟩
    have hlt := hle _ hnow
    rw [if_neg (show ¬ nI (bd t (16 * tt v + tu v)) = 9999 by rw [i_9999, nI_eq_iff (by omega) (by omega)]; exact c), bind_s]
    generalize hx : 16 * tt v + tu v = x at *
    have r13 : ∀ a y, y < 1024 → wr B 0 11 a 13 y = nI (bd t y) := fun a y hy => (wr_off _ _ (by omega)).trans (b4.1 y hy)
    have L13 : ∀ a, LD v (wr B 0 11 a) := fun a p hp => by rw [wr_off _ _ (by omega)]; exact b3 p hp
    have nowE : ∀ p c, X5_behind (((16 : Int32) * nI (tt v)) + nI (tu v)) p c = X5_behind (nI x) p c := fun p c => by
      rw [i_16, nI_mul, nI_sum, hx]
    have inner : ∀ (K : xMem → Option (Int32 × xMem)) (p : Nat) (a : Int32), p < 36 → lowQ (nearer v t x) (p + 1) a → ∃ a', lowQ (nearer v t x) p a' ∧ X5_fewestGoes_L2 (nI (tt v)) (nI (tu v)) (nI p) K bigF (nI 0) (wr B 0 11 a) = K (wr B 0 11 a') := by
      intro K p a hp ha
      obtain ⟨a', h', he⟩ := loop_I (fun fuel c (z : Int32) => X5_fewestGoes_L2 (nI (tt v)) (nI (tu v)) (nI p) K fuel (nI c) (wr B 0 11 z)) (fun z => K (wr B 0 11 z)) 16 (fun c z => (z = a ∧ ∀ c', c' < c → ¬ (eO v x p c' ∧ bd t (nx x p c') + 1 = bd t x)) ∨ (z = nI p ∧ ∃ c', c' < c ∧ eO v x p c' ∧ bd t (nx x p c') + 1 = bd t x))
        (fun fuel c z hc hI => by
          show ∃ z', X5_fewestGoes_L2 (nI (tt v)) (nI (tu v)) (nI p) K (fuel + 1) (nI c) (wr B 0 11 z) = _ ∧ _
          rw [X5_fewestGoes_L2]
          rw [if_neg (show ¬ (16 : Int32) ≤ nI c by rw [i_16, nI_le_iff (by omega) (by omega)]; omega), nowE, i_16, nI_mul, nI_sum, hx, mayGo_eq hv (L13 z) hnow hp hc, bind_s]
          simp only [bind_s]
          have same : ¬ (eO v x p c ∧ bd t (nx x p c) + 1 = bd t x) → ((z = a ∧ ∀ c', c' < c + 1 → ¬ (eO v x p c' ∧ bd t (nx x p c') + 1 = bd t x)) ∨ (z = nI p ∧ ∃ c', c' < c + 1 ∧ eO v x p c' ∧ bd t (nx x p c') + 1 = bd t x)) := fun w => by
            rcases hI with ⟨q1, q2⟩ | ⟨q1, c', q2, q3⟩
            · refine Or.inl ⟨q1, fun c' hc' => ?_⟩
              by_cases e : c' = c
              · rw [e]; exact w
              · exact q2 c' (by omega)
            · exact Or.inr ⟨q1, c', by omega, q3⟩
          have wz : ∀ y, wr (wr B 0 11 z) 0 11 y = wr B 0 11 y := fun y => wr_wr _ _ _ _ _
          have z11 : wr B 0 11 z 0 11 = z := wr_eq _ _ _ _
          by_cases ho : eO v x p c
          · have hy := nx_lt hv hnow ho
            rw [if_pos ho, if10, behind_eq hp hc, rdI_nI hy (by omega), bind_s, rdI_nI hnow (by omega), bind_s, r13 _ _ hy, r13 _ _ hnow]
            have hly := hle _ hy
            by_cases c2 : bd t (nx x p c) + 1 = bd t x
            · rw [if_pos ((less1 hly hlt).mpr c2), wz, i_1, nI_sum]
              exact ⟨_, rfl, Or.inr ⟨rfl, c, by omega, ho, c2⟩⟩
            · rw [if_neg (fun w => c2 ((less1 hly hlt).mp w)), z11, wz, i_1, nI_sum]
              exact ⟨_, rfl, same (fun w => c2 w.2)⟩
          · rw [if_neg ho, if00, z11, wz, i_1, nI_sum]
            exact ⟨_, rfl, same (fun w => ho w.1)⟩)
        (fun fuel z hI => by
          show X5_fewestGoes_L2 (nI (tt v)) (nI (tu v)) (nI p) K (fuel + 1) (nI 16) (wr B 0 11 z) = _
          rw [X5_fewestGoes_L2]
          rw [if_pos (show (16 : Int32) ≤ nI 16 from Int32.le_refl _)])
        16 bigF 0 a (by omega) (bigF_gt (by omega)) (Or.inl ⟨rfl, fun c' q => absurd q (by omega)⟩)
      refine ⟨a', ?_, he⟩
      rcases h' with ⟨q1, q2⟩ | ⟨q1, c', q2, q3, q4⟩
      · subst q1
        have no : ¬ nearer v t x p := fun ⟨c', w1, w2, w3⟩ => q2 c' w1 ⟨w2, w3⟩
        rcases ha with ⟨e1, e2⟩ | ⟨q, e1, e2, e3, e4, e5⟩
        · refine Or.inl ⟨e1, fun p' w1 w2 => ?_⟩
          by_cases e : p' = p
          · rw [e]; exact no
          · exact e2 p' (by omega) w2
        · refine Or.inr ⟨q, by omega, e2, e3, e4, fun p' w1 w2 => ?_⟩
          by_cases e : p' = p
          · rw [e]; exact no
          · exact e5 p' (by omega) w2
      · exact Or.inr ⟨p, Nat.le_refl _, hp, ⟨c', q2, q3, q4⟩, q1, fun p' w1 w2 => absurd w1 (by omega)⟩
    obtain ⟨a, h', he⟩ := loop_I (fun fuel k (z : Int32) => X5_fewestGoes_L1 (nI (tt v)) (nI (tu v)) (fun (I10 : xMem) => (rdI I10 13 1024 (nI x)).bind fun v25 => some (v25, I10)) fuel (nI (36 - k) - 1) (wr B 0 11 z)) (fun z => (rdI (wr B 0 11 z) 13 1024 (nI x)).bind fun v25 => some (v25, (wr B 0 11 z))) 36 (fun k z => lowQ (nearer v t x) (36 - k) z)
      (fun fuel k z hk hI => by
        obtain ⟨a', g1, g2⟩ := inner (fun (I15 : xMem) => X5_fewestGoes_L1 (nI (tt v)) (nI (tu v)) (fun (I10 : xMem) => (rdI I10 13 1024 (nI x)).bind fun v25 => some (v25, I10)) fuel (nI (36 - k - 1) + (-1 : Int32)) I15) (36 - k - 1) z (by omega) (by rw [show 36 - k - 1 + 1 = 36 - k by omega]; exact hI)
        refine ⟨a', ?_, by rw [show 36 - (k + 1) = 36 - k - 1 by omega]; exact g1⟩
        show X5_fewestGoes_L1 (nI (tt v)) (nI (tu v)) _ (fuel + 1) (nI (36 - k) - 1) (wr B 0 11 z) = _
        rw [X5_fewestGoes_L1]
        rw [show nI (36 - k) - 1 = nI (36 - k - 1) from nI_subL (a := 36 - k) (b := 1) (by omega), if_neg (show ¬ nI (36 - k - 1) < (0 : Int32) by rw [i_0, nI_lt_iff (by omega) (by omega)]; omega)]
        refine g2.trans ?_
        rw [show nI (36 - k - 1) + (-1) = nI (36 - k - 1) - 1 from (Int32.sub_eq_add_neg _ _).symm, show 36 - k - 1 = 36 - (k + 1) by omega])
      (fun fuel z hI => by
        show X5_fewestGoes_L1 (nI (tt v)) (nI (tu v)) _ (fuel + 1) (nI (36 - 36) - 1) (wr B 0 11 z) = _
        rw [X5_fewestGoes_L1]
        rw [if_pos (show nI (36 - 36) - 1 < (0 : Int32) by decide)])
      36 bigF 0 (-9) (by omega) (bigF_gt (by omega)) (Or.inl ⟨rfl, fun p w1 w2 => absurd w1 (by omega)⟩)
    refine ⟨a, h', ?_⟩
    refine Eq.trans ?_ (he.trans ?_)
    · rw [show nI (36 - 0) - 1 = (35 : Int32) by decide]
    · show (rdI (wr B 0 11 a) 13 1024 (nI x)).bind _ = _
      rw [rdI_nI hnow (by omega), bind_s, r13 _ _ hnow]
end FA2
