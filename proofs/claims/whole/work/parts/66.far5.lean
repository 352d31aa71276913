/-! FEWEST GOES: the model's rows -/
theorem comb16 (a b c d : Nat) (hb : b < 16) (hd : d < 16) : (16 * a + b) ^^^ (16 * c + d) = 16 * (a ^^^ c) + (b ^^^ d) := by
  have h1 : b ^^^ d < 2 ^ 4 := Nat.xor_lt_two_pow (n := 4) hb hd
  apply Nat.eq_of_testBit_eq
  intro k
  have e1 := Nat.testBit_two_pow_mul_add a (b := b) (i := 4) hb k
  have e2 := Nat.testBit_two_pow_mul_add c (b := d) (i := 4) hd k
  have e3 := Nat.testBit_two_pow_mul_add (a ^^^ c) (b := b ^^^ d) (i := 4) h1 k
  rw [show (2 : Nat) ^ 4 = 16 from rfl] at e1 e2 e3
  rw [Nat.testBit_xor, e1, e2, e3]
  by_cases q : k < 4
  · simp only [if_pos q, Nat.testBit_xor]
  · simp only [if_neg q, Nat.testBit_xor]
theorem or16 (a c : Nat) (hc : c < 16) : 16 * a ||| c = 16 * a + c := by
  apply Nat.eq_of_testBit_eq
  intro k
  have e1 := Nat.testBit_two_pow_mul_add a (b := 0) (i := 4) (by decide) k
  have e2 := Nat.testBit_two_pow_mul_add a (b := c) (i := 4) hc k
  rw [show (2 : Nat) ^ 4 = 16 from rfl] at e1 e2
  rw [Nat.add_zero] at e1
  rw [Nat.testBit_or, e1, e2]
  by_cases q : k < 4
  · simp only [if_pos q, Nat.zero_testBit, Bool.false_or]
  · have h2 : 2 ^ 4 ≤ 2 ^ k := Nat.pow_le_pow_right (by decide) (by omega)
    simp only [if_neg q]
    rw [Nat.testBit_lt_two_pow (show c < 2 ^ k by omega), Bool.or_false]
theorem pr16 (i j : Nat) : 16 * 2 ^ i ||| 16 * 2 ^ j = 16 * pr i j := by
  unfold pr
  apply Nat.eq_of_testBit_eq
  intro k
  have e1 := Nat.testBit_two_pow_mul_add (2 ^ i) (b := 0) (i := 4) (by decide) k
  have e2 := Nat.testBit_two_pow_mul_add (2 ^ j) (b := 0) (i := 4) (by decide) k
  have e3 := Nat.testBit_two_pow_mul_add (2 ^ i ||| 2 ^ j) (b := 0) (i := 4) (by decide) k
  rw [show (2 : Nat) ^ 4 = 16 from rfl, Nat.add_zero] at e1 e2 e3
  rw [Nat.testBit_or, e1, e2, e3]
  by_cases q : k < 4
  · simp [if_pos q]
  · simp only [if_neg q, Nat.testBit_or]
theorem bit4 (x j : Nat) : (x / 16).testBit j = x.testBit (4 + j) := by
  rw [Nat.add_comm]
  exact Nat.testBit_div_two_pow (n := 4) x j
theorem behind_eq {x p c : Nat} (hp : p < 36) (hc : c < 16) : X5_behind (nI x) (nI p) (nI c) = nI (nx x p c) := by
  have e16 : (16 : Int32) = nI 16 := rfl
  have h1 : 16 * 2 ^ (p / 6) < 2 ^ 32 := by
    have h2 : 2 ^ (p / 6) ≤ 2 ^ 6 := Nat.pow_le_pow_right (by decide) (by omega)
    omega
  have h2 : 16 * 2 ^ (p % 6) < 2 ^ 32 := by
    have h2 : 2 ^ (p % 6) ≤ 2 ^ 6 := Nat.pow_le_pow_right (by decide) (by omega)
    omega
  unfold X5_behind nx
  rw [e16, i_6, nI_rem (by omega) (by omega) (by omega), nI_div (by omega) (by omega) (by omega), nI_shl (by omega) h1, nI_shl (by omega) h2, nI_or, nI_or, nI_xor, pr16, or16 _ _ hc]
  have e : x = 16 * (x / 16) + x % 16 := by omega
  rw [show x ^^^ (16 * pr (p / 6) (p % 6) + c) = (16 * (x / 16) + x % 16) ^^^ (16 * pr (p / 6) (p % 6) + c) by rw [← e], comb16 _ _ _ _ (by omega) hc]
theorem nd15 (x : Nat) : nd 15 x = nd 15 (x % 16) := by
  have h : x % 16 = x &&& 15 := (Nat.and_two_pow_sub_one_eq_mod x 4).symm
  apply Nat.eq_of_testBit_eq
  intro k
  rw [nd_bit, nd_bit, h, Nat.testBit_and]
  cases (15 : Nat).testBit k <;> simp
theorem ldN_bit {v : TV} {p c : Nat} : (ldN v p).testBit c = true ↔ (p / 6 < p % 6 ∧ p % 6 < tn v) ∧ (opN v (p / 6) (p % 6)).testBit c = true := by
  unfold ldN
  by_cases h : p / 6 < p % 6 ∧ p % 6 < tn v
  · rw [if_pos h]
    exact ⟨fun w => ⟨h, w⟩, fun w => w.2⟩
  · rw [if_neg h, Nat.zero_testBit]
    exact ⟨fun w => (nomatch w), fun w => absurd w.1 h⟩
def LD (v : TV) (J : xMem) : Prop := ∀ p, p < 36 → J 15 p = nI (ldN v p)
section FAR
variable {J : xMem} {v : TV}
theorem mayGo_eq (hv : vOk v) (hL : LD v J) {x p c : Nat} (hx : x < 1024) (hp : p < 36) (hc : c < 16) : X5_mayGo J (nI x) (nI p) (nI c) = some (if eO v x p c then 1 else 0) := by
  have h6 := hv.1
  have hld := ldN_lt v p
  unfold X5_mayGo
  have tb1 : X5_has (nI x) ((4 : Int32) + (nI p / (6 : Int32))) = if (x / 16).testBit (p / 6) then 1 else 0 := by
    rw [i_6, i_4, nI_div (by omega) (by omega) (by omega), nI_sum, has_spec (by omega) (by omega), bit4]
  have tb2 : X5_has (nI x) ((4 : Int32) + (nI p - nI p / (6 : Int32) * (6 : Int32))) = if (x / 16).testBit (p % 6) then 1 else 0 := by
    rw [i_6, i_4, nI_rem (by omega) (by omega) (by omega), nI_sum, has_spec (by omega) (by omega), bit4]
  have th : (if (if (x / 16).testBit (p / 6) then (1 : Int32) else 0) = 0 then (some ((nI x ^^^ (-1 : Int32)) &&& (15 : Int32))) else (some (nI x &&& (15 : Int32)))) = some (nI (if (x / 16).testBit (p / 6) then x % 16 else nd 15 (x % 16))) := by
    by_cases b : (x / 16).testBit (p / 6) = true
    · rw [if_pos b, if10, if_pos b, i_15, nI_and, show x &&& 15 = x % 16 from Nat.and_two_pow_sub_one_eq_mod x 4]
    · rw [if_neg b, if00, if_neg b, Int32.and_comm, i_15, nI_nd, nd15]
  rw [tb1, tb2, th, bind_s, rdI_nI hp (by omega), bind_s, hL p hp, has_spec (by omega) (by omega), nI_nd, nz_0, nz_1]
  by_cases c1 : (ldN v p).testBit c = true
  · rw [if_pos c1, if10]
    obtain ⟨d1, d2⟩ := ldN_bit.mp c1
    have hcs := opS_lt ((opN_bit _ _ _ _).mp d2)
    have key : ((if (x / 16).testBit (p / 6) = true then (1 : Int32) else 0) = if (x / 16).testBit (p % 6) = true then 1 else 0) ↔ tog (x / 16) (p / 6) (p % 6) := by
      unfold tog
      cases (x / 16).testBit (p / 6) <;> cases (x / 16).testBit (p % 6) <;> simp
    have key2 : nd c (if (x / 16).testBit (p / 6) then x % 16 else nd 15 (x % 16)) = 0 ↔ nd c (thS v x (p / 6)) = 0 := by
      unfold thS
      by_cases b : (x / 16).testBit (p / 6) = true
      · rw [if_pos b, if_pos b]
      · rw [if_neg b, if_neg b, nd_nd0, nd_nd0]
        have ball : ∀ w, c.testBit w = true → (15 : Nat).testBit w = true ∧ (allS v).testBit w = true := fun w hw => by
          have hb2 : w < ts v := by
            rcases Nat.lt_or_ge w (ts v) with q | q
            · exact q
            · have h2 : 2 ^ ts v ≤ 2 ^ w := Nat.pow_le_pow_right (by decide) q
              rw [Nat.testBit_lt_two_pow (by omega)] at hw
              cases hw
          have h4 := hv.2.1
          refine ⟨?_, ?_⟩
          · rw [show (15 : Nat) = 2 ^ 4 - 1 from rfl, Nat.testBit_two_pow_sub_one, decide_eq_true_eq]
            omega
          · unfold allS
            rw [Nat.testBit_two_pow_sub_one, decide_eq_true_eq]
            exact hb2
        exact ⟨fun h w hw => ⟨(ball w hw).2, (h w hw).2⟩, fun h w hw => ⟨(ball w hw).1, (h w hw).2⟩⟩
    by_cases c2 : tog (x / 16) (p / 6) (p % 6)
    · rw [if_pos (key.mpr c2)]
      have hndc := nd_le c (if (x / 16).testBit (p / 6) then x % 16 else nd 15 (x % 16))
      by_cases c3 : nd c (thS v x (p / 6)) = 0
      · rw [if_pos (show nI (nd c _) = 0 by rw [key2.mpr c3]; rfl), if_pos ⟨d1, c2, d2, c3⟩]
      · rw [if_neg (show ¬ nI (nd c _) = 0 by rw [i_0, nI_eq_iff (by omega) (by omega)]; exact fun w => c3 (key2.mp w)), if_neg (fun w => c3 w.2.2.2)]
    · rw [if_neg (fun w => c2 (key.mp w)), if_neg (fun w => c2 w.2.1)]
  · rw [if_neg c1, if00, if_neg (fun w => c1 (ldN_bit.mpr ⟨w.1, w.2.2.1⟩))]
/-- the model holds the way -/
def RM (A : xMem) (s : BS) : Prop := (∀ x, x < 1024 → A 13 x = nI (bd s x)) ∧ (∀ k, k < be s → A 14 k = nI (bl s k)) ∧ A 0 28 = nI (be s)
def RX (v : TV) (src : Nat → Prop) (k x : Nat) (J A : xMem) (s : BS) : Prop := RM A s ∧ mAg J A ∧ LD v A ∧ (∃ D, BI v src s k D) ∧ k < be s ∧ bl s k = x
theorem goOn_step (hv : vOk v) {src : Nat → Prop} {k x p c : Nat} {A : xMem} {s : BS} (h : RX v src k x J A s) (hp : p < 36) (hc : c < 16) (hl0 : ldN v p ≠ 0) (K : xMem → Option xMem) (fuel : Nat) : ∃ B, X5_goOnFrom_L2 (nI x) (nI p) K (fuel + 1) (nI c) A = X5_goOnFrom_L2 (nI x) (nI p) K fuel (nI (c + 1)) B ∧ RX v src k x J B (vis v x p c s) := by
  obtain ⟨⟨r1, r2, r3⟩, ag, hL, ⟨D, hB⟩, hk, hx⟩ := h
  have hxl : x < 1024 := by rw [← hx]; exact (hB.2.1 k hk).1
  have hxd : bd s x < 1024 := by
    have := (hB.2.1 k hk).2
    have := hB.e_le
    rw [← hx]
    omega
  have hld := ldN_lt v p
  have hBv := hB.vis hv hk p c
  rw [hx] at hBv
  have hg := vis_be v x p c s
  rw [X5_goOnFrom_L2]
  rw [if_neg (by rw [i_16, nI_le_iff (by omega) (by omega)]; omega), rdI_nI hp (by omega), bind_s, hL p hp, if_neg (by rw [i_0, nI_eq_iff (by omega) (by omega)]; exact hl0), mayGo_eq hv hL hxl hp hc, bind_s, show nI c + 1 = nI (c + 1) from nI_1 c]
  by_cases ho : eO v x p c
  · have hy := nx_lt hv hxl ho
    rw [if_pos ho, if10, behind_eq hp hc, rdI_nI hy (by omega), bind_s, r1 _ hy]
    have hdy : bd s (nx x p c) ≤ 9999 := by
      by_cases q : bd s (nx x p c) = 9999
      · omega
      · have := hB.lab hy q
        omega
    by_cases c2 : bd s (nx x p c) = 9999
    · have hlt := hB.e_lt hy c2
      rw [if_pos (show nI (bd s (nx x p c)) = 9999 by rw [c2]; rfl), rdI_nI hxl (by omega), bind_s, r1 _ hxl, i_1, nI_sum, wrI_nI hy (by omega), bind_s, wr_off (k := 13) A _ (show (0 : Nat) ≠ 13 ∨ 28 ≠ nx x p c by omega), r3, wrI_nI hlt (by omega), bind_s, bind_s, wr_off (k := 14) _ _ (show (0 : Nat) ≠ 14 ∨ 28 ≠ be s by omega), wr_off (k := 13) A _ (show (0 : Nat) ≠ 13 ∨ 28 ≠ nx x p c by omega), r3, nI_sum]
      refine ⟨_, rfl, ?_⟩
      rw [vis_y ⟨ho, c2⟩] at hBv hg ⊢
      refine ⟨⟨fun y hy2 => ?_, fun i hi => ?_, ?_⟩, fun a b q => ?_, fun a q => ?_, ⟨_, hBv⟩, by have := hg.1; omega, ?_⟩
      · show _ = nI (if y = nx x p c then bd s x + 1 else bd s y)
        rw [wr_off _ _ (by omega), wr_off _ _ (by omega), wr_at]
        by_cases e : y = nx x p c
        · rw [if_pos ⟨rfl, e⟩, if_pos e]
        · rw [if_neg (fun w => e w.2), if_neg e]
          exact r1 y hy2
      · show _ = nI (if i = be s then nx x p c else bl s i)
        have hi : i < be s + 1 := hi
        rw [wr_off _ _ (by omega), wr_at]
        by_cases e : i = be s
        · rw [if_pos ⟨rfl, e⟩, if_pos e]
        · rw [if_neg (fun w => e w.2), if_neg e, wr_off _ _ (by omega)]
          exact r2 i (by omega)
      · exact wr_eq _ _ _ _
      · unfold mX at q
        rw [wr_off _ _ (by omega), wr_off _ _ (by omega), wr_off _ _ (by omega)]
        exact ag a b (by unfold mX; omega)
      · rw [wr_off _ _ (by omega), wr_off _ _ (by omega), wr_off _ _ (by omega)]
        exact hL a q
      · exact (hg.2 k hk).trans hx
    · rw [if_neg (by rw [i_9999, nI_eq_iff (by omega) (by omega)]; exact c2)]
      have hn : ¬ (eO v x p c ∧ bd s (nx x p c) = 9999) := fun w => c2 w.2
      rw [vis_n hn] at hBv ⊢
      exact ⟨A, rfl, ⟨r1, r2, r3⟩, ag, hL, ⟨_, hBv⟩, hk, hx⟩
  · rw [if_neg ho, if00]
    have hn : ¬ (eO v x p c ∧ bd s (nx x p c) = 9999) := fun w => ho w.1
    rw [vis_n hn] at hBv ⊢
    exact ⟨A, rfl, ⟨r1, r2, r3⟩, ag, hL, ⟨_, hBv⟩, hk, hx⟩
theorem lvP_none {v : TV} {x p : Nat} (s : BS) (h : ∀ c, ¬ eO v x p c) : lvP v x p s = s := by
  have := foldF_inv (fun c s => vis v x p c s) (fun _ s' => s' = s) 16 0 s rfl (fun c s' _ _ e => by
    rw [e]
    exact vis_n (fun w => h c w.1))
  exact this
theorem goOn_P (hv : vOk v) {src : Nat → Prop} {k x p : Nat} {A : xMem} {s : BS} (h : RX v src k x J A s) (hp : p < 36) (K : xMem → Option xMem) : ∃ B, RX v src k x J B (lvP v x p s) ∧ X5_goOnFrom_L2 (nI x) (nI p) K bigF (nI 0) A = K B := by
  have hld := ldN_lt v p
  by_cases hl0 : ldN v p = 0
  · refine ⟨A, ?_, ?_⟩
    · rw [lvP_none s (fun c w => by
        have := ldN_bit.mpr ⟨w.1, w.2.2.1⟩
        rw [hl0, Nat.zero_testBit] at this
        cases this)]
      exact h
    · show X5_goOnFrom_L2 (nI x) (nI p) K (1999999 + 1) (nI 0) A = _
      rw [X5_goOnFrom_L2]
      rw [if_neg (by rw [i_16, nI_le_iff (by omega) (by omega)]; omega), rdI_nI hp (by omega), bind_s, h.2.2.1 p hp, if_pos (show nI (ldN v p) = 0 by rw [hl0]; rfl)]
  · obtain ⟨⟨B, s'⟩, ⟨h1, h2⟩, he⟩ := loop_I (fun fuel c (z : xMem × BS) => X5_goOnFrom_L2 (nI x) (nI p) K fuel (nI c) z.1) (fun z => K z.1) 16 (fun c z => RX v src k x J z.1 z.2 ∧ z.2 = foldF (fun c s => vis v x p c s) 0 c s)
      (fun fuel c z hc hI => by
        obtain ⟨B, b1, b2⟩ := goOn_step hv hI.1 hp hc hl0 K fuel
        refine ⟨(B, vis v x p c z.2), b1, b2, ?_⟩
        show vis v x p c z.2 = _
        rw [foldF_succ, hI.2, Nat.zero_add])
      (fun fuel z hI => by
        show X5_goOnFrom_L2 (nI x) (nI p) K (fuel + 1) (nI 16) z.1 = _
        rw [X5_goOnFrom_L2]
        rw [if_pos (by rw [i_16]; exact Int32.le_refl _)])
      16 bigF 0 (A, s) (by omega) (bigF_gt (by omega)) ⟨h, rfl⟩
    have h2 : s' = lvP v x p s := h2
    refine ⟨B, ?_, he⟩
    rw [← h2]
    exact h1
theorem goOn_eq (hv : vOk v) {src : Nat → Prop} {k x : Nat} {s : BS} (h : RX v src k x J J s) : ∃ B, X5_goOnFrom J (nI x) = some B ∧ RX v src k x J B (lv v x s) := by
  unfold X5_goOnFrom
  obtain ⟨⟨B, s'⟩, ⟨h1, h2⟩, he⟩ := loop_I (fun fuel p (z : xMem × BS) => X5_goOnFrom_L1 (nI x) (fun I4 => some I4) fuel (nI p) z.1) (fun z => some z.1) 36 (fun p z => RX v src k x J z.1 z.2 ∧ z.2 = foldF (fun p s => lvP v x p s) 0 p s)
    (fun fuel p z hp hI => by
      obtain ⟨B, b1, b2⟩ := goOn_P hv hI.1 hp (fun I9 => X5_goOnFrom_L1 (nI x) (fun I4 => some I4) fuel (nI p + 1) I9)
      refine ⟨(B, lvP v x p z.2), ?_, b1, ?_⟩
      · show X5_goOnFrom_L1 (nI x) _ (fuel + 1) (nI p) z.1 = _
        rw [X5_goOnFrom_L1]
        rw [if_neg (by rw [i_36, nI_le_iff (by omega) (by omega)]; omega)]
        rw [show nI p + 1 = nI (p + 1) from nI_1 p] at b2 ⊢
        exact b2
      · show lvP v x p z.2 = _
        rw [foldF_succ, hI.2, Nat.zero_add])
    (fun fuel z hI => by
      show X5_goOnFrom_L1 (nI x) _ (fuel + 1) (nI 36) z.1 = _
      rw [X5_goOnFrom_L1]
      rw [if_pos (by rw [i_36]; exact Int32.le_refl _)])
    36 bigF 0 (J, s) (by omega) (bigF_gt (by omega)) ⟨h, rfl⟩
  have h2 : s' = lv v x s := h2
  refine ⟨B, he, ?_⟩
  rw [← h2]
  exact h1
end FAR
