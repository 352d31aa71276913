/-! FEWEST GOES: the class's places, who is at the top + 64 times which stones are there -/
def pl (x : Nat) : Nat := x / 16 + 64 * (x % 16)
theorem pl_lt {x : Nat} (h : x < 1024) : pl x < 1024 := by
  unfold pl
  omega
theorem pl_inj {x y : Nat} (hx : x < 1024) (hy : y < 1024) (h : pl x = pl y) : x = y := by
  unfold pl at h
  omega
theorem comb64 (a b c d : Nat) (hb : b < 64) (hd : d < 64) : (64 * a + b) ^^^ (64 * c + d) = 64 * (a ^^^ c) + (b ^^^ d) := by
  have h1 : b ^^^ d < 2 ^ 6 := Nat.xor_lt_two_pow (n := 6) hb hd
  apply Nat.eq_of_testBit_eq
  intro k
  have e1 := Nat.testBit_two_pow_mul_add a (b := b) (i := 6) hb k
  have e2 := Nat.testBit_two_pow_mul_add c (b := d) (i := 6) hd k
  have e3 := Nat.testBit_two_pow_mul_add (a ^^^ c) (b := b ^^^ d) (i := 6) h1 k
  rw [show (2 : Nat) ^ 6 = 64 from rfl] at e1 e2 e3
  rw [Nat.testBit_xor, e1, e2, e3]
  by_cases q : k < 6
  · simp only [if_pos q, Nat.testBit_xor]
  · simp only [if_neg q, Nat.testBit_xor]
theorem pl_nx {x p c : Nat} (hx : x < 1024) (hp : pr (p / 6) (p % 6) < 64) (hc : c < 16) : (pl x ^^^ pr (p / 6) (p % 6)) ^^^ (64 * c) = pl (nx x p c) := by
  have h1 : (x / 16) ^^^ pr (p / 6) (p % 6) < 64 := Nat.xor_lt_two_pow (n := 6) (by omega) hp
  have e : pl x = 64 * (x % 16) + x / 16 := by
    unfold pl
    omega
  have e2 : pl (nx x p c) = 64 * ((x % 16) ^^^ c) + ((x / 16) ^^^ pr (p / 6) (p % 6)) := by
    unfold pl
    rw [nx_div hc, nx_mod hc]
    omega
  have a := comb64 (x % 16) (x / 16) 0 (pr (p / 6) (p % 6)) (by omega) hp
  have b := comb64 (x % 16) ((x / 16) ^^^ pr (p / 6) (p % 6)) c 0 h1 (by omega)
  rw [Nat.mul_zero, Nat.zero_add, Nat.xor_zero] at a
  rw [Nat.add_zero, Nat.xor_zero] at b
  rw [e, a, b, e2]
/-- the class holds the way -/
def RC (A : xMem) (s : BS) : Prop := (∀ x, x < 1024 → A 41 (pl x) = if bd s x = 9999 then -9 else nI (bd s x)) ∧ (∀ x, x < 1024 → bd s x ≠ 9999 → A 42 (pl x) = if bd s x = 0 then -9 else nI (bf s x)) ∧ (∀ k, k < be s → A 43 k = nI (pl (bl s k))) ∧ A 39 5 = nI (be s)
/-- cells that the way leaves alone -/
def fAg (I I' : xMem) : Prop := ∀ k j, k ≠ 41 → k ≠ 42 → k ≠ 43 → (k ≠ 39 ∨ j ≠ 5) → I' k j = I k j
theorem fAg.rf (I : xMem) : fAg I I := fun _ _ _ _ _ _ => rfl
theorem fAg.tr {A B C : xMem} (h : fAg A B) (g : fAg B C) : fAg A C := fun k j q1 q2 q3 q4 => (g k j q1 q2 q3 q4).trans (h k j q1 q2 q3 q4)
theorem fAg.c {I I' : xMem} (h : fAg I I') : cAg I I' := fun k j q => h k j (by unfold cX at q; omega) (by unfold cX at q; omega) (by unfold cX at q; omega) (by unfold cX at q; omega)
theorem wCl.f {v : TV} {I I' : xMem} (h : wCl v I) (g : fAg I I') : wCl v I' := ⟨by rw [g _ _ (by omega) (by omega) (by omega) (by omega)]; exact h.1, fun i j a b => by rw [g _ _ (by omega) (by omega) (by omega) (by omega)]; exact h.2 i j a b⟩
def CX (v : TV) (src : Nat → Prop) (k x : Nat) (I A : xMem) (s : BS) : Prop := RC A s ∧ fAg I A ∧ (∃ D, BI v src s k D) ∧ k < be s ∧ bl s k = x
section FA4
variable {I : xMem} {P : Nat} {v : TV}
theorem reach_eq (hv : vOk v) {src : Nat → Prop} {k x p c : Nat} {A : xMem} {s : BS} (h : CX v src k x I A s) (ho : eO v x p c) : ∃ B, X3_reach A (nI (pl (nx x p c))) (nI (bd s x + 1)) (nI (fp s x p)) = some B ∧ CX v src k x I B (vis v x p c s) ∧ bd (vis v x p c s) x = bd s x ∧ fp (vis v x p c s) x p = fp s x p := by
  obtain ⟨⟨r1, r2, r3, r4⟩, ag, ⟨D, hB⟩, hk, hx⟩ := h
  have hxl : x < 1024 := by rw [← hx]; exact (hB.2.1 k hk).1
  have hxd : bd s x < 1024 := by
    have := (hB.2.1 k hk).2
    have := hB.e_le
    rw [← hx]
    omega
  have hy := nx_lt hv hxl ho
  have hply := pl_lt hy
  have hBv := hB.vis hv hk p c
  rw [hx] at hBv
  have hg := vis_be v x p c s
  unfold X3_reach
  rw [rdI_nI hply (by omega), bind_s, r1 _ hy]
  by_cases c2 : bd s (nx x p c) = 9999
  · have hlt := hB.e_lt hy c2
    have hne : x ≠ nx x p c := fun w => by
      rw [← w] at c2
      omega
    rw [if_pos (show (if bd s (nx x p c) = 9999 then (-9 : Int32) else nI (bd s (nx x p c))) = -9 from if_pos c2), r4, if_neg (show ¬ (1024 : Int32) ≤ nI (be s) by rw [show (1024 : Int32) = nI 1024 from rfl, nI_le_iff (by omega) (by omega)]; omega), wrI_nI hply (by omega), bind_s, wrI_nI hply (by omega), bind_s, show (wr (wr A 41 (pl (nx x p c)) (nI (bd s x + 1))) 42 (pl (nx x p c)) (nI (fp s x p))) 39 5 = nI (be s) from (wr_off _ _ (by omega)).trans ((wr_off _ _ (by omega)).trans r4), wrI_nI hlt (by omega), bind_s, bind_s, show (wr (wr (wr A 41 (pl (nx x p c)) (nI (bd s x + 1))) 42 (pl (nx x p c)) (nI (fp s x p))) 43 (be s) (nI (pl (nx x p c)))) 39 5 = nI (be s) from (wr_off _ _ (by omega)).trans ((wr_off _ _ (by omega)).trans ((wr_off _ _ (by omega)).trans r4)), i_1, nI_sum]
    refine ⟨_, rfl, ?_⟩
    rw [vis_y ⟨ho, c2⟩] at hBv hg ⊢
    refine ⟨⟨⟨fun y hy2 => ?_, fun y hy2 hd => ?_, fun i hi => ?_, wr_eq _ _ _ _⟩, fun a b q1 q2 q3 q4 => ?_, ⟨_, hBv⟩, by have := hg.1; omega, (hg.2 k hk).trans hx⟩, if_neg hne, ?_⟩
    · show _ = if (if y = nx x p c then bd s x + 1 else bd s y) = 9999 then -9 else nI (if y = nx x p c then bd s x + 1 else bd s y)
      rw [wr_off _ _ (by omega), wr_off _ _ (by omega), wr_off _ _ (by omega), wr_at]
      by_cases e : y = nx x p c
      · rw [if_pos ⟨rfl, by rw [e]⟩, if_pos e, if_neg (by omega)]
      · rw [if_neg (fun w => e (pl_inj hy2 hy w.2)), if_neg e]
        exact r1 y hy2
    · have hd : (if y = nx x p c then bd s x + 1 else bd s y) ≠ 9999 := hd
      show _ = if (if y = nx x p c then bd s x + 1 else bd s y) = 0 then -9 else nI (if y = nx x p c then fp s x p else bf s y)
      rw [wr_off _ _ (by omega), wr_off _ _ (by omega), wr_at]
      by_cases e : y = nx x p c
      · rw [if_pos ⟨rfl, by rw [e]⟩, if_pos e, if_pos e, if_neg (by omega)]
      · rw [if_neg e] at hd
        rw [if_neg (fun w => e (pl_inj hy2 hy w.2)), if_neg e, if_neg e, wr_off _ _ (by omega)]
        exact r2 y hy2 hd
    · show _ = nI (pl (if i = be s then nx x p c else bl s i))
      have hi : i < be s + 1 := hi
      rw [wr_off _ _ (by omega), wr_at]
      by_cases e : i = be s
      · rw [if_pos ⟨rfl, e⟩, if_pos e]
      · rw [if_neg (fun w => e w.2), if_neg e, wr_off _ _ (by omega), wr_off _ _ (by omega)]
        exact r3 i (by omega)
    · rw [wr_off _ _ (by omega), wr_off _ _ (by omega), wr_off _ _ (by omega), wr_off _ _ (by omega)]
      exact ag a b q1 q2 q3 q4
    · show (if (if x = nx x p c then bd s x + 1 else bd s x) = 0 then p else (if x = nx x p c then fp s x p else bf s x)) = fp s x p
      rw [if_neg hne, if_neg hne]
      rfl
  · have hdy := hB.lab hy c2
    rw [if_neg (show ¬ (if bd s (nx x p c) = 9999 then (-9 : Int32) else nI (bd s (nx x p c))) = -9 by
      rw [if_neg c2]
      intro w
      have := congrArg Int32.toInt w
      rw [nI_toInt (by omega), show (-9 : Int32).toInt = -9 from rfl] at this
      omega)]
    have hn : ¬ (eO v x p c ∧ bd s (nx x p c) = 9999) := fun w => c2 w.2
    rw [vis_n hn] at hBv ⊢
    exact ⟨A, rfl, ⟨⟨r1, r2, r3, r4⟩, ag, ⟨_, hBv⟩, hk, hx⟩, rfl, rfl⟩
theorem foldvis_none {v : TV} {x p : Nat} : ∀ (m c : Nat) (s : BS), (∀ c', c ≤ c' → c' < c + m → ¬ eO v x p c') → foldF (fun c s => vis v x p c s) c m s = s
  | 0, _, _, _ => rfl
  | m + 1, c, s, h => by
    show foldF _ (c + 1) m (vis v x p c s) = s
    rw [vis_n (fun w => h c (by omega) (by omega) w.1)]
    exact foldvis_none m (c + 1) s (fun c' a b => h c' (by omega) (by omega))
theorem leaveBy_eq (hv : vOk v) (hw : wCl v I) {src : Nat → Prop} {k x i j : Nat} {A : xMem} {s : BS} (h : CX v src k x I A s) (hij : i < j) (hj : j < tn v) (ht : tog (x / 16) i j) : ∃ B, X3_leaveBy A (nI (pl x)) (nI (6 * i + j)) (nI (thS v x i)) = some B ∧ CX v src k x I B (lvP v x (6 * i + j) s) := by
  have h6 := hv.1
  have hxl : x < 1024 := by
    obtain ⟨-, -, ⟨D, hB⟩, hk, hx⟩ := h
    rw [← hx]
    exact (hB.2.1 k hk).1
  have hxd : bd s x < 1024 := by
    obtain ⟨-, -, ⟨D, hB⟩, hk, hx⟩ := h
    have := (hB.2.1 k hk).2
    have := hB.e_le
    rw [← hx]
    omega
  have hplx := pl_lt hxl
  have e1 : (6 * i + j) / 6 = i := by omega
  have e2 : (6 * i + j) % 6 = j := by omega
  have hth : thS v x i < 16 := by
    unfold thS
    split
    · omega
    · have := nd_le (allS v) (x % 16)
      have := allS_lt hv
      omega
  have hpr : pr i j < 64 := pr_lt (n := 6) (by omega) (by omega)
  have ho := opN_lt v i j
  have eOi : ∀ c, eO v x (6 * i + j) c ↔ ((opN v i j).testBit c = true ∧ nd c (thS v x i) = 0) := fun c => by
    rw [eO, e1, e2]
    exact ⟨fun w => w.2.2, fun w => ⟨⟨hij, hj⟩, ht, w⟩⟩
  have hwA := hw.f h.2.1
  unfold X3_leaveBy
  have rd41 : ∀ {B : xMem} {s' : BS}, CX v src k x I B s' → rdI B 41 1024 (nI (pl x)) = some (nI (bd s' x)) := fun {B s'} hh => by
    have hd : bd s' x ≠ 9999 := by
      obtain ⟨-, -, ⟨D, hB⟩, hk, hx⟩ := hh
      have := (hB.2.1 k hk).2
      have := hB.e_le
      rw [← hx]
      omega
    rw [rdI_nI hplx (by omega), hh.1.1 x hxl, if_neg hd]
  rw [rd41 h, bind_s]
  have eq2 : (if nI (bd s x) = (0 : Int32) then (some (nI (6 * i + j))) else ((rdI A 42 1024 (nI (pl x))).bind fun v4 => some v4)) = some (nI (fp s x (6 * i + j))) := by
    unfold fp
    by_cases c : bd s x = 0
    · rw [if_pos (by rw [c]; rfl), if_pos c]
    · rw [if_neg (by rw [i_0, nI_eq_iff (by omega) (by omega)]; exact c), if_neg c, rdI_nI hplx (by omega), bind_s, h.1.2.1 x hxl (by omega), if_neg c]
  rw [eq2, bind_s, rdI_nI (by omega) (by omega), bind_s, hwA.2 i j hij hj]
  obtain ⟨B, b1, b2⟩ := loop_T (fun fuel c (z : xMem × BS) => X3_leaveBy_L1 (nI (pl x)) (nI (6 * i + j)) (nI (thS v x i)) (nI (fp s x (6 * i + j))) (nI (opN v i j)) (fun I10 => some I10) fuel (nI c) z.1) (fun o => ∃ B, CX v src k x I B (lvP v x (6 * i + j) s) ∧ o = some B) 16 (fun c z => CX v src k x I z.1 z.2 ∧ z.2 = foldF (fun c s => vis v x (6 * i + j) c s) 0 c s ∧ bd z.2 x = bd s x ∧ fp z.2 x (6 * i + j) = fp s x (6 * i + j))
    (fun fuel c z hc hI => by
      obtain ⟨A, s'⟩ := z
      obtain ⟨g1, g2, g3, g4⟩ := hI
      have g1 : CX v src k x I A s' := g1
      have g2 : s' = foldF (fun c s => vis v x (6 * i + j) c s) 0 c s := g2
      have g3 : bd s' x = bd s x := g3
      have g4 : fp s' x (6 * i + j) = fp s x (6 * i + j) := g4
      show (∃ B, _ ∧ X3_leaveBy_L1 (nI (pl x)) (nI (6 * i + j)) (nI (thS v x i)) (nI (fp s x (6 * i + j))) (nI (opN v i j)) _ (fuel + 1) (nI c) A = some B) ∨ ∃ z', X3_leaveBy_L1 (nI (pl x)) (nI (6 * i + j)) (nI (thS v x i)) (nI (fp s x (6 * i + j))) (nI (opN v i j)) _ (fuel + 1) (nI c) A = _ ∧ _
      rw [X3_leaveBy_L1]
      have hdiv : (opN v i j) / 2 ^ c < 2 ^ 31 := Nat.lt_of_le_of_lt (Nat.div_le_self _ _) (by omega)
      have tb := tb_div (opN v i j) c
      rw [if_neg (by rw [i_16, nI_le_iff (by omega) (by omega)]; omega), nI_shr (by omega) (by omega), nI_nd]
      have hnd := nd_le c (thS v x i)
      by_cases c1 : opN v i j / 2 ^ c = 0
      · left
        rw [if_pos (by rw [c1]; rfl)]
        refine ⟨A, ?_, rfl⟩
        have e : lvP v x (6 * i + j) s = s' := by
          unfold lvP
          rw [show 16 = c + (16 - c) by omega, foldF_add, ← g2]
          refine foldvis_none _ _ _ (fun c' a b w => ?_)
          have hb := ((eOi c').mp w).1
          have hlt : (opN v i j) < 2 ^ c := (Nat.div_eq_zero_iff_lt (Nat.pos_of_ne_zero (by simp))).mp c1
          have h2 : 2 ^ c ≤ 2 ^ c' := Nat.pow_le_pow_right (by decide) (by omega)
          rw [Nat.testBit_lt_two_pow (by omega)] at hb
          cases hb
        rw [e]
        exact g1
      · right
        rw [if_neg (by rw [i_0, nI_eq_iff hdiv (by omega)]; exact c1), i_1, nI_and, Nat.and_one_is_mod]
        by_cases c2 : (opN v i j).testBit c = true
        · rw [c2] at tb
          have tb2 : opN v i j / 2 ^ c % 2 = 1 := by simpa using tb.symm
          by_cases c3 : nd c (thS v x i) = 0
          · have hoo := (eOi c).mpr ⟨c2, c3⟩
            obtain ⟨B, b1, b2, b3, b4⟩ := reach_eq hv g1 hoo
            rw [if_pos (by rw [tb2]), if_pos (show nI (nd c (thS v x i)) = 0 by rw [c3]; rfl), rd41 g1, bind_s, nI_sum, i_6, nI_rem (by omega) (by omega) (by omega), nI_div (by omega) (by omega) (by omega), e1, e2, nI_pow (by omega), nI_pow (by omega), nI_or, show 2 ^ i ||| 2 ^ j = pr i j from rfl, nI_xor, i_64, nI_mul, nI_xor]
            have epl := pl_nx (x := x) (p := 6 * i + j) (c := c) hxl (by rw [e1, e2]; exact hpr) hc
            rw [e1, e2] at epl
            rw [epl, ← g4, b1, bind_s, nI_sum, g4]
            refine ⟨(B, vis v x (6 * i + j) c s'), rfl, b2, ?_, b3.trans g3, b4.trans g4⟩
            show vis v x (6 * i + j) c s' = _
            rw [foldF_succ, ← g2, Nat.zero_add]
          · rw [if_pos (by rw [tb2]), if_neg (show ¬ nI (nd c (thS v x i)) = 0 by rw [i_0, nI_eq_iff (by omega) (by omega)]; exact c3), nI_sum]
            refine ⟨(A, s'), rfl, g1, ?_, g3, g4⟩
            show s' = _
            rw [foldF_succ, ← g2, Nat.zero_add, vis_n (fun w => c3 ((eOi c).mp w.1).2)]
        · have tb2 : ¬ opN v i j / 2 ^ c % 2 = 1 := by
            intro w
            rw [w] at tb
            exact c2 (by simpa using tb)
          rw [if_neg (by rw [nI_eq_iff (by omega) (by omega)]; exact tb2), nI_sum]
          refine ⟨(A, s'), rfl, g1, ?_, g3, g4⟩
          show s' = _
          rw [foldF_succ, ← g2, Nat.zero_add, vis_n (fun w => c2 ((eOi c).mp w.1).1)])
    (fun fuel z hI => by
      obtain ⟨A, s'⟩ := z
      show ∃ B, _ ∧ X3_leaveBy_L1 (nI (pl x)) (nI (6 * i + j)) (nI (thS v x i)) (nI (fp s x (6 * i + j))) (nI (opN v i j)) _ (fuel + 1) (nI 16) A = some B
      rw [X3_leaveBy_L1]
      rw [if_pos (by rw [i_16]; exact Int32.le_refl _)]
      refine ⟨A, ?_, rfl⟩
      have e : s' = lvP v x (6 * i + j) s := hI.2.1
      rw [← e]
      exact hI.1)
    16 bigF 0 (A, s) (by omega) (bigF_gt (by omega)) ⟨h, rfl, rfl, rfl⟩
  exact ⟨B, b2, b1⟩
theorem foldlv_none {v : TV} {x : Nat} : ∀ (m p : Nat) (s : BS), (∀ p', p ≤ p' → p' < p + m → ∀ c, ¬ eO v x p' c) → foldF (fun p s => lvP v x p s) p m s = s
  | 0, _, _, _ => rfl
  | m + 1, p, s, h => by
    show foldF _ (p + 1) m (lvP v x p s) = s
    rw [lvP_none s (h p (by omega) (by omega))]
    exact foldlv_none m (p + 1) s (fun c' a b => h c' (by omega) (by omega))
theorem leave_eq (hv : vOk v) (hw : wCl v I) {src : Nat → Prop} {k x : Nat} {s : BS} (h : CX v src k x I I s) : ∃ B, X3_leave I (nI (pl x)) (nI (allS v)) = some B ∧ CX v src k x I B (lv v x s) := by
  have h6 := hv.1
  have hxl : x < 1024 := by
    obtain ⟨-, -, ⟨D, hB⟩, hk, hx⟩ := h
    rw [← hx]
    exact (hB.2.1 k hk).1
  have hplx := pl_lt hxl
  have em : pl x % 64 = x / 16 := by
    unfold pl
    omega
  have ed : pl x / 64 = x % 16 := by
    unfold pl
    omega
  have est : ∀ i, i < tn v → X3_stonesAt (nI (x / 16)) (nI i) (nI (x % 16)) (nI (allS v)) = nI (thS v x i) := fun i hi => by
    unfold X3_stonesAt thS
    rw [i_1, nI_ndN]
    by_cases c : (x / 16).testBit i = true
    · rw [if_pos ((nI_bit1 (by omega) (by omega)).mpr c), if_pos c]
    · rw [if_neg (fun w => c ((nI_bit1 (by omega) (by omega)).mp w)), if_neg c]
  have inner : ∀ (K : xMem → Option xMem) (i : Nat) (A : xMem), i < tn v → CX v src k x I A (foldF (fun p s => lvP v x p s) 0 (6 * i) s) → ∃ B, CX v src k x I B (foldF (fun p s => lvP v x p s) 0 (6 * (i + 1)) s) ∧ X3_leave_L2 (nI (pl x)) (nI (allS v)) (nI i) K bigF (nI (i + 1)) A = K B := by
    intro K i A hi hA
    obtain ⟨B, hB, he⟩ := loop_I (fun fuel j (A : xMem) => X3_leave_L2 (nI (pl x)) (nI (allS v)) (nI i) K fuel (nI j) A) K (tn v) (fun j A => i + 1 ≤ j ∧ CX v src k x I A (foldF (fun p s => lvP v x p s) 0 (6 * i + j) s))
      (fun fuel j A hj hI => by
        obtain ⟨g1, g2⟩ := hI
        have hwA := hw.f g2.2.1
        show ∃ s', X3_leave_L2 (nI (pl x)) (nI (allS v)) (nI i) K (fuel + 1) (nI j) A = _ ∧ _
        rw [X3_leave_L2]
        rw [hwA.1, if_neg (by rw [nI_le_iff (by omega) (by omega)]; omega), i_64, nI_rem (by omega) (by omega) (by omega), nI_div (by omega) (by omega) (by omega), em, ed, tog_c (by omega) (by omega) (by omega), est i hi, show nI j + 1 = nI (j + 1) from nI_1 j, i_6, nI_mul, nI_sum]
        have es : foldF (fun p s => lvP v x p s) 0 (6 * i + (j + 1)) s = lvP v x (6 * i + j) (foldF (fun p s => lvP v x p s) 0 (6 * i + j) s) := by
          rw [← Nat.add_assoc, foldF_succ, Nat.zero_add]
        by_cases c : tog (x / 16) i j
        · obtain ⟨B, b1, b2⟩ := leaveBy_eq hv hw g2 (by omega) hj c
          rw [if_pos c, if10, b1, bind_s]
          exact ⟨B, rfl, by omega, by rw [es]; exact b2⟩
        · rw [if_neg c, if00]
          refine ⟨A, rfl, by omega, ?_⟩
          rw [es, lvP_none _ (fun c' w => c (by
            have := w.2.1
            rw [show (6 * i + j) / 6 = i by omega, show (6 * i + j) % 6 = j by omega] at this
            exact this))]
          exact g2)
      (fun fuel A hI => by
        have hwA := hw.f hI.2.2.1
        show X3_leave_L2 (nI (pl x)) (nI (allS v)) (nI i) K (fuel + 1) (nI (tn v)) A = _
        rw [X3_leave_L2]
        rw [hwA.1, if_pos (Int32.le_refl _)])
      (tn v - (i + 1)) bigF (i + 1) A (by omega) (bigF_gt (by omega)) ⟨by omega, by
        rw [foldF_add, foldlv_none (i + 1) _ _ (fun p' a b c w => by
          have := w.1
          omega)]
        exact hA⟩
    refine ⟨B, ?_, he⟩
    rw [show 6 * (i + 1) = (6 * i + tn v) + (6 - tn v) by omega, foldF_add, foldlv_none (6 - tn v) _ _ (fun p' a b c w => by
      have := w.1
      omega)]
    exact hB.2
  unfold X3_leave
  obtain ⟨B, hB, he⟩ := loop_I (fun fuel i (A : xMem) => X3_leave_L1 (nI (pl x)) (nI (allS v)) (fun I4 => some I4) fuel (nI i) A) (fun A => some A) (tn v) (fun i A => CX v src k x I A (foldF (fun p s => lvP v x p s) 0 (6 * i) s))
    (fun fuel i A hi hI => by
      have hwA := hw.f hI.2.1
      obtain ⟨B, b1, b2⟩ := inner (fun I9 => X3_leave_L1 (nI (pl x)) (nI (allS v)) (fun I4 => some I4) fuel (nI i + 1) I9) i A hi hI
      refine ⟨B, ?_, b1⟩
      show X3_leave_L1 (nI (pl x)) (nI (allS v)) _ (fuel + 1) (nI i) A = _
      rw [X3_leave_L1]
      rw [hwA.1, if_neg (by rw [nI_le_iff (by omega) (by omega)]; omega)]
      rw [show nI i + 1 = nI (i + 1) from nI_1 i] at b2 ⊢
      exact b2)
    (fun fuel A hI => by
      have hwA := hw.f hI.2.1
      show X3_leave_L1 (nI (pl x)) (nI (allS v)) _ (fuel + 1) (nI (tn v)) A = _
      rw [X3_leave_L1]
      rw [hwA.1, if_pos (Int32.le_refl _)])
    (tn v) bigF 0 I (by omega) (bigF_gt (by omega)) h
  refine ⟨B, he, ?_⟩
  unfold lv
  rw [show 36 = 6 * tn v + (36 - 6 * tn v) by omega, foldF_add, foldlv_none (36 - 6 * tn v) _ _ (fun p' a b c w => by
    have := w.1
    omega)]
  exact hB
end FA4
