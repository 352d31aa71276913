/-! FEWEST GOES: places 16 * who is at the top + which stones are there; all in their order -/
def nx (x p c : Nat) : Nat := 16 * ((x / 16) ^^^ pr (p / 6) (p % 6)) + ((x % 16) ^^^ c)
/-- the stones at one's end -/
def thS (v : TV) (x i : Nat) : Nat := if (x / 16).testBit i then x % 16 else nd (allS v) (x % 16)
abbrev eO (v : TV) (x p c : Nat) : Prop := (p / 6 < p % 6 ∧ p % 6 < tn v) ∧ tog (x / 16) (p / 6) (p % 6) ∧ (opN v (p / 6) (p % 6)).testBit c = true ∧ nd c (thS v x (p / 6)) = 0
abbrev BS : Type := (Nat → Nat) × (Nat → Nat) × (Nat → Nat) × Nat
abbrev bd (s : BS) : Nat → Nat := s.1
abbrev bf (s : BS) : Nat → Nat := s.2.1
abbrev bl (s : BS) : Nat → Nat := s.2.2.1
abbrev be (s : BS) : Nat := s.2.2.2
/-- the first pair that goes, for what comes from x by p -/
def fp (s : BS) (x p : Nat) : Nat := if bd s x = 0 then p else bf s x
def vis (v : TV) (x p c : Nat) (s : BS) : BS := if eO v x p c ∧ bd s (nx x p c) = 9999 then (fun y => if y = nx x p c then bd s x + 1 else bd s y, fun y => if y = nx x p c then fp s x p else bf s y, fun k => if k = be s then nx x p c else bl s k, be s + 1) else s
theorem vis_y {v : TV} {x p c : Nat} {s : BS} (h : eO v x p c ∧ bd s (nx x p c) = 9999) : vis v x p c s = (fun y => if y = nx x p c then bd s x + 1 else bd s y, fun y => if y = nx x p c then fp s x p else bf s y, fun k => if k = be s then nx x p c else bl s k, be s + 1) := if_pos h
theorem vis_n {v : TV} {x p c : Nat} {s : BS} (h : ¬ (eO v x p c ∧ bd s (nx x p c) = 9999)) : vis v x p c s = s := if_neg h
def lvP (v : TV) (x p : Nat) (s : BS) : BS := foldF (fun c s => vis v x p c s) 0 16 s
def lv (v : TV) (x : Nat) (s : BS) : BS := foldF (fun p s => lvP v x p s) 0 36 s
def WK (v : TV) (src : Nat → Prop) : Nat → Nat → Prop
  | 0, y => src y
  | n + 1, y => ∃ x p c, WK v src n x ∧ eO v x p c ∧ y = nx x p c
theorem eO_c {v : TV} {x p c : Nat} (hv : vOk v) (h : eO v x p c) : c < 2 ^ ts v := opS_lt ((opN_bit _ _ _ _).mp h.2.2.1)
theorem eO_c16 {v : TV} {x p c : Nat} (hv : vOk v) (h : eO v x p c) : c < 16 := Nat.lt_of_lt_of_le (eO_c hv h) (p2s hv)
theorem eO_p {v : TV} {x p c : Nat} (hv : vOk v) (h : eO v x p c) : p < 36 := by
  have h6 := hv.1
  have := h.1
  omega
theorem nx_div {x p c : Nat} (hc : c < 16) : nx x p c / 16 = (x / 16) ^^^ pr (p / 6) (p % 6) := by
  have h1 : (x % 16) ^^^ c < 16 := Nat.xor_lt_two_pow (n := 4) (by omega) hc
  unfold nx
  omega
theorem nx_mod {x p c : Nat} (hc : c < 16) : nx x p c % 16 = (x % 16) ^^^ c := by
  have h1 : (x % 16) ^^^ c < 16 := Nat.xor_lt_two_pow (n := 4) (by omega) hc
  unfold nx
  omega
theorem nx_lt {v : TV} {x p c : Nat} (hv : vOk v) (hx : x < 1024) (h : eO v x p c) : nx x p c < 1024 := by
  have h6 := hv.1
  have hc := eO_c16 hv h
  have hh := h.1
  have h2 : (x / 16) ^^^ pr (p / 6) (p % 6) < 64 := xp_lt (n := 6) (by omega) (by omega) (by omega)
  have h1 : (x % 16) ^^^ c < 16 := Nat.xor_lt_two_pow (n := 4) (by omega) hc
  unfold nx
  omega
theorem xor_back (a b : Nat) : (a ^^^ b) ^^^ b = a := by rw [Nat.xor_assoc, Nat.xor_self, Nat.xor_zero]
/-- one can go back -/
theorem eO_back {v : TV} {x p c : Nat} (hv : vOk v) (h : eO v x p c) : eO v (nx x p c) p c ∧ nx (nx x p c) p c = x := by
  have h6 := hv.1
  have hc := eO_c hv h
  have hc16 := eO_c16 hv h
  obtain ⟨h1, h2, h3, h4⟩ := h
  have bi : (pr (p / 6) (p % 6)).testBit (p / 6) = true := (pr_bit _ _ _).mpr (Or.inl rfl)
  have bj : (pr (p / 6) (p % 6)).testBit (p % 6) = true := (pr_bit _ _ _).mpr (Or.inr rfl)
  refine ⟨⟨h1, ?_, h3, ?_⟩, ?_⟩
  · unfold tog at h2 ⊢
    rw [nx_div hc16, Nat.testBit_xor, Nat.testBit_xor, bi, bj, h2]
  · unfold thS at h4 ⊢
    rw [nx_div hc16, nx_mod hc16, Nat.testBit_xor, bi]
    rw [nd_0] at h4 ⊢
    intro b hb
    have hb2 : b < ts v := by
      rcases Nat.lt_or_ge b (ts v) with w | w
      · exact w
      · have h2 : 2 ^ ts v ≤ 2 ^ b := Nat.pow_le_pow_right (by decide) w
        rw [Nat.testBit_lt_two_pow (by omega)] at hb
        cases hb
    have hall : (allS v).testBit b = true := by
      unfold allS
      rw [Nat.testBit_two_pow_sub_one, decide_eq_true_eq]
      exact hb2
    have := h4 b hb
    cases q : (x / 16).testBit (p / 6)
    · rw [q] at this
      simp only [Bool.false_eq_true, if_false, nd_bit] at this
      simp only [Bool.false_bne, Bool.true_bne, Bool.not_false, Bool.not_true, Bool.bne_true, if_true, Nat.testBit_xor, hb]
      simp at this
      simp [this]
    · rw [q] at this
      simp only [if_true] at this
      simp only [bne_self_eq_false, Bool.false_eq_true, if_false, nd_bit, hall, Nat.testBit_xor, hb, this]
      decide
  · have e1 := nx_div (x := x) (p := p) hc16
    have e2 := nx_mod (x := x) (p := p) hc16
    show 16 * ((nx x p c / 16) ^^^ pr (p / 6) (p % 6)) + ((nx x p c % 16) ^^^ c) = x
    rw [e1, e2, xor_back, xor_back]
    omega
theorem WK_pre {v : TV} {x p c : Nat} (h : eO v x p c) : ∀ (n : Nat) {y : Nat}, WK v (fun z => z = nx x p c) n y → WK v (fun z => z = x) (n + 1) y
  | 0, y, w => ⟨x, p, c, rfl, h, w⟩
  | n + 1, y, ⟨z, q, b, w1, w2, w3⟩ => ⟨z, q, b, WK_pre h n w1, w2, w3⟩
theorem WK_rev {v : TV} (hv : vOk v) {x : Nat} : ∀ (n : Nat) {y : Nat}, WK v (fun z => z = x) n y → WK v (fun z => z = y) n x
  | 0, y, w => w.symm
  | n + 1, y, ⟨z, q, b, w1, w2, w3⟩ => by
    obtain ⟨k1, k2⟩ := eO_back hv w2
    rw [← w3] at k1 k2
    have := WK_rev hv n w1
    refine WK_pre k1 n ?_
    rw [k2]
    exact this
theorem WK_src {v : TV} {src : Nat → Prop} : ∀ (n : Nat) {y : Nat}, WK v src n y ↔ ∃ x, src x ∧ WK v (fun z => z = x) n y
  | 0, y => ⟨fun h => ⟨y, h, rfl⟩, fun ⟨x, h1, h2⟩ => by
    have h2 : y = x := h2
    rw [h2]
    exact h1⟩
  | n + 1, y => ⟨fun ⟨z, q, b, w1, w2, w3⟩ => by
      obtain ⟨x, h1, h2⟩ := (WK_src n).mp w1
      exact ⟨x, h1, z, q, b, h2, w2, w3⟩, fun ⟨x, h1, z, q, b, w1, w2, w3⟩ => ⟨z, q, b, (WK_src n).mpr ⟨x, h1, w1⟩, w2, w3⟩⟩
theorem WK_suf {v : TV} {x : Nat} : ∀ (n : Nat) {y : Nat}, WK v (fun z => z = x) (n + 1) y → ∃ p c, eO v x p c ∧ WK v (fun z => z = nx x p c) n y
  | 0, y, ⟨z, q, b, w1, w2, w3⟩ => by
    have w1 : z = x := w1
    subst w1
    exact ⟨q, b, w2, w3⟩
  | n + 1, y, ⟨z, q, b, w1, w2, w3⟩ => by
    obtain ⟨p, c, h1, h2⟩ := WK_suf n w1
    exact ⟨p, c, h1, z, q, b, h2, w2, w3⟩
/-- what holds while l k is gone on from, by D -/
def BI (v : TV) (src : Nat → Prop) (s : BS) (k : Nat) (D : Nat → Nat → Prop) : Prop :=
  sumN (fun x => if bd s x = 9999 then 0 else 1) 1024 = be s ∧ (∀ i, i < be s → bl s i < 1024 ∧ bd s (bl s i) ≤ i) ∧ (∀ y, y < 1024 → bd s y ≠ 9999 → ∃ i, i < be s ∧ bl s i = y) ∧ (∀ i j, i < be s → j < be s → bl s i = bl s j → i = j) ∧ (∀ i j, i ≤ j → j < be s → bd s (bl s i) ≤ bd s (bl s j)) ∧ (k < be s → ∀ i, i < be s → bd s (bl s i) ≤ bd s (bl s k) + 1) ∧ (∀ i p c, i < be s → (i < k ∨ (i = k ∧ D p c)) → eO v (bl s i) p c → bd s (nx (bl s i) p c) ≤ bd s (bl s i) + 1) ∧ (∀ y, y < 1024 → bd s y ≠ 9999 → WK v src (bd s y) y) ∧ ∀ y, src y → y < 1024 ∧ bd s y = 0
theorem sumN_upd {f g : Nat → Nat} {y : Nat} : ∀ n, y < n → (∀ x, x ≠ y → g x = f x) → sumN g n + f y = sumN f n + g y
  | n + 1, h, hh => by
    show sumN g n + g n + f y = sumN f n + f n + g y
    by_cases e : y = n
    · subst e
      rw [sumN_congr (f := g) (g := f) y (fun x hx => hh x (by omega))]
      omega
    · have := sumN_upd n (by omega) hh
      rw [hh n (by omega)]
      omega
theorem BI.e_le {v : TV} {src : Nat → Prop} {s : BS} {k : Nat} {D : Nat → Nat → Prop} (h : BI v src s k D) : be s ≤ 1024 := by
  rw [← h.1]
  exact Nat.le_trans (sumN_le (f := fun x => if bd s x = 9999 then 0 else 1) (b := 1) (fun i => by
    show (if bd s i = 9999 then 0 else 1) ≤ 1
    split <;> omega) 1024) (by omega)
theorem BI.e_lt {v : TV} {src : Nat → Prop} {s : BS} {k : Nat} {D : Nat → Nat → Prop} (h : BI v src s k D) {y : Nat} (hy : y < 1024) (hd : bd s y = 9999) : be s < 1024 := by
  have h1 := h.1
  have := sumN_upd (f := fun x => if bd s x = 9999 then 0 else 1) (g := fun x => if x = y then 1 else if bd s x = 9999 then 0 else 1) 1024 hy (fun x hx => if_neg hx)
  simp only [hd, if_true] at this
  have h2 := sumN_le (f := fun x => if x = y then 1 else if bd s x = 9999 then 0 else 1) (b := 1) (fun i => by
    show (if i = y then 1 else if bd s i = 9999 then 0 else 1) ≤ 1
    repeat' split
    all_goals omega) 1024
  omega
theorem BI.lab {v : TV} {src : Nat → Prop} {s : BS} {k : Nat} {D : Nat → Nat → Prop} (h : BI v src s k D) {y : Nat} (hy : y < 1024) (hd : bd s y ≠ 9999) : bd s y < 1024 := by
  obtain ⟨i, h1, h2⟩ := h.2.2.1 y hy hd
  have h3 := (h.2.1 i h1).2
  have := h.e_le
  rw [h2] at h3
  omega
theorem BI.cg {v : TV} {src : Nat → Prop} {s : BS} {k : Nat} {D D' : Nat → Nat → Prop} (h : BI v src s k D) (hh : ∀ p c, eO v (bl s k) p c → D' p c → D p c) : BI v src s k D' := by
  obtain ⟨h1, h2, h3, h4, h5, h6, h7, h8, h9⟩ := h
  refine ⟨h1, h2, h3, h4, h5, h6, fun i p c q1 q2 q3 => h7 i p c q1 ?_ q3, h8, h9⟩
  rcases q2 with w | ⟨w, w2⟩
  · exact Or.inl w
  · subst w
    exact Or.inr ⟨rfl, hh p c q3 w2⟩
theorem BI.next {v : TV} {src : Nat → Prop} {s : BS} {k : Nat} {D : Nat → Nat → Prop} (h : BI v src s k D) (hk : k < be s) (hD : ∀ p c, eO v (bl s k) p c → D p c) : BI v src s (k + 1) (fun _ _ => False) := by
  obtain ⟨h1, h2, h3, h4, h5, h6, h7, h8, h9⟩ := h
  refine ⟨h1, h2, h3, h4, h5, fun q i q1 => ?_, fun i p c q1 q2 q3 => h7 i p c q1 ?_ q3, h8, h9⟩
  · have a := h6 hk i q1
    have b := h5 k (k + 1) (by omega) q
    omega
  · rcases q2 with w | ⟨w, w2⟩
    · by_cases e : i = k
      · subst e
        exact Or.inr ⟨rfl, hD p c q3⟩
      · exact Or.inl (by omega)
    · exact absurd w2 (fun x => x)
theorem BI.vis {v : TV} (hv : vOk v) {src : Nat → Prop} {s : BS} {k : Nat} {D : Nat → Nat → Prop} (h : BI v src s k D) (hk : k < be s) (p c : Nat) : BI v src (vis v (bl s k) p c s) k (fun a b => D a b ∨ (a = p ∧ b = c)) := by
  have hxl := (h.2.1 k hk).1
  have hxd := (h.2.1 k hk).2
  have hel := h.e_le
  by_cases hc : eO v (bl s k) p c ∧ bd s (nx (bl s k) p c) = 9999
  · have hy := nx_lt hv hxl hc.1
    have hlt := h.e_lt hy hc.2
    rw [vis_y hc]
    obtain ⟨h1, h2, h3, h4, h5, h6, h7, h8, h9⟩ := h
    obtain ⟨hc1, hc2⟩ := hc
    generalize hyy : nx (bl s k) p c = y at *
    have hl : ∀ i, i < be s → bl s i ≠ y := fun i hi w => by
      have := (h2 i hi).2
      rw [w, hc2] at this
      omega
    have hkk : k ≠ be s := by omega
    have dk : bd s (bl s k) + 1 ≠ 9999 := by omega
    refine ⟨?_, fun i hi => ?_, fun z hz hd => ?_, fun i j hi hj he => ?_, fun i j hij hj => ?_, fun _ i hi => ?_, fun i p' c' hi hD ho => ?_, fun z hz hd => ?_, fun z hz => ?_⟩
    · have := sumN_upd (f := fun x => if bd s x = 9999 then 0 else 1) (g := fun x => if (if x = y then bd s (bl s k) + 1 else bd s x) = 9999 then 0 else 1) 1024 hy (fun x hx => by
        show (if (if x = y then bd s (bl s k) + 1 else bd s x) = 9999 then 0 else 1) = _
        rw [if_neg hx])
      simp only [if_true, hc2, if_neg dk] at this
      show sumN (fun x => if (if x = y then bd s (bl s k) + 1 else bd s x) = 9999 then 0 else 1) 1024 = be s + 1
      omega
    · show (if i = be s then y else bl s i) < 1024 ∧ (if (if i = be s then y else bl s i) = y then bd s (bl s k) + 1 else bd s (if i = be s then y else bl s i)) ≤ i
      have hi : i < be s + 1 := hi
      by_cases e : i = be s
      · rw [if_pos e, if_pos rfl]
        omega
      · rw [if_neg e, if_neg (hl i (by omega))]
        exact h2 i (by omega)
    · show ∃ i, i < be s + 1 ∧ (if i = be s then y else bl s i) = z
      by_cases e : z = y
      · exact ⟨be s, by omega, by rw [if_pos rfl]; exact e.symm⟩
      · have hd : (if z = y then bd s (bl s k) + 1 else bd s z) ≠ 9999 := hd
        rw [if_neg e] at hd
        obtain ⟨i, i1, i2⟩ := h3 z hz hd
        exact ⟨i, by omega, by rw [if_neg (by omega)]; exact i2⟩
    · have he : (if i = be s then y else bl s i) = (if j = be s then y else bl s j) := he
      have hi : i < be s + 1 := hi
      have hj : j < be s + 1 := hj
      by_cases e : i = be s
      · by_cases e2 : j = be s
        · omega
        · rw [if_pos e, if_neg e2] at he
          exact absurd he.symm (hl j (by omega))
      · by_cases e2 : j = be s
        · rw [if_neg e, if_pos e2] at he
          exact absurd he (hl i (by omega))
        · rw [if_neg e, if_neg e2] at he
          exact h4 i j (by omega) (by omega) he
    · show (if (if i = be s then y else bl s i) = y then bd s (bl s k) + 1 else bd s (if i = be s then y else bl s i)) ≤ (if (if j = be s then y else bl s j) = y then bd s (bl s k) + 1 else bd s (if j = be s then y else bl s j))
      have hj : j < be s + 1 := hj
      by_cases e2 : j = be s
      · rw [if_pos e2, if_pos rfl]
        by_cases e : i = be s
        · rw [if_pos e, if_pos rfl]
          exact Nat.le_refl _
        · rw [if_neg e, if_neg (hl i (by omega))]
          exact h6 hk i (by omega)
      · rw [if_neg (show ¬ i = be s by omega), if_neg (hl i (by omega)), if_neg e2, if_neg (hl j (by omega))]
        exact h5 i j hij (by omega)
    · show (if (if i = be s then y else bl s i) = y then bd s (bl s k) + 1 else bd s (if i = be s then y else bl s i)) ≤ (if (if k = be s then y else bl s k) = y then bd s (bl s k) + 1 else bd s (if k = be s then y else bl s k)) + 1
      have hi : i < be s + 1 := hi
      rw [if_neg hkk, if_neg (hl k hk)]
      by_cases e : i = be s
      · rw [if_pos e, if_pos rfl]
        exact Nat.le_refl _
      · rw [if_neg e, if_neg (hl i (by omega))]
        exact h6 hk i (by omega)
    · have hi : i < be s + 1 := hi
      have e : i ≠ be s := by omega
      have ho : eO v (if i = be s then y else bl s i) p' c' := ho
      show (if nx (if i = be s then y else bl s i) p' c' = y then bd s (bl s k) + 1 else bd s (nx (if i = be s then y else bl s i) p' c')) ≤ (if (if i = be s then y else bl s i) = y then bd s (bl s k) + 1 else bd s (if i = be s then y else bl s i)) + 1
      rw [if_neg e] at ho ⊢
      rw [if_neg (hl i (by omega))]
      by_cases e3 : nx (bl s i) p' c' = y
      · rw [if_pos e3]
        rcases hD with w | ⟨w, w2⟩
        · have := h7 i p' c' (by omega) (Or.inl w) ho
          rw [e3, hc2] at this
          have := (h2 i (by omega)).2
          omega
        · subst w
          exact Nat.le_refl _
      · rw [if_neg e3]
        refine h7 i p' c' (by omega) ?_ ho
        rcases hD with w | ⟨w, w2 | ⟨w2, w3⟩⟩
        · exact Or.inl w
        · exact Or.inr ⟨w, w2⟩
        · subst w w2 w3
          exact absurd hyy e3
    · show WK v src (if z = y then bd s (bl s k) + 1 else bd s z) z
      by_cases e : z = y
      · rw [if_pos e]
        refine ⟨bl s k, p, c, h8 _ hxl (by omega), hc1, ?_⟩
        rw [hyy]
        exact e
      · have hd : (if z = y then bd s (bl s k) + 1 else bd s z) ≠ 9999 := hd
        rw [if_neg e] at hd ⊢
        exact h8 z hz hd
    · have a := h9 z hz
      refine ⟨a.1, ?_⟩
      show (if z = y then bd s (bl s k) + 1 else bd s z) = 0
      rw [if_neg (fun e => by
        rw [e, hc2] at a
        omega)]
      exact a.2
  · rw [vis_n hc]
    have hlab := fun (q : eO v (bl s k) p c) => (fun w => hc ⟨q, w⟩ : ¬ bd s (nx (bl s k) p c) = 9999)
    have hh := h
    obtain ⟨h1, h2, h3, h4, h5, h6, h7, h8, h9⟩ := h
    refine ⟨h1, h2, h3, h4, h5, h6, fun i p' c' q1 q2 q3 => ?_, h8, h9⟩
    rcases q2 with w | ⟨w, w2 | ⟨w2, w3⟩⟩
    · exact h7 i p' c' q1 (Or.inl w) q3
    · exact h7 i p' c' q1 (Or.inr ⟨w, w2⟩) q3
    · subst w w2 w3
      obtain ⟨m, m1, m2⟩ := h3 _ (nx_lt hv hxl q3) (hlab q3)
      rw [← m2]
      exact h6 hk m m1
