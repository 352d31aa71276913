/-! GOES TO COME, TURNS, CHANCES: what holds of the numbers -/
/-- the place behind a go of two -/
theorem thS_now {w : TV} (hv : vOk w) (i : Nat) : thS w (plc w) i = stW w i := by
  have := plc_d hv
  unfold thS stW
  rw [this.1, this.2]
theorem eO_now {w : TV} (hv : vOk w) {p c : Nat} (h : eO w (plc w) p c) : p / 6 < p % 6 ∧ p % 6 < tn w ∧ same w (p / 6) (p % 6) ∧ opS w (p / 6) (p % 6) c ∧ nd c (stW w (p / 6)) = 0 := by
  obtain ⟨⟨h1, h2⟩, h3, h4, h5⟩ := h
  rw [thS_now hv] at h5
  have h3 : tog (tt w) (p / 6) (p % 6) := by
    have := (plc_d hv).1
    unfold tog at h3 ⊢
    rw [this] at h3
    exact h3
  exact ⟨h1, h2, h3, (opN_bit _ _ _ _).mp h4, h5⟩
theorem now_eO {w : TV} (hv : vOk w) {i j c : Nat} (h1 : i < j) (h2 : j < tn w) (h3 : same w i j) (h4 : opS w i j c) (h5 : nd c (stW w i) = 0) : eO w (plc w) (6 * i + j) c := by
  have h6 := hv.1
  have e1 : (6 * i + j) / 6 = i := by omega
  have e2 : (6 * i + j) % 6 = j := by omega
  have hp := plc_d hv
  refine ⟨by rw [e1, e2]; exact ⟨h1, h2⟩, ?_, ?_, ?_⟩
  · rw [e1, e2, hp.1]
    exact h3
  · rw [e1, e2]
    exact (opN_bit _ _ _ _).mpr h4
  · rw [e1, thS_now hv]
    exact h5
theorem eO_can {w : TV} (hv : vOk w) {p c : Nat} (h : eO w (plc w) p c) : p / 6 < p % 6 ∧ p % 6 < tn w ∧ canL w (p / 6) (p % 6) 0 := by
  obtain ⟨h1, h2, h3, h4, h5⟩ := eO_now hv h
  exact ⟨h1, h2, (canL_op hv).mpr ⟨h3, c, h4, h5⟩⟩
theorem can_eO {w : TV} (hv : vOk w) {i j : Nat} (h1 : i < j) (h2 : j < tn w) (h : canL w i j 0) : ∃ c, eO w (plc w) (6 * i + j) c := by
  obtain ⟨h3, c, h4, h5⟩ := (canL_op hv).mp h
  exact ⟨c, now_eO hv h1 h2 h3 h4 h5⟩
theorem nx_top {w : TV} (hv : vOk w) {p c : Nat} (hc : c < 16) : nx (plc w) p c / 16 = tt w ^^^ pr (p / 6) (p % 6) := by
  rw [nx_div hc, (plc_d hv).1]
/-- one can be elsewhere just if some pair can go -/
theorem ever_iff {w : TV} (hv : vOk w) {e : Nat} (hlt : e < 2 ^ tn w) (he : ∀ i, e.testBit i = true ↔ ∃ n y, WKn w n y ∧ (y / 16).testBit i ≠ (tt w).testBit i) : e = 0 ↔ cntP w 0 = 0 := by
  have h6 := hv.1
  constructor
  · intro h0
    rcases Nat.eq_zero_or_pos (cntP w 0) with q | q
    · exact q
    · obtain ⟨i, j, h1, h2, h3⟩ := (cntP_pos w 0).mp q
      obtain ⟨c, hc⟩ := can_eO hv h1 h2 h3
      have hb : e.testBit i = true := (he i).mpr ⟨1, nx (plc w) (6 * i + j) c, ⟨plc w, _, _, rfl, hc, rfl⟩, by
        rw [nx_top hv (eO_c16 hv hc), Nat.testBit_xor, show (6 * i + j) / 6 = i by omega, show (6 * i + j) % 6 = j by omega, (pr_bit i j i).mpr (Or.inl rfl)]
        simp⟩
      rw [h0] at hb
      simp at hb
  · intro h0
    refine Nat.eq_of_testBit_eq fun i => ?_
    rw [Nat.zero_testBit]
    cases hb : e.testBit i with
    | false => rfl
    | true =>
      obtain ⟨n, y, y1, y2⟩ := (he i).mp hb
      match n, y1 with
      | 0, y1 =>
        have y1 : y = plc w := y1
        rw [y1, (plc_d hv).1] at y2
        exact absurd rfl y2
      | n + 1, y1 =>
        obtain ⟨p, c, q1, -⟩ := WK_suf n y1
        obtain ⟨a1, a2, a3⟩ := eO_can hv q1
        have := (cntP_pos w 0).mpr ⟨_, _, a1, a2, a3⟩
        omega
theorem ever_with {w : TV} (hv : vOk w) {e i : Nat} (he : ∀ i, e.testBit i = true ↔ ∃ n y, WKn w n y ∧ (y / 16).testBit i ≠ (tt w).testBit i) (hi : i < tn w) (h : compN w i ≠ 0) : e.testBit i = true := by
  have h6 := hv.1
  obtain ⟨k, hk⟩ : ∃ k, (compN w i).testBit k = true := by
    rcases Classical.em (∃ k, (compN w i).testBit k = true) with q | q
    · exact q
    · refine absurd (Nat.eq_of_testBit_eq fun k => ?_) h
      rw [Nat.zero_testBit]
      cases hb : (compN w i).testBit k with
      | false => rfl
      | true => exact absurd ⟨k, hb⟩ q
  obtain ⟨k1, k2, k3⟩ := (comp_bit w i k).mp hk
  have go : ∀ a b, a < b → b < tn w → canL w a b 0 → (i = a ∨ i = b) → e.testBit i = true := fun a b h1 h2 h3 h4 => by
    obtain ⟨c, hc⟩ := can_eO hv h1 h2 h3
    refine (he i).mpr ⟨1, nx (plc w) (6 * a + b) c, ⟨plc w, _, _, rfl, hc, rfl⟩, ?_⟩
    rw [nx_top hv (eO_c16 hv hc), Nat.testBit_xor, show (6 * a + b) / 6 = a by omega, show (6 * a + b) % 6 = b by omega, (pr_bit a b i).mpr h4]
    simp
  rcases Nat.lt_or_ge i k with q | q
  · exact go i k q k1 k3 (Or.inl rfl)
  · exact go k i (by omega) hi ((canL_sym hv).mp k3) (Or.inr rfl)
/-- a goal that can be come to: who is not there yet can ever be elsewhere -/
theorem goal_ever {w : TV} {e n y set tops : Nat} (he : ∀ i, e.testBit i = true ↔ ∃ n y, WKn w n y ∧ (y / 16).testBit i ≠ (tt w).testBit i) (h1 : WKn w n y) (h2 : (y / 16) &&& set = tops) {i : Nat} (hs : set.testBit i = true) (hd : tops.testBit i ≠ (tt w).testBit i) : e.testBit i = true := by
  refine (he i).mpr ⟨n, y, h1, ?_⟩
  rw [← h2, Nat.testBit_and, hs, Bool.and_true] at hd
  exact hd
/-! who and what is where matters not for what stands open -/
theorem op_tAt (v : TV) (e t u t' u' i j : Nat) : opN (tAt v e t u) i j = opN (tAt v e t' u') i j := rfl
theorem eO_tAt (v : TV) (e t u t' u' x p c : Nat) (h : eO (tAt v e t u) x p c) : eO (tAt v e t' u') x p c := h
theorem WK_tAt (v : TV) (e t u t' u' : Nat) {src : Nat → Prop} : ∀ (n : Nat) {y : Nat}, WK (tAt v e t u) src n y → WK (tAt v e t' u') src n y
  | 0, _, h => h
  | n + 1, _, ⟨x, p, c, h1, h2, h3⟩ => ⟨x, p, c, WK_tAt v e t u t' u' n h1, h2, h3⟩
/-- the place behind a go -/
theorem plc_go {w : TV} (hv : vOk w) {i j a b : Nat} (hi : i < j) (hj : j < tn w) (ha : a < 2 ^ ts w) (hb : b < 2 ^ ts w) : 16 * goT w i j + goU w a b = nx (plc w) (6 * i + j) (a ||| b) := by
  have h6 := hv.1
  have hp := plc_d hv
  unfold nx goT goU
  rw [hp.1, hp.2, show (6 * i + j) / 6 = i by omega, show (6 * i + j) % 6 = j by omega]
/-! by turns -/
theorem wF_even {v : TV} {m : Nat} {later : Nat → Nat} {g i j s : Nat} (hs : s % 2 = 0) (hl : later (g ^^^ pr i j) % 2 = 0) : wF v m later g i j s % 2 = 0 := by
  unfold wF
  repeat' split
  all_goals assumption
theorem sv_all {v : TV} (hv : vOk v) (Q : Nat → Nat → Prop) (h0 : ∀ g, g < 2 ^ tn v → pc g % 2 = 0 → Q 0 (pc g)) : True := trivial
theorem foldF_pick {σ : Type} (Q : σ → Prop) (g : Nat → σ → σ) (m k : Nat) (s : σ) (h : Q s) (hs : ∀ j s, k ≤ j → j < k + m → Q s → Q (g j s)) : Q (foldF g k m s) := foldF_inv g (fun _ s => Q s) m k s h hs
theorem bF_pick {v : TV} {m : Nat} {later : Nat → Nat} (Q : Nat → Prop) {g : Nat} (h0 : Q (later g)) (h1 : ∀ i j, i < j → j < tn v → tog g i j → Q (later (g ^^^ pr i j))) : Q (bF v m later g) := by
  refine foldF_pick Q _ _ _ _ h0 fun i s hi hi2 hs => ?_
  refine foldF_pick Q _ _ _ _ hs fun j s hj hj2 hs => ?_
  unfold wF
  by_cases c : tog g i j ∧ skN v i j 0 0 ≤ tl v
  · have q := h1 i j (by omega) (by omega) c.1
    rw [if_pos c]
    repeat' split
    all_goals assumption
  · rw [if_neg c]
    exact hs
theorem sv_even {v : TV} (hv : vOk v) : ∀ (k : Nat) {g : Nat}, g < 2 ^ tn v → pc g % 2 = 0 → sv v k g % 2 = 0 ∧ sv v k g ≤ tn v
  | 0, g, hg, hp => ⟨hp, pc_n _ hv.1 g hg⟩
  | k + 1, g, hg, hp => by
    have h6 := hv.1
    refine bF_pick (v := v) (m := k + 1) (later := sv v k) (fun s => s % 2 = 0 ∧ s ≤ tn v) (sv_even hv k hg hp) fun i j hi hj _ => sv_even hv k (xp_lt hg (by omega) hj) ?_
    rw [pc_xpr (Nat.lt_of_lt_of_le hg (p2n hv)) (by omega) (by omega) (by omega)]
    exact hp
theorem sv_1 {v : TV} {g : Nat} : sv v 1 g ≤ pc g := by
  show bF v 1 (sv v 0) g ≤ pc g
  refine foldF_pick (fun s => s ≤ pc g) _ _ _ _ (Nat.le_refl _) fun i s hi hi2 hs => ?_
  refine foldF_pick (fun s => s ≤ pc g) _ _ _ _ hs fun j s hj hj2 hs => ?_
  unfold wF
  repeat' split
  all_goals omega
theorem pc_up2 : ∀ g, g < 64 → ∀ i, i < 6 → ∀ j, j < 6 → pc (g ^^^ pr i j) ≤ pc g + 2 := by decide +kernel
theorem sv_2 {v : TV} (hv : vOk v) {g : Nat} (hg : g < 2 ^ tn v) : sv v 2 g ≤ pc g + 2 := by
  have h6 := hv.1
  refine bF_pick (v := v) (m := 2) (later := sv v 1) (fun s => s ≤ pc g + 2) ?_ fun i j hi hj _ => ?_
  · have := sv_1 (v := v) (g := g)
    show sv v 1 g ≤ _
    omega
  · have h1 := sv_1 (v := v) (g := g ^^^ pr i j)
    have h2 := pc_up2 g (Nat.lt_of_lt_of_le hg (p2n hv)) i (by omega) j (by omega)
    show sv v 1 (g ^^^ pr i j) ≤ _
    omega
/-! chances -/
theorem wL_one : ∀ t, t < 16 → ∀ p, p < 13 → sumN (fun x => wL t p x) 16 = 12 ^ pc t := by decide +kernel
theorem wL_p0 : ∀ t, t < 16 → ∀ x, x < 16 → wL t 0 x = if x = t then 12 ^ pc t else 0 := by decide +kernel
theorem wL_p12 : ∀ t, t < 16 → ∀ x, x < 16 → wL t 12 x = if x = 0 then 12 ^ pc t else 0 := by decide +kernel
theorem sumN_pt (c : Nat) (f : Nat → Nat) (x0 : Nat) : ∀ n, x0 < n → (∀ x, x < n → x ≠ x0 → f x = 0) → f x0 = c → sumN f n = c
  | n + 1, h, hz, hc => by
    show sumN f n + f n = c
    by_cases e : x0 = n
    · have : sumN f n = 0 := by
        rw [sumN_congr (f := f) (g := fun _ => 0) n fun x hx => hz x (by omega) (by omega), sumN_0]
      rw [this, ← e, hc, Nat.zero_add]
    · rw [sumN_pt c f x0 n (by omega) (fun x hx => hz x (by omega)) hc, hz n (by omega) (fun q => e q.symm), Nat.add_zero]
theorem up_p0 {w : TV} (hv : vOk w) (i j m : Nat) : upN w i j m 0 = 12 ^ pc (stW w i) * gg w i j m (stW w i) := by
  have h1 := stW_lt hv i
  have h2 := p2s hv
  refine sumN_pt _ _ (stW w i) 16 (by omega) (fun x hx hne => ?_) ?_
  · show wL (stW w i) 0 x * _ = 0
    rw [wL_p0 _ (by omega) x hx, if_neg hne, Nat.zero_mul]
  · show wL (stW w i) 0 (stW w i) * _ = _
    rw [wL_p0 _ (by omega) _ (by omega), if_pos rfl]
theorem up_p12 {w : TV} (hv : vOk w) (i j m : Nat) : upN w i j m 12 = 12 ^ pc (stW w i) * gg w i j m 0 := by
  have h1 := stW_lt hv i
  have h2 := p2s hv
  refine sumN_pt _ _ 0 16 (by omega) (fun x hx hne => ?_) ?_
  · show wL (stW w i) 12 x * _ = 0
    rw [wL_p12 _ (by omega) x hx, if_neg hne, Nat.zero_mul]
  · show wL (stW w i) 12 0 * _ = _
    rw [wL_p12 _ (by omega) _ (by omega), if_pos rfl]
theorem sumN_mulr (f : Nat → Nat) (c : Nat) : ∀ n, sumN (fun x => f x * c) n = sumN f n * c
  | 0 => by simp [sumN]
  | n + 1 => by
    show sumN (fun x => f x * c) n + f n * c = (sumN f n + f n) * c
    rw [sumN_mulr f c n, Nat.add_mul]
/-- a mean lies between the least and the greatest -/
theorem up_between {w : TV} (hv : vOk w) (i j m : Nat) {p lo hi : Nat} (hp : p < 13) (h : ∀ x, x < 16 → nd x (stW w i) = 0 → lo ≤ gg w i j m x ∧ gg w i j m x ≤ hi) : 12 ^ pc (stW w i) * lo ≤ upN w i j m p ∧ upN w i j m p ≤ 12 ^ pc (stW w i) * hi := by
  have h1 := stW_lt hv i
  have h2 := p2s hv
  have hs := wL_one (stW w i) (by omega) p hp
  have z : ∀ x, ¬ nd x (stW w i) = 0 → wL (stW w i) p x = 0 := fun x hx => by
    unfold wL
    rw [if_neg hx]
  rw [← hs, ← sumN_mulr, ← sumN_mulr]
  refine ⟨sumN_mono 16 fun x hx => ?_, sumN_mono 16 fun x hx => ?_⟩
  · by_cases c : nd x (stW w i) = 0
    · exact Nat.mul_le_mul (Nat.le_refl _) (h x hx c).1
    · rw [z x c]
      simp
  · by_cases c : nd x (stW w i) = 0
    · exact Nat.mul_le_mul (Nat.le_refl _) (h x hx c).2
    · rw [z x c]
      simp
/-- with fewer stones it sinks no less; with none as with none -/
theorem lst_sub {w : TV} (hv : vOk w) (i j : Nat) {x : Nat} (hx : nd x (stW w i) = 0) : bestN w i j / 256 ≤ lstV w i j x / 256 := by
  obtain ⟨c, c1, c2, c3⟩ := (lstV_le hv i j x (lstV w i j x / 256)).mp (Nat.le_refl _)
  refine (lstV_le hv i j (stW w i) _).mpr ⟨c, c1, ⟨c2.1, (nd_0 _ _).mpr fun b hb => ?_⟩, c3⟩
  exact (nd_0 _ _).mp hx b ((nd_0 _ _).mp c2.2 b hb)
theorem lst_none {w : TV} (hv : vOk w) (i j x : Nat) : lstV w i j x / 256 ≤ skN w i j 0 0 := (lstV_le hv i j x _).mpr ⟨0, by omega, okS_0 x, Nat.le_refl _⟩
theorem lst_0 {w : TV} (hv : vOk w) (i j : Nat) : lstV w i j 0 / 256 = skN w i j 0 0 := by
  obtain ⟨c, c1, c2, c3⟩ := (lstV_le hv i j 0 (lstV w i j 0 / 256)).mp (Nat.le_refl _)
  have h := c2.2
  rw [nd_zero, or0] at h
  rw [h.1, h.2] at c3
  have := lst_none hv i j 0
  omega
/-- lowest terms -/
theorem fr_mul {a b : Nat} (hb : 0 < b) : b * a / Nat.gcd (b * a) b = a ∧ b / Nat.gcd (b * a) b = 1 := by
  have h : Nat.gcd (b * a) b = b := by rw [Nat.gcd_comm, Nat.gcd_mul_right_right]
  rw [h]
  exact ⟨Nat.mul_div_cancel_left a hb, Nat.div_self hb⟩
theorem fr_le {a b c : Nat} (hb : 0 < b) : (b * c ≤ a → b / Nat.gcd a b * c ≤ a / Nat.gcd a b) ∧ (a ≤ b * c → a / Nat.gcd a b ≤ b / Nat.gcd a b * c) := by
  have hg : 0 < Nat.gcd a b := Nat.gcd_pos_of_pos_right a hb
  obtain ⟨x, hx⟩ := Nat.gcd_dvd_left a b
  obtain ⟨y, hy⟩ := Nat.gcd_dvd_right a b
  generalize Nat.gcd a b = g at *
  subst hx
  subst hy
  rw [Nat.mul_div_cancel_left _ hg, Nat.mul_div_cancel_left _ hg, Nat.mul_assoc]
  exact ⟨fun h => Nat.le_of_mul_le_mul_left h hg, fun h => Nat.le_of_mul_le_mul_left h hg⟩
