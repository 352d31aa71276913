/-! STONES LOST -/
def wL (t p x : Nat) : Nat := if nd x t = 0 then (12 - p) ^ pc x * p ^ pc (nd t x) else 0
def wM (t p l : Nat) : Nat := foldF (fun k s => s * (if t.testBit k then (if l.testBit k then p else 12 - p) else 1)) 0 4 (if nd l t = 0 then 1 else 0)
theorem wM_eq : ∀ t, t < 16 → ∀ l, l < 16 → ∀ p, p < 13 → wM t p l = if nd l t = 0 then wL t p (nd t l) else 0 := by decide +kernel
theorem wL_all : ∀ t, t < 16 → ∀ p, p < 13 → sumN (fun l => wM t p l) 16 = 12 ^ pc t := by decide +kernel
theorem wL_small : ∀ t, t < 16 → ∀ x, x < 16 → ∀ p, p < 13 → wL t p x ≤ 20736 := by decide +kernel
theorem wM_small : ∀ t, t < 16 → ∀ x, x < 16 → ∀ p, p < 13 → wM t p x ≤ 20736 := by decide +kernel
theorem sum_turn (G : Nat → Nat) : ∀ t, t < 16 → sumN (fun l => if nd l t = 0 then G (nd t l) else 0) 16 = sumN (fun x => if nd x t = 0 then G x else 0) 16 := by
  intro t ht
  have h : t = 0 ∨ t = 1 ∨ t = 2 ∨ t = 3 ∨ t = 4 ∨ t = 5 ∨ t = 6 ∨ t = 7 ∨ t = 8 ∨ t = 9 ∨ t = 10 ∨ t = 11 ∨ t = 12 ∨ t = 13 ∨ t = 14 ∨ t = 15 := by omega
  rcases h with rfl | rfl | rfl | rfl | rfl | rfl | rfl | rfl | rfl | rfl | rfl | rfl | rfl | rfl | rfl | rfl
  all_goals
    simp [sumN, nd]
    try omega
theorem sumN_more {f : Nat → Nat} {N : Nat} : ∀ m, (∀ x, N ≤ x → x < N + m → f x = 0) → sumN f (N + m) = sumN f N
  | 0, _ => rfl
  | m + 1, h => by
    show sumN f (N + m) + f (N + m) = _
    rw [sumN_more m (fun x a b => h x a (by omega)), h (N + m) (by omega) (by omega), Nat.add_zero]
theorem sumN_le2 {f : Nat → Nat} {b : Nat} : ∀ n, (∀ i, i < n → f i ≤ b) → sumN f n ≤ b * n
  | 0, _ => by simp [sumN]
  | n + 1, h => by
    have h1 := sumN_le2 n (fun i a => h i (by omega))
    have h2 := h n (by omega)
    show sumN f n + f n ≤ b * (n + 1)
    rw [Nat.mul_succ]
    omega
/-- what is told of two with just the stones f -/
def gg (v : TV) (i j m f : Nat) : Nat := if m = 0 then (if lstV v i j f / 256 ≤ tl v then 1 else 0) else lstV v i j f / 256
theorem gg_le {v : TV} (hv : vOk v) (i j m f : Nat) : gg v i j m f ≤ 255 := by
  have := lstV_lt hv i j f
  unfold gg
  repeat' split
  all_goals omega
def upN (v : TV) (i j m p : Nat) : Nat := sumN (fun x => wL (stW v i) p x * gg v i j m x) 16
theorem up_term {v : TV} (hv : vOk v) (i j m : Nat) {p x : Nat} (hp : p < 13) (hx : x < 16) (t : Nat) (ht : t < 16) : wL t p x * gg v i j m x ≤ 20736 * 255 := Nat.mul_le_mul (wL_small t ht x hx p hp) (gg_le hv i j m x)
theorem pow_small : ∀ b, b ≤ 12 → ∀ k, k ≤ 6 → b ^ k ≤ 2985984 := by decide +kernel
theorem power_eq {b e : Nat} (hb : b ≤ 12) (he : e ≤ 6) : X4_power (nI b) (nI e) = some (nL (b ^ e)) := by
  unfold X4_power
  obtain ⟨s, hs, h⟩ := loop_I (fun fuel k (s : Nat) => X4_power_L1 (nI b) (nI e) (fun z => some z) fuel (nL s) (nI k)) (fun s => some (nL s)) e (fun k s => s = b ^ k)
    (fun fuel k s hk hI => by
      have hp := pow_small b hb k (by omega)
      refine ⟨b ^ (k + 1), ?_, rfl⟩
      show X4_power_L1 (nI b) (nI e) _ (fuel + 1) (nL s) (nI k) = _
      rw [X4_power_L1]
      have hq := pow_small b hb (k + 1) (by omega)
      have hq2 : b ^ k * b < 2 ^ 63 := by
        rw [← Nat.pow_succ]
        exact Nat.lt_of_le_of_lt hq (by decide)
      rw [if_neg (by rw [nI_le_iff (by omega) (by omega)]; omega), hI, nI_64 (by omega), nL_mul hq2 (by omega) (by omega), i_1, nI_sum, Nat.pow_succ])
    (fun fuel s hI => by
      show X4_power_L1 (nI b) (nI e) _ (fuel + 1) (nL s) (nI e) = _
      rw [X4_power_L1]
      rw [if_pos (Int32.le_refl _)])
    e bigF 0 1 (by omega) (bigF_gt (by omega)) rfl
  rw [← hs]
  exact h
theorem chance_eq {t x p : Nat} (ht : t < 16) (hx : x < 16) (hp : p < 13) : X4_chance (nI t) (nI x) (nI p) = some (nL (wL t p x)) := by
  have h1 := nd_le x t
  have h2 := nd_le t x
  unfold X4_chance wL
  rw [nI_nd, nI_nd]
  by_cases c : nd x t = 0
  · have p1 := pow_small (12 - p) (by omega) (pc x) (pc_le x)
    have p2 := pow_small p (by omega) (pc (nd t x)) (pc_le _)
    rw [if_pos (by rw [c]; rfl), if_pos c, bc_pc x (by omega), i_12, nI_subL (by omega), power_eq (by omega) (pc_le x), bind_s, bc_pc _ (by omega), power_eq (by omega) (pc_le _), bind_s, nL_mul (by
      have := Nat.mul_le_mul p1 p2
      omega) (by omega) (by omega)]
  · rw [if_neg (by rw [i_0, nI_eq_iff (by omega) (by omega)]; exact c), if_neg c]
    rfl
theorem gcd_step (x : Nat) {y : Nat} : Nat.gcd x y = Nat.gcd y (x % y) := by
  rw [Nat.gcd_comm x y, Nat.gcd_rec, Nat.gcd_comm]
theorem tell_L1 (K : Int64 → Option xLon) : ∀ (y fuel x c : Nat), y < fuel → c + y < 1000000 → x < 2 ^ 62 → y < 2 ^ 62 → X4_tell_L1 K fuel (nL x) (nL y) (nI c) = K (nL (Nat.gcd x y)) := by
  intro y
  induction y using Nat.strongRecOn with
  | ind y ih =>
    intro fuel x c hf hc hx hy
    obtain ⟨f, rfl⟩ : ∃ f, fuel = f + 1 := ⟨fuel - 1, by omega⟩
    rw [X4_tell_L1]
    rw [if_neg (by rw [show (1000000 : Int32) = nI 1000000 from rfl, nI_le_iff (by omega) (by omega)]; omega)]
    by_cases h : y = 0
    · subst h
      rw [if_pos ((nL_0 (by omega)).mpr rfl), Nat.gcd_zero_right]
    · have hm : x % y < y := Nat.mod_lt _ (by omega)
      rw [if_neg (fun w => h ((nL_0 (by omega)).mp w)), rmL_nLL (by omega) (by omega) (by omega), bind_s, i_1, nI_sum, ih _ hm f y (c + 1) (by omega) (by omega) hy (by omega), ← gcd_step]
theorem tellC_eq (L : xLon) {a b : Nat} (ha : a < 2 ^ 62) (hb : b < 100000) (hb0 : 0 < b) : X4_tell L (nL a) (nL b) = some (wrL (wrL L 11 (nL (a / Nat.gcd a b))) 12 (nL (b / Nat.gcd a b))) := by
  have hg : 0 < Nat.gcd a b := Nat.gcd_pos_of_pos_right _ hb0
  have hgl : Nat.gcd a b ≤ b := Nat.gcd_le_right _ hb0
  unfold X4_tell
  rw [i_0, tell_L1 _ b bigF a 0 (bigF_gt (by omega)) (by omega) ha (by omega), if_neg (fun w => by
    have := (nL_0 (by omega)).mp w
    omega), dvL_nL (by omega) hg (by omega), bind_s, bind_s, dvL_nL (by omega) hg (by omega), bind_s, bind_s]
section ODD
variable {I J : xMem} {L M : xLon} {P Dr : Nat} {v : TV}
theorem up_cut (hv : vOk v) (i j m p : Nat) : sumN (fun x => wL (stW v i) p x * gg v i j m x) (2 ^ ts v) = upN v i j m p := by
  have h3 := p2s hv
  have hst := stW_lt hv i
  have := sumN_more (f := fun x => wL (stW v i) p x * gg v i j m x) (N := 2 ^ ts v) (16 - 2 ^ ts v) (fun x a b => by
    show wL (stW v i) p x * gg v i j m x = 0
    have : wL (stW v i) p x = 0 := by
      unfold wL
      rw [if_neg]
      intro w
      have := nd0_le w
      omega
    rw [this, Nat.zero_mul])
  rw [show 2 ^ ts v + (16 - 2 ^ ts v) = 16 by omega] at this
  exact this.symm
theorem up_lt (hv : vOk v) (i j m : Nat) {p : Nat} (hp : p < 13) {n : Nat} (hn : n ≤ 16) : sumN (fun x => wL (stW v i) p x * gg v i j m x) n ≤ 20736 * 255 * 16 := by
  have h3 := p2s hv
  have hst := stW_lt hv i
  have := sumN_le2 (f := fun x => wL (stW v i) p x * gg v i j m x) (b := 20736 * 255) n (fun x a => up_term hv i j m hp (by omega) _ (by omega))
  omega
theorem oddsC_sum (hv : vOk v) (h : VC I P v) {i j p : Nat} (hi : i < tn v) (hj : j < tn v) (hp : p < 13) (K : Int64 → Option (Int32 × xLon)) : X4_odds_L1 P I (nI i) (nI j) (nI p) K bigF (nL 0) (nI 0) = K (nL (upN v i j 0 p)) := by
  have h3 := p2s hv
  have hst := stW_lt hv i
  have h4 : 0 < 2 ^ ts v := Nat.pos_of_ne_zero (by simp)
  have hall := h.allStones hv
  have e4 : allS v = 2 ^ ts v - 1 := rfl
  have hl := hv.2.2.1
  obtain ⟨s, hs, he⟩ := loop_I (fun fuel k (s : Nat) => X4_odds_L1 P I (nI i) (nI j) (nI p) K fuel (nL s) (nI k)) (fun s => K (nL s)) (2 ^ ts v) (fun k s => s = sumN (fun x => wL (stW v i) p x * gg v i j 0 x) k)
    (fun fuel k s hk hI => by
      refine ⟨sumN (fun x => wL (stW v i) p x * gg v i j 0 x) (k + 1), ?_, rfl⟩
      have hb := up_lt hv i j 0 hp (n := k) (by omega)
      have ht := up_term hv i j 0 hp (x := k) (by omega) (stW v i) (by omega)
      have hlst := lstV_lt hv i j k
      show X4_odds_L1 P I (nI i) (nI j) (nI p) K (fuel + 1) (nL s) (nI k) = X4_odds_L1 P I (nI i) (nI j) (nI p) K fuel (nL (sumN _ k + wL (stW v i) p k * gg v i j 0 k)) (nI (k + 1))
      rw [X4_odds_L1]
      rw [hall, if_neg (by rw [nI_lt_iff (by omega) (by omega)]; omega), h.least4 hv hi hj hk, bind_s, h.1.1, i_256, nI_div (by omega) (by omega) (by omega)]
      rw [← hI] at hb ⊢
      by_cases c : lstV v i j k / 256 ≤ tl v
      · have e : gg v i j 0 k = 1 := by
          unfold gg
          rw [if_pos rfl, if_pos c]
        have hw := wL_small (stW v i) (by omega) k (by omega) p hp
        rw [if_neg (by rw [nI_lt_iff (by omega) (by omega)]; omega), h.stonesWith hv hi, bind_s, chance_eq (by omega) (by omega) hp, bind_s, nL_sum (by omega), e, Nat.mul_one, i_1, nI_sum]
      · have e : gg v i j 0 k = 0 := by
          unfold gg
          rw [if_pos rfl, if_neg c]
        rw [if_pos (by rw [nI_lt_iff (by omega) (by omega)]; omega), e, Nat.mul_zero, Nat.add_zero, i_1, nI_sum])
    (fun fuel s hI => by
      show X4_odds_L1 P I (nI i) (nI j) (nI p) K (fuel + 1) (nL s) (nI (2 ^ ts v)) = _
      rw [X4_odds_L1]
      rw [hall, if_pos (by rw [nI_lt_iff (by omega) (by omega)]; omega)])
    (2 ^ ts v) bigF 0 0 (by omega) (bigF_gt (by omega)) rfl
  rw [he, hs, up_cut hv]
theorem midC_sum (hv : vOk v) (h : VC I P v) {i j p : Nat} (hi : i < tn v) (hj : j < tn v) (hp : p < 13) (K : Int64 → Option (Int32 × xLon)) : X4_mid_L1 P I (nI i) (nI j) (nI p) K bigF (nL 0) (nI 0) = K (nL (upN v i j 1 p)) := by
  have h3 := p2s hv
  have hst := stW_lt hv i
  have h4 : 0 < 2 ^ ts v := Nat.pos_of_ne_zero (by simp)
  have hall := h.allStones hv
  have e4 : allS v = 2 ^ ts v - 1 := rfl
  obtain ⟨s, hs, he⟩ := loop_I (fun fuel k (s : Nat) => X4_mid_L1 P I (nI i) (nI j) (nI p) K fuel (nL s) (nI k)) (fun s => K (nL s)) (2 ^ ts v) (fun k s => s = sumN (fun x => wL (stW v i) p x * gg v i j 1 x) k)
    (fun fuel k s hk hI => by
      refine ⟨sumN (fun x => wL (stW v i) p x * gg v i j 1 x) (k + 1), ?_, rfl⟩
      have hb := up_lt hv i j 1 hp (n := k) (by omega)
      have ht := up_term hv i j 1 hp (x := k) (by omega) (stW v i) (by omega)
      have hlst := lstV_lt hv i j k
      have hw := wL_small (stW v i) (by omega) k (by omega) p hp
      have e : gg v i j 1 k = lstV v i j k / 256 := by
        unfold gg
        rw [if_neg (by decide)]
      show X4_mid_L1 P I (nI i) (nI j) (nI p) K (fuel + 1) (nL s) (nI k) = X4_mid_L1 P I (nI i) (nI j) (nI p) K fuel (nL (sumN _ k + wL (stW v i) p k * gg v i j 1 k)) (nI (k + 1))
      rw [e] at ht ⊢
      rw [X4_mid_L1]
      rw [hall, if_neg (by rw [nI_lt_iff (by omega) (by omega)]; omega), h.stonesWith hv hi, bind_s, chance_eq (by omega) (by omega) hp, bind_s, h.least4 hv hi hj hk, bind_s, i_256, nI_div (by omega) (by omega) (by omega), nI_64 (by omega), nL_mul (by omega) (by omega) (by omega)]
      rw [← hI] at hb ⊢
      rw [nL_sum (by omega), i_1, nI_sum])
    (fun fuel s hI => by
      show X4_mid_L1 P I (nI i) (nI j) (nI p) K (fuel + 1) (nL s) (nI (2 ^ ts v)) = _
      rw [X4_mid_L1]
      rw [hall, if_pos (by rw [nI_lt_iff (by omega) (by omega)]; omega)])
    (2 ^ ts v) bigF 0 0 (by omega) (bigF_gt (by omega)) rfl
  rw [he, hs, up_cut hv]
end ODD
section OPO
variable {I J : xMem} {L M : xLon} {P Dr : Nat}
theorem no12 {x : Int32} (h : ¬ ix x 13) {α : Type} (a b : α) : (if x < (0 : Int32) then a else (if x ≤ (12 : Int32) then b else a)) = a := by
  have q0 : (0 : Int32).toInt = 0 := rfl
  have q2 : (12 : Int32).toInt = 12 := rfl
  simp only [Int32.lt_iff_toInt_lt, Int32.le_iff_toInt_le, q0, q2]
  unfold ix at h
  by_cases c : x.toInt < 0
  · rw [if_pos c]
  · rw [if_neg c, if_neg (by omega)]
end OPO
