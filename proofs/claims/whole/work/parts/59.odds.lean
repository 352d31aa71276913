/-! STONES LOST -/
def wL (t p x : Nat) : Nat := if nd x t = 0 then (12 - p) ^ pc x * p ^ pc (nd t x) else 0
def wM (t p l : Nat) : Nat := foldF (fun k s => s * (if t.testBit k then (if l.testBit k then p else 12 - p) else 1)) 0 4 (if nd l t = 0 then 1 else 0)
theorem wM_eq : ∀ t, t < 16 → ∀ l, l < 16 → ∀ p, p < 13 → wM t p l = if nd l t = 0 then wL t p (nd t l) else 0 := by decide +kernel
theorem wL_all : ∀ t, t < 16 → ∀ p, p < 13 → sumN (fun l => wM t p l) 16 = 12 ^ pc t := by decide +kernel
theorem wL_small : ∀ t, t < 16 → ∀ x, x < 16 → ∀ p, p < 13 → wL t p x ≤ 20736 := by decide +kernel
theorem wM_small : ∀ t, t < 16 → ∀ x, x < 16 → ∀ p, p < 13 → wM t p x ≤ 20736 := by decide +kernel
theorem sum_turn (G : Nat → Nat) : ∀ t, t < 16 → sumN (fun l => if nd l t = 0 then G (nd t l) else 0) 16 = sumN (fun x => if nd x t = 0 then G x else 0) 16 := by
  intro t ht
  have h : t = 0 ∨ t = 1 ∨ t = 2 ∨ t = 3 ∨ t = 4 ∨ t = 5 ∨ t = 6 ∨ t = 7 ∨ t = 8 ∨ t = 9 ∨ t = 10 ∨ t = 11 ∨ t = 12 ∨ t = 13 ∨ t = 14 ∨ t = 15 := by omega
  rcases h with rfl | rfl | rfl | rfl | rfl | rfl | rfl | rfl | rfl | rfl | rfl | rfl | rfl | rfl | rfl | rfl
  all_goals
    simp [sumN, nd]
    try omega
theorem sumN_more {f : Nat → Nat} {N : Nat} : ∀ m, (∀ x, N ≤ x → x < N + m → f x = 0) → sumN f (N + m) = sumN f N
  | 0, _ => rfl
  | m + 1, h => by
    show sumN f (N + m) + f (N + m) = _
    rw [sumN_more m (fun x a b => h x a (by omega)), h (N + m) (by omega) (by omega), Nat.add_zero]
theorem sumN_le2 {f : Nat → Nat} {b : Nat} : ∀ n, (∀ i, i < n → f i ≤ b) → sumN f n ≤ b * n
  | 0, _ => by simp [sumN]
  | n + 1, h => by
    have h1 := sumN_le2 n (fun i a => h i (by omega))
    have h2 := h n (by omega)
    show sumN f n + f n ≤ b * (n + 1)
    rw [Nat.mul_succ]
    omega
/-- what is told of two with just the stones f -/
def gg (v : TV) (i j m f : Nat) : Nat := if m = 0 then (if lstV v i j f / 256 ≤ tl v then 1 else 0) else lstV v i j f / 256
theorem gg_le {v : TV} (hv : vOk v) (i j m f : Nat) : gg v i j m f ≤ 255 := by
  have := lstV_lt hv i j f
  unfold gg
  repeat' split
  all_goals omega
def upN (v : TV) (i j m p : Nat) : Nat := sumN (fun x => wL (stW v i) p x * gg v i j m x) 16
theorem up_term {v : TV} (hv : vOk v) (i j m : Nat) {p x : Nat} (hp : p < 13) (hx : x < 16) (t : Nat) (ht : t < 16) : wL t p x * gg v i j m x ≤ 20736 * 255 := Nat.mul_le_mul (wL_small t ht x hx p hp) (gg_le hv i j m x)
theorem pow_small : ∀ b, b ≤ 12 → ∀ k, k ≤ 6 → b ^ k ≤ 2985984 := by decide +kernel
theorem power_eq {b e : Nat} (hb : b ≤ 12) (he : e ≤ 6) : X4_power (nI b) (nI e) = some (nL (b ^ e)) := by
  unfold X4_power
  obtain ⟨s, hs, h⟩ := loop_I (fun fuel k (s : Nat) => X4_power_L1 (nI b) (nI e) (fun z => some z) fuel (nL s) (nI k)) (fun s => some (nL s)) e (fun k s => s = b ^ k)
    (fun fuel k s hk hI => by
      have hp := pow_small b hb k (by omega)
      refine ⟨b ^ (k + 1), ?_, rfl⟩
      show X4_power_L1 (nI b) (nI e) _ (fuel + 1) (nL s) (nI k) = _
      rw [X4_power_L1]
      have hq := pow_small b hb (k + 1) (by omega)
      have hq2 : b ^ k * b < 2 ^ 63 := by
        rw [← Nat.pow_succ]
        exact Nat.lt_of_le_of_lt hq (by decide)
      rw [if_neg (by rw [nI_le_iff (by omega) (by omega)]; omega), hI, nI_64 (by omega), nL_mul hq2 (by omega) (by omega), i_1, nI_sum, Nat.pow_succ])
    (fun fuel s hI => by
      show X4_power_L1 (nI b) (nI e) _ (fuel + 1) (nL s) (nI e) = _
      rw [X4_power_L1]
      rw [if_pos (Int32.le_refl _)])
    e bigF 0 1 (by omega) (bigF_gt (by omega)) rfl
  rw [← hs]
  exact h
theorem chance_eq {t x p : Nat} (ht : t < 16) (hx : x < 16) (hp : p < 13) : X4_chance (nI t) (nI x) (nI p) = some (nL (wL t p x)) := by
  have h1 := nd_le x t
  have h2 := nd_le t x
  unfold X4_chance wL
  rw [nI_nd, nI_nd]
  by_cases c : nd x t = 0
  · have p1 := pow_small (12 - p) (by omega) (pc x) (pc_le x)
    have p2 := pow_small p (by omega) (pc (nd t x)) (pc_le _)
    rw [if_pos (by rw [c]; rfl), if_pos c, bc_pc x (by omega), i_12, nI_subL (by omega), power_eq (by omega) (pc_le x), bind_s, bc_pc _ (by omega), power_eq (by omega) (pc_le _), bind_s, nL_mul (by
      have := Nat.mul_le_mul p1 p2
      omega) (by omega) (by omega)]
  · rw [if_neg (by rw [i_0, nI_eq_iff (by omega) (by omega)]; exact c), if_neg c]
    rfl
theorem gcd_step (x : Nat) {y : Nat} : Nat.gcd x y = Nat.gcd y (x % y) := by
  rw [Nat.gcd_comm x y, Nat.gcd_rec, Nat.gcd_comm]
theorem tell_L1 (K : Int64 → Option xLon) : ∀ (y fuel x c : Nat), y < fuel → c + y < 1000000 → x < 2 ^ 62 → y < 2 ^ 62 → X4_tell_L1 K fuel (nL x) (nL y) (nI c) = K (nL (Nat.gcd x y)) := by
  intro y
  induction y using Nat.strongRecOn with
  | ind y ih =>
    intro fuel x c hf hc hx hy
    obtain ⟨f, rfl⟩ : ∃ f, fuel = f + 1 := ⟨fuel - 1, by omega⟩
    rw [X4_tell_L1]
    rw [if_neg (by rw [show (1000000 : Int32) = nI 1000000 from rfl, nI_le_iff (by omega) (by omega)]; omega)]
    by_cases h : y = 0
    · subst h
      rw [if_pos ((nL_0 (by omega)).mpr rfl), Nat.gcd_zero_right]
    · have hm : x % y < y := Nat.mod_lt _ (by omega)
      rw [if_neg (fun w => h ((nL_0 (by omega)).mp w)), rmL_nLL (by omega) (by omega) (by omega), bind_s, i_1, nI_sum, ih _ hm f y (c + 1) (by omega) (by omega) hy (by omega), ← gcd_step]
theorem tellParts_L1 (K : Int64 → Option (Int32 × xLon)) : ∀ (y fuel x : Nat), y < fuel → x < 2 ^ 62 → y < 2 ^ 62 → X5_tellParts_L1 K fuel (nL x) (nL y) = K (nL (Nat.gcd x y)) := by
  intro y
  induction y using Nat.strongRecOn with
  | ind y ih =>
    intro fuel x hf hx hy
    obtain ⟨f, rfl⟩ : ∃ f, fuel = f + 1 := ⟨fuel - 1, by omega⟩
    rw [X5_tellParts_L1]
    by_cases h : y = 0
    · subst h
      rw [if_pos ((nL_0 (by omega)).mpr rfl), Nat.gcd_zero_right]
    · have hm : x % y < y := Nat.mod_lt _ (by omega)
      rw [if_neg (fun w => h ((nL_0 (by omega)).mp w)), rmL_nLL (by omega) (by omega) (by omega), bind_s, ih _ hm f y (by omega) hy (by omega), ← gcd_step]
theorem tellC_eq (L : xLon) {a b : Nat} (ha : a < 2 ^ 62) (hb : b < 100000) (hb0 : 0 < b) : X4_tell L (nL a) (nL b) = some (wrL (wrL L 11 (nL (a / Nat.gcd a b))) 12 (nL (b / Nat.gcd a b))) := by
  have hg : 0 < Nat.gcd a b := Nat.gcd_pos_of_pos_right _ hb0
  have hgl : Nat.gcd a b ≤ b := Nat.gcd_le_right _ hb0
  unfold X4_tell
  rw [i_0, tell_L1 _ b bigF a 0 (bigF_gt (by omega)) (by omega) ha (by omega), if_neg (fun w => by
    have := (nL_0 (by omega)).mp w
    omega), dvL_nL (by omega) hg (by omega), bind_s, bind_s, dvL_nL (by omega) hg (by omega), bind_s, bind_s]
theorem tellParts_eq (L : xLon) {a b : Nat} (ha : a < 2 ^ 62) (hb : b < 100000) (hb0 : 0 < b) : X5_tellParts L (nL a) (nL b) = some (1, wrL (wrL L 12 (nL (a / Nat.gcd a b))) 13 (nL (b / Nat.gcd a b))) := by
  have hg : 0 < Nat.gcd a b := Nat.gcd_pos_of_pos_right _ hb0
  have hgl : Nat.gcd a b ≤ b := Nat.gcd_le_right _ hb0
  unfold X5_tellParts
  rw [tellParts_L1 _ b bigF a (bigF_gt (by omega)) ha (by omega), dvL_nL (by omega) hg (by omega), bind_s, bind_s, dvL_nL (by omega) hg (by omega), bind_s, bind_s]
section ODD
variable {I J : xMem} {L M : xLon} {P Dr : Nat} {v : TV}
theorem up_cut (hv : vOk v) (i j m p : Nat) : sumN (fun x => wL (stW v i) p x * gg v i j m x) (2 ^ ts v) = upN v i j m p := by
  have h3 := p2s hv
  have hst := stW_lt hv i
  have := sumN_more (f := fun x => wL (stW v i) p x * gg v i j m x) (N := 2 ^ ts v) (16 - 2 ^ ts v) (fun x a b => by
    show wL (stW v i) p x * gg v i j m x = 0
    have : wL (stW v i) p x = 0 := by
      unfold wL
      rw [if_neg]
      intro w
      have := nd0_le w
      omega
    rw [this, Nat.zero_mul])
  rw [show 2 ^ ts v + (16 - 2 ^ ts v) = 16 by omega] at this
  exact this.symm
theorem up_lt (hv : vOk v) (i j m : Nat) {p : Nat} (hp : p < 13) {n : Nat} (hn : n ≤ 16) : sumN (fun x => wL (stW v i) p x * gg v i j m x) n ≤ 20736 * 255 * 16 := by
  have h3 := p2s hv
  have hst := stW_lt hv i
  have := sumN_le2 (f := fun x => wL (stW v i) p x * gg v i j m x) (b := 20736 * 255) n (fun x a => up_term hv i j m hp (by omega) _ (by omega))
  omega
theorem oddsC_sum (hv : vOk v) (h : VC I P v) {i j p : Nat} (hi : i < tn v) (hj : j < tn v) (hp : p < 13) (K : Int64 → Option (Int32 × xLon)) : X4_odds_L1 P I (nI i) (nI j) (nI p) K bigF (nL 0) (nI 0) = K (nL (upN v i j 0 p)) := by
  have h3 := p2s hv
  have hst := stW_lt hv i
  have h4 : 0 < 2 ^ ts v := Nat.pos_of_ne_zero (by simp)
  have hall := h.allStones hv
  have e4 : allS v = 2 ^ ts v - 1 := rfl
  have hl := hv.2.2.1
  obtain ⟨s, hs, he⟩ := loop_I (fun fuel k (s : Nat) => X4_odds_L1 P I (nI i) (nI j) (nI p) K fuel (nL s) (nI k)) (fun s => K (nL s)) (2 ^ ts v) (fun k s => s = sumN (fun x => wL (stW v i) p x * gg v i j 0 x) k)
    (fun fuel k s hk hI => by
      refine ⟨sumN (fun x => wL (stW v i) p x * gg v i j 0 x) (k + 1), ?_, rfl⟩
      have hb := up_lt hv i j 0 hp (n := k) (by omega)
      have ht := up_term hv i j 0 hp (x := k) (by omega) (stW v i) (by omega)
      have hlst := lstV_lt hv i j k
      show X4_odds_L1 P I (nI i) (nI j) (nI p) K (fuel + 1) (nL s) (nI k) = X4_odds_L1 P I (nI i) (nI j) (nI p) K fuel (nL (sumN _ k + wL (stW v i) p k * gg v i j 0 k)) (nI (k + 1))
      rw [X4_odds_L1]
      rw [hall, if_neg (by rw [nI_lt_iff (by omega) (by omega)]; omega), h.least4 hv hi hj hk, bind_s, h.1.1, i_256, nI_div (by omega) (by omega) (by omega)]
      rw [← hI] at hb ⊢
      by_cases c : lstV v i j k / 256 ≤ tl v
      · have e : gg v i j 0 k = 1 := by
          unfold gg
          rw [if_pos rfl, if_pos c]
        have hw := wL_small (stW v i) (by omega) k (by omega) p hp
        rw [if_neg (by rw [nI_lt_iff (by omega) (by omega)]; omega), h.stonesWith hv hi, bind_s, chance_eq (by omega) (by omega) hp, bind_s, nL_sum (by omega), e, Nat.mul_one, i_1, nI_sum]
      · have e : gg v i j 0 k = 0 := by
          unfold gg
          rw [if_pos rfl, if_neg c]
        rw [if_pos (by rw [nI_lt_iff (by omega) (by omega)]; omega), e, Nat.mul_zero, Nat.add_zero, i_1, nI_sum])
    (fun fuel s hI => by
      show X4_odds_L1 P I (nI i) (nI j) (nI p) K (fuel + 1) (nL s) (nI (2 ^ ts v)) = _
      rw [X4_odds_L1]
      rw [hall, if_pos (by rw [nI_lt_iff (by omega) (by omega)]; omega)])
    (2 ^ ts v) bigF 0 0 (by omega) (bigF_gt (by omega)) rfl
  rw [he, hs, up_cut hv]
theorem midC_sum (hv : vOk v) (h : VC I P v) {i j p : Nat} (hi : i < tn v) (hj : j < tn v) (hp : p < 13) (K : Int64 → Option (Int32 × xLon)) : X4_mid_L1 P I (nI i) (nI j) (nI p) K bigF (nL 0) (nI 0) = K (nL (upN v i j 1 p)) := by
  have h3 := p2s hv
  have hst := stW_lt hv i
  have h4 : 0 < 2 ^ ts v := Nat.pos_of_ne_zero (by simp)
  have hall := h.allStones hv
  have e4 : allS v = 2 ^ ts v - 1 := rfl
  obtain ⟨s, hs, he⟩ := loop_I (fun fuel k (s : Nat) => X4_mid_L1 P I (nI i) (nI j) (nI p) K fuel (nL s) (nI k)) (fun s => K (nL s)) (2 ^ ts v) (fun k s => s = sumN (fun x => wL (stW v i) p x * gg v i j 1 x) k)
    (fun fuel k s hk hI => by
      refine ⟨sumN (fun x => wL (stW v i) p x * gg v i j 1 x) (k + 1), ?_, rfl⟩
      have hb := up_lt hv i j 1 hp (n := k) (by omega)
      have ht := up_term hv i j 1 hp (x := k) (by omega) (stW v i) (by omega)
      have hlst := lstV_lt hv i j k
      have hw := wL_small (stW v i) (by omega) k (by omega) p hp
      have e : gg v i j 1 k = lstV v i j k / 256 := by
        unfold gg
        rw [if_neg (by decide)]
      show X4_mid_L1 P I (nI i) (nI j) (nI p) K (fuel + 1) (nL s) (nI k) = X4_mid_L1 P I (nI i) (nI j) (nI p) K fuel (nL (sumN _ k + wL (stW v i) p k * gg v i j 1 k)) (nI (k + 1))
      rw [e] at ht ⊢
      rw [X4_mid_L1]
      rw [hall, if_neg (by rw [nI_lt_iff (by omega) (by omega)]; omega), h.stonesWith hv hi, bind_s, chance_eq (by omega) (by omega) hp, bind_s, h.least4 hv hi hj hk, bind_s, i_256, nI_div (by omega) (by omega) (by omega), nI_64 (by omega), nL_mul (by omega) (by omega) (by omega)]
      rw [← hI] at hb ⊢
      rw [nL_sum (by omega), i_1, nI_sum])
    (fun fuel s hI => by
      show X4_mid_L1 P I (nI i) (nI j) (nI p) K (fuel + 1) (nL s) (nI (2 ^ ts v)) = _
      rw [X4_mid_L1]
      rw [hall, if_pos (by rw [nI_lt_iff (by omega) (by omega)]; omega)])
    (2 ^ ts v) bigF 0 0 (by omega) (bigF_gt (by omega)) rfl
  rw [he, hs, up_cut hv]
theorem ways_eq {t l p : Nat} (ht : t < 16) (hl : l < 16) (hp : p < 13) (K : Int64 → Option (Int32 × xMem × xLon)) : X5_tellLost_L2 (nI p) (nI t) (nI l) K bigF (if nI (nd l t) = nI 0 then (1 : Int64) else 0) (nI 0) = K (nL (wM t p l)) := by
  have h1 := nd_le l t
  have e0 : (if nI (nd l t) = nI 0 then (1 : Int64) else 0) = nL (if nd l t = 0 then 1 else 0) := by
    by_cases c : nd l t = 0
    · rw [if_pos (by rw [c]), if_pos c]
      rfl
    · rw [if_neg (by rw [nI_eq_iff (by omega) (by omega)]; exact c), if_neg c]
      rfl
  rw [e0]
  refine loop_F (fun fuel k (s : Nat) => X5_tellLost_L2 (nI p) (nI t) (nI l) K fuel (nL s) (nI k)) (fun s => K (nL s)) 4 (fun k s => s * (if t.testBit k then (if l.testBit k then p else 12 - p) else 1)) (fun k s => s ≤ 12 ^ k)
    (fun fuel k s hk hI => ?_)
    (fun fuel s _ => by
      show X5_tellLost_L2 (nI p) (nI t) (nI l) K (fuel + 1) (nL s) (nI 4) = _
      rw [X5_tellLost_L2]
      rw [if_pos (by rw [i_4]; exact Int32.le_refl _)])
    4 bigF 0 (if nd l t = 0 then 1 else 0) (by omega) (bigF_gt (by omega)) (by split <;> omega)
  have hb : (if t.testBit k then (if l.testBit k then p else 12 - p) else 1) ≤ 12 := by
    repeat' split
    all_goals omega
  have hp1 := pow_small 12 (by omega) k (by omega)
  have hm := Nat.mul_le_mul hI hb
  rw [← Nat.pow_succ] at hm
  have hp2 := pow_small 12 (by omega) (k + 1) (by omega)
  refine ⟨?_, hm⟩
  show X5_tellLost_L2 (nI p) (nI t) (nI l) K (fuel + 1) (nL s) (nI k) = _
  rw [X5_tellLost_L2]
  have eq : (if X5_has (nI t) (nI k) = 0 then (some (1 : Int64)) else (if X5_has (nI l) (nI k) = 0 then (some (((12 : Int32) - nI p).toInt64)) else (some (nI p).toInt64))) = some (nL (if t.testBit k then (if l.testBit k then p else 12 - p) else 1)) := by
    rw [has_spec (by omega) (by omega), has_spec (by omega) (by omega)]
    by_cases c1 : t.testBit k = true
    · rw [if_pos c1, if10, if_pos c1]
      by_cases c2 : l.testBit k = true
      · rw [if_pos c2, if10, if_pos c2, nI_64 (by omega)]
      · rw [if_neg c2, if00, if_neg c2, i_12, nI_subL (by omega), nI_64 (by omega)]
    · rw [if_neg c1, if00, if_neg c1]
      rfl
  rw [if_neg (by rw [i_4, nI_le_iff (by omega) (by omega)]; omega), eq, bind_s, nL_mul (by omega) (by omega) (by omega), i_1, nI_sum]
theorem VM.lost (hv : vOk v) (h : VM J v) {i j p m : Nat} (hi : i < tn v) (hj : j < tn v) (hp : p < 13) (hm : m ≤ 1) (K : Int64 → Int64 → xMem → Option (Int32 × xMem × xLon)) : ∃ J', s24 J J' ∧ X5_tellLost_L1 (nI i) (nI j) (nI p) (nI m) (nI (stW v i)) K bigF (nL 0) (nL 0) (nI 0) J = K (nL (upN v i j m p)) (nL (12 ^ pc (stW v i))) J' := by
  have h3 := p2s hv
  have hst := stW_lt hv i
  have hl := hv.2.2.1
  have tS : ∀ l, l < 16 → wM (stW v i) p l * gg v i j m (nd (stW v i) l) ≤ 20736 * 255 := fun l hl => Nat.mul_le_mul (wM_small _ (by omega) l hl p hp) (gg_le hv i j m _)
  obtain ⟨⟨a, b, Z⟩, ⟨ha, hb, hZ⟩, he⟩ := loop_I (fun fuel k (z : Nat × Nat × xMem) => X5_tellLost_L1 (nI i) (nI j) (nI p) (nI m) (nI (stW v i)) K fuel (nL z.1) (nL z.2.1) (nI k) z.2.2) (fun z => K (nL z.1) (nL z.2.1) z.2.2) 16 (fun k z => z.1 = sumN (fun l => wM (stW v i) p l * gg v i j m (nd (stW v i) l)) k ∧ z.2.1 = sumN (fun l => wM (stW v i) p l) k ∧ s24 J z.2.2)
    (fun fuel k z hk hI => by
      obtain ⟨a, b, Z⟩ := z
      obtain ⟨ha, hb, hZ⟩ := hI
      have ha : a = _ := ha
      have hb : b = _ := hb
      have hZ : s24 J Z := hZ
      have hM := h.sc hZ
      have q1 := sumN_le2 (f := fun l => wM (stW v i) p l * gg v i j m (nd (stW v i) l)) (b := 20736 * 255) k (fun l q => tS l (by omega))
      have q2 := sumN_le2 (f := fun l => wM (stW v i) p l) (b := 20736) k (fun l q => wM_small _ (by omega) l (by omega) p hp)
      rw [← ha] at q1
      rw [← hb] at q2
      have q3 := tS k hk
      have q4 := wM_small (stW v i) (by omega) k hk p hp
      have hndl := nd_le (stW v i) k
      have hlst := lstV_lt hv i j (nd (stW v i) k)
      have hle := hM.least hv hi hj (f := nd (stW v i) k) (by omega)
      refine ⟨(a + wM (stW v i) p k * gg v i j m (nd (stW v i) k), b + wM (stW v i) p k, wr Z 0 24 (nI (lstV v i j (nd (stW v i) k) % 256))), ?_, ?_, ?_, hZ.tr ⟨_, rfl⟩⟩
      · show X5_tellLost_L1 (nI i) (nI j) (nI p) (nI m) (nI (stW v i)) K (fuel + 1) (nL a) (nL b) (nI k) Z = _
        rw [X5_tellLost_L1]
        rw [if_neg (by rw [i_16, nI_le_iff (by omega) (by omega)]; omega), nI_nd, ite_bind, show (0 : Int32) = nI 0 from rfl]
        rw [ways_eq (by omega) hk hp]
        rw [nI_nd, hle, bind_s]
        have at1 : wr Z 0 24 (nI (lstV v i j (nd (stW v i) k) % 256)) 0 1 = nI (tl v) := (wr_off _ _ (by omega)).trans hM.1.1
        have fin : (if nI m = nI 0 then (if wr Z 0 24 (nI (lstV v i j (nd (stW v i) k) % 256)) 0 1 < nI (lstV v i j (nd (stW v i) k) / 256) then some (0 : Int64) else some (nL (wM (stW v i) p k))) else some (nL (wM (stW v i) p k) * (nI (lstV v i j (nd (stW v i) k) / 256)).toInt64)) = some (nL (wM (stW v i) p k * gg v i j m (nd (stW v i) k))) := by
          unfold gg at q3 ⊢
          by_cases c : m = 0
          · rw [if_pos (by rw [c]), if_pos c]
            by_cases c2 : lstV v i j (nd (stW v i) k) / 256 ≤ tl v
            · rw [if_neg (by rw [at1, nI_lt_iff (by omega) (by omega)]; omega), if_pos c2, Nat.mul_one]
            · rw [if_pos (by rw [at1, nI_lt_iff (by omega) (by omega)]; omega), if_neg c2, Nat.mul_zero]
              rfl
          · rw [if_neg c] at q3
            rw [if_neg (by rw [nI_eq_iff (by omega) (by omega)]; exact c), if_neg c, nI_64 (by omega), nL_mul (by omega) (by omega) (by omega)]
        dsimp only
        rw [fin, bind_s, nL_sum (by omega), nL_sum (by omega), i_1, nI_sum]
      · show a + _ = _
        rw [ha]
        rfl
      · show b + _ = _
        rw [hb]
        rfl)
    (fun fuel z hI => by
      obtain ⟨a, b, Z⟩ := z
      show X5_tellLost_L1 (nI i) (nI j) (nI p) (nI m) (nI (stW v i)) K (fuel + 1) (nL a) (nL b) (nI 16) Z = _
      rw [X5_tellLost_L1]
      rw [if_pos (by rw [i_16]; exact Int32.le_refl _)])
    16 bigF 0 (0, 0, J) (by omega) (bigF_gt (by omega)) ⟨rfl, rfl, s24.rf J⟩
  have ha : a = _ := ha
  have hb : b = _ := hb
  refine ⟨Z, hZ, he.trans ?_⟩
  show K (nL a) (nL b) Z = _
  have e1 : a = upN v i j m p := by
    rw [ha]
    have s1 := sumN_congr (f := fun l => wM (stW v i) p l * gg v i j m (nd (stW v i) l)) (g := fun l => if nd l (stW v i) = 0 then (fun x => wL (stW v i) p x * gg v i j m x) (nd (stW v i) l) else 0) 16 (fun l hl => by
      show wM (stW v i) p l * _ = _
      rw [wM_eq _ (by omega) l hl p hp]
      split
      · rfl
      · rw [Nat.zero_mul])
    rw [s1, sum_turn (fun x => wL (stW v i) p x * gg v i j m x) (stW v i) (by omega)]
    unfold upN
    refine sumN_congr 16 (fun x hx => ?_)
    show (if nd x (stW v i) = 0 then wL (stW v i) p x * gg v i j m x else 0) = _
    by_cases c : nd x (stW v i) = 0
    · rw [if_pos c]
    · rw [if_neg c]
      unfold wL
      rw [if_neg c, Nat.zero_mul]
  rw [e1, hb, wL_all _ (by omega) p hp]
end ODD
section OPO
variable {I J : xMem} {L M : xLon} {P Dr : Nat}
theorem Sim.longs (h : Sim I L P Dr J M) (a b : Int64) : Sim I (wrL (wrL L 11 a) 12 b) P Dr J (wrL (wrL M 12 a) 13 b) := by
  obtain ⟨p, r, f, l, w⟩ := h
  refine ⟨p, r, f, ⟨?_, ?_⟩, w⟩
  · simp [wrL_at]
  · simp [wrL_at]
/-- answers with longs -/
def BtL (P Dr : Nat) (I : xMem) (a : Option (Int32 × xLon)) (b : Option (Int32 × xMem × xLon)) : Prop := ∃ r L' J' M', a = some (r, L') ∧ b = some (r, J', M') ∧ Sim I L' P Dr J' M'
theorem op_chances (h : Sim I L P Dr J M) (x1 x2 x3 : Int32) {m : Nat} (hm : m ≤ 1) (a : Option (Int32 × xLon))
    (h1 : ∀ v, vOk v → VC I P v → ¬ (ix x1 (tn v) ∧ ix x2 (tn v) ∧ x1 ≠ x2) → a = some (-1, L))
    (h2 : ∀ v, vOk v → VC I P v → (ix x1 (tn v) ∧ ix x2 (tn v) ∧ x1 ≠ x2) → ¬ ix x3 13 → a = some (-1, L))
    (h3 : ∀ v i j p, vOk v → VC I P v → x1 = nI i → x2 = nI j → x3 = nI p → i < tn v → j < tn v → i ≠ j → p < 13 → ¬ same v i j → a = some (-4, L))
    (h4 : ∀ v i j p, vOk v → VC I P v → x1 = nI i → x2 = nI j → x3 = nI p → i < tn v → j < tn v → i ≠ j → p < 13 → same v i j → a = (X4_tell L (nL (upN v i j m p)) (nL (12 ^ pc (stW v i)))).bind fun q15 => some ((1 : Int32), q15)) :
    BtL P Dr I a ((X5_tellLost J M x1 x2 x3 (nI m)).bind fun q1 => some (q1.1, q1.2.1, q1.2.2)) := by
  obtain ⟨v, hv, hC, hM⟩ := h.view
  have h6 := hv.1
  unfold X5_tellLost
  have r0 : (0 : Int64).toInt = 0 := rfl
  have r12 : (12 : Int64).toInt = 12 := rfl
  rw [hM.two hv, in_spec, t64, r0, r12]
  by_cases c1 : ix x1 (tn v) ∧ ix x2 (tn v) ∧ x1 ≠ x2
  · rw [if_pos c1, if10]
    by_cases c2 : ix x3 13
    · have c2' : 0 ≤ x3.toInt ∧ x3.toInt ≤ 12 := by
        unfold ix at c2
        omega
      rw [if_pos c2', if10]
      obtain ⟨i, hi, e1⟩ := ix_of c1.1 (by omega)
      obtain ⟨j, hj, e2⟩ := ix_of c1.2.1 (by omega)
      obtain ⟨p, hp, e3⟩ := ix_of c2 (by omega)
      have hij : i ≠ j := fun w => c1.2.2 (by rw [e1, e2, w])
      rw [e1, e2, e3, hM.oneEnd hv hi hj, bind_s]
      by_cases c4 : same v i j
      · have ha := h4 v i j p hv hC e1 e2 e3 hi hj hij hp c4
        have h3 := p2s hv
        have hst := stW_lt hv i
        have hu : upN v i j m p ≤ 20736 * 255 * 16 := up_lt hv i j m hp (n := 16) (by omega)
        have hpow : 12 ^ pc (stW v i) ≤ 20736 := by
          have : ∀ t, t < 16 → 12 ^ pc t ≤ 20736 := by decide +kernel
          exact this _ (by omega)
        have hpow0 : 0 < 12 ^ pc (stW v i) := Nat.pos_of_ne_zero (by simp)
        obtain ⟨J', hJ', he⟩ := hM.lost hv hi hj hp hm (fun (z6_8 : Int64) (z8_8 : Int64) (I9 : xMem) => (X5_tellParts M z6_8 z8_8).bind fun q23 => some (q23.1, I9, q23.2))
        rw [if_pos c4, if10, hM.stonesBy hv hi, bind_s]
        rw [tellC_eq L (by omega) (by omega) hpow0, bind_s] at ha
        have he2 := he.trans (congrArg (fun o => o.bind fun q23 => some (q23.1, J', q23.2)) (tellParts_eq M (a := upN v i j m p) (b := 12 ^ pc (stW v i)) (by omega) (by omega) hpow0))
        refine ⟨_, _, _, _, ha, ?_, (h.longs _ _).scr (cAg.rf I) hJ'.ag⟩
        refine (congrArg (fun o => Option.bind o fun q1 => some (q1.1, q1.2.1, q1.2.2)) he2).trans ?_
        rfl
      · have ha := h3 v i j p hv hC e1 e2 e3 hi hj hij hp c4
        rw [if_neg c4, if00]
        exact ⟨_, _, _, _, ha, rfl, h⟩
    · have ha := h2 v hv hC c1 c2
      have c2' : ¬ (0 ≤ x3.toInt ∧ x3.toInt ≤ 12) := by
        unfold ix at c2
        omega
      rw [if_neg c2', if00]
      exact ⟨_, _, _, _, ha, rfl, h⟩
  · have ha := h1 v hv hC c1
    rw [if_neg c1, if00]
    exact ⟨_, _, _, _, ha, rfl, h⟩
theorem no12 {x : Int32} (h : ¬ ix x 13) {α : Type} (a b : α) : (if x < (0 : Int32) then a else (if x ≤ (12 : Int32) then b else a)) = a := by
  have q0 : (0 : Int32).toInt = 0 := rfl
  have q2 : (12 : Int32).toInt = 12 := rfl
  simp only [Int32.lt_iff_toInt_lt, Int32.le_iff_toInt_le, q0, q2]
  unfold ix at h
  by_cases c : x.toInt < 0
  · rw [if_pos c]
  · rw [if_neg c, if_neg (by omega)]
theorem op_odds (h : Sim I L P Dr J M) (x1 x2 x3 : Int32) : BtL P Dr I (X4_odds P I L x1 x2 x3) (X5_odds J M x1 x2 x3) := by
  refine op_chances h x1 x2 x3 (m := 0) (by omega) _ (fun v hv hC c => ?_) (fun v hv hC c c2 => ?_) (fun v i j p hv hC e1 e2 e3 hi hj hij hp c => ?_) (fun v i j p hv hC e1 e2 e3 hi hj hij hp c => ?_)
  · unfold X4_odds
    rw [hC.noPair hv, if_neg c, if10]
  · unfold X4_odds
    rw [no12 c2]
    split <;> rfl
  all_goals
    have h6 := hv.1
    have c1 : ix (nI i) (tn v) ∧ ix (nI j) (tn v) ∧ nI i ≠ nI j := ⟨(ix_nI (by omega)).mpr hi, (ix_nI (by omega)).mpr hj, by
      rw [Ne, nI_eq_iff (by omega) (by omega)]
      exact hij⟩
    rw [e1, e2, e3]
    unfold X4_odds
    rw [hC.noPair hv, if_pos c1, if00, if_neg (by rw [i_0, nI_lt_iff (by omega) (by omega)]; omega), if_pos (by rw [i_12, nI_le_iff (by omega) (by omega)]; omega), hC.apart hv hi hj, bind_s]
  · rw [if_neg c, if_neg (by decide)]
  · have hs := stW_lt hv i
    have h16 := p2s hv
    rw [if_pos c, if_pos (show nI 0 = 0 from rfl)]
    refine (oddsC_sum hv hC hi hj hp _).trans ?_
    rw [hC.stonesWith hv hi, bind_s, bc_pc _ (by omega), i_12, power_eq (by omega) (pc_le _), bind_s]
theorem op_mid (h : Sim I L P Dr J M) (x1 x2 x3 : Int32) : BtL P Dr I (X4_mid P I L x1 x2 x3) (X5_mid J M x1 x2 x3) := by
  refine op_chances h x1 x2 x3 (m := 1) (by omega) _ (fun v hv hC c => ?_) (fun v hv hC c c2 => ?_) (fun v i j p hv hC e1 e2 e3 hi hj hij hp c => ?_) (fun v i j p hv hC e1 e2 e3 hi hj hij hp c => ?_)
  · unfold X4_mid
    rw [hC.noPair hv, if_neg c, if10]
  · unfold X4_mid
    rw [no12 c2]
    split <;> rfl
  all_goals
    have h6 := hv.1
    have c1 : ix (nI i) (tn v) ∧ ix (nI j) (tn v) ∧ nI i ≠ nI j := ⟨(ix_nI (by omega)).mpr hi, (ix_nI (by omega)).mpr hj, by
      rw [Ne, nI_eq_iff (by omega) (by omega)]
      exact hij⟩
    rw [e1, e2, e3]
    unfold X4_mid
    rw [hC.noPair hv, if_pos c1, if00, if_neg (by rw [i_0, nI_lt_iff (by omega) (by omega)]; omega), if_pos (by rw [i_12, nI_le_iff (by omega) (by omega)]; omega), hC.apart hv hi hj, bind_s]
  · rw [if_neg c, if_neg (by decide)]
  · have hs := stW_lt hv i
    have h16 := p2s hv
    rw [if_pos c, if_pos (show nI 0 = 0 from rfl)]
    refine (midC_sum hv hC hi hj hp _).trans ?_
    rw [hC.stonesWith hv hi, bind_s, bc_pc _ (by omega), i_12, power_eq (by omega) (pc_le _), bind_s]
end OPO
