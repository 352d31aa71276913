/-! SINK, BEST, LOAVES, WAITS, ONE, MARK -/
theorem sumN_0 : ∀ n, sumN (fun _ => 0) n = 0
  | 0 => rfl
  | n + 1 => by
    show sumN (fun _ => 0) n + 0 = 0
    rw [sumN_0 n]
theorem sumN_congr {f g : Nat → Nat} : ∀ n, (∀ i, i < n → f i = g i) → sumN f n = sumN g n
  | 0, _ => rfl
  | n + 1, h => by
    show sumN f n + f n = sumN g n + g n
    rw [sumN_congr n (fun i hi => h i (by omega)), h n (by omega)]
theorem setW_0 (v : TV) : setW v 0 = 0 := by
  unfold setW
  rw [sumN_congr (g := fun _ => 0) (ts v) (fun i _ => by simp)]
  exact sumN_0 _
/-- the sum without one place -/
theorem sumN_but {f : Nat → Nat} {i : Nat} : ∀ n, sumN (fun j => if j = i then 0 else f j) n + (if i < n then f i else 0) = sumN f n
  | 0 => by simp [sumN]
  | n + 1 => by
    have h := sumN_but (f := f) (i := i) n
    show sumN (fun j => if j = i then 0 else f j) n + (if n = i then 0 else f n) + _ = sumN f n + f n
    by_cases e : n = i
    · subst e
      rw [if_pos rfl, if_pos (by omega)]
      rw [if_neg (by omega)] at h
      omega
    · rw [if_neg e]
      by_cases q : i < n
      · rw [if_pos (by omega)]
        rw [if_pos q] at h
        omega
      · rw [if_neg (by omega)]
        rw [if_neg q] at h
        omega
theorem foldF_sumk (f : Nat → Nat) : ∀ m k s, foldF (fun j s => s + f j) k m s = s + sumN (fun t => f (k + t)) m
  | 0, k, s => rfl
  | m + 1, k, s => by
    rw [foldF_succ, foldF_sumk f m k s]
    show s + sumN (fun t => f (k + t)) m + f (k + m) = s + (sumN (fun t => f (k + t)) m + f (k + m))
    omega
/-- kinds that one of a kind is, too -/
def isA (k q : Nat) : Bool := k == q || (q == 2 && k == 5) || (q == 3 && k == 4)
theorem isT_bit : ∀ k, k < 6 → ∀ q, q < 5 → ((isT k >>> (nI (q + 1) &&& 31)) &&& 1) = if isA k (q + 1) then 1 else 0 := by decide
theorem lst_le {v : TV} (hv : vOk v) {ca cb : Nat} (ha : ca ≤ 200) (hb : cb ≤ 200) (t : Prop) [Decidable t] (f m : Nat) : lst v ca cb t f / 256 ≤ m ↔ ∃ c, c < 256 ∧ okS f c ∧ sunkN (ca + setW v (c / 16)) (cb + setW v (c % 16)) t ≤ m := by
  rcases lst_is hv ha hb t f with ⟨-, h2⟩ | ⟨c, h1, h2, h3, h4⟩
  · exact absurd (okS_0 f) (h2 0 (by omega))
  · constructor
    · intro h
      refine ⟨c, h1, h2, ?_⟩
      rw [h3] at h
      unfold valS at h
      omega
    · rintro ⟨d, d1, d2, d3⟩
      have := h4 d d1 d2
      have hd : valS v ca cb t d = 256 * sunkN (ca + setW v (d / 16)) (cb + setW v (d % 16)) t + d := rfl
      omega
section OPQ
variable {I J : xMem} {L M : xLon} {P Dr : Nat}
theorem VC.stepsE {I : xMem} {P : Nat} {v : TV} (hv : vOk v) (h : VC I P v) {i j e : Nat} (hi : i < tn v) (hj : j < tn v) (he : e ≤ 9) : X1_steps P I (nI i) (nI j) (nI 0) (nI 0) (nI e) = some (nI (sunkN (cntOf (tk v i) (tw v i) e) (cntOf (tk v j) (tw v j) e) (twins v i j))) := by
  have h2 := hv.1
  have c1 := cntOf_le (k := tk v i) (hv.2.2.2.2.1 i) he
  have c2 := cntOf_le (k := tk v j) (hv.2.2.2.2.1 j) he
  have h0 : 0 < 2 ^ ts v := Nat.pos_of_ne_zero (by simp)
  unfold X1_steps
  rw [rdI_nI (by omega) (by omega), bind_s, rdI_nI (by omega) (by omega), bind_s, rdI_nI (by omega) (by omega), bind_s, rdI_nI (by omega) (by omega), bind_s, rdI_nI (by omega) (by omega), bind_s, bind_s, h.tws hv hi hj, bind_s]
  rw [(h.2.1 i hi).1, (h.2.1 i hi).2, (h.2.1 j hj).1, (h.2.1 j hj).2, h.2.2.2.1 0 h0, setW_0, cnt_nI (hv.2.2.2.1 i) (hv.2.2.2.2.1 i) he, cnt_nI (hv.2.2.2.1 j) (hv.2.2.2.2.1 j) he, nI_sum, nI_sum, Nat.add_zero, Nat.add_zero]
  rw [sunk_nI (by omega) (by omega)]
theorem op_sink (h : Sim I L P Dr J M) (x1 x2 x3 x4 : Int32) : ∃ r, X4_sink P I x1 x2 x3 x4 = some r ∧ X5_sink J x1 x2 x3 x4 = some r := by
  obtain ⟨v, hv, hC, hM⟩ := h.view
  have h16 := p2s hv
  unfold X4_sink X5_sink
  rw [hC.noPair hv, hM.two hv]
  by_cases c1 : ix x1 (tn v) ∧ ix x2 (tn v) ∧ x1 ≠ x2
  · rw [if_pos c1, if00, if_pos c1, if10, hC.noSets hv, hM.sets hv]
    by_cases c2 : ix x3 (2 ^ ts v) ∧ ix x4 (2 ^ ts v) ∧ x3 &&& x4 = 0
    · rw [if_pos c2, if00, if_pos c2, if10]
      obtain ⟨i, hi, rfl⟩ := ix_of c1.1 (by have := hv.1; omega)
      obtain ⟨j, hj, rfl⟩ := ix_of c1.2.1 (by have := hv.1; omega)
      obtain ⟨a, ha, rfl⟩ := ix_of c2.1 (by omega)
      obtain ⟨b, hb, rfl⟩ := ix_of c2.2.1 (by omega)
      rw [hC.steps4 hv hi hj ha hb, bind_s, hM.sink hv hi hj (by omega) (by omega), bind_s]
      exact ⟨_, rfl, rfl⟩
    · rw [if_neg c2, if10, if_neg c2, if00]
      exact ⟨_, rfl, rfl⟩
  · rw [if_neg c1, if10, if_neg c1, if00]
    exact ⟨_, rfl, rfl⟩
theorem op_best (h : Sim I L P Dr J M) (x1 x2 : Int32) : Bt L P Dr M (X4_best P I x1 x2) (X5_best J x1 x2) := by
  obtain ⟨v, hv, hC, hM⟩ := h.view
  have h16 := p2s hv
  unfold X4_best X5_best
  rw [hC.noPair hv, hM.two hv]
  by_cases c1 : ix x1 (tn v) ∧ ix x2 (tn v) ∧ x1 ≠ x2
  · rw [if_pos c1, if00, if_pos c1, if10]
    obtain ⟨i, hi, rfl⟩ := ix_of c1.1 (by have := hv.1; omega)
    obtain ⟨j, hj, rfl⟩ := ix_of c1.2.1 (by have := hv.1; omega)
    rw [hC.apart hv hi hj, bind_s, hM.oneEnd hv hi hj, bind_s]
    by_cases c3 : same v i j
    · have hst := stW_lt hv i
      have hl := lstV_lt hv i j (stW v i)
      rw [if_pos c3, if_pos c3, if_pos (show nI 0 = 0 from rfl), if10, hC.stonesWith hv hi, bind_s, hM.stonesBy hv hi, bind_s, hC.least4 hv hi hj hst, bind_s, hM.least hv hi hj (by omega), bind_s, bind_s]
      dsimp only
      rw [wr_eq, i_256, nI_rem (by omega) (by omega) (by omega), nI_div (by omega) (by omega) (by omega)]
      refine Bt.mk rfl rfl rfl ?_
      have h2 := (h.scr (cAg.rf I) (s24.ag ⟨nI (lstV v i j (stW v i) % 256), rfl⟩)).told (nI (lstV v i j (stW v i) % 256))
      exact h2
    · rw [if_neg c3, if_neg c3, if_neg (show ¬ nI 1 = 0 by decide), if00]
      exact Bt.mk rfl rfl rfl h
  · rw [if_neg c1, if10, if_neg c1, if00]
    exact Bt.mk rfl rfl rfl h
theorem op_loaves (h : Sim I L P Dr J M) (x1 x2 : Int32) : ∃ r, X4_loaves P I x1 x2 = some r ∧ X5_loaves J x1 x2 = some r := by
  obtain ⟨v, hv, hC, hM⟩ := h.view
  have he := hv.2.2.2.2.2.2.1
  have hl := hv.2.2.1
  have h6 := hv.1
  unfold X4_loaves X5_loaves
  rw [hC.noPair hv, hM.two hv]
  by_cases c1 : ix x1 (tn v) ∧ ix x2 (tn v) ∧ x1 ≠ x2
  · rw [if_pos c1, if00, if_pos c1, if10]
    obtain ⟨i, hi, rfl⟩ := ix_of c1.1 (by have := hv.1; omega)
    obtain ⟨j, hj, rfl⟩ := ix_of c1.2.1 (by have := hv.1; omega)
    rw [hC.apart hv hi hj, bind_s, hM.oneEnd hv hi hj, bind_s]
    by_cases c3 : same v i j
    · rw [if_pos c3, if_pos c3, if_pos (show nI 0 = 0 from rfl), if10]
      -- both loops step alike
      have key : ∀ (m fuel k : Nat), k + m = 10 - te v → m < fuel → ∃ r, X4_loaves_L1 P I (nI i) (nI j) (some (-9)) fuel (nI k) = some r ∧ X5_loaves_L1 J (nI i) (nI j) (some (-9)) fuel (nI k) = some r := by
        intro m
        induction m with
        | zero =>
          intro fuel k hk hf
          obtain ⟨f, rfl⟩ : ∃ f, fuel = f + 1 := ⟨fuel - 1, by omega⟩
          rw [X4_loaves_L1, X5_loaves_L1]
          rw [hC.eaten, bind_s, bind_s, i_1, rdI_nI (by omega) (by omega), bind_s, hM.2.2.2.1, i_9, i_10, pk_sub (by omega), nI_sum, if_pos (by rw [nI_lt_iff (by omega) (by omega)]; omega), if_pos (by rw [nI_le_iff (by omega) (by omega)]; omega)]
          exact ⟨_, rfl, rfl⟩
        | succ m ih =>
          intro fuel k hk hf
          obtain ⟨f, rfl⟩ : ∃ f, fuel = f + 1 := ⟨fuel - 1, by omega⟩
          obtain ⟨r, r1, r2⟩ := ih f (k + 1) (by omega) (by omega)
          have s1 := hC.stepsE hv hi hj (show te v + k ≤ 9 by omega)
          have ca := cntOf_le (k := tk v i) (hv.2.2.2.2.1 i) (show te v + k ≤ 9 by omega)
          have cb := cntOf_le (k := tk v j) (hv.2.2.2.2.1 j) (show te v + k ≤ 9 by omega)
          have hs : sunkN (cntOf (tk v i) (tw v i) (te v + k)) (cntOf (tk v j) (tw v j) (te v + k)) (twins v i j) ≤ 113 := sunkN_le ca cb
          rw [X4_loaves_L1, X5_loaves_L1]
          have e1 : rdI J 1 660 (nI 1) = some (nI (te v)) := by rw [rdI_nI (by omega) (by omega), hM.2.2.2.1]
          have e2 : rdI J 3 6 (nI i) = some (nI (tk v i)) := by rw [rdI_nI (by omega) (by omega), (hM.2.1 i hi).1]
          have e3 : rdI J 4 6 (nI i) = some (nI (tw v i)) := by rw [rdI_nI (by omega) (by omega), (hM.2.1 i hi).2]
          have e4 : rdI J 3 6 (nI j) = some (nI (tk v j)) := by rw [rdI_nI (by omega) (by omega), (hM.2.1 j hj).1]
          have e5 : rdI J 4 6 (nI j) = some (nI (tw v j)) := by rw [rdI_nI (by omega) (by omega), (hM.2.1 j hj).2]
          have e6 := cnt_nI (k := tk v i) (hv.2.2.2.1 i) (hv.2.2.2.2.1 i) (show te v + k ≤ 9 by omega)
          have e7 := cnt_nI (k := tk v j) (hv.2.2.2.1 j) (hv.2.2.2.2.1 j) (show te v + k ≤ 9 by omega)
          have e8 := hM.under hv hj (hv.2.2.2.1 i) (show cntOf (tk v i) (tw v i) (te v + k) < 2 ^ 30 by omega) (show cntOf (tk v j) (tw v j) (te v + k) < 2 ^ 30 by omega)
          rw [hC.eaten, i_1, i_0, i_9, i_10]
          simp only [bind_s, e1, e2, e3, e4, e5, nI_sum, s1, countsBy_eq, e6, e7, e8, hC.1.1, hM.1.1]
          have q1 : ¬ nI (9 - te v) < nI k := by rw [nI_lt_iff (by omega) (by omega)]; omega
          have q2 : ¬ nI 10 ≤ nI (te v + k) := by rw [nI_le_iff (by omega) (by omega)]; omega
          rw [pk_sub (by omega), if_neg q1, if_neg q2]
          by_cases q : nI (tl v) < nI (sunkN (cntOf (tk v i) (tw v i) (te v + k)) (cntOf (tk v j) (tw v j) (te v + k)) (twins v i j))
          · rw [if_pos q, if_pos q]
            exact ⟨r, r1, r2⟩
          · rw [if_neg q, if_neg q]
            exact ⟨_, rfl, rfl⟩
      exact key (10 - te v) bigF 0 (by omega) (bigF_gt (by omega))
    · rw [if_neg c3, if_neg c3, if_neg (show ¬ nI 1 = 0 by decide), if00]
      exact ⟨_, rfl, rfl⟩
  · rw [if_neg c1, if10, if_neg c1, if00]
    exact ⟨_, rfl, rfl⟩
theorem op_waits (h : Sim I L P Dr J M) (x1 : Int32) : ∃ r, X4_waits P I x1 = some r ∧ X5_waits J x1 = some r := by
  obtain ⟨v, hv, hC, hM⟩ := h.view
  have hl := hv.2.2.1
  have h6 := hv.1
  unfold X4_waits X5_waits
  rw [hC.nobody hv, hM.one hv]
  by_cases c1 : ix x1 (tn v)
  · rw [if_pos c1, if00, if_pos c1, if10]
    obtain ⟨i, hi, rfl⟩ := ix_of c1 (by omega)
    have hst := stW_lt hv i
    have h16 := p2s hv
    have hc := cnt_le hv i
    rw [hC.counts hv hi, bind_s, hC.stonesWith hv hi, bind_s, hM.stonesBy hv hi, bind_s]
    have wl := setW_le hv
    -- the model's inner loop
    have inner : ∀ (p : Nat) (K : Option Int32), p ≤ 99 → X5_waits_L2 J (nI i) (nI (stW v i)) (nI p) K bigF (nI 0) = if lst v (cnt v i) p False (stW v i) / 256 ≤ tl v then some (nI p) else K := by
      intro p K hp
      have hlst := lst_le hv (show cnt v i ≤ 200 by omega) (show p ≤ 200 by omega) False (stW v i) (tl v)
      refine loop_T (fun fuel c (_ : Unit) => X5_waits_L2 J (nI i) (nI (stW v i)) (nI p) K fuel (nI c)) (fun o => o = if lst v (cnt v i) p False (stW v i) / 256 ≤ tl v then some (nI p) else K) 256 (fun c _ => ∀ c', c' < c → okS (stW v i) c' → ¬ sunkN (cnt v i + setW v (c' / 16)) (p + setW v (c' % 16)) False ≤ tl v)
        (fun fuel c _ hc2 hI => ?_) (fun fuel _ hI => ?_) 256 bigF 0 () (by omega) (bigF_gt (by omega)) (fun c' h => absurd h (by omega))
      · show X5_waits_L2 J (nI i) (nI (stW v i)) (nI p) K (fuel + 1) (nI c) = _ ∨ ∃ s', X5_waits_L2 J (nI i) (nI (stW v i)) (nI p) K (fuel + 1) (nI c) = _ ∧ _
        rw [X5_waits_L2]
        rw [if_neg (by rw [i_256, nI_le_iff (by omega) (by omega)]; omega), i_16, nI_rem (by omega) (by omega) (by omega), nI_div (by omega) (by omega) (by omega), nI_and, nI_or, nI_nd]
        have hand : c / 16 &&& c % 16 < 2 ^ 31 := Nat.lt_of_le_of_lt Nat.and_le_left (by omega)
        have hnd : nd (c / 16 ||| c % 16) (stW v i) < 2 ^ 31 := by
          have q1 := nd_le (c / 16 ||| c % 16) (stW v i)
          have q2 : c / 16 ||| c % 16 < 2 ^ 4 := Nat.or_lt_two_pow (by omega) (by omega)
          omega
        by_cases ok : okS (stW v i) c
        · rw [if_pos (by rw [ok.1]; rfl), if_pos (by rw [ok.2]; rfl), bind_s, if10, hM.counts hv hi, bind_s, hM.pounds hv (by omega), bind_s, hM.pounds hv (by omega), bind_s, nI_sum, nI_sum, apart_nI (by have := wl (c / 16); omega) (by have := wl (c % 16); omega), hM.1.1]
          have e : sunkN (cnt v i + setW v (c / 16)) (p + setW v (c % 16)) False = dist (cnt v i + setW v (c / 16)) (p + setW v (c % 16)) := by
            unfold sunkN
            rw [if_neg (fun q => q)]
          have hd : dist (cnt v i + setW v (c / 16)) (p + setW v (c % 16)) ≤ 200 := dist_le (by have := wl (c / 16); omega) (by have := wl (c % 16); omega)
          by_cases q : dist (cnt v i + setW v (c / 16)) (p + setW v (c % 16)) ≤ tl v
          · left
            rw [if_neg (by rw [nI_lt_iff (by omega) (by omega)]; omega), if_pos (hlst.mpr ⟨c, hc2, ok, by rw [e]; exact q⟩)]
          · right
            rw [if_pos (by rw [nI_lt_iff (by omega) (by omega)]; omega), i_1, nI_sum]
            refine ⟨(), rfl, fun c' hc' hk => ?_⟩
            rcases Nat.lt_or_ge c' c with w | w
            · exact hI c' w hk
            · rw [show c' = c by omega, e]; exact q
        · right
          have hno : (if nI (c / 16 &&& c % 16) = 0 then if nI (nd (c / 16 ||| c % 16) (stW v i)) = 0 then some (1 : Int32) else some 0 else some 0) = some 0 := by
            by_cases k1 : c / 16 &&& c % 16 = 0
            · rw [if_pos (by rw [k1]; rfl), if_neg]
              rw [i_0, nI_eq_iff hnd (by omega)]
              exact fun w => ok ⟨k1, w⟩
            · rw [if_neg (by rw [i_0, nI_eq_iff hand (by omega)]; exact k1)]
          rw [hno, bind_s, if00, i_1, nI_sum]
          refine ⟨(), rfl, fun c' hc' hk => ?_⟩
          rcases Nat.lt_or_ge c' c with w | w
          · exact hI c' w hk
          · rw [show c' = c by omega] at hk
            exact absurd hk ok
      · show X5_waits_L2 J (nI i) (nI (stW v i)) (nI p) K (fuel + 1) (nI 256) = _
        rw [X5_waits_L2]
        rw [if_pos (by rw [i_256]; exact Int32.le_refl _), if_neg]
        intro w
        obtain ⟨c, d1, d2, d3⟩ := hlst.mp w
        exact hI c d1 d2 d3
    have key : ∀ (m fuel p : Nat), p + m = 100 → m < fuel → ∃ r, X4_waits_L1 P I (nI (cnt v i)) (nI (stW v i)) (some (-9)) fuel (nI p) = some r ∧ X5_waits_L1 J (nI i) (nI (stW v i)) (some (-9)) fuel (nI p) = some r := by
      intro m
      induction m with
      | zero =>
        intro fuel p hp hf
        obtain ⟨f, rfl⟩ : ∃ f, fuel = f + 1 := ⟨fuel - 1, by omega⟩
        rw [X4_waits_L1, X5_waits_L1]
        rw [i_99, i_100, if_pos (by rw [nI_lt_iff (by omega) (by omega)]; omega), if_pos (by rw [nI_le_iff (by omega) (by omega)]; omega)]
        exact ⟨_, rfl, rfl⟩
      | succ m ih =>
        intro fuel p hp hf
        obtain ⟨f, rfl⟩ : ∃ f, fuel = f + 1 := ⟨fuel - 1, by omega⟩
        obtain ⟨r, r1, r2⟩ := ih f (p + 1) (by omega) (by omega)
        have hlt := lst_lt hv (show cnt v i ≤ 200 by omega) (show p ≤ 200 by omega) False (stW v i)
        have hle := hC.least hv (show cnt v i ≤ 200 by omega) (show p ≤ 200 by omega) False hst
        rw [if_neg (fun q => q)] at hle
        rw [X4_waits_L1, X5_waits_L1]
        rw [i_99, i_100, if_neg (by rw [nI_lt_iff (by omega) (by omega)]; omega), if_neg (by rw [nI_le_iff (by omega) (by omega)]; omega)]
        have hin := inner p (X5_waits_L1 J (nI i) (nI (stW v i)) (some (-9)) f (nI p + 1)) (by omega)
        rw [show (0 : Int32) = nI 0 from rfl, hin, hle, bind_s, hC.1.1, i_256, nI_div (by omega) (by omega) (by omega), i_1, nI_sum]
        by_cases q : lst v (cnt v i) p False (stW v i) / 256 ≤ tl v
        · rw [if_pos q, if_neg (by rw [nI_lt_iff (by omega) (by omega)]; omega)]
          exact ⟨_, rfl, rfl⟩
        · rw [if_neg q, if_pos (by rw [nI_lt_iff (by omega) (by omega)]; omega)]
          exact ⟨r, r1, r2⟩
    exact key 99 bigF 1 (by omega) (bigF_gt (by omega))
  · rw [if_neg c1, if10, if_neg c1, if00]
    exact ⟨_, rfl, rfl⟩
end OPQ
