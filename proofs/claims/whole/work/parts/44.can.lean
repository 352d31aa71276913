/-! who can go with whom -/
def lstV (v : TV) (i j f : Nat) : Nat := lst v (cnt v i) (cnt v j) (twins v i j) f
abbrev canL (v : TV) (i j but : Nat) : Prop := same v i j ∧ lstV v i j (nd (stW v i) but) / 256 ≤ tl v
theorem lstV_lt {v : TV} (hv : vOk v) (i j f : Nat) : lstV v i j f < 65536 := by
  have h1 := cnt_le hv i
  have h2 := cnt_le hv j
  exact lst_lt hv (by omega) (by omega) _ f
theorem VC.least4 {I : xMem} {P : Nat} {v : TV} (hv : vOk v) (h : VC I P v) {i j f : Nat} (hi : i < tn v) (hj : j < tn v) (hf : f < 2 ^ ts v) : X4_least P I (nI i) (nI j) (nI f) = some (nI (lstV v i j f)) := by
  have h1 := cnt_le hv i
  have h2 := cnt_le hv j
  unfold X4_least
  rw [h.counts hv hi, bind_s, h.counts hv hj, bind_s, h.tws hv hi hj, bind_s, h.least hv (by omega) (by omega) _ hf, bind_s]
  rfl
theorem VC.can {I : xMem} {P : Nat} {v : TV} (hv : vOk v) (h : VC I P v) {i j but : Nat} (hi : i < tn v) (hj : j < tn v) : X4_canGo P I (nI i) (nI j) (nI but) = some (if canL v i j but then nI 1 else nI 0) := by
  have h1 := stW_lt hv i
  have h2 := nd_le (stW v i) but
  have h3 := lstV_lt hv i j (nd (stW v i) but)
  have h4 := hv.2.2.1
  unfold X4_canGo
  rw [h.apart hv hi hj, bind_s, h.stonesWith hv hi, bind_s, nI_nd, h.least4 hv hi hj (by omega), bind_s, h.1.1, nz_0, nz_1, i_256, nI_div (by omega) (by omega) (by omega)]
  simp (disch := omega) only [nI_lt_iff]
  by_cases q : same v i j
  · rw [if_pos q, if_pos (show nI 0 = 0 from rfl)]
    by_cases r : lstV v i j (nd (stW v i) but) / 256 ≤ tl v
    · rw [if_neg (by omega), if_pos ⟨q, r⟩]
      rfl
    · rw [if_pos (by omega), if_neg (fun w => r w.2)]
      rfl
  · rw [if_neg q, if_neg (by decide), if_neg (fun w => q w.1)]
    rfl
/-- the model's scratch place of the best sets alone has changed -/
def s24 (J J' : xMem) : Prop := ∃ x, J' = wr J 0 24 x
theorem wr_wr (I : xMem) (k j : Nat) (a b : Int32) : wr (wr I k j a) k j b = wr I k j b := by
  funext p q
  simp only [wr_at]
  split <;> rfl
theorem wr_id (I : xMem) (k j : Nat) : wr I k j (I k j) = I := by
  funext p q
  simp only [wr_at]
  split
  · rename_i h
    rw [h.1, h.2]
  · rfl
theorem s24.rf (J : xMem) : s24 J J := ⟨J 0 24, (wr_id J 0 24).symm⟩
theorem s24.tr {A B C : xMem} (h : s24 A B) (g : s24 B C) : s24 A C := by
  obtain ⟨x, rfl⟩ := h
  obtain ⟨y, rfl⟩ := g
  exact ⟨y, wr_wr _ _ _ _ _⟩
theorem s24.at {A B : xMem} (h : s24 A B) {k j : Nat} (hk : k ≠ 0 ∨ j ≠ 24) : B k j = A k j := by
  obtain ⟨x, rfl⟩ := h
  exact wr_off _ _ hk
theorem VM.sc {J J' : xMem} {v : TV} (h : VM J v) (b : s24 J J') : VM J' v := by
  obtain ⟨⟨h1, h2, h3⟩, h4, h5, h6, h7, h8⟩ := h
  refine ⟨⟨?_, ?_, ?_⟩, fun i hi => ?_, fun s hs => ?_, ?_, ?_, ?_⟩
  · rw [b.at (by omega)]; exact h1
  · rw [b.at (by omega)]; exact h2
  · rw [b.at (by omega)]; exact h3
  · rw [b.at (by omega), b.at (by omega)]; exact h4 i hi
  · rw [b.at (by omega)]; exact h5 s hs
  · rw [b.at (by omega)]; exact h6
  · rw [b.at (by omega)]; exact h7
  · rw [b.at (by omega)]; exact h8
theorem VM.least {J : xMem} {v : TV} (hv : vOk v) (h : VM J v) {i j f : Nat} (hi : i < tn v) (hj : j < tn v) (hf : f < 16) : X5_leastSink J (nI i) (nI j) (nI f) = some (nI (lstV v i j f / 256), wr J 0 24 (nI (lstV v i j f % 256))) := by
  have c1 := cnt_le hv i
  have c2 := cnt_le hv j
  have hl := lst_is hv (show cnt v i ≤ 200 by omega) (show cnt v j ≤ 200 by omega) (twins v i j) f
  have hval : ∀ c, valS v (cnt v i) (cnt v j) (twins v i j) c = 256 * skN v i j (c / 16) (c % 16) + c := fun c => rfl
  have skl := skN_le hv i j
  unfold X5_leastSink
  obtain ⟨⟨s, M⟩, hI, he⟩ := loop_I (fun fuel c (z : Nat × xMem) => X5_leastSink_L1 (nI i) (nI j) (nI f) (fun z4 I4 => some (z4, I4)) fuel (nI z.1) (nI c) z.2) (fun z => some (nI z.1, z.2)) 256
    (fun c z => (z.2 = J ∧ z.1 = 9999 ∧ ∀ c', c' < c → ¬ okS f c') ∨ ∃ b, z.2 = wr J 0 24 (nI b) ∧ b < c ∧ okS f b ∧ z.1 = skN v i j (b / 16) (b % 16) ∧ ∀ c', c' < c → okS f c' → 256 * z.1 + b ≤ valS v (cnt v i) (cnt v j) (twins v i j) c')
    (fun fuel c z hc hI => by
      obtain ⟨s, M⟩ := z
      have hM : VM M v := by
        rcases hI with ⟨rfl, -⟩ | ⟨b, hb, -⟩
        · exact h
        · exact h.sc ⟨_, hb⟩
      have hs : s < 2 ^ 31 := by
        rcases hI with ⟨-, h1, -⟩ | ⟨b, -, -, -, h1, -⟩
        · have h1 : s = 9999 := h1
          omega
        · have h1 : s = skN v i j (b / 16) (b % 16) := h1
          have := skl (b / 16) (b % 16)
          omega
      have hM24 : ∀ x, wr M 0 24 x = wr J 0 24 x := by
        intro x
        rcases hI with ⟨h1, -⟩ | ⟨b, h1, -⟩
        · have h1 : M = J := h1
          rw [h1]
        · have h1 : M = wr J 0 24 (nI b) := h1
          rw [h1, wr_wr]
      have hno : ¬ okS f c → ((s, M).2 = J ∧ (s, M).1 = 9999 ∧ ∀ c', c' < c + 1 → ¬ okS f c') ∨ ∃ b, (s, M).2 = wr J 0 24 (nI b) ∧ b < c + 1 ∧ okS f b ∧ (s, M).1 = skN v i j (b / 16) (b % 16) ∧ ∀ c', c' < c + 1 → okS f c' → 256 * (s, M).1 + b ≤ valS v (cnt v i) (cnt v j) (twins v i j) c' := by
        intro hn
        rcases hI with ⟨g1, g2, g3⟩ | ⟨b, g1, g2, g3, g4, g5⟩
        · refine Or.inl ⟨g1, g2, fun c' hc' => ?_⟩
          rcases Nat.lt_or_ge c' c with q | q
          · exact g3 c' q
          · rw [show c' = c by omega]; exact hn
        · refine Or.inr ⟨b, g1, by omega, g3, g4, fun c' hc' hk => ?_⟩
          rcases Nat.lt_or_ge c' c with q | q
          · exact g5 c' q hk
          · rw [show c' = c by omega] at hk
            exact absurd hk hn
      show ∃ s', X5_leastSink_L1 (nI i) (nI j) (nI f) _ (fuel + 1) (nI s) (nI c) M = _ ∧ _
      rw [X5_leastSink_L1]
      rw [if_neg (by rw [i_256, nI_le_iff (by omega) (by omega)]; omega), i_16, nI_rem (by omega) (by omega) (by omega), nI_div (by omega) (by omega) (by omega), nI_and, nI_or, nI_nd]
      have hand : c / 16 &&& c % 16 < 2 ^ 31 := Nat.lt_of_le_of_lt Nat.and_le_left (by omega)
      have hnd : nd (c / 16 ||| c % 16) f < 2 ^ 31 := by
        have q1 := nd_le (c / 16 ||| c % 16) f
        have q2 : c / 16 ||| c % 16 < 2 ^ 4 := Nat.or_lt_two_pow (by omega) (by omega)
        omega
      by_cases k1 : c / 16 &&& c % 16 = 0
      · rw [if_pos (by rw [k1]; rfl)]
        by_cases k2 : nd (c / 16 ||| c % 16) f = 0
        · rw [if_pos (by rw [k2]; rfl), hM.sink hv hi hj (by omega) (by omega), bind_s]
          have hok : okS f c := ⟨k1, k2⟩
          have sk := skl (c / 16) (c % 16)
          by_cases q : s ≤ skN v i j (c / 16) (c % 16)
          · rw [if_pos ((nI_le_iff hs (by omega)).mpr q), bind_s, bind_s, if_pos ((nI_le_iff hs (by omega)).mpr q), wr_id, i_1, nI_sum]
            refine ⟨(s, M), rfl, ?_⟩
            rcases hI with ⟨-, g2, -⟩ | ⟨b, g1, g2, g3, g4, g5⟩
            · have g2 : s = 9999 := g2
              omega
            · refine Or.inr ⟨b, g1, by omega, g3, g4, fun c' hc' hk => ?_⟩
              rcases Nat.lt_or_ge c' c with w | w
              · exact g5 c' w hk
              · have g4 : s = _ := g4
                rw [show c' = c by omega, hval]
                show 256 * s + b ≤ _
                omega
          · rw [if_neg (fun w => q ((nI_le_iff hs (by omega)).mp w)), bind_s, bind_s, if_neg (fun w => q ((nI_le_iff hs (by omega)).mp w)), hM24, i_1, nI_sum]
            refine ⟨(skN v i j (c / 16) (c % 16), wr J 0 24 (nI c)), rfl, Or.inr ⟨c, rfl, by omega, hok, rfl, fun c' hc' hk => ?_⟩⟩
            show 256 * skN v i j (c / 16) (c % 16) + c ≤ _
            rcases Nat.lt_or_ge c' c with w | w
            · rcases hI with ⟨-, -, g3⟩ | ⟨b, g1, g2, g3, g4, g5⟩
              · exact absurd hk (g3 c' w)
              · have := g5 c' w hk
                have g6 : 256 * s + b ≤ valS v (cnt v i) (cnt v j) (twins v i j) c' := this
                omega
            · rw [show c' = c by omega, hval]
              exact Nat.le_refl _
        · rw [if_neg (by rw [i_0, nI_eq_iff hnd (by omega)]; exact k2), i_1, nI_sum]
          exact ⟨(s, M), rfl, hno (fun w => k2 w.2)⟩
      · rw [if_neg (by rw [i_0, nI_eq_iff hand (by omega)]; exact k1), i_1, nI_sum]
        exact ⟨(s, M), rfl, hno (fun w => k1 w.1)⟩)
    (fun fuel z hI => by
      obtain ⟨s, M⟩ := z
      show X5_leastSink_L1 (nI i) (nI j) (nI f) _ (fuel + 1) (nI s) (nI 256) M = _
      rw [X5_leastSink_L1]
      rw [if_pos (by rw [i_256, nI_le_iff (by omega) (by omega)]; omega)])
    256 bigF 0 (9999, J) (by omega) (bigF_gt (by omega)) (Or.inl ⟨rfl, rfl, fun c' h => absurd h (by omega)⟩)
  rcases hI with ⟨-, -, g3⟩ | ⟨b, g1, g2, g3, g4, g5⟩
  · exact absurd (okS_0 f) (g3 0 (by omega))
  · have g4 : s = _ := g4
    have g1 : M = _ := g1
    have hb : leastB (okS f) (valS v (cnt v i) (cnt v j) (twins v i j)) 1073741824 256 (256 * s + b) := Or.inr ⟨b, g2, g3, by rw [hval, g4], g5⟩
    have e : lstV v i j f = 256 * s + b := leastB_uniq (by omega) (okS_0 f) hl hb
    rw [show lstV v i j f / 256 = s by omega, show lstV v i j f % 256 = b by omega, ← g1]
    exact he
theorem VM.can {J : xMem} {v : TV} (hv : vOk v) (h : VM J v) {i j but : Nat} (hi : i < tn v) (hj : j < tn v) : ∃ J', X5_can J (nI i) (nI j) (nI but) = some (if i ≠ j ∧ canL v i j but then 1 else 0, J') ∧ s24 J J' := by
  have h1 := stW_lt hv i
  have h2 := nd_le (stW v i) but
  have h3 := lstV_lt hv i j (nd (stW v i) but)
  have h4 := hv.2.2.1
  have h5 := p2s hv
  have h6 := hv.1
  unfold X5_can
  rw [nz_0, nz_1]
  by_cases c1 : i = j
  · rw [if_pos (by rw [c1]), if_neg (fun w => w.1 c1)]
    exact ⟨J, rfl, s24.rf J⟩
  · rw [if_neg (by rw [nI_eq_iff (by omega) (by omega)]; exact c1), h.oneEnd hv hi hj, bind_s]
    by_cases c2 : same v i j
    · rw [if_pos c2, if_neg (by decide), h.stonesBy hv hi, bind_s, nI_nd, h.least hv hi hj (by omega), bind_s]
      have hc : (i ≠ j ∧ canL v i j but) ↔ lstV v i j (nd (stW v i) but) / 256 ≤ tl v := ⟨fun w => w.2.2, fun w => ⟨c1, c2, w⟩⟩
      simp only [hc]
      generalize lstV v i j (nd (stW v i) but) = L at h3 ⊢
      refine ⟨wr J 0 24 (nI (L % 256)), ?_, ⟨_, rfl⟩⟩
      try dsimp only
      rw [wr_off J (nI (L % 256)) (show (0 : Nat) ≠ 0 ∨ 1 ≠ 24 by omega), h.1.1]
      simp (disch := omega) only [nI_lt_iff]
      by_cases c3 : L / 256 ≤ tl v
      · rw [if_neg (by omega), if_pos c3]
      · rw [if_pos (by omega), if_neg c3]
    · rw [if_neg c2, if_pos rfl, if_neg (fun w => c2 w.2.1)]
      exact ⟨J, rfl, s24.rf J⟩
