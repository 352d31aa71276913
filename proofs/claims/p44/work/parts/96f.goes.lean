/-! THE LAW: goes to come -/
section LG
variable {tI : xTab} {P Dr : Nat} {v : TV} {D : DD} {A I : xMem} {L : xLon} {x7 : Int64} {x9 x10 : Int32}
variable {G67 : (Int32 → Int32 → Int32 → Int64 → Int32 → xMem → xLon → Option Int32)}
abbrev goalP (set tops y : Nat) : Prop := (y / 16) &&& set = tops
/-- what up(), down() tell -/
def fewA (w : TV) (set tops : Nat) (r a : Int32) : Prop := (r = -9 ∧ ∀ n y, WKn w n y → ¬ goalP set tops y) ∨ ∃ m, r = nI m ∧ m < 1024 ∧ (∃ y, WKn w m y ∧ goalP set tops y) ∧ (∀ n y, WKn w n y → goalP set tops y → m ≤ n) ∧ ((m = 0 ∧ a = -9) ∨ (0 < m ∧ ∃ p, p < 36 ∧ a = nI p ∧ ∃ c y, eO w (plc w) p c ∧ WK w (fun z => z = nx (plc w) p c) (m - 1) y ∧ goalP set tops y))
theorem cs_few2 (h : CS I P Dr v D) {set tops : Nat} (hs : set < 64) (ht : tops < 64) : ∃ r I', X4_fewestGoes P I (nI set) (nI tops) = some (r, I') ∧ qAg I I' ∧ fewA (now v D) set tops r (I' 0 10) := by
  rcases cs_few h hs ht with ⟨I', e, q, hn⟩ | ⟨m, I', a, e, m1, q, ea, m2, m3, m4⟩
  · exact ⟨_, I', e, q, Or.inl ⟨rfl, hn⟩⟩
  · exact ⟨_, I', e, q, Or.inr ⟨m, rfl, m1, m2, m3, by rw [ea]; exact m4⟩⟩
theorem fewA.zero {w : TV} (hv : vOk w) {set tops : Nat} {r a : Int32} (h : fewA w set tops r a) : r = 0 ↔ tt w &&& set = tops := by
  have hp := (plc_d hv).1
  rcases h with ⟨rfl, hn⟩ | ⟨m, rfl, m1, ⟨y, y1, y2⟩, m3, m4⟩
  · constructor
    · intro z
      exact absurd z (by decide)
    · intro z
      refine absurd ?_ (hn 0 (plc w) rfl)
      show plc w / 16 &&& set = tops
      rw [hp]
      exact z
  · rw [i_0, nI_eq_iff (by omega) (by omega)]
    constructor
    · intro z
      subst z
      have y1 : y = plc w := y1
      rw [y1] at y2
      have y2 : plc w / 16 &&& set = tops := y2
      rw [hp] at y2
      exact y2
    · intro z
      have := m3 0 (plc w) rfl (show plc w / 16 &&& set = tops by rw [hp]; exact z)
      omega
theorem fewA.sign {w : TV} {set tops : Nat} {r a : Int32} (h : fewA w set tops r a) : ¬ r < -9 ∧ (r ≤ -9 ∨ ¬ r < 0) ∧ (r = 0 → a = -9) ∧ (¬ r < 0 → ∃ n y, WKn w n y ∧ goalP set tops y) := by
  rcases h with ⟨rfl, hn⟩ | ⟨m, rfl, m1, ⟨y, y1, y2⟩, m3, m4⟩
  · exact ⟨by decide, Or.inl (by decide), fun w => absurd w (by decide), fun w => absurd (by decide) w⟩
  · refine ⟨nlt9 (by omega), Or.inr (nI_pos (by omega)), fun w => ?_, fun _ => ⟨m, y, y1, y2⟩⟩
    rw [i_0, nI_eq_iff (by omega) (by omega)] at w
    rcases m4 with ⟨-, m4⟩ | ⟨m4, -⟩
    · exact m4
    · omega
/-- who can ever be elsewhere, as bits -/
def evA (w : TV) (e : Nat) : Prop := e < 2 ^ tn w ∧ ∀ i, e.testBit i = true ↔ ∃ n y, WKn w n y ∧ (y / 16).testBit i ≠ (tt w).testBit i
theorem x_1721 {e : Nat} (he : evA (now v D) e) (hE : ∀ (I : xMem) (L : xLon), LI A I P Dr v D → XC_1757 tI P Dr G67 (nI (tn v)) (nI (tl v)) (nI (allS v)) x7 x9 x10 (nI (dd D)) (nI (te (now v D))) (nI (tt (now v D))) (nI (tu (now v D))) (nI (dS D (dd D))) I L = some 1) : ∀ (m fuel i : Nat) (I : xMem) (L : xLon), i + m = tn v → m < fuel → LI A I P Dr v D → XC_1721 tI P Dr G67 fuel (nI (tn v)) (nI (tl v)) (nI (allS v)) x7 x9 x10 (nI (dd D)) (nI (te (now v D))) (nI (tt (now v D))) (nI (tu (now v D))) (nI (dS D (dd D))) (nI e) (nI i) I L = some 1 := by
  intro m
  induction m with
  | zero =>
    intro fuel i I L hi hf h
    obtain ⟨f, rfl⟩ : ∃ f, fuel = f + 1 := ⟨fuel - 1, by omega⟩
    have e : i = tn v := by omega
    subst e
    rw [XC_1721]
    rw [if_pos (Int32.le_refl _)]
    exact hE I L h
  | succ m ih =>
    intro fuel i I L hi hf h
    obtain ⟨f, rfl⟩ : ∃ f, fuel = f + 1 := ⟨fuel - 1, by omega⟩
    have hC := h.cs
    have hv := hC.vok
    have h6 := hC.n2
    have h64 := hC.n64
    have hin : i < tn v := by omega
    have hcl : compN (now v D) i < 2 ^ tn v := comp_lt (now v D) i
    have hel : e < 2 ^ tn v := he.1
    have t4 := cs_told hC hin (k := 4) (by omega)
    have e4 : aboutN (now v D) i 4 = compN (now v D) i := rfl
    rw [e4] at t4
    have t4 : L_told P I (nI i) 4 = _ := t4
    have go : ∀ I L, LI A I P Dr v D → XC_1751 tI P Dr G67 (XC_1721 tI P Dr G67 f) (nI (tn v)) (nI (tl v)) (nI (allS v)) x7 x9 x10 (nI (dd D)) (nI (te (now v D))) (nI (tt (now v D))) (nI (tu (now v D))) (nI (dS D (dd D))) (nI e) (nI i) I L = some 1 := fun I L h => by
      unfold XC_1751
      rw [i_1, nI_sum]
      exact ih f (i + 1) I L (by omega) (by omega) h
    rw [XC_1721]
    rw [if_neg (by rw [nI_le_iff (by omega) (by omega)]; omega), t4, bind_s]
    dsimp only
    by_cases z : compN (now v D) i = 0
    · rw [if_pos (by rw [z]; rfl)]
      exact go _ L (h.told _)
    · rw [if_neg (by rw [i_0, nI_eq_iff (by omega) (by omega)]; exact z), bit_if (by omega) (by omega), if_pos (ever_with hv he.2 hin z)]
      exact go _ L (h.told _)
theorem x_1718 {e : Nat} (h : LI A I P Dr v D) (he : evA (now v D) e) (hE : ∀ (I : xMem) (L : xLon), LI A I P Dr v D → XC_1757 tI P Dr G67 (nI (tn v)) (nI (tl v)) (nI (allS v)) x7 x9 x10 (nI (dd D)) (nI (te (now v D))) (nI (tt (now v D))) (nI (tu (now v D))) (nI (dS D (dd D))) I L = some 1) : XC_1718 tI P Dr G67 (nI (tn v)) (nI (tl v)) (nI (allS v)) x7 x9 x10 (nI (dd D)) (nI (te (now v D))) (nI (tt (now v D))) (nI (tu (now v D))) (nI (dS D (dd D))) (nI e) I L = some 1 := by
  unfold XC_1718
  have := h.cs.n2
  exact x_1721 he hE (tn v) bigF 0 I L (by omega) (bigF_gt (by omega)) h
/-- behind the first go of a nearest row up() tells one less, and no go makes it two -/
def firstGo (w : TV) (set m i j q0 : Nat) : Prop := (i < j) ∧ (j < tn w) ∧ (canL w i j 0) ∧ (q0 < 256) ∧ (okO w i j q0 ∧ nd (fO q0) (stW w i) = 0) ∧ (∃ y, WK w (fun z => z = nx (plc w) (6 * i + j) (fO q0)) (m - 1) y ∧ goalP set set y) ∧ (∀ n y, WKn w n y → goalP set set y → m ≤ n)
theorem firstGo.ij {w : TV} {set m i j q0 : Nat} (h : firstGo w set m i j q0) : i < j := h.1
theorem firstGo.jn {w : TV} {set m i j q0 : Nat} (h : firstGo w set m i j q0) : j < tn w := h.2.1
theorem firstGo.can {w : TV} {set m i j q0 : Nat} (h : firstGo w set m i j q0) : canL w i j 0 := h.2.2.1
theorem firstGo.q {w : TV} {set m i j q0 : Nat} (h : firstGo w set m i j q0) : q0 < 256 := h.2.2.2.1
theorem firstGo.ok {w : TV} {set m i j q0 : Nat} (h : firstGo w set m i j q0) : okO w i j q0 ∧ nd (fO q0) (stW w i) = 0 := h.2.2.2.2.1
theorem firstGo.far {w : TV} {set m i j q0 : Nat} (h : firstGo w set m i j q0) : ∃ y, WK w (fun z => z = nx (plc w) (6 * i + j) (fO q0)) (m - 1) y ∧ goalP set set y := h.2.2.2.2.2.1
theorem firstGo.less {w : TV} {set m i j q0 : Nat} (h : firstGo w set m i j q0) : ∀ n y, WKn w n y → goalP set set y → m ≤ n := h.2.2.2.2.2.2
/-- up() behind such a go -/
theorem up_after (h : LI A I P Dr v D) {set m i j q0 a b : Nat} (hm : 0 < m) (hm2 : m ≤ 100) (hs : set < 2 ^ tn v) (g : firstGo (now v D) set m i j q0) {I' : xMem} (hG : CS I' P Dr v (goP D (now v D) i j a b)) (hg : hAg I I') (ha : a < 2 ^ ts v) (hb : b < 2 ^ ts v) (hh : hereP (now v D) i j a b) (hab : a &&& b = 0) (hle : skN (now v D) i j a b ≤ tl v) : ∃ r I2, X4_up P I' (nI set) = some (r, I2) ∧ qAg I' I2 ∧ ((r = -9 ∧ a ||| b ≠ fO q0) ∨ ∃ k, r = nI k ∧ m - 1 ≤ k ∧ k < 1024 ∧ (a ||| b = fO q0 → k = m - 1)) := by
  have hC := h.cs
  have hv := hC.vok
  have h64 := hC.n64
  have h16 := hC.s16
  have hs64 : set < 64 := by omega
  obtain ⟨r, I2, e, q, hf⟩ := cs_few2 hG hs64 hs64
  refine ⟨r, I2, (up_few hG hs).trans e, q, ?_⟩
  have hv2 := hG.vok
  have en : now v (goP D (now v D) i j a b) = tAt v (te (now v D)) (goT (now v D) i j) (goU (now v D) a b) := dpush_now _ _ _ _ _ _
  have ep : plc (tAt v (te (now v D)) (goT (now v D) i j) (goU (now v D) a b)) = nx (plc (now v D)) (6 * i + j) (a ||| b) := plc_go hv g.ij g.jn ha hb
  rw [en] at hf
  have toN : ∀ n y, WKn (tAt v (te (now v D)) (goT (now v D) i j) (goU (now v D) a b)) n y ↔ WK (now v D) (fun z => z = nx (plc (now v D)) (6 * i + j) (a ||| b)) n y := fun n y => by
    show WK _ (fun z => z = plc _) n y ↔ _
    rw [ep]
    exact ⟨fun w => WK_tAt v _ _ _ _ _ n w, fun w => WK_tAt v _ _ _ _ _ n w⟩
  have hedge : eO (now v D) (plc (now v D)) (6 * i + j) (a ||| b) := by
    refine now_eO hv g.ij g.jn hh.1 ⟨16 * a + b, by omega, ⟨?_, ?_, ?_, ?_⟩, ?_⟩ hh.2
    · rw [show (16 * a + b) / 16 = a by omega, show (16 * a + b) % 16 = b by omega]
      exact hab
    · rw [show (16 * a + b) / 16 = a by omega]
      exact ha
    · rw [show (16 * a + b) % 16 = b by omega]
      exact hb
    · rw [show (16 * a + b) / 16 = a by omega, show (16 * a + b) % 16 = b by omega]
      exact hle
    · rw [show (16 * a + b) / 16 = a by omega, show (16 * a + b) % 16 = b by omega]
  obtain ⟨yf, y1, y2⟩ := g.far
  rcases hf with ⟨rfl, hn⟩ | ⟨k, rfl, k1, ⟨y, k2, k3⟩, k4, -⟩
  · left
    refine ⟨rfl, fun w => ?_⟩
    exact hn _ yf ((toN _ _).mpr (by rw [w]; exact y1)) y2
  · right
    have low : m ≤ k + 1 := g.less _ _ (WK_pre hedge k ((toN _ _).mp k2)) k3
    refine ⟨k, rfl, by omega, k1, fun w => ?_⟩
    have := k4 (m - 1) yf ((toN _ _).mpr (by rw [w]; exact y1)) y2
    omega
/-- trying all sets of stones -/
theorem x_1579 {set m i j q0 e : Nat} (hm : 0 < m) (hm2 : m ≤ 100) (hs : set < 2 ^ tn v) (g : firstGo (now v D) set m i j q0) (hE : ∀ (I : xMem) (L : xLon), LI A I P Dr v D → XC_1718 tI P Dr G67 (nI (tn v)) (nI (tl v)) (nI (allS v)) x7 x9 x10 (nI (dd D)) (nI (te (now v D))) (nI (tt (now v D))) (nI (tu (now v D))) (nI (dS D (dd D))) (nI e) I L = some 1) : ∀ (z fuel q f : Nat) (I : xMem) (L : xLon), q + z = 256 → z < fuel → m - 1 ≤ f → f ≤ 99 → (f = m - 1 ∨ q ≤ q0) → LI A I P Dr v D → XC_1579 tI P Dr G67 fuel (nI (tn v)) (nI (tl v)) (nI (allS v)) x7 x9 x10 (nI (dd D)) (nI (te (now v D))) (nI (tt (now v D))) (nI (tu (now v D))) (nI (dS D (dd D))) (nI set) (nI m) (nI e) (nI i) (nI j) (nI f) (nI q) I L = some 1 := by
  intro z
  induction z with
  | zero =>
    intro fuel q f I L hq hf f1 f2 f3 h
    obtain ⟨fu, rfl⟩ : ∃ f, fuel = f + 1 := ⟨fuel - 1, by omega⟩
    have hq0 := g.q
    have e1 : q = 256 := by omega
    subst e1
    rw [XC_1579]
    rw [if_pos (by decide)]
    unfold XC_1707
    rw [if_pos (by rw [i_1, pk_sub (by omega), nI_eq_iff (by omega) (by omega)]; omega)]
    exact hE I L h
  | succ z ih =>
    intro fuel q f I L hq hf f1 f2 f3 h
    obtain ⟨fu, rfl⟩ : ∃ f, fuel = f + 1 := ⟨fuel - 1, by omega⟩
    have hC := h.cs
    have hv := hC.vok
    have h6 := hC.n2
    have h64 := hC.n64
    have h16 := hC.s16
    have hd := h.d40
    have hp : 0 < 2 ^ ts v := Nat.pos_of_ne_zero (by simp)
    have hjn : j < tn v := g.jn
    have hij := g.ij
    have eall : allS v = 2 ^ ts v - 1 := rfl
    have go : ∀ f I L, m - 1 ≤ f → f ≤ 99 → (f = m - 1 ∨ q + 1 ≤ q0) → LI A I P Dr v D → XC_1701 tI P Dr G67 (XC_1579 tI P Dr G67 fu) (nI (tn v)) (nI (tl v)) (nI (allS v)) x7 x9 x10 (nI (dd D)) (nI (te (now v D))) (nI (tt (now v D))) (nI (tu (now v D))) (nI (dS D (dd D))) (nI set) (nI m) (nI e) (nI i) (nI j) (nI f) (nI q) I L = some 1 := fun f I L f1 f2 f3 h => by
      unfold XC_1701
      rw [show (1 : Int32) = nI 1 from rfl, nI_sum]
      exact ih fu (q + 1) f I L (by omega) (by omega) f1 f2 f3 h
    rw [XC_1579]
    rw [if_neg (by rw [i_256, nI_le_iff (by omega) (by omega)]; omega), show nI m - (1 : Int32) = nI (m - 1) from pk_sub (b := 1) (by omega)]
    by_cases c0 : f = m - 1
    · rw [if_pos (by rw [c0])]
      exact go f I L f1 f2 (Or.inl c0) h
    · rw [if_neg (by rw [nI_eq_iff (by omega) (by omega)]; exact c0), shr4 (by omega), and15]
      have f3 : q ≤ q0 := f3.resolve_left c0
      -- what is no witness is passed
      have pass : ¬ (okO (now v D) i j q ∧ nd (fO q) (stW (now v D) i) = 0) → q + 1 ≤ q0 := fun w => by
        rcases Nat.lt_or_ge q q0 with x | x
        · exact x
        · have : q = q0 := by omega
          rw [this] at w
          exact absurd g.ok w
      by_cases c1 : nI (allS v) < nI (q / 16)
      · rw [if_pos c1]
        rw [nI_lt_iff (by omega) (by omega)] at c1
        refine go f I L f1 f2 (Or.inr (pass fun w => ?_)) h
        have := w.1.2.1
        have e2 : ts (now v D) = ts v := rfl
        rw [e2] at this
        omega
      · rw [if_neg c1]
        rw [nI_lt_iff (by omega) (by omega)] at c1
        by_cases c2 : nI (allS v) < nI (q % 16)
        · rw [if_pos c2]
          rw [nI_lt_iff (by omega) (by omega)] at c2
          refine go f I L f1 f2 (Or.inr (pass fun w => ?_)) h
          have := w.1.2.2.1
          have e2 : ts (now v D) = ts v := rfl
          rw [e2] at this
          omega
        · rw [if_neg c2, nI_and]
          rw [nI_lt_iff (by omega) (by omega)] at c2
          have hand : q / 16 &&& q % 16 < 2 ^ 31 := Nat.lt_of_le_of_lt Nat.and_le_left (by omega)
          by_cases c3 : q / 16 &&& q % 16 = 0
          · rw [if_pos (by rw [c3]; rfl)]
            have neg4 : ((-4 : Int32) < 0) := by decide
            have neg6 : ((-6 : Int32) < 0) := by decide
            have hsk := skN_le hv i j (q / 16) (q % 16)
            rcases cs_go hC (i := i) (j := j) (by omega) hjn (by omega) (a := q / 16) (b := q % 16) (by omega) (by omega) c3 (by omega) with ⟨w1, w2⟩ | ⟨w1, w2, w3⟩ | ⟨w1, w2, I2, w3, w4, w5⟩
            · rw [w2, bind_s, if_pos neg4]
              refine go f I L f1 f2 (Or.inr (pass fun w => w1 ⟨g.can.1, w.2⟩)) h
            · rw [w3, bind_s, if_pos neg6]
              refine go f I L f1 f2 (Or.inr (pass fun w => w2 w.1.2.2.2)) h
            · rw [w3, bind_s, if_neg (nI_pos (by omega))]
              obtain ⟨r, I3, u1, u2, u3⟩ := up_after h hm hm2 hs g w5 w4 (by omega) (by omega) w1 c3 w2
              dsimp only
              rw [u1, bind_s]
              obtain ⟨I4, n1, n2⟩ := undo1 h (w4.tr u2.h) (w5.ag u2)
              rcases u3 with ⟨rfl, u4⟩ | ⟨k, rfl, k1, k2, k3⟩
              · rw [if_pos (show (-9 : Int32) < 0 by decide), bind_s]
                unfold XC_1675
                rw [n1, bind_s, if_pos rfl, if_pos (show (-9 : Int32) < 0 by decide)]
                refine go f _ L f1 f2 (Or.inr ?_) n2
                rcases Nat.lt_or_ge q q0 with x | x
                · exact x
                · have : q = q0 := by omega
                  exact absurd (by rw [this]) u4
              · have e9 : (if nI k < 0 then (some (nI f)) else (if nI f ≤ nI k then (some (nI f)) else (some (nI k)))) = some (nI (if f ≤ k then f else k)) := by
                  rw [if_neg (nI_pos (by omega))]
                  by_cases x : f ≤ k
                  · rw [if_pos (by rw [nI_le_iff (by omega) (by omega)]; exact x), if_pos x]
                  · rw [if_neg (by rw [nI_le_iff (by omega) (by omega)]; exact x), if_neg x]
                rw [e9, bind_s]
                unfold XC_1675
                rw [n1, bind_s, if_pos rfl, if_neg (nI_pos (by omega)), show nI m - (1 : Int32) = nI (m - 1) from pk_sub (b := 1) (by omega), if_pos (by rw [nI_le_iff (by omega) (by omega)]; exact k1)]
                refine go _ _ L (by split <;> omega) (by split <;> omega) ?_ n2
                rcases Nat.lt_or_ge q q0 with x | x
                · exact Or.inr x
                · left
                  have eq : q = q0 := by omega
                  have := k3 (by rw [eq])
                  rw [if_neg (by omega)]
                  exact this
          · rw [if_neg (by rw [i_0, nI_eq_iff hand (by omega)]; exact c3)]
            exact go f I L f1 f2 (Or.inr (pass fun w => c3 w.1.1)) h
end LG
