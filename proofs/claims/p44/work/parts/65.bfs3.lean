/-! the whole way, and what it tells -/
def st (v : TV) (s0 : BS) : Nat → BS
  | 0 => s0
  | k + 1 => if k < be (st v s0 k) then lv v (bl (st v s0 k) k) (st v s0 k) else st v s0 k
theorem st_lt {v : TV} {s0 : BS} {k : Nat} (h : k < be (st v s0 k)) : st v s0 (k + 1) = lv v (bl (st v s0 k) k) (st v s0 k) := if_pos h
theorem st_ge {v : TV} {s0 : BS} {k : Nat} (h : ¬ k < be (st v s0 k)) : st v s0 (k + 1) = st v s0 k := if_neg h
theorem st_gr (v : TV) (s0 : BS) (k : Nat) : gr (st v s0 k) (st v s0 (k + 1)) := by
  by_cases h : k < be (st v s0 k)
  · rw [st_lt h]
    exact lv_gr _ _ _
  · rw [st_ge h]
    exact gr.rf _
theorem st_BA {v : TV} (hv : vOk v) {src : Nat → Prop} {s0 : BS} (h : BA v src s0 0 (fun _ _ => False) 0) : ∀ k, k ≤ be (st v s0 k) → BA v src (st v s0 k) k (fun _ _ => False) 0
  | 0, _ => h
  | k + 1, hk => by
    by_cases c : k < be (st v s0 k)
    · have := lv_BA hv (st_BA hv h k (by omega)) c
      rw [st_lt c]
      exact this
    · rw [st_ge c] at hk
      omega
theorem st_stay {v : TV} {s0 : BS} {E : Nat} (h : be (st v s0 E) ≤ E) : ∀ m, st v s0 (E + m) = st v s0 E
  | 0 => rfl
  | m + 1 => by
    have e := st_stay h m
    show st v s0 (E + m + 1) = _
    rw [st_ge (by rw [e]; omega)]
    exact e
def fin (v : TV) (s0 : BS) : BS := st v s0 1024
theorem st_end {v : TV} (hv : vOk v) {src : Nat → Prop} {s0 : BS} (h : BA v src s0 0 (fun _ _ => False) 0) : ∃ E, E ≤ 1024 ∧ be (st v s0 E) = E ∧ fin v s0 = st v s0 E ∧ ∀ k, k < E → k < be (st v s0 k) := by
  have key : ∀ m, (∀ k, k < m → k < be (st v s0 k)) ∨ ∃ E, E < m ∧ be (st v s0 E) ≤ E ∧ ∀ k, k < E → k < be (st v s0 k) := by
    intro m
    induction m with
    | zero => exact Or.inl (fun k w => absurd w (by omega))
    | succ m ih =>
      rcases ih with w | ⟨E, e1, e2, e3⟩
      · by_cases c : m < be (st v s0 m)
        · refine Or.inl (fun k hk => ?_)
          by_cases e : k = m
          · rw [e]; exact c
          · exact w k (by omega)
        · exact Or.inr ⟨m, by omega, by omega, w⟩
      · exact Or.inr ⟨E, by omega, e2, e3⟩
  have low : ∀ E, (∀ k, k < E → k < be (st v s0 k)) → E ≤ be (st v s0 E) := by
    intro E hE
    cases E with
    | zero => omega
    | succ E =>
      have a := hE E (by omega)
      have b := (st_gr v s0 E).1
      omega
  rcases key 1025 with w | ⟨E, e1, e2, e3⟩
  · have a := w 1024 (by omega)
    have b := (st_BA hv h 1024 (by omega)).1.e_le
    omega
  · have a := low E e3
    refine ⟨E, by omega, by omega, ?_, e3⟩
    have := st_stay e2 (1024 - E)
    rw [show E + (1024 - E) = 1024 by omega] at this
    exact this
theorem fin_BA {v : TV} (hv : vOk v) {src : Nat → Prop} {s0 : BS} (h : BA v src s0 0 (fun _ _ => False) 0) : BA v src (fin v s0) (be (fin v s0)) (fun _ _ => False) 0 := by
  obtain ⟨E, e1, e2, e3, e4⟩ := st_end hv h
  rw [e3, e2]
  exact st_BA hv h E (by omega)
theorem BI.all {v : TV} (hv : vOk v) {src : Nat → Prop} {s : BS} (h : BI v src s (be s) (fun _ _ => False)) : ∀ (n : Nat) {y : Nat}, WK v src n y → y < 1024 ∧ bd s y ≤ n
  | 0, y, w => by
    have := h.2.2.2.2.2.2.2.2 y w
    omega
  | n + 1, y, ⟨x, p, c, w1, w2, w3⟩ => by
    obtain ⟨a1, a2⟩ := BI.all hv h n w1
    have hy := nx_lt hv a1 w2
    rw [w3]
    refine ⟨hy, ?_⟩
    by_cases c0 : bd s x = 9999
    · -- so far no way leads
      have : bd s (nx x p c) ≤ 9999 := by
        by_cases q : bd s (nx x p c) = 9999
        · omega
        · have := h.lab hy q
          omega
      omega
    · obtain ⟨i, i1, i2⟩ := h.2.2.1 x a1 c0
      have := h.2.2.2.2.2.2.1 i p c i1 (Or.inl i1)
      rw [i2] at this
      have := this w2
      omega
theorem BF.min {v : TV} (hv : vOk v) {x0 : Nat} {s : BS} (b : BI v (fun z => z = x0) s (be s) (fun _ _ => False)) (h : BF v x0 s (be s) (fun _ _ => False) 0) {p c : Nat} (ho : eO v x0 p c) : ∀ (m : Nat) {y : Nat}, WK v (fun z => z = nx x0 p c) m y → bd s y = m + 1 → m < 9000 → bf s y ≤ p
  | 0, y, w, hd, _ => by
    have w : y = nx x0 p c := w
    obtain ⟨s1, s2⟩ := b.2.2.2.2.2.2.2.2 x0 rfl
    obtain ⟨i, i1, i2⟩ := b.2.2.1 x0 s1 (by omega)
    have := h.2.2.1 i p c i1 (Or.inl i1)
    rw [i2, s2, ← w] at this
    have := this ho (by omega)
    unfold fp at this
    rw [if_pos s2] at this
    exact this
  | m + 1, y, ⟨z, q, e, w1, w2, w3⟩, hd, hm => by
    have hz := WK_pre ho m w1
    obtain ⟨z1, z2⟩ := b.all hv (m + 1) hz
    obtain ⟨i, i1, i2⟩ := b.2.2.1 z z1 (by omega)
    have g1 := b.2.2.2.2.2.2.1 i q e i1 (Or.inl i1)
    have g2 := h.2.2.1 i q e i1 (Or.inl i1)
    rw [i2] at g1 g2
    have g1 := g1 w2
    rw [← w3] at g1 g2
    have hdz : bd s z = m + 1 := by omega
    have g3 := BF.min hv b h ho m w1 hdz (by omega)
    have g4 := g2 w2 (by omega)
    unfold fp at g4
    rw [if_neg (by omega)] at g4
    omega
/-- goals: the way from the goals tells how far it is from now; the way from now, which goal is nearest and with whom one goes first -/
theorem ways_meet {v : TV} (hv : vOk v) {x0 : Nat} {G : Nat → Prop} {s t : BS} (bs : BA v (fun z => z = x0) s (be s) (fun _ _ => False) 0) (bt : BA v G t (be t) (fun _ _ => False) 0) :
    ((∀ i, i < be s → ¬ G (bl s i)) → bd t x0 = 9999) ∧ ∀ n, n < be s → G (bl s n) → (∀ i, i < n → ¬ G (bl s i)) → bd t x0 = bd s (bl s n) ∧ bd s (bl s n) < 1024 ∧ (bd t x0 ≠ 0 → (∃ c, eO v x0 (bf s (bl s n)) c ∧ bd t (nx x0 (bf s (bl s n)) c) + 1 = bd t x0) ∧ ∀ p c, eO v x0 p c → bd t (nx x0 p c) + 1 = bd t x0 → bf s (bl s n) ≤ p) := by
  obtain ⟨bs, fs⟩ := bs
  have fs := fs x0 rfl
  have bt := bt.1
  have h0 := bs.2.2.2.2.2.2.2.2 x0 rfl
  -- from x by m goes to a goal: it is no farther than m
  have near : ∀ (m x g : Nat), G g → WK v (fun z => z = x) m g → x < 1024 ∧ bd t x ≤ m := fun m x g hg hw => bt.all hv m ((WK_src m).mpr ⟨g, hg, WK_rev hv m hw⟩)
  -- how far it is, so many goes lead to a goal
  have far : ∀ x, x < 1024 → bd t x ≠ 9999 → ∃ g, G g ∧ WK v (fun z => z = x) (bd t x) g := fun x hx hd => by
    obtain ⟨g, g1, g2⟩ := (WK_src _).mp (bt.2.2.2.2.2.2.2.1 x hx hd)
    exact ⟨g, g1, WK_rev hv _ g2⟩
  refine ⟨fun hno => ?_, fun n hn hg hmin => ?_⟩
  · by_cases c : bd t x0 = 9999
    · exact c
    · obtain ⟨g, g1, g2⟩ := far x0 h0.1 c
      obtain ⟨a1, a2⟩ := bs.all hv _ g2
      have hl := bt.lab h0.1 c
      obtain ⟨i, i1, i2⟩ := bs.2.2.1 g a1 (by omega)
      rw [← i2] at g1
      exact absurd g1 (hno i i1)
  · obtain ⟨l1, l2⟩ := bs.2.1 n hn
    have hel := bs.e_le
    have hD : bd s (bl s n) < 1024 := by omega
    have wn := bs.2.2.2.2.2.2.2.1 _ l1 (by omega)
    obtain ⟨-, up⟩ := near _ _ _ hg wn
    -- each goal that can be reached is no nearer
    have best : ∀ (m g : Nat), G g → WK v (fun z => z = x0) m g → m < 9000 → ∃ j, n ≤ j ∧ j < be s ∧ bl s j = g ∧ bd s g ≤ m := fun m g g1 g2 hm => by
      obtain ⟨a1, a2⟩ := bs.all hv m g2
      obtain ⟨j, j1, j2⟩ := bs.2.2.1 g a1 (by omega)
      refine ⟨j, ?_, j1, j2, a2⟩
      rcases Nat.lt_or_ge j n with w | w
      · rw [← j2] at g1
        exact absurd g1 (hmin j w)
      · exact w
    have lo : bd s (bl s n) ≤ bd t x0 := by
      obtain ⟨g, g1, g2⟩ := far x0 h0.1 (by omega)
      obtain ⟨j, j1, j2, j3, j4⟩ := best _ g g1 g2 (by omega)
      have := bs.2.2.2.2.1 n j j1 j2
      rw [j3] at this
      omega
    refine ⟨by omega, hD, fun hne => ⟨?_, fun p c ho hd => ?_⟩⟩
    · obtain ⟨c, c1, c2⟩ := fs.1 _ l1 (by omega) (by omega)
      obtain ⟨a1, a2⟩ := near _ _ _ hg c2
      refine ⟨c, c1, ?_⟩
      have hx := nx_lt hv h0.1 c1
      have hlab : bd t (nx x0 (bf s (bl s n)) c) ≠ 9999 := by omega
      obtain ⟨g, g1, g2⟩ := far _ hx hlab
      have := near _ _ _ g1 (WK_pre c1 _ g2)
      omega
    · have hx := nx_lt hv h0.1 ho
      obtain ⟨g, g1, g2⟩ := far _ hx (by omega)
      have g3 := WK_pre ho _ g2
      obtain ⟨j, j1, j2, j3, j4⟩ := best _ g g1 g3 (by omega)
      have m1 := bs.2.2.2.2.1 n j j1 j2
      rw [j3] at m1
      have hdg : bd s g = bd t (nx x0 p c) + 1 := by omega
      have m2 := BF.min hv bs fs ho _ g2 hdg (by omega)
      have m3 := fs.2.1 n j j1 j2 (by rw [j3]; omega) (by omega)
      rw [j3] at m3
      omega
/-- beginnings -/
theorem cnt_1 (x0 : Nat) : ∀ n, sumN (fun x => if (if x = x0 then 0 else 9999) = 9999 then 0 else 1) n = if x0 < n then 1 else 0
  | 0 => rfl
  | n + 1 => by
    show sumN _ n + (if (if n = x0 then 0 else 9999) = 9999 then 0 else 1) = _
    rw [cnt_1 x0 n]
    by_cases e : n = x0
    · rw [if_pos e, if_neg (by omega), if_neg (by decide), if_pos (by omega)]
    · rw [if_neg e, if_pos rfl]
      by_cases w : x0 < n
      · rw [if_pos w, if_pos (by omega)]
      · rw [if_neg w, if_neg (by omega)]
def s1 (x0 : Nat) : BS := (fun y => if y = x0 then 0 else 9999, fun _ => 0, fun _ => x0, 1)
theorem s1_BA (v : TV) {x0 : Nat} (h : x0 < 1024) : BA v (fun z => z = x0) (s1 x0) 0 (fun _ _ => False) 0 := by
  have e0 : (if x0 = x0 then 0 else 9999) = 0 := if_pos rfl
  refine ⟨⟨?_, fun i hi => ?_, fun y hy hd => ?_, fun i j hi hj _ => ?_, fun i j _ _ => ?_, fun _ i _ => ?_, fun i p c _ hD _ => ?_, fun y hy hd => ?_, fun y hy => ?_⟩, fun z0 _ => ⟨fun y hy hd hd0 => ?_, fun i j _ _ _ hd0 => ?_, fun i p c _ hD _ _ => ?_, fun _ i _ hd p _ => ?_⟩⟩
  · show sumN (fun x => if (if x = x0 then 0 else 9999) = 9999 then 0 else 1) 1024 = 1
    rw [cnt_1, if_pos h]
  · show x0 < 1024 ∧ (if x0 = x0 then 0 else 9999) ≤ i
    omega
  · have hd : (if y = x0 then 0 else 9999) ≠ 9999 := hd
    refine ⟨0, Nat.zero_lt_one, ?_⟩
    show x0 = y
    by_cases e : y = x0
    · exact e.symm
    · rw [if_neg e] at hd
      exact absurd rfl hd
  · have hi : i < 1 := hi
    have hj : j < 1 := hj
    omega
  · exact Nat.le_refl _
  · exact Nat.le_succ _
  · rcases hD with w | w
    · omega
    · exact absurd w.2 (fun x => x)
  · have hd : (if y = x0 then 0 else 9999) ≠ 9999 := hd
    show WK v _ (if y = x0 then 0 else 9999) y
    by_cases e : y = x0
    · rw [if_pos e]
      exact e
    · rw [if_neg e] at hd
      exact absurd rfl hd
  · have hy : y = x0 := hy
    show y < 1024 ∧ (if y = x0 then 0 else 9999) = 0
    rw [if_pos hy]
    omega
  · have hd : (if y = x0 then 0 else 9999) ≠ 9999 := hd
    have hd0 : (if y = x0 then 0 else 9999) ≠ 0 := hd0
    by_cases e : y = x0
    · rw [if_pos e] at hd0
      exact absurd rfl hd0
    · rw [if_neg e] at hd
      exact absurd rfl hd
  · have hd0 : (if x0 = x0 then 0 else 9999) ≠ 0 := hd0
    exact absurd e0 hd0
  · rcases hD with w | w
    · omega
    · exact absurd w.2 (fun x => x)
  · have hd : (if x0 = x0 then 0 else 9999) = (if x0 = x0 then 0 else 9999) + 1 := hd
    omega
/-- goals in their order -/
def gls (G : Nat → Prop) (k e : Nat) (l : Nat → Nat) (d : Nat → Nat) : Prop := sumN (fun x => if d x = 9999 then 0 else 1) k = e ∧ (∀ i, i < e → l i < k ∧ G (l i)) ∧ (∀ x, x < k → ((G x ∧ d x = 0 ∧ ∃ i, i < e ∧ l i = x) ∨ (¬ G x ∧ d x = 9999))) ∧ ∀ i j, i < e → j < e → l i = l j → i = j
theorem gls_BA {v : TV} {G : Nat → Prop} {e : Nat} {l d f : Nat → Nat} (hG : ∀ y, G y → y < 1024) (h : gls G 1024 e l d) : BA v G (d, f, l, e) 0 (fun _ _ => False) 0 := by
  obtain ⟨h1, h2, h3, h4⟩ := h
  have dl : ∀ i, i < e → d (l i) = 0 := fun i hi => by
    obtain ⟨a, b⟩ := h2 i hi
    rcases h3 _ a with w | w
    · exact w.2.1
    · exact absurd b w.1
  refine ⟨⟨h1, fun i hi => ?_, fun y hy hd => ?_, h4, fun i j hij hj => ?_, fun hk i hi => ?_, fun i p c _ hD _ => ?_, fun y hy hd => ?_, fun y hy => ?_⟩, fun z0 _ => ⟨fun y hy hd hd0 => ?_, fun i j hij hj _ hd0 => ?_, fun i p c _ hD _ _ => ?_, fun hk i hi hd p _ => ?_⟩⟩
  · show l i < 1024 ∧ d (l i) ≤ i
    rw [dl i hi]
    exact ⟨(h2 i hi).1, Nat.zero_le _⟩
  · rcases h3 y hy with w | w
    · exact w.2.2
    · exact absurd w.2 hd
  · show d (l i) ≤ d (l j)
    rw [dl i (by have hj : j < e := hj; omega), dl j hj]
    exact Nat.le_refl _
  · show d (l i) ≤ d (l 0) + 1
    rw [dl i hi]
    exact Nat.zero_le _
  · rcases hD with w | w
    · omega
    · exact absurd w.2 (fun x => x)
  · rcases h3 y hy with w | w
    · show WK v G (d y) y
      rw [w.2.1]
      exact w.1
    · exact absurd w.2 hd
  · refine ⟨hG y hy, ?_⟩
    rcases h3 y (hG y hy) with w | w
    · exact w.2.1
    · exact absurd hy w.1
  · rcases h3 y hy with w | w
    · exact absurd w.2.1 hd0
    · exact absurd w.2 hd
  · have hj : j < e := hj
    exact absurd (dl i (by omega)) hd0
  · rcases hD with w | w
    · omega
    · exact absurd w.2 (fun x => x)
  · have hd : d (l i) = d (l 0) + 1 := hd
    have hi : i < e := hi
    rw [dl i hi] at hd
    omega
