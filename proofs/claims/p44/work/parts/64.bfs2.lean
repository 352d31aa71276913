/-! of one place alone: by which pair one goes first -/
def BF (v : TV) (x0 : Nat) (s : BS) (k : Nat) (D : Nat → Nat → Prop) (q : Nat) : Prop :=
  (∀ y, y < 1024 → bd s y ≠ 9999 → bd s y ≠ 0 → ∃ c, eO v x0 (bf s y) c ∧ WK v (fun z => z = nx x0 (bf s y) c) (bd s y - 1) y) ∧ (∀ i j, i ≤ j → j < be s → bd s (bl s i) = bd s (bl s j) → bd s (bl s i) ≠ 0 → bf s (bl s i) ≤ bf s (bl s j)) ∧ (∀ i p c, i < be s → (i < k ∨ (i = k ∧ D p c)) → eO v (bl s i) p c → bd s (nx (bl s i) p c) = bd s (bl s i) + 1 → bf s (nx (bl s i) p c) ≤ fp s (bl s i) p) ∧ (k < be s → ∀ i, i < be s → bd s (bl s i) = bd s (bl s k) + 1 → ∀ p, q ≤ p → bf s (bl s i) ≤ fp s (bl s k) p)
theorem fp_up {s : BS} {x p p' : Nat} (h : p ≤ p') : fp s x p ≤ fp s x p' := by
  unfold fp
  split <;> omega
theorem BF.vis {v : TV} (hv : vOk v) {x0 : Nat} {s : BS} {k : Nat} {D : Nat → Nat → Prop} {q : Nat} (b : BI v (fun z => z = x0) s k D) (h : BF v x0 s k D q) (hk : k < be s) (p c : Nat) (hq : q ≤ p) : BF v x0 (vis v (bl s k) p c s) k (fun a b => D a b ∨ (a = p ∧ b = c)) p := by
  have hxl := (b.2.1 k hk).1
  have hxd := (b.2.1 k hk).2
  have hel := b.e_le
  by_cases hc : eO v (bl s k) p c ∧ bd s (nx (bl s k) p c) = 9999
  · have hy := nx_lt hv hxl hc.1
    rw [vis_y hc]
    obtain ⟨h1, h2, h3, h4, h5, h6, h7, h8, h9⟩ := b
    obtain ⟨f1, f2, f3, f4⟩ := h
    obtain ⟨hc1, hc2⟩ := hc
    generalize hyy : nx (bl s k) p c = y at *
    have hl : ∀ i, i < be s → bl s i ≠ y := fun i hi w => by
      have := (h2 i hi).2
      rw [w, hc2] at this
      omega
    have hkk : k ≠ be s := by omega
    -- the new ones, as they are seen
    have eL : ∀ i, i < be s → (if i = be s then y else bl s i) = bl s i := fun i hi => if_neg (by omega)
    have eD : ∀ i, i < be s → (if bl s i = y then bd s (bl s k) + 1 else bd s (bl s i)) = bd s (bl s i) := fun i hi => if_neg (hl i hi)
    have eF : ∀ i, i < be s → (if bl s i = y then fp s (bl s k) p else bf s (bl s i)) = bf s (bl s i) := fun i hi => if_neg (hl i hi)
    refine ⟨fun z hz hd hd0 => ?_, fun i j hij hj he hn => ?_, fun i p' c' hi hD ho hd => ?_, fun _ i hi hd p' hp' => ?_⟩
    · show ∃ c', eO v x0 (if z = y then fp s (bl s k) p else bf s z) c' ∧ WK v (fun w => w = nx x0 (if z = y then fp s (bl s k) p else bf s z) c') ((if z = y then bd s (bl s k) + 1 else bd s z) - 1) z
      have hd : (if z = y then bd s (bl s k) + 1 else bd s z) ≠ 9999 := hd
      have hd0 : (if z = y then bd s (bl s k) + 1 else bd s z) ≠ 0 := hd0
      by_cases e : z = y
      · rw [if_pos e, if_pos e, Nat.add_sub_cancel]
        unfold fp
        by_cases e0 : bd s (bl s k) = 0
        · have hx := h8 _ hxl (by omega)
          rw [e0] at hx
          have hx : bl s k = x0 := hx
          rw [if_pos e0, e0, ← hx]
          exact ⟨c, hc1, by show z = _; rw [hyy]; exact e⟩
        · obtain ⟨c', g1, g2⟩ := f1 _ hxl (by omega) e0
          rw [if_neg e0]
          refine ⟨c', g1, ?_⟩
          rw [show bd s (bl s k) = (bd s (bl s k) - 1) + 1 by omega]
          exact ⟨bl s k, p, c, g2, hc1, by rw [hyy]; exact e⟩
      · rw [if_neg e] at hd hd0 ⊢
        rw [if_neg e]
        exact f1 z hz hd hd0
    · have hj : j < be s + 1 := hj
      have he : (if (if i = be s then y else bl s i) = y then bd s (bl s k) + 1 else bd s (if i = be s then y else bl s i)) = (if (if j = be s then y else bl s j) = y then bd s (bl s k) + 1 else bd s (if j = be s then y else bl s j)) := he
      have hn : (if (if i = be s then y else bl s i) = y then bd s (bl s k) + 1 else bd s (if i = be s then y else bl s i)) ≠ 0 := hn
      show (if (if i = be s then y else bl s i) = y then fp s (bl s k) p else bf s (if i = be s then y else bl s i)) ≤ (if (if j = be s then y else bl s j) = y then fp s (bl s k) p else bf s (if j = be s then y else bl s j))
      by_cases e2 : j = be s
      · by_cases e : i = be s
        · rw [if_pos e2, if_pos e]
          exact Nat.le_refl _
        · rw [if_pos e2, if_pos rfl] at he ⊢
          rw [eL i (by omega), eD i (by omega)] at he
          rw [eL i (by omega), eF i (by omega)]
          exact f4 hk i (by omega) he p hq
      · rw [eL i (by omega), eD i (by omega)] at he hn
        rw [eL j (by omega), eD j (by omega)] at he
        rw [eL i (by omega), eF i (by omega), eL j (by omega), eF j (by omega)]
        exact f2 i j hij (by omega) he hn
    · have hi : i < be s + 1 := hi
      have ei : i < be s := by omega
      have ho : eO v (if i = be s then y else bl s i) p' c' := ho
      have hd : (if nx (if i = be s then y else bl s i) p' c' = y then bd s (bl s k) + 1 else bd s (nx (if i = be s then y else bl s i) p' c')) = (if (if i = be s then y else bl s i) = y then bd s (bl s k) + 1 else bd s (if i = be s then y else bl s i)) + 1 := hd
      show (if nx (if i = be s then y else bl s i) p' c' = y then fp s (bl s k) p else bf s (nx (if i = be s then y else bl s i) p' c')) ≤ (if (if (if i = be s then y else bl s i) = y then bd s (bl s k) + 1 else bd s (if i = be s then y else bl s i)) = 0 then p' else (if (if i = be s then y else bl s i) = y then fp s (bl s k) p else bf s (if i = be s then y else bl s i)))
      rw [eL i ei] at ho hd ⊢
      rw [eD i ei] at hd ⊢
      rw [eF i ei]
      by_cases e3 : nx (bl s i) p' c' = y
      · rw [if_pos e3]
        have old : (i < k ∨ (i = k ∧ D p' c')) → False := fun w => by
          have := h7 i p' c' ei w ho
          rw [e3, hc2] at this
          have := (h2 i ei).2
          omega
        rcases hD with w | ⟨w, w2 | ⟨w2, w3⟩⟩
        · exact absurd (old (Or.inl w)) (fun x => x)
        · exact absurd (old (Or.inr ⟨w, w2⟩)) (fun x => x)
        · subst w w2
          exact Nat.le_refl _
      · rw [if_neg e3] at hd ⊢
        refine f3 i p' c' ei ?_ ho hd
        rcases hD with w | ⟨w, w2 | ⟨w2, w3⟩⟩
        · exact Or.inl w
        · exact Or.inr ⟨w, w2⟩
        · subst w w2 w3
          exact absurd hyy e3
    · have hi : i < be s + 1 := hi
      have hd : (if (if i = be s then y else bl s i) = y then bd s (bl s k) + 1 else bd s (if i = be s then y else bl s i)) = (if (if k = be s then y else bl s k) = y then bd s (bl s k) + 1 else bd s (if k = be s then y else bl s k)) + 1 := hd
      show (if (if i = be s then y else bl s i) = y then fp s (bl s k) p else bf s (if i = be s then y else bl s i)) ≤ (if (if (if k = be s then y else bl s k) = y then bd s (bl s k) + 1 else bd s (if k = be s then y else bl s k)) = 0 then p' else (if (if k = be s then y else bl s k) = y then fp s (bl s k) p else bf s (if k = be s then y else bl s k)))
      rw [eL k hk, eD k hk] at hd ⊢
      rw [eF k hk]
      by_cases e : i = be s
      · rw [if_pos e, if_pos rfl]
        exact fp_up hp'
      · rw [eL i (by omega), eD i (by omega)] at hd
        rw [eL i (by omega), eF i (by omega)]
        exact f4 hk i (by omega) hd p' (by omega)
  · rw [vis_n hc]
    have hlab := fun (q : eO v (bl s k) p c) => (fun w => hc ⟨q, w⟩ : ¬ bd s (nx (bl s k) p c) = 9999)
    obtain ⟨f1, f2, f3, f4⟩ := h
    refine ⟨f1, f2, fun i p' c' q1 q2 q3 q4 => ?_, fun q1 i q2 q3 p' q4 => f4 q1 i q2 q3 p' (by omega)⟩
    rcases q2 with w | ⟨w, w2 | ⟨w2, w3⟩⟩
    · exact f3 i p' c' q1 (Or.inl w) q3 q4
    · exact f3 i p' c' q1 (Or.inr ⟨w, w2⟩) q3 q4
    · subst w w2 w3
      obtain ⟨m, m1, m2⟩ := b.2.2.1 _ (nx_lt hv hxl q3) (hlab q3)
      rw [← m2] at q4 ⊢
      exact f4 hk m m1 q4 _ hq
theorem BF.next {v : TV} {x0 : Nat} {s : BS} {k : Nat} {D : Nat → Nat → Prop} {q : Nat} (b : BI v (fun z => z = x0) s k D) (h : BF v x0 s k D q) (hk : k < be s) (hD : ∀ p c, eO v (bl s k) p c → D p c) : BF v x0 s (k + 1) (fun _ _ => False) 0 := by
  obtain ⟨f1, f2, f3, f4⟩ := h
  have hel := b.e_le
  refine ⟨f1, f2, fun i p c q1 q2 q3 q4 => f3 i p c q1 ?_ q3 q4, fun q1 i q2 q3 p _ => ?_⟩
  · rcases q2 with w | ⟨w, w2⟩
    · by_cases e : i = k
      · subst e
        exact Or.inr ⟨rfl, hD p c q3⟩
      · exact Or.inl (by omega)
    · exact absurd w2 (fun x => x)
  · obtain ⟨h1, h2, h3, h4, h5, h6, h7, h8, h9⟩ := b
    have a1 := h6 hk i q2
    have a2 := h5 k (k + 1) (by omega) q1
    have a3 := h6 hk (k + 1) q1
    by_cases e : bd s (bl s (k + 1)) = bd s (bl s k)
    · by_cases e0 : bd s (bl s k) = 0
      · have c1 := h8 _ (h2 k hk).1 (by omega)
        have c2 := h8 _ (h2 (k + 1) q1).1 (by omega)
        rw [e0] at c1
        rw [e, e0] at c2
        have c1 : bl s k = x0 := c1
        have c2 : bl s (k + 1) = x0 := c2
        have := h4 k (k + 1) hk q1 (by rw [c1, c2])
        omega
      · have g1 := f4 hk i q2 (by omega) q (Nat.le_refl _)
        have g2 := f2 k (k + 1) (by omega) q1 e.symm e0
        unfold fp at g1 ⊢
        rw [if_neg e0] at g1
        rw [if_neg (by omega)]
        omega
    · omega
/-- both -/
def BA (v : TV) (src : Nat → Prop) (s : BS) (k : Nat) (D : Nat → Nat → Prop) (q : Nat) : Prop := BI v src s k D ∧ ∀ x0, src = (fun z => z = x0) → BF v x0 s k D q
theorem BA.vis {v : TV} (hv : vOk v) {src : Nat → Prop} {s : BS} {k : Nat} {D : Nat → Nat → Prop} {q : Nat} (h : BA v src s k D q) (hk : k < be s) (p c : Nat) (hq : q ≤ p) : BA v src (vis v (bl s k) p c s) k (fun a b => D a b ∨ (a = p ∧ b = c)) p := ⟨h.1.vis hv hk p c, fun x0 e => by
  have b := h.1
  rw [e] at b
  exact BF.vis hv b (h.2 x0 e) hk p c hq⟩
theorem BA.next {v : TV} {src : Nat → Prop} {s : BS} {k : Nat} {D : Nat → Nat → Prop} {q : Nat} (h : BA v src s k D q) (hk : k < be s) (hD : ∀ p c, eO v (bl s k) p c → D p c) : BA v src s (k + 1) (fun _ _ => False) 0 := ⟨h.1.next hk hD, fun x0 e => by
  have b := h.1
  rw [e] at b
  exact BF.next b (h.2 x0 e) hk hD⟩
theorem BA.cg {v : TV} {src : Nat → Prop} {s : BS} {k : Nat} {D D' : Nat → Nat → Prop} {q q' : Nat} (h : BA v src s k D q) (hh : ∀ p c, eO v (bl s k) p c → D' p c → D p c) (hq : q ≤ q') : BA v src s k D' q' := ⟨h.1.cg hh, fun x0 e => by
  obtain ⟨f1, f2, f3, f4⟩ := h.2 x0 e
  refine ⟨f1, f2, fun i p c q1 q2 q3 q4 => f3 i p c q1 ?_ q3 q4, fun q1 i q2 q3 p q4 => f4 q1 i q2 q3 p (by omega)⟩
  rcases q2 with w | ⟨w, w2⟩
  · exact Or.inl w
  · subst w
    exact Or.inr ⟨rfl, hh p c q3 w2⟩⟩
theorem vis_be (v : TV) (x p c : Nat) (s : BS) : be s ≤ be (vis v x p c s) ∧ ∀ i, i < be s → bl (vis v x p c s) i = bl s i := by
  by_cases hc : eO v x p c ∧ bd s (nx x p c) = 9999
  · rw [vis_y hc]
    exact ⟨Nat.le_succ _, fun i hi => if_neg (by omega)⟩
  · rw [vis_n hc]
    exact ⟨Nat.le_refl _, fun i _ => rfl⟩
/-- going on: the line grows, no more -/
def gr (s s' : BS) : Prop := be s ≤ be s' ∧ ∀ i, i < be s → bl s' i = bl s i
theorem gr.rf (s : BS) : gr s s := ⟨Nat.le_refl _, fun _ _ => rfl⟩
theorem gr.tr {a b c : BS} (h : gr a b) (g : gr b c) : gr a c := ⟨Nat.le_trans h.1 g.1, fun i hi => (g.2 i (Nat.lt_of_lt_of_le hi h.1)).trans (h.2 i hi)⟩
theorem lvP_BA {v : TV} (hv : vOk v) {src : Nat → Prop} {s : BS} {k p q : Nat} (h : BA v src s k (fun a _ => a < p) q) (hk : k < be s) (hq : q ≤ p) (m : Nat) : BA v src (foldF (fun c s => vis v (bl s k) p c s) 0 m s) k (fun a b => a < p ∨ (a = p ∧ b < m)) p ∧ gr s (foldF (fun c s => vis v (bl s k) p c s) 0 m s) := by
  have := foldF_inv (fun c s => vis v (bl s k) p c s) (fun m s' => BA v src s' k (fun a b => a < p ∨ (a = p ∧ b < m)) p ∧ gr s s') m 0 s ⟨h.cg (fun a b _ w => by
    rcases w with w | w
    · exact w
    · omega) hq, gr.rf s⟩ (fun c s' _ _ hI => by
    obtain ⟨g1, g2⟩ := hI
    refine ⟨(g1.vis hv (by have := g2.1; omega) p c (Nat.le_refl _)).cg (fun a b _ w => ?_) (Nat.le_refl _), g2.tr (vis_be v _ p c s')⟩
    rcases w with w | ⟨w, w2⟩
    · exact Or.inl (Or.inl w)
    · by_cases e : b = c
      · exact Or.inr ⟨w, e⟩
      · exact Or.inl (Or.inr ⟨w, by omega⟩))
  rw [Nat.zero_add] at this
  exact this
theorem lvP_eq {v : TV} {k p x : Nat} : ∀ (m c0 : Nat) {s : BS}, k < be s → bl s k = x → foldF (fun c s => vis v (bl s k) p c s) c0 m s = foldF (fun c s => vis v x p c s) c0 m s
  | 0, c0, s, _, _ => rfl
  | m + 1, c0, s, hk, hx => by
    show foldF _ (c0 + 1) m (vis v (bl s k) p c0 s) = foldF _ (c0 + 1) m (vis v x p c0 s)
    have g := vis_be v (bl s k) p c0 s
    rw [hx] at g ⊢
    exact lvP_eq m (c0 + 1) (by omega) (by rw [g.2 k hk]; exact hx)
theorem lvP_gr (v : TV) (x p : Nat) (s : BS) : gr s (lvP v x p s) := by
  have := foldF_inv (fun c s => vis v x p c s) (fun _ s' => gr s s') 16 0 s (gr.rf s) (fun c s' _ _ h => h.tr (vis_be v x p c s'))
  exact this
theorem lv_gr (v : TV) (x : Nat) (s : BS) : gr s (lv v x s) := by
  have := foldF_inv (fun p s => lvP v x p s) (fun _ s' => gr s s') 36 0 s (gr.rf s) (fun p s' _ _ h => h.tr (lvP_gr v x p s'))
  exact this
theorem lv_BA {v : TV} (hv : vOk v) {src : Nat → Prop} {s : BS} {k : Nat} (h : BA v src s k (fun _ _ => False) 0) (hk : k < be s) : BA v src (lv v (bl s k) s) (k + 1) (fun _ _ => False) 0 := by
  have := foldF_inv (fun p s' => lvP v (bl s k) p s') (fun m s' => BA v src s' k (fun a _ => a < m) m ∧ gr s s') 36 0 s ⟨h.cg (fun a b _ w => absurd w (by omega)) (Nat.le_refl _), gr.rf s⟩ (fun p s' _ _ hI => by
    obtain ⟨g1, g2⟩ := hI
    have hk' : k < be s' := by have := g2.1; omega
    obtain ⟨k1, k2⟩ := lvP_BA hv g1 hk' (Nat.le_refl _) 16
    rw [lvP_eq (x := bl s k) 16 0 hk' (g2.2 k hk)] at k1 k2
    refine ⟨k1.cg (fun a b ho w => ?_) (by omega), g2.tr k2⟩
    have := eO_c16 hv ho
    omega)
  obtain ⟨g1, g2⟩ := this
  exact g1.next (by have := g2.1; show k < be (lv v (bl s k) s); unfold lv; omega) (fun p c ho => eO_p hv ho)
