/-! UNDONE, KEPT, GONE ON FROM -/
section OPK
variable {I J : xMem} {L M : xLon} {P Dr : Nat}
theorem in_le {x : Int32} {d : Nat} (hd : d < 2 ^ 30) : X5_in x.toInt64 0 (nI d).toInt64 = if ix x (d + 1) then 1 else 0 := by
  rw [in_spec, t64, t64, nI_toInt (by omega)]
  have h0 : ((0 : Int64).toInt) = 0 := rfl
  simp only [ix, h0]
  by_cases c : 0 ≤ x.toInt ∧ x.toInt ≤ (d : Int)
  · rw [if_pos c, if_pos (by omega)]
  · rw [if_neg c, if_neg (by omega)]
theorem Sim.back (h : Sim I L P Dr J M) {d n : Nat} {I' J' : xMem} (hd : I 17 0 = nI d) (hn : n < d) (hd40 : d ≤ 40) (i0 : I' 17 0 = nI n) (io : ∀ k j, (k ≠ 17 ∨ j ≠ 0) → I' k j = I k j) (j0 : J' 1 0 = nI n) (jp : ∀ k, k < 4 → J' 1 (1 + k) = J 1 (5 + 4 * n + k)) (jo : ∀ y q, (y ≠ 1 ∨ 5 ≤ q) → J' y q = J y q) : Sim I' L P Dr J' M := by
  obtain ⟨p, r, f, l, v, d0, T, U, E, S, w, a, b, c, k⟩ := h
  have hp := p
  unfold isPD at hp
  obtain ⟨b1, ⟨b2, b2'⟩, b3, b4, ⟨b5, b6, b7, b8⟩, b9⟩ := b
  have e1 : d0 = d := (nI_eq_iff (by omega) (by omega)).mp (b2.symm.trans hd)
  subst e1
  refine ⟨p, r.congr (fun k j _ _ => io _ _ (by omega)) (fun k j _ _ => jo _ _ (by omega)), f.congr (fun k j _ => io _ _ (by omega)) (fun k j _ => jo _ _ (by omega)), l, v, n, T, U, E, S, w, a.congr (fun k j _ _ => io _ _ (by omega)) (fun k j _ => jo _ _ (by omega)), ⟨by omega, ⟨i0, j0⟩, fun k hk => ?_, fun k hk => ?_, ⟨?_, ?_, ?_, ?_⟩, fun k hk => b9 k (by omega)⟩, c.congr (fun k _ _ => io _ _ (by omega)), k.congr (fun k j _ _ => io _ _ (by omega)) (fun j _ => jo _ _ (by omega))⟩
  · rw [io _ _ (by omega), io _ _ (by omega), io _ _ (by omega), io _ _ (by omega)]
    exact b3 k (by omega)
  · rw [jo _ _ (by omega), jo _ _ (by omega), jo _ _ (by omega), jo _ _ (by omega)]
    exact b4 k (by omega)
  · rw [show 0 + 1 = 1 + 0 by omega, jp 0 (by omega), show 5 + 4 * n + 0 = 0 + 5 + 4 * n by omega]; exact (b4 n hn).1
  · rw [show 0 + 2 = 1 + 1 by omega, jp 1 (by omega), show 5 + 4 * n + 1 = 0 + 6 + 4 * n by omega]; exact (b4 n hn).2.1
  · rw [show 0 + 3 = 1 + 2 by omega, jp 2 (by omega), show 5 + 4 * n + 2 = 0 + 7 + 4 * n by omega]; exact (b4 n hn).2.2.1
  · rw [show 0 + 4 = 1 + 3 by omega, jp 3 (by omega), show 5 + 4 * n + 3 = 0 + 8 + 4 * n by omega]; exact (b4 n hn).2.2.2
theorem op_undo (h : Sim I L P Dr J M) (x1 : Int32) : Bt L P Dr M (X4_undo I x1) (X5_undo J x1) := by
  obtain ⟨v, d, hv, hC, hM, hd, d1, d2, -⟩ := h.opn
  have h0 : ((0 : Int32).toInt) = 0 := rfl
  unfold X4_undo X5_undo
  rw [i_0, rdI_nI (by omega) (by omega), bind_s, bind_s, d1, d2, show nI 0 = (0 : Int32) from rfl, in_le (by omega)]
  by_cases c : ix x1 (d + 1)
  · rw [if_pos c, if10]
    obtain ⟨n, hn, rfl⟩ := ix_of c (by omega)
    rw [if_neg (nI_pos (by omega)), if_pos ((nI_le_iff (by omega) (by omega)).mpr (by omega)), bind_s, pk_sub (by omega)]
    by_cases q : n < d
    · obtain ⟨Z, hZ, he⟩ := loop_I (fun fuel k (Z : xMem) => X5_undo_L1 (nI n) (nI d) (fun I7 => (wrI I7 1 660 0 (nI n)).bind fun I12 => some (nI d - nI n, I12)) fuel (nI k) Z) (fun I7 => (wrI I7 1 660 0 (nI n)).bind fun I12 => some (nI d - nI n, I12)) 4 (fun k Z => Z = fun y q => if y = 1 ∧ 1 ≤ q ∧ q < 1 + k then J 1 (4 + 4 * n + q) else J y q)
        (fun fuel k Z hk hI => by
          refine ⟨_, ?_, rfl⟩
          show X5_undo_L1 (nI n) (nI d) _ (fuel + 1) (nI k) Z = _
          rw [X5_undo_L1]
          have mk : Z 1 (5 + 4 * n + k) = J 1 (5 + 4 * n + k) := by
            rw [hI]
            show (if 1 = 1 ∧ 1 ≤ 5 + 4 * n + k ∧ 5 + 4 * n + k < 1 + k then J 1 (4 + 4 * n + (5 + 4 * n + k)) else J 1 (5 + 4 * n + k)) = _
            rw [if_neg (by omega)]
          rw [if_neg (by rw [i_4, nI_le_iff (by omega) (by omega)]; omega), pk_sub (by omega), if_neg (by rw [i_0, nI_le_iff (by omega) (by omega)]; omega), i_5, i_4, nI_mul, nI_sum, nI_sum, rdI_nI (by omega) (by omega), bind_s, mk, i_1, nI_sum, wrI_nI (by omega) (by omega), bind_s, nI_sum]
          congr 1
          rw [hI]
          funext y q
          rw [wr_at]
          by_cases e : y = 1 ∧ q = 1 + k
          · rw [if_pos e, if_pos (by omega), show 4 + 4 * n + q = 5 + 4 * n + k by omega]
          · rw [if_neg e]
            by_cases e2 : y = 1 ∧ 1 ≤ q ∧ q < 1 + k
            · rw [if_pos e2, if_pos (by omega)]
            · rw [if_neg e2, if_neg (by omega)])
        (fun fuel Z hI => by
          show X5_undo_L1 (nI n) (nI d) _ (fuel + 1) (nI 4) Z = _
          rw [X5_undo_L1]
          rw [if_pos (by rw [i_4]; exact Int32.le_refl _)])
        4 bigF 0 J (by omega) (bigF_gt (by omega)) (by
          funext y q
          rw [if_neg (by omega)])
      have he : X5_undo_L1 (nI n) (nI d) (fun I7 => (wrI I7 1 660 0 (nI n)).bind fun I12 => some (nI d - nI n, I12)) bigF 0 J = (wrI Z 1 660 0 (nI n)).bind fun I12 => some (nI d - nI n, I12) := he
      rw [pk_sub (by omega)] at he
      rw [he]
      have hZ' : ∀ y q, Z y q = if y = 1 ∧ 1 ≤ q ∧ q < 1 + 4 then J 1 (4 + 4 * n + q) else J y q := fun y q => by rw [hZ]
      rw [i_0, wrI_nI (by omega) (by omega), bind_s]
      refine Bt.mk rfl rfl rfl (h.back d1 q hd (wr_eq _ _ _ _) (fun k j hk => wr_off _ _ hk) (wr_eq _ _ _ _) (fun k hk => ?_) (fun y q hq => ?_))
      · rw [wr_off _ _ (by omega), hZ', if_pos (by omega), show 4 + 4 * n + (1 + k) = 5 + 4 * n + k by omega]
      · rw [wr_off _ _ (by omega), hZ', if_neg (by omega)]
    · have e : n = d := by omega
      subst e
      have hl : X5_undo_L1 (nI n) (nI n) (fun I7 => (wrI I7 1 660 0 (nI n)).bind fun I12 => some (nI (n - n), I12)) bigF 0 J = (wrI J 1 660 0 (nI n)).bind fun I12 => some (nI (n - n), I12) := by
        rw [show bigF = 1999999 + 1 from rfl, X5_undo_L1]
        rw [if_neg (by decide), pk_sub (by omega), if_pos (by rw [Nat.sub_self]; exact Int32.le_refl _)]
      rw [hl, i_0, wrI_nI (by omega) (by omega), bind_s]
      have hI : wr I 17 0 (nI n) = I := by rw [← d1, wr_id]
      have hJ : wr J 1 0 (nI n) = J := by rw [← d2, wr_id]
      rw [hI, hJ]
      exact Bt.mk rfl rfl rfl h
  · rw [if_neg c, if00]
    by_cases q : x1 < 0
    · rw [if_pos q]
      exact Bt.mk rfl rfl rfl h
    · rw [if_neg q, if_neg]
      · exact Bt.mk rfl rfl rfl h
      · intro w
        rw [Int32.lt_iff_toInt_lt, h0] at q
        rw [Int32.le_iff_toInt_le, nI_toInt (by omega)] at w
        exact c ⟨by omega, by omega⟩
/-! the class copies deeds -/
def bcM (I : xMem) (b y d : Nat) : xMem := fun k j => if k = b ∧ j = 0 then nI d else if b + 1 ≤ k ∧ k ≤ b + 4 ∧ j ≤ d then I (y + (k - b)) j else I k j
theorem become_eq (I : xMem) {b y d : Nat} (hd : d ≤ 40) (h0 : I y 0 = nI d) (hby : b + 5 ≤ y ∨ y + 5 ≤ b) : X0_become b I y = some (bcM I b y d) := by
  have cp : ∀ (A : xMem) (k1 k2 : Nat), cpI A k1 41 0 k2 41 0 (nI (d + 1)) = some (cpM A k1 0 k2 0 (d + 1)) := fun A k1 k2 => by
    unfold cpI
    have z : ((0 : Int32).toInt) = 0 := rfl
    rw [z, nI_toInt (by omega), nI_clamp (by omega), sb_cl0, if_pos (by omega)]
  have cat : ∀ (A : xMem) (k1 k2 k j : Nat), cpM A k1 0 k2 0 (d + 1) k j = if k = k2 ∧ j ≤ d then A k1 j else A k j := by
    intro A k1 k2 k j
    unfold cpM va_cpy
    by_cases e : k = k2
    · subst e
      by_cases q : j ≤ d
      · simp [q, show j < d + 1 by omega]
      · simp [q, show ¬ j < d + 1 by omega]
    · simp [e]
  unfold X0_become
  rw [h0, bind_s, wr_eq, i_1, nI_sum, cp, bind_s, cat, if_neg (by omega), wr_eq, nI_sum, cp, bind_s, cat, if_neg (by omega), cat, if_neg (by omega), wr_eq, nI_sum, cp, bind_s, cat, if_neg (by omega), cat, if_neg (by omega), cat, if_neg (by omega), wr_eq, nI_sum, cp, bind_s]
  congr 1
  funext k j
  unfold bcM
  by_cases e0 : k = b ∧ j = 0
  · rw [if_pos e0, cat, if_neg (by omega), cat, if_neg (by omega), cat, if_neg (by omega), cat, if_neg (by omega), wr_at, if_pos e0]
  · by_cases e1 : b + 1 ≤ k ∧ k ≤ b + 4 ∧ j ≤ d
    · rw [if_neg e0, if_pos e1]
      rcases (show k = b + 1 ∨ k = b + 2 ∨ k = b + 3 ∨ k = b + 4 by omega) with e | e | e | e
      · rw [cat, if_neg (by omega), cat, if_neg (by omega), cat, if_neg (by omega), cat, if_pos (by omega), wr_off _ _ (by omega), show y + (k - b) = y + 1 by omega]
      · rw [cat, if_neg (by omega), cat, if_neg (by omega), cat, if_pos (by omega), cat, if_neg (by omega), wr_off _ _ (by omega), show y + (k - b) = y + 2 by omega]
      · rw [cat, if_neg (by omega), cat, if_pos (by omega), cat, if_neg (by omega), cat, if_neg (by omega), wr_off _ _ (by omega), show y + (k - b) = y + 3 by omega]
      · rw [cat, if_pos (by omega), cat, if_neg (by omega), cat, if_neg (by omega), cat, if_neg (by omega), wr_off _ _ (by omega), show y + (k - b) = y + 4 by omega]
    · rw [if_neg e0, if_neg e1, cat, if_neg (by omega), cat, if_neg (by omega), cat, if_neg (by omega), cat, if_neg (by omega), wr_off _ _ (by omega)]
theorem bcM_0 (I : xMem) (b y d : Nat) : bcM I b y d b 0 = nI d := by
  unfold bcM
  rw [if_pos (by omega)]
theorem bcM_i (I : xMem) (b y d : Nat) {q j : Nat} (h1 : 1 ≤ q) (h2 : q ≤ 4) (h3 : j ≤ d) : bcM I b y d (b + q) j = I (y + q) j := by
  unfold bcM
  rw [if_neg (by omega), if_pos (by omega), show b + q - b = q by omega]
theorem bcM_o (I : xMem) (b y d : Nat) {k j : Nat} (h : k < b ∨ b + 4 < k) : bcM I b y d k j = I k j := by
  unfold bcM
  rw [if_neg (by omega), if_neg (by omega)]
theorem bcM_z (I : xMem) {b y d : Nat} (hz : zer I y) : zer (bcM I b y d) b := by
  obtain ⟨h1, h2, h3, h4⟩ := hz
  refine ⟨?_, ?_, ?_, ?_⟩
  · rw [bcM_i I b y d (by omega) (by omega) (by omega)]; exact h1
  · rw [bcM_i I b y d (by omega) (by omega) (by omega)]; exact h2
  · rw [bcM_i I b y d (by omega) (by omega) (by omega)]; exact h3
  · rw [bcM_i I b y d (by omega) (by omega) (by omega)]; exact h4
/-- the model copies a tower -/
def ctM (J : xMem) (a b : Nat) : xMem := fun y q => if y = 1 ∧ b ≤ q ∧ q < b + 165 then J 1 (a + (q - b)) else J y q
theorem copyTower_eq (J : xMem) {a b : Nat} (ha : a + 165 ≤ 660) (hb : b + 165 ≤ 660) (hab : a + 165 ≤ b ∨ b + 165 ≤ a) : X5_copyTower J (nI a) (nI b) = some (ctM J a b) := by
  unfold X5_copyTower
  obtain ⟨Z, hZ, he⟩ := loop_I (fun fuel k (Z : xMem) => X5_copyTower_L1 (nI a) (nI b) (fun I4 => some I4) fuel (nI k) Z) (fun Z => some Z) 165 (fun k Z => Z = fun y q => if y = 1 ∧ b ≤ q ∧ q < b + k then J 1 (a + (q - b)) else J y q)
    (fun fuel k Z hk hI => by
      refine ⟨_, ?_, rfl⟩
      show X5_copyTower_L1 (nI a) (nI b) _ (fuel + 1) (nI k) Z = _
      rw [X5_copyTower_L1]
      have mk : Z 1 (a + k) = J 1 (a + k) := by
        rw [hI]
        show (if 1 = 1 ∧ b ≤ a + k ∧ a + k < b + k then J 1 (a + (a + k - b)) else J 1 (a + k)) = _
        rw [if_neg (by omega)]
      rw [if_neg (by rw [i_165, nI_le_iff (by omega) (by omega)]; omega), nI_sum, nI_sum, rdI_nI (by omega) (by omega), bind_s, mk, wrI_nI (by omega) (by omega), bind_s, i_1, nI_sum]
      congr 1
      rw [hI]
      funext y q
      rw [wr_at]
      by_cases e : y = 1 ∧ q = b + k
      · rw [if_pos e, if_pos (by omega), show a + (q - b) = a + k by omega]
      · rw [if_neg e]
        by_cases e2 : y = 1 ∧ b ≤ q ∧ q < b + k
        · rw [if_pos e2, if_pos (by omega)]
        · rw [if_neg e2, if_neg (by omega)])
    (fun fuel Z hI => by
      show X5_copyTower_L1 (nI a) (nI b) _ (fuel + 1) (nI 165) Z = _
      rw [X5_copyTower_L1]
      rw [if_pos (by rw [i_165]; exact Int32.le_refl _)])
    165 bigF 0 J (by omega) (bigF_gt (by omega)) (by
      funext y q
      rw [if_neg (by omega)])
  rw [hZ] at he
  exact he
theorem ctM_i (J : xMem) (a b : Nat) {q : Nat} (h : q < 165) : ctM J a b 1 (b + q) = J 1 (a + q) := by
  unfold ctM
  rw [if_pos (by omega), show a + (b + q - b) = a + q by omega]
theorem ctM_o (J : xMem) (a b : Nat) {y q : Nat} (h : y ≠ 1 ∨ q < b ∨ b + 165 ≤ q) : ctM J a b y q = J y q := by
  unfold ctM
  rw [if_neg (by omega)]
/-- deeds copied on both sides -/
theorem simD.cp {I J I' J' : xMem} {y b o o' n s d : Nat} {T U E : Nat → Nat} {S : Nat → Int32} (h : simD I y J o n s d T U E S) (i0 : I' b 0 = nI d) (ii : ∀ q j, 1 ≤ q → q ≤ 4 → j ≤ d → I' (b + q) j = I (y + q) j) (jj : ∀ q, q < 165 → J' 1 (o' + q) = J 1 (o + q)) : simD I' b J' o' n s d T U E S := by
  obtain ⟨a, ⟨b1, b2⟩, c, dd, ⟨e1, e2, e3, e4⟩, f⟩ := h
  refine ⟨a, ⟨i0, ?_⟩, fun k hk => ?_, fun k hk => ?_, ⟨?_, ?_, ?_, ?_⟩, f⟩
  · have := jj 0 (by omega)
    rw [Nat.add_zero, Nat.add_zero] at this
    rw [this]; exact b2
  · rw [ii 1 k (by omega) (by omega) hk, ii 2 k (by omega) (by omega) hk, ii 3 k (by omega) (by omega) hk, ii 4 k (by omega) (by omega) hk]
    exact c k hk
  · rw [show o' + 5 + 4 * k = o' + (5 + 4 * k) by omega, show o' + 6 + 4 * k = o' + (6 + 4 * k) by omega, show o' + 7 + 4 * k = o' + (7 + 4 * k) by omega, show o' + 8 + 4 * k = o' + (8 + 4 * k) by omega, jj _ (by omega), jj _ (by omega), jj _ (by omega), jj _ (by omega), show o + (5 + 4 * k) = o + 5 + 4 * k by omega, show o + (6 + 4 * k) = o + 6 + 4 * k by omega, show o + (7 + 4 * k) = o + 7 + 4 * k by omega, show o + (8 + 4 * k) = o + 8 + 4 * k by omega]
    exact dd k hk
  · rw [jj 1 (by omega)]; exact e1
  · rw [jj 2 (by omega)]; exact e2
  · rw [jj 3 (by omega)]; exact e3
  · rw [jj 4 (by omega)]; exact e4
theorem in_02 (x : Int32) : X5_in x.toInt64 0 2 = if ix x 3 then 1 else 0 := by
  rw [in_spec, t64]
  have h0 : ((0 : Int64).toInt) = 0 := rfl
  have h2 : ((2 : Int64).toInt) = 2 := rfl
  simp only [ix, h0, h2]
  by_cases c : 0 ≤ x.toInt ∧ x.toInt ≤ 2
  · rw [if_pos c, if_pos (by omega)]
  · rw [if_neg c, if_neg (by omega)]
theorem out3 {x : Int32} {α : Type} (a b : α) : (if x < 0 then a else if x < 3 then b else a) = if ix x 3 then b else a := by
  have h0 : ((0 : Int32).toInt) = 0 := rfl
  have h3 : ((3 : Int32).toInt) = 3 := rfl
  simp only [Int32.lt_iff_toInt_lt, h0, h3, ix]
  by_cases c1 : x.toInt < 0
  · rw [if_pos c1, if_neg (by omega)]
  · rw [if_neg c1]
    by_cases c2 : x.toInt < 3
    · rw [if_pos c2, if_pos (by omega)]
    · rw [if_neg c2, if_neg (by omega)]
theorem op_keep (h : Sim I L P Dr J M) (x1 : Int32) : Bt L P Dr M (X4_keep P I x1) (X5_keep J x1) := by
  obtain ⟨p, r, f, l, v, d, T, U, E, S, w, a, b, c, k⟩ := h
  have h : Sim I L P Dr J M := ⟨p, r, f, l, v, d, T, U, E, S, w, a, b, c, k⟩
  have hp := p
  unfold isPD at hp
  have hd := b.1
  have d1 := b.2.1.1
  have d2 := b.2.1.2
  unfold X4_keep X5_keep
  rw [out3, in_02, a.1.1.2.2, a.2.1.2.2]
  by_cases cx : ix x1 3
  · rw [if_pos cx, if_pos cx, if10]
    obtain ⟨m, hm, rfl⟩ := ix_of cx (by omega)
    by_cases c1 : nI (tn v) = 0
    · rw [if_pos c1, if_pos c1]
      exact Bt.mk rfl rfl rfl h
    · rw [if_neg c1, if_neg c1, rdX_nI hm (by omega), bind_s, become_eq I hd d1 (by omega), bind_s, wrI_nI hm (by omega), bind_s, i_0, i_165, i_1, nI_sum, nI_mul, copyTower_eq J (by omega) (by omega) (by omega), bind_s, rdI_nI (by omega) (by omega), bind_s, ctM_o J _ _ (show 1 ≠ 1 ∨ 0 < 165 * (1 + m) ∨ _ by omega), d2, wr_off _ _ (by omega), bcM_o I _ _ _ (by omega), d1]
      have cO : ∀ k j, (k < 23 + 5 * m ∨ 23 + 5 * m + 4 < k) → (k ≠ 38 ∨ j ≠ m) → wr (bcM I (23 + 5 * m) 17 d) 38 m (nz (nI 1)) k j = I k j := fun k j q1 q2 => by
        rw [wr_off _ _ q2, bcM_o I _ _ _ q1]
      refine Bt.mk rfl rfl rfl ⟨p, r.congr (fun k j _ _ => cO _ _ (by omega) (by omega)) (fun k j _ _ => ctM_o J _ _ (by omega)), f.congr (fun k j _ => cO _ _ (by omega) (by omega)) (fun k j _ => ctM_o J _ _ (by omega)), l, v, d, T, U, E, S, w, a.congr (fun k j _ _ => cO _ _ (by omega) (by omega)) (fun k j _ => ctM_o J _ _ (by omega)), b.congr (fun k j _ _ _ => cO _ _ (by omega) (by omega)) (fun j _ _ => ctM_o J _ _ (by omega)), c.congr (fun k _ _ => cO _ _ (by omega) (by omega)), fun q hq => ?_⟩
      obtain ⟨kz, kq⟩ := k q hq
      by_cases e : q = m
      · subst e
        refine ⟨?_, Or.inr ⟨wr_eq _ _ _ _, d, T, U, E, S, b.cp ?_ (fun t j h1 h2 h3 => ?_) (fun t ht => ?_)⟩⟩
        · have := bcM_z I (b := 23 + 5 * q) (d := d) c
          exact this.congr (fun k _ _ => wr_off _ _ (by omega))
        · rw [wr_off _ _ (by omega), bcM_0]
        · rw [wr_off _ _ (by omega), bcM_i I _ _ _ h1 h2 h3]
        · rw [show 165 + 165 * q + t = 165 * (1 + q) + t by omega, ctM_i J _ _ ht]
      · refine ⟨kz.congr (fun k _ _ => cO _ _ (by omega) (by omega)), ?_⟩
        rcases kq with ⟨g1, g2⟩ | ⟨g1, d', T', U', E', S', g2⟩
        · refine Or.inl ⟨?_, ?_⟩
          · rw [cO _ _ (by omega) (by omega)]; exact g1
          · rw [ctM_o J _ _ (by omega)]; exact g2
        · refine Or.inr ⟨?_, d', T', U', E', S', g2.congr (fun k j _ _ _ => cO _ _ (by omega) (by omega)) (fun j _ _ => ctM_o J _ _ ?_)⟩
          · rw [cO _ _ (by omega) (by omega)]; exact g1
          · have := g2.1
            omega
  · rw [if_neg cx, if_neg cx, if00]
    exact Bt.mk rfl rfl rfl h
theorem op_on (h : Sim I L P Dr J M) (x1 : Int32) : Bt L P Dr M (X4_on I x1) (X5_on J x1) := by
  obtain ⟨p, r, f, l, v, d, T, U, E, S, w, a, b, c, k⟩ := h
  have h : Sim I L P Dr J M := ⟨p, r, f, l, v, d, T, U, E, S, w, a, b, c, k⟩
  have hp := p
  unfold isPD at hp
  unfold X4_on X5_on
  rw [out3, in_02]
  by_cases cx : ix x1 3
  · rw [if_pos cx, if_pos cx, if10]
    obtain ⟨m, hm, rfl⟩ := ix_of cx (by omega)
    obtain ⟨kz, kq⟩ := k m hm
    rw [rdI_nI hm (by omega), bind_s, i_165, i_1, nI_sum, nI_mul, i_0, nI_sum, rdI_nI (by omega) (by omega), bind_s, Nat.add_zero, show 165 * (1 + m) = 165 + 165 * m by omega]
    rcases kq with ⟨g1, g2⟩ | ⟨g1, d', T', U', E', S', g2⟩
    · rw [g1, g2, if_pos rfl, if_neg (by decide), found_eq I (by omega), find_eq J (by omega), bind_s, bind_s]
      exact Bt.mk rfl rfl rfl (h.find (by omega) (by omega))
    · have hd' := g2.1
      rw [g1, g2.2.1.2, if_neg (by decide), if_pos (show nI 0 ≤ nI d' from nI_pos' (by omega)), rdX_nI hm (by omega), bind_s, become_eq I hd' g2.2.1.1 (by omega), bind_s, copyTower_eq J (by omega) (by omega) (by omega), bind_s, rdI_nI (by omega) (by omega), bind_s, bcM_0]
      have e0 : ctM J (165 + 165 * m) 0 1 0 = nI d' := by
        have := ctM_i J (165 + 165 * m) 0 (q := 0) (by omega)
        rw [Nat.add_zero, Nat.add_zero] at this
        rw [this]; exact g2.2.1.2
      rw [e0]
      refine Bt.mk rfl rfl rfl ⟨p, r.congr (fun k j _ _ => bcM_o I _ _ _ (by omega)) (fun k j _ _ => ctM_o J _ _ (by omega)), f.congr (fun k j _ => bcM_o I _ _ _ (by omega)) (fun k j _ => ctM_o J _ _ (by omega)), l, v, d', T', U', E', S', w, a.congr (fun k j _ _ => bcM_o I _ _ _ (by omega)) (fun k j _ => ctM_o J _ _ (by omega)), g2.cp (bcM_0 _ _ _ _) (fun t j h1 h2 h3 => bcM_i I _ _ _ h1 h2 h3) (fun t ht => ctM_i J _ _ ht), bcM_z I kz, fun q hq => ?_⟩
      obtain ⟨qz, qq⟩ := k q hq
      refine ⟨qz.congr (fun k _ _ => bcM_o I _ _ _ (by omega)), ?_⟩
      rcases qq with ⟨s1, s2⟩ | ⟨s1, d2, T2, U2, E2, S2, s2⟩
      · refine Or.inl ⟨?_, ?_⟩
        · rw [bcM_o I _ _ _ (by omega)]; exact s1
        · rw [ctM_o J _ _ (by omega)]; exact s2
      · refine Or.inr ⟨?_, d2, T2, U2, E2, S2, s2.congr (fun k j _ _ _ => bcM_o I _ _ _ (by omega)) (fun j _ _ => ctM_o J _ _ (by omega))⟩
        rw [bcM_o I _ _ _ (by omega)]; exact s1
  · rw [if_neg cx, if_neg cx, if00]
    exact Bt.mk rfl rfl rfl h
end OPK
