/-! PURE ROWS: small numbers, places of a memory, loops -/
theorem nz_0 : nz (0 : Int32) = 0 := rfl
theorem nz_1 : nz (1 : Int32) = 1 := rfl
theorem nI_in32 {n : Nat} (h : n < 2 ^ 31) : (nI n).toInt = (n : Int) := nI_toInt h
theorem ix_nI {n N : Nat} (h : n < 2 ^ 31) : ix (nI n) N ↔ n < N := by
  show (0 ≤ (nI n).toInt ∧ (nI n).toInt < (N : Int)) ↔ n < N
  rw [nI_toInt h]
  omega
theorem ix_of {x : Int32} {N : Nat} (h : ix x N) (hN : N < 2 ^ 31) : ∃ n, n < N ∧ x = nI n := vp_in_of (vp_in_iff.mpr h) hN
theorem rdI_nI {I : xMem} {k N n : Nat} (h : n < N) (hN : N < 2 ^ 31) : rdI I k N (nI n) = some (I k n) := by
  unfold rdI
  rw [if_pos ((ix_nI (by omega)).mpr h), nI_clamp (by omega)]
theorem wrI_nI {I : xMem} {k N n : Nat} {v : Int32} (h : n < N) (hN : N < 2 ^ 31) : wrI I k N (nI n) v = some (wr I k n v) := by
  unfold wrI
  rw [if_pos ((ix_nI (by omega)).mpr h), nI_clamp (by omega)]
theorem rdX_nI {N n : Nat} (h : n < N) (hN : N < 2 ^ 31) : rdX N (nI n) = some n := by
  unfold rdX
  rw [if_pos ((ix_nI (by omega)).mpr h), nI_clamp (by omega)]
theorem rdT_nI {f : Nat → Int32} {N n : Nat} (h : n < N) (hN : N < 2 ^ 31) : rdT f N (nI n) = some (f n) := by
  unfold rdT
  rw [if_pos ((ix_nI (by omega)).mpr h), nI_clamp (by omega)]
theorem wr_at (I : xMem) (k j : Nat) (v : Int32) (a b : Nat) : wr I k j v a b = if a = k ∧ b = j then v else I a b := by
  unfold wr
  by_cases h : a = k
  · subst h
    simp [upd]
  · simp [h]
theorem wr_eq (I : xMem) (k j : Nat) (v : Int32) : wr I k j v k j = v := by simp [wr_at]
theorem wr_off (I : xMem) {k j : Nat} (v : Int32) {a b : Nat} (h : a ≠ k ∨ b ≠ j) : wr I k j v a b = I a b := by
  rw [wr_at, if_neg]
  intro q
  rcases h with h | h
  · exact h q.1
  · exact h q.2
theorem wrL_at (L : xLon) (j : Nat) (v : Int64) (b : Nat) : wrL L j v b = if b = j then v else L b := rfl
/-- literals of ints as numbers -/
theorem il {n : Nat} : (OfNat.ofNat n : Int32) = nI n := rfl
theorem nI_subL {a b : Nat} (h : b ≤ a) : nI a - nI b = nI (a - b) := pk_sub h
theorem nI_lt_iff {a b : Nat} (ha : a < 2 ^ 31) (hb : b < 2 ^ 31) : nI a < nI b ↔ a < b := nI_ltI ha hb
theorem nI_le_iff {a b : Nat} (ha : a < 2 ^ 31) (hb : b < 2 ^ 31) : nI a ≤ nI b ↔ a ≤ b := nI_leI ha hb
theorem nI_eq_iff {a b : Nat} (ha : a < 2 ^ 31) (hb : b < 2 ^ 31) : nI a = nI b ↔ a = b := nI_eq ha hb
theorem i32_ext {x y : Int32} (h : x.toBitVec = y.toBitVec) : x = y := Int32.toBitVec_inj.mp h
theorem nI_bv (n : Nat) : (nI n).toBitVec = BitVec.ofNat 32 n := rfl
theorem nI_and (a b : Nat) : nI a &&& nI b = nI (a &&& b) := by
  apply i32_ext
  rw [Int32.toBitVec_and, nI_bv, nI_bv, nI_bv]
  apply BitVec.eq_of_getLsbD_eq
  intro i hi
  simp [BitVec.getLsbD_ofNat, Nat.testBit_and, hi]
theorem nI_or (a b : Nat) : nI a ||| nI b = nI (a ||| b) := by
  apply i32_ext
  rw [Int32.toBitVec_or, nI_bv, nI_bv, nI_bv]
  apply BitVec.eq_of_getLsbD_eq
  intro i hi
  simp [BitVec.getLsbD_ofNat, Nat.testBit_or, hi]
theorem nI_xor (a b : Nat) : nI a ^^^ nI b = nI (a ^^^ b) := by
  apply i32_ext
  rw [Int32.toBitVec_xor, nI_bv, nI_bv, nI_bv]
  apply BitVec.eq_of_getLsbD_eq
  intro i hi
  simp [BitVec.getLsbD_ofNat, Nat.testBit_xor, hi]
/-- a without b, by bits -/
def nd (a b : Nat) : Nat := a ^^^ (a &&& b)
theorem nd_bit (a b i : Nat) : (nd a b).testBit i = (a.testBit i && !b.testBit i) := by
  simp only [nd, Nat.testBit_xor, Nat.testBit_and]
  cases a.testBit i <;> cases b.testBit i <;> rfl
theorem nI_nd (a b : Nat) : nI a &&& (nI b ^^^ (-1)) = nI (nd a b) := by
  apply i32_ext
  rw [Int32.toBitVec_and, Int32.toBitVec_xor, nI_bv, nI_bv, nI_bv]
  apply BitVec.eq_of_getLsbD_eq
  intro i hi
  have h1 : ((-1 : Int32).toBitVec).getLsbD i = true := by
    have : ∀ i, i < 32 → ((-1 : Int32).toBitVec).getLsbD i = true := by decide
    exact this i hi
  simp only [BitVec.getLsbD_and, BitVec.getLsbD_xor, BitVec.getLsbD_ofNat, nd_bit, hi, h1, decide_true, Bool.true_and, Bool.xor_true]
theorem nI_ndor (o a b : Nat) : nI o &&& (nI a ||| (nI b ^^^ (-1))) = nI ((o &&& a) ||| nd o b) := by
  rw [← nI_or, ← nI_nd, ← nI_and]
  apply i32_ext
  simp only [Int32.toBitVec_and, Int32.toBitVec_or]
  apply BitVec.eq_of_getLsbD_eq
  intro i hi
  simp only [BitVec.getLsbD_and, BitVec.getLsbD_or]
  cases ((nI o).toBitVec.getLsbD i) <;> cases ((nI a).toBitVec.getLsbD i) <;> simp
theorem nI_ndN (a b : Nat) : nI a &&& (nI b ^^^ (-nI 1)) = nI (nd a b) := nI_nd a b
theorem nI_ndorN (o a b : Nat) : nI o &&& (nI a ||| (nI b ^^^ (-nI 1))) = nI ((o &&& a) ||| nd o b) := nI_ndor o a b
theorem sh_amt : ∀ k, k < 32 → ((nI k &&& 31).toBitVec.smod 32).toNat = k := by decide
theorem nI_shl {n k : Nat} (hk : k < 32) (h : n * 2 ^ k < 2 ^ 32) : nI n <<< (nI k &&& 31) = nI (n * 2 ^ k) := pk_shlN _ k (sh_amt k hk) h
theorem nI_shr {n k : Nat} (hk : k < 32) (h : n < 2 ^ 31) : nI n >>> (nI k &&& 31) = nI (n / 2 ^ k) := pk_shrN h _ k (sh_amt k hk)
theorem nI_bit {n k : Nat} (hk : k < 32) (h : n < 2 ^ 31) : (nI n >>> (nI k &&& 31)) &&& nI 1 = nI (n / 2 ^ k % 2) := by
  rw [nI_shr hk h, nI_and, Nat.and_one_is_mod]
theorem tb_div (n k : Nat) : n.testBit k = decide (n / 2 ^ k % 2 = 1) := by
  rw [Nat.testBit, Nat.shiftRight_eq_div_pow, Nat.and_comm, Nat.and_one_is_mod]
  rcases Nat.mod_two_eq_zero_or_one (n / 2 ^ k) with h | h <;> simp [h]
theorem nI_bit1 {n k : Nat} (hk : k < 32) (h : n < 2 ^ 31) : (nI n >>> (nI k &&& 31)) &&& nI 1 = nI 1 ↔ n.testBit k = true := by
  rw [nI_bit hk h, nI_eq_iff (by omega) (by omega), tb_div, decide_eq_true_eq]
theorem nI_bit0 {n k : Nat} (hk : k < 32) (h : n < 2 ^ 31) : (nI n >>> (nI k &&& 31)) &&& nI 1 = nI 0 ↔ n.testBit k = false := by
  rw [nI_bit hk h, nI_eq_iff (by omega) (by omega), tb_div]
  rcases Nat.mod_two_eq_zero_or_one (n / 2 ^ k) with h | h <;> simp [h]
theorem nI_pow {k : Nat} (hk : k < 31) : nI 1 <<< (nI k &&& 31) = nI (2 ^ k) := by
  have h2 : 2 ^ k < 2 ^ 31 := Nat.pow_lt_pow_right (by decide) hk
  rw [nI_shl (by omega) (by omega), Nat.one_mul]
theorem nI_rem {a d : Nat} (ha : a < 2 ^ 31) (h0 : 0 < d) (hd : d < 2 ^ 31) : nI a - nI a / nI d * nI d = nI (a % d) := pk_rem ha h0 hd
theorem nI_div {a d : Nat} (ha : a < 2 ^ 31) (h0 : 0 < d) (hd : d < 2 ^ 31) : nI a / nI d = nI (a / d) := pk_div ha h0 hd
theorem nI_mul (a b : Nat) : nI a * nI b = nI (a * b) := pk_mul a b
theorem nI_sum (a b : Nat) : nI a + nI b = nI (a + b) := nI_add a b
/-! a loop: from place k to N, with a state; either the goal comes at once, or the state goes on -/
theorem loop_T {σ R : Type} (Lf : Nat → Nat → σ → Option R) (T : Option R → Prop) (N : Nat) (Inv : Nat → σ → Prop)
    (hs : ∀ fuel k s, k < N → Inv k s → T (Lf (fuel + 1) k s) ∨ ∃ s', Lf (fuel + 1) k s = Lf fuel (k + 1) s' ∧ Inv (k + 1) s')
    (he : ∀ fuel s, Inv N s → T (Lf (fuel + 1) N s)) : ∀ (m fuel k : Nat) (s : σ), k + m = N → m < fuel → Inv k s → T (Lf fuel k s) := by
  intro m
  induction m with
  | zero =>
    intro fuel k s hk hf hI
    obtain ⟨f, rfl⟩ : ∃ f, fuel = f + 1 := ⟨fuel - 1, by omega⟩
    have : k = N := by omega
    subst this
    exact he f s hI
  | succ m ih =>
    intro fuel k s hk hf hI
    obtain ⟨f, rfl⟩ : ∃ f, fuel = f + 1 := ⟨fuel - 1, by omega⟩
    rcases hs f k s (by omega) hI with h | ⟨s', h1, h2⟩
    · exact h
    · rw [h1]
      exact ih f (k + 1) s' (by omega) (by omega) h2
/-- a loop that runs to its end -/
theorem loop_I {σ R : Type} (Lf : Nat → Nat → σ → Option R) (K : σ → Option R) (N : Nat) (Inv : Nat → σ → Prop)
    (hs : ∀ fuel k s, k < N → Inv k s → ∃ s', Lf (fuel + 1) k s = Lf fuel (k + 1) s' ∧ Inv (k + 1) s')
    (he : ∀ fuel s, Inv N s → Lf (fuel + 1) N s = K s) : ∀ (m fuel k : Nat) (s : σ), k + m = N → m < fuel → Inv k s → ∃ s', Inv N s' ∧ Lf fuel k s = K s' := by
  intro m fuel k s hk hf hI
  exact loop_T Lf (fun o => ∃ s', Inv N s' ∧ o = K s') N Inv (fun f k s h1 h2 => Or.inr (hs f k s h1 h2)) (fun f s h => ⟨s, h, he f s h⟩) m fuel k s hk hf hI
def foldF {σ : Type} (g : Nat → σ → σ) : Nat → Nat → σ → σ
  | _, 0, s => s
  | k, m + 1, s => foldF g (k + 1) m (g k s)
theorem loop_F {σ R : Type} (Lf : Nat → Nat → σ → Option R) (K : σ → Option R) (N : Nat) (g : Nat → σ → σ) (Inv : Nat → σ → Prop)
    (hs : ∀ fuel k s, k < N → Inv k s → Lf (fuel + 1) k s = Lf fuel (k + 1) (g k s) ∧ Inv (k + 1) (g k s))
    (he : ∀ fuel s, Inv N s → Lf (fuel + 1) N s = K s) : ∀ (m fuel k : Nat) (s : σ), k + m = N → m < fuel → Inv k s → Lf fuel k s = K (foldF g k m s) := by
  intro m
  induction m with
  | zero =>
    intro fuel k s hk hf hI
    obtain ⟨f, rfl⟩ : ∃ f, fuel = f + 1 := ⟨fuel - 1, by omega⟩
    have : k = N := by omega
    subst this
    exact he f s hI
  | succ m ih =>
    intro fuel k s hk hf hI
    obtain ⟨f, rfl⟩ : ∃ f, fuel = f + 1 := ⟨fuel - 1, by omega⟩
    obtain ⟨h1, h2⟩ := hs f k s (by omega) hI
    rw [h1]
    exact ih f (k + 1) _ (by omega) (by omega) h2
theorem foldF_succ {σ : Type} (g : Nat → σ → σ) : ∀ (m k : Nat) (s : σ), foldF g k (m + 1) s = g (k + m) (foldF g k m s)
  | 0, k, s => rfl
  | m + 1, k, s => by
    show foldF g (k + 1) (m + 1) (g k s) = _
    rw [foldF_succ g m (k + 1) (g k s)]
    show g (k + 1 + m) (foldF g k (m + 1) s) = _
    rw [show k + 1 + m = k + (m + 1) by omega]
theorem foldF_congr {σ : Type} {g g' : Nat → σ → σ} : ∀ (m k : Nat) (s : σ), (∀ j s, k ≤ j → j < k + m → g j s = g' j s) → foldF g k m s = foldF g' k m s
  | 0, _, _, _ => rfl
  | m + 1, k, s, h => by
    show foldF g (k + 1) m (g k s) = foldF g' (k + 1) m (g' k s)
    rw [h k s (by omega) (by omega)]
    exact foldF_congr m (k + 1) _ (fun j s h1 h2 => h j s (by omega) (by omega))
theorem bigF_gt {n : Nat} (h : n < 2000000) : n < bigF := h
/-- a sum over places -/
def sumN (f : Nat → Nat) : Nat → Nat
  | 0 => 0
  | n + 1 => sumN f n + f n
theorem foldF_inv {σ : Type} (g : Nat → σ → σ) (Inv : Nat → σ → Prop) : ∀ (m k : Nat) (s : σ), Inv k s → (∀ j s, k ≤ j → j < k + m → Inv j s → Inv (j + 1) (g j s)) → Inv (k + m) (foldF g k m s)
  | 0, _, _, h, _ => h
  | m + 1, k, s, h, hs => by
    have := foldF_inv g Inv m (k + 1) (g k s) (hs k s (by omega) (by omega) h) (fun j s h1 h2 => hs j s (by omega) (by omega))
    rw [show k + (m + 1) = k + 1 + m by omega]
    exact this
theorem bind_s {α β : Type} (x : α) (f : α → Option β) : (some x).bind f = f x := rfl
/-- whether one thing or another one comes, it goes on alike -/
theorem ite_bind {c : Prop} [Decidable c] {α β : Type} (a b : α) (f : α → Option β) : (if c then some a else some b).bind f = f (if c then a else b) := by split <;> rfl
theorem i_0 : (0 : Int32) = nI 0 := rfl
theorem i_1 : (1 : Int32) = nI 1 := rfl
theorem i_2 : (2 : Int32) = nI 2 := rfl
theorem i_3 : (3 : Int32) = nI 3 := rfl
theorem i_4 : (4 : Int32) = nI 4 := rfl
theorem i_5 : (5 : Int32) = nI 5 := rfl
theorem i_6 : (6 : Int32) = nI 6 := rfl
theorem i_7 : (7 : Int32) = nI 7 := rfl
theorem i_8 : (8 : Int32) = nI 8 := rfl
theorem i_9 : (9 : Int32) = nI 9 := rfl
theorem i_10 : (10 : Int32) = nI 10 := rfl
theorem i_12 : (12 : Int32) = nI 12 := rfl
theorem i_15 : (15 : Int32) = nI 15 := rfl
theorem i_16 : (16 : Int32) = nI 16 := rfl
theorem i_20 : (20 : Int32) = nI 20 := rfl
theorem i_24 : (24 : Int32) = nI 24 := rfl
theorem i_30 : (30 : Int32) = nI 30 := rfl
theorem i_31 : (31 : Int32) = nI 31 := rfl
theorem i_32 : (32 : Int32) = nI 32 := rfl
theorem i_36 : (36 : Int32) = nI 36 := rfl
theorem i_39 : (39 : Int32) = nI 39 := rfl
theorem i_40 : (40 : Int32) = nI 40 := rfl
theorem i_41 : (41 : Int32) = nI 41 := rfl
theorem i_47 : (47 : Int32) = nI 47 := rfl
theorem i_48 : (48 : Int32) = nI 48 := rfl
theorem i_57 : (57 : Int32) = nI 57 := rfl
theorem i_58 : (58 : Int32) = nI 58 := rfl
theorem i_60 : (60 : Int32) = nI 60 := rfl
theorem i_63 : (63 : Int32) = nI 63 := rfl
theorem i_64 : (64 : Int32) = nI 64 := rfl
theorem i_98 : (98 : Int32) = nI 98 := rfl
theorem i_99 : (99 : Int32) = nI 99 := rfl
theorem i_100 : (100 : Int32) = nI 100 := rfl
theorem i_103 : (103 : Int32) = nI 103 := rfl
theorem i_108 : (108 : Int32) = nI 108 := rfl
theorem i_110 : (110 : Int32) = nI 110 := rfl
theorem i_111 : (111 : Int32) = nI 111 := rfl
theorem i_116 : (116 : Int32) = nI 116 := rfl
theorem i_120 : (120 : Int32) = nI 120 := rfl
theorem i_128 : (128 : Int32) = nI 128 := rfl
theorem i_165 : (165 : Int32) = nI 165 := rfl
theorem i_200 : (200 : Int32) = nI 200 := rfl
theorem i_256 : (256 : Int32) = nI 256 := rfl
theorem i_1000 : (1000 : Int32) = nI 1000 := rfl
theorem i_1024 : (1024 : Int32) = nI 1024 := rfl
theorem i_9999 : (9999 : Int32) = nI 9999 := rfl

theorem if10 {α : Type} (a b : α) : (if (1 : Int32) = 0 then a else b) = b := if_neg (by decide)
theorem if00 {α : Type} (a b : α) : (if (0 : Int32) = 0 then a else b) = a := if_pos rfl
theorem ifm3 {α : Type} (a b : α) : (if (-3 : Int32) = 0 then a else b) = b := if_neg (by decide)
theorem ifm1 {α : Type} (a b : α) : (if (-1 : Int32) = 0 then a else b) = b := if_neg (by decide)
