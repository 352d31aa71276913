/-! SINK, BEST, LOAVES, WAITS, ONE, MARK -/
theorem sumN_0 : ∀ n, sumN (fun _ => 0) n = 0
  | 0 => rfl
  | n + 1 => by
    show sumN (fun _ => 0) n + 0 = 0
    rw [sumN_0 n]
theorem sumN_congr {f g : Nat → Nat} : ∀ n, (∀ i, i < n → f i = g i) → sumN f n = sumN g n
  | 0, _ => rfl
  | n + 1, h => by
    show sumN f n + f n = sumN g n + g n
    rw [sumN_congr n (fun i hi => h i (by omega)), h n (by omega)]
theorem setW_0 (v : TV) : setW v 0 = 0 := by
  unfold setW
  rw [sumN_congr (g := fun _ => 0) (ts v) (fun i _ => by simp)]
  exact sumN_0 _
/-- the sum without one place -/
theorem sumN_but {f : Nat → Nat} {i : Nat} : ∀ n, sumN (fun j => if j = i then 0 else f j) n + (if i < n then f i else 0) = sumN f n
  | 0 => by simp [sumN]
  | n + 1 => by
    have h := sumN_but (f := f) (i := i) n
    show sumN (fun j => if j = i then 0 else f j) n + (if n = i then 0 else f n) + _ = sumN f n + f n
    by_cases e : n = i
    · subst e
      rw [if_pos rfl, if_pos (by omega)]
      rw [if_neg (by omega)] at h
      omega
    · rw [if_neg e]
      by_cases q : i < n
      · rw [if_pos (by omega)]
        rw [if_pos q] at h
        omega
      · rw [if_neg (by omega)]
        rw [if_neg q] at h
        omega
theorem foldF_sumk (f : Nat → Nat) : ∀ m k s, foldF (fun j s => s + f j) k m s = s + sumN (fun t => f (k + t)) m
  | 0, k, s => rfl
  | m + 1, k, s => by
    rw [foldF_succ, foldF_sumk f m k s]
    show s + sumN (fun t => f (k + t)) m + f (k + m) = s + (sumN (fun t => f (k + t)) m + f (k + m))
    omega
/-- kinds that one of a kind is, too -/
def isA (k q : Nat) : Bool := k == q || (q == 2 && k == 5) || (q == 3 && k == 4)
theorem isT_bit : ∀ k, k < 6 → ∀ q, q < 5 → ((isT k >>> (nI (q + 1) &&& 31)) &&& 1) = if isA k (q + 1) then 1 else 0 := by decide
theorem lst_le {v : TV} (hv : vOk v) {ca cb : Nat} (ha : ca ≤ 200) (hb : cb ≤ 200) (t : Prop) [Decidable t] (f m : Nat) : lst v ca cb t f / 256 ≤ m ↔ ∃ c, c < 256 ∧ okS f c ∧ sunkN (ca + setW v (c / 16)) (cb + setW v (c % 16)) t ≤ m := by
  rcases lst_is hv ha hb t f with ⟨-, h2⟩ | ⟨c, h1, h2, h3, h4⟩
  · exact absurd (okS_0 f) (h2 0 (by omega))
  · constructor
    · intro h
      refine ⟨c, h1, h2, ?_⟩
      rw [h3] at h
      unfold valS at h
      omega
    · rintro ⟨d, d1, d2, d3⟩
      have := h4 d d1 d2
      have hd : valS v ca cb t d = 256 * sunkN (ca + setW v (d / 16)) (cb + setW v (d % 16)) t + d := rfl
      omega
section OPQ
variable {I J : xMem} {L M : xLon} {P Dr : Nat}
theorem VC.stepsE {I : xMem} {P : Nat} {v : TV} (hv : vOk v) (h : VC I P v) {i j e : Nat} (hi : i < tn v) (hj : j < tn v) (he : e ≤ 9) : X1_steps P I (nI i) (nI j) (nI 0) (nI 0) (nI e) = some (nI (sunkN (cntOf (tk v i) (tw v i) e) (cntOf (tk v j) (tw v j) e) (twins v i j))) := by
  have h2 := hv.1
  have c1 := cntOf_le (k := tk v i) (hv.2.2.2.2.1 i) he
  have c2 := cntOf_le (k := tk v j) (hv.2.2.2.2.1 j) he
  have h0 : 0 < 2 ^ ts v := Nat.pos_of_ne_zero (by simp)
  unfold X1_steps
  rw [rdI_nI (by omega) (by omega), bind_s, rdI_nI (by omega) (by omega), bind_s, rdI_nI (by omega) (by omega), bind_s, rdI_nI (by omega) (by omega), bind_s, rdI_nI (by omega) (by omega), bind_s, bind_s, h.tws hv hi hj, bind_s]
  rw [(h.2.1 i hi).1, (h.2.1 i hi).2, (h.2.1 j hj).1, (h.2.1 j hj).2, h.2.2.2.1 0 h0, setW_0, cnt_nI (hv.2.2.2.1 i) (hv.2.2.2.2.1 i) he, cnt_nI (hv.2.2.2.1 j) (hv.2.2.2.2.1 j) he, nI_sum, nI_sum, Nat.add_zero, Nat.add_zero]
  rw [sunk_nI (by omega) (by omega)]
end OPQ
