/-! THE LAW: rows -/
section LAWR
variable {p : Program} {l : Launch} {e : Env} {s : State} {m : MethodId} {args : Array Value} {below : List Frame} {meth : Method} {c : Code} {H : Heap} {locs : List Loc} {cells slots : Nat} {Q : State → Prop}
variable {pc : Nat} {ls : Array Slot} {rest st0 : List Value} {D : va_G} {R : Room}
theorem nI_pl {n k N : Nat} (h : n + k < N) (hN : N < 2 ^ 30) : vp_in (nI n + nI k) N := by
  rw [nI_sum]
  exact vp_in_iff.mpr ((ix_nI (by omega)).mpr h)
/-- one int of the script, by the law's place -/
theorem law_arg (hx : p.tables.exec = Jvm.exec) (hb : c.code = cL_law) {b N n k : Nat} {xs : Nat → Int32} (hX : va_X b N xs s s.heap) (hbl : b < s.heap.size) (hS : va_S (fun q : Nat => s.heap.size ≤ q) s.heap H locs) {vs : List (Nat × Value)} (hl : lv_has ls 4 vs) {j0 j3 : Nat} (h0 : vs[j0]? = some (0, .ref b)) (h3 : vs[j3]? = some (3, .int (nI n))) (hn : n + k < N) (hN : N < 2 ^ 30)
    (d0 : decode cL_law pc = .ok (.aload_n 0, 1)) (d1 : decode cL_law (pc + 1) = .ok (.iload_n 3, 1)) (d2 : decode cL_law (pc + 2) = .ok (.iconst (Int.ofNat k), 1)) (d3 : decode cL_law (pc + 3) = .ok (.iadd, 1)) (d4 : decode cL_law (pc + 4) = .ok (.iaload, 1))
    (kk : W p l e R s m args below meth c H locs cells slots Q (F0 m (pc + 5) ls (.int (xs (n + k)) :: rest))) : W p l e R s m args below meth c H locs cells slots Q (F0 m pc ls rest) := by
  refine lv_aload_n hx hb d0 rfl (lv_at hl j0 h0) ?_
  refine lv_iload_n hx hb d1 rfl (lv_at hl j3 h3) ?_
  refine lv_iconst (v := nI k) hx hb d2 rfl ?_
  refine lv_iadd hx hb d3 ?_
  have hin := nI_pl hn hN
  refine va_sld hx hb hX hbl (Nat.not_le.mpr hbl) hS hin d4 ?_
  rw [nI_sum, nI_clamp (by omega)]
  exact kk
theorem kept_by {K : Nat} {ad : Nat → Nat} {e0 : xEnt} {I : xMem} {L : xLon} {H1 : Heap} (hG : gG D vwCl K ad e0 I L H) {K' : Nat} {ad' : Nat → Nat} (hd : ∀ k, k < K → ∀ j, j < K' → ad k ≠ ad' j) (hk : ∀ q : Nat, q < H.size → ¬ gA K' ad' q → H1[q]? = H[q]?) : gG D vwCl K ad e0 I L H1 := by
  refine va_P.kept hG (fun k x hx => hk x.1 ((hG k x hx).lt) ?_)
  obtain ⟨h1, rfl⟩ := gwl_lt hx
  rintro ⟨j, h2, h3⟩
  exact hd k h1 j h2 h3.symm
theorem law_S0 {A : Nat → Prop} (hS : va_S (fun q : Nat => s.heap.size ≤ q) s.heap H locs) : va_S A s.heap H [] := ⟨hS.1, fun q h1 _ => hS.2.1 q h1 (Nat.not_le.mpr h1), fun _ h => absurd h List.not_mem_nil⟩
/-- a call of the one; the other one stays -/
theorem law_i {K : Nat} {ad : Nat → Nat} {e0 : xEnt} {tys : List (ClassId × FieldType)} {Z : State → Heap → Prop} {I' : xMem} {L' : xLon} {v : Int32} {a : Array Value} {K2 : Nat} {ad2 : Nat → Nat} {e2 : xEnt} {J : xMem} {M : xLon} (hr : va_Run p l e R s m args below meth c H locs cells slots 0 0 (F0 m pc ls st0) rest (g_Pi D vwCl K ad e0 tys Z I' L' v a) (gA K ad)) (hS : va_S (fun q : Nat => s.heap.size ≤ q) s.heap H locs) (hA : ∀ k, k < K → s.heap.size ≤ ad k) (hG2 : gG D vwCl K2 ad2 e2 J M H) (hd : ∀ k, k < K2 → ∀ j, j < K → ad2 k ≠ ad j)
    (kk : ∀ (H1 : Heap) (locs1 : List Loc), gG D vwCl K ad e0 I' L' H1 → gG D vwCl K2 ad2 e2 J M H1 → va_S (fun q : Nat => s.heap.size ≤ q) s.heap H1 locs1 → W p l e R s m args below meth c H1 locs1 cells slots Q (F0 m (pc + 3) ls (.int v :: rest))) : W p l e R s m args below meth c H locs cells slots Q (F0 m pc ls st0) := by
  have hAA : ∀ q : Nat, gA K ad q → s.heap.size ≤ q := fun q ⟨k, h1, h2⟩ => by rw [← h2]; exact hA k h1
  refine va_calli hr hS (fun q _ h => hAA q h) (fun q h => hAA q h) (fun r u t H1 locs1 ht hvm hp hB hz hk hS1 => ?_)
  subst hp
  exact kk H1 locs1 (by rw [← ht]; exact hB.1) (kept_by hG2 hd hk) hS1
theorem law_l {K : Nat} {ad : Nat → Nat} {e0 : xEnt} {tys : List (ClassId × FieldType)} {Z : State → Heap → Prop} {I' : xMem} {L' : xLon} {v : Int64} {a : Array Value} {K2 : Nat} {ad2 : Nat → Nat} {e2 : xEnt} {J : xMem} {M : xLon} (hr : va_Run p l e R s m args below meth c H locs cells slots 0 0 (F0 m pc ls st0) rest (g_Pl D vwCl K ad e0 tys Z I' L' v a) (gA K ad)) (hS : va_S (fun q : Nat => s.heap.size ≤ q) s.heap H locs) (hA : ∀ k, k < K → s.heap.size ≤ ad k) (hG2 : gG D vwCl K2 ad2 e2 J M H) (hd : ∀ k, k < K2 → ∀ j, j < K → ad2 k ≠ ad j)
    (kk : ∀ (H1 : Heap) (locs1 : List Loc), gG D vwCl K ad e0 I' L' H1 → gG D vwCl K2 ad2 e2 J M H1 → va_S (fun q : Nat => s.heap.size ≤ q) s.heap H1 locs1 → W p l e R s m args below meth c H1 locs1 cells slots Q (F0 m (pc + 3) ls (.long v :: rest))) : W p l e R s m args below meth c H locs cells slots Q (F0 m pc ls st0) := by
  have hAA : ∀ q : Nat, gA K ad q → s.heap.size ≤ q := fun q ⟨k, h1, h2⟩ => by rw [← h2]; exact hA k h1
  refine va_calll hr hS (fun q _ h => hAA q h) (fun q h => hAA q h) (fun r u t H1 locs1 ht hvm hp hB hz hk hS1 => ?_)
  subst hp
  exact kk H1 locs1 (by rw [← ht]; exact hB.1) (kept_by hG2 hd hk) hS1
/-- what holds all through the law -/
def LW (p : Program) (s : State) (m : MethodId) (args : Array Value) (meth : Method) (c : Code) (D : va_G) (cy : Nat → ClassId) (ad : Nat → Nat) (cz : Nat → ClassId) (am : Nat → Nat) (tI b N : Nat) (xs : Nat → Int32) : Prop :=
  (p.tables.exec = Jvm.exec ∧ c.code = cL_law ∧ c.maxLocals = 4 ∧ s.vm.findClass RL = some m.cls ∧ (∀ w ∈ lw_tbl, w.before args s = true)) ∧ (va_X b N xs s s.heap ∧ b < s.heap.size ∧ N ≤ 3072) ∧ (va_K D vwCl (cTys cy) s ∧ va_K D vwCl (mTys cz) s ∧ cZ ad tI s s.heap) ∧ (gInj 62 ad ∧ gInj 18 am ∧ (∀ k, k < 62 → s.heap.size ≤ ad k) ∧ (∀ k, k < 18 → s.heap.size ≤ am k) ∧ ∀ k, k < 62 → ∀ j, j < 18 → ad k ≠ am j)
/-- both at a moment -/
def LA (D : va_G) (cy : Nat → ClassId) (ad : Nat → Nat) (cz : Nat → ClassId) (am : Nat → Nat) (s : State) (P Dr : Nat) (I : xMem) (L : xLon) (J : xMem) (M : xLon) (H : Heap) (locs : List Loc) : Prop := Sim I L P Dr J M ∧ cG D cy ad P Dr I L H ∧ mG D cz am J M H ∧ va_S (fun q : Nat => s.heap.size ≤ q) s.heap H locs
theorem LA.ok {cy cz : Nat → ClassId} {ad am : Nat → Nat} {P Dr : Nat} {I J : xMem} {L M : xLon} (h : LA D cy ad cz am s P Dr I L J M H locs) (hi : gInj 62 ad) : cOk ad P Dr := by
  have hp := h.1.1
  unfold isPD at hp
  rcases hp with ⟨rfl, rfl⟩ | ⟨rfl, rfl⟩
  · exact ⟨hi, cPlan_52, cPlan_57⟩
  · exact ⟨hi, cPlan_57, cPlan_52⟩
end LAWR
