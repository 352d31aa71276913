/-! MY ROWS: a method over a world, begun; ends; static tables -/
theorem ono {α : Type} {r : α} {C : Prop} (h : (none : Option α) = some r) : C := by cases h
theorem tsw_out {x : Int32} (lo hi : Int) (h : ∀ k : Int, lo ≤ k → k ≤ hi → ¬ x = Int32.ofInt k) : x.toInt < lo ∨ hi < x.toInt := by
  rcases Int.lt_or_le x.toInt lo with q | q
  · exact Or.inl q
  · rcases Int.lt_or_le hi x.toInt with w | w
    · exact Or.inr w
    · exact absurd (Int32.ofInt_toInt x).symm (h _ q w)
theorem g_met {l : Launch} {y : MethodName} {ws ws' : List Cond} {rm : Room} {Qc : Array Value → State → Outcome → State → Prop} {D : va_G} {cl : List vw_C} {K : Nat} {ad : Nat → Nat} {e0 : xEnt} {tys : List (ClassId × FieldType)} {Z : State → Heap → Prop} {I : xMem} {L : xLon} {own : String} {cc : ByteArray} {maxL : Nat} {ret : Option FieldType} {vs : List Value} (hy : plainName y.cls = true) (hw : ws = Cond.code y cc maxL ret :: ws') (hnl : (lg_sl vs).length ≤ maxL) (hown : y.cls = own)
    (body : ∀ (p : Program) (e : Env) (s : State) (m : MethodId) (args : Array Value) (below : List Frame) (meth : Method) (c : Code) (ls : Array Slot), p.tables.exec = Jvm.exec → c.code = cc → c.maxLocals = maxL → meth.sig.returnType = ret → meth.locks = false → s.vm.findClass own = some m.cls → (∀ w ∈ ws, w.before args s = true) → gG D cl K ad e0 I L s.heap → va_K D cl tys s → Z s s.heap → lv_has ls maxL (lv_args 0 vs) → W p l e rm s m args below meth c s.heap [] 0 0 (MQ below Qc args s 0 0 (gA K ad)) (F0 m 0 ls [])) :
    Met l y ws rm (va_Pc vs (gW D cl K ad e0 tys Z I L)) Qc 0 0 (gA K ad) := by
  refine Met.ofW (cc := cc) (maxL := maxL) (ret := ret) hy hw ?_
  intro p e s m args below meth c s₁ B hml hv
  obtain ⟨rfl, hG, hK, hZ⟩ := hv
  have hl := lv_entry vs (n := maxL) hnl
  rw [lg_entry_eq]
  exact body p e s m vs.toArray below meth c _ B.exec B.bytes hml B.returns B.notSynchronized (by rw [← hown]; exact findClass_of_methodNamed B.named) (atoms_spec (ws := ws) B.pre) hG hK hZ hl
section GT
variable {p : Program} {l : Launch} {e : Env} {R : Room} {s : State} {m : MethodId} {args : Array Value} {below : List Frame} {meth : Method} {c : Code} {H : Heap} {locs : List Loc} {cells slots : Nat} {Q : State → Prop}
variable {cc : ByteArray} {pc : Nat} {ls : Array Slot} {rest : List Value} {A : Nat → Prop}
theorem g_tld (hexec : p.tables.exec = Jvm.exec) (hb : c.code = cc) {t N : Nat} {g : Nat → Int32} (hT : va_T .int t N (fun j => .int (g j)) A s s.heap) (hS : va_S A s.heap H locs) {i : Int32} {α : Type} {f : Int32 → Option α} {r : α} (h : (rdT g N i).bind f = some r) (hdg : decode cc pc = .ok (.iaload, 1))
    (kk : ∀ v : Int32, f v = some r → W p l e R s m args below meth c H locs cells slots Q (F0 m (pc + 1) ls (.int v :: rest))) : W p l e R s m args below meth c H locs cells slots Q (F0 m pc ls (.int i :: .ref t :: rest)) := by
  obtain ⟨v, h1, h2⟩ := obind h
  unfold rdT at h1
  split at h1
  · rename_i hx
    refine va_ti hexec hb hT hS (vp_in_iff.mpr hx) (v := .int v) (by rw [Option.some.inj h1]) hdg ?_
    exact kk v h2
  · cases h1
theorem g_sld (hexec : p.tables.exec = Jvm.exec) (hb : c.code = cc) {b N : Nat} {xs : Nat → Int32} (hX : va_X b N xs s s.heap) (hbA : ¬ A b) (hS : va_S A s.heap H locs) {i : Int32} {α : Type} {f : Int32 → Option α} {r : α} (h : (rdT xs N i).bind f = some r) (hdg : decode cc pc = .ok (.iaload, 1))
    (kk : ∀ v : Int32, f v = some r → W p l e R s m args below meth c H locs cells slots Q (F0 m (pc + 1) ls (.int v :: rest))) : W p l e R s m args below meth c H locs cells slots Q (F0 m pc ls (.int i :: .ref b :: rest)) := by
  obtain ⟨v, h1, h2⟩ := obind h
  unfold rdT at h1
  split at h1
  · rename_i hx
    have hbl : b < s.heap.size := by
      obtain ⟨scr, a, -⟩ := hX
      exact (Array.getElem?_eq_some_iff.mp a).1
    refine va_sld hexec hb hX hbl hbA hS (vp_in_iff.mpr hx) hdg ?_
    rw [Option.some.inj h1]
    exact kk v h2
  · cases h1
theorem g_slen (hexec : p.tables.exec = Jvm.exec) (hb : c.code = cc) {b N : Nat} {xs : Nat → Int32} (hX : va_X b N xs s s.heap) (hbA : ¬ A b) (hS : va_S A s.heap H locs) (hdg : decode cc pc = .ok (.arraylength, 1))
    (kk : W p l e R s m args below meth c H locs cells slots Q (F0 m (pc + 1) ls (.int (Int32.ofNat N) :: rest))) : W p l e R s m args below meth c H locs cells slots Q (F0 m pc ls (.ref b :: rest)) := by
  have hbl : b < s.heap.size := by
    obtain ⟨scr, a, -⟩ := hX
    exact (Array.getElem?_eq_some_iff.mp a).1
  exact va_slen hexec hb hX hbl hbA hS hdg kk
end GT
section GC
abbrev cG (D : va_G) (cy : Nat → ClassId) (ad : Nat → Nat) (P Dr : Nat) (I : xMem) (L : xLon) (H : Heap) : Prop := gG D vwCl 64 ad (cE cy ad P Dr) I L H
abbrev cW (D : va_G) (cy : Nat → ClassId) (ad : Nat → Nat) (P Dr : Nat) (tI : xTab) (I : xMem) (L : xLon) : State → Prop := gW D vwCl 64 ad (cE cy ad P Dr) (cTys cy) (cZ ad tI) I L
abbrev cPi (D : va_G) (cy : Nat → ClassId) (ad : Nat → Nat) (P Dr : Nat) (tI : xTab) (I : xMem) (L : xLon) (v : Int32) : Array Value → State → Outcome → State → Prop := g_Pi D vwCl 64 ad (cE cy ad P Dr) (cTys cy) (cZ ad tI) I L v
abbrev cPl (D : va_G) (cy : Nat → ClassId) (ad : Nat → Nat) (P Dr : Nat) (tI : xTab) (I : xMem) (L : xLon) (v : Int64) : Array Value → State → Outcome → State → Prop := g_Pl D vwCl 64 ad (cE cy ad P Dr) (cTys cy) (cZ ad tI) I L v
abbrev cPv (D : va_G) (cy : Nat → ClassId) (ad : Nat → Nat) (P Dr : Nat) (tI : xTab) (I : xMem) (L : xLon) : Array Value → State → Outcome → State → Prop := g_Pv D vwCl 64 ad (cE cy ad P Dr) (cTys cy) (cZ ad tI) I L
theorem vwCl_0 : vwCl[0]? = some (RX0, TX0, 5) := rfl
theorem vwCl_1 : vwCl[1]? = some (RX1, TX1, 9) := rfl
theorem vwCl_2 : vwCl[2]? = some (RX2, TX2, 5) := rfl
theorem vwCl_3 : vwCl[3]? = some (RX3, TX3, 8) := rfl
theorem vwCl_4 : vwCl[4]? = some (RX4, TX4, 13) := rfl
end GC
