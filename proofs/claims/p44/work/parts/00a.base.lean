/-! MY ROWS OVER A FIXED WORLD: K cells at addresses ad 0 .. ad (K-1), each as e0 says of a memory I (ints by cell and place) and L (longs by place) -/
abbrev xMem : Type := Nat → Nat → Int32
abbrev xLon : Type := Nat → Int64
abbrev xEnt : Type := Nat → (Nat → Int32) → xLon → va_E
def wr (I : xMem) (k j : Nat) (v : Int32) : xMem := fun a => if a = k then upd (I a) j v else I a
def wrL (L : xLon) (j : Nat) (v : Int64) : xLon := fun b => if b = j then v else L b
abbrev ix (i : Int32) (n : Nat) : Prop := 0 ≤ i.toInt ∧ i.toInt < (n : Int)
def rdI (I : xMem) (k n : Nat) (i : Int32) : Option Int32 := if ix i n then some (I k i.toNatClampNeg) else none
def wrI (I : xMem) (k n : Nat) (i v : Int32) : Option xMem := if ix i n then some (wr I k i.toNatClampNeg v) else none
def rdX (n : Nat) (i : Int32) : Option Nat := if ix i n then some i.toNatClampNeg else none
def nz (x : Int32) : Int32 := vp_nar .boolean x
def fillI (I : xMem) (k : Nat) (v : Int32) : xMem := fun a => if a = k then (fun _ => v) else I a
def cpM (I : xMem) (k1 sp k2 dp n : Nat) : xMem := fun a => if a = k2 then va_cpy (I k1) (I k2) sp dp n else I a
def cpI (I : xMem) (k1 n1 : Nat) (sp : Int32) (k2 n2 : Nat) (dp n : Int32) : Option xMem := if (0 ≤ sp.toInt ∧ 0 ≤ dp.toInt ∧ 0 ≤ n.toInt) ∧ (sp.toNatClampNeg + n.toNatClampNeg ≤ n1 ∧ dp.toNatClampNeg + n.toNatClampNeg ≤ n2) then some (cpM I k1 sp.toNatClampNeg k2 dp.toNatClampNeg n.toNatClampNeg) else none
def dvI (x y : Int32) : Option Int32 := if y = 0 then none else some (x / y)
def rmI (x y : Int32) : Option Int32 := if y = 0 then none else some (x - x / y * y)
def dvL (x y : Int64) : Option Int64 := if y = 0 then none else some (x / y)
def rmL (x y : Int64) : Option Int64 := if y = 0 then none else some (x - x / y * y)
/-- more steps than any loop here takes -/
def bigF : Nat := 2000000
theorem obind {α β : Type} {x : Option α} {f : α → Option β} {r : β} (h : x.bind f = some r) : ∃ v, x = some v ∧ f v = some r := by
  cases x with
  | none => cases h
  | some v => exact ⟨v, rfl, h⟩
theorem ite_t {c : Prop} [Decidable c] {α : Type} {a b : α} {r : α} (h : (if c then a else b) = r) (hc : c) : a = r := by rwa [if_pos hc] at h
theorem ite_f {c : Prop} [Decidable c] {α : Type} {a b : α} {r : α} (h : (if c then a else b) = r) (hc : ¬ c) : b = r := by rwa [if_neg hc] at h
theorem wr_self (I : xMem) (k j : Nat) (v : Int32) : wr I k j v k = upd (I k) j v := by simp [wr]
theorem wr_ne (I : xMem) {k a : Nat} (j : Nat) (v : Int32) (h : a ≠ k) : wr I k j v a = I a := by simp [wr, h]
def gwl (K : Nat) (ad : Nat → Nat) (E : Nat → va_E) : va_W := (List.range K).map (fun k => (ad k, E k))
theorem gwl_at {K : Nat} {ad : Nat → Nat} {E : Nat → va_E} {k : Nat} (h : k < K) : (gwl K ad E)[k]? = some (ad k, E k) := by simp [gwl, h]
theorem gwl_lt {K : Nat} {ad : Nat → Nat} {E : Nat → va_E} {k : Nat} {q : Nat × va_E} (h : (gwl K ad E)[k]? = some q) : k < K ∧ q = (ad k, E k) := by
  have h1 : k < K := by
    have := (List.getElem?_eq_some_iff.mp h).1
    simpa [gwl] using this
  rw [gwl_at h1] at h
  exact ⟨h1, (Option.some.inj h).symm⟩
def gA (K : Nat) (ad : Nat → Nat) : Nat → Prop := fun q => ∃ k, k < K ∧ ad k = q
def gInj (K : Nat) (ad : Nat → Nat) : Prop := ∀ i j, i < K → j < K → ad i = ad j → i = j
theorem gwl_D {K : Nat} {ad : Nat → Nat} {E : Nat → va_E} (h : gInj K ad) : va_D (gA K ad) (gwl K ad E) := by
  refine ⟨fun i j p q hi hj hpq => ?_, fun k q hk => ?_⟩
  · obtain ⟨h1, rfl⟩ := gwl_lt hi
    obtain ⟨h2, rfl⟩ := gwl_lt hj
    exact h i j h1 h2 hpq
  · obtain ⟨h1, rfl⟩ := gwl_lt hk
    exact ⟨k, h1, rfl⟩
theorem gwl_set {K : Nat} {ad : Nat → Nat} {E E' : Nat → va_E} {k : Nat} {x : va_E} (hx : E' k = x) (ho : ∀ j, j ≠ k → E' j = E j) : (gwl K ad E).set k (ad k, x) = gwl K ad E' := by
  apply List.ext_getElem?
  intro j
  by_cases hj : j < K
  · rw [gwl_at hj]
    by_cases e : k = j
    · subst e
      rw [List.getElem?_set_self (by simpa [gwl] using hj), hx]
    · rw [List.getElem?_set_ne e, gwl_at hj, ho j (Ne.symm e)]
  · rw [List.getElem?_eq_none (by simp [gwl]; omega), List.getElem?_eq_none (by simp [gwl]; omega)]
def gG (D : va_G) (cl : List vw_C) (K : Nat) (ad : Nat → Nat) (e0 : xEnt) (I : xMem) (L : xLon) (H : Heap) : Prop := va_P D cl (gwl K ad (fun a => e0 a (I a) L)) H
abbrev gW (D : va_G) (cl : List vw_C) (K : Nat) (ad : Nat → Nat) (e0 : xEnt) (tys : List (ClassId × FieldType)) (Z : State → Heap → Prop) (I : xMem) (L : xLon) (U : State) : Prop := gG D cl K ad e0 I L U.heap ∧ va_K D cl tys U ∧ Z U U.heap
def gZm (K : Nat) (ad : Nat → Nat) (Z : State → Heap → Prop) : Prop := ∀ (u U : State) (H H1 : Heap), u.WarmedH U.vm → (∀ q : Nat, q < H.size → ¬ gA K ad q → H1[q]? = H[q]?) → Z u H → Z U H1
section GB
variable {p : Program} {l : Launch} {e : Env} {R : Room} {s : State} {m : MethodId} {args : Array Value} {below : List Frame} {meth : Method} {c : Code} {H : Heap} {locs : List Loc} {cells slots : Nat} {Q : State → Prop}
variable {cc : ByteArray} {pc : Nat} {ls : Array Slot} {rest : List Value} {D : va_G} {cl : List vw_C} {K : Nat} {ad : Nat → Nat} {e0 : xEnt} {I : xMem} {L : xLon} {tys : List (ClassId × FieldType)} {Z : State → Heap → Prop} {A : Nat → Prop} {H0 : Heap}
theorem g_get (hexec : p.tables.exec = Jvm.exec) (hb : c.code = cc) {own ref C : String} {T : u_T} {N ci index : Nat} (hls : ∀ w ∈ u_ws C T N, w.before args s = true) (hown : s.vm.findClass own = some m.cls) (hK : va_K D cl tys s) (hG : gG D cl K ad e0 I L H) {k : Nat} {fs : List Value} (hk : k < K) (he : e0 k (I k) L = .inr (ci, fs)) (hc : cl[ci]? = some (C, T, N)) (j : Nat) (hj : j < N) (hlink : (Cond.fieldLink own index ref (T j).2.1 (T j).2.2.1).before args s = true) (hsame : ∀ x, s.fieldFound? (T j).1 (T j).2.1 (T j).2.2.1 = some x → s.fieldFound? ref (T j).2.1 (T j).2.2.1 = some x) {v : Value} (hv : fs[j]? = some v) (hdg : decode cc pc = .ok (.getfield index, 3))
    (kk : W p l e R s m args below meth c H locs cells slots Q (F0 m (pc + 3) ls (v :: rest))) : W p l e R s m args below meth c H locs cells slots Q (F0 m pc ls (.ref (ad k) :: rest)) :=
  va_get hexec hb hls (fun _ h => h) hown hK hG k (by rw [gwl_at hk, he]) hc j hj hlink hsame hv hdg kk
theorem g_put (hexec : p.tables.exec = Jvm.exec) (hb : c.code = cc) {own ref C : String} {T : u_T} {N ci index : Nat} (hls : ∀ w ∈ u_ws C T N, w.before args s = true) {ty0 : Nat → FieldType} (hty : ∀ k, k < N → parseFieldDescriptor (T k).2.2.1 = some (ty0 k)) (hnm : ∀ a, a < N → ∀ b, b < N → a ≠ b → (T a).2.1 ≠ (T b).2.1) (hown : s.vm.findClass own = some m.cls) (hK : va_K D cl tys s) (hG : gG D cl K ad e0 I L H) (hi : gInj K ad) (hS : va_S (gA K ad) s.heap H locs) {k : Nat} {fs : List Value} (hk : k < K) (he : e0 k (I k) L = .inr (ci, fs)) (hc : cl[ci]? = some (C, T, N)) (j : Nat) (hj : j < N) (hlink : (Cond.fieldLink own index ref (T j).2.1 (T j).2.2.1).before args s = true) (hsame : ∀ x, s.fieldFound? (T j).1 (T j).2.1 (T j).2.2.1 = some x → s.fieldFound? ref (T j).2.1 (T j).2.2.1 = some x) (hfin : (T j).2.2.2 = false) {v : Int32} (hd : ty0 j = .int) (hl : j < fs.length)
    (hset : e0 k (upd (I k) j v) L = .inr (ci, fs.set j (.int v))) (hdg : decode cc pc = .ok (.putfield index, 3))
    (kk : ∀ (H1 : Heap) (locs1 : List Loc), gG D cl K ad e0 (wr I k j v) L H1 → va_S (gA K ad) s.heap H1 locs1 → W p l e R s m args below meth c H1 locs1 cells slots Q (F0 m (pc + 3) ls rest)) : W p l e R s m args below meth c H locs cells slots Q (F0 m pc ls (.int v :: .ref (ad k) :: rest)) := by
  refine va_put hexec hb hls (fun _ h => h) ty0 hty hnm hown hK hG (gwl_D hi) hS k (by rw [gwl_at hk, he]) hc j hj hlink hsame hfin (ty := .int) (by rw [hty j hj, hd]) rfl rfl hl hdg (fun H1 locs1 hP hD hS1 => kk H1 locs1 ?_ hS1)
  have hw : (gwl K ad (fun a => e0 a (I a) L)).set k (ad k, .inr (ci, fs.set j (.int v))) = gwl K ad (fun a => e0 a (wr I k j v a) L) := gwl_set (by rw [wr_self]; exact hset) (fun a ha => by rw [wr_ne I j v ha])
  rw [hw] at hP
  exact hP
theorem g_putL (hexec : p.tables.exec = Jvm.exec) (hb : c.code = cc) {own ref C : String} {T : u_T} {N ci index : Nat} (hls : ∀ w ∈ u_ws C T N, w.before args s = true) {ty0 : Nat → FieldType} (hty : ∀ k, k < N → parseFieldDescriptor (T k).2.2.1 = some (ty0 k)) (hnm : ∀ a, a < N → ∀ b, b < N → a ≠ b → (T a).2.1 ≠ (T b).2.1) (hown : s.vm.findClass own = some m.cls) (hK : va_K D cl tys s) (hG : gG D cl K ad e0 I L H) (hi : gInj K ad) (hS : va_S (gA K ad) s.heap H locs) {k : Nat} {fs : List Value} (hk : k < K) (he : e0 k (I k) L = .inr (ci, fs)) (hc : cl[ci]? = some (C, T, N)) (j : Nat) (hj : j < N) (hlink : (Cond.fieldLink own index ref (T j).2.1 (T j).2.2.1).before args s = true) (hsame : ∀ x, s.fieldFound? (T j).1 (T j).2.1 (T j).2.2.1 = some x → s.fieldFound? ref (T j).2.1 (T j).2.2.1 = some x) (hfin : (T j).2.2.2 = false) {v : Int64} (hd : ty0 j = .long) (hl : j < fs.length)
    (hset : e0 k (I k) (wrL L j v) = .inr (ci, fs.set j (.long v))) (hoth : ∀ a, a ≠ k → e0 a (I a) (wrL L j v) = e0 a (I a) L) (hdg : decode cc pc = .ok (.putfield index, 3))
    (kk : ∀ (H1 : Heap) (locs1 : List Loc), gG D cl K ad e0 I (wrL L j v) H1 → va_S (gA K ad) s.heap H1 locs1 → W p l e R s m args below meth c H1 locs1 cells slots Q (F0 m (pc + 3) ls rest)) : W p l e R s m args below meth c H locs cells slots Q (F0 m pc ls (.long v :: .ref (ad k) :: rest)) := by
  refine va_put hexec hb hls (fun _ h => h) ty0 hty hnm hown hK hG (gwl_D hi) hS k (by rw [gwl_at hk, he]) hc j hj hlink hsame hfin (ty := .long) (by rw [hty j hj, hd]) rfl rfl hl hdg (fun H1 locs1 hP hD hS1 => kk H1 locs1 ?_ hS1)
  have hw : (gwl K ad (fun a => e0 a (I a) L)).set k (ad k, .inr (ci, fs.set j (.long v))) = gwl K ad (fun a => e0 a (I a) (wrL L j v)) := gwl_set hset hoth
  rw [hw] at hP
  exact hP
theorem g_ald (hexec : p.tables.exec = Jvm.exec) (hb : c.code = cc) (hK : va_K D cl tys s) (hG : gG D cl K ad e0 I L H) {k n : Nat} {cA : ClassId} (hk : k < K) (he : e0 k (I k) L = .inl (cA, n, .inl (I k))) (t0 : Nat) (ht : tys[t0]? = some (cA, .int)) {i : Int32} {α : Type} {f : Int32 → Option α} {r : α} (h : (rdI I k n i).bind f = some r) (hdg : decode cc pc = .ok (.iaload, 1))
    (kk : ∀ v : Int32, f v = some r → W p l e R s m args below meth c H locs cells slots Q (F0 m (pc + 1) ls (.int v :: rest))) : W p l e R s m args below meth c H locs cells slots Q (F0 m pc ls (.int i :: .ref (ad k) :: rest)) := by
  obtain ⟨v, h1, h2⟩ := obind h
  unfold rdI at h1
  split at h1
  · rename_i hx
    refine va_iald hexec hb hK hG k t0 (by rw [gwl_at hk, he]) ht (vp_in_iff.mpr hx) hdg ?_
    rw [Option.some.inj h1]
    exact kk v h2
  · cases h1
theorem g_zald (hexec : p.tables.exec = Jvm.exec) (hb : c.code = cc) (hK : va_K D cl tys s) (hG : gG D cl K ad e0 I L H) {k n : Nat} {cA : ClassId} (hk : k < K) (he : e0 k (I k) L = .inl (cA, n, .inl (I k))) (t0 : Nat) (ht : tys[t0]? = some (cA, .boolean)) {i : Int32} {α : Type} {f : Int32 → Option α} {r : α} (h : (rdI I k n i).bind f = some r) (hdg : decode cc pc = .ok (.baload, 1))
    (kk : ∀ v : Int32, f v = some r → W p l e R s m args below meth c H locs cells slots Q (F0 m (pc + 1) ls (.int v :: rest))) : W p l e R s m args below meth c H locs cells slots Q (F0 m pc ls (.int i :: .ref (ad k) :: rest)) := by
  obtain ⟨v, h1, h2⟩ := obind h
  unfold rdI at h1
  split at h1
  · rename_i hx
    refine va_zald hexec hb hK hG k t0 (by rw [gwl_at hk, he]) ht (vp_in_iff.mpr hx) hdg ?_
    rw [Option.some.inj h1]
    exact kk v h2
  · cases h1
theorem g_ast (hexec : p.tables.exec = Jvm.exec) (hb : c.code = cc) (hK : va_K D cl tys s) (hG : gG D cl K ad e0 I L H) (hi : gInj K ad) (hS : va_S (gA K ad) s.heap H locs) {k n : Nat} {cA : ClassId} (hk : k < K) (he : ∀ f : Nat → Int32, e0 k f L = .inl (cA, n, .inl f)) (t0 : Nat) (ht : tys[t0]? = some (cA, .int)) {i x : Int32} {α : Type} {f : xMem → Option α} {r : α} (h : (wrI I k n i x).bind f = some r) (hdg : decode cc pc = .ok (.iastore, 1))
    (kk : ∀ (I1 : xMem) (H1 : Heap) (locs1 : List Loc), f I1 = some r → gG D cl K ad e0 I1 L H1 → va_S (gA K ad) s.heap H1 locs1 → W p l e R s m args below meth c H1 locs1 cells slots Q (F0 m (pc + 1) ls rest)) : W p l e R s m args below meth c H locs cells slots Q (F0 m pc ls (.int x :: .int i :: .ref (ad k) :: rest)) := by
  obtain ⟨v, h1, h2⟩ := obind h
  unfold wrI at h1
  split at h1
  · rename_i hx
    refine va_iast hexec hb hK hG (gwl_D hi) hS k t0 (by rw [gwl_at hk, he]) ht (vp_in_iff.mpr hx) hdg (fun H1 locs1 hP hD hS1 => kk v H1 locs1 h2 ?_ hS1)
    rw [← Option.some.inj h1]
    have hw : (gwl K ad (fun a => e0 a (I a) L)).set k (ad k, .inl (cA, n, .inl (upd (I k) i.toNatClampNeg x))) = gwl K ad (fun a => e0 a (wr I k i.toNatClampNeg x a) L) := gwl_set (by rw [wr_self]; exact he _) (fun a ha => by rw [wr_ne I _ _ ha])
    rw [hw] at hP
    exact hP
  · cases h1
theorem g_zast (hexec : p.tables.exec = Jvm.exec) (hb : c.code = cc) (hK : va_K D cl tys s) (hG : gG D cl K ad e0 I L H) (hi : gInj K ad) (hS : va_S (gA K ad) s.heap H locs) {k n : Nat} {cA : ClassId} (hk : k < K) (he : ∀ f : Nat → Int32, e0 k f L = .inl (cA, n, .inl f)) (t0 : Nat) (ht : tys[t0]? = some (cA, .boolean)) {i x : Int32} {α : Type} {f : xMem → Option α} {r : α} (h : (wrI I k n i (nz x)).bind f = some r) (hdg : decode cc pc = .ok (.bastore, 1))
    (kk : ∀ (I1 : xMem) (H1 : Heap) (locs1 : List Loc), f I1 = some r → gG D cl K ad e0 I1 L H1 → va_S (gA K ad) s.heap H1 locs1 → W p l e R s m args below meth c H1 locs1 cells slots Q (F0 m (pc + 1) ls rest)) : W p l e R s m args below meth c H locs cells slots Q (F0 m pc ls (.int x :: .int i :: .ref (ad k) :: rest)) := by
  obtain ⟨v, h1, h2⟩ := obind h
  unfold wrI at h1
  split at h1
  · rename_i hx
    refine va_zast hexec hb hK hG (gwl_D hi) hS k t0 (by rw [gwl_at hk, he]) ht (vp_in_iff.mpr hx) hdg (fun H1 locs1 hP hD hS1 => kk v H1 locs1 h2 ?_ hS1)
    rw [← Option.some.inj h1]
    have hw : (gwl K ad (fun a => e0 a (I a) L)).set k (ad k, .inl (cA, n, .inl (upd (I k) i.toNatClampNeg (nz x)))) = gwl K ad (fun a => e0 a (wr I k i.toNatClampNeg (nz x) a) L) := gwl_set (by rw [wr_self]; exact he _) (fun a ha => by rw [wr_ne I _ _ ha])
    exact (hw ▸ hP : va_P D cl _ H1)
  · cases h1
theorem g_aldq (hexec : p.tables.exec = Jvm.exec) (hb : c.code = cc) (hK : va_K D cl tys s) (hG : gG D cl K ad e0 I L H) {k n : Nat} {cA : ClassId} {g : Nat → Nat} {E : FieldType} (hk : k < K) (he : e0 k (I k) L = .inl (cA, n, .inr (.inr (.inr (.inr (fun j => some (ad (g j)))))))) (t0 : Nat) (ht : tys[t0]? = some (cA, E)) (hE : E.isReference = true) {i : Int32} {α : Type} {f : Nat → Option α} {r : α} (h : (rdX n i).bind f = some r) (hdg : decode cc pc = .ok (.aaload, 1))
    (kk : ∀ j : Nat, j < n → f j = some r → W p l e R s m args below meth c H locs cells slots Q (F0 m (pc + 1) ls (.ref (ad (g j)) :: rest))) : W p l e R s m args below meth c H locs cells slots Q (F0 m pc ls (.int i :: .ref (ad k) :: rest)) := by
  obtain ⟨v, h1, h2⟩ := obind h
  unfold rdX at h1
  split at h1
  · rename_i hx
    have hin := vp_in_iff.mpr hx
    have hlt : i.toNatClampNeg < n := Nat.not_le.mp fun q => hin (Or.inr q)
    have h3 := kk v (by rw [← Option.some.inj h1]; exact hlt) h2
    rw [← Option.some.inj h1] at h3
    have ha : (gwl K ad (fun a => e0 a (I a) L))[k]? = some (ad k, .inl (cA, n, .inr (.inr (.inr (.inr (fun j => some (ad (g j)))))))) := by rw [gwl_at hk, he]
    exact W.aald (v := va_rf (some (ad (g i.toNatClampNeg)))) (ty := E) hexec hb (hG k _ ha) ((hK.2 t0 _ ht).1 n (fun j => va_rf (some (ad (g j))))) hE (fun q => by cases q) (by show ¬ (i < 0 ∨ (arrV _ _ _).slots.size ≤ _); rw [arrV_size]; exact hin) (by show (arrV _ _ _).slots[_]? = _; rw [arrV_read _ _ hlt]) rfl rfl hdg h3
  · cases h1
theorem g_len (hexec : p.tables.exec = Jvm.exec) (hb : c.code = cc) (hK : va_K D cl tys s) (hG : gG D cl K ad e0 I L H) {k : Nat} {cA : ClassId} {x : vp_A} {E : FieldType} (hk : k < K) (he : e0 k (I k) L = .inl (cA, x)) (t0 : Nat) (ht : tys[t0]? = some (cA, E)) {v : Int32} (hv : Int32.ofNat x.1 = v) (hdg : decode cc pc = .ok (.arraylength, 1))
    (kk : W p l e R s m args below meth c H locs cells slots Q (F0 m (pc + 1) ls (.int v :: rest))) : W p l e R s m args below meth c H locs cells slots Q (F0 m pc ls (.ref (ad k) :: rest)) :=
  va_alen hexec hb hK hG k t0 (by rw [gwl_at hk, he]) ht hv hdg kk
theorem g_idiv (hexec : p.tables.exec = Jvm.exec) (hb : c.code = cc) {x y : Int32} {α : Type} {f : Int32 → Option α} {r : α} (h : (dvI x y).bind f = some r) (hdg : decode cc pc = .ok (.idiv, 1))
    (kk : ∀ v : Int32, f v = some r → W p l e R s m args below meth c H locs cells slots Q (F0 m (pc + 1) ls (.int v :: rest))) : W p l e R s m args below meth c H locs cells slots Q (F0 m pc ls (.int y :: .int x :: rest)) := by
  obtain ⟨v, h1, h2⟩ := obind h
  unfold dvI at h1
  split at h1
  · cases h1
  · rename_i hx
    refine lv_idiv hexec hb hdg hx ?_
    rw [Option.some.inj h1]
    exact kk v h2
theorem g_irem (hexec : p.tables.exec = Jvm.exec) (hb : c.code = cc) {x y : Int32} {α : Type} {f : Int32 → Option α} {r : α} (h : (rmI x y).bind f = some r) (hdg : decode cc pc = .ok (.irem, 1))
    (kk : ∀ v : Int32, f v = some r → W p l e R s m args below meth c H locs cells slots Q (F0 m (pc + 1) ls (.int v :: rest))) : W p l e R s m args below meth c H locs cells slots Q (F0 m pc ls (.int y :: .int x :: rest)) := by
  obtain ⟨v, h1, h2⟩ := obind h
  unfold rmI at h1
  split at h1
  · cases h1
  · rename_i hx
    refine lv_irem hexec hb hdg hx ?_
    rw [Option.some.inj h1]
    exact kk v h2
theorem g_ldiv (hexec : p.tables.exec = Jvm.exec) (hb : c.code = cc) {x y : Int64} {α : Type} {f : Int64 → Option α} {r : α} (h : (dvL x y).bind f = some r) (hdg : decode cc pc = .ok (.ldiv, 1))
    (kk : ∀ v : Int64, f v = some r → W p l e R s m args below meth c H locs cells slots Q (F0 m (pc + 1) ls (.long v :: rest))) : W p l e R s m args below meth c H locs cells slots Q (F0 m pc ls (.long y :: .long x :: rest)) := by
  obtain ⟨v, h1, h2⟩ := obind h
  unfold dvL at h1
  split at h1
  · cases h1
  · rename_i hx
    refine lv_ldiv hexec hb hdg hx ?_
    rw [Option.some.inj h1]
    exact kk v h2
theorem g_lrem (hexec : p.tables.exec = Jvm.exec) (hb : c.code = cc) {x y : Int64} {α : Type} {f : Int64 → Option α} {r : α} (h : (rmL x y).bind f = some r) (hdg : decode cc pc = .ok (.lrem, 1))
    (kk : ∀ v : Int64, f v = some r → W p l e R s m args below meth c H locs cells slots Q (F0 m (pc + 1) ls (.long v :: rest))) : W p l e R s m args below meth c H locs cells slots Q (F0 m pc ls (.long y :: .long x :: rest)) := by
  obtain ⟨v, h1, h2⟩ := obind h
  unfold rmL at h1
  split at h1
  · cases h1
  · rename_i hx
    refine lv_lrem hexec hb hdg hx ?_
    rw [Option.some.inj h1]
    exact kk v h2
theorem g_cpy {ls : Array Slot} (hexec : p.tables.exec = Jvm.exec) (hb : c.code = cc) (hml : c.maxLocals = ls.size) {own : String} {index : Nat} (hown : s.vm.findClass own = some m.cls) (hlink : (Cond.methodLink own index arraycopyName).before args s = true) (hnat : (Cond.native arraycopyName).before args s = true) (hstat : (Cond.static arraycopyName).before args s = true) (hini : (Cond.initialized "java/lang/System").before args s = true)
    (hK : va_K D cl tys s) (hG : gG D cl K ad e0 I L H) (hi : gInj K ad) (hS : va_S (gA K ad) s.heap H locs) {k1 n1 k2 n2 : Nat} {c1 c2 : ClassId} (hk1 : k1 < K) (he1 : e0 k1 (I k1) L = .inl (c1, n1, .inl (I k1))) (hk2 : k2 < K) (he2 : ∀ f : Nat → Int32, e0 k2 f L = .inl (c2, n2, .inl f)) (t1 t2 : Nat) (ht1 : tys[t1]? = some (c1, .int)) (ht2 : tys[t2]? = some (c2, .int))
    {sp dp n : Int32} {α : Type} {f : xMem → Option α} {r : α} (h : (cpI I k1 n1 sp k2 n2 dp n).bind f = some r) (hframes : 1 ≤ R.frames) (hlocals : (rest.map fun v => v.category).sum + (nativeFrameWords "java/lang/System" "arraycopy" 5 + 11) ≤ R.locals) (hdg : decode cc pc = .ok (.invokestatic index, 3))
    (kk : ∀ (I1 : xMem) (H1 : Heap) (locs1 : List Loc), f I1 = some r → gG D cl K ad e0 I1 L H1 → va_S (gA K ad) s.heap H1 locs1 → W p l e R s m args below meth c H1 locs1 cells slots Q (F0 m (pc + 3) ls rest)) : W p l e R s m args below meth c H locs cells slots Q (F0 m pc ls (.int n :: .int dp :: .ref (ad k2) :: .int sp :: .ref (ad k1) :: rest)) := by
  obtain ⟨v, h1, h2⟩ := obind h
  unfold cpI at h1
  split at h1
  · rename_i hx
    obtain ⟨⟨x1, x2, x3⟩, x4, x5⟩ := hx
    have ng : ∀ z : Int32, 0 ≤ z.toInt → ¬ z < 0 := fun z hz hlt => by
      have := Int32.lt_iff_toInt_lt.mp hlt
      simp at this
      omega
    refine va_copyi hexec hb hml hown hlink hnat hstat hini hK hG (gwl_D hi) hS k1 k2 t1 t2 (by rw [gwl_at hk1, he1]) (by rw [gwl_at hk2, he2]) ht1 ht2 rfl (ng _ x1) (ng _ x2) (ng _ x3) x4 x5 (fun _ _ => rfl) hframes hlocals hdg (fun H1 locs1 hP hD hS1 => kk v H1 locs1 h2 ?_ hS1)
    rw [← Option.some.inj h1]
    have hw : (gwl K ad (fun a => e0 a (I a) L)).set k2 (ad k2, .inl (c2, n2, .inl (va_cpy (I k1) (I k2) sp.toNatClampNeg dp.toNatClampNeg n.toNatClampNeg))) = gwl K ad (fun a => e0 a (cpM I k1 sp.toNatClampNeg k2 dp.toNatClampNeg n.toNatClampNeg a) L) := gwl_set (by simp only [cpM, if_pos]; exact he2 _) (fun a ha => by simp only [cpM, if_neg ha])
    rw [hw] at hP
    exact hP
  · cases h1
theorem g_Zat (hZm : gZm K ad Z) (hZ : Z s s.heap) (hS : va_S (gA K ad) s.heap H locs) {U : State} (hW : s.WarmedH U.vm) : Z U H := hZm s U s.heap H hW hS.2.1 hZ
theorem g_blind (hZm : gZm K ad Z) {As : List Value} : FrameBlind (va_Pc As (gW D cl K ad e0 tys Z I L)) := by
  intro a U g mk q
  obtain ⟨q0, qP, qK, qZ⟩ := q
  exact ⟨q0, qP, va_K.moved (u := U) (U := U.calling g mk a) (Vm.Alike.refl U.vm) qK, hZm U (U.calling g mk a) U.heap U.heap (State.WarmedH.refl U) (fun _ _ _ => rfl) qZ⟩
theorem g_pre (hZm : gZm K ad Z) (hK : va_K D cl tys s) (hG : gG D cl K ad e0 I L H) (hZ : Z s s.heap) (hS : va_S (gA K ad) s.heap H locs) {As : List Value} : ∀ U : State, U.heap = H → s.WarmedH U.vm → va_Pc As (gW D cl K ad e0 tys Z I L) As.toArray U := by
  intro U hU hW
  refine ⟨rfl, ?_, va_K.moved hW.alike hK, ?_⟩
  · rw [hU]; exact hG
  · rw [hU]; exact g_Zat hZm hZ hS hW
theorem g_recv (hK : va_K D cl tys s) (hG : gG D cl K ad e0 I L H) {k ci N : Nat} {C : String} {T : u_T} {fs : List Value} (hk : k < K) (he : e0 k (I k) L = .inr (ci, fs)) (hc : cl[ci]? = some (C, T, N)) : ∃ cell : Cell, H[ad k]? = some cell ∧ cell.vm.isStatics = false ∧ s.vm.findClass C = some cell.cls := va_recv hK hG (q0 := k) hc (by rw [gwl_at hk, he])
variable {y : MethodName} {bytes : ByteArray} {maxL nL n index : Nat} {ret : Option FieldType} {ws Ts : List Cond} {rm : Room} {own C host : String} {As : List Value} {st0 : List Value} {I' : xMem} {L' : xLon} {k ci N : Nat} {T : u_T} {fs : List Value}
abbrev g_Pi (D : va_G) (cl : List vw_C) (K : Nat) (ad : Nat → Nat) (e0 : xEnt) (tys : List (ClassId × FieldType)) (Z : State → Heap → Prop) (I : xMem) (L : xLon) (v : Int32) : Array Value → State → Outcome → State → Prop := va_Qi (fun r (_ : Unit) => r = v) (fun _ => gW D cl K ad e0 tys Z I L) (gA K ad)
abbrev g_Pl (D : va_G) (cl : List vw_C) (K : Nat) (ad : Nat → Nat) (e0 : xEnt) (tys : List (ClassId × FieldType)) (Z : State → Heap → Prop) (I : xMem) (L : xLon) (v : Int64) : Array Value → State → Outcome → State → Prop := va_Ql (fun r (_ : Unit) => r = v) (fun _ => gW D cl K ad e0 tys Z I L) (gA K ad)
abbrev g_Pv (D : va_G) (cl : List vw_C) (K : Nat) (ad : Nat → Nat) (e0 : xEnt) (tys : List (ClassId × FieldType)) (Z : State → Heap → Prop) (I : xMem) (L : xLon) : Array Value → State → Outcome → State → Prop := va_Qv (fun (_ : Unit) => True) (fun _ => gW D cl K ad e0 tys Z I L) (gA K ad)
theorem g_endi {v : Int32} {a : Array Value} (hr : va_Run p l e R s m args below meth c H locs cells slots 0 0 (F0 m pc ls st0) rest (g_Pi D cl K ad e0 tys Z I' L' v a) (gA K ad)) (hS : va_S (gA K ad) s.heap H locs)
    (kk : ∀ (H1 : Heap) (locs1 : List Loc), gG D cl K ad e0 I' L' H1 → va_S (gA K ad) s.heap H1 locs1 → W p l e R s m args below meth c H1 locs1 cells slots Q (F0 m (pc + 3) ls (.int v :: rest))) : W p l e R s m args below meth c H locs cells slots Q (F0 m pc ls st0) := by
  refine va_calli hr hS (fun _ _ h => h) (fun _ h => h) (fun r u t H1 locs1 ht hvm hp hB hz hk hS1 => ?_)
  subst hp
  exact kk H1 locs1 (by rw [← ht]; exact hB.1) hS1
theorem g_endl {v : Int64} {a : Array Value} (hr : va_Run p l e R s m args below meth c H locs cells slots 0 0 (F0 m pc ls st0) rest (g_Pl D cl K ad e0 tys Z I' L' v a) (gA K ad)) (hS : va_S (gA K ad) s.heap H locs)
    (kk : ∀ (H1 : Heap) (locs1 : List Loc), gG D cl K ad e0 I' L' H1 → va_S (gA K ad) s.heap H1 locs1 → W p l e R s m args below meth c H1 locs1 cells slots Q (F0 m (pc + 3) ls (.long v :: rest))) : W p l e R s m args below meth c H locs cells slots Q (F0 m pc ls st0) := by
  refine va_calll hr hS (fun _ _ h => h) (fun _ h => h) (fun r u t H1 locs1 ht hvm hp hB hz hk hS1 => ?_)
  subst hp
  exact kk H1 locs1 (by rw [← ht]; exact hB.1) hS1
theorem g_endv {a : Array Value} (hr : va_Run p l e R s m args below meth c H locs cells slots 0 0 (F0 m pc ls st0) rest (g_Pv D cl K ad e0 tys Z I' L' a) (gA K ad)) (hS : va_S (gA K ad) s.heap H locs)
    (kk : ∀ (H1 : Heap) (locs1 : List Loc), gG D cl K ad e0 I' L' H1 → va_S (gA K ad) s.heap H1 locs1 → W p l e R s m args below meth c H1 locs1 cells slots Q (F0 m (pc + 3) ls rest)) : W p l e R s m args below meth c H locs cells slots Q (F0 m pc ls st0) := by
  refine va_callv hr hS (fun _ _ h => h) (fun _ h => h) (fun u t H1 locs1 ht hvm hp hB hz hk hS1 => ?_)
  exact kk H1 locs1 (by rw [← ht]; exact hB.1) hS1
theorem g_iret {v r : Int32} (hexec : p.tables.exec = Jvm.exec) (hb : c.code = cc) (hr : meth.sig.returnType = some .int) (hlocks : meth.locks = false) (hZm : gZm K ad Z) (hK : va_K D cl tys s) (hZ : Z s s.heap) (hG : gG D cl K ad e0 I L H) (hS : va_S (gA K ad) s.heap H locs) (e9 : v = r) (hdg : decode cc pc = .ok (.ireturn, 1)) : W p l e R s m args below meth c H locs cells slots (MQ below (g_Pi D cl K ad e0 tys Z I L r) args s cells slots (gA K ad)) (F0 m pc ls [.int v]) :=
  W.iret hexec hb hr (fun t ht hW => ⟨⟨v, (), rfl, e9, ⟨by rw [ht]; exact hG, va_K.moved hW.alike hK, by rw [ht]; exact g_Zat hZm hZ hS hW⟩⟩, hS.F ht⟩) hS.2.2 hdg hlocks
theorem g_lret {v r : Int64} (hexec : p.tables.exec = Jvm.exec) (hb : c.code = cc) (hr : meth.sig.returnType = some .long) (hlocks : meth.locks = false) (hZm : gZm K ad Z) (hK : va_K D cl tys s) (hZ : Z s s.heap) (hG : gG D cl K ad e0 I L H) (hS : va_S (gA K ad) s.heap H locs) (e9 : v = r) (hdg : decode cc pc = .ok (.lreturn, 1)) : W p l e R s m args below meth c H locs cells slots (MQ below (g_Pl D cl K ad e0 tys Z I L r) args s cells slots (gA K ad)) (F0 m pc ls [.long v]) :=
  W.lret hexec hb hr (fun t ht hW => ⟨⟨v, (), rfl, e9, ⟨by rw [ht]; exact hG, va_K.moved hW.alike hK, by rw [ht]; exact g_Zat hZm hZ hS hW⟩⟩, hS.F ht⟩) hS.2.2 hdg hlocks
theorem g_vret (hexec : p.tables.exec = Jvm.exec) (hb : c.code = cc) (hr : meth.sig.returnType = none) (hlocks : meth.locks = false) (hZm : gZm K ad Z) (hK : va_K D cl tys s) (hZ : Z s s.heap) (hG : gG D cl K ad e0 I L H) (hS : va_S (gA K ad) s.heap H locs) (hdg : decode cc pc = .ok (.return_, 1)) : W p l e R s m args below meth c H locs cells slots (MQ below (g_Pv D cl K ad e0 tys Z I L) args s cells slots (gA K ad)) (F0 m pc ls []) :=
  W.vret hexec hb hr (fun t ht hW => ⟨⟨(), rfl, trivial, ⟨by rw [ht]; exact hG, va_K.moved hW.alike hK, by rw [ht]; exact g_Zat hZm hZ hS hW⟩⟩, hS.F ht⟩) hS.2.2 hdg hlocks
theorem nz_eq (v : Int32) : narrow .boolean (.int v) = .int (nz v) := rfl
theorem W_zretN {cc : ByteArray} {Qc : Array Value → State → Outcome → State → Prop} {free : Addr → Prop} {v : Int32} (hexec : p.tables.exec = Jvm.exec) (hb : c.code = cc) (hr : meth.sig.returnType = some .boolean)
    (hq : ∀ t : State, t.heap = H → s.WarmedH t.vm → Qc args s (.returned (some (.int (nz v)))) t) (hf : ∀ q ∈ locs, free q.base)
    {pc : Nat} {ls : Array Slot} (hdg : decode cc pc = .ok (.ireturn, 1)) (hlocks : meth.locks = false) : W p l e R s m args below meth c H locs cells slots (MQ below Qc args s cells slots free) (F0 m pc ls [.int v]) := by
  intro T hT X
  obtain ⟨fs, hret, hrun, hended, hW, hframe⟩ := X.leave (v := some (.int (nz v))) (hlocks := hlocks) (fun h => by rw [hr] at h; cases h)
  have hmeth' : T.vm.method? m = some meth := X.method'
  refine ⟨T.setFrames fs, ?_, .returned (some (.int (nz v))), hrun, hended, hq _ hT hW, locs, ⟨⟨_, rfl⟩, hW, hframe⟩, hf⟩
  have hn := nz_eq v
  jvm_step X.here [X.here.top, hexec, hb, hdg, hmeth', hr, hn]
  (try refine ⟨rfl, ?_⟩); (try refine ⟨rfl, ?_⟩)
  first | (intro acts; rw [hret _ acts rfl rfl rfl]) | rw [hret _ _ rfl rfl rfl]
  exact Steps.refl _
theorem g_zret {v r : Int32} (hexec : p.tables.exec = Jvm.exec) (hb : c.code = cc) (hr : meth.sig.returnType = some .boolean) (hlocks : meth.locks = false) (hZm : gZm K ad Z) (hK : va_K D cl tys s) (hZ : Z s s.heap) (hG : gG D cl K ad e0 I L H) (hS : va_S (gA K ad) s.heap H locs) (e9 : nz v = r) (hdg : decode cc pc = .ok (.ireturn, 1)) : W p l e R s m args below meth c H locs cells slots (MQ below (g_Pi D cl K ad e0 tys Z I L r) args s cells slots (gA K ad)) (F0 m pc ls [.int v]) :=
  W_zretN hexec hb hr (fun t ht hW => ⟨⟨nz v, (), rfl, e9, ⟨by rw [ht]; exact hG, va_K.moved hW.alike hK, by rw [ht]; exact g_Zat hZm hZ hS hW⟩⟩, hS.F ht⟩) hS.2.2 hdg hlocks
end GB
