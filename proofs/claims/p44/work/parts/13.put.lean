/-! MY ROWS: the class's two references that change (tower) -/
section CP
variable {p : Program} {l : Launch} {e : Env} {R : Room} {s : State} {m : MethodId} {args : Array Value} {below : List Frame} {meth : Method} {c : Code} {H : Heap} {locs : List Loc} {cells slots : Nat} {Q : State → Prop}
variable {cc : ByteArray} {pc : Nat} {ls : Array Slot} {rest : List Value} {D : va_G} {cy : Nat → ClassId} {ad : Nat → Nat} {P Dr : Nat} {I : xMem} {L : xLon}
theorem c_putplan (hexec : p.tables.exec = Jvm.exec) (hb : c.code = cc) {index P' : Nat} (hls : ∀ w ∈ wsX40, w.before args s = true) (hown : s.vm.findClass RX4 = some m.cls) (hK : va_K D vwCl (cTys cy) s) (hG : cG D cy ad P Dr I L H) (hi : gInj 64 ad) (hS : va_S (gA 64 ad) s.heap H locs) (hlink : (Cond.fieldLink RX4 index "PairStairs" "plan" "LPairStairs$Plan;").before args s = true) (hdg : decode cc pc = .ok (.putfield index, 3))
    (kk : ∀ (H1 : Heap) (locs1 : List Loc), cG D cy ad P' Dr I L H1 → va_S (gA 64 ad) s.heap H1 locs1 → W p l e R s m args below meth c H1 locs1 cells slots Q (F0 m (pc + 3) ls rest)) : W p l e R s m args below meth c H locs cells slots Q (F0 m pc ls (.ref (ad P') :: .ref (ad 0) :: rest)) := by
  refine va_put hexec hb hls (fun _ h => h) tyX4 tyX4_ok nmX4 hown hK hG (gwl_D hi) hS 0 (by rw [gwl_at (by decide), cE_4]) vwCl_4 7 (by decide) hlink (fun _ h9 => h9) rfl (ty := .object "PairStairs$Plan") (tyX4_ok 7 (by decide)) rfl rfl (Nat.le_of_ble_eq_true rfl) hdg (fun H1 locs1 hP hD hS1 => kk H1 locs1 ?_ hS1)
  have hw : (gwl 64 ad (fun a => cE cy ad P Dr a (I a) L)).set 0 (ad 0, .inr (4, ([.ref (ad 1), .ref (ad 10), .ref (ad 17), .ref (ad 22), .ref (ad 38), .ref (ad 39), .ref (ad 51), .ref (ad P), .ref (ad Dr), .int (I 0 9), .int (I 0 10), .long (L 11), .long (L 12)] : List Value).set 7 (.ref (ad P')))) = gwl 64 ad (fun a => cE cy ad P' Dr a (I a) L) := gwl_set rfl (fun a ha => cE_PD _ _ _ ha)
  rw [hw] at hP
  exact hP
theorem c_putdraft (hexec : p.tables.exec = Jvm.exec) (hb : c.code = cc) {index P' : Nat} (hls : ∀ w ∈ wsX40, w.before args s = true) (hown : s.vm.findClass RX4 = some m.cls) (hK : va_K D vwCl (cTys cy) s) (hG : cG D cy ad P Dr I L H) (hi : gInj 64 ad) (hS : va_S (gA 64 ad) s.heap H locs) (hlink : (Cond.fieldLink RX4 index "PairStairs" "draft" "LPairStairs$Plan;").before args s = true) (hdg : decode cc pc = .ok (.putfield index, 3))
    (kk : ∀ (H1 : Heap) (locs1 : List Loc), cG D cy ad P P' I L H1 → va_S (gA 64 ad) s.heap H1 locs1 → W p l e R s m args below meth c H1 locs1 cells slots Q (F0 m (pc + 3) ls rest)) : W p l e R s m args below meth c H locs cells slots Q (F0 m pc ls (.ref (ad P') :: .ref (ad 0) :: rest)) := by
  refine va_put hexec hb hls (fun _ h => h) tyX4 tyX4_ok nmX4 hown hK hG (gwl_D hi) hS 0 (by rw [gwl_at (by decide), cE_4]) vwCl_4 8 (by decide) hlink (fun _ h9 => h9) rfl (ty := .object "PairStairs$Plan") (tyX4_ok 8 (by decide)) rfl rfl (Nat.le_of_ble_eq_true rfl) hdg (fun H1 locs1 hP hD hS1 => kk H1 locs1 ?_ hS1)
  have hw : (gwl 64 ad (fun a => cE cy ad P Dr a (I a) L)).set 0 (ad 0, .inr (4, ([.ref (ad 1), .ref (ad 10), .ref (ad 17), .ref (ad 22), .ref (ad 38), .ref (ad 39), .ref (ad 51), .ref (ad P), .ref (ad Dr), .int (I 0 9), .int (I 0 10), .long (L 11), .long (L 12)] : List Value).set 8 (.ref (ad P')))) = gwl 64 ad (fun a => cE cy ad P P' a (I a) L) := gwl_set rfl (fun a ha => cE_PD _ _ _ ha)
  rw [hw] at hP
  exact hP
end CP
