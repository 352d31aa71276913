/-! THE LAW: its loop -/
theorem law_lt {N n : Nat} (hN : N ≤ 3072) (hn : n ≤ N) (h : ¬ Int32.ofNat N - 6 < nI n) : n + 6 ≤ N := by
  have e1 : (Int32.ofNat N - 6).toInt = (N : Int) - 6 := by
    rw [Int32.toInt_sub, show (Int32.ofNat N).toInt = (N : Int) from nI_toInt (by omega), show (6 : Int32).toInt = 6 from rfl]
    exact Int.bmod_eq_of_le (by omega) (by omega)
  have e2 : (nI n).toInt = (n : Int) := nI_toInt (by omega)
  rw [Int32.lt_iff_toInt_lt, e1, e2] at h
  omega
theorem law_63 (x : Int32) : ∃ k, k < 64 ∧ x &&& 63 = nI k := by
  refine ⟨(x &&& 63).toBitVec.toNat, ?_, ?_⟩
  · have h : (x &&& 63).toBitVec = x.toBitVec &&& 63#32 := rfl
    rw [h, BitVec.toNat_and]
    have := Nat.and_le_right (n := x.toBitVec.toNat) (m := (63#32).toNat)
    have h2 : (63#32).toNat = 63 := rfl
    omega
  · apply Int32.toBitVec_inj.mp
    show (x &&& 63).toBitVec = BitVec.ofNat 32 _
    rw [BitVec.ofNat_toNat, BitVec.setWidth_eq]
set_option maxHeartbeats 4000000 in
set_option maxRecDepth 100000 in
theorem law_tab {p : Program} {l : Launch} {e : Env} {s : State} {m : MethodId} {args : Array Value} {below : List Frame} {meth : Method} {c : Code} {Q : State → Prop} {D : va_G} {cy cz : Nat → ClassId} {ad am : Nat → Nat} {tI b N : Nat} {xs : Nat → Int32} (C0 : LW p s m args meth c D cy ad cz am tI b N xs) {n : Nat} (hn : n + 6 ≤ N) {P Dr : Nat} {I J : xMem} {L M : xLon} {H : Heap} {locs : List Loc} (C1 : LA D cy ad cz am s P Dr I L J M H locs) {ls : Array Slot} (hl : lv_has ls 4 [(0, .ref b), (1, .ref (ad 0)), (2, .ref (am 0)), (3, .int (nI n))]) (kk : ∀ (P Dr : Nat) (I : xMem) (L : xLon) (J : xMem) (M : xLon) (H : Heap) (locs : List Loc), LA D cy ad cz am s P Dr I L J M H locs → W p l e room_1 s m args below meth c H locs 600000 7302250 Q (F0 m 1348 ls [])) (x : Int32) : W p l e room_1 s m args below meth c H locs 600000 7302250 Q (F0 m 33 ls [.int (x &&& 63)]) := by
  obtain ⟨⟨hx, hb, hml, hown, hts⟩, -, -, -⟩ := id C0
  obtain ⟨k, hk, e1⟩ := law_63 x
  rw [e1]
  have ht : (nI k).toInt = (k : Int) := nI_toInt (by omega)
  rcases Nat.lt_or_ge k 41 with q | q
  · rcases (show k = 0 ∨ k = 1 ∨ k = 2 ∨ k = 3 ∨ k = 4 ∨ k = 5 ∨ k = 6 ∨ k = 7 ∨ k = 8 ∨ k = 9 ∨ k = 10 ∨ k = 11 ∨ k = 12 ∨ k = 13 ∨ k = 14 ∨ k = 15 ∨ k = 16 ∨ k = 17 ∨ k = 18 ∨ k = 19 ∨ k = 20 ∨ k = 21 ∨ k = 22 ∨ k = 23 ∨ k = 24 ∨ k = 25 ∨ k = 26 ∨ k = 27 ∨ k = 28 ∨ k = 29 ∨ k = 30 ∨ k = 31 ∨ k = 32 ∨ k = 33 ∨ k = 34 ∨ k = 35 ∨ k = 36 ∨ k = 37 ∨ k = 38 ∨ k = 39 ∨ k = 40 by omega) with rfl | rfl | rfl | rfl | rfl | rfl | rfl | rfl | rfl | rfl | rfl | rfl | rfl | rfl | rfl | rfl | rfl | rfl | rfl | rfl | rfl | rfl | rfl | rfl | rfl | rfl | rfl | rfl | rfl | rfl | rfl | rfl | rfl | rfl | rfl | rfl | rfl | rfl | rfl | rfl | rfl
    · exact lv_tableIn (off := 179) (tgt := 212) hx hb dL_law_33 (by decide +kernel) (by decide +kernel) (by decide +kernel) (by decide) (law_0 C0 hn C1 hl kk)
    · exact lv_tableIn (off := 212) (tgt := 245) hx hb dL_law_33 (by decide +kernel) (by decide +kernel) (by decide +kernel) (by decide) (law_1 C0 hn C1 hl kk)
    · exact lv_tableIn (off := 255) (tgt := 288) hx hb dL_law_33 (by decide +kernel) (by decide +kernel) (by decide +kernel) (by decide) (law_2 C0 hn C1 hl kk)
    · exact lv_tableIn (off := 288) (tgt := 321) hx hb dL_law_33 (by decide +kernel) (by decide +kernel) (by decide +kernel) (by decide) (law_3 C0 hn C1 hl kk)
    · exact lv_tableIn (off := 311) (tgt := 344) hx hb dL_law_33 (by decide +kernel) (by decide +kernel) (by decide +kernel) (by decide) (law_4 C0 hn C1 hl kk)
    · exact lv_tableIn (off := 374) (tgt := 407) hx hb dL_law_33 (by decide +kernel) (by decide +kernel) (by decide +kernel) (by decide) (law_5 C0 hn C1 hl kk)
    · exact lv_tableIn (off := 397) (tgt := 430) hx hb dL_law_33 (by decide +kernel) (by decide +kernel) (by decide +kernel) (by decide) (law_6 C0 hn C1 hl kk)
    · exact lv_tableIn (off := 430) (tgt := 463) hx hb dL_law_33 (by decide +kernel) (by decide +kernel) (by decide +kernel) (by decide) (law_7 C0 hn C1 hl kk)
    · exact lv_tableIn (off := 473) (tgt := 506) hx hb dL_law_33 (by decide +kernel) (by decide +kernel) (by decide +kernel) (by decide) (law_8 C0 hn C1 hl kk)
    · exact lv_tableIn (off := 496) (tgt := 529) hx hb dL_law_33 (by decide +kernel) (by decide +kernel) (by decide +kernel) (by decide) (law_9 C0 hn C1 hl kk)
    · exact lv_tableIn (off := 519) (tgt := 552) hx hb dL_law_33 (by decide +kernel) (by decide +kernel) (by decide +kernel) (by decide) (law_10 C0 hn C1 hl kk)
    · exact lv_tableIn (off := 552) (tgt := 585) hx hb dL_law_33 (by decide +kernel) (by decide +kernel) (by decide +kernel) (by decide) (law_11 C0 hn C1 hl kk)
    · exact lv_tableIn (off := 585) (tgt := 618) hx hb dL_law_33 (by decide +kernel) (by decide +kernel) (by decide +kernel) (by decide) (law_12 C0 hn C1 hl kk)
    · exact lv_tableIn (off := 638) (tgt := 671) hx hb dL_law_33 (by decide +kernel) (by decide +kernel) (by decide +kernel) (by decide) (law_13 C0 hn C1 hl kk)
    · exact lv_tableIn (off := 651) (tgt := 684) hx hb dL_law_33 (by decide +kernel) (by decide +kernel) (by decide +kernel) (by decide) (law_14 C0 hn C1 hl kk)
    · exact lv_tableIn (off := 674) (tgt := 707) hx hb dL_law_33 (by decide +kernel) (by decide +kernel) (by decide +kernel) (by decide) (law_15 C0 hn C1 hl kk)
    · exact lv_tableIn (off := 697) (tgt := 730) hx hb dL_law_33 (by decide +kernel) (by decide +kernel) (by decide +kernel) (by decide) (law_16 C0 hn C1 hl kk)
    · exact lv_tableIn (off := 720) (tgt := 753) hx hb dL_law_33 (by decide +kernel) (by decide +kernel) (by decide +kernel) (by decide) (law_17 C0 hn C1 hl kk)
    · exact lv_tableIn (off := 773) (tgt := 806) hx hb dL_law_33 (by decide +kernel) (by decide +kernel) (by decide +kernel) (by decide) (law_18 C0 hn C1 hl kk)
    · exact lv_tableIn (off := 806) (tgt := 839) hx hb dL_law_33 (by decide +kernel) (by decide +kernel) (by decide +kernel) (by decide) (law_19 C0 hn C1 hl kk)
    · exact lv_tableIn (off := 819) (tgt := 852) hx hb dL_law_33 (by decide +kernel) (by decide +kernel) (by decide +kernel) (by decide) (law_20 C0 hn C1 hl kk)
    · exact lv_tableIn (off := 832) (tgt := 865) hx hb dL_law_33 (by decide +kernel) (by decide +kernel) (by decide +kernel) (by decide) (law_21 C0 hn C1 hl kk)
    · exact lv_tableIn (off := 855) (tgt := 888) hx hb dL_law_33 (by decide +kernel) (by decide +kernel) (by decide +kernel) (by decide) (law_22 C0 hn C1 hl kk)
    · exact lv_tableIn (off := 868) (tgt := 901) hx hb dL_law_33 (by decide +kernel) (by decide +kernel) (by decide +kernel) (by decide) (law_23 C0 hn C1 hl kk)
    · exact lv_tableIn (off := 901) (tgt := 934) hx hb dL_law_33 (by decide +kernel) (by decide +kernel) (by decide +kernel) (by decide) (law_24 C0 hn C1 hl kk)
    · exact lv_tableIn (off := 924) (tgt := 957) hx hb dL_law_33 (by decide +kernel) (by decide +kernel) (by decide +kernel) (by decide) (law_25 C0 hn C1 hl kk)
    · exact lv_tableIn (off := 947) (tgt := 980) hx hb dL_law_33 (by decide +kernel) (by decide +kernel) (by decide +kernel) (by decide) (law_26 C0 hn C1 hl kk)
    · exact lv_tableIn (off := 960) (tgt := 993) hx hb dL_law_33 (by decide +kernel) (by decide +kernel) (by decide +kernel) (by decide) (law_27 C0 hn C1 hl kk)
    · exact lv_tableIn (off := 993) (tgt := 1026) hx hb dL_law_33 (by decide +kernel) (by decide +kernel) (by decide +kernel) (by decide) (law_28 C0 hn C1 hl kk)
    · exact lv_tableIn (off := 1026) (tgt := 1059) hx hb dL_law_33 (by decide +kernel) (by decide +kernel) (by decide +kernel) (by decide) (law_29 C0 hn C1 hl kk)
    · exact lv_tableIn (off := 1059) (tgt := 1092) hx hb dL_law_33 (by decide +kernel) (by decide +kernel) (by decide +kernel) (by decide) (law_30 C0 hn C1 hl kk)
    · exact lv_tableIn (off := 1082) (tgt := 1115) hx hb dL_law_33 (by decide +kernel) (by decide +kernel) (by decide +kernel) (by decide) (law_31 C0 hn C1 hl kk)
    · exact lv_tableIn (off := 1125) (tgt := 1158) hx hb dL_law_33 (by decide +kernel) (by decide +kernel) (by decide +kernel) (by decide) (law_32 C0 hn C1 hl kk)
    · exact lv_tableIn (off := 1168) (tgt := 1201) hx hb dL_law_33 (by decide +kernel) (by decide +kernel) (by decide +kernel) (by decide) (law_33 C0 hn C1 hl kk)
    · exact lv_tableIn (off := 1201) (tgt := 1234) hx hb dL_law_33 (by decide +kernel) (by decide +kernel) (by decide +kernel) (by decide) (law_34 C0 hn C1 hl kk)
    · exact lv_tableIn (off := 1214) (tgt := 1247) hx hb dL_law_33 (by decide +kernel) (by decide +kernel) (by decide +kernel) (by decide) (law_35 C0 hn C1 hl kk)
    · exact lv_tableIn (off := 1228) (tgt := 1261) hx hb dL_law_33 (by decide +kernel) (by decide +kernel) (by decide +kernel) (by decide) (law_36 C0 hn C1 hl kk)
    · exact lv_tableIn (off := 1242) (tgt := 1275) hx hb dL_law_33 (by decide +kernel) (by decide +kernel) (by decide +kernel) (by decide) (law_37 C0 hn C1 hl kk)
    · exact lv_tableIn (off := 1265) (tgt := 1298) hx hb dL_law_33 (by decide +kernel) (by decide +kernel) (by decide +kernel) (by decide) (law_38 C0 hn C1 hl kk)
    · exact lv_tableIn (off := 1278) (tgt := 1311) hx hb dL_law_33 (by decide +kernel) (by decide +kernel) (by decide +kernel) (by decide) (law_39 C0 hn C1 hl kk)
    · exact lv_tableIn (off := 1301) (tgt := 1334) hx hb dL_law_33 (by decide +kernel) (by decide +kernel) (by decide +kernel) (by decide) (law_40 C0 hn C1 hl kk)
  · exact lv_tableOut (tgt := 1348) hx hb dL_law_33 (Or.inr (by rw [ht]; omega)) (by decide) (kk P Dr I L J M H locs C1)
set_option maxHeartbeats 4000000 in
set_option maxRecDepth 100000 in
theorem law_loop {p : Program} {l : Launch} {e : Env} {s : State} {m : MethodId} {below : List Frame} {meth : Method} {c : Code} {D : va_G} {cy cz : Nat → ClassId} {ad am : Nat → Nat} {tI b N : Nat} {xs : Nat → Int32} (C0 : LW p s m #[Value.ref b] meth c D cy ad cz am tI b N xs) (hr : meth.sig.returnType = ret) (hlocks : meth.locks = false) : ∀ (k n : Nat), n ≤ N → N < n + 6 * k → ∀ (P Dr : Nat) (I : xMem) (L : xLon) (J : xMem) (M : xLon) (H : Heap) (locs : List Loc), LA D cy ad cz am s P Dr I L J M H locs → ∀ ls : Array Slot, lv_has ls 4 [(0, .ref b), (1, .ref (ad 0)), (2, .ref (am 0)), (3, .int (nI n))] → W p l e room_1 s m #[Value.ref b] below meth c H locs 600000 7302250 (lw_Z below #[Value.ref b] s) (F0 m 18 ls []) := by
  obtain ⟨⟨hx, hb, hml, hown, hts⟩, ⟨hX, hbl, hN⟩, -, -⟩ := id C0
  intro k
  induction k with
  | zero => intro n h1 h2; exact absurd h2 (by omega)
  | succ k ih =>
    intro n hn hk P Dr I L J M H locs C1 ls hl
    obtain ⟨-, -, -, hS⟩ := id C1
    have hbA : ¬ (fun q : Nat => s.heap.size ≤ q) b := Nat.not_le.mpr hbl
    refine lv_iload_n hx hb dL_law_18 rfl (lv_at hl 3 rfl) ?_
    refine lv_aload_n hx hb dL_law_19 rfl (lv_at hl 0 rfl) ?_
    refine va_slen hx hb hX hbl hbA hS dL_law_20 ?_
    refine lv_bipush (v := 6) hx hb dL_law_21 (by decide) ?_
    refine lv_isub hx hb dL_law_23 ?_
    refine lv_icmp_gt (tgt := 1354) hx hb dL_law_24 (by decide) (fun _ => ?_) (fun c1 => ?_)
    · refine lv_iconst (v := 1) hx hb dL_law_1354 (by decide) ?_
      refine va_forget (fun q hq => hS.2.2 q hq) ?_
      exact lw_ret hx hb hr hlocks dL_law_1355
    · have hn6 := law_lt hN hn c1
      refine lv_aload_n hx hb dL_law_27 rfl (lv_at hl 0 rfl) ?_
      refine lv_iload_n hx hb dL_law_28 rfl (lv_at hl 3 rfl) ?_
      refine va_sld hx hb hX hbl hbA hS (vp_in_nI (by omega) (by omega)) dL_law_29 ?_
      refine lv_bipush (v := 63) hx hb dL_law_30 (by decide) ?_
      refine lv_iand hx hb dL_law_32 ?_
      refine law_tab C0 hn6 C1 hl (fun P Dr I L J M H locs C1 => ?_) _
      refine lv_iinc (v := nI (n + 6)) (lv' := [(3, .int (nI (n + 6))), (0, .ref b), (1, .ref (ad 0)), (2, .ref (am 0))]) hx hb dL_law_1348 hl (k := 3) rfl (by rw [show Int32.ofInt 6 = nI 6 from rfl, nI_sum]) (by decide) rfl (fun ls hl => ?_)
      refine lv_goto (tgt := 18) hx hb dL_law_1351 (by decide) ?_
      exact ih (n + 6) hn6 (by omega) P Dr I L J M H locs C1 ls (lv_sub hl [1, 2, 3, 0] rfl)
