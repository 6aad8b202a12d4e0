/-! the law's loop -/
theorem lw_gt {i L : Nat} (hL : L ≤ 2048) (hi : i ≤ 2048) : Int32.ofNat L - (4 : Int32) < nI i ↔ L < i + 4 := by
  rw [Int32.lt_iff_toInt_lt, nI_toInt (by omega)]
  have e : (Int32.ofNat L - (4 : Int32)).toInt = (L : Int) - 4 := by
    rw [Int32.toInt_sub, show (Int32.ofNat L).toInt = (L : Int) from nI_toInt (n := L) (by omega), show (4 : Int32).toInt = 4 from rfl]
    exact Int.bmod_eq_of_le (by omega) (by omega)
  rw [e]
  omega
set_option maxHeartbeats 4000000 in
set_option maxRecDepth 100000 in
theorem lw_loop {p : Program} {l : Launch} {e : Env} {s : State} {m : MethodId} {below : List Frame} {meth : Method} {c : Code} {Q : State → Prop} {b L : Nat} {sc : Nat → Int32} {dC : Nat → ClassId} {dI : Nat → Nat → Nat} {cI cZ : ClassId} {t0 t1 t2 t3 : Nat} {A : Nat → Prop} {ad am : Nat → Nat} (C : LWC p s m c b L sc dC dI cI cZ t0 t1 t2 t3 A) (hL : L ≤ 2048) (kz : ∀ (ls : Array Slot) (H : Heap) (locs : List Loc), va_S A s.heap H locs → W p l e room_1 s m #[Value.ref b] below meth c H locs 55 4921 Q (F0 m 510 ls [])) : ∀ (k i : Nat) (ls : Array Slot) (H : Heap) (locs : List Loc), L < i + 4 + k → i ≤ 2048 → lv_has ls 4 [(0, .ref b), (1, .ref (ad 0)), (2, .ref (am 0)), (3, .int (nI i))] → LWS dC dI cI cZ ad am A s.heap H locs → W p l e room_1 s m #[Value.ref b] below meth c H locs 55 4921 Q (F0 m 18 ls []) := by
  have C0 := C
  obtain ⟨hx, hb, hml, hown, hts, hK, hA, hZ, hX, hbl, hbA⟩ := C0
  have head : ∀ (i : Nat) (ls : Array Slot) (H : Heap) (locs : List Loc), i ≤ 2048 → lv_has ls 4 [(0, .ref b), (1, .ref (ad 0)), (2, .ref (am 0)), (3, .int (nI i))] → LWS dC dI cI cZ ad am A s.heap H locs → (i + 4 ≤ L → W p l e room_1 s m #[Value.ref b] below meth c H locs 55 4921 Q (F0 m 26 ls [])) → W p l e room_1 s m #[Value.ref b] below meth c H locs 55 4921 Q (F0 m 18 ls []) := by
    intro i ls H locs hi2 hl hs kg
    have hS : va_S A s.heap H locs := by
      obtain ⟨n, x, g, hP, hD, hS, hc, ht, hr⟩ := hs
      exact hS
    refine lv_iload_n hx hb dLW_18 rfl (lv_at hl 3 rfl) ?_
    refine lv_aload_n hx hb dLW_19 rfl (lv_at hl 0 rfl) ?_
    refine va_slen hx hb hX hbl hbA hS dLW_20 ?_
    refine lv_iconst (v := (4 : Int32)) hx hb dLW_21 (by decide) ?_
    refine lv_isub hx hb dLW_22 ?_
    refine lv_icmp_gt (tgt := 510) hx hb dLW_23 rfl (fun _ => kz ls H locs hS) (fun h => kg ?_)
    exact Nat.not_lt.mp (fun q => h ((lw_gt hL hi2).mpr q))
  intro k
  induction k with
  | zero =>
    intro i ls H locs hk hi2 hl hs
    exact head i ls H locs hi2 hl hs (fun h => absurd h (by omega))
  | succ k ih =>
    intro i ls H locs hk hi2 hl hs
    refine head i ls H locs hi2 hl hs (fun hi => ?_)
    have hS : va_S A s.heap H locs := by
      obtain ⟨n, x, g, hP, hD, hS, hc, ht, hr⟩ := hs
      exact hS
    have K : ∀ (H : Heap) (locs : List Loc), LWS dC dI cI cZ ad am A s.heap H locs → W p l e room_1 s m #[Value.ref b] below meth c H locs 55 4921 Q (F0 m 504 ls []) := by
      intro H locs hs
      refine lv_iinc (v := nI (i + 4)) (lv' := [(3, .int (nI (i + 4))), (0, .ref b), (1, .ref (ad 0)), (2, .ref (am 0))]) hx hb dLW_504 hl (k := 3) rfl (nI_add i 4) (by decide) rfl (fun ls hl => ?_)
      refine lv_goto (tgt := 18) hx hb dLW_507 rfl ?_
      replace hl := lv_sub hl (l' := [(0, .ref b), (1, .ref (ad 0)), (2, .ref (am 0)), (3, .int (nI (i + 4)))]) [1, 2, 3, 0] rfl
      exact ih (i + 4) ls H locs (by omega) (by omega) hl hs
    refine lv_aload_n hx hb dLW_26 rfl (lv_at hl 0 rfl) ?_
    refine lv_iload_n hx hb dLW_27 rfl (lv_at hl 3 rfl) ?_
    refine va_sld hx hb hX hbl hbA hS (lw_in0 (by omega) hL) dLW_28 ?_
    refine lv_bipush (v := (15 : Int32)) hx hb dLW_29 (by decide) ?_
    refine lv_iand hx hb dLW_31 ?_
    generalize (sc (nI i).toNatClampNeg &&& (15 : Int32)) = x0
    by_cases hn0 : x0 = 0
    · exact ip_tsIn (tgt := 104) hx hb dLW_32 hn0 (by decide) (by decide) rfl rfl (lw_c0 C hL hi hl hs K)
    by_cases hn1 : x0 = 1
    · exact ip_tsIn (tgt := 167) hx hb dLW_32 hn1 (by decide) (by decide) rfl rfl (lw_c1 C hL hi hl hs K)
    by_cases hn2 : x0 = 2
    · exact ip_tsIn (tgt := 178) hx hb dLW_32 hn2 (by decide) (by decide) rfl rfl (lw_c2 C hL hi hl hs K)
    by_cases hn3 : x0 = 3
    · exact ip_tsIn (tgt := 191) hx hb dLW_32 hn3 (by decide) (by decide) rfl rfl (lw_c3 C hL hi hl hs K)
    by_cases hn4 : x0 = 4
    · exact ip_tsIn (tgt := 224) hx hb dLW_32 hn4 (by decide) (by decide) rfl rfl (lw_c4 C hL hi hl hs K)
    by_cases hn5 : x0 = 5
    · exact ip_tsIn (tgt := 237) hx hb dLW_32 hn5 (by decide) (by decide) rfl rfl (lw_c5 C hL hi hl hs K)
    by_cases hn6 : x0 = 6
    · exact ip_tsIn (tgt := 260) hx hb dLW_32 hn6 (by decide) (by decide) rfl rfl (lw_c6 C hL hi hl hs K)
    by_cases hn7 : x0 = 7
    · exact ip_tsIn (tgt := 293) hx hb dLW_32 hn7 (by decide) (by decide) rfl rfl (lw_c7 C hL hi hl hs K)
    by_cases hn8 : x0 = 8
    · exact ip_tsIn (tgt := 326) hx hb dLW_32 hn8 (by decide) (by decide) rfl rfl (lw_c8 C hL hi hl hs K)
    by_cases hn9 : x0 = 9
    · exact ip_tsIn (tgt := 359) hx hb dLW_32 hn9 (by decide) (by decide) rfl rfl (lw_c9 C hL hi hl hs K)
    by_cases hn10 : x0 = 10
    · exact ip_tsIn (tgt := 392) hx hb dLW_32 hn10 (by decide) (by decide) rfl rfl (lw_c10 C hL hi hl hs K)
    by_cases hn11 : x0 = 11
    · exact ip_tsIn (tgt := 425) hx hb dLW_32 hn11 (by decide) (by decide) rfl rfl (lw_c11 C hL hi hl hs K)
    by_cases hn12 : x0 = 12
    · exact ip_tsIn (tgt := 458) hx hb dLW_32 hn12 (by decide) (by decide) rfl rfl (lw_c12 C hL hi hl hs K)
    by_cases hn13 : x0 = 13
    · exact ip_tsIn (tgt := 481) hx hb dLW_32 hn13 (by decide) (by decide) rfl rfl (lw_c13 C hL hi hl hs K)
    exact lv_tableOut (tgt := 504) hx hb dLW_32 (by have := lv_neT hn0 (a := 0) (by decide); have := lv_neT hn1 (a := 1) (by decide); have := lv_neT hn2 (a := 2) (by decide); have := lv_neT hn3 (a := 3) (by decide); have := lv_neT hn4 (a := 4) (by decide); have := lv_neT hn5 (a := 5) (by decide); have := lv_neT hn6 (a := 6) (by decide); have := lv_neT hn7 (a := 7) (by decide); have := lv_neT hn8 (a := 8) (by decide); have := lv_neT hn9 (a := 9) (by decide); have := lv_neT hn10 (a := 10) (by decide); have := lv_neT hn11 (a := 11) (by decide); have := lv_neT hn12 (a := 12) (by decide); have := lv_neT hn13 (a := 13) (by decide); omega) rfl (K H locs hs)
