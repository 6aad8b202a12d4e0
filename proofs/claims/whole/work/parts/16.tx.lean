set_option maxHeartbeats 4000000 in
set_option maxRecDepth 100000 in
theorem tPR_flat {l : Launch} {dC : Nat → ClassId} {dI : Nat → Nat → Nat} {cI : ClassId} {ad : Nat → Nat} {ts : ip_TT} {v_PR_side : Int32} {v_aRefs : Nat → Int32} {p1 : Int32} {p2 : Int32} {r0 : Int32}  (hf : fPR_flat v_PR_side v_aRefs p1 p2 = some r0) : ip_Mi l yPR_flat wsPR_flat rmPR_flat (dC, dI) vwCl [(cI, .int)] ts [.ref (ad 10), .int p1, .int p2] (wPR_flat ad cI v_PR_side v_aRefs) (wPR_flat ad cI v_PR_side v_aRefs) r0 := by
  refine ip_startI (cc := cPR_flat) (maxL := 4) (by decide) rfl (Nat.le_of_ble_eq_true rfl) ?_
  intro p e s m args below meth c Q A ls hx hb hml hts hown hK hP hD hS hA hZ hl hret
  replace hl : lv_has ls 4 [(0, .ref (ad 10)), (1, .int p1), (2, .int p2)] := hl
  unfold fPR_flat at hf
  suffices J0 : ∀ (ls : Array Slot) (H : Heap) (locs : List Loc), lv_has ls 4 [(0, .ref (ad 10)), (1, .int p1), (2, .int p2)] → va_P (dC, dI) vwCl (wPR_flat ad cI v_PR_side v_aRefs) H → va_D A (wPR_flat ad cI v_PR_side v_aRefs) → va_S A s.heap H locs → W p l e rmPR_flat s m args below meth c H locs 0 0 Q (F0 m 0 ls []) by exact J0 ls s.heap [] hl hP hD hS
  clear hP hD hS hl
  intro ls H locs hl hP hD hS
  refine lv_iload_n hx hb dPR_flat_0 rfl (lv_at hl 1 rfl) ?_
  refine lv_iload_n hx hb dPR_flat_1 rfl (lv_at hl 2 rfl) ?_
  refine lv_iconst (v := (5 : Int32)) hx hb dPR_flat_2 (by decide) ?_
  refine lv_ishr hx hb dPR_flat_3 ?_
  refine lv_iadd hx hb dPR_flat_4 ?_
  refine ip_top hf (fun z1 hf => ?_)
  refine lv_istore_n (lv' := [(3, .int z1), (0, .ref (ad 10)), (1, .int p1), (2, .int p2)]) hx hb dPR_flat_5 rfl hl (by decide) rfl (fun ls hl => ?_)
  refine lv_aload_n hx hb dPR_flat_6 rfl (lv_at hl 1 rfl) ?_
  refine lv_iload_n hx hb dPR_flat_7 rfl (lv_at hl 0 rfl) ?_
  obtain ⟨z2, hc, hf⟩ := ip_b1_e hf
  refine ip_calli (va_runV (As := [.int z1]) (rest := []) ⟨hx, hb, hml, hown, hts⟩ (tPR_left (l := l) (dC := dC) (dI := dI) (ad := ad) (cI := cI) (ts := ts) hc H.size) (cwV 1 hts (ip_gdV (own := kR_PR) (idx := 89) (C := kR_PR) (y := yPR_left) kw3_64 kw3_66 kws_23 kw1_11 kw3_67) rfl rfl rfl (by decide +kernel) ⟨Nat.le_of_ble_eq_true rfl, Nat.le_of_ble_eq_true rfl⟩) (ip_preV hK hP hD hS hA hZ [0, 1] rfl rfl (ci := 10) (q0 := 0) rfl rfl) rfl rfl hl.1 rfl (lv_room (Nat.le_of_ble_eq_true rfl)) dPR_flat_8 ⟨Nat.le_of_ble_eq_true rfl, Nat.le_of_ble_eq_true rfl⟩) hP hD hS hA [0, 1] [] [0, 1] (wPR_flat ad cI v_PR_side v_aRefs) rfl rfl rfl (by decide) rfl rfl (fun H locs hP hD hS => ?_)
  clear hc
  refine lv_aload_n hx hb dPR_flat_11 rfl (lv_at hl 1 rfl) ?_
  refine lv_iload_n hx hb dPR_flat_12 rfl (lv_at hl 0 rfl) ?_
  refine lv_iconst (v := (1 : Int32)) hx hb dPR_flat_13 (by decide) ?_
  refine lv_iadd hx hb dPR_flat_14 ?_
  obtain ⟨z3, hc, hf⟩ := ip_b1_e hf
  refine ip_calli (va_runV (As := [.int (z1 + (1 : Int32))]) (rest := [.int z2]) ⟨hx, hb, hml, hown, hts⟩ (tPR_left (l := l) (dC := dC) (dI := dI) (ad := ad) (cI := cI) (ts := ts) hc H.size) (cwV 1 hts (ip_gdV (own := kR_PR) (idx := 89) (C := kR_PR) (y := yPR_left) kw3_64 kw3_66 kws_23 kw1_11 kw3_67) rfl rfl rfl (by decide +kernel) ⟨Nat.le_of_ble_eq_true rfl, Nat.le_of_ble_eq_true rfl⟩) (ip_preV hK hP hD hS hA hZ [0, 1] rfl rfl (ci := 10) (q0 := 0) rfl rfl) rfl rfl hl.1 rfl (lv_room (Nat.le_of_ble_eq_true rfl)) dPR_flat_15 ⟨Nat.le_of_ble_eq_true rfl, Nat.le_of_ble_eq_true rfl⟩) hP hD hS hA [0, 1] [] [0, 1] (wPR_flat ad cI v_PR_side v_aRefs) rfl rfl rfl (by decide) rfl rfl (fun H locs hP hD hS => ?_)
  clear hc
  refine lv_iload_n hx hb dPR_flat_18 rfl (lv_at hl 3 rfl) ?_
  refine lv_bipush (v := (31 : Int32)) hx hb dPR_flat_19 (by decide) ?_
  refine lv_iand hx hb dPR_flat_21 ?_
  obtain ⟨z4, hc, hf⟩ := ip_b1_e hf
  refine ip_calli (va_runS (As := [.int z2, .int z3, .int (p2 &&& (31 : Int32))]) (rest := []) ⟨hx, hb, hml, hown, hts⟩ (tPR_blend (l := l) (dC := dC) (dI := dI) (ad := ad) (cI := cI) (ts := ts) hc H.size) (va_cwS 3 hts (ip_gdS (own := kR_PR) (idx := 108) (y := yPR_blend) kw3_84 kw3_85 kw1_11 kw3_86) rfl rfl rfl (by decide +kernel) ⟨Nat.le_of_ble_eq_true rfl, Nat.le_of_ble_eq_true rfl⟩) (ip_preS hK hP hD hS hA hZ [] rfl rfl) rfl rfl hl.1 rfl (lv_room (Nat.le_of_ble_eq_true rfl)) dPR_flat_22 ⟨Nat.le_of_ble_eq_true rfl, Nat.le_of_ble_eq_true rfl⟩) hP hD hS hA [] [0, 1] [0, 1] (wPR_flat ad cI v_PR_side v_aRefs) rfl rfl rfl (by decide) rfl rfl (fun H locs hP hD hS => ?_)
  clear hc
  cases hf
  exact hret H locs 25 ls _ dPR_flat_25 rfl hP hD hS
set_option maxHeartbeats 4000000 in
set_option maxRecDepth 100000 in
theorem tPR_corner {l : Launch} {dC : Nat → ClassId} {dI : Nat → Nat → Nat} {cI : ClassId} {ad : Nat → Nat} {ts : ip_TT} {v_PR_side : Int32} {v_aRefs : Nat → Int32}  {r0 : Int32}  (hf : fPR_corner v_PR_side v_aRefs = some r0) : ip_Mi l yPR_corner wsPR_corner rmPR_corner (dC, dI) vwCl [(cI, .int)] ts [.ref (ad 10)] (wPR_corner ad cI v_PR_side v_aRefs) (wPR_corner ad cI v_PR_side v_aRefs) r0 := by
  refine ip_startI (cc := cPR_corner) (maxL := 1) (by decide) rfl (Nat.le_of_ble_eq_true rfl) ?_
  intro p e s m args below meth c Q A ls hx hb hml hts hown hK hP hD hS hA hZ hl hret
  replace hl : lv_has ls 1 [(0, .ref (ad 10))] := hl
  unfold fPR_corner at hf
  suffices J0 : ∀ (ls : Array Slot) (H : Heap) (locs : List Loc), lv_has ls 1 [(0, .ref (ad 10))] → va_P (dC, dI) vwCl (wPR_corner ad cI v_PR_side v_aRefs) H → va_D A (wPR_corner ad cI v_PR_side v_aRefs) → va_S A s.heap H locs → W p l e rmPR_corner s m args below meth c H locs 0 0 Q (F0 m 0 ls []) by exact J0 ls s.heap [] hl hP hD hS
  clear hP hD hS hl
  intro ls H locs hl hP hD hS
  refine lv_aload_n hx hb dPR_corner_0 rfl (lv_at hl 0 rfl) ?_
  refine va_get (D := (dC, dI)) (ci := 10) (v := .ref (ad 28)) (C := kR_PR) (T := kT_PR) (N := 4) hx hb hts kin_PR hown hK hP 0 rfl rfl 1 (by decide) (hts _ (List.mem_cons_of_mem _ kw2_3)) (fun _ h9 => h9) rfl dPR_corner_1 ?_
  refine lv_iconst (v := (2 : Int32)) hx hb dPR_corner_4 (by decide) ?_
  refine lv_aload_n hx hb dPR_corner_5 rfl (lv_at hl 0 rfl) ?_
  refine va_get (D := (dC, dI)) (ci := 10) (v := .int v_PR_side) (C := kR_PR) (T := kT_PR) (N := 4) hx hb hts kin_PR hown hK hP 0 rfl rfl 3 (by decide) (hts _ (List.mem_cons_of_mem _ kw2_5)) (fun _ h9 => h9) rfl dPR_corner_6 ?_
  refine lv_imul hx hb dPR_corner_9 ?_
  refine ip_iald hx hb hK hP 1 0 rfl rfl dPR_corner_10 hf (fun z1 hf => ?_)
  cases hf
  exact hret H locs 11 ls _ dPR_corner_11 rfl hP hD hS
set_option maxHeartbeats 4000000 in
set_option maxRecDepth 100000 in
theorem tPR_diagonal {l : Launch} {dC : Nat → ClassId} {dI : Nat → Nat → Nat} {cI : ClassId} {ad : Nat → Nat} {ts : ip_TT} {v_PR_side : Int32} {v_aRefs : Nat → Int32} {p1 : Int32} {p2 : Int32} {r0 : Int32}  (hf : fPR_diagonal v_PR_side v_aRefs p1 p2 = some r0) : ip_Mi l yPR_diagonal wsPR_diagonal rmPR_diagonal (dC, dI) vwCl [(cI, .int)] ts [.ref (ad 10), .int p1, .int p2] (wPR_diagonal ad cI v_PR_side v_aRefs) (wPR_diagonal ad cI v_PR_side v_aRefs) r0 := by
  refine ip_startI (cc := cPR_diagonal) (maxL := 3) (by decide) rfl (Nat.le_of_ble_eq_true rfl) ?_
  intro p e s m args below meth c Q A ls hx hb hml hts hown hK hP hD hS hA hZ hl hret
  replace hl : lv_has ls 3 [(0, .ref (ad 10)), (1, .int p1), (2, .int p2)] := hl
  unfold fPR_diagonal at hf
  suffices J0 : ∀ (ls : Array Slot) (H : Heap) (locs : List Loc), lv_has ls 3 [(0, .ref (ad 10)), (1, .int p1), (2, .int p2)] → va_P (dC, dI) vwCl (wPR_diagonal ad cI v_PR_side v_aRefs) H → va_D A (wPR_diagonal ad cI v_PR_side v_aRefs) → va_S A s.heap H locs → W p l e rmPR_diagonal s m args below meth c H locs 0 0 Q (F0 m 0 ls []) by exact J0 ls s.heap [] hl hP hD hS
  clear hP hD hS hl
  intro ls H locs hl hP hD hS
  refine lv_iload_n hx hb dPR_diagonal_0 rfl (lv_at hl 1 rfl) ?_
  refine lv_iload_n hx hb dPR_diagonal_1 rfl (lv_at hl 2 rfl) ?_
  refine ip_icmp_ne (tgt := 10) hx hb dPR_diagonal_2 rfl hf (fun hf => ?_) (fun hf => ?_)
  · refine lv_iload_n hx hb dPR_diagonal_10 rfl (lv_at hl 1 rfl) ?_
    refine lv_iload_n hx hb dPR_diagonal_11 rfl (lv_at hl 2 rfl) ?_
    refine ip_icmp_le (tgt := 27) hx hb dPR_diagonal_12 rfl hf (fun hf => ?_) (fun hf => ?_)
    · refine lv_aload_n hx hb dPR_diagonal_27 rfl (lv_at hl 0 rfl) ?_
      refine lv_iload_n hx hb dPR_diagonal_28 rfl (lv_at hl 2 rfl) ?_
      refine lv_iload_n hx hb dPR_diagonal_29 rfl (lv_at hl 1 rfl) ?_
      refine lv_isub hx hb dPR_diagonal_30 ?_
      refine lv_iconst (v := (1 : Int32)) hx hb dPR_diagonal_31 (by decide) ?_
      refine lv_isub hx hb dPR_diagonal_32 ?_
      obtain ⟨z1, hc, hf⟩ := ip_b1_e hf
      refine ip_calli (va_runV (As := [.int ((p2 - p1) - (1 : Int32))]) (rest := []) ⟨hx, hb, hml, hown, hts⟩ (tPR_left (l := l) (dC := dC) (dI := dI) (ad := ad) (cI := cI) (ts := ts) hc H.size) (cwV 1 hts (ip_gdV (own := kR_PR) (idx := 89) (C := kR_PR) (y := yPR_left) kw3_64 kw3_66 kws_23 kw1_11 kw3_67) rfl rfl rfl (by decide +kernel) ⟨Nat.le_of_ble_eq_true rfl, Nat.le_of_ble_eq_true rfl⟩) (ip_preV hK hP hD hS hA hZ [0, 1] rfl rfl (ci := 10) (q0 := 0) rfl rfl) rfl rfl hl.1 rfl (lv_room (Nat.le_of_ble_eq_true rfl)) dPR_diagonal_33 ⟨Nat.le_of_ble_eq_true rfl, Nat.le_of_ble_eq_true rfl⟩) hP hD hS hA [0, 1] [] [0, 1] (wPR_diagonal ad cI v_PR_side v_aRefs) rfl rfl rfl (by decide) rfl rfl (fun H locs hP hD hS => ?_)
      clear hc
      cases hf
      exact hret H locs 36 ls _ dPR_diagonal_36 rfl hP hD hS
    · refine lv_aload_n hx hb dPR_diagonal_15 rfl (lv_at hl 0 rfl) ?_
      refine lv_iload_n hx hb dPR_diagonal_16 rfl (lv_at hl 1 rfl) ?_
      refine lv_iload_n hx hb dPR_diagonal_17 rfl (lv_at hl 2 rfl) ?_
      refine lv_isub hx hb dPR_diagonal_18 ?_
      refine lv_iconst (v := (1 : Int32)) hx hb dPR_diagonal_19 (by decide) ?_
      refine lv_isub hx hb dPR_diagonal_20 ?_
      obtain ⟨z2, hc, hf⟩ := ip_b1_e hf
      refine ip_calli (va_runV (As := [.int ((p1 - p2) - (1 : Int32))]) (rest := []) ⟨hx, hb, hml, hown, hts⟩ (tPR_above (l := l) (dC := dC) (dI := dI) (ad := ad) (cI := cI) (ts := ts) hc H.size) (cwV 1 hts (ip_gdV (own := kR_PR) (idx := 93) (C := kR_PR) (y := yPR_above) kw3_68 kw3_70 kws_24 kw1_11 kw3_71) rfl rfl rfl (by decide +kernel) ⟨Nat.le_of_ble_eq_true rfl, Nat.le_of_ble_eq_true rfl⟩) (ip_preV hK hP hD hS hA hZ [0, 1] rfl rfl (ci := 10) (q0 := 0) rfl rfl) rfl rfl hl.1 rfl (lv_room (Nat.le_of_ble_eq_true rfl)) dPR_diagonal_21 ⟨Nat.le_of_ble_eq_true rfl, Nat.le_of_ble_eq_true rfl⟩) hP hD hS hA [0, 1] [] [0, 1] (wPR_diagonal ad cI v_PR_side v_aRefs) rfl rfl rfl (by decide) rfl rfl (fun H locs hP hD hS => ?_)
      clear hc
      refine lv_goto (tgt := 36) hx hb dPR_diagonal_24 rfl ?_
      cases hf
      exact hret H locs 36 ls _ dPR_diagonal_36 rfl hP hD hS
  · refine lv_aload_n hx hb dPR_diagonal_5 rfl (lv_at hl 0 rfl) ?_
    obtain ⟨z3, hc, hf⟩ := ip_b1_e hf
    refine ip_calli (va_runV (As := []) (rest := []) ⟨hx, hb, hml, hown, hts⟩ (tPR_corner (l := l) (dC := dC) (dI := dI) (ad := ad) (cI := cI) (ts := ts) hc H.size) (cwV 0 hts (ip_gdV (own := kR_PR) (idx := 111) (C := kR_PR) (y := yPR_corner) kw3_95 kw3_97 kws_30 kw1_11 kw3_98) rfl rfl rfl (by decide +kernel) ⟨Nat.le_of_ble_eq_true rfl, Nat.le_of_ble_eq_true rfl⟩) (ip_preV hK hP hD hS hA hZ [0, 1] rfl rfl (ci := 10) (q0 := 0) rfl rfl) rfl rfl hl.1 rfl (lv_room (Nat.le_of_ble_eq_true rfl)) dPR_diagonal_6 ⟨Nat.le_of_ble_eq_true rfl, Nat.le_of_ble_eq_true rfl⟩) hP hD hS hA [0, 1] [] [0, 1] (wPR_diagonal ad cI v_PR_side v_aRefs) rfl rfl rfl (by decide) rfl rfl (fun H locs hP hD hS => ?_)
    clear hc
    cases hf
    exact hret H locs 9 ls _ dPR_diagonal_9 rfl hP hD hS
set_option maxHeartbeats 4000000 in
set_option maxRecDepth 100000 in
theorem tPR_predictAt {l : Launch} {dC : Nat → ClassId} {dI : Nat → Nat → Nat} {cI : ClassId} {ad : Nat → Nat} {ts : ip_TT} {v_PR_side : Int32} {v_aRefs : Nat → Int32} {p1 : Int32} {p2 : Int32} {p3 : Int32} {r0 : Int32}  (hf : fPR_predictAt v_PR_side v_aRefs p1 p2 p3 = some r0) : ip_Mi l yPR_predictAt wsPR_predictAt rmPR_predictAt (dC, dI) vwCl [(cI, .int)] ts [.ref (ad 10), .int p1, .int p2, .int p3] (wPR_predictAt ad cI v_PR_side v_aRefs) (wPR_predictAt ad cI v_PR_side v_aRefs) r0 := by
  refine ip_startI (cc := cPR_predictAt) (maxL := 4) (by decide) rfl (Nat.le_of_ble_eq_true rfl) ?_
  intro p e s m args below meth c Q A ls hx hb hml hts hown hK hP hD hS hA hZ hl hret
  replace hl : lv_has ls 4 [(0, .ref (ad 10)), (1, .int p1), (2, .int p2), (3, .int p3)] := hl
  unfold fPR_predictAt at hf
  suffices J0 : ∀ (ls : Array Slot) (H : Heap) (locs : List Loc), lv_has ls 4 [(0, .ref (ad 10)), (1, .int p1), (2, .int p2), (3, .int p3)] → va_P (dC, dI) vwCl (wPR_predictAt ad cI v_PR_side v_aRefs) H → va_D A (wPR_predictAt ad cI v_PR_side v_aRefs) → va_S A s.heap H locs → W p l e rmPR_predictAt s m args below meth c H locs 0 0 Q (F0 m 0 ls []) by exact J0 ls s.heap [] hl hP hD hS
  clear hP hD hS hl
  intro ls H locs hl hP hD hS
  refine lv_iload_n hx hb dPR_predictAt_0 rfl (lv_at hl 1 rfl) ?_
  by_cases hn0 : p1 = (0 : Int32)
  · rw [if_pos hn0] at hf
    refine ip_tsIn (tgt := 44) hx hb dPR_predictAt_1 hn0 (by decide) (by decide) rfl rfl ?_
    refine lv_aload_n hx hb dPR_predictAt_44 rfl (lv_at hl 0 rfl) ?_
    refine lv_iload_n hx hb dPR_predictAt_45 rfl (lv_at hl 2 rfl) ?_
    refine lv_iload_n hx hb dPR_predictAt_46 rfl (lv_at hl 3 rfl) ?_
    obtain ⟨z1, hc, hf⟩ := ip_b1_e hf
    refine ip_calli (va_runV (As := [.int p2, .int p3]) (rest := []) ⟨hx, hb, hml, hown, hts⟩ (tPR_plane (l := l) (dC := dC) (dI := dI) (ad := ad) (cI := cI) (ts := ts) hc H.size) (cwV 2 hts (ip_gdV (own := kR_PR) (idx := 96) (C := kR_PR) (y := yPR_plane) kw3_76 kw3_78 kws_26 kw1_11 kw3_79) rfl rfl rfl (by decide +kernel) ⟨Nat.le_of_ble_eq_true rfl, Nat.le_of_ble_eq_true rfl⟩) (ip_preV hK hP hD hS hA hZ [0, 1] rfl rfl (ci := 10) (q0 := 0) rfl rfl) rfl rfl hl.1 rfl (lv_room (Nat.le_of_ble_eq_true rfl)) dPR_predictAt_47 ⟨Nat.le_of_ble_eq_true rfl, Nat.le_of_ble_eq_true rfl⟩) hP hD hS hA [0, 1] [] [0, 1] (wPR_predictAt ad cI v_PR_side v_aRefs) rfl rfl rfl (by decide) rfl rfl (fun H locs hP hD hS => ?_)
    clear hc
    cases hf
    exact hret H locs 50 ls _ dPR_predictAt_50 rfl hP hD hS
  · rw [if_neg hn0] at hf
    by_cases hn1 : p1 = (1 : Int32)
    · rw [if_pos hn1] at hf
      refine ip_tsIn (tgt := 97) hx hb dPR_predictAt_1 hn1 (by decide) (by decide) rfl rfl ?_
      refine lv_aload_n hx hb dPR_predictAt_97 rfl (lv_at hl 0 rfl) ?_
      refine lv_iload_n hx hb dPR_predictAt_98 rfl (lv_at hl 2 rfl) ?_
      refine lv_iload_n hx hb dPR_predictAt_99 rfl (lv_at hl 3 rfl) ?_
      obtain ⟨z2, hc, hf⟩ := ip_b1_e hf
      refine ip_calli (va_runV (As := [.int p2, .int p3]) (rest := []) ⟨hx, hb, hml, hown, hts⟩ (tPR_diagonal (l := l) (dC := dC) (dI := dI) (ad := ad) (cI := cI) (ts := ts) hc H.size) (cwV 2 hts (ip_gdV (own := kR_PR) (idx := 105) (C := kR_PR) (y := yPR_diagonal) kw3_91 kw3_93 kws_29 kw1_11 kw3_94) rfl rfl rfl (by decide +kernel) ⟨Nat.le_of_ble_eq_true rfl, Nat.le_of_ble_eq_true rfl⟩) (ip_preV hK hP hD hS hA hZ [0, 1] rfl rfl (ci := 10) (q0 := 0) rfl rfl) rfl rfl hl.1 rfl (lv_room (Nat.le_of_ble_eq_true rfl)) dPR_predictAt_100 ⟨Nat.le_of_ble_eq_true rfl, Nat.le_of_ble_eq_true rfl⟩) hP hD hS hA [0, 1] [] [0, 1] (wPR_predictAt ad cI v_PR_side v_aRefs) rfl rfl rfl (by decide) rfl rfl (fun H locs hP hD hS => ?_)
      clear hc
      cases hf
      exact hret H locs 103 ls _ dPR_predictAt_103 rfl hP hD hS
    · rw [if_neg hn1] at hf
      by_cases hn2 : p1 = (2 : Int32)
      · rw [if_pos hn2] at hf
        refine ip_tsIn (tgt := 51) hx hb dPR_predictAt_1 hn2 (by decide) (by decide) rfl rfl ?_
        refine lv_aload_n hx hb dPR_predictAt_51 rfl (lv_at hl 0 rfl) ?_
        refine lv_iload_n hx hb dPR_predictAt_52 rfl (lv_at hl 3 rfl) ?_
        obtain ⟨z3, hc, hf⟩ := ip_b1_e hf
        refine ip_calli (va_runV (As := [.int p3]) (rest := []) ⟨hx, hb, hml, hown, hts⟩ (tPR_left (l := l) (dC := dC) (dI := dI) (ad := ad) (cI := cI) (ts := ts) hc H.size) (cwV 1 hts (ip_gdV (own := kR_PR) (idx := 89) (C := kR_PR) (y := yPR_left) kw3_64 kw3_66 kws_23 kw1_11 kw3_67) rfl rfl rfl (by decide +kernel) ⟨Nat.le_of_ble_eq_true rfl, Nat.le_of_ble_eq_true rfl⟩) (ip_preV hK hP hD hS hA hZ [0, 1] rfl rfl (ci := 10) (q0 := 0) rfl rfl) rfl rfl hl.1 rfl (lv_room (Nat.le_of_ble_eq_true rfl)) dPR_predictAt_53 ⟨Nat.le_of_ble_eq_true rfl, Nat.le_of_ble_eq_true rfl⟩) hP hD hS hA [0, 1] [] [0, 1] (wPR_predictAt ad cI v_PR_side v_aRefs) rfl rfl rfl (by decide) rfl rfl (fun H locs hP hD hS => ?_)
        clear hc
        cases hf
        exact hret H locs 56 ls _ dPR_predictAt_56 rfl hP hD hS
      · rw [if_neg hn2] at hf
        by_cases hn3 : p1 = (3 : Int32)
        · rw [if_pos hn3] at hf
          refine ip_tsIn (tgt := 57) hx hb dPR_predictAt_1 hn3 (by decide) (by decide) rfl rfl ?_
          refine lv_aload_n hx hb dPR_predictAt_57 rfl (lv_at hl 0 rfl) ?_
          refine lv_iload_n hx hb dPR_predictAt_58 rfl (lv_at hl 2 rfl) ?_
          obtain ⟨z4, hc, hf⟩ := ip_b1_e hf
          refine ip_calli (va_runV (As := [.int p2]) (rest := []) ⟨hx, hb, hml, hown, hts⟩ (tPR_above (l := l) (dC := dC) (dI := dI) (ad := ad) (cI := cI) (ts := ts) hc H.size) (cwV 1 hts (ip_gdV (own := kR_PR) (idx := 93) (C := kR_PR) (y := yPR_above) kw3_68 kw3_70 kws_24 kw1_11 kw3_71) rfl rfl rfl (by decide +kernel) ⟨Nat.le_of_ble_eq_true rfl, Nat.le_of_ble_eq_true rfl⟩) (ip_preV hK hP hD hS hA hZ [0, 1] rfl rfl (ci := 10) (q0 := 0) rfl rfl) rfl rfl hl.1 rfl (lv_room (Nat.le_of_ble_eq_true rfl)) dPR_predictAt_59 ⟨Nat.le_of_ble_eq_true rfl, Nat.le_of_ble_eq_true rfl⟩) hP hD hS hA [0, 1] [] [0, 1] (wPR_predictAt ad cI v_PR_side v_aRefs) rfl rfl rfl (by decide) rfl rfl (fun H locs hP hD hS => ?_)
          clear hc
          cases hf
          exact hret H locs 62 ls _ dPR_predictAt_62 rfl hP hD hS
        · rw [if_neg hn3] at hf
          by_cases hn4 : p1 = (4 : Int32)
          · rw [if_pos hn4] at hf
            refine ip_tsIn (tgt := 63) hx hb dPR_predictAt_1 hn4 (by decide) (by decide) rfl rfl ?_
            refine lv_aload_n hx hb dPR_predictAt_63 rfl (lv_at hl 0 rfl) ?_
            refine lv_iload_n hx hb dPR_predictAt_64 rfl (lv_at hl 2 rfl) ?_
            refine lv_bipush (v := (13 : Int32)) hx hb dPR_predictAt_65 (by decide) ?_
            refine lv_iload_n hx hb dPR_predictAt_67 rfl (lv_at hl 3 rfl) ?_
            refine lv_iconst (v := (1 : Int32)) hx hb dPR_predictAt_68 (by decide) ?_
            refine lv_iadd hx hb dPR_predictAt_69 ?_
            refine lv_imul hx hb dPR_predictAt_70 ?_
            obtain ⟨z5, hc, hf⟩ := ip_b1_e hf
            refine ip_calli (va_runV (As := [.int p2, .int ((13 : Int32) * (p3 + (1 : Int32)))]) (rest := []) ⟨hx, hb, hml, hown, hts⟩ (tPR_steep (l := l) (dC := dC) (dI := dI) (ad := ad) (cI := cI) (ts := ts) hc H.size) (cwV 2 hts (ip_gdV (own := kR_PR) (idx := 99) (C := kR_PR) (y := yPR_steep) kw3_80 kw3_82 kws_27 kw1_11 kw3_83) rfl rfl rfl (by decide +kernel) ⟨Nat.le_of_ble_eq_true rfl, Nat.le_of_ble_eq_true rfl⟩) (ip_preV hK hP hD hS hA hZ [0, 1] rfl rfl (ci := 10) (q0 := 0) rfl rfl) rfl rfl hl.1 rfl (lv_room (Nat.le_of_ble_eq_true rfl)) dPR_predictAt_71 ⟨Nat.le_of_ble_eq_true rfl, Nat.le_of_ble_eq_true rfl⟩) hP hD hS hA [0, 1] [] [0, 1] (wPR_predictAt ad cI v_PR_side v_aRefs) rfl rfl rfl (by decide) rfl rfl (fun H locs hP hD hS => ?_)
            clear hc
            cases hf
            exact hret H locs 74 ls _ dPR_predictAt_74 rfl hP hD hS
          · rw [if_neg hn4] at hf
            by_cases hn5 : p1 = (5 : Int32)
            · rw [if_pos hn5] at hf
              refine ip_tsIn (tgt := 75) hx hb dPR_predictAt_1 hn5 (by decide) (by decide) rfl rfl ?_
              refine lv_aload_n hx hb dPR_predictAt_75 rfl (lv_at hl 0 rfl) ?_
              refine lv_iload_n hx hb dPR_predictAt_76 rfl (lv_at hl 2 rfl) ?_
              refine lv_iload_n hx hb dPR_predictAt_77 rfl (lv_at hl 3 rfl) ?_
              refine lv_iadd hx hb dPR_predictAt_78 ?_
              refine lv_iconst (v := (1 : Int32)) hx hb dPR_predictAt_79 (by decide) ?_
              refine lv_iadd hx hb dPR_predictAt_80 ?_
              obtain ⟨z6, hc, hf⟩ := ip_b1_e hf
              refine ip_calli (va_runV (As := [.int ((p2 + p3) + (1 : Int32))]) (rest := []) ⟨hx, hb, hml, hown, hts⟩ (tPR_above (l := l) (dC := dC) (dI := dI) (ad := ad) (cI := cI) (ts := ts) hc H.size) (cwV 1 hts (ip_gdV (own := kR_PR) (idx := 93) (C := kR_PR) (y := yPR_above) kw3_68 kw3_70 kws_24 kw1_11 kw3_71) rfl rfl rfl (by decide +kernel) ⟨Nat.le_of_ble_eq_true rfl, Nat.le_of_ble_eq_true rfl⟩) (ip_preV hK hP hD hS hA hZ [0, 1] rfl rfl (ci := 10) (q0 := 0) rfl rfl) rfl rfl hl.1 rfl (lv_room (Nat.le_of_ble_eq_true rfl)) dPR_predictAt_81 ⟨Nat.le_of_ble_eq_true rfl, Nat.le_of_ble_eq_true rfl⟩) hP hD hS hA [0, 1] [] [0, 1] (wPR_predictAt ad cI v_PR_side v_aRefs) rfl rfl rfl (by decide) rfl rfl (fun H locs hP hD hS => ?_)
              clear hc
              cases hf
              exact hret H locs 84 ls _ dPR_predictAt_84 rfl hP hD hS
            · rw [if_neg hn5] at hf
              by_cases hn6 : p1 = (6 : Int32)
              · rw [if_pos hn6] at hf
                refine ip_tsIn (tgt := 85) hx hb dPR_predictAt_1 hn6 (by decide) (by decide) rfl rfl ?_
                refine lv_aload_n hx hb dPR_predictAt_85 rfl (lv_at hl 0 rfl) ?_
                refine lv_iload_n hx hb dPR_predictAt_86 rfl (lv_at hl 3 rfl) ?_
                refine lv_bipush (v := (26 : Int32)) hx hb dPR_predictAt_87 (by decide) ?_
                refine lv_iload_n hx hb dPR_predictAt_89 rfl (lv_at hl 2 rfl) ?_
                refine lv_iconst (v := (1 : Int32)) hx hb dPR_predictAt_90 (by decide) ?_
                refine lv_iadd hx hb dPR_predictAt_91 ?_
                refine lv_imul hx hb dPR_predictAt_92 ?_
                obtain ⟨z7, hc, hf⟩ := ip_b1_e hf
                refine ip_calli (va_runV (As := [.int p3, .int ((26 : Int32) * (p2 + (1 : Int32)))]) (rest := []) ⟨hx, hb, hml, hown, hts⟩ (tPR_flat (l := l) (dC := dC) (dI := dI) (ad := ad) (cI := cI) (ts := ts) hc H.size) (cwV 2 hts (ip_gdV (own := kR_PR) (idx := 102) (C := kR_PR) (y := yPR_flat) kw3_87 kw3_89 kws_28 kw1_11 kw3_90) rfl rfl rfl (by decide +kernel) ⟨Nat.le_of_ble_eq_true rfl, Nat.le_of_ble_eq_true rfl⟩) (ip_preV hK hP hD hS hA hZ [0, 1] rfl rfl (ci := 10) (q0 := 0) rfl rfl) rfl rfl hl.1 rfl (lv_room (Nat.le_of_ble_eq_true rfl)) dPR_predictAt_93 ⟨Nat.le_of_ble_eq_true rfl, Nat.le_of_ble_eq_true rfl⟩) hP hD hS hA [0, 1] [] [0, 1] (wPR_predictAt ad cI v_PR_side v_aRefs) rfl rfl rfl (by decide) rfl rfl (fun H locs hP hD hS => ?_)
                clear hc
                cases hf
                exact hret H locs 96 ls _ dPR_predictAt_96 rfl hP hD hS
              · rw [if_neg hn6] at hf
                refine lv_tableOut (tgt := 97) hx hb dPR_predictAt_1 (by have := lv_neT hn0 (a := 0) (by decide); have := lv_neT hn1 (a := 1) (by decide); have := lv_neT hn2 (a := 2) (by decide); have := lv_neT hn3 (a := 3) (by decide); have := lv_neT hn4 (a := 4) (by decide); have := lv_neT hn5 (a := 5) (by decide); have := lv_neT hn6 (a := 6) (by decide); omega) rfl ?_
                refine lv_aload_n hx hb dPR_predictAt_97 rfl (lv_at hl 0 rfl) ?_
                refine lv_iload_n hx hb dPR_predictAt_98 rfl (lv_at hl 2 rfl) ?_
                refine lv_iload_n hx hb dPR_predictAt_99 rfl (lv_at hl 3 rfl) ?_
                obtain ⟨z8, hc, hf⟩ := ip_b1_e hf
                refine ip_calli (va_runV (As := [.int p2, .int p3]) (rest := []) ⟨hx, hb, hml, hown, hts⟩ (tPR_diagonal (l := l) (dC := dC) (dI := dI) (ad := ad) (cI := cI) (ts := ts) hc H.size) (cwV 2 hts (ip_gdV (own := kR_PR) (idx := 105) (C := kR_PR) (y := yPR_diagonal) kw3_91 kw3_93 kws_29 kw1_11 kw3_94) rfl rfl rfl (by decide +kernel) ⟨Nat.le_of_ble_eq_true rfl, Nat.le_of_ble_eq_true rfl⟩) (ip_preV hK hP hD hS hA hZ [0, 1] rfl rfl (ci := 10) (q0 := 0) rfl rfl) rfl rfl hl.1 rfl (lv_room (Nat.le_of_ble_eq_true rfl)) dPR_predictAt_100 ⟨Nat.le_of_ble_eq_true rfl, Nat.le_of_ble_eq_true rfl⟩) hP hD hS hA [0, 1] [] [0, 1] (wPR_predictAt ad cI v_PR_side v_aRefs) rfl rfl rfl (by decide) rfl rfl (fun H locs hP hD hS => ?_)
                clear hc
                cases hf
                exact hret H locs 103 ls _ dPR_predictAt_103 rfl hP hD hS
set_option maxHeartbeats 4000000 in
set_option maxRecDepth 100000 in
theorem tPR_predict {l : Launch} {dC : Nat → ClassId} {dI : Nat → Nat → Nat} {cI : ClassId} {ad : Nat → Nat} {ts : ip_TT} {v_LF_x : Int32} {v_LF_y : Int32} {v_LF_side : Int32} {v_LF_mode : Int32} {v_LF_skip : Int32} {v_PR_side : Int32} {v_aPlain : Nat → Int32} {v_aPredicted : Nat → Int32} {v_aSides : Nat → Int32} {v_aRefs : Nat → Int32} {v_aUnsm : Nat → Int32}  {nv_PR_side : Int32} {nv_aPredicted : Nat → Int32} {nv_aRefs : Nat → Int32} {nv_aUnsm : Nat → Int32} (hf : fPR_predict v_LF_x v_LF_y v_LF_side v_LF_mode v_LF_skip v_PR_side v_aPlain v_aPredicted v_aSides v_aRefs v_aUnsm = some (nv_PR_side, nv_aPredicted, nv_aRefs, nv_aUnsm)) : ip_Mv l yPR_predict wsPR_predict rmPR_predict (dC, dI) vwCl [(cI, .int)] ts [.ref (ad 10), .ref (ad 5)] (wPR_predict ad cI v_LF_x v_LF_y v_LF_side v_LF_mode v_LF_skip v_PR_side v_aPlain v_aPredicted v_aSides v_aRefs v_aUnsm) (wPR_predict ad cI v_LF_x v_LF_y v_LF_side v_LF_mode v_LF_skip nv_PR_side v_aPlain nv_aPredicted v_aSides nv_aRefs nv_aUnsm) := by
  refine ip_startV (cc := cPR_predict) (maxL := 6) (by decide) rfl (Nat.le_of_ble_eq_true rfl) ?_
  intro p e s m args below meth c Q A ls hx hb hml hts hown hK hP hD hS hA hZ hl hret
  replace hl : lv_has ls 6 [(0, .ref (ad 10)), (1, .ref (ad 5))] := hl
  unfold fPR_predict at hf
  suffices J0 : ∀ (ls : Array Slot) (H : Heap) (locs : List Loc), lv_has ls 6 [(0, .ref (ad 10)), (1, .ref (ad 5))] → va_P (dC, dI) vwCl (wPR_predict ad cI v_LF_x v_LF_y v_LF_side v_LF_mode v_LF_skip v_PR_side v_aPlain v_aPredicted v_aSides v_aRefs v_aUnsm) H → va_D A (wPR_predict ad cI v_LF_x v_LF_y v_LF_side v_LF_mode v_LF_skip v_PR_side v_aPlain v_aPredicted v_aSides v_aRefs v_aUnsm) → va_S A s.heap H locs → W p l e rmPR_predict s m args below meth c H locs 0 0 Q (F0 m 0 ls []) by exact J0 ls s.heap [] hl hP hD hS
  clear hP hD hS hl
  intro ls H locs hl hP hD hS
  refine lv_aload_n hx hb dPR_predict_0 rfl (lv_at hl 0 rfl) ?_
  refine lv_aload_n hx hb dPR_predict_1 rfl (lv_at hl 1 rfl) ?_
  refine va_get (D := (dC, dI)) (ci := 5) (v := .int v_LF_side) (C := kR_LF) (T := kT_LF) (N := 5) hx hb hts kin_LF hown hK hP 0 rfl rfl 2 (by decide) (hts _ (List.mem_cons_of_mem _ kw1_171)) (fun _ h9 => h9) rfl dPR_predict_2 ?_
  refine va_put (D := (dC, dI)) (ci := 10) (v := .int v_LF_side) (ty := .int) (C := kR_PR) (T := kT_PR) (N := 4) hx hb hts kin_PR kty_PR kto_PR knm_PR hown hK hP hD hS 2 rfl rfl 3 (by decide) (hts _ (List.mem_cons_of_mem _ kw2_5)) (fun _ h9 => h9) rfl (by decide +kernel) rfl rfl (Nat.le_of_ble_eq_true rfl) dPR_predict_5 (fun H locs hP hD hS => ?_)
  replace hP : va_P (dC, dI) vwCl (wPR_predict ad cI v_LF_x v_LF_y v_LF_side v_LF_mode v_LF_skip v_LF_side v_aPlain v_aPredicted v_aSides v_aRefs v_aUnsm) H := hP
  replace hD : va_D A (wPR_predict ad cI v_LF_x v_LF_y v_LF_side v_LF_mode v_LF_skip v_LF_side v_aPlain v_aPredicted v_aSides v_aRefs v_aUnsm) := hD
  refine lv_aload_n hx hb dPR_predict_8 rfl (lv_at hl 0 rfl) ?_
  refine lv_aload_n hx hb dPR_predict_9 rfl (lv_at hl 1 rfl) ?_
  obtain ⟨g1, hc, hf⟩ := ip_b1_e hf
  refine ip_callv (va_runV (As := [.ref (ad 5)]) (rest := []) ⟨hx, hb, hml, hown, hts⟩ (tPR_collect (l := l) (dC := dC) (dI := dI) (ad := ad) (cI := cI) (ts := ts) hc H.size) (cwV 1 hts (ip_gdV (own := kR_PR) (idx := 29) (C := kR_PR) (y := yPR_collect) kw3_44 kw3_46 kws_19 kw1_11 kw3_47) rfl rfl rfl (by decide +kernel) ⟨Nat.le_of_ble_eq_true rfl, Nat.le_of_ble_eq_true rfl⟩) (ip_preV hK hP hD hS hA hZ [0, 1, 2, 3, 5, 6] rfl rfl (ci := 10) (q0 := 2) rfl rfl) rfl rfl hl.1 rfl (lv_room (Nat.le_of_ble_eq_true rfl)) dPR_predict_10 ⟨Nat.le_of_ble_eq_true rfl, Nat.le_of_ble_eq_true rfl⟩) hP hD hS hA [0, 1, 2, 3, 5, 6] [4, 7] [2, 3, 4, 5, 0, 6, 7, 1] (wPR_predict ad cI v_LF_x v_LF_y v_LF_side v_LF_mode v_LF_skip v_LF_side v_aPlain v_aPredicted v_aSides g1 v_aUnsm) rfl rfl rfl (by decide) rfl rfl (fun H locs hP hD hS => ?_)
  clear hc
  refine lv_aload_n hx hb dPR_predict_13 rfl (lv_at hl 0 rfl) ?_
  obtain ⟨g2, hc, hf⟩ := ip_b1_e hf
  refine ip_callv (va_runV (As := []) (rest := []) ⟨hx, hb, hml, hown, hts⟩ (tPR_fillGaps (l := l) (dC := dC) (dI := dI) (ad := ad) (cI := cI) (ts := ts) hc H.size) (cwV 0 hts (ip_gdV (own := kR_PR) (idx := 33) (C := kR_PR) (y := yPR_fillGaps) kw3_51 kw3_53 kws_20 kw1_11 kw3_54) rfl rfl rfl (by decide +kernel) ⟨Nat.le_of_ble_eq_true rfl, Nat.le_of_ble_eq_true rfl⟩) (ip_preV hK hP hD hS hA hZ [2, 6] rfl rfl (ci := 10) (q0 := 2) rfl rfl) rfl rfl hl.1 rfl (lv_room (Nat.le_of_ble_eq_true rfl)) dPR_predict_14 ⟨Nat.le_of_ble_eq_true rfl, Nat.le_of_ble_eq_true rfl⟩) hP hD hS hA [2, 6] [0, 1, 3, 4, 5, 7] [0, 1, 6, 2, 3, 4, 7, 5] (wPR_predict ad cI v_LF_x v_LF_y v_LF_side v_LF_mode v_LF_skip v_LF_side v_aPlain v_aPredicted v_aSides g2 v_aUnsm) rfl rfl rfl (by decide) rfl rfl (fun H locs hP hD hS => ?_)
  clear hc
  refine lv_aload_n hx hb dPR_predict_17 rfl (lv_at hl 0 rfl) ?_
  refine va_get (D := (dC, dI)) (ci := 10) (v := .int v_LF_side) (C := kR_PR) (T := kT_PR) (N := 4) hx hb hts kin_PR hown hK hP 2 rfl rfl 3 (by decide) (hts _ (List.mem_cons_of_mem _ kw2_5)) (fun _ h9 => h9) rfl dPR_predict_18 ?_
  refine lv_bipush (v := (8 : Int32)) hx hb dPR_predict_21 (by decide) ?_
  obtain ⟨g3, g4, hh, hf⟩ := ip_b2_e hf
  suffices J54 : ∀ (ls : Array Slot) (H : Heap) (locs : List Loc), lv_has ls 6 [(0, .ref (ad 10)), (1, .ref (ad 5))] → va_P (dC, dI) vwCl (wPR_predict ad cI v_LF_x v_LF_y v_LF_side v_LF_mode v_LF_skip v_LF_side v_aPlain v_aPredicted v_aSides g3 g4) H → va_D A (wPR_predict ad cI v_LF_x v_LF_y v_LF_side v_LF_mode v_LF_skip v_LF_side v_aPlain v_aPredicted v_aSides g3 g4) → va_S A s.heap H locs → W p l e rmPR_predict s m args below meth c H locs 0 0 Q (F0 m 54 ls []) by
    replace hf := hh
    refine ip_icmp_ne (tgt := 54) hx hb dPR_predict_23 rfl hf (fun hf => ?_) (fun hf => ?_)
    · cases hf
      exact J54 ls H locs hl hP hD hS
    · refine lv_aload_n hx hb dPR_predict_26 rfl (lv_at hl 1 rfl) ?_
      refine va_get (D := (dC, dI)) (ci := 5) (v := .int v_LF_mode) (C := kR_LF) (T := kT_LF) (N := 5) hx hb hts kin_LF hown hK hP 0 rfl rfl 3 (by decide) (hts _ (List.mem_cons_of_mem _ kw1_175)) (fun _ h9 => h9) rfl dPR_predict_27 ?_
      refine ip_if_eq (tgt := 50) hx hb dPR_predict_30 rfl hf (fun hf => ?_) (fun hf => ?_)
      · refine lv_aload_n hx hb dPR_predict_50 rfl (lv_at hl 0 rfl) ?_
        obtain ⟨g5, g6, hc, hf⟩ := ip_b2_e hf
        refine ip_callv (va_runV (As := []) (rest := []) ⟨hx, hb, hml, hown, hts⟩ (tPR_smooth (l := l) (dC := dC) (dI := dI) (ad := ad) (cI := cI) (ts := ts) hc H.size) (cwV 0 hts (ip_gdV (own := kR_PR) (idx := 39) (C := kR_PR) (y := yPR_smooth) kw3_55 kw3_57 kws_21 kw1_11 kw3_58) rfl rfl rfl (by decide +kernel) ⟨Nat.le_of_ble_eq_true rfl, Nat.le_of_ble_eq_true rfl⟩) (ip_preV hK hP hD hS hA hZ [2, 6, 7] rfl rfl (ci := 10) (q0 := 2) rfl rfl) rfl rfl hl.1 rfl (lv_room (Nat.le_of_ble_eq_true rfl)) dPR_predict_51 ⟨Nat.le_of_ble_eq_true rfl, Nat.le_of_ble_eq_true rfl⟩) hP hD hS hA [2, 6, 7] [0, 1, 3, 4, 5] [0, 1, 5, 2, 3, 4, 6, 7] (wPR_predict ad cI v_LF_x v_LF_y v_LF_side v_LF_mode v_LF_skip v_LF_side v_aPlain v_aPredicted v_aSides g5 g6) rfl rfl rfl (by decide) rfl rfl (fun H locs hP hD hS => ?_)
        clear hc
        cases hf
        exact J54 ls H locs hl hP hD hS
      · refine lv_aload_n hx hb dPR_predict_33 rfl (lv_at hl 1 rfl) ?_
        refine va_get (D := (dC, dI)) (ci := 5) (v := .int v_LF_mode) (C := kR_LF) (T := kT_LF) (N := 5) hx hb hts kin_LF hown hK hP 0 rfl rfl 3 (by decide) (hts _ (List.mem_cons_of_mem _ kw1_175)) (fun _ h9 => h9) rfl dPR_predict_34 ?_
        refine lv_iconst (v := (5 : Int32)) hx hb dPR_predict_37 (by decide) ?_
        refine ip_icmp_eq (tgt := 50) hx hb dPR_predict_38 rfl hf (fun hf => ?_) (fun hf => ?_)
        · refine lv_aload_n hx hb dPR_predict_50 rfl (lv_at hl 0 rfl) ?_
          obtain ⟨g7, g8, hc, hf⟩ := ip_b2_e hf
          refine ip_callv (va_runV (As := []) (rest := []) ⟨hx, hb, hml, hown, hts⟩ (tPR_smooth (l := l) (dC := dC) (dI := dI) (ad := ad) (cI := cI) (ts := ts) hc H.size) (cwV 0 hts (ip_gdV (own := kR_PR) (idx := 39) (C := kR_PR) (y := yPR_smooth) kw3_55 kw3_57 kws_21 kw1_11 kw3_58) rfl rfl rfl (by decide +kernel) ⟨Nat.le_of_ble_eq_true rfl, Nat.le_of_ble_eq_true rfl⟩) (ip_preV hK hP hD hS hA hZ [2, 6, 7] rfl rfl (ci := 10) (q0 := 2) rfl rfl) rfl rfl hl.1 rfl (lv_room (Nat.le_of_ble_eq_true rfl)) dPR_predict_51 ⟨Nat.le_of_ble_eq_true rfl, Nat.le_of_ble_eq_true rfl⟩) hP hD hS hA [2, 6, 7] [0, 1, 3, 4, 5] [0, 1, 5, 2, 3, 4, 6, 7] (wPR_predict ad cI v_LF_x v_LF_y v_LF_side v_LF_mode v_LF_skip v_LF_side v_aPlain v_aPredicted v_aSides g7 g8) rfl rfl rfl (by decide) rfl rfl (fun H locs hP hD hS => ?_)
          clear hc
          cases hf
          exact J54 ls H locs hl hP hD hS
        · refine lv_aload_n hx hb dPR_predict_41 rfl (lv_at hl 1 rfl) ?_
          refine va_get (D := (dC, dI)) (ci := 5) (v := .int v_LF_mode) (C := kR_LF) (T := kT_LF) (N := 5) hx hb hts kin_LF hown hK hP 0 rfl rfl 3 (by decide) (hts _ (List.mem_cons_of_mem _ kw1_175)) (fun _ h9 => h9) rfl dPR_predict_42 ?_
          refine lv_bipush (v := (7 : Int32)) hx hb dPR_predict_45 (by decide) ?_
          refine ip_icmp_ne (tgt := 54) hx hb dPR_predict_47 rfl hf (fun hf => ?_) (fun hf => ?_)
          · cases hf
            exact J54 ls H locs hl hP hD hS
          · refine lv_aload_n hx hb dPR_predict_50 rfl (lv_at hl 0 rfl) ?_
            obtain ⟨g9, g10, hc, hf⟩ := ip_b2_e hf
            refine ip_callv (va_runV (As := []) (rest := []) ⟨hx, hb, hml, hown, hts⟩ (tPR_smooth (l := l) (dC := dC) (dI := dI) (ad := ad) (cI := cI) (ts := ts) hc H.size) (cwV 0 hts (ip_gdV (own := kR_PR) (idx := 39) (C := kR_PR) (y := yPR_smooth) kw3_55 kw3_57 kws_21 kw1_11 kw3_58) rfl rfl rfl (by decide +kernel) ⟨Nat.le_of_ble_eq_true rfl, Nat.le_of_ble_eq_true rfl⟩) (ip_preV hK hP hD hS hA hZ [2, 6, 7] rfl rfl (ci := 10) (q0 := 2) rfl rfl) rfl rfl hl.1 rfl (lv_room (Nat.le_of_ble_eq_true rfl)) dPR_predict_51 ⟨Nat.le_of_ble_eq_true rfl, Nat.le_of_ble_eq_true rfl⟩) hP hD hS hA [2, 6, 7] [0, 1, 3, 4, 5] [0, 1, 5, 2, 3, 4, 6, 7] (wPR_predict ad cI v_LF_x v_LF_y v_LF_side v_LF_mode v_LF_skip v_LF_side v_aPlain v_aPredicted v_aSides g9 g10) rfl rfl rfl (by decide) rfl rfl (fun H locs hP hD hS => ?_)
            clear hc
            cases hf
            exact J54 ls H locs hl hP hD hS
  intro ls H locs hl hP hD hS
  clear hh
  refine lv_aload_n hx hb dPR_predict_54 rfl (lv_at hl 1 rfl) ?_
  refine va_get (D := (dC, dI)) (ci := 5) (v := .int v_LF_mode) (C := kR_LF) (T := kT_LF) (N := 5) hx hb hts kin_LF hown hK hP 0 rfl rfl 3 (by decide) (hts _ (List.mem_cons_of_mem _ kw1_175)) (fun _ h9 => h9) rfl dPR_predict_55 ?_
  refine lv_iconst (v := (1 : Int32)) hx hb dPR_predict_58 (by decide) ?_
  obtain ⟨z11, hh, hf⟩ := ip_b1_e hf
  suffices J70 : ∀ (ls : Array Slot) (H : Heap) (locs : List Loc), lv_has ls 6 [(0, .ref (ad 10)), (1, .ref (ad 5))] → va_P (dC, dI) vwCl (wPR_predict ad cI v_LF_x v_LF_y v_LF_side v_LF_mode v_LF_skip v_LF_side v_aPlain v_aPredicted v_aSides g3 g4) H → va_D A (wPR_predict ad cI v_LF_x v_LF_y v_LF_side v_LF_mode v_LF_skip v_LF_side v_aPlain v_aPredicted v_aSides g3 g4) → va_S A s.heap H locs → W p l e rmPR_predict s m args below meth c H locs 0 0 Q (F0 m 70 ls [.int z11]) by
    replace hf := hh
    refine ip_icmp_ne (tgt := 69) hx hb dPR_predict_59 rfl hf (fun hf => ?_) (fun hf => ?_)
    · refine lv_iconst (v := (0 : Int32)) hx hb dPR_predict_69 (by decide) ?_
      cases hf
      exact J70 ls H locs hl hP hD hS
    · refine lv_aload_n hx hb dPR_predict_62 rfl (lv_at hl 0 rfl) ?_
      obtain ⟨z12, hc, hf⟩ := ip_b1_e hf
      refine ip_calli (va_runV (As := []) (rest := []) ⟨hx, hb, hml, hown, hts⟩ (tPR_mean (l := l) (dC := dC) (dI := dI) (ad := ad) (cI := cI) (ts := ts) hc H.size) (cwV 0 hts (ip_gdV (own := kR_PR) (idx := 42) (C := kR_PR) (y := yPR_mean) kw3_60 kw3_62 kws_22 kw1_11 kw3_63) rfl rfl rfl (by decide +kernel) ⟨Nat.le_of_ble_eq_true rfl, Nat.le_of_ble_eq_true rfl⟩) (ip_preV hK hP hD hS hA hZ [2, 6] rfl rfl (ci := 10) (q0 := 2) rfl rfl) rfl rfl hl.1 rfl (lv_room (Nat.le_of_ble_eq_true rfl)) dPR_predict_63 ⟨Nat.le_of_ble_eq_true rfl, Nat.le_of_ble_eq_true rfl⟩) hP hD hS hA [2, 6] [0, 1, 3, 4, 5, 7] [0, 1, 6, 2, 3, 4, 7, 5] (wPR_predict ad cI v_LF_x v_LF_y v_LF_side v_LF_mode v_LF_skip v_LF_side v_aPlain v_aPredicted v_aSides g3 g4) rfl rfl rfl (by decide) rfl rfl (fun H locs hP hD hS => ?_)
      clear hc
      refine lv_goto (tgt := 70) hx hb dPR_predict_66 rfl ?_
      cases hf
      exact J70 ls H locs hl hP hD hS
  intro ls H locs hl hP hD hS
  clear hh
  refine lv_istore_n (lv' := [(2, .int z11), (0, .ref (ad 10)), (1, .ref (ad 5))]) hx hb dPR_predict_70 rfl hl (by decide) rfl (fun ls hl => ?_)
  refine lv_iconst (v := (0 : Int32)) hx hb dPR_predict_71 (by decide) ?_
  refine lv_istore_n (lv' := [(3, .int (0 : Int32)), (2, .int z11), (0, .ref (ad 10)), (1, .ref (ad 5))]) hx hb dPR_predict_72 rfl hl (by decide) rfl (fun ls hl => ?_)
  replace hl := lv_sub hl (l' := [(0, .ref (ad 10)), (1, .ref (ad 5)), (2, .int z11), (3, .int (0 : Int32))]) [2, 3, 1, 0] rfl
  obtain ⟨x15, y16, hL, hf⟩ := ip_b2_e hf
  suffices J147 : ∀ (ls : Array Slot) (H : Heap) (locs : List Loc), lv_has ls 6 [] → va_P (dC, dI) vwCl (wPR_predict ad cI v_LF_x v_LF_y v_LF_side v_LF_mode v_LF_skip v_LF_side v_aPlain y16 v_aSides g3 g4) H → va_D A (wPR_predict ad cI v_LF_x v_LF_y v_LF_side v_LF_mode v_LF_skip v_LF_side v_aPlain y16 v_aSides g3 g4) → va_S A s.heap H locs → W p l e rmPR_predict s m args below meth c H locs 0 0 Q (F0 m 147 ls []) by
    have L : ∀ (n : Nat) (z13 : Int32) (g14 : Nat → Int32), ip_lp2 (fPR_predict_B73 v_LF_x v_LF_y v_LF_side v_LF_mode v_LF_skip g3 z11) n z13 g14 = some (x15, y16) → ∀ (ls : Array Slot) (H : Heap) (locs : List Loc), lv_has ls 6 [(0, .ref (ad 10)), (1, .ref (ad 5)), (2, .int z11), (3, .int z13)] → va_P (dC, dI) vwCl (wPR_predict ad cI v_LF_x v_LF_y v_LF_side v_LF_mode v_LF_skip v_LF_side v_aPlain g14 v_aSides g3 g4) H → va_D A (wPR_predict ad cI v_LF_x v_LF_y v_LF_side v_LF_mode v_LF_skip v_LF_side v_aPlain g14 v_aSides g3 g4) → va_S A s.heap H locs → W p l e rmPR_predict s m args below meth c H locs 0 0 Q (F0 m 73 ls []) := by
      intro n
      induction n with
      | zero => intro z13 g14 hL; exact (ip_lp2_0 hL).elim
      | succ n ih =>
        intro z13 g14 hL ls H locs hl hP hD hS
        clear hf
        obtain ⟨r9, hf, hr73⟩ := ip_lp2_s hL
        clear hL
        unfold fPR_predict_B73 at hf
        refine lv_iload_n hx hb dPR_predict_73 rfl (lv_at hl 3 rfl) ?_
        refine lv_aload_n hx hb dPR_predict_74 rfl (lv_at hl 0 rfl) ?_
        refine va_get (D := (dC, dI)) (ci := 10) (v := .int v_LF_side) (C := kR_PR) (T := kT_PR) (N := 4) hx hb hts kin_PR hown hK hP 2 rfl rfl 3 (by decide) (hts _ (List.mem_cons_of_mem _ kw2_5)) (fun _ h9 => h9) rfl dPR_predict_75 ?_
        refine ip_icmp_ge (tgt := 147) hx hb dPR_predict_78 rfl hf (fun hf => ?_) (fun hf => ?_)
        · have hx9 := ip_lp_x hr73 hf
          replace hl := lv_sub hl (l' := []) [] rfl
          cases hx9
          exact J147 ls H locs hl hP hD hS
        · refine lv_iconst (v := (0 : Int32)) hx hb dPR_predict_81 (by decide) ?_
          refine lv_istore (lv' := [(4, .int (0 : Int32)), (0, .ref (ad 10)), (1, .ref (ad 5)), (2, .int z11), (3, .int z13)]) hx hb dPR_predict_82 hl (by decide) rfl (fun ls hl => ?_)
          replace hl := lv_sub hl (l' := [(0, .ref (ad 10)), (1, .ref (ad 5)), (2, .int z11), (3, .int z13), (4, .int (0 : Int32))]) [1, 2, 3, 4, 0] rfl
          obtain ⟨x19, y20, hL, hf⟩ := ip_b2_e hf
          suffices J141 : ∀ (ls : Array Slot) (H : Heap) (locs : List Loc), lv_has ls 6 [(0, .ref (ad 10)), (1, .ref (ad 5)), (2, .int z11), (3, .int z13)] → va_P (dC, dI) vwCl (wPR_predict ad cI v_LF_x v_LF_y v_LF_side v_LF_mode v_LF_skip v_LF_side v_aPlain y20 v_aSides g3 g4) H → va_D A (wPR_predict ad cI v_LF_x v_LF_y v_LF_side v_LF_mode v_LF_skip v_LF_side v_aPlain y20 v_aSides g3 g4) → va_S A s.heap H locs → W p l e rmPR_predict s m args below meth c H locs 0 0 Q (F0 m 141 ls []) by
            have L : ∀ (n : Nat) (z17 : Int32) (g18 : Nat → Int32), ip_lp2 (fPR_predict_B84 v_LF_x v_LF_y v_LF_side v_LF_mode v_LF_skip g3 z11 z13) n z17 g18 = some (x19, y20) → ∀ (ls : Array Slot) (H : Heap) (locs : List Loc), lv_has ls 6 [(0, .ref (ad 10)), (1, .ref (ad 5)), (2, .int z11), (3, .int z13), (4, .int z17)] → va_P (dC, dI) vwCl (wPR_predict ad cI v_LF_x v_LF_y v_LF_side v_LF_mode v_LF_skip v_LF_side v_aPlain g18 v_aSides g3 g4) H → va_D A (wPR_predict ad cI v_LF_x v_LF_y v_LF_side v_LF_mode v_LF_skip v_LF_side v_aPlain g18 v_aSides g3 g4) → va_S A s.heap H locs → W p l e rmPR_predict s m args below meth c H locs 0 0 Q (F0 m 84 ls []) := by
              intro n
              induction n with
              | zero => intro z17 g18 hL; exact (ip_lp2_0 hL).elim
              | succ n ih =>
                intro z17 g18 hL ls H locs hl hP hD hS
                clear hf
                obtain ⟨r9, hf, hr84⟩ := ip_lp2_s hL
                clear hL
                unfold fPR_predict_B84 at hf
                refine lv_iload hx hb dPR_predict_84 (lv_at hl 4 rfl) ?_
                refine lv_aload_n hx hb dPR_predict_86 rfl (lv_at hl 0 rfl) ?_
                refine va_get (D := (dC, dI)) (ci := 10) (v := .int v_LF_side) (C := kR_PR) (T := kT_PR) (N := 4) hx hb hts kin_PR hown hK hP 2 rfl rfl 3 (by decide) (hts _ (List.mem_cons_of_mem _ kw2_5)) (fun _ h9 => h9) rfl dPR_predict_87 ?_
                refine ip_icmp_ge (tgt := 141) hx hb dPR_predict_90 rfl hf (fun hf => ?_) (fun hf => ?_)
                · have hx9 := ip_lp_x hr84 hf
                  replace hl := lv_sub hl (l' := [(0, .ref (ad 10)), (1, .ref (ad 5)), (2, .int z11), (3, .int z13)]) [0, 1, 2, 3] rfl
                  cases hx9
                  exact J141 ls H locs hl hP hD hS
                · refine lv_aload_n hx hb dPR_predict_93 rfl (lv_at hl 1 rfl) ?_
                  refine va_get (D := (dC, dI)) (ci := 5) (v := .int v_LF_mode) (C := kR_LF) (T := kT_LF) (N := 5) hx hb hts kin_LF hown hK hP 0 rfl rfl 3 (by decide) (hts _ (List.mem_cons_of_mem _ kw1_175)) (fun _ h9 => h9) rfl dPR_predict_94 ?_
                  refine lv_iconst (v := (1 : Int32)) hx hb dPR_predict_97 (by decide) ?_
                  obtain ⟨z21, hh, hf⟩ := ip_b1_e hf
                  suffices J116 : ∀ (ls : Array Slot) (H : Heap) (locs : List Loc), lv_has ls 6 [(0, .ref (ad 10)), (1, .ref (ad 5)), (2, .int z11), (3, .int z13), (4, .int z17)] → va_P (dC, dI) vwCl (wPR_predict ad cI v_LF_x v_LF_y v_LF_side v_LF_mode v_LF_skip v_LF_side v_aPlain g18 v_aSides g3 g4) H → va_D A (wPR_predict ad cI v_LF_x v_LF_y v_LF_side v_LF_mode v_LF_skip v_LF_side v_aPlain g18 v_aSides g3 g4) → va_S A s.heap H locs → W p l e rmPR_predict s m args below meth c H locs 0 0 Q (F0 m 116 ls [.int z21]) by
                    replace hf := hh
                    refine ip_icmp_ne (tgt := 105) hx hb dPR_predict_98 rfl hf (fun hf => ?_) (fun hf => ?_)
                    · refine lv_aload_n hx hb dPR_predict_105 rfl (lv_at hl 0 rfl) ?_
                      refine lv_aload_n hx hb dPR_predict_106 rfl (lv_at hl 1 rfl) ?_
                      refine va_get (D := (dC, dI)) (ci := 5) (v := .int v_LF_mode) (C := kR_LF) (T := kT_LF) (N := 5) hx hb hts kin_LF hown hK hP 0 rfl rfl 3 (by decide) (hts _ (List.mem_cons_of_mem _ kw1_175)) (fun _ h9 => h9) rfl dPR_predict_107 ?_
                      refine lv_iload hx hb dPR_predict_110 (lv_at hl 4 rfl) ?_
                      refine lv_iload_n hx hb dPR_predict_112 rfl (lv_at hl 3 rfl) ?_
                      obtain ⟨z22, hc, hf⟩ := ip_b1_e hf
                      refine ip_calli (va_runV (As := [.int v_LF_mode, .int z17, .int z13]) (rest := []) ⟨hx, hb, hml, hown, hts⟩ (tPR_predictAt (l := l) (dC := dC) (dI := dI) (ad := ad) (cI := cI) (ts := ts) hc H.size) (cwV 3 hts (ip_gdV (own := kR_PR) (idx := 46) (C := kR_PR) (y := yPR_predictAt) kw3_72 kw3_74 kws_25 kw1_11 kw3_75) rfl rfl rfl (by decide +kernel) ⟨Nat.le_of_ble_eq_true rfl, Nat.le_of_ble_eq_true rfl⟩) (ip_preV hK hP hD hS hA hZ [2, 6] rfl rfl (ci := 10) (q0 := 2) rfl rfl) rfl rfl hl.1 rfl (lv_room (Nat.le_of_ble_eq_true rfl)) dPR_predict_113 ⟨Nat.le_of_ble_eq_true rfl, Nat.le_of_ble_eq_true rfl⟩) hP hD hS hA [2, 6] [0, 1, 3, 4, 5, 7] [0, 1, 6, 2, 3, 4, 7, 5] (wPR_predict ad cI v_LF_x v_LF_y v_LF_side v_LF_mode v_LF_skip v_LF_side v_aPlain g18 v_aSides g3 g4) rfl rfl rfl (by decide) rfl rfl (fun H locs hP hD hS => ?_)
                      clear hc
                      cases hf
                      exact J116 ls H locs hl hP hD hS
                    · refine lv_iload_n hx hb dPR_predict_101 rfl (lv_at hl 2 rfl) ?_
                      refine lv_goto (tgt := 116) hx hb dPR_predict_102 rfl ?_
                      cases hf
                      exact J116 ls H locs hl hP hD hS
                  intro ls H locs hl hP hD hS
                  clear hh
                  refine lv_istore (lv' := [(5, .int z21), (0, .ref (ad 10)), (1, .ref (ad 5)), (2, .int z11), (3, .int z13), (4, .int z17)]) hx hb dPR_predict_116 hl (by decide) rfl (fun ls hl => ?_)
                  refine lv_aload_n hx hb dPR_predict_118 rfl (lv_at hl 1 rfl) ?_
                  refine va_get (D := (dC, dI)) (ci := 10) (v := .ref (ad 6)) (C := kR_PR) (T := kT_PR) (N := 4) hx hb hts kin_PR hown hK hP 2 rfl rfl 0 (by decide) (hts _ (List.mem_cons_of_mem _ kw2_2)) (fun _ h9 => h9) rfl dPR_predict_119 ?_
                  refine va_get (D := (dC, dI)) (ci := 6) (v := .ref (ad 20)) (C := kR_RW) (T := kT_RW) (N := 6) hx hb hts kin_RW hown hK hP 1 rfl rfl 2 (by decide) (hts _ (List.mem_cons_of_mem _ kw1_127)) (fun _ h9 => h9) rfl dPR_predict_122 ?_
                  refine lv_aload_n hx hb dPR_predict_125 rfl (lv_at hl 2 rfl) ?_
                  refine lv_iload hx hb dPR_predict_126 (lv_at hl 5 rfl) ?_
                  refine lv_iload_n hx hb dPR_predict_128 rfl (lv_at hl 4 rfl) ?_
                  obtain ⟨z23, hc, hf⟩ := ip_b1_e hf
                  refine ip_calli (va_runV (As := [.int z17, .int z13]) (rest := [.ref (ad 20)]) ⟨hx, hb, hml, hown, hts⟩ (tLF_placeInPicture (l := l) (dC := dC) (dI := dI) (ad := ad) (cI := cI) (ts := ts) hc H.size) (cwV 2 hts (ip_gdV (own := kR_PR) (idx := 55) (C := kR_LF) (y := yLF_placeInPicture) kw3_99 kw2_199 kw2_200 kw1_8 kw2_201) rfl rfl rfl (by decide +kernel) ⟨Nat.le_of_ble_eq_true rfl, Nat.le_of_ble_eq_true rfl⟩) (ip_preV hK hP hD hS hA hZ [0] rfl rfl (ci := 5) (q0 := 0) rfl rfl) rfl rfl hl.1 rfl (lv_room (Nat.le_of_ble_eq_true rfl)) dPR_predict_129 ⟨Nat.le_of_ble_eq_true rfl, Nat.le_of_ble_eq_true rfl⟩) hP hD hS hA [0] [1, 2, 3, 4, 5, 6, 7] [7, 0, 1, 2, 3, 4, 5, 6] (wPR_predict ad cI v_LF_x v_LF_y v_LF_side v_LF_mode v_LF_skip v_LF_side v_aPlain g18 v_aSides g3 g4) rfl rfl rfl (by decide) rfl rfl (fun H locs hP hD hS => ?_)
                  clear hc
                  refine lv_iload hx hb dPR_predict_132 (lv_at hl 0 rfl) ?_
                  refine ip_iast hx hb hK hP hD hS 4 0 rfl rfl (fun g24 => (wPR_predict ad cI v_LF_x v_LF_y v_LF_side v_LF_mode v_LF_skip v_LF_side v_aPlain g24 v_aSides g3 g4)) (fun _ => rfl) dPR_predict_134 hf (fun g24 H locs hf hP hD hS => ?_)
                  refine ip_iinc (k0 := 5) (v0 := (1 : Int32)) (lv1 := fun z25 => [(4, .int z25), (5, .int z21), (0, .ref (ad 10)), (1, .ref (ad 5)), (2, .int z11), (3, .int z13)]) hx hb dPR_predict_135 hl rfl (by decide) (by decide) (fun _ => rfl) hf (fun z25 ls hf hl => ?_)
                  refine lv_goto (tgt := 84) hx hb dPR_predict_138 rfl ?_
                  replace hl := lv_sub hl (l' := [(0, .ref (ad 10)), (1, .ref (ad 5)), (2, .int z11), (3, .int z13), (4, .int z25)]) [2, 3, 4, 5, 0] rfl
                  exact ih _ _ (ip_lp2_l hr84 hf) ls H locs hl hP hD hS
            exact L 1000 _ _ hL ls H locs hl hP hD hS
          intro ls H locs hl hP hD hS
          clear hL
          refine ip_iinc (k0 := 3) (v0 := (1 : Int32)) (lv1 := fun z26 => [(3, .int z26), (0, .ref (ad 10)), (1, .ref (ad 5)), (2, .int z11)]) hx hb dPR_predict_141 hl rfl (by decide) (by decide) (fun _ => rfl) hf (fun z26 ls hf hl => ?_)
          refine lv_goto (tgt := 73) hx hb dPR_predict_144 rfl ?_
          replace hl := lv_sub hl (l' := [(0, .ref (ad 10)), (1, .ref (ad 5)), (2, .int z11), (3, .int z26)]) [1, 2, 3, 0] rfl
          exact ih _ _ (ip_lp2_l hr73 hf) ls H locs hl hP hD hS
    exact L 1000 _ _ hL ls H locs hl hP hD hS
  intro ls H locs hl hP hD hS
  clear hL
  cases hf
  exact hret H locs 147 ls dPR_predict_147 hP hD hS
set_option maxHeartbeats 4000000 in
set_option maxRecDepth 100000 in
theorem tPI_buildLeaf {l : Launch} {dC : Nat → ClassId} {dI : Nat → Nat → Nat} {cI : ClassId} {ad : Nat → Nat} {t0 t1 t2 t3 : Nat} {v_LF_x : Int32} {v_LF_y : Int32} {v_LF_side : Int32} {v_LF_mode : Int32} {v_LF_skip : Int32} {v_PI_leaves : Int32} {v_PR_side : Int32} {v_aValues : Nat → Int32} {v_aPlain : Nat → Int32} {v_aPredicted : Nat → Int32} {v_aLevels : Nat → Int32} {v_aModes : Nat → Int32} {v_aSides : Nat → Int32} {v_aCoef : Nat → Int32} {v_aBetween : Nat → Int32} {v_aResult : Nat → Int32} {v_aRefs : Nat → Int32} {v_aUnsm : Nat → Int32}  {nv_PR_side : Int32} {nv_aPlain : Nat → Int32} {nv_aPredicted : Nat → Int32} {nv_aModes : Nat → Int32} {nv_aSides : Nat → Int32} {nv_aCoef : Nat → Int32} {nv_aBetween : Nat → Int32} {nv_aResult : Nat → Int32} {nv_aRefs : Nat → Int32} {nv_aUnsm : Nat → Int32} (hf : fPI_buildLeaf v_LF_x v_LF_y v_LF_side v_LF_mode v_LF_skip v_PI_leaves v_PR_side v_aValues v_aPlain v_aPredicted v_aLevels v_aModes v_aSides v_aCoef v_aBetween v_aResult v_aRefs v_aUnsm = some (nv_PR_side, nv_aPlain, nv_aPredicted, nv_aModes, nv_aSides, nv_aCoef, nv_aBetween, nv_aResult, nv_aRefs, nv_aUnsm)) : ip_Mv l yPI_buildLeaf wsPI_buildLeaf rmPI_buildLeaf (dC, dI) vwCl [(cI, .int)] (ip_TS t0 t1 t2 t3) [.ref (ad 7)] (wPI_buildLeaf ad cI v_LF_x v_LF_y v_LF_side v_LF_mode v_LF_skip v_PI_leaves v_PR_side v_aValues v_aPlain v_aPredicted v_aLevels v_aModes v_aSides v_aCoef v_aBetween v_aResult v_aRefs v_aUnsm) (wPI_buildLeaf ad cI v_LF_x v_LF_y v_LF_side v_LF_mode v_LF_skip v_PI_leaves nv_PR_side v_aValues nv_aPlain nv_aPredicted v_aLevels nv_aModes nv_aSides nv_aCoef nv_aBetween nv_aResult nv_aRefs nv_aUnsm) := by
  refine ip_startV (cc := cPI_buildLeaf) (maxL := 5) (by decide) rfl (Nat.le_of_ble_eq_true rfl) ?_
  intro p e s m args below meth c Q A ls hx hb hml hts hown hK hP hD hS hA hZ hl hret
  replace hl : lv_has ls 5 [(0, .ref (ad 7))] := hl
  unfold fPI_buildLeaf at hf
  suffices J0 : ∀ (ls : Array Slot) (H : Heap) (locs : List Loc), lv_has ls 5 [(0, .ref (ad 7))] → va_P (dC, dI) vwCl (wPI_buildLeaf ad cI v_LF_x v_LF_y v_LF_side v_LF_mode v_LF_skip v_PI_leaves v_PR_side v_aValues v_aPlain v_aPredicted v_aLevels v_aModes v_aSides v_aCoef v_aBetween v_aResult v_aRefs v_aUnsm) H → va_D A (wPI_buildLeaf ad cI v_LF_x v_LF_y v_LF_side v_LF_mode v_LF_skip v_PI_leaves v_PR_side v_aValues v_aPlain v_aPredicted v_aLevels v_aModes v_aSides v_aCoef v_aBetween v_aResult v_aRefs v_aUnsm) → va_S A s.heap H locs → W p l e rmPI_buildLeaf s m args below meth c H locs 0 0 Q (F0 m 0 ls []) by exact J0 ls s.heap [] hl hP hD hS
  clear hP hD hS hl
  intro ls H locs hl hP hD hS
  refine lv_aload_n hx hb dPI_buildLeaf_0 rfl (lv_at hl 0 rfl) ?_
  refine va_get (D := (dC, dI)) (ci := 7) (v := .ref (ad 9)) (C := kR_PI) (T := kT_PI) (N := 9) hx hb hts kin_PI hown hK hP 2 rfl rfl 5 (by decide) (hts _ (List.mem_cons_of_mem _ kw2_33)) (fun _ h9 => h9) rfl dPI_buildLeaf_1 ?_
  refine lv_aload_n hx hb dPI_buildLeaf_4 rfl (lv_at hl 0 rfl) ?_
  refine va_get (D := (dC, dI)) (ci := 7) (v := .ref (ad 5)) (C := kR_PI) (T := kT_PI) (N := 9) hx hb hts kin_PI hown hK hP 2 rfl rfl 3 (by decide) (hts _ (List.mem_cons_of_mem _ kw2_31)) (fun _ h9 => h9) rfl dPI_buildLeaf_5 ?_
  refine lv_aload_n hx hb dPI_buildLeaf_8 rfl (lv_at hl 0 rfl) ?_
  refine va_get (D := (dC, dI)) (ci := 7) (v := .ref (ad 14)) (C := kR_PI) (T := kT_PI) (N := 9) hx hb hts kin_PI hown hK hP 2 rfl rfl 1 (by decide) (hts _ (List.mem_cons_of_mem _ kw2_29)) (fun _ h9 => h9) rfl dPI_buildLeaf_9 ?_
  refine lv_iconst (v := (0 : Int32)) hx hb dPI_buildLeaf_12 (by decide) ?_
  refine ip_iald hx hb hK hP 5 0 rfl rfl dPI_buildLeaf_13 hf (fun z1 hf => ?_)
  obtain ⟨g2, g3, g4, hc, hf⟩ := ip_b3_e hf
  refine ip_callv (va_runV (As := [.ref (ad 5), .int z1]) (rest := []) ⟨hx, hb, hml, hown, hts⟩ (tRS_compute (l := l) (dC := dC) (dI := dI) (ad := ad) (cI := cI) (t0 := t0) (t1 := t1) (t2 := t2) (t3 := t3) hc H.size) (cwV 2 hts (ip_gdV (own := kR_PI) (idx := 141) (C := kR_RS) (y := yRS_compute) kw3_1 kw3_2 kw3_3 kw1_10 kw3_4) rfl rfl rfl (by decide +kernel) ⟨Nat.le_of_ble_eq_true rfl, Nat.le_of_ble_eq_true rfl⟩) (ip_preV hK hP hD hS hA hZ [0, 3, 8, 11, 12, 13] rfl rfl (ci := 9) (q0 := 3) rfl rfl) rfl rfl hl.1 rfl (lv_room (Nat.le_of_ble_eq_true rfl)) dPI_buildLeaf_14 ⟨Nat.le_of_ble_eq_true rfl, Nat.le_of_ble_eq_true rfl⟩) hP hD hS hA [0, 3, 8, 11, 12, 13] [1, 2, 4, 5, 6, 7, 9, 10, 14, 15] [10, 0, 1, 11, 2, 3, 4, 5, 12, 6, 7, 13, 14, 15, 8, 9] (wPI_buildLeaf ad cI v_LF_x v_LF_y v_LF_side v_LF_mode v_LF_skip v_PI_leaves v_PR_side v_aValues v_aPlain v_aPredicted v_aLevels v_aModes v_aSides g2 g3 g4 v_aRefs v_aUnsm) rfl rfl rfl (by decide) rfl rfl (fun H locs hP hD hS => ?_)
  clear hc
  refine lv_aload_n hx hb dPI_buildLeaf_17 rfl (lv_at hl 0 rfl) ?_
  refine va_get (D := (dC, dI)) (ci := 7) (v := .ref (ad 10)) (C := kR_PI) (T := kT_PI) (N := 9) hx hb hts kin_PI hown hK hP 2 rfl rfl 6 (by decide) (hts _ (List.mem_cons_of_mem _ kw2_34)) (fun _ h9 => h9) rfl dPI_buildLeaf_18 ?_
  refine lv_aload_n hx hb dPI_buildLeaf_21 rfl (lv_at hl 0 rfl) ?_
  refine va_get (D := (dC, dI)) (ci := 7) (v := .ref (ad 5)) (C := kR_PI) (T := kT_PI) (N := 9) hx hb hts kin_PI hown hK hP 2 rfl rfl 3 (by decide) (hts _ (List.mem_cons_of_mem _ kw2_31)) (fun _ h9 => h9) rfl dPI_buildLeaf_22 ?_
  obtain ⟨z5, g6, g7, g8, hc, hf⟩ := ip_b4_e hf
  refine ip_callv (va_runV (As := [.ref (ad 5)]) (rest := []) ⟨hx, hb, hml, hown, hts⟩ (tPR_predict (l := l) (dC := dC) (dI := dI) (ad := ad) (cI := cI) (ts := (ip_TS t0 t1 t2 t3)) hc H.size) (cwV 1 hts (ip_gdV (own := kR_PI) (idx := 145) (C := kR_PR) (y := yPR_predict) kw3_40 kw3_41 kw3_42 kw1_11 kw3_43) rfl rfl rfl (by decide +kernel) ⟨Nat.le_of_ble_eq_true rfl, Nat.le_of_ble_eq_true rfl⟩) (ip_preV hK hP hD hS hA hZ [0, 1, 4, 6, 7, 10, 14, 15] rfl rfl (ci := 10) (q0 := 4) rfl rfl) rfl rfl hl.1 rfl (lv_room (Nat.le_of_ble_eq_true rfl)) dPI_buildLeaf_25 ⟨Nat.le_of_ble_eq_true rfl, Nat.le_of_ble_eq_true rfl⟩) hP hD hS hA [0, 1, 4, 6, 7, 10, 14, 15] [2, 3, 5, 8, 9, 11, 12, 13] [8, 9, 0, 1, 10, 2, 11, 12, 3, 4, 13, 5, 6, 7, 14, 15] (wPI_buildLeaf ad cI v_LF_x v_LF_y v_LF_side v_LF_mode v_LF_skip v_PI_leaves z5 v_aValues v_aPlain g6 v_aLevels v_aModes v_aSides g2 g3 g4 g7 g8) rfl rfl rfl (by decide) rfl rfl (fun H locs hP hD hS => ?_)
  clear hc
  refine lv_iconst (v := (0 : Int32)) hx hb dPI_buildLeaf_28 (by decide) ?_
  refine lv_istore_n (lv' := [(1, .int (0 : Int32)), (0, .ref (ad 7))]) hx hb dPI_buildLeaf_29 rfl hl (by decide) rfl (fun ls hl => ?_)
  replace hl := lv_sub hl (l' := [(0, .ref (ad 7)), (1, .int (0 : Int32))]) [1, 0] rfl
  obtain ⟨x13, y14, y15, y16, hL, hf⟩ := ip_b4_e hf
  suffices J157 : ∀ (ls : Array Slot) (H : Heap) (locs : List Loc), lv_has ls 5 [] → va_P (dC, dI) vwCl (wPI_buildLeaf ad cI v_LF_x v_LF_y v_LF_side v_LF_mode v_LF_skip v_PI_leaves z5 v_aValues y14 g6 v_aLevels y15 y16 g2 g3 g4 g7 g8) H → va_D A (wPI_buildLeaf ad cI v_LF_x v_LF_y v_LF_side v_LF_mode v_LF_skip v_PI_leaves z5 v_aValues y14 g6 v_aLevels y15 y16 g2 g3 g4 g7 g8) → va_S A s.heap H locs → W p l e rmPI_buildLeaf s m args below meth c H locs 0 0 Q (F0 m 157 ls []) by
    have L : ∀ (n : Nat) (z9 : Int32) (g10 : Nat → Int32) (g11 : Nat → Int32) (g12 : Nat → Int32), ip_lp4 (fPI_buildLeaf_B30 v_LF_x v_LF_y v_LF_side v_LF_mode v_LF_skip g4 g6) n z9 g10 g11 g12 = some (x13, y14, y15, y16) → ∀ (ls : Array Slot) (H : Heap) (locs : List Loc), lv_has ls 5 [(0, .ref (ad 7)), (1, .int z9)] → va_P (dC, dI) vwCl (wPI_buildLeaf ad cI v_LF_x v_LF_y v_LF_side v_LF_mode v_LF_skip v_PI_leaves z5 v_aValues g10 g6 v_aLevels g11 g12 g2 g3 g4 g7 g8) H → va_D A (wPI_buildLeaf ad cI v_LF_x v_LF_y v_LF_side v_LF_mode v_LF_skip v_PI_leaves z5 v_aValues g10 g6 v_aLevels g11 g12 g2 g3 g4 g7 g8) → va_S A s.heap H locs → W p l e rmPI_buildLeaf s m args below meth c H locs 0 0 Q (F0 m 30 ls []) := by
      intro n
      induction n with
      | zero => intro z9 g10 g11 g12 hL; exact (ip_lp4_0 hL).elim
      | succ n ih =>
        intro z9 g10 g11 g12 hL ls H locs hl hP hD hS
        clear hf
        obtain ⟨r9, hf, hr30⟩ := ip_lp4_s hL
        clear hL
        unfold fPI_buildLeaf_B30 at hf
        refine lv_iload_n hx hb dPI_buildLeaf_30 rfl (lv_at hl 1 rfl) ?_
        refine lv_aload_n hx hb dPI_buildLeaf_31 rfl (lv_at hl 0 rfl) ?_
        refine va_get (D := (dC, dI)) (ci := 7) (v := .ref (ad 5)) (C := kR_PI) (T := kT_PI) (N := 9) hx hb hts kin_PI hown hK hP 2 rfl rfl 3 (by decide) (hts _ (List.mem_cons_of_mem _ kw2_31)) (fun _ h9 => h9) rfl dPI_buildLeaf_32 ?_
        refine va_get (D := (dC, dI)) (ci := 5) (v := .int v_LF_side) (C := kR_LF) (T := kT_LF) (N := 5) hx hb hts kin_LF hown hK hP 0 rfl rfl 2 (by decide) (hts _ (List.mem_cons_of_mem _ kw1_174)) (fun _ h9 => h9) rfl dPI_buildLeaf_35 ?_
        refine ip_icmp_ge (tgt := 157) hx hb dPI_buildLeaf_38 rfl hf (fun hf => ?_) (fun hf => ?_)
        · have hx9 := ip_lp_x hr30 hf
          replace hl := lv_sub hl (l' := []) [] rfl
          cases hx9
          exact J157 ls H locs hl hP hD hS
        · refine lv_iconst (v := (0 : Int32)) hx hb dPI_buildLeaf_41 (by decide) ?_
          refine lv_istore_n (lv' := [(2, .int (0 : Int32)), (0, .ref (ad 7)), (1, .int z9)]) hx hb dPI_buildLeaf_42 rfl hl (by decide) rfl (fun ls hl => ?_)
          replace hl := lv_sub hl (l' := [(0, .ref (ad 7)), (1, .int z9), (2, .int (0 : Int32))]) [1, 2, 0] rfl
          obtain ⟨x21, y22, y23, y24, hL, hf⟩ := ip_b4_e hf
          suffices J151 : ∀ (ls : Array Slot) (H : Heap) (locs : List Loc), lv_has ls 5 [(0, .ref (ad 7)), (1, .int z9)] → va_P (dC, dI) vwCl (wPI_buildLeaf ad cI v_LF_x v_LF_y v_LF_side v_LF_mode v_LF_skip v_PI_leaves z5 v_aValues y22 g6 v_aLevels y23 y24 g2 g3 g4 g7 g8) H → va_D A (wPI_buildLeaf ad cI v_LF_x v_LF_y v_LF_side v_LF_mode v_LF_skip v_PI_leaves z5 v_aValues y22 g6 v_aLevels y23 y24 g2 g3 g4 g7 g8) → va_S A s.heap H locs → W p l e rmPI_buildLeaf s m args below meth c H locs 0 0 Q (F0 m 151 ls []) by
            have L : ∀ (n : Nat) (z17 : Int32) (g18 : Nat → Int32) (g19 : Nat → Int32) (g20 : Nat → Int32), ip_lp4 (fPI_buildLeaf_B43 v_LF_x v_LF_y v_LF_side v_LF_mode v_LF_skip g4 g6 z9) n z17 g18 g19 g20 = some (x21, y22, y23, y24) → ∀ (ls : Array Slot) (H : Heap) (locs : List Loc), lv_has ls 5 [(0, .ref (ad 7)), (1, .int z9), (2, .int z17)] → va_P (dC, dI) vwCl (wPI_buildLeaf ad cI v_LF_x v_LF_y v_LF_side v_LF_mode v_LF_skip v_PI_leaves z5 v_aValues g18 g6 v_aLevels g19 g20 g2 g3 g4 g7 g8) H → va_D A (wPI_buildLeaf ad cI v_LF_x v_LF_y v_LF_side v_LF_mode v_LF_skip v_PI_leaves z5 v_aValues g18 g6 v_aLevels g19 g20 g2 g3 g4 g7 g8) → va_S A s.heap H locs → W p l e rmPI_buildLeaf s m args below meth c H locs 0 0 Q (F0 m 43 ls []) := by
              intro n
              induction n with
              | zero => intro z17 g18 g19 g20 hL; exact (ip_lp4_0 hL).elim
              | succ n ih =>
                intro z17 g18 g19 g20 hL ls H locs hl hP hD hS
                clear hf
                obtain ⟨r9, hf, hr43⟩ := ip_lp4_s hL
                clear hL
                unfold fPI_buildLeaf_B43 at hf
                refine lv_iload_n hx hb dPI_buildLeaf_43 rfl (lv_at hl 2 rfl) ?_
                refine lv_aload_n hx hb dPI_buildLeaf_44 rfl (lv_at hl 0 rfl) ?_
                refine va_get (D := (dC, dI)) (ci := 7) (v := .ref (ad 5)) (C := kR_PI) (T := kT_PI) (N := 9) hx hb hts kin_PI hown hK hP 2 rfl rfl 3 (by decide) (hts _ (List.mem_cons_of_mem _ kw2_31)) (fun _ h9 => h9) rfl dPI_buildLeaf_45 ?_
                refine va_get (D := (dC, dI)) (ci := 5) (v := .int v_LF_side) (C := kR_LF) (T := kT_LF) (N := 5) hx hb hts kin_LF hown hK hP 0 rfl rfl 2 (by decide) (hts _ (List.mem_cons_of_mem _ kw1_174)) (fun _ h9 => h9) rfl dPI_buildLeaf_48 ?_
                refine ip_icmp_ge (tgt := 151) hx hb dPI_buildLeaf_51 rfl hf (fun hf => ?_) (fun hf => ?_)
                · have hx9 := ip_lp_x hr43 hf
                  replace hl := lv_sub hl (l' := [(0, .ref (ad 7)), (1, .int z9)]) [0, 1] rfl
                  cases hx9
                  exact J151 ls H locs hl hP hD hS
                · refine lv_aload_n hx hb dPI_buildLeaf_54 rfl (lv_at hl 0 rfl) ?_
                  refine va_get (D := (dC, dI)) (ci := 7) (v := .ref (ad 5)) (C := kR_PI) (T := kT_PI) (N := 9) hx hb hts kin_PI hown hK hP 2 rfl rfl 3 (by decide) (hts _ (List.mem_cons_of_mem _ kw2_31)) (fun _ h9 => h9) rfl dPI_buildLeaf_55 ?_
                  refine lv_iload_n hx hb dPI_buildLeaf_58 rfl (lv_at hl 2 rfl) ?_
                  refine lv_iload_n hx hb dPI_buildLeaf_59 rfl (lv_at hl 1 rfl) ?_
                  obtain ⟨z25, hc, hf⟩ := ip_b1_e hf
                  refine ip_calli (va_runV (As := [.int z17, .int z9]) (rest := []) ⟨hx, hb, hml, hown, hts⟩ (tLF_placeInPicture (l := l) (dC := dC) (dI := dI) (ad := ad) (cI := cI) (ts := (ip_TS t0 t1 t2 t3)) hc H.size) (cwV 2 hts (ip_gdV (own := kR_PI) (idx := 152) (C := kR_LF) (y := yLF_placeInPicture) kw2_198 kw2_199 kw2_200 kw1_8 kw2_201) rfl rfl rfl (by decide +kernel) ⟨Nat.le_of_ble_eq_true rfl, Nat.le_of_ble_eq_true rfl⟩) (ip_preV hK hP hD hS hA hZ [0] rfl rfl (ci := 5) (q0 := 0) rfl rfl) rfl rfl hl.1 rfl (lv_room (Nat.le_of_ble_eq_true rfl)) dPI_buildLeaf_60 ⟨Nat.le_of_ble_eq_true rfl, Nat.le_of_ble_eq_true rfl⟩) hP hD hS hA [0] [1, 2, 3, 4, 5, 6, 7, 8, 9, 10, 11, 12, 13, 14, 15] [15, 0, 1, 2, 3, 4, 5, 6, 7, 8, 9, 10, 11, 12, 13, 14] (wPI_buildLeaf ad cI v_LF_x v_LF_y v_LF_side v_LF_mode v_LF_skip v_PI_leaves z5 v_aValues g18 g6 v_aLevels g19 g20 g2 g3 g4 g7 g8) rfl rfl rfl (by decide) rfl rfl (fun H locs hP hD hS => ?_)
                  clear hc
                  refine lv_istore_n (lv' := [(3, .int z25), (0, .ref (ad 7)), (1, .int z9), (2, .int z17)]) hx hb dPI_buildLeaf_63 rfl hl (by decide) rfl (fun ls hl => ?_)
                  refine lv_aload_n hx hb dPI_buildLeaf_64 rfl (lv_at hl 1 rfl) ?_
                  refine va_get (D := (dC, dI)) (ci := 7) (v := .ref (ad 9)) (C := kR_PI) (T := kT_PI) (N := 9) hx hb hts kin_PI hown hK hP 2 rfl rfl 5 (by decide) (hts _ (List.mem_cons_of_mem _ kw2_33)) (fun _ h9 => h9) rfl dPI_buildLeaf_65 ?_
                  refine va_get (D := (dC, dI)) (ci := 9) (v := .ref (ad 27)) (C := kR_RS) (T := kT_RS) (N := 4) hx hb hts kin_RS hown hK hP 3 rfl rfl 3 (by decide) (hts _ (List.mem_cons_of_mem _ kw1_226)) (fun _ h9 => h9) rfl dPI_buildLeaf_68 ?_
                  refine lv_iload_n hx hb dPI_buildLeaf_71 rfl (lv_at hl 2 rfl) ?_
                  refine lv_aload_n hx hb dPI_buildLeaf_72 rfl (lv_at hl 1 rfl) ?_
                  refine va_get (D := (dC, dI)) (ci := 7) (v := .ref (ad 5)) (C := kR_PI) (T := kT_PI) (N := 9) hx hb hts kin_PI hown hK hP 2 rfl rfl 3 (by decide) (hts _ (List.mem_cons_of_mem _ kw2_31)) (fun _ h9 => h9) rfl dPI_buildLeaf_73 ?_
                  refine va_get (D := (dC, dI)) (ci := 5) (v := .int v_LF_side) (C := kR_LF) (T := kT_LF) (N := 5) hx hb hts kin_LF hown hK hP 0 rfl rfl 2 (by decide) (hts _ (List.mem_cons_of_mem _ kw1_174)) (fun _ h9 => h9) rfl dPI_buildLeaf_76 ?_
                  refine lv_imul hx hb dPI_buildLeaf_79 ?_
                  refine lv_iload_n hx hb dPI_buildLeaf_80 rfl (lv_at hl 3 rfl) ?_
                  refine lv_iadd hx hb dPI_buildLeaf_81 ?_
                  refine ip_iald hx hb hK hP 13 0 rfl rfl dPI_buildLeaf_82 hf (fun z26 hf => ?_)
                  refine lv_istore (lv' := [(4, .int z26), (3, .int z25), (0, .ref (ad 7)), (1, .int z9), (2, .int z17)]) hx hb dPI_buildLeaf_83 hl (by decide) rfl (fun ls hl => ?_)
                  refine lv_aload_n hx hb dPI_buildLeaf_85 rfl (lv_at hl 2 rfl) ?_
                  refine va_get (D := (dC, dI)) (ci := 7) (v := .ref (ad 6)) (C := kR_PI) (T := kT_PI) (N := 9) hx hb hts kin_PI hown hK hP 2 rfl rfl 2 (by decide) (hts _ (List.mem_cons_of_mem _ kw2_30)) (fun _ h9 => h9) rfl dPI_buildLeaf_86 ?_
                  refine va_get (D := (dC, dI)) (ci := 6) (v := .ref (ad 19)) (C := kR_RW) (T := kT_RW) (N := 6) hx hb hts kin_RW hown hK hP 1 rfl rfl 1 (by decide) (hts _ (List.mem_cons_of_mem _ kw1_123)) (fun _ h9 => h9) rfl dPI_buildLeaf_89 ?_
                  refine lv_iload_n hx hb dPI_buildLeaf_92 rfl (lv_at hl 1 rfl) ?_
                  refine lv_aload_n hx hb dPI_buildLeaf_93 rfl (lv_at hl 2 rfl) ?_
                  refine va_get (D := (dC, dI)) (ci := 7) (v := .ref (ad 6)) (C := kR_PI) (T := kT_PI) (N := 9) hx hb hts kin_PI hown hK hP 2 rfl rfl 2 (by decide) (hts _ (List.mem_cons_of_mem _ kw2_30)) (fun _ h9 => h9) rfl dPI_buildLeaf_94 ?_
                  refine va_get (D := (dC, dI)) (ci := 6) (v := .ref (ad 20)) (C := kR_RW) (T := kT_RW) (N := 6) hx hb hts kin_RW hown hK hP 1 rfl rfl 2 (by decide) (hts _ (List.mem_cons_of_mem _ kw1_128)) (fun _ h9 => h9) rfl dPI_buildLeaf_97 ?_
                  refine lv_iload_n hx hb dPI_buildLeaf_100 rfl (lv_at hl 1 rfl) ?_
                  refine ip_iald hx hb hK hP 7 0 rfl rfl dPI_buildLeaf_101 hf (fun z27 hf => ?_)
                  refine lv_iload hx hb dPI_buildLeaf_102 (lv_at hl 0 rfl) ?_
                  refine lv_iadd hx hb dPI_buildLeaf_104 ?_
                  refine lv_iconst (v := (0 : Int32)) hx hb dPI_buildLeaf_105 (by decide) ?_
                  refine lv_sipush (v := (255 : Int32)) hx hb dPI_buildLeaf_106 (by decide) ?_
                  obtain ⟨z28, hc, hf⟩ := ip_b1_e hf
                  refine ip_calli (va_runSN (As := [.int (z27 + z26), .int (0 : Int32), .int (255 : Int32)]) (rest := [.int z25, .ref (ad 19)]) ⟨hx, hb, hml, hown, hts⟩ (tIP_bring (l := l) (dC := dC) (dI := dI) (ad := ad) (cI := cI) (ts := (ip_TS t0 t1 t2 t3)) hc H.size) ⟨va_cnB 3 hts (ip_gd kw3_14) rfl rfl rfl (hZ.2 9 _ rfl) (hts _ (List.mem_cons_of_mem _ kw1_1)) (by decide +kernel) ⟨Nat.le_of_ble_eq_true rfl, Nat.le_of_ble_eq_true rfl⟩, (hts _ (List.mem_cons_of_mem _ kw3_13)), trivial⟩ (ip_preS hK hP hD hS hA hZ [] rfl rfl) rfl rfl hl.1 rfl (lv_room (Nat.le_of_ble_eq_true rfl)) dPI_buildLeaf_109 ⟨Nat.le_of_ble_eq_true rfl, Nat.le_of_ble_eq_true rfl⟩) hP hD hS hA [] [0, 1, 2, 3, 4, 5, 6, 7, 8, 9, 10, 11, 12, 13, 14, 15] [0, 1, 2, 3, 4, 5, 6, 7, 8, 9, 10, 11, 12, 13, 14, 15] (wPI_buildLeaf ad cI v_LF_x v_LF_y v_LF_side v_LF_mode v_LF_skip v_PI_leaves z5 v_aValues g18 g6 v_aLevels g19 g20 g2 g3 g4 g7 g8) rfl rfl rfl (by decide) rfl rfl (fun H locs hP hD hS => ?_)
                  clear hc
                  refine ip_iast hx hb hK hP hD hS 6 0 rfl rfl (fun g29 => (wPI_buildLeaf ad cI v_LF_x v_LF_y v_LF_side v_LF_mode v_LF_skip v_PI_leaves z5 v_aValues g29 g6 v_aLevels g19 g20 g2 g3 g4 g7 g8)) (fun _ => rfl) dPI_buildLeaf_112 hf (fun g29 H locs hf hP hD hS => ?_)
                  refine lv_aload_n hx hb dPI_buildLeaf_113 rfl (lv_at hl 2 rfl) ?_
                  refine va_get (D := (dC, dI)) (ci := 7) (v := .ref (ad 6)) (C := kR_PI) (T := kT_PI) (N := 9) hx hb hts kin_PI hown hK hP 2 rfl rfl 2 (by decide) (hts _ (List.mem_cons_of_mem _ kw2_30)) (fun _ h9 => h9) rfl dPI_buildLeaf_114 ?_
                  refine va_get (D := (dC, dI)) (ci := 6) (v := .ref (ad 22)) (C := kR_RW) (T := kT_RW) (N := 6) hx hb hts kin_RW hown hK hP 1 rfl rfl 4 (by decide) (hts _ (List.mem_cons_of_mem _ kw1_134)) (fun _ h9 => h9) rfl dPI_buildLeaf_117 ?_
                  refine lv_iload_n hx hb dPI_buildLeaf_120 rfl (lv_at hl 1 rfl) ?_
                  refine lv_aload_n hx hb dPI_buildLeaf_121 rfl (lv_at hl 2 rfl) ?_
                  refine va_get (D := (dC, dI)) (ci := 7) (v := .ref (ad 5)) (C := kR_PI) (T := kT_PI) (N := 9) hx hb hts kin_PI hown hK hP 2 rfl rfl 3 (by decide) (hts _ (List.mem_cons_of_mem _ kw2_31)) (fun _ h9 => h9) rfl dPI_buildLeaf_122 ?_
                  refine va_get (D := (dC, dI)) (ci := 5) (v := .int v_LF_mode) (C := kR_LF) (T := kT_LF) (N := 5) hx hb hts kin_LF hown hK hP 0 rfl rfl 3 (by decide) (hts _ (List.mem_cons_of_mem _ kw1_176)) (fun _ h9 => h9) rfl dPI_buildLeaf_125 ?_
                  refine ip_iast hx hb hK hP hD hS 9 0 rfl rfl (fun g30 => (wPI_buildLeaf ad cI v_LF_x v_LF_y v_LF_side v_LF_mode v_LF_skip v_PI_leaves z5 v_aValues g29 g6 v_aLevels g30 g20 g2 g3 g4 g7 g8)) (fun _ => rfl) dPI_buildLeaf_128 hf (fun g30 H locs hf hP hD hS => ?_)
                  refine lv_aload_n hx hb dPI_buildLeaf_129 rfl (lv_at hl 2 rfl) ?_
                  refine va_get (D := (dC, dI)) (ci := 7) (v := .ref (ad 6)) (C := kR_PI) (T := kT_PI) (N := 9) hx hb hts kin_PI hown hK hP 2 rfl rfl 2 (by decide) (hts _ (List.mem_cons_of_mem _ kw2_30)) (fun _ h9 => h9) rfl dPI_buildLeaf_130 ?_
                  refine va_get (D := (dC, dI)) (ci := 6) (v := .ref (ad 23)) (C := kR_RW) (T := kT_RW) (N := 6) hx hb hts kin_RW hown hK hP 1 rfl rfl 5 (by decide) (hts _ (List.mem_cons_of_mem _ kw1_137)) (fun _ h9 => h9) rfl dPI_buildLeaf_133 ?_
                  refine lv_iload_n hx hb dPI_buildLeaf_136 rfl (lv_at hl 1 rfl) ?_
                  refine lv_aload_n hx hb dPI_buildLeaf_137 rfl (lv_at hl 2 rfl) ?_
                  refine va_get (D := (dC, dI)) (ci := 7) (v := .ref (ad 5)) (C := kR_PI) (T := kT_PI) (N := 9) hx hb hts kin_PI hown hK hP 2 rfl rfl 3 (by decide) (hts _ (List.mem_cons_of_mem _ kw2_31)) (fun _ h9 => h9) rfl dPI_buildLeaf_138 ?_
                  refine va_get (D := (dC, dI)) (ci := 5) (v := .int v_LF_side) (C := kR_LF) (T := kT_LF) (N := 5) hx hb hts kin_LF hown hK hP 0 rfl rfl 2 (by decide) (hts _ (List.mem_cons_of_mem _ kw1_174)) (fun _ h9 => h9) rfl dPI_buildLeaf_141 ?_
                  refine ip_iast hx hb hK hP hD hS 10 0 rfl rfl (fun g31 => (wPI_buildLeaf ad cI v_LF_x v_LF_y v_LF_side v_LF_mode v_LF_skip v_PI_leaves z5 v_aValues g29 g6 v_aLevels g30 g31 g2 g3 g4 g7 g8)) (fun _ => rfl) dPI_buildLeaf_144 hf (fun g31 H locs hf hP hD hS => ?_)
                  refine ip_iinc (k0 := 4) (v0 := (1 : Int32)) (lv1 := fun z32 => [(2, .int z32), (4, .int z26), (3, .int z25), (0, .ref (ad 7)), (1, .int z9)]) hx hb dPI_buildLeaf_145 hl rfl (by decide) (by decide) (fun _ => rfl) hf (fun z32 ls hf hl => ?_)
                  refine lv_goto (tgt := 43) hx hb dPI_buildLeaf_148 rfl ?_
                  replace hl := lv_sub hl (l' := [(0, .ref (ad 7)), (1, .int z9), (2, .int z32)]) [3, 4, 0] rfl
                  exact ih _ _ _ _ (ip_lp4_l hr43 hf) ls H locs hl hP hD hS
            exact L 1000 _ _ _ _ hL ls H locs hl hP hD hS
          intro ls H locs hl hP hD hS
          clear hL
          refine ip_iinc (k0 := 1) (v0 := (1 : Int32)) (lv1 := fun z33 => [(1, .int z33), (0, .ref (ad 7))]) hx hb dPI_buildLeaf_151 hl rfl (by decide) (by decide) (fun _ => rfl) hf (fun z33 ls hf hl => ?_)
          refine lv_goto (tgt := 30) hx hb dPI_buildLeaf_154 rfl ?_
          replace hl := lv_sub hl (l' := [(0, .ref (ad 7)), (1, .int z33)]) [1, 0] rfl
          exact ih _ _ _ _ (ip_lp4_l hr30 hf) ls H locs hl hP hD hS
    exact L 1000 _ _ _ _ hL ls H locs hl hP hD hS
  intro ls H locs hl hP hD hS
  clear hL
  cases hf
  exact hret H locs 157 ls dPI_buildLeaf_157 hP hD hS
