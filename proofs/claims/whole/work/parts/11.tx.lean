set_option maxHeartbeats 4000000 in
set_option maxRecDepth 100000 in
theorem tIP_payload {l : Launch} {dC : Nat → ClassId} {dI : Nat → Nat → Nat} {cI : ClassId} {ad : Nat → Nat} {ts : ip_TT} {v_IP_pictureStands : Int32} {v_FB_count : Int32} {v_FB_chosenLength : Int32} {v_aBytes : Nat → Int32} {v_aChosen : Nat → Int32} {p1 : Int32} {p2 : Int32} {r0 : Int32} {nv_FB_chosenLength : Int32} {nv_aChosen : Nat → Int32} (hf : fIP_payload v_IP_pictureStands v_FB_count v_FB_chosenLength v_aBytes v_aChosen p1 p2 = some (r0, nv_FB_chosenLength, nv_aChosen)) : ip_Mi l yIP_payload wsIP_payload rmIP_payload (dC, dI) vwCl [(cI, .int)] ts [.ref (ad 0), .int p1, .int p2] (wIP_payload ad cI v_IP_pictureStands v_FB_count v_FB_chosenLength v_aBytes v_aChosen) (wIP_payload ad cI v_IP_pictureStands v_FB_count nv_FB_chosenLength v_aBytes nv_aChosen) r0 := by
  refine ip_startI (cc := cIP_payload) (maxL := 3) (by decide) rfl (Nat.le_of_ble_eq_true rfl) ?_
  intro p e s m args below meth c Q A ls hx hb hml hts hown hK hP hD hS hA hZ hl hret
  replace hl : lv_has ls 3 [(0, .ref (ad 0)), (1, .int p1), (2, .int p2)] := hl
  unfold fIP_payload at hf
  suffices J0 : ∀ (ls : Array Slot) (H : Heap) (locs : List Loc), lv_has ls 3 [(0, .ref (ad 0)), (1, .int p1), (2, .int p2)] → va_P (dC, dI) vwCl (wIP_payload ad cI v_IP_pictureStands v_FB_count v_FB_chosenLength v_aBytes v_aChosen) H → va_D A (wIP_payload ad cI v_IP_pictureStands v_FB_count v_FB_chosenLength v_aBytes v_aChosen) → va_S A s.heap H locs → W p l e rmIP_payload s m args below meth c H locs 0 0 Q (F0 m 0 ls []) by exact J0 ls s.heap [] hl hP hD hS
  clear hP hD hS hl
  intro ls H locs hl hP hD hS
  refine lv_aload_n hx hb dIP_payload_0 rfl (lv_at hl 0 rfl) ?_
  refine va_get (D := (dC, dI)) (ci := 0) (v := .ref (ad 1)) (C := kR_IP) (T := kT_IP) (N := 7) hx hb hts kin_IP hown hK hP 0 rfl rfl 0 (by decide) (hts _ (List.mem_cons_of_mem _ kw2_57)) (fun _ h9 => h9) rfl dIP_payload_1 ?_
  refine lv_iload_n hx hb dIP_payload_4 rfl (lv_at hl 1 rfl) ?_
  obtain ⟨z1, z2, g3, hc, hf⟩ := ip_b3_e hf
  refine ip_calli (va_runV (As := [.int p1]) (rest := []) ⟨hx, hb, hml, hown, hts⟩ (tFB_choose (l := l) (dC := dC) (dI := dI) (ad := ad) (cI := cI) (ts := ts) hc H.size) (cwV 1 hts (ip_gdV (own := kR_IP) (idx := 83) (C := kR_FB) (y := yFB_choose) kw2_107 kw2_108 kw2_109 kw1_2 kw2_110) rfl rfl rfl (by decide +kernel) ⟨Nat.le_of_ble_eq_true rfl, Nat.le_of_ble_eq_true rfl⟩) (ip_preV hK hP hD hS hA hZ [1, 2, 3] rfl rfl (ci := 1) (q0 := 1) rfl rfl) rfl rfl hl.1 rfl (lv_room (Nat.le_of_ble_eq_true rfl)) dIP_payload_5 ⟨Nat.le_of_ble_eq_true rfl, Nat.le_of_ble_eq_true rfl⟩) hP hD hS hA [1, 2, 3] [0] [0, 1, 2, 3] (wIP_payload ad cI v_IP_pictureStands v_FB_count z2 v_aBytes g3) rfl rfl rfl (by decide) rfl rfl (fun H locs hP hD hS => ?_)
  clear hc
  refine ip_if_ne (tgt := 13) hx hb dIP_payload_8 rfl hf (fun hf => ?_) (fun hf => ?_)
  · refine lv_iload_n hx hb dIP_payload_13 rfl (lv_at hl 2 rfl) ?_
    refine lv_iconst (v := (-1 : Int32)) hx hb dIP_payload_14 (by decide) ?_
    refine ip_icmp_ne (tgt := 26) hx hb dIP_payload_15 rfl hf (fun hf => ?_) (fun hf => ?_)
    · refine lv_iload_n hx hb dIP_payload_26 rfl (lv_at hl 2 rfl) ?_
      refine ip_if_lt (tgt := 53) hx hb dIP_payload_27 rfl hf (fun hf => ?_) (fun hf => ?_)
      · refine lv_iconst (v := (-1 : Int32)) hx hb dIP_payload_53 (by decide) ?_
        cases hf
        exact hret H locs 54 ls _ dIP_payload_54 rfl hP hD hS
      · refine lv_iload_n hx hb dIP_payload_30 rfl (lv_at hl 2 rfl) ?_
        refine lv_aload_n hx hb dIP_payload_31 rfl (lv_at hl 0 rfl) ?_
        refine va_get (D := (dC, dI)) (ci := 0) (v := .ref (ad 1)) (C := kR_IP) (T := kT_IP) (N := 7) hx hb hts kin_IP hown hK hP 0 rfl rfl 0 (by decide) (hts _ (List.mem_cons_of_mem _ kw2_57)) (fun _ h9 => h9) rfl dIP_payload_32 ?_
        refine va_get (D := (dC, dI)) (ci := 1) (v := .int z2) (C := kR_FB) (T := kT_FB) (N := 4) hx hb hts kin_FB hown hK hP 1 rfl rfl 3 (by decide) (hts _ (List.mem_cons_of_mem _ kw1_37)) (fun _ h9 => h9) rfl dIP_payload_35 ?_
        refine ip_icmp_ge (tgt := 53) hx hb dIP_payload_38 rfl hf (fun hf => ?_) (fun hf => ?_)
        · refine lv_iconst (v := (-1 : Int32)) hx hb dIP_payload_53 (by decide) ?_
          cases hf
          exact hret H locs 54 ls _ dIP_payload_54 rfl hP hD hS
        · refine lv_aload_n hx hb dIP_payload_41 rfl (lv_at hl 0 rfl) ?_
          refine va_get (D := (dC, dI)) (ci := 0) (v := .ref (ad 1)) (C := kR_IP) (T := kT_IP) (N := 7) hx hb hts kin_IP hown hK hP 0 rfl rfl 0 (by decide) (hts _ (List.mem_cons_of_mem _ kw2_57)) (fun _ h9 => h9) rfl dIP_payload_42 ?_
          refine va_get (D := (dC, dI)) (ci := 1) (v := .ref (ad 13)) (C := kR_FB) (T := kT_FB) (N := 4) hx hb hts kin_FB hown hK hP 1 rfl rfl 1 (by decide) (hts _ (List.mem_cons_of_mem _ kw1_34)) (fun _ h9 => h9) rfl dIP_payload_45 ?_
          refine lv_iload_n hx hb dIP_payload_48 rfl (lv_at hl 2 rfl) ?_
          refine ip_iald hx hb hK hP 3 0 rfl rfl dIP_payload_49 hf (fun z4 hf => ?_)
          refine lv_goto (tgt := 54) hx hb dIP_payload_50 rfl ?_
          cases hf
          exact hret H locs 54 ls _ dIP_payload_54 rfl hP hD hS
    · refine lv_aload_n hx hb dIP_payload_18 rfl (lv_at hl 0 rfl) ?_
      refine va_get (D := (dC, dI)) (ci := 0) (v := .ref (ad 1)) (C := kR_IP) (T := kT_IP) (N := 7) hx hb hts kin_IP hown hK hP 0 rfl rfl 0 (by decide) (hts _ (List.mem_cons_of_mem _ kw2_57)) (fun _ h9 => h9) rfl dIP_payload_19 ?_
      refine va_get (D := (dC, dI)) (ci := 1) (v := .int z2) (C := kR_FB) (T := kT_FB) (N := 4) hx hb hts kin_FB hown hK hP 1 rfl rfl 3 (by decide) (hts _ (List.mem_cons_of_mem _ kw1_37)) (fun _ h9 => h9) rfl dIP_payload_22 ?_
      cases hf
      exact hret H locs 25 ls _ dIP_payload_25 rfl hP hD hS
  · refine lv_iconst (v := (-1 : Int32)) hx hb dIP_payload_11 (by decide) ?_
    cases hf
    exact hret H locs 12 ls _ dIP_payload_12 rfl hP hD hS
set_option maxHeartbeats 4000000 in
set_option maxRecDepth 100000 in
theorem tRB_rewind {l : Launch} {dC : Nat → ClassId} {dI : Nat → Nat → Nat} {cI : ClassId} {ad : Nat → Nat} {ts : ip_TT} {v_RB_place : Int32} {v_RB_end : Int32} {p1 : Int32} {nv_RB_place : Int32} {nv_RB_end : Int32} (hf : fRB_rewind v_RB_place v_RB_end p1 = some (nv_RB_place, nv_RB_end)) : ip_Mv l yRB_rewind wsRB_rewind rmRB_rewind (dC, dI) vwCl [(cI, .int)] ts [.ref (ad 2), .int p1] (wRB_rewind ad cI v_RB_place v_RB_end) (wRB_rewind ad cI nv_RB_place nv_RB_end) := by
  refine ip_startV (cc := cRB_rewind) (maxL := 2) (by decide) rfl (Nat.le_of_ble_eq_true rfl) ?_
  intro p e s m args below meth c Q A ls hx hb hml hts hown hK hP hD hS hA hZ hl hret
  replace hl : lv_has ls 2 [(0, .ref (ad 2)), (1, .int p1)] := hl
  unfold fRB_rewind at hf
  suffices J0 : ∀ (ls : Array Slot) (H : Heap) (locs : List Loc), lv_has ls 2 [(0, .ref (ad 2)), (1, .int p1)] → va_P (dC, dI) vwCl (wRB_rewind ad cI v_RB_place v_RB_end) H → va_D A (wRB_rewind ad cI v_RB_place v_RB_end) → va_S A s.heap H locs → W p l e rmRB_rewind s m args below meth c H locs 0 0 Q (F0 m 0 ls []) by exact J0 ls s.heap [] hl hP hD hS
  clear hP hD hS hl
  intro ls H locs hl hP hD hS
  refine lv_aload_n hx hb dRB_rewind_0 rfl (lv_at hl 0 rfl) ?_
  refine lv_bipush (v := (8 : Int32)) hx hb dRB_rewind_1 (by decide) ?_
  refine va_put (D := (dC, dI)) (ci := 2) (v := .int (8 : Int32)) (ty := .int) (C := kR_RB) (T := kT_RB) (N := 3) hx hb hts kin_RB kty_RB kto_RB knm_RB hown hK hP hD hS 0 rfl rfl 1 (by decide) (hts _ (List.mem_cons_of_mem _ kw1_56)) (fun _ h9 => h9) rfl (by decide +kernel) rfl rfl (Nat.le_of_ble_eq_true rfl) dRB_rewind_3 (fun H locs hP hD hS => ?_)
  replace hP : va_P (dC, dI) vwCl (wRB_rewind ad cI (8 : Int32) v_RB_end) H := hP
  replace hD : va_D A (wRB_rewind ad cI (8 : Int32) v_RB_end) := hD
  refine lv_aload_n hx hb dRB_rewind_6 rfl (lv_at hl 0 rfl) ?_
  refine lv_bipush (v := (8 : Int32)) hx hb dRB_rewind_7 (by decide) ?_
  refine lv_iload_n hx hb dRB_rewind_9 rfl (lv_at hl 1 rfl) ?_
  refine lv_imul hx hb dRB_rewind_10 ?_
  refine ip_top hf (fun z1 hf => ?_)
  refine va_put (D := (dC, dI)) (ci := 2) (v := .int z1) (ty := .int) (C := kR_RB) (T := kT_RB) (N := 3) hx hb hts kin_RB kty_RB kto_RB knm_RB hown hK hP hD hS 0 rfl rfl 2 (by decide) (hts _ (List.mem_cons_of_mem _ kw1_57)) (fun _ h9 => h9) rfl (by decide +kernel) rfl rfl (Nat.le_of_ble_eq_true rfl) dRB_rewind_11 (fun H locs hP hD hS => ?_)
  replace hP : va_P (dC, dI) vwCl (wRB_rewind ad cI (8 : Int32) z1) H := hP
  replace hD : va_D A (wRB_rewind ad cI (8 : Int32) z1) := hD
  cases hf
  exact hret H locs 14 ls dRB_rewind_14 hP hD hS
set_option maxHeartbeats 4000000 in
set_option maxRecDepth 100000 in
theorem tFB_chosenKind {l : Launch} {dC : Nat → ClassId} {dI : Nat → Nat → Nat} {cI : ClassId} {ad : Nat → Nat} {ts : ip_TT} {v_FB_count : Int32} {v_FB_chosenLength : Int32} {v_aChosen : Nat → Int32}  {r0 : Int32}  (hf : fFB_chosenKind v_FB_count v_FB_chosenLength v_aChosen = some r0) : ip_Mi l yFB_chosenKind wsFB_chosenKind rmFB_chosenKind (dC, dI) vwCl [(cI, .int)] ts [.ref (ad 1)] (wFB_chosenKind ad cI v_FB_count v_FB_chosenLength v_aChosen) (wFB_chosenKind ad cI v_FB_count v_FB_chosenLength v_aChosen) r0 := by
  refine ip_startI (cc := cFB_chosenKind) (maxL := 1) (by decide) rfl (Nat.le_of_ble_eq_true rfl) ?_
  intro p e s m args below meth c Q A ls hx hb hml hts hown hK hP hD hS hA hZ hl hret
  replace hl : lv_has ls 1 [(0, .ref (ad 1))] := hl
  unfold fFB_chosenKind at hf
  suffices J0 : ∀ (ls : Array Slot) (H : Heap) (locs : List Loc), lv_has ls 1 [(0, .ref (ad 1))] → va_P (dC, dI) vwCl (wFB_chosenKind ad cI v_FB_count v_FB_chosenLength v_aChosen) H → va_D A (wFB_chosenKind ad cI v_FB_count v_FB_chosenLength v_aChosen) → va_S A s.heap H locs → W p l e rmFB_chosenKind s m args below meth c H locs 0 0 Q (F0 m 0 ls []) by exact J0 ls s.heap [] hl hP hD hS
  clear hP hD hS hl
  intro ls H locs hl hP hD hS
  refine lv_aload_n hx hb dFB_chosenKind_0 rfl (lv_at hl 0 rfl) ?_
  refine va_get (D := (dC, dI)) (ci := 1) (v := .int v_FB_chosenLength) (C := kR_FB) (T := kT_FB) (N := 4) hx hb hts kin_FB hown hK hP 0 rfl rfl 3 (by decide) (hts _ (List.mem_cons_of_mem _ kw1_38)) (fun _ h9 => h9) rfl dFB_chosenKind_1 ?_
  refine ip_if_le (tgt := 16) hx hb dFB_chosenKind_4 rfl hf (fun hf => ?_) (fun hf => ?_)
  · refine lv_iconst (v := (-1 : Int32)) hx hb dFB_chosenKind_16 (by decide) ?_
    cases hf
    exact hret H locs 17 ls _ dFB_chosenKind_17 rfl hP hD hS
  · refine lv_aload_n hx hb dFB_chosenKind_7 rfl (lv_at hl 0 rfl) ?_
    refine va_get (D := (dC, dI)) (ci := 1) (v := .ref (ad 13)) (C := kR_FB) (T := kT_FB) (N := 4) hx hb hts kin_FB hown hK hP 0 rfl rfl 1 (by decide) (hts _ (List.mem_cons_of_mem _ kw1_33)) (fun _ h9 => h9) rfl dFB_chosenKind_8 ?_
    refine lv_iconst (v := (0 : Int32)) hx hb dFB_chosenKind_11 (by decide) ?_
    refine ip_iald hx hb hK hP 1 0 rfl rfl dFB_chosenKind_12 hf (fun z1 hf => ?_)
    refine lv_goto (tgt := 17) hx hb dFB_chosenKind_13 rfl ?_
    cases hf
    exact hret H locs 17 ls _ dFB_chosenKind_17 rfl hP hD hS
set_option maxHeartbeats 4000000 in
set_option maxRecDepth 100000 in
theorem tRB_atEnd {l : Launch} {dC : Nat → ClassId} {dI : Nat → Nat → Nat} {cI : ClassId} {ad : Nat → Nat} {ts : ip_TT} {v_RB_place : Int32} {v_RB_end : Int32}  {r0 : Int32}  (hf : fRB_atEnd v_RB_place v_RB_end = some r0) : ip_Mi l yRB_atEnd wsRB_atEnd rmRB_atEnd (dC, dI) vwCl [(cI, .int)] ts [.ref (ad 2)] (wRB_atEnd ad cI v_RB_place v_RB_end) (wRB_atEnd ad cI v_RB_place v_RB_end) r0 := by
  refine ip_startZ (cc := cRB_atEnd) (maxL := 1) (by decide) rfl (Nat.le_of_ble_eq_true rfl) ?_
  intro p e s m args below meth c Q A ls hx hb hml hts hown hK hP hD hS hA hZ hl hret
  replace hl : lv_has ls 1 [(0, .ref (ad 2))] := hl
  unfold fRB_atEnd at hf
  suffices J0 : ∀ (ls : Array Slot) (H : Heap) (locs : List Loc), lv_has ls 1 [(0, .ref (ad 2))] → va_P (dC, dI) vwCl (wRB_atEnd ad cI v_RB_place v_RB_end) H → va_D A (wRB_atEnd ad cI v_RB_place v_RB_end) → va_S A s.heap H locs → W p l e rmRB_atEnd s m args below meth c H locs 0 0 Q (F0 m 0 ls []) by exact J0 ls s.heap [] hl hP hD hS
  clear hP hD hS hl
  intro ls H locs hl hP hD hS
  refine lv_aload_n hx hb dRB_atEnd_0 rfl (lv_at hl 0 rfl) ?_
  refine va_get (D := (dC, dI)) (ci := 2) (v := .int v_RB_place) (C := kR_RB) (T := kT_RB) (N := 3) hx hb hts kin_RB hown hK hP 0 rfl rfl 1 (by decide) (hts _ (List.mem_cons_of_mem _ kw1_56)) (fun _ h9 => h9) rfl dRB_atEnd_1 ?_
  refine lv_aload_n hx hb dRB_atEnd_4 rfl (lv_at hl 0 rfl) ?_
  refine va_get (D := (dC, dI)) (ci := 2) (v := .int v_RB_end) (C := kR_RB) (T := kT_RB) (N := 3) hx hb hts kin_RB hown hK hP 0 rfl rfl 2 (by decide) (hts _ (List.mem_cons_of_mem _ kw1_57)) (fun _ h9 => h9) rfl dRB_atEnd_5 ?_
  refine ip_icmp_lt (tgt := 15) hx hb dRB_atEnd_8 rfl hf (fun hf => ?_) (fun hf => ?_)
  · refine lv_iconst (v := (0 : Int32)) hx hb dRB_atEnd_15 (by decide) ?_
    cases hf
    exact hret H locs 16 ls _ dRB_atEnd_16 (Or.inl rfl) rfl hP hD hS
  · refine lv_iconst (v := (1 : Int32)) hx hb dRB_atEnd_11 (by decide) ?_
    refine lv_goto (tgt := 16) hx hb dRB_atEnd_12 rfl ?_
    cases hf
    exact hret H locs 16 ls _ dRB_atEnd_16 (Or.inr rfl) rfl hP hD hS
set_option maxHeartbeats 4000000 in
set_option maxRecDepth 100000 in
theorem tPA_blame {l : Launch} {dC : Nat → ClassId} {dI : Nat → Nat → Nat} {cI : ClassId} {ad : Nat → Nat} {ts : ip_TT} {v_PA_there : Int32} {v_PA_fault : Int32} {p1 : Int32} {nv_PA_fault : Int32} (hf : fPA_blame v_PA_there v_PA_fault p1 = some nv_PA_fault) : ip_Mv l yPA_blame wsPA_blame rmPA_blame (dC, dI) vwCl [(cI, .int)] ts [.ref (ad 3), .int p1] (wPA_blame ad cI v_PA_there v_PA_fault) (wPA_blame ad cI v_PA_there nv_PA_fault) := by
  refine ip_startV (cc := cPA_blame) (maxL := 2) (by decide) rfl (Nat.le_of_ble_eq_true rfl) ?_
  intro p e s m args below meth c Q A ls hx hb hml hts hown hK hP hD hS hA hZ hl hret
  replace hl : lv_has ls 2 [(0, .ref (ad 3)), (1, .int p1)] := hl
  unfold fPA_blame at hf
  suffices J0 : ∀ (ls : Array Slot) (H : Heap) (locs : List Loc), lv_has ls 2 [(0, .ref (ad 3)), (1, .int p1)] → va_P (dC, dI) vwCl (wPA_blame ad cI v_PA_there v_PA_fault) H → va_D A (wPA_blame ad cI v_PA_there v_PA_fault) → va_S A s.heap H locs → W p l e rmPA_blame s m args below meth c H locs 0 0 Q (F0 m 0 ls []) by exact J0 ls s.heap [] hl hP hD hS
  clear hP hD hS hl
  intro ls H locs hl hP hD hS
  refine lv_aload_n hx hb dPA_blame_0 rfl (lv_at hl 0 rfl) ?_
  refine va_get (D := (dC, dI)) (ci := 3) (v := .int v_PA_fault) (C := kR_PA) (T := kT_PA) (N := 5) hx hb hts kin_PA hown hK hP 0 rfl rfl 4 (by decide) (hts _ (List.mem_cons_of_mem _ kw1_77)) (fun _ h9 => h9) rfl dPA_blame_1 ?_
  refine ip_if_ne (tgt := 12) hx hb dPA_blame_4 rfl hf (fun hf => ?_) (fun hf => ?_)
  · cases hf
    exact hret H locs 12 ls dPA_blame_12 hP hD hS
  · refine lv_aload_n hx hb dPA_blame_7 rfl (lv_at hl 0 rfl) ?_
    refine lv_iload_n hx hb dPA_blame_8 rfl (lv_at hl 1 rfl) ?_
    refine va_put (D := (dC, dI)) (ci := 3) (v := .int p1) (ty := .int) (C := kR_PA) (T := kT_PA) (N := 5) hx hb hts kin_PA kty_PA kto_PA knm_PA hown hK hP hD hS 0 rfl rfl 4 (by decide) (hts _ (List.mem_cons_of_mem _ kw1_77)) (fun _ h9 => h9) rfl (by decide +kernel) rfl rfl (Nat.le_of_ble_eq_true rfl) dPA_blame_9 (fun H locs hP hD hS => ?_)
    replace hP : va_P (dC, dI) vwCl (wPA_blame ad cI v_PA_there p1) H := hP
    replace hD : va_D A (wPA_blame ad cI v_PA_there p1) := hD
    cases hf
    exact hret H locs 12 ls dPA_blame_12 hP hD hS
set_option maxHeartbeats 4000000 in
set_option maxRecDepth 100000 in
theorem tRB_next {l : Launch} {dC : Nat → ClassId} {dI : Nat → Nat → Nat} {cI : ClassId} {ad : Nat → Nat} {ts : ip_TT} {v_RB_place : Int32} {v_RB_end : Int32} {v_aChosen : Nat → Int32}  {r0 : Int32} {nv_RB_place : Int32} (hf : fRB_next v_RB_place v_RB_end v_aChosen = some (r0, nv_RB_place)) : ip_Mi l yRB_next wsRB_next rmRB_next (dC, dI) vwCl [(cI, .int)] ts [.ref (ad 2)] (wRB_next ad cI v_RB_place v_RB_end v_aChosen) (wRB_next ad cI nv_RB_place v_RB_end v_aChosen) r0 := by
  refine ip_startI (cc := cRB_next) (maxL := 2) (by decide) rfl (Nat.le_of_ble_eq_true rfl) ?_
  intro p e s m args below meth c Q A ls hx hb hml hts hown hK hP hD hS hA hZ hl hret
  replace hl : lv_has ls 2 [(0, .ref (ad 2))] := hl
  unfold fRB_next at hf
  suffices J0 : ∀ (ls : Array Slot) (H : Heap) (locs : List Loc), lv_has ls 2 [(0, .ref (ad 2))] → va_P (dC, dI) vwCl (wRB_next ad cI v_RB_place v_RB_end v_aChosen) H → va_D A (wRB_next ad cI v_RB_place v_RB_end v_aChosen) → va_S A s.heap H locs → W p l e rmRB_next s m args below meth c H locs 0 0 Q (F0 m 0 ls []) by exact J0 ls s.heap [] hl hP hD hS
  clear hP hD hS hl
  intro ls H locs hl hP hD hS
  refine lv_aload_n hx hb dRB_next_0 rfl (lv_at hl 0 rfl) ?_
  refine va_get (D := (dC, dI)) (ci := 2) (v := .int v_RB_place) (C := kR_RB) (T := kT_RB) (N := 3) hx hb hts kin_RB hown hK hP 0 rfl rfl 1 (by decide) (hts _ (List.mem_cons_of_mem _ kw1_56)) (fun _ h9 => h9) rfl dRB_next_1 ?_
  refine lv_aload_n hx hb dRB_next_4 rfl (lv_at hl 0 rfl) ?_
  refine va_get (D := (dC, dI)) (ci := 2) (v := .int v_RB_end) (C := kR_RB) (T := kT_RB) (N := 3) hx hb hts kin_RB hown hK hP 0 rfl rfl 2 (by decide) (hts _ (List.mem_cons_of_mem _ kw1_57)) (fun _ h9 => h9) rfl dRB_next_5 ?_
  obtain ⟨z1, hh, hf⟩ := ip_b1_e hf
  suffices J39 : ∀ (ls : Array Slot) (H : Heap) (locs : List Loc), lv_has ls 2 [(0, .ref (ad 2))] → va_P (dC, dI) vwCl (wRB_next ad cI v_RB_place v_RB_end v_aChosen) H → va_D A (wRB_next ad cI v_RB_place v_RB_end v_aChosen) → va_S A s.heap H locs → W p l e rmRB_next s m args below meth c H locs 0 0 Q (F0 m 39 ls [.int z1]) by
    replace hf := hh
    refine ip_icmp_ge (tgt := 38) hx hb dRB_next_8 rfl hf (fun hf => ?_) (fun hf => ?_)
    · refine lv_iconst (v := (0 : Int32)) hx hb dRB_next_38 (by decide) ?_
      cases hf
      exact J39 ls H locs hl hP hD hS
    · refine lv_aload_n hx hb dRB_next_11 rfl (lv_at hl 0 rfl) ?_
      refine va_get (D := (dC, dI)) (ci := 2) (v := .ref (ad 13)) (C := kR_RB) (T := kT_RB) (N := 3) hx hb hts kin_RB hown hK hP 0 rfl rfl 0 (by decide) (hts _ (List.mem_cons_of_mem _ kw1_55)) (fun _ h9 => h9) rfl dRB_next_12 ?_
      refine lv_aload_n hx hb dRB_next_15 rfl (lv_at hl 0 rfl) ?_
      refine va_get (D := (dC, dI)) (ci := 2) (v := .int v_RB_place) (C := kR_RB) (T := kT_RB) (N := 3) hx hb hts kin_RB hown hK hP 0 rfl rfl 1 (by decide) (hts _ (List.mem_cons_of_mem _ kw1_56)) (fun _ h9 => h9) rfl dRB_next_16 ?_
      refine lv_iconst (v := (3 : Int32)) hx hb dRB_next_19 (by decide) ?_
      refine lv_ishr hx hb dRB_next_20 ?_
      refine ip_iald hx hb hK hP 1 0 rfl rfl dRB_next_21 hf (fun z2 hf => ?_)
      refine lv_bipush (v := (7 : Int32)) hx hb dRB_next_22 (by decide) ?_
      refine lv_aload_n hx hb dRB_next_24 rfl (lv_at hl 0 rfl) ?_
      refine va_get (D := (dC, dI)) (ci := 2) (v := .int v_RB_place) (C := kR_RB) (T := kT_RB) (N := 3) hx hb hts kin_RB hown hK hP 0 rfl rfl 1 (by decide) (hts _ (List.mem_cons_of_mem _ kw1_56)) (fun _ h9 => h9) rfl dRB_next_25 ?_
      refine lv_bipush (v := (7 : Int32)) hx hb dRB_next_28 (by decide) ?_
      refine lv_iand hx hb dRB_next_30 ?_
      refine lv_isub hx hb dRB_next_31 ?_
      refine lv_ishr hx hb dRB_next_32 ?_
      refine lv_iconst (v := (1 : Int32)) hx hb dRB_next_33 (by decide) ?_
      refine lv_iand hx hb dRB_next_34 ?_
      refine lv_goto (tgt := 39) hx hb dRB_next_35 rfl ?_
      cases hf
      exact J39 ls H locs hl hP hD hS
  intro ls H locs hl hP hD hS
  clear hh
  refine lv_istore_n (lv' := [(1, .int z1), (0, .ref (ad 2))]) hx hb dRB_next_39 rfl hl (by decide) rfl (fun ls hl => ?_)
  refine lv_aload_n hx hb dRB_next_40 rfl (lv_at hl 1 rfl) ?_
  refine lv_dup hx hb dRB_next_41 rfl ?_
  refine va_get (D := (dC, dI)) (ci := 2) (v := .int v_RB_place) (C := kR_RB) (T := kT_RB) (N := 3) hx hb hts kin_RB hown hK hP 0 rfl rfl 1 (by decide) (hts _ (List.mem_cons_of_mem _ kw1_56)) (fun _ h9 => h9) rfl dRB_next_42 ?_
  refine lv_iconst (v := (1 : Int32)) hx hb dRB_next_45 (by decide) ?_
  refine lv_iadd hx hb dRB_next_46 ?_
  refine ip_top hf (fun z3 hf => ?_)
  refine va_put (D := (dC, dI)) (ci := 2) (v := .int z3) (ty := .int) (C := kR_RB) (T := kT_RB) (N := 3) hx hb hts kin_RB kty_RB kto_RB knm_RB hown hK hP hD hS 0 rfl rfl 1 (by decide) (hts _ (List.mem_cons_of_mem _ kw1_56)) (fun _ h9 => h9) rfl (by decide +kernel) rfl rfl (Nat.le_of_ble_eq_true rfl) dRB_next_47 (fun H locs hP hD hS => ?_)
  replace hP : va_P (dC, dI) vwCl (wRB_next ad cI z3 v_RB_end v_aChosen) H := hP
  replace hD : va_D A (wRB_next ad cI z3 v_RB_end v_aChosen) := hD
  refine lv_iload_n hx hb dRB_next_50 rfl (lv_at hl 0 rfl) ?_
  cases hf
  exact hret H locs 51 ls _ dRB_next_51 rfl hP hD hS
set_option maxHeartbeats 4000000 in
set_option maxRecDepth 100000 in
theorem tPA_number {l : Launch} {dC : Nat → ClassId} {dI : Nat → Nat → Nat} {cI : ClassId} {ad : Nat → Nat} {ts : ip_TT} {v_RB_place : Int32} {v_RB_end : Int32} {v_PA_there : Int32} {v_PA_fault : Int32} {v_aChosen : Nat → Int32} {p1 : Int32} {r0 : Int32} {nv_RB_place : Int32} {nv_PA_fault : Int32} (hf : fPA_number v_RB_place v_RB_end v_PA_there v_PA_fault v_aChosen p1 = some (r0, nv_RB_place, nv_PA_fault)) : ip_Mi l yPA_number wsPA_number rmPA_number (dC, dI) vwCl [(cI, .int)] ts [.ref (ad 3), .int p1] (wPA_number ad cI v_RB_place v_RB_end v_PA_there v_PA_fault v_aChosen) (wPA_number ad cI nv_RB_place v_RB_end v_PA_there nv_PA_fault v_aChosen) r0 := by
  refine ip_startI (cc := cPA_number) (maxL := 4) (by decide) rfl (Nat.le_of_ble_eq_true rfl) ?_
  intro p e s m args below meth c Q A ls hx hb hml hts hown hK hP hD hS hA hZ hl hret
  replace hl : lv_has ls 4 [(0, .ref (ad 3)), (1, .int p1)] := hl
  unfold fPA_number at hf
  suffices J0 : ∀ (ls : Array Slot) (H : Heap) (locs : List Loc), lv_has ls 4 [(0, .ref (ad 3)), (1, .int p1)] → va_P (dC, dI) vwCl (wPA_number ad cI v_RB_place v_RB_end v_PA_there v_PA_fault v_aChosen) H → va_D A (wPA_number ad cI v_RB_place v_RB_end v_PA_there v_PA_fault v_aChosen) → va_S A s.heap H locs → W p l e rmPA_number s m args below meth c H locs 0 0 Q (F0 m 0 ls []) by exact J0 ls s.heap [] hl hP hD hS
  clear hP hD hS hl
  intro ls H locs hl hP hD hS
  refine lv_iconst (v := (0 : Int32)) hx hb dPA_number_0 (by decide) ?_
  refine lv_istore_n (lv' := [(2, .int (0 : Int32)), (0, .ref (ad 3)), (1, .int p1)]) hx hb dPA_number_1 rfl hl (by decide) rfl (fun ls hl => ?_)
  refine lv_iconst (v := (0 : Int32)) hx hb dPA_number_2 (by decide) ?_
  refine lv_istore_n (lv' := [(3, .int (0 : Int32)), (2, .int (0 : Int32)), (0, .ref (ad 3)), (1, .int p1)]) hx hb dPA_number_3 rfl hl (by decide) rfl (fun ls hl => ?_)
  replace hl := lv_sub hl (l' := [(0, .ref (ad 3)), (1, .int p1), (2, .int (0 : Int32)), (3, .int (0 : Int32))]) [2, 3, 1, 0] rfl
  obtain ⟨x5, x6, x7, x8, hL, hf⟩ := ip_b4_e hf
  suffices J43 : ∀ (ls : Array Slot) (H : Heap) (locs : List Loc), lv_has ls 4 [(2, .int x5)] → va_P (dC, dI) vwCl (wPA_number ad cI x7 v_RB_end v_PA_there x8 v_aChosen) H → va_D A (wPA_number ad cI x7 v_RB_end v_PA_there x8 v_aChosen) → va_S A s.heap H locs → W p l e rmPA_number s m args below meth c H locs 0 0 Q (F0 m 43 ls []) by
    have L : ∀ (n : Nat) (z1 : Int32) (z2 : Int32) (z3 : Int32) (z4 : Int32), ip_lp4 (fPA_number_B4 v_RB_end v_PA_there v_aChosen p1) n z1 z2 z3 z4 = some (x5, x6, x7, x8) → ∀ (ls : Array Slot) (H : Heap) (locs : List Loc), lv_has ls 4 [(0, .ref (ad 3)), (1, .int p1), (2, .int z1), (3, .int z2)] → va_P (dC, dI) vwCl (wPA_number ad cI z3 v_RB_end v_PA_there z4 v_aChosen) H → va_D A (wPA_number ad cI z3 v_RB_end v_PA_there z4 v_aChosen) → va_S A s.heap H locs → W p l e rmPA_number s m args below meth c H locs 0 0 Q (F0 m 4 ls []) := by
      intro n
      induction n with
      | zero => intro z1 z2 z3 z4 hL; exact (ip_lp4_0 hL).elim
      | succ n ih =>
        intro z1 z2 z3 z4 hL ls H locs hl hP hD hS
        clear hf
        obtain ⟨r9, hf, hr4⟩ := ip_lp4_s hL
        clear hL
        unfold fPA_number_B4 at hf
        refine lv_iload_n hx hb dPA_number_4 rfl (lv_at hl 3 rfl) ?_
        refine lv_iload_n hx hb dPA_number_5 rfl (lv_at hl 1 rfl) ?_
        refine ip_icmp_ge (tgt := 43) hx hb dPA_number_6 rfl hf (fun hf => ?_) (fun hf => ?_)
        · have hx9 := ip_lp_x hr4 hf
          replace hl := lv_sub hl (l' := [(2, .int z1)]) [2] rfl
          cases hx9
          exact J43 ls H locs hl hP hD hS
        · refine lv_aload_n hx hb dPA_number_9 rfl (lv_at hl 0 rfl) ?_
          refine va_get (D := (dC, dI)) (ci := 3) (v := .ref (ad 2)) (C := kR_PA) (T := kT_PA) (N := 5) hx hb hts kin_PA hown hK hP 1 rfl rfl 0 (by decide) (hts _ (List.mem_cons_of_mem _ kw1_71)) (fun _ h9 => h9) rfl dPA_number_10 ?_
          obtain ⟨z9, hc, hf⟩ := ip_b1_e hf
          refine ip_calli (va_runV (As := []) (rest := []) ⟨hx, hb, hml, hown, hts⟩ (tRB_atEnd (l := l) (dC := dC) (dI := dI) (ad := ad) (cI := cI) (ts := ts) hc H.size) (cwV 0 hts (ip_gdV (own := kR_PA) (idx := 61) (C := kR_RB) (y := yRB_atEnd) kw2_142 kw2_143 kw2_144 kw1_3 kw2_145) rfl rfl rfl (by decide +kernel) ⟨Nat.le_of_ble_eq_true rfl, Nat.le_of_ble_eq_true rfl⟩) (ip_preV hK hP hD hS hA hZ [0] rfl rfl (ci := 2) (q0 := 0) rfl rfl) rfl rfl hl.1 rfl (lv_room (Nat.le_of_ble_eq_true rfl)) dPA_number_13 ⟨Nat.le_of_ble_eq_true rfl, Nat.le_of_ble_eq_true rfl⟩) hP hD hS hA [0] [1, 2] [2, 0, 1] (wPA_number ad cI z3 v_RB_end v_PA_there z4 v_aChosen) rfl rfl rfl (by decide) rfl rfl (fun H locs hP hD hS => ?_)
          clear hc
          obtain ⟨z10, hh, hf⟩ := ip_b1_e hf
          suffices J25 : ∀ (ls : Array Slot) (H : Heap) (locs : List Loc), lv_has ls 4 [(0, .ref (ad 3)), (1, .int p1), (2, .int z1), (3, .int z2)] → va_P (dC, dI) vwCl (wPA_number ad cI z3 v_RB_end v_PA_there z10 v_aChosen) H → va_D A (wPA_number ad cI z3 v_RB_end v_PA_there z10 v_aChosen) → va_S A s.heap H locs → W p l e rmPA_number s m args below meth c H locs 0 0 Q (F0 m 25 ls []) by
            replace hf := hh
            refine ip_if_eq (tgt := 25) hx hb dPA_number_16 rfl hf (fun hf => ?_) (fun hf => ?_)
            · cases hf
              exact J25 ls H locs hl hP hD hS
            · refine lv_aload_n hx hb dPA_number_19 rfl (lv_at hl 0 rfl) ?_
              refine lv_bipush (v := (-4 : Int32)) hx hb dPA_number_20 (by decide) ?_
              obtain ⟨z11, hc, hf⟩ := ip_b1_e hf
              refine ip_callv (va_runV (As := [.int (-4 : Int32)]) (rest := []) ⟨hx, hb, hml, hown, hts⟩ (tPA_blame (l := l) (dC := dC) (dI := dI) (ad := ad) (cI := cI) (ts := ts) hc H.size) (cwV 1 hts (ip_gdV (own := kR_PA) (idx := 57) (C := kR_PA) (y := yPA_blame) kw2_146 kw2_148 kws_4 kw1_4 kw2_149) rfl rfl rfl (by decide +kernel) ⟨Nat.le_of_ble_eq_true rfl, Nat.le_of_ble_eq_true rfl⟩) (ip_preV hK hP hD hS hA hZ [1] rfl rfl (ci := 3) (q0 := 1) rfl rfl) rfl rfl hl.1 rfl (lv_room (Nat.le_of_ble_eq_true rfl)) dPA_number_22 ⟨Nat.le_of_ble_eq_true rfl, Nat.le_of_ble_eq_true rfl⟩) hP hD hS hA [1] [0, 2] [0, 2, 1] (wPA_number ad cI z3 v_RB_end v_PA_there z11 v_aChosen) rfl rfl rfl (by decide) rfl rfl (fun H locs hP hD hS => ?_)
              clear hc
              cases hf
              exact J25 ls H locs hl hP hD hS
          intro ls H locs hl hP hD hS
          clear hh
          refine lv_iconst (v := (2 : Int32)) hx hb dPA_number_25 (by decide) ?_
          refine lv_iload_n hx hb dPA_number_26 rfl (lv_at hl 2 rfl) ?_
          refine lv_imul hx hb dPA_number_27 ?_
          refine lv_aload_n hx hb dPA_number_28 rfl (lv_at hl 0 rfl) ?_
          refine va_get (D := (dC, dI)) (ci := 3) (v := .ref (ad 2)) (C := kR_PA) (T := kT_PA) (N := 5) hx hb hts kin_PA hown hK hP 1 rfl rfl 0 (by decide) (hts _ (List.mem_cons_of_mem _ kw1_71)) (fun _ h9 => h9) rfl dPA_number_29 ?_
          obtain ⟨z12, z13, hc, hf⟩ := ip_b2_e hf
          refine ip_calli (va_runV (As := []) (rest := [.int ((2 : Int32) * z1)]) ⟨hx, hb, hml, hown, hts⟩ (tRB_next (l := l) (dC := dC) (dI := dI) (ad := ad) (cI := cI) (ts := ts) hc H.size) (cwV 0 hts (ip_gdV (own := kR_PA) (idx := 67) (C := kR_RB) (y := yRB_next) kw2_150 kw2_151 kw2_152 kw1_3 kw2_153) rfl rfl rfl (by decide +kernel) ⟨Nat.le_of_ble_eq_true rfl, Nat.le_of_ble_eq_true rfl⟩) (ip_preV hK hP hD hS hA hZ [0, 2] rfl rfl (ci := 2) (q0 := 0) rfl rfl) rfl rfl hl.1 rfl (lv_room (Nat.le_of_ble_eq_true rfl)) dPA_number_32 ⟨Nat.le_of_ble_eq_true rfl, Nat.le_of_ble_eq_true rfl⟩) hP hD hS hA [0, 2] [1] [1, 0, 2] (wPA_number ad cI z13 v_RB_end v_PA_there z10 v_aChosen) rfl rfl rfl (by decide) rfl rfl (fun H locs hP hD hS => ?_)
          clear hc
          refine lv_iadd hx hb dPA_number_35 ?_
          refine ip_top hf (fun z14 hf => ?_)
          refine lv_istore_n (lv' := [(2, .int z14), (0, .ref (ad 3)), (1, .int p1), (3, .int z2)]) hx hb dPA_number_36 rfl hl (by decide) rfl (fun ls hl => ?_)
          refine ip_iinc (k0 := 3) (v0 := (1 : Int32)) (lv1 := fun z15 => [(3, .int z15), (2, .int z14), (0, .ref (ad 3)), (1, .int p1)]) hx hb dPA_number_37 hl rfl (by decide) (by decide) (fun _ => rfl) hf (fun z15 ls hf hl => ?_)
          refine lv_goto (tgt := 4) hx hb dPA_number_40 rfl ?_
          replace hl := lv_sub hl (l' := [(0, .ref (ad 3)), (1, .int p1), (2, .int z14), (3, .int z15)]) [2, 3, 1, 0] rfl
          exact ih _ _ _ _ (ip_lp4_l hr4 hf) ls H locs hl hP hD hS
    exact L 1000 _ _ _ _ hL ls H locs hl hP hD hS
  intro ls H locs hl hP hD hS
  clear hL
  refine lv_iload_n hx hb dPA_number_43 rfl (lv_at hl 0 rfl) ?_
  cases hf
  exact hret H locs 44 ls _ dPA_number_44 rfl hP hD hS
set_option maxHeartbeats 4000000 in
set_option maxRecDepth 100000 in
theorem tPA_code {l : Launch} {dC : Nat → ClassId} {dI : Nat → Nat → Nat} {cI : ClassId} {ad : Nat → Nat} {ts : ip_TT} {v_RB_place : Int32} {v_RB_end : Int32} {v_PA_there : Int32} {v_PA_fault : Int32} {v_aChosen : Nat → Int32}  {r0 : Int32} {nv_RB_place : Int32} {nv_PA_fault : Int32} (hf : fPA_code v_RB_place v_RB_end v_PA_there v_PA_fault v_aChosen = some (r0, nv_RB_place, nv_PA_fault)) : ip_Mi l yPA_code wsPA_code rmPA_code (dC, dI) vwCl [(cI, .int)] ts [.ref (ad 3)] (wPA_code ad cI v_RB_place v_RB_end v_PA_there v_PA_fault v_aChosen) (wPA_code ad cI nv_RB_place v_RB_end v_PA_there nv_PA_fault v_aChosen) r0 := by
  refine ip_startI (cc := cPA_code) (maxL := 2) (by decide) rfl (Nat.le_of_ble_eq_true rfl) ?_
  intro p e s m args below meth c Q A ls hx hb hml hts hown hK hP hD hS hA hZ hl hret
  replace hl : lv_has ls 2 [(0, .ref (ad 3))] := hl
  unfold fPA_code at hf
  suffices J0 : ∀ (ls : Array Slot) (H : Heap) (locs : List Loc), lv_has ls 2 [(0, .ref (ad 3))] → va_P (dC, dI) vwCl (wPA_code ad cI v_RB_place v_RB_end v_PA_there v_PA_fault v_aChosen) H → va_D A (wPA_code ad cI v_RB_place v_RB_end v_PA_there v_PA_fault v_aChosen) → va_S A s.heap H locs → W p l e rmPA_code s m args below meth c H locs 0 0 Q (F0 m 0 ls []) by exact J0 ls s.heap [] hl hP hD hS
  clear hP hD hS hl
  intro ls H locs hl hP hD hS
  refine lv_iconst (v := (0 : Int32)) hx hb dPA_code_0 (by decide) ?_
  refine lv_istore_n (lv' := [(1, .int (0 : Int32)), (0, .ref (ad 3))]) hx hb dPA_code_1 rfl hl (by decide) rfl (fun ls hl => ?_)
  replace hl := lv_sub hl (l' := [(0, .ref (ad 3)), (1, .int (0 : Int32))]) [1, 0] rfl
  obtain ⟨x4, x5, x6, hL, hf⟩ := ip_b3_e hf
  suffices J22 : ∀ (ls : Array Slot) (H : Heap) (locs : List Loc), lv_has ls 2 [(0, .ref (ad 3)), (1, .int x4)] → va_P (dC, dI) vwCl (wPA_code ad cI x5 v_RB_end v_PA_there x6 v_aChosen) H → va_D A (wPA_code ad cI x5 v_RB_end v_PA_there x6 v_aChosen) → va_S A s.heap H locs → W p l e rmPA_code s m args below meth c H locs 0 0 Q (F0 m 22 ls []) by
    have L : ∀ (n : Nat) (z1 : Int32) (z2 : Int32) (z3 : Int32), ip_lp3 (fPA_code_B2 v_RB_end v_PA_there v_aChosen) n z1 z2 z3 = some (x4, x5, x6) → ∀ (ls : Array Slot) (H : Heap) (locs : List Loc), lv_has ls 2 [(0, .ref (ad 3)), (1, .int z1)] → va_P (dC, dI) vwCl (wPA_code ad cI z2 v_RB_end v_PA_there z3 v_aChosen) H → va_D A (wPA_code ad cI z2 v_RB_end v_PA_there z3 v_aChosen) → va_S A s.heap H locs → W p l e rmPA_code s m args below meth c H locs 0 0 Q (F0 m 2 ls []) := by
      intro n
      induction n with
      | zero => intro z1 z2 z3 hL; exact (ip_lp3_0 hL).elim
      | succ n ih =>
        intro z1 z2 z3 hL ls H locs hl hP hD hS
        clear hf
        obtain ⟨r9, hf, hr2⟩ := ip_lp3_s hL
        clear hL
        unfold fPA_code_B2 at hf
        refine lv_iload_n hx hb dPA_code_2 rfl (lv_at hl 1 rfl) ?_
        refine lv_bipush (v := (7 : Int32)) hx hb dPA_code_3 (by decide) ?_
        refine ip_icmp_ge (tgt := 22) hx hb dPA_code_5 rfl hf (fun hf => ?_) (fun hf => ?_)
        · have hx9 := ip_lp_x hr2 hf
          cases hx9
          exact J22 ls H locs hl hP hD hS
        · refine lv_aload_n hx hb dPA_code_8 rfl (lv_at hl 0 rfl) ?_
          refine lv_iconst (v := (1 : Int32)) hx hb dPA_code_9 (by decide) ?_
          obtain ⟨z7, z8, z9, hc, hf⟩ := ip_b3_e hf
          refine ip_calli (va_runV (As := [.int (1 : Int32)]) (rest := []) ⟨hx, hb, hml, hown, hts⟩ (tPA_number (l := l) (dC := dC) (dI := dI) (ad := ad) (cI := cI) (ts := ts) hc H.size) (cwV 1 hts (ip_gdV (own := kR_PA) (idx := 40) (C := kR_PA) (y := yPA_number) kw2_138 kw2_140 kws_3 kw1_4 kw2_141) rfl rfl rfl (by decide +kernel) ⟨Nat.le_of_ble_eq_true rfl, Nat.le_of_ble_eq_true rfl⟩) (ip_preV hK hP hD hS hA hZ [0, 1, 2] rfl rfl (ci := 3) (q0 := 1) rfl rfl) rfl rfl hl.1 rfl (lv_room (Nat.le_of_ble_eq_true rfl)) dPA_code_10 ⟨Nat.le_of_ble_eq_true rfl, Nat.le_of_ble_eq_true rfl⟩) hP hD hS hA [0, 1, 2] [] [0, 1, 2] (wPA_code ad cI z8 v_RB_end v_PA_there z9 v_aChosen) rfl rfl rfl (by decide) rfl rfl (fun H locs hP hD hS => ?_)
          clear hc
          refine ip_if_ne (tgt := 22) hx hb dPA_code_13 rfl hf (fun hf => ?_) (fun hf => ?_)
          · have hx9 := ip_lp_x hr2 hf
            cases hx9
            exact J22 ls H locs hl hP hD hS
          · refine ip_iinc (k0 := 1) (v0 := (1 : Int32)) (lv1 := fun z10 => [(1, .int z10), (0, .ref (ad 3))]) hx hb dPA_code_16 hl rfl (by decide) (by decide) (fun _ => rfl) hf (fun z10 ls hf hl => ?_)
            refine lv_goto (tgt := 2) hx hb dPA_code_19 rfl ?_
            replace hl := lv_sub hl (l' := [(0, .ref (ad 3)), (1, .int z10)]) [1, 0] rfl
            exact ih _ _ _ (ip_lp3_l hr2 hf) ls H locs hl hP hD hS
    exact L 1000 _ _ _ hL ls H locs hl hP hD hS
  intro ls H locs hl hP hD hS
  clear hL
  refine lv_iload_n hx hb dPA_code_22 rfl (lv_at hl 1 rfl) ?_
  refine lv_bipush (v := (7 : Int32)) hx hb dPA_code_23 (by decide) ?_
  refine ip_icmp_ne (tgt := 36) hx hb dPA_code_25 rfl hf (fun hf => ?_) (fun hf => ?_)
  · refine lv_iconst (v := (1 : Int32)) hx hb dPA_code_36 (by decide) ?_
    refine lv_iload_n hx hb dPA_code_37 rfl (lv_at hl 1 rfl) ?_
    refine lv_ishl hx hb dPA_code_38 ?_
    refine lv_iconst (v := (1 : Int32)) hx hb dPA_code_39 (by decide) ?_
    refine lv_isub hx hb dPA_code_40 ?_
    refine lv_aload_n hx hb dPA_code_41 rfl (lv_at hl 0 rfl) ?_
    refine lv_iload_n hx hb dPA_code_42 rfl (lv_at hl 1 rfl) ?_
    obtain ⟨z11, z12, z13, hc, hf⟩ := ip_b3_e hf
    refine ip_calli (va_runV (As := [.int x4]) (rest := [.int (((1 : Int32) <<< (x4 &&& 31)) - (1 : Int32))]) ⟨hx, hb, hml, hown, hts⟩ (tPA_number (l := l) (dC := dC) (dI := dI) (ad := ad) (cI := cI) (ts := ts) hc H.size) (cwV 1 hts (ip_gdV (own := kR_PA) (idx := 40) (C := kR_PA) (y := yPA_number) kw2_138 kw2_140 kws_3 kw1_4 kw2_141) rfl rfl rfl (by decide +kernel) ⟨Nat.le_of_ble_eq_true rfl, Nat.le_of_ble_eq_true rfl⟩) (ip_preV hK hP hD hS hA hZ [0, 1, 2] rfl rfl (ci := 3) (q0 := 1) rfl rfl) rfl rfl hl.1 rfl (lv_room (Nat.le_of_ble_eq_true rfl)) dPA_code_43 ⟨Nat.le_of_ble_eq_true rfl, Nat.le_of_ble_eq_true rfl⟩) hP hD hS hA [0, 1, 2] [] [0, 1, 2] (wPA_code ad cI z12 v_RB_end v_PA_there z13 v_aChosen) rfl rfl rfl (by decide) rfl rfl (fun H locs hP hD hS => ?_)
    clear hc
    refine lv_iadd hx hb dPA_code_46 ?_
    cases hf
    exact hret H locs 47 ls _ dPA_code_47 rfl hP hD hS
  · refine lv_aload_n hx hb dPA_code_28 rfl (lv_at hl 0 rfl) ?_
    refine lv_bipush (v := (-3 : Int32)) hx hb dPA_code_29 (by decide) ?_
    obtain ⟨z14, hc, hf⟩ := ip_b1_e hf
    refine ip_callv (va_runV (As := [.int (-3 : Int32)]) (rest := []) ⟨hx, hb, hml, hown, hts⟩ (tPA_blame (l := l) (dC := dC) (dI := dI) (ad := ad) (cI := cI) (ts := ts) hc H.size) (cwV 1 hts (ip_gdV (own := kR_PA) (idx := 57) (C := kR_PA) (y := yPA_blame) kw2_146 kw2_148 kws_4 kw1_4 kw2_149) rfl rfl rfl (by decide +kernel) ⟨Nat.le_of_ble_eq_true rfl, Nat.le_of_ble_eq_true rfl⟩) (ip_preV hK hP hD hS hA hZ [1] rfl rfl (ci := 3) (q0 := 1) rfl rfl) rfl rfl hl.1 rfl (lv_room (Nat.le_of_ble_eq_true rfl)) dPA_code_31 ⟨Nat.le_of_ble_eq_true rfl, Nat.le_of_ble_eq_true rfl⟩) hP hD hS hA [1] [0, 2] [0, 2, 1] (wPA_code ad cI x5 v_RB_end v_PA_there z14 v_aChosen) rfl rfl rfl (by decide) rfl rfl (fun H locs hP hD hS => ?_)
    clear hc
    refine lv_iconst (v := (0 : Int32)) hx hb dPA_code_34 (by decide) ?_
    cases hf
    exact hret H locs 35 ls _ dPA_code_35 rfl hP hD hS
set_option maxHeartbeats 4000000 in
set_option maxRecDepth 100000 in
theorem tPA_checked {l : Launch} {dC : Nat → ClassId} {dI : Nat → Nat → Nat} {cI : ClassId} {ad : Nat → Nat} {ts : ip_TT} {v_PA_there : Int32} {v_PA_fault : Int32} {p1 : Int32} {p2 : Int32} {p3 : Int32} {r0 : Int32} {nv_PA_fault : Int32} (hf : fPA_checked v_PA_there v_PA_fault p1 p2 p3 = some (r0, nv_PA_fault)) : ip_Mi l yPA_checked wsPA_checked rmPA_checked (dC, dI) vwCl [(cI, .int)] ts [.ref (ad 3), .int p1, .int p2, .int p3] (wPA_checked ad cI v_PA_there v_PA_fault) (wPA_checked ad cI v_PA_there nv_PA_fault) r0 := by
  refine ip_startI (cc := cPA_checked) (maxL := 4) (by decide) rfl (Nat.le_of_ble_eq_true rfl) ?_
  intro p e s m args below meth c Q A ls hx hb hml hts hown hK hP hD hS hA hZ hl hret
  replace hl : lv_has ls 4 [(0, .ref (ad 3)), (1, .int p1), (2, .int p2), (3, .int p3)] := hl
  unfold fPA_checked at hf
  suffices J0 : ∀ (ls : Array Slot) (H : Heap) (locs : List Loc), lv_has ls 4 [(0, .ref (ad 3)), (1, .int p1), (2, .int p2), (3, .int p3)] → va_P (dC, dI) vwCl (wPA_checked ad cI v_PA_there v_PA_fault) H → va_D A (wPA_checked ad cI v_PA_there v_PA_fault) → va_S A s.heap H locs → W p l e rmPA_checked s m args below meth c H locs 0 0 Q (F0 m 0 ls []) by exact J0 ls s.heap [] hl hP hD hS
  clear hP hD hS hl
  intro ls H locs hl hP hD hS
  refine lv_iload_n hx hb dPA_checked_0 rfl (lv_at hl 1 rfl) ?_
  refine lv_iload_n hx hb dPA_checked_1 rfl (lv_at hl 2 rfl) ?_
  obtain ⟨z1, hh, hf⟩ := ip_b1_e hf
  suffices J16 : ∀ (ls : Array Slot) (H : Heap) (locs : List Loc), lv_has ls 4 [(1, .int p1)] → va_P (dC, dI) vwCl (wPA_checked ad cI v_PA_there z1) H → va_D A (wPA_checked ad cI v_PA_there z1) → va_S A s.heap H locs → W p l e rmPA_checked s m args below meth c H locs 0 0 Q (F0 m 16 ls []) by
    replace hf := hh
    refine ip_icmp_lt (tgt := 10) hx hb dPA_checked_2 rfl hf (fun hf => ?_) (fun hf => ?_)
    · refine lv_aload_n hx hb dPA_checked_10 rfl (lv_at hl 0 rfl) ?_
      refine lv_bipush (v := (-3 : Int32)) hx hb dPA_checked_11 (by decide) ?_
      obtain ⟨z2, hc, hf⟩ := ip_b1_e hf
      refine ip_callv (va_runV (As := [.int (-3 : Int32)]) (rest := []) ⟨hx, hb, hml, hown, hts⟩ (tPA_blame (l := l) (dC := dC) (dI := dI) (ad := ad) (cI := cI) (ts := ts) hc H.size) (cwV 1 hts (ip_gdV (own := kR_PA) (idx := 57) (C := kR_PA) (y := yPA_blame) kw2_146 kw2_148 kws_4 kw1_4 kw2_149) rfl rfl rfl (by decide +kernel) ⟨Nat.le_of_ble_eq_true rfl, Nat.le_of_ble_eq_true rfl⟩) (ip_preV hK hP hD hS hA hZ [0] rfl rfl (ci := 3) (q0 := 0) rfl rfl) rfl rfl hl.1 rfl (lv_room (Nat.le_of_ble_eq_true rfl)) dPA_checked_13 ⟨Nat.le_of_ble_eq_true rfl, Nat.le_of_ble_eq_true rfl⟩) hP hD hS hA [0] [] [0] (wPA_checked ad cI v_PA_there z2) rfl rfl rfl (by decide) rfl rfl (fun H locs hP hD hS => ?_)
      clear hc
      replace hl := lv_sub hl (l' := [(1, .int p1)]) [1] rfl
      cases hf
      exact J16 ls H locs hl hP hD hS
    · refine lv_iload_n hx hb dPA_checked_5 rfl (lv_at hl 1 rfl) ?_
      refine lv_iload_n hx hb dPA_checked_6 rfl (lv_at hl 3 rfl) ?_
      refine ip_icmp_le (tgt := 16) hx hb dPA_checked_7 rfl hf (fun hf => ?_) (fun hf => ?_)
      · replace hl := lv_sub hl (l' := [(1, .int p1)]) [1] rfl
        cases hf
        exact J16 ls H locs hl hP hD hS
      · refine lv_aload_n hx hb dPA_checked_10 rfl (lv_at hl 0 rfl) ?_
        refine lv_bipush (v := (-3 : Int32)) hx hb dPA_checked_11 (by decide) ?_
        obtain ⟨z3, hc, hf⟩ := ip_b1_e hf
        refine ip_callv (va_runV (As := [.int (-3 : Int32)]) (rest := []) ⟨hx, hb, hml, hown, hts⟩ (tPA_blame (l := l) (dC := dC) (dI := dI) (ad := ad) (cI := cI) (ts := ts) hc H.size) (cwV 1 hts (ip_gdV (own := kR_PA) (idx := 57) (C := kR_PA) (y := yPA_blame) kw2_146 kw2_148 kws_4 kw1_4 kw2_149) rfl rfl rfl (by decide +kernel) ⟨Nat.le_of_ble_eq_true rfl, Nat.le_of_ble_eq_true rfl⟩) (ip_preV hK hP hD hS hA hZ [0] rfl rfl (ci := 3) (q0 := 0) rfl rfl) rfl rfl hl.1 rfl (lv_room (Nat.le_of_ble_eq_true rfl)) dPA_checked_13 ⟨Nat.le_of_ble_eq_true rfl, Nat.le_of_ble_eq_true rfl⟩) hP hD hS hA [0] [] [0] (wPA_checked ad cI v_PA_there z3) rfl rfl rfl (by decide) rfl rfl (fun H locs hP hD hS => ?_)
        clear hc
        replace hl := lv_sub hl (l' := [(1, .int p1)]) [1] rfl
        cases hf
        exact J16 ls H locs hl hP hD hS
  intro ls H locs hl hP hD hS
  clear hh
  refine lv_iload_n hx hb dPA_checked_16 rfl (lv_at hl 0 rfl) ?_
  cases hf
  exact hret H locs 17 ls _ dPA_checked_17 rfl hP hD hS
set_option maxHeartbeats 4000000 in
set_option maxRecDepth 100000 in
theorem tPA_signedCode {l : Launch} {dC : Nat → ClassId} {dI : Nat → Nat → Nat} {cI : ClassId} {ad : Nat → Nat} {ts : ip_TT} {v_RB_place : Int32} {v_RB_end : Int32} {v_PA_there : Int32} {v_PA_fault : Int32} {v_aChosen : Nat → Int32}  {r0 : Int32} {nv_RB_place : Int32} {nv_PA_fault : Int32} (hf : fPA_signedCode v_RB_place v_RB_end v_PA_there v_PA_fault v_aChosen = some (r0, nv_RB_place, nv_PA_fault)) : ip_Mi l yPA_signedCode wsPA_signedCode rmPA_signedCode (dC, dI) vwCl [(cI, .int)] ts [.ref (ad 3)] (wPA_signedCode ad cI v_RB_place v_RB_end v_PA_there v_PA_fault v_aChosen) (wPA_signedCode ad cI nv_RB_place v_RB_end v_PA_there nv_PA_fault v_aChosen) r0 := by
  refine ip_startI (cc := cPA_signedCode) (maxL := 2) (by decide) rfl (Nat.le_of_ble_eq_true rfl) ?_
  intro p e s m args below meth c Q A ls hx hb hml hts hown hK hP hD hS hA hZ hl hret
  replace hl : lv_has ls 2 [(0, .ref (ad 3))] := hl
  unfold fPA_signedCode at hf
  suffices J0 : ∀ (ls : Array Slot) (H : Heap) (locs : List Loc), lv_has ls 2 [(0, .ref (ad 3))] → va_P (dC, dI) vwCl (wPA_signedCode ad cI v_RB_place v_RB_end v_PA_there v_PA_fault v_aChosen) H → va_D A (wPA_signedCode ad cI v_RB_place v_RB_end v_PA_there v_PA_fault v_aChosen) → va_S A s.heap H locs → W p l e rmPA_signedCode s m args below meth c H locs 0 0 Q (F0 m 0 ls []) by exact J0 ls s.heap [] hl hP hD hS
  clear hP hD hS hl
  intro ls H locs hl hP hD hS
  refine lv_aload_n hx hb dPA_signedCode_0 rfl (lv_at hl 0 rfl) ?_
  obtain ⟨z1, z2, z3, hc, hf⟩ := ip_b3_e hf
  refine ip_calli (va_runV (As := []) (rest := []) ⟨hx, hb, hml, hown, hts⟩ (tPA_code (l := l) (dC := dC) (dI := dI) (ad := ad) (cI := cI) (ts := ts) hc H.size) (cwV 0 hts (ip_gdV (own := kR_PA) (idx := 32) (C := kR_PA) (y := yPA_code) kw2_134 kw2_136 kws_2 kw1_4 kw2_137) rfl rfl rfl (by decide +kernel) ⟨Nat.le_of_ble_eq_true rfl, Nat.le_of_ble_eq_true rfl⟩) (ip_preV hK hP hD hS hA hZ [0, 1, 2] rfl rfl (ci := 3) (q0 := 1) rfl rfl) rfl rfl hl.1 rfl (lv_room (Nat.le_of_ble_eq_true rfl)) dPA_signedCode_1 ⟨Nat.le_of_ble_eq_true rfl, Nat.le_of_ble_eq_true rfl⟩) hP hD hS hA [0, 1, 2] [] [0, 1, 2] (wPA_signedCode ad cI z2 v_RB_end v_PA_there z3 v_aChosen) rfl rfl rfl (by decide) rfl rfl (fun H locs hP hD hS => ?_)
  clear hc
  refine lv_istore_n (lv' := [(1, .int z1), (0, .ref (ad 3))]) hx hb dPA_signedCode_4 rfl hl (by decide) rfl (fun ls hl => ?_)
  refine lv_iload_n hx hb dPA_signedCode_5 rfl (lv_at hl 0 rfl) ?_
  refine lv_iconst (v := (1 : Int32)) hx hb dPA_signedCode_6 (by decide) ?_
  refine lv_iand hx hb dPA_signedCode_7 ?_
  refine lv_iconst (v := (1 : Int32)) hx hb dPA_signedCode_8 (by decide) ?_
  refine ip_icmp_ne (tgt := 20) hx hb dPA_signedCode_9 rfl hf (fun hf => ?_) (fun hf => ?_)
  · refine lv_iload_n hx hb dPA_signedCode_20 rfl (lv_at hl 0 rfl) ?_
    refine lv_ineg hx hb dPA_signedCode_21 ?_
    refine lv_iconst (v := (2 : Int32)) hx hb dPA_signedCode_22 (by decide) ?_
    refine lv_idiv hx hb dPA_signedCode_23 (by decide) ?_
    cases hf
    exact hret H locs 24 ls _ dPA_signedCode_24 rfl hP hD hS
  · refine lv_iload_n hx hb dPA_signedCode_12 rfl (lv_at hl 0 rfl) ?_
    refine lv_iconst (v := (1 : Int32)) hx hb dPA_signedCode_13 (by decide) ?_
    refine lv_iadd hx hb dPA_signedCode_14 ?_
    refine lv_iconst (v := (2 : Int32)) hx hb dPA_signedCode_15 (by decide) ?_
    refine lv_idiv hx hb dPA_signedCode_16 (by decide) ?_
    refine lv_goto (tgt := 24) hx hb dPA_signedCode_17 rfl ?_
    cases hf
    exact hret H locs 24 ls _ dPA_signedCode_24 rfl hP hD hS
set_option maxHeartbeats 4000000 in
set_option maxRecDepth 100000 in
theorem tPA_readUnit {l : Launch} {dC : Nat → ClassId} {dI : Nat → Nat → Nat} {cI : ClassId} {ad : Nat → Nat} {ts : ip_TT} {v_RB_place : Int32} {v_RB_end : Int32} {v_PA_there : Int32} {v_PA_fault : Int32} {v_aChosen : Nat → Int32} {v_aValues : Nat → Int32} {v_aComing : Nat → Int32}  {r0 : Int32} {nv_RB_place : Int32} {nv_PA_there : Int32} {nv_PA_fault : Int32} {nv_aValues : Nat → Int32} {nv_aComing : Nat → Int32} (hf : fPA_readUnit v_RB_place v_RB_end v_PA_there v_PA_fault v_aChosen v_aValues v_aComing = some (r0, nv_RB_place, nv_PA_there, nv_PA_fault, nv_aValues, nv_aComing)) : ip_Mi l yPA_readUnit wsPA_readUnit rmPA_readUnit (dC, dI) vwCl [(cI, .int)] ts [.ref (ad 3)] (wPA_readUnit ad cI v_RB_place v_RB_end v_PA_there v_PA_fault v_aChosen v_aValues v_aComing) (wPA_readUnit ad cI nv_RB_place v_RB_end nv_PA_there nv_PA_fault v_aChosen nv_aValues nv_aComing) r0 := by
  refine ip_startI (cc := cPA_readUnit) (maxL := 2) (by decide) rfl (Nat.le_of_ble_eq_true rfl) ?_
  intro p e s m args below meth c Q A ls hx hb hml hts hown hK hP hD hS hA hZ hl hret
  replace hl : lv_has ls 2 [(0, .ref (ad 3))] := hl
  unfold fPA_readUnit at hf
  suffices J0 : ∀ (ls : Array Slot) (H : Heap) (locs : List Loc), lv_has ls 2 [(0, .ref (ad 3))] → va_P (dC, dI) vwCl (wPA_readUnit ad cI v_RB_place v_RB_end v_PA_there v_PA_fault v_aChosen v_aValues v_aComing) H → va_D A (wPA_readUnit ad cI v_RB_place v_RB_end v_PA_there v_PA_fault v_aChosen v_aValues v_aComing) → va_S A s.heap H locs → W p l e rmPA_readUnit s m args below meth c H locs 0 0 Q (F0 m 0 ls []) by exact J0 ls s.heap [] hl hP hD hS
  clear hP hD hS hl
  intro ls H locs hl hP hD hS
  refine lv_aload_n hx hb dPA_readUnit_0 rfl (lv_at hl 0 rfl) ?_
  refine lv_iconst (v := (0 : Int32)) hx hb dPA_readUnit_1 (by decide) ?_
  refine va_put (D := (dC, dI)) (ci := 3) (v := .int (0 : Int32)) (ty := .int) (C := kR_PA) (T := kT_PA) (N := 5) hx hb hts kin_PA kty_PA kto_PA knm_PA hown hK hP hD hS 1 rfl rfl 4 (by decide) (hts _ (List.mem_cons_of_mem _ kw1_77)) (fun _ h9 => h9) rfl (by decide +kernel) rfl rfl (Nat.le_of_ble_eq_true rfl) dPA_readUnit_2 (fun H locs hP hD hS => ?_)
  replace hP : va_P (dC, dI) vwCl (wPA_readUnit ad cI v_RB_place v_RB_end v_PA_there (0 : Int32) v_aChosen v_aValues v_aComing) H := hP
  replace hD : va_D A (wPA_readUnit ad cI v_RB_place v_RB_end v_PA_there (0 : Int32) v_aChosen v_aValues v_aComing) := hD
  refine lv_aload_n hx hb dPA_readUnit_5 rfl (lv_at hl 0 rfl) ?_
  refine va_get (D := (dC, dI)) (ci := 3) (v := .ref (ad 15)) (C := kR_PA) (T := kT_PA) (N := 5) hx hb hts kin_PA hown hK hP 1 rfl rfl 2 (by decide) (hts _ (List.mem_cons_of_mem _ kw1_74)) (fun _ h9 => h9) rfl dPA_readUnit_6 ?_
  refine lv_iconst (v := (0 : Int32)) hx hb dPA_readUnit_9 (by decide) ?_
  obtain ⟨g1, hc, hf⟩ := ip_b1_e hf
  refine ip_callv (va_runS (As := [.ref (ad 15), .int (0 : Int32)]) (rest := []) ⟨hx, hb, hml, hown, hts⟩ (tAR_fill10 (l := l) (dC := dC) (dI := dI) (ad := ad) (cI := cI) (ts := ts) (bF10 := ad 15) hc H.size) (va_cwS 2 hts (ip_gdS (own := kR_PA) (idx := 26) (y := yAR_fill) kw2_131 kw2_132 kw1_14 kw2_133) rfl rfl rfl (by decide +kernel) ⟨Nat.le_of_ble_eq_true rfl, Nat.le_of_ble_eq_true rfl⟩) (ip_preS hK hP hD hS hA hZ [4] rfl rfl) rfl rfl hl.1 rfl (lv_room (Nat.le_of_ble_eq_true rfl)) dPA_readUnit_10 ⟨Nat.le_of_ble_eq_true rfl, Nat.le_of_ble_eq_true rfl⟩) hP hD hS hA [4] [0, 1, 2, 3] [0, 1, 2, 3, 4] (wPA_readUnit ad cI v_RB_place v_RB_end v_PA_there (0 : Int32) v_aChosen v_aValues g1) rfl rfl rfl (by decide) rfl rfl (fun H locs hP hD hS => ?_)
  clear hc
  refine lv_aload_n hx hb dPA_readUnit_13 rfl (lv_at hl 0 rfl) ?_
  refine va_get (D := (dC, dI)) (ci := 3) (v := .ref (ad 15)) (C := kR_PA) (T := kT_PA) (N := 5) hx hb hts kin_PA hown hK hP 1 rfl rfl 2 (by decide) (hts _ (List.mem_cons_of_mem _ kw1_74)) (fun _ h9 => h9) rfl dPA_readUnit_14 ?_
  refine lv_iconst (v := (0 : Int32)) hx hb dPA_readUnit_17 (by decide) ?_
  refine lv_aload_n hx hb dPA_readUnit_18 rfl (lv_at hl 0 rfl) ?_
  refine lv_aload_n hx hb dPA_readUnit_19 rfl (lv_at hl 0 rfl) ?_
  obtain ⟨z2, z3, z4, hc, hf⟩ := ip_b3_e hf
  refine ip_calli (va_runV (As := []) (rest := [.ref (ad 3), .int (0 : Int32), .ref (ad 15)]) ⟨hx, hb, hml, hown, hts⟩ (tPA_code (l := l) (dC := dC) (dI := dI) (ad := ad) (cI := cI) (ts := ts) hc H.size) (cwV 0 hts (ip_gdV (own := kR_PA) (idx := 32) (C := kR_PA) (y := yPA_code) kw2_134 kw2_136 kws_2 kw1_4 kw2_137) rfl rfl rfl (by decide +kernel) ⟨Nat.le_of_ble_eq_true rfl, Nat.le_of_ble_eq_true rfl⟩) (ip_preV hK hP hD hS hA hZ [0, 1, 2] rfl rfl (ci := 3) (q0 := 1) rfl rfl) rfl rfl hl.1 rfl (lv_room (Nat.le_of_ble_eq_true rfl)) dPA_readUnit_20 ⟨Nat.le_of_ble_eq_true rfl, Nat.le_of_ble_eq_true rfl⟩) hP hD hS hA [0, 1, 2] [3, 4] [2, 3, 4, 0, 1] (wPA_readUnit ad cI z3 v_RB_end v_PA_there z4 v_aChosen v_aValues g1) rfl rfl rfl (by decide) rfl rfl (fun H locs hP hD hS => ?_)
  clear hc
  refine lv_iconst (v := (0 : Int32)) hx hb dPA_readUnit_23 (by decide) ?_
  refine lv_bipush (v := (51 : Int32)) hx hb dPA_readUnit_24 (by decide) ?_
  obtain ⟨z5, z6, hc, hf⟩ := ip_b2_e hf
  refine ip_calli (va_runV (As := [.int z2, .int (0 : Int32), .int (51 : Int32)]) (rest := [.int (0 : Int32), .ref (ad 15)]) ⟨hx, hb, hml, hown, hts⟩ (tPA_checked (l := l) (dC := dC) (dI := dI) (ad := ad) (cI := cI) (ts := ts) hc H.size) (cwV 3 hts (ip_gdV (own := kR_PA) (idx := 36) (C := kR_PA) (y := yPA_checked) kw2_154 kw2_156 kws_5 kw1_4 kw2_157) rfl rfl rfl (by decide +kernel) ⟨Nat.le_of_ble_eq_true rfl, Nat.le_of_ble_eq_true rfl⟩) (ip_preV hK hP hD hS hA hZ [1] rfl rfl (ci := 3) (q0 := 1) rfl rfl) rfl rfl hl.1 rfl (lv_room (Nat.le_of_ble_eq_true rfl)) dPA_readUnit_26 ⟨Nat.le_of_ble_eq_true rfl, Nat.le_of_ble_eq_true rfl⟩) hP hD hS hA [1] [0, 2, 3, 4] [0, 4, 1, 2, 3] (wPA_readUnit ad cI z3 v_RB_end v_PA_there z6 v_aChosen v_aValues g1) rfl rfl rfl (by decide) rfl rfl (fun H locs hP hD hS => ?_)
  clear hc
  refine ip_iast hx hb hK hP hD hS 4 0 rfl rfl (fun g7 => (wPA_readUnit ad cI z3 v_RB_end v_PA_there z6 v_aChosen v_aValues g7)) (fun _ => rfl) dPA_readUnit_29 hf (fun g7 H locs hf hP hD hS => ?_)
  refine lv_aload_n hx hb dPA_readUnit_30 rfl (lv_at hl 0 rfl) ?_
  refine va_get (D := (dC, dI)) (ci := 3) (v := .ref (ad 15)) (C := kR_PA) (T := kT_PA) (N := 5) hx hb hts kin_PA hown hK hP 1 rfl rfl 2 (by decide) (hts _ (List.mem_cons_of_mem _ kw1_74)) (fun _ h9 => h9) rfl dPA_readUnit_31 ?_
  refine lv_iconst (v := (1 : Int32)) hx hb dPA_readUnit_34 (by decide) ?_
  refine lv_aload_n hx hb dPA_readUnit_35 rfl (lv_at hl 0 rfl) ?_
  refine lv_iconst (v := (1 : Int32)) hx hb dPA_readUnit_36 (by decide) ?_
  obtain ⟨z8, z9, z10, hc, hf⟩ := ip_b3_e hf
  refine ip_calli (va_runV (As := [.int (1 : Int32)]) (rest := [.int (1 : Int32), .ref (ad 15)]) ⟨hx, hb, hml, hown, hts⟩ (tPA_number (l := l) (dC := dC) (dI := dI) (ad := ad) (cI := cI) (ts := ts) hc H.size) (cwV 1 hts (ip_gdV (own := kR_PA) (idx := 40) (C := kR_PA) (y := yPA_number) kw2_138 kw2_140 kws_3 kw1_4 kw2_141) rfl rfl rfl (by decide +kernel) ⟨Nat.le_of_ble_eq_true rfl, Nat.le_of_ble_eq_true rfl⟩) (ip_preV hK hP hD hS hA hZ [0, 1, 2] rfl rfl (ci := 3) (q0 := 1) rfl rfl) rfl rfl hl.1 rfl (lv_room (Nat.le_of_ble_eq_true rfl)) dPA_readUnit_37 ⟨Nat.le_of_ble_eq_true rfl, Nat.le_of_ble_eq_true rfl⟩) hP hD hS hA [0, 1, 2] [3, 4] [2, 3, 4, 0, 1] (wPA_readUnit ad cI z9 v_RB_end v_PA_there z10 v_aChosen v_aValues g7) rfl rfl rfl (by decide) rfl rfl (fun H locs hP hD hS => ?_)
  clear hc
  refine ip_iast hx hb hK hP hD hS 4 0 rfl rfl (fun g11 => (wPA_readUnit ad cI z9 v_RB_end v_PA_there z10 v_aChosen v_aValues g11)) (fun _ => rfl) dPA_readUnit_40 hf (fun g11 H locs hf hP hD hS => ?_)
  refine lv_aload_n hx hb dPA_readUnit_41 rfl (lv_at hl 0 rfl) ?_
  refine va_get (D := (dC, dI)) (ci := 3) (v := .ref (ad 15)) (C := kR_PA) (T := kT_PA) (N := 5) hx hb hts kin_PA hown hK hP 1 rfl rfl 2 (by decide) (hts _ (List.mem_cons_of_mem _ kw1_74)) (fun _ h9 => h9) rfl dPA_readUnit_42 ?_
  refine lv_iconst (v := (2 : Int32)) hx hb dPA_readUnit_45 (by decide) ?_
  refine lv_aload_n hx hb dPA_readUnit_46 rfl (lv_at hl 0 rfl) ?_
  refine lv_iconst (v := (1 : Int32)) hx hb dPA_readUnit_47 (by decide) ?_
  obtain ⟨z12, z13, z14, hc, hf⟩ := ip_b3_e hf
  refine ip_calli (va_runV (As := [.int (1 : Int32)]) (rest := [.int (2 : Int32), .ref (ad 15)]) ⟨hx, hb, hml, hown, hts⟩ (tPA_number (l := l) (dC := dC) (dI := dI) (ad := ad) (cI := cI) (ts := ts) hc H.size) (cwV 1 hts (ip_gdV (own := kR_PA) (idx := 40) (C := kR_PA) (y := yPA_number) kw2_138 kw2_140 kws_3 kw1_4 kw2_141) rfl rfl rfl (by decide +kernel) ⟨Nat.le_of_ble_eq_true rfl, Nat.le_of_ble_eq_true rfl⟩) (ip_preV hK hP hD hS hA hZ [0, 1, 2] rfl rfl (ci := 3) (q0 := 1) rfl rfl) rfl rfl hl.1 rfl (lv_room (Nat.le_of_ble_eq_true rfl)) dPA_readUnit_48 ⟨Nat.le_of_ble_eq_true rfl, Nat.le_of_ble_eq_true rfl⟩) hP hD hS hA [0, 1, 2] [3, 4] [2, 3, 4, 0, 1] (wPA_readUnit ad cI z13 v_RB_end v_PA_there z14 v_aChosen v_aValues g11) rfl rfl rfl (by decide) rfl rfl (fun H locs hP hD hS => ?_)
  clear hc
  refine ip_iast hx hb hK hP hD hS 4 0 rfl rfl (fun g15 => (wPA_readUnit ad cI z13 v_RB_end v_PA_there z14 v_aChosen v_aValues g15)) (fun _ => rfl) dPA_readUnit_51 hf (fun g15 H locs hf hP hD hS => ?_)
  refine lv_aload_n hx hb dPA_readUnit_52 rfl (lv_at hl 0 rfl) ?_
  refine va_get (D := (dC, dI)) (ci := 3) (v := .ref (ad 15)) (C := kR_PA) (T := kT_PA) (N := 5) hx hb hts kin_PA hown hK hP 1 rfl rfl 2 (by decide) (hts _ (List.mem_cons_of_mem _ kw1_74)) (fun _ h9 => h9) rfl dPA_readUnit_53 ?_
  refine lv_iconst (v := (3 : Int32)) hx hb dPA_readUnit_56 (by decide) ?_
  refine lv_aload_n hx hb dPA_readUnit_57 rfl (lv_at hl 0 rfl) ?_
  refine lv_iconst (v := (1 : Int32)) hx hb dPA_readUnit_58 (by decide) ?_
  obtain ⟨z16, z17, z18, hc, hf⟩ := ip_b3_e hf
  refine ip_calli (va_runV (As := [.int (1 : Int32)]) (rest := [.int (3 : Int32), .ref (ad 15)]) ⟨hx, hb, hml, hown, hts⟩ (tPA_number (l := l) (dC := dC) (dI := dI) (ad := ad) (cI := cI) (ts := ts) hc H.size) (cwV 1 hts (ip_gdV (own := kR_PA) (idx := 40) (C := kR_PA) (y := yPA_number) kw2_138 kw2_140 kws_3 kw1_4 kw2_141) rfl rfl rfl (by decide +kernel) ⟨Nat.le_of_ble_eq_true rfl, Nat.le_of_ble_eq_true rfl⟩) (ip_preV hK hP hD hS hA hZ [0, 1, 2] rfl rfl (ci := 3) (q0 := 1) rfl rfl) rfl rfl hl.1 rfl (lv_room (Nat.le_of_ble_eq_true rfl)) dPA_readUnit_59 ⟨Nat.le_of_ble_eq_true rfl, Nat.le_of_ble_eq_true rfl⟩) hP hD hS hA [0, 1, 2] [3, 4] [2, 3, 4, 0, 1] (wPA_readUnit ad cI z17 v_RB_end v_PA_there z18 v_aChosen v_aValues g15) rfl rfl rfl (by decide) rfl rfl (fun H locs hP hD hS => ?_)
  clear hc
  refine ip_iast hx hb hK hP hD hS 4 0 rfl rfl (fun g19 => (wPA_readUnit ad cI z17 v_RB_end v_PA_there z18 v_aChosen v_aValues g19)) (fun _ => rfl) dPA_readUnit_62 hf (fun g19 H locs hf hP hD hS => ?_)
  refine lv_aload_n hx hb dPA_readUnit_63 rfl (lv_at hl 0 rfl) ?_
  refine va_get (D := (dC, dI)) (ci := 3) (v := .ref (ad 15)) (C := kR_PA) (T := kT_PA) (N := 5) hx hb hts kin_PA hown hK hP 1 rfl rfl 2 (by decide) (hts _ (List.mem_cons_of_mem _ kw1_74)) (fun _ h9 => h9) rfl dPA_readUnit_64 ?_
  refine lv_iconst (v := (4 : Int32)) hx hb dPA_readUnit_67 (by decide) ?_
  refine lv_aload_n hx hb dPA_readUnit_68 rfl (lv_at hl 0 rfl) ?_
  refine lv_iconst (v := (2 : Int32)) hx hb dPA_readUnit_69 (by decide) ?_
  obtain ⟨z20, z21, z22, hc, hf⟩ := ip_b3_e hf
  refine ip_calli (va_runV (As := [.int (2 : Int32)]) (rest := [.int (4 : Int32), .ref (ad 15)]) ⟨hx, hb, hml, hown, hts⟩ (tPA_number (l := l) (dC := dC) (dI := dI) (ad := ad) (cI := cI) (ts := ts) hc H.size) (cwV 1 hts (ip_gdV (own := kR_PA) (idx := 40) (C := kR_PA) (y := yPA_number) kw2_138 kw2_140 kws_3 kw1_4 kw2_141) rfl rfl rfl (by decide +kernel) ⟨Nat.le_of_ble_eq_true rfl, Nat.le_of_ble_eq_true rfl⟩) (ip_preV hK hP hD hS hA hZ [0, 1, 2] rfl rfl (ci := 3) (q0 := 1) rfl rfl) rfl rfl hl.1 rfl (lv_room (Nat.le_of_ble_eq_true rfl)) dPA_readUnit_70 ⟨Nat.le_of_ble_eq_true rfl, Nat.le_of_ble_eq_true rfl⟩) hP hD hS hA [0, 1, 2] [3, 4] [2, 3, 4, 0, 1] (wPA_readUnit ad cI z21 v_RB_end v_PA_there z22 v_aChosen v_aValues g19) rfl rfl rfl (by decide) rfl rfl (fun H locs hP hD hS => ?_)
  clear hc
  refine ip_iast hx hb hK hP hD hS 4 0 rfl rfl (fun g23 => (wPA_readUnit ad cI z21 v_RB_end v_PA_there z22 v_aChosen v_aValues g23)) (fun _ => rfl) dPA_readUnit_73 hf (fun g23 H locs hf hP hD hS => ?_)
  refine lv_aload_n hx hb dPA_readUnit_74 rfl (lv_at hl 0 rfl) ?_
  refine va_get (D := (dC, dI)) (ci := 3) (v := .ref (ad 15)) (C := kR_PA) (T := kT_PA) (N := 5) hx hb hts kin_PA hown hK hP 1 rfl rfl 2 (by decide) (hts _ (List.mem_cons_of_mem _ kw1_74)) (fun _ h9 => h9) rfl dPA_readUnit_75 ?_
  refine lv_iconst (v := (4 : Int32)) hx hb dPA_readUnit_78 (by decide) ?_
  refine ip_iald hx hb hK hP 4 0 rfl rfl dPA_readUnit_79 hf (fun z24 hf => ?_)
  obtain ⟨z25, z26, g27, hh, hf⟩ := ip_b3_e hf
  suffices J116 : ∀ (ls : Array Slot) (H : Heap) (locs : List Loc), lv_has ls 2 [(0, .ref (ad 3))] → va_P (dC, dI) vwCl (wPA_readUnit ad cI z25 v_RB_end v_PA_there z26 v_aChosen v_aValues g27) H → va_D A (wPA_readUnit ad cI z25 v_RB_end v_PA_there z26 v_aChosen v_aValues g27) → va_S A s.heap H locs → W p l e rmPA_readUnit s m args below meth c H locs 0 0 Q (F0 m 116 ls []) by
    replace hf := hh
    refine ip_if_eq (tgt := 116) hx hb dPA_readUnit_80 rfl hf (fun hf => ?_) (fun hf => ?_)
    · cases hf
      exact J116 ls H locs hl hP hD hS
    · refine lv_iconst (v := (0 : Int32)) hx hb dPA_readUnit_83 (by decide) ?_
      refine lv_istore_n (lv' := [(1, .int (0 : Int32)), (0, .ref (ad 3))]) hx hb dPA_readUnit_84 rfl hl (by decide) rfl (fun ls hl => ?_)
      replace hl := lv_sub hl (l' := [(0, .ref (ad 3)), (1, .int (0 : Int32))]) [1, 0] rfl
      obtain ⟨x32, x33, x34, y35, hL, hf⟩ := ip_b4_e hf
      suffices J116 : ∀ (ls : Array Slot) (H : Heap) (locs : List Loc), lv_has ls 2 [(0, .ref (ad 3))] → va_P (dC, dI) vwCl (wPA_readUnit ad cI x33 v_RB_end v_PA_there x34 v_aChosen v_aValues y35) H → va_D A (wPA_readUnit ad cI x33 v_RB_end v_PA_there x34 v_aChosen v_aValues y35) → va_S A s.heap H locs → W p l e rmPA_readUnit s m args below meth c H locs 0 0 Q (F0 m 116 ls []) by
        have L : ∀ (n : Nat) (z28 : Int32) (z29 : Int32) (z30 : Int32) (g31 : Nat → Int32), ip_lp4 (fPA_readUnit_B85 v_RB_end v_PA_there v_aChosen) n z28 z29 z30 g31 = some (x32, x33, x34, y35) → ∀ (ls : Array Slot) (H : Heap) (locs : List Loc), lv_has ls 2 [(0, .ref (ad 3)), (1, .int z28)] → va_P (dC, dI) vwCl (wPA_readUnit ad cI z29 v_RB_end v_PA_there z30 v_aChosen v_aValues g31) H → va_D A (wPA_readUnit ad cI z29 v_RB_end v_PA_there z30 v_aChosen v_aValues g31) → va_S A s.heap H locs → W p l e rmPA_readUnit s m args below meth c H locs 0 0 Q (F0 m 85 ls []) := by
          intro n
          induction n with
          | zero => intro z28 z29 z30 g31 hL; exact (ip_lp4_0 hL).elim
          | succ n ih =>
            intro z28 z29 z30 g31 hL ls H locs hl hP hD hS
            clear hf
            obtain ⟨r9, hf, hr85⟩ := ip_lp4_s hL
            clear hL
            unfold fPA_readUnit_B85 at hf
            refine lv_iload_n hx hb dPA_readUnit_85 rfl (lv_at hl 1 rfl) ?_
            refine lv_iconst (v := (4 : Int32)) hx hb dPA_readUnit_86 (by decide) ?_
            refine ip_icmp_ge (tgt := 116) hx hb dPA_readUnit_87 rfl hf (fun hf => ?_) (fun hf => ?_)
            · have hx9 := ip_lp_x hr85 hf
              replace hl := lv_sub hl (l' := [(0, .ref (ad 3))]) [0] rfl
              cases hx9
              exact J116 ls H locs hl hP hD hS
            · refine lv_aload_n hx hb dPA_readUnit_90 rfl (lv_at hl 0 rfl) ?_
              refine va_get (D := (dC, dI)) (ci := 3) (v := .ref (ad 15)) (C := kR_PA) (T := kT_PA) (N := 5) hx hb hts kin_PA hown hK hP 1 rfl rfl 2 (by decide) (hts _ (List.mem_cons_of_mem _ kw1_74)) (fun _ h9 => h9) rfl dPA_readUnit_91 ?_
              refine lv_iconst (v := (5 : Int32)) hx hb dPA_readUnit_94 (by decide) ?_
              refine lv_iload_n hx hb dPA_readUnit_95 rfl (lv_at hl 1 rfl) ?_
              refine lv_iadd hx hb dPA_readUnit_96 ?_
              refine lv_aload_n hx hb dPA_readUnit_97 rfl (lv_at hl 0 rfl) ?_
              refine lv_aload_n hx hb dPA_readUnit_98 rfl (lv_at hl 0 rfl) ?_
              obtain ⟨z36, z37, z38, hc, hf⟩ := ip_b3_e hf
              refine ip_calli (va_runV (As := []) (rest := [.ref (ad 3), .int ((5 : Int32) + z28), .ref (ad 15)]) ⟨hx, hb, hml, hown, hts⟩ (tPA_signedCode (l := l) (dC := dC) (dI := dI) (ad := ad) (cI := cI) (ts := ts) hc H.size) (cwV 0 hts (ip_gdV (own := kR_PA) (idx := 44) (C := kR_PA) (y := yPA_signedCode) kw2_158 kw2_160 kws_6 kw1_4 kw2_161) rfl rfl rfl (by decide +kernel) ⟨Nat.le_of_ble_eq_true rfl, Nat.le_of_ble_eq_true rfl⟩) (ip_preV hK hP hD hS hA hZ [0, 1, 2] rfl rfl (ci := 3) (q0 := 1) rfl rfl) rfl rfl hl.1 rfl (lv_room (Nat.le_of_ble_eq_true rfl)) dPA_readUnit_99 ⟨Nat.le_of_ble_eq_true rfl, Nat.le_of_ble_eq_true rfl⟩) hP hD hS hA [0, 1, 2] [3, 4] [2, 3, 4, 0, 1] (wPA_readUnit ad cI z37 v_RB_end v_PA_there z38 v_aChosen v_aValues g31) rfl rfl rfl (by decide) rfl rfl (fun H locs hP hD hS => ?_)
              clear hc
              refine lv_bipush (v := (-7 : Int32)) hx hb dPA_readUnit_102 (by decide) ?_
              refine lv_bipush (v := (7 : Int32)) hx hb dPA_readUnit_104 (by decide) ?_
              obtain ⟨z39, z40, hc, hf⟩ := ip_b2_e hf
              refine ip_calli (va_runV (As := [.int z36, .int (-7 : Int32), .int (7 : Int32)]) (rest := [.int ((5 : Int32) + z28), .ref (ad 15)]) ⟨hx, hb, hml, hown, hts⟩ (tPA_checked (l := l) (dC := dC) (dI := dI) (ad := ad) (cI := cI) (ts := ts) hc H.size) (cwV 3 hts (ip_gdV (own := kR_PA) (idx := 36) (C := kR_PA) (y := yPA_checked) kw2_154 kw2_156 kws_5 kw1_4 kw2_157) rfl rfl rfl (by decide +kernel) ⟨Nat.le_of_ble_eq_true rfl, Nat.le_of_ble_eq_true rfl⟩) (ip_preV hK hP hD hS hA hZ [1] rfl rfl (ci := 3) (q0 := 1) rfl rfl) rfl rfl hl.1 rfl (lv_room (Nat.le_of_ble_eq_true rfl)) dPA_readUnit_106 ⟨Nat.le_of_ble_eq_true rfl, Nat.le_of_ble_eq_true rfl⟩) hP hD hS hA [1] [0, 2, 3, 4] [0, 4, 1, 2, 3] (wPA_readUnit ad cI z37 v_RB_end v_PA_there z40 v_aChosen v_aValues g31) rfl rfl rfl (by decide) rfl rfl (fun H locs hP hD hS => ?_)
              clear hc
              refine ip_iast hx hb hK hP hD hS 4 0 rfl rfl (fun g41 => (wPA_readUnit ad cI z37 v_RB_end v_PA_there z40 v_aChosen v_aValues g41)) (fun _ => rfl) dPA_readUnit_109 hf (fun g41 H locs hf hP hD hS => ?_)
              refine ip_iinc (k0 := 1) (v0 := (1 : Int32)) (lv1 := fun z42 => [(1, .int z42), (0, .ref (ad 3))]) hx hb dPA_readUnit_110 hl rfl (by decide) (by decide) (fun _ => rfl) hf (fun z42 ls hf hl => ?_)
              refine lv_goto (tgt := 85) hx hb dPA_readUnit_113 rfl ?_
              replace hl := lv_sub hl (l' := [(0, .ref (ad 3)), (1, .int z42)]) [1, 0] rfl
              exact ih _ _ _ _ (ip_lp4_l hr85 hf) ls H locs hl hP hD hS
        exact L 1000 _ _ _ _ hL ls H locs hl hP hD hS
      intro ls H locs hl hP hD hS
      clear hL
      cases hf
      exact J116 ls H locs hl hP hD hS
  intro ls H locs hl hP hD hS
  clear hh
  refine lv_aload_n hx hb dPA_readUnit_116 rfl (lv_at hl 0 rfl) ?_
  refine va_get (D := (dC, dI)) (ci := 3) (v := .ref (ad 15)) (C := kR_PA) (T := kT_PA) (N := 5) hx hb hts kin_PA hown hK hP 1 rfl rfl 2 (by decide) (hts _ (List.mem_cons_of_mem _ kw1_74)) (fun _ h9 => h9) rfl dPA_readUnit_117 ?_
  refine lv_iconst (v := (4 : Int32)) hx hb dPA_readUnit_120 (by decide) ?_
  refine ip_iald hx hb hK hP 4 0 rfl rfl dPA_readUnit_121 hf (fun z43 hf => ?_)
  refine lv_iconst (v := (3 : Int32)) hx hb dPA_readUnit_122 (by decide) ?_
  obtain ⟨z44, z45, g46, hh, hf⟩ := ip_b3_e hf
  suffices J138 : ∀ (ls : Array Slot) (H : Heap) (locs : List Loc), lv_has ls 2 [(0, .ref (ad 3))] → va_P (dC, dI) vwCl (wPA_readUnit ad cI z44 v_RB_end v_PA_there z45 v_aChosen v_aValues g46) H → va_D A (wPA_readUnit ad cI z44 v_RB_end v_PA_there z45 v_aChosen v_aValues g46) → va_S A s.heap H locs → W p l e rmPA_readUnit s m args below meth c H locs 0 0 Q (F0 m 138 ls []) by
    replace hf := hh
    refine ip_icmp_ne (tgt := 138) hx hb dPA_readUnit_123 rfl hf (fun hf => ?_) (fun hf => ?_)
    · cases hf
      exact J138 ls H locs hl hP hD hS
    · refine lv_aload_n hx hb dPA_readUnit_126 rfl (lv_at hl 0 rfl) ?_
      refine va_get (D := (dC, dI)) (ci := 3) (v := .ref (ad 15)) (C := kR_PA) (T := kT_PA) (N := 5) hx hb hts kin_PA hown hK hP 1 rfl rfl 2 (by decide) (hts _ (List.mem_cons_of_mem _ kw1_74)) (fun _ h9 => h9) rfl dPA_readUnit_127 ?_
      refine lv_bipush (v := (9 : Int32)) hx hb dPA_readUnit_130 (by decide) ?_
      refine lv_aload_n hx hb dPA_readUnit_132 rfl (lv_at hl 0 rfl) ?_
      refine lv_iconst (v := (3 : Int32)) hx hb dPA_readUnit_133 (by decide) ?_
      obtain ⟨z47, z48, z49, hc, hf⟩ := ip_b3_e hf
      refine ip_calli (va_runV (As := [.int (3 : Int32)]) (rest := [.int (9 : Int32), .ref (ad 15)]) ⟨hx, hb, hml, hown, hts⟩ (tPA_number (l := l) (dC := dC) (dI := dI) (ad := ad) (cI := cI) (ts := ts) hc H.size) (cwV 1 hts (ip_gdV (own := kR_PA) (idx := 40) (C := kR_PA) (y := yPA_number) kw2_138 kw2_140 kws_3 kw1_4 kw2_141) rfl rfl rfl (by decide +kernel) ⟨Nat.le_of_ble_eq_true rfl, Nat.le_of_ble_eq_true rfl⟩) (ip_preV hK hP hD hS hA hZ [0, 1, 2] rfl rfl (ci := 3) (q0 := 1) rfl rfl) rfl rfl hl.1 rfl (lv_room (Nat.le_of_ble_eq_true rfl)) dPA_readUnit_134 ⟨Nat.le_of_ble_eq_true rfl, Nat.le_of_ble_eq_true rfl⟩) hP hD hS hA [0, 1, 2] [3, 4] [2, 3, 4, 0, 1] (wPA_readUnit ad cI z48 v_RB_end v_PA_there z49 v_aChosen v_aValues g27) rfl rfl rfl (by decide) rfl rfl (fun H locs hP hD hS => ?_)
      clear hc
      refine ip_iast hx hb hK hP hD hS 4 0 rfl rfl (fun g50 => (wPA_readUnit ad cI z48 v_RB_end v_PA_there z49 v_aChosen v_aValues g50)) (fun _ => rfl) dPA_readUnit_137 hf (fun g50 H locs hf hP hD hS => ?_)
      cases hf
      exact J138 ls H locs hl hP hD hS
  intro ls H locs hl hP hD hS
  clear hh
  refine lv_aload_n hx hb dPA_readUnit_138 rfl (lv_at hl 0 rfl) ?_
  refine va_get (D := (dC, dI)) (ci := 3) (v := .int z45) (C := kR_PA) (T := kT_PA) (N := 5) hx hb hts kin_PA hown hK hP 1 rfl rfl 4 (by decide) (hts _ (List.mem_cons_of_mem _ kw1_77)) (fun _ h9 => h9) rfl dPA_readUnit_139 ?_
  obtain ⟨z51, g52, hh, hf⟩ := ip_b2_e hf
  suffices J165 : ∀ (ls : Array Slot) (H : Heap) (locs : List Loc), lv_has ls 2 [(0, .ref (ad 3))] → va_P (dC, dI) vwCl (wPA_readUnit ad cI z44 v_RB_end z51 z45 v_aChosen g52 g46) H → va_D A (wPA_readUnit ad cI z44 v_RB_end z51 z45 v_aChosen g52 g46) → va_S A s.heap H locs → W p l e rmPA_readUnit s m args below meth c H locs 0 0 Q (F0 m 165 ls []) by
    replace hf := hh
    refine ip_if_ne (tgt := 165) hx hb dPA_readUnit_142 rfl hf (fun hf => ?_) (fun hf => ?_)
    · cases hf
      exact J165 ls H locs hl hP hD hS
    · refine lv_aload_n hx hb dPA_readUnit_145 rfl (lv_at hl 0 rfl) ?_
      refine va_get (D := (dC, dI)) (ci := 3) (v := .ref (ad 15)) (C := kR_PA) (T := kT_PA) (N := 5) hx hb hts kin_PA hown hK hP 1 rfl rfl 2 (by decide) (hts _ (List.mem_cons_of_mem _ kw1_74)) (fun _ h9 => h9) rfl dPA_readUnit_146 ?_
      refine lv_iconst (v := (0 : Int32)) hx hb dPA_readUnit_149 (by decide) ?_
      refine lv_aload_n hx hb dPA_readUnit_150 rfl (lv_at hl 0 rfl) ?_
      refine va_get (D := (dC, dI)) (ci := 3) (v := .ref (ad 14)) (C := kR_PA) (T := kT_PA) (N := 5) hx hb hts kin_PA hown hK hP 1 rfl rfl 1 (by decide) (hts _ (List.mem_cons_of_mem _ kw1_72)) (fun _ h9 => h9) rfl dPA_readUnit_151 ?_
      refine lv_iconst (v := (0 : Int32)) hx hb dPA_readUnit_154 (by decide) ?_
      refine lv_bipush (v := (10 : Int32)) hx hb dPA_readUnit_155 (by decide) ?_
      refine va_copyi (ty := .int) hx hb (by rw [hml]; exact hl.1.symm) hown (hts _ (List.mem_cons_of_mem _ kw2_162)) (hts _ (List.mem_cons_of_mem _ kw2_164)) (hts _ (List.mem_cons_of_mem _ kw2_163)) (hts _ (List.mem_cons_of_mem _ kw1_15)) hK hP hD hS 4 3 0 0 rfl rfl rfl rfl rfl (by decide) (by decide) (by decide) (by decide) (by decide) (fun _ _ => rfl) (Nat.le_of_ble_eq_true rfl) (by decide) dPA_readUnit_157 (fun H locs hP hD hS => ?_)
      obtain ⟨g53, hg9, hf⟩ := ip_lt_e hf
      rw [← hg9] at hP hD
      replace hP : va_P (dC, dI) vwCl (wPA_readUnit ad cI z44 v_RB_end v_PA_there z45 v_aChosen g53 g46) H := hP
      replace hD : va_D A (wPA_readUnit ad cI z44 v_RB_end v_PA_there z45 v_aChosen g53 g46) := hD
      clear hg9
      refine lv_aload_n hx hb dPA_readUnit_160 rfl (lv_at hl 0 rfl) ?_
      refine lv_iconst (v := (1 : Int32)) hx hb dPA_readUnit_161 (by decide) ?_
      refine va_put (D := (dC, dI)) (ci := 3) (v := .int (1 : Int32)) (ty := .boolean) (C := kR_PA) (T := kT_PA) (N := 5) hx hb hts kin_PA kty_PA kto_PA knm_PA hown hK hP hD hS 1 rfl rfl 3 (by decide) (hts _ (List.mem_cons_of_mem _ kw1_75)) (fun _ h9 => h9) rfl (by decide +kernel) rfl rfl (Nat.le_of_ble_eq_true rfl) dPA_readUnit_162 (fun H locs hP hD hS => ?_)
      replace hP : va_P (dC, dI) vwCl (wPA_readUnit ad cI z44 v_RB_end (1 : Int32) z45 v_aChosen g53 g46) H := hP
      replace hD : va_D A (wPA_readUnit ad cI z44 v_RB_end (1 : Int32) z45 v_aChosen g53 g46) := hD
      cases hf
      exact J165 ls H locs hl hP hD hS
  intro ls H locs hl hP hD hS
  clear hh
  refine lv_aload_n hx hb dPA_readUnit_165 rfl (lv_at hl 0 rfl) ?_
  refine va_get (D := (dC, dI)) (ci := 3) (v := .int z45) (C := kR_PA) (T := kT_PA) (N := 5) hx hb hts kin_PA hown hK hP 1 rfl rfl 4 (by decide) (hts _ (List.mem_cons_of_mem _ kw1_77)) (fun _ h9 => h9) rfl dPA_readUnit_166 ?_
  cases hf
  exact hret H locs 169 ls _ dPA_readUnit_169 rfl hP hD hS
