set_option maxHeartbeats 4000000 in
set_option maxRecDepth 100000 in
theorem tIP_parameter {l : Launch} {dC : Nat → ClassId} {dI : Nat → Nat → Nat} {cI : ClassId} {ad : Nat → Nat} {ts : ip_TT} {v_IP_pictureStands : Int32} {v_PA_there : Int32} {v_PA_fault : Int32} {v_aValues : Nat → Int32} {p1 : Int32} {r0 : Int32}  (hf : fIP_parameter v_IP_pictureStands v_PA_there v_PA_fault v_aValues p1 = some r0) : ip_Mi l yIP_parameter wsIP_parameter rmIP_parameter (dC, dI) vwCl [(cI, .int)] ts [.ref (ad 0), .int p1] (wIP_parameter ad cI v_IP_pictureStands v_PA_there v_PA_fault v_aValues) (wIP_parameter ad cI v_IP_pictureStands v_PA_there v_PA_fault v_aValues) r0 := by
  refine ip_startI (cc := cIP_parameter) (maxL := 2) (by decide) rfl (Nat.le_of_ble_eq_true rfl) ?_
  intro p e s m args below meth c Q A ls hx hb hml hts hown hK hP hD hS hA hZ hl hret
  replace hl : lv_has ls 2 [(0, .ref (ad 0)), (1, .int p1)] := hl
  unfold fIP_parameter at hf
  suffices J0 : ∀ (ls : Array Slot) (H : Heap) (locs : List Loc), lv_has ls 2 [(0, .ref (ad 0)), (1, .int p1)] → va_P (dC, dI) vwCl (wIP_parameter ad cI v_IP_pictureStands v_PA_there v_PA_fault v_aValues) H → va_D A (wIP_parameter ad cI v_IP_pictureStands v_PA_there v_PA_fault v_aValues) → va_S A s.heap H locs → W p l e rmIP_parameter s m args below meth c H locs 0 0 Q (F0 m 0 ls []) by exact J0 ls s.heap [] hl hP hD hS
  clear hP hD hS hl
  intro ls H locs hl hP hD hS
  refine lv_aload_n hx hb dIP_parameter_0 rfl (lv_at hl 0 rfl) ?_
  refine va_get (D := (dC, dI)) (ci := 0) (v := .ref (ad 3)) (C := kR_IP) (T := kT_IP) (N := 7) hx hb hts kin_IP hown hK hP 0 rfl rfl 2 (by decide) (hts _ (List.mem_cons_of_mem _ kw2_59)) (fun _ h9 => h9) rfl dIP_parameter_1 ?_
  refine va_get (D := (dC, dI)) (ci := 3) (v := .int v_PA_there) (C := kR_PA) (T := kT_PA) (N := 5) hx hb hts kin_PA hown hK hP 1 rfl rfl 3 (by decide) (hts _ (List.mem_cons_of_mem _ kw1_76)) (fun _ h9 => h9) rfl dIP_parameter_4 ?_
  refine ip_if_eq (tgt := 32) hx hb dIP_parameter_7 rfl hf (fun hf => ?_) (fun hf => ?_)
  · refine lv_bipush (v := (-100 : Int32)) hx hb dIP_parameter_32 (by decide) ?_
    cases hf
    exact hret H locs 34 ls _ dIP_parameter_34 rfl hP hD hS
  · refine lv_iload_n hx hb dIP_parameter_10 rfl (lv_at hl 1 rfl) ?_
    refine ip_if_lt (tgt := 32) hx hb dIP_parameter_11 rfl hf (fun hf => ?_) (fun hf => ?_)
    · refine lv_bipush (v := (-100 : Int32)) hx hb dIP_parameter_32 (by decide) ?_
      cases hf
      exact hret H locs 34 ls _ dIP_parameter_34 rfl hP hD hS
    · refine lv_iload_n hx hb dIP_parameter_14 rfl (lv_at hl 1 rfl) ?_
      refine lv_bipush (v := (10 : Int32)) hx hb dIP_parameter_15 (by decide) ?_
      refine ip_icmp_ge (tgt := 32) hx hb dIP_parameter_17 rfl hf (fun hf => ?_) (fun hf => ?_)
      · refine lv_bipush (v := (-100 : Int32)) hx hb dIP_parameter_32 (by decide) ?_
        cases hf
        exact hret H locs 34 ls _ dIP_parameter_34 rfl hP hD hS
      · refine lv_aload_n hx hb dIP_parameter_20 rfl (lv_at hl 0 rfl) ?_
        refine va_get (D := (dC, dI)) (ci := 0) (v := .ref (ad 3)) (C := kR_IP) (T := kT_IP) (N := 7) hx hb hts kin_IP hown hK hP 0 rfl rfl 2 (by decide) (hts _ (List.mem_cons_of_mem _ kw2_59)) (fun _ h9 => h9) rfl dIP_parameter_21 ?_
        refine va_get (D := (dC, dI)) (ci := 3) (v := .ref (ad 14)) (C := kR_PA) (T := kT_PA) (N := 5) hx hb hts kin_PA hown hK hP 1 rfl rfl 1 (by decide) (hts _ (List.mem_cons_of_mem _ kw1_73)) (fun _ h9 => h9) rfl dIP_parameter_24 ?_
        refine lv_iload_n hx hb dIP_parameter_27 rfl (lv_at hl 1 rfl) ?_
        refine ip_iald hx hb hK hP 2 0 rfl rfl dIP_parameter_28 hf (fun z1 hf => ?_)
        refine lv_goto (tgt := 34) hx hb dIP_parameter_29 rfl ?_
        cases hf
        exact hret H locs 34 ls _ dIP_parameter_34 rfl hP hD hS
set_option maxHeartbeats 4000000 in
set_option maxRecDepth 100000 in
theorem tIP_answerAt {l : Launch} {dC : Nat → ClassId} {dI : Nat → Nat → Nat} {cI : ClassId} {ad : Nat → Nat} {ts : ip_TT} {bRow : Nat} {v_IP_pictureStands : Int32} {v_bRow : Nat → Int32} {p2 : Int32} {p3 : Int32} {p4 : Int32} {r0 : Int32}  (hf : fIP_answerAt v_IP_pictureStands v_bRow p2 p3 p4 = some r0) : ip_Mi l yIP_answerAt wsIP_answerAt rmIP_answerAt (dC, dI) vwCl [(cI, .int)] ts [.ref (ad 0), .ref bRow, .int p2, .int p3, .int p4] (wIP_answerAt ad cI bRow v_IP_pictureStands v_bRow) (wIP_answerAt ad cI bRow v_IP_pictureStands v_bRow) r0 := by
  refine ip_startI (cc := cIP_answerAt) (maxL := 5) (by decide) rfl (Nat.le_of_ble_eq_true rfl) ?_
  intro p e s m args below meth c Q A ls hx hb hml hts hown hK hP hD hS hA hZ hl hret
  replace hl : lv_has ls 5 [(0, .ref (ad 0)), (1, .ref bRow), (2, .int p2), (3, .int p3), (4, .int p4)] := hl
  unfold fIP_answerAt at hf
  suffices J0 : ∀ (ls : Array Slot) (H : Heap) (locs : List Loc), lv_has ls 5 [(0, .ref (ad 0)), (1, .ref bRow), (2, .int p2), (3, .int p3), (4, .int p4)] → va_P (dC, dI) vwCl (wIP_answerAt ad cI bRow v_IP_pictureStands v_bRow) H → va_D A (wIP_answerAt ad cI bRow v_IP_pictureStands v_bRow) → va_S A s.heap H locs → W p l e rmIP_answerAt s m args below meth c H locs 0 0 Q (F0 m 0 ls []) by exact J0 ls s.heap [] hl hP hD hS
  clear hP hD hS hl
  intro ls H locs hl hP hD hS
  refine lv_aload_n hx hb dIP_answerAt_0 rfl (lv_at hl 0 rfl) ?_
  refine va_get (D := (dC, dI)) (ci := 0) (v := .int v_IP_pictureStands) (C := kR_IP) (T := kT_IP) (N := 7) hx hb hts kin_IP hown hK hP 0 rfl rfl 6 (by decide) (hts _ (List.mem_cons_of_mem _ kw2_63)) (fun _ h9 => h9) rfl dIP_answerAt_1 ?_
  refine ip_if_eq (tgt := 25) hx hb dIP_answerAt_4 rfl hf (fun hf => ?_) (fun hf => ?_)
  · refine lv_iload hx hb dIP_answerAt_25 (lv_at hl 4 rfl) ?_
    cases hf
    exact hret H locs 27 ls _ dIP_answerAt_27 rfl hP hD hS
  · refine lv_iload_n hx hb dIP_answerAt_7 rfl (lv_at hl 2 rfl) ?_
    refine lv_iload_n hx hb dIP_answerAt_8 rfl (lv_at hl 3 rfl) ?_
    obtain ⟨z1, hc, hf⟩ := ip_b1_e hf
    refine ip_calli (va_runS (As := [.int p2, .int p3]) (rest := []) ⟨hx, hb, hml, hown, hts⟩ (tIP_inPicture (l := l) (dC := dC) (dI := dI) (ad := ad) (cI := cI) (ts := ts) hc H.size) (va_cwS 2 hts (ip_gdS (own := kR_IP) (idx := 133) (y := yIP_inPicture) kw3_151 kw2_181 kw1_1 kw2_182) rfl rfl rfl (by decide +kernel) ⟨Nat.le_of_ble_eq_true rfl, Nat.le_of_ble_eq_true rfl⟩) (ip_preS hK hP hD hS hA hZ [] rfl rfl) rfl rfl hl.1 rfl (lv_room (Nat.le_of_ble_eq_true rfl)) dIP_answerAt_9 ⟨Nat.le_of_ble_eq_true rfl, Nat.le_of_ble_eq_true rfl⟩) hP hD hS hA [] [0, 1] [0, 1] (wIP_answerAt ad cI bRow v_IP_pictureStands v_bRow) rfl rfl rfl (by decide) rfl rfl (fun H locs hP hD hS => ?_)
    clear hc
    refine ip_if_eq (tgt := 25) hx hb dIP_answerAt_12 rfl hf (fun hf => ?_) (fun hf => ?_)
    · refine lv_iload hx hb dIP_answerAt_25 (lv_at hl 4 rfl) ?_
      cases hf
      exact hret H locs 27 ls _ dIP_answerAt_27 rfl hP hD hS
    · refine lv_aload_n hx hb dIP_answerAt_15 rfl (lv_at hl 1 rfl) ?_
      refine lv_iload_n hx hb dIP_answerAt_16 rfl (lv_at hl 2 rfl) ?_
      refine lv_iload_n hx hb dIP_answerAt_17 rfl (lv_at hl 3 rfl) ?_
      obtain ⟨z2, hc, hf⟩ := ip_b1_e hf
      refine ip_calli (va_runS (As := [.int p2, .int p3]) (rest := [.ref bRow]) ⟨hx, hb, hml, hown, hts⟩ (tIP_placeOf (l := l) (dC := dC) (dI := dI) (ad := ad) (cI := cI) (ts := ts) hc H.size) (va_cwS 2 hts (ip_gdS (own := kR_IP) (idx := 137) (y := yIP_placeOf) kw3_152 kw2_184 kw1_1 kw2_185) rfl rfl rfl (by decide +kernel) ⟨Nat.le_of_ble_eq_true rfl, Nat.le_of_ble_eq_true rfl⟩) (ip_preS hK hP hD hS hA hZ [] rfl rfl) rfl rfl hl.1 rfl (lv_room (Nat.le_of_ble_eq_true rfl)) dIP_answerAt_18 ⟨Nat.le_of_ble_eq_true rfl, Nat.le_of_ble_eq_true rfl⟩) hP hD hS hA [] [0, 1] [0, 1] (wIP_answerAt ad cI bRow v_IP_pictureStands v_bRow) rfl rfl rfl (by decide) rfl rfl (fun H locs hP hD hS => ?_)
      clear hc
      refine ip_iald hx hb hK hP 1 0 rfl rfl dIP_answerAt_21 hf (fun z3 hf => ?_)
      refine lv_goto (tgt := 27) hx hb dIP_answerAt_22 rfl ?_
      cases hf
      exact hret H locs 27 ls _ dIP_answerAt_27 rfl hP hD hS
set_option maxHeartbeats 4000000 in
set_option maxRecDepth 100000 in
theorem tIP_sample {l : Launch} {dC : Nat → ClassId} {dI : Nat → Nat → Nat} {cI : ClassId} {ad : Nat → Nat} {ts : ip_TT} {v_IP_pictureStands : Int32} {v_aSamples : Nat → Int32} {p1 : Int32} {p2 : Int32} {r0 : Int32}  (hf : fIP_sample v_IP_pictureStands v_aSamples p1 p2 = some r0) : ip_Mi l yIP_sample wsIP_sample rmIP_sample (dC, dI) vwCl [(cI, .int)] ts [.ref (ad 0), .int p1, .int p2] (wIP_sample ad cI v_IP_pictureStands v_aSamples) (wIP_sample ad cI v_IP_pictureStands v_aSamples) r0 := by
  refine ip_startI (cc := cIP_sample) (maxL := 3) (by decide) rfl (Nat.le_of_ble_eq_true rfl) ?_
  intro p e s m args below meth c Q A ls hx hb hml hts hown hK hP hD hS hA hZ hl hret
  replace hl : lv_has ls 3 [(0, .ref (ad 0)), (1, .int p1), (2, .int p2)] := hl
  unfold fIP_sample at hf
  suffices J0 : ∀ (ls : Array Slot) (H : Heap) (locs : List Loc), lv_has ls 3 [(0, .ref (ad 0)), (1, .int p1), (2, .int p2)] → va_P (dC, dI) vwCl (wIP_sample ad cI v_IP_pictureStands v_aSamples) H → va_D A (wIP_sample ad cI v_IP_pictureStands v_aSamples) → va_S A s.heap H locs → W p l e rmIP_sample s m args below meth c H locs 0 0 Q (F0 m 0 ls []) by exact J0 ls s.heap [] hl hP hD hS
  clear hP hD hS hl
  intro ls H locs hl hP hD hS
  refine lv_aload_n hx hb dIP_sample_0 rfl (lv_at hl 0 rfl) ?_
  refine lv_aload_n hx hb dIP_sample_1 rfl (lv_at hl 0 rfl) ?_
  refine va_get (D := (dC, dI)) (ci := 0) (v := .ref (ad 6)) (C := kR_IP) (T := kT_IP) (N := 7) hx hb hts kin_IP hown hK hP 0 rfl rfl 4 (by decide) (hts _ (List.mem_cons_of_mem _ kw2_61)) (fun _ h9 => h9) rfl dIP_sample_2 ?_
  refine va_get (D := (dC, dI)) (ci := 6) (v := .ref (ad 18)) (C := kR_RW) (T := kT_RW) (N := 6) hx hb hts kin_RW hown hK hP 1 rfl rfl 0 (by decide) (hts _ (List.mem_cons_of_mem _ kw1_121)) (fun _ h9 => h9) rfl dIP_sample_5 ?_
  refine lv_iload_n hx hb dIP_sample_8 rfl (lv_at hl 1 rfl) ?_
  refine lv_iload_n hx hb dIP_sample_9 rfl (lv_at hl 2 rfl) ?_
  refine lv_iconst (v := (-1 : Int32)) hx hb dIP_sample_10 (by decide) ?_
  obtain ⟨z1, hc, hf⟩ := ip_b1_e hf
  refine ip_calli (va_runV (As := [.ref (ad 18), .int p1, .int p2, .int (-1 : Int32)]) (rest := []) ⟨hx, hb, hml, hown, hts⟩ (tIP_answerAt (l := l) (dC := dC) (dI := dI) (ad := ad) (cI := cI) (ts := ts) (bRow := ad 18) hc H.size) (cwV 4 hts (ip_gdV (own := kR_IP) (idx := 108) (C := kR_IP) (y := yIP_answerAt) kw3_147 kw3_149 kws_35 kw1_1 kw3_150) rfl rfl rfl (by decide +kernel) ⟨Nat.le_of_ble_eq_true rfl, Nat.le_of_ble_eq_true rfl⟩) (ip_preV hK hP hD hS hA hZ [0, 2] rfl rfl (ci := 0) (q0 := 0) rfl rfl) rfl rfl hl.1 rfl (lv_room (Nat.le_of_ble_eq_true rfl)) dIP_sample_11 ⟨Nat.le_of_ble_eq_true rfl, Nat.le_of_ble_eq_true rfl⟩) hP hD hS hA [0, 2] [1] [1, 0, 2] (wIP_sample ad cI v_IP_pictureStands v_aSamples) rfl rfl rfl (by decide) rfl rfl (fun H locs hP hD hS => ?_)
  clear hc
  cases hf
  exact hret H locs 14 ls _ dIP_sample_14 rfl hP hD hS
set_option maxHeartbeats 4000000 in
set_option maxRecDepth 100000 in
theorem tIP_plain {l : Launch} {dC : Nat → ClassId} {dI : Nat → Nat → Nat} {cI : ClassId} {ad : Nat → Nat} {ts : ip_TT} {v_IP_pictureStands : Int32} {v_aPlain : Nat → Int32} {p1 : Int32} {p2 : Int32} {r0 : Int32}  (hf : fIP_plain v_IP_pictureStands v_aPlain p1 p2 = some r0) : ip_Mi l yIP_plain wsIP_plain rmIP_plain (dC, dI) vwCl [(cI, .int)] ts [.ref (ad 0), .int p1, .int p2] (wIP_plain ad cI v_IP_pictureStands v_aPlain) (wIP_plain ad cI v_IP_pictureStands v_aPlain) r0 := by
  refine ip_startI (cc := cIP_plain) (maxL := 3) (by decide) rfl (Nat.le_of_ble_eq_true rfl) ?_
  intro p e s m args below meth c Q A ls hx hb hml hts hown hK hP hD hS hA hZ hl hret
  replace hl : lv_has ls 3 [(0, .ref (ad 0)), (1, .int p1), (2, .int p2)] := hl
  unfold fIP_plain at hf
  suffices J0 : ∀ (ls : Array Slot) (H : Heap) (locs : List Loc), lv_has ls 3 [(0, .ref (ad 0)), (1, .int p1), (2, .int p2)] → va_P (dC, dI) vwCl (wIP_plain ad cI v_IP_pictureStands v_aPlain) H → va_D A (wIP_plain ad cI v_IP_pictureStands v_aPlain) → va_S A s.heap H locs → W p l e rmIP_plain s m args below meth c H locs 0 0 Q (F0 m 0 ls []) by exact J0 ls s.heap [] hl hP hD hS
  clear hP hD hS hl
  intro ls H locs hl hP hD hS
  refine lv_aload_n hx hb dIP_plain_0 rfl (lv_at hl 0 rfl) ?_
  refine lv_aload_n hx hb dIP_plain_1 rfl (lv_at hl 0 rfl) ?_
  refine va_get (D := (dC, dI)) (ci := 0) (v := .ref (ad 6)) (C := kR_IP) (T := kT_IP) (N := 7) hx hb hts kin_IP hown hK hP 0 rfl rfl 4 (by decide) (hts _ (List.mem_cons_of_mem _ kw2_61)) (fun _ h9 => h9) rfl dIP_plain_2 ?_
  refine va_get (D := (dC, dI)) (ci := 6) (v := .ref (ad 19)) (C := kR_RW) (T := kT_RW) (N := 6) hx hb hts kin_RW hown hK hP 1 rfl rfl 1 (by decide) (hts _ (List.mem_cons_of_mem _ kw1_125)) (fun _ h9 => h9) rfl dIP_plain_5 ?_
  refine lv_iload_n hx hb dIP_plain_8 rfl (lv_at hl 1 rfl) ?_
  refine lv_iload_n hx hb dIP_plain_9 rfl (lv_at hl 2 rfl) ?_
  refine lv_iconst (v := (-1 : Int32)) hx hb dIP_plain_10 (by decide) ?_
  obtain ⟨z1, hc, hf⟩ := ip_b1_e hf
  refine ip_calli (va_runV (As := [.ref (ad 19), .int p1, .int p2, .int (-1 : Int32)]) (rest := []) ⟨hx, hb, hml, hown, hts⟩ (tIP_answerAt (l := l) (dC := dC) (dI := dI) (ad := ad) (cI := cI) (ts := ts) (bRow := ad 19) hc H.size) (cwV 4 hts (ip_gdV (own := kR_IP) (idx := 108) (C := kR_IP) (y := yIP_answerAt) kw3_147 kw3_149 kws_35 kw1_1 kw3_150) rfl rfl rfl (by decide +kernel) ⟨Nat.le_of_ble_eq_true rfl, Nat.le_of_ble_eq_true rfl⟩) (ip_preV hK hP hD hS hA hZ [0, 2] rfl rfl (ci := 0) (q0 := 0) rfl rfl) rfl rfl hl.1 rfl (lv_room (Nat.le_of_ble_eq_true rfl)) dIP_plain_11 ⟨Nat.le_of_ble_eq_true rfl, Nat.le_of_ble_eq_true rfl⟩) hP hD hS hA [0, 2] [1] [1, 0, 2] (wIP_plain ad cI v_IP_pictureStands v_aPlain) rfl rfl rfl (by decide) rfl rfl (fun H locs hP hD hS => ?_)
  clear hc
  cases hf
  exact hret H locs 14 ls _ dIP_plain_14 rfl hP hD hS
set_option maxHeartbeats 4000000 in
set_option maxRecDepth 100000 in
theorem tIP_predicted {l : Launch} {dC : Nat → ClassId} {dI : Nat → Nat → Nat} {cI : ClassId} {ad : Nat → Nat} {ts : ip_TT} {v_IP_pictureStands : Int32} {v_aPredicted : Nat → Int32} {p1 : Int32} {p2 : Int32} {r0 : Int32}  (hf : fIP_predicted v_IP_pictureStands v_aPredicted p1 p2 = some r0) : ip_Mi l yIP_predicted wsIP_predicted rmIP_predicted (dC, dI) vwCl [(cI, .int)] ts [.ref (ad 0), .int p1, .int p2] (wIP_predicted ad cI v_IP_pictureStands v_aPredicted) (wIP_predicted ad cI v_IP_pictureStands v_aPredicted) r0 := by
  refine ip_startI (cc := cIP_predicted) (maxL := 3) (by decide) rfl (Nat.le_of_ble_eq_true rfl) ?_
  intro p e s m args below meth c Q A ls hx hb hml hts hown hK hP hD hS hA hZ hl hret
  replace hl : lv_has ls 3 [(0, .ref (ad 0)), (1, .int p1), (2, .int p2)] := hl
  unfold fIP_predicted at hf
  suffices J0 : ∀ (ls : Array Slot) (H : Heap) (locs : List Loc), lv_has ls 3 [(0, .ref (ad 0)), (1, .int p1), (2, .int p2)] → va_P (dC, dI) vwCl (wIP_predicted ad cI v_IP_pictureStands v_aPredicted) H → va_D A (wIP_predicted ad cI v_IP_pictureStands v_aPredicted) → va_S A s.heap H locs → W p l e rmIP_predicted s m args below meth c H locs 0 0 Q (F0 m 0 ls []) by exact J0 ls s.heap [] hl hP hD hS
  clear hP hD hS hl
  intro ls H locs hl hP hD hS
  refine lv_aload_n hx hb dIP_predicted_0 rfl (lv_at hl 0 rfl) ?_
  refine lv_aload_n hx hb dIP_predicted_1 rfl (lv_at hl 0 rfl) ?_
  refine va_get (D := (dC, dI)) (ci := 0) (v := .ref (ad 6)) (C := kR_IP) (T := kT_IP) (N := 7) hx hb hts kin_IP hown hK hP 0 rfl rfl 4 (by decide) (hts _ (List.mem_cons_of_mem _ kw2_61)) (fun _ h9 => h9) rfl dIP_predicted_2 ?_
  refine va_get (D := (dC, dI)) (ci := 6) (v := .ref (ad 20)) (C := kR_RW) (T := kT_RW) (N := 6) hx hb hts kin_RW hown hK hP 1 rfl rfl 2 (by decide) (hts _ (List.mem_cons_of_mem _ kw1_129)) (fun _ h9 => h9) rfl dIP_predicted_5 ?_
  refine lv_iload_n hx hb dIP_predicted_8 rfl (lv_at hl 1 rfl) ?_
  refine lv_iload_n hx hb dIP_predicted_9 rfl (lv_at hl 2 rfl) ?_
  refine lv_iconst (v := (-1 : Int32)) hx hb dIP_predicted_10 (by decide) ?_
  obtain ⟨z1, hc, hf⟩ := ip_b1_e hf
  refine ip_calli (va_runV (As := [.ref (ad 20), .int p1, .int p2, .int (-1 : Int32)]) (rest := []) ⟨hx, hb, hml, hown, hts⟩ (tIP_answerAt (l := l) (dC := dC) (dI := dI) (ad := ad) (cI := cI) (ts := ts) (bRow := ad 20) hc H.size) (cwV 4 hts (ip_gdV (own := kR_IP) (idx := 108) (C := kR_IP) (y := yIP_answerAt) kw3_147 kw3_149 kws_35 kw1_1 kw3_150) rfl rfl rfl (by decide +kernel) ⟨Nat.le_of_ble_eq_true rfl, Nat.le_of_ble_eq_true rfl⟩) (ip_preV hK hP hD hS hA hZ [0, 2] rfl rfl (ci := 0) (q0 := 0) rfl rfl) rfl rfl hl.1 rfl (lv_room (Nat.le_of_ble_eq_true rfl)) dIP_predicted_11 ⟨Nat.le_of_ble_eq_true rfl, Nat.le_of_ble_eq_true rfl⟩) hP hD hS hA [0, 2] [1] [1, 0, 2] (wIP_predicted ad cI v_IP_pictureStands v_aPredicted) rfl rfl rfl (by decide) rfl rfl (fun H locs hP hD hS => ?_)
  clear hc
  cases hf
  exact hret H locs 14 ls _ dIP_predicted_14 rfl hP hD hS
set_option maxHeartbeats 4000000 in
set_option maxRecDepth 100000 in
theorem tIP_level {l : Launch} {dC : Nat → ClassId} {dI : Nat → Nat → Nat} {cI : ClassId} {ad : Nat → Nat} {ts : ip_TT} {v_IP_pictureStands : Int32} {v_aLevels : Nat → Int32} {p1 : Int32} {p2 : Int32} {r0 : Int32}  (hf : fIP_level v_IP_pictureStands v_aLevels p1 p2 = some r0) : ip_Mi l yIP_level wsIP_level rmIP_level (dC, dI) vwCl [(cI, .int)] ts [.ref (ad 0), .int p1, .int p2] (wIP_level ad cI v_IP_pictureStands v_aLevels) (wIP_level ad cI v_IP_pictureStands v_aLevels) r0 := by
  refine ip_startI (cc := cIP_level) (maxL := 3) (by decide) rfl (Nat.le_of_ble_eq_true rfl) ?_
  intro p e s m args below meth c Q A ls hx hb hml hts hown hK hP hD hS hA hZ hl hret
  replace hl : lv_has ls 3 [(0, .ref (ad 0)), (1, .int p1), (2, .int p2)] := hl
  unfold fIP_level at hf
  suffices J0 : ∀ (ls : Array Slot) (H : Heap) (locs : List Loc), lv_has ls 3 [(0, .ref (ad 0)), (1, .int p1), (2, .int p2)] → va_P (dC, dI) vwCl (wIP_level ad cI v_IP_pictureStands v_aLevels) H → va_D A (wIP_level ad cI v_IP_pictureStands v_aLevels) → va_S A s.heap H locs → W p l e rmIP_level s m args below meth c H locs 0 0 Q (F0 m 0 ls []) by exact J0 ls s.heap [] hl hP hD hS
  clear hP hD hS hl
  intro ls H locs hl hP hD hS
  refine lv_aload_n hx hb dIP_level_0 rfl (lv_at hl 0 rfl) ?_
  refine lv_aload_n hx hb dIP_level_1 rfl (lv_at hl 0 rfl) ?_
  refine va_get (D := (dC, dI)) (ci := 0) (v := .ref (ad 6)) (C := kR_IP) (T := kT_IP) (N := 7) hx hb hts kin_IP hown hK hP 0 rfl rfl 4 (by decide) (hts _ (List.mem_cons_of_mem _ kw2_61)) (fun _ h9 => h9) rfl dIP_level_2 ?_
  refine va_get (D := (dC, dI)) (ci := 6) (v := .ref (ad 21)) (C := kR_RW) (T := kT_RW) (N := 6) hx hb hts kin_RW hown hK hP 1 rfl rfl 3 (by decide) (hts _ (List.mem_cons_of_mem _ kw1_132)) (fun _ h9 => h9) rfl dIP_level_5 ?_
  refine lv_iload_n hx hb dIP_level_8 rfl (lv_at hl 1 rfl) ?_
  refine lv_iload_n hx hb dIP_level_9 rfl (lv_at hl 2 rfl) ?_
  refine lv_sipush (v := (-1000 : Int32)) hx hb dIP_level_10 (by decide) ?_
  obtain ⟨z1, hc, hf⟩ := ip_b1_e hf
  refine ip_calli (va_runV (As := [.ref (ad 21), .int p1, .int p2, .int (-1000 : Int32)]) (rest := []) ⟨hx, hb, hml, hown, hts⟩ (tIP_answerAt (l := l) (dC := dC) (dI := dI) (ad := ad) (cI := cI) (ts := ts) (bRow := ad 21) hc H.size) (cwV 4 hts (ip_gdV (own := kR_IP) (idx := 108) (C := kR_IP) (y := yIP_answerAt) kw3_147 kw3_149 kws_35 kw1_1 kw3_150) rfl rfl rfl (by decide +kernel) ⟨Nat.le_of_ble_eq_true rfl, Nat.le_of_ble_eq_true rfl⟩) (ip_preV hK hP hD hS hA hZ [0, 2] rfl rfl (ci := 0) (q0 := 0) rfl rfl) rfl rfl hl.1 rfl (lv_room (Nat.le_of_ble_eq_true rfl)) dIP_level_13 ⟨Nat.le_of_ble_eq_true rfl, Nat.le_of_ble_eq_true rfl⟩) hP hD hS hA [0, 2] [1] [1, 0, 2] (wIP_level ad cI v_IP_pictureStands v_aLevels) rfl rfl rfl (by decide) rfl rfl (fun H locs hP hD hS => ?_)
  clear hc
  cases hf
  exact hret H locs 16 ls _ dIP_level_16 rfl hP hD hS
set_option maxHeartbeats 4000000 in
set_option maxRecDepth 100000 in
theorem tIP_mode {l : Launch} {dC : Nat → ClassId} {dI : Nat → Nat → Nat} {cI : ClassId} {ad : Nat → Nat} {ts : ip_TT} {v_IP_pictureStands : Int32} {v_aModes : Nat → Int32} {p1 : Int32} {p2 : Int32} {r0 : Int32}  (hf : fIP_mode v_IP_pictureStands v_aModes p1 p2 = some r0) : ip_Mi l yIP_mode wsIP_mode rmIP_mode (dC, dI) vwCl [(cI, .int)] ts [.ref (ad 0), .int p1, .int p2] (wIP_mode ad cI v_IP_pictureStands v_aModes) (wIP_mode ad cI v_IP_pictureStands v_aModes) r0 := by
  refine ip_startI (cc := cIP_mode) (maxL := 3) (by decide) rfl (Nat.le_of_ble_eq_true rfl) ?_
  intro p e s m args below meth c Q A ls hx hb hml hts hown hK hP hD hS hA hZ hl hret
  replace hl : lv_has ls 3 [(0, .ref (ad 0)), (1, .int p1), (2, .int p2)] := hl
  unfold fIP_mode at hf
  suffices J0 : ∀ (ls : Array Slot) (H : Heap) (locs : List Loc), lv_has ls 3 [(0, .ref (ad 0)), (1, .int p1), (2, .int p2)] → va_P (dC, dI) vwCl (wIP_mode ad cI v_IP_pictureStands v_aModes) H → va_D A (wIP_mode ad cI v_IP_pictureStands v_aModes) → va_S A s.heap H locs → W p l e rmIP_mode s m args below meth c H locs 0 0 Q (F0 m 0 ls []) by exact J0 ls s.heap [] hl hP hD hS
  clear hP hD hS hl
  intro ls H locs hl hP hD hS
  refine lv_aload_n hx hb dIP_mode_0 rfl (lv_at hl 0 rfl) ?_
  refine lv_aload_n hx hb dIP_mode_1 rfl (lv_at hl 0 rfl) ?_
  refine va_get (D := (dC, dI)) (ci := 0) (v := .ref (ad 6)) (C := kR_IP) (T := kT_IP) (N := 7) hx hb hts kin_IP hown hK hP 0 rfl rfl 4 (by decide) (hts _ (List.mem_cons_of_mem _ kw2_61)) (fun _ h9 => h9) rfl dIP_mode_2 ?_
  refine va_get (D := (dC, dI)) (ci := 6) (v := .ref (ad 22)) (C := kR_RW) (T := kT_RW) (N := 6) hx hb hts kin_RW hown hK hP 1 rfl rfl 4 (by decide) (hts _ (List.mem_cons_of_mem _ kw1_135)) (fun _ h9 => h9) rfl dIP_mode_5 ?_
  refine lv_iload_n hx hb dIP_mode_8 rfl (lv_at hl 1 rfl) ?_
  refine lv_iload_n hx hb dIP_mode_9 rfl (lv_at hl 2 rfl) ?_
  refine lv_iconst (v := (-1 : Int32)) hx hb dIP_mode_10 (by decide) ?_
  obtain ⟨z1, hc, hf⟩ := ip_b1_e hf
  refine ip_calli (va_runV (As := [.ref (ad 22), .int p1, .int p2, .int (-1 : Int32)]) (rest := []) ⟨hx, hb, hml, hown, hts⟩ (tIP_answerAt (l := l) (dC := dC) (dI := dI) (ad := ad) (cI := cI) (ts := ts) (bRow := ad 22) hc H.size) (cwV 4 hts (ip_gdV (own := kR_IP) (idx := 108) (C := kR_IP) (y := yIP_answerAt) kw3_147 kw3_149 kws_35 kw1_1 kw3_150) rfl rfl rfl (by decide +kernel) ⟨Nat.le_of_ble_eq_true rfl, Nat.le_of_ble_eq_true rfl⟩) (ip_preV hK hP hD hS hA hZ [0, 2] rfl rfl (ci := 0) (q0 := 0) rfl rfl) rfl rfl hl.1 rfl (lv_room (Nat.le_of_ble_eq_true rfl)) dIP_mode_11 ⟨Nat.le_of_ble_eq_true rfl, Nat.le_of_ble_eq_true rfl⟩) hP hD hS hA [0, 2] [1] [1, 0, 2] (wIP_mode ad cI v_IP_pictureStands v_aModes) rfl rfl rfl (by decide) rfl rfl (fun H locs hP hD hS => ?_)
  clear hc
  cases hf
  exact hret H locs 14 ls _ dIP_mode_14 rfl hP hD hS
set_option maxHeartbeats 4000000 in
set_option maxRecDepth 100000 in
theorem tIP_side {l : Launch} {dC : Nat → ClassId} {dI : Nat → Nat → Nat} {cI : ClassId} {ad : Nat → Nat} {ts : ip_TT} {v_IP_pictureStands : Int32} {v_aSides : Nat → Int32} {p1 : Int32} {p2 : Int32} {r0 : Int32}  (hf : fIP_side v_IP_pictureStands v_aSides p1 p2 = some r0) : ip_Mi l yIP_side wsIP_side rmIP_side (dC, dI) vwCl [(cI, .int)] ts [.ref (ad 0), .int p1, .int p2] (wIP_side ad cI v_IP_pictureStands v_aSides) (wIP_side ad cI v_IP_pictureStands v_aSides) r0 := by
  refine ip_startI (cc := cIP_side) (maxL := 3) (by decide) rfl (Nat.le_of_ble_eq_true rfl) ?_
  intro p e s m args below meth c Q A ls hx hb hml hts hown hK hP hD hS hA hZ hl hret
  replace hl : lv_has ls 3 [(0, .ref (ad 0)), (1, .int p1), (2, .int p2)] := hl
  unfold fIP_side at hf
  suffices J0 : ∀ (ls : Array Slot) (H : Heap) (locs : List Loc), lv_has ls 3 [(0, .ref (ad 0)), (1, .int p1), (2, .int p2)] → va_P (dC, dI) vwCl (wIP_side ad cI v_IP_pictureStands v_aSides) H → va_D A (wIP_side ad cI v_IP_pictureStands v_aSides) → va_S A s.heap H locs → W p l e rmIP_side s m args below meth c H locs 0 0 Q (F0 m 0 ls []) by exact J0 ls s.heap [] hl hP hD hS
  clear hP hD hS hl
  intro ls H locs hl hP hD hS
  refine lv_aload_n hx hb dIP_side_0 rfl (lv_at hl 0 rfl) ?_
  refine lv_aload_n hx hb dIP_side_1 rfl (lv_at hl 0 rfl) ?_
  refine va_get (D := (dC, dI)) (ci := 0) (v := .ref (ad 6)) (C := kR_IP) (T := kT_IP) (N := 7) hx hb hts kin_IP hown hK hP 0 rfl rfl 4 (by decide) (hts _ (List.mem_cons_of_mem _ kw2_61)) (fun _ h9 => h9) rfl dIP_side_2 ?_
  refine va_get (D := (dC, dI)) (ci := 6) (v := .ref (ad 23)) (C := kR_RW) (T := kT_RW) (N := 6) hx hb hts kin_RW hown hK hP 1 rfl rfl 5 (by decide) (hts _ (List.mem_cons_of_mem _ kw1_139)) (fun _ h9 => h9) rfl dIP_side_5 ?_
  refine lv_iload_n hx hb dIP_side_8 rfl (lv_at hl 1 rfl) ?_
  refine lv_iload_n hx hb dIP_side_9 rfl (lv_at hl 2 rfl) ?_
  refine lv_iconst (v := (-1 : Int32)) hx hb dIP_side_10 (by decide) ?_
  obtain ⟨z1, hc, hf⟩ := ip_b1_e hf
  refine ip_calli (va_runV (As := [.ref (ad 23), .int p1, .int p2, .int (-1 : Int32)]) (rest := []) ⟨hx, hb, hml, hown, hts⟩ (tIP_answerAt (l := l) (dC := dC) (dI := dI) (ad := ad) (cI := cI) (ts := ts) (bRow := ad 23) hc H.size) (cwV 4 hts (ip_gdV (own := kR_IP) (idx := 108) (C := kR_IP) (y := yIP_answerAt) kw3_147 kw3_149 kws_35 kw1_1 kw3_150) rfl rfl rfl (by decide +kernel) ⟨Nat.le_of_ble_eq_true rfl, Nat.le_of_ble_eq_true rfl⟩) (ip_preV hK hP hD hS hA hZ [0, 2] rfl rfl (ci := 0) (q0 := 0) rfl rfl) rfl rfl hl.1 rfl (lv_room (Nat.le_of_ble_eq_true rfl)) dIP_side_11 ⟨Nat.le_of_ble_eq_true rfl, Nat.le_of_ble_eq_true rfl⟩) hP hD hS hA [0, 2] [1] [1, 0, 2] (wIP_side ad cI v_IP_pictureStands v_aSides) rfl rfl rfl (by decide) rfl rfl (fun H locs hP hD hS => ?_)
  clear hc
  cases hf
  exact hret H locs 14 ls _ dIP_side_14 rfl hP hD hS
set_option maxHeartbeats 4000000 in
set_option maxRecDepth 100000 in
theorem tIP_chance {l : Launch} {dC : Nat → ClassId} {dI : Nat → Nat → Nat} {cI : ClassId} {ad : Nat → Nat} {ts : ip_TT} {v_IP_pictureStands : Int32} {v_BD_range : Int32} {v_BD_value : Int32} {v_aChances : Nat → Int32} {p1 : Int32} {r0 : Int32}  (hf : fIP_chance v_IP_pictureStands v_BD_range v_BD_value v_aChances p1 = some r0) : ip_Mi l yIP_chance wsIP_chance rmIP_chance (dC, dI) vwCl [(cI, .int)] ts [.ref (ad 0), .int p1] (wIP_chance ad cI v_IP_pictureStands v_BD_range v_BD_value v_aChances) (wIP_chance ad cI v_IP_pictureStands v_BD_range v_BD_value v_aChances) r0 := by
  refine ip_startI (cc := cIP_chance) (maxL := 2) (by decide) rfl (Nat.le_of_ble_eq_true rfl) ?_
  intro p e s m args below meth c Q A ls hx hb hml hts hown hK hP hD hS hA hZ hl hret
  replace hl : lv_has ls 2 [(0, .ref (ad 0)), (1, .int p1)] := hl
  unfold fIP_chance at hf
  suffices J0 : ∀ (ls : Array Slot) (H : Heap) (locs : List Loc), lv_has ls 2 [(0, .ref (ad 0)), (1, .int p1)] → va_P (dC, dI) vwCl (wIP_chance ad cI v_IP_pictureStands v_BD_range v_BD_value v_aChances) H → va_D A (wIP_chance ad cI v_IP_pictureStands v_BD_range v_BD_value v_aChances) → va_S A s.heap H locs → W p l e rmIP_chance s m args below meth c H locs 0 0 Q (F0 m 0 ls []) by exact J0 ls s.heap [] hl hP hD hS
  clear hP hD hS hl
  intro ls H locs hl hP hD hS
  refine lv_aload_n hx hb dIP_chance_0 rfl (lv_at hl 0 rfl) ?_
  refine va_get (D := (dC, dI)) (ci := 0) (v := .int v_IP_pictureStands) (C := kR_IP) (T := kT_IP) (N := 7) hx hb hts kin_IP hown hK hP 0 rfl rfl 6 (by decide) (hts _ (List.mem_cons_of_mem _ kw2_63)) (fun _ h9 => h9) rfl dIP_chance_1 ?_
  refine ip_if_eq (tgt := 29) hx hb dIP_chance_4 rfl hf (fun hf => ?_) (fun hf => ?_)
  · refine lv_iconst (v := (-1 : Int32)) hx hb dIP_chance_29 (by decide) ?_
    cases hf
    exact hret H locs 30 ls _ dIP_chance_30 rfl hP hD hS
  · refine lv_iload_n hx hb dIP_chance_7 rfl (lv_at hl 1 rfl) ?_
    refine ip_if_lt (tgt := 29) hx hb dIP_chance_8 rfl hf (fun hf => ?_) (fun hf => ?_)
    · refine lv_iconst (v := (-1 : Int32)) hx hb dIP_chance_29 (by decide) ?_
      cases hf
      exact hret H locs 30 ls _ dIP_chance_30 rfl hP hD hS
    · refine lv_iload_n hx hb dIP_chance_11 rfl (lv_at hl 1 rfl) ?_
      refine lv_bipush (v := (14 : Int32)) hx hb dIP_chance_12 (by decide) ?_
      refine ip_icmp_ge (tgt := 29) hx hb dIP_chance_14 rfl hf (fun hf => ?_) (fun hf => ?_)
      · refine lv_iconst (v := (-1 : Int32)) hx hb dIP_chance_29 (by decide) ?_
        cases hf
        exact hret H locs 30 ls _ dIP_chance_30 rfl hP hD hS
      · refine lv_aload_n hx hb dIP_chance_17 rfl (lv_at hl 0 rfl) ?_
        refine va_get (D := (dC, dI)) (ci := 0) (v := .ref (ad 4)) (C := kR_IP) (T := kT_IP) (N := 7) hx hb hts kin_IP hown hK hP 0 rfl rfl 3 (by decide) (hts _ (List.mem_cons_of_mem _ kw2_60)) (fun _ h9 => h9) rfl dIP_chance_18 ?_
        refine va_get (D := (dC, dI)) (ci := 4) (v := .ref (ad 16)) (C := kR_BD) (T := kT_BD) (N := 5) hx hb hts kin_BD hown hK hP 1 rfl rfl 1 (by decide) (hts _ (List.mem_cons_of_mem _ kw1_97)) (fun _ h9 => h9) rfl dIP_chance_21 ?_
        refine lv_iload_n hx hb dIP_chance_24 rfl (lv_at hl 1 rfl) ?_
        refine ip_iald hx hb hK hP 2 0 rfl rfl dIP_chance_25 hf (fun z1 hf => ?_)
        refine lv_goto (tgt := 30) hx hb dIP_chance_26 rfl ?_
        cases hf
        exact hret H locs 30 ls _ dIP_chance_30 rfl hP hD hS
set_option maxHeartbeats 4000000 in
set_option maxRecDepth 100000 in
theorem tIP_took {l : Launch} {dC : Nat → ClassId} {dI : Nat → Nat → Nat} {cI : ClassId} {ad : Nat → Nat} {ts : ip_TT} {v_IP_pictureStands : Int32} {v_BD_range : Int32} {v_BD_value : Int32} {v_aCounts : Nat → Int32} {p1 : Int32} {r0 : Int32}  (hf : fIP_took v_IP_pictureStands v_BD_range v_BD_value v_aCounts p1 = some r0) : ip_Mi l yIP_took wsIP_took rmIP_took (dC, dI) vwCl [(cI, .int)] ts [.ref (ad 0), .int p1] (wIP_took ad cI v_IP_pictureStands v_BD_range v_BD_value v_aCounts) (wIP_took ad cI v_IP_pictureStands v_BD_range v_BD_value v_aCounts) r0 := by
  refine ip_startI (cc := cIP_took) (maxL := 2) (by decide) rfl (Nat.le_of_ble_eq_true rfl) ?_
  intro p e s m args below meth c Q A ls hx hb hml hts hown hK hP hD hS hA hZ hl hret
  replace hl : lv_has ls 2 [(0, .ref (ad 0)), (1, .int p1)] := hl
  unfold fIP_took at hf
  suffices J0 : ∀ (ls : Array Slot) (H : Heap) (locs : List Loc), lv_has ls 2 [(0, .ref (ad 0)), (1, .int p1)] → va_P (dC, dI) vwCl (wIP_took ad cI v_IP_pictureStands v_BD_range v_BD_value v_aCounts) H → va_D A (wIP_took ad cI v_IP_pictureStands v_BD_range v_BD_value v_aCounts) → va_S A s.heap H locs → W p l e rmIP_took s m args below meth c H locs 0 0 Q (F0 m 0 ls []) by exact J0 ls s.heap [] hl hP hD hS
  clear hP hD hS hl
  intro ls H locs hl hP hD hS
  refine lv_aload_n hx hb dIP_took_0 rfl (lv_at hl 0 rfl) ?_
  refine va_get (D := (dC, dI)) (ci := 0) (v := .int v_IP_pictureStands) (C := kR_IP) (T := kT_IP) (N := 7) hx hb hts kin_IP hown hK hP 0 rfl rfl 6 (by decide) (hts _ (List.mem_cons_of_mem _ kw2_63)) (fun _ h9 => h9) rfl dIP_took_1 ?_
  refine ip_if_eq (tgt := 28) hx hb dIP_took_4 rfl hf (fun hf => ?_) (fun hf => ?_)
  · refine lv_iconst (v := (-1 : Int32)) hx hb dIP_took_28 (by decide) ?_
    cases hf
    exact hret H locs 29 ls _ dIP_took_29 rfl hP hD hS
  · refine lv_iload_n hx hb dIP_took_7 rfl (lv_at hl 1 rfl) ?_
    refine ip_if_lt (tgt := 28) hx hb dIP_took_8 rfl hf (fun hf => ?_) (fun hf => ?_)
    · refine lv_iconst (v := (-1 : Int32)) hx hb dIP_took_28 (by decide) ?_
      cases hf
      exact hret H locs 29 ls _ dIP_took_29 rfl hP hD hS
    · refine lv_iload_n hx hb dIP_took_11 rfl (lv_at hl 1 rfl) ?_
      refine lv_iconst (v := (3 : Int32)) hx hb dIP_took_12 (by decide) ?_
      refine ip_icmp_ge (tgt := 28) hx hb dIP_took_13 rfl hf (fun hf => ?_) (fun hf => ?_)
      · refine lv_iconst (v := (-1 : Int32)) hx hb dIP_took_28 (by decide) ?_
        cases hf
        exact hret H locs 29 ls _ dIP_took_29 rfl hP hD hS
      · refine lv_aload_n hx hb dIP_took_16 rfl (lv_at hl 0 rfl) ?_
        refine va_get (D := (dC, dI)) (ci := 0) (v := .ref (ad 4)) (C := kR_IP) (T := kT_IP) (N := 7) hx hb hts kin_IP hown hK hP 0 rfl rfl 3 (by decide) (hts _ (List.mem_cons_of_mem _ kw2_60)) (fun _ h9 => h9) rfl dIP_took_17 ?_
        refine va_get (D := (dC, dI)) (ci := 4) (v := .ref (ad 17)) (C := kR_BD) (T := kT_BD) (N := 5) hx hb hts kin_BD hown hK hP 1 rfl rfl 2 (by decide) (hts _ (List.mem_cons_of_mem _ kw1_99)) (fun _ h9 => h9) rfl dIP_took_20 ?_
        refine lv_iload_n hx hb dIP_took_23 rfl (lv_at hl 1 rfl) ?_
        refine ip_iald hx hb hK hP 2 0 rfl rfl dIP_took_24 hf (fun z1 hf => ?_)
        refine lv_goto (tgt := 29) hx hb dIP_took_25 rfl ?_
        cases hf
        exact hret H locs 29 ls _ dIP_took_29 rfl hP hD hS
