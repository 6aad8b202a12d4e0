set_option maxHeartbeats 4000000 in
set_option maxRecDepth 100000 in
theorem tMO_side {l : Launch} {dC : Nat → ClassId} {dI : Nat → Nat → Nat} {cI cZ : ClassId} {ad : Nat → Nat} {ts : ip_TT} {v_MO_size : Int32} {v_MO_loaded : Int32} {v_MO_at : Int32} {v_MO_fault : Int32} {v_MO_hasGiven : Int32} {v_MO_hasPicture : Int32} {v_MO_range : Int32} {v_MO_value : Int32} {v_MO_leaves : Int32} {v_msides : Nat → Int32} {v_mowner : Nat → Int32} {p1 : Int32} {p2 : Int32} {r0 : Int32}  (hf : fMO_side v_MO_size v_MO_loaded v_MO_at v_MO_fault v_MO_hasGiven v_MO_hasPicture v_MO_range v_MO_value v_MO_leaves v_msides v_mowner p1 p2 = some r0) : ip_Mi l yMO_side wsMO_side rmMO_side (dC, dI) vwCl [(cI, .int), (cZ, .boolean)] ts [.ref (ad 0), .int p1, .int p2] (wMO_side ad cI cZ v_MO_size v_MO_loaded v_MO_at v_MO_fault v_MO_hasGiven v_MO_hasPicture v_MO_range v_MO_value v_MO_leaves v_msides v_mowner) (wMO_side ad cI cZ v_MO_size v_MO_loaded v_MO_at v_MO_fault v_MO_hasGiven v_MO_hasPicture v_MO_range v_MO_value v_MO_leaves v_msides v_mowner) r0 := by
  refine ip_startI (cc := cMO_side) (maxL := 3) (by decide) rfl (Nat.le_of_ble_eq_true rfl) ?_
  intro p e s m args below meth c Q A ls hx hb hml hts hown hK hP hD hS hA hZ hl hret
  replace hl : lv_has ls 3 [(0, .ref (ad 0)), (1, .int p1), (2, .int p2)] := hl
  unfold fMO_side at hf
  suffices J0 : ∀ (ls : Array Slot) (H : Heap) (locs : List Loc), lv_has ls 3 [(0, .ref (ad 0)), (1, .int p1), (2, .int p2)] → va_P (dC, dI) vwCl (wMO_side ad cI cZ v_MO_size v_MO_loaded v_MO_at v_MO_fault v_MO_hasGiven v_MO_hasPicture v_MO_range v_MO_value v_MO_leaves v_msides v_mowner) H → va_D A (wMO_side ad cI cZ v_MO_size v_MO_loaded v_MO_at v_MO_fault v_MO_hasGiven v_MO_hasPicture v_MO_range v_MO_value v_MO_leaves v_msides v_mowner) → va_S A s.heap H locs → W p l e rmMO_side s m args below meth c H locs 0 0 Q (F0 m 0 ls []) by exact J0 ls s.heap [] hl hP hD hS
  clear hP hD hS hl
  intro ls H locs hl hP hD hS
  refine lv_aload_n hx hb dMO_side_0 rfl (lv_at hl 0 rfl) ?_
  refine lv_iload_n hx hb dMO_side_1 rfl (lv_at hl 1 rfl) ?_
  refine lv_iload_n hx hb dMO_side_2 rfl (lv_at hl 2 rfl) ?_
  obtain ⟨z1, hc, hf⟩ := ip_b1_e hf
  refine ip_calli (va_runV (As := [.int p1, .int p2]) (rest := []) ⟨hx, hb, hml, hown, hts⟩ (tMO_seen (l := l) (dC := dC) (dI := dI) (ad := ad) (cI := cI) (ts := ts) (cZ := cZ) hc H.size) (cwV 2 hts (ip_gdV (own := kR_MO) (idx := 221) (C := kR_MO) (y := yMO_seen) kw4_203 kw4_205 kws_65 kw1_13 kw4_206) rfl rfl rfl (by decide +kernel) ⟨Nat.le_of_ble_eq_true rfl, Nat.le_of_ble_eq_true rfl⟩) (ip_preV hK hP hD hS hA hZ [0] rfl rfl (ci := 12) (q0 := 0) rfl rfl) rfl rfl hl.1 rfl (lv_room (Nat.le_of_ble_eq_true rfl)) dMO_side_3 ⟨Nat.le_of_ble_eq_true rfl, Nat.le_of_ble_eq_true rfl⟩) hP hD hS hA [0] [1, 2] [2, 0, 1] (wMO_side ad cI cZ v_MO_size v_MO_loaded v_MO_at v_MO_fault v_MO_hasGiven v_MO_hasPicture v_MO_range v_MO_value v_MO_leaves v_msides v_mowner) rfl rfl rfl (by decide) rfl rfl (fun H locs hP hD hS => ?_)
  clear hc
  refine ip_if_eq (tgt := 28) hx hb dMO_side_6 rfl hf (fun hf => ?_) (fun hf => ?_)
  · refine lv_iconst (v := (-1 : Int32)) hx hb dMO_side_28 (by decide) ?_
    cases hf
    exact hret H locs 29 ls _ dMO_side_29 rfl hP hD hS
  · refine lv_aload_n hx hb dMO_side_9 rfl (lv_at hl 0 rfl) ?_
    refine va_get (D := (dC, dI)) (ci := 12) (v := .ref (ad 9)) (C := kR_MO) (T := kT_MO) (N := 32) hx hb hts kin_MO hown hK hP 0 rfl rfl 17 (by decide) (hts _ (List.mem_cons_of_mem _ kw3_204)) (fun _ h9 => h9) rfl dMO_side_10 ?_
    refine lv_aload_n hx hb dMO_side_13 rfl (lv_at hl 0 rfl) ?_
    refine va_get (D := (dC, dI)) (ci := 12) (v := .ref (ad 12)) (C := kR_MO) (T := kT_MO) (N := 32) hx hb hts kin_MO hown hK hP 0 rfl rfl 20 (by decide) (hts _ (List.mem_cons_of_mem _ kw3_207)) (fun _ h9 => h9) rfl dMO_side_14 ?_
    refine lv_bipush (v := (16 : Int32)) hx hb dMO_side_17 (by decide) ?_
    refine lv_iload_n hx hb dMO_side_19 rfl (lv_at hl 2 rfl) ?_
    refine lv_imul hx hb dMO_side_20 ?_
    refine lv_iload_n hx hb dMO_side_21 rfl (lv_at hl 1 rfl) ?_
    refine lv_iadd hx hb dMO_side_22 ?_
    refine ip_iald hx hb hK hP 2 0 rfl rfl dMO_side_23 hf (fun z2 hf => ?_)
    refine ip_iald hx hb hK hP 1 0 rfl rfl dMO_side_24 hf (fun z3 hf => ?_)
    refine lv_goto (tgt := 29) hx hb dMO_side_25 rfl ?_
    cases hf
    exact hret H locs 29 ls _ dMO_side_29 rfl hP hD hS
set_option maxHeartbeats 4000000 in
set_option maxRecDepth 100000 in
theorem tMO_chance {l : Launch} {dC : Nat → ClassId} {dI : Nat → Nat → Nat} {cI cZ : ClassId} {ad : Nat → Nat} {ts : ip_TT} {v_MO_size : Int32} {v_MO_loaded : Int32} {v_MO_at : Int32} {v_MO_fault : Int32} {v_MO_hasGiven : Int32} {v_MO_hasPicture : Int32} {v_MO_range : Int32} {v_MO_value : Int32} {v_MO_leaves : Int32} {v_mchances : Nat → Int32} {p1 : Int32} {r0 : Int32}  (hf : fMO_chance v_MO_size v_MO_loaded v_MO_at v_MO_fault v_MO_hasGiven v_MO_hasPicture v_MO_range v_MO_value v_MO_leaves v_mchances p1 = some r0) : ip_Mi l yMO_chance wsMO_chance rmMO_chance (dC, dI) vwCl [(cI, .int), (cZ, .boolean)] ts [.ref (ad 0), .int p1] (wMO_chance ad cI cZ v_MO_size v_MO_loaded v_MO_at v_MO_fault v_MO_hasGiven v_MO_hasPicture v_MO_range v_MO_value v_MO_leaves v_mchances) (wMO_chance ad cI cZ v_MO_size v_MO_loaded v_MO_at v_MO_fault v_MO_hasGiven v_MO_hasPicture v_MO_range v_MO_value v_MO_leaves v_mchances) r0 := by
  refine ip_startI (cc := cMO_chance) (maxL := 2) (by decide) rfl (Nat.le_of_ble_eq_true rfl) ?_
  intro p e s m args below meth c Q A ls hx hb hml hts hown hK hP hD hS hA hZ hl hret
  replace hl : lv_has ls 2 [(0, .ref (ad 0)), (1, .int p1)] := hl
  unfold fMO_chance at hf
  suffices J0 : ∀ (ls : Array Slot) (H : Heap) (locs : List Loc), lv_has ls 2 [(0, .ref (ad 0)), (1, .int p1)] → va_P (dC, dI) vwCl (wMO_chance ad cI cZ v_MO_size v_MO_loaded v_MO_at v_MO_fault v_MO_hasGiven v_MO_hasPicture v_MO_range v_MO_value v_MO_leaves v_mchances) H → va_D A (wMO_chance ad cI cZ v_MO_size v_MO_loaded v_MO_at v_MO_fault v_MO_hasGiven v_MO_hasPicture v_MO_range v_MO_value v_MO_leaves v_mchances) → va_S A s.heap H locs → W p l e rmMO_chance s m args below meth c H locs 0 0 Q (F0 m 0 ls []) by exact J0 ls s.heap [] hl hP hD hS
  clear hP hD hS hl
  intro ls H locs hl hP hD hS
  refine lv_aload_n hx hb dMO_chance_0 rfl (lv_at hl 0 rfl) ?_
  refine va_get (D := (dC, dI)) (ci := 12) (v := .int v_MO_hasPicture) (C := kR_MO) (T := kT_MO) (N := 32) hx hb hts kin_MO hown hK hP 0 rfl rfl 9 (by decide) (hts _ (List.mem_cons_of_mem _ kw3_196)) (fun _ h9 => h9) rfl dMO_chance_1 ?_
  refine ip_if_eq (tgt := 26) hx hb dMO_chance_4 rfl hf (fun hf => ?_) (fun hf => ?_)
  · refine lv_iconst (v := (-1 : Int32)) hx hb dMO_chance_26 (by decide) ?_
    cases hf
    exact hret H locs 27 ls _ dMO_chance_27 rfl hP hD hS
  · refine lv_iload_n hx hb dMO_chance_7 rfl (lv_at hl 1 rfl) ?_
    refine ip_if_lt (tgt := 26) hx hb dMO_chance_8 rfl hf (fun hf => ?_) (fun hf => ?_)
    · refine lv_iconst (v := (-1 : Int32)) hx hb dMO_chance_26 (by decide) ?_
      cases hf
      exact hret H locs 27 ls _ dMO_chance_27 rfl hP hD hS
    · refine lv_iload_n hx hb dMO_chance_11 rfl (lv_at hl 1 rfl) ?_
      refine lv_bipush (v := (13 : Int32)) hx hb dMO_chance_12 (by decide) ?_
      refine ip_icmp_gt (tgt := 26) hx hb dMO_chance_14 rfl hf (fun hf => ?_) (fun hf => ?_)
      · refine lv_iconst (v := (-1 : Int32)) hx hb dMO_chance_26 (by decide) ?_
        cases hf
        exact hret H locs 27 ls _ dMO_chance_27 rfl hP hD hS
      · refine lv_aload_n hx hb dMO_chance_17 rfl (lv_at hl 0 rfl) ?_
        refine va_get (D := (dC, dI)) (ci := 12) (v := .ref (ad 5)) (C := kR_MO) (T := kT_MO) (N := 32) hx hb hts kin_MO hown hK hP 0 rfl rfl 12 (by decide) (hts _ (List.mem_cons_of_mem _ kw3_199)) (fun _ h9 => h9) rfl dMO_chance_18 ?_
        refine lv_iload_n hx hb dMO_chance_21 rfl (lv_at hl 1 rfl) ?_
        refine ip_iald hx hb hK hP 1 0 rfl rfl dMO_chance_22 hf (fun z1 hf => ?_)
        refine lv_goto (tgt := 27) hx hb dMO_chance_23 rfl ?_
        cases hf
        exact hret H locs 27 ls _ dMO_chance_27 rfl hP hD hS
set_option maxHeartbeats 4000000 in
set_option maxRecDepth 100000 in
theorem tMO_took {l : Launch} {dC : Nat → ClassId} {dI : Nat → Nat → Nat} {cI cZ : ClassId} {ad : Nat → Nat} {ts : ip_TT} {v_MO_size : Int32} {v_MO_loaded : Int32} {v_MO_at : Int32} {v_MO_fault : Int32} {v_MO_hasGiven : Int32} {v_MO_hasPicture : Int32} {v_MO_range : Int32} {v_MO_value : Int32} {v_MO_leaves : Int32} {v_mcounts : Nat → Int32} {p1 : Int32} {r0 : Int32}  (hf : fMO_took v_MO_size v_MO_loaded v_MO_at v_MO_fault v_MO_hasGiven v_MO_hasPicture v_MO_range v_MO_value v_MO_leaves v_mcounts p1 = some r0) : ip_Mi l yMO_took wsMO_took rmMO_took (dC, dI) vwCl [(cI, .int), (cZ, .boolean)] ts [.ref (ad 0), .int p1] (wMO_took ad cI cZ v_MO_size v_MO_loaded v_MO_at v_MO_fault v_MO_hasGiven v_MO_hasPicture v_MO_range v_MO_value v_MO_leaves v_mcounts) (wMO_took ad cI cZ v_MO_size v_MO_loaded v_MO_at v_MO_fault v_MO_hasGiven v_MO_hasPicture v_MO_range v_MO_value v_MO_leaves v_mcounts) r0 := by
  refine ip_startI (cc := cMO_took) (maxL := 2) (by decide) rfl (Nat.le_of_ble_eq_true rfl) ?_
  intro p e s m args below meth c Q A ls hx hb hml hts hown hK hP hD hS hA hZ hl hret
  replace hl : lv_has ls 2 [(0, .ref (ad 0)), (1, .int p1)] := hl
  unfold fMO_took at hf
  suffices J0 : ∀ (ls : Array Slot) (H : Heap) (locs : List Loc), lv_has ls 2 [(0, .ref (ad 0)), (1, .int p1)] → va_P (dC, dI) vwCl (wMO_took ad cI cZ v_MO_size v_MO_loaded v_MO_at v_MO_fault v_MO_hasGiven v_MO_hasPicture v_MO_range v_MO_value v_MO_leaves v_mcounts) H → va_D A (wMO_took ad cI cZ v_MO_size v_MO_loaded v_MO_at v_MO_fault v_MO_hasGiven v_MO_hasPicture v_MO_range v_MO_value v_MO_leaves v_mcounts) → va_S A s.heap H locs → W p l e rmMO_took s m args below meth c H locs 0 0 Q (F0 m 0 ls []) by exact J0 ls s.heap [] hl hP hD hS
  clear hP hD hS hl
  intro ls H locs hl hP hD hS
  refine lv_aload_n hx hb dMO_took_0 rfl (lv_at hl 0 rfl) ?_
  refine va_get (D := (dC, dI)) (ci := 12) (v := .int v_MO_hasPicture) (C := kR_MO) (T := kT_MO) (N := 32) hx hb hts kin_MO hown hK hP 0 rfl rfl 9 (by decide) (hts _ (List.mem_cons_of_mem _ kw3_196)) (fun _ h9 => h9) rfl dMO_took_1 ?_
  refine ip_if_eq (tgt := 25) hx hb dMO_took_4 rfl hf (fun hf => ?_) (fun hf => ?_)
  · refine lv_iconst (v := (-1 : Int32)) hx hb dMO_took_25 (by decide) ?_
    cases hf
    exact hret H locs 26 ls _ dMO_took_26 rfl hP hD hS
  · refine lv_iload_n hx hb dMO_took_7 rfl (lv_at hl 1 rfl) ?_
    refine ip_if_lt (tgt := 25) hx hb dMO_took_8 rfl hf (fun hf => ?_) (fun hf => ?_)
    · refine lv_iconst (v := (-1 : Int32)) hx hb dMO_took_25 (by decide) ?_
      cases hf
      exact hret H locs 26 ls _ dMO_took_26 rfl hP hD hS
    · refine lv_iload_n hx hb dMO_took_11 rfl (lv_at hl 1 rfl) ?_
      refine lv_iconst (v := (2 : Int32)) hx hb dMO_took_12 (by decide) ?_
      refine ip_icmp_gt (tgt := 25) hx hb dMO_took_13 rfl hf (fun hf => ?_) (fun hf => ?_)
      · refine lv_iconst (v := (-1 : Int32)) hx hb dMO_took_25 (by decide) ?_
        cases hf
        exact hret H locs 26 ls _ dMO_took_26 rfl hP hD hS
      · refine lv_aload_n hx hb dMO_took_16 rfl (lv_at hl 0 rfl) ?_
        refine va_get (D := (dC, dI)) (ci := 12) (v := .ref (ad 6)) (C := kR_MO) (T := kT_MO) (N := 32) hx hb hts kin_MO hown hK hP 0 rfl rfl 13 (by decide) (hts _ (List.mem_cons_of_mem _ kw3_200)) (fun _ h9 => h9) rfl dMO_took_17 ?_
        refine lv_iload_n hx hb dMO_took_20 rfl (lv_at hl 1 rfl) ?_
        refine ip_iald hx hb hK hP 1 0 rfl rfl dMO_took_21 hf (fun z1 hf => ?_)
        refine lv_goto (tgt := 26) hx hb dMO_took_22 rfl ?_
        cases hf
        exact hret H locs 26 ls _ dMO_took_26 rfl hP hD hS
