set_option maxHeartbeats 4000000 in
set_option maxRecDepth 100000 in
theorem tMO_shift {l : Launch} {dC : Nat → ClassId} {dI : Nat → Nat → Nat} {cI cZ : ClassId} {ad : Nat → Nat} {ts : ip_TT} {v_MO_size : Int32} {v_MO_loaded : Int32} {v_MO_at : Int32} {v_MO_fault : Int32} {v_MO_hasGiven : Int32} {v_MO_hasPicture : Int32} {v_MO_range : Int32} {v_MO_value : Int32} {v_MO_leaves : Int32} {v_mload : Nat → Int32} {v_mcounts : Nat → Int32}  {nv_MO_at : Int32} {nv_MO_value : Int32} {nv_mcounts : Nat → Int32} (hf : fMO_shift v_MO_size v_MO_loaded v_MO_at v_MO_fault v_MO_hasGiven v_MO_hasPicture v_MO_range v_MO_value v_MO_leaves v_mload v_mcounts = some (nv_MO_at, nv_MO_value, nv_mcounts)) : ip_Mv l yMO_shift wsMO_shift rmMO_shift (dC, dI) vwCl [(cI, .int), (cZ, .boolean)] ts [.ref (ad 0)] (wMO_shift ad cI cZ v_MO_size v_MO_loaded v_MO_at v_MO_fault v_MO_hasGiven v_MO_hasPicture v_MO_range v_MO_value v_MO_leaves v_mload v_mcounts) (wMO_shift ad cI cZ v_MO_size v_MO_loaded nv_MO_at v_MO_fault v_MO_hasGiven v_MO_hasPicture v_MO_range nv_MO_value v_MO_leaves v_mload nv_mcounts) := by
  refine ip_startV (cc := cMO_shift) (maxL := 1) (by decide) rfl (Nat.le_of_ble_eq_true rfl) ?_
  intro p e s m args below meth c Q A ls hx hb hml hts hown hK hP hD hS hA hZ hl hret
  replace hl : lv_has ls 1 [(0, .ref (ad 0))] := hl
  unfold fMO_shift at hf
  suffices J0 : ∀ (ls : Array Slot) (H : Heap) (locs : List Loc), lv_has ls 1 [(0, .ref (ad 0))] → va_P (dC, dI) vwCl (wMO_shift ad cI cZ v_MO_size v_MO_loaded v_MO_at v_MO_fault v_MO_hasGiven v_MO_hasPicture v_MO_range v_MO_value v_MO_leaves v_mload v_mcounts) H → va_D A (wMO_shift ad cI cZ v_MO_size v_MO_loaded v_MO_at v_MO_fault v_MO_hasGiven v_MO_hasPicture v_MO_range v_MO_value v_MO_leaves v_mload v_mcounts) → va_S A s.heap H locs → W p l e rmMO_shift s m args below meth c H locs 0 0 Q (F0 m 0 ls []) by exact J0 ls s.heap [] hl hP hD hS
  clear hP hD hS hl
  intro ls H locs hl hP hD hS
  refine lv_aload_n hx hb dMO_shift_0 rfl (lv_at hl 0 rfl) ?_
  refine lv_iconst (v := (2 : Int32)) hx hb dMO_shift_1 (by decide) ?_
  refine lv_aload_n hx hb dMO_shift_2 rfl (lv_at hl 0 rfl) ?_
  refine va_get (D := (dC, dI)) (ci := 12) (v := .int v_MO_value) (C := kR_MO) (T := kT_MO) (N := 32) hx hb hts kin_MO hown hK hP 0 rfl rfl 11 (by decide) (hts _ (List.mem_cons_of_mem _ kw3_198)) (fun _ h9 => h9) rfl dMO_shift_3 ?_
  refine lv_imul hx hb dMO_shift_6 ?_
  refine lv_aload_n hx hb dMO_shift_7 rfl (lv_at hl 0 rfl) ?_
  obtain ⟨z1, z2, hc, hf⟩ := ip_b2_e hf
  refine ip_calli (va_runV (As := []) (rest := [.int ((2 : Int32) * v_MO_value), .ref (ad 0)]) ⟨hx, hb, hml, hown, hts⟩ (tMO_bit (l := l) (dC := dC) (dI := dI) (ad := ad) (cI := cI) (ts := ts) (cZ := cZ) hc H.size) (cwV 0 hts (ip_gdV (own := kR_MO) (idx := 114) (C := kR_MO) (y := yMO_bit) kw4_87 kw4_89 kws_41 kw1_13 kw4_90) rfl rfl rfl (by decide +kernel) ⟨Nat.le_of_ble_eq_true rfl, Nat.le_of_ble_eq_true rfl⟩) (ip_preV hK hP hD hS hA hZ [0, 1] rfl rfl (ci := 12) (q0 := 0) rfl rfl) rfl rfl hl.1 rfl (lv_room (Nat.le_of_ble_eq_true rfl)) dMO_shift_8 ⟨Nat.le_of_ble_eq_true rfl, Nat.le_of_ble_eq_true rfl⟩) hP hD hS hA [0, 1] [2] [1, 2, 0] (wMO_shift ad cI cZ v_MO_size v_MO_loaded z2 v_MO_fault v_MO_hasGiven v_MO_hasPicture v_MO_range v_MO_value v_MO_leaves v_mload v_mcounts) rfl rfl rfl (by decide) rfl rfl (fun H locs hP hD hS => ?_)
  clear hc
  refine lv_iadd hx hb dMO_shift_11 ?_
  refine ip_top hf (fun z3 hf => ?_)
  refine va_put (D := (dC, dI)) (ci := 12) (v := .int z3) (ty := .int) (C := kR_MO) (T := kT_MO) (N := 32) hx hb hts kin_MO kty_MO kto_MO knm_MO hown hK hP hD hS 0 rfl rfl 11 (by decide) (hts _ (List.mem_cons_of_mem _ kw3_198)) (fun _ h9 => h9) rfl (by decide +kernel) rfl rfl (Nat.le_of_ble_eq_true rfl) dMO_shift_12 (fun H locs hP hD hS => ?_)
  replace hP : va_P (dC, dI) vwCl (wMO_shift ad cI cZ v_MO_size v_MO_loaded z2 v_MO_fault v_MO_hasGiven v_MO_hasPicture v_MO_range z3 v_MO_leaves v_mload v_mcounts) H := hP
  replace hD : va_D A (wMO_shift ad cI cZ v_MO_size v_MO_loaded z2 v_MO_fault v_MO_hasGiven v_MO_hasPicture v_MO_range z3 v_MO_leaves v_mload v_mcounts) := hD
  refine lv_aload_n hx hb dMO_shift_15 rfl (lv_at hl 0 rfl) ?_
  refine va_get (D := (dC, dI)) (ci := 12) (v := .ref (ad 6)) (C := kR_MO) (T := kT_MO) (N := 32) hx hb hts kin_MO hown hK hP 0 rfl rfl 13 (by decide) (hts _ (List.mem_cons_of_mem _ kw3_200)) (fun _ h9 => h9) rfl dMO_shift_16 ?_
  refine lv_iconst (v := (2 : Int32)) hx hb dMO_shift_19 (by decide) ?_
  refine lv_dup2_11 hx hb dMO_shift_20 rfl rfl ?_
  refine ip_iald hx hb hK hP 2 0 rfl rfl dMO_shift_21 hf (fun z4 hf => ?_)
  refine lv_iconst (v := (1 : Int32)) hx hb dMO_shift_22 (by decide) ?_
  refine lv_iadd hx hb dMO_shift_23 ?_
  refine ip_iast hx hb hK hP hD hS 2 0 rfl rfl (fun g5 => (wMO_shift ad cI cZ v_MO_size v_MO_loaded z2 v_MO_fault v_MO_hasGiven v_MO_hasPicture v_MO_range z3 v_MO_leaves v_mload g5)) (fun _ => rfl) dMO_shift_24 hf (fun g5 H locs hf hP hD hS => ?_)
  cases hf
  exact hret H locs 25 ls dMO_shift_25 hP hD hS
set_option maxHeartbeats 4000000 in
set_option maxRecDepth 100000 in
theorem tMO_bin {l : Launch} {dC : Nat → ClassId} {dI : Nat → Nat → Nat} {cI cZ : ClassId} {ad : Nat → Nat} {ts : ip_TT} {v_MO_size : Int32} {v_MO_loaded : Int32} {v_MO_at : Int32} {v_MO_fault : Int32} {v_MO_hasGiven : Int32} {v_MO_hasPicture : Int32} {v_MO_range : Int32} {v_MO_value : Int32} {v_MO_leaves : Int32} {v_mload : Nat → Int32} {v_mchances : Nat → Int32} {v_mcounts : Nat → Int32} {p1 : Int32} {r0 : Int32} {nv_MO_at : Int32} {nv_MO_range : Int32} {nv_MO_value : Int32} {nv_mchances : Nat → Int32} {nv_mcounts : Nat → Int32} (hf : fMO_bin v_MO_size v_MO_loaded v_MO_at v_MO_fault v_MO_hasGiven v_MO_hasPicture v_MO_range v_MO_value v_MO_leaves v_mload v_mchances v_mcounts p1 = some (r0, nv_MO_at, nv_MO_range, nv_MO_value, nv_mchances, nv_mcounts)) : ip_Mi l yMO_bin wsMO_bin rmMO_bin (dC, dI) vwCl [(cI, .int), (cZ, .boolean)] ts [.ref (ad 0), .int p1] (wMO_bin ad cI cZ v_MO_size v_MO_loaded v_MO_at v_MO_fault v_MO_hasGiven v_MO_hasPicture v_MO_range v_MO_value v_MO_leaves v_mload v_mchances v_mcounts) (wMO_bin ad cI cZ v_MO_size v_MO_loaded nv_MO_at v_MO_fault v_MO_hasGiven v_MO_hasPicture nv_MO_range nv_MO_value v_MO_leaves v_mload nv_mchances nv_mcounts) r0 := by
  refine ip_startI (cc := cMO_bin) (maxL := 7) (by decide) rfl (Nat.le_of_ble_eq_true rfl) ?_
  intro p e s m args below meth c Q A ls hx hb hml hts hown hK hP hD hS hA hZ hl hret
  replace hl : lv_has ls 7 [(0, .ref (ad 0)), (1, .int p1)] := hl
  unfold fMO_bin at hf
  suffices J0 : ∀ (ls : Array Slot) (H : Heap) (locs : List Loc), lv_has ls 7 [(0, .ref (ad 0)), (1, .int p1)] → va_P (dC, dI) vwCl (wMO_bin ad cI cZ v_MO_size v_MO_loaded v_MO_at v_MO_fault v_MO_hasGiven v_MO_hasPicture v_MO_range v_MO_value v_MO_leaves v_mload v_mchances v_mcounts) H → va_D A (wMO_bin ad cI cZ v_MO_size v_MO_loaded v_MO_at v_MO_fault v_MO_hasGiven v_MO_hasPicture v_MO_range v_MO_value v_MO_leaves v_mload v_mchances v_mcounts) → va_S A s.heap H locs → W p l e rmMO_bin s m args below meth c H locs 0 0 Q (F0 m 0 ls []) by exact J0 ls s.heap [] hl hP hD hS
  clear hP hD hS hl
  intro ls H locs hl hP hD hS
  refine lv_aload_n hx hb dMO_bin_0 rfl (lv_at hl 0 rfl) ?_
  refine va_get (D := (dC, dI)) (ci := 12) (v := .ref (ad 6)) (C := kR_MO) (T := kT_MO) (N := 32) hx hb hts kin_MO hown hK hP 0 rfl rfl 13 (by decide) (hts _ (List.mem_cons_of_mem _ kw3_200)) (fun _ h9 => h9) rfl dMO_bin_1 ?_
  refine lv_iconst (v := (0 : Int32)) hx hb dMO_bin_4 (by decide) ?_
  refine lv_dup2_11 hx hb dMO_bin_5 rfl rfl ?_
  refine ip_iald hx hb hK hP 3 0 rfl rfl dMO_bin_6 hf (fun z1 hf => ?_)
  refine lv_iconst (v := (1 : Int32)) hx hb dMO_bin_7 (by decide) ?_
  refine lv_iadd hx hb dMO_bin_8 ?_
  refine ip_iast hx hb hK hP hD hS 3 0 rfl rfl (fun g2 => (wMO_bin ad cI cZ v_MO_size v_MO_loaded v_MO_at v_MO_fault v_MO_hasGiven v_MO_hasPicture v_MO_range v_MO_value v_MO_leaves v_mload v_mchances g2)) (fun _ => rfl) dMO_bin_9 hf (fun g2 H locs hf hP hD hS => ?_)
  refine lv_aload_n hx hb dMO_bin_10 rfl (lv_at hl 0 rfl) ?_
  refine va_get (D := (dC, dI)) (ci := 12) (v := .ref (ad 5)) (C := kR_MO) (T := kT_MO) (N := 32) hx hb hts kin_MO hown hK hP 0 rfl rfl 12 (by decide) (hts _ (List.mem_cons_of_mem _ kw3_199)) (fun _ h9 => h9) rfl dMO_bin_11 ?_
  refine lv_iload_n hx hb dMO_bin_14 rfl (lv_at hl 1 rfl) ?_
  refine ip_iald hx hb hK hP 2 0 rfl rfl dMO_bin_15 hf (fun z3 hf => ?_)
  refine lv_istore_n (lv' := [(2, .int z3), (0, .ref (ad 0)), (1, .int p1)]) hx hb dMO_bin_16 rfl hl (by decide) rfl (fun ls hl => ?_)
  refine lv_iload_n hx hb dMO_bin_17 rfl (lv_at hl 0 rfl) ?_
  refine lv_sipush (v := (512 : Int32)) hx hb dMO_bin_18 (by decide) ?_
  obtain ⟨z4, hh, hf⟩ := ip_b1_e hf
  suffices J29 : ∀ (ls : Array Slot) (H : Heap) (locs : List Loc), lv_has ls 7 [(0, .ref (ad 0)), (1, .int p1), (2, .int z3)] → va_P (dC, dI) vwCl (wMO_bin ad cI cZ v_MO_size v_MO_loaded v_MO_at v_MO_fault v_MO_hasGiven v_MO_hasPicture v_MO_range v_MO_value v_MO_leaves v_mload v_mchances g2) H → va_D A (wMO_bin ad cI cZ v_MO_size v_MO_loaded v_MO_at v_MO_fault v_MO_hasGiven v_MO_hasPicture v_MO_range v_MO_value v_MO_leaves v_mload v_mchances g2) → va_S A s.heap H locs → W p l e rmMO_bin s m args below meth c H locs 0 0 Q (F0 m 29 ls [.int z4]) by
    replace hf := hh
    refine ip_icmp_lt (tgt := 28) hx hb dMO_bin_21 rfl hf (fun hf => ?_) (fun hf => ?_)
    · refine lv_iconst (v := (0 : Int32)) hx hb dMO_bin_28 (by decide) ?_
      replace hl := lv_sub hl (l' := [(0, .ref (ad 0)), (1, .int p1), (2, .int z3)]) [1, 2, 0] rfl
      cases hf
      exact J29 ls H locs hl hP hD hS
    · refine lv_iconst (v := (1 : Int32)) hx hb dMO_bin_24 (by decide) ?_
      refine lv_goto (tgt := 29) hx hb dMO_bin_25 rfl ?_
      replace hl := lv_sub hl (l' := [(0, .ref (ad 0)), (1, .int p1), (2, .int z3)]) [1, 2, 0] rfl
      cases hf
      exact J29 ls H locs hl hP hD hS
  intro ls H locs hl hP hD hS
  clear hh
  refine lv_istore_n (lv' := [(3, .int z4), (0, .ref (ad 0)), (1, .int p1), (2, .int z3)]) hx hb dMO_bin_29 rfl hl (by decide) rfl (fun ls hl => ?_)
  refine lv_aload_n hx hb dMO_bin_30 rfl (lv_at hl 1 rfl) ?_
  refine va_get (D := (dC, dI)) (ci := 12) (v := .int v_MO_range) (C := kR_MO) (T := kT_MO) (N := 32) hx hb hts kin_MO hown hK hP 0 rfl rfl 10 (by decide) (hts _ (List.mem_cons_of_mem _ kw3_197)) (fun _ h9 => h9) rfl dMO_bin_31 ?_
  refine lv_iconst (v := (5 : Int32)) hx hb dMO_bin_34 (by decide) ?_
  refine lv_ishr hx hb dMO_bin_35 ?_
  refine lv_iload_n hx hb dMO_bin_36 rfl (lv_at hl 0 rfl) ?_
  refine lv_iconst (v := (1 : Int32)) hx hb dMO_bin_37 (by decide) ?_
  obtain ⟨z5, hh, hf⟩ := ip_b1_e hf
  suffices J50 : ∀ (ls : Array Slot) (H : Heap) (locs : List Loc), lv_has ls 7 [(0, .ref (ad 0)), (1, .int p1), (2, .int z3), (3, .int z4)] → va_P (dC, dI) vwCl (wMO_bin ad cI cZ v_MO_size v_MO_loaded v_MO_at v_MO_fault v_MO_hasGiven v_MO_hasPicture v_MO_range v_MO_value v_MO_leaves v_mload v_mchances g2) H → va_D A (wMO_bin ad cI cZ v_MO_size v_MO_loaded v_MO_at v_MO_fault v_MO_hasGiven v_MO_hasPicture v_MO_range v_MO_value v_MO_leaves v_mload v_mchances g2) → va_S A s.heap H locs → W p l e rmMO_bin s m args below meth c H locs 0 0 Q (F0 m 50 ls [.int z5, .int (v_MO_range >>> ((5 : Int32) &&& 31))]) by
    replace hf := hh
    refine ip_icmp_ne (tgt := 49) hx hb dMO_bin_38 rfl hf (fun hf => ?_) (fun hf => ?_)
    · refine lv_iload_n hx hb dMO_bin_49 rfl (lv_at hl 3 rfl) ?_
      replace hl := lv_sub hl (l' := [(0, .ref (ad 0)), (1, .int p1), (2, .int z3), (3, .int z4)]) [1, 2, 3, 0] rfl
      cases hf
      exact J50 ls H locs hl hP hD hS
    · refine lv_sipush (v := (1023 : Int32)) hx hb dMO_bin_41 (by decide) ?_
      refine lv_iload_n hx hb dMO_bin_44 rfl (lv_at hl 3 rfl) ?_
      refine lv_isub hx hb dMO_bin_45 ?_
      refine lv_goto (tgt := 50) hx hb dMO_bin_46 rfl ?_
      replace hl := lv_sub hl (l' := [(0, .ref (ad 0)), (1, .int p1), (2, .int z3), (3, .int z4)]) [1, 2, 3, 0] rfl
      cases hf
      exact J50 ls H locs hl hP hD hS
  intro ls H locs hl hP hD hS
  clear hh
  refine lv_iconst (v := (5 : Int32)) hx hb dMO_bin_50 (by decide) ?_
  refine lv_ishr hx hb dMO_bin_51 ?_
  refine lv_imul hx hb dMO_bin_52 ?_
  refine lv_iconst (v := (1 : Int32)) hx hb dMO_bin_53 (by decide) ?_
  refine lv_ishr hx hb dMO_bin_54 ?_
  refine lv_iconst (v := (4 : Int32)) hx hb dMO_bin_55 (by decide) ?_
  refine lv_iadd hx hb dMO_bin_56 ?_
  refine ip_top hf (fun z6 hf => ?_)
  refine lv_istore (lv' := [(4, .int z6), (0, .ref (ad 0)), (1, .int p1), (2, .int z3), (3, .int z4)]) hx hb dMO_bin_57 hl (by decide) rfl (fun ls hl => ?_)
  refine lv_aload_n hx hb dMO_bin_59 rfl (lv_at hl 1 rfl) ?_
  refine lv_dup hx hb dMO_bin_60 rfl ?_
  refine va_get (D := (dC, dI)) (ci := 12) (v := .int v_MO_range) (C := kR_MO) (T := kT_MO) (N := 32) hx hb hts kin_MO hown hK hP 0 rfl rfl 10 (by decide) (hts _ (List.mem_cons_of_mem _ kw3_197)) (fun _ h9 => h9) rfl dMO_bin_61 ?_
  refine lv_iload hx hb dMO_bin_64 (lv_at hl 0 rfl) ?_
  refine lv_isub hx hb dMO_bin_66 ?_
  refine ip_top hf (fun z7 hf => ?_)
  refine va_put (D := (dC, dI)) (ci := 12) (v := .int z7) (ty := .int) (C := kR_MO) (T := kT_MO) (N := 32) hx hb hts kin_MO kty_MO kto_MO knm_MO hown hK hP hD hS 0 rfl rfl 10 (by decide) (hts _ (List.mem_cons_of_mem _ kw3_197)) (fun _ h9 => h9) rfl (by decide +kernel) rfl rfl (Nat.le_of_ble_eq_true rfl) dMO_bin_67 (fun H locs hP hD hS => ?_)
  replace hP : va_P (dC, dI) vwCl (wMO_bin ad cI cZ v_MO_size v_MO_loaded v_MO_at v_MO_fault v_MO_hasGiven v_MO_hasPicture z7 v_MO_value v_MO_leaves v_mload v_mchances g2) H := hP
  replace hD : va_D A (wMO_bin ad cI cZ v_MO_size v_MO_loaded v_MO_at v_MO_fault v_MO_hasGiven v_MO_hasPicture z7 v_MO_value v_MO_leaves v_mload v_mchances g2) := hD
  refine lv_iload_n hx hb dMO_bin_70 rfl (lv_at hl 4 rfl) ?_
  refine lv_istore (lv' := [(5, .int z4), (4, .int z6), (0, .ref (ad 0)), (1, .int p1), (2, .int z3), (3, .int z4)]) hx hb dMO_bin_71 hl (by decide) rfl (fun ls hl => ?_)
  refine lv_aload_n hx hb dMO_bin_73 rfl (lv_at hl 2 rfl) ?_
  refine va_get (D := (dC, dI)) (ci := 12) (v := .int v_MO_value) (C := kR_MO) (T := kT_MO) (N := 32) hx hb hts kin_MO hown hK hP 0 rfl rfl 11 (by decide) (hts _ (List.mem_cons_of_mem _ kw3_198)) (fun _ h9 => h9) rfl dMO_bin_74 ?_
  refine lv_aload_n hx hb dMO_bin_77 rfl (lv_at hl 2 rfl) ?_
  refine va_get (D := (dC, dI)) (ci := 12) (v := .int z7) (C := kR_MO) (T := kT_MO) (N := 32) hx hb hts kin_MO hown hK hP 0 rfl rfl 10 (by decide) (hts _ (List.mem_cons_of_mem _ kw3_197)) (fun _ h9 => h9) rfl dMO_bin_78 ?_
  obtain ⟨z8, z9, z10, hh, hf⟩ := ip_b3_e hf
  suffices J108 : ∀ (ls : Array Slot) (H : Heap) (locs : List Loc), lv_has ls 7 [(0, .ref (ad 0)), (1, .int p1), (2, .int z3), (5, .int z8)] → va_P (dC, dI) vwCl (wMO_bin ad cI cZ v_MO_size v_MO_loaded v_MO_at v_MO_fault v_MO_hasGiven v_MO_hasPicture z9 z10 v_MO_leaves v_mload v_mchances g2) H → va_D A (wMO_bin ad cI cZ v_MO_size v_MO_loaded v_MO_at v_MO_fault v_MO_hasGiven v_MO_hasPicture z9 z10 v_MO_leaves v_mload v_mchances g2) → va_S A s.heap H locs → W p l e rmMO_bin s m args below meth c H locs 0 0 Q (F0 m 108 ls []) by
    replace hf := hh
    refine ip_icmp_lt (tgt := 108) hx hb dMO_bin_81 rfl hf (fun hf => ?_) (fun hf => ?_)
    · replace hl := lv_sub hl (l' := [(0, .ref (ad 0)), (1, .int p1), (2, .int z3), (5, .int z4)]) [2, 3, 4, 0] rfl
      cases hf
      exact J108 ls H locs hl hP hD hS
    · refine lv_aload_n hx hb dMO_bin_84 rfl (lv_at hl 2 rfl) ?_
      refine lv_dup hx hb dMO_bin_85 rfl ?_
      refine va_get (D := (dC, dI)) (ci := 12) (v := .int v_MO_value) (C := kR_MO) (T := kT_MO) (N := 32) hx hb hts kin_MO hown hK hP 0 rfl rfl 11 (by decide) (hts _ (List.mem_cons_of_mem _ kw3_198)) (fun _ h9 => h9) rfl dMO_bin_86 ?_
      refine lv_aload_n hx hb dMO_bin_89 rfl (lv_at hl 2 rfl) ?_
      refine va_get (D := (dC, dI)) (ci := 12) (v := .int z7) (C := kR_MO) (T := kT_MO) (N := 32) hx hb hts kin_MO hown hK hP 0 rfl rfl 10 (by decide) (hts _ (List.mem_cons_of_mem _ kw3_197)) (fun _ h9 => h9) rfl dMO_bin_90 ?_
      refine lv_isub hx hb dMO_bin_93 ?_
      refine ip_top hf (fun z11 hf => ?_)
      refine va_put (D := (dC, dI)) (ci := 12) (v := .int z11) (ty := .int) (C := kR_MO) (T := kT_MO) (N := 32) hx hb hts kin_MO kty_MO kto_MO knm_MO hown hK hP hD hS 0 rfl rfl 11 (by decide) (hts _ (List.mem_cons_of_mem _ kw3_198)) (fun _ h9 => h9) rfl (by decide +kernel) rfl rfl (Nat.le_of_ble_eq_true rfl) dMO_bin_94 (fun H locs hP hD hS => ?_)
      replace hP : va_P (dC, dI) vwCl (wMO_bin ad cI cZ v_MO_size v_MO_loaded v_MO_at v_MO_fault v_MO_hasGiven v_MO_hasPicture z7 z11 v_MO_leaves v_mload v_mchances g2) H := hP
      replace hD : va_D A (wMO_bin ad cI cZ v_MO_size v_MO_loaded v_MO_at v_MO_fault v_MO_hasGiven v_MO_hasPicture z7 z11 v_MO_leaves v_mload v_mchances g2) := hD
      refine lv_aload_n hx hb dMO_bin_97 rfl (lv_at hl 2 rfl) ?_
      refine lv_iload hx hb dMO_bin_98 (lv_at hl 1 rfl) ?_
      refine va_put (D := (dC, dI)) (ci := 12) (v := .int z6) (ty := .int) (C := kR_MO) (T := kT_MO) (N := 32) hx hb hts kin_MO kty_MO kto_MO knm_MO hown hK hP hD hS 0 rfl rfl 10 (by decide) (hts _ (List.mem_cons_of_mem _ kw3_197)) (fun _ h9 => h9) rfl (by decide +kernel) rfl rfl (Nat.le_of_ble_eq_true rfl) dMO_bin_100 (fun H locs hP hD hS => ?_)
      replace hP : va_P (dC, dI) vwCl (wMO_bin ad cI cZ v_MO_size v_MO_loaded v_MO_at v_MO_fault v_MO_hasGiven v_MO_hasPicture z6 z11 v_MO_leaves v_mload v_mchances g2) H := hP
      replace hD : va_D A (wMO_bin ad cI cZ v_MO_size v_MO_loaded v_MO_at v_MO_fault v_MO_hasGiven v_MO_hasPicture z6 z11 v_MO_leaves v_mload v_mchances g2) := hD
      refine lv_iconst (v := (1 : Int32)) hx hb dMO_bin_103 (by decide) ?_
      refine lv_iload_n hx hb dMO_bin_104 rfl (lv_at hl 5 rfl) ?_
      refine lv_isub hx hb dMO_bin_105 ?_
      refine ip_top hf (fun z12 hf => ?_)
      refine lv_istore (lv' := [(5, .int z12), (4, .int z6), (0, .ref (ad 0)), (1, .int p1), (2, .int z3), (3, .int z4)]) hx hb dMO_bin_106 hl (by decide) rfl (fun ls hl => ?_)
      replace hl := lv_sub hl (l' := [(0, .ref (ad 0)), (1, .int p1), (2, .int z3), (5, .int z12)]) [2, 3, 4, 0] rfl
      cases hf
      exact J108 ls H locs hl hP hD hS
  intro ls H locs hl hP hD hS
  clear hh
  refine lv_aload_n hx hb dMO_bin_108 rfl (lv_at hl 0 rfl) ?_
  refine va_get (D := (dC, dI)) (ci := 12) (v := .ref (ad 5)) (C := kR_MO) (T := kT_MO) (N := 32) hx hb hts kin_MO hown hK hP 0 rfl rfl 12 (by decide) (hts _ (List.mem_cons_of_mem _ kw3_199)) (fun _ h9 => h9) rfl dMO_bin_109 ?_
  refine lv_iload_n hx hb dMO_bin_112 rfl (lv_at hl 1 rfl) ?_
  refine lv_iload hx hb dMO_bin_113 (lv_at hl 3 rfl) ?_
  refine lv_iconst (v := (1 : Int32)) hx hb dMO_bin_115 (by decide) ?_
  obtain ⟨z13, hh, hf⟩ := ip_b1_e hf
  suffices J136 : ∀ (ls : Array Slot) (H : Heap) (locs : List Loc), lv_has ls 7 [(0, .ref (ad 0)), (5, .int z8)] → va_P (dC, dI) vwCl (wMO_bin ad cI cZ v_MO_size v_MO_loaded v_MO_at v_MO_fault v_MO_hasGiven v_MO_hasPicture z9 z10 v_MO_leaves v_mload v_mchances g2) H → va_D A (wMO_bin ad cI cZ v_MO_size v_MO_loaded v_MO_at v_MO_fault v_MO_hasGiven v_MO_hasPicture z9 z10 v_MO_leaves v_mload v_mchances g2) → va_S A s.heap H locs → W p l e rmMO_bin s m args below meth c H locs 0 0 Q (F0 m 136 ls [.int z13, .int p1, .ref (ad 5)]) by
    replace hf := hh
    refine ip_icmp_ne (tgt := 131) hx hb dMO_bin_116 rfl hf (fun hf => ?_) (fun hf => ?_)
    · refine lv_iload_n hx hb dMO_bin_131 rfl (lv_at hl 2 rfl) ?_
      refine lv_iload_n hx hb dMO_bin_132 rfl (lv_at hl 2 rfl) ?_
      refine lv_iconst (v := (4 : Int32)) hx hb dMO_bin_133 (by decide) ?_
      refine lv_ishr hx hb dMO_bin_134 ?_
      refine lv_isub hx hb dMO_bin_135 ?_
      replace hl := lv_sub hl (l' := [(0, .ref (ad 0)), (5, .int z8)]) [0, 3] rfl
      cases hf
      exact J136 ls H locs hl hP hD hS
    · refine lv_iload_n hx hb dMO_bin_119 rfl (lv_at hl 2 rfl) ?_
      refine lv_sipush (v := (1023 : Int32)) hx hb dMO_bin_120 (by decide) ?_
      refine lv_iload_n hx hb dMO_bin_123 rfl (lv_at hl 2 rfl) ?_
      refine lv_isub hx hb dMO_bin_124 ?_
      refine lv_iconst (v := (4 : Int32)) hx hb dMO_bin_125 (by decide) ?_
      refine lv_ishr hx hb dMO_bin_126 ?_
      refine lv_iadd hx hb dMO_bin_127 ?_
      refine lv_goto (tgt := 136) hx hb dMO_bin_128 rfl ?_
      replace hl := lv_sub hl (l' := [(0, .ref (ad 0)), (5, .int z8)]) [0, 3] rfl
      cases hf
      exact J136 ls H locs hl hP hD hS
  intro ls H locs hl hP hD hS
  clear hh
  refine ip_iast hx hb hK hP hD hS 2 0 rfl rfl (fun g14 => (wMO_bin ad cI cZ v_MO_size v_MO_loaded v_MO_at v_MO_fault v_MO_hasGiven v_MO_hasPicture z9 z10 v_MO_leaves v_mload g14 g2)) (fun _ => rfl) dMO_bin_136 hf (fun g14 H locs hf hP hD hS => ?_)
  refine lv_iconst (v := (0 : Int32)) hx hb dMO_bin_137 (by decide) ?_
  refine lv_istore (lv' := [(6, .int (0 : Int32)), (0, .ref (ad 0)), (5, .int z8)]) hx hb dMO_bin_138 hl (by decide) rfl (fun ls hl => ?_)
  replace hl := lv_sub hl (l' := [(0, .ref (ad 0)), (5, .int z8), (6, .int (0 : Int32))]) [1, 2, 0] rfl
  obtain ⟨x20, x21, x22, x23, y24, hL, hf⟩ := ip_b5_e hf
  suffices J177 : ∀ (ls : Array Slot) (H : Heap) (locs : List Loc), lv_has ls 7 [(5, .int z8)] → va_P (dC, dI) vwCl (wMO_bin ad cI cZ v_MO_size v_MO_loaded x21 v_MO_fault v_MO_hasGiven v_MO_hasPicture x22 x23 v_MO_leaves v_mload g14 y24) H → va_D A (wMO_bin ad cI cZ v_MO_size v_MO_loaded x21 v_MO_fault v_MO_hasGiven v_MO_hasPicture x22 x23 v_MO_leaves v_mload g14 y24) → va_S A s.heap H locs → W p l e rmMO_bin s m args below meth c H locs 0 0 Q (F0 m 177 ls []) by
    have L : ∀ (n : Nat) (z15 : Int32) (z16 : Int32) (z17 : Int32) (z18 : Int32) (g19 : Nat → Int32), ip_lp5 (fMO_bin_B140 v_MO_size v_MO_loaded v_MO_fault v_MO_hasGiven v_MO_hasPicture v_MO_leaves v_mload) n z15 z16 z17 z18 g19 = some (x20, x21, x22, x23, y24) → ∀ (ls : Array Slot) (H : Heap) (locs : List Loc), lv_has ls 7 [(0, .ref (ad 0)), (5, .int z8), (6, .int z15)] → va_P (dC, dI) vwCl (wMO_bin ad cI cZ v_MO_size v_MO_loaded z16 v_MO_fault v_MO_hasGiven v_MO_hasPicture z17 z18 v_MO_leaves v_mload g14 g19) H → va_D A (wMO_bin ad cI cZ v_MO_size v_MO_loaded z16 v_MO_fault v_MO_hasGiven v_MO_hasPicture z17 z18 v_MO_leaves v_mload g14 g19) → va_S A s.heap H locs → W p l e rmMO_bin s m args below meth c H locs 0 0 Q (F0 m 140 ls []) := by
      intro n
      induction n with
      | zero => intro z15 z16 z17 z18 g19 hL; exact (ip_lp5_0 hL).elim
      | succ n ih =>
        intro z15 z16 z17 z18 g19 hL ls H locs hl hP hD hS
        clear hf
        obtain ⟨r9, hf, hr140⟩ := ip_lp5_s hL
        clear hL
        unfold fMO_bin_B140 at hf
        refine lv_iload hx hb dMO_bin_140 (lv_at hl 2 rfl) ?_
        refine lv_bipush (v := (10 : Int32)) hx hb dMO_bin_142 (by decide) ?_
        refine ip_icmp_ge (tgt := 177) hx hb dMO_bin_144 rfl hf (fun hf => ?_) (fun hf => ?_)
        · have hx9 := ip_lp_x hr140 hf
          replace hl := lv_sub hl (l' := [(5, .int z8)]) [1] rfl
          cases hx9
          exact J177 ls H locs hl hP hD hS
        · refine lv_aload_n hx hb dMO_bin_147 rfl (lv_at hl 0 rfl) ?_
          refine va_get (D := (dC, dI)) (ci := 12) (v := .int z17) (C := kR_MO) (T := kT_MO) (N := 32) hx hb hts kin_MO hown hK hP 0 rfl rfl 10 (by decide) (hts _ (List.mem_cons_of_mem _ kw3_197)) (fun _ h9 => h9) rfl dMO_bin_148 ?_
          refine lv_sipush (v := (256 : Int32)) hx hb dMO_bin_151 (by decide) ?_
          refine ip_icmp_ge (tgt := 177) hx hb dMO_bin_154 rfl hf (fun hf => ?_) (fun hf => ?_)
          · have hx9 := ip_lp_x hr140 hf
            replace hl := lv_sub hl (l' := [(5, .int z8)]) [1] rfl
            cases hx9
            exact J177 ls H locs hl hP hD hS
          · refine lv_aload_n hx hb dMO_bin_157 rfl (lv_at hl 0 rfl) ?_
            refine lv_dup hx hb dMO_bin_158 rfl ?_
            refine va_get (D := (dC, dI)) (ci := 12) (v := .int z17) (C := kR_MO) (T := kT_MO) (N := 32) hx hb hts kin_MO hown hK hP 0 rfl rfl 10 (by decide) (hts _ (List.mem_cons_of_mem _ kw3_197)) (fun _ h9 => h9) rfl dMO_bin_159 ?_
            refine lv_iconst (v := (2 : Int32)) hx hb dMO_bin_162 (by decide) ?_
            refine lv_imul hx hb dMO_bin_163 ?_
            refine ip_top hf (fun z25 hf => ?_)
            refine va_put (D := (dC, dI)) (ci := 12) (v := .int z25) (ty := .int) (C := kR_MO) (T := kT_MO) (N := 32) hx hb hts kin_MO kty_MO kto_MO knm_MO hown hK hP hD hS 0 rfl rfl 10 (by decide) (hts _ (List.mem_cons_of_mem _ kw3_197)) (fun _ h9 => h9) rfl (by decide +kernel) rfl rfl (Nat.le_of_ble_eq_true rfl) dMO_bin_164 (fun H locs hP hD hS => ?_)
            replace hP : va_P (dC, dI) vwCl (wMO_bin ad cI cZ v_MO_size v_MO_loaded z16 v_MO_fault v_MO_hasGiven v_MO_hasPicture z25 z18 v_MO_leaves v_mload g14 g19) H := hP
            replace hD : va_D A (wMO_bin ad cI cZ v_MO_size v_MO_loaded z16 v_MO_fault v_MO_hasGiven v_MO_hasPicture z25 z18 v_MO_leaves v_mload g14 g19) := hD
            refine lv_aload_n hx hb dMO_bin_167 rfl (lv_at hl 0 rfl) ?_
            obtain ⟨z26, z27, g28, hc, hf⟩ := ip_b3_e hf
            refine ip_callv (va_runV (As := []) (rest := []) ⟨hx, hb, hml, hown, hts⟩ (tMO_shift (l := l) (dC := dC) (dI := dI) (ad := ad) (cI := cI) (ts := ts) (cZ := cZ) hc H.size) (cwV 0 hts (ip_gdV (own := kR_MO) (idx := 148) (C := kR_MO) (y := yMO_shift) kw4_103 kw4_105 kws_45 kw1_13 kw4_106) rfl rfl rfl (by decide +kernel) ⟨Nat.le_of_ble_eq_true rfl, Nat.le_of_ble_eq_true rfl⟩) (ip_preV hK hP hD hS hA hZ [0, 1, 3] rfl rfl (ci := 12) (q0 := 0) rfl rfl) rfl rfl hl.1 rfl (lv_room (Nat.le_of_ble_eq_true rfl)) dMO_bin_168 ⟨Nat.le_of_ble_eq_true rfl, Nat.le_of_ble_eq_true rfl⟩) hP hD hS hA [0, 1, 3] [2] [1, 2, 0, 3] (wMO_bin ad cI cZ v_MO_size v_MO_loaded z26 v_MO_fault v_MO_hasGiven v_MO_hasPicture z25 z27 v_MO_leaves v_mload g14 g28) rfl rfl rfl (by decide) rfl rfl (fun H locs hP hD hS => ?_)
            clear hc
            refine ip_iinc (k0 := 2) (v0 := (1 : Int32)) (lv1 := fun z29 => [(6, .int z29), (0, .ref (ad 0)), (5, .int z8)]) hx hb dMO_bin_171 hl rfl (by decide) (by decide) (fun _ => rfl) hf (fun z29 ls hf hl => ?_)
            refine lv_goto (tgt := 140) hx hb dMO_bin_174 rfl ?_
            replace hl := lv_sub hl (l' := [(0, .ref (ad 0)), (5, .int z8), (6, .int z29)]) [1, 2, 0] rfl
            exact ih _ _ _ _ _ (ip_lp5_l hr140 hf) ls H locs hl hP hD hS
    exact L 1000 _ _ _ _ _ hL ls H locs hl hP hD hS
  intro ls H locs hl hP hD hS
  clear hL
  refine lv_iload hx hb dMO_bin_177 (lv_at hl 0 rfl) ?_
  cases hf
  exact hret H locs 179 ls _ dMO_bin_179 rfl hP hD hS
set_option maxHeartbeats 4000000 in
set_option maxRecDepth 100000 in
theorem tMO_free {l : Launch} {dC : Nat → ClassId} {dI : Nat → Nat → Nat} {cI cZ : ClassId} {ad : Nat → Nat} {ts : ip_TT} {v_MO_size : Int32} {v_MO_loaded : Int32} {v_MO_at : Int32} {v_MO_fault : Int32} {v_MO_hasGiven : Int32} {v_MO_hasPicture : Int32} {v_MO_range : Int32} {v_MO_value : Int32} {v_MO_leaves : Int32} {v_mload : Nat → Int32} {v_mcounts : Nat → Int32}  {r0 : Int32} {nv_MO_at : Int32} {nv_MO_value : Int32} {nv_mcounts : Nat → Int32} (hf : fMO_free v_MO_size v_MO_loaded v_MO_at v_MO_fault v_MO_hasGiven v_MO_hasPicture v_MO_range v_MO_value v_MO_leaves v_mload v_mcounts = some (r0, nv_MO_at, nv_MO_value, nv_mcounts)) : ip_Mi l yMO_free wsMO_free rmMO_free (dC, dI) vwCl [(cI, .int), (cZ, .boolean)] ts [.ref (ad 0)] (wMO_free ad cI cZ v_MO_size v_MO_loaded v_MO_at v_MO_fault v_MO_hasGiven v_MO_hasPicture v_MO_range v_MO_value v_MO_leaves v_mload v_mcounts) (wMO_free ad cI cZ v_MO_size v_MO_loaded nv_MO_at v_MO_fault v_MO_hasGiven v_MO_hasPicture v_MO_range nv_MO_value v_MO_leaves v_mload nv_mcounts) r0 := by
  refine ip_startI (cc := cMO_free) (maxL := 1) (by decide) rfl (Nat.le_of_ble_eq_true rfl) ?_
  intro p e s m args below meth c Q A ls hx hb hml hts hown hK hP hD hS hA hZ hl hret
  replace hl : lv_has ls 1 [(0, .ref (ad 0))] := hl
  unfold fMO_free at hf
  suffices J0 : ∀ (ls : Array Slot) (H : Heap) (locs : List Loc), lv_has ls 1 [(0, .ref (ad 0))] → va_P (dC, dI) vwCl (wMO_free ad cI cZ v_MO_size v_MO_loaded v_MO_at v_MO_fault v_MO_hasGiven v_MO_hasPicture v_MO_range v_MO_value v_MO_leaves v_mload v_mcounts) H → va_D A (wMO_free ad cI cZ v_MO_size v_MO_loaded v_MO_at v_MO_fault v_MO_hasGiven v_MO_hasPicture v_MO_range v_MO_value v_MO_leaves v_mload v_mcounts) → va_S A s.heap H locs → W p l e rmMO_free s m args below meth c H locs 0 0 Q (F0 m 0 ls []) by exact J0 ls s.heap [] hl hP hD hS
  clear hP hD hS hl
  intro ls H locs hl hP hD hS
  refine lv_aload_n hx hb dMO_free_0 rfl (lv_at hl 0 rfl) ?_
  refine va_get (D := (dC, dI)) (ci := 12) (v := .ref (ad 6)) (C := kR_MO) (T := kT_MO) (N := 32) hx hb hts kin_MO hown hK hP 0 rfl rfl 13 (by decide) (hts _ (List.mem_cons_of_mem _ kw3_200)) (fun _ h9 => h9) rfl dMO_free_1 ?_
  refine lv_iconst (v := (1 : Int32)) hx hb dMO_free_4 (by decide) ?_
  refine lv_dup2_11 hx hb dMO_free_5 rfl rfl ?_
  refine ip_iald hx hb hK hP 2 0 rfl rfl dMO_free_6 hf (fun z1 hf => ?_)
  refine lv_iconst (v := (1 : Int32)) hx hb dMO_free_7 (by decide) ?_
  refine lv_iadd hx hb dMO_free_8 ?_
  refine ip_iast hx hb hK hP hD hS 2 0 rfl rfl (fun g2 => (wMO_free ad cI cZ v_MO_size v_MO_loaded v_MO_at v_MO_fault v_MO_hasGiven v_MO_hasPicture v_MO_range v_MO_value v_MO_leaves v_mload g2)) (fun _ => rfl) dMO_free_9 hf (fun g2 H locs hf hP hD hS => ?_)
  refine lv_aload_n hx hb dMO_free_10 rfl (lv_at hl 0 rfl) ?_
  obtain ⟨z3, z4, g5, hc, hf⟩ := ip_b3_e hf
  refine ip_callv (va_runV (As := []) (rest := []) ⟨hx, hb, hml, hown, hts⟩ (tMO_shift (l := l) (dC := dC) (dI := dI) (ad := ad) (cI := cI) (ts := ts) (cZ := cZ) hc H.size) (cwV 0 hts (ip_gdV (own := kR_MO) (idx := 148) (C := kR_MO) (y := yMO_shift) kw4_103 kw4_105 kws_45 kw1_13 kw4_106) rfl rfl rfl (by decide +kernel) ⟨Nat.le_of_ble_eq_true rfl, Nat.le_of_ble_eq_true rfl⟩) (ip_preV hK hP hD hS hA hZ [0, 1, 2] rfl rfl (ci := 12) (q0 := 0) rfl rfl) rfl rfl hl.1 rfl (lv_room (Nat.le_of_ble_eq_true rfl)) dMO_free_11 ⟨Nat.le_of_ble_eq_true rfl, Nat.le_of_ble_eq_true rfl⟩) hP hD hS hA [0, 1, 2] [] [0, 1, 2] (wMO_free ad cI cZ v_MO_size v_MO_loaded z3 v_MO_fault v_MO_hasGiven v_MO_hasPicture v_MO_range z4 v_MO_leaves v_mload g5) rfl rfl rfl (by decide) rfl rfl (fun H locs hP hD hS => ?_)
  clear hc
  refine lv_aload_n hx hb dMO_free_14 rfl (lv_at hl 0 rfl) ?_
  refine va_get (D := (dC, dI)) (ci := 12) (v := .int z4) (C := kR_MO) (T := kT_MO) (N := 32) hx hb hts kin_MO hown hK hP 0 rfl rfl 11 (by decide) (hts _ (List.mem_cons_of_mem _ kw3_198)) (fun _ h9 => h9) rfl dMO_free_15 ?_
  refine lv_aload_n hx hb dMO_free_18 rfl (lv_at hl 0 rfl) ?_
  refine va_get (D := (dC, dI)) (ci := 12) (v := .int v_MO_range) (C := kR_MO) (T := kT_MO) (N := 32) hx hb hts kin_MO hown hK hP 0 rfl rfl 10 (by decide) (hts _ (List.mem_cons_of_mem _ kw3_197)) (fun _ h9 => h9) rfl dMO_free_19 ?_
  refine ip_icmp_ge (tgt := 27) hx hb dMO_free_22 rfl hf (fun hf => ?_) (fun hf => ?_)
  · refine lv_aload_n hx hb dMO_free_27 rfl (lv_at hl 0 rfl) ?_
    refine lv_dup hx hb dMO_free_28 rfl ?_
    refine va_get (D := (dC, dI)) (ci := 12) (v := .int z4) (C := kR_MO) (T := kT_MO) (N := 32) hx hb hts kin_MO hown hK hP 0 rfl rfl 11 (by decide) (hts _ (List.mem_cons_of_mem _ kw3_198)) (fun _ h9 => h9) rfl dMO_free_29 ?_
    refine lv_aload_n hx hb dMO_free_32 rfl (lv_at hl 0 rfl) ?_
    refine va_get (D := (dC, dI)) (ci := 12) (v := .int v_MO_range) (C := kR_MO) (T := kT_MO) (N := 32) hx hb hts kin_MO hown hK hP 0 rfl rfl 10 (by decide) (hts _ (List.mem_cons_of_mem _ kw3_197)) (fun _ h9 => h9) rfl dMO_free_33 ?_
    refine lv_isub hx hb dMO_free_36 ?_
    refine ip_top hf (fun z6 hf => ?_)
    refine va_put (D := (dC, dI)) (ci := 12) (v := .int z6) (ty := .int) (C := kR_MO) (T := kT_MO) (N := 32) hx hb hts kin_MO kty_MO kto_MO knm_MO hown hK hP hD hS 0 rfl rfl 11 (by decide) (hts _ (List.mem_cons_of_mem _ kw3_198)) (fun _ h9 => h9) rfl (by decide +kernel) rfl rfl (Nat.le_of_ble_eq_true rfl) dMO_free_37 (fun H locs hP hD hS => ?_)
    replace hP : va_P (dC, dI) vwCl (wMO_free ad cI cZ v_MO_size v_MO_loaded z3 v_MO_fault v_MO_hasGiven v_MO_hasPicture v_MO_range z6 v_MO_leaves v_mload g5) H := hP
    replace hD : va_D A (wMO_free ad cI cZ v_MO_size v_MO_loaded z3 v_MO_fault v_MO_hasGiven v_MO_hasPicture v_MO_range z6 v_MO_leaves v_mload g5) := hD
    refine lv_iconst (v := (1 : Int32)) hx hb dMO_free_40 (by decide) ?_
    cases hf
    exact hret H locs 41 ls _ dMO_free_41 rfl hP hD hS
  · refine lv_iconst (v := (0 : Int32)) hx hb dMO_free_25 (by decide) ?_
    cases hf
    exact hret H locs 26 ls _ dMO_free_26 rfl hP hD hS
set_option maxHeartbeats 4000000 in
set_option maxRecDepth 100000 in
theorem tMO_frees {l : Launch} {dC : Nat → ClassId} {dI : Nat → Nat → Nat} {cI cZ : ClassId} {ad : Nat → Nat} {ts : ip_TT} {v_MO_size : Int32} {v_MO_loaded : Int32} {v_MO_at : Int32} {v_MO_fault : Int32} {v_MO_hasGiven : Int32} {v_MO_hasPicture : Int32} {v_MO_range : Int32} {v_MO_value : Int32} {v_MO_leaves : Int32} {v_mload : Nat → Int32} {v_mcounts : Nat → Int32} {p1 : Int32} {r0 : Int32} {nv_MO_at : Int32} {nv_MO_value : Int32} {nv_mcounts : Nat → Int32} (hf : fMO_frees v_MO_size v_MO_loaded v_MO_at v_MO_fault v_MO_hasGiven v_MO_hasPicture v_MO_range v_MO_value v_MO_leaves v_mload v_mcounts p1 = some (r0, nv_MO_at, nv_MO_value, nv_mcounts)) : ip_Mi l yMO_frees wsMO_frees rmMO_frees (dC, dI) vwCl [(cI, .int), (cZ, .boolean)] ts [.ref (ad 0), .int p1] (wMO_frees ad cI cZ v_MO_size v_MO_loaded v_MO_at v_MO_fault v_MO_hasGiven v_MO_hasPicture v_MO_range v_MO_value v_MO_leaves v_mload v_mcounts) (wMO_frees ad cI cZ v_MO_size v_MO_loaded nv_MO_at v_MO_fault v_MO_hasGiven v_MO_hasPicture v_MO_range nv_MO_value v_MO_leaves v_mload nv_mcounts) r0 := by
  refine ip_startI (cc := cMO_frees) (maxL := 4) (by decide) rfl (Nat.le_of_ble_eq_true rfl) ?_
  intro p e s m args below meth c Q A ls hx hb hml hts hown hK hP hD hS hA hZ hl hret
  replace hl : lv_has ls 4 [(0, .ref (ad 0)), (1, .int p1)] := hl
  unfold fMO_frees at hf
  suffices J0 : ∀ (ls : Array Slot) (H : Heap) (locs : List Loc), lv_has ls 4 [(0, .ref (ad 0)), (1, .int p1)] → va_P (dC, dI) vwCl (wMO_frees ad cI cZ v_MO_size v_MO_loaded v_MO_at v_MO_fault v_MO_hasGiven v_MO_hasPicture v_MO_range v_MO_value v_MO_leaves v_mload v_mcounts) H → va_D A (wMO_frees ad cI cZ v_MO_size v_MO_loaded v_MO_at v_MO_fault v_MO_hasGiven v_MO_hasPicture v_MO_range v_MO_value v_MO_leaves v_mload v_mcounts) → va_S A s.heap H locs → W p l e rmMO_frees s m args below meth c H locs 0 0 Q (F0 m 0 ls []) by exact J0 ls s.heap [] hl hP hD hS
  clear hP hD hS hl
  intro ls H locs hl hP hD hS
  refine lv_iconst (v := (0 : Int32)) hx hb dMO_frees_0 (by decide) ?_
  refine lv_istore_n (lv' := [(2, .int (0 : Int32)), (0, .ref (ad 0)), (1, .int p1)]) hx hb dMO_frees_1 rfl hl (by decide) rfl (fun ls hl => ?_)
  refine lv_iconst (v := (0 : Int32)) hx hb dMO_frees_2 (by decide) ?_
  refine lv_istore_n (lv' := [(3, .int (0 : Int32)), (2, .int (0 : Int32)), (0, .ref (ad 0)), (1, .int p1)]) hx hb dMO_frees_3 rfl hl (by decide) rfl (fun ls hl => ?_)
  replace hl := lv_sub hl (l' := [(0, .ref (ad 0)), (1, .int p1), (2, .int (0 : Int32)), (3, .int (0 : Int32))]) [2, 3, 1, 0] rfl
  obtain ⟨x6, x7, x8, x9, y10, hL, hf⟩ := ip_b5_e hf
  suffices J24 : ∀ (ls : Array Slot) (H : Heap) (locs : List Loc), lv_has ls 4 [(2, .int x6)] → va_P (dC, dI) vwCl (wMO_frees ad cI cZ v_MO_size v_MO_loaded x8 v_MO_fault v_MO_hasGiven v_MO_hasPicture v_MO_range x9 v_MO_leaves v_mload y10) H → va_D A (wMO_frees ad cI cZ v_MO_size v_MO_loaded x8 v_MO_fault v_MO_hasGiven v_MO_hasPicture v_MO_range x9 v_MO_leaves v_mload y10) → va_S A s.heap H locs → W p l e rmMO_frees s m args below meth c H locs 0 0 Q (F0 m 24 ls []) by
    have L : ∀ (n : Nat) (z1 : Int32) (z2 : Int32) (z3 : Int32) (z4 : Int32) (g5 : Nat → Int32), ip_lp5 (fMO_frees_B4 v_MO_size v_MO_loaded v_MO_fault v_MO_hasGiven v_MO_hasPicture v_MO_range v_MO_leaves v_mload p1) n z1 z2 z3 z4 g5 = some (x6, x7, x8, x9, y10) → ∀ (ls : Array Slot) (H : Heap) (locs : List Loc), lv_has ls 4 [(0, .ref (ad 0)), (1, .int p1), (2, .int z1), (3, .int z2)] → va_P (dC, dI) vwCl (wMO_frees ad cI cZ v_MO_size v_MO_loaded z3 v_MO_fault v_MO_hasGiven v_MO_hasPicture v_MO_range z4 v_MO_leaves v_mload g5) H → va_D A (wMO_frees ad cI cZ v_MO_size v_MO_loaded z3 v_MO_fault v_MO_hasGiven v_MO_hasPicture v_MO_range z4 v_MO_leaves v_mload g5) → va_S A s.heap H locs → W p l e rmMO_frees s m args below meth c H locs 0 0 Q (F0 m 4 ls []) := by
      intro n
      induction n with
      | zero => intro z1 z2 z3 z4 g5 hL; exact (ip_lp5_0 hL).elim
      | succ n ih =>
        intro z1 z2 z3 z4 g5 hL ls H locs hl hP hD hS
        clear hf
        obtain ⟨r9, hf, hr4⟩ := ip_lp5_s hL
        clear hL
        unfold fMO_frees_B4 at hf
        refine lv_iload_n hx hb dMO_frees_4 rfl (lv_at hl 3 rfl) ?_
        refine lv_iload_n hx hb dMO_frees_5 rfl (lv_at hl 1 rfl) ?_
        refine ip_icmp_ge (tgt := 24) hx hb dMO_frees_6 rfl hf (fun hf => ?_) (fun hf => ?_)
        · have hx9 := ip_lp_x hr4 hf
          replace hl := lv_sub hl (l' := [(2, .int z1)]) [2] rfl
          cases hx9
          exact J24 ls H locs hl hP hD hS
        · refine lv_iconst (v := (2 : Int32)) hx hb dMO_frees_9 (by decide) ?_
          refine lv_iload_n hx hb dMO_frees_10 rfl (lv_at hl 2 rfl) ?_
          refine lv_imul hx hb dMO_frees_11 ?_
          refine lv_aload_n hx hb dMO_frees_12 rfl (lv_at hl 0 rfl) ?_
          obtain ⟨z11, z12, z13, g14, hc, hf⟩ := ip_b4_e hf
          refine ip_calli (va_runV (As := []) (rest := [.int ((2 : Int32) * z1)]) ⟨hx, hb, hml, hown, hts⟩ (tMO_free (l := l) (dC := dC) (dI := dI) (ad := ad) (cI := cI) (ts := ts) (cZ := cZ) hc H.size) (cwV 0 hts (ip_gdV (own := kR_MO) (idx := 151) (C := kR_MO) (y := yMO_free) kw4_119 kw4_121 kws_49 kw1_13 kw4_122) rfl rfl rfl (by decide +kernel) ⟨Nat.le_of_ble_eq_true rfl, Nat.le_of_ble_eq_true rfl⟩) (ip_preV hK hP hD hS hA hZ [0, 1, 2] rfl rfl (ci := 12) (q0 := 0) rfl rfl) rfl rfl hl.1 rfl (lv_room (Nat.le_of_ble_eq_true rfl)) dMO_frees_13 ⟨Nat.le_of_ble_eq_true rfl, Nat.le_of_ble_eq_true rfl⟩) hP hD hS hA [0, 1, 2] [] [0, 1, 2] (wMO_frees ad cI cZ v_MO_size v_MO_loaded z12 v_MO_fault v_MO_hasGiven v_MO_hasPicture v_MO_range z13 v_MO_leaves v_mload g14) rfl rfl rfl (by decide) rfl rfl (fun H locs hP hD hS => ?_)
          clear hc
          refine lv_iadd hx hb dMO_frees_16 ?_
          refine ip_top hf (fun z15 hf => ?_)
          refine lv_istore_n (lv' := [(2, .int z15), (0, .ref (ad 0)), (1, .int p1), (3, .int z2)]) hx hb dMO_frees_17 rfl hl (by decide) rfl (fun ls hl => ?_)
          refine ip_iinc (k0 := 3) (v0 := (1 : Int32)) (lv1 := fun z16 => [(3, .int z16), (2, .int z15), (0, .ref (ad 0)), (1, .int p1)]) hx hb dMO_frees_18 hl rfl (by decide) (by decide) (fun _ => rfl) hf (fun z16 ls hf hl => ?_)
          refine lv_goto (tgt := 4) hx hb dMO_frees_21 rfl ?_
          replace hl := lv_sub hl (l' := [(0, .ref (ad 0)), (1, .int p1), (2, .int z15), (3, .int z16)]) [2, 3, 1, 0] rfl
          exact ih _ _ _ _ _ (ip_lp5_l hr4 hf) ls H locs hl hP hD hS
    exact L 1000 _ _ _ _ _ hL ls H locs hl hP hD hS
  intro ls H locs hl hP hD hS
  clear hL
  refine lv_iload_n hx hb dMO_frees_24 rfl (lv_at hl 0 rfl) ?_
  cases hf
  exact hret H locs 25 ls _ dMO_frees_25 rfl hP hD hS
set_option maxHeartbeats 4000000 in
set_option maxRecDepth 100000 in
theorem tMO_place {l : Launch} {dC : Nat → ClassId} {dI : Nat → Nat → Nat} {cI cZ : ClassId} {ad : Nat → Nat} {ts : ip_TT}  {p1 : Int32} {r0 : Int32}  (hf : fMO_place p1 = some r0) : ip_Mi l yMO_place wsMO_place rmMO_place (dC, dI) vwCl [(cI, .int), (cZ, .boolean)] ts [.int p1] (wMO_place ad cI cZ) (wMO_place ad cI cZ) r0 := by
  refine ip_startI (cc := cMO_place) (maxL := 4) (by decide) rfl (Nat.le_of_ble_eq_true rfl) ?_
  intro p e s m args below meth c Q A ls hx hb hml hts hown hK hP hD hS hA hZ hl hret
  replace hl : lv_has ls 4 [(0, .int p1)] := hl
  unfold fMO_place at hf
  suffices J0 : ∀ (ls : Array Slot) (H : Heap) (locs : List Loc), lv_has ls 4 [(0, .int p1)] → va_P (dC, dI) vwCl (wMO_place ad cI cZ) H → va_D A (wMO_place ad cI cZ) → va_S A s.heap H locs → W p l e rmMO_place s m args below meth c H locs 0 0 Q (F0 m 0 ls []) by exact J0 ls s.heap [] hl hP hD hS
  clear hP hD hS hl
  intro ls H locs hl hP hD hS
  refine lv_iconst (v := (0 : Int32)) hx hb dMO_place_0 (by decide) ?_
  refine lv_istore_n (lv' := [(1, .int (0 : Int32)), (0, .int p1)]) hx hb dMO_place_1 rfl hl (by decide) rfl (fun ls hl => ?_)
  refine lv_iconst (v := (0 : Int32)) hx hb dMO_place_2 (by decide) ?_
  refine lv_istore_n (lv' := [(2, .int (0 : Int32)), (1, .int (0 : Int32)), (0, .int p1)]) hx hb dMO_place_3 rfl hl (by decide) rfl (fun ls hl => ?_)
  replace hl := lv_sub hl (l' := [(0, .int p1), (1, .int (0 : Int32)), (2, .int (0 : Int32))]) [2, 1, 0] rfl
  obtain ⟨X4, hL, hf⟩ := ip_b1_e hf
  have hfo4 := hf
  suffices J58 : ∀ (x3 : Int32) (x4 : Int32), X4 = .inl (x3, x4) → ∀ (ls : Array Slot) (H : Heap) (locs : List Loc), lv_has ls 4 [] → va_P (dC, dI) vwCl (wMO_place ad cI cZ) H → va_D A (wMO_place ad cI cZ) → va_S A s.heap H locs → W p l e rmMO_place s m args below meth c H locs 0 0 Q (F0 m 58 ls []) by
    have L : ∀ (n : Nat) (z1 : Int32) (z2 : Int32), ip_lp2 (fMO_place_B4 p1) n z1 z2 = some X4 → ∀ (ls : Array Slot) (H : Heap) (locs : List Loc), lv_has ls 4 [(0, .int p1), (1, .int z1), (2, .int z2)] → va_P (dC, dI) vwCl (wMO_place ad cI cZ) H → va_D A (wMO_place ad cI cZ) → va_S A s.heap H locs → W p l e rmMO_place s m args below meth c H locs 0 0 Q (F0 m 4 ls []) := by
      intro n
      induction n with
      | zero => intro z1 z2 hL; exact (ip_lp2_0 hL).elim
      | succ n ih =>
        intro z1 z2 hL ls H locs hl hP hD hS
        clear hf
        obtain ⟨r9, hf, hr4⟩ := ip_lp2_s hL
        clear hL
        unfold fMO_place_B4 at hf
        refine lv_iload_n hx hb dMO_place_4 rfl (lv_at hl 2 rfl) ?_
        refine lv_bipush (v := (7 : Int32)) hx hb dMO_place_5 (by decide) ?_
        refine ip_icmp_ge (tgt := 58) hx hb dMO_place_7 rfl hf (fun hf => ?_) (fun hf => ?_)
        · have hx9 := ip_lp_x hr4 hf
          replace hl := lv_sub hl (l' := []) [] rfl
          exact J58 _ _ hx9.symm ls H locs hl hP hD hS
        · refine lv_iconst (v := (0 : Int32)) hx hb dMO_place_10 (by decide) ?_
          refine lv_istore_n (lv' := [(3, .int (0 : Int32)), (0, .int p1), (1, .int z1), (2, .int z2)]) hx hb dMO_place_11 rfl hl (by decide) rfl (fun ls hl => ?_)
          replace hl := lv_sub hl (l' := [(0, .int p1), (1, .int z1), (2, .int z2), (3, .int (0 : Int32))]) [1, 2, 3, 0] rfl
          obtain ⟨X12, hL, hf⟩ := ip_b1_e hf
          have hfo12 := hf
          suffices J52 : ∀ (x7 : Int32) (x8 : Int32), X12 = .inl (x7, x8) → ∀ (ls : Array Slot) (H : Heap) (locs : List Loc), lv_has ls 4 [(0, .int p1), (1, .int x7), (2, .int z2)] → va_P (dC, dI) vwCl (wMO_place ad cI cZ) H → va_D A (wMO_place ad cI cZ) → va_S A s.heap H locs → W p l e rmMO_place s m args below meth c H locs 0 0 Q (F0 m 52 ls []) by
            have L : ∀ (n : Nat) (z5 : Int32) (z6 : Int32), ip_lp2 (fMO_place_B12 p1 z2) n z5 z6 = some X12 → ∀ (ls : Array Slot) (H : Heap) (locs : List Loc), lv_has ls 4 [(0, .int p1), (1, .int z5), (2, .int z2), (3, .int z6)] → va_P (dC, dI) vwCl (wMO_place ad cI cZ) H → va_D A (wMO_place ad cI cZ) → va_S A s.heap H locs → W p l e rmMO_place s m args below meth c H locs 0 0 Q (F0 m 12 ls []) := by
              intro n
              induction n with
              | zero => intro z5 z6 hL; exact (ip_lp2_0 hL).elim
              | succ n ih =>
                intro z5 z6 hL ls H locs hl hP hD hS
                clear hf
                obtain ⟨r9, hf, hr12⟩ := ip_lp2_s hL
                clear hL
                unfold fMO_place_B12 at hf
                refine lv_iload_n hx hb dMO_place_12 rfl (lv_at hl 3 rfl) ?_
                refine lv_iconst (v := (4 : Int32)) hx hb dMO_place_13 (by decide) ?_
                refine ip_icmp_ge (tgt := 52) hx hb dMO_place_14 rfl hf (fun hf => ?_) (fun hf => ?_)
                · have hx9 := ip_lp_x hr12 hf
                  replace hl := lv_sub hl (l' := [(0, .int p1), (1, .int z5), (2, .int z2)]) [0, 1, 2] rfl
                  exact J52 _ _ hx9.symm ls H locs hl hP hD hS
                · refine lv_iload_n hx hb dMO_place_17 rfl (lv_at hl 2 rfl) ?_
                  refine lv_iload_n hx hb dMO_place_18 rfl (lv_at hl 3 rfl) ?_
                  refine lv_isub hx hb dMO_place_19 ?_
                  refine ip_if_lt (tgt := 46) hx hb dMO_place_20 rfl hf (fun hf => ?_) (fun hf => ?_)
                  · refine ip_iinc (k0 := 3) (v0 := (1 : Int32)) (lv1 := fun z9 => [(3, .int z9), (0, .int p1), (1, .int z5), (2, .int z2)]) hx hb dMO_place_46 hl rfl (by decide) (by decide) (fun _ => rfl) hf (fun z9 ls hf hl => ?_)
                    refine lv_goto (tgt := 12) hx hb dMO_place_49 rfl ?_
                    replace hl := lv_sub hl (l' := [(0, .int p1), (1, .int z5), (2, .int z2), (3, .int z9)]) [1, 2, 3, 0] rfl
                    exact ih _ _ (ip_lp2_l hr12 hf) ls H locs hl hP hD hS
                  · refine lv_iload_n hx hb dMO_place_23 rfl (lv_at hl 2 rfl) ?_
                    refine lv_iload_n hx hb dMO_place_24 rfl (lv_at hl 3 rfl) ?_
                    refine lv_isub hx hb dMO_place_25 ?_
                    refine lv_iconst (v := (4 : Int32)) hx hb dMO_place_26 (by decide) ?_
                    refine ip_icmp_ge (tgt := 46) hx hb dMO_place_27 rfl hf (fun hf => ?_) (fun hf => ?_)
                    · refine ip_iinc (k0 := 3) (v0 := (1 : Int32)) (lv1 := fun z10 => [(3, .int z10), (0, .int p1), (1, .int z5), (2, .int z2)]) hx hb dMO_place_46 hl rfl (by decide) (by decide) (fun _ => rfl) hf (fun z10 ls hf hl => ?_)
                      refine lv_goto (tgt := 12) hx hb dMO_place_49 rfl ?_
                      replace hl := lv_sub hl (l' := [(0, .int p1), (1, .int z5), (2, .int z2), (3, .int z10)]) [1, 2, 3, 0] rfl
                      exact ih _ _ (ip_lp2_l hr12 hf) ls H locs hl hP hD hS
                    · refine lv_iload_n hx hb dMO_place_30 rfl (lv_at hl 1 rfl) ?_
                      refine lv_iload_n hx hb dMO_place_31 rfl (lv_at hl 0 rfl) ?_
                      refine ip_icmp_ne (tgt := 43) hx hb dMO_place_32 rfl hf (fun hf => ?_) (fun hf => ?_)
                      · refine ip_iinc (k0 := 1) (v0 := (1 : Int32)) (lv1 := fun z11 => [(1, .int z11), (0, .int p1), (2, .int z2), (3, .int z6)]) hx hb dMO_place_43 hl rfl (by decide) (by decide) (fun _ => rfl) hf (fun z11 ls hf hl => ?_)
                        refine ip_iinc (k0 := 3) (v0 := (1 : Int32)) (lv1 := fun z12 => [(3, .int z12), (1, .int z11), (0, .int p1), (2, .int z2)]) hx hb dMO_place_46 hl rfl (by decide) (by decide) (fun _ => rfl) hf (fun z12 ls hf hl => ?_)
                        refine lv_goto (tgt := 12) hx hb dMO_place_49 rfl ?_
                        replace hl := lv_sub hl (l' := [(0, .int p1), (1, .int z11), (2, .int z2), (3, .int z12)]) [2, 1, 3, 0] rfl
                        exact ih _ _ (ip_lp2_l hr12 hf) ls H locs hl hP hD hS
                      · refine lv_iconst (v := (4 : Int32)) hx hb dMO_place_35 (by decide) ?_
                        refine lv_iload_n hx hb dMO_place_36 rfl (lv_at hl 2 rfl) ?_
                        refine lv_iload_n hx hb dMO_place_37 rfl (lv_at hl 3 rfl) ?_
                        refine lv_isub hx hb dMO_place_38 ?_
                        refine lv_imul hx hb dMO_place_39 ?_
                        refine lv_iload_n hx hb dMO_place_40 rfl (lv_at hl 3 rfl) ?_
                        refine lv_iadd hx hb dMO_place_41 ?_
                        replace hf := ip_cs2_r (ip_lp_x hr12 hf) hfo12
                        replace hf := ip_cs2_r (ip_lp_x hr4 hf) hfo4
                        cases hf
                        exact hret H locs 42 ls _ dMO_place_42 rfl hP hD hS
            exact L 1000 _ _ hL ls H locs hl hP hD hS
          intro x7 x8 hX9 ls H locs hl hP hD hS
          replace hf := ip_cs2_l hX9 hf
          clear hL hfo12
          refine ip_iinc (k0 := 2) (v0 := (1 : Int32)) (lv1 := fun z13 => [(2, .int z13), (0, .int p1), (1, .int x7)]) hx hb dMO_place_52 hl rfl (by decide) (by decide) (fun _ => rfl) hf (fun z13 ls hf hl => ?_)
          refine lv_goto (tgt := 4) hx hb dMO_place_55 rfl ?_
          replace hl := lv_sub hl (l' := [(0, .int p1), (1, .int x7), (2, .int z13)]) [1, 2, 0] rfl
          exact ih _ _ (ip_lp2_l hr4 hf) ls H locs hl hP hD hS
    exact L 1000 _ _ hL ls H locs hl hP hD hS
  intro x3 x4 hX9 ls H locs hl hP hD hS
  replace hf := ip_cs2_l hX9 hf
  clear hL hfo4
  refine lv_iconst (v := (0 : Int32)) hx hb dMO_place_58 (by decide) ?_
  cases hf
  exact hret H locs 59 ls _ dMO_place_59 rfl hP hD hS
set_option maxHeartbeats 4000000 in
set_option maxRecDepth 100000 in
theorem tMO_sizeOfLevel {l : Launch} {dC : Nat → ClassId} {dI : Nat → Nat → Nat} {cI cZ : ClassId} {ad : Nat → Nat} {ts : ip_TT} {v_MO_size : Int32} {v_MO_loaded : Int32} {v_MO_at : Int32} {v_MO_fault : Int32} {v_MO_hasGiven : Int32} {v_MO_hasPicture : Int32} {v_MO_range : Int32} {v_MO_value : Int32} {v_MO_leaves : Int32} {v_mload : Nat → Int32} {v_mchances : Nat → Int32} {v_mcounts : Nat → Int32}  {r0 : Int32} {nv_MO_at : Int32} {nv_MO_range : Int32} {nv_MO_value : Int32} {nv_mchances : Nat → Int32} {nv_mcounts : Nat → Int32} (hf : fMO_sizeOfLevel v_MO_size v_MO_loaded v_MO_at v_MO_fault v_MO_hasGiven v_MO_hasPicture v_MO_range v_MO_value v_MO_leaves v_mload v_mchances v_mcounts = some (r0, nv_MO_at, nv_MO_range, nv_MO_value, nv_mchances, nv_mcounts)) : ip_Mi l yMO_sizeOfLevel wsMO_sizeOfLevel rmMO_sizeOfLevel (dC, dI) vwCl [(cI, .int), (cZ, .boolean)] ts [.ref (ad 0)] (wMO_sizeOfLevel ad cI cZ v_MO_size v_MO_loaded v_MO_at v_MO_fault v_MO_hasGiven v_MO_hasPicture v_MO_range v_MO_value v_MO_leaves v_mload v_mchances v_mcounts) (wMO_sizeOfLevel ad cI cZ v_MO_size v_MO_loaded nv_MO_at v_MO_fault v_MO_hasGiven v_MO_hasPicture nv_MO_range nv_MO_value v_MO_leaves v_mload nv_mchances nv_mcounts) r0 := by
  refine ip_startI (cc := cMO_sizeOfLevel) (maxL := 2) (by decide) rfl (Nat.le_of_ble_eq_true rfl) ?_
  intro p e s m args below meth c Q A ls hx hb hml hts hown hK hP hD hS hA hZ hl hret
  replace hl : lv_has ls 2 [(0, .ref (ad 0))] := hl
  unfold fMO_sizeOfLevel at hf
  suffices J0 : ∀ (ls : Array Slot) (H : Heap) (locs : List Loc), lv_has ls 2 [(0, .ref (ad 0))] → va_P (dC, dI) vwCl (wMO_sizeOfLevel ad cI cZ v_MO_size v_MO_loaded v_MO_at v_MO_fault v_MO_hasGiven v_MO_hasPicture v_MO_range v_MO_value v_MO_leaves v_mload v_mchances v_mcounts) H → va_D A (wMO_sizeOfLevel ad cI cZ v_MO_size v_MO_loaded v_MO_at v_MO_fault v_MO_hasGiven v_MO_hasPicture v_MO_range v_MO_value v_MO_leaves v_mload v_mchances v_mcounts) → va_S A s.heap H locs → W p l e rmMO_sizeOfLevel s m args below meth c H locs 0 0 Q (F0 m 0 ls []) by exact J0 ls s.heap [] hl hP hD hS
  clear hP hD hS hl
  intro ls H locs hl hP hD hS
  refine lv_aload_n hx hb dMO_sizeOfLevel_0 rfl (lv_at hl 0 rfl) ?_
  refine lv_bipush (v := (12 : Int32)) hx hb dMO_sizeOfLevel_1 (by decide) ?_
  obtain ⟨z1, z2, z3, z4, g5, g6, hc, hf⟩ := ip_b6_e hf
  refine ip_calli (va_runV (As := [.int (12 : Int32)]) (rest := []) ⟨hx, hb, hml, hown, hts⟩ (tMO_bin (l := l) (dC := dC) (dI := dI) (ad := ad) (cI := cI) (ts := ts) (cZ := cZ) hc H.size) (cwV 1 hts (ip_gdV (own := kR_MO) (idx := 154) (C := kR_MO) (y := yMO_bin) kw4_107 kw4_109 kws_46 kw1_13 kw4_110) rfl rfl rfl (by decide +kernel) ⟨Nat.le_of_ble_eq_true rfl, Nat.le_of_ble_eq_true rfl⟩) (ip_preV hK hP hD hS hA hZ [0, 1, 2, 3] rfl rfl (ci := 12) (q0 := 0) rfl rfl) rfl rfl hl.1 rfl (lv_room (Nat.le_of_ble_eq_true rfl)) dMO_sizeOfLevel_3 ⟨Nat.le_of_ble_eq_true rfl, Nat.le_of_ble_eq_true rfl⟩) hP hD hS hA [0, 1, 2, 3] [] [0, 1, 2, 3] (wMO_sizeOfLevel ad cI cZ v_MO_size v_MO_loaded z2 v_MO_fault v_MO_hasGiven v_MO_hasPicture z3 z4 v_MO_leaves v_mload g5 g6) rfl rfl rfl (by decide) rfl rfl (fun H locs hP hD hS => ?_)
  clear hc
  refine ip_if_ne (tgt := 11) hx hb dMO_sizeOfLevel_6 rfl hf (fun hf => ?_) (fun hf => ?_)
  · refine lv_aload_n hx hb dMO_sizeOfLevel_11 rfl (lv_at hl 0 rfl) ?_
    refine lv_bipush (v := (13 : Int32)) hx hb dMO_sizeOfLevel_12 (by decide) ?_
    obtain ⟨z7, z8, z9, z10, g11, g12, hc, hf⟩ := ip_b6_e hf
    refine ip_calli (va_runV (As := [.int (13 : Int32)]) (rest := []) ⟨hx, hb, hml, hown, hts⟩ (tMO_bin (l := l) (dC := dC) (dI := dI) (ad := ad) (cI := cI) (ts := ts) (cZ := cZ) hc H.size) (cwV 1 hts (ip_gdV (own := kR_MO) (idx := 154) (C := kR_MO) (y := yMO_bin) kw4_107 kw4_109 kws_46 kw1_13 kw4_110) rfl rfl rfl (by decide +kernel) ⟨Nat.le_of_ble_eq_true rfl, Nat.le_of_ble_eq_true rfl⟩) (ip_preV hK hP hD hS hA hZ [0, 1, 2, 3] rfl rfl (ci := 12) (q0 := 0) rfl rfl) rfl rfl hl.1 rfl (lv_room (Nat.le_of_ble_eq_true rfl)) dMO_sizeOfLevel_14 ⟨Nat.le_of_ble_eq_true rfl, Nat.le_of_ble_eq_true rfl⟩) hP hD hS hA [0, 1, 2, 3] [] [0, 1, 2, 3] (wMO_sizeOfLevel ad cI cZ v_MO_size v_MO_loaded z8 v_MO_fault v_MO_hasGiven v_MO_hasPicture z9 z10 v_MO_leaves v_mload g11 g12) rfl rfl rfl (by decide) rfl rfl (fun H locs hP hD hS => ?_)
    clear hc
    refine ip_if_ne (tgt := 22) hx hb dMO_sizeOfLevel_17 rfl hf (fun hf => ?_) (fun hf => ?_)
    · refine lv_iconst (v := (0 : Int32)) hx hb dMO_sizeOfLevel_22 (by decide) ?_
      refine lv_istore_n (lv' := [(1, .int (0 : Int32)), (0, .ref (ad 0))]) hx hb dMO_sizeOfLevel_23 rfl hl (by decide) rfl (fun ls hl => ?_)
      replace hl := lv_sub hl (l' := [(0, .ref (ad 0)), (1, .int (0 : Int32))]) [1, 0] rfl
      obtain ⟨x17, x18, x19, y20, hL, hf⟩ := ip_b4_e hf
      suffices J44 : ∀ (ls : Array Slot) (H : Heap) (locs : List Loc), lv_has ls 2 [(0, .ref (ad 0)), (1, .int x17)] → va_P (dC, dI) vwCl (wMO_sizeOfLevel ad cI cZ v_MO_size v_MO_loaded x18 v_MO_fault v_MO_hasGiven v_MO_hasPicture z9 x19 v_MO_leaves v_mload g11 y20) H → va_D A (wMO_sizeOfLevel ad cI cZ v_MO_size v_MO_loaded x18 v_MO_fault v_MO_hasGiven v_MO_hasPicture z9 x19 v_MO_leaves v_mload g11 y20) → va_S A s.heap H locs → W p l e rmMO_sizeOfLevel s m args below meth c H locs 0 0 Q (F0 m 44 ls []) by
        have L : ∀ (n : Nat) (z13 : Int32) (z14 : Int32) (z15 : Int32) (g16 : Nat → Int32), ip_lp4 (fMO_sizeOfLevel_B24 v_MO_size v_MO_loaded v_MO_fault v_MO_hasGiven v_MO_hasPicture v_MO_leaves v_mload z9) n z13 z14 z15 g16 = some (x17, x18, x19, y20) → ∀ (ls : Array Slot) (H : Heap) (locs : List Loc), lv_has ls 2 [(0, .ref (ad 0)), (1, .int z13)] → va_P (dC, dI) vwCl (wMO_sizeOfLevel ad cI cZ v_MO_size v_MO_loaded z14 v_MO_fault v_MO_hasGiven v_MO_hasPicture z9 z15 v_MO_leaves v_mload g11 g16) H → va_D A (wMO_sizeOfLevel ad cI cZ v_MO_size v_MO_loaded z14 v_MO_fault v_MO_hasGiven v_MO_hasPicture z9 z15 v_MO_leaves v_mload g11 g16) → va_S A s.heap H locs → W p l e rmMO_sizeOfLevel s m args below meth c H locs 0 0 Q (F0 m 24 ls []) := by
          intro n
          induction n with
          | zero => intro z13 z14 z15 g16 hL; exact (ip_lp4_0 hL).elim
          | succ n ih =>
            intro z13 z14 z15 g16 hL ls H locs hl hP hD hS
            clear hf
            obtain ⟨r9, hf, hr24⟩ := ip_lp4_s hL
            clear hL
            unfold fMO_sizeOfLevel_B24 at hf
            refine lv_iload_n hx hb dMO_sizeOfLevel_24 rfl (lv_at hl 1 rfl) ?_
            refine lv_bipush (v := (6 : Int32)) hx hb dMO_sizeOfLevel_25 (by decide) ?_
            refine ip_icmp_ge (tgt := 44) hx hb dMO_sizeOfLevel_27 rfl hf (fun hf => ?_) (fun hf => ?_)
            · have hx9 := ip_lp_x hr24 hf
              cases hx9
              exact J44 ls H locs hl hP hD hS
            · refine lv_aload_n hx hb dMO_sizeOfLevel_30 rfl (lv_at hl 0 rfl) ?_
              obtain ⟨z21, z22, z23, g24, hc, hf⟩ := ip_b4_e hf
              refine ip_calli (va_runV (As := []) (rest := []) ⟨hx, hb, hml, hown, hts⟩ (tMO_free (l := l) (dC := dC) (dI := dI) (ad := ad) (cI := cI) (ts := ts) (cZ := cZ) hc H.size) (cwV 0 hts (ip_gdV (own := kR_MO) (idx := 151) (C := kR_MO) (y := yMO_free) kw4_119 kw4_121 kws_49 kw1_13 kw4_122) rfl rfl rfl (by decide +kernel) ⟨Nat.le_of_ble_eq_true rfl, Nat.le_of_ble_eq_true rfl⟩) (ip_preV hK hP hD hS hA hZ [0, 1, 3] rfl rfl (ci := 12) (q0 := 0) rfl rfl) rfl rfl hl.1 rfl (lv_room (Nat.le_of_ble_eq_true rfl)) dMO_sizeOfLevel_31 ⟨Nat.le_of_ble_eq_true rfl, Nat.le_of_ble_eq_true rfl⟩) hP hD hS hA [0, 1, 3] [2] [1, 2, 0, 3] (wMO_sizeOfLevel ad cI cZ v_MO_size v_MO_loaded z22 v_MO_fault v_MO_hasGiven v_MO_hasPicture z9 z23 v_MO_leaves v_mload g11 g24) rfl rfl rfl (by decide) rfl rfl (fun H locs hP hD hS => ?_)
              clear hc
              refine lv_iconst (v := (1 : Int32)) hx hb dMO_sizeOfLevel_34 (by decide) ?_
              refine ip_icmp_ne (tgt := 44) hx hb dMO_sizeOfLevel_35 rfl hf (fun hf => ?_) (fun hf => ?_)
              · have hx9 := ip_lp_x hr24 hf
                cases hx9
                exact J44 ls H locs hl hP hD hS
              · refine ip_iinc (k0 := 1) (v0 := (1 : Int32)) (lv1 := fun z25 => [(1, .int z25), (0, .ref (ad 0))]) hx hb dMO_sizeOfLevel_38 hl rfl (by decide) (by decide) (fun _ => rfl) hf (fun z25 ls hf hl => ?_)
                refine lv_goto (tgt := 24) hx hb dMO_sizeOfLevel_41 rfl ?_
                replace hl := lv_sub hl (l' := [(0, .ref (ad 0)), (1, .int z25)]) [1, 0] rfl
                exact ih _ _ _ _ (ip_lp4_l hr24 hf) ls H locs hl hP hD hS
        exact L 1000 _ _ _ _ hL ls H locs hl hP hD hS
      intro ls H locs hl hP hD hS
      clear hL
      refine lv_iconst (v := (2 : Int32)) hx hb dMO_sizeOfLevel_44 (by decide) ?_
      refine lv_iconst (v := (1 : Int32)) hx hb dMO_sizeOfLevel_45 (by decide) ?_
      refine lv_iload_n hx hb dMO_sizeOfLevel_46 rfl (lv_at hl 1 rfl) ?_
      refine lv_ishl hx hb dMO_sizeOfLevel_47 ?_
      refine lv_iadd hx hb dMO_sizeOfLevel_48 ?_
      refine lv_aload_n hx hb dMO_sizeOfLevel_49 rfl (lv_at hl 0 rfl) ?_
      refine lv_iload_n hx hb dMO_sizeOfLevel_50 rfl (lv_at hl 1 rfl) ?_
      obtain ⟨z26, z27, z28, g29, hc, hf⟩ := ip_b4_e hf
      refine ip_calli (va_runV (As := [.int x17]) (rest := [.int ((2 : Int32) + ((1 : Int32) <<< (x17 &&& 31)))]) ⟨hx, hb, hml, hown, hts⟩ (tMO_frees (l := l) (dC := dC) (dI := dI) (ad := ad) (cI := cI) (ts := ts) (cZ := cZ) hc H.size) (cwV 1 hts (ip_gdV (own := kR_MO) (idx := 161) (C := kR_MO) (y := yMO_frees) kw4_115 kw4_117 kws_48 kw1_13 kw4_118) rfl rfl rfl (by decide +kernel) ⟨Nat.le_of_ble_eq_true rfl, Nat.le_of_ble_eq_true rfl⟩) (ip_preV hK hP hD hS hA hZ [0, 1, 3] rfl rfl (ci := 12) (q0 := 0) rfl rfl) rfl rfl hl.1 rfl (lv_room (Nat.le_of_ble_eq_true rfl)) dMO_sizeOfLevel_51 ⟨Nat.le_of_ble_eq_true rfl, Nat.le_of_ble_eq_true rfl⟩) hP hD hS hA [0, 1, 3] [2] [1, 2, 0, 3] (wMO_sizeOfLevel ad cI cZ v_MO_size v_MO_loaded z27 v_MO_fault v_MO_hasGiven v_MO_hasPicture z9 z28 v_MO_leaves v_mload g11 g29) rfl rfl rfl (by decide) rfl rfl (fun H locs hP hD hS => ?_)
      clear hc
      refine lv_iadd hx hb dMO_sizeOfLevel_54 ?_
      cases hf
      exact hret H locs 55 ls _ dMO_sizeOfLevel_55 rfl hP hD hS
    · refine lv_iconst (v := (2 : Int32)) hx hb dMO_sizeOfLevel_20 (by decide) ?_
      cases hf
      exact hret H locs 21 ls _ dMO_sizeOfLevel_21 rfl hP hD hS
  · refine lv_iconst (v := (1 : Int32)) hx hb dMO_sizeOfLevel_9 (by decide) ?_
    cases hf
    exact hret H locs 10 ls _ dMO_sizeOfLevel_10 rfl hP hD hS
set_option maxHeartbeats 4000000 in
set_option maxRecDepth 100000 in
theorem tMO_readGroup {l : Launch} {dC : Nat → ClassId} {dI : Nat → Nat → Nat} {cI cZ : ClassId} {ad : Nat → Nat} {ts : ip_TT} {v_MO_size : Int32} {v_MO_loaded : Int32} {v_MO_at : Int32} {v_MO_fault : Int32} {v_MO_hasGiven : Int32} {v_MO_hasPicture : Int32} {v_MO_range : Int32} {v_MO_value : Int32} {v_MO_leaves : Int32} {v_mload : Nat → Int32} {v_mgiven : Nat → Int32} {v_mchances : Nat → Int32} {v_mcounts : Nat → Int32} {v_mlevels : Nat → Int32} {v_mgroup : Nat → Int32} {p1 : Int32} {p2 : Int32} {nv_MO_at : Int32} {nv_MO_range : Int32} {nv_MO_value : Int32} {nv_mchances : Nat → Int32} {nv_mcounts : Nat → Int32} {nv_mlevels : Nat → Int32} {nv_mgroup : Nat → Int32} (hf : fMO_readGroup v_MO_size v_MO_loaded v_MO_at v_MO_fault v_MO_hasGiven v_MO_hasPicture v_MO_range v_MO_value v_MO_leaves v_mload v_mgiven v_mchances v_mcounts v_mlevels v_mgroup p1 p2 = some (nv_MO_at, nv_MO_range, nv_MO_value, nv_mchances, nv_mcounts, nv_mlevels, nv_mgroup)) : ip_Mv l yMO_readGroup wsMO_readGroup rmMO_readGroup (dC, dI) vwCl [(cI, .int), (cZ, .boolean)] ts [.ref (ad 0), .int p1, .int p2] (wMO_readGroup ad cI cZ v_MO_size v_MO_loaded v_MO_at v_MO_fault v_MO_hasGiven v_MO_hasPicture v_MO_range v_MO_value v_MO_leaves v_mload v_mgiven v_mchances v_mcounts v_mlevels v_mgroup) (wMO_readGroup ad cI cZ v_MO_size v_MO_loaded nv_MO_at v_MO_fault v_MO_hasGiven v_MO_hasPicture nv_MO_range nv_MO_value v_MO_leaves v_mload v_mgiven nv_mchances nv_mcounts nv_mlevels nv_mgroup) := by
  refine ip_startV (cc := cMO_readGroup) (maxL := 10) (by decide) rfl (Nat.le_of_ble_eq_true rfl) ?_
  intro p e s m args below meth c Q A ls hx hb hml hts hown hK hP hD hS hA hZ hl hret
  replace hl : lv_has ls 10 [(0, .ref (ad 0)), (1, .int p1), (2, .int p2)] := hl
  unfold fMO_readGroup at hf
  suffices J0 : ∀ (ls : Array Slot) (H : Heap) (locs : List Loc), lv_has ls 10 [(0, .ref (ad 0)), (1, .int p1), (2, .int p2)] → va_P (dC, dI) vwCl (wMO_readGroup ad cI cZ v_MO_size v_MO_loaded v_MO_at v_MO_fault v_MO_hasGiven v_MO_hasPicture v_MO_range v_MO_value v_MO_leaves v_mload v_mgiven v_mchances v_mcounts v_mlevels v_mgroup) H → va_D A (wMO_readGroup ad cI cZ v_MO_size v_MO_loaded v_MO_at v_MO_fault v_MO_hasGiven v_MO_hasPicture v_MO_range v_MO_value v_MO_leaves v_mload v_mgiven v_mchances v_mcounts v_mlevels v_mgroup) → va_S A s.heap H locs → W p l e rmMO_readGroup s m args below meth c H locs 0 0 Q (F0 m 0 ls []) by exact J0 ls s.heap [] hl hP hD hS
  clear hP hD hS hl
  intro ls H locs hl hP hD hS
  refine lv_iconst (v := (0 : Int32)) hx hb dMO_readGroup_0 (by decide) ?_
  refine lv_istore_n (lv' := [(3, .int (0 : Int32)), (0, .ref (ad 0)), (1, .int p1), (2, .int p2)]) hx hb dMO_readGroup_1 rfl hl (by decide) rfl (fun ls hl => ?_)
  refine lv_iconst (v := (-1 : Int32)) hx hb dMO_readGroup_2 (by decide) ?_
  refine lv_istore (lv' := [(4, .int (-1 : Int32)), (3, .int (0 : Int32)), (0, .ref (ad 0)), (1, .int p1), (2, .int p2)]) hx hb dMO_readGroup_3 hl (by decide) rfl (fun ls hl => ?_)
  refine lv_iconst (v := (-1 : Int32)) hx hb dMO_readGroup_5 (by decide) ?_
  refine lv_istore (lv' := [(5, .int (-1 : Int32)), (4, .int (-1 : Int32)), (3, .int (0 : Int32)), (0, .ref (ad 0)), (1, .int p1), (2, .int p2)]) hx hb dMO_readGroup_6 hl (by decide) rfl (fun ls hl => ?_)
  refine lv_iconst (v := (0 : Int32)) hx hb dMO_readGroup_8 (by decide) ?_
  refine lv_istore (lv' := [(6, .int (0 : Int32)), (5, .int (-1 : Int32)), (4, .int (-1 : Int32)), (3, .int (0 : Int32)), (0, .ref (ad 0)), (1, .int p1), (2, .int p2)]) hx hb dMO_readGroup_9 hl (by decide) rfl (fun ls hl => ?_)
  replace hl := lv_sub hl (l' := [(0, .ref (ad 0)), (1, .int p1), (2, .int p2), (3, .int (0 : Int32)), (4, .int (-1 : Int32)), (5, .int (-1 : Int32)), (6, .int (0 : Int32))]) [4, 5, 6, 3, 2, 1, 0] rfl
  obtain ⟨x11, x12, x13, x14, x15, x16, x17, y18, y19, y20, hL, hf⟩ := ip_b10_e hf
  suffices J147 : ∀ (ls : Array Slot) (H : Heap) (locs : List Loc), lv_has ls 10 [(0, .ref (ad 0)), (1, .int p1), (2, .int p2), (3, .int x11), (4, .int x12), (5, .int x13)] → va_P (dC, dI) vwCl (wMO_readGroup ad cI cZ v_MO_size v_MO_loaded x15 v_MO_fault v_MO_hasGiven v_MO_hasPicture x16 x17 v_MO_leaves v_mload v_mgiven y18 y19 v_mlevels y20) H → va_D A (wMO_readGroup ad cI cZ v_MO_size v_MO_loaded x15 v_MO_fault v_MO_hasGiven v_MO_hasPicture x16 x17 v_MO_leaves v_mload v_mgiven y18 y19 v_mlevels y20) → va_S A s.heap H locs → W p l e rmMO_readGroup s m args below meth c H locs 0 0 Q (F0 m 147 ls []) by
    have L : ∀ (n : Nat) (z1 : Int32) (z2 : Int32) (z3 : Int32) (z4 : Int32) (z5 : Int32) (z6 : Int32) (z7 : Int32) (g8 : Nat → Int32) (g9 : Nat → Int32) (g10 : Nat → Int32), ip_lp10 (fMO_readGroup_B11 v_MO_size v_MO_loaded v_MO_fault v_MO_hasGiven v_MO_hasPicture v_MO_leaves v_mload) n z1 z2 z3 z4 z5 z6 z7 g8 g9 g10 = some (x11, x12, x13, x14, x15, x16, x17, y18, y19, y20) → ∀ (ls : Array Slot) (H : Heap) (locs : List Loc), lv_has ls 10 [(0, .ref (ad 0)), (1, .int p1), (2, .int p2), (3, .int z1), (4, .int z2), (5, .int z3), (6, .int z4)] → va_P (dC, dI) vwCl (wMO_readGroup ad cI cZ v_MO_size v_MO_loaded z5 v_MO_fault v_MO_hasGiven v_MO_hasPicture z6 z7 v_MO_leaves v_mload v_mgiven g8 g9 v_mlevels g10) H → va_D A (wMO_readGroup ad cI cZ v_MO_size v_MO_loaded z5 v_MO_fault v_MO_hasGiven v_MO_hasPicture z6 z7 v_MO_leaves v_mload v_mgiven g8 g9 v_mlevels g10) → va_S A s.heap H locs → W p l e rmMO_readGroup s m args below meth c H locs 0 0 Q (F0 m 11 ls []) := by
      intro n
      induction n with
      | zero => intro z1 z2 z3 z4 z5 z6 z7 g8 g9 g10 hL; exact (ip_lp10_0 hL).elim
      | succ n ih =>
        intro z1 z2 z3 z4 z5 z6 z7 g8 g9 g10 hL ls H locs hl hP hD hS
        clear hf
        obtain ⟨r9, hf, hr11⟩ := ip_lp10_s hL
        clear hL
        unfold fMO_readGroup_B11 at hf
        refine lv_iload hx hb dMO_readGroup_11 (lv_at hl 6 rfl) ?_
        refine lv_bipush (v := (16 : Int32)) hx hb dMO_readGroup_13 (by decide) ?_
        refine ip_icmp_ge (tgt := 147) hx hb dMO_readGroup_15 rfl hf (fun hf => ?_) (fun hf => ?_)
        · have hx9 := ip_lp_x hr11 hf
          replace hl := lv_sub hl (l' := [(0, .ref (ad 0)), (1, .int p1), (2, .int p2), (3, .int z1), (4, .int z2), (5, .int z3)]) [0, 1, 2, 3, 4, 5] rfl
          cases hx9
          exact J147 ls H locs hl hP hD hS
        · refine lv_iload hx hb dMO_readGroup_18 (lv_at hl 6 rfl) ?_
          obtain ⟨z21, hc, hf⟩ := ip_b1_e hf
          refine ip_calli (va_runS (As := [.int z4]) (rest := []) ⟨hx, hb, hml, hown, hts⟩ (tMO_place (l := l) (dC := dC) (dI := dI) (ad := ad) (cI := cI) (ts := ts) (cZ := cZ) hc H.size) (va_cwS 1 hts (ip_gdS (own := kR_MO) (idx := 168) (y := yMO_place) kw4_127 kw4_128 kw1_13 kw4_129) rfl rfl rfl (by decide +kernel) ⟨Nat.le_of_ble_eq_true rfl, Nat.le_of_ble_eq_true rfl⟩) (ip_preS hK hP hD hS hA hZ [] rfl rfl) rfl rfl hl.1 rfl (lv_room (Nat.le_of_ble_eq_true rfl)) dMO_readGroup_20 ⟨Nat.le_of_ble_eq_true rfl, Nat.le_of_ble_eq_true rfl⟩) hP hD hS hA [] [0, 1, 2, 3, 4, 5, 6] [0, 1, 2, 3, 4, 5, 6] (wMO_readGroup ad cI cZ v_MO_size v_MO_loaded z5 v_MO_fault v_MO_hasGiven v_MO_hasPicture z6 z7 v_MO_leaves v_mload v_mgiven g8 g9 v_mlevels g10) rfl rfl rfl (by decide) rfl rfl (fun H locs hP hD hS => ?_)
          clear hc
          refine lv_istore (lv' := [(7, .int z21), (0, .ref (ad 0)), (1, .int p1), (2, .int p2), (3, .int z1), (4, .int z2), (5, .int z3), (6, .int z4)]) hx hb dMO_readGroup_23 hl (by decide) rfl (fun ls hl => ?_)
          refine lv_iload hx hb dMO_readGroup_25 (lv_at hl 0 rfl) ?_
          refine lv_iconst (v := (4 : Int32)) hx hb dMO_readGroup_27 (by decide) ?_
          refine lv_irem hx hb dMO_readGroup_28 (by decide) ?_
          obtain ⟨z22, hh, hf⟩ := ip_b1_e hf
          suffices J49 : ∀ (ls : Array Slot) (H : Heap) (locs : List Loc), lv_has ls 10 [(0, .ref (ad 0)), (1, .int p1), (2, .int p2), (3, .int z1), (4, .int z2), (5, .int z3), (6, .int z4), (7, .int z21)] → va_P (dC, dI) vwCl (wMO_readGroup ad cI cZ v_MO_size v_MO_loaded z5 v_MO_fault v_MO_hasGiven v_MO_hasPicture z6 z7 v_MO_leaves v_mload v_mgiven g8 g9 v_mlevels g10) H → va_D A (wMO_readGroup ad cI cZ v_MO_size v_MO_loaded z5 v_MO_fault v_MO_hasGiven v_MO_hasPicture z6 z7 v_MO_leaves v_mload v_mgiven g8 g9 v_mlevels g10) → va_S A s.heap H locs → W p l e rmMO_readGroup s m args below meth c H locs 0 0 Q (F0 m 49 ls [.int z22]) by
            replace hf := hh
            refine ip_if_le (tgt := 48) hx hb dMO_readGroup_29 rfl hf (fun hf => ?_) (fun hf => ?_)
            · refine lv_iconst (v := (0 : Int32)) hx hb dMO_readGroup_48 (by decide) ?_
              replace hl := lv_sub hl (l' := [(0, .ref (ad 0)), (1, .int p1), (2, .int p2), (3, .int z1), (4, .int z2), (5, .int z3), (6, .int z4), (7, .int z21)]) [1, 2, 3, 4, 5, 6, 7, 0] rfl
              cases hf
              exact J49 ls H locs hl hP hD hS
            · refine lv_aload_n hx hb dMO_readGroup_32 rfl (lv_at hl 1 rfl) ?_
              refine va_get (D := (dC, dI)) (ci := 12) (v := .ref (ad 14)) (C := kR_MO) (T := kT_MO) (N := 32) hx hb hts kin_MO hown hK hP 0 rfl rfl 22 (by decide) (hts _ (List.mem_cons_of_mem _ kw3_209)) (fun _ h9 => h9) rfl dMO_readGroup_33 ?_
              refine lv_iload hx hb dMO_readGroup_36 (lv_at hl 0 rfl) ?_
              refine lv_iconst (v := (1 : Int32)) hx hb dMO_readGroup_38 (by decide) ?_
              refine lv_isub hx hb dMO_readGroup_39 ?_
              refine ip_iald hx hb hK hP 6 0 rfl rfl dMO_readGroup_40 hf (fun z23 hf => ?_)
              refine ip_if_eq (tgt := 48) hx hb dMO_readGroup_41 rfl hf (fun hf => ?_) (fun hf => ?_)
              · refine lv_iconst (v := (0 : Int32)) hx hb dMO_readGroup_48 (by decide) ?_
                replace hl := lv_sub hl (l' := [(0, .ref (ad 0)), (1, .int p1), (2, .int p2), (3, .int z1), (4, .int z2), (5, .int z3), (6, .int z4), (7, .int z21)]) [1, 2, 3, 4, 5, 6, 7, 0] rfl
                cases hf
                exact J49 ls H locs hl hP hD hS
              · refine lv_iconst (v := (1 : Int32)) hx hb dMO_readGroup_44 (by decide) ?_
                refine lv_goto (tgt := 49) hx hb dMO_readGroup_45 rfl ?_
                replace hl := lv_sub hl (l' := [(0, .ref (ad 0)), (1, .int p1), (2, .int p2), (3, .int z1), (4, .int z2), (5, .int z3), (6, .int z4), (7, .int z21)]) [1, 2, 3, 4, 5, 6, 7, 0] rfl
                cases hf
                exact J49 ls H locs hl hP hD hS
          intro ls H locs hl hP hD hS
          clear hh
          refine lv_iload hx hb dMO_readGroup_49 (lv_at hl 7 rfl) ?_
          refine lv_iconst (v := (3 : Int32)) hx hb dMO_readGroup_51 (by decide) ?_
          obtain ⟨z24, hh, hf⟩ := ip_b1_e hf
          suffices J72 : ∀ (ls : Array Slot) (H : Heap) (locs : List Loc), lv_has ls 10 [(0, .ref (ad 0)), (1, .int p1), (2, .int p2), (3, .int z1), (4, .int z2), (5, .int z3), (6, .int z4), (7, .int z21)] → va_P (dC, dI) vwCl (wMO_readGroup ad cI cZ v_MO_size v_MO_loaded z5 v_MO_fault v_MO_hasGiven v_MO_hasPicture z6 z7 v_MO_leaves v_mload v_mgiven g8 g9 v_mlevels g10) H → va_D A (wMO_readGroup ad cI cZ v_MO_size v_MO_loaded z5 v_MO_fault v_MO_hasGiven v_MO_hasPicture z6 z7 v_MO_leaves v_mload v_mgiven g8 g9 v_mlevels g10) → va_S A s.heap H locs → W p l e rmMO_readGroup s m args below meth c H locs 0 0 Q (F0 m 72 ls [.int z24, .int z22]) by
            replace hf := hh
            refine ip_icmp_le (tgt := 71) hx hb dMO_readGroup_52 rfl hf (fun hf => ?_) (fun hf => ?_)
            · refine lv_iconst (v := (0 : Int32)) hx hb dMO_readGroup_71 (by decide) ?_
              cases hf
              exact J72 ls H locs hl hP hD hS
            · refine lv_aload_n hx hb dMO_readGroup_55 rfl (lv_at hl 0 rfl) ?_
              refine va_get (D := (dC, dI)) (ci := 12) (v := .ref (ad 14)) (C := kR_MO) (T := kT_MO) (N := 32) hx hb hts kin_MO hown hK hP 0 rfl rfl 22 (by decide) (hts _ (List.mem_cons_of_mem _ kw3_209)) (fun _ h9 => h9) rfl dMO_readGroup_56 ?_
              refine lv_iload hx hb dMO_readGroup_59 (lv_at hl 7 rfl) ?_
              refine lv_iconst (v := (4 : Int32)) hx hb dMO_readGroup_61 (by decide) ?_
              refine lv_isub hx hb dMO_readGroup_62 ?_
              refine ip_iald hx hb hK hP 6 0 rfl rfl dMO_readGroup_63 hf (fun z25 hf => ?_)
              refine ip_if_eq (tgt := 71) hx hb dMO_readGroup_64 rfl hf (fun hf => ?_) (fun hf => ?_)
              · refine lv_iconst (v := (0 : Int32)) hx hb dMO_readGroup_71 (by decide) ?_
                cases hf
                exact J72 ls H locs hl hP hD hS
              · refine lv_iconst (v := (1 : Int32)) hx hb dMO_readGroup_67 (by decide) ?_
                refine lv_goto (tgt := 72) hx hb dMO_readGroup_68 rfl ?_
                cases hf
                exact J72 ls H locs hl hP hD hS
          intro ls H locs hl hP hD hS
          clear hh
          refine lv_iadd hx hb dMO_readGroup_72 ?_
          refine ip_top hf (fun z26 hf => ?_)
          refine lv_istore (lv' := [(8, .int z26), (0, .ref (ad 0)), (1, .int p1), (2, .int p2), (3, .int z1), (4, .int z2), (5, .int z3), (6, .int z4), (7, .int z21)]) hx hb dMO_readGroup_73 hl (by decide) rfl (fun ls hl => ?_)
          refine lv_aload_n hx hb dMO_readGroup_75 rfl (lv_at hl 1 rfl) ?_
          refine va_get (D := (dC, dI)) (ci := 12) (v := .ref (ad 14)) (C := kR_MO) (T := kT_MO) (N := 32) hx hb hts kin_MO hown hK hP 0 rfl rfl 22 (by decide) (hts _ (List.mem_cons_of_mem _ kw3_209)) (fun _ h9 => h9) rfl dMO_readGroup_76 ?_
          refine lv_iload hx hb dMO_readGroup_79 (lv_at hl 8 rfl) ?_
          refine lv_aload_n hx hb dMO_readGroup_81 rfl (lv_at hl 1 rfl) ?_
          refine lv_bipush (v := (9 : Int32)) hx hb dMO_readGroup_82 (by decide) ?_
          refine lv_iload hx hb dMO_readGroup_84 (lv_at hl 0 rfl) ?_
          refine lv_iadd hx hb dMO_readGroup_86 ?_
          obtain ⟨z27, z28, z29, z30, g31, g32, hc, hf⟩ := ip_b6_e hf
          refine ip_calli (va_runV (As := [.int ((9 : Int32) + z26)]) (rest := [.int z21, .ref (ad 14)]) ⟨hx, hb, hml, hown, hts⟩ (tMO_bin (l := l) (dC := dC) (dI := dI) (ad := ad) (cI := cI) (ts := ts) (cZ := cZ) hc H.size) (cwV 1 hts (ip_gdV (own := kR_MO) (idx := 154) (C := kR_MO) (y := yMO_bin) kw4_107 kw4_109 kws_46 kw1_13 kw4_110) rfl rfl rfl (by decide +kernel) ⟨Nat.le_of_ble_eq_true rfl, Nat.le_of_ble_eq_true rfl⟩) (ip_preV hK hP hD hS hA hZ [0, 1, 3, 4] rfl rfl (ci := 12) (q0 := 0) rfl rfl) rfl rfl hl.1 rfl (lv_room (Nat.le_of_ble_eq_true rfl)) dMO_readGroup_87 ⟨Nat.le_of_ble_eq_true rfl, Nat.le_of_ble_eq_true rfl⟩) hP hD hS hA [0, 1, 3, 4] [2, 5, 6] [3, 4, 0, 5, 6, 1, 2] (wMO_readGroup ad cI cZ v_MO_size v_MO_loaded z28 v_MO_fault v_MO_hasGiven v_MO_hasPicture z29 z30 v_MO_leaves v_mload v_mgiven g31 g32 v_mlevels g10) rfl rfl rfl (by decide) rfl rfl (fun H locs hP hD hS => ?_)
          clear hc
          refine lv_iconst (v := (1 : Int32)) hx hb dMO_readGroup_90 (by decide) ?_
          obtain ⟨z33, z34, z35, z36, g37, g38, hh, hf⟩ := ip_b6_e hf
          suffices J102 : ∀ (ls : Array Slot) (H : Heap) (locs : List Loc), lv_has ls 10 [(0, .ref (ad 0)), (1, .int p1), (2, .int p2), (3, .int z1), (4, .int z2), (5, .int z3), (6, .int z4), (7, .int z21)] → va_P (dC, dI) vwCl (wMO_readGroup ad cI cZ v_MO_size v_MO_loaded z34 v_MO_fault v_MO_hasGiven v_MO_hasPicture z35 z36 v_MO_leaves v_mload v_mgiven g37 g38 v_mlevels g10) H → va_D A (wMO_readGroup ad cI cZ v_MO_size v_MO_loaded z34 v_MO_fault v_MO_hasGiven v_MO_hasPicture z35 z36 v_MO_leaves v_mload v_mgiven g37 g38 v_mlevels g10) → va_S A s.heap H locs → W p l e rmMO_readGroup s m args below meth c H locs 0 0 Q (F0 m 102 ls [.int z33, .int z21, .ref (ad 14)]) by
            replace hf := hh
            refine ip_icmp_ne (tgt := 101) hx hb dMO_readGroup_91 rfl hf (fun hf => ?_) (fun hf => ?_)
            · refine lv_iconst (v := (0 : Int32)) hx hb dMO_readGroup_101 (by decide) ?_
              replace hl := lv_sub hl (l' := [(0, .ref (ad 0)), (1, .int p1), (2, .int p2), (3, .int z1), (4, .int z2), (5, .int z3), (6, .int z4), (7, .int z21)]) [1, 2, 3, 4, 5, 6, 7, 8] rfl
              cases hf
              exact J102 ls H locs hl hP hD hS
            · refine lv_aload_n hx hb dMO_readGroup_94 rfl (lv_at hl 1 rfl) ?_
              obtain ⟨z39, z40, z41, z42, g43, g44, hc, hf⟩ := ip_b6_e hf
              refine ip_calli (va_runV (As := []) (rest := [.int z21, .ref (ad 14)]) ⟨hx, hb, hml, hown, hts⟩ (tMO_sizeOfLevel (l := l) (dC := dC) (dI := dI) (ad := ad) (cI := cI) (ts := ts) (cZ := cZ) hc H.size) (cwV 0 hts (ip_gdV (own := kR_MO) (idx := 171) (C := kR_MO) (y := yMO_sizeOfLevel) kw4_130 kw4_132 kws_51 kw1_13 kw4_133) rfl rfl rfl (by decide +kernel) ⟨Nat.le_of_ble_eq_true rfl, Nat.le_of_ble_eq_true rfl⟩) (ip_preV hK hP hD hS hA hZ [0, 1, 3, 4] rfl rfl (ci := 12) (q0 := 0) rfl rfl) rfl rfl hl.1 rfl (lv_room (Nat.le_of_ble_eq_true rfl)) dMO_readGroup_95 ⟨Nat.le_of_ble_eq_true rfl, Nat.le_of_ble_eq_true rfl⟩) hP hD hS hA [0, 1, 3, 4] [2, 5, 6] [3, 4, 0, 5, 6, 1, 2] (wMO_readGroup ad cI cZ v_MO_size v_MO_loaded z40 v_MO_fault v_MO_hasGiven v_MO_hasPicture z41 z42 v_MO_leaves v_mload v_mgiven g43 g44 v_mlevels g10) rfl rfl rfl (by decide) rfl rfl (fun H locs hP hD hS => ?_)
              clear hc
              refine lv_goto (tgt := 102) hx hb dMO_readGroup_98 rfl ?_
              replace hl := lv_sub hl (l' := [(0, .ref (ad 0)), (1, .int p1), (2, .int p2), (3, .int z1), (4, .int z2), (5, .int z3), (6, .int z4), (7, .int z21)]) [1, 2, 3, 4, 5, 6, 7, 8] rfl
              cases hf
              exact J102 ls H locs hl hP hD hS
          intro ls H locs hl hP hD hS
          clear hh
          refine ip_iast hx hb hK hP hD hS 6 0 rfl rfl (fun g45 => (wMO_readGroup ad cI cZ v_MO_size v_MO_loaded z34 v_MO_fault v_MO_hasGiven v_MO_hasPicture z35 z36 v_MO_leaves v_mload v_mgiven g37 g38 v_mlevels g45)) (fun _ => rfl) dMO_readGroup_102 hf (fun g45 H locs hf hP hD hS => ?_)
          refine lv_iload_n hx hb dMO_readGroup_103 rfl (lv_at hl 3 rfl) ?_
          refine lv_aload_n hx hb dMO_readGroup_104 rfl (lv_at hl 0 rfl) ?_
          refine va_get (D := (dC, dI)) (ci := 12) (v := .ref (ad 14)) (C := kR_MO) (T := kT_MO) (N := 32) hx hb hts kin_MO hown hK hP 0 rfl rfl 22 (by decide) (hts _ (List.mem_cons_of_mem _ kw3_209)) (fun _ h9 => h9) rfl dMO_readGroup_105 ?_
          refine lv_iload hx hb dMO_readGroup_108 (lv_at hl 7 rfl) ?_
          refine ip_iald hx hb hK hP 6 0 rfl rfl dMO_readGroup_110 hf (fun z46 hf => ?_)
          refine lv_iadd hx hb dMO_readGroup_111 ?_
          refine ip_top hf (fun z47 hf => ?_)
          refine lv_istore_n (lv' := [(3, .int z47), (0, .ref (ad 0)), (1, .int p1), (2, .int p2), (4, .int z2), (5, .int z3), (6, .int z4), (7, .int z21)]) hx hb dMO_readGroup_112 rfl hl (by decide) rfl (fun ls hl => ?_)
          refine lv_aload_n hx hb dMO_readGroup_113 rfl (lv_at hl 1 rfl) ?_
          refine va_get (D := (dC, dI)) (ci := 12) (v := .ref (ad 14)) (C := kR_MO) (T := kT_MO) (N := 32) hx hb hts kin_MO hown hK hP 0 rfl rfl 22 (by decide) (hts _ (List.mem_cons_of_mem _ kw3_209)) (fun _ h9 => h9) rfl dMO_readGroup_114 ?_
          refine lv_iload hx hb dMO_readGroup_117 (lv_at hl 7 rfl) ?_
          refine ip_iald hx hb hK hP 6 0 rfl rfl dMO_readGroup_119 hf (fun z48 hf => ?_)
          obtain ⟨z49, z50, hh, hf⟩ := ip_b2_e hf
          suffices J141 : ∀ (ls : Array Slot) (H : Heap) (locs : List Loc), lv_has ls 10 [(0, .ref (ad 0)), (1, .int p1), (2, .int p2), (3, .int z47), (4, .int z49), (5, .int z50), (6, .int z4)] → va_P (dC, dI) vwCl (wMO_readGroup ad cI cZ v_MO_size v_MO_loaded z34 v_MO_fault v_MO_hasGiven v_MO_hasPicture z35 z36 v_MO_leaves v_mload v_mgiven g37 g38 v_mlevels g45) H → va_D A (wMO_readGroup ad cI cZ v_MO_size v_MO_loaded z34 v_MO_fault v_MO_hasGiven v_MO_hasPicture z35 z36 v_MO_leaves v_mload v_mgiven g37 g38 v_mlevels g45) → va_S A s.heap H locs → W p l e rmMO_readGroup s m args below meth c H locs 0 0 Q (F0 m 141 ls []) by
            replace hf := hh
            refine ip_if_eq (tgt := 141) hx hb dMO_readGroup_120 rfl hf (fun hf => ?_) (fun hf => ?_)
            · replace hl := lv_sub hl (l' := [(0, .ref (ad 0)), (1, .int p1), (2, .int p2), (3, .int z47), (4, .int z2), (5, .int z3), (6, .int z4)]) [1, 2, 3, 0, 4, 5, 6] rfl
              cases hf
              exact J141 ls H locs hl hP hD hS
            · refine lv_iload hx hb dMO_readGroup_123 (lv_at hl 4 rfl) ?_
              obtain ⟨z51, hh, hf⟩ := ip_b1_e hf
              suffices J135 : ∀ (ls : Array Slot) (H : Heap) (locs : List Loc), lv_has ls 10 [(0, .ref (ad 0)), (1, .int p1), (2, .int p2), (3, .int z47), (6, .int z4)] → va_P (dC, dI) vwCl (wMO_readGroup ad cI cZ v_MO_size v_MO_loaded z34 v_MO_fault v_MO_hasGiven v_MO_hasPicture z35 z36 v_MO_leaves v_mload v_mgiven g37 g38 v_mlevels g45) H → va_D A (wMO_readGroup ad cI cZ v_MO_size v_MO_loaded z34 v_MO_fault v_MO_hasGiven v_MO_hasPicture z35 z36 v_MO_leaves v_mload v_mgiven g37 g38 v_mlevels g45) → va_S A s.heap H locs → W p l e rmMO_readGroup s m args below meth c H locs 0 0 Q (F0 m 135 ls [.int z51]) by
                replace hf := hh
                refine ip_if_ge (tgt := 133) hx hb dMO_readGroup_125 rfl hf (fun hf => ?_) (fun hf => ?_)
                · refine lv_iload hx hb dMO_readGroup_133 (lv_at hl 4 rfl) ?_
                  replace hl := lv_sub hl (l' := [(0, .ref (ad 0)), (1, .int p1), (2, .int p2), (3, .int z47), (6, .int z4)]) [1, 2, 3, 0, 6] rfl
                  cases hf
                  exact J135 ls H locs hl hP hD hS
                · refine lv_iload hx hb dMO_readGroup_128 (lv_at hl 6 rfl) ?_
                  refine lv_goto (tgt := 135) hx hb dMO_readGroup_130 rfl ?_
                  replace hl := lv_sub hl (l' := [(0, .ref (ad 0)), (1, .int p1), (2, .int p2), (3, .int z47), (6, .int z4)]) [1, 2, 3, 0, 6] rfl
                  cases hf
                  exact J135 ls H locs hl hP hD hS
              intro ls H locs hl hP hD hS
              clear hh
              refine lv_istore (lv' := [(4, .int z51), (0, .ref (ad 0)), (1, .int p1), (2, .int p2), (3, .int z47), (6, .int z4)]) hx hb dMO_readGroup_135 hl (by decide) rfl (fun ls hl => ?_)
              refine lv_iload hx hb dMO_readGroup_137 (lv_at hl 5 rfl) ?_
              refine lv_istore (lv' := [(5, .int z4), (4, .int z51), (0, .ref (ad 0)), (1, .int p1), (2, .int p2), (3, .int z47), (6, .int z4)]) hx hb dMO_readGroup_139 hl (by decide) rfl (fun ls hl => ?_)
              replace hl := lv_sub hl (l' := [(0, .ref (ad 0)), (1, .int p1), (2, .int p2), (3, .int z47), (4, .int z51), (5, .int z4), (6, .int z4)]) [2, 3, 4, 5, 1, 0, 6] rfl
              cases hf
              exact J141 ls H locs hl hP hD hS
          intro ls H locs hl hP hD hS
          clear hh
          refine ip_iinc (k0 := 6) (v0 := (1 : Int32)) (lv1 := fun z52 => [(6, .int z52), (0, .ref (ad 0)), (1, .int p1), (2, .int p2), (3, .int z47), (4, .int z49), (5, .int z50)]) hx hb dMO_readGroup_141 hl rfl (by decide) (by decide) (fun _ => rfl) hf (fun z52 ls hf hl => ?_)
          refine lv_goto (tgt := 11) hx hb dMO_readGroup_144 rfl ?_
          replace hl := lv_sub hl (l' := [(0, .ref (ad 0)), (1, .int p1), (2, .int p2), (3, .int z47), (4, .int z49), (5, .int z50), (6, .int z52)]) [1, 2, 3, 4, 5, 6, 0] rfl
          exact ih _ _ _ _ _ _ _ _ _ _ (ip_lp10_l hr11 hf) ls H locs hl hP hD hS
    exact L 1000 _ _ _ _ _ _ _ _ _ _ hL ls H locs hl hP hD hS
  intro ls H locs hl hP hD hS
  clear hL
  refine lv_aload_n hx hb dMO_readGroup_147 rfl (lv_at hl 0 rfl) ?_
  refine va_get (D := (dC, dI)) (ci := 12) (v := .ref (ad 3)) (C := kR_MO) (T := kT_MO) (N := 32) hx hb hts kin_MO hown hK hP 0 rfl rfl 6 (by decide) (hts _ (List.mem_cons_of_mem _ kw3_193)) (fun _ h9 => h9) rfl dMO_readGroup_148 ?_
  refine lv_iconst (v := (1 : Int32)) hx hb dMO_readGroup_151 (by decide) ?_
  refine ip_iald hx hb hK hP 2 0 rfl rfl dMO_readGroup_152 hf (fun z53 hf => ?_)
  refine lv_iconst (v := (1 : Int32)) hx hb dMO_readGroup_153 (by decide) ?_
  obtain ⟨z54, hh, hf⟩ := ip_b1_e hf
  suffices J171 : ∀ (ls : Array Slot) (H : Heap) (locs : List Loc), lv_has ls 10 [(0, .ref (ad 0)), (1, .int p1), (2, .int p2), (3, .int x11), (4, .int x12)] → va_P (dC, dI) vwCl (wMO_readGroup ad cI cZ v_MO_size v_MO_loaded x15 v_MO_fault v_MO_hasGiven v_MO_hasPicture x16 x17 v_MO_leaves v_mload v_mgiven y18 y19 v_mlevels y20) H → va_D A (wMO_readGroup ad cI cZ v_MO_size v_MO_loaded x15 v_MO_fault v_MO_hasGiven v_MO_hasPicture x16 x17 v_MO_leaves v_mload v_mgiven y18 y19 v_mlevels y20) → va_S A s.heap H locs → W p l e rmMO_readGroup s m args below meth c H locs 0 0 Q (F0 m 171 ls [.int z54]) by
    replace hf := hh
    refine ip_icmp_ne (tgt := 170) hx hb dMO_readGroup_154 rfl hf (fun hf => ?_) (fun hf => ?_)
    · refine lv_iconst (v := (0 : Int32)) hx hb dMO_readGroup_170 (by decide) ?_
      replace hl := lv_sub hl (l' := [(0, .ref (ad 0)), (1, .int p1), (2, .int p2), (3, .int x11), (4, .int x12)]) [0, 1, 2, 3, 4] rfl
      cases hf
      exact J171 ls H locs hl hP hD hS
    · refine lv_iload hx hb dMO_readGroup_157 (lv_at hl 5 rfl) ?_
      refine lv_iload hx hb dMO_readGroup_159 (lv_at hl 4 rfl) ?_
      refine lv_isub hx hb dMO_readGroup_161 ?_
      refine lv_iconst (v := (4 : Int32)) hx hb dMO_readGroup_162 (by decide) ?_
      refine ip_icmp_lt (tgt := 170) hx hb dMO_readGroup_163 rfl hf (fun hf => ?_) (fun hf => ?_)
      · refine lv_iconst (v := (0 : Int32)) hx hb dMO_readGroup_170 (by decide) ?_
        replace hl := lv_sub hl (l' := [(0, .ref (ad 0)), (1, .int p1), (2, .int p2), (3, .int x11), (4, .int x12)]) [0, 1, 2, 3, 4] rfl
        cases hf
        exact J171 ls H locs hl hP hD hS
      · refine lv_iconst (v := (1 : Int32)) hx hb dMO_readGroup_166 (by decide) ?_
        refine lv_goto (tgt := 171) hx hb dMO_readGroup_167 rfl ?_
        replace hl := lv_sub hl (l' := [(0, .ref (ad 0)), (1, .int p1), (2, .int p2), (3, .int x11), (4, .int x12)]) [0, 1, 2, 3, 4] rfl
        cases hf
        exact J171 ls H locs hl hP hD hS
  intro ls H locs hl hP hD hS
  clear hh
  refine lv_istore (lv' := [(6, .int z54), (0, .ref (ad 0)), (1, .int p1), (2, .int p2), (3, .int x11), (4, .int x12)]) hx hb dMO_readGroup_171 hl (by decide) rfl (fun ls hl => ?_)
  refine lv_iconst (v := (0 : Int32)) hx hb dMO_readGroup_173 (by decide) ?_
  refine lv_istore (lv' := [(7, .int (0 : Int32)), (6, .int z54), (0, .ref (ad 0)), (1, .int p1), (2, .int p2), (3, .int x11), (4, .int x12)]) hx hb dMO_readGroup_174 hl (by decide) rfl (fun ls hl => ?_)
  replace hl := lv_sub hl (l' := [(0, .ref (ad 0)), (1, .int p1), (2, .int p2), (3, .int x11), (4, .int x12), (6, .int z54), (7, .int (0 : Int32))]) [2, 3, 4, 5, 6, 1, 0] rfl
  obtain ⟨x60, x61, x62, y63, y64, hL, hf⟩ := ip_b5_e hf
  suffices J287 : ∀ (ls : Array Slot) (H : Heap) (locs : List Loc), lv_has ls 10 [] → va_P (dC, dI) vwCl (wMO_readGroup ad cI cZ v_MO_size v_MO_loaded x61 v_MO_fault v_MO_hasGiven v_MO_hasPicture x16 x62 v_MO_leaves v_mload v_mgiven y18 y63 y64 y20) H → va_D A (wMO_readGroup ad cI cZ v_MO_size v_MO_loaded x61 v_MO_fault v_MO_hasGiven v_MO_hasPicture x16 x62 v_MO_leaves v_mload v_mgiven y18 y63 y64 y20) → va_S A s.heap H locs → W p l e rmMO_readGroup s m args below meth c H locs 0 0 Q (F0 m 287 ls []) by
    have L : ∀ (n : Nat) (z55 : Int32) (z56 : Int32) (z57 : Int32) (g58 : Nat → Int32) (g59 : Nat → Int32), ip_lp5 (fMO_readGroup_B176 v_MO_size v_MO_loaded v_MO_fault v_MO_hasGiven v_MO_hasPicture v_MO_leaves v_mload p1 p2 x11 x12 x16 y20 z54) n z55 z56 z57 g58 g59 = some (x60, x61, x62, y63, y64) → ∀ (ls : Array Slot) (H : Heap) (locs : List Loc), lv_has ls 10 [(0, .ref (ad 0)), (1, .int p1), (2, .int p2), (3, .int x11), (4, .int x12), (6, .int z54), (7, .int z55)] → va_P (dC, dI) vwCl (wMO_readGroup ad cI cZ v_MO_size v_MO_loaded z56 v_MO_fault v_MO_hasGiven v_MO_hasPicture x16 z57 v_MO_leaves v_mload v_mgiven y18 g58 g59 y20) H → va_D A (wMO_readGroup ad cI cZ v_MO_size v_MO_loaded z56 v_MO_fault v_MO_hasGiven v_MO_hasPicture x16 z57 v_MO_leaves v_mload v_mgiven y18 g58 g59 y20) → va_S A s.heap H locs → W p l e rmMO_readGroup s m args below meth c H locs 0 0 Q (F0 m 176 ls []) := by
      intro n
      induction n with
      | zero => intro z55 z56 z57 g58 g59 hL; exact (ip_lp5_0 hL).elim
      | succ n ih =>
        intro z55 z56 z57 g58 g59 hL ls H locs hl hP hD hS
        clear hf
        obtain ⟨r9, hf, hr176⟩ := ip_lp5_s hL
        clear hL
        unfold fMO_readGroup_B176 at hf
        refine lv_iload hx hb dMO_readGroup_176 (lv_at hl 6 rfl) ?_
        refine lv_bipush (v := (16 : Int32)) hx hb dMO_readGroup_178 (by decide) ?_
        refine ip_icmp_ge (tgt := 287) hx hb dMO_readGroup_180 rfl hf (fun hf => ?_) (fun hf => ?_)
        · have hx9 := ip_lp_x hr176 hf
          replace hl := lv_sub hl (l' := []) [] rfl
          cases hx9
          exact J287 ls H locs hl hP hD hS
        · refine lv_iload hx hb dMO_readGroup_183 (lv_at hl 6 rfl) ?_
          obtain ⟨z65, hc, hf⟩ := ip_b1_e hf
          refine ip_calli (va_runS (As := [.int z55]) (rest := []) ⟨hx, hb, hml, hown, hts⟩ (tMO_place (l := l) (dC := dC) (dI := dI) (ad := ad) (cI := cI) (ts := ts) (cZ := cZ) hc H.size) (va_cwS 1 hts (ip_gdS (own := kR_MO) (idx := 168) (y := yMO_place) kw4_127 kw4_128 kw1_13 kw4_129) rfl rfl rfl (by decide +kernel) ⟨Nat.le_of_ble_eq_true rfl, Nat.le_of_ble_eq_true rfl⟩) (ip_preS hK hP hD hS hA hZ [] rfl rfl) rfl rfl hl.1 rfl (lv_room (Nat.le_of_ble_eq_true rfl)) dMO_readGroup_185 ⟨Nat.le_of_ble_eq_true rfl, Nat.le_of_ble_eq_true rfl⟩) hP hD hS hA [] [0, 1, 2, 3, 4, 5, 6] [0, 1, 2, 3, 4, 5, 6] (wMO_readGroup ad cI cZ v_MO_size v_MO_loaded z56 v_MO_fault v_MO_hasGiven v_MO_hasPicture x16 z57 v_MO_leaves v_mload v_mgiven y18 g58 g59 y20) rfl rfl rfl (by decide) rfl rfl (fun H locs hP hD hS => ?_)
          clear hc
          refine lv_istore (lv' := [(8, .int z65), (0, .ref (ad 0)), (1, .int p1), (2, .int p2), (3, .int x11), (4, .int x12), (6, .int z54), (7, .int z55)]) hx hb dMO_readGroup_188 hl (by decide) rfl (fun ls hl => ?_)
          refine lv_aload_n hx hb dMO_readGroup_190 rfl (lv_at hl 1 rfl) ?_
          refine va_get (D := (dC, dI)) (ci := 12) (v := .ref (ad 14)) (C := kR_MO) (T := kT_MO) (N := 32) hx hb hts kin_MO hown hK hP 0 rfl rfl 22 (by decide) (hts _ (List.mem_cons_of_mem _ kw3_209)) (fun _ h9 => h9) rfl dMO_readGroup_191 ?_
          refine lv_iload hx hb dMO_readGroup_194 (lv_at hl 0 rfl) ?_
          refine ip_iald hx hb hK hP 6 0 rfl rfl dMO_readGroup_196 hf (fun z66 hf => ?_)
          obtain ⟨z67, z68, z69, g70, hh, hf⟩ := ip_b4_e hf
          suffices J235 : ∀ (ls : Array Slot) (H : Heap) (locs : List Loc), lv_has ls 10 [(0, .ref (ad 0)), (1, .int p1), (2, .int p2), (3, .int x11), (4, .int x12), (6, .int z54), (7, .int z55), (8, .int z65)] → va_P (dC, dI) vwCl (wMO_readGroup ad cI cZ v_MO_size v_MO_loaded z68 v_MO_fault v_MO_hasGiven v_MO_hasPicture x16 z69 v_MO_leaves v_mload v_mgiven y18 g70 g59 y20) H → va_D A (wMO_readGroup ad cI cZ v_MO_size v_MO_loaded z68 v_MO_fault v_MO_hasGiven v_MO_hasPicture x16 z69 v_MO_leaves v_mload v_mgiven y18 g70 g59 y20) → va_S A s.heap H locs → W p l e rmMO_readGroup s m args below meth c H locs 0 0 Q (F0 m 235 ls [.int z67]) by
            replace hf := hh
            refine ip_if_eq (tgt := 234) hx hb dMO_readGroup_197 rfl hf (fun hf => ?_) (fun hf => ?_)
            · refine lv_iconst (v := (0 : Int32)) hx hb dMO_readGroup_234 (by decide) ?_
              replace hl := lv_sub hl (l' := [(0, .ref (ad 0)), (1, .int p1), (2, .int p2), (3, .int x11), (4, .int x12), (6, .int z54), (7, .int z55), (8, .int z65)]) [1, 2, 3, 4, 5, 6, 7, 0] rfl
              cases hf
              exact J235 ls H locs hl hP hD hS
            · refine lv_iload hx hb dMO_readGroup_200 (lv_at hl 6 rfl) ?_
              refine ip_if_eq (tgt := 222) hx hb dMO_readGroup_202 rfl hf (fun hf => ?_) (fun hf => ?_)
              · refine lv_aload_n hx hb dMO_readGroup_222 rfl (lv_at hl 1 rfl) ?_
                obtain ⟨z71, z72, z73, g74, hc, hf⟩ := ip_b4_e hf
                refine ip_calli (va_runV (As := []) (rest := []) ⟨hx, hb, hml, hown, hts⟩ (tMO_free (l := l) (dC := dC) (dI := dI) (ad := ad) (cI := cI) (ts := ts) (cZ := cZ) hc H.size) (cwV 0 hts (ip_gdV (own := kR_MO) (idx := 151) (C := kR_MO) (y := yMO_free) kw4_119 kw4_121 kws_49 kw1_13 kw4_122) rfl rfl rfl (by decide +kernel) ⟨Nat.le_of_ble_eq_true rfl, Nat.le_of_ble_eq_true rfl⟩) (ip_preV hK hP hD hS hA hZ [0, 1, 4] rfl rfl (ci := 12) (q0 := 0) rfl rfl) rfl rfl hl.1 rfl (lv_room (Nat.le_of_ble_eq_true rfl)) dMO_readGroup_223 ⟨Nat.le_of_ble_eq_true rfl, Nat.le_of_ble_eq_true rfl⟩) hP hD hS hA [0, 1, 4] [2, 3, 5, 6] [4, 5, 0, 1, 6, 2, 3] (wMO_readGroup ad cI cZ v_MO_size v_MO_loaded z72 v_MO_fault v_MO_hasGiven v_MO_hasPicture x16 z73 v_MO_leaves v_mload v_mgiven y18 g74 g59 y20) rfl rfl rfl (by decide) rfl rfl (fun H locs hP hD hS => ?_)
                clear hc
                refine lv_iconst (v := (1 : Int32)) hx hb dMO_readGroup_226 (by decide) ?_
                refine ip_icmp_ne (tgt := 234) hx hb dMO_readGroup_227 rfl hf (fun hf => ?_) (fun hf => ?_)
                · refine lv_iconst (v := (0 : Int32)) hx hb dMO_readGroup_234 (by decide) ?_
                  replace hl := lv_sub hl (l' := [(0, .ref (ad 0)), (1, .int p1), (2, .int p2), (3, .int x11), (4, .int x12), (6, .int z54), (7, .int z55), (8, .int z65)]) [1, 2, 3, 4, 5, 6, 7, 0] rfl
                  cases hf
                  exact J235 ls H locs hl hP hD hS
                · refine lv_iconst (v := (1 : Int32)) hx hb dMO_readGroup_230 (by decide) ?_
                  refine lv_goto (tgt := 235) hx hb dMO_readGroup_231 rfl ?_
                  replace hl := lv_sub hl (l' := [(0, .ref (ad 0)), (1, .int p1), (2, .int p2), (3, .int x11), (4, .int x12), (6, .int z54), (7, .int z55), (8, .int z65)]) [1, 2, 3, 4, 5, 6, 7, 0] rfl
                  cases hf
                  exact J235 ls H locs hl hP hD hS
              · refine lv_iload hx hb dMO_readGroup_205 (lv_at hl 7 rfl) ?_
                refine lv_iload hx hb dMO_readGroup_207 (lv_at hl 5 rfl) ?_
                refine ip_icmp_ne (tgt := 222) hx hb dMO_readGroup_209 rfl hf (fun hf => ?_) (fun hf => ?_)
                · refine lv_aload_n hx hb dMO_readGroup_222 rfl (lv_at hl 1 rfl) ?_
                  obtain ⟨z75, z76, z77, g78, hc, hf⟩ := ip_b4_e hf
                  refine ip_calli (va_runV (As := []) (rest := []) ⟨hx, hb, hml, hown, hts⟩ (tMO_free (l := l) (dC := dC) (dI := dI) (ad := ad) (cI := cI) (ts := ts) (cZ := cZ) hc H.size) (cwV 0 hts (ip_gdV (own := kR_MO) (idx := 151) (C := kR_MO) (y := yMO_free) kw4_119 kw4_121 kws_49 kw1_13 kw4_122) rfl rfl rfl (by decide +kernel) ⟨Nat.le_of_ble_eq_true rfl, Nat.le_of_ble_eq_true rfl⟩) (ip_preV hK hP hD hS hA hZ [0, 1, 4] rfl rfl (ci := 12) (q0 := 0) rfl rfl) rfl rfl hl.1 rfl (lv_room (Nat.le_of_ble_eq_true rfl)) dMO_readGroup_223 ⟨Nat.le_of_ble_eq_true rfl, Nat.le_of_ble_eq_true rfl⟩) hP hD hS hA [0, 1, 4] [2, 3, 5, 6] [4, 5, 0, 1, 6, 2, 3] (wMO_readGroup ad cI cZ v_MO_size v_MO_loaded z76 v_MO_fault v_MO_hasGiven v_MO_hasPicture x16 z77 v_MO_leaves v_mload v_mgiven y18 g78 g59 y20) rfl rfl rfl (by decide) rfl rfl (fun H locs hP hD hS => ?_)
                  clear hc
                  refine lv_iconst (v := (1 : Int32)) hx hb dMO_readGroup_226 (by decide) ?_
                  refine ip_icmp_ne (tgt := 234) hx hb dMO_readGroup_227 rfl hf (fun hf => ?_) (fun hf => ?_)
                  · refine lv_iconst (v := (0 : Int32)) hx hb dMO_readGroup_234 (by decide) ?_
                    replace hl := lv_sub hl (l' := [(0, .ref (ad 0)), (1, .int p1), (2, .int p2), (3, .int x11), (4, .int x12), (6, .int z54), (7, .int z55), (8, .int z65)]) [1, 2, 3, 4, 5, 6, 7, 0] rfl
                    cases hf
                    exact J235 ls H locs hl hP hD hS
                  · refine lv_iconst (v := (1 : Int32)) hx hb dMO_readGroup_230 (by decide) ?_
                    refine lv_goto (tgt := 235) hx hb dMO_readGroup_231 rfl ?_
                    replace hl := lv_sub hl (l' := [(0, .ref (ad 0)), (1, .int p1), (2, .int p2), (3, .int x11), (4, .int x12), (6, .int z54), (7, .int z55), (8, .int z65)]) [1, 2, 3, 4, 5, 6, 7, 0] rfl
                    cases hf
                    exact J235 ls H locs hl hP hD hS
                · refine lv_iload_n hx hb dMO_readGroup_212 rfl (lv_at hl 4 rfl) ?_
                  refine lv_iconst (v := (2 : Int32)) hx hb dMO_readGroup_213 (by decide) ?_
                  refine lv_irem hx hb dMO_readGroup_214 (by decide) ?_
                  refine lv_iconst (v := (1 : Int32)) hx hb dMO_readGroup_215 (by decide) ?_
                  refine ip_icmp_ne (tgt := 234) hx hb dMO_readGroup_216 rfl hf (fun hf => ?_) (fun hf => ?_)
                  · refine lv_iconst (v := (0 : Int32)) hx hb dMO_readGroup_234 (by decide) ?_
                    replace hl := lv_sub hl (l' := [(0, .ref (ad 0)), (1, .int p1), (2, .int p2), (3, .int x11), (4, .int x12), (6, .int z54), (7, .int z55), (8, .int z65)]) [1, 2, 3, 4, 5, 6, 7, 0] rfl
                    cases hf
                    exact J235 ls H locs hl hP hD hS
                  · refine lv_goto (tgt := 230) hx hb dMO_readGroup_219 rfl ?_
                    refine lv_iconst (v := (1 : Int32)) hx hb dMO_readGroup_230 (by decide) ?_
                    refine lv_goto (tgt := 235) hx hb dMO_readGroup_231 rfl ?_
                    replace hl := lv_sub hl (l' := [(0, .ref (ad 0)), (1, .int p1), (2, .int p2), (3, .int x11), (4, .int x12), (6, .int z54), (7, .int z55), (8, .int z65)]) [1, 2, 3, 4, 5, 6, 7, 0] rfl
                    cases hf
                    exact J235 ls H locs hl hP hD hS
          intro ls H locs hl hP hD hS
          clear hh
          refine lv_istore (lv' := [(9, .int z67), (0, .ref (ad 0)), (1, .int p1), (2, .int p2), (3, .int x11), (4, .int x12), (6, .int z54), (7, .int z55), (8, .int z65)]) hx hb dMO_readGroup_235 hl (by decide) rfl (fun ls hl => ?_)
          refine lv_aload_n hx hb dMO_readGroup_237 rfl (lv_at hl 1 rfl) ?_
          refine va_get (D := (dC, dI)) (ci := 12) (v := .ref (ad 13)) (C := kR_MO) (T := kT_MO) (N := 32) hx hb hts kin_MO hown hK hP 0 rfl rfl 21 (by decide) (hts _ (List.mem_cons_of_mem _ kw3_208)) (fun _ h9 => h9) rfl dMO_readGroup_238 ?_
          refine lv_bipush (v := (16 : Int32)) hx hb dMO_readGroup_241 (by decide) ?_
          refine lv_iload_n hx hb dMO_readGroup_243 rfl (lv_at hl 3 rfl) ?_
          refine lv_iload hx hb dMO_readGroup_244 (lv_at hl 8 rfl) ?_
          refine lv_iconst (v := (4 : Int32)) hx hb dMO_readGroup_246 (by decide) ?_
          refine lv_idiv hx hb dMO_readGroup_247 (by decide) ?_
          refine lv_iadd hx hb dMO_readGroup_248 ?_
          refine lv_imul hx hb dMO_readGroup_249 ?_
          refine lv_iload_n hx hb dMO_readGroup_250 rfl (lv_at hl 2 rfl) ?_
          refine lv_iadd hx hb dMO_readGroup_251 ?_
          refine lv_iload hx hb dMO_readGroup_252 (lv_at hl 8 rfl) ?_
          refine lv_iconst (v := (4 : Int32)) hx hb dMO_readGroup_254 (by decide) ?_
          refine lv_irem hx hb dMO_readGroup_255 (by decide) ?_
          refine lv_iadd hx hb dMO_readGroup_256 ?_
          refine lv_iload hx hb dMO_readGroup_257 (lv_at hl 0 rfl) ?_
          obtain ⟨z79, hh, hf⟩ := ip_b1_e hf
          suffices J280 : ∀ (ls : Array Slot) (H : Heap) (locs : List Loc), lv_has ls 10 [(0, .ref (ad 0)), (1, .int p1), (2, .int p2), (3, .int x11), (4, .int x12), (6, .int z54), (7, .int z55)] → va_P (dC, dI) vwCl (wMO_readGroup ad cI cZ v_MO_size v_MO_loaded z68 v_MO_fault v_MO_hasGiven v_MO_hasPicture x16 z69 v_MO_leaves v_mload v_mgiven y18 g70 g59 y20) H → va_D A (wMO_readGroup ad cI cZ v_MO_size v_MO_loaded z68 v_MO_fault v_MO_hasGiven v_MO_hasPicture x16 z69 v_MO_leaves v_mload v_mgiven y18 g70 g59 y20) → va_S A s.heap H locs → W p l e rmMO_readGroup s m args below meth c H locs 0 0 Q (F0 m 280 ls [.int z79, .int ((((16 : Int32) * (p2 + (z65 / (4 : Int32)))) + p1) + (z65 - z65 / (4 : Int32) * (4 : Int32))), .ref (ad 13)]) by
            replace hf := hh
            refine ip_if_eq (tgt := 273) hx hb dMO_readGroup_259 rfl hf (fun hf => ?_) (fun hf => ?_)
            · refine lv_aload_n hx hb dMO_readGroup_273 rfl (lv_at hl 1 rfl) ?_
              refine va_get (D := (dC, dI)) (ci := 12) (v := .ref (ad 14)) (C := kR_MO) (T := kT_MO) (N := 32) hx hb hts kin_MO hown hK hP 0 rfl rfl 22 (by decide) (hts _ (List.mem_cons_of_mem _ kw3_209)) (fun _ h9 => h9) rfl dMO_readGroup_274 ?_
              refine lv_iload hx hb dMO_readGroup_277 (lv_at hl 8 rfl) ?_
              refine ip_iald hx hb hK hP 6 0 rfl rfl dMO_readGroup_279 hf (fun z80 hf => ?_)
              replace hl := lv_sub hl (l' := [(0, .ref (ad 0)), (1, .int p1), (2, .int p2), (3, .int x11), (4, .int x12), (6, .int z54), (7, .int z55)]) [1, 2, 3, 4, 5, 6, 7] rfl
              cases hf
              exact J280 ls H locs hl hP hD hS
            · refine lv_aload_n hx hb dMO_readGroup_262 rfl (lv_at hl 1 rfl) ?_
              refine va_get (D := (dC, dI)) (ci := 12) (v := .ref (ad 14)) (C := kR_MO) (T := kT_MO) (N := 32) hx hb hts kin_MO hown hK hP 0 rfl rfl 22 (by decide) (hts _ (List.mem_cons_of_mem _ kw3_209)) (fun _ h9 => h9) rfl dMO_readGroup_263 ?_
              refine lv_iload hx hb dMO_readGroup_266 (lv_at hl 8 rfl) ?_
              refine ip_iald hx hb hK hP 6 0 rfl rfl dMO_readGroup_268 hf (fun z81 hf => ?_)
              refine lv_ineg hx hb dMO_readGroup_269 ?_
              refine lv_goto (tgt := 280) hx hb dMO_readGroup_270 rfl ?_
              replace hl := lv_sub hl (l' := [(0, .ref (ad 0)), (1, .int p1), (2, .int p2), (3, .int x11), (4, .int x12), (6, .int z54), (7, .int z55)]) [1, 2, 3, 4, 5, 6, 7] rfl
              cases hf
              exact J280 ls H locs hl hP hD hS
          intro ls H locs hl hP hD hS
          clear hh
          refine ip_iast hx hb hK hP hD hS 5 0 rfl rfl (fun g82 => (wMO_readGroup ad cI cZ v_MO_size v_MO_loaded z68 v_MO_fault v_MO_hasGiven v_MO_hasPicture x16 z69 v_MO_leaves v_mload v_mgiven y18 g70 g82 y20)) (fun _ => rfl) dMO_readGroup_280 hf (fun g82 H locs hf hP hD hS => ?_)
          refine ip_iinc (k0 := 6) (v0 := (1 : Int32)) (lv1 := fun z83 => [(7, .int z83), (0, .ref (ad 0)), (1, .int p1), (2, .int p2), (3, .int x11), (4, .int x12), (6, .int z54)]) hx hb dMO_readGroup_281 hl rfl (by decide) (by decide) (fun _ => rfl) hf (fun z83 ls hf hl => ?_)
          refine lv_goto (tgt := 176) hx hb dMO_readGroup_284 rfl ?_
          replace hl := lv_sub hl (l' := [(0, .ref (ad 0)), (1, .int p1), (2, .int p2), (3, .int x11), (4, .int x12), (6, .int z54), (7, .int z83)]) [1, 2, 3, 4, 5, 6, 0] rfl
          exact ih _ _ _ _ _ (ip_lp5_l hr176 hf) ls H locs hl hP hD hS
    exact L 1000 _ _ _ _ _ hL ls H locs hl hP hD hS
  intro ls H locs hl hP hD hS
  clear hL
  cases hf
  exact hret H locs 287 ls dMO_readGroup_287 hP hD hS
