set_option maxHeartbeats 4000000 in
set_option maxRecDepth 100000 in
theorem tMO_without {l : Launch} {dC : Nat → ClassId} {dI : Nat → Nat → Nat} {cI cZ : ClassId} {ad : Nat → Nat} {ts : ip_TT}  {p1 : Int32} {r0 : Int32}  (hf : fMO_without p1 = some r0) : ip_Mi l yMO_without wsMO_without rmMO_without (dC, dI) vwCl [(cI, .int), (cZ, .boolean)] ts [.int p1] (wMO_without ad cI cZ) (wMO_without ad cI cZ) r0 := by
  refine ip_startI (cc := cMO_without) (maxL := 1) (by decide) rfl (Nat.le_of_ble_eq_true rfl) ?_
  intro p e s m args below meth c Q A ls hx hb hml hts hown hK hP hD hS hA hZ hl hret
  replace hl : lv_has ls 1 [(0, .int p1)] := hl
  unfold fMO_without at hf
  suffices J0 : ∀ (ls : Array Slot) (H : Heap) (locs : List Loc), lv_has ls 1 [(0, .int p1)] → va_P (dC, dI) vwCl (wMO_without ad cI cZ) H → va_D A (wMO_without ad cI cZ) → va_S A s.heap H locs → W p l e rmMO_without s m args below meth c H locs 0 0 Q (F0 m 0 ls []) by exact J0 ls s.heap [] hl hP hD hS
  clear hP hD hS hl
  intro ls H locs hl hP hD hS
  refine lv_iload_n hx hb dMO_without_0 rfl (lv_at hl 0 rfl) ?_
  refine ip_if_ge (tgt := 9) hx hb dMO_without_1 rfl hf (fun hf => ?_) (fun hf => ?_)
  · refine lv_iload_n hx hb dMO_without_9 rfl (lv_at hl 0 rfl) ?_
    cases hf
    exact hret H locs 10 ls _ dMO_without_10 rfl hP hD hS
  · refine lv_iload_n hx hb dMO_without_4 rfl (lv_at hl 0 rfl) ?_
    refine lv_ineg hx hb dMO_without_5 ?_
    refine lv_goto (tgt := 10) hx hb dMO_without_6 rfl ?_
    cases hf
    exact hret H locs 10 ls _ dMO_without_10 rfl hP hD hS
set_option maxHeartbeats 4000000 in
set_option maxRecDepth 100000 in
theorem tMO_smoothEdge {l : Launch} {dC : Nat → ClassId} {dI : Nat → Nat → Nat} {cI cZ : ClassId} {ad : Nat → Nat} {ts : ip_TT} {v_MO_size : Int32} {v_MO_loaded : Int32} {v_MO_at : Int32} {v_MO_fault : Int32} {v_MO_hasGiven : Int32} {v_MO_hasPicture : Int32} {v_MO_range : Int32} {v_MO_value : Int32} {v_MO_leaves : Int32} {v_mgiven : Nat → Int32} {v_mlast : Nat → Int32} {p1 : Int32} {p2 : Int32} {nv_mlast : Nat → Int32} (hf : fMO_smoothEdge v_MO_size v_MO_loaded v_MO_at v_MO_fault v_MO_hasGiven v_MO_hasPicture v_MO_range v_MO_value v_MO_leaves v_mgiven v_mlast p1 p2 = some nv_mlast) : ip_Mv l yMO_smoothEdge wsMO_smoothEdge rmMO_smoothEdge (dC, dI) vwCl [(cI, .int), (cZ, .boolean)] ts [.ref (ad 0), .int p1, .int p2] (wMO_smoothEdge ad cI cZ v_MO_size v_MO_loaded v_MO_at v_MO_fault v_MO_hasGiven v_MO_hasPicture v_MO_range v_MO_value v_MO_leaves v_mgiven v_mlast) (wMO_smoothEdge ad cI cZ v_MO_size v_MO_loaded v_MO_at v_MO_fault v_MO_hasGiven v_MO_hasPicture v_MO_range v_MO_value v_MO_leaves v_mgiven nv_mlast) := by
  refine ip_startV (cc := cMO_smoothEdge) (maxL := 9) (by decide) rfl (Nat.le_of_ble_eq_true rfl) ?_
  intro p e s m args below meth c Q A ls hx hb hml hts hown hK hP hD hS hA hZ hl hret
  replace hl : lv_has ls 9 [(0, .ref (ad 0)), (1, .int p1), (2, .int p2)] := hl
  unfold fMO_smoothEdge at hf
  suffices J0 : ∀ (ls : Array Slot) (H : Heap) (locs : List Loc), lv_has ls 9 [(0, .ref (ad 0)), (1, .int p1), (2, .int p2)] → va_P (dC, dI) vwCl (wMO_smoothEdge ad cI cZ v_MO_size v_MO_loaded v_MO_at v_MO_fault v_MO_hasGiven v_MO_hasPicture v_MO_range v_MO_value v_MO_leaves v_mgiven v_mlast) H → va_D A (wMO_smoothEdge ad cI cZ v_MO_size v_MO_loaded v_MO_at v_MO_fault v_MO_hasGiven v_MO_hasPicture v_MO_range v_MO_value v_MO_leaves v_mgiven v_mlast) → va_S A s.heap H locs → W p l e rmMO_smoothEdge s m args below meth c H locs 0 0 Q (F0 m 0 ls []) by exact J0 ls s.heap [] hl hP hD hS
  clear hP hD hS hl
  intro ls H locs hl hP hD hS
  refine lv_aload_n hx hb dMO_smoothEdge_0 rfl (lv_at hl 0 rfl) ?_
  refine va_get (D := (dC, dI)) (ci := 12) (v := .ref (ad 17)) (C := kR_MO) (T := kT_MO) (N := 32) hx hb hts kin_MO hown hK hP 0 rfl rfl 25 (by decide) (hts _ (List.mem_cons_of_mem _ kw3_212)) (fun _ h9 => h9) rfl dMO_smoothEdge_1 ?_
  refine lv_iload_n hx hb dMO_smoothEdge_4 rfl (lv_at hl 1 rfl) ?_
  refine ip_iald hx hb hK hP 2 0 rfl rfl dMO_smoothEdge_5 hf (fun z1 hf => ?_)
  refine lv_istore_n (lv' := [(3, .int z1), (0, .ref (ad 0)), (1, .int p1), (2, .int p2)]) hx hb dMO_smoothEdge_6 rfl hl (by decide) rfl (fun ls hl => ?_)
  refine lv_aload_n hx hb dMO_smoothEdge_7 rfl (lv_at hl 1 rfl) ?_
  refine va_get (D := (dC, dI)) (ci := 12) (v := .ref (ad 17)) (C := kR_MO) (T := kT_MO) (N := 32) hx hb hts kin_MO hown hK hP 0 rfl rfl 25 (by decide) (hts _ (List.mem_cons_of_mem _ kw3_212)) (fun _ h9 => h9) rfl dMO_smoothEdge_8 ?_
  refine lv_iload_n hx hb dMO_smoothEdge_11 rfl (lv_at hl 2 rfl) ?_
  refine lv_iload_n hx hb dMO_smoothEdge_12 rfl (lv_at hl 3 rfl) ?_
  refine lv_isub hx hb dMO_smoothEdge_13 ?_
  refine ip_iald hx hb hK hP 2 0 rfl rfl dMO_smoothEdge_14 hf (fun z2 hf => ?_)
  refine lv_istore (lv' := [(4, .int z2), (3, .int z1), (0, .ref (ad 0)), (1, .int p1), (2, .int p2)]) hx hb dMO_smoothEdge_15 hl (by decide) rfl (fun ls hl => ?_)
  refine lv_aload_n hx hb dMO_smoothEdge_17 rfl (lv_at hl 2 rfl) ?_
  refine va_get (D := (dC, dI)) (ci := 12) (v := .ref (ad 17)) (C := kR_MO) (T := kT_MO) (N := 32) hx hb hts kin_MO hown hK hP 0 rfl rfl 25 (by decide) (hts _ (List.mem_cons_of_mem _ kw3_212)) (fun _ h9 => h9) rfl dMO_smoothEdge_18 ?_
  refine lv_iload_n hx hb dMO_smoothEdge_21 rfl (lv_at hl 3 rfl) ?_
  refine lv_iload_n hx hb dMO_smoothEdge_22 rfl (lv_at hl 4 rfl) ?_
  refine lv_iadd hx hb dMO_smoothEdge_23 ?_
  refine ip_iald hx hb hK hP 2 0 rfl rfl dMO_smoothEdge_24 hf (fun z3 hf => ?_)
  refine lv_istore (lv' := [(5, .int z3), (4, .int z2), (3, .int z1), (0, .ref (ad 0)), (1, .int p1), (2, .int p2)]) hx hb dMO_smoothEdge_25 hl (by decide) rfl (fun ls hl => ?_)
  refine lv_aload_n hx hb dMO_smoothEdge_27 rfl (lv_at hl 3 rfl) ?_
  refine va_get (D := (dC, dI)) (ci := 12) (v := .ref (ad 17)) (C := kR_MO) (T := kT_MO) (N := 32) hx hb hts kin_MO hown hK hP 0 rfl rfl 25 (by decide) (hts _ (List.mem_cons_of_mem _ kw3_212)) (fun _ h9 => h9) rfl dMO_smoothEdge_28 ?_
  refine lv_iload_n hx hb dMO_smoothEdge_31 rfl (lv_at hl 4 rfl) ?_
  refine lv_iconst (v := (2 : Int32)) hx hb dMO_smoothEdge_32 (by decide) ?_
  refine lv_iload_n hx hb dMO_smoothEdge_33 rfl (lv_at hl 5 rfl) ?_
  refine lv_imul hx hb dMO_smoothEdge_34 ?_
  refine lv_iadd hx hb dMO_smoothEdge_35 ?_
  refine ip_iald hx hb hK hP 2 0 rfl rfl dMO_smoothEdge_36 hf (fun z4 hf => ?_)
  refine lv_istore (lv' := [(6, .int z4), (5, .int z3), (4, .int z2), (3, .int z1), (0, .ref (ad 0)), (1, .int p1), (2, .int p2)]) hx hb dMO_smoothEdge_37 hl (by decide) rfl (fun ls hl => ?_)
  refine lv_bipush (v := (9 : Int32)) hx hb dMO_smoothEdge_39 (by decide) ?_
  refine lv_iload hx hb dMO_smoothEdge_41 (lv_at hl 1 rfl) ?_
  refine lv_iload_n hx hb dMO_smoothEdge_43 rfl (lv_at hl 3 rfl) ?_
  refine lv_isub hx hb dMO_smoothEdge_44 ?_
  refine lv_imul hx hb dMO_smoothEdge_45 ?_
  refine lv_iconst (v := (3 : Int32)) hx hb dMO_smoothEdge_46 (by decide) ?_
  refine lv_iload hx hb dMO_smoothEdge_47 (lv_at hl 0 rfl) ?_
  refine lv_iload hx hb dMO_smoothEdge_49 (lv_at hl 2 rfl) ?_
  refine lv_isub hx hb dMO_smoothEdge_51 ?_
  refine lv_imul hx hb dMO_smoothEdge_52 ?_
  refine lv_isub hx hb dMO_smoothEdge_53 ?_
  refine lv_bipush (v := (8 : Int32)) hx hb dMO_smoothEdge_54 (by decide) ?_
  refine lv_iadd hx hb dMO_smoothEdge_56 ?_
  refine lv_iconst (v := (4 : Int32)) hx hb dMO_smoothEdge_57 (by decide) ?_
  refine lv_ishr hx hb dMO_smoothEdge_58 ?_
  refine ip_top hf (fun z5 hf => ?_)
  refine lv_istore (lv' := [(7, .int z5), (6, .int z4), (5, .int z3), (4, .int z2), (3, .int z1), (0, .ref (ad 0)), (1, .int p1), (2, .int p2)]) hx hb dMO_smoothEdge_59 hl (by decide) rfl (fun ls hl => ?_)
  refine lv_iconst (v := (1 : Int32)) hx hb dMO_smoothEdge_61 (by decide) ?_
  refine lv_aload_n hx hb dMO_smoothEdge_62 rfl (lv_at hl 5 rfl) ?_
  refine va_get (D := (dC, dI)) (ci := 12) (v := .ref (ad 3)) (C := kR_MO) (T := kT_MO) (N := 32) hx hb hts kin_MO hown hK hP 0 rfl rfl 6 (by decide) (hts _ (List.mem_cons_of_mem _ kw3_193)) (fun _ h9 => h9) rfl dMO_smoothEdge_63 ?_
  refine lv_iconst (v := (0 : Int32)) hx hb dMO_smoothEdge_66 (by decide) ?_
  refine ip_iald hx hb hK hP 1 0 rfl rfl dMO_smoothEdge_67 hf (fun z6 hf => ?_)
  refine lv_bipush (v := (8 : Int32)) hx hb dMO_smoothEdge_68 (by decide) ?_
  refine lv_idiv hx hb dMO_smoothEdge_70 (by decide) ?_
  refine lv_iadd hx hb dMO_smoothEdge_71 ?_
  refine ip_top hf (fun z7 hf => ?_)
  refine lv_istore (lv' := [(8, .int z7), (7, .int z5), (6, .int z4), (5, .int z3), (4, .int z2), (3, .int z1), (0, .ref (ad 0)), (1, .int p1), (2, .int p2)]) hx hb dMO_smoothEdge_72 hl (by decide) rfl (fun ls hl => ?_)
  refine lv_iload hx hb dMO_smoothEdge_74 (lv_at hl 4 rfl) ?_
  refine lv_iload_n hx hb dMO_smoothEdge_76 rfl (lv_at hl 5 rfl) ?_
  refine lv_isub hx hb dMO_smoothEdge_77 ?_
  obtain ⟨z8, hc, hf⟩ := ip_b1_e hf
  refine ip_calli (va_runS (As := [.int (z2 - z1)]) (rest := []) ⟨hx, hb, hml, hown, hts⟩ (tMO_without (l := l) (dC := dC) (dI := dI) (ad := ad) (cI := cI) (ts := ts) (cZ := cZ) hc H.size) (va_cwS 1 hts (ip_gdS (own := kR_MO) (idx := 215) (y := yMO_without) kw4_185 kw4_186 kw1_13 kw4_187) rfl rfl rfl (by decide +kernel) ⟨Nat.le_of_ble_eq_true rfl, Nat.le_of_ble_eq_true rfl⟩) (ip_preS hK hP hD hS hA hZ [] rfl rfl) rfl rfl hl.1 rfl (lv_room (Nat.le_of_ble_eq_true rfl)) dMO_smoothEdge_78 ⟨Nat.le_of_ble_eq_true rfl, Nat.le_of_ble_eq_true rfl⟩) hP hD hS hA [] [0, 1, 2] [0, 1, 2] (wMO_smoothEdge ad cI cZ v_MO_size v_MO_loaded v_MO_at v_MO_fault v_MO_hasGiven v_MO_hasPicture v_MO_range v_MO_value v_MO_leaves v_mgiven v_mlast) rfl rfl rfl (by decide) rfl rfl (fun H locs hP hD hS => ?_)
  clear hc
  refine lv_iload hx hb dMO_smoothEdge_81 (lv_at hl 2 rfl) ?_
  refine lv_iload hx hb dMO_smoothEdge_83 (lv_at hl 3 rfl) ?_
  refine lv_isub hx hb dMO_smoothEdge_85 ?_
  obtain ⟨z9, hc, hf⟩ := ip_b1_e hf
  refine ip_calli (va_runS (As := [.int (z4 - z3)]) (rest := [.int z8]) ⟨hx, hb, hml, hown, hts⟩ (tMO_without (l := l) (dC := dC) (dI := dI) (ad := ad) (cI := cI) (ts := ts) (cZ := cZ) hc H.size) (va_cwS 1 hts (ip_gdS (own := kR_MO) (idx := 215) (y := yMO_without) kw4_185 kw4_186 kw1_13 kw4_187) rfl rfl rfl (by decide +kernel) ⟨Nat.le_of_ble_eq_true rfl, Nat.le_of_ble_eq_true rfl⟩) (ip_preS hK hP hD hS hA hZ [] rfl rfl) rfl rfl hl.1 rfl (lv_room (Nat.le_of_ble_eq_true rfl)) dMO_smoothEdge_86 ⟨Nat.le_of_ble_eq_true rfl, Nat.le_of_ble_eq_true rfl⟩) hP hD hS hA [] [0, 1, 2] [0, 1, 2] (wMO_smoothEdge ad cI cZ v_MO_size v_MO_loaded v_MO_at v_MO_fault v_MO_hasGiven v_MO_hasPicture v_MO_range v_MO_value v_MO_leaves v_mgiven v_mlast) rfl rfl rfl (by decide) rfl rfl (fun H locs hP hD hS => ?_)
  clear hc
  refine lv_iadd hx hb dMO_smoothEdge_89 ?_
  refine lv_aload_n hx hb dMO_smoothEdge_90 rfl (lv_at hl 6 rfl) ?_
  refine va_get (D := (dC, dI)) (ci := 12) (v := .ref (ad 3)) (C := kR_MO) (T := kT_MO) (N := 32) hx hb hts kin_MO hown hK hP 0 rfl rfl 6 (by decide) (hts _ (List.mem_cons_of_mem _ kw3_193)) (fun _ h9 => h9) rfl dMO_smoothEdge_91 ?_
  refine lv_iconst (v := (0 : Int32)) hx hb dMO_smoothEdge_94 (by decide) ?_
  refine ip_iald hx hb hK hP 1 0 rfl rfl dMO_smoothEdge_95 hf (fun z10 hf => ?_)
  refine ip_icmp_ge (tgt := 112) hx hb dMO_smoothEdge_96 rfl hf (fun hf => ?_) (fun hf => ?_)
  · cases hf
    exact hret H locs 112 ls dMO_smoothEdge_112 hP hD hS
  · refine lv_iload hx hb dMO_smoothEdge_99 (lv_at hl 1 rfl) ?_
    obtain ⟨z11, hc, hf⟩ := ip_b1_e hf
    refine ip_calli (va_runS (As := [.int z5]) (rest := []) ⟨hx, hb, hml, hown, hts⟩ (tMO_without (l := l) (dC := dC) (dI := dI) (ad := ad) (cI := cI) (ts := ts) (cZ := cZ) hc H.size) (va_cwS 1 hts (ip_gdS (own := kR_MO) (idx := 215) (y := yMO_without) kw4_185 kw4_186 kw1_13 kw4_187) rfl rfl rfl (by decide +kernel) ⟨Nat.le_of_ble_eq_true rfl, Nat.le_of_ble_eq_true rfl⟩) (ip_preS hK hP hD hS hA hZ [] rfl rfl) rfl rfl hl.1 rfl (lv_room (Nat.le_of_ble_eq_true rfl)) dMO_smoothEdge_101 ⟨Nat.le_of_ble_eq_true rfl, Nat.le_of_ble_eq_true rfl⟩) hP hD hS hA [] [0, 1, 2] [0, 1, 2] (wMO_smoothEdge ad cI cZ v_MO_size v_MO_loaded v_MO_at v_MO_fault v_MO_hasGiven v_MO_hasPicture v_MO_range v_MO_value v_MO_leaves v_mgiven v_mlast) rfl rfl rfl (by decide) rfl rfl (fun H locs hP hD hS => ?_)
    clear hc
    refine lv_bipush (v := (10 : Int32)) hx hb dMO_smoothEdge_104 (by decide) ?_
    refine lv_iload hx hb dMO_smoothEdge_106 (lv_at hl 0 rfl) ?_
    refine lv_imul hx hb dMO_smoothEdge_108 ?_
    refine ip_icmp_lt (tgt := 113) hx hb dMO_smoothEdge_109 rfl hf (fun hf => ?_) (fun hf => ?_)
    · refine lv_aload_n hx hb dMO_smoothEdge_113 rfl (lv_at hl 6 rfl) ?_
      refine va_get (D := (dC, dI)) (ci := 12) (v := .ref (ad 17)) (C := kR_MO) (T := kT_MO) (N := 32) hx hb hts kin_MO hown hK hP 0 rfl rfl 25 (by decide) (hts _ (List.mem_cons_of_mem _ kw3_212)) (fun _ h9 => h9) rfl dMO_smoothEdge_114 ?_
      refine lv_iload_n hx hb dMO_smoothEdge_117 rfl (lv_at hl 7 rfl) ?_
      refine lv_iload_n hx hb dMO_smoothEdge_118 rfl (lv_at hl 5 rfl) ?_
      refine lv_iload hx hb dMO_smoothEdge_119 (lv_at hl 1 rfl) ?_
      refine lv_iload hx hb dMO_smoothEdge_121 (lv_at hl 0 rfl) ?_
      refine lv_ineg hx hb dMO_smoothEdge_123 ?_
      refine lv_iload hx hb dMO_smoothEdge_124 (lv_at hl 0 rfl) ?_
      obtain ⟨z12, hc, hf⟩ := ip_b1_e hf
      refine ip_calli (va_runS (As := [.int z5, .int (-z7), .int z7]) (rest := [.int z1, .int p1, .ref (ad 17)]) ⟨hx, hb, hml, hown, hts⟩ (tMO_held (l := l) (dC := dC) (dI := dI) (ad := ad) (cI := cI) (ts := ts) (cZ := cZ) hc H.size) (va_cwS 3 hts (ip_gdS (own := kR_MO) (idx := 174) (y := yMO_held) kw4_170 kw4_171 kw1_13 kw4_172) rfl rfl rfl (by decide +kernel) ⟨Nat.le_of_ble_eq_true rfl, Nat.le_of_ble_eq_true rfl⟩) (ip_preS hK hP hD hS hA hZ [] rfl rfl) rfl rfl hl.1 rfl (lv_room (Nat.le_of_ble_eq_true rfl)) dMO_smoothEdge_126 ⟨Nat.le_of_ble_eq_true rfl, Nat.le_of_ble_eq_true rfl⟩) hP hD hS hA [] [0, 1, 2] [0, 1, 2] (wMO_smoothEdge ad cI cZ v_MO_size v_MO_loaded v_MO_at v_MO_fault v_MO_hasGiven v_MO_hasPicture v_MO_range v_MO_value v_MO_leaves v_mgiven v_mlast) rfl rfl rfl (by decide) rfl rfl (fun H locs hP hD hS => ?_)
      clear hc
      refine lv_iadd hx hb dMO_smoothEdge_129 ?_
      refine lv_iconst (v := (0 : Int32)) hx hb dMO_smoothEdge_130 (by decide) ?_
      refine lv_sipush (v := (255 : Int32)) hx hb dMO_smoothEdge_131 (by decide) ?_
      obtain ⟨z13, hc, hf⟩ := ip_b1_e hf
      refine ip_calli (va_runS (As := [.int (z1 + z12), .int (0 : Int32), .int (255 : Int32)]) (rest := [.int p1, .ref (ad 17)]) ⟨hx, hb, hml, hown, hts⟩ (tMO_held (l := l) (dC := dC) (dI := dI) (ad := ad) (cI := cI) (ts := ts) (cZ := cZ) hc H.size) (va_cwS 3 hts (ip_gdS (own := kR_MO) (idx := 174) (y := yMO_held) kw4_170 kw4_171 kw1_13 kw4_172) rfl rfl rfl (by decide +kernel) ⟨Nat.le_of_ble_eq_true rfl, Nat.le_of_ble_eq_true rfl⟩) (ip_preS hK hP hD hS hA hZ [] rfl rfl) rfl rfl hl.1 rfl (lv_room (Nat.le_of_ble_eq_true rfl)) dMO_smoothEdge_134 ⟨Nat.le_of_ble_eq_true rfl, Nat.le_of_ble_eq_true rfl⟩) hP hD hS hA [] [0, 1, 2] [0, 1, 2] (wMO_smoothEdge ad cI cZ v_MO_size v_MO_loaded v_MO_at v_MO_fault v_MO_hasGiven v_MO_hasPicture v_MO_range v_MO_value v_MO_leaves v_mgiven v_mlast) rfl rfl rfl (by decide) rfl rfl (fun H locs hP hD hS => ?_)
      clear hc
      refine ip_iast hx hb hK hP hD hS 2 0 rfl rfl (fun g14 => (wMO_smoothEdge ad cI cZ v_MO_size v_MO_loaded v_MO_at v_MO_fault v_MO_hasGiven v_MO_hasPicture v_MO_range v_MO_value v_MO_leaves v_mgiven g14)) (fun _ => rfl) dMO_smoothEdge_137 hf (fun g14 H locs hf hP hD hS => ?_)
      refine lv_aload_n hx hb dMO_smoothEdge_138 rfl (lv_at hl 6 rfl) ?_
      refine va_get (D := (dC, dI)) (ci := 12) (v := .ref (ad 17)) (C := kR_MO) (T := kT_MO) (N := 32) hx hb hts kin_MO hown hK hP 0 rfl rfl 25 (by decide) (hts _ (List.mem_cons_of_mem _ kw3_212)) (fun _ h9 => h9) rfl dMO_smoothEdge_139 ?_
      refine lv_iload_n hx hb dMO_smoothEdge_142 rfl (lv_at hl 7 rfl) ?_
      refine lv_iload_n hx hb dMO_smoothEdge_143 rfl (lv_at hl 8 rfl) ?_
      refine lv_iadd hx hb dMO_smoothEdge_144 ?_
      refine lv_iload hx hb dMO_smoothEdge_145 (lv_at hl 3 rfl) ?_
      refine lv_iload hx hb dMO_smoothEdge_147 (lv_at hl 1 rfl) ?_
      refine lv_iload hx hb dMO_smoothEdge_149 (lv_at hl 0 rfl) ?_
      refine lv_ineg hx hb dMO_smoothEdge_151 ?_
      refine lv_iload hx hb dMO_smoothEdge_152 (lv_at hl 0 rfl) ?_
      obtain ⟨z15, hc, hf⟩ := ip_b1_e hf
      refine ip_calli (va_runS (As := [.int z5, .int (-z7), .int z7]) (rest := [.int z3, .int (p1 + p2), .ref (ad 17)]) ⟨hx, hb, hml, hown, hts⟩ (tMO_held (l := l) (dC := dC) (dI := dI) (ad := ad) (cI := cI) (ts := ts) (cZ := cZ) hc H.size) (va_cwS 3 hts (ip_gdS (own := kR_MO) (idx := 174) (y := yMO_held) kw4_170 kw4_171 kw1_13 kw4_172) rfl rfl rfl (by decide +kernel) ⟨Nat.le_of_ble_eq_true rfl, Nat.le_of_ble_eq_true rfl⟩) (ip_preS hK hP hD hS hA hZ [] rfl rfl) rfl rfl hl.1 rfl (lv_room (Nat.le_of_ble_eq_true rfl)) dMO_smoothEdge_154 ⟨Nat.le_of_ble_eq_true rfl, Nat.le_of_ble_eq_true rfl⟩) hP hD hS hA [] [0, 1, 2] [0, 1, 2] (wMO_smoothEdge ad cI cZ v_MO_size v_MO_loaded v_MO_at v_MO_fault v_MO_hasGiven v_MO_hasPicture v_MO_range v_MO_value v_MO_leaves v_mgiven g14) rfl rfl rfl (by decide) rfl rfl (fun H locs hP hD hS => ?_)
      clear hc
      refine lv_isub hx hb dMO_smoothEdge_157 ?_
      refine lv_iconst (v := (0 : Int32)) hx hb dMO_smoothEdge_158 (by decide) ?_
      refine lv_sipush (v := (255 : Int32)) hx hb dMO_smoothEdge_159 (by decide) ?_
      obtain ⟨z16, hc, hf⟩ := ip_b1_e hf
      refine ip_calli (va_runS (As := [.int (z3 - z15), .int (0 : Int32), .int (255 : Int32)]) (rest := [.int (p1 + p2), .ref (ad 17)]) ⟨hx, hb, hml, hown, hts⟩ (tMO_held (l := l) (dC := dC) (dI := dI) (ad := ad) (cI := cI) (ts := ts) (cZ := cZ) hc H.size) (va_cwS 3 hts (ip_gdS (own := kR_MO) (idx := 174) (y := yMO_held) kw4_170 kw4_171 kw1_13 kw4_172) rfl rfl rfl (by decide +kernel) ⟨Nat.le_of_ble_eq_true rfl, Nat.le_of_ble_eq_true rfl⟩) (ip_preS hK hP hD hS hA hZ [] rfl rfl) rfl rfl hl.1 rfl (lv_room (Nat.le_of_ble_eq_true rfl)) dMO_smoothEdge_162 ⟨Nat.le_of_ble_eq_true rfl, Nat.le_of_ble_eq_true rfl⟩) hP hD hS hA [] [0, 1, 2] [0, 1, 2] (wMO_smoothEdge ad cI cZ v_MO_size v_MO_loaded v_MO_at v_MO_fault v_MO_hasGiven v_MO_hasPicture v_MO_range v_MO_value v_MO_leaves v_mgiven g14) rfl rfl rfl (by decide) rfl rfl (fun H locs hP hD hS => ?_)
      clear hc
      refine ip_iast hx hb hK hP hD hS 2 0 rfl rfl (fun g17 => (wMO_smoothEdge ad cI cZ v_MO_size v_MO_loaded v_MO_at v_MO_fault v_MO_hasGiven v_MO_hasPicture v_MO_range v_MO_value v_MO_leaves v_mgiven g17)) (fun _ => rfl) dMO_smoothEdge_165 hf (fun g17 H locs hf hP hD hS => ?_)
      cases hf
      exact hret H locs 166 ls dMO_smoothEdge_166 hP hD hS
    · cases hf
      exact hret H locs 112 ls dMO_smoothEdge_112 hP hD hS
set_option maxHeartbeats 4000000 in
set_option maxRecDepth 100000 in
theorem tMO_sign {l : Launch} {dC : Nat → ClassId} {dI : Nat → Nat → Nat} {cI cZ : ClassId} {ad : Nat → Nat} {ts : ip_TT}  {p1 : Int32} {r0 : Int32}  (hf : fMO_sign p1 = some r0) : ip_Mi l yMO_sign wsMO_sign rmMO_sign (dC, dI) vwCl [(cI, .int), (cZ, .boolean)] ts [.int p1] (wMO_sign ad cI cZ) (wMO_sign ad cI cZ) r0 := by
  refine ip_startI (cc := cMO_sign) (maxL := 1) (by decide) rfl (Nat.le_of_ble_eq_true rfl) ?_
  intro p e s m args below meth c Q A ls hx hb hml hts hown hK hP hD hS hA hZ hl hret
  replace hl : lv_has ls 1 [(0, .int p1)] := hl
  unfold fMO_sign at hf
  suffices J0 : ∀ (ls : Array Slot) (H : Heap) (locs : List Loc), lv_has ls 1 [(0, .int p1)] → va_P (dC, dI) vwCl (wMO_sign ad cI cZ) H → va_D A (wMO_sign ad cI cZ) → va_S A s.heap H locs → W p l e rmMO_sign s m args below meth c H locs 0 0 Q (F0 m 0 ls []) by exact J0 ls s.heap [] hl hP hD hS
  clear hP hD hS hl
  intro ls H locs hl hP hD hS
  refine lv_iload_n hx hb dMO_sign_0 rfl (lv_at hl 0 rfl) ?_
  refine ip_if_le (tgt := 8) hx hb dMO_sign_1 rfl hf (fun hf => ?_) (fun hf => ?_)
  · refine lv_iload_n hx hb dMO_sign_8 rfl (lv_at hl 0 rfl) ?_
    refine ip_if_ge (tgt := 16) hx hb dMO_sign_9 rfl hf (fun hf => ?_) (fun hf => ?_)
    · refine lv_iconst (v := (0 : Int32)) hx hb dMO_sign_16 (by decide) ?_
      cases hf
      exact hret H locs 17 ls _ dMO_sign_17 rfl hP hD hS
    · refine lv_iconst (v := (-1 : Int32)) hx hb dMO_sign_12 (by decide) ?_
      refine lv_goto (tgt := 17) hx hb dMO_sign_13 rfl ?_
      cases hf
      exact hret H locs 17 ls _ dMO_sign_17 rfl hP hD hS
  · refine lv_iconst (v := (1 : Int32)) hx hb dMO_sign_4 (by decide) ?_
    refine lv_goto (tgt := 17) hx hb dMO_sign_5 rfl ?_
    cases hf
    exact hret H locs 17 ls _ dMO_sign_17 rfl hP hD hS
set_option maxHeartbeats 4000000 in
set_option maxRecDepth 100000 in
theorem tMO_offset {l : Launch} {dC : Nat → ClassId} {dI : Nat → Nat → Nat} {cI cZ : ClassId} {ad : Nat → Nat} {ts : ip_TT} {v_MO_size : Int32} {v_MO_loaded : Int32} {v_MO_at : Int32} {v_MO_fault : Int32} {v_MO_hasGiven : Int32} {v_MO_hasPicture : Int32} {v_MO_range : Int32} {v_MO_value : Int32} {v_MO_leaves : Int32} {v_mgiven : Nat → Int32} {v_mold : Nat → Int32} {p1 : Int32} {r0 : Int32}  (hf : fMO_offset v_MO_size v_MO_loaded v_MO_at v_MO_fault v_MO_hasGiven v_MO_hasPicture v_MO_range v_MO_value v_MO_leaves v_mgiven v_mold p1 = some r0) : ip_Mi l yMO_offset wsMO_offset rmMO_offset (dC, dI) vwCl [(cI, .int), (cZ, .boolean)] ts [.ref (ad 0), .int p1] (wMO_offset ad cI cZ v_MO_size v_MO_loaded v_MO_at v_MO_fault v_MO_hasGiven v_MO_hasPicture v_MO_range v_MO_value v_MO_leaves v_mgiven v_mold) (wMO_offset ad cI cZ v_MO_size v_MO_loaded v_MO_at v_MO_fault v_MO_hasGiven v_MO_hasPicture v_MO_range v_MO_value v_MO_leaves v_mgiven v_mold) r0 := by
  refine ip_startI (cc := cMO_offset) (maxL := 6) (by decide) rfl (Nat.le_of_ble_eq_true rfl) ?_
  intro p e s m args below meth c Q A ls hx hb hml hts hown hK hP hD hS hA hZ hl hret
  replace hl : lv_has ls 6 [(0, .ref (ad 0)), (1, .int p1)] := hl
  unfold fMO_offset at hf
  suffices J0 : ∀ (ls : Array Slot) (H : Heap) (locs : List Loc), lv_has ls 6 [(0, .ref (ad 0)), (1, .int p1)] → va_P (dC, dI) vwCl (wMO_offset ad cI cZ v_MO_size v_MO_loaded v_MO_at v_MO_fault v_MO_hasGiven v_MO_hasPicture v_MO_range v_MO_value v_MO_leaves v_mgiven v_mold) H → va_D A (wMO_offset ad cI cZ v_MO_size v_MO_loaded v_MO_at v_MO_fault v_MO_hasGiven v_MO_hasPicture v_MO_range v_MO_value v_MO_leaves v_mgiven v_mold) → va_S A s.heap H locs → W p l e rmMO_offset s m args below meth c H locs 0 0 Q (F0 m 0 ls []) by exact J0 ls s.heap [] hl hP hD hS
  clear hP hD hS hl
  intro ls H locs hl hP hD hS
  refine lv_aload_n hx hb dMO_offset_0 rfl (lv_at hl 0 rfl) ?_
  refine va_get (D := (dC, dI)) (ci := 12) (v := .ref (ad 18)) (C := kR_MO) (T := kT_MO) (N := 32) hx hb hts kin_MO hown hK hP 0 rfl rfl 26 (by decide) (hts _ (List.mem_cons_of_mem _ kw3_213)) (fun _ h9 => h9) rfl dMO_offset_1 ?_
  refine lv_iload_n hx hb dMO_offset_4 rfl (lv_at hl 1 rfl) ?_
  refine ip_iald hx hb hK hP 2 0 rfl rfl dMO_offset_5 hf (fun z1 hf => ?_)
  refine lv_istore_n (lv' := [(2, .int z1), (0, .ref (ad 0)), (1, .int p1)]) hx hb dMO_offset_6 rfl hl (by decide) rfl (fun ls hl => ?_)
  refine lv_aload_n hx hb dMO_offset_7 rfl (lv_at hl 1 rfl) ?_
  refine va_get (D := (dC, dI)) (ci := 12) (v := .ref (ad 3)) (C := kR_MO) (T := kT_MO) (N := 32) hx hb hts kin_MO hown hK hP 0 rfl rfl 6 (by decide) (hts _ (List.mem_cons_of_mem _ kw3_193)) (fun _ h9 => h9) rfl dMO_offset_8 ?_
  refine lv_iconst (v := (4 : Int32)) hx hb dMO_offset_11 (by decide) ?_
  refine ip_iald hx hb hK hP 1 0 rfl rfl dMO_offset_12 hf (fun z2 hf => ?_)
  refine ip_if_ne (tgt := 18) hx hb dMO_offset_13 rfl hf (fun hf => ?_) (fun hf => ?_)
  · refine lv_aload_n hx hb dMO_offset_18 rfl (lv_at hl 1 rfl) ?_
    refine va_get (D := (dC, dI)) (ci := 12) (v := .ref (ad 3)) (C := kR_MO) (T := kT_MO) (N := 32) hx hb hts kin_MO hown hK hP 0 rfl rfl 6 (by decide) (hts _ (List.mem_cons_of_mem _ kw3_193)) (fun _ h9 => h9) rfl dMO_offset_19 ?_
    refine lv_iconst (v := (4 : Int32)) hx hb dMO_offset_22 (by decide) ?_
    refine ip_iald hx hb hK hP 1 0 rfl rfl dMO_offset_23 hf (fun z3 hf => ?_)
    refine lv_iconst (v := (3 : Int32)) hx hb dMO_offset_24 (by decide) ?_
    refine ip_icmp_ne (tgt := 61) hx hb dMO_offset_25 rfl hf (fun hf => ?_) (fun hf => ?_)
    · refine lv_aload_n hx hb dMO_offset_61 rfl (lv_at hl 1 rfl) ?_
      refine va_get (D := (dC, dI)) (ci := 12) (v := .ref (ad 3)) (C := kR_MO) (T := kT_MO) (N := 32) hx hb hts kin_MO hown hK hP 0 rfl rfl 6 (by decide) (hts _ (List.mem_cons_of_mem _ kw3_193)) (fun _ h9 => h9) rfl dMO_offset_62 ?_
      refine lv_iconst (v := (4 : Int32)) hx hb dMO_offset_65 (by decide) ?_
      refine ip_iald hx hb hK hP 1 0 rfl rfl dMO_offset_66 hf (fun z4 hf => ?_)
      refine lv_iconst (v := (1 : Int32)) hx hb dMO_offset_67 (by decide) ?_
      obtain ⟨z5, hh, hf⟩ := ip_b1_e hf
      suffices J82 : ∀ (ls : Array Slot) (H : Heap) (locs : List Loc), lv_has ls 6 [(0, .ref (ad 0)), (1, .int p1), (2, .int z1)] → va_P (dC, dI) vwCl (wMO_offset ad cI cZ v_MO_size v_MO_loaded v_MO_at v_MO_fault v_MO_hasGiven v_MO_hasPicture v_MO_range v_MO_value v_MO_leaves v_mgiven v_mold) H → va_D A (wMO_offset ad cI cZ v_MO_size v_MO_loaded v_MO_at v_MO_fault v_MO_hasGiven v_MO_hasPicture v_MO_range v_MO_value v_MO_leaves v_mgiven v_mold) → va_S A s.heap H locs → W p l e rmMO_offset s m args below meth c H locs 0 0 Q (F0 m 82 ls [.int z5]) by
        replace hf := hh
        refine ip_icmp_ne (tgt := 78) hx hb dMO_offset_68 rfl hf (fun hf => ?_) (fun hf => ?_)
        · refine lv_iload_n hx hb dMO_offset_78 rfl (lv_at hl 2 rfl) ?_
          refine lv_bipush (v := (16 : Int32)) hx hb dMO_offset_79 (by decide) ?_
          refine lv_idiv hx hb dMO_offset_81 (by decide) ?_
          replace hl := lv_sub hl (l' := [(0, .ref (ad 0)), (1, .int p1), (2, .int z1)]) [1, 2, 0] rfl
          cases hf
          exact J82 ls H locs hl hP hD hS
        · refine lv_iload_n hx hb dMO_offset_71 rfl (lv_at hl 2 rfl) ?_
          refine lv_bipush (v := (16 : Int32)) hx hb dMO_offset_72 (by decide) ?_
          refine lv_irem hx hb dMO_offset_74 (by decide) ?_
          refine lv_goto (tgt := 82) hx hb dMO_offset_75 rfl ?_
          replace hl := lv_sub hl (l' := [(0, .ref (ad 0)), (1, .int p1), (2, .int z1)]) [1, 2, 0] rfl
          cases hf
          exact J82 ls H locs hl hP hD hS
      intro ls H locs hl hP hD hS
      clear hh
      refine lv_istore_n (lv' := [(3, .int z5), (0, .ref (ad 0)), (1, .int p1), (2, .int z1)]) hx hb dMO_offset_82 rfl hl (by decide) rfl (fun ls hl => ?_)
      refine lv_aload_n hx hb dMO_offset_83 rfl (lv_at hl 1 rfl) ?_
      refine va_get (D := (dC, dI)) (ci := 12) (v := .ref (ad 3)) (C := kR_MO) (T := kT_MO) (N := 32) hx hb hts kin_MO hown hK hP 0 rfl rfl 6 (by decide) (hts _ (List.mem_cons_of_mem _ kw3_193)) (fun _ h9 => h9) rfl dMO_offset_84 ?_
      refine lv_iconst (v := (4 : Int32)) hx hb dMO_offset_87 (by decide) ?_
      refine ip_iald hx hb hK hP 1 0 rfl rfl dMO_offset_88 hf (fun z6 hf => ?_)
      refine lv_iconst (v := (1 : Int32)) hx hb dMO_offset_89 (by decide) ?_
      obtain ⟨z7, hh, hf⟩ := ip_b1_e hf
      suffices J99 : ∀ (ls : Array Slot) (H : Heap) (locs : List Loc), lv_has ls 6 [(0, .ref (ad 0)), (1, .int p1), (2, .int z1), (3, .int z5)] → va_P (dC, dI) vwCl (wMO_offset ad cI cZ v_MO_size v_MO_loaded v_MO_at v_MO_fault v_MO_hasGiven v_MO_hasPicture v_MO_range v_MO_value v_MO_leaves v_mgiven v_mold) H → va_D A (wMO_offset ad cI cZ v_MO_size v_MO_loaded v_MO_at v_MO_fault v_MO_hasGiven v_MO_hasPicture v_MO_range v_MO_value v_MO_leaves v_mgiven v_mold) → va_S A s.heap H locs → W p l e rmMO_offset s m args below meth c H locs 0 0 Q (F0 m 99 ls [.int z7]) by
        replace hf := hh
        refine ip_icmp_ne (tgt := 97) hx hb dMO_offset_90 rfl hf (fun hf => ?_) (fun hf => ?_)
        · refine lv_bipush (v := (16 : Int32)) hx hb dMO_offset_97 (by decide) ?_
          replace hl := lv_sub hl (l' := [(0, .ref (ad 0)), (1, .int p1), (2, .int z1), (3, .int z5)]) [1, 2, 3, 0] rfl
          cases hf
          exact J99 ls H locs hl hP hD hS
        · refine lv_iconst (v := (1 : Int32)) hx hb dMO_offset_93 (by decide) ?_
          refine lv_goto (tgt := 99) hx hb dMO_offset_94 rfl ?_
          replace hl := lv_sub hl (l' := [(0, .ref (ad 0)), (1, .int p1), (2, .int z1), (3, .int z5)]) [1, 2, 3, 0] rfl
          cases hf
          exact J99 ls H locs hl hP hD hS
      intro ls H locs hl hP hD hS
      clear hh
      refine lv_istore (lv' := [(4, .int z7), (0, .ref (ad 0)), (1, .int p1), (2, .int z1), (3, .int z5)]) hx hb dMO_offset_99 hl (by decide) rfl (fun ls hl => ?_)
      refine lv_iload_n hx hb dMO_offset_101 rfl (lv_at hl 4 rfl) ?_
      refine ip_if_eq (tgt := 111) hx hb dMO_offset_102 rfl hf (fun hf => ?_) (fun hf => ?_)
      · refine lv_iconst (v := (0 : Int32)) hx hb dMO_offset_111 (by decide) ?_
        cases hf
        exact hret H locs 112 ls _ dMO_offset_112 rfl hP hD hS
      · refine lv_iload_n hx hb dMO_offset_105 rfl (lv_at hl 4 rfl) ?_
        refine lv_bipush (v := (15 : Int32)) hx hb dMO_offset_106 (by decide) ?_
        refine ip_icmp_ne (tgt := 113) hx hb dMO_offset_108 rfl hf (fun hf => ?_) (fun hf => ?_)
        · refine lv_aload_n hx hb dMO_offset_113 rfl (lv_at hl 1 rfl) ?_
          refine va_get (D := (dC, dI)) (ci := 12) (v := .ref (ad 18)) (C := kR_MO) (T := kT_MO) (N := 32) hx hb hts kin_MO hown hK hP 0 rfl rfl 26 (by decide) (hts _ (List.mem_cons_of_mem _ kw3_213)) (fun _ h9 => h9) rfl dMO_offset_114 ?_
          refine lv_iload_n hx hb dMO_offset_117 rfl (lv_at hl 2 rfl) ?_
          refine lv_iload hx hb dMO_offset_118 (lv_at hl 0 rfl) ?_
          refine lv_isub hx hb dMO_offset_120 ?_
          refine ip_iald hx hb hK hP 2 0 rfl rfl dMO_offset_121 hf (fun z8 hf => ?_)
          refine lv_iload_n hx hb dMO_offset_122 rfl (lv_at hl 3 rfl) ?_
          refine lv_isub hx hb dMO_offset_123 ?_
          obtain ⟨z9, hc, hf⟩ := ip_b1_e hf
          refine ip_calli (va_runS (As := [.int (z8 - z1)]) (rest := []) ⟨hx, hb, hml, hown, hts⟩ (tMO_sign (l := l) (dC := dC) (dI := dI) (ad := ad) (cI := cI) (ts := ts) (cZ := cZ) hc H.size) (va_cwS 1 hts (ip_gdS (own := kR_MO) (idx := 218) (y := yMO_sign) kw4_192 kw4_193 kw1_13 kw4_194) rfl rfl rfl (by decide +kernel) ⟨Nat.le_of_ble_eq_true rfl, Nat.le_of_ble_eq_true rfl⟩) (ip_preS hK hP hD hS hA hZ [] rfl rfl) rfl rfl hl.1 rfl (lv_room (Nat.le_of_ble_eq_true rfl)) dMO_offset_124 ⟨Nat.le_of_ble_eq_true rfl, Nat.le_of_ble_eq_true rfl⟩) hP hD hS hA [] [0, 1, 2] [0, 1, 2] (wMO_offset ad cI cZ v_MO_size v_MO_loaded v_MO_at v_MO_fault v_MO_hasGiven v_MO_hasPicture v_MO_range v_MO_value v_MO_leaves v_mgiven v_mold) rfl rfl rfl (by decide) rfl rfl (fun H locs hP hD hS => ?_)
          clear hc
          refine lv_aload_n hx hb dMO_offset_127 rfl (lv_at hl 1 rfl) ?_
          refine va_get (D := (dC, dI)) (ci := 12) (v := .ref (ad 18)) (C := kR_MO) (T := kT_MO) (N := 32) hx hb hts kin_MO hown hK hP 0 rfl rfl 26 (by decide) (hts _ (List.mem_cons_of_mem _ kw3_213)) (fun _ h9 => h9) rfl dMO_offset_128 ?_
          refine lv_iload_n hx hb dMO_offset_131 rfl (lv_at hl 2 rfl) ?_
          refine lv_iload hx hb dMO_offset_132 (lv_at hl 0 rfl) ?_
          refine lv_iadd hx hb dMO_offset_134 ?_
          refine ip_iald hx hb hK hP 2 0 rfl rfl dMO_offset_135 hf (fun z10 hf => ?_)
          refine lv_iload_n hx hb dMO_offset_136 rfl (lv_at hl 3 rfl) ?_
          refine lv_isub hx hb dMO_offset_137 ?_
          obtain ⟨z11, hc, hf⟩ := ip_b1_e hf
          refine ip_calli (va_runS (As := [.int (z10 - z1)]) (rest := [.int z9]) ⟨hx, hb, hml, hown, hts⟩ (tMO_sign (l := l) (dC := dC) (dI := dI) (ad := ad) (cI := cI) (ts := ts) (cZ := cZ) hc H.size) (va_cwS 1 hts (ip_gdS (own := kR_MO) (idx := 218) (y := yMO_sign) kw4_192 kw4_193 kw1_13 kw4_194) rfl rfl rfl (by decide +kernel) ⟨Nat.le_of_ble_eq_true rfl, Nat.le_of_ble_eq_true rfl⟩) (ip_preS hK hP hD hS hA hZ [] rfl rfl) rfl rfl hl.1 rfl (lv_room (Nat.le_of_ble_eq_true rfl)) dMO_offset_138 ⟨Nat.le_of_ble_eq_true rfl, Nat.le_of_ble_eq_true rfl⟩) hP hD hS hA [] [0, 1, 2] [0, 1, 2] (wMO_offset ad cI cZ v_MO_size v_MO_loaded v_MO_at v_MO_fault v_MO_hasGiven v_MO_hasPicture v_MO_range v_MO_value v_MO_leaves v_mgiven v_mold) rfl rfl rfl (by decide) rfl rfl (fun H locs hP hD hS => ?_)
          clear hc
          refine lv_iadd hx hb dMO_offset_141 ?_
          refine ip_top hf (fun z12 hf => ?_)
          refine lv_istore (lv' := [(5, .int z12), (4, .int z7), (0, .ref (ad 0)), (1, .int p1), (2, .int z1), (3, .int z5)]) hx hb dMO_offset_142 hl (by decide) rfl (fun ls hl => ?_)
          refine lv_iload hx hb dMO_offset_144 (lv_at hl 0 rfl) ?_
          refine lv_iconst (v := (2 : Int32)) hx hb dMO_offset_146 (by decide) ?_
          refine ip_icmp_ne (tgt := 159) hx hb dMO_offset_147 rfl hf (fun hf => ?_) (fun hf => ?_)
          · refine lv_iload hx hb dMO_offset_159 (lv_at hl 0 rfl) ?_
            refine lv_iconst (v := (1 : Int32)) hx hb dMO_offset_161 (by decide) ?_
            refine ip_icmp_ne (tgt := 175) hx hb dMO_offset_162 rfl hf (fun hf => ?_) (fun hf => ?_)
            · refine lv_iload hx hb dMO_offset_175 (lv_at hl 0 rfl) ?_
              refine lv_iconst (v := (-1 : Int32)) hx hb dMO_offset_177 (by decide) ?_
              refine ip_icmp_ne (tgt := 191) hx hb dMO_offset_178 rfl hf (fun hf => ?_) (fun hf => ?_)
              · refine lv_iload hx hb dMO_offset_191 (lv_at hl 0 rfl) ?_
                refine lv_bipush (v := (-2 : Int32)) hx hb dMO_offset_193 (by decide) ?_
                refine ip_icmp_ne (tgt := 208) hx hb dMO_offset_195 rfl hf (fun hf => ?_) (fun hf => ?_)
                · refine lv_iconst (v := (0 : Int32)) hx hb dMO_offset_208 (by decide) ?_
                  cases hf
                  exact hret H locs 209 ls _ dMO_offset_209 rfl hP hD hS
                · refine lv_aload_n hx hb dMO_offset_198 rfl (lv_at hl 2 rfl) ?_
                  refine va_get (D := (dC, dI)) (ci := 12) (v := .ref (ad 3)) (C := kR_MO) (T := kT_MO) (N := 32) hx hb hts kin_MO hown hK hP 0 rfl rfl 6 (by decide) (hts _ (List.mem_cons_of_mem _ kw3_193)) (fun _ h9 => h9) rfl dMO_offset_199 ?_
                  refine lv_bipush (v := (8 : Int32)) hx hb dMO_offset_202 (by decide) ?_
                  refine ip_iald hx hb hK hP 1 0 rfl rfl dMO_offset_204 hf (fun z13 hf => ?_)
                  refine lv_goto (tgt := 209) hx hb dMO_offset_205 rfl ?_
                  cases hf
                  exact hret H locs 209 ls _ dMO_offset_209 rfl hP hD hS
              · refine lv_aload_n hx hb dMO_offset_181 rfl (lv_at hl 2 rfl) ?_
                refine va_get (D := (dC, dI)) (ci := 12) (v := .ref (ad 3)) (C := kR_MO) (T := kT_MO) (N := 32) hx hb hts kin_MO hown hK hP 0 rfl rfl 6 (by decide) (hts _ (List.mem_cons_of_mem _ kw3_193)) (fun _ h9 => h9) rfl dMO_offset_182 ?_
                refine lv_bipush (v := (7 : Int32)) hx hb dMO_offset_185 (by decide) ?_
                refine ip_iald hx hb hK hP 1 0 rfl rfl dMO_offset_187 hf (fun z14 hf => ?_)
                refine lv_goto (tgt := 209) hx hb dMO_offset_188 rfl ?_
                cases hf
                exact hret H locs 209 ls _ dMO_offset_209 rfl hP hD hS
            · refine lv_aload_n hx hb dMO_offset_165 rfl (lv_at hl 2 rfl) ?_
              refine va_get (D := (dC, dI)) (ci := 12) (v := .ref (ad 3)) (C := kR_MO) (T := kT_MO) (N := 32) hx hb hts kin_MO hown hK hP 0 rfl rfl 6 (by decide) (hts _ (List.mem_cons_of_mem _ kw3_193)) (fun _ h9 => h9) rfl dMO_offset_166 ?_
              refine lv_bipush (v := (6 : Int32)) hx hb dMO_offset_169 (by decide) ?_
              refine ip_iald hx hb hK hP 1 0 rfl rfl dMO_offset_171 hf (fun z15 hf => ?_)
              refine lv_goto (tgt := 209) hx hb dMO_offset_172 rfl ?_
              cases hf
              exact hret H locs 209 ls _ dMO_offset_209 rfl hP hD hS
          · refine lv_aload_n hx hb dMO_offset_150 rfl (lv_at hl 2 rfl) ?_
            refine va_get (D := (dC, dI)) (ci := 12) (v := .ref (ad 3)) (C := kR_MO) (T := kT_MO) (N := 32) hx hb hts kin_MO hown hK hP 0 rfl rfl 6 (by decide) (hts _ (List.mem_cons_of_mem _ kw3_193)) (fun _ h9 => h9) rfl dMO_offset_151 ?_
            refine lv_iconst (v := (5 : Int32)) hx hb dMO_offset_154 (by decide) ?_
            refine ip_iald hx hb hK hP 1 0 rfl rfl dMO_offset_155 hf (fun z16 hf => ?_)
            refine lv_goto (tgt := 209) hx hb dMO_offset_156 rfl ?_
            cases hf
            exact hret H locs 209 ls _ dMO_offset_209 rfl hP hD hS
        · refine lv_iconst (v := (0 : Int32)) hx hb dMO_offset_111 (by decide) ?_
          cases hf
          exact hret H locs 112 ls _ dMO_offset_112 rfl hP hD hS
    · refine lv_iload_n hx hb dMO_offset_28 rfl (lv_at hl 0 rfl) ?_
      refine lv_iconst (v := (5 : Int32)) hx hb dMO_offset_29 (by decide) ?_
      refine lv_ishr hx hb dMO_offset_30 ?_
      refine lv_aload_n hx hb dMO_offset_31 rfl (lv_at hl 1 rfl) ?_
      refine va_get (D := (dC, dI)) (ci := 12) (v := .ref (ad 3)) (C := kR_MO) (T := kT_MO) (N := 32) hx hb hts kin_MO hown hK hP 0 rfl rfl 6 (by decide) (hts _ (List.mem_cons_of_mem _ kw3_193)) (fun _ h9 => h9) rfl dMO_offset_32 ?_
      refine lv_bipush (v := (9 : Int32)) hx hb dMO_offset_35 (by decide) ?_
      refine ip_iald hx hb hK hP 1 0 rfl rfl dMO_offset_37 hf (fun z17 hf => ?_)
      refine lv_isub hx hb dMO_offset_38 ?_
      refine lv_bipush (v := (7 : Int32)) hx hb dMO_offset_39 (by decide) ?_
      refine lv_iand hx hb dMO_offset_41 ?_
      refine ip_top hf (fun z18 hf => ?_)
      refine lv_istore_n (lv' := [(3, .int z18), (2, .int z1), (0, .ref (ad 0)), (1, .int p1)]) hx hb dMO_offset_42 rfl hl (by decide) rfl (fun ls hl => ?_)
      refine lv_iload_n hx hb dMO_offset_43 rfl (lv_at hl 0 rfl) ?_
      refine lv_iconst (v := (4 : Int32)) hx hb dMO_offset_44 (by decide) ?_
      refine ip_icmp_ge (tgt := 59) hx hb dMO_offset_45 rfl hf (fun hf => ?_) (fun hf => ?_)
      · refine lv_iconst (v := (0 : Int32)) hx hb dMO_offset_59 (by decide) ?_
        cases hf
        exact hret H locs 60 ls _ dMO_offset_60 rfl hP hD hS
      · refine lv_aload_n hx hb dMO_offset_48 rfl (lv_at hl 2 rfl) ?_
        refine va_get (D := (dC, dI)) (ci := 12) (v := .ref (ad 3)) (C := kR_MO) (T := kT_MO) (N := 32) hx hb hts kin_MO hown hK hP 0 rfl rfl 6 (by decide) (hts _ (List.mem_cons_of_mem _ kw3_193)) (fun _ h9 => h9) rfl dMO_offset_49 ?_
        refine lv_iconst (v := (5 : Int32)) hx hb dMO_offset_52 (by decide) ?_
        refine lv_iload_n hx hb dMO_offset_53 rfl (lv_at hl 0 rfl) ?_
        refine lv_iadd hx hb dMO_offset_54 ?_
        refine ip_iald hx hb hK hP 1 0 rfl rfl dMO_offset_55 hf (fun z19 hf => ?_)
        refine lv_goto (tgt := 60) hx hb dMO_offset_56 rfl ?_
        cases hf
        exact hret H locs 60 ls _ dMO_offset_60 rfl hP hD hS
  · refine lv_iconst (v := (0 : Int32)) hx hb dMO_offset_16 (by decide) ?_
    cases hf
    exact hret H locs 17 ls _ dMO_offset_17 rfl hP hD hS
set_option maxHeartbeats 4000000 in
set_option maxRecDepth 100000 in
theorem tMO_restore {l : Launch} {dC : Nat → ClassId} {dI : Nat → Nat → Nat} {cI cZ : ClassId} {ad : Nat → Nat} {ts : ip_TT} {v_MO_size : Int32} {v_MO_loaded : Int32} {v_MO_at : Int32} {v_MO_fault : Int32} {v_MO_hasGiven : Int32} {v_MO_hasPicture : Int32} {v_MO_range : Int32} {v_MO_value : Int32} {v_MO_leaves : Int32} {v_mgiven : Nat → Int32} {v_mleft : Nat → Int32} {v_mtop : Nat → Int32} {v_msides : Nat → Int32} {v_mmodes : Nat → Int32} {v_mskips : Nat → Int32} {v_mowner : Nat → Int32} {v_mlevels : Nat → Int32} {v_mguess : Nat → Int32} {v_mfirst : Nat → Int32} {v_mlast : Nat → Int32} {v_mold : Nat → Int32} {v_mrow : Nat → Int32} {v_mraw : Nat → Int32} {v_mfour : Nat → Int32} {v_mwave : Nat → Int32} {v_mscale : Nat → Int32}  {nv_mguess : Nat → Int32} {nv_mfirst : Nat → Int32} {nv_mlast : Nat → Int32} {nv_mold : Nat → Int32} {nv_mrow : Nat → Int32} {nv_mraw : Nat → Int32} (hf : fMO_restore v_MO_size v_MO_loaded v_MO_at v_MO_fault v_MO_hasGiven v_MO_hasPicture v_MO_range v_MO_value v_MO_leaves v_mgiven v_mleft v_mtop v_msides v_mmodes v_mskips v_mowner v_mlevels v_mguess v_mfirst v_mlast v_mold v_mrow v_mraw v_mfour v_mwave v_mscale = some (nv_mguess, nv_mfirst, nv_mlast, nv_mold, nv_mrow, nv_mraw)) : ip_Mv l yMO_restore wsMO_restore rmMO_restore (dC, dI) vwCl [(cI, .int), (cZ, .boolean)] ts [.ref (ad 0)] (wMO_restore ad cI cZ v_MO_size v_MO_loaded v_MO_at v_MO_fault v_MO_hasGiven v_MO_hasPicture v_MO_range v_MO_value v_MO_leaves v_mgiven v_mleft v_mtop v_msides v_mmodes v_mskips v_mowner v_mlevels v_mguess v_mfirst v_mlast v_mold v_mrow v_mraw v_mfour v_mwave v_mscale) (wMO_restore ad cI cZ v_MO_size v_MO_loaded v_MO_at v_MO_fault v_MO_hasGiven v_MO_hasPicture v_MO_range v_MO_value v_MO_leaves v_mgiven v_mleft v_mtop v_msides v_mmodes v_mskips v_mowner v_mlevels nv_mguess nv_mfirst nv_mlast nv_mold nv_mrow nv_mraw v_mfour v_mwave v_mscale) := by
  refine ip_startV (cc := cMO_restore) (maxL := 7) (by decide) rfl (Nat.le_of_ble_eq_true rfl) ?_
  intro p e s m args below meth c Q A ls hx hb hml hts hown hK hP hD hS hA hZ hl hret
  replace hl : lv_has ls 7 [(0, .ref (ad 0))] := hl
  unfold fMO_restore at hf
  suffices J0 : ∀ (ls : Array Slot) (H : Heap) (locs : List Loc), lv_has ls 7 [(0, .ref (ad 0))] → va_P (dC, dI) vwCl (wMO_restore ad cI cZ v_MO_size v_MO_loaded v_MO_at v_MO_fault v_MO_hasGiven v_MO_hasPicture v_MO_range v_MO_value v_MO_leaves v_mgiven v_mleft v_mtop v_msides v_mmodes v_mskips v_mowner v_mlevels v_mguess v_mfirst v_mlast v_mold v_mrow v_mraw v_mfour v_mwave v_mscale) H → va_D A (wMO_restore ad cI cZ v_MO_size v_MO_loaded v_MO_at v_MO_fault v_MO_hasGiven v_MO_hasPicture v_MO_range v_MO_value v_MO_leaves v_mgiven v_mleft v_mtop v_msides v_mmodes v_mskips v_mowner v_mlevels v_mguess v_mfirst v_mlast v_mold v_mrow v_mraw v_mfour v_mwave v_mscale) → va_S A s.heap H locs → W p l e rmMO_restore s m args below meth c H locs 0 0 Q (F0 m 0 ls []) by exact J0 ls s.heap [] hl hP hD hS
  clear hP hD hS hl
  intro ls H locs hl hP hD hS
  refine lv_iconst (v := (0 : Int32)) hx hb dMO_restore_0 (by decide) ?_
  refine lv_istore_n (lv' := [(1, .int (0 : Int32)), (0, .ref (ad 0))]) hx hb dMO_restore_1 rfl hl (by decide) rfl (fun ls hl => ?_)
  replace hl := lv_sub hl (l' := [(0, .ref (ad 0)), (1, .int (0 : Int32))]) [1, 0] rfl
  obtain ⟨x6, y7, y8, y9, y10, hL, hf⟩ := ip_b5_e hf
  suffices J124 : ∀ (ls : Array Slot) (H : Heap) (locs : List Loc), lv_has ls 7 [(0, .ref (ad 0))] → va_P (dC, dI) vwCl (wMO_restore ad cI cZ v_MO_size v_MO_loaded v_MO_at v_MO_fault v_MO_hasGiven v_MO_hasPicture v_MO_range v_MO_value v_MO_leaves v_mgiven v_mleft v_mtop v_msides v_mmodes v_mskips v_mowner v_mlevels y7 y8 v_mlast v_mold y9 y10 v_mfour v_mwave v_mscale) H → va_D A (wMO_restore ad cI cZ v_MO_size v_MO_loaded v_MO_at v_MO_fault v_MO_hasGiven v_MO_hasPicture v_MO_range v_MO_value v_MO_leaves v_mgiven v_mleft v_mtop v_msides v_mmodes v_mskips v_mowner v_mlevels y7 y8 v_mlast v_mold y9 y10 v_mfour v_mwave v_mscale) → va_S A s.heap H locs → W p l e rmMO_restore s m args below meth c H locs 0 0 Q (F0 m 124 ls []) by
    have L : ∀ (n : Nat) (z1 : Int32) (g2 : Nat → Int32) (g3 : Nat → Int32) (g4 : Nat → Int32) (g5 : Nat → Int32), ip_lp5 (fMO_restore_B2 v_MO_size v_MO_loaded v_MO_at v_MO_fault v_MO_hasGiven v_MO_hasPicture v_MO_range v_MO_value v_MO_leaves v_mgiven v_mleft v_mtop v_msides v_mmodes v_mskips v_mowner v_mlevels v_mfour v_mwave v_mscale) n z1 g2 g3 g4 g5 = some (x6, y7, y8, y9, y10) → ∀ (ls : Array Slot) (H : Heap) (locs : List Loc), lv_has ls 7 [(0, .ref (ad 0)), (1, .int z1)] → va_P (dC, dI) vwCl (wMO_restore ad cI cZ v_MO_size v_MO_loaded v_MO_at v_MO_fault v_MO_hasGiven v_MO_hasPicture v_MO_range v_MO_value v_MO_leaves v_mgiven v_mleft v_mtop v_msides v_mmodes v_mskips v_mowner v_mlevels g2 g3 v_mlast v_mold g4 g5 v_mfour v_mwave v_mscale) H → va_D A (wMO_restore ad cI cZ v_MO_size v_MO_loaded v_MO_at v_MO_fault v_MO_hasGiven v_MO_hasPicture v_MO_range v_MO_value v_MO_leaves v_mgiven v_mleft v_mtop v_msides v_mmodes v_mskips v_mowner v_mlevels g2 g3 v_mlast v_mold g4 g5 v_mfour v_mwave v_mscale) → va_S A s.heap H locs → W p l e rmMO_restore s m args below meth c H locs 0 0 Q (F0 m 2 ls []) := by
      intro n
      induction n with
      | zero => intro z1 g2 g3 g4 g5 hL; exact (ip_lp5_0 hL).elim
      | succ n ih =>
        intro z1 g2 g3 g4 g5 hL ls H locs hl hP hD hS
        clear hf
        obtain ⟨r9, hf, hr2⟩ := ip_lp5_s hL
        clear hL
        unfold fMO_restore_B2 at hf
        refine lv_iload_n hx hb dMO_restore_2 rfl (lv_at hl 1 rfl) ?_
        refine lv_aload_n hx hb dMO_restore_3 rfl (lv_at hl 0 rfl) ?_
        refine va_get (D := (dC, dI)) (ci := 12) (v := .int v_MO_leaves) (C := kR_MO) (T := kT_MO) (N := 32) hx hb hts kin_MO hown hK hP 0 rfl rfl 14 (by decide) (hts _ (List.mem_cons_of_mem _ kw3_201)) (fun _ h9 => h9) rfl dMO_restore_4 ?_
        refine ip_icmp_ge (tgt := 124) hx hb dMO_restore_7 rfl hf (fun hf => ?_) (fun hf => ?_)
        · have hx9 := ip_lp_x hr2 hf
          replace hl := lv_sub hl (l' := [(0, .ref (ad 0))]) [0] rfl
          cases hx9
          exact J124 ls H locs hl hP hD hS
        · refine lv_aload_n hx hb dMO_restore_10 rfl (lv_at hl 0 rfl) ?_
          refine lv_iload_n hx hb dMO_restore_11 rfl (lv_at hl 1 rfl) ?_
          obtain ⟨g11, g12, hc, hf⟩ := ip_b2_e hf
          refine ip_callv (va_runV (As := [.int z1]) (rest := []) ⟨hx, hb, hml, hown, hts⟩ (tMO_references (l := l) (dC := dC) (dI := dI) (ad := ad) (cI := cI) (ts := ts) (cZ := cZ) hc H.size) (cwV 1 hts (ip_gdV (own := kR_MO) (idx := 199) (C := kR_MO) (y := yMO_references) kw4_138 kw4_140 kws_53 kw1_13 kw4_141) rfl rfl rfl (by decide +kernel) ⟨Nat.le_of_ble_eq_true rfl, Nat.le_of_ble_eq_true rfl⟩) (ip_preV hK hP hD hS hA hZ [0, 2, 3, 4, 5, 7, 10, 13, 14] rfl rfl (ci := 12) (q0 := 0) rfl rfl) rfl rfl hl.1 rfl (lv_room (Nat.le_of_ble_eq_true rfl)) dMO_restore_12 ⟨Nat.le_of_ble_eq_true rfl, Nat.le_of_ble_eq_true rfl⟩) hP hD hS hA [0, 2, 3, 4, 5, 7, 10, 13, 14] [1, 6, 8, 9, 11, 12, 15, 16, 17] [9, 0, 10, 11, 12, 13, 1, 14, 2, 3, 15, 4, 5, 16, 17, 6, 7, 8] (wMO_restore ad cI cZ v_MO_size v_MO_loaded v_MO_at v_MO_fault v_MO_hasGiven v_MO_hasPicture v_MO_range v_MO_value v_MO_leaves v_mgiven v_mleft v_mtop v_msides v_mmodes v_mskips v_mowner v_mlevels g2 g3 v_mlast v_mold g11 g12 v_mfour v_mwave v_mscale) rfl rfl rfl (by decide) rfl rfl (fun H locs hP hD hS => ?_)
          clear hc
          refine lv_aload_n hx hb dMO_restore_15 rfl (lv_at hl 0 rfl) ?_
          refine va_get (D := (dC, dI)) (ci := 12) (v := .ref (ad 9)) (C := kR_MO) (T := kT_MO) (N := 32) hx hb hts kin_MO hown hK hP 0 rfl rfl 17 (by decide) (hts _ (List.mem_cons_of_mem _ kw3_204)) (fun _ h9 => h9) rfl dMO_restore_16 ?_
          refine lv_iload_n hx hb dMO_restore_19 rfl (lv_at hl 1 rfl) ?_
          refine ip_iald hx hb hK hP 4 0 rfl rfl dMO_restore_20 hf (fun z13 hf => ?_)
          refine lv_istore_n (lv' := [(2, .int z13), (0, .ref (ad 0)), (1, .int z1)]) hx hb dMO_restore_21 rfl hl (by decide) rfl (fun ls hl => ?_)
          refine lv_iconst (v := (0 : Int32)) hx hb dMO_restore_22 (by decide) ?_
          refine lv_istore_n (lv' := [(3, .int (0 : Int32)), (2, .int z13), (0, .ref (ad 0)), (1, .int z1)]) hx hb dMO_restore_23 rfl hl (by decide) rfl (fun ls hl => ?_)
          replace hl := lv_sub hl (l' := [(0, .ref (ad 0)), (1, .int z1), (2, .int z13), (3, .int (0 : Int32))]) [2, 3, 1, 0] rfl
          obtain ⟨x17, y18, y19, hL, hf⟩ := ip_b3_e hf
          suffices J118 : ∀ (ls : Array Slot) (H : Heap) (locs : List Loc), lv_has ls 7 [(0, .ref (ad 0)), (1, .int z1)] → va_P (dC, dI) vwCl (wMO_restore ad cI cZ v_MO_size v_MO_loaded v_MO_at v_MO_fault v_MO_hasGiven v_MO_hasPicture v_MO_range v_MO_value v_MO_leaves v_mgiven v_mleft v_mtop v_msides v_mmodes v_mskips v_mowner v_mlevels y18 y19 v_mlast v_mold g11 g12 v_mfour v_mwave v_mscale) H → va_D A (wMO_restore ad cI cZ v_MO_size v_MO_loaded v_MO_at v_MO_fault v_MO_hasGiven v_MO_hasPicture v_MO_range v_MO_value v_MO_leaves v_mgiven v_mleft v_mtop v_msides v_mmodes v_mskips v_mowner v_mlevels y18 y19 v_mlast v_mold g11 g12 v_mfour v_mwave v_mscale) → va_S A s.heap H locs → W p l e rmMO_restore s m args below meth c H locs 0 0 Q (F0 m 118 ls []) by
            have L : ∀ (n : Nat) (z14 : Int32) (g15 : Nat → Int32) (g16 : Nat → Int32), ip_lp3 (fMO_restore_B24 v_MO_size v_MO_loaded v_MO_at v_MO_fault v_MO_hasGiven v_MO_hasPicture v_MO_range v_MO_value v_MO_leaves v_mgiven v_mleft v_mtop v_msides v_mmodes v_mskips v_mlevels v_mfour v_mwave v_mscale z1 g11 z13) n z14 g15 g16 = some (x17, y18, y19) → ∀ (ls : Array Slot) (H : Heap) (locs : List Loc), lv_has ls 7 [(0, .ref (ad 0)), (1, .int z1), (2, .int z13), (3, .int z14)] → va_P (dC, dI) vwCl (wMO_restore ad cI cZ v_MO_size v_MO_loaded v_MO_at v_MO_fault v_MO_hasGiven v_MO_hasPicture v_MO_range v_MO_value v_MO_leaves v_mgiven v_mleft v_mtop v_msides v_mmodes v_mskips v_mowner v_mlevels g15 g16 v_mlast v_mold g11 g12 v_mfour v_mwave v_mscale) H → va_D A (wMO_restore ad cI cZ v_MO_size v_MO_loaded v_MO_at v_MO_fault v_MO_hasGiven v_MO_hasPicture v_MO_range v_MO_value v_MO_leaves v_mgiven v_mleft v_mtop v_msides v_mmodes v_mskips v_mowner v_mlevels g15 g16 v_mlast v_mold g11 g12 v_mfour v_mwave v_mscale) → va_S A s.heap H locs → W p l e rmMO_restore s m args below meth c H locs 0 0 Q (F0 m 24 ls []) := by
              intro n
              induction n with
              | zero => intro z14 g15 g16 hL; exact (ip_lp3_0 hL).elim
              | succ n ih =>
                intro z14 g15 g16 hL ls H locs hl hP hD hS
                clear hf
                obtain ⟨r9, hf, hr24⟩ := ip_lp3_s hL
                clear hL
                unfold fMO_restore_B24 at hf
                refine lv_iload_n hx hb dMO_restore_24 rfl (lv_at hl 3 rfl) ?_
                refine lv_iload_n hx hb dMO_restore_25 rfl (lv_at hl 2 rfl) ?_
                refine lv_iload_n hx hb dMO_restore_26 rfl (lv_at hl 2 rfl) ?_
                refine lv_imul hx hb dMO_restore_27 ?_
                refine ip_icmp_ge (tgt := 118) hx hb dMO_restore_28 rfl hf (fun hf => ?_) (fun hf => ?_)
                · have hx9 := ip_lp_x hr24 hf
                  replace hl := lv_sub hl (l' := [(0, .ref (ad 0)), (1, .int z1)]) [0, 1] rfl
                  cases hx9
                  exact J118 ls H locs hl hP hD hS
                · refine lv_iload_n hx hb dMO_restore_31 rfl (lv_at hl 3 rfl) ?_
                  refine lv_iload_n hx hb dMO_restore_32 rfl (lv_at hl 2 rfl) ?_
                  refine ip_irem hx hb dMO_restore_33 hf (fun z20 hf => ?_)
                  refine lv_istore (lv' := [(4, .int z20), (0, .ref (ad 0)), (1, .int z1), (2, .int z13), (3, .int z14)]) hx hb dMO_restore_34 hl (by decide) rfl (fun ls hl => ?_)
                  refine lv_iload_n hx hb dMO_restore_36 rfl (lv_at hl 4 rfl) ?_
                  refine lv_iload_n hx hb dMO_restore_37 rfl (lv_at hl 3 rfl) ?_
                  refine ip_idiv hx hb dMO_restore_38 hf (fun z21 hf => ?_)
                  refine lv_istore (lv' := [(5, .int z21), (4, .int z20), (0, .ref (ad 0)), (1, .int z1), (2, .int z13), (3, .int z14)]) hx hb dMO_restore_39 hl (by decide) rfl (fun ls hl => ?_)
                  refine lv_bipush (v := (16 : Int32)) hx hb dMO_restore_41 (by decide) ?_
                  refine lv_aload_n hx hb dMO_restore_43 rfl (lv_at hl 2 rfl) ?_
                  refine va_get (D := (dC, dI)) (ci := 12) (v := .ref (ad 8)) (C := kR_MO) (T := kT_MO) (N := 32) hx hb hts kin_MO hown hK hP 0 rfl rfl 16 (by decide) (hts _ (List.mem_cons_of_mem _ kw3_203)) (fun _ h9 => h9) rfl dMO_restore_44 ?_
                  refine lv_iload_n hx hb dMO_restore_47 rfl (lv_at hl 3 rfl) ?_
                  refine ip_iald hx hb hK hP 3 0 rfl rfl dMO_restore_48 hf (fun z22 hf => ?_)
                  refine lv_iload hx hb dMO_restore_49 (lv_at hl 0 rfl) ?_
                  refine lv_iadd hx hb dMO_restore_51 ?_
                  refine lv_imul hx hb dMO_restore_52 ?_
                  refine lv_aload_n hx hb dMO_restore_53 rfl (lv_at hl 2 rfl) ?_
                  refine va_get (D := (dC, dI)) (ci := 12) (v := .ref (ad 7)) (C := kR_MO) (T := kT_MO) (N := 32) hx hb hts kin_MO hown hK hP 0 rfl rfl 15 (by decide) (hts _ (List.mem_cons_of_mem _ kw3_202)) (fun _ h9 => h9) rfl dMO_restore_54 ?_
                  refine lv_iload_n hx hb dMO_restore_57 rfl (lv_at hl 3 rfl) ?_
                  refine ip_iald hx hb hK hP 2 0 rfl rfl dMO_restore_58 hf (fun z23 hf => ?_)
                  refine lv_iadd hx hb dMO_restore_59 ?_
                  refine lv_iload hx hb dMO_restore_60 (lv_at hl 1 rfl) ?_
                  refine lv_iadd hx hb dMO_restore_62 ?_
                  refine ip_top hf (fun z24 hf => ?_)
                  refine lv_istore (lv' := [(6, .int z24), (5, .int z21), (4, .int z20), (0, .ref (ad 0)), (1, .int z1), (2, .int z13), (3, .int z14)]) hx hb dMO_restore_63 hl (by decide) rfl (fun ls hl => ?_)
                  refine lv_aload_n hx hb dMO_restore_65 rfl (lv_at hl 3 rfl) ?_
                  refine va_get (D := (dC, dI)) (ci := 12) (v := .ref (ad 15)) (C := kR_MO) (T := kT_MO) (N := 32) hx hb hts kin_MO hown hK hP 0 rfl rfl 23 (by decide) (hts _ (List.mem_cons_of_mem _ kw3_210)) (fun _ h9 => h9) rfl dMO_restore_66 ?_
                  refine lv_iload hx hb dMO_restore_69 (lv_at hl 0 rfl) ?_
                  refine lv_aload_n hx hb dMO_restore_71 rfl (lv_at hl 3 rfl) ?_
                  refine lv_iload_n hx hb dMO_restore_72 rfl (lv_at hl 4 rfl) ?_
                  refine lv_iload hx hb dMO_restore_73 (lv_at hl 2 rfl) ?_
                  refine lv_iload hx hb dMO_restore_75 (lv_at hl 1 rfl) ?_
                  obtain ⟨z25, hc, hf⟩ := ip_b1_e hf
                  refine ip_calli (va_runV (As := [.int z1, .int z20, .int z21]) (rest := [.int z24, .ref (ad 15)]) ⟨hx, hb, hml, hown, hts⟩ (tMO_predict (l := l) (dC := dC) (dI := dI) (ad := ad) (cI := cI) (ts := ts) (cZ := cZ) hc H.size) (cwV 3 hts (ip_gdV (own := kR_MO) (idx := 203) (C := kR_MO) (y := yMO_predict) kw4_146 kw4_148 kws_55 kw1_13 kw4_149) rfl rfl rfl (by decide +kernel) ⟨Nat.le_of_ble_eq_true rfl, Nat.le_of_ble_eq_true rfl⟩) (ip_preV hK hP hD hS hA hZ [0, 4, 5, 13] rfl rfl (ci := 12) (q0 := 0) rfl rfl) rfl rfl hl.1 rfl (lv_room (Nat.le_of_ble_eq_true rfl)) dMO_restore_77 ⟨Nat.le_of_ble_eq_true rfl, Nat.le_of_ble_eq_true rfl⟩) hP hD hS hA [0, 4, 5, 13] [1, 2, 3, 6, 7, 8, 9, 10, 11, 12, 14, 15, 16, 17] [14, 0, 1, 2, 15, 16, 3, 4, 5, 6, 7, 8, 9, 17, 10, 11, 12, 13] (wMO_restore ad cI cZ v_MO_size v_MO_loaded v_MO_at v_MO_fault v_MO_hasGiven v_MO_hasPicture v_MO_range v_MO_value v_MO_leaves v_mgiven v_mleft v_mtop v_msides v_mmodes v_mskips v_mowner v_mlevels g15 g16 v_mlast v_mold g11 g12 v_mfour v_mwave v_mscale) rfl rfl rfl (by decide) rfl rfl (fun H locs hP hD hS => ?_)
                  clear hc
                  refine ip_iast hx hb hK hP hD hS 9 0 rfl rfl (fun g26 => (wMO_restore ad cI cZ v_MO_size v_MO_loaded v_MO_at v_MO_fault v_MO_hasGiven v_MO_hasPicture v_MO_range v_MO_value v_MO_leaves v_mgiven v_mleft v_mtop v_msides v_mmodes v_mskips v_mowner v_mlevels g26 g16 v_mlast v_mold g11 g12 v_mfour v_mwave v_mscale)) (fun _ => rfl) dMO_restore_80 hf (fun g26 H locs hf hP hD hS => ?_)
                  refine lv_aload_n hx hb dMO_restore_81 rfl (lv_at hl 3 rfl) ?_
                  refine va_get (D := (dC, dI)) (ci := 12) (v := .ref (ad 16)) (C := kR_MO) (T := kT_MO) (N := 32) hx hb hts kin_MO hown hK hP 0 rfl rfl 24 (by decide) (hts _ (List.mem_cons_of_mem _ kw3_211)) (fun _ h9 => h9) rfl dMO_restore_82 ?_
                  refine lv_iload hx hb dMO_restore_85 (lv_at hl 0 rfl) ?_
                  refine lv_aload_n hx hb dMO_restore_87 rfl (lv_at hl 3 rfl) ?_
                  refine va_get (D := (dC, dI)) (ci := 12) (v := .ref (ad 15)) (C := kR_MO) (T := kT_MO) (N := 32) hx hb hts kin_MO hown hK hP 0 rfl rfl 23 (by decide) (hts _ (List.mem_cons_of_mem _ kw3_210)) (fun _ h9 => h9) rfl dMO_restore_88 ?_
                  refine lv_iload hx hb dMO_restore_91 (lv_at hl 0 rfl) ?_
                  refine ip_iald hx hb hK hP 9 0 rfl rfl dMO_restore_93 hf (fun z27 hf => ?_)
                  refine lv_aload_n hx hb dMO_restore_94 rfl (lv_at hl 3 rfl) ?_
                  refine lv_iload_n hx hb dMO_restore_95 rfl (lv_at hl 4 rfl) ?_
                  refine lv_iload hx hb dMO_restore_96 (lv_at hl 2 rfl) ?_
                  refine lv_iload hx hb dMO_restore_98 (lv_at hl 1 rfl) ?_
                  obtain ⟨z28, hc, hf⟩ := ip_b1_e hf
                  refine ip_calli (va_runV (As := [.int z1, .int z20, .int z21]) (rest := [.int z27, .int z24, .ref (ad 16)]) ⟨hx, hb, hml, hown, hts⟩ (tMO_residual (l := l) (dC := dC) (dI := dI) (ad := ad) (cI := cI) (ts := ts) (cZ := cZ) hc H.size) (cwV 3 hts (ip_gdV (own := kR_MO) (idx := 206) (C := kR_MO) (y := yMO_residual) kw4_162 kw4_164 kws_59 kw1_13 kw4_165) rfl rfl rfl (by decide +kernel) ⟨Nat.le_of_ble_eq_true rfl, Nat.le_of_ble_eq_true rfl⟩) (ip_preV hK hP hD hS hA hZ [0, 1, 2, 3, 4, 6, 8, 15, 16, 17] rfl rfl (ci := 12) (q0 := 0) rfl rfl) rfl rfl hl.1 rfl (lv_room (Nat.le_of_ble_eq_true rfl)) dMO_restore_100 ⟨Nat.le_of_ble_eq_true rfl, Nat.le_of_ble_eq_true rfl⟩) hP hD hS hA [0, 1, 2, 3, 4, 6, 8, 15, 16, 17] [5, 7, 9, 10, 11, 12, 13, 14] [8, 9, 10, 11, 12, 0, 13, 1, 14, 2, 3, 4, 5, 6, 7, 15, 16, 17] (wMO_restore ad cI cZ v_MO_size v_MO_loaded v_MO_at v_MO_fault v_MO_hasGiven v_MO_hasPicture v_MO_range v_MO_value v_MO_leaves v_mgiven v_mleft v_mtop v_msides v_mmodes v_mskips v_mowner v_mlevels g26 g16 v_mlast v_mold g11 g12 v_mfour v_mwave v_mscale) rfl rfl rfl (by decide) rfl rfl (fun H locs hP hD hS => ?_)
                  clear hc
                  refine lv_iadd hx hb dMO_restore_103 ?_
                  refine lv_iconst (v := (0 : Int32)) hx hb dMO_restore_104 (by decide) ?_
                  refine lv_sipush (v := (255 : Int32)) hx hb dMO_restore_105 (by decide) ?_
                  obtain ⟨z29, hc, hf⟩ := ip_b1_e hf
                  refine ip_calli (va_runS (As := [.int (z27 + z28), .int (0 : Int32), .int (255 : Int32)]) (rest := [.int z24, .ref (ad 16)]) ⟨hx, hb, hml, hown, hts⟩ (tMO_held (l := l) (dC := dC) (dI := dI) (ad := ad) (cI := cI) (ts := ts) (cZ := cZ) hc H.size) (va_cwS 3 hts (ip_gdS (own := kR_MO) (idx := 174) (y := yMO_held) kw4_170 kw4_171 kw1_13 kw4_172) rfl rfl rfl (by decide +kernel) ⟨Nat.le_of_ble_eq_true rfl, Nat.le_of_ble_eq_true rfl⟩) (ip_preS hK hP hD hS hA hZ [] rfl rfl) rfl rfl hl.1 rfl (lv_room (Nat.le_of_ble_eq_true rfl)) dMO_restore_108 ⟨Nat.le_of_ble_eq_true rfl, Nat.le_of_ble_eq_true rfl⟩) hP hD hS hA [] [0, 1, 2, 3, 4, 5, 6, 7, 8, 9, 10, 11, 12, 13, 14, 15, 16, 17] [0, 1, 2, 3, 4, 5, 6, 7, 8, 9, 10, 11, 12, 13, 14, 15, 16, 17] (wMO_restore ad cI cZ v_MO_size v_MO_loaded v_MO_at v_MO_fault v_MO_hasGiven v_MO_hasPicture v_MO_range v_MO_value v_MO_leaves v_mgiven v_mleft v_mtop v_msides v_mmodes v_mskips v_mowner v_mlevels g26 g16 v_mlast v_mold g11 g12 v_mfour v_mwave v_mscale) rfl rfl rfl (by decide) rfl rfl (fun H locs hP hD hS => ?_)
                  clear hc
                  refine ip_iast hx hb hK hP hD hS 10 0 rfl rfl (fun g30 => (wMO_restore ad cI cZ v_MO_size v_MO_loaded v_MO_at v_MO_fault v_MO_hasGiven v_MO_hasPicture v_MO_range v_MO_value v_MO_leaves v_mgiven v_mleft v_mtop v_msides v_mmodes v_mskips v_mowner v_mlevels g26 g30 v_mlast v_mold g11 g12 v_mfour v_mwave v_mscale)) (fun _ => rfl) dMO_restore_111 hf (fun g30 H locs hf hP hD hS => ?_)
                  refine ip_iinc (k0 := 6) (v0 := (1 : Int32)) (lv1 := fun z31 => [(3, .int z31), (6, .int z24), (5, .int z21), (4, .int z20), (0, .ref (ad 0)), (1, .int z1), (2, .int z13)]) hx hb dMO_restore_112 hl rfl (by decide) (by decide) (fun _ => rfl) hf (fun z31 ls hf hl => ?_)
                  refine lv_goto (tgt := 24) hx hb dMO_restore_115 rfl ?_
                  replace hl := lv_sub hl (l' := [(0, .ref (ad 0)), (1, .int z1), (2, .int z13), (3, .int z31)]) [4, 5, 6, 0] rfl
                  exact ih _ _ _ (ip_lp3_l hr24 hf) ls H locs hl hP hD hS
            exact L 1000 _ _ _ hL ls H locs hl hP hD hS
          intro ls H locs hl hP hD hS
          clear hL
          refine ip_iinc (k0 := 1) (v0 := (1 : Int32)) (lv1 := fun z32 => [(1, .int z32), (0, .ref (ad 0))]) hx hb dMO_restore_118 hl rfl (by decide) (by decide) (fun _ => rfl) hf (fun z32 ls hf hl => ?_)
          refine lv_goto (tgt := 2) hx hb dMO_restore_121 rfl ?_
          replace hl := lv_sub hl (l' := [(0, .ref (ad 0)), (1, .int z32)]) [1, 0] rfl
          exact ih _ _ _ _ _ (ip_lp5_l hr2 hf) ls H locs hl hP hD hS
    exact L 1000 _ _ _ _ _ hL ls H locs hl hP hD hS
  intro ls H locs hl hP hD hS
  clear hL
  refine lv_iconst (v := (0 : Int32)) hx hb dMO_restore_124 (by decide) ?_
  refine lv_istore_n (lv' := [(1, .int (0 : Int32)), (0, .ref (ad 0))]) hx hb dMO_restore_125 rfl hl (by decide) rfl (fun ls hl => ?_)
  replace hl := lv_sub hl (l' := [(0, .ref (ad 0)), (1, .int (0 : Int32))]) [1, 0] rfl
  obtain ⟨x35, y36, hL, hf⟩ := ip_b2_e hf
  suffices J151 : ∀ (ls : Array Slot) (H : Heap) (locs : List Loc), lv_has ls 7 [(0, .ref (ad 0))] → va_P (dC, dI) vwCl (wMO_restore ad cI cZ v_MO_size v_MO_loaded v_MO_at v_MO_fault v_MO_hasGiven v_MO_hasPicture v_MO_range v_MO_value v_MO_leaves v_mgiven v_mleft v_mtop v_msides v_mmodes v_mskips v_mowner v_mlevels y7 y8 y36 v_mold y9 y10 v_mfour v_mwave v_mscale) H → va_D A (wMO_restore ad cI cZ v_MO_size v_MO_loaded v_MO_at v_MO_fault v_MO_hasGiven v_MO_hasPicture v_MO_range v_MO_value v_MO_leaves v_mgiven v_mleft v_mtop v_msides v_mmodes v_mskips v_mowner v_mlevels y7 y8 y36 v_mold y9 y10 v_mfour v_mwave v_mscale) → va_S A s.heap H locs → W p l e rmMO_restore s m args below meth c H locs 0 0 Q (F0 m 151 ls []) by
    have L : ∀ (n : Nat) (z33 : Int32) (g34 : Nat → Int32), ip_lp2 (fMO_restore_B126 y8) n z33 g34 = some (x35, y36) → ∀ (ls : Array Slot) (H : Heap) (locs : List Loc), lv_has ls 7 [(0, .ref (ad 0)), (1, .int z33)] → va_P (dC, dI) vwCl (wMO_restore ad cI cZ v_MO_size v_MO_loaded v_MO_at v_MO_fault v_MO_hasGiven v_MO_hasPicture v_MO_range v_MO_value v_MO_leaves v_mgiven v_mleft v_mtop v_msides v_mmodes v_mskips v_mowner v_mlevels y7 y8 g34 v_mold y9 y10 v_mfour v_mwave v_mscale) H → va_D A (wMO_restore ad cI cZ v_MO_size v_MO_loaded v_MO_at v_MO_fault v_MO_hasGiven v_MO_hasPicture v_MO_range v_MO_value v_MO_leaves v_mgiven v_mleft v_mtop v_msides v_mmodes v_mskips v_mowner v_mlevels y7 y8 g34 v_mold y9 y10 v_mfour v_mwave v_mscale) → va_S A s.heap H locs → W p l e rmMO_restore s m args below meth c H locs 0 0 Q (F0 m 126 ls []) := by
      intro n
      induction n with
      | zero => intro z33 g34 hL; exact (ip_lp2_0 hL).elim
      | succ n ih =>
        intro z33 g34 hL ls H locs hl hP hD hS
        clear hf
        obtain ⟨r9, hf, hr126⟩ := ip_lp2_s hL
        clear hL
        unfold fMO_restore_B126 at hf
        refine lv_iload_n hx hb dMO_restore_126 rfl (lv_at hl 1 rfl) ?_
        refine lv_sipush (v := (256 : Int32)) hx hb dMO_restore_127 (by decide) ?_
        refine ip_icmp_ge (tgt := 151) hx hb dMO_restore_130 rfl hf (fun hf => ?_) (fun hf => ?_)
        · have hx9 := ip_lp_x hr126 hf
          replace hl := lv_sub hl (l' := [(0, .ref (ad 0))]) [0] rfl
          cases hx9
          exact J151 ls H locs hl hP hD hS
        · refine lv_aload_n hx hb dMO_restore_133 rfl (lv_at hl 0 rfl) ?_
          refine va_get (D := (dC, dI)) (ci := 12) (v := .ref (ad 17)) (C := kR_MO) (T := kT_MO) (N := 32) hx hb hts kin_MO hown hK hP 0 rfl rfl 25 (by decide) (hts _ (List.mem_cons_of_mem _ kw3_212)) (fun _ h9 => h9) rfl dMO_restore_134 ?_
          refine lv_iload_n hx hb dMO_restore_137 rfl (lv_at hl 1 rfl) ?_
          refine lv_aload_n hx hb dMO_restore_138 rfl (lv_at hl 0 rfl) ?_
          refine va_get (D := (dC, dI)) (ci := 12) (v := .ref (ad 16)) (C := kR_MO) (T := kT_MO) (N := 32) hx hb hts kin_MO hown hK hP 0 rfl rfl 24 (by decide) (hts _ (List.mem_cons_of_mem _ kw3_211)) (fun _ h9 => h9) rfl dMO_restore_139 ?_
          refine lv_iload_n hx hb dMO_restore_142 rfl (lv_at hl 1 rfl) ?_
          refine ip_iald hx hb hK hP 10 0 rfl rfl dMO_restore_143 hf (fun z37 hf => ?_)
          refine ip_iast hx hb hK hP hD hS 11 0 rfl rfl (fun g38 => (wMO_restore ad cI cZ v_MO_size v_MO_loaded v_MO_at v_MO_fault v_MO_hasGiven v_MO_hasPicture v_MO_range v_MO_value v_MO_leaves v_mgiven v_mleft v_mtop v_msides v_mmodes v_mskips v_mowner v_mlevels y7 y8 g38 v_mold y9 y10 v_mfour v_mwave v_mscale)) (fun _ => rfl) dMO_restore_144 hf (fun g38 H locs hf hP hD hS => ?_)
          refine ip_iinc (k0 := 1) (v0 := (1 : Int32)) (lv1 := fun z39 => [(1, .int z39), (0, .ref (ad 0))]) hx hb dMO_restore_145 hl rfl (by decide) (by decide) (fun _ => rfl) hf (fun z39 ls hf hl => ?_)
          refine lv_goto (tgt := 126) hx hb dMO_restore_148 rfl ?_
          replace hl := lv_sub hl (l' := [(0, .ref (ad 0)), (1, .int z39)]) [1, 0] rfl
          exact ih _ _ (ip_lp2_l hr126 hf) ls H locs hl hP hD hS
    exact L 1000 _ _ hL ls H locs hl hP hD hS
  intro ls H locs hl hP hD hS
  clear hL
  refine lv_iconst (v := (0 : Int32)) hx hb dMO_restore_151 (by decide) ?_
  refine lv_istore_n (lv' := [(1, .int (0 : Int32)), (0, .ref (ad 0))]) hx hb dMO_restore_152 rfl hl (by decide) rfl (fun ls hl => ?_)
  replace hl := lv_sub hl (l' := [(0, .ref (ad 0)), (1, .int (0 : Int32))]) [1, 0] rfl
  obtain ⟨x42, y43, hL, hf⟩ := ip_b2_e hf
  suffices J214 : ∀ (ls : Array Slot) (H : Heap) (locs : List Loc), lv_has ls 7 [(0, .ref (ad 0))] → va_P (dC, dI) vwCl (wMO_restore ad cI cZ v_MO_size v_MO_loaded v_MO_at v_MO_fault v_MO_hasGiven v_MO_hasPicture v_MO_range v_MO_value v_MO_leaves v_mgiven v_mleft v_mtop v_msides v_mmodes v_mskips v_mowner v_mlevels y7 y8 y43 v_mold y9 y10 v_mfour v_mwave v_mscale) H → va_D A (wMO_restore ad cI cZ v_MO_size v_MO_loaded v_MO_at v_MO_fault v_MO_hasGiven v_MO_hasPicture v_MO_range v_MO_value v_MO_leaves v_mgiven v_mleft v_mtop v_msides v_mmodes v_mskips v_mowner v_mlevels y7 y8 y43 v_mold y9 y10 v_mfour v_mwave v_mscale) → va_S A s.heap H locs → W p l e rmMO_restore s m args below meth c H locs 0 0 Q (F0 m 214 ls []) by
    have L : ∀ (n : Nat) (z40 : Int32) (g41 : Nat → Int32), ip_lp2 (fMO_restore_B153 v_MO_size v_MO_loaded v_MO_at v_MO_fault v_MO_hasGiven v_MO_hasPicture v_MO_range v_MO_value v_MO_leaves v_mgiven) n z40 g41 = some (x42, y43) → ∀ (ls : Array Slot) (H : Heap) (locs : List Loc), lv_has ls 7 [(0, .ref (ad 0)), (1, .int z40)] → va_P (dC, dI) vwCl (wMO_restore ad cI cZ v_MO_size v_MO_loaded v_MO_at v_MO_fault v_MO_hasGiven v_MO_hasPicture v_MO_range v_MO_value v_MO_leaves v_mgiven v_mleft v_mtop v_msides v_mmodes v_mskips v_mowner v_mlevels y7 y8 g41 v_mold y9 y10 v_mfour v_mwave v_mscale) H → va_D A (wMO_restore ad cI cZ v_MO_size v_MO_loaded v_MO_at v_MO_fault v_MO_hasGiven v_MO_hasPicture v_MO_range v_MO_value v_MO_leaves v_mgiven v_mleft v_mtop v_msides v_mmodes v_mskips v_mowner v_mlevels y7 y8 g41 v_mold y9 y10 v_mfour v_mwave v_mscale) → va_S A s.heap H locs → W p l e rmMO_restore s m args below meth c H locs 0 0 Q (F0 m 153 ls []) := by
      intro n
      induction n with
      | zero => intro z40 g41 hL; exact (ip_lp2_0 hL).elim
      | succ n ih =>
        intro z40 g41 hL ls H locs hl hP hD hS
        clear hf
        obtain ⟨r9, hf, hr153⟩ := ip_lp2_s hL
        clear hL
        unfold fMO_restore_B153 at hf
        refine lv_iload_n hx hb dMO_restore_153 rfl (lv_at hl 1 rfl) ?_
        refine lv_bipush (v := (32 : Int32)) hx hb dMO_restore_154 (by decide) ?_
        refine ip_icmp_ge (tgt := 214) hx hb dMO_restore_156 rfl hf (fun hf => ?_) (fun hf => ?_)
        · have hx9 := ip_lp_x hr153 hf
          replace hl := lv_sub hl (l' := [(0, .ref (ad 0))]) [0] rfl
          cases hx9
          exact J214 ls H locs hl hP hD hS
        · refine lv_aload_n hx hb dMO_restore_159 rfl (lv_at hl 0 rfl) ?_
          refine va_get (D := (dC, dI)) (ci := 12) (v := .ref (ad 3)) (C := kR_MO) (T := kT_MO) (N := 32) hx hb hts kin_MO hown hK hP 0 rfl rfl 6 (by decide) (hts _ (List.mem_cons_of_mem _ kw3_193)) (fun _ h9 => h9) rfl dMO_restore_160 ?_
          refine lv_iconst (v := (3 : Int32)) hx hb dMO_restore_163 (by decide) ?_
          refine ip_iald hx hb hK hP 1 0 rfl rfl dMO_restore_164 hf (fun z44 hf => ?_)
          refine lv_iconst (v := (1 : Int32)) hx hb dMO_restore_165 (by decide) ?_
          refine ip_icmp_ne (tgt := 214) hx hb dMO_restore_166 rfl hf (fun hf => ?_) (fun hf => ?_)
          · have hx9 := ip_lp_x hr153 hf
            replace hl := lv_sub hl (l' := [(0, .ref (ad 0))]) [0] rfl
            cases hx9
            exact J214 ls H locs hl hP hD hS
          · refine lv_aload_n hx hb dMO_restore_169 rfl (lv_at hl 0 rfl) ?_
            refine lv_iload_n hx hb dMO_restore_170 rfl (lv_at hl 1 rfl) ?_
            refine lv_bipush (v := (16 : Int32)) hx hb dMO_restore_171 (by decide) ?_
            obtain ⟨z45, hh, hf⟩ := ip_b1_e hf
            suffices J193 : ∀ (ls : Array Slot) (H : Heap) (locs : List Loc), lv_has ls 7 [(0, .ref (ad 0)), (1, .int z40)] → va_P (dC, dI) vwCl (wMO_restore ad cI cZ v_MO_size v_MO_loaded v_MO_at v_MO_fault v_MO_hasGiven v_MO_hasPicture v_MO_range v_MO_value v_MO_leaves v_mgiven v_mleft v_mtop v_msides v_mmodes v_mskips v_mowner v_mlevels y7 y8 g41 v_mold y9 y10 v_mfour v_mwave v_mscale) H → va_D A (wMO_restore ad cI cZ v_MO_size v_MO_loaded v_MO_at v_MO_fault v_MO_hasGiven v_MO_hasPicture v_MO_range v_MO_value v_MO_leaves v_mgiven v_mleft v_mtop v_msides v_mmodes v_mskips v_mowner v_mlevels y7 y8 g41 v_mold y9 y10 v_mfour v_mwave v_mscale) → va_S A s.heap H locs → W p l e rmMO_restore s m args below meth c H locs 0 0 Q (F0 m 193 ls [.int z45, .ref (ad 0)]) by
              replace hf := hh
              refine ip_icmp_ge (tgt := 186) hx hb dMO_restore_173 rfl hf (fun hf => ?_) (fun hf => ?_)
              · refine lv_bipush (v := (112 : Int32)) hx hb dMO_restore_186 (by decide) ?_
                refine lv_iload_n hx hb dMO_restore_188 rfl (lv_at hl 1 rfl) ?_
                refine lv_iadd hx hb dMO_restore_189 ?_
                refine lv_bipush (v := (16 : Int32)) hx hb dMO_restore_190 (by decide) ?_
                refine lv_isub hx hb dMO_restore_192 ?_
                cases hf
                exact J193 ls H locs hl hP hD hS
              · refine lv_bipush (v := (16 : Int32)) hx hb dMO_restore_176 (by decide) ?_
                refine lv_iload_n hx hb dMO_restore_178 rfl (lv_at hl 1 rfl) ?_
                refine lv_imul hx hb dMO_restore_179 ?_
                refine lv_bipush (v := (7 : Int32)) hx hb dMO_restore_180 (by decide) ?_
                refine lv_iadd hx hb dMO_restore_182 ?_
                refine lv_goto (tgt := 193) hx hb dMO_restore_183 rfl ?_
                cases hf
                exact J193 ls H locs hl hP hD hS
            intro ls H locs hl hP hD hS
            clear hh
            refine lv_iload_n hx hb dMO_restore_193 rfl (lv_at hl 1 rfl) ?_
            refine lv_bipush (v := (16 : Int32)) hx hb dMO_restore_194 (by decide) ?_
            obtain ⟨z46, hh, hf⟩ := ip_b1_e hf
            suffices J205 : ∀ (ls : Array Slot) (H : Heap) (locs : List Loc), lv_has ls 7 [(0, .ref (ad 0)), (1, .int z40)] → va_P (dC, dI) vwCl (wMO_restore ad cI cZ v_MO_size v_MO_loaded v_MO_at v_MO_fault v_MO_hasGiven v_MO_hasPicture v_MO_range v_MO_value v_MO_leaves v_mgiven v_mleft v_mtop v_msides v_mmodes v_mskips v_mowner v_mlevels y7 y8 g41 v_mold y9 y10 v_mfour v_mwave v_mscale) H → va_D A (wMO_restore ad cI cZ v_MO_size v_MO_loaded v_MO_at v_MO_fault v_MO_hasGiven v_MO_hasPicture v_MO_range v_MO_value v_MO_leaves v_mgiven v_mleft v_mtop v_msides v_mmodes v_mskips v_mowner v_mlevels y7 y8 g41 v_mold y9 y10 v_mfour v_mwave v_mscale) → va_S A s.heap H locs → W p l e rmMO_restore s m args below meth c H locs 0 0 Q (F0 m 205 ls [.int z46, .int z45, .ref (ad 0)]) by
              replace hf := hh
              refine ip_icmp_ge (tgt := 203) hx hb dMO_restore_196 rfl hf (fun hf => ?_) (fun hf => ?_)
              · refine lv_bipush (v := (16 : Int32)) hx hb dMO_restore_203 (by decide) ?_
                cases hf
                exact J205 ls H locs hl hP hD hS
              · refine lv_iconst (v := (1 : Int32)) hx hb dMO_restore_199 (by decide) ?_
                refine lv_goto (tgt := 205) hx hb dMO_restore_200 rfl ?_
                cases hf
                exact J205 ls H locs hl hP hD hS
            intro ls H locs hl hP hD hS
            clear hh
            obtain ⟨g47, hc, hf⟩ := ip_b1_e hf
            refine ip_callv (va_runV (As := [.int z45, .int z46]) (rest := []) ⟨hx, hb, hml, hown, hts⟩ (tMO_smoothEdge (l := l) (dC := dC) (dI := dI) (ad := ad) (cI := cI) (ts := ts) (cZ := cZ) hc H.size) (cwV 2 hts (ip_gdV (own := kR_MO) (idx := 209) (C := kR_MO) (y := yMO_smoothEdge) kw4_181 kw4_183 kws_63 kw1_13 kw4_184) rfl rfl rfl (by decide +kernel) ⟨Nat.le_of_ble_eq_true rfl, Nat.le_of_ble_eq_true rfl⟩) (ip_preV hK hP hD hS hA hZ [0, 1, 11] rfl rfl (ci := 12) (q0 := 0) rfl rfl) rfl rfl hl.1 rfl (lv_room (Nat.le_of_ble_eq_true rfl)) dMO_restore_205 ⟨Nat.le_of_ble_eq_true rfl, Nat.le_of_ble_eq_true rfl⟩) hP hD hS hA [0, 1, 11] [2, 3, 4, 5, 6, 7, 8, 9, 10, 12, 13, 14, 15, 16, 17] [15, 16, 0, 1, 2, 3, 4, 5, 6, 7, 8, 17, 9, 10, 11, 12, 13, 14] (wMO_restore ad cI cZ v_MO_size v_MO_loaded v_MO_at v_MO_fault v_MO_hasGiven v_MO_hasPicture v_MO_range v_MO_value v_MO_leaves v_mgiven v_mleft v_mtop v_msides v_mmodes v_mskips v_mowner v_mlevels y7 y8 g47 v_mold y9 y10 v_mfour v_mwave v_mscale) rfl rfl rfl (by decide) rfl rfl (fun H locs hP hD hS => ?_)
            clear hc
            refine ip_iinc (k0 := 1) (v0 := (1 : Int32)) (lv1 := fun z48 => [(1, .int z48), (0, .ref (ad 0))]) hx hb dMO_restore_208 hl rfl (by decide) (by decide) (fun _ => rfl) hf (fun z48 ls hf hl => ?_)
            refine lv_goto (tgt := 153) hx hb dMO_restore_211 rfl ?_
            replace hl := lv_sub hl (l' := [(0, .ref (ad 0)), (1, .int z48)]) [1, 0] rfl
            exact ih _ _ (ip_lp2_l hr153 hf) ls H locs hl hP hD hS
    exact L 1000 _ _ hL ls H locs hl hP hD hS
  intro ls H locs hl hP hD hS
  clear hL
  refine lv_iconst (v := (0 : Int32)) hx hb dMO_restore_214 (by decide) ?_
  refine lv_istore_n (lv' := [(1, .int (0 : Int32)), (0, .ref (ad 0))]) hx hb dMO_restore_215 rfl hl (by decide) rfl (fun ls hl => ?_)
  replace hl := lv_sub hl (l' := [(0, .ref (ad 0)), (1, .int (0 : Int32))]) [1, 0] rfl
  obtain ⟨x51, y52, hL, hf⟩ := ip_b2_e hf
  suffices J241 : ∀ (ls : Array Slot) (H : Heap) (locs : List Loc), lv_has ls 7 [(0, .ref (ad 0))] → va_P (dC, dI) vwCl (wMO_restore ad cI cZ v_MO_size v_MO_loaded v_MO_at v_MO_fault v_MO_hasGiven v_MO_hasPicture v_MO_range v_MO_value v_MO_leaves v_mgiven v_mleft v_mtop v_msides v_mmodes v_mskips v_mowner v_mlevels y7 y8 y43 y52 y9 y10 v_mfour v_mwave v_mscale) H → va_D A (wMO_restore ad cI cZ v_MO_size v_MO_loaded v_MO_at v_MO_fault v_MO_hasGiven v_MO_hasPicture v_MO_range v_MO_value v_MO_leaves v_mgiven v_mleft v_mtop v_msides v_mmodes v_mskips v_mowner v_mlevels y7 y8 y43 y52 y9 y10 v_mfour v_mwave v_mscale) → va_S A s.heap H locs → W p l e rmMO_restore s m args below meth c H locs 0 0 Q (F0 m 241 ls []) by
    have L : ∀ (n : Nat) (z49 : Int32) (g50 : Nat → Int32), ip_lp2 (fMO_restore_B216 y43) n z49 g50 = some (x51, y52) → ∀ (ls : Array Slot) (H : Heap) (locs : List Loc), lv_has ls 7 [(0, .ref (ad 0)), (1, .int z49)] → va_P (dC, dI) vwCl (wMO_restore ad cI cZ v_MO_size v_MO_loaded v_MO_at v_MO_fault v_MO_hasGiven v_MO_hasPicture v_MO_range v_MO_value v_MO_leaves v_mgiven v_mleft v_mtop v_msides v_mmodes v_mskips v_mowner v_mlevels y7 y8 y43 g50 y9 y10 v_mfour v_mwave v_mscale) H → va_D A (wMO_restore ad cI cZ v_MO_size v_MO_loaded v_MO_at v_MO_fault v_MO_hasGiven v_MO_hasPicture v_MO_range v_MO_value v_MO_leaves v_mgiven v_mleft v_mtop v_msides v_mmodes v_mskips v_mowner v_mlevels y7 y8 y43 g50 y9 y10 v_mfour v_mwave v_mscale) → va_S A s.heap H locs → W p l e rmMO_restore s m args below meth c H locs 0 0 Q (F0 m 216 ls []) := by
      intro n
      induction n with
      | zero => intro z49 g50 hL; exact (ip_lp2_0 hL).elim
      | succ n ih =>
        intro z49 g50 hL ls H locs hl hP hD hS
        clear hf
        obtain ⟨r9, hf, hr216⟩ := ip_lp2_s hL
        clear hL
        unfold fMO_restore_B216 at hf
        refine lv_iload_n hx hb dMO_restore_216 rfl (lv_at hl 1 rfl) ?_
        refine lv_sipush (v := (256 : Int32)) hx hb dMO_restore_217 (by decide) ?_
        refine ip_icmp_ge (tgt := 241) hx hb dMO_restore_220 rfl hf (fun hf => ?_) (fun hf => ?_)
        · have hx9 := ip_lp_x hr216 hf
          replace hl := lv_sub hl (l' := [(0, .ref (ad 0))]) [0] rfl
          cases hx9
          exact J241 ls H locs hl hP hD hS
        · refine lv_aload_n hx hb dMO_restore_223 rfl (lv_at hl 0 rfl) ?_
          refine va_get (D := (dC, dI)) (ci := 12) (v := .ref (ad 18)) (C := kR_MO) (T := kT_MO) (N := 32) hx hb hts kin_MO hown hK hP 0 rfl rfl 26 (by decide) (hts _ (List.mem_cons_of_mem _ kw3_213)) (fun _ h9 => h9) rfl dMO_restore_224 ?_
          refine lv_iload_n hx hb dMO_restore_227 rfl (lv_at hl 1 rfl) ?_
          refine lv_aload_n hx hb dMO_restore_228 rfl (lv_at hl 0 rfl) ?_
          refine va_get (D := (dC, dI)) (ci := 12) (v := .ref (ad 17)) (C := kR_MO) (T := kT_MO) (N := 32) hx hb hts kin_MO hown hK hP 0 rfl rfl 25 (by decide) (hts _ (List.mem_cons_of_mem _ kw3_212)) (fun _ h9 => h9) rfl dMO_restore_229 ?_
          refine lv_iload_n hx hb dMO_restore_232 rfl (lv_at hl 1 rfl) ?_
          refine ip_iald hx hb hK hP 11 0 rfl rfl dMO_restore_233 hf (fun z53 hf => ?_)
          refine ip_iast hx hb hK hP hD hS 12 0 rfl rfl (fun g54 => (wMO_restore ad cI cZ v_MO_size v_MO_loaded v_MO_at v_MO_fault v_MO_hasGiven v_MO_hasPicture v_MO_range v_MO_value v_MO_leaves v_mgiven v_mleft v_mtop v_msides v_mmodes v_mskips v_mowner v_mlevels y7 y8 y43 g54 y9 y10 v_mfour v_mwave v_mscale)) (fun _ => rfl) dMO_restore_234 hf (fun g54 H locs hf hP hD hS => ?_)
          refine ip_iinc (k0 := 1) (v0 := (1 : Int32)) (lv1 := fun z55 => [(1, .int z55), (0, .ref (ad 0))]) hx hb dMO_restore_235 hl rfl (by decide) (by decide) (fun _ => rfl) hf (fun z55 ls hf hl => ?_)
          refine lv_goto (tgt := 216) hx hb dMO_restore_238 rfl ?_
          replace hl := lv_sub hl (l' := [(0, .ref (ad 0)), (1, .int z55)]) [1, 0] rfl
          exact ih _ _ (ip_lp2_l hr216 hf) ls H locs hl hP hD hS
    exact L 1000 _ _ hL ls H locs hl hP hD hS
  intro ls H locs hl hP hD hS
  clear hL
  refine lv_iconst (v := (0 : Int32)) hx hb dMO_restore_241 (by decide) ?_
  refine lv_istore_n (lv' := [(1, .int (0 : Int32)), (0, .ref (ad 0))]) hx hb dMO_restore_242 rfl hl (by decide) rfl (fun ls hl => ?_)
  replace hl := lv_sub hl (l' := [(0, .ref (ad 0)), (1, .int (0 : Int32))]) [1, 0] rfl
  obtain ⟨x58, y59, hL, hf⟩ := ip_b2_e hf
  suffices J281 : ∀ (ls : Array Slot) (H : Heap) (locs : List Loc), lv_has ls 7 [] → va_P (dC, dI) vwCl (wMO_restore ad cI cZ v_MO_size v_MO_loaded v_MO_at v_MO_fault v_MO_hasGiven v_MO_hasPicture v_MO_range v_MO_value v_MO_leaves v_mgiven v_mleft v_mtop v_msides v_mmodes v_mskips v_mowner v_mlevels y7 y8 y59 y52 y9 y10 v_mfour v_mwave v_mscale) H → va_D A (wMO_restore ad cI cZ v_MO_size v_MO_loaded v_MO_at v_MO_fault v_MO_hasGiven v_MO_hasPicture v_MO_range v_MO_value v_MO_leaves v_mgiven v_mleft v_mtop v_msides v_mmodes v_mskips v_mowner v_mlevels y7 y8 y59 y52 y9 y10 v_mfour v_mwave v_mscale) → va_S A s.heap H locs → W p l e rmMO_restore s m args below meth c H locs 0 0 Q (F0 m 281 ls []) by
    have L : ∀ (n : Nat) (z56 : Int32) (g57 : Nat → Int32), ip_lp2 (fMO_restore_B243 v_MO_size v_MO_loaded v_MO_at v_MO_fault v_MO_hasGiven v_MO_hasPicture v_MO_range v_MO_value v_MO_leaves v_mgiven y52) n z56 g57 = some (x58, y59) → ∀ (ls : Array Slot) (H : Heap) (locs : List Loc), lv_has ls 7 [(0, .ref (ad 0)), (1, .int z56)] → va_P (dC, dI) vwCl (wMO_restore ad cI cZ v_MO_size v_MO_loaded v_MO_at v_MO_fault v_MO_hasGiven v_MO_hasPicture v_MO_range v_MO_value v_MO_leaves v_mgiven v_mleft v_mtop v_msides v_mmodes v_mskips v_mowner v_mlevels y7 y8 g57 y52 y9 y10 v_mfour v_mwave v_mscale) H → va_D A (wMO_restore ad cI cZ v_MO_size v_MO_loaded v_MO_at v_MO_fault v_MO_hasGiven v_MO_hasPicture v_MO_range v_MO_value v_MO_leaves v_mgiven v_mleft v_mtop v_msides v_mmodes v_mskips v_mowner v_mlevels y7 y8 g57 y52 y9 y10 v_mfour v_mwave v_mscale) → va_S A s.heap H locs → W p l e rmMO_restore s m args below meth c H locs 0 0 Q (F0 m 243 ls []) := by
      intro n
      induction n with
      | zero => intro z56 g57 hL; exact (ip_lp2_0 hL).elim
      | succ n ih =>
        intro z56 g57 hL ls H locs hl hP hD hS
        clear hf
        obtain ⟨r9, hf, hr243⟩ := ip_lp2_s hL
        clear hL
        unfold fMO_restore_B243 at hf
        refine lv_iload_n hx hb dMO_restore_243 rfl (lv_at hl 1 rfl) ?_
        refine lv_sipush (v := (256 : Int32)) hx hb dMO_restore_244 (by decide) ?_
        refine ip_icmp_ge (tgt := 281) hx hb dMO_restore_247 rfl hf (fun hf => ?_) (fun hf => ?_)
        · have hx9 := ip_lp_x hr243 hf
          replace hl := lv_sub hl (l' := []) [] rfl
          cases hx9
          exact J281 ls H locs hl hP hD hS
        · refine lv_aload_n hx hb dMO_restore_250 rfl (lv_at hl 0 rfl) ?_
          refine va_get (D := (dC, dI)) (ci := 12) (v := .ref (ad 17)) (C := kR_MO) (T := kT_MO) (N := 32) hx hb hts kin_MO hown hK hP 0 rfl rfl 25 (by decide) (hts _ (List.mem_cons_of_mem _ kw3_212)) (fun _ h9 => h9) rfl dMO_restore_251 ?_
          refine lv_iload_n hx hb dMO_restore_254 rfl (lv_at hl 1 rfl) ?_
          refine lv_aload_n hx hb dMO_restore_255 rfl (lv_at hl 0 rfl) ?_
          refine va_get (D := (dC, dI)) (ci := 12) (v := .ref (ad 18)) (C := kR_MO) (T := kT_MO) (N := 32) hx hb hts kin_MO hown hK hP 0 rfl rfl 26 (by decide) (hts _ (List.mem_cons_of_mem _ kw3_213)) (fun _ h9 => h9) rfl dMO_restore_256 ?_
          refine lv_iload_n hx hb dMO_restore_259 rfl (lv_at hl 1 rfl) ?_
          refine ip_iald hx hb hK hP 12 0 rfl rfl dMO_restore_260 hf (fun z60 hf => ?_)
          refine lv_aload_n hx hb dMO_restore_261 rfl (lv_at hl 0 rfl) ?_
          refine lv_iload_n hx hb dMO_restore_262 rfl (lv_at hl 1 rfl) ?_
          obtain ⟨z61, hc, hf⟩ := ip_b1_e hf
          refine ip_calli (va_runV (As := [.int z56]) (rest := [.int z60, .int z56, .ref (ad 17)]) ⟨hx, hb, hml, hown, hts⟩ (tMO_offset (l := l) (dC := dC) (dI := dI) (ad := ad) (cI := cI) (ts := ts) (cZ := cZ) hc H.size) (cwV 1 hts (ip_gdV (own := kR_MO) (idx := 212) (C := kR_MO) (y := yMO_offset) kw4_188 kw4_190 kws_64 kw1_13 kw4_191) rfl rfl rfl (by decide +kernel) ⟨Nat.le_of_ble_eq_true rfl, Nat.le_of_ble_eq_true rfl⟩) (ip_preV hK hP hD hS hA hZ [0, 1, 12] rfl rfl (ci := 12) (q0 := 0) rfl rfl) rfl rfl hl.1 rfl (lv_room (Nat.le_of_ble_eq_true rfl)) dMO_restore_263 ⟨Nat.le_of_ble_eq_true rfl, Nat.le_of_ble_eq_true rfl⟩) hP hD hS hA [0, 1, 12] [2, 3, 4, 5, 6, 7, 8, 9, 10, 11, 13, 14, 15, 16, 17] [15, 16, 0, 1, 2, 3, 4, 5, 6, 7, 8, 9, 17, 10, 11, 12, 13, 14] (wMO_restore ad cI cZ v_MO_size v_MO_loaded v_MO_at v_MO_fault v_MO_hasGiven v_MO_hasPicture v_MO_range v_MO_value v_MO_leaves v_mgiven v_mleft v_mtop v_msides v_mmodes v_mskips v_mowner v_mlevels y7 y8 g57 y52 y9 y10 v_mfour v_mwave v_mscale) rfl rfl rfl (by decide) rfl rfl (fun H locs hP hD hS => ?_)
          clear hc
          refine lv_iadd hx hb dMO_restore_266 ?_
          refine lv_iconst (v := (0 : Int32)) hx hb dMO_restore_267 (by decide) ?_
          refine lv_sipush (v := (255 : Int32)) hx hb dMO_restore_268 (by decide) ?_
          obtain ⟨z62, hc, hf⟩ := ip_b1_e hf
          refine ip_calli (va_runS (As := [.int (z60 + z61), .int (0 : Int32), .int (255 : Int32)]) (rest := [.int z56, .ref (ad 17)]) ⟨hx, hb, hml, hown, hts⟩ (tMO_held (l := l) (dC := dC) (dI := dI) (ad := ad) (cI := cI) (ts := ts) (cZ := cZ) hc H.size) (va_cwS 3 hts (ip_gdS (own := kR_MO) (idx := 174) (y := yMO_held) kw4_170 kw4_171 kw1_13 kw4_172) rfl rfl rfl (by decide +kernel) ⟨Nat.le_of_ble_eq_true rfl, Nat.le_of_ble_eq_true rfl⟩) (ip_preS hK hP hD hS hA hZ [] rfl rfl) rfl rfl hl.1 rfl (lv_room (Nat.le_of_ble_eq_true rfl)) dMO_restore_271 ⟨Nat.le_of_ble_eq_true rfl, Nat.le_of_ble_eq_true rfl⟩) hP hD hS hA [] [0, 1, 2, 3, 4, 5, 6, 7, 8, 9, 10, 11, 12, 13, 14, 15, 16, 17] [0, 1, 2, 3, 4, 5, 6, 7, 8, 9, 10, 11, 12, 13, 14, 15, 16, 17] (wMO_restore ad cI cZ v_MO_size v_MO_loaded v_MO_at v_MO_fault v_MO_hasGiven v_MO_hasPicture v_MO_range v_MO_value v_MO_leaves v_mgiven v_mleft v_mtop v_msides v_mmodes v_mskips v_mowner v_mlevels y7 y8 g57 y52 y9 y10 v_mfour v_mwave v_mscale) rfl rfl rfl (by decide) rfl rfl (fun H locs hP hD hS => ?_)
          clear hc
          refine ip_iast hx hb hK hP hD hS 11 0 rfl rfl (fun g63 => (wMO_restore ad cI cZ v_MO_size v_MO_loaded v_MO_at v_MO_fault v_MO_hasGiven v_MO_hasPicture v_MO_range v_MO_value v_MO_leaves v_mgiven v_mleft v_mtop v_msides v_mmodes v_mskips v_mowner v_mlevels y7 y8 g63 y52 y9 y10 v_mfour v_mwave v_mscale)) (fun _ => rfl) dMO_restore_274 hf (fun g63 H locs hf hP hD hS => ?_)
          refine ip_iinc (k0 := 1) (v0 := (1 : Int32)) (lv1 := fun z64 => [(1, .int z64), (0, .ref (ad 0))]) hx hb dMO_restore_275 hl rfl (by decide) (by decide) (fun _ => rfl) hf (fun z64 ls hf hl => ?_)
          refine lv_goto (tgt := 243) hx hb dMO_restore_278 rfl ?_
          replace hl := lv_sub hl (l' := [(0, .ref (ad 0)), (1, .int z64)]) [1, 0] rfl
          exact ih _ _ (ip_lp2_l hr243 hf) ls H locs hl hP hD hS
    exact L 1000 _ _ hL ls H locs hl hP hD hS
  intro ls H locs hl hP hD hS
  clear hL
  cases hf
  exact hret H locs 281 ls dMO_restore_281 hP hD hS
