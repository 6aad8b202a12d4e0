set_option maxHeartbeats 4000000 in
set_option maxRecDepth 100000 in
theorem tRB_taken {l : Launch} {dC : Nat → ClassId} {dI : Nat → Nat → Nat} {cI : ClassId} {ad : Nat → Nat} {ts : ip_TT} {v_RB_place : Int32} {v_RB_end : Int32}  {r0 : Int32}  (hf : fRB_taken v_RB_place v_RB_end = some r0) : ip_Mi l yRB_taken wsRB_taken rmRB_taken (dC, dI) vwCl [(cI, .int)] ts [.ref (ad 2)] (wRB_taken ad cI v_RB_place v_RB_end) (wRB_taken ad cI v_RB_place v_RB_end) r0 := by
  refine ip_startI (cc := cRB_taken) (maxL := 1) (by decide) rfl (Nat.le_of_ble_eq_true rfl) ?_
  intro p e s m args below meth c Q A ls hx hb hml hts hown hK hP hD hS hA hZ hl hret
  replace hl : lv_has ls 1 [(0, .ref (ad 2))] := hl
  unfold fRB_taken at hf
  suffices J0 : ∀ (ls : Array Slot) (H : Heap) (locs : List Loc), lv_has ls 1 [(0, .ref (ad 2))] → va_P (dC, dI) vwCl (wRB_taken ad cI v_RB_place v_RB_end) H → va_D A (wRB_taken ad cI v_RB_place v_RB_end) → va_S A s.heap H locs → W p l e rmRB_taken s m args below meth c H locs 0 0 Q (F0 m 0 ls []) by exact J0 ls s.heap [] hl hP hD hS
  clear hP hD hS hl
  intro ls H locs hl hP hD hS
  refine lv_aload_n hx hb dRB_taken_0 rfl (lv_at hl 0 rfl) ?_
  refine va_get (D := (dC, dI)) (ci := 2) (v := .int v_RB_place) (C := kR_RB) (T := kT_RB) (N := 3) hx hb hts kin_RB hown hK hP 0 rfl rfl 1 (by decide) (hts _ (List.mem_cons_of_mem _ kw1_56)) (fun _ h9 => h9) rfl dRB_taken_1 ?_
  refine lv_bipush (v := (8 : Int32)) hx hb dRB_taken_4 (by decide) ?_
  refine lv_isub hx hb dRB_taken_6 ?_
  cases hf
  exact hret H locs 7 ls _ dRB_taken_7 rfl hP hD hS
set_option maxHeartbeats 4000000 in
set_option maxRecDepth 100000 in
theorem tBD_end {l : Launch} {dC : Nat → ClassId} {dI : Nat → Nat → Nat} {cI : ClassId} {ad : Nat → Nat} {ts : ip_TT} {v_RB_place : Int32} {v_RB_end : Int32} {v_BD_range : Int32} {v_BD_value : Int32} {v_aCounts : Nat → Int32}  {nv_aCounts : Nat → Int32} (hf : fBD_end v_RB_place v_RB_end v_BD_range v_BD_value v_aCounts = some nv_aCounts) : ip_Mv l yBD_end wsBD_end rmBD_end (dC, dI) vwCl [(cI, .int)] ts [.ref (ad 4)] (wBD_end ad cI v_RB_place v_RB_end v_BD_range v_BD_value v_aCounts) (wBD_end ad cI v_RB_place v_RB_end v_BD_range v_BD_value nv_aCounts) := by
  refine ip_startV (cc := cBD_end) (maxL := 1) (by decide) rfl (Nat.le_of_ble_eq_true rfl) ?_
  intro p e s m args below meth c Q A ls hx hb hml hts hown hK hP hD hS hA hZ hl hret
  replace hl : lv_has ls 1 [(0, .ref (ad 4))] := hl
  unfold fBD_end at hf
  suffices J0 : ∀ (ls : Array Slot) (H : Heap) (locs : List Loc), lv_has ls 1 [(0, .ref (ad 4))] → va_P (dC, dI) vwCl (wBD_end ad cI v_RB_place v_RB_end v_BD_range v_BD_value v_aCounts) H → va_D A (wBD_end ad cI v_RB_place v_RB_end v_BD_range v_BD_value v_aCounts) → va_S A s.heap H locs → W p l e rmBD_end s m args below meth c H locs 0 0 Q (F0 m 0 ls []) by exact J0 ls s.heap [] hl hP hD hS
  clear hP hD hS hl
  intro ls H locs hl hP hD hS
  refine lv_aload_n hx hb dBD_end_0 rfl (lv_at hl 0 rfl) ?_
  refine va_get (D := (dC, dI)) (ci := 4) (v := .ref (ad 17)) (C := kR_BD) (T := kT_BD) (N := 5) hx hb hts kin_BD hown hK hP 1 rfl rfl 2 (by decide) (hts _ (List.mem_cons_of_mem _ kw1_98)) (fun _ h9 => h9) rfl dBD_end_1 ?_
  refine lv_iconst (v := (2 : Int32)) hx hb dBD_end_4 (by decide) ?_
  refine lv_aload_n hx hb dBD_end_5 rfl (lv_at hl 0 rfl) ?_
  refine va_get (D := (dC, dI)) (ci := 4) (v := .ref (ad 2)) (C := kR_BD) (T := kT_BD) (N := 5) hx hb hts kin_BD hown hK hP 1 rfl rfl 0 (by decide) (hts _ (List.mem_cons_of_mem _ kw1_95)) (fun _ h9 => h9) rfl dBD_end_6 ?_
  obtain ⟨z1, hc, hf⟩ := ip_b1_e hf
  refine ip_calli (va_runV (As := []) (rest := [.int (2 : Int32), .ref (ad 17)]) ⟨hx, hb, hml, hown, hts⟩ (tRB_taken (l := l) (dC := dC) (dI := dI) (ad := ad) (cI := cI) (ts := ts) hc H.size) (cwV 0 hts (ip_gdV (own := kR_BD) (idx := 39) (C := kR_RB) (y := yRB_taken) kw3_105 kw3_106 kw3_107 kw1_3 kw3_108) rfl rfl rfl (by decide +kernel) ⟨Nat.le_of_ble_eq_true rfl, Nat.le_of_ble_eq_true rfl⟩) (ip_preV hK hP hD hS hA hZ [0] rfl rfl (ci := 2) (q0 := 0) rfl rfl) rfl rfl hl.1 rfl (lv_room (Nat.le_of_ble_eq_true rfl)) dBD_end_9 ⟨Nat.le_of_ble_eq_true rfl, Nat.le_of_ble_eq_true rfl⟩) hP hD hS hA [0] [1, 2] [2, 0, 1] (wBD_end ad cI v_RB_place v_RB_end v_BD_range v_BD_value v_aCounts) rfl rfl rfl (by decide) rfl rfl (fun H locs hP hD hS => ?_)
  clear hc
  refine ip_iast hx hb hK hP hD hS 2 0 rfl rfl (fun g2 => (wBD_end ad cI v_RB_place v_RB_end v_BD_range v_BD_value g2)) (fun _ => rfl) dBD_end_12 hf (fun g2 H locs hf hP hD hS => ?_)
  cases hf
  exact hret H locs 13 ls dBD_end_13 hP hD hS
set_option maxHeartbeats 4000000 in
set_option maxRecDepth 100000 in
theorem tFI_smoothEdge {l : Launch} {dC : Nat → ClassId} {dI : Nat → Nat → Nat} {cI : ClassId} {ad : Nat → Nat} {ts : ip_TT} {v_aSamples : Nat → Int32} {p1 : Int32} {p2 : Int32} {p3 : Int32} {nv_aSamples : Nat → Int32} (hf : fFI_smoothEdge v_aSamples p1 p2 p3 = some nv_aSamples) : ip_Mv l yFI_smoothEdge wsFI_smoothEdge rmFI_smoothEdge (dC, dI) vwCl [(cI, .int)] ts [.ref (ad 11), .int p1, .int p2, .int p3] (wFI_smoothEdge ad cI v_aSamples) (wFI_smoothEdge ad cI nv_aSamples) := by
  refine ip_startV (cc := cFI_smoothEdge) (maxL := 10) (by decide) rfl (Nat.le_of_ble_eq_true rfl) ?_
  intro p e s m args below meth c Q A ls hx hb hml hts hown hK hP hD hS hA hZ hl hret
  replace hl : lv_has ls 10 [(0, .ref (ad 11)), (1, .int p1), (2, .int p2), (3, .int p3)] := hl
  unfold fFI_smoothEdge at hf
  suffices J0 : ∀ (ls : Array Slot) (H : Heap) (locs : List Loc), lv_has ls 10 [(0, .ref (ad 11)), (1, .int p1), (2, .int p2), (3, .int p3)] → va_P (dC, dI) vwCl (wFI_smoothEdge ad cI v_aSamples) H → va_D A (wFI_smoothEdge ad cI v_aSamples) → va_S A s.heap H locs → W p l e rmFI_smoothEdge s m args below meth c H locs 0 0 Q (F0 m 0 ls []) by exact J0 ls s.heap [] hl hP hD hS
  clear hP hD hS hl
  intro ls H locs hl hP hD hS
  refine lv_aload_n hx hb dFI_smoothEdge_0 rfl (lv_at hl 0 rfl) ?_
  refine va_get (D := (dC, dI)) (ci := 11) (v := .ref (ad 18)) (C := kR_FI) (T := kT_FI) (N := 2) hx hb hts kin_FI hown hK hP 0 rfl rfl 0 (by decide) (hts _ (List.mem_cons_of_mem _ kw2_21)) (fun _ h9 => h9) rfl dFI_smoothEdge_1 ?_
  refine lv_iload_n hx hb dFI_smoothEdge_4 rfl (lv_at hl 1 rfl) ?_
  refine lv_iconst (v := (2 : Int32)) hx hb dFI_smoothEdge_5 (by decide) ?_
  refine lv_iload_n hx hb dFI_smoothEdge_6 rfl (lv_at hl 2 rfl) ?_
  refine lv_imul hx hb dFI_smoothEdge_7 ?_
  refine lv_isub hx hb dFI_smoothEdge_8 ?_
  refine ip_iald hx hb hK hP 1 0 rfl rfl dFI_smoothEdge_9 hf (fun z1 hf => ?_)
  refine lv_istore (lv' := [(4, .int z1), (0, .ref (ad 11)), (1, .int p1), (2, .int p2), (3, .int p3)]) hx hb dFI_smoothEdge_10 hl (by decide) rfl (fun ls hl => ?_)
  refine lv_aload_n hx hb dFI_smoothEdge_12 rfl (lv_at hl 1 rfl) ?_
  refine va_get (D := (dC, dI)) (ci := 11) (v := .ref (ad 18)) (C := kR_FI) (T := kT_FI) (N := 2) hx hb hts kin_FI hown hK hP 0 rfl rfl 0 (by decide) (hts _ (List.mem_cons_of_mem _ kw2_21)) (fun _ h9 => h9) rfl dFI_smoothEdge_13 ?_
  refine lv_iload_n hx hb dFI_smoothEdge_16 rfl (lv_at hl 2 rfl) ?_
  refine lv_iload_n hx hb dFI_smoothEdge_17 rfl (lv_at hl 3 rfl) ?_
  refine lv_isub hx hb dFI_smoothEdge_18 ?_
  refine ip_iald hx hb hK hP 1 0 rfl rfl dFI_smoothEdge_19 hf (fun z2 hf => ?_)
  refine lv_istore (lv' := [(5, .int z2), (4, .int z1), (0, .ref (ad 11)), (1, .int p1), (2, .int p2), (3, .int p3)]) hx hb dFI_smoothEdge_20 hl (by decide) rfl (fun ls hl => ?_)
  refine lv_aload_n hx hb dFI_smoothEdge_22 rfl (lv_at hl 2 rfl) ?_
  refine va_get (D := (dC, dI)) (ci := 11) (v := .ref (ad 18)) (C := kR_FI) (T := kT_FI) (N := 2) hx hb hts kin_FI hown hK hP 0 rfl rfl 0 (by decide) (hts _ (List.mem_cons_of_mem _ kw2_21)) (fun _ h9 => h9) rfl dFI_smoothEdge_23 ?_
  refine lv_iload_n hx hb dFI_smoothEdge_26 rfl (lv_at hl 3 rfl) ?_
  refine ip_iald hx hb hK hP 1 0 rfl rfl dFI_smoothEdge_27 hf (fun z3 hf => ?_)
  refine lv_istore (lv' := [(6, .int z3), (5, .int z2), (4, .int z1), (0, .ref (ad 11)), (1, .int p1), (2, .int p2), (3, .int p3)]) hx hb dFI_smoothEdge_28 hl (by decide) rfl (fun ls hl => ?_)
  refine lv_aload_n hx hb dFI_smoothEdge_30 rfl (lv_at hl 3 rfl) ?_
  refine va_get (D := (dC, dI)) (ci := 11) (v := .ref (ad 18)) (C := kR_FI) (T := kT_FI) (N := 2) hx hb hts kin_FI hown hK hP 0 rfl rfl 0 (by decide) (hts _ (List.mem_cons_of_mem _ kw2_21)) (fun _ h9 => h9) rfl dFI_smoothEdge_31 ?_
  refine lv_iload_n hx hb dFI_smoothEdge_34 rfl (lv_at hl 4 rfl) ?_
  refine lv_iload_n hx hb dFI_smoothEdge_35 rfl (lv_at hl 5 rfl) ?_
  refine lv_iadd hx hb dFI_smoothEdge_36 ?_
  refine ip_iald hx hb hK hP 1 0 rfl rfl dFI_smoothEdge_37 hf (fun z4 hf => ?_)
  refine lv_istore (lv' := [(7, .int z4), (6, .int z3), (5, .int z2), (4, .int z1), (0, .ref (ad 11)), (1, .int p1), (2, .int p2), (3, .int p3)]) hx hb dFI_smoothEdge_38 hl (by decide) rfl (fun ls hl => ?_)
  refine lv_iconst (v := (1 : Int32)) hx hb dFI_smoothEdge_40 (by decide) ?_
  refine lv_iload_n hx hb dFI_smoothEdge_41 rfl (lv_at hl 7 rfl) ?_
  refine lv_bipush (v := (8 : Int32)) hx hb dFI_smoothEdge_42 (by decide) ?_
  refine lv_idiv hx hb dFI_smoothEdge_44 (by decide) ?_
  refine lv_iadd hx hb dFI_smoothEdge_45 ?_
  refine ip_top hf (fun z5 hf => ?_)
  refine lv_istore (lv' := [(8, .int z5), (7, .int z4), (6, .int z3), (5, .int z2), (4, .int z1), (0, .ref (ad 11)), (1, .int p1), (2, .int p2), (3, .int p3)]) hx hb dFI_smoothEdge_46 hl (by decide) rfl (fun ls hl => ?_)
  refine lv_bipush (v := (9 : Int32)) hx hb dFI_smoothEdge_48 (by decide) ?_
  refine lv_iload hx hb dFI_smoothEdge_50 (lv_at hl 2 rfl) ?_
  refine lv_iload hx hb dFI_smoothEdge_52 (lv_at hl 3 rfl) ?_
  refine lv_isub hx hb dFI_smoothEdge_54 ?_
  refine lv_imul hx hb dFI_smoothEdge_55 ?_
  refine lv_iconst (v := (3 : Int32)) hx hb dFI_smoothEdge_56 (by decide) ?_
  refine lv_iload hx hb dFI_smoothEdge_57 (lv_at hl 1 rfl) ?_
  refine lv_iload hx hb dFI_smoothEdge_59 (lv_at hl 4 rfl) ?_
  refine lv_isub hx hb dFI_smoothEdge_61 ?_
  refine lv_imul hx hb dFI_smoothEdge_62 ?_
  refine lv_isub hx hb dFI_smoothEdge_63 ?_
  refine lv_bipush (v := (8 : Int32)) hx hb dFI_smoothEdge_64 (by decide) ?_
  refine lv_iadd hx hb dFI_smoothEdge_66 ?_
  refine lv_iconst (v := (4 : Int32)) hx hb dFI_smoothEdge_67 (by decide) ?_
  refine lv_ishr hx hb dFI_smoothEdge_68 ?_
  refine ip_top hf (fun z6 hf => ?_)
  refine lv_istore (lv' := [(9, .int z6), (8, .int z5), (7, .int z4), (6, .int z3), (5, .int z2), (4, .int z1), (0, .ref (ad 11)), (1, .int p1), (2, .int p2), (3, .int p3)]) hx hb dFI_smoothEdge_69 hl (by decide) rfl (fun ls hl => ?_)
  refine lv_iload hx hb dFI_smoothEdge_71 (lv_at hl 5 rfl) ?_
  refine lv_iload hx hb dFI_smoothEdge_73 (lv_at hl 4 rfl) ?_
  refine lv_isub hx hb dFI_smoothEdge_75 ?_
  refine va_mabs hx hb (by rw [hml]; exact hl.1.symm) hown (hts _ (List.mem_cons_of_mem _ kw3_119)) (hts _ (List.mem_cons_of_mem _ kw3_120)) (hts _ (List.mem_cons_of_mem _ kw1_16)) (hts _ (List.mem_cons_of_mem _ kw3_121)) (Nat.le_of_ble_eq_true rfl) (Nat.le_of_ble_eq_true rfl) (Nat.le_of_ble_eq_true rfl) (Nat.le_of_ble_eq_true rfl) dFI_smoothEdge_76 ?_
  refine ip_top hf (fun z7 hf => ?_)
  refine lv_iload hx hb dFI_smoothEdge_79 (lv_at hl 2 rfl) ?_
  refine lv_iload hx hb dFI_smoothEdge_81 (lv_at hl 3 rfl) ?_
  refine lv_isub hx hb dFI_smoothEdge_83 ?_
  refine va_mabs hx hb (by rw [hml]; exact hl.1.symm) hown (hts _ (List.mem_cons_of_mem _ kw3_119)) (hts _ (List.mem_cons_of_mem _ kw3_120)) (hts _ (List.mem_cons_of_mem _ kw1_16)) (hts _ (List.mem_cons_of_mem _ kw3_121)) (Nat.le_of_ble_eq_true rfl) (Nat.le_of_ble_eq_true rfl) (Nat.le_of_ble_eq_true rfl) (Nat.le_of_ble_eq_true rfl) dFI_smoothEdge_84 ?_
  refine ip_top hf (fun z8 hf => ?_)
  refine lv_iadd hx hb dFI_smoothEdge_87 ?_
  refine lv_iload_n hx hb dFI_smoothEdge_88 rfl (lv_at hl 9 rfl) ?_
  refine ip_icmp_ge (tgt := 155) hx hb dFI_smoothEdge_89 rfl hf (fun hf => ?_) (fun hf => ?_)
  · cases hf
    exact hret H locs 155 ls dFI_smoothEdge_155 hP hD hS
  · refine lv_iload hx hb dFI_smoothEdge_92 (lv_at hl 0 rfl) ?_
    refine va_mabs hx hb (by rw [hml]; exact hl.1.symm) hown (hts _ (List.mem_cons_of_mem _ kw3_119)) (hts _ (List.mem_cons_of_mem _ kw3_120)) (hts _ (List.mem_cons_of_mem _ kw1_16)) (hts _ (List.mem_cons_of_mem _ kw3_121)) (Nat.le_of_ble_eq_true rfl) (Nat.le_of_ble_eq_true rfl) (Nat.le_of_ble_eq_true rfl) (Nat.le_of_ble_eq_true rfl) dFI_smoothEdge_94 ?_
    refine ip_top hf (fun z9 hf => ?_)
    refine lv_bipush (v := (10 : Int32)) hx hb dFI_smoothEdge_97 (by decide) ?_
    refine lv_iload hx hb dFI_smoothEdge_99 (lv_at hl 1 rfl) ?_
    refine lv_imul hx hb dFI_smoothEdge_101 ?_
    refine ip_icmp_ge (tgt := 155) hx hb dFI_smoothEdge_102 rfl hf (fun hf => ?_) (fun hf => ?_)
    · cases hf
      exact hret H locs 155 ls dFI_smoothEdge_155 hP hD hS
    · refine lv_iload hx hb dFI_smoothEdge_105 (lv_at hl 0 rfl) ?_
      refine lv_iload hx hb dFI_smoothEdge_107 (lv_at hl 1 rfl) ?_
      refine lv_ineg hx hb dFI_smoothEdge_109 ?_
      refine lv_iload hx hb dFI_smoothEdge_110 (lv_at hl 1 rfl) ?_
      obtain ⟨z10, hc, hf⟩ := ip_b1_e hf
      refine ip_calli (va_runSN (As := [.int z6, .int (-z5), .int z5]) (rest := []) ⟨hx, hb, hml, hown, hts⟩ (tIP_bring (l := l) (dC := dC) (dI := dI) (ad := ad) (cI := cI) (ts := ts) hc H.size) ⟨va_cnB 3 hts (ip_gd kw3_14) rfl rfl rfl (hZ.2 11 _ rfl) (hts _ (List.mem_cons_of_mem _ kw1_1)) (by decide +kernel) ⟨Nat.le_of_ble_eq_true rfl, Nat.le_of_ble_eq_true rfl⟩, (hts _ (List.mem_cons_of_mem _ kw3_13)), trivial⟩ (ip_preS hK hP hD hS hA hZ [] rfl rfl) rfl rfl hl.1 rfl (lv_room (Nat.le_of_ble_eq_true rfl)) dFI_smoothEdge_112 ⟨Nat.le_of_ble_eq_true rfl, Nat.le_of_ble_eq_true rfl⟩) hP hD hS hA [] [0, 1] [0, 1] (wFI_smoothEdge ad cI v_aSamples) rfl rfl rfl (by decide) rfl rfl (fun H locs hP hD hS => ?_)
      clear hc
      refine lv_istore (lv' := [(9, .int z10), (8, .int z5), (7, .int z4), (6, .int z3), (5, .int z2), (4, .int z1), (0, .ref (ad 11)), (1, .int p1), (2, .int p2), (3, .int p3)]) hx hb dFI_smoothEdge_115 hl (by decide) rfl (fun ls hl => ?_)
      refine lv_aload_n hx hb dFI_smoothEdge_117 rfl (lv_at hl 6 rfl) ?_
      refine va_get (D := (dC, dI)) (ci := 11) (v := .ref (ad 18)) (C := kR_FI) (T := kT_FI) (N := 2) hx hb hts kin_FI hown hK hP 0 rfl rfl 0 (by decide) (hts _ (List.mem_cons_of_mem _ kw2_21)) (fun _ h9 => h9) rfl dFI_smoothEdge_118 ?_
      refine lv_iload_n hx hb dFI_smoothEdge_121 rfl (lv_at hl 7 rfl) ?_
      refine lv_iload_n hx hb dFI_smoothEdge_122 rfl (lv_at hl 8 rfl) ?_
      refine lv_isub hx hb dFI_smoothEdge_123 ?_
      refine lv_iload hx hb dFI_smoothEdge_124 (lv_at hl 4 rfl) ?_
      refine lv_iload hx hb dFI_smoothEdge_126 (lv_at hl 0 rfl) ?_
      refine lv_iadd hx hb dFI_smoothEdge_128 ?_
      refine lv_iconst (v := (0 : Int32)) hx hb dFI_smoothEdge_129 (by decide) ?_
      refine lv_sipush (v := (255 : Int32)) hx hb dFI_smoothEdge_130 (by decide) ?_
      obtain ⟨z11, hc, hf⟩ := ip_b1_e hf
      refine ip_calli (va_runSN (As := [.int (z2 + z10), .int (0 : Int32), .int (255 : Int32)]) (rest := [.int (p1 - p2), .ref (ad 18)]) ⟨hx, hb, hml, hown, hts⟩ (tIP_bring (l := l) (dC := dC) (dI := dI) (ad := ad) (cI := cI) (ts := ts) hc H.size) ⟨va_cnB 3 hts (ip_gd kw3_14) rfl rfl rfl (hZ.2 11 _ rfl) (hts _ (List.mem_cons_of_mem _ kw1_1)) (by decide +kernel) ⟨Nat.le_of_ble_eq_true rfl, Nat.le_of_ble_eq_true rfl⟩, (hts _ (List.mem_cons_of_mem _ kw3_13)), trivial⟩ (ip_preS hK hP hD hS hA hZ [] rfl rfl) rfl rfl hl.1 rfl (lv_room (Nat.le_of_ble_eq_true rfl)) dFI_smoothEdge_133 ⟨Nat.le_of_ble_eq_true rfl, Nat.le_of_ble_eq_true rfl⟩) hP hD hS hA [] [0, 1] [0, 1] (wFI_smoothEdge ad cI v_aSamples) rfl rfl rfl (by decide) rfl rfl (fun H locs hP hD hS => ?_)
      clear hc
      refine ip_iast hx hb hK hP hD hS 1 0 rfl rfl (fun g12 => (wFI_smoothEdge ad cI g12)) (fun _ => rfl) dFI_smoothEdge_136 hf (fun g12 H locs hf hP hD hS => ?_)
      refine lv_aload_n hx hb dFI_smoothEdge_137 rfl (lv_at hl 6 rfl) ?_
      refine va_get (D := (dC, dI)) (ci := 11) (v := .ref (ad 18)) (C := kR_FI) (T := kT_FI) (N := 2) hx hb hts kin_FI hown hK hP 0 rfl rfl 0 (by decide) (hts _ (List.mem_cons_of_mem _ kw2_21)) (fun _ h9 => h9) rfl dFI_smoothEdge_138 ?_
      refine lv_iload_n hx hb dFI_smoothEdge_141 rfl (lv_at hl 7 rfl) ?_
      refine lv_iload hx hb dFI_smoothEdge_142 (lv_at hl 3 rfl) ?_
      refine lv_iload hx hb dFI_smoothEdge_144 (lv_at hl 0 rfl) ?_
      refine lv_isub hx hb dFI_smoothEdge_146 ?_
      refine lv_iconst (v := (0 : Int32)) hx hb dFI_smoothEdge_147 (by decide) ?_
      refine lv_sipush (v := (255 : Int32)) hx hb dFI_smoothEdge_148 (by decide) ?_
      obtain ⟨z13, hc, hf⟩ := ip_b1_e hf
      refine ip_calli (va_runSN (As := [.int (z3 - z10), .int (0 : Int32), .int (255 : Int32)]) (rest := [.int p1, .ref (ad 18)]) ⟨hx, hb, hml, hown, hts⟩ (tIP_bring (l := l) (dC := dC) (dI := dI) (ad := ad) (cI := cI) (ts := ts) hc H.size) ⟨va_cnB 3 hts (ip_gd kw3_14) rfl rfl rfl (hZ.2 11 _ rfl) (hts _ (List.mem_cons_of_mem _ kw1_1)) (by decide +kernel) ⟨Nat.le_of_ble_eq_true rfl, Nat.le_of_ble_eq_true rfl⟩, (hts _ (List.mem_cons_of_mem _ kw3_13)), trivial⟩ (ip_preS hK hP hD hS hA hZ [] rfl rfl) rfl rfl hl.1 rfl (lv_room (Nat.le_of_ble_eq_true rfl)) dFI_smoothEdge_151 ⟨Nat.le_of_ble_eq_true rfl, Nat.le_of_ble_eq_true rfl⟩) hP hD hS hA [] [0, 1] [0, 1] (wFI_smoothEdge ad cI g12) rfl rfl rfl (by decide) rfl rfl (fun H locs hP hD hS => ?_)
      clear hc
      refine ip_iast hx hb hK hP hD hS 1 0 rfl rfl (fun g14 => (wFI_smoothEdge ad cI g14)) (fun _ => rfl) dFI_smoothEdge_154 hf (fun g14 H locs hf hP hD hS => ?_)
      cases hf
      exact hret H locs 155 ls dFI_smoothEdge_155 hP hD hS
set_option maxHeartbeats 4000000 in
set_option maxRecDepth 100000 in
theorem tFI_numberByNeighbours {l : Launch} {dC : Nat → ClassId} {dI : Nat → Nat → Nat} {cI : ClassId} {ad : Nat → Nat} {ts : ip_TT} {v_aBefore : Nat → Int32} {p1 : Int32} {p2 : Int32} {r0 : Int32}  (hf : fFI_numberByNeighbours v_aBefore p1 p2 = some r0) : ip_Mi l yFI_numberByNeighbours wsFI_numberByNeighbours rmFI_numberByNeighbours (dC, dI) vwCl [(cI, .int)] ts [.ref (ad 11), .int p1, .int p2] (wFI_numberByNeighbours ad cI v_aBefore) (wFI_numberByNeighbours ad cI v_aBefore) r0 := by
  refine ip_startI (cc := cFI_numberByNeighbours) (maxL := 5) (by decide) rfl (Nat.le_of_ble_eq_true rfl) ?_
  intro p e s m args below meth c Q A ls hx hb hml hts hown hK hP hD hS hA hZ hl hret
  replace hl : lv_has ls 5 [(0, .ref (ad 11)), (1, .int p1), (2, .int p2)] := hl
  unfold fFI_numberByNeighbours at hf
  suffices J0 : ∀ (ls : Array Slot) (H : Heap) (locs : List Loc), lv_has ls 5 [(0, .ref (ad 11)), (1, .int p1), (2, .int p2)] → va_P (dC, dI) vwCl (wFI_numberByNeighbours ad cI v_aBefore) H → va_D A (wFI_numberByNeighbours ad cI v_aBefore) → va_S A s.heap H locs → W p l e rmFI_numberByNeighbours s m args below meth c H locs 0 0 Q (F0 m 0 ls []) by exact J0 ls s.heap [] hl hP hD hS
  clear hP hD hS hl
  intro ls H locs hl hP hD hS
  refine lv_aload_n hx hb dFI_numberByNeighbours_0 rfl (lv_at hl 0 rfl) ?_
  refine va_get (D := (dC, dI)) (ci := 11) (v := .ref (ad 30)) (C := kR_FI) (T := kT_FI) (N := 2) hx hb hts kin_FI hown hK hP 0 rfl rfl 1 (by decide) (hts _ (List.mem_cons_of_mem _ kw2_22)) (fun _ h9 => h9) rfl dFI_numberByNeighbours_1 ?_
  refine lv_iload_n hx hb dFI_numberByNeighbours_4 rfl (lv_at hl 1 rfl) ?_
  refine ip_iald hx hb hK hP 1 0 rfl rfl dFI_numberByNeighbours_5 hf (fun z1 hf => ?_)
  refine lv_istore_n (lv' := [(3, .int z1), (0, .ref (ad 11)), (1, .int p1), (2, .int p2)]) hx hb dFI_numberByNeighbours_6 rfl hl (by decide) rfl (fun ls hl => ?_)
  refine lv_aload_n hx hb dFI_numberByNeighbours_7 rfl (lv_at hl 1 rfl) ?_
  refine va_get (D := (dC, dI)) (ci := 11) (v := .ref (ad 30)) (C := kR_FI) (T := kT_FI) (N := 2) hx hb hts kin_FI hown hK hP 0 rfl rfl 1 (by decide) (hts _ (List.mem_cons_of_mem _ kw2_22)) (fun _ h9 => h9) rfl dFI_numberByNeighbours_8 ?_
  refine lv_iload_n hx hb dFI_numberByNeighbours_11 rfl (lv_at hl 2 rfl) ?_
  refine lv_iload_n hx hb dFI_numberByNeighbours_12 rfl (lv_at hl 3 rfl) ?_
  refine lv_isub hx hb dFI_numberByNeighbours_13 ?_
  refine ip_iald hx hb hK hP 1 0 rfl rfl dFI_numberByNeighbours_14 hf (fun z2 hf => ?_)
  refine lv_iload_n hx hb dFI_numberByNeighbours_15 rfl (lv_at hl 0 rfl) ?_
  obtain ⟨z3, hc, hf⟩ := ip_b1_e hf
  refine ip_calli (va_runS (As := [.int z2, .int z1]) (rest := []) ⟨hx, hb, hml, hown, hts⟩ (tJI_compare (l := l) (dC := dC) (dI := dI) (ad := ad) (cI := cI) (ts := ts) hc H.size) (va_cwS 2 hts (ip_gdS (own := kR_FI) (idx := 53) (y := yJI_compare) kw3_136 kw3_137 kw1_17 kw3_138) rfl rfl rfl (by decide +kernel) ⟨Nat.le_of_ble_eq_true rfl, Nat.le_of_ble_eq_true rfl⟩) (ip_preS hK hP hD hS hA hZ [] rfl rfl) rfl rfl hl.1 rfl (lv_room (Nat.le_of_ble_eq_true rfl)) dFI_numberByNeighbours_16 ⟨Nat.le_of_ble_eq_true rfl, Nat.le_of_ble_eq_true rfl⟩) hP hD hS hA [] [0, 1] [0, 1] (wFI_numberByNeighbours ad cI v_aBefore) rfl rfl rfl (by decide) rfl rfl (fun H locs hP hD hS => ?_)
  clear hc
  refine lv_aload_n hx hb dFI_numberByNeighbours_19 rfl (lv_at hl 1 rfl) ?_
  refine va_get (D := (dC, dI)) (ci := 11) (v := .ref (ad 30)) (C := kR_FI) (T := kT_FI) (N := 2) hx hb hts kin_FI hown hK hP 0 rfl rfl 1 (by decide) (hts _ (List.mem_cons_of_mem _ kw2_22)) (fun _ h9 => h9) rfl dFI_numberByNeighbours_20 ?_
  refine lv_iload_n hx hb dFI_numberByNeighbours_23 rfl (lv_at hl 2 rfl) ?_
  refine lv_iload_n hx hb dFI_numberByNeighbours_24 rfl (lv_at hl 3 rfl) ?_
  refine lv_iadd hx hb dFI_numberByNeighbours_25 ?_
  refine ip_iald hx hb hK hP 1 0 rfl rfl dFI_numberByNeighbours_26 hf (fun z4 hf => ?_)
  refine lv_iload_n hx hb dFI_numberByNeighbours_27 rfl (lv_at hl 0 rfl) ?_
  obtain ⟨z5, hc, hf⟩ := ip_b1_e hf
  refine ip_calli (va_runS (As := [.int z4, .int z1]) (rest := [.int z3]) ⟨hx, hb, hml, hown, hts⟩ (tJI_compare (l := l) (dC := dC) (dI := dI) (ad := ad) (cI := cI) (ts := ts) hc H.size) (va_cwS 2 hts (ip_gdS (own := kR_FI) (idx := 53) (y := yJI_compare) kw3_136 kw3_137 kw1_17 kw3_138) rfl rfl rfl (by decide +kernel) ⟨Nat.le_of_ble_eq_true rfl, Nat.le_of_ble_eq_true rfl⟩) (ip_preS hK hP hD hS hA hZ [] rfl rfl) rfl rfl hl.1 rfl (lv_room (Nat.le_of_ble_eq_true rfl)) dFI_numberByNeighbours_28 ⟨Nat.le_of_ble_eq_true rfl, Nat.le_of_ble_eq_true rfl⟩) hP hD hS hA [] [0, 1] [0, 1] (wFI_numberByNeighbours ad cI v_aBefore) rfl rfl rfl (by decide) rfl rfl (fun H locs hP hD hS => ?_)
  clear hc
  refine lv_iadd hx hb dFI_numberByNeighbours_31 ?_
  refine ip_top hf (fun z6 hf => ?_)
  refine lv_istore (lv' := [(4, .int z6), (3, .int z1), (0, .ref (ad 11)), (1, .int p1), (2, .int p2)]) hx hb dFI_numberByNeighbours_32 hl (by decide) rfl (fun ls hl => ?_)
  refine lv_iload hx hb dFI_numberByNeighbours_34 (lv_at hl 0 rfl) ?_
  by_cases hn0 : z6 = (-2 : Int32)
  · rw [if_pos hn0] at hf
    refine ip_tsIn (tgt := 78) hx hb dFI_numberByNeighbours_36 hn0 (by decide) (by decide) rfl rfl ?_
    refine lv_iconst (v := (3 : Int32)) hx hb dFI_numberByNeighbours_78 (by decide) ?_
    cases hf
    exact hret H locs 79 ls _ dFI_numberByNeighbours_79 rfl hP hD hS
  · rw [if_neg hn0] at hf
    by_cases hn1 : z6 = (-1 : Int32)
    · rw [if_pos hn1] at hf
      refine ip_tsIn (tgt := 76) hx hb dFI_numberByNeighbours_36 hn1 (by decide) (by decide) rfl rfl ?_
      refine lv_iconst (v := (2 : Int32)) hx hb dFI_numberByNeighbours_76 (by decide) ?_
      cases hf
      exact hret H locs 77 ls _ dFI_numberByNeighbours_77 rfl hP hD hS
    · rw [if_neg hn1] at hf
      by_cases hn2 : z6 = (0 : Int32)
      · rw [if_pos hn2] at hf
        refine ip_tsIn (tgt := 80) hx hb dFI_numberByNeighbours_36 hn2 (by decide) (by decide) rfl rfl ?_
        refine lv_iconst (v := (-1 : Int32)) hx hb dFI_numberByNeighbours_80 (by decide) ?_
        cases hf
        exact hret H locs 81 ls _ dFI_numberByNeighbours_81 rfl hP hD hS
      · rw [if_neg hn2] at hf
        by_cases hn3 : z6 = (1 : Int32)
        · rw [if_pos hn3] at hf
          refine ip_tsIn (tgt := 74) hx hb dFI_numberByNeighbours_36 hn3 (by decide) (by decide) rfl rfl ?_
          refine lv_iconst (v := (1 : Int32)) hx hb dFI_numberByNeighbours_74 (by decide) ?_
          cases hf
          exact hret H locs 75 ls _ dFI_numberByNeighbours_75 rfl hP hD hS
        · rw [if_neg hn3] at hf
          by_cases hn4 : z6 = (2 : Int32)
          · rw [if_pos hn4] at hf
            refine ip_tsIn (tgt := 72) hx hb dFI_numberByNeighbours_36 hn4 (by decide) (by decide) rfl rfl ?_
            refine lv_iconst (v := (0 : Int32)) hx hb dFI_numberByNeighbours_72 (by decide) ?_
            cases hf
            exact hret H locs 73 ls _ dFI_numberByNeighbours_73 rfl hP hD hS
          · rw [if_neg hn4] at hf
            refine lv_tableOut (tgt := 80) hx hb dFI_numberByNeighbours_36 (by have := lv_neT hn0 (a := -2) (by decide); have := lv_neT hn1 (a := -1) (by decide); have := lv_neT hn2 (a := 0) (by decide); have := lv_neT hn3 (a := 1) (by decide); have := lv_neT hn4 (a := 2) (by decide); omega) rfl ?_
            refine lv_iconst (v := (-1 : Int32)) hx hb dFI_numberByNeighbours_80 (by decide) ?_
            cases hf
            exact hret H locs 81 ls _ dFI_numberByNeighbours_81 rfl hP hD hS
set_option maxHeartbeats 4000000 in
set_option maxRecDepth 100000 in
theorem tFI_offsetNumber {l : Launch} {dC : Nat → ClassId} {dI : Nat → Nat → Nat} {cI : ClassId} {ad : Nat → Nat} {ts : ip_TT} {v_aValues : Nat → Int32} {v_aBefore : Nat → Int32} {p2 : Int32} {p3 : Int32} {r0 : Int32}  (hf : fFI_offsetNumber v_aValues v_aBefore p2 p3 = some r0) : ip_Mi l yFI_offsetNumber wsFI_offsetNumber rmFI_offsetNumber (dC, dI) vwCl [(cI, .int)] ts [.ref (ad 11), .ref (ad 14), .int p2, .int p3] (wFI_offsetNumber ad cI v_aValues v_aBefore) (wFI_offsetNumber ad cI v_aValues v_aBefore) r0 := by
  refine ip_startI (cc := cFI_offsetNumber) (maxL := 6) (by decide) rfl (Nat.le_of_ble_eq_true rfl) ?_
  intro p e s m args below meth c Q A ls hx hb hml hts hown hK hP hD hS hA hZ hl hret
  replace hl : lv_has ls 6 [(0, .ref (ad 11)), (1, .ref (ad 14)), (2, .int p2), (3, .int p3)] := hl
  unfold fFI_offsetNumber at hf
  suffices J0 : ∀ (ls : Array Slot) (H : Heap) (locs : List Loc), lv_has ls 6 [(0, .ref (ad 11)), (1, .ref (ad 14)), (2, .int p2), (3, .int p3)] → va_P (dC, dI) vwCl (wFI_offsetNumber ad cI v_aValues v_aBefore) H → va_D A (wFI_offsetNumber ad cI v_aValues v_aBefore) → va_S A s.heap H locs → W p l e rmFI_offsetNumber s m args below meth c H locs 0 0 Q (F0 m 0 ls []) by exact J0 ls s.heap [] hl hP hD hS
  clear hP hD hS hl
  intro ls H locs hl hP hD hS
  refine lv_iload_n hx hb dFI_offsetNumber_0 rfl (lv_at hl 2 rfl) ?_
  refine lv_iload_n hx hb dFI_offsetNumber_1 rfl (lv_at hl 3 rfl) ?_
  obtain ⟨z1, hc, hf⟩ := ip_b1_e hf
  refine ip_calli (va_runSN (As := [.int p2, .int p3]) (rest := []) ⟨hx, hb, hml, hown, hts⟩ (tIP_placeOf (l := l) (dC := dC) (dI := dI) (ad := ad) (cI := cI) (ts := ts) hc H.size) ⟨va_cnB 2 hts (ip_gd kw2_185) rfl rfl rfl (hZ.2 10 _ rfl) (hts _ (List.mem_cons_of_mem _ kw1_1)) (by decide +kernel) ⟨Nat.le_of_ble_eq_true rfl, Nat.le_of_ble_eq_true rfl⟩, (hts _ (List.mem_cons_of_mem _ kw2_184)), trivial⟩ (ip_preS hK hP hD hS hA hZ [] rfl rfl) rfl rfl hl.1 rfl (lv_room (Nat.le_of_ble_eq_true rfl)) dFI_offsetNumber_2 ⟨Nat.le_of_ble_eq_true rfl, Nat.le_of_ble_eq_true rfl⟩) hP hD hS hA [] [0, 1, 2] [0, 1, 2] (wFI_offsetNumber ad cI v_aValues v_aBefore) rfl rfl rfl (by decide) rfl rfl (fun H locs hP hD hS => ?_)
  clear hc
  refine lv_istore (lv' := [(4, .int z1), (0, .ref (ad 11)), (1, .ref (ad 14)), (2, .int p2), (3, .int p3)]) hx hb dFI_offsetNumber_5 hl (by decide) rfl (fun ls hl => ?_)
  refine lv_aload_n hx hb dFI_offsetNumber_7 rfl (lv_at hl 2 rfl) ?_
  refine lv_iconst (v := (4 : Int32)) hx hb dFI_offsetNumber_8 (by decide) ?_
  refine ip_iald hx hb hK hP 1 0 rfl rfl dFI_offsetNumber_9 hf (fun z2 hf => ?_)
  by_cases hn0 : z2 = (1 : Int32)
  · rw [if_pos hn0] at hf
    refine ip_lkIn (tgt := 36) hx hb dFI_offsetNumber_10 hn0 (by decide) rfl rfl ?_
    refine lv_iload_n hx hb dFI_offsetNumber_36 rfl (lv_at hl 3 rfl) ?_
    refine ip_if_le (tgt := 56) hx hb dFI_offsetNumber_37 rfl hf (fun hf => ?_) (fun hf => ?_)
    · refine lv_iconst (v := (-1 : Int32)) hx hb dFI_offsetNumber_56 (by decide) ?_
      cases hf
      exact hret H locs 57 ls _ dFI_offsetNumber_57 rfl hP hD hS
    · refine lv_iload_n hx hb dFI_offsetNumber_40 rfl (lv_at hl 3 rfl) ?_
      refine lv_bipush (v := (15 : Int32)) hx hb dFI_offsetNumber_41 (by decide) ?_
      refine ip_icmp_ge (tgt := 56) hx hb dFI_offsetNumber_43 rfl hf (fun hf => ?_) (fun hf => ?_)
      · refine lv_iconst (v := (-1 : Int32)) hx hb dFI_offsetNumber_56 (by decide) ?_
        cases hf
        exact hret H locs 57 ls _ dFI_offsetNumber_57 rfl hP hD hS
      · refine lv_aload_n hx hb dFI_offsetNumber_46 rfl (lv_at hl 1 rfl) ?_
        refine lv_iload hx hb dFI_offsetNumber_47 (lv_at hl 0 rfl) ?_
        refine lv_iconst (v := (1 : Int32)) hx hb dFI_offsetNumber_49 (by decide) ?_
        obtain ⟨z3, hc, hf⟩ := ip_b1_e hf
        refine ip_calli (va_runV (As := [.int z1, .int (1 : Int32)]) (rest := []) ⟨hx, hb, hml, hown, hts⟩ (tFI_numberByNeighbours (l := l) (dC := dC) (dI := dI) (ad := ad) (cI := cI) (ts := ts) hc H.size) (cwV 2 hts (ip_gdV (own := kR_FI) (idx := 50) (C := kR_FI) (y := yFI_numberByNeighbours) kw3_132 kw3_134 kws_34 kw1_12 kw3_135) rfl rfl rfl (by decide +kernel) ⟨Nat.le_of_ble_eq_true rfl, Nat.le_of_ble_eq_true rfl⟩) (ip_preV hK hP hD hS hA hZ [0, 2] rfl rfl (ci := 11) (q0 := 0) rfl rfl) rfl rfl hl.1 rfl (lv_room (Nat.le_of_ble_eq_true rfl)) dFI_offsetNumber_50 ⟨Nat.le_of_ble_eq_true rfl, Nat.le_of_ble_eq_true rfl⟩) hP hD hS hA [0, 2] [1] [1, 0, 2] (wFI_offsetNumber ad cI v_aValues v_aBefore) rfl rfl rfl (by decide) rfl rfl (fun H locs hP hD hS => ?_)
        clear hc
        refine lv_goto (tgt := 57) hx hb dFI_offsetNumber_53 rfl ?_
        cases hf
        exact hret H locs 57 ls _ dFI_offsetNumber_57 rfl hP hD hS
  · rw [if_neg hn0] at hf
    by_cases hn1 : z2 = (2 : Int32)
    · rw [if_pos hn1] at hf
      refine ip_lkIn (tgt := 58) hx hb dFI_offsetNumber_10 hn1 (by decide) rfl rfl ?_
      refine lv_iload_n hx hb dFI_offsetNumber_58 rfl (lv_at hl 4 rfl) ?_
      refine ip_if_le (tgt := 79) hx hb dFI_offsetNumber_59 rfl hf (fun hf => ?_) (fun hf => ?_)
      · refine lv_iconst (v := (-1 : Int32)) hx hb dFI_offsetNumber_79 (by decide) ?_
        cases hf
        exact hret H locs 80 ls _ dFI_offsetNumber_80 rfl hP hD hS
      · refine lv_iload_n hx hb dFI_offsetNumber_62 rfl (lv_at hl 4 rfl) ?_
        refine lv_bipush (v := (15 : Int32)) hx hb dFI_offsetNumber_63 (by decide) ?_
        refine ip_icmp_ge (tgt := 79) hx hb dFI_offsetNumber_65 rfl hf (fun hf => ?_) (fun hf => ?_)
        · refine lv_iconst (v := (-1 : Int32)) hx hb dFI_offsetNumber_79 (by decide) ?_
          cases hf
          exact hret H locs 80 ls _ dFI_offsetNumber_80 rfl hP hD hS
        · refine lv_aload_n hx hb dFI_offsetNumber_68 rfl (lv_at hl 1 rfl) ?_
          refine lv_iload hx hb dFI_offsetNumber_69 (lv_at hl 0 rfl) ?_
          refine lv_bipush (v := (16 : Int32)) hx hb dFI_offsetNumber_71 (by decide) ?_
          obtain ⟨z4, hc, hf⟩ := ip_b1_e hf
          refine ip_calli (va_runV (As := [.int z1, .int (16 : Int32)]) (rest := []) ⟨hx, hb, hml, hown, hts⟩ (tFI_numberByNeighbours (l := l) (dC := dC) (dI := dI) (ad := ad) (cI := cI) (ts := ts) hc H.size) (cwV 2 hts (ip_gdV (own := kR_FI) (idx := 50) (C := kR_FI) (y := yFI_numberByNeighbours) kw3_132 kw3_134 kws_34 kw1_12 kw3_135) rfl rfl rfl (by decide +kernel) ⟨Nat.le_of_ble_eq_true rfl, Nat.le_of_ble_eq_true rfl⟩) (ip_preV hK hP hD hS hA hZ [0, 2] rfl rfl (ci := 11) (q0 := 0) rfl rfl) rfl rfl hl.1 rfl (lv_room (Nat.le_of_ble_eq_true rfl)) dFI_offsetNumber_73 ⟨Nat.le_of_ble_eq_true rfl, Nat.le_of_ble_eq_true rfl⟩) hP hD hS hA [0, 2] [1] [1, 0, 2] (wFI_offsetNumber ad cI v_aValues v_aBefore) rfl rfl rfl (by decide) rfl rfl (fun H locs hP hD hS => ?_)
          clear hc
          refine lv_goto (tgt := 80) hx hb dFI_offsetNumber_76 rfl ?_
          cases hf
          exact hret H locs 80 ls _ dFI_offsetNumber_80 rfl hP hD hS
    · rw [if_neg hn1] at hf
      refine lv_lookup (off := 71) (tgt := 81) hx hb dFI_offsetNumber_10 (by decide) (Eq.trans (lv_osw hn0 (by decide)) (Eq.trans (lv_osw hn1 (by decide)) rfl)) rfl ?_
      refine lv_aload_n hx hb dFI_offsetNumber_81 rfl (lv_at hl 1 rfl) ?_
      refine va_get (D := (dC, dI)) (ci := 11) (v := .ref (ad 30)) (C := kR_FI) (T := kT_FI) (N := 2) hx hb hts kin_FI hown hK hP 0 rfl rfl 1 (by decide) (hts _ (List.mem_cons_of_mem _ kw2_22)) (fun _ h9 => h9) rfl dFI_offsetNumber_82 ?_
      refine lv_iload hx hb dFI_offsetNumber_85 (lv_at hl 0 rfl) ?_
      refine ip_iald hx hb hK hP 2 0 rfl rfl dFI_offsetNumber_87 hf (fun z5 hf => ?_)
      refine lv_iconst (v := (5 : Int32)) hx hb dFI_offsetNumber_88 (by decide) ?_
      refine lv_ishr hx hb dFI_offsetNumber_89 ?_
      refine lv_aload_n hx hb dFI_offsetNumber_90 rfl (lv_at hl 2 rfl) ?_
      refine lv_bipush (v := (9 : Int32)) hx hb dFI_offsetNumber_91 (by decide) ?_
      refine ip_iald hx hb hK hP 1 0 rfl rfl dFI_offsetNumber_93 hf (fun z6 hf => ?_)
      refine lv_isub hx hb dFI_offsetNumber_94 ?_
      refine lv_bipush (v := (7 : Int32)) hx hb dFI_offsetNumber_95 (by decide) ?_
      refine lv_iand hx hb dFI_offsetNumber_97 ?_
      refine ip_top hf (fun z7 hf => ?_)
      refine lv_istore (lv' := [(5, .int z7), (4, .int z1), (0, .ref (ad 11)), (1, .ref (ad 14)), (2, .int p2), (3, .int p3)]) hx hb dFI_offsetNumber_98 hl (by decide) rfl (fun ls hl => ?_)
      refine lv_iload hx hb dFI_offsetNumber_100 (lv_at hl 0 rfl) ?_
      refine lv_iconst (v := (4 : Int32)) hx hb dFI_offsetNumber_102 (by decide) ?_
      refine ip_icmp_ge (tgt := 111) hx hb dFI_offsetNumber_103 rfl hf (fun hf => ?_) (fun hf => ?_)
      · refine lv_iconst (v := (-1 : Int32)) hx hb dFI_offsetNumber_111 (by decide) ?_
        cases hf
        exact hret H locs 112 ls _ dFI_offsetNumber_112 rfl hP hD hS
      · refine lv_iload hx hb dFI_offsetNumber_106 (lv_at hl 0 rfl) ?_
        refine lv_goto (tgt := 112) hx hb dFI_offsetNumber_108 rfl ?_
        cases hf
        exact hret H locs 112 ls _ dFI_offsetNumber_112 rfl hP hD hS
set_option maxHeartbeats 4000000 in
set_option maxRecDepth 100000 in
theorem tFI_addOffsets {l : Launch} {dC : Nat → ClassId} {dI : Nat → Nat → Nat} {cI : ClassId} {ad : Nat → Nat} {ts : ip_TT} {v_aValues : Nat → Int32} {v_aSamples : Nat → Int32} {v_aBefore : Nat → Int32}  {nv_aSamples : Nat → Int32} {nv_aBefore : Nat → Int32} (hf : fFI_addOffsets v_aValues v_aSamples v_aBefore = some (nv_aSamples, nv_aBefore)) : ip_Mv l yFI_addOffsets wsFI_addOffsets rmFI_addOffsets (dC, dI) vwCl [(cI, .int)] ts [.ref (ad 11), .ref (ad 14)] (wFI_addOffsets ad cI v_aValues v_aSamples v_aBefore) (wFI_addOffsets ad cI v_aValues nv_aSamples nv_aBefore) := by
  refine ip_startV (cc := cFI_addOffsets) (maxL := 6) (by decide) rfl (Nat.le_of_ble_eq_true rfl) ?_
  intro p e s m args below meth c Q A ls hx hb hml hts hown hK hP hD hS hA hZ hl hret
  replace hl : lv_has ls 6 [(0, .ref (ad 11)), (1, .ref (ad 14))] := hl
  unfold fFI_addOffsets at hf
  suffices J0 : ∀ (ls : Array Slot) (H : Heap) (locs : List Loc), lv_has ls 6 [(0, .ref (ad 11)), (1, .ref (ad 14))] → va_P (dC, dI) vwCl (wFI_addOffsets ad cI v_aValues v_aSamples v_aBefore) H → va_D A (wFI_addOffsets ad cI v_aValues v_aSamples v_aBefore) → va_S A s.heap H locs → W p l e rmFI_addOffsets s m args below meth c H locs 0 0 Q (F0 m 0 ls []) by exact J0 ls s.heap [] hl hP hD hS
  clear hP hD hS hl
  intro ls H locs hl hP hD hS
  refine lv_aload_n hx hb dFI_addOffsets_0 rfl (lv_at hl 0 rfl) ?_
  refine va_get (D := (dC, dI)) (ci := 11) (v := .ref (ad 18)) (C := kR_FI) (T := kT_FI) (N := 2) hx hb hts kin_FI hown hK hP 0 rfl rfl 0 (by decide) (hts _ (List.mem_cons_of_mem _ kw2_21)) (fun _ h9 => h9) rfl dFI_addOffsets_1 ?_
  refine lv_iconst (v := (0 : Int32)) hx hb dFI_addOffsets_4 (by decide) ?_
  refine lv_aload_n hx hb dFI_addOffsets_5 rfl (lv_at hl 0 rfl) ?_
  refine va_get (D := (dC, dI)) (ci := 11) (v := .ref (ad 30)) (C := kR_FI) (T := kT_FI) (N := 2) hx hb hts kin_FI hown hK hP 0 rfl rfl 1 (by decide) (hts _ (List.mem_cons_of_mem _ kw2_22)) (fun _ h9 => h9) rfl dFI_addOffsets_6 ?_
  refine lv_iconst (v := (0 : Int32)) hx hb dFI_addOffsets_9 (by decide) ?_
  refine lv_sipush (v := (256 : Int32)) hx hb dFI_addOffsets_10 (by decide) ?_
  refine va_copyi (ty := .int) hx hb (by rw [hml]; exact hl.1.symm) hown (hts _ (List.mem_cons_of_mem _ kw3_127)) (hts _ (List.mem_cons_of_mem _ kw2_164)) (hts _ (List.mem_cons_of_mem _ kw2_163)) (hts _ (List.mem_cons_of_mem _ kw1_15)) hK hP hD hS 2 3 0 0 rfl rfl rfl rfl rfl (by decide) (by decide) (by decide) (by decide) (by decide) (fun _ _ => rfl) (Nat.le_of_ble_eq_true rfl) (by decide) dFI_addOffsets_13 (fun H locs hP hD hS => ?_)
  obtain ⟨g1, hg9, hf⟩ := ip_lt_e hf
  rw [← hg9] at hP hD
  replace hP : va_P (dC, dI) vwCl (wFI_addOffsets ad cI v_aValues v_aSamples g1) H := hP
  replace hD : va_D A (wFI_addOffsets ad cI v_aValues v_aSamples g1) := hD
  clear hg9
  refine lv_iconst (v := (0 : Int32)) hx hb dFI_addOffsets_16 (by decide) ?_
  refine lv_istore_n (lv' := [(2, .int (0 : Int32)), (0, .ref (ad 11)), (1, .ref (ad 14))]) hx hb dFI_addOffsets_17 rfl hl (by decide) rfl (fun ls hl => ?_)
  replace hl := lv_sub hl (l' := [(0, .ref (ad 11)), (1, .ref (ad 14)), (2, .int (0 : Int32))]) [1, 2, 0] rfl
  obtain ⟨x4, y5, hL, hf⟩ := ip_b2_e hf
  suffices J93 : ∀ (ls : Array Slot) (H : Heap) (locs : List Loc), lv_has ls 6 [] → va_P (dC, dI) vwCl (wFI_addOffsets ad cI v_aValues y5 g1) H → va_D A (wFI_addOffsets ad cI v_aValues y5 g1) → va_S A s.heap H locs → W p l e rmFI_addOffsets s m args below meth c H locs 0 0 Q (F0 m 93 ls []) by
    have L : ∀ (n : Nat) (z2 : Int32) (g3 : Nat → Int32), ip_lp2 (fFI_addOffsets_B18 v_aValues g1) n z2 g3 = some (x4, y5) → ∀ (ls : Array Slot) (H : Heap) (locs : List Loc), lv_has ls 6 [(0, .ref (ad 11)), (1, .ref (ad 14)), (2, .int z2)] → va_P (dC, dI) vwCl (wFI_addOffsets ad cI v_aValues g3 g1) H → va_D A (wFI_addOffsets ad cI v_aValues g3 g1) → va_S A s.heap H locs → W p l e rmFI_addOffsets s m args below meth c H locs 0 0 Q (F0 m 18 ls []) := by
      intro n
      induction n with
      | zero => intro z2 g3 hL; exact (ip_lp2_0 hL).elim
      | succ n ih =>
        intro z2 g3 hL ls H locs hl hP hD hS
        clear hf
        obtain ⟨r9, hf, hr18⟩ := ip_lp2_s hL
        clear hL
        unfold fFI_addOffsets_B18 at hf
        refine lv_iload_n hx hb dFI_addOffsets_18 rfl (lv_at hl 2 rfl) ?_
        refine lv_bipush (v := (16 : Int32)) hx hb dFI_addOffsets_19 (by decide) ?_
        refine ip_icmp_ge (tgt := 93) hx hb dFI_addOffsets_21 rfl hf (fun hf => ?_) (fun hf => ?_)
        · have hx9 := ip_lp_x hr18 hf
          replace hl := lv_sub hl (l' := []) [] rfl
          cases hx9
          exact J93 ls H locs hl hP hD hS
        · refine lv_iconst (v := (0 : Int32)) hx hb dFI_addOffsets_24 (by decide) ?_
          refine lv_istore_n (lv' := [(3, .int (0 : Int32)), (0, .ref (ad 11)), (1, .ref (ad 14)), (2, .int z2)]) hx hb dFI_addOffsets_25 rfl hl (by decide) rfl (fun ls hl => ?_)
          replace hl := lv_sub hl (l' := [(0, .ref (ad 11)), (1, .ref (ad 14)), (2, .int z2), (3, .int (0 : Int32))]) [1, 2, 3, 0] rfl
          obtain ⟨x8, y9, hL, hf⟩ := ip_b2_e hf
          suffices J87 : ∀ (ls : Array Slot) (H : Heap) (locs : List Loc), lv_has ls 6 [(0, .ref (ad 11)), (1, .ref (ad 14)), (2, .int z2)] → va_P (dC, dI) vwCl (wFI_addOffsets ad cI v_aValues y9 g1) H → va_D A (wFI_addOffsets ad cI v_aValues y9 g1) → va_S A s.heap H locs → W p l e rmFI_addOffsets s m args below meth c H locs 0 0 Q (F0 m 87 ls []) by
            have L : ∀ (n : Nat) (z6 : Int32) (g7 : Nat → Int32), ip_lp2 (fFI_addOffsets_B26 v_aValues g1 z2) n z6 g7 = some (x8, y9) → ∀ (ls : Array Slot) (H : Heap) (locs : List Loc), lv_has ls 6 [(0, .ref (ad 11)), (1, .ref (ad 14)), (2, .int z2), (3, .int z6)] → va_P (dC, dI) vwCl (wFI_addOffsets ad cI v_aValues g7 g1) H → va_D A (wFI_addOffsets ad cI v_aValues g7 g1) → va_S A s.heap H locs → W p l e rmFI_addOffsets s m args below meth c H locs 0 0 Q (F0 m 26 ls []) := by
              intro n
              induction n with
              | zero => intro z6 g7 hL; exact (ip_lp2_0 hL).elim
              | succ n ih =>
                intro z6 g7 hL ls H locs hl hP hD hS
                clear hf
                obtain ⟨r9, hf, hr26⟩ := ip_lp2_s hL
                clear hL
                unfold fFI_addOffsets_B26 at hf
                refine lv_iload_n hx hb dFI_addOffsets_26 rfl (lv_at hl 3 rfl) ?_
                refine lv_bipush (v := (16 : Int32)) hx hb dFI_addOffsets_27 (by decide) ?_
                refine ip_icmp_ge (tgt := 87) hx hb dFI_addOffsets_29 rfl hf (fun hf => ?_) (fun hf => ?_)
                · have hx9 := ip_lp_x hr26 hf
                  replace hl := lv_sub hl (l' := [(0, .ref (ad 11)), (1, .ref (ad 14)), (2, .int z2)]) [0, 1, 2] rfl
                  cases hx9
                  exact J87 ls H locs hl hP hD hS
                · refine lv_aload_n hx hb dFI_addOffsets_32 rfl (lv_at hl 0 rfl) ?_
                  refine lv_aload_n hx hb dFI_addOffsets_33 rfl (lv_at hl 1 rfl) ?_
                  refine lv_iload_n hx hb dFI_addOffsets_34 rfl (lv_at hl 3 rfl) ?_
                  refine lv_iload_n hx hb dFI_addOffsets_35 rfl (lv_at hl 2 rfl) ?_
                  obtain ⟨z10, hc, hf⟩ := ip_b1_e hf
                  refine ip_calli (va_runV (As := [.ref (ad 14), .int z6, .int z2]) (rest := []) ⟨hx, hb, hml, hown, hts⟩ (tFI_offsetNumber (l := l) (dC := dC) (dI := dI) (ad := ad) (cI := cI) (ts := ts) hc H.size) (cwV 3 hts (ip_gdV (own := kR_FI) (idx := 46) (C := kR_FI) (y := yFI_offsetNumber) kw3_128 kw3_130 kws_33 kw1_12 kw3_131) rfl rfl rfl (by decide +kernel) ⟨Nat.le_of_ble_eq_true rfl, Nat.le_of_ble_eq_true rfl⟩) (ip_preV hK hP hD hS hA hZ [0, 1, 3] rfl rfl (ci := 11) (q0 := 0) rfl rfl) rfl rfl hl.1 rfl (lv_room (Nat.le_of_ble_eq_true rfl)) dFI_addOffsets_36 ⟨Nat.le_of_ble_eq_true rfl, Nat.le_of_ble_eq_true rfl⟩) hP hD hS hA [0, 1, 3] [2] [1, 2, 0, 3] (wFI_addOffsets ad cI v_aValues g7 g1) rfl rfl rfl (by decide) rfl rfl (fun H locs hP hD hS => ?_)
                  clear hc
                  refine lv_istore (lv' := [(4, .int z10), (0, .ref (ad 11)), (1, .ref (ad 14)), (2, .int z2), (3, .int z6)]) hx hb dFI_addOffsets_39 hl (by decide) rfl (fun ls hl => ?_)
                  refine lv_iload hx hb dFI_addOffsets_41 (lv_at hl 0 rfl) ?_
                  obtain ⟨g11, hh, hf⟩ := ip_b1_e hf
                  suffices J81 : ∀ (ls : Array Slot) (H : Heap) (locs : List Loc), lv_has ls 6 [(0, .ref (ad 11)), (1, .ref (ad 14)), (2, .int z2), (3, .int z6)] → va_P (dC, dI) vwCl (wFI_addOffsets ad cI v_aValues g11 g1) H → va_D A (wFI_addOffsets ad cI v_aValues g11 g1) → va_S A s.heap H locs → W p l e rmFI_addOffsets s m args below meth c H locs 0 0 Q (F0 m 81 ls []) by
                    replace hf := hh
                    refine ip_if_lt (tgt := 81) hx hb dFI_addOffsets_43 rfl hf (fun hf => ?_) (fun hf => ?_)
                    · replace hl := lv_sub hl (l' := [(0, .ref (ad 11)), (1, .ref (ad 14)), (2, .int z2), (3, .int z6)]) [1, 2, 3, 4] rfl
                      cases hf
                      exact J81 ls H locs hl hP hD hS
                    · refine lv_iload_n hx hb dFI_addOffsets_46 rfl (lv_at hl 4 rfl) ?_
                      refine lv_iload_n hx hb dFI_addOffsets_47 rfl (lv_at hl 3 rfl) ?_
                      obtain ⟨z12, hc, hf⟩ := ip_b1_e hf
                      refine ip_calli (va_runSN (As := [.int z6, .int z2]) (rest := []) ⟨hx, hb, hml, hown, hts⟩ (tIP_placeOf (l := l) (dC := dC) (dI := dI) (ad := ad) (cI := cI) (ts := ts) hc H.size) ⟨va_cnB 2 hts (ip_gd kw2_185) rfl rfl rfl (hZ.2 10 _ rfl) (hts _ (List.mem_cons_of_mem _ kw1_1)) (by decide +kernel) ⟨Nat.le_of_ble_eq_true rfl, Nat.le_of_ble_eq_true rfl⟩, (hts _ (List.mem_cons_of_mem _ kw2_184)), trivial⟩ (ip_preS hK hP hD hS hA hZ [] rfl rfl) rfl rfl hl.1 rfl (lv_room (Nat.le_of_ble_eq_true rfl)) dFI_addOffsets_48 ⟨Nat.le_of_ble_eq_true rfl, Nat.le_of_ble_eq_true rfl⟩) hP hD hS hA [] [0, 1, 2, 3] [0, 1, 2, 3] (wFI_addOffsets ad cI v_aValues g7 g1) rfl rfl rfl (by decide) rfl rfl (fun H locs hP hD hS => ?_)
                      clear hc
                      refine lv_istore (lv' := [(5, .int z12), (4, .int z10), (0, .ref (ad 11)), (1, .ref (ad 14)), (2, .int z2), (3, .int z6)]) hx hb dFI_addOffsets_51 hl (by decide) rfl (fun ls hl => ?_)
                      refine lv_aload_n hx hb dFI_addOffsets_53 rfl (lv_at hl 2 rfl) ?_
                      refine va_get (D := (dC, dI)) (ci := 11) (v := .ref (ad 18)) (C := kR_FI) (T := kT_FI) (N := 2) hx hb hts kin_FI hown hK hP 0 rfl rfl 0 (by decide) (hts _ (List.mem_cons_of_mem _ kw2_21)) (fun _ h9 => h9) rfl dFI_addOffsets_54 ?_
                      refine lv_iload hx hb dFI_addOffsets_57 (lv_at hl 0 rfl) ?_
                      refine lv_aload_n hx hb dFI_addOffsets_59 rfl (lv_at hl 2 rfl) ?_
                      refine va_get (D := (dC, dI)) (ci := 11) (v := .ref (ad 30)) (C := kR_FI) (T := kT_FI) (N := 2) hx hb hts kin_FI hown hK hP 0 rfl rfl 1 (by decide) (hts _ (List.mem_cons_of_mem _ kw2_22)) (fun _ h9 => h9) rfl dFI_addOffsets_60 ?_
                      refine lv_iload hx hb dFI_addOffsets_63 (lv_at hl 0 rfl) ?_
                      refine ip_iald hx hb hK hP 3 0 rfl rfl dFI_addOffsets_65 hf (fun z13 hf => ?_)
                      refine lv_aload_n hx hb dFI_addOffsets_66 rfl (lv_at hl 3 rfl) ?_
                      refine lv_iconst (v := (5 : Int32)) hx hb dFI_addOffsets_67 (by decide) ?_
                      refine lv_iload hx hb dFI_addOffsets_68 (lv_at hl 1 rfl) ?_
                      refine lv_iadd hx hb dFI_addOffsets_70 ?_
                      refine ip_iald hx hb hK hP 1 0 rfl rfl dFI_addOffsets_71 hf (fun z14 hf => ?_)
                      refine lv_iadd hx hb dFI_addOffsets_72 ?_
                      refine lv_iconst (v := (0 : Int32)) hx hb dFI_addOffsets_73 (by decide) ?_
                      refine lv_sipush (v := (255 : Int32)) hx hb dFI_addOffsets_74 (by decide) ?_
                      obtain ⟨z15, hc, hf⟩ := ip_b1_e hf
                      refine ip_calli (va_runSN (As := [.int (z13 + z14), .int (0 : Int32), .int (255 : Int32)]) (rest := [.int z12, .ref (ad 18)]) ⟨hx, hb, hml, hown, hts⟩ (tIP_bring (l := l) (dC := dC) (dI := dI) (ad := ad) (cI := cI) (ts := ts) hc H.size) ⟨va_cnB 3 hts (ip_gd kw3_14) rfl rfl rfl (hZ.2 11 _ rfl) (hts _ (List.mem_cons_of_mem _ kw1_1)) (by decide +kernel) ⟨Nat.le_of_ble_eq_true rfl, Nat.le_of_ble_eq_true rfl⟩, (hts _ (List.mem_cons_of_mem _ kw3_13)), trivial⟩ (ip_preS hK hP hD hS hA hZ [] rfl rfl) rfl rfl hl.1 rfl (lv_room (Nat.le_of_ble_eq_true rfl)) dFI_addOffsets_77 ⟨Nat.le_of_ble_eq_true rfl, Nat.le_of_ble_eq_true rfl⟩) hP hD hS hA [] [0, 1, 2, 3] [0, 1, 2, 3] (wFI_addOffsets ad cI v_aValues g7 g1) rfl rfl rfl (by decide) rfl rfl (fun H locs hP hD hS => ?_)
                      clear hc
                      refine ip_iast hx hb hK hP hD hS 2 0 rfl rfl (fun g16 => (wFI_addOffsets ad cI v_aValues g16 g1)) (fun _ => rfl) dFI_addOffsets_80 hf (fun g16 H locs hf hP hD hS => ?_)
                      replace hl := lv_sub hl (l' := [(0, .ref (ad 11)), (1, .ref (ad 14)), (2, .int z2), (3, .int z6)]) [2, 3, 4, 5] rfl
                      cases hf
                      exact J81 ls H locs hl hP hD hS
                  intro ls H locs hl hP hD hS
                  clear hh
                  refine ip_iinc (k0 := 3) (v0 := (1 : Int32)) (lv1 := fun z17 => [(3, .int z17), (0, .ref (ad 11)), (1, .ref (ad 14)), (2, .int z2)]) hx hb dFI_addOffsets_81 hl rfl (by decide) (by decide) (fun _ => rfl) hf (fun z17 ls hf hl => ?_)
                  refine lv_goto (tgt := 26) hx hb dFI_addOffsets_84 rfl ?_
                  replace hl := lv_sub hl (l' := [(0, .ref (ad 11)), (1, .ref (ad 14)), (2, .int z2), (3, .int z17)]) [1, 2, 3, 0] rfl
                  exact ih _ _ (ip_lp2_l hr26 hf) ls H locs hl hP hD hS
            exact L 1000 _ _ hL ls H locs hl hP hD hS
          intro ls H locs hl hP hD hS
          clear hL
          refine ip_iinc (k0 := 2) (v0 := (1 : Int32)) (lv1 := fun z18 => [(2, .int z18), (0, .ref (ad 11)), (1, .ref (ad 14))]) hx hb dFI_addOffsets_87 hl rfl (by decide) (by decide) (fun _ => rfl) hf (fun z18 ls hf hl => ?_)
          refine lv_goto (tgt := 18) hx hb dFI_addOffsets_90 rfl ?_
          replace hl := lv_sub hl (l' := [(0, .ref (ad 11)), (1, .ref (ad 14)), (2, .int z18)]) [1, 2, 0] rfl
          exact ih _ _ (ip_lp2_l hr18 hf) ls H locs hl hP hD hS
    exact L 1000 _ _ hL ls H locs hl hP hD hS
  intro ls H locs hl hP hD hS
  clear hL
  cases hf
  exact hret H locs 93 ls dFI_addOffsets_93 hP hD hS
set_option maxHeartbeats 4000000 in
set_option maxRecDepth 100000 in
theorem tFI_apply {l : Launch} {dC : Nat → ClassId} {dI : Nat → Nat → Nat} {cI : ClassId} {ad : Nat → Nat} {ts : ip_TT} {v_aValues : Nat → Int32} {v_aSamples : Nat → Int32} {v_aBefore : Nat → Int32}  {nv_aSamples : Nat → Int32} {nv_aBefore : Nat → Int32} (hf : fFI_apply v_aValues v_aSamples v_aBefore = some (nv_aSamples, nv_aBefore)) : ip_Mv l yFI_apply wsFI_apply rmFI_apply (dC, dI) vwCl [(cI, .int)] ts [.ref (ad 11), .ref (ad 14)] (wFI_apply ad cI v_aValues v_aSamples v_aBefore) (wFI_apply ad cI v_aValues nv_aSamples nv_aBefore) := by
  refine ip_startV (cc := cFI_apply) (maxL := 3) (by decide) rfl (Nat.le_of_ble_eq_true rfl) ?_
  intro p e s m args below meth c Q A ls hx hb hml hts hown hK hP hD hS hA hZ hl hret
  replace hl : lv_has ls 3 [(0, .ref (ad 11)), (1, .ref (ad 14))] := hl
  unfold fFI_apply at hf
  suffices J0 : ∀ (ls : Array Slot) (H : Heap) (locs : List Loc), lv_has ls 3 [(0, .ref (ad 11)), (1, .ref (ad 14))] → va_P (dC, dI) vwCl (wFI_apply ad cI v_aValues v_aSamples v_aBefore) H → va_D A (wFI_apply ad cI v_aValues v_aSamples v_aBefore) → va_S A s.heap H locs → W p l e rmFI_apply s m args below meth c H locs 0 0 Q (F0 m 0 ls []) by exact J0 ls s.heap [] hl hP hD hS
  clear hP hD hS hl
  intro ls H locs hl hP hD hS
  refine lv_aload_n hx hb dFI_apply_0 rfl (lv_at hl 1 rfl) ?_
  refine lv_iconst (v := (3 : Int32)) hx hb dFI_apply_1 (by decide) ?_
  refine ip_iald hx hb hK hP 1 0 rfl rfl dFI_apply_2 hf (fun z1 hf => ?_)
  refine lv_iconst (v := (1 : Int32)) hx hb dFI_apply_3 (by decide) ?_
  obtain ⟨g2, hh, hf⟩ := ip_b1_e hf
  suffices J64 : ∀ (ls : Array Slot) (H : Heap) (locs : List Loc), lv_has ls 3 [(0, .ref (ad 11)), (1, .ref (ad 14))] → va_P (dC, dI) vwCl (wFI_apply ad cI v_aValues g2 v_aBefore) H → va_D A (wFI_apply ad cI v_aValues g2 v_aBefore) → va_S A s.heap H locs → W p l e rmFI_apply s m args below meth c H locs 0 0 Q (F0 m 64 ls []) by
    replace hf := hh
    refine ip_icmp_ne (tgt := 64) hx hb dFI_apply_4 rfl hf (fun hf => ?_) (fun hf => ?_)
    · cases hf
      exact J64 ls H locs hl hP hD hS
    · refine lv_iconst (v := (0 : Int32)) hx hb dFI_apply_7 (by decide) ?_
      refine lv_istore_n (lv' := [(2, .int (0 : Int32)), (0, .ref (ad 11)), (1, .ref (ad 14))]) hx hb dFI_apply_8 rfl hl (by decide) rfl (fun ls hl => ?_)
      replace hl := lv_sub hl (l' := [(0, .ref (ad 11)), (1, .ref (ad 14)), (2, .int (0 : Int32))]) [1, 2, 0] rfl
      obtain ⟨x5, y6, hL, hf⟩ := ip_b2_e hf
      suffices J35 : ∀ (ls : Array Slot) (H : Heap) (locs : List Loc), lv_has ls 3 [(0, .ref (ad 11)), (1, .ref (ad 14))] → va_P (dC, dI) vwCl (wFI_apply ad cI v_aValues y6 v_aBefore) H → va_D A (wFI_apply ad cI v_aValues y6 v_aBefore) → va_S A s.heap H locs → W p l e rmFI_apply s m args below meth c H locs 0 0 Q (F0 m 35 ls []) by
        have L : ∀ (n : Nat) (z3 : Int32) (g4 : Nat → Int32), ip_lp2 (fFI_apply_B9 v_aValues) n z3 g4 = some (x5, y6) → ∀ (ls : Array Slot) (H : Heap) (locs : List Loc), lv_has ls 3 [(0, .ref (ad 11)), (1, .ref (ad 14)), (2, .int z3)] → va_P (dC, dI) vwCl (wFI_apply ad cI v_aValues g4 v_aBefore) H → va_D A (wFI_apply ad cI v_aValues g4 v_aBefore) → va_S A s.heap H locs → W p l e rmFI_apply s m args below meth c H locs 0 0 Q (F0 m 9 ls []) := by
          intro n
          induction n with
          | zero => intro z3 g4 hL; exact (ip_lp2_0 hL).elim
          | succ n ih =>
            intro z3 g4 hL ls H locs hl hP hD hS
            clear hf
            obtain ⟨r9, hf, hr9⟩ := ip_lp2_s hL
            clear hL
            unfold fFI_apply_B9 at hf
            refine lv_iload_n hx hb dFI_apply_9 rfl (lv_at hl 2 rfl) ?_
            refine lv_bipush (v := (16 : Int32)) hx hb dFI_apply_10 (by decide) ?_
            refine ip_icmp_ge (tgt := 35) hx hb dFI_apply_12 rfl hf (fun hf => ?_) (fun hf => ?_)
            · have hx9 := ip_lp_x hr9 hf
              replace hl := lv_sub hl (l' := [(0, .ref (ad 11)), (1, .ref (ad 14))]) [0, 1] rfl
              cases hx9
              exact J35 ls H locs hl hP hD hS
            · refine lv_aload_n hx hb dFI_apply_15 rfl (lv_at hl 0 rfl) ?_
              refine lv_bipush (v := (8 : Int32)) hx hb dFI_apply_16 (by decide) ?_
              refine lv_iload_n hx hb dFI_apply_18 rfl (lv_at hl 2 rfl) ?_
              obtain ⟨z7, hc, hf⟩ := ip_b1_e hf
              refine ip_calli (va_runSN (As := [.int (8 : Int32), .int z3]) (rest := [.ref (ad 11)]) ⟨hx, hb, hml, hown, hts⟩ (tIP_placeOf (l := l) (dC := dC) (dI := dI) (ad := ad) (cI := cI) (ts := ts) hc H.size) ⟨va_cnB 2 hts (ip_gd kw2_185) rfl rfl rfl (hZ.2 10 _ rfl) (hts _ (List.mem_cons_of_mem _ kw1_1)) (by decide +kernel) ⟨Nat.le_of_ble_eq_true rfl, Nat.le_of_ble_eq_true rfl⟩, (hts _ (List.mem_cons_of_mem _ kw2_184)), trivial⟩ (ip_preS hK hP hD hS hA hZ [] rfl rfl) rfl rfl hl.1 rfl (lv_room (Nat.le_of_ble_eq_true rfl)) dFI_apply_19 ⟨Nat.le_of_ble_eq_true rfl, Nat.le_of_ble_eq_true rfl⟩) hP hD hS hA [] [0, 1, 2, 3] [0, 1, 2, 3] (wFI_apply ad cI v_aValues g4 v_aBefore) rfl rfl rfl (by decide) rfl rfl (fun H locs hP hD hS => ?_)
              clear hc
              refine lv_iconst (v := (1 : Int32)) hx hb dFI_apply_22 (by decide) ?_
              refine lv_aload_n hx hb dFI_apply_23 rfl (lv_at hl 1 rfl) ?_
              refine lv_iconst (v := (0 : Int32)) hx hb dFI_apply_24 (by decide) ?_
              refine ip_iald hx hb hK hP 1 0 rfl rfl dFI_apply_25 hf (fun z8 hf => ?_)
              obtain ⟨g9, hc, hf⟩ := ip_b1_e hf
              refine ip_callv (va_runV (As := [.int z7, .int (1 : Int32), .int z8]) (rest := []) ⟨hx, hb, hml, hown, hts⟩ (tFI_smoothEdge (l := l) (dC := dC) (dI := dI) (ad := ad) (cI := cI) (ts := ts) hc H.size) (cwV 3 hts (ip_gdV (own := kR_FI) (idx := 22) (C := kR_FI) (y := yFI_smoothEdge) kw3_115 kw3_117 kws_31 kw1_12 kw3_118) rfl rfl rfl (by decide +kernel) ⟨Nat.le_of_ble_eq_true rfl, Nat.le_of_ble_eq_true rfl⟩) (ip_preV hK hP hD hS hA hZ [0, 2] rfl rfl (ci := 11) (q0 := 0) rfl rfl) rfl rfl hl.1 rfl (lv_room (Nat.le_of_ble_eq_true rfl)) dFI_apply_26 ⟨Nat.le_of_ble_eq_true rfl, Nat.le_of_ble_eq_true rfl⟩) hP hD hS hA [0, 2] [1, 3] [2, 0, 3, 1] (wFI_apply ad cI v_aValues g9 v_aBefore) rfl rfl rfl (by decide) rfl rfl (fun H locs hP hD hS => ?_)
              clear hc
              refine ip_iinc (k0 := 2) (v0 := (1 : Int32)) (lv1 := fun z10 => [(2, .int z10), (0, .ref (ad 11)), (1, .ref (ad 14))]) hx hb dFI_apply_29 hl rfl (by decide) (by decide) (fun _ => rfl) hf (fun z10 ls hf hl => ?_)
              refine lv_goto (tgt := 9) hx hb dFI_apply_32 rfl ?_
              replace hl := lv_sub hl (l' := [(0, .ref (ad 11)), (1, .ref (ad 14)), (2, .int z10)]) [1, 2, 0] rfl
              exact ih _ _ (ip_lp2_l hr9 hf) ls H locs hl hP hD hS
        exact L 1000 _ _ hL ls H locs hl hP hD hS
      intro ls H locs hl hP hD hS
      clear hL
      refine lv_iconst (v := (0 : Int32)) hx hb dFI_apply_35 (by decide) ?_
      refine lv_istore_n (lv' := [(2, .int (0 : Int32)), (0, .ref (ad 11)), (1, .ref (ad 14))]) hx hb dFI_apply_36 rfl hl (by decide) rfl (fun ls hl => ?_)
      replace hl := lv_sub hl (l' := [(0, .ref (ad 11)), (1, .ref (ad 14)), (2, .int (0 : Int32))]) [1, 2, 0] rfl
      obtain ⟨x13, y14, hL, hf⟩ := ip_b2_e hf
      suffices J64 : ∀ (ls : Array Slot) (H : Heap) (locs : List Loc), lv_has ls 3 [(0, .ref (ad 11)), (1, .ref (ad 14))] → va_P (dC, dI) vwCl (wFI_apply ad cI v_aValues y14 v_aBefore) H → va_D A (wFI_apply ad cI v_aValues y14 v_aBefore) → va_S A s.heap H locs → W p l e rmFI_apply s m args below meth c H locs 0 0 Q (F0 m 64 ls []) by
        have L : ∀ (n : Nat) (z11 : Int32) (g12 : Nat → Int32), ip_lp2 (fFI_apply_B37 v_aValues) n z11 g12 = some (x13, y14) → ∀ (ls : Array Slot) (H : Heap) (locs : List Loc), lv_has ls 3 [(0, .ref (ad 11)), (1, .ref (ad 14)), (2, .int z11)] → va_P (dC, dI) vwCl (wFI_apply ad cI v_aValues g12 v_aBefore) H → va_D A (wFI_apply ad cI v_aValues g12 v_aBefore) → va_S A s.heap H locs → W p l e rmFI_apply s m args below meth c H locs 0 0 Q (F0 m 37 ls []) := by
          intro n
          induction n with
          | zero => intro z11 g12 hL; exact (ip_lp2_0 hL).elim
          | succ n ih =>
            intro z11 g12 hL ls H locs hl hP hD hS
            clear hf
            obtain ⟨r9, hf, hr37⟩ := ip_lp2_s hL
            clear hL
            unfold fFI_apply_B37 at hf
            refine lv_iload_n hx hb dFI_apply_37 rfl (lv_at hl 2 rfl) ?_
            refine lv_bipush (v := (16 : Int32)) hx hb dFI_apply_38 (by decide) ?_
            refine ip_icmp_ge (tgt := 64) hx hb dFI_apply_40 rfl hf (fun hf => ?_) (fun hf => ?_)
            · have hx9 := ip_lp_x hr37 hf
              replace hl := lv_sub hl (l' := [(0, .ref (ad 11)), (1, .ref (ad 14))]) [0, 1] rfl
              cases hx9
              exact J64 ls H locs hl hP hD hS
            · refine lv_aload_n hx hb dFI_apply_43 rfl (lv_at hl 0 rfl) ?_
              refine lv_iload_n hx hb dFI_apply_44 rfl (lv_at hl 2 rfl) ?_
              refine lv_bipush (v := (8 : Int32)) hx hb dFI_apply_45 (by decide) ?_
              obtain ⟨z15, hc, hf⟩ := ip_b1_e hf
              refine ip_calli (va_runSN (As := [.int z11, .int (8 : Int32)]) (rest := [.ref (ad 11)]) ⟨hx, hb, hml, hown, hts⟩ (tIP_placeOf (l := l) (dC := dC) (dI := dI) (ad := ad) (cI := cI) (ts := ts) hc H.size) ⟨va_cnB 2 hts (ip_gd kw2_185) rfl rfl rfl (hZ.2 10 _ rfl) (hts _ (List.mem_cons_of_mem _ kw1_1)) (by decide +kernel) ⟨Nat.le_of_ble_eq_true rfl, Nat.le_of_ble_eq_true rfl⟩, (hts _ (List.mem_cons_of_mem _ kw2_184)), trivial⟩ (ip_preS hK hP hD hS hA hZ [] rfl rfl) rfl rfl hl.1 rfl (lv_room (Nat.le_of_ble_eq_true rfl)) dFI_apply_47 ⟨Nat.le_of_ble_eq_true rfl, Nat.le_of_ble_eq_true rfl⟩) hP hD hS hA [] [0, 1, 2, 3] [0, 1, 2, 3] (wFI_apply ad cI v_aValues g12 v_aBefore) rfl rfl rfl (by decide) rfl rfl (fun H locs hP hD hS => ?_)
              clear hc
              refine lv_bipush (v := (16 : Int32)) hx hb dFI_apply_50 (by decide) ?_
              refine lv_aload_n hx hb dFI_apply_52 rfl (lv_at hl 1 rfl) ?_
              refine lv_iconst (v := (0 : Int32)) hx hb dFI_apply_53 (by decide) ?_
              refine ip_iald hx hb hK hP 1 0 rfl rfl dFI_apply_54 hf (fun z16 hf => ?_)
              obtain ⟨g17, hc, hf⟩ := ip_b1_e hf
              refine ip_callv (va_runV (As := [.int z15, .int (16 : Int32), .int z16]) (rest := []) ⟨hx, hb, hml, hown, hts⟩ (tFI_smoothEdge (l := l) (dC := dC) (dI := dI) (ad := ad) (cI := cI) (ts := ts) hc H.size) (cwV 3 hts (ip_gdV (own := kR_FI) (idx := 22) (C := kR_FI) (y := yFI_smoothEdge) kw3_115 kw3_117 kws_31 kw1_12 kw3_118) rfl rfl rfl (by decide +kernel) ⟨Nat.le_of_ble_eq_true rfl, Nat.le_of_ble_eq_true rfl⟩) (ip_preV hK hP hD hS hA hZ [0, 2] rfl rfl (ci := 11) (q0 := 0) rfl rfl) rfl rfl hl.1 rfl (lv_room (Nat.le_of_ble_eq_true rfl)) dFI_apply_55 ⟨Nat.le_of_ble_eq_true rfl, Nat.le_of_ble_eq_true rfl⟩) hP hD hS hA [0, 2] [1, 3] [2, 0, 3, 1] (wFI_apply ad cI v_aValues g17 v_aBefore) rfl rfl rfl (by decide) rfl rfl (fun H locs hP hD hS => ?_)
              clear hc
              refine ip_iinc (k0 := 2) (v0 := (1 : Int32)) (lv1 := fun z18 => [(2, .int z18), (0, .ref (ad 11)), (1, .ref (ad 14))]) hx hb dFI_apply_58 hl rfl (by decide) (by decide) (fun _ => rfl) hf (fun z18 ls hf hl => ?_)
              refine lv_goto (tgt := 37) hx hb dFI_apply_61 rfl ?_
              replace hl := lv_sub hl (l' := [(0, .ref (ad 11)), (1, .ref (ad 14)), (2, .int z18)]) [1, 2, 0] rfl
              exact ih _ _ (ip_lp2_l hr37 hf) ls H locs hl hP hD hS
        exact L 1000 _ _ hL ls H locs hl hP hD hS
      intro ls H locs hl hP hD hS
      clear hL
      cases hf
      exact J64 ls H locs hl hP hD hS
  intro ls H locs hl hP hD hS
  clear hh
  refine lv_aload_n hx hb dFI_apply_64 rfl (lv_at hl 1 rfl) ?_
  refine lv_iconst (v := (4 : Int32)) hx hb dFI_apply_65 (by decide) ?_
  refine ip_iald hx hb hK hP 1 0 rfl rfl dFI_apply_66 hf (fun z19 hf => ?_)
  refine ip_if_eq (tgt := 75) hx hb dFI_apply_67 rfl hf (fun hf => ?_) (fun hf => ?_)
  · cases hf
    exact hret H locs 75 ls dFI_apply_75 hP hD hS
  · refine lv_aload_n hx hb dFI_apply_70 rfl (lv_at hl 0 rfl) ?_
    refine lv_aload_n hx hb dFI_apply_71 rfl (lv_at hl 1 rfl) ?_
    obtain ⟨g20, g21, hc, hf⟩ := ip_b2_e hf
    refine ip_callv (va_runV (As := [.ref (ad 14)]) (rest := []) ⟨hx, hb, hml, hown, hts⟩ (tFI_addOffsets (l := l) (dC := dC) (dI := dI) (ad := ad) (cI := cI) (ts := ts) hc H.size) (cwV 1 hts (ip_gdV (own := kR_FI) (idx := 26) (C := kR_FI) (y := yFI_addOffsets) kw3_123 kw3_125 kws_32 kw1_12 kw3_126) rfl rfl rfl (by decide +kernel) ⟨Nat.le_of_ble_eq_true rfl, Nat.le_of_ble_eq_true rfl⟩) (ip_preV hK hP hD hS hA hZ [0, 1, 2, 3] rfl rfl (ci := 11) (q0 := 0) rfl rfl) rfl rfl hl.1 rfl (lv_room (Nat.le_of_ble_eq_true rfl)) dFI_apply_72 ⟨Nat.le_of_ble_eq_true rfl, Nat.le_of_ble_eq_true rfl⟩) hP hD hS hA [0, 1, 2, 3] [] [0, 1, 2, 3] (wFI_apply ad cI v_aValues g20 g21) rfl rfl rfl (by decide) rfl rfl (fun H locs hP hD hS => ?_)
    clear hc
    cases hf
    exact hret H locs 75 ls dFI_apply_75 hP hD hS
