set_option maxHeartbeats 4000000 in
set_option maxRecDepth 100000 in
theorem tMO_readLeaf {l : Launch} {dC : Nat → ClassId} {dI : Nat → Nat → Nat} {cI cZ : ClassId} {ad : Nat → Nat} {ts : ip_TT} {v_MO_size : Int32} {v_MO_loaded : Int32} {v_MO_at : Int32} {v_MO_fault : Int32} {v_MO_hasGiven : Int32} {v_MO_hasPicture : Int32} {v_MO_range : Int32} {v_MO_value : Int32} {v_MO_leaves : Int32} {v_mload : Nat → Int32} {v_mgiven : Nat → Int32} {v_mchances : Nat → Int32} {v_mcounts : Nat → Int32} {v_mleft : Nat → Int32} {v_mtop : Nat → Int32} {v_msides : Nat → Int32} {v_mmodes : Nat → Int32} {v_mskips : Nat → Int32} {v_mowner : Nat → Int32} {v_mlevels : Nat → Int32} {v_mgroup : Nat → Int32} {p1 : Int32} {p2 : Int32} {p3 : Int32} {nv_MO_at : Int32} {nv_MO_range : Int32} {nv_MO_value : Int32} {nv_MO_leaves : Int32} {nv_mchances : Nat → Int32} {nv_mcounts : Nat → Int32} {nv_mleft : Nat → Int32} {nv_mtop : Nat → Int32} {nv_msides : Nat → Int32} {nv_mmodes : Nat → Int32} {nv_mskips : Nat → Int32} {nv_mowner : Nat → Int32} {nv_mlevels : Nat → Int32} {nv_mgroup : Nat → Int32} (hf : fMO_readLeaf v_MO_size v_MO_loaded v_MO_at v_MO_fault v_MO_hasGiven v_MO_hasPicture v_MO_range v_MO_value v_MO_leaves v_mload v_mgiven v_mchances v_mcounts v_mleft v_mtop v_msides v_mmodes v_mskips v_mowner v_mlevels v_mgroup p1 p2 p3 = some (nv_MO_at, nv_MO_range, nv_MO_value, nv_MO_leaves, nv_mchances, nv_mcounts, nv_mleft, nv_mtop, nv_msides, nv_mmodes, nv_mskips, nv_mowner, nv_mlevels, nv_mgroup)) : ip_Mv l yMO_readLeaf wsMO_readLeaf rmMO_readLeaf (dC, dI) vwCl [(cI, .int), (cZ, .boolean)] ts [.ref (ad 0), .int p1, .int p2, .int p3] (wMO_readLeaf ad cI cZ v_MO_size v_MO_loaded v_MO_at v_MO_fault v_MO_hasGiven v_MO_hasPicture v_MO_range v_MO_value v_MO_leaves v_mload v_mgiven v_mchances v_mcounts v_mleft v_mtop v_msides v_mmodes v_mskips v_mowner v_mlevels v_mgroup) (wMO_readLeaf ad cI cZ v_MO_size v_MO_loaded nv_MO_at v_MO_fault v_MO_hasGiven v_MO_hasPicture nv_MO_range nv_MO_value nv_MO_leaves v_mload v_mgiven nv_mchances nv_mcounts nv_mleft nv_mtop nv_msides nv_mmodes nv_mskips nv_mowner nv_mlevels nv_mgroup) := by
  refine ip_startV (cc := cMO_readLeaf) (maxL := 7) (by decide) rfl (Nat.le_of_ble_eq_true rfl) ?_
  intro p e s m args below meth c Q A ls hx hb hml hts hown hK hP hD hS hA hZ hl hret
  replace hl : lv_has ls 7 [(0, .ref (ad 0)), (1, .int p1), (2, .int p2), (3, .int p3)] := hl
  unfold fMO_readLeaf at hf
  suffices J0 : ∀ (ls : Array Slot) (H : Heap) (locs : List Loc), lv_has ls 7 [(0, .ref (ad 0)), (1, .int p1), (2, .int p2), (3, .int p3)] → va_P (dC, dI) vwCl (wMO_readLeaf ad cI cZ v_MO_size v_MO_loaded v_MO_at v_MO_fault v_MO_hasGiven v_MO_hasPicture v_MO_range v_MO_value v_MO_leaves v_mload v_mgiven v_mchances v_mcounts v_mleft v_mtop v_msides v_mmodes v_mskips v_mowner v_mlevels v_mgroup) H → va_D A (wMO_readLeaf ad cI cZ v_MO_size v_MO_loaded v_MO_at v_MO_fault v_MO_hasGiven v_MO_hasPicture v_MO_range v_MO_value v_MO_leaves v_mload v_mgiven v_mchances v_mcounts v_mleft v_mtop v_msides v_mmodes v_mskips v_mowner v_mlevels v_mgroup) → va_S A s.heap H locs → W p l e rmMO_readLeaf s m args below meth c H locs 0 0 Q (F0 m 0 ls []) by exact J0 ls s.heap [] hl hP hD hS
  clear hP hD hS hl
  intro ls H locs hl hP hD hS
  refine lv_aload_n hx hb dMO_readLeaf_0 rfl (lv_at hl 0 rfl) ?_
  refine va_get (D := (dC, dI)) (ci := 12) (v := .int v_MO_leaves) (C := kR_MO) (T := kT_MO) (N := 32) hx hb hts kin_MO hown hK hP 0 rfl rfl 14 (by decide) (hts _ (List.mem_cons_of_mem _ kw3_201)) (fun _ h9 => h9) rfl dMO_readLeaf_1 ?_
  refine lv_istore (lv' := [(4, .int v_MO_leaves), (0, .ref (ad 0)), (1, .int p1), (2, .int p2), (3, .int p3)]) hx hb dMO_readLeaf_4 hl (by decide) rfl (fun ls hl => ?_)
  refine lv_aload_n hx hb dMO_readLeaf_6 rfl (lv_at hl 1 rfl) ?_
  refine va_get (D := (dC, dI)) (ci := 12) (v := .ref (ad 7)) (C := kR_MO) (T := kT_MO) (N := 32) hx hb hts kin_MO hown hK hP 0 rfl rfl 15 (by decide) (hts _ (List.mem_cons_of_mem _ kw3_202)) (fun _ h9 => h9) rfl dMO_readLeaf_7 ?_
  refine lv_iload hx hb dMO_readLeaf_10 (lv_at hl 0 rfl) ?_
  refine lv_iload_n hx hb dMO_readLeaf_12 rfl (lv_at hl 2 rfl) ?_
  refine ip_iast hx hb hK hP hD hS 5 0 rfl rfl (fun g1 => (wMO_readLeaf ad cI cZ v_MO_size v_MO_loaded v_MO_at v_MO_fault v_MO_hasGiven v_MO_hasPicture v_MO_range v_MO_value v_MO_leaves v_mload v_mgiven v_mchances v_mcounts g1 v_mtop v_msides v_mmodes v_mskips v_mowner v_mlevels v_mgroup)) (fun _ => rfl) dMO_readLeaf_13 hf (fun g1 H locs hf hP hD hS => ?_)
  refine lv_aload_n hx hb dMO_readLeaf_14 rfl (lv_at hl 1 rfl) ?_
  refine va_get (D := (dC, dI)) (ci := 12) (v := .ref (ad 8)) (C := kR_MO) (T := kT_MO) (N := 32) hx hb hts kin_MO hown hK hP 0 rfl rfl 16 (by decide) (hts _ (List.mem_cons_of_mem _ kw3_203)) (fun _ h9 => h9) rfl dMO_readLeaf_15 ?_
  refine lv_iload hx hb dMO_readLeaf_18 (lv_at hl 0 rfl) ?_
  refine lv_iload_n hx hb dMO_readLeaf_20 rfl (lv_at hl 3 rfl) ?_
  refine ip_iast hx hb hK hP hD hS 6 0 rfl rfl (fun g2 => (wMO_readLeaf ad cI cZ v_MO_size v_MO_loaded v_MO_at v_MO_fault v_MO_hasGiven v_MO_hasPicture v_MO_range v_MO_value v_MO_leaves v_mload v_mgiven v_mchances v_mcounts g1 g2 v_msides v_mmodes v_mskips v_mowner v_mlevels v_mgroup)) (fun _ => rfl) dMO_readLeaf_21 hf (fun g2 H locs hf hP hD hS => ?_)
  refine lv_aload_n hx hb dMO_readLeaf_22 rfl (lv_at hl 1 rfl) ?_
  refine va_get (D := (dC, dI)) (ci := 12) (v := .ref (ad 9)) (C := kR_MO) (T := kT_MO) (N := 32) hx hb hts kin_MO hown hK hP 0 rfl rfl 17 (by decide) (hts _ (List.mem_cons_of_mem _ kw3_204)) (fun _ h9 => h9) rfl dMO_readLeaf_23 ?_
  refine lv_iload hx hb dMO_readLeaf_26 (lv_at hl 0 rfl) ?_
  refine lv_iload_n hx hb dMO_readLeaf_28 rfl (lv_at hl 4 rfl) ?_
  refine ip_iast hx hb hK hP hD hS 7 0 rfl rfl (fun g3 => (wMO_readLeaf ad cI cZ v_MO_size v_MO_loaded v_MO_at v_MO_fault v_MO_hasGiven v_MO_hasPicture v_MO_range v_MO_value v_MO_leaves v_mload v_mgiven v_mchances v_mcounts g1 g2 g3 v_mmodes v_mskips v_mowner v_mlevels v_mgroup)) (fun _ => rfl) dMO_readLeaf_29 hf (fun g3 H locs hf hP hD hS => ?_)
  refine lv_aload_n hx hb dMO_readLeaf_30 rfl (lv_at hl 1 rfl) ?_
  refine lv_iconst (v := (3 : Int32)) hx hb dMO_readLeaf_31 (by decide) ?_
  obtain ⟨z4, z5, z6, z7, g8, g9, hc, hf⟩ := ip_b6_e hf
  refine ip_calli (va_runV (As := [.int (3 : Int32)]) (rest := []) ⟨hx, hb, hml, hown, hts⟩ (tMO_bin (l := l) (dC := dC) (dI := dI) (ad := ad) (cI := cI) (ts := ts) (cZ := cZ) hc H.size) (cwV 1 hts (ip_gdV (own := kR_MO) (idx := 154) (C := kR_MO) (y := yMO_bin) kw4_107 kw4_109 kws_46 kw1_13 kw4_110) rfl rfl rfl (by decide +kernel) ⟨Nat.le_of_ble_eq_true rfl, Nat.le_of_ble_eq_true rfl⟩) (ip_preV hK hP hD hS hA hZ [0, 1, 3, 4] rfl rfl (ci := 12) (q0 := 0) rfl rfl) rfl rfl hl.1 rfl (lv_room (Nat.le_of_ble_eq_true rfl)) dMO_readLeaf_32 ⟨Nat.le_of_ble_eq_true rfl, Nat.le_of_ble_eq_true rfl⟩) hP hD hS hA [0, 1, 3, 4] [2, 5, 6, 7, 8, 9, 10, 11, 12] [9, 10, 0, 11, 12, 1, 2, 3, 4, 5, 6, 7, 8] (wMO_readLeaf ad cI cZ v_MO_size v_MO_loaded z5 v_MO_fault v_MO_hasGiven v_MO_hasPicture z6 z7 v_MO_leaves v_mload v_mgiven g8 g9 g1 g2 g3 v_mmodes v_mskips v_mowner v_mlevels v_mgroup) rfl rfl rfl (by decide) rfl rfl (fun H locs hP hD hS => ?_)
  clear hc
  refine lv_iconst (v := (1 : Int32)) hx hb dMO_readLeaf_35 (by decide) ?_
  obtain ⟨z10, z11, g12, g13, hh, hf⟩ := ip_b4_e hf
  suffices J87 : ∀ (ls : Array Slot) (H : Heap) (locs : List Loc), lv_has ls 7 [(0, .ref (ad 0)), (1, .int p1), (2, .int p2), (3, .int p3), (4, .int v_MO_leaves)] → va_P (dC, dI) vwCl (wMO_readLeaf ad cI cZ v_MO_size v_MO_loaded z10 v_MO_fault v_MO_hasGiven v_MO_hasPicture z6 z11 v_MO_leaves v_mload v_mgiven g8 g12 g1 g2 g3 g13 v_mskips v_mowner v_mlevels v_mgroup) H → va_D A (wMO_readLeaf ad cI cZ v_MO_size v_MO_loaded z10 v_MO_fault v_MO_hasGiven v_MO_hasPicture z6 z11 v_MO_leaves v_mload v_mgiven g8 g12 g1 g2 g3 g13 v_mskips v_mowner v_mlevels v_mgroup) → va_S A s.heap H locs → W p l e rmMO_readLeaf s m args below meth c H locs 0 0 Q (F0 m 87 ls []) by
    replace hf := hh
    refine ip_icmp_ne (tgt := 75) hx hb dMO_readLeaf_36 rfl hf (fun hf => ?_) (fun hf => ?_)
    · refine lv_aload_n hx hb dMO_readLeaf_75 rfl (lv_at hl 1 rfl) ?_
      refine va_get (D := (dC, dI)) (ci := 12) (v := .ref (ad 10)) (C := kR_MO) (T := kT_MO) (N := 32) hx hb hts kin_MO hown hK hP 0 rfl rfl 18 (by decide) (hts _ (List.mem_cons_of_mem _ kw3_205)) (fun _ h9 => h9) rfl dMO_readLeaf_76 ?_
      refine lv_iload hx hb dMO_readLeaf_79 (lv_at hl 0 rfl) ?_
      refine lv_aload_n hx hb dMO_readLeaf_81 rfl (lv_at hl 1 rfl) ?_
      refine lv_iconst (v := (3 : Int32)) hx hb dMO_readLeaf_82 (by decide) ?_
      obtain ⟨z14, z15, z16, g17, hc, hf⟩ := ip_b4_e hf
      refine ip_calli (va_runV (As := [.int (3 : Int32)]) (rest := [.int v_MO_leaves, .ref (ad 10)]) ⟨hx, hb, hml, hown, hts⟩ (tMO_frees (l := l) (dC := dC) (dI := dI) (ad := ad) (cI := cI) (ts := ts) (cZ := cZ) hc H.size) (cwV 1 hts (ip_gdV (own := kR_MO) (idx := 161) (C := kR_MO) (y := yMO_frees) kw4_115 kw4_117 kws_48 kw1_13 kw4_118) rfl rfl rfl (by decide +kernel) ⟨Nat.le_of_ble_eq_true rfl, Nat.le_of_ble_eq_true rfl⟩) (ip_preV hK hP hD hS hA hZ [0, 1, 4] rfl rfl (ci := 12) (q0 := 0) rfl rfl) rfl rfl hl.1 rfl (lv_room (Nat.le_of_ble_eq_true rfl)) dMO_readLeaf_83 ⟨Nat.le_of_ble_eq_true rfl, Nat.le_of_ble_eq_true rfl⟩) hP hD hS hA [0, 1, 4] [2, 3, 5, 6, 7, 8, 9, 10, 11, 12] [10, 11, 0, 1, 12, 2, 3, 4, 5, 6, 7, 8, 9] (wMO_readLeaf ad cI cZ v_MO_size v_MO_loaded z15 v_MO_fault v_MO_hasGiven v_MO_hasPicture z6 z16 v_MO_leaves v_mload v_mgiven g8 g17 g1 g2 g3 v_mmodes v_mskips v_mowner v_mlevels v_mgroup) rfl rfl rfl (by decide) rfl rfl (fun H locs hP hD hS => ?_)
      clear hc
      refine ip_iast hx hb hK hP hD hS 8 0 rfl rfl (fun g18 => (wMO_readLeaf ad cI cZ v_MO_size v_MO_loaded z15 v_MO_fault v_MO_hasGiven v_MO_hasPicture z6 z16 v_MO_leaves v_mload v_mgiven g8 g17 g1 g2 g3 g18 v_mskips v_mowner v_mlevels v_mgroup)) (fun _ => rfl) dMO_readLeaf_86 hf (fun g18 H locs hf hP hD hS => ?_)
      replace hl := lv_sub hl (l' := [(0, .ref (ad 0)), (1, .int p1), (2, .int p2), (3, .int p3), (4, .int v_MO_leaves)]) [1, 2, 3, 4, 0] rfl
      cases hf
      exact J87 ls H locs hl hP hD hS
    · refine lv_aload_n hx hb dMO_readLeaf_39 rfl (lv_at hl 1 rfl) ?_
      refine va_get (D := (dC, dI)) (ci := 12) (v := .ref (ad 10)) (C := kR_MO) (T := kT_MO) (N := 32) hx hb hts kin_MO hown hK hP 0 rfl rfl 18 (by decide) (hts _ (List.mem_cons_of_mem _ kw3_205)) (fun _ h9 => h9) rfl dMO_readLeaf_40 ?_
      refine lv_iload hx hb dMO_readLeaf_43 (lv_at hl 0 rfl) ?_
      refine lv_iload_n hx hb dMO_readLeaf_45 rfl (lv_at hl 2 rfl) ?_
      obtain ⟨z19, hh, hf⟩ := ip_b1_e hf
      suffices J71 : ∀ (ls : Array Slot) (H : Heap) (locs : List Loc), lv_has ls 7 [(0, .ref (ad 0)), (1, .int p1), (2, .int p2), (3, .int p3), (4, .int v_MO_leaves)] → va_P (dC, dI) vwCl (wMO_readLeaf ad cI cZ v_MO_size v_MO_loaded z5 v_MO_fault v_MO_hasGiven v_MO_hasPicture z6 z7 v_MO_leaves v_mload v_mgiven g8 g9 g1 g2 g3 v_mmodes v_mskips v_mowner v_mlevels v_mgroup) H → va_D A (wMO_readLeaf ad cI cZ v_MO_size v_MO_loaded z5 v_MO_fault v_MO_hasGiven v_MO_hasPicture z6 z7 v_MO_leaves v_mload v_mgiven g8 g9 g1 g2 g3 v_mmodes v_mskips v_mowner v_mlevels v_mgroup) → va_S A s.heap H locs → W p l e rmMO_readLeaf s m args below meth c H locs 0 0 Q (F0 m 71 ls [.int z19, .int v_MO_leaves, .ref (ad 10)]) by
        replace hf := hh
        refine ip_if_ne (tgt := 53) hx hb dMO_readLeaf_46 rfl hf (fun hf => ?_) (fun hf => ?_)
        · refine lv_aload_n hx hb dMO_readLeaf_53 rfl (lv_at hl 1 rfl) ?_
          refine va_get (D := (dC, dI)) (ci := 12) (v := .ref (ad 10)) (C := kR_MO) (T := kT_MO) (N := 32) hx hb hts kin_MO hown hK hP 0 rfl rfl 18 (by decide) (hts _ (List.mem_cons_of_mem _ kw3_205)) (fun _ h9 => h9) rfl dMO_readLeaf_54 ?_
          refine lv_aload_n hx hb dMO_readLeaf_57 rfl (lv_at hl 1 rfl) ?_
          refine va_get (D := (dC, dI)) (ci := 12) (v := .ref (ad 12)) (C := kR_MO) (T := kT_MO) (N := 32) hx hb hts kin_MO hown hK hP 0 rfl rfl 20 (by decide) (hts _ (List.mem_cons_of_mem _ kw3_207)) (fun _ h9 => h9) rfl dMO_readLeaf_58 ?_
          refine lv_bipush (v := (16 : Int32)) hx hb dMO_readLeaf_61 (by decide) ?_
          refine lv_iload_n hx hb dMO_readLeaf_63 rfl (lv_at hl 3 rfl) ?_
          refine lv_imul hx hb dMO_readLeaf_64 ?_
          refine lv_iload_n hx hb dMO_readLeaf_65 rfl (lv_at hl 2 rfl) ?_
          refine lv_iadd hx hb dMO_readLeaf_66 ?_
          refine lv_iconst (v := (1 : Int32)) hx hb dMO_readLeaf_67 (by decide) ?_
          refine lv_isub hx hb dMO_readLeaf_68 ?_
          refine ip_iald hx hb hK hP 10 0 rfl rfl dMO_readLeaf_69 hf (fun z20 hf => ?_)
          refine ip_iald hx hb hK hP 8 0 rfl rfl dMO_readLeaf_70 hf (fun z21 hf => ?_)
          replace hl := lv_sub hl (l' := [(0, .ref (ad 0)), (1, .int p1), (2, .int p2), (3, .int p3), (4, .int v_MO_leaves)]) [1, 2, 3, 4, 0] rfl
          cases hf
          exact J71 ls H locs hl hP hD hS
        · refine lv_iconst (v := (1 : Int32)) hx hb dMO_readLeaf_49 (by decide) ?_
          refine lv_goto (tgt := 71) hx hb dMO_readLeaf_50 rfl ?_
          replace hl := lv_sub hl (l' := [(0, .ref (ad 0)), (1, .int p1), (2, .int p2), (3, .int p3), (4, .int v_MO_leaves)]) [1, 2, 3, 4, 0] rfl
          cases hf
          exact J71 ls H locs hl hP hD hS
      intro ls H locs hl hP hD hS
      clear hh
      refine ip_iast hx hb hK hP hD hS 8 0 rfl rfl (fun g22 => (wMO_readLeaf ad cI cZ v_MO_size v_MO_loaded z5 v_MO_fault v_MO_hasGiven v_MO_hasPicture z6 z7 v_MO_leaves v_mload v_mgiven g8 g9 g1 g2 g3 g22 v_mskips v_mowner v_mlevels v_mgroup)) (fun _ => rfl) dMO_readLeaf_71 hf (fun g22 H locs hf hP hD hS => ?_)
      refine lv_goto (tgt := 87) hx hb dMO_readLeaf_72 rfl ?_
      cases hf
      exact J87 ls H locs hl hP hD hS
  intro ls H locs hl hP hD hS
  clear hh
  refine lv_iconst (v := (0 : Int32)) hx hb dMO_readLeaf_87 (by decide) ?_
  refine lv_istore (lv' := [(5, .int (0 : Int32)), (0, .ref (ad 0)), (1, .int p1), (2, .int p2), (3, .int p3), (4, .int v_MO_leaves)]) hx hb dMO_readLeaf_88 hl (by decide) rfl (fun ls hl => ?_)
  replace hl := lv_sub hl (l' := [(0, .ref (ad 0)), (1, .int p1), (2, .int p2), (3, .int p3), (4, .int v_MO_leaves), (5, .int (0 : Int32))]) [1, 2, 3, 4, 5, 0] rfl
  obtain ⟨x25, y26, hL, hf⟩ := ip_b2_e hf
  suffices J127 : ∀ (ls : Array Slot) (H : Heap) (locs : List Loc), lv_has ls 7 [(0, .ref (ad 0)), (1, .int p1), (2, .int p2), (3, .int p3), (4, .int v_MO_leaves)] → va_P (dC, dI) vwCl (wMO_readLeaf ad cI cZ v_MO_size v_MO_loaded z10 v_MO_fault v_MO_hasGiven v_MO_hasPicture z6 z11 v_MO_leaves v_mload v_mgiven g8 g12 g1 g2 g3 g13 v_mskips y26 v_mlevels v_mgroup) H → va_D A (wMO_readLeaf ad cI cZ v_MO_size v_MO_loaded z10 v_MO_fault v_MO_hasGiven v_MO_hasPicture z6 z11 v_MO_leaves v_mload v_mgiven g8 g12 g1 g2 g3 g13 v_mskips y26 v_mlevels v_mgroup) → va_S A s.heap H locs → W p l e rmMO_readLeaf s m args below meth c H locs 0 0 Q (F0 m 127 ls []) by
    have L : ∀ (n : Nat) (z23 : Int32) (g24 : Nat → Int32), ip_lp2 (fMO_readLeaf_B90 v_MO_leaves p1 p2 p3) n z23 g24 = some (x25, y26) → ∀ (ls : Array Slot) (H : Heap) (locs : List Loc), lv_has ls 7 [(0, .ref (ad 0)), (1, .int p1), (2, .int p2), (3, .int p3), (4, .int v_MO_leaves), (5, .int z23)] → va_P (dC, dI) vwCl (wMO_readLeaf ad cI cZ v_MO_size v_MO_loaded z10 v_MO_fault v_MO_hasGiven v_MO_hasPicture z6 z11 v_MO_leaves v_mload v_mgiven g8 g12 g1 g2 g3 g13 v_mskips g24 v_mlevels v_mgroup) H → va_D A (wMO_readLeaf ad cI cZ v_MO_size v_MO_loaded z10 v_MO_fault v_MO_hasGiven v_MO_hasPicture z6 z11 v_MO_leaves v_mload v_mgiven g8 g12 g1 g2 g3 g13 v_mskips g24 v_mlevels v_mgroup) → va_S A s.heap H locs → W p l e rmMO_readLeaf s m args below meth c H locs 0 0 Q (F0 m 90 ls []) := by
      intro n
      induction n with
      | zero => intro z23 g24 hL; exact (ip_lp2_0 hL).elim
      | succ n ih =>
        intro z23 g24 hL ls H locs hl hP hD hS
        clear hf
        obtain ⟨r9, hf, hr90⟩ := ip_lp2_s hL
        clear hL
        unfold fMO_readLeaf_B90 at hf
        refine lv_iload hx hb dMO_readLeaf_90 (lv_at hl 5 rfl) ?_
        refine lv_iload_n hx hb dMO_readLeaf_92 rfl (lv_at hl 3 rfl) ?_
        refine lv_iload_n hx hb dMO_readLeaf_93 rfl (lv_at hl 3 rfl) ?_
        refine lv_imul hx hb dMO_readLeaf_94 ?_
        refine ip_icmp_ge (tgt := 127) hx hb dMO_readLeaf_95 rfl hf (fun hf => ?_) (fun hf => ?_)
        · have hx9 := ip_lp_x hr90 hf
          replace hl := lv_sub hl (l' := [(0, .ref (ad 0)), (1, .int p1), (2, .int p2), (3, .int p3), (4, .int v_MO_leaves)]) [0, 1, 2, 3, 4] rfl
          cases hx9
          exact J127 ls H locs hl hP hD hS
        · refine lv_aload_n hx hb dMO_readLeaf_98 rfl (lv_at hl 0 rfl) ?_
          refine va_get (D := (dC, dI)) (ci := 12) (v := .ref (ad 12)) (C := kR_MO) (T := kT_MO) (N := 32) hx hb hts kin_MO hown hK hP 0 rfl rfl 20 (by decide) (hts _ (List.mem_cons_of_mem _ kw3_207)) (fun _ h9 => h9) rfl dMO_readLeaf_99 ?_
          refine lv_bipush (v := (16 : Int32)) hx hb dMO_readLeaf_102 (by decide) ?_
          refine lv_iload_n hx hb dMO_readLeaf_104 rfl (lv_at hl 2 rfl) ?_
          refine lv_iload hx hb dMO_readLeaf_105 (lv_at hl 5 rfl) ?_
          refine lv_iload_n hx hb dMO_readLeaf_107 rfl (lv_at hl 3 rfl) ?_
          refine ip_idiv hx hb dMO_readLeaf_108 hf (fun z27 hf => ?_)
          refine lv_iadd hx hb dMO_readLeaf_109 ?_
          refine lv_imul hx hb dMO_readLeaf_110 ?_
          refine lv_iload_n hx hb dMO_readLeaf_111 rfl (lv_at hl 1 rfl) ?_
          refine lv_iadd hx hb dMO_readLeaf_112 ?_
          refine lv_iload hx hb dMO_readLeaf_113 (lv_at hl 5 rfl) ?_
          refine lv_iload_n hx hb dMO_readLeaf_115 rfl (lv_at hl 3 rfl) ?_
          refine ip_irem hx hb dMO_readLeaf_116 hf (fun z28 hf => ?_)
          refine lv_iadd hx hb dMO_readLeaf_117 ?_
          refine lv_iload hx hb dMO_readLeaf_118 (lv_at hl 4 rfl) ?_
          refine ip_iast hx hb hK hP hD hS 10 0 rfl rfl (fun g29 => (wMO_readLeaf ad cI cZ v_MO_size v_MO_loaded z10 v_MO_fault v_MO_hasGiven v_MO_hasPicture z6 z11 v_MO_leaves v_mload v_mgiven g8 g12 g1 g2 g3 g13 v_mskips g29 v_mlevels v_mgroup)) (fun _ => rfl) dMO_readLeaf_120 hf (fun g29 H locs hf hP hD hS => ?_)
          refine ip_iinc (k0 := 5) (v0 := (1 : Int32)) (lv1 := fun z30 => [(5, .int z30), (0, .ref (ad 0)), (1, .int p1), (2, .int p2), (3, .int p3), (4, .int v_MO_leaves)]) hx hb dMO_readLeaf_121 hl rfl (by decide) (by decide) (fun _ => rfl) hf (fun z30 ls hf hl => ?_)
          refine lv_goto (tgt := 90) hx hb dMO_readLeaf_124 rfl ?_
          replace hl := lv_sub hl (l' := [(0, .ref (ad 0)), (1, .int p1), (2, .int p2), (3, .int p3), (4, .int v_MO_leaves), (5, .int z30)]) [1, 2, 3, 4, 5, 0] rfl
          exact ih _ _ (ip_lp2_l hr90 hf) ls H locs hl hP hD hS
    exact L 1000 _ _ hL ls H locs hl hP hD hS
  intro ls H locs hl hP hD hS
  clear hL
  refine lv_aload_n hx hb dMO_readLeaf_127 rfl (lv_at hl 0 rfl) ?_
  refine lv_dup hx hb dMO_readLeaf_128 rfl ?_
  refine va_get (D := (dC, dI)) (ci := 12) (v := .int v_MO_leaves) (C := kR_MO) (T := kT_MO) (N := 32) hx hb hts kin_MO hown hK hP 0 rfl rfl 14 (by decide) (hts _ (List.mem_cons_of_mem _ kw3_201)) (fun _ h9 => h9) rfl dMO_readLeaf_129 ?_
  refine lv_iconst (v := (1 : Int32)) hx hb dMO_readLeaf_132 (by decide) ?_
  refine lv_iadd hx hb dMO_readLeaf_133 ?_
  refine ip_top hf (fun z31 hf => ?_)
  refine va_put (D := (dC, dI)) (ci := 12) (v := .int z31) (ty := .int) (C := kR_MO) (T := kT_MO) (N := 32) hx hb hts kin_MO kty_MO kto_MO knm_MO hown hK hP hD hS 0 rfl rfl 14 (by decide) (hts _ (List.mem_cons_of_mem _ kw3_201)) (fun _ h9 => h9) rfl (by decide +kernel) rfl rfl (Nat.le_of_ble_eq_true rfl) dMO_readLeaf_134 (fun H locs hP hD hS => ?_)
  replace hP : va_P (dC, dI) vwCl (wMO_readLeaf ad cI cZ v_MO_size v_MO_loaded z10 v_MO_fault v_MO_hasGiven v_MO_hasPicture z6 z11 z31 v_mload v_mgiven g8 g12 g1 g2 g3 g13 v_mskips y26 v_mlevels v_mgroup) H := hP
  replace hD : va_D A (wMO_readLeaf ad cI cZ v_MO_size v_MO_loaded z10 v_MO_fault v_MO_hasGiven v_MO_hasPicture z6 z11 z31 v_mload v_mgiven g8 g12 g1 g2 g3 g13 v_mskips y26 v_mlevels v_mgroup) := hD
  refine lv_aload_n hx hb dMO_readLeaf_137 rfl (lv_at hl 0 rfl) ?_
  refine va_get (D := (dC, dI)) (ci := 12) (v := .ref (ad 11)) (C := kR_MO) (T := kT_MO) (N := 32) hx hb hts kin_MO hown hK hP 0 rfl rfl 19 (by decide) (hts _ (List.mem_cons_of_mem _ kw3_206)) (fun _ h9 => h9) rfl dMO_readLeaf_138 ?_
  refine lv_iload hx hb dMO_readLeaf_141 (lv_at hl 4 rfl) ?_
  refine lv_iconst (v := (0 : Int32)) hx hb dMO_readLeaf_143 (by decide) ?_
  refine ip_zast hx hb hK hP hD hS 9 1 rfl rfl (fun g32 => (wMO_readLeaf ad cI cZ v_MO_size v_MO_loaded z10 v_MO_fault v_MO_hasGiven v_MO_hasPicture z6 z11 z31 v_mload v_mgiven g8 g12 g1 g2 g3 g13 g32 y26 v_mlevels v_mgroup)) (fun _ => rfl) dMO_readLeaf_144 hf (fun g32 H locs hf hP hD hS => ?_)
  refine lv_aload_n hx hb dMO_readLeaf_145 rfl (lv_at hl 0 rfl) ?_
  refine lv_iload_n hx hb dMO_readLeaf_146 rfl (lv_at hl 3 rfl) ?_
  refine lv_iconst (v := (4 : Int32)) hx hb dMO_readLeaf_147 (by decide) ?_
  obtain ⟨z33, hh, hf⟩ := ip_b1_e hf
  suffices J156 : ∀ (ls : Array Slot) (H : Heap) (locs : List Loc), lv_has ls 7 [(0, .ref (ad 0)), (1, .int p1), (2, .int p2), (3, .int p3), (4, .int v_MO_leaves)] → va_P (dC, dI) vwCl (wMO_readLeaf ad cI cZ v_MO_size v_MO_loaded z10 v_MO_fault v_MO_hasGiven v_MO_hasPicture z6 z11 z31 v_mload v_mgiven g8 g12 g1 g2 g3 g13 g32 y26 v_mlevels v_mgroup) H → va_D A (wMO_readLeaf ad cI cZ v_MO_size v_MO_loaded z10 v_MO_fault v_MO_hasGiven v_MO_hasPicture z6 z11 z31 v_mload v_mgiven g8 g12 g1 g2 g3 g13 g32 y26 v_mlevels v_mgroup) → va_S A s.heap H locs → W p l e rmMO_readLeaf s m args below meth c H locs 0 0 Q (F0 m 156 ls [.int z33, .ref (ad 0)]) by
    replace hf := hh
    refine ip_icmp_ne (tgt := 155) hx hb dMO_readLeaf_148 rfl hf (fun hf => ?_) (fun hf => ?_)
    · refine lv_iconst (v := (5 : Int32)) hx hb dMO_readLeaf_155 (by decide) ?_
      cases hf
      exact J156 ls H locs hl hP hD hS
    · refine lv_iconst (v := (4 : Int32)) hx hb dMO_readLeaf_151 (by decide) ?_
      refine lv_goto (tgt := 156) hx hb dMO_readLeaf_152 rfl ?_
      cases hf
      exact J156 ls H locs hl hP hD hS
  intro ls H locs hl hP hD hS
  clear hh
  obtain ⟨z34, z35, z36, z37, g38, g39, hc, hf⟩ := ip_b6_e hf
  refine ip_calli (va_runV (As := [.int z33]) (rest := []) ⟨hx, hb, hml, hown, hts⟩ (tMO_bin (l := l) (dC := dC) (dI := dI) (ad := ad) (cI := cI) (ts := ts) (cZ := cZ) hc H.size) (cwV 1 hts (ip_gdV (own := kR_MO) (idx := 154) (C := kR_MO) (y := yMO_bin) kw4_107 kw4_109 kws_46 kw1_13 kw4_110) rfl rfl rfl (by decide +kernel) ⟨Nat.le_of_ble_eq_true rfl, Nat.le_of_ble_eq_true rfl⟩) (ip_preV hK hP hD hS hA hZ [0, 1, 3, 4] rfl rfl (ci := 12) (q0 := 0) rfl rfl) rfl rfl hl.1 rfl (lv_room (Nat.le_of_ble_eq_true rfl)) dMO_readLeaf_156 ⟨Nat.le_of_ble_eq_true rfl, Nat.le_of_ble_eq_true rfl⟩) hP hD hS hA [0, 1, 3, 4] [2, 5, 6, 7, 8, 9, 10, 11, 12] [9, 10, 0, 11, 12, 1, 2, 3, 4, 5, 6, 7, 8] (wMO_readLeaf ad cI cZ v_MO_size v_MO_loaded z35 v_MO_fault v_MO_hasGiven v_MO_hasPicture z36 z37 z31 v_mload v_mgiven g38 g39 g1 g2 g3 g13 g32 y26 v_mlevels v_mgroup) rfl rfl rfl (by decide) rfl rfl (fun H locs hP hD hS => ?_)
  clear hc
  refine ip_if_ne (tgt := 163) hx hb dMO_readLeaf_159 rfl hf (fun hf => ?_) (fun hf => ?_)
  · refine lv_aload_n hx hb dMO_readLeaf_163 rfl (lv_at hl 0 rfl) ?_
    refine va_get (D := (dC, dI)) (ci := 12) (v := .ref (ad 11)) (C := kR_MO) (T := kT_MO) (N := 32) hx hb hts kin_MO hown hK hP 0 rfl rfl 19 (by decide) (hts _ (List.mem_cons_of_mem _ kw3_206)) (fun _ h9 => h9) rfl dMO_readLeaf_164 ?_
    refine lv_iload hx hb dMO_readLeaf_167 (lv_at hl 4 rfl) ?_
    refine lv_iload_n hx hb dMO_readLeaf_169 rfl (lv_at hl 3 rfl) ?_
    refine lv_iconst (v := (4 : Int32)) hx hb dMO_readLeaf_170 (by decide) ?_
    obtain ⟨z40, z41, z42, z43, g44, g45, hh, hf⟩ := ip_b6_e hf
    suffices J199 : ∀ (ls : Array Slot) (H : Heap) (locs : List Loc), lv_has ls 7 [(0, .ref (ad 0)), (1, .int p1), (2, .int p2), (3, .int p3)] → va_P (dC, dI) vwCl (wMO_readLeaf ad cI cZ v_MO_size v_MO_loaded z41 v_MO_fault v_MO_hasGiven v_MO_hasPicture z42 z43 z31 v_mload v_mgiven g44 g45 g1 g2 g3 g13 g32 y26 v_mlevels v_mgroup) H → va_D A (wMO_readLeaf ad cI cZ v_MO_size v_MO_loaded z41 v_MO_fault v_MO_hasGiven v_MO_hasPicture z42 z43 z31 v_mload v_mgiven g44 g45 g1 g2 g3 g13 g32 y26 v_mlevels v_mgroup) → va_S A s.heap H locs → W p l e rmMO_readLeaf s m args below meth c H locs 0 0 Q (F0 m 199 ls [.int z40, .int v_MO_leaves, .ref (ad 11)]) by
      replace hf := hh
      refine ip_icmp_ne (tgt := 198) hx hb dMO_readLeaf_171 rfl hf (fun hf => ?_) (fun hf => ?_)
      · refine lv_iconst (v := (0 : Int32)) hx hb dMO_readLeaf_198 (by decide) ?_
        replace hl := lv_sub hl (l' := [(0, .ref (ad 0)), (1, .int p1), (2, .int p2), (3, .int p3)]) [0, 1, 2, 3] rfl
        cases hf
        exact J199 ls H locs hl hP hD hS
      · refine lv_aload_n hx hb dMO_readLeaf_174 rfl (lv_at hl 0 rfl) ?_
        refine va_get (D := (dC, dI)) (ci := 12) (v := .ref (ad 3)) (C := kR_MO) (T := kT_MO) (N := 32) hx hb hts kin_MO hown hK hP 0 rfl rfl 6 (by decide) (hts _ (List.mem_cons_of_mem _ kw3_193)) (fun _ h9 => h9) rfl dMO_readLeaf_175 ?_
        refine lv_iconst (v := (2 : Int32)) hx hb dMO_readLeaf_178 (by decide) ?_
        refine ip_iald hx hb hK hP 2 0 rfl rfl dMO_readLeaf_179 hf (fun z46 hf => ?_)
        refine lv_iconst (v := (1 : Int32)) hx hb dMO_readLeaf_180 (by decide) ?_
        refine ip_icmp_ne (tgt := 198) hx hb dMO_readLeaf_181 rfl hf (fun hf => ?_) (fun hf => ?_)
        · refine lv_iconst (v := (0 : Int32)) hx hb dMO_readLeaf_198 (by decide) ?_
          replace hl := lv_sub hl (l' := [(0, .ref (ad 0)), (1, .int p1), (2, .int p2), (3, .int p3)]) [0, 1, 2, 3] rfl
          cases hf
          exact J199 ls H locs hl hP hD hS
        · refine lv_aload_n hx hb dMO_readLeaf_184 rfl (lv_at hl 0 rfl) ?_
          refine lv_bipush (v := (6 : Int32)) hx hb dMO_readLeaf_185 (by decide) ?_
          obtain ⟨z47, z48, z49, z50, g51, g52, hc, hf⟩ := ip_b6_e hf
          refine ip_calli (va_runV (As := [.int (6 : Int32)]) (rest := [.int v_MO_leaves, .ref (ad 11)]) ⟨hx, hb, hml, hown, hts⟩ (tMO_bin (l := l) (dC := dC) (dI := dI) (ad := ad) (cI := cI) (ts := ts) (cZ := cZ) hc H.size) (cwV 1 hts (ip_gdV (own := kR_MO) (idx := 154) (C := kR_MO) (y := yMO_bin) kw4_107 kw4_109 kws_46 kw1_13 kw4_110) rfl rfl rfl (by decide +kernel) ⟨Nat.le_of_ble_eq_true rfl, Nat.le_of_ble_eq_true rfl⟩) (ip_preV hK hP hD hS hA hZ [0, 1, 3, 4] rfl rfl (ci := 12) (q0 := 0) rfl rfl) rfl rfl hl.1 rfl (lv_room (Nat.le_of_ble_eq_true rfl)) dMO_readLeaf_187 ⟨Nat.le_of_ble_eq_true rfl, Nat.le_of_ble_eq_true rfl⟩) hP hD hS hA [0, 1, 3, 4] [2, 5, 6, 7, 8, 9, 10, 11, 12] [9, 10, 0, 11, 12, 1, 2, 3, 4, 5, 6, 7, 8] (wMO_readLeaf ad cI cZ v_MO_size v_MO_loaded z48 v_MO_fault v_MO_hasGiven v_MO_hasPicture z49 z50 z31 v_mload v_mgiven g51 g52 g1 g2 g3 g13 g32 y26 v_mlevels v_mgroup) rfl rfl rfl (by decide) rfl rfl (fun H locs hP hD hS => ?_)
          clear hc
          refine lv_iconst (v := (1 : Int32)) hx hb dMO_readLeaf_190 (by decide) ?_
          refine ip_icmp_ne (tgt := 198) hx hb dMO_readLeaf_191 rfl hf (fun hf => ?_) (fun hf => ?_)
          · refine lv_iconst (v := (0 : Int32)) hx hb dMO_readLeaf_198 (by decide) ?_
            replace hl := lv_sub hl (l' := [(0, .ref (ad 0)), (1, .int p1), (2, .int p2), (3, .int p3)]) [0, 1, 2, 3] rfl
            cases hf
            exact J199 ls H locs hl hP hD hS
          · refine lv_iconst (v := (1 : Int32)) hx hb dMO_readLeaf_194 (by decide) ?_
            refine lv_goto (tgt := 199) hx hb dMO_readLeaf_195 rfl ?_
            replace hl := lv_sub hl (l' := [(0, .ref (ad 0)), (1, .int p1), (2, .int p2), (3, .int p3)]) [0, 1, 2, 3] rfl
            cases hf
            exact J199 ls H locs hl hP hD hS
    intro ls H locs hl hP hD hS
    clear hh
    refine ip_zast hx hb hK hP hD hS 9 1 rfl rfl (fun g53 => (wMO_readLeaf ad cI cZ v_MO_size v_MO_loaded z41 v_MO_fault v_MO_hasGiven v_MO_hasPicture z42 z43 z31 v_mload v_mgiven g44 g45 g1 g2 g3 g13 g53 y26 v_mlevels v_mgroup)) (fun _ => rfl) dMO_readLeaf_199 hf (fun g53 H locs hf hP hD hS => ?_)
    refine lv_iconst (v := (0 : Int32)) hx hb dMO_readLeaf_200 (by decide) ?_
    refine lv_istore (lv' := [(5, .int (0 : Int32)), (0, .ref (ad 0)), (1, .int p1), (2, .int p2), (3, .int p3)]) hx hb dMO_readLeaf_201 hl (by decide) rfl (fun ls hl => ?_)
    replace hl := lv_sub hl (l' := [(0, .ref (ad 0)), (1, .int p1), (2, .int p2), (3, .int p3), (5, .int (0 : Int32))]) [1, 2, 3, 4, 0] rfl
    obtain ⟨x62, x63, x64, x65, y66, y67, y68, y69, hL, hf⟩ := ip_b8_e hf
    suffices J277 : ∀ (ls : Array Slot) (H : Heap) (locs : List Loc), lv_has ls 7 [] → va_P (dC, dI) vwCl (wMO_readLeaf ad cI cZ v_MO_size v_MO_loaded x63 v_MO_fault v_MO_hasGiven v_MO_hasPicture x64 x65 z31 v_mload v_mgiven y66 y67 g1 g2 g3 g13 g53 y26 y68 y69) H → va_D A (wMO_readLeaf ad cI cZ v_MO_size v_MO_loaded x63 v_MO_fault v_MO_hasGiven v_MO_hasPicture x64 x65 z31 v_mload v_mgiven y66 y67 g1 g2 g3 g13 g53 y26 y68 y69) → va_S A s.heap H locs → W p l e rmMO_readLeaf s m args below meth c H locs 0 0 Q (F0 m 277 ls []) by
      have L : ∀ (n : Nat) (z54 : Int32) (z55 : Int32) (z56 : Int32) (z57 : Int32) (g58 : Nat → Int32) (g59 : Nat → Int32) (g60 : Nat → Int32) (g61 : Nat → Int32), ip_lp8 (fMO_readLeaf_B203 v_MO_size v_MO_loaded v_MO_fault v_MO_hasGiven v_MO_hasPicture v_mload v_mgiven p1 p2 p3 z31) n z54 z55 z56 z57 g58 g59 g60 g61 = some (x62, x63, x64, x65, y66, y67, y68, y69) → ∀ (ls : Array Slot) (H : Heap) (locs : List Loc), lv_has ls 7 [(0, .ref (ad 0)), (1, .int p1), (2, .int p2), (3, .int p3), (5, .int z54)] → va_P (dC, dI) vwCl (wMO_readLeaf ad cI cZ v_MO_size v_MO_loaded z55 v_MO_fault v_MO_hasGiven v_MO_hasPicture z56 z57 z31 v_mload v_mgiven g58 g59 g1 g2 g3 g13 g53 y26 g60 g61) H → va_D A (wMO_readLeaf ad cI cZ v_MO_size v_MO_loaded z55 v_MO_fault v_MO_hasGiven v_MO_hasPicture z56 z57 z31 v_mload v_mgiven g58 g59 g1 g2 g3 g13 g53 y26 g60 g61) → va_S A s.heap H locs → W p l e rmMO_readLeaf s m args below meth c H locs 0 0 Q (F0 m 203 ls []) := by
        intro n
        induction n with
        | zero => intro z54 z55 z56 z57 g58 g59 g60 g61 hL; exact (ip_lp8_0 hL).elim
        | succ n ih =>
          intro z54 z55 z56 z57 g58 g59 g60 g61 hL ls H locs hl hP hD hS
          clear hf
          obtain ⟨r9, hf, hr203⟩ := ip_lp8_s hL
          clear hL
          unfold fMO_readLeaf_B203 at hf
          refine lv_iload hx hb dMO_readLeaf_203 (lv_at hl 4 rfl) ?_
          refine lv_iload_n hx hb dMO_readLeaf_205 rfl (lv_at hl 3 rfl) ?_
          refine lv_iload_n hx hb dMO_readLeaf_206 rfl (lv_at hl 3 rfl) ?_
          refine lv_imul hx hb dMO_readLeaf_207 ?_
          refine lv_bipush (v := (16 : Int32)) hx hb dMO_readLeaf_208 (by decide) ?_
          refine lv_idiv hx hb dMO_readLeaf_210 (by decide) ?_
          refine ip_icmp_ge (tgt := 277) hx hb dMO_readLeaf_211 rfl hf (fun hf => ?_) (fun hf => ?_)
          · have hx9 := ip_lp_x hr203 hf
            replace hl := lv_sub hl (l' := []) [] rfl
            cases hx9
            exact J277 ls H locs hl hP hD hS
          · refine lv_iload_n hx hb dMO_readLeaf_214 rfl (lv_at hl 3 rfl) ?_
            refine lv_iconst (v := (4 : Int32)) hx hb dMO_readLeaf_215 (by decide) ?_
            obtain ⟨z70, z71, z72, z73, g74, g75, hh, hf⟩ := ip_b6_e hf
            suffices J244 : ∀ (ls : Array Slot) (H : Heap) (locs : List Loc), lv_has ls 7 [(0, .ref (ad 0)), (1, .int p1), (2, .int p2), (3, .int p3), (5, .int z54)] → va_P (dC, dI) vwCl (wMO_readLeaf ad cI cZ v_MO_size v_MO_loaded z71 v_MO_fault v_MO_hasGiven v_MO_hasPicture z72 z73 z31 v_mload v_mgiven g74 g75 g1 g2 g3 g13 g53 y26 g60 g61) H → va_D A (wMO_readLeaf ad cI cZ v_MO_size v_MO_loaded z71 v_MO_fault v_MO_hasGiven v_MO_hasPicture z72 z73 z31 v_mload v_mgiven g74 g75 g1 g2 g3 g13 g53 y26 g60 g61) → va_S A s.heap H locs → W p l e rmMO_readLeaf s m args below meth c H locs 0 0 Q (F0 m 244 ls [.int z70]) by
              replace hf := hh
              refine ip_icmp_eq (tgt := 239) hx hb dMO_readLeaf_216 rfl hf (fun hf => ?_) (fun hf => ?_)
              · refine lv_iconst (v := (1 : Int32)) hx hb dMO_readLeaf_239 (by decide) ?_
                refine lv_goto (tgt := 244) hx hb dMO_readLeaf_240 rfl ?_
                cases hf
                exact J244 ls H locs hl hP hD hS
              · refine lv_aload_n hx hb dMO_readLeaf_219 rfl (lv_at hl 0 rfl) ?_
                refine lv_iload hx hb dMO_readLeaf_220 (lv_at hl 4 rfl) ?_
                obtain ⟨z76, hh, hf⟩ := ip_b1_e hf
                suffices J232 : ∀ (ls : Array Slot) (H : Heap) (locs : List Loc), lv_has ls 7 [(0, .ref (ad 0)), (1, .int p1), (2, .int p2), (3, .int p3), (5, .int z54)] → va_P (dC, dI) vwCl (wMO_readLeaf ad cI cZ v_MO_size v_MO_loaded z55 v_MO_fault v_MO_hasGiven v_MO_hasPicture z56 z57 z31 v_mload v_mgiven g58 g59 g1 g2 g3 g13 g53 y26 g60 g61) H → va_D A (wMO_readLeaf ad cI cZ v_MO_size v_MO_loaded z55 v_MO_fault v_MO_hasGiven v_MO_hasPicture z56 z57 z31 v_mload v_mgiven g58 g59 g1 g2 g3 g13 g53 y26 g60 g61) → va_S A s.heap H locs → W p l e rmMO_readLeaf s m args below meth c H locs 0 0 Q (F0 m 232 ls [.int z76, .ref (ad 0)]) by
                  replace hf := hh
                  refine ip_if_ne (tgt := 230) hx hb dMO_readLeaf_222 rfl hf (fun hf => ?_) (fun hf => ?_)
                  · refine lv_bipush (v := (8 : Int32)) hx hb dMO_readLeaf_230 (by decide) ?_
                    cases hf
                    exact J232 ls H locs hl hP hD hS
                  · refine lv_bipush (v := (7 : Int32)) hx hb dMO_readLeaf_225 (by decide) ?_
                    refine lv_goto (tgt := 232) hx hb dMO_readLeaf_227 rfl ?_
                    cases hf
                    exact J232 ls H locs hl hP hD hS
                intro ls H locs hl hP hD hS
                clear hh
                obtain ⟨z77, z78, z79, z80, g81, g82, hc, hf⟩ := ip_b6_e hf
                refine ip_calli (va_runV (As := [.int z76]) (rest := []) ⟨hx, hb, hml, hown, hts⟩ (tMO_bin (l := l) (dC := dC) (dI := dI) (ad := ad) (cI := cI) (ts := ts) (cZ := cZ) hc H.size) (cwV 1 hts (ip_gdV (own := kR_MO) (idx := 154) (C := kR_MO) (y := yMO_bin) kw4_107 kw4_109 kws_46 kw1_13 kw4_110) rfl rfl rfl (by decide +kernel) ⟨Nat.le_of_ble_eq_true rfl, Nat.le_of_ble_eq_true rfl⟩) (ip_preV hK hP hD hS hA hZ [0, 1, 3, 4] rfl rfl (ci := 12) (q0 := 0) rfl rfl) rfl rfl hl.1 rfl (lv_room (Nat.le_of_ble_eq_true rfl)) dMO_readLeaf_232 ⟨Nat.le_of_ble_eq_true rfl, Nat.le_of_ble_eq_true rfl⟩) hP hD hS hA [0, 1, 3, 4] [2, 5, 6, 7, 8, 9, 10, 11, 12] [9, 10, 0, 11, 12, 1, 2, 3, 4, 5, 6, 7, 8] (wMO_readLeaf ad cI cZ v_MO_size v_MO_loaded z78 v_MO_fault v_MO_hasGiven v_MO_hasPicture z79 z80 z31 v_mload v_mgiven g81 g82 g1 g2 g3 g13 g53 y26 g60 g61) rfl rfl rfl (by decide) rfl rfl (fun H locs hP hD hS => ?_)
                clear hc
                refine lv_iconst (v := (1 : Int32)) hx hb dMO_readLeaf_235 (by decide) ?_
                refine ip_icmp_ne (tgt := 243) hx hb dMO_readLeaf_236 rfl hf (fun hf => ?_) (fun hf => ?_)
                · refine lv_iconst (v := (0 : Int32)) hx hb dMO_readLeaf_243 (by decide) ?_
                  cases hf
                  exact J244 ls H locs hl hP hD hS
                · refine lv_iconst (v := (1 : Int32)) hx hb dMO_readLeaf_239 (by decide) ?_
                  refine lv_goto (tgt := 244) hx hb dMO_readLeaf_240 rfl ?_
                  cases hf
                  exact J244 ls H locs hl hP hD hS
            intro ls H locs hl hP hD hS
            clear hh
            refine lv_istore (lv' := [(6, .int z70), (0, .ref (ad 0)), (1, .int p1), (2, .int p2), (3, .int p3), (5, .int z54)]) hx hb dMO_readLeaf_244 hl (by decide) rfl (fun ls hl => ?_)
            refine lv_iload hx hb dMO_readLeaf_246 (lv_at hl 0 rfl) ?_
            obtain ⟨z83, z84, z85, g86, g87, g88, g89, hh, hf⟩ := ip_b7_e hf
            suffices J271 : ∀ (ls : Array Slot) (H : Heap) (locs : List Loc), lv_has ls 7 [(0, .ref (ad 0)), (1, .int p1), (2, .int p2), (3, .int p3), (5, .int z54)] → va_P (dC, dI) vwCl (wMO_readLeaf ad cI cZ v_MO_size v_MO_loaded z83 v_MO_fault v_MO_hasGiven v_MO_hasPicture z84 z85 z31 v_mload v_mgiven g86 g87 g1 g2 g3 g13 g53 y26 g88 g89) H → va_D A (wMO_readLeaf ad cI cZ v_MO_size v_MO_loaded z83 v_MO_fault v_MO_hasGiven v_MO_hasPicture z84 z85 z31 v_mload v_mgiven g86 g87 g1 g2 g3 g13 g53 y26 g88 g89) → va_S A s.heap H locs → W p l e rmMO_readLeaf s m args below meth c H locs 0 0 Q (F0 m 271 ls []) by
              replace hf := hh
              refine ip_if_eq (tgt := 271) hx hb dMO_readLeaf_248 rfl hf (fun hf => ?_) (fun hf => ?_)
              · replace hl := lv_sub hl (l' := [(0, .ref (ad 0)), (1, .int p1), (2, .int p2), (3, .int p3), (5, .int z54)]) [1, 2, 3, 4, 5] rfl
                cases hf
                exact J271 ls H locs hl hP hD hS
              · refine lv_aload_n hx hb dMO_readLeaf_251 rfl (lv_at hl 1 rfl) ?_
                refine lv_iload_n hx hb dMO_readLeaf_252 rfl (lv_at hl 2 rfl) ?_
                refine lv_iload hx hb dMO_readLeaf_253 (lv_at hl 5 rfl) ?_
                refine lv_iconst (v := (2 : Int32)) hx hb dMO_readLeaf_255 (by decide) ?_
                refine lv_irem hx hb dMO_readLeaf_256 (by decide) ?_
                refine lv_iconst (v := (4 : Int32)) hx hb dMO_readLeaf_257 (by decide) ?_
                refine lv_imul hx hb dMO_readLeaf_258 ?_
                refine lv_iadd hx hb dMO_readLeaf_259 ?_
                refine lv_iload_n hx hb dMO_readLeaf_260 rfl (lv_at hl 3 rfl) ?_
                refine lv_iload hx hb dMO_readLeaf_261 (lv_at hl 5 rfl) ?_
                refine lv_iconst (v := (2 : Int32)) hx hb dMO_readLeaf_263 (by decide) ?_
                refine lv_idiv hx hb dMO_readLeaf_264 (by decide) ?_
                refine lv_iconst (v := (4 : Int32)) hx hb dMO_readLeaf_265 (by decide) ?_
                refine lv_imul hx hb dMO_readLeaf_266 ?_
                refine lv_iadd hx hb dMO_readLeaf_267 ?_
                obtain ⟨z90, z91, z92, g93, g94, g95, g96, hc, hf⟩ := ip_b7_e hf
                refine ip_callv (va_runV (As := [.int (p1 + ((z54 - z54 / (2 : Int32) * (2 : Int32)) * (4 : Int32))), .int (p2 + ((z54 / (2 : Int32)) * (4 : Int32)))]) (rest := []) ⟨hx, hb, hml, hown, hts⟩ (tMO_readGroup (l := l) (dC := dC) (dI := dI) (ad := ad) (cI := cI) (ts := ts) (cZ := cZ) hc H.size) (cwV 2 hts (ip_gdV (own := kR_MO) (idx := 164) (C := kR_MO) (y := yMO_readGroup) kw4_123 kw4_125 kws_50 kw1_13 kw4_126) rfl rfl rfl (by decide +kernel) ⟨Nat.le_of_ble_eq_true rfl, Nat.le_of_ble_eq_true rfl⟩) (ip_preV hK hP hD hS hA hZ [0, 1, 2, 3, 4, 11, 12] rfl rfl (ci := 12) (q0 := 0) rfl rfl) rfl rfl hl.1 rfl (lv_room (Nat.le_of_ble_eq_true rfl)) dMO_readLeaf_268 ⟨Nat.le_of_ble_eq_true rfl, Nat.le_of_ble_eq_true rfl⟩) hP hD hS hA [0, 1, 2, 3, 4, 11, 12] [5, 6, 7, 8, 9, 10] [6, 7, 8, 9, 10, 0, 1, 2, 3, 4, 5, 11, 12] (wMO_readLeaf ad cI cZ v_MO_size v_MO_loaded z90 v_MO_fault v_MO_hasGiven v_MO_hasPicture z91 z92 z31 v_mload v_mgiven g93 g94 g1 g2 g3 g13 g53 y26 g95 g96) rfl rfl rfl (by decide) rfl rfl (fun H locs hP hD hS => ?_)
                clear hc
                replace hl := lv_sub hl (l' := [(0, .ref (ad 0)), (1, .int p1), (2, .int p2), (3, .int p3), (5, .int z54)]) [1, 2, 3, 4, 5] rfl
                cases hf
                exact J271 ls H locs hl hP hD hS
            intro ls H locs hl hP hD hS
            clear hh
            refine ip_iinc (k0 := 4) (v0 := (1 : Int32)) (lv1 := fun z97 => [(5, .int z97), (0, .ref (ad 0)), (1, .int p1), (2, .int p2), (3, .int p3)]) hx hb dMO_readLeaf_271 hl rfl (by decide) (by decide) (fun _ => rfl) hf (fun z97 ls hf hl => ?_)
            refine lv_goto (tgt := 203) hx hb dMO_readLeaf_274 rfl ?_
            replace hl := lv_sub hl (l' := [(0, .ref (ad 0)), (1, .int p1), (2, .int p2), (3, .int p3), (5, .int z97)]) [1, 2, 3, 4, 0] rfl
            exact ih _ _ _ _ _ _ _ _ (ip_lp8_l hr203 hf) ls H locs hl hP hD hS
      exact L 1000 _ _ _ _ _ _ _ _ hL ls H locs hl hP hD hS
    intro ls H locs hl hP hD hS
    clear hL
    cases hf
    exact hret H locs 277 ls dMO_readLeaf_277 hP hD hS
  · cases hf
    exact hret H locs 162 ls dMO_readLeaf_162 hP hD hS
set_option maxHeartbeats 4000000 in
set_option maxRecDepth 100000 in
theorem tMO_readPicture {l : Launch} {dC : Nat → ClassId} {dI : Nat → Nat → Nat} {cI cZ : ClassId} {ad : Nat → Nat} {ts : ip_TT} {v_MO_size : Int32} {v_MO_loaded : Int32} {v_MO_at : Int32} {v_MO_fault : Int32} {v_MO_hasGiven : Int32} {v_MO_hasPicture : Int32} {v_MO_range : Int32} {v_MO_value : Int32} {v_MO_leaves : Int32} {v_mload : Nat → Int32} {v_mgiven : Nat → Int32} {v_mchances : Nat → Int32} {v_mcounts : Nat → Int32} {v_mleft : Nat → Int32} {v_mtop : Nat → Int32} {v_msides : Nat → Int32} {v_mmodes : Nat → Int32} {v_mskips : Nat → Int32} {v_mowner : Nat → Int32} {v_mlevels : Nat → Int32} {v_mgroup : Nat → Int32}  {nv_MO_at : Int32} {nv_MO_range : Int32} {nv_MO_value : Int32} {nv_MO_leaves : Int32} {nv_mchances : Nat → Int32} {nv_mcounts : Nat → Int32} {nv_mleft : Nat → Int32} {nv_mtop : Nat → Int32} {nv_msides : Nat → Int32} {nv_mmodes : Nat → Int32} {nv_mskips : Nat → Int32} {nv_mowner : Nat → Int32} {nv_mlevels : Nat → Int32} {nv_mgroup : Nat → Int32} (hf : fMO_readPicture v_MO_size v_MO_loaded v_MO_at v_MO_fault v_MO_hasGiven v_MO_hasPicture v_MO_range v_MO_value v_MO_leaves v_mload v_mgiven v_mchances v_mcounts v_mleft v_mtop v_msides v_mmodes v_mskips v_mowner v_mlevels v_mgroup = some (nv_MO_at, nv_MO_range, nv_MO_value, nv_MO_leaves, nv_mchances, nv_mcounts, nv_mleft, nv_mtop, nv_msides, nv_mmodes, nv_mskips, nv_mowner, nv_mlevels, nv_mgroup)) : ip_Mv l yMO_readPicture wsMO_readPicture rmMO_readPicture (dC, dI) vwCl [(cI, .int), (cZ, .boolean)] ts [.ref (ad 0)] (wMO_readPicture ad cI cZ v_MO_size v_MO_loaded v_MO_at v_MO_fault v_MO_hasGiven v_MO_hasPicture v_MO_range v_MO_value v_MO_leaves v_mload v_mgiven v_mchances v_mcounts v_mleft v_mtop v_msides v_mmodes v_mskips v_mowner v_mlevels v_mgroup) (wMO_readPicture ad cI cZ v_MO_size v_MO_loaded nv_MO_at v_MO_fault v_MO_hasGiven v_MO_hasPicture nv_MO_range nv_MO_value nv_MO_leaves v_mload v_mgiven nv_mchances nv_mcounts nv_mleft nv_mtop nv_msides nv_mmodes nv_mskips nv_mowner nv_mlevels nv_mgroup) := by
  refine ip_startV (cc := cMO_readPicture) (maxL := 6) (by decide) rfl (Nat.le_of_ble_eq_true rfl) ?_
  intro p e s m args below meth c Q A ls hx hb hml hts hown hK hP hD hS hA hZ hl hret
  replace hl : lv_has ls 6 [(0, .ref (ad 0))] := hl
  unfold fMO_readPicture at hf
  suffices J0 : ∀ (ls : Array Slot) (H : Heap) (locs : List Loc), lv_has ls 6 [(0, .ref (ad 0))] → va_P (dC, dI) vwCl (wMO_readPicture ad cI cZ v_MO_size v_MO_loaded v_MO_at v_MO_fault v_MO_hasGiven v_MO_hasPicture v_MO_range v_MO_value v_MO_leaves v_mload v_mgiven v_mchances v_mcounts v_mleft v_mtop v_msides v_mmodes v_mskips v_mowner v_mlevels v_mgroup) H → va_D A (wMO_readPicture ad cI cZ v_MO_size v_MO_loaded v_MO_at v_MO_fault v_MO_hasGiven v_MO_hasPicture v_MO_range v_MO_value v_MO_leaves v_mload v_mgiven v_mchances v_mcounts v_mleft v_mtop v_msides v_mmodes v_mskips v_mowner v_mlevels v_mgroup) → va_S A s.heap H locs → W p l e rmMO_readPicture s m args below meth c H locs 0 0 Q (F0 m 0 ls []) by exact J0 ls s.heap [] hl hP hD hS
  clear hP hD hS hl
  intro ls H locs hl hP hD hS
  refine lv_aload_n hx hb dMO_readPicture_0 rfl (lv_at hl 0 rfl) ?_
  refine lv_iconst (v := (0 : Int32)) hx hb dMO_readPicture_1 (by decide) ?_
  refine va_put (D := (dC, dI)) (ci := 12) (v := .int (0 : Int32)) (ty := .int) (C := kR_MO) (T := kT_MO) (N := 32) hx hb hts kin_MO kty_MO kto_MO knm_MO hown hK hP hD hS 0 rfl rfl 4 (by decide) (hts _ (List.mem_cons_of_mem _ kw3_191)) (fun _ h9 => h9) rfl (by decide +kernel) rfl rfl (Nat.le_of_ble_eq_true rfl) dMO_readPicture_2 (fun H locs hP hD hS => ?_)
  replace hP : va_P (dC, dI) vwCl (wMO_readPicture ad cI cZ v_MO_size v_MO_loaded (0 : Int32) v_MO_fault v_MO_hasGiven v_MO_hasPicture v_MO_range v_MO_value v_MO_leaves v_mload v_mgiven v_mchances v_mcounts v_mleft v_mtop v_msides v_mmodes v_mskips v_mowner v_mlevels v_mgroup) H := hP
  replace hD : va_D A (wMO_readPicture ad cI cZ v_MO_size v_MO_loaded (0 : Int32) v_MO_fault v_MO_hasGiven v_MO_hasPicture v_MO_range v_MO_value v_MO_leaves v_mload v_mgiven v_mchances v_mcounts v_mleft v_mtop v_msides v_mmodes v_mskips v_mowner v_mlevels v_mgroup) := hD
  refine lv_aload_n hx hb dMO_readPicture_5 rfl (lv_at hl 0 rfl) ?_
  refine lv_sipush (v := (510 : Int32)) hx hb dMO_readPicture_6 (by decide) ?_
  refine va_put (D := (dC, dI)) (ci := 12) (v := .int (510 : Int32)) (ty := .int) (C := kR_MO) (T := kT_MO) (N := 32) hx hb hts kin_MO kty_MO kto_MO knm_MO hown hK hP hD hS 0 rfl rfl 10 (by decide) (hts _ (List.mem_cons_of_mem _ kw3_197)) (fun _ h9 => h9) rfl (by decide +kernel) rfl rfl (Nat.le_of_ble_eq_true rfl) dMO_readPicture_9 (fun H locs hP hD hS => ?_)
  replace hP : va_P (dC, dI) vwCl (wMO_readPicture ad cI cZ v_MO_size v_MO_loaded (0 : Int32) v_MO_fault v_MO_hasGiven v_MO_hasPicture (510 : Int32) v_MO_value v_MO_leaves v_mload v_mgiven v_mchances v_mcounts v_mleft v_mtop v_msides v_mmodes v_mskips v_mowner v_mlevels v_mgroup) H := hP
  replace hD : va_D A (wMO_readPicture ad cI cZ v_MO_size v_MO_loaded (0 : Int32) v_MO_fault v_MO_hasGiven v_MO_hasPicture (510 : Int32) v_MO_value v_MO_leaves v_mload v_mgiven v_mchances v_mcounts v_mleft v_mtop v_msides v_mmodes v_mskips v_mowner v_mlevels v_mgroup) := hD
  refine lv_aload_n hx hb dMO_readPicture_12 rfl (lv_at hl 0 rfl) ?_
  refine lv_iconst (v := (0 : Int32)) hx hb dMO_readPicture_13 (by decide) ?_
  refine va_put (D := (dC, dI)) (ci := 12) (v := .int (0 : Int32)) (ty := .int) (C := kR_MO) (T := kT_MO) (N := 32) hx hb hts kin_MO kty_MO kto_MO knm_MO hown hK hP hD hS 0 rfl rfl 11 (by decide) (hts _ (List.mem_cons_of_mem _ kw3_198)) (fun _ h9 => h9) rfl (by decide +kernel) rfl rfl (Nat.le_of_ble_eq_true rfl) dMO_readPicture_14 (fun H locs hP hD hS => ?_)
  replace hP : va_P (dC, dI) vwCl (wMO_readPicture ad cI cZ v_MO_size v_MO_loaded (0 : Int32) v_MO_fault v_MO_hasGiven v_MO_hasPicture (510 : Int32) (0 : Int32) v_MO_leaves v_mload v_mgiven v_mchances v_mcounts v_mleft v_mtop v_msides v_mmodes v_mskips v_mowner v_mlevels v_mgroup) H := hP
  replace hD : va_D A (wMO_readPicture ad cI cZ v_MO_size v_MO_loaded (0 : Int32) v_MO_fault v_MO_hasGiven v_MO_hasPicture (510 : Int32) (0 : Int32) v_MO_leaves v_mload v_mgiven v_mchances v_mcounts v_mleft v_mtop v_msides v_mmodes v_mskips v_mowner v_mlevels v_mgroup) := hD
  refine lv_aload_n hx hb dMO_readPicture_17 rfl (lv_at hl 0 rfl) ?_
  refine lv_iconst (v := (0 : Int32)) hx hb dMO_readPicture_18 (by decide) ?_
  refine va_put (D := (dC, dI)) (ci := 12) (v := .int (0 : Int32)) (ty := .int) (C := kR_MO) (T := kT_MO) (N := 32) hx hb hts kin_MO kty_MO kto_MO knm_MO hown hK hP hD hS 0 rfl rfl 14 (by decide) (hts _ (List.mem_cons_of_mem _ kw3_201)) (fun _ h9 => h9) rfl (by decide +kernel) rfl rfl (Nat.le_of_ble_eq_true rfl) dMO_readPicture_19 (fun H locs hP hD hS => ?_)
  replace hP : va_P (dC, dI) vwCl (wMO_readPicture ad cI cZ v_MO_size v_MO_loaded (0 : Int32) v_MO_fault v_MO_hasGiven v_MO_hasPicture (510 : Int32) (0 : Int32) (0 : Int32) v_mload v_mgiven v_mchances v_mcounts v_mleft v_mtop v_msides v_mmodes v_mskips v_mowner v_mlevels v_mgroup) H := hP
  replace hD : va_D A (wMO_readPicture ad cI cZ v_MO_size v_MO_loaded (0 : Int32) v_MO_fault v_MO_hasGiven v_MO_hasPicture (510 : Int32) (0 : Int32) (0 : Int32) v_mload v_mgiven v_mchances v_mcounts v_mleft v_mtop v_msides v_mmodes v_mskips v_mowner v_mlevels v_mgroup) := hD
  refine lv_iconst (v := (0 : Int32)) hx hb dMO_readPicture_22 (by decide) ?_
  refine lv_istore_n (lv' := [(1, .int (0 : Int32)), (0, .ref (ad 0))]) hx hb dMO_readPicture_23 rfl hl (by decide) rfl (fun ls hl => ?_)
  replace hl := lv_sub hl (l' := [(0, .ref (ad 0)), (1, .int (0 : Int32))]) [1, 0] rfl
  obtain ⟨x3, y4, hL, hf⟩ := ip_b2_e hf
  suffices J45 : ∀ (ls : Array Slot) (H : Heap) (locs : List Loc), lv_has ls 6 [(0, .ref (ad 0))] → va_P (dC, dI) vwCl (wMO_readPicture ad cI cZ v_MO_size v_MO_loaded (0 : Int32) v_MO_fault v_MO_hasGiven v_MO_hasPicture (510 : Int32) (0 : Int32) (0 : Int32) v_mload v_mgiven y4 v_mcounts v_mleft v_mtop v_msides v_mmodes v_mskips v_mowner v_mlevels v_mgroup) H → va_D A (wMO_readPicture ad cI cZ v_MO_size v_MO_loaded (0 : Int32) v_MO_fault v_MO_hasGiven v_MO_hasPicture (510 : Int32) (0 : Int32) (0 : Int32) v_mload v_mgiven y4 v_mcounts v_mleft v_mtop v_msides v_mmodes v_mskips v_mowner v_mlevels v_mgroup) → va_S A s.heap H locs → W p l e rmMO_readPicture s m args below meth c H locs 0 0 Q (F0 m 45 ls []) by
    have L : ∀ (n : Nat) (z1 : Int32) (g2 : Nat → Int32), ip_lp2 fMO_readPicture_B24 n z1 g2 = some (x3, y4) → ∀ (ls : Array Slot) (H : Heap) (locs : List Loc), lv_has ls 6 [(0, .ref (ad 0)), (1, .int z1)] → va_P (dC, dI) vwCl (wMO_readPicture ad cI cZ v_MO_size v_MO_loaded (0 : Int32) v_MO_fault v_MO_hasGiven v_MO_hasPicture (510 : Int32) (0 : Int32) (0 : Int32) v_mload v_mgiven g2 v_mcounts v_mleft v_mtop v_msides v_mmodes v_mskips v_mowner v_mlevels v_mgroup) H → va_D A (wMO_readPicture ad cI cZ v_MO_size v_MO_loaded (0 : Int32) v_MO_fault v_MO_hasGiven v_MO_hasPicture (510 : Int32) (0 : Int32) (0 : Int32) v_mload v_mgiven g2 v_mcounts v_mleft v_mtop v_msides v_mmodes v_mskips v_mowner v_mlevels v_mgroup) → va_S A s.heap H locs → W p l e rmMO_readPicture s m args below meth c H locs 0 0 Q (F0 m 24 ls []) := by
      intro n
      induction n with
      | zero => intro z1 g2 hL; exact (ip_lp2_0 hL).elim
      | succ n ih =>
        intro z1 g2 hL ls H locs hl hP hD hS
        clear hf
        obtain ⟨r9, hf, hr24⟩ := ip_lp2_s hL
        clear hL
        unfold fMO_readPicture_B24 at hf
        refine lv_iload_n hx hb dMO_readPicture_24 rfl (lv_at hl 1 rfl) ?_
        refine lv_bipush (v := (14 : Int32)) hx hb dMO_readPicture_25 (by decide) ?_
        refine ip_icmp_ge (tgt := 45) hx hb dMO_readPicture_27 rfl hf (fun hf => ?_) (fun hf => ?_)
        · have hx9 := ip_lp_x hr24 hf
          replace hl := lv_sub hl (l' := [(0, .ref (ad 0))]) [0] rfl
          cases hx9
          exact J45 ls H locs hl hP hD hS
        · refine lv_aload_n hx hb dMO_readPicture_30 rfl (lv_at hl 0 rfl) ?_
          refine va_get (D := (dC, dI)) (ci := 12) (v := .ref (ad 5)) (C := kR_MO) (T := kT_MO) (N := 32) hx hb hts kin_MO hown hK hP 0 rfl rfl 12 (by decide) (hts _ (List.mem_cons_of_mem _ kw3_199)) (fun _ h9 => h9) rfl dMO_readPicture_31 ?_
          refine lv_iload_n hx hb dMO_readPicture_34 rfl (lv_at hl 1 rfl) ?_
          refine lv_sipush (v := (512 : Int32)) hx hb dMO_readPicture_35 (by decide) ?_
          refine ip_iast hx hb hK hP hD hS 3 0 rfl rfl (fun g5 => (wMO_readPicture ad cI cZ v_MO_size v_MO_loaded (0 : Int32) v_MO_fault v_MO_hasGiven v_MO_hasPicture (510 : Int32) (0 : Int32) (0 : Int32) v_mload v_mgiven g5 v_mcounts v_mleft v_mtop v_msides v_mmodes v_mskips v_mowner v_mlevels v_mgroup)) (fun _ => rfl) dMO_readPicture_38 hf (fun g5 H locs hf hP hD hS => ?_)
          refine ip_iinc (k0 := 1) (v0 := (1 : Int32)) (lv1 := fun z6 => [(1, .int z6), (0, .ref (ad 0))]) hx hb dMO_readPicture_39 hl rfl (by decide) (by decide) (fun _ => rfl) hf (fun z6 ls hf hl => ?_)
          refine lv_goto (tgt := 24) hx hb dMO_readPicture_42 rfl ?_
          replace hl := lv_sub hl (l' := [(0, .ref (ad 0)), (1, .int z6)]) [1, 0] rfl
          exact ih _ _ (ip_lp2_l hr24 hf) ls H locs hl hP hD hS
    exact L 1000 _ _ hL ls H locs hl hP hD hS
  intro ls H locs hl hP hD hS
  clear hL
  refine lv_iconst (v := (0 : Int32)) hx hb dMO_readPicture_45 (by decide) ?_
  refine lv_istore_n (lv' := [(1, .int (0 : Int32)), (0, .ref (ad 0))]) hx hb dMO_readPicture_46 rfl hl (by decide) rfl (fun ls hl => ?_)
  replace hl := lv_sub hl (l' := [(0, .ref (ad 0)), (1, .int (0 : Int32))]) [1, 0] rfl
  obtain ⟨x9, y10, hL, hf⟩ := ip_b2_e hf
  suffices J65 : ∀ (ls : Array Slot) (H : Heap) (locs : List Loc), lv_has ls 6 [(0, .ref (ad 0))] → va_P (dC, dI) vwCl (wMO_readPicture ad cI cZ v_MO_size v_MO_loaded (0 : Int32) v_MO_fault v_MO_hasGiven v_MO_hasPicture (510 : Int32) (0 : Int32) (0 : Int32) v_mload v_mgiven y4 y10 v_mleft v_mtop v_msides v_mmodes v_mskips v_mowner v_mlevels v_mgroup) H → va_D A (wMO_readPicture ad cI cZ v_MO_size v_MO_loaded (0 : Int32) v_MO_fault v_MO_hasGiven v_MO_hasPicture (510 : Int32) (0 : Int32) (0 : Int32) v_mload v_mgiven y4 y10 v_mleft v_mtop v_msides v_mmodes v_mskips v_mowner v_mlevels v_mgroup) → va_S A s.heap H locs → W p l e rmMO_readPicture s m args below meth c H locs 0 0 Q (F0 m 65 ls []) by
    have L : ∀ (n : Nat) (z7 : Int32) (g8 : Nat → Int32), ip_lp2 fMO_readPicture_B47 n z7 g8 = some (x9, y10) → ∀ (ls : Array Slot) (H : Heap) (locs : List Loc), lv_has ls 6 [(0, .ref (ad 0)), (1, .int z7)] → va_P (dC, dI) vwCl (wMO_readPicture ad cI cZ v_MO_size v_MO_loaded (0 : Int32) v_MO_fault v_MO_hasGiven v_MO_hasPicture (510 : Int32) (0 : Int32) (0 : Int32) v_mload v_mgiven y4 g8 v_mleft v_mtop v_msides v_mmodes v_mskips v_mowner v_mlevels v_mgroup) H → va_D A (wMO_readPicture ad cI cZ v_MO_size v_MO_loaded (0 : Int32) v_MO_fault v_MO_hasGiven v_MO_hasPicture (510 : Int32) (0 : Int32) (0 : Int32) v_mload v_mgiven y4 g8 v_mleft v_mtop v_msides v_mmodes v_mskips v_mowner v_mlevels v_mgroup) → va_S A s.heap H locs → W p l e rmMO_readPicture s m args below meth c H locs 0 0 Q (F0 m 47 ls []) := by
      intro n
      induction n with
      | zero => intro z7 g8 hL; exact (ip_lp2_0 hL).elim
      | succ n ih =>
        intro z7 g8 hL ls H locs hl hP hD hS
        clear hf
        obtain ⟨r9, hf, hr47⟩ := ip_lp2_s hL
        clear hL
        unfold fMO_readPicture_B47 at hf
        refine lv_iload_n hx hb dMO_readPicture_47 rfl (lv_at hl 1 rfl) ?_
        refine lv_iconst (v := (3 : Int32)) hx hb dMO_readPicture_48 (by decide) ?_
        refine ip_icmp_ge (tgt := 65) hx hb dMO_readPicture_49 rfl hf (fun hf => ?_) (fun hf => ?_)
        · have hx9 := ip_lp_x hr47 hf
          replace hl := lv_sub hl (l' := [(0, .ref (ad 0))]) [0] rfl
          cases hx9
          exact J65 ls H locs hl hP hD hS
        · refine lv_aload_n hx hb dMO_readPicture_52 rfl (lv_at hl 0 rfl) ?_
          refine va_get (D := (dC, dI)) (ci := 12) (v := .ref (ad 6)) (C := kR_MO) (T := kT_MO) (N := 32) hx hb hts kin_MO hown hK hP 0 rfl rfl 13 (by decide) (hts _ (List.mem_cons_of_mem _ kw3_200)) (fun _ h9 => h9) rfl dMO_readPicture_53 ?_
          refine lv_iload_n hx hb dMO_readPicture_56 rfl (lv_at hl 1 rfl) ?_
          refine lv_iconst (v := (0 : Int32)) hx hb dMO_readPicture_57 (by decide) ?_
          refine ip_iast hx hb hK hP hD hS 4 0 rfl rfl (fun g11 => (wMO_readPicture ad cI cZ v_MO_size v_MO_loaded (0 : Int32) v_MO_fault v_MO_hasGiven v_MO_hasPicture (510 : Int32) (0 : Int32) (0 : Int32) v_mload v_mgiven y4 g11 v_mleft v_mtop v_msides v_mmodes v_mskips v_mowner v_mlevels v_mgroup)) (fun _ => rfl) dMO_readPicture_58 hf (fun g11 H locs hf hP hD hS => ?_)
          refine ip_iinc (k0 := 1) (v0 := (1 : Int32)) (lv1 := fun z12 => [(1, .int z12), (0, .ref (ad 0))]) hx hb dMO_readPicture_59 hl rfl (by decide) (by decide) (fun _ => rfl) hf (fun z12 ls hf hl => ?_)
          refine lv_goto (tgt := 47) hx hb dMO_readPicture_62 rfl ?_
          replace hl := lv_sub hl (l' := [(0, .ref (ad 0)), (1, .int z12)]) [1, 0] rfl
          exact ih _ _ (ip_lp2_l hr47 hf) ls H locs hl hP hD hS
    exact L 1000 _ _ hL ls H locs hl hP hD hS
  intro ls H locs hl hP hD hS
  clear hL
  refine lv_iconst (v := (0 : Int32)) hx hb dMO_readPicture_65 (by decide) ?_
  refine lv_istore_n (lv' := [(1, .int (0 : Int32)), (0, .ref (ad 0))]) hx hb dMO_readPicture_66 rfl hl (by decide) rfl (fun ls hl => ?_)
  replace hl := lv_sub hl (l' := [(0, .ref (ad 0)), (1, .int (0 : Int32))]) [1, 0] rfl
  obtain ⟨x17, x18, x19, y20, hL, hf⟩ := ip_b4_e hf
  suffices J83 : ∀ (ls : Array Slot) (H : Heap) (locs : List Loc), lv_has ls 6 [(0, .ref (ad 0))] → va_P (dC, dI) vwCl (wMO_readPicture ad cI cZ v_MO_size v_MO_loaded x18 v_MO_fault v_MO_hasGiven v_MO_hasPicture (510 : Int32) x19 (0 : Int32) v_mload v_mgiven y4 y20 v_mleft v_mtop v_msides v_mmodes v_mskips v_mowner v_mlevels v_mgroup) H → va_D A (wMO_readPicture ad cI cZ v_MO_size v_MO_loaded x18 v_MO_fault v_MO_hasGiven v_MO_hasPicture (510 : Int32) x19 (0 : Int32) v_mload v_mgiven y4 y20 v_mleft v_mtop v_msides v_mmodes v_mskips v_mowner v_mlevels v_mgroup) → va_S A s.heap H locs → W p l e rmMO_readPicture s m args below meth c H locs 0 0 Q (F0 m 83 ls []) by
    have L : ∀ (n : Nat) (z13 : Int32) (z14 : Int32) (z15 : Int32) (g16 : Nat → Int32), ip_lp4 (fMO_readPicture_B67 v_MO_size v_MO_loaded v_MO_fault v_MO_hasGiven v_MO_hasPicture v_mload) n z13 z14 z15 g16 = some (x17, x18, x19, y20) → ∀ (ls : Array Slot) (H : Heap) (locs : List Loc), lv_has ls 6 [(0, .ref (ad 0)), (1, .int z13)] → va_P (dC, dI) vwCl (wMO_readPicture ad cI cZ v_MO_size v_MO_loaded z14 v_MO_fault v_MO_hasGiven v_MO_hasPicture (510 : Int32) z15 (0 : Int32) v_mload v_mgiven y4 g16 v_mleft v_mtop v_msides v_mmodes v_mskips v_mowner v_mlevels v_mgroup) H → va_D A (wMO_readPicture ad cI cZ v_MO_size v_MO_loaded z14 v_MO_fault v_MO_hasGiven v_MO_hasPicture (510 : Int32) z15 (0 : Int32) v_mload v_mgiven y4 g16 v_mleft v_mtop v_msides v_mmodes v_mskips v_mowner v_mlevels v_mgroup) → va_S A s.heap H locs → W p l e rmMO_readPicture s m args below meth c H locs 0 0 Q (F0 m 67 ls []) := by
      intro n
      induction n with
      | zero => intro z13 z14 z15 g16 hL; exact (ip_lp4_0 hL).elim
      | succ n ih =>
        intro z13 z14 z15 g16 hL ls H locs hl hP hD hS
        clear hf
        obtain ⟨r9, hf, hr67⟩ := ip_lp4_s hL
        clear hL
        unfold fMO_readPicture_B67 at hf
        refine lv_iload_n hx hb dMO_readPicture_67 rfl (lv_at hl 1 rfl) ?_
        refine lv_bipush (v := (8 : Int32)) hx hb dMO_readPicture_68 (by decide) ?_
        refine ip_icmp_ge (tgt := 83) hx hb dMO_readPicture_70 rfl hf (fun hf => ?_) (fun hf => ?_)
        · have hx9 := ip_lp_x hr67 hf
          replace hl := lv_sub hl (l' := [(0, .ref (ad 0))]) [0] rfl
          cases hx9
          exact J83 ls H locs hl hP hD hS
        · refine lv_aload_n hx hb dMO_readPicture_73 rfl (lv_at hl 0 rfl) ?_
          obtain ⟨z21, z22, g23, hc, hf⟩ := ip_b3_e hf
          refine ip_callv (va_runV (As := []) (rest := []) ⟨hx, hb, hml, hown, hts⟩ (tMO_shift (l := l) (dC := dC) (dI := dI) (ad := ad) (cI := cI) (ts := ts) (cZ := cZ) hc H.size) (cwV 0 hts (ip_gdV (own := kR_MO) (idx := 148) (C := kR_MO) (y := yMO_shift) kw4_103 kw4_105 kws_45 kw1_13 kw4_106) rfl rfl rfl (by decide +kernel) ⟨Nat.le_of_ble_eq_true rfl, Nat.le_of_ble_eq_true rfl⟩) (ip_preV hK hP hD hS hA hZ [0, 1, 4] rfl rfl (ci := 12) (q0 := 0) rfl rfl) rfl rfl hl.1 rfl (lv_room (Nat.le_of_ble_eq_true rfl)) dMO_readPicture_74 ⟨Nat.le_of_ble_eq_true rfl, Nat.le_of_ble_eq_true rfl⟩) hP hD hS hA [0, 1, 4] [2, 3, 5, 6, 7, 8, 9, 10, 11, 12] [10, 11, 0, 1, 12, 2, 3, 4, 5, 6, 7, 8, 9] (wMO_readPicture ad cI cZ v_MO_size v_MO_loaded z21 v_MO_fault v_MO_hasGiven v_MO_hasPicture (510 : Int32) z22 (0 : Int32) v_mload v_mgiven y4 g23 v_mleft v_mtop v_msides v_mmodes v_mskips v_mowner v_mlevels v_mgroup) rfl rfl rfl (by decide) rfl rfl (fun H locs hP hD hS => ?_)
          clear hc
          refine ip_iinc (k0 := 1) (v0 := (1 : Int32)) (lv1 := fun z24 => [(1, .int z24), (0, .ref (ad 0))]) hx hb dMO_readPicture_77 hl rfl (by decide) (by decide) (fun _ => rfl) hf (fun z24 ls hf hl => ?_)
          refine lv_goto (tgt := 67) hx hb dMO_readPicture_80 rfl ?_
          replace hl := lv_sub hl (l' := [(0, .ref (ad 0)), (1, .int z24)]) [1, 0] rfl
          exact ih _ _ _ _ (ip_lp4_l hr67 hf) ls H locs hl hP hD hS
    exact L 1000 _ _ _ _ hL ls H locs hl hP hD hS
  intro ls H locs hl hP hD hS
  clear hL
  refine lv_iconst (v := (0 : Int32)) hx hb dMO_readPicture_83 (by decide) ?_
  refine lv_istore_n (lv' := [(1, .int (0 : Int32)), (0, .ref (ad 0))]) hx hb dMO_readPicture_84 rfl hl (by decide) rfl (fun ls hl => ?_)
  replace hl := lv_sub hl (l' := [(0, .ref (ad 0)), (1, .int (0 : Int32))]) [1, 0] rfl
  obtain ⟨x28, y29, y30, hL, hf⟩ := ip_b3_e hf
  suffices J112 : ∀ (ls : Array Slot) (H : Heap) (locs : List Loc), lv_has ls 6 [(0, .ref (ad 0))] → va_P (dC, dI) vwCl (wMO_readPicture ad cI cZ v_MO_size v_MO_loaded x18 v_MO_fault v_MO_hasGiven v_MO_hasPicture (510 : Int32) x19 (0 : Int32) v_mload v_mgiven y4 y20 v_mleft v_mtop v_msides v_mmodes v_mskips y29 y30 v_mgroup) H → va_D A (wMO_readPicture ad cI cZ v_MO_size v_MO_loaded x18 v_MO_fault v_MO_hasGiven v_MO_hasPicture (510 : Int32) x19 (0 : Int32) v_mload v_mgiven y4 y20 v_mleft v_mtop v_msides v_mmodes v_mskips y29 y30 v_mgroup) → va_S A s.heap H locs → W p l e rmMO_readPicture s m args below meth c H locs 0 0 Q (F0 m 112 ls []) by
    have L : ∀ (n : Nat) (z25 : Int32) (g26 : Nat → Int32) (g27 : Nat → Int32), ip_lp3 fMO_readPicture_B85 n z25 g26 g27 = some (x28, y29, y30) → ∀ (ls : Array Slot) (H : Heap) (locs : List Loc), lv_has ls 6 [(0, .ref (ad 0)), (1, .int z25)] → va_P (dC, dI) vwCl (wMO_readPicture ad cI cZ v_MO_size v_MO_loaded x18 v_MO_fault v_MO_hasGiven v_MO_hasPicture (510 : Int32) x19 (0 : Int32) v_mload v_mgiven y4 y20 v_mleft v_mtop v_msides v_mmodes v_mskips g26 g27 v_mgroup) H → va_D A (wMO_readPicture ad cI cZ v_MO_size v_MO_loaded x18 v_MO_fault v_MO_hasGiven v_MO_hasPicture (510 : Int32) x19 (0 : Int32) v_mload v_mgiven y4 y20 v_mleft v_mtop v_msides v_mmodes v_mskips g26 g27 v_mgroup) → va_S A s.heap H locs → W p l e rmMO_readPicture s m args below meth c H locs 0 0 Q (F0 m 85 ls []) := by
      intro n
      induction n with
      | zero => intro z25 g26 g27 hL; exact (ip_lp3_0 hL).elim
      | succ n ih =>
        intro z25 g26 g27 hL ls H locs hl hP hD hS
        clear hf
        obtain ⟨r9, hf, hr85⟩ := ip_lp3_s hL
        clear hL
        unfold fMO_readPicture_B85 at hf
        refine lv_iload_n hx hb dMO_readPicture_85 rfl (lv_at hl 1 rfl) ?_
        refine lv_sipush (v := (256 : Int32)) hx hb dMO_readPicture_86 (by decide) ?_
        refine ip_icmp_ge (tgt := 112) hx hb dMO_readPicture_89 rfl hf (fun hf => ?_) (fun hf => ?_)
        · have hx9 := ip_lp_x hr85 hf
          replace hl := lv_sub hl (l' := [(0, .ref (ad 0))]) [0] rfl
          cases hx9
          exact J112 ls H locs hl hP hD hS
        · refine lv_aload_n hx hb dMO_readPicture_92 rfl (lv_at hl 0 rfl) ?_
          refine va_get (D := (dC, dI)) (ci := 12) (v := .ref (ad 12)) (C := kR_MO) (T := kT_MO) (N := 32) hx hb hts kin_MO hown hK hP 0 rfl rfl 20 (by decide) (hts _ (List.mem_cons_of_mem _ kw3_207)) (fun _ h9 => h9) rfl dMO_readPicture_93 ?_
          refine lv_iload_n hx hb dMO_readPicture_96 rfl (lv_at hl 1 rfl) ?_
          refine lv_iconst (v := (-1 : Int32)) hx hb dMO_readPicture_97 (by decide) ?_
          refine ip_iast hx hb hK hP hD hS 10 0 rfl rfl (fun g31 => (wMO_readPicture ad cI cZ v_MO_size v_MO_loaded x18 v_MO_fault v_MO_hasGiven v_MO_hasPicture (510 : Int32) x19 (0 : Int32) v_mload v_mgiven y4 y20 v_mleft v_mtop v_msides v_mmodes v_mskips g31 g27 v_mgroup)) (fun _ => rfl) dMO_readPicture_98 hf (fun g31 H locs hf hP hD hS => ?_)
          refine lv_aload_n hx hb dMO_readPicture_99 rfl (lv_at hl 0 rfl) ?_
          refine va_get (D := (dC, dI)) (ci := 12) (v := .ref (ad 13)) (C := kR_MO) (T := kT_MO) (N := 32) hx hb hts kin_MO hown hK hP 0 rfl rfl 21 (by decide) (hts _ (List.mem_cons_of_mem _ kw3_208)) (fun _ h9 => h9) rfl dMO_readPicture_100 ?_
          refine lv_iload_n hx hb dMO_readPicture_103 rfl (lv_at hl 1 rfl) ?_
          refine lv_iconst (v := (0 : Int32)) hx hb dMO_readPicture_104 (by decide) ?_
          refine ip_iast hx hb hK hP hD hS 11 0 rfl rfl (fun g32 => (wMO_readPicture ad cI cZ v_MO_size v_MO_loaded x18 v_MO_fault v_MO_hasGiven v_MO_hasPicture (510 : Int32) x19 (0 : Int32) v_mload v_mgiven y4 y20 v_mleft v_mtop v_msides v_mmodes v_mskips g31 g32 v_mgroup)) (fun _ => rfl) dMO_readPicture_105 hf (fun g32 H locs hf hP hD hS => ?_)
          refine ip_iinc (k0 := 1) (v0 := (1 : Int32)) (lv1 := fun z33 => [(1, .int z33), (0, .ref (ad 0))]) hx hb dMO_readPicture_106 hl rfl (by decide) (by decide) (fun _ => rfl) hf (fun z33 ls hf hl => ?_)
          refine lv_goto (tgt := 85) hx hb dMO_readPicture_109 rfl ?_
          replace hl := lv_sub hl (l' := [(0, .ref (ad 0)), (1, .int z33)]) [1, 0] rfl
          exact ih _ _ _ (ip_lp3_l hr85 hf) ls H locs hl hP hD hS
    exact L 1000 _ _ _ hL ls H locs hl hP hD hS
  intro ls H locs hl hP hD hS
  clear hL
  refine lv_iconst (v := (0 : Int32)) hx hb dMO_readPicture_112 (by decide) ?_
  refine lv_istore_n (lv' := [(1, .int (0 : Int32)), (0, .ref (ad 0))]) hx hb dMO_readPicture_113 rfl hl (by decide) rfl (fun ls hl => ?_)
  refine lv_iconst (v := (0 : Int32)) hx hb dMO_readPicture_114 (by decide) ?_
  refine lv_istore_n (lv' := [(2, .int (0 : Int32)), (1, .int (0 : Int32)), (0, .ref (ad 0))]) hx hb dMO_readPicture_115 rfl hl (by decide) rfl (fun ls hl => ?_)
  replace hl := lv_sub hl (l' := [(0, .ref (ad 0)), (1, .int (0 : Int32)), (2, .int (0 : Int32))]) [2, 1, 0] rfl
  obtain ⟨x50, x51, x52, x53, x54, x55, y56, y57, y58, y59, y60, y61, y62, y63, y64, y65, hL, hf⟩ := ip_b16_e hf
  suffices J239 : ∀ (ls : Array Slot) (H : Heap) (locs : List Loc), lv_has ls 6 [] → va_P (dC, dI) vwCl (wMO_readPicture ad cI cZ v_MO_size v_MO_loaded x52 v_MO_fault v_MO_hasGiven v_MO_hasPicture x53 x54 x55 v_mload v_mgiven y56 y57 y58 y59 y60 y61 y62 y63 y64 y65) H → va_D A (wMO_readPicture ad cI cZ v_MO_size v_MO_loaded x52 v_MO_fault v_MO_hasGiven v_MO_hasPicture x53 x54 x55 v_mload v_mgiven y56 y57 y58 y59 y60 y61 y62 y63 y64 y65) → va_S A s.heap H locs → W p l e rmMO_readPicture s m args below meth c H locs 0 0 Q (F0 m 239 ls []) by
    have L : ∀ (n : Nat) (z34 : Int32) (z35 : Int32) (z36 : Int32) (z37 : Int32) (z38 : Int32) (z39 : Int32) (g40 : Nat → Int32) (g41 : Nat → Int32) (g42 : Nat → Int32) (g43 : Nat → Int32) (g44 : Nat → Int32) (g45 : Nat → Int32) (g46 : Nat → Int32) (g47 : Nat → Int32) (g48 : Nat → Int32) (g49 : Nat → Int32), ip_lp16 (fMO_readPicture_B116 v_MO_size v_MO_loaded v_MO_fault v_MO_hasGiven v_MO_hasPicture v_mload v_mgiven) n z34 z35 z36 z37 z38 z39 g40 g41 g42 g43 g44 g45 g46 g47 g48 g49 = some (x50, x51, x52, x53, x54, x55, y56, y57, y58, y59, y60, y61, y62, y63, y64, y65) → ∀ (ls : Array Slot) (H : Heap) (locs : List Loc), lv_has ls 6 [(0, .ref (ad 0)), (1, .int z34), (2, .int z35)] → va_P (dC, dI) vwCl (wMO_readPicture ad cI cZ v_MO_size v_MO_loaded z36 v_MO_fault v_MO_hasGiven v_MO_hasPicture z37 z38 z39 v_mload v_mgiven g40 g41 g42 g43 g44 g45 g46 g47 g48 g49) H → va_D A (wMO_readPicture ad cI cZ v_MO_size v_MO_loaded z36 v_MO_fault v_MO_hasGiven v_MO_hasPicture z37 z38 z39 v_mload v_mgiven g40 g41 g42 g43 g44 g45 g46 g47 g48 g49) → va_S A s.heap H locs → W p l e rmMO_readPicture s m args below meth c H locs 0 0 Q (F0 m 116 ls []) := by
      intro n
      induction n with
      | zero => intro z34 z35 z36 z37 z38 z39 g40 g41 g42 g43 g44 g45 g46 g47 g48 g49 hL; exact (ip_lp16_0 hL).elim
      | succ n ih =>
        intro z34 z35 z36 z37 z38 z39 g40 g41 g42 g43 g44 g45 g46 g47 g48 g49 hL ls H locs hl hP hD hS
        clear hf
        obtain ⟨r9, hf, hr116⟩ := ip_lp16_s hL
        clear hL
        unfold fMO_readPicture_B116 at hf
        refine lv_iload_n hx hb dMO_readPicture_116 rfl (lv_at hl 2 rfl) ?_
        refine lv_iconst (v := (4 : Int32)) hx hb dMO_readPicture_117 (by decide) ?_
        refine ip_icmp_ge (tgt := 239) hx hb dMO_readPicture_118 rfl hf (fun hf => ?_) (fun hf => ?_)
        · have hx9 := ip_lp_x hr116 hf
          replace hl := lv_sub hl (l' := []) [] rfl
          cases hx9
          exact J239 ls H locs hl hP hD hS
        · refine lv_iload_n hx hb dMO_readPicture_121 rfl (lv_at hl 2 rfl) ?_
          refine lv_iconst (v := (2 : Int32)) hx hb dMO_readPicture_122 (by decide) ?_
          refine lv_irem hx hb dMO_readPicture_123 (by decide) ?_
          refine lv_iconst (v := (1 : Int32)) hx hb dMO_readPicture_124 (by decide) ?_
          obtain ⟨z66, hh, hf⟩ := ip_b1_e hf
          suffices J139 : ∀ (ls : Array Slot) (H : Heap) (locs : List Loc), lv_has ls 6 [(0, .ref (ad 0)), (1, .int z34), (2, .int z35)] → va_P (dC, dI) vwCl (wMO_readPicture ad cI cZ v_MO_size v_MO_loaded z36 v_MO_fault v_MO_hasGiven v_MO_hasPicture z37 z38 z39 v_mload v_mgiven g40 g41 g42 g43 g44 g45 g46 g47 g48 g49) H → va_D A (wMO_readPicture ad cI cZ v_MO_size v_MO_loaded z36 v_MO_fault v_MO_hasGiven v_MO_hasPicture z37 z38 z39 v_mload v_mgiven g40 g41 g42 g43 g44 g45 g46 g47 g48 g49) → va_S A s.heap H locs → W p l e rmMO_readPicture s m args below meth c H locs 0 0 Q (F0 m 139 ls [.int z66]) by
            replace hf := hh
            refine ip_icmp_ne (tgt := 138) hx hb dMO_readPicture_125 rfl hf (fun hf => ?_) (fun hf => ?_)
            · refine lv_iconst (v := (0 : Int32)) hx hb dMO_readPicture_138 (by decide) ?_
              cases hf
              exact J139 ls H locs hl hP hD hS
            · refine lv_iload_n hx hb dMO_readPicture_128 rfl (lv_at hl 1 rfl) ?_
              refine lv_iload_n hx hb dMO_readPicture_129 rfl (lv_at hl 2 rfl) ?_
              refine lv_iconst (v := (1 : Int32)) hx hb dMO_readPicture_130 (by decide) ?_
              refine lv_isub hx hb dMO_readPicture_131 ?_
              refine lv_ishr hx hb dMO_readPicture_132 ?_
              refine lv_iconst (v := (1 : Int32)) hx hb dMO_readPicture_133 (by decide) ?_
              refine lv_iand hx hb dMO_readPicture_134 ?_
              refine lv_goto (tgt := 139) hx hb dMO_readPicture_135 rfl ?_
              cases hf
              exact J139 ls H locs hl hP hD hS
          intro ls H locs hl hP hD hS
          clear hh
          refine lv_iload_n hx hb dMO_readPicture_139 rfl (lv_at hl 2 rfl) ?_
          refine lv_iconst (v := (1 : Int32)) hx hb dMO_readPicture_140 (by decide) ?_
          obtain ⟨z67, hh, hf⟩ := ip_b1_e hf
          suffices J155 : ∀ (ls : Array Slot) (H : Heap) (locs : List Loc), lv_has ls 6 [(0, .ref (ad 0)), (1, .int z34), (2, .int z35)] → va_P (dC, dI) vwCl (wMO_readPicture ad cI cZ v_MO_size v_MO_loaded z36 v_MO_fault v_MO_hasGiven v_MO_hasPicture z37 z38 z39 v_mload v_mgiven g40 g41 g42 g43 g44 g45 g46 g47 g48 g49) H → va_D A (wMO_readPicture ad cI cZ v_MO_size v_MO_loaded z36 v_MO_fault v_MO_hasGiven v_MO_hasPicture z37 z38 z39 v_mload v_mgiven g40 g41 g42 g43 g44 g45 g46 g47 g48 g49) → va_S A s.heap H locs → W p l e rmMO_readPicture s m args below meth c H locs 0 0 Q (F0 m 155 ls [.int z67, .int z66]) by
            replace hf := hh
            refine ip_icmp_le (tgt := 154) hx hb dMO_readPicture_141 rfl hf (fun hf => ?_) (fun hf => ?_)
            · refine lv_iconst (v := (0 : Int32)) hx hb dMO_readPicture_154 (by decide) ?_
              cases hf
              exact J155 ls H locs hl hP hD hS
            · refine lv_iload_n hx hb dMO_readPicture_144 rfl (lv_at hl 1 rfl) ?_
              refine lv_iload_n hx hb dMO_readPicture_145 rfl (lv_at hl 2 rfl) ?_
              refine lv_iconst (v := (2 : Int32)) hx hb dMO_readPicture_146 (by decide) ?_
              refine lv_isub hx hb dMO_readPicture_147 ?_
              refine lv_ishr hx hb dMO_readPicture_148 ?_
              refine lv_iconst (v := (1 : Int32)) hx hb dMO_readPicture_149 (by decide) ?_
              refine lv_iand hx hb dMO_readPicture_150 ?_
              refine lv_goto (tgt := 155) hx hb dMO_readPicture_151 rfl ?_
              cases hf
              exact J155 ls H locs hl hP hD hS
          intro ls H locs hl hP hD hS
          clear hh
          refine lv_iadd hx hb dMO_readPicture_155 ?_
          refine ip_top hf (fun z68 hf => ?_)
          refine lv_istore_n (lv' := [(3, .int z68), (0, .ref (ad 0)), (1, .int z34), (2, .int z35)]) hx hb dMO_readPicture_156 rfl hl (by decide) rfl (fun ls hl => ?_)
          refine lv_aload_n hx hb dMO_readPicture_157 rfl (lv_at hl 1 rfl) ?_
          refine lv_iload_n hx hb dMO_readPicture_158 rfl (lv_at hl 0 rfl) ?_
          obtain ⟨z69, z70, z71, z72, g73, g74, hc, hf⟩ := ip_b6_e hf
          refine ip_calli (va_runV (As := [.int z68]) (rest := []) ⟨hx, hb, hml, hown, hts⟩ (tMO_bin (l := l) (dC := dC) (dI := dI) (ad := ad) (cI := cI) (ts := ts) (cZ := cZ) hc H.size) (cwV 1 hts (ip_gdV (own := kR_MO) (idx := 154) (C := kR_MO) (y := yMO_bin) kw4_107 kw4_109 kws_46 kw1_13 kw4_110) rfl rfl rfl (by decide +kernel) ⟨Nat.le_of_ble_eq_true rfl, Nat.le_of_ble_eq_true rfl⟩) (ip_preV hK hP hD hS hA hZ [0, 1, 3, 4] rfl rfl (ci := 12) (q0 := 0) rfl rfl) rfl rfl hl.1 rfl (lv_room (Nat.le_of_ble_eq_true rfl)) dMO_readPicture_159 ⟨Nat.le_of_ble_eq_true rfl, Nat.le_of_ble_eq_true rfl⟩) hP hD hS hA [0, 1, 3, 4] [2, 5, 6, 7, 8, 9, 10, 11, 12] [9, 10, 0, 11, 12, 1, 2, 3, 4, 5, 6, 7, 8] (wMO_readPicture ad cI cZ v_MO_size v_MO_loaded z70 v_MO_fault v_MO_hasGiven v_MO_hasPicture z71 z72 z39 v_mload v_mgiven g73 g74 g42 g43 g44 g45 g46 g47 g48 g49) rfl rfl rfl (by decide) rfl rfl (fun H locs hP hD hS => ?_)
          clear hc
          refine lv_istore (lv' := [(4, .int z69), (3, .int z68), (0, .ref (ad 0)), (1, .int z34), (2, .int z35)]) hx hb dMO_readPicture_162 hl (by decide) rfl (fun ls hl => ?_)
          refine lv_iload_n hx hb dMO_readPicture_164 rfl (lv_at hl 3 rfl) ?_
          refine lv_iload hx hb dMO_readPicture_165 (lv_at hl 0 rfl) ?_
          refine lv_iload_n hx hb dMO_readPicture_167 rfl (lv_at hl 4 rfl) ?_
          refine lv_ishl hx hb dMO_readPicture_168 ?_
          refine lv_ior hx hb dMO_readPicture_169 ?_
          refine ip_top hf (fun z75 hf => ?_)
          refine lv_istore_n (lv' := [(1, .int z75), (4, .int z69), (3, .int z68), (0, .ref (ad 0)), (2, .int z35)]) hx hb dMO_readPicture_170 rfl hl (by decide) rfl (fun ls hl => ?_)
          refine lv_iconst (v := (0 : Int32)) hx hb dMO_readPicture_171 (by decide) ?_
          refine lv_istore (lv' := [(5, .int (0 : Int32)), (1, .int z75), (4, .int z69), (3, .int z68), (0, .ref (ad 0)), (2, .int z35)]) hx hb dMO_readPicture_172 hl (by decide) rfl (fun ls hl => ?_)
          replace hl := lv_sub hl (l' := [(0, .ref (ad 0)), (1, .int z75), (2, .int z35), (4, .int z69), (5, .int (0 : Int32))]) [4, 1, 5, 2, 0] rfl
          obtain ⟨x91, x92, x93, x94, x95, y96, y97, y98, y99, y100, y101, y102, y103, y104, y105, hL, hf⟩ := ip_b15_e hf
          suffices J233 : ∀ (ls : Array Slot) (H : Heap) (locs : List Loc), lv_has ls 6 [(0, .ref (ad 0)), (1, .int z75), (2, .int z35)] → va_P (dC, dI) vwCl (wMO_readPicture ad cI cZ v_MO_size v_MO_loaded x92 v_MO_fault v_MO_hasGiven v_MO_hasPicture x93 x94 x95 v_mload v_mgiven y96 y97 y98 y99 y100 y101 y102 y103 y104 y105) H → va_D A (wMO_readPicture ad cI cZ v_MO_size v_MO_loaded x92 v_MO_fault v_MO_hasGiven v_MO_hasPicture x93 x94 x95 v_mload v_mgiven y96 y97 y98 y99 y100 y101 y102 y103 y104 y105) → va_S A s.heap H locs → W p l e rmMO_readPicture s m args below meth c H locs 0 0 Q (F0 m 233 ls []) by
            have L : ∀ (n : Nat) (z76 : Int32) (z77 : Int32) (z78 : Int32) (z79 : Int32) (z80 : Int32) (g81 : Nat → Int32) (g82 : Nat → Int32) (g83 : Nat → Int32) (g84 : Nat → Int32) (g85 : Nat → Int32) (g86 : Nat → Int32) (g87 : Nat → Int32) (g88 : Nat → Int32) (g89 : Nat → Int32) (g90 : Nat → Int32), ip_lp15 (fMO_readPicture_B174 v_MO_size v_MO_loaded v_MO_fault v_MO_hasGiven v_MO_hasPicture v_mload v_mgiven z35 z69) n z76 z77 z78 z79 z80 g81 g82 g83 g84 g85 g86 g87 g88 g89 g90 = some (x91, x92, x93, x94, x95, y96, y97, y98, y99, y100, y101, y102, y103, y104, y105) → ∀ (ls : Array Slot) (H : Heap) (locs : List Loc), lv_has ls 6 [(0, .ref (ad 0)), (1, .int z75), (2, .int z35), (4, .int z69), (5, .int z76)] → va_P (dC, dI) vwCl (wMO_readPicture ad cI cZ v_MO_size v_MO_loaded z77 v_MO_fault v_MO_hasGiven v_MO_hasPicture z78 z79 z80 v_mload v_mgiven g81 g82 g83 g84 g85 g86 g87 g88 g89 g90) H → va_D A (wMO_readPicture ad cI cZ v_MO_size v_MO_loaded z77 v_MO_fault v_MO_hasGiven v_MO_hasPicture z78 z79 z80 v_mload v_mgiven g81 g82 g83 g84 g85 g86 g87 g88 g89 g90) → va_S A s.heap H locs → W p l e rmMO_readPicture s m args below meth c H locs 0 0 Q (F0 m 174 ls []) := by
              intro n
              induction n with
              | zero => intro z76 z77 z78 z79 z80 g81 g82 g83 g84 g85 g86 g87 g88 g89 g90 hL; exact (ip_lp15_0 hL).elim
              | succ n ih =>
                intro z76 z77 z78 z79 z80 g81 g82 g83 g84 g85 g86 g87 g88 g89 g90 hL ls H locs hl hP hD hS
                clear hf
                obtain ⟨r9, hf, hr174⟩ := ip_lp15_s hL
                clear hL
                unfold fMO_readPicture_B174 at hf
                refine lv_iload hx hb dMO_readPicture_174 (lv_at hl 4 rfl) ?_
                refine lv_iconst (v := (1 : Int32)) hx hb dMO_readPicture_176 (by decide) ?_
                refine lv_iconst (v := (3 : Int32)) hx hb dMO_readPicture_177 (by decide) ?_
                refine lv_iload hx hb dMO_readPicture_178 (lv_at hl 3 rfl) ?_
                refine lv_imul hx hb dMO_readPicture_180 ?_
                refine lv_iadd hx hb dMO_readPicture_181 ?_
                refine ip_icmp_ge (tgt := 233) hx hb dMO_readPicture_182 rfl hf (fun hf => ?_) (fun hf => ?_)
                · have hx9 := ip_lp_x hr174 hf
                  replace hl := lv_sub hl (l' := [(0, .ref (ad 0)), (1, .int z75), (2, .int z35)]) [0, 1, 2] rfl
                  cases hx9
                  exact J233 ls H locs hl hP hD hS
                · refine lv_aload_n hx hb dMO_readPicture_185 rfl (lv_at hl 0 rfl) ?_
                  refine lv_iload_n hx hb dMO_readPicture_186 rfl (lv_at hl 2 rfl) ?_
                  refine lv_iconst (v := (2 : Int32)) hx hb dMO_readPicture_187 (by decide) ?_
                  refine lv_irem hx hb dMO_readPicture_188 (by decide) ?_
                  refine lv_bipush (v := (8 : Int32)) hx hb dMO_readPicture_189 (by decide) ?_
                  refine lv_imul hx hb dMO_readPicture_191 ?_
                  refine lv_iload hx hb dMO_readPicture_192 (lv_at hl 4 rfl) ?_
                  refine lv_iconst (v := (2 : Int32)) hx hb dMO_readPicture_194 (by decide) ?_
                  refine lv_irem hx hb dMO_readPicture_195 (by decide) ?_
                  refine lv_iconst (v := (4 : Int32)) hx hb dMO_readPicture_196 (by decide) ?_
                  refine lv_imul hx hb dMO_readPicture_197 ?_
                  refine lv_iadd hx hb dMO_readPicture_198 ?_
                  refine lv_iload_n hx hb dMO_readPicture_199 rfl (lv_at hl 2 rfl) ?_
                  refine lv_iconst (v := (2 : Int32)) hx hb dMO_readPicture_200 (by decide) ?_
                  refine lv_idiv hx hb dMO_readPicture_201 (by decide) ?_
                  refine lv_bipush (v := (8 : Int32)) hx hb dMO_readPicture_202 (by decide) ?_
                  refine lv_imul hx hb dMO_readPicture_204 ?_
                  refine lv_iload hx hb dMO_readPicture_205 (lv_at hl 4 rfl) ?_
                  refine lv_iconst (v := (2 : Int32)) hx hb dMO_readPicture_207 (by decide) ?_
                  refine lv_idiv hx hb dMO_readPicture_208 (by decide) ?_
                  refine lv_iconst (v := (4 : Int32)) hx hb dMO_readPicture_209 (by decide) ?_
                  refine lv_imul hx hb dMO_readPicture_210 ?_
                  refine lv_iadd hx hb dMO_readPicture_211 ?_
                  refine lv_iload hx hb dMO_readPicture_212 (lv_at hl 3 rfl) ?_
                  refine lv_iconst (v := (1 : Int32)) hx hb dMO_readPicture_214 (by decide) ?_
                  obtain ⟨z106, hh, hf⟩ := ip_b1_e hf
                  suffices J224 : ∀ (ls : Array Slot) (H : Heap) (locs : List Loc), lv_has ls 6 [(0, .ref (ad 0)), (1, .int z75), (2, .int z35), (4, .int z69), (5, .int z76)] → va_P (dC, dI) vwCl (wMO_readPicture ad cI cZ v_MO_size v_MO_loaded z77 v_MO_fault v_MO_hasGiven v_MO_hasPicture z78 z79 z80 v_mload v_mgiven g81 g82 g83 g84 g85 g86 g87 g88 g89 g90) H → va_D A (wMO_readPicture ad cI cZ v_MO_size v_MO_loaded z77 v_MO_fault v_MO_hasGiven v_MO_hasPicture z78 z79 z80 v_mload v_mgiven g81 g82 g83 g84 g85 g86 g87 g88 g89 g90) → va_S A s.heap H locs → W p l e rmMO_readPicture s m args below meth c H locs 0 0 Q (F0 m 224 ls [.int z106, .int (((z35 / (2 : Int32)) * (8 : Int32)) + ((z76 / (2 : Int32)) * (4 : Int32))), .int (((z35 - z35 / (2 : Int32) * (2 : Int32)) * (8 : Int32)) + ((z76 - z76 / (2 : Int32) * (2 : Int32)) * (4 : Int32))), .ref (ad 0)]) by
                    replace hf := hh
                    refine ip_icmp_ne (tgt := 222) hx hb dMO_readPicture_215 rfl hf (fun hf => ?_) (fun hf => ?_)
                    · refine lv_bipush (v := (8 : Int32)) hx hb dMO_readPicture_222 (by decide) ?_
                      cases hf
                      exact J224 ls H locs hl hP hD hS
                    · refine lv_iconst (v := (4 : Int32)) hx hb dMO_readPicture_218 (by decide) ?_
                      refine lv_goto (tgt := 224) hx hb dMO_readPicture_219 rfl ?_
                      cases hf
                      exact J224 ls H locs hl hP hD hS
                  intro ls H locs hl hP hD hS
                  clear hh
                  obtain ⟨z107, z108, z109, z110, g111, g112, g113, g114, g115, g116, g117, g118, g119, g120, hc, hf⟩ := ip_b14_e hf
                  refine ip_callv (va_runV (As := [.int (((z35 - z35 / (2 : Int32) * (2 : Int32)) * (8 : Int32)) + ((z76 - z76 / (2 : Int32) * (2 : Int32)) * (4 : Int32))), .int (((z35 / (2 : Int32)) * (8 : Int32)) + ((z76 / (2 : Int32)) * (4 : Int32))), .int z106]) (rest := []) ⟨hx, hb, hml, hown, hts⟩ (tMO_readLeaf (l := l) (dC := dC) (dI := dI) (ad := ad) (cI := cI) (ts := ts) (cZ := cZ) hc H.size) (cwV 3 hts (ip_gdV (own := kR_MO) (idx := 157) (C := kR_MO) (y := yMO_readLeaf) kw4_111 kw4_113 kws_47 kw1_13 kw4_114) rfl rfl rfl (by decide +kernel) ⟨Nat.le_of_ble_eq_true rfl, Nat.le_of_ble_eq_true rfl⟩) (ip_preV hK hP hD hS hA hZ [0, 1, 2, 3, 4, 5, 6, 7, 8, 9, 10, 11, 12] rfl rfl (ci := 12) (q0 := 0) rfl rfl) rfl rfl hl.1 rfl (lv_room (Nat.le_of_ble_eq_true rfl)) dMO_readPicture_224 ⟨Nat.le_of_ble_eq_true rfl, Nat.le_of_ble_eq_true rfl⟩) hP hD hS hA [0, 1, 2, 3, 4, 5, 6, 7, 8, 9, 10, 11, 12] [] [0, 1, 2, 3, 4, 5, 6, 7, 8, 9, 10, 11, 12] (wMO_readPicture ad cI cZ v_MO_size v_MO_loaded z107 v_MO_fault v_MO_hasGiven v_MO_hasPicture z108 z109 z110 v_mload v_mgiven g111 g112 g113 g114 g115 g116 g117 g118 g119 g120) rfl rfl rfl (by decide) rfl rfl (fun H locs hP hD hS => ?_)
                  clear hc
                  refine ip_iinc (k0 := 4) (v0 := (1 : Int32)) (lv1 := fun z121 => [(5, .int z121), (0, .ref (ad 0)), (1, .int z75), (2, .int z35), (4, .int z69)]) hx hb dMO_readPicture_227 hl rfl (by decide) (by decide) (fun _ => rfl) hf (fun z121 ls hf hl => ?_)
                  refine lv_goto (tgt := 174) hx hb dMO_readPicture_230 rfl ?_
                  replace hl := lv_sub hl (l' := [(0, .ref (ad 0)), (1, .int z75), (2, .int z35), (4, .int z69), (5, .int z121)]) [1, 2, 3, 4, 0] rfl
                  exact ih _ _ _ _ _ _ _ _ _ _ _ _ _ _ _ (ip_lp15_l hr174 hf) ls H locs hl hP hD hS
            exact L 1000 _ _ _ _ _ _ _ _ _ _ _ _ _ _ _ hL ls H locs hl hP hD hS
          intro ls H locs hl hP hD hS
          clear hL
          refine ip_iinc (k0 := 2) (v0 := (1 : Int32)) (lv1 := fun z122 => [(2, .int z122), (0, .ref (ad 0)), (1, .int z75)]) hx hb dMO_readPicture_233 hl rfl (by decide) (by decide) (fun _ => rfl) hf (fun z122 ls hf hl => ?_)
          refine lv_goto (tgt := 116) hx hb dMO_readPicture_236 rfl ?_
          replace hl := lv_sub hl (l' := [(0, .ref (ad 0)), (1, .int z75), (2, .int z122)]) [1, 2, 0] rfl
          exact ih _ _ _ _ _ _ _ _ _ _ _ _ _ _ _ _ (ip_lp16_l hr116 hf) ls H locs hl hP hD hS
    exact L 1000 _ _ _ _ _ _ _ _ _ _ _ _ _ _ _ _ hL ls H locs hl hP hD hS
  intro ls H locs hl hP hD hS
  clear hL
  cases hf
  exact hret H locs 239 ls dMO_readPicture_239 hP hD hS
