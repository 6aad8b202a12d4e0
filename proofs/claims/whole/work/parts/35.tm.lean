set_option maxHeartbeats 4000000 in
set_option maxRecDepth 100000 in
theorem tMO_predict {l : Launch} {dC : Nat → ClassId} {dI : Nat → Nat → Nat} {cI cZ : ClassId} {ad : Nat → Nat} {ts : ip_TT} {v_MO_size : Int32} {v_MO_loaded : Int32} {v_MO_at : Int32} {v_MO_fault : Int32} {v_MO_hasGiven : Int32} {v_MO_hasPicture : Int32} {v_MO_range : Int32} {v_MO_value : Int32} {v_MO_leaves : Int32} {v_msides : Nat → Int32} {v_mmodes : Nat → Int32} {v_mrow : Nat → Int32} {p1 : Int32} {p2 : Int32} {p3 : Int32} {r0 : Int32}  (hf : fMO_predict v_MO_size v_MO_loaded v_MO_at v_MO_fault v_MO_hasGiven v_MO_hasPicture v_MO_range v_MO_value v_MO_leaves v_msides v_mmodes v_mrow p1 p2 p3 = some r0) : ip_Mi l yMO_predict wsMO_predict rmMO_predict (dC, dI) vwCl [(cI, .int), (cZ, .boolean)] ts [.ref (ad 0), .int p1, .int p2, .int p3] (wMO_predict ad cI cZ v_MO_size v_MO_loaded v_MO_at v_MO_fault v_MO_hasGiven v_MO_hasPicture v_MO_range v_MO_value v_MO_leaves v_msides v_mmodes v_mrow) (wMO_predict ad cI cZ v_MO_size v_MO_loaded v_MO_at v_MO_fault v_MO_hasGiven v_MO_hasPicture v_MO_range v_MO_value v_MO_leaves v_msides v_mmodes v_mrow) r0 := by
  refine ip_startI (cc := cMO_predict) (maxL := 7) (by decide) rfl (Nat.le_of_ble_eq_true rfl) ?_
  intro p e s m args below meth c Q A ls hx hb hml hts hown hK hP hD hS hA hZ hl hret
  replace hl : lv_has ls 7 [(0, .ref (ad 0)), (1, .int p1), (2, .int p2), (3, .int p3)] := hl
  unfold fMO_predict at hf
  suffices J0 : ∀ (ls : Array Slot) (H : Heap) (locs : List Loc), lv_has ls 7 [(0, .ref (ad 0)), (1, .int p1), (2, .int p2), (3, .int p3)] → va_P (dC, dI) vwCl (wMO_predict ad cI cZ v_MO_size v_MO_loaded v_MO_at v_MO_fault v_MO_hasGiven v_MO_hasPicture v_MO_range v_MO_value v_MO_leaves v_msides v_mmodes v_mrow) H → va_D A (wMO_predict ad cI cZ v_MO_size v_MO_loaded v_MO_at v_MO_fault v_MO_hasGiven v_MO_hasPicture v_MO_range v_MO_value v_MO_leaves v_msides v_mmodes v_mrow) → va_S A s.heap H locs → W p l e rmMO_predict s m args below meth c H locs 0 0 Q (F0 m 0 ls []) by exact J0 ls s.heap [] hl hP hD hS
  clear hP hD hS hl
  intro ls H locs hl hP hD hS
  refine lv_aload_n hx hb dMO_predict_0 rfl (lv_at hl 0 rfl) ?_
  refine va_get (D := (dC, dI)) (ci := 12) (v := .ref (ad 9)) (C := kR_MO) (T := kT_MO) (N := 32) hx hb hts kin_MO hown hK hP 0 rfl rfl 17 (by decide) (hts _ (List.mem_cons_of_mem _ kw3_204)) (fun _ h9 => h9) rfl dMO_predict_1 ?_
  refine lv_iload_n hx hb dMO_predict_4 rfl (lv_at hl 1 rfl) ?_
  refine ip_iald hx hb hK hP 1 0 rfl rfl dMO_predict_5 hf (fun z1 hf => ?_)
  refine lv_istore (lv' := [(4, .int z1), (0, .ref (ad 0)), (1, .int p1), (2, .int p2), (3, .int p3)]) hx hb dMO_predict_6 hl (by decide) rfl (fun ls hl => ?_)
  refine lv_bipush (v := (13 : Int32)) hx hb dMO_predict_8 (by decide) ?_
  refine lv_iload_n hx hb dMO_predict_10 rfl (lv_at hl 4 rfl) ?_
  refine lv_iconst (v := (1 : Int32)) hx hb dMO_predict_11 (by decide) ?_
  refine lv_iadd hx hb dMO_predict_12 ?_
  refine lv_imul hx hb dMO_predict_13 ?_
  refine ip_top hf (fun z2 hf => ?_)
  refine lv_istore (lv' := [(5, .int z2), (4, .int z1), (0, .ref (ad 0)), (1, .int p1), (2, .int p2), (3, .int p3)]) hx hb dMO_predict_14 hl (by decide) rfl (fun ls hl => ?_)
  refine lv_bipush (v := (26 : Int32)) hx hb dMO_predict_16 (by decide) ?_
  refine lv_iload_n hx hb dMO_predict_18 rfl (lv_at hl 4 rfl) ?_
  refine lv_iconst (v := (1 : Int32)) hx hb dMO_predict_19 (by decide) ?_
  refine lv_iadd hx hb dMO_predict_20 ?_
  refine lv_imul hx hb dMO_predict_21 ?_
  refine ip_top hf (fun z3 hf => ?_)
  refine lv_istore (lv' := [(6, .int z3), (5, .int z2), (4, .int z1), (0, .ref (ad 0)), (1, .int p1), (2, .int p2), (3, .int p3)]) hx hb dMO_predict_22 hl (by decide) rfl (fun ls hl => ?_)
  refine lv_aload_n hx hb dMO_predict_24 rfl (lv_at hl 3 rfl) ?_
  refine va_get (D := (dC, dI)) (ci := 12) (v := .ref (ad 10)) (C := kR_MO) (T := kT_MO) (N := 32) hx hb hts kin_MO hown hK hP 0 rfl rfl 18 (by decide) (hts _ (List.mem_cons_of_mem _ kw3_205)) (fun _ h9 => h9) rfl dMO_predict_25 ?_
  refine lv_iload_n hx hb dMO_predict_28 rfl (lv_at hl 4 rfl) ?_
  refine ip_iald hx hb hK hP 2 0 rfl rfl dMO_predict_29 hf (fun z4 hf => ?_)
  by_cases hn0 : z4 = (0 : Int32)
  · rw [if_pos hn0] at hf
    refine ip_tsIn (tgt := 72) hx hb dMO_predict_30 hn0 (by decide) (by decide) rfl rfl ?_
    refine lv_iload hx hb dMO_predict_72 (lv_at hl 2 rfl) ?_
    refine lv_iconst (v := (1 : Int32)) hx hb dMO_predict_74 (by decide) ?_
    refine lv_isub hx hb dMO_predict_75 ?_
    refine lv_iload_n hx hb dMO_predict_76 rfl (lv_at hl 5 rfl) ?_
    refine lv_isub hx hb dMO_predict_77 ?_
    refine lv_aload_n hx hb dMO_predict_78 rfl (lv_at hl 3 rfl) ?_
    refine lv_iload_n hx hb dMO_predict_79 rfl (lv_at hl 4 rfl) ?_
    refine lv_iload_n hx hb dMO_predict_80 rfl (lv_at hl 6 rfl) ?_
    obtain ⟨z5, hc, hf⟩ := ip_b1_e hf
    refine ip_calli (va_runV (As := [.int p1, .int p3]) (rest := [.int ((z1 - (1 : Int32)) - p2)]) ⟨hx, hb, hml, hown, hts⟩ (tMO_toLeft (l := l) (dC := dC) (dI := dI) (ad := ad) (cI := cI) (ts := ts) (cZ := cZ) hc H.size) (cwV 2 hts (ip_gdV (own := kR_MO) (idx := 190) (C := kR_MO) (y := yMO_toLeft) kw4_150 kw4_152 kws_56 kw1_13 kw4_153) rfl rfl rfl (by decide +kernel) ⟨Nat.le_of_ble_eq_true rfl, Nat.le_of_ble_eq_true rfl⟩) (ip_preV hK hP hD hS hA hZ [0, 1, 3] rfl rfl (ci := 12) (q0 := 0) rfl rfl) rfl rfl hl.1 rfl (lv_room (Nat.le_of_ble_eq_true rfl)) dMO_predict_81 ⟨Nat.le_of_ble_eq_true rfl, Nat.le_of_ble_eq_true rfl⟩) hP hD hS hA [0, 1, 3] [2] [1, 2, 0, 3] (wMO_predict ad cI cZ v_MO_size v_MO_loaded v_MO_at v_MO_fault v_MO_hasGiven v_MO_hasPicture v_MO_range v_MO_value v_MO_leaves v_msides v_mmodes v_mrow) rfl rfl rfl (by decide) rfl rfl (fun H locs hP hD hS => ?_)
    clear hc
    refine lv_imul hx hb dMO_predict_84 ?_
    refine lv_iload_n hx hb dMO_predict_85 rfl (lv_at hl 5 rfl) ?_
    refine lv_iconst (v := (1 : Int32)) hx hb dMO_predict_86 (by decide) ?_
    refine lv_iadd hx hb dMO_predict_87 ?_
    refine lv_aload_n hx hb dMO_predict_88 rfl (lv_at hl 3 rfl) ?_
    refine lv_iload_n hx hb dMO_predict_89 rfl (lv_at hl 4 rfl) ?_
    refine lv_iload hx hb dMO_predict_90 (lv_at hl 2 rfl) ?_
    obtain ⟨z6, hc, hf⟩ := ip_b1_e hf
    refine ip_calli (va_runV (As := [.int p1, .int z1]) (rest := [.int (p2 + (1 : Int32)), .int (((z1 - (1 : Int32)) - p2) * z5)]) ⟨hx, hb, hml, hown, hts⟩ (tMO_above (l := l) (dC := dC) (dI := dI) (ad := ad) (cI := cI) (ts := ts) (cZ := cZ) hc H.size) (cwV 2 hts (ip_gdV (own := kR_MO) (idx := 193) (C := kR_MO) (y := yMO_above) kw4_154 kw4_156 kws_57 kw1_13 kw4_157) rfl rfl rfl (by decide +kernel) ⟨Nat.le_of_ble_eq_true rfl, Nat.le_of_ble_eq_true rfl⟩) (ip_preV hK hP hD hS hA hZ [0, 1, 3] rfl rfl (ci := 12) (q0 := 0) rfl rfl) rfl rfl hl.1 rfl (lv_room (Nat.le_of_ble_eq_true rfl)) dMO_predict_92 ⟨Nat.le_of_ble_eq_true rfl, Nat.le_of_ble_eq_true rfl⟩) hP hD hS hA [0, 1, 3] [2] [1, 2, 0, 3] (wMO_predict ad cI cZ v_MO_size v_MO_loaded v_MO_at v_MO_fault v_MO_hasGiven v_MO_hasPicture v_MO_range v_MO_value v_MO_leaves v_msides v_mmodes v_mrow) rfl rfl rfl (by decide) rfl rfl (fun H locs hP hD hS => ?_)
    clear hc
    refine lv_imul hx hb dMO_predict_95 ?_
    refine lv_iadd hx hb dMO_predict_96 ?_
    refine lv_iload hx hb dMO_predict_97 (lv_at hl 2 rfl) ?_
    refine lv_iconst (v := (1 : Int32)) hx hb dMO_predict_99 (by decide) ?_
    refine lv_isub hx hb dMO_predict_100 ?_
    refine lv_iload_n hx hb dMO_predict_101 rfl (lv_at hl 6 rfl) ?_
    refine lv_isub hx hb dMO_predict_102 ?_
    refine lv_aload_n hx hb dMO_predict_103 rfl (lv_at hl 3 rfl) ?_
    refine lv_iload_n hx hb dMO_predict_104 rfl (lv_at hl 4 rfl) ?_
    refine lv_iload_n hx hb dMO_predict_105 rfl (lv_at hl 5 rfl) ?_
    obtain ⟨z7, hc, hf⟩ := ip_b1_e hf
    refine ip_calli (va_runV (As := [.int p1, .int p2]) (rest := [.int ((z1 - (1 : Int32)) - p3), .int ((((z1 - (1 : Int32)) - p2) * z5) + ((p2 + (1 : Int32)) * z6))]) ⟨hx, hb, hml, hown, hts⟩ (tMO_above (l := l) (dC := dC) (dI := dI) (ad := ad) (cI := cI) (ts := ts) (cZ := cZ) hc H.size) (cwV 2 hts (ip_gdV (own := kR_MO) (idx := 193) (C := kR_MO) (y := yMO_above) kw4_154 kw4_156 kws_57 kw1_13 kw4_157) rfl rfl rfl (by decide +kernel) ⟨Nat.le_of_ble_eq_true rfl, Nat.le_of_ble_eq_true rfl⟩) (ip_preV hK hP hD hS hA hZ [0, 1, 3] rfl rfl (ci := 12) (q0 := 0) rfl rfl) rfl rfl hl.1 rfl (lv_room (Nat.le_of_ble_eq_true rfl)) dMO_predict_106 ⟨Nat.le_of_ble_eq_true rfl, Nat.le_of_ble_eq_true rfl⟩) hP hD hS hA [0, 1, 3] [2] [1, 2, 0, 3] (wMO_predict ad cI cZ v_MO_size v_MO_loaded v_MO_at v_MO_fault v_MO_hasGiven v_MO_hasPicture v_MO_range v_MO_value v_MO_leaves v_msides v_mmodes v_mrow) rfl rfl rfl (by decide) rfl rfl (fun H locs hP hD hS => ?_)
    clear hc
    refine lv_imul hx hb dMO_predict_109 ?_
    refine lv_iadd hx hb dMO_predict_110 ?_
    refine lv_iload_n hx hb dMO_predict_111 rfl (lv_at hl 6 rfl) ?_
    refine lv_iconst (v := (1 : Int32)) hx hb dMO_predict_112 (by decide) ?_
    refine lv_iadd hx hb dMO_predict_113 ?_
    refine lv_aload_n hx hb dMO_predict_114 rfl (lv_at hl 3 rfl) ?_
    refine lv_iload_n hx hb dMO_predict_115 rfl (lv_at hl 4 rfl) ?_
    refine lv_iload hx hb dMO_predict_116 (lv_at hl 2 rfl) ?_
    obtain ⟨z8, hc, hf⟩ := ip_b1_e hf
    refine ip_calli (va_runV (As := [.int p1, .int z1]) (rest := [.int (p3 + (1 : Int32)), .int (((((z1 - (1 : Int32)) - p2) * z5) + ((p2 + (1 : Int32)) * z6)) + (((z1 - (1 : Int32)) - p3) * z7))]) ⟨hx, hb, hml, hown, hts⟩ (tMO_toLeft (l := l) (dC := dC) (dI := dI) (ad := ad) (cI := cI) (ts := ts) (cZ := cZ) hc H.size) (cwV 2 hts (ip_gdV (own := kR_MO) (idx := 190) (C := kR_MO) (y := yMO_toLeft) kw4_150 kw4_152 kws_56 kw1_13 kw4_153) rfl rfl rfl (by decide +kernel) ⟨Nat.le_of_ble_eq_true rfl, Nat.le_of_ble_eq_true rfl⟩) (ip_preV hK hP hD hS hA hZ [0, 1, 3] rfl rfl (ci := 12) (q0 := 0) rfl rfl) rfl rfl hl.1 rfl (lv_room (Nat.le_of_ble_eq_true rfl)) dMO_predict_118 ⟨Nat.le_of_ble_eq_true rfl, Nat.le_of_ble_eq_true rfl⟩) hP hD hS hA [0, 1, 3] [2] [1, 2, 0, 3] (wMO_predict ad cI cZ v_MO_size v_MO_loaded v_MO_at v_MO_fault v_MO_hasGiven v_MO_hasPicture v_MO_range v_MO_value v_MO_leaves v_msides v_mmodes v_mrow) rfl rfl rfl (by decide) rfl rfl (fun H locs hP hD hS => ?_)
    clear hc
    refine lv_imul hx hb dMO_predict_121 ?_
    refine lv_iadd hx hb dMO_predict_122 ?_
    refine lv_iload hx hb dMO_predict_123 (lv_at hl 2 rfl) ?_
    refine lv_iadd hx hb dMO_predict_125 ?_
    refine lv_iconst (v := (2 : Int32)) hx hb dMO_predict_126 (by decide) ?_
    refine lv_iload hx hb dMO_predict_127 (lv_at hl 2 rfl) ?_
    refine lv_imul hx hb dMO_predict_129 ?_
    refine ip_idiv hx hb dMO_predict_130 hf (fun z9 hf => ?_)
    cases hf
    exact hret H locs 131 ls _ dMO_predict_131 rfl hP hD hS
  · rw [if_neg hn0] at hf
    by_cases hn1 : z4 = (1 : Int32)
    · rw [if_pos hn1] at hf
      refine ip_tsIn (tgt := 132) hx hb dMO_predict_30 hn1 (by decide) (by decide) rfl rfl ?_
      refine lv_aload_n hx hb dMO_predict_132 rfl (lv_at hl 3 rfl) ?_
      refine lv_iload_n hx hb dMO_predict_133 rfl (lv_at hl 4 rfl) ?_
      obtain ⟨z10, hc, hf⟩ := ip_b1_e hf
      refine ip_calli (va_runV (As := [.int p1]) (rest := []) ⟨hx, hb, hml, hown, hts⟩ (tMO_mean (l := l) (dC := dC) (dI := dI) (ad := ad) (cI := cI) (ts := ts) (cZ := cZ) hc H.size) (cwV 1 hts (ip_gdV (own := kR_MO) (idx := 196) (C := kR_MO) (y := yMO_mean) kw4_158 kw4_160 kws_58 kw1_13 kw4_161) rfl rfl rfl (by decide +kernel) ⟨Nat.le_of_ble_eq_true rfl, Nat.le_of_ble_eq_true rfl⟩) (ip_preV hK hP hD hS hA hZ [0, 1, 3] rfl rfl (ci := 12) (q0 := 0) rfl rfl) rfl rfl hl.1 rfl (lv_room (Nat.le_of_ble_eq_true rfl)) dMO_predict_134 ⟨Nat.le_of_ble_eq_true rfl, Nat.le_of_ble_eq_true rfl⟩) hP hD hS hA [0, 1, 3] [2] [1, 2, 0, 3] (wMO_predict ad cI cZ v_MO_size v_MO_loaded v_MO_at v_MO_fault v_MO_hasGiven v_MO_hasPicture v_MO_range v_MO_value v_MO_leaves v_msides v_mmodes v_mrow) rfl rfl rfl (by decide) rfl rfl (fun H locs hP hD hS => ?_)
      clear hc
      cases hf
      exact hret H locs 137 ls _ dMO_predict_137 rfl hP hD hS
    · rw [if_neg hn1] at hf
      by_cases hn2 : z4 = (2 : Int32)
      · rw [if_pos hn2] at hf
        refine ip_tsIn (tgt := 138) hx hb dMO_predict_30 hn2 (by decide) (by decide) rfl rfl ?_
        refine lv_aload_n hx hb dMO_predict_138 rfl (lv_at hl 3 rfl) ?_
        refine lv_iload_n hx hb dMO_predict_139 rfl (lv_at hl 4 rfl) ?_
        refine lv_iload_n hx hb dMO_predict_140 rfl (lv_at hl 6 rfl) ?_
        obtain ⟨z11, hc, hf⟩ := ip_b1_e hf
        refine ip_calli (va_runV (As := [.int p1, .int p3]) (rest := []) ⟨hx, hb, hml, hown, hts⟩ (tMO_toLeft (l := l) (dC := dC) (dI := dI) (ad := ad) (cI := cI) (ts := ts) (cZ := cZ) hc H.size) (cwV 2 hts (ip_gdV (own := kR_MO) (idx := 190) (C := kR_MO) (y := yMO_toLeft) kw4_150 kw4_152 kws_56 kw1_13 kw4_153) rfl rfl rfl (by decide +kernel) ⟨Nat.le_of_ble_eq_true rfl, Nat.le_of_ble_eq_true rfl⟩) (ip_preV hK hP hD hS hA hZ [0, 1, 3] rfl rfl (ci := 12) (q0 := 0) rfl rfl) rfl rfl hl.1 rfl (lv_room (Nat.le_of_ble_eq_true rfl)) dMO_predict_141 ⟨Nat.le_of_ble_eq_true rfl, Nat.le_of_ble_eq_true rfl⟩) hP hD hS hA [0, 1, 3] [2] [1, 2, 0, 3] (wMO_predict ad cI cZ v_MO_size v_MO_loaded v_MO_at v_MO_fault v_MO_hasGiven v_MO_hasPicture v_MO_range v_MO_value v_MO_leaves v_msides v_mmodes v_mrow) rfl rfl rfl (by decide) rfl rfl (fun H locs hP hD hS => ?_)
        clear hc
        cases hf
        exact hret H locs 144 ls _ dMO_predict_144 rfl hP hD hS
      · rw [if_neg hn2] at hf
        by_cases hn3 : z4 = (3 : Int32)
        · rw [if_pos hn3] at hf
          refine ip_tsIn (tgt := 145) hx hb dMO_predict_30 hn3 (by decide) (by decide) rfl rfl ?_
          refine lv_aload_n hx hb dMO_predict_145 rfl (lv_at hl 3 rfl) ?_
          refine lv_iload_n hx hb dMO_predict_146 rfl (lv_at hl 4 rfl) ?_
          refine lv_iload_n hx hb dMO_predict_147 rfl (lv_at hl 5 rfl) ?_
          obtain ⟨z12, hc, hf⟩ := ip_b1_e hf
          refine ip_calli (va_runV (As := [.int p1, .int p2]) (rest := []) ⟨hx, hb, hml, hown, hts⟩ (tMO_above (l := l) (dC := dC) (dI := dI) (ad := ad) (cI := cI) (ts := ts) (cZ := cZ) hc H.size) (cwV 2 hts (ip_gdV (own := kR_MO) (idx := 193) (C := kR_MO) (y := yMO_above) kw4_154 kw4_156 kws_57 kw1_13 kw4_157) rfl rfl rfl (by decide +kernel) ⟨Nat.le_of_ble_eq_true rfl, Nat.le_of_ble_eq_true rfl⟩) (ip_preV hK hP hD hS hA hZ [0, 1, 3] rfl rfl (ci := 12) (q0 := 0) rfl rfl) rfl rfl hl.1 rfl (lv_room (Nat.le_of_ble_eq_true rfl)) dMO_predict_148 ⟨Nat.le_of_ble_eq_true rfl, Nat.le_of_ble_eq_true rfl⟩) hP hD hS hA [0, 1, 3] [2] [1, 2, 0, 3] (wMO_predict ad cI cZ v_MO_size v_MO_loaded v_MO_at v_MO_fault v_MO_hasGiven v_MO_hasPicture v_MO_range v_MO_value v_MO_leaves v_msides v_mmodes v_mrow) rfl rfl rfl (by decide) rfl rfl (fun H locs hP hD hS => ?_)
          clear hc
          cases hf
          exact hret H locs 151 ls _ dMO_predict_151 rfl hP hD hS
        · rw [if_neg hn3] at hf
          by_cases hn4 : z4 = (4 : Int32)
          · rw [if_pos hn4] at hf
            refine ip_tsIn (tgt := 152) hx hb dMO_predict_30 hn4 (by decide) (by decide) rfl rfl ?_
            refine lv_bipush (v := (32 : Int32)) hx hb dMO_predict_152 (by decide) ?_
            refine lv_iload hx hb dMO_predict_154 (lv_at hl 1 rfl) ?_
            refine lv_bipush (v := (32 : Int32)) hx hb dMO_predict_156 (by decide) ?_
            refine lv_irem hx hb dMO_predict_158 (by decide) ?_
            refine lv_isub hx hb dMO_predict_159 ?_
            refine lv_aload_n hx hb dMO_predict_160 rfl (lv_at hl 3 rfl) ?_
            refine lv_iload_n hx hb dMO_predict_161 rfl (lv_at hl 4 rfl) ?_
            refine lv_iload_n hx hb dMO_predict_162 rfl (lv_at hl 5 rfl) ?_
            refine lv_iload hx hb dMO_predict_163 (lv_at hl 1 rfl) ?_
            refine lv_bipush (v := (32 : Int32)) hx hb dMO_predict_165 (by decide) ?_
            refine lv_idiv hx hb dMO_predict_167 (by decide) ?_
            refine lv_iadd hx hb dMO_predict_168 ?_
            obtain ⟨z13, hc, hf⟩ := ip_b1_e hf
            refine ip_calli (va_runV (As := [.int p1, .int (p2 + (z2 / (32 : Int32)))]) (rest := [.int ((32 : Int32) - (z2 - z2 / (32 : Int32) * (32 : Int32)))]) ⟨hx, hb, hml, hown, hts⟩ (tMO_above (l := l) (dC := dC) (dI := dI) (ad := ad) (cI := cI) (ts := ts) (cZ := cZ) hc H.size) (cwV 2 hts (ip_gdV (own := kR_MO) (idx := 193) (C := kR_MO) (y := yMO_above) kw4_154 kw4_156 kws_57 kw1_13 kw4_157) rfl rfl rfl (by decide +kernel) ⟨Nat.le_of_ble_eq_true rfl, Nat.le_of_ble_eq_true rfl⟩) (ip_preV hK hP hD hS hA hZ [0, 1, 3] rfl rfl (ci := 12) (q0 := 0) rfl rfl) rfl rfl hl.1 rfl (lv_room (Nat.le_of_ble_eq_true rfl)) dMO_predict_169 ⟨Nat.le_of_ble_eq_true rfl, Nat.le_of_ble_eq_true rfl⟩) hP hD hS hA [0, 1, 3] [2] [1, 2, 0, 3] (wMO_predict ad cI cZ v_MO_size v_MO_loaded v_MO_at v_MO_fault v_MO_hasGiven v_MO_hasPicture v_MO_range v_MO_value v_MO_leaves v_msides v_mmodes v_mrow) rfl rfl rfl (by decide) rfl rfl (fun H locs hP hD hS => ?_)
            clear hc
            refine lv_imul hx hb dMO_predict_172 ?_
            refine lv_iload hx hb dMO_predict_173 (lv_at hl 1 rfl) ?_
            refine lv_bipush (v := (32 : Int32)) hx hb dMO_predict_175 (by decide) ?_
            refine lv_irem hx hb dMO_predict_177 (by decide) ?_
            refine lv_aload_n hx hb dMO_predict_178 rfl (lv_at hl 3 rfl) ?_
            refine lv_iload_n hx hb dMO_predict_179 rfl (lv_at hl 4 rfl) ?_
            refine lv_iload_n hx hb dMO_predict_180 rfl (lv_at hl 5 rfl) ?_
            refine lv_iload hx hb dMO_predict_181 (lv_at hl 1 rfl) ?_
            refine lv_bipush (v := (32 : Int32)) hx hb dMO_predict_183 (by decide) ?_
            refine lv_idiv hx hb dMO_predict_185 (by decide) ?_
            refine lv_iadd hx hb dMO_predict_186 ?_
            refine lv_iconst (v := (1 : Int32)) hx hb dMO_predict_187 (by decide) ?_
            refine lv_iadd hx hb dMO_predict_188 ?_
            obtain ⟨z14, hc, hf⟩ := ip_b1_e hf
            refine ip_calli (va_runV (As := [.int p1, .int ((p2 + (z2 / (32 : Int32))) + (1 : Int32))]) (rest := [.int (z2 - z2 / (32 : Int32) * (32 : Int32)), .int (((32 : Int32) - (z2 - z2 / (32 : Int32) * (32 : Int32))) * z13)]) ⟨hx, hb, hml, hown, hts⟩ (tMO_above (l := l) (dC := dC) (dI := dI) (ad := ad) (cI := cI) (ts := ts) (cZ := cZ) hc H.size) (cwV 2 hts (ip_gdV (own := kR_MO) (idx := 193) (C := kR_MO) (y := yMO_above) kw4_154 kw4_156 kws_57 kw1_13 kw4_157) rfl rfl rfl (by decide +kernel) ⟨Nat.le_of_ble_eq_true rfl, Nat.le_of_ble_eq_true rfl⟩) (ip_preV hK hP hD hS hA hZ [0, 1, 3] rfl rfl (ci := 12) (q0 := 0) rfl rfl) rfl rfl hl.1 rfl (lv_room (Nat.le_of_ble_eq_true rfl)) dMO_predict_189 ⟨Nat.le_of_ble_eq_true rfl, Nat.le_of_ble_eq_true rfl⟩) hP hD hS hA [0, 1, 3] [2] [1, 2, 0, 3] (wMO_predict ad cI cZ v_MO_size v_MO_loaded v_MO_at v_MO_fault v_MO_hasGiven v_MO_hasPicture v_MO_range v_MO_value v_MO_leaves v_msides v_mmodes v_mrow) rfl rfl rfl (by decide) rfl rfl (fun H locs hP hD hS => ?_)
            clear hc
            refine lv_imul hx hb dMO_predict_192 ?_
            refine lv_iadd hx hb dMO_predict_193 ?_
            refine lv_bipush (v := (16 : Int32)) hx hb dMO_predict_194 (by decide) ?_
            refine lv_iadd hx hb dMO_predict_196 ?_
            refine lv_iconst (v := (5 : Int32)) hx hb dMO_predict_197 (by decide) ?_
            refine lv_ishr hx hb dMO_predict_198 ?_
            cases hf
            exact hret H locs 199 ls _ dMO_predict_199 rfl hP hD hS
          · rw [if_neg hn4] at hf
            by_cases hn5 : z4 = (5 : Int32)
            · rw [if_pos hn5] at hf
              refine ip_tsIn (tgt := 200) hx hb dMO_predict_30 hn5 (by decide) (by decide) rfl rfl ?_
              refine lv_aload_n hx hb dMO_predict_200 rfl (lv_at hl 3 rfl) ?_
              refine lv_iload_n hx hb dMO_predict_201 rfl (lv_at hl 4 rfl) ?_
              refine lv_iload_n hx hb dMO_predict_202 rfl (lv_at hl 5 rfl) ?_
              refine lv_iload_n hx hb dMO_predict_203 rfl (lv_at hl 6 rfl) ?_
              refine lv_iadd hx hb dMO_predict_204 ?_
              refine lv_iconst (v := (1 : Int32)) hx hb dMO_predict_205 (by decide) ?_
              refine lv_iadd hx hb dMO_predict_206 ?_
              obtain ⟨z15, hc, hf⟩ := ip_b1_e hf
              refine ip_calli (va_runV (As := [.int p1, .int ((p2 + p3) + (1 : Int32))]) (rest := []) ⟨hx, hb, hml, hown, hts⟩ (tMO_above (l := l) (dC := dC) (dI := dI) (ad := ad) (cI := cI) (ts := ts) (cZ := cZ) hc H.size) (cwV 2 hts (ip_gdV (own := kR_MO) (idx := 193) (C := kR_MO) (y := yMO_above) kw4_154 kw4_156 kws_57 kw1_13 kw4_157) rfl rfl rfl (by decide +kernel) ⟨Nat.le_of_ble_eq_true rfl, Nat.le_of_ble_eq_true rfl⟩) (ip_preV hK hP hD hS hA hZ [0, 1, 3] rfl rfl (ci := 12) (q0 := 0) rfl rfl) rfl rfl hl.1 rfl (lv_room (Nat.le_of_ble_eq_true rfl)) dMO_predict_207 ⟨Nat.le_of_ble_eq_true rfl, Nat.le_of_ble_eq_true rfl⟩) hP hD hS hA [0, 1, 3] [2] [1, 2, 0, 3] (wMO_predict ad cI cZ v_MO_size v_MO_loaded v_MO_at v_MO_fault v_MO_hasGiven v_MO_hasPicture v_MO_range v_MO_value v_MO_leaves v_msides v_mmodes v_mrow) rfl rfl rfl (by decide) rfl rfl (fun H locs hP hD hS => ?_)
              clear hc
              cases hf
              exact hret H locs 210 ls _ dMO_predict_210 rfl hP hD hS
            · rw [if_neg hn5] at hf
              by_cases hn6 : z4 = (6 : Int32)
              · rw [if_pos hn6] at hf
                refine ip_tsIn (tgt := 211) hx hb dMO_predict_30 hn6 (by decide) (by decide) rfl rfl ?_
                refine lv_bipush (v := (32 : Int32)) hx hb dMO_predict_211 (by decide) ?_
                refine lv_iload hx hb dMO_predict_213 (lv_at hl 0 rfl) ?_
                refine lv_bipush (v := (32 : Int32)) hx hb dMO_predict_215 (by decide) ?_
                refine lv_irem hx hb dMO_predict_217 (by decide) ?_
                refine lv_isub hx hb dMO_predict_218 ?_
                refine lv_aload_n hx hb dMO_predict_219 rfl (lv_at hl 3 rfl) ?_
                refine lv_iload_n hx hb dMO_predict_220 rfl (lv_at hl 4 rfl) ?_
                refine lv_iload_n hx hb dMO_predict_221 rfl (lv_at hl 6 rfl) ?_
                refine lv_iload hx hb dMO_predict_222 (lv_at hl 0 rfl) ?_
                refine lv_bipush (v := (32 : Int32)) hx hb dMO_predict_224 (by decide) ?_
                refine lv_idiv hx hb dMO_predict_226 (by decide) ?_
                refine lv_iadd hx hb dMO_predict_227 ?_
                obtain ⟨z16, hc, hf⟩ := ip_b1_e hf
                refine ip_calli (va_runV (As := [.int p1, .int (p3 + (z3 / (32 : Int32)))]) (rest := [.int ((32 : Int32) - (z3 - z3 / (32 : Int32) * (32 : Int32)))]) ⟨hx, hb, hml, hown, hts⟩ (tMO_toLeft (l := l) (dC := dC) (dI := dI) (ad := ad) (cI := cI) (ts := ts) (cZ := cZ) hc H.size) (cwV 2 hts (ip_gdV (own := kR_MO) (idx := 190) (C := kR_MO) (y := yMO_toLeft) kw4_150 kw4_152 kws_56 kw1_13 kw4_153) rfl rfl rfl (by decide +kernel) ⟨Nat.le_of_ble_eq_true rfl, Nat.le_of_ble_eq_true rfl⟩) (ip_preV hK hP hD hS hA hZ [0, 1, 3] rfl rfl (ci := 12) (q0 := 0) rfl rfl) rfl rfl hl.1 rfl (lv_room (Nat.le_of_ble_eq_true rfl)) dMO_predict_228 ⟨Nat.le_of_ble_eq_true rfl, Nat.le_of_ble_eq_true rfl⟩) hP hD hS hA [0, 1, 3] [2] [1, 2, 0, 3] (wMO_predict ad cI cZ v_MO_size v_MO_loaded v_MO_at v_MO_fault v_MO_hasGiven v_MO_hasPicture v_MO_range v_MO_value v_MO_leaves v_msides v_mmodes v_mrow) rfl rfl rfl (by decide) rfl rfl (fun H locs hP hD hS => ?_)
                clear hc
                refine lv_imul hx hb dMO_predict_231 ?_
                refine lv_iload hx hb dMO_predict_232 (lv_at hl 0 rfl) ?_
                refine lv_bipush (v := (32 : Int32)) hx hb dMO_predict_234 (by decide) ?_
                refine lv_irem hx hb dMO_predict_236 (by decide) ?_
                refine lv_aload_n hx hb dMO_predict_237 rfl (lv_at hl 3 rfl) ?_
                refine lv_iload_n hx hb dMO_predict_238 rfl (lv_at hl 4 rfl) ?_
                refine lv_iload_n hx hb dMO_predict_239 rfl (lv_at hl 6 rfl) ?_
                refine lv_iload hx hb dMO_predict_240 (lv_at hl 0 rfl) ?_
                refine lv_bipush (v := (32 : Int32)) hx hb dMO_predict_242 (by decide) ?_
                refine lv_idiv hx hb dMO_predict_244 (by decide) ?_
                refine lv_iadd hx hb dMO_predict_245 ?_
                refine lv_iconst (v := (1 : Int32)) hx hb dMO_predict_246 (by decide) ?_
                refine lv_iadd hx hb dMO_predict_247 ?_
                obtain ⟨z17, hc, hf⟩ := ip_b1_e hf
                refine ip_calli (va_runV (As := [.int p1, .int ((p3 + (z3 / (32 : Int32))) + (1 : Int32))]) (rest := [.int (z3 - z3 / (32 : Int32) * (32 : Int32)), .int (((32 : Int32) - (z3 - z3 / (32 : Int32) * (32 : Int32))) * z16)]) ⟨hx, hb, hml, hown, hts⟩ (tMO_toLeft (l := l) (dC := dC) (dI := dI) (ad := ad) (cI := cI) (ts := ts) (cZ := cZ) hc H.size) (cwV 2 hts (ip_gdV (own := kR_MO) (idx := 190) (C := kR_MO) (y := yMO_toLeft) kw4_150 kw4_152 kws_56 kw1_13 kw4_153) rfl rfl rfl (by decide +kernel) ⟨Nat.le_of_ble_eq_true rfl, Nat.le_of_ble_eq_true rfl⟩) (ip_preV hK hP hD hS hA hZ [0, 1, 3] rfl rfl (ci := 12) (q0 := 0) rfl rfl) rfl rfl hl.1 rfl (lv_room (Nat.le_of_ble_eq_true rfl)) dMO_predict_248 ⟨Nat.le_of_ble_eq_true rfl, Nat.le_of_ble_eq_true rfl⟩) hP hD hS hA [0, 1, 3] [2] [1, 2, 0, 3] (wMO_predict ad cI cZ v_MO_size v_MO_loaded v_MO_at v_MO_fault v_MO_hasGiven v_MO_hasPicture v_MO_range v_MO_value v_MO_leaves v_msides v_mmodes v_mrow) rfl rfl rfl (by decide) rfl rfl (fun H locs hP hD hS => ?_)
                clear hc
                refine lv_imul hx hb dMO_predict_251 ?_
                refine lv_iadd hx hb dMO_predict_252 ?_
                refine lv_bipush (v := (16 : Int32)) hx hb dMO_predict_253 (by decide) ?_
                refine lv_iadd hx hb dMO_predict_255 ?_
                refine lv_iconst (v := (5 : Int32)) hx hb dMO_predict_256 (by decide) ?_
                refine lv_ishr hx hb dMO_predict_257 ?_
                cases hf
                exact hret H locs 258 ls _ dMO_predict_258 rfl hP hD hS
              · rw [if_neg hn6] at hf
                refine lv_tableOut (tgt := 259) hx hb dMO_predict_30 (by have := lv_neT hn0 (a := 0) (by decide); have := lv_neT hn1 (a := 1) (by decide); have := lv_neT hn2 (a := 2) (by decide); have := lv_neT hn3 (a := 3) (by decide); have := lv_neT hn4 (a := 4) (by decide); have := lv_neT hn5 (a := 5) (by decide); have := lv_neT hn6 (a := 6) (by decide); omega) rfl ?_
                refine lv_aload_n hx hb dMO_predict_259 rfl (lv_at hl 3 rfl) ?_
                refine va_get (D := (dC, dI)) (ci := 12) (v := .ref (ad 19)) (C := kR_MO) (T := kT_MO) (N := 32) hx hb hts kin_MO hown hK hP 0 rfl rfl 27 (by decide) (hts _ (List.mem_cons_of_mem _ kw3_214)) (fun _ h9 => h9) rfl dMO_predict_260 ?_
                refine lv_iconst (v := (2 : Int32)) hx hb dMO_predict_263 (by decide) ?_
                refine lv_iload hx hb dMO_predict_264 (lv_at hl 2 rfl) ?_
                refine lv_imul hx hb dMO_predict_266 ?_
                refine lv_iload_n hx hb dMO_predict_267 rfl (lv_at hl 5 rfl) ?_
                refine lv_iadd hx hb dMO_predict_268 ?_
                refine lv_iload_n hx hb dMO_predict_269 rfl (lv_at hl 6 rfl) ?_
                refine lv_isub hx hb dMO_predict_270 ?_
                refine ip_iald hx hb hK hP 3 0 rfl rfl dMO_predict_271 hf (fun z18 hf => ?_)
                cases hf
                exact hret H locs 272 ls _ dMO_predict_272 rfl hP hD hS
set_option maxHeartbeats 4000000 in
set_option maxRecDepth 100000 in
theorem tMO_coefficient {l : Launch} {dC : Nat → ClassId} {dI : Nat → Nat → Nat} {cI cZ : ClassId} {ad : Nat → Nat} {ts : ip_TT} {v_MO_size : Int32} {v_MO_loaded : Int32} {v_MO_at : Int32} {v_MO_fault : Int32} {v_MO_hasGiven : Int32} {v_MO_hasPicture : Int32} {v_MO_range : Int32} {v_MO_value : Int32} {v_MO_leaves : Int32} {v_mgiven : Nat → Int32} {v_mleft : Nat → Int32} {v_mtop : Nat → Int32} {v_msides : Nat → Int32} {v_mlevels : Nat → Int32} {v_mscale : Nat → Int32} {p1 : Int32} {p2 : Int32} {p3 : Int32} {r0 : Int32}  (hf : fMO_coefficient v_MO_size v_MO_loaded v_MO_at v_MO_fault v_MO_hasGiven v_MO_hasPicture v_MO_range v_MO_value v_MO_leaves v_mgiven v_mleft v_mtop v_msides v_mlevels v_mscale p1 p2 p3 = some r0) : ip_Mi l yMO_coefficient wsMO_coefficient rmMO_coefficient (dC, dI) vwCl [(cI, .int), (cZ, .boolean)] ts [.ref (ad 0), .int p1, .int p2, .int p3] (wMO_coefficient ad cI cZ v_MO_size v_MO_loaded v_MO_at v_MO_fault v_MO_hasGiven v_MO_hasPicture v_MO_range v_MO_value v_MO_leaves v_mgiven v_mleft v_mtop v_msides v_mlevels v_mscale) (wMO_coefficient ad cI cZ v_MO_size v_MO_loaded v_MO_at v_MO_fault v_MO_hasGiven v_MO_hasPicture v_MO_range v_MO_value v_MO_leaves v_mgiven v_mleft v_mtop v_msides v_mlevels v_mscale) r0 := by
  refine ip_startI (cc := cMO_coefficient) (maxL := 5) (by decide) rfl (Nat.le_of_ble_eq_true rfl) ?_
  intro p e s m args below meth c Q A ls hx hb hml hts hown hK hP hD hS hA hZ hl hret
  replace hl : lv_has ls 5 [(0, .ref (ad 0)), (1, .int p1), (2, .int p2), (3, .int p3)] := hl
  unfold fMO_coefficient at hf
  suffices J0 : ∀ (ls : Array Slot) (H : Heap) (locs : List Loc), lv_has ls 5 [(0, .ref (ad 0)), (1, .int p1), (2, .int p2), (3, .int p3)] → va_P (dC, dI) vwCl (wMO_coefficient ad cI cZ v_MO_size v_MO_loaded v_MO_at v_MO_fault v_MO_hasGiven v_MO_hasPicture v_MO_range v_MO_value v_MO_leaves v_mgiven v_mleft v_mtop v_msides v_mlevels v_mscale) H → va_D A (wMO_coefficient ad cI cZ v_MO_size v_MO_loaded v_MO_at v_MO_fault v_MO_hasGiven v_MO_hasPicture v_MO_range v_MO_value v_MO_leaves v_mgiven v_mleft v_mtop v_msides v_mlevels v_mscale) → va_S A s.heap H locs → W p l e rmMO_coefficient s m args below meth c H locs 0 0 Q (F0 m 0 ls []) by exact J0 ls s.heap [] hl hP hD hS
  clear hP hD hS hl
  intro ls H locs hl hP hD hS
  refine lv_aload_n hx hb dMO_coefficient_0 rfl (lv_at hl 0 rfl) ?_
  refine va_get (D := (dC, dI)) (ci := 12) (v := .ref (ad 13)) (C := kR_MO) (T := kT_MO) (N := 32) hx hb hts kin_MO hown hK hP 0 rfl rfl 21 (by decide) (hts _ (List.mem_cons_of_mem _ kw3_208)) (fun _ h9 => h9) rfl dMO_coefficient_1 ?_
  refine lv_bipush (v := (16 : Int32)) hx hb dMO_coefficient_4 (by decide) ?_
  refine lv_aload_n hx hb dMO_coefficient_6 rfl (lv_at hl 0 rfl) ?_
  refine va_get (D := (dC, dI)) (ci := 12) (v := .ref (ad 8)) (C := kR_MO) (T := kT_MO) (N := 32) hx hb hts kin_MO hown hK hP 0 rfl rfl 16 (by decide) (hts _ (List.mem_cons_of_mem _ kw3_203)) (fun _ h9 => h9) rfl dMO_coefficient_7 ?_
  refine lv_iload_n hx hb dMO_coefficient_10 rfl (lv_at hl 1 rfl) ?_
  refine ip_iald hx hb hK hP 3 0 rfl rfl dMO_coefficient_11 hf (fun z1 hf => ?_)
  refine lv_iload_n hx hb dMO_coefficient_12 rfl (lv_at hl 3 rfl) ?_
  refine lv_iadd hx hb dMO_coefficient_13 ?_
  refine lv_imul hx hb dMO_coefficient_14 ?_
  refine lv_aload_n hx hb dMO_coefficient_15 rfl (lv_at hl 0 rfl) ?_
  refine va_get (D := (dC, dI)) (ci := 12) (v := .ref (ad 7)) (C := kR_MO) (T := kT_MO) (N := 32) hx hb hts kin_MO hown hK hP 0 rfl rfl 15 (by decide) (hts _ (List.mem_cons_of_mem _ kw3_202)) (fun _ h9 => h9) rfl dMO_coefficient_16 ?_
  refine lv_iload_n hx hb dMO_coefficient_19 rfl (lv_at hl 1 rfl) ?_
  refine ip_iald hx hb hK hP 2 0 rfl rfl dMO_coefficient_20 hf (fun z2 hf => ?_)
  refine lv_iadd hx hb dMO_coefficient_21 ?_
  refine lv_iload_n hx hb dMO_coefficient_22 rfl (lv_at hl 2 rfl) ?_
  refine lv_iadd hx hb dMO_coefficient_23 ?_
  refine ip_iald hx hb hK hP 5 0 rfl rfl dMO_coefficient_24 hf (fun z3 hf => ?_)
  refine lv_aload_n hx hb dMO_coefficient_25 rfl (lv_at hl 0 rfl) ?_
  refine va_get (D := (dC, dI)) (ci := 12) (v := .ref (ad 23)) (C := kR_MO) (T := kT_MO) (N := 32) hx hb hts kin_MO hown hK hP 0 rfl rfl 31 (by decide) (hts _ (List.mem_cons_of_mem _ kw3_218)) (fun _ h9 => h9) rfl dMO_coefficient_26 ?_
  refine lv_aload_n hx hb dMO_coefficient_29 rfl (lv_at hl 0 rfl) ?_
  refine va_get (D := (dC, dI)) (ci := 12) (v := .ref (ad 3)) (C := kR_MO) (T := kT_MO) (N := 32) hx hb hts kin_MO hown hK hP 0 rfl rfl 6 (by decide) (hts _ (List.mem_cons_of_mem _ kw3_193)) (fun _ h9 => h9) rfl dMO_coefficient_30 ?_
  refine lv_iconst (v := (0 : Int32)) hx hb dMO_coefficient_33 (by decide) ?_
  refine ip_iald hx hb hK hP 1 0 rfl rfl dMO_coefficient_34 hf (fun z4 hf => ?_)
  refine lv_bipush (v := (6 : Int32)) hx hb dMO_coefficient_35 (by decide) ?_
  refine lv_irem hx hb dMO_coefficient_37 (by decide) ?_
  refine ip_iald hx hb hK hP 6 0 rfl rfl dMO_coefficient_38 hf (fun z5 hf => ?_)
  refine lv_imul hx hb dMO_coefficient_39 ?_
  refine lv_aload_n hx hb dMO_coefficient_40 rfl (lv_at hl 0 rfl) ?_
  refine va_get (D := (dC, dI)) (ci := 12) (v := .ref (ad 3)) (C := kR_MO) (T := kT_MO) (N := 32) hx hb hts kin_MO hown hK hP 0 rfl rfl 6 (by decide) (hts _ (List.mem_cons_of_mem _ kw3_193)) (fun _ h9 => h9) rfl dMO_coefficient_41 ?_
  refine lv_iconst (v := (0 : Int32)) hx hb dMO_coefficient_44 (by decide) ?_
  refine ip_iald hx hb hK hP 1 0 rfl rfl dMO_coefficient_45 hf (fun z6 hf => ?_)
  refine lv_bipush (v := (6 : Int32)) hx hb dMO_coefficient_46 (by decide) ?_
  refine lv_idiv hx hb dMO_coefficient_48 (by decide) ?_
  refine lv_ishl hx hb dMO_coefficient_49 ?_
  refine ip_top hf (fun z7 hf => ?_)
  refine lv_istore (lv' := [(4, .int z7), (0, .ref (ad 0)), (1, .int p1), (2, .int p2), (3, .int p3)]) hx hb dMO_coefficient_50 hl (by decide) rfl (fun ls hl => ?_)
  refine lv_aload_n hx hb dMO_coefficient_52 rfl (lv_at hl 1 rfl) ?_
  refine va_get (D := (dC, dI)) (ci := 12) (v := .ref (ad 9)) (C := kR_MO) (T := kT_MO) (N := 32) hx hb hts kin_MO hown hK hP 0 rfl rfl 17 (by decide) (hts _ (List.mem_cons_of_mem _ kw3_204)) (fun _ h9 => h9) rfl dMO_coefficient_53 ?_
  refine lv_iload_n hx hb dMO_coefficient_56 rfl (lv_at hl 2 rfl) ?_
  refine ip_iald hx hb hK hP 4 0 rfl rfl dMO_coefficient_57 hf (fun z8 hf => ?_)
  refine lv_iconst (v := (4 : Int32)) hx hb dMO_coefficient_58 (by decide) ?_
  obtain ⟨z9, hh, hf⟩ := ip_b1_e hf
  suffices J77 : ∀ (ls : Array Slot) (H : Heap) (locs : List Loc), lv_has ls 5 [] → va_P (dC, dI) vwCl (wMO_coefficient ad cI cZ v_MO_size v_MO_loaded v_MO_at v_MO_fault v_MO_hasGiven v_MO_hasPicture v_MO_range v_MO_value v_MO_leaves v_mgiven v_mleft v_mtop v_msides v_mlevels v_mscale) H → va_D A (wMO_coefficient ad cI cZ v_MO_size v_MO_loaded v_MO_at v_MO_fault v_MO_hasGiven v_MO_hasPicture v_MO_range v_MO_value v_MO_leaves v_mgiven v_mleft v_mtop v_msides v_mlevels v_mscale) → va_S A s.heap H locs → W p l e rmMO_coefficient s m args below meth c H locs 0 0 Q (F0 m 77 ls [.int z9]) by
    replace hf := hh
    refine ip_icmp_ne (tgt := 71) hx hb dMO_coefficient_59 rfl hf (fun hf => ?_) (fun hf => ?_)
    · refine lv_iload hx hb dMO_coefficient_71 (lv_at hl 0 rfl) ?_
      refine lv_iconst (v := (2 : Int32)) hx hb dMO_coefficient_73 (by decide) ?_
      refine lv_iadd hx hb dMO_coefficient_74 ?_
      refine lv_iconst (v := (2 : Int32)) hx hb dMO_coefficient_75 (by decide) ?_
      refine lv_ishr hx hb dMO_coefficient_76 ?_
      replace hl := lv_sub hl (l' := []) [] rfl
      cases hf
      exact J77 ls H locs hl hP hD hS
    · refine lv_iload hx hb dMO_coefficient_62 (lv_at hl 0 rfl) ?_
      refine lv_iconst (v := (1 : Int32)) hx hb dMO_coefficient_64 (by decide) ?_
      refine lv_iadd hx hb dMO_coefficient_65 ?_
      refine lv_iconst (v := (1 : Int32)) hx hb dMO_coefficient_66 (by decide) ?_
      refine lv_ishr hx hb dMO_coefficient_67 ?_
      refine lv_goto (tgt := 77) hx hb dMO_coefficient_68 rfl ?_
      replace hl := lv_sub hl (l' := []) [] rfl
      cases hf
      exact J77 ls H locs hl hP hD hS
  intro ls H locs hl hP hD hS
  clear hh
  refine lv_sipush (v := (-32768 : Int32)) hx hb dMO_coefficient_77 (by decide) ?_
  refine lv_sipush (v := (32767 : Int32)) hx hb dMO_coefficient_80 (by decide) ?_
  obtain ⟨z10, hc, hf⟩ := ip_b1_e hf
  refine ip_calli (va_runS (As := [.int z9, .int (-32768 : Int32), .int (32767 : Int32)]) (rest := []) ⟨hx, hb, hml, hown, hts⟩ (tMO_held (l := l) (dC := dC) (dI := dI) (ad := ad) (cI := cI) (ts := ts) (cZ := cZ) hc H.size) (va_cwS 3 hts (ip_gdS (own := kR_MO) (idx := 174) (y := yMO_held) kw4_170 kw4_171 kw1_13 kw4_172) rfl rfl rfl (by decide +kernel) ⟨Nat.le_of_ble_eq_true rfl, Nat.le_of_ble_eq_true rfl⟩) (ip_preS hK hP hD hS hA hZ [] rfl rfl) rfl rfl hl.1 rfl (lv_room (Nat.le_of_ble_eq_true rfl)) dMO_coefficient_83 ⟨Nat.le_of_ble_eq_true rfl, Nat.le_of_ble_eq_true rfl⟩) hP hD hS hA [] [0, 1, 2, 3, 4, 5, 6] [0, 1, 2, 3, 4, 5, 6] (wMO_coefficient ad cI cZ v_MO_size v_MO_loaded v_MO_at v_MO_fault v_MO_hasGiven v_MO_hasPicture v_MO_range v_MO_value v_MO_leaves v_mgiven v_mleft v_mtop v_msides v_mlevels v_mscale) rfl rfl rfl (by decide) rfl rfl (fun H locs hP hD hS => ?_)
  clear hc
  cases hf
  exact hret H locs 86 ls _ dMO_coefficient_86 rfl hP hD hS
set_option maxHeartbeats 4000000 in
set_option maxRecDepth 100000 in
theorem tMO_matrix {l : Launch} {dC : Nat → ClassId} {dI : Nat → Nat → Nat} {cI cZ : ClassId} {ad : Nat → Nat} {ts : ip_TT} {v_MO_size : Int32} {v_MO_loaded : Int32} {v_MO_at : Int32} {v_MO_fault : Int32} {v_MO_hasGiven : Int32} {v_MO_hasPicture : Int32} {v_MO_range : Int32} {v_MO_value : Int32} {v_MO_leaves : Int32} {v_mfour : Nat → Int32} {v_mwave : Nat → Int32} {p1 : Int32} {p2 : Int32} {p3 : Int32} {r0 : Int32}  (hf : fMO_matrix v_MO_size v_MO_loaded v_MO_at v_MO_fault v_MO_hasGiven v_MO_hasPicture v_MO_range v_MO_value v_MO_leaves v_mfour v_mwave p1 p2 p3 = some r0) : ip_Mi l yMO_matrix wsMO_matrix rmMO_matrix (dC, dI) vwCl [(cI, .int), (cZ, .boolean)] ts [.ref (ad 0), .int p1, .int p2, .int p3] (wMO_matrix ad cI cZ v_MO_size v_MO_loaded v_MO_at v_MO_fault v_MO_hasGiven v_MO_hasPicture v_MO_range v_MO_value v_MO_leaves v_mfour v_mwave) (wMO_matrix ad cI cZ v_MO_size v_MO_loaded v_MO_at v_MO_fault v_MO_hasGiven v_MO_hasPicture v_MO_range v_MO_value v_MO_leaves v_mfour v_mwave) r0 := by
  refine ip_startI (cc := cMO_matrix) (maxL := 5) (by decide) rfl (Nat.le_of_ble_eq_true rfl) ?_
  intro p e s m args below meth c Q A ls hx hb hml hts hown hK hP hD hS hA hZ hl hret
  replace hl : lv_has ls 5 [(0, .ref (ad 0)), (1, .int p1), (2, .int p2), (3, .int p3)] := hl
  unfold fMO_matrix at hf
  suffices J0 : ∀ (ls : Array Slot) (H : Heap) (locs : List Loc), lv_has ls 5 [(0, .ref (ad 0)), (1, .int p1), (2, .int p2), (3, .int p3)] → va_P (dC, dI) vwCl (wMO_matrix ad cI cZ v_MO_size v_MO_loaded v_MO_at v_MO_fault v_MO_hasGiven v_MO_hasPicture v_MO_range v_MO_value v_MO_leaves v_mfour v_mwave) H → va_D A (wMO_matrix ad cI cZ v_MO_size v_MO_loaded v_MO_at v_MO_fault v_MO_hasGiven v_MO_hasPicture v_MO_range v_MO_value v_MO_leaves v_mfour v_mwave) → va_S A s.heap H locs → W p l e rmMO_matrix s m args below meth c H locs 0 0 Q (F0 m 0 ls []) by exact J0 ls s.heap [] hl hP hD hS
  clear hP hD hS hl
  intro ls H locs hl hP hD hS
  refine lv_iload_n hx hb dMO_matrix_0 rfl (lv_at hl 1 rfl) ?_
  refine lv_iconst (v := (4 : Int32)) hx hb dMO_matrix_1 (by decide) ?_
  refine ip_icmp_ne (tgt := 16) hx hb dMO_matrix_2 rfl hf (fun hf => ?_) (fun hf => ?_)
  · refine lv_iload_n hx hb dMO_matrix_16 rfl (lv_at hl 2 rfl) ?_
    refine ip_if_ne (tgt := 23) hx hb dMO_matrix_17 rfl hf (fun hf => ?_) (fun hf => ?_)
    · refine lv_iconst (v := (2 : Int32)) hx hb dMO_matrix_23 (by decide) ?_
      refine lv_iload_n hx hb dMO_matrix_24 rfl (lv_at hl 3 rfl) ?_
      refine lv_imul hx hb dMO_matrix_25 ?_
      refine lv_iconst (v := (1 : Int32)) hx hb dMO_matrix_26 (by decide) ?_
      refine lv_iadd hx hb dMO_matrix_27 ?_
      refine lv_iload_n hx hb dMO_matrix_28 rfl (lv_at hl 2 rfl) ?_
      refine lv_imul hx hb dMO_matrix_29 ?_
      refine lv_bipush (v := (32 : Int32)) hx hb dMO_matrix_30 (by decide) ?_
      refine lv_irem hx hb dMO_matrix_32 (by decide) ?_
      refine ip_top hf (fun z1 hf => ?_)
      refine lv_istore (lv' := [(4, .int z1), (0, .ref (ad 0)), (1, .int p1), (2, .int p2), (3, .int p3)]) hx hb dMO_matrix_33 hl (by decide) rfl (fun ls hl => ?_)
      refine lv_iload hx hb dMO_matrix_35 (lv_at hl 0 rfl) ?_
      refine lv_bipush (v := (16 : Int32)) hx hb dMO_matrix_37 (by decide) ?_
      obtain ⟨z2, hh, hf⟩ := ip_b1_e hf
      suffices J52 : ∀ (ls : Array Slot) (H : Heap) (locs : List Loc), lv_has ls 5 [(0, .ref (ad 0))] → va_P (dC, dI) vwCl (wMO_matrix ad cI cZ v_MO_size v_MO_loaded v_MO_at v_MO_fault v_MO_hasGiven v_MO_hasPicture v_MO_range v_MO_value v_MO_leaves v_mfour v_mwave) H → va_D A (wMO_matrix ad cI cZ v_MO_size v_MO_loaded v_MO_at v_MO_fault v_MO_hasGiven v_MO_hasPicture v_MO_range v_MO_value v_MO_leaves v_mfour v_mwave) → va_S A s.heap H locs → W p l e rmMO_matrix s m args below meth c H locs 0 0 Q (F0 m 52 ls [.int z2]) by
        replace hf := hh
        refine ip_icmp_le (tgt := 50) hx hb dMO_matrix_39 rfl hf (fun hf => ?_) (fun hf => ?_)
        · refine lv_iload hx hb dMO_matrix_50 (lv_at hl 0 rfl) ?_
          replace hl := lv_sub hl (l' := [(0, .ref (ad 0))]) [1] rfl
          cases hf
          exact J52 ls H locs hl hP hD hS
        · refine lv_bipush (v := (32 : Int32)) hx hb dMO_matrix_42 (by decide) ?_
          refine lv_iload hx hb dMO_matrix_44 (lv_at hl 0 rfl) ?_
          refine lv_isub hx hb dMO_matrix_46 ?_
          refine lv_goto (tgt := 52) hx hb dMO_matrix_47 rfl ?_
          replace hl := lv_sub hl (l' := [(0, .ref (ad 0))]) [1] rfl
          cases hf
          exact J52 ls H locs hl hP hD hS
      intro ls H locs hl hP hD hS
      clear hh
      refine lv_istore (lv' := [(4, .int z2), (0, .ref (ad 0))]) hx hb dMO_matrix_52 hl (by decide) rfl (fun ls hl => ?_)
      refine lv_iload hx hb dMO_matrix_54 (lv_at hl 0 rfl) ?_
      refine lv_bipush (v := (8 : Int32)) hx hb dMO_matrix_56 (by decide) ?_
      refine ip_icmp_le (tgt := 75) hx hb dMO_matrix_58 rfl hf (fun hf => ?_) (fun hf => ?_)
      · refine lv_aload_n hx hb dMO_matrix_75 rfl (lv_at hl 1 rfl) ?_
        refine va_get (D := (dC, dI)) (ci := 12) (v := .ref (ad 22)) (C := kR_MO) (T := kT_MO) (N := 32) hx hb hts kin_MO hown hK hP 0 rfl rfl 30 (by decide) (hts _ (List.mem_cons_of_mem _ kw3_217)) (fun _ h9 => h9) rfl dMO_matrix_76 ?_
        refine lv_iload hx hb dMO_matrix_79 (lv_at hl 0 rfl) ?_
        refine ip_iald hx hb hK hP 2 0 rfl rfl dMO_matrix_81 hf (fun z3 hf => ?_)
        cases hf
        exact hret H locs 82 ls _ dMO_matrix_82 rfl hP hD hS
      · refine lv_aload_n hx hb dMO_matrix_61 rfl (lv_at hl 1 rfl) ?_
        refine va_get (D := (dC, dI)) (ci := 12) (v := .ref (ad 22)) (C := kR_MO) (T := kT_MO) (N := 32) hx hb hts kin_MO hown hK hP 0 rfl rfl 30 (by decide) (hts _ (List.mem_cons_of_mem _ kw3_217)) (fun _ h9 => h9) rfl dMO_matrix_62 ?_
        refine lv_bipush (v := (16 : Int32)) hx hb dMO_matrix_65 (by decide) ?_
        refine lv_iload hx hb dMO_matrix_67 (lv_at hl 0 rfl) ?_
        refine lv_isub hx hb dMO_matrix_69 ?_
        refine ip_iald hx hb hK hP 2 0 rfl rfl dMO_matrix_70 hf (fun z4 hf => ?_)
        refine lv_ineg hx hb dMO_matrix_71 ?_
        refine lv_goto (tgt := 82) hx hb dMO_matrix_72 rfl ?_
        cases hf
        exact hret H locs 82 ls _ dMO_matrix_82 rfl hP hD hS
    · refine lv_bipush (v := (64 : Int32)) hx hb dMO_matrix_20 (by decide) ?_
      cases hf
      exact hret H locs 22 ls _ dMO_matrix_22 rfl hP hD hS
  · refine lv_aload_n hx hb dMO_matrix_5 rfl (lv_at hl 0 rfl) ?_
    refine va_get (D := (dC, dI)) (ci := 12) (v := .ref (ad 21)) (C := kR_MO) (T := kT_MO) (N := 32) hx hb hts kin_MO hown hK hP 0 rfl rfl 29 (by decide) (hts _ (List.mem_cons_of_mem _ kw3_216)) (fun _ h9 => h9) rfl dMO_matrix_6 ?_
    refine lv_iconst (v := (4 : Int32)) hx hb dMO_matrix_9 (by decide) ?_
    refine lv_iload_n hx hb dMO_matrix_10 rfl (lv_at hl 2 rfl) ?_
    refine lv_imul hx hb dMO_matrix_11 ?_
    refine lv_iload_n hx hb dMO_matrix_12 rfl (lv_at hl 3 rfl) ?_
    refine lv_iadd hx hb dMO_matrix_13 ?_
    refine ip_iald hx hb hK hP 1 0 rfl rfl dMO_matrix_14 hf (fun z5 hf => ?_)
    cases hf
    exact hret H locs 15 ls _ dMO_matrix_15 rfl hP hD hS
set_option maxHeartbeats 4000000 in
set_option maxRecDepth 100000 in
theorem tMO_half {l : Launch} {dC : Nat → ClassId} {dI : Nat → Nat → Nat} {cI cZ : ClassId} {ad : Nat → Nat} {ts : ip_TT} {v_MO_size : Int32} {v_MO_loaded : Int32} {v_MO_at : Int32} {v_MO_fault : Int32} {v_MO_hasGiven : Int32} {v_MO_hasPicture : Int32} {v_MO_range : Int32} {v_MO_value : Int32} {v_MO_leaves : Int32} {v_mgiven : Nat → Int32} {v_mleft : Nat → Int32} {v_mtop : Nat → Int32} {v_msides : Nat → Int32} {v_mlevels : Nat → Int32} {v_mfour : Nat → Int32} {v_mwave : Nat → Int32} {v_mscale : Nat → Int32} {p1 : Int32} {p2 : Int32} {p3 : Int32} {r0 : Int32}  (hf : fMO_half v_MO_size v_MO_loaded v_MO_at v_MO_fault v_MO_hasGiven v_MO_hasPicture v_MO_range v_MO_value v_MO_leaves v_mgiven v_mleft v_mtop v_msides v_mlevels v_mfour v_mwave v_mscale p1 p2 p3 = some r0) : ip_Mi l yMO_half wsMO_half rmMO_half (dC, dI) vwCl [(cI, .int), (cZ, .boolean)] ts [.ref (ad 0), .int p1, .int p2, .int p3] (wMO_half ad cI cZ v_MO_size v_MO_loaded v_MO_at v_MO_fault v_MO_hasGiven v_MO_hasPicture v_MO_range v_MO_value v_MO_leaves v_mgiven v_mleft v_mtop v_msides v_mlevels v_mfour v_mwave v_mscale) (wMO_half ad cI cZ v_MO_size v_MO_loaded v_MO_at v_MO_fault v_MO_hasGiven v_MO_hasPicture v_MO_range v_MO_value v_MO_leaves v_mgiven v_mleft v_mtop v_msides v_mlevels v_mfour v_mwave v_mscale) r0 := by
  refine ip_startI (cc := cMO_half) (maxL := 7) (by decide) rfl (Nat.le_of_ble_eq_true rfl) ?_
  intro p e s m args below meth c Q A ls hx hb hml hts hown hK hP hD hS hA hZ hl hret
  replace hl : lv_has ls 7 [(0, .ref (ad 0)), (1, .int p1), (2, .int p2), (3, .int p3)] := hl
  unfold fMO_half at hf
  suffices J0 : ∀ (ls : Array Slot) (H : Heap) (locs : List Loc), lv_has ls 7 [(0, .ref (ad 0)), (1, .int p1), (2, .int p2), (3, .int p3)] → va_P (dC, dI) vwCl (wMO_half ad cI cZ v_MO_size v_MO_loaded v_MO_at v_MO_fault v_MO_hasGiven v_MO_hasPicture v_MO_range v_MO_value v_MO_leaves v_mgiven v_mleft v_mtop v_msides v_mlevels v_mfour v_mwave v_mscale) H → va_D A (wMO_half ad cI cZ v_MO_size v_MO_loaded v_MO_at v_MO_fault v_MO_hasGiven v_MO_hasPicture v_MO_range v_MO_value v_MO_leaves v_mgiven v_mleft v_mtop v_msides v_mlevels v_mfour v_mwave v_mscale) → va_S A s.heap H locs → W p l e rmMO_half s m args below meth c H locs 0 0 Q (F0 m 0 ls []) by exact J0 ls s.heap [] hl hP hD hS
  clear hP hD hS hl
  intro ls H locs hl hP hD hS
  refine lv_aload_n hx hb dMO_half_0 rfl (lv_at hl 0 rfl) ?_
  refine va_get (D := (dC, dI)) (ci := 12) (v := .ref (ad 9)) (C := kR_MO) (T := kT_MO) (N := 32) hx hb hts kin_MO hown hK hP 0 rfl rfl 17 (by decide) (hts _ (List.mem_cons_of_mem _ kw3_204)) (fun _ h9 => h9) rfl dMO_half_1 ?_
  refine lv_iload_n hx hb dMO_half_4 rfl (lv_at hl 1 rfl) ?_
  refine ip_iald hx hb hK hP 4 0 rfl rfl dMO_half_5 hf (fun z1 hf => ?_)
  refine lv_istore (lv' := [(4, .int z1), (0, .ref (ad 0)), (1, .int p1), (2, .int p2), (3, .int p3)]) hx hb dMO_half_6 hl (by decide) rfl (fun ls hl => ?_)
  refine lv_bipush (v := (64 : Int32)) hx hb dMO_half_8 (by decide) ?_
  refine lv_istore (lv' := [(5, .int (64 : Int32)), (4, .int z1), (0, .ref (ad 0)), (1, .int p1), (2, .int p2), (3, .int p3)]) hx hb dMO_half_10 hl (by decide) rfl (fun ls hl => ?_)
  refine lv_iconst (v := (0 : Int32)) hx hb dMO_half_12 (by decide) ?_
  refine lv_istore (lv' := [(6, .int (0 : Int32)), (5, .int (64 : Int32)), (4, .int z1), (0, .ref (ad 0)), (1, .int p1), (2, .int p2), (3, .int p3)]) hx hb dMO_half_13 hl (by decide) rfl (fun ls hl => ?_)
  replace hl := lv_sub hl (l' := [(0, .ref (ad 0)), (1, .int p1), (2, .int p2), (3, .int p3), (4, .int z1), (5, .int (64 : Int32)), (6, .int (0 : Int32))]) [3, 4, 5, 6, 2, 1, 0] rfl
  obtain ⟨x4, x5, hL, hf⟩ := ip_b2_e hf
  suffices J51 : ∀ (ls : Array Slot) (H : Heap) (locs : List Loc), lv_has ls 7 [(5, .int x4)] → va_P (dC, dI) vwCl (wMO_half ad cI cZ v_MO_size v_MO_loaded v_MO_at v_MO_fault v_MO_hasGiven v_MO_hasPicture v_MO_range v_MO_value v_MO_leaves v_mgiven v_mleft v_mtop v_msides v_mlevels v_mfour v_mwave v_mscale) H → va_D A (wMO_half ad cI cZ v_MO_size v_MO_loaded v_MO_at v_MO_fault v_MO_hasGiven v_MO_hasPicture v_MO_range v_MO_value v_MO_leaves v_mgiven v_mleft v_mtop v_msides v_mlevels v_mfour v_mwave v_mscale) → va_S A s.heap H locs → W p l e rmMO_half s m args below meth c H locs 0 0 Q (F0 m 51 ls []) by
    have L : ∀ (n : Nat) (z2 : Int32) (z3 : Int32), ip_lp2 (fMO_half_B15 v_MO_size v_MO_loaded v_MO_at v_MO_fault v_MO_hasGiven v_MO_hasPicture v_MO_range v_MO_value v_MO_leaves v_mgiven v_mleft v_mtop v_msides v_mlevels v_mfour v_mwave v_mscale p1 p2 p3 z1) n z2 z3 = some (x4, x5) → ∀ (ls : Array Slot) (H : Heap) (locs : List Loc), lv_has ls 7 [(0, .ref (ad 0)), (1, .int p1), (2, .int p2), (3, .int p3), (4, .int z1), (5, .int z2), (6, .int z3)] → va_P (dC, dI) vwCl (wMO_half ad cI cZ v_MO_size v_MO_loaded v_MO_at v_MO_fault v_MO_hasGiven v_MO_hasPicture v_MO_range v_MO_value v_MO_leaves v_mgiven v_mleft v_mtop v_msides v_mlevels v_mfour v_mwave v_mscale) H → va_D A (wMO_half ad cI cZ v_MO_size v_MO_loaded v_MO_at v_MO_fault v_MO_hasGiven v_MO_hasPicture v_MO_range v_MO_value v_MO_leaves v_mgiven v_mleft v_mtop v_msides v_mlevels v_mfour v_mwave v_mscale) → va_S A s.heap H locs → W p l e rmMO_half s m args below meth c H locs 0 0 Q (F0 m 15 ls []) := by
      intro n
      induction n with
      | zero => intro z2 z3 hL; exact (ip_lp2_0 hL).elim
      | succ n ih =>
        intro z2 z3 hL ls H locs hl hP hD hS
        clear hf
        obtain ⟨r9, hf, hr15⟩ := ip_lp2_s hL
        clear hL
        unfold fMO_half_B15 at hf
        refine lv_iload hx hb dMO_half_15 (lv_at hl 6 rfl) ?_
        refine lv_iload hx hb dMO_half_17 (lv_at hl 4 rfl) ?_
        refine ip_icmp_ge (tgt := 51) hx hb dMO_half_19 rfl hf (fun hf => ?_) (fun hf => ?_)
        · have hx9 := ip_lp_x hr15 hf
          replace hl := lv_sub hl (l' := [(5, .int z2)]) [5] rfl
          cases hx9
          exact J51 ls H locs hl hP hD hS
        · refine lv_iload hx hb dMO_half_22 (lv_at hl 5 rfl) ?_
          refine lv_aload_n hx hb dMO_half_24 rfl (lv_at hl 0 rfl) ?_
          refine lv_iload hx hb dMO_half_25 (lv_at hl 4 rfl) ?_
          refine lv_iload hx hb dMO_half_27 (lv_at hl 6 rfl) ?_
          refine lv_iload_n hx hb dMO_half_29 rfl (lv_at hl 3 rfl) ?_
          obtain ⟨z6, hc, hf⟩ := ip_b1_e hf
          refine ip_calli (va_runV (As := [.int z1, .int z3, .int p3]) (rest := [.int z2]) ⟨hx, hb, hml, hown, hts⟩ (tMO_matrix (l := l) (dC := dC) (dI := dI) (ad := ad) (cI := cI) (ts := ts) (cZ := cZ) hc H.size) (cwV 3 hts (ip_gdV (own := kR_MO) (idx := 177) (C := kR_MO) (y := yMO_matrix) kw4_173 kw4_175 kws_61 kw1_13 kw4_176) rfl rfl rfl (by decide +kernel) ⟨Nat.le_of_ble_eq_true rfl, Nat.le_of_ble_eq_true rfl⟩) (ip_preV hK hP hD hS hA hZ [0, 6, 7] rfl rfl (ci := 12) (q0 := 0) rfl rfl) rfl rfl hl.1 rfl (lv_room (Nat.le_of_ble_eq_true rfl)) dMO_half_30 ⟨Nat.le_of_ble_eq_true rfl, Nat.le_of_ble_eq_true rfl⟩) hP hD hS hA [0, 6, 7] [1, 2, 3, 4, 5, 8] [6, 0, 1, 2, 3, 4, 7, 8, 5] (wMO_half ad cI cZ v_MO_size v_MO_loaded v_MO_at v_MO_fault v_MO_hasGiven v_MO_hasPicture v_MO_range v_MO_value v_MO_leaves v_mgiven v_mleft v_mtop v_msides v_mlevels v_mfour v_mwave v_mscale) rfl rfl rfl (by decide) rfl rfl (fun H locs hP hD hS => ?_)
          clear hc
          refine lv_aload_n hx hb dMO_half_33 rfl (lv_at hl 0 rfl) ?_
          refine lv_iload_n hx hb dMO_half_34 rfl (lv_at hl 1 rfl) ?_
          refine lv_iload_n hx hb dMO_half_35 rfl (lv_at hl 2 rfl) ?_
          refine lv_iload hx hb dMO_half_36 (lv_at hl 6 rfl) ?_
          obtain ⟨z7, hc, hf⟩ := ip_b1_e hf
          refine ip_calli (va_runV (As := [.int p1, .int p2, .int z3]) (rest := [.int z6, .int z2]) ⟨hx, hb, hml, hown, hts⟩ (tMO_coefficient (l := l) (dC := dC) (dI := dI) (ad := ad) (cI := cI) (ts := ts) (cZ := cZ) hc H.size) (cwV 3 hts (ip_gdV (own := kR_MO) (idx := 180) (C := kR_MO) (y := yMO_coefficient) kw4_166 kw4_168 kws_60 kw1_13 kw4_169) rfl rfl rfl (by decide +kernel) ⟨Nat.le_of_ble_eq_true rfl, Nat.le_of_ble_eq_true rfl⟩) (ip_preV hK hP hD hS hA hZ [0, 1, 2, 3, 4, 5, 8] rfl rfl (ci := 12) (q0 := 0) rfl rfl) rfl rfl hl.1 rfl (lv_room (Nat.le_of_ble_eq_true rfl)) dMO_half_38 ⟨Nat.le_of_ble_eq_true rfl, Nat.le_of_ble_eq_true rfl⟩) hP hD hS hA [0, 1, 2, 3, 4, 5, 8] [6, 7] [2, 3, 4, 5, 6, 7, 0, 1, 8] (wMO_half ad cI cZ v_MO_size v_MO_loaded v_MO_at v_MO_fault v_MO_hasGiven v_MO_hasPicture v_MO_range v_MO_value v_MO_leaves v_mgiven v_mleft v_mtop v_msides v_mlevels v_mfour v_mwave v_mscale) rfl rfl rfl (by decide) rfl rfl (fun H locs hP hD hS => ?_)
          clear hc
          refine lv_imul hx hb dMO_half_41 ?_
          refine lv_iadd hx hb dMO_half_42 ?_
          refine ip_top hf (fun z8 hf => ?_)
          refine lv_istore (lv' := [(5, .int z8), (0, .ref (ad 0)), (1, .int p1), (2, .int p2), (3, .int p3), (4, .int z1), (6, .int z3)]) hx hb dMO_half_43 hl (by decide) rfl (fun ls hl => ?_)
          refine ip_iinc (k0 := 6) (v0 := (1 : Int32)) (lv1 := fun z9 => [(6, .int z9), (5, .int z8), (0, .ref (ad 0)), (1, .int p1), (2, .int p2), (3, .int p3), (4, .int z1)]) hx hb dMO_half_45 hl rfl (by decide) (by decide) (fun _ => rfl) hf (fun z9 ls hf hl => ?_)
          refine lv_goto (tgt := 15) hx hb dMO_half_48 rfl ?_
          replace hl := lv_sub hl (l' := [(0, .ref (ad 0)), (1, .int p1), (2, .int p2), (3, .int p3), (4, .int z1), (5, .int z8), (6, .int z9)]) [2, 3, 4, 5, 6, 1, 0] rfl
          exact ih _ _ (ip_lp2_l hr15 hf) ls H locs hl hP hD hS
    exact L 1000 _ _ hL ls H locs hl hP hD hS
  intro ls H locs hl hP hD hS
  clear hL
  refine lv_iload hx hb dMO_half_51 (lv_at hl 0 rfl) ?_
  refine lv_bipush (v := (7 : Int32)) hx hb dMO_half_53 (by decide) ?_
  refine lv_ishr hx hb dMO_half_55 ?_
  refine lv_sipush (v := (-32768 : Int32)) hx hb dMO_half_56 (by decide) ?_
  refine lv_sipush (v := (32767 : Int32)) hx hb dMO_half_59 (by decide) ?_
  obtain ⟨z10, hc, hf⟩ := ip_b1_e hf
  refine ip_calli (va_runS (As := [.int (x4 >>> ((7 : Int32) &&& 31)), .int (-32768 : Int32), .int (32767 : Int32)]) (rest := []) ⟨hx, hb, hml, hown, hts⟩ (tMO_held (l := l) (dC := dC) (dI := dI) (ad := ad) (cI := cI) (ts := ts) (cZ := cZ) hc H.size) (va_cwS 3 hts (ip_gdS (own := kR_MO) (idx := 174) (y := yMO_held) kw4_170 kw4_171 kw1_13 kw4_172) rfl rfl rfl (by decide +kernel) ⟨Nat.le_of_ble_eq_true rfl, Nat.le_of_ble_eq_true rfl⟩) (ip_preS hK hP hD hS hA hZ [] rfl rfl) rfl rfl hl.1 rfl (lv_room (Nat.le_of_ble_eq_true rfl)) dMO_half_62 ⟨Nat.le_of_ble_eq_true rfl, Nat.le_of_ble_eq_true rfl⟩) hP hD hS hA [] [0, 1, 2, 3, 4, 5, 6, 7, 8] [0, 1, 2, 3, 4, 5, 6, 7, 8] (wMO_half ad cI cZ v_MO_size v_MO_loaded v_MO_at v_MO_fault v_MO_hasGiven v_MO_hasPicture v_MO_range v_MO_value v_MO_leaves v_mgiven v_mleft v_mtop v_msides v_mlevels v_mfour v_mwave v_mscale) rfl rfl rfl (by decide) rfl rfl (fun H locs hP hD hS => ?_)
  clear hc
  cases hf
  exact hret H locs 65 ls _ dMO_half_65 rfl hP hD hS
set_option maxHeartbeats 4000000 in
set_option maxRecDepth 100000 in
theorem tMO_residual {l : Launch} {dC : Nat → ClassId} {dI : Nat → Nat → Nat} {cI cZ : ClassId} {ad : Nat → Nat} {ts : ip_TT} {v_MO_size : Int32} {v_MO_loaded : Int32} {v_MO_at : Int32} {v_MO_fault : Int32} {v_MO_hasGiven : Int32} {v_MO_hasPicture : Int32} {v_MO_range : Int32} {v_MO_value : Int32} {v_MO_leaves : Int32} {v_mgiven : Nat → Int32} {v_mleft : Nat → Int32} {v_mtop : Nat → Int32} {v_msides : Nat → Int32} {v_mskips : Nat → Int32} {v_mlevels : Nat → Int32} {v_mfour : Nat → Int32} {v_mwave : Nat → Int32} {v_mscale : Nat → Int32} {p1 : Int32} {p2 : Int32} {p3 : Int32} {r0 : Int32}  (hf : fMO_residual v_MO_size v_MO_loaded v_MO_at v_MO_fault v_MO_hasGiven v_MO_hasPicture v_MO_range v_MO_value v_MO_leaves v_mgiven v_mleft v_mtop v_msides v_mskips v_mlevels v_mfour v_mwave v_mscale p1 p2 p3 = some r0) : ip_Mi l yMO_residual wsMO_residual rmMO_residual (dC, dI) vwCl [(cI, .int), (cZ, .boolean)] ts [.ref (ad 0), .int p1, .int p2, .int p3] (wMO_residual ad cI cZ v_MO_size v_MO_loaded v_MO_at v_MO_fault v_MO_hasGiven v_MO_hasPicture v_MO_range v_MO_value v_MO_leaves v_mgiven v_mleft v_mtop v_msides v_mskips v_mlevels v_mfour v_mwave v_mscale) (wMO_residual ad cI cZ v_MO_size v_MO_loaded v_MO_at v_MO_fault v_MO_hasGiven v_MO_hasPicture v_MO_range v_MO_value v_MO_leaves v_mgiven v_mleft v_mtop v_msides v_mskips v_mlevels v_mfour v_mwave v_mscale) r0 := by
  refine ip_startI (cc := cMO_residual) (maxL := 6) (by decide) rfl (Nat.le_of_ble_eq_true rfl) ?_
  intro p e s m args below meth c Q A ls hx hb hml hts hown hK hP hD hS hA hZ hl hret
  replace hl : lv_has ls 6 [(0, .ref (ad 0)), (1, .int p1), (2, .int p2), (3, .int p3)] := hl
  unfold fMO_residual at hf
  suffices J0 : ∀ (ls : Array Slot) (H : Heap) (locs : List Loc), lv_has ls 6 [(0, .ref (ad 0)), (1, .int p1), (2, .int p2), (3, .int p3)] → va_P (dC, dI) vwCl (wMO_residual ad cI cZ v_MO_size v_MO_loaded v_MO_at v_MO_fault v_MO_hasGiven v_MO_hasPicture v_MO_range v_MO_value v_MO_leaves v_mgiven v_mleft v_mtop v_msides v_mskips v_mlevels v_mfour v_mwave v_mscale) H → va_D A (wMO_residual ad cI cZ v_MO_size v_MO_loaded v_MO_at v_MO_fault v_MO_hasGiven v_MO_hasPicture v_MO_range v_MO_value v_MO_leaves v_mgiven v_mleft v_mtop v_msides v_mskips v_mlevels v_mfour v_mwave v_mscale) → va_S A s.heap H locs → W p l e rmMO_residual s m args below meth c H locs 0 0 Q (F0 m 0 ls []) by exact J0 ls s.heap [] hl hP hD hS
  clear hP hD hS hl
  intro ls H locs hl hP hD hS
  refine lv_aload_n hx hb dMO_residual_0 rfl (lv_at hl 0 rfl) ?_
  refine va_get (D := (dC, dI)) (ci := 12) (v := .ref (ad 11)) (C := kR_MO) (T := kT_MO) (N := 32) hx hb hts kin_MO hown hK hP 0 rfl rfl 19 (by decide) (hts _ (List.mem_cons_of_mem _ kw3_206)) (fun _ h9 => h9) rfl dMO_residual_1 ?_
  refine lv_iload_n hx hb dMO_residual_4 rfl (lv_at hl 1 rfl) ?_
  refine ip_zald hx hb hK hP 5 1 rfl rfl dMO_residual_5 hf (fun z1 hf => ?_)
  refine ip_if_eq (tgt := 28) hx hb dMO_residual_6 rfl hf (fun hf => ?_) (fun hf => ?_)
  · refine lv_sipush (v := (2048 : Int32)) hx hb dMO_residual_28 (by decide) ?_
    refine lv_istore (lv' := [(4, .int (2048 : Int32)), (0, .ref (ad 0)), (1, .int p1), (2, .int p2), (3, .int p3)]) hx hb dMO_residual_31 hl (by decide) rfl (fun ls hl => ?_)
    refine lv_iconst (v := (0 : Int32)) hx hb dMO_residual_33 (by decide) ?_
    refine lv_istore (lv' := [(5, .int (0 : Int32)), (4, .int (2048 : Int32)), (0, .ref (ad 0)), (1, .int p1), (2, .int p2), (3, .int p3)]) hx hb dMO_residual_34 hl (by decide) rfl (fun ls hl => ?_)
    replace hl := lv_sub hl (l' := [(0, .ref (ad 0)), (1, .int p1), (2, .int p2), (3, .int p3), (4, .int (2048 : Int32)), (5, .int (0 : Int32))]) [2, 3, 4, 5, 1, 0] rfl
    obtain ⟨x4, x5, hL, hf⟩ := ip_b2_e hf
    suffices J80 : ∀ (ls : Array Slot) (H : Heap) (locs : List Loc), lv_has ls 6 [(4, .int x4)] → va_P (dC, dI) vwCl (wMO_residual ad cI cZ v_MO_size v_MO_loaded v_MO_at v_MO_fault v_MO_hasGiven v_MO_hasPicture v_MO_range v_MO_value v_MO_leaves v_mgiven v_mleft v_mtop v_msides v_mskips v_mlevels v_mfour v_mwave v_mscale) H → va_D A (wMO_residual ad cI cZ v_MO_size v_MO_loaded v_MO_at v_MO_fault v_MO_hasGiven v_MO_hasPicture v_MO_range v_MO_value v_MO_leaves v_mgiven v_mleft v_mtop v_msides v_mskips v_mlevels v_mfour v_mwave v_mscale) → va_S A s.heap H locs → W p l e rmMO_residual s m args below meth c H locs 0 0 Q (F0 m 80 ls []) by
      have L : ∀ (n : Nat) (z2 : Int32) (z3 : Int32), ip_lp2 (fMO_residual_B36 v_MO_size v_MO_loaded v_MO_at v_MO_fault v_MO_hasGiven v_MO_hasPicture v_MO_range v_MO_value v_MO_leaves v_mgiven v_mleft v_mtop v_msides v_mlevels v_mfour v_mwave v_mscale p1 p2 p3) n z2 z3 = some (x4, x5) → ∀ (ls : Array Slot) (H : Heap) (locs : List Loc), lv_has ls 6 [(0, .ref (ad 0)), (1, .int p1), (2, .int p2), (3, .int p3), (4, .int z2), (5, .int z3)] → va_P (dC, dI) vwCl (wMO_residual ad cI cZ v_MO_size v_MO_loaded v_MO_at v_MO_fault v_MO_hasGiven v_MO_hasPicture v_MO_range v_MO_value v_MO_leaves v_mgiven v_mleft v_mtop v_msides v_mskips v_mlevels v_mfour v_mwave v_mscale) H → va_D A (wMO_residual ad cI cZ v_MO_size v_MO_loaded v_MO_at v_MO_fault v_MO_hasGiven v_MO_hasPicture v_MO_range v_MO_value v_MO_leaves v_mgiven v_mleft v_mtop v_msides v_mskips v_mlevels v_mfour v_mwave v_mscale) → va_S A s.heap H locs → W p l e rmMO_residual s m args below meth c H locs 0 0 Q (F0 m 36 ls []) := by
        intro n
        induction n with
        | zero => intro z2 z3 hL; exact (ip_lp2_0 hL).elim
        | succ n ih =>
          intro z2 z3 hL ls H locs hl hP hD hS
          clear hf
          obtain ⟨r9, hf, hr36⟩ := ip_lp2_s hL
          clear hL
          unfold fMO_residual_B36 at hf
          refine lv_iload hx hb dMO_residual_36 (lv_at hl 5 rfl) ?_
          refine lv_aload_n hx hb dMO_residual_38 rfl (lv_at hl 0 rfl) ?_
          refine va_get (D := (dC, dI)) (ci := 12) (v := .ref (ad 9)) (C := kR_MO) (T := kT_MO) (N := 32) hx hb hts kin_MO hown hK hP 0 rfl rfl 17 (by decide) (hts _ (List.mem_cons_of_mem _ kw3_204)) (fun _ h9 => h9) rfl dMO_residual_39 ?_
          refine lv_iload_n hx hb dMO_residual_42 rfl (lv_at hl 1 rfl) ?_
          refine ip_iald hx hb hK hP 4 0 rfl rfl dMO_residual_43 hf (fun z6 hf => ?_)
          refine ip_icmp_ge (tgt := 80) hx hb dMO_residual_44 rfl hf (fun hf => ?_) (fun hf => ?_)
          · have hx9 := ip_lp_x hr36 hf
            replace hl := lv_sub hl (l' := [(4, .int z2)]) [4] rfl
            cases hx9
            exact J80 ls H locs hl hP hD hS
          · refine lv_iload hx hb dMO_residual_47 (lv_at hl 4 rfl) ?_
            refine lv_aload_n hx hb dMO_residual_49 rfl (lv_at hl 0 rfl) ?_
            refine lv_aload_n hx hb dMO_residual_50 rfl (lv_at hl 0 rfl) ?_
            refine va_get (D := (dC, dI)) (ci := 12) (v := .ref (ad 9)) (C := kR_MO) (T := kT_MO) (N := 32) hx hb hts kin_MO hown hK hP 0 rfl rfl 17 (by decide) (hts _ (List.mem_cons_of_mem _ kw3_204)) (fun _ h9 => h9) rfl dMO_residual_51 ?_
            refine lv_iload_n hx hb dMO_residual_54 rfl (lv_at hl 1 rfl) ?_
            refine ip_iald hx hb hK hP 4 0 rfl rfl dMO_residual_55 hf (fun z7 hf => ?_)
            refine lv_iload hx hb dMO_residual_56 (lv_at hl 5 rfl) ?_
            refine lv_iload_n hx hb dMO_residual_58 rfl (lv_at hl 2 rfl) ?_
            obtain ⟨z8, hc, hf⟩ := ip_b1_e hf
            refine ip_calli (va_runV (As := [.int z7, .int z3, .int p2]) (rest := [.int z2]) ⟨hx, hb, hml, hown, hts⟩ (tMO_matrix (l := l) (dC := dC) (dI := dI) (ad := ad) (cI := cI) (ts := ts) (cZ := cZ) hc H.size) (cwV 3 hts (ip_gdV (own := kR_MO) (idx := 177) (C := kR_MO) (y := yMO_matrix) kw4_173 kw4_175 kws_61 kw1_13 kw4_176) rfl rfl rfl (by decide +kernel) ⟨Nat.le_of_ble_eq_true rfl, Nat.le_of_ble_eq_true rfl⟩) (ip_preV hK hP hD hS hA hZ [0, 7, 8] rfl rfl (ci := 12) (q0 := 0) rfl rfl) rfl rfl hl.1 rfl (lv_room (Nat.le_of_ble_eq_true rfl)) dMO_residual_59 ⟨Nat.le_of_ble_eq_true rfl, Nat.le_of_ble_eq_true rfl⟩) hP hD hS hA [0, 7, 8] [1, 2, 3, 4, 5, 6, 9] [7, 0, 1, 2, 3, 4, 5, 8, 9, 6] (wMO_residual ad cI cZ v_MO_size v_MO_loaded v_MO_at v_MO_fault v_MO_hasGiven v_MO_hasPicture v_MO_range v_MO_value v_MO_leaves v_mgiven v_mleft v_mtop v_msides v_mskips v_mlevels v_mfour v_mwave v_mscale) rfl rfl rfl (by decide) rfl rfl (fun H locs hP hD hS => ?_)
            clear hc
            refine lv_aload_n hx hb dMO_residual_62 rfl (lv_at hl 0 rfl) ?_
            refine lv_iload_n hx hb dMO_residual_63 rfl (lv_at hl 1 rfl) ?_
            refine lv_iload hx hb dMO_residual_64 (lv_at hl 5 rfl) ?_
            refine lv_iload_n hx hb dMO_residual_66 rfl (lv_at hl 3 rfl) ?_
            obtain ⟨z9, hc, hf⟩ := ip_b1_e hf
            refine ip_calli (va_runV (As := [.int p1, .int z3, .int p3]) (rest := [.int z8, .int z2]) ⟨hx, hb, hml, hown, hts⟩ (tMO_half (l := l) (dC := dC) (dI := dI) (ad := ad) (cI := cI) (ts := ts) (cZ := cZ) hc H.size) (cwV 3 hts (ip_gdV (own := kR_MO) (idx := 183) (C := kR_MO) (y := yMO_half) kw4_177 kw4_179 kws_62 kw1_13 kw4_180) rfl rfl rfl (by decide +kernel) ⟨Nat.le_of_ble_eq_true rfl, Nat.le_of_ble_eq_true rfl⟩) (ip_preV hK hP hD hS hA hZ [0, 1, 2, 3, 4, 6, 7, 8, 9] rfl rfl (ci := 12) (q0 := 0) rfl rfl) rfl rfl hl.1 rfl (lv_room (Nat.le_of_ble_eq_true rfl)) dMO_residual_67 ⟨Nat.le_of_ble_eq_true rfl, Nat.le_of_ble_eq_true rfl⟩) hP hD hS hA [0, 1, 2, 3, 4, 6, 7, 8, 9] [5] [1, 2, 3, 4, 5, 0, 6, 7, 8, 9] (wMO_residual ad cI cZ v_MO_size v_MO_loaded v_MO_at v_MO_fault v_MO_hasGiven v_MO_hasPicture v_MO_range v_MO_value v_MO_leaves v_mgiven v_mleft v_mtop v_msides v_mskips v_mlevels v_mfour v_mwave v_mscale) rfl rfl rfl (by decide) rfl rfl (fun H locs hP hD hS => ?_)
            clear hc
            refine lv_imul hx hb dMO_residual_70 ?_
            refine lv_iadd hx hb dMO_residual_71 ?_
            refine ip_top hf (fun z10 hf => ?_)
            refine lv_istore (lv' := [(4, .int z10), (0, .ref (ad 0)), (1, .int p1), (2, .int p2), (3, .int p3), (5, .int z3)]) hx hb dMO_residual_72 hl (by decide) rfl (fun ls hl => ?_)
            refine ip_iinc (k0 := 5) (v0 := (1 : Int32)) (lv1 := fun z11 => [(5, .int z11), (4, .int z10), (0, .ref (ad 0)), (1, .int p1), (2, .int p2), (3, .int p3)]) hx hb dMO_residual_74 hl rfl (by decide) (by decide) (fun _ => rfl) hf (fun z11 ls hf hl => ?_)
            refine lv_goto (tgt := 36) hx hb dMO_residual_77 rfl ?_
            replace hl := lv_sub hl (l' := [(0, .ref (ad 0)), (1, .int p1), (2, .int p2), (3, .int p3), (4, .int z10), (5, .int z11)]) [2, 3, 4, 5, 1, 0] rfl
            exact ih _ _ (ip_lp2_l hr36 hf) ls H locs hl hP hD hS
      exact L 1000 _ _ hL ls H locs hl hP hD hS
    intro ls H locs hl hP hD hS
    clear hL
    refine lv_iload hx hb dMO_residual_80 (lv_at hl 0 rfl) ?_
    refine lv_bipush (v := (12 : Int32)) hx hb dMO_residual_82 (by decide) ?_
    refine lv_ishr hx hb dMO_residual_84 ?_
    cases hf
    exact hret H locs 85 ls _ dMO_residual_85 rfl hP hD hS
  · refine lv_aload_n hx hb dMO_residual_9 rfl (lv_at hl 0 rfl) ?_
    refine lv_iload_n hx hb dMO_residual_10 rfl (lv_at hl 1 rfl) ?_
    refine lv_iload_n hx hb dMO_residual_11 rfl (lv_at hl 2 rfl) ?_
    refine lv_iload_n hx hb dMO_residual_12 rfl (lv_at hl 3 rfl) ?_
    obtain ⟨z12, hc, hf⟩ := ip_b1_e hf
    refine ip_calli (va_runV (As := [.int p1, .int p2, .int p3]) (rest := []) ⟨hx, hb, hml, hown, hts⟩ (tMO_coefficient (l := l) (dC := dC) (dI := dI) (ad := ad) (cI := cI) (ts := ts) (cZ := cZ) hc H.size) (cwV 3 hts (ip_gdV (own := kR_MO) (idx := 180) (C := kR_MO) (y := yMO_coefficient) kw4_166 kw4_168 kws_60 kw1_13 kw4_169) rfl rfl rfl (by decide +kernel) ⟨Nat.le_of_ble_eq_true rfl, Nat.le_of_ble_eq_true rfl⟩) (ip_preV hK hP hD hS hA hZ [0, 1, 2, 3, 4, 6, 9] rfl rfl (ci := 12) (q0 := 0) rfl rfl) rfl rfl hl.1 rfl (lv_room (Nat.le_of_ble_eq_true rfl)) dMO_residual_13 ⟨Nat.le_of_ble_eq_true rfl, Nat.le_of_ble_eq_true rfl⟩) hP hD hS hA [0, 1, 2, 3, 4, 6, 9] [5, 7, 8] [3, 4, 5, 6, 7, 0, 8, 1, 2, 9] (wMO_residual ad cI cZ v_MO_size v_MO_loaded v_MO_at v_MO_fault v_MO_hasGiven v_MO_hasPicture v_MO_range v_MO_value v_MO_leaves v_mgiven v_mleft v_mtop v_msides v_mskips v_mlevels v_mfour v_mwave v_mscale) rfl rfl rfl (by decide) rfl rfl (fun H locs hP hD hS => ?_)
    clear hc
    refine lv_sipush (v := (128 : Int32)) hx hb dMO_residual_16 (by decide) ?_
    refine lv_imul hx hb dMO_residual_19 ?_
    refine lv_sipush (v := (2048 : Int32)) hx hb dMO_residual_20 (by decide) ?_
    refine lv_iadd hx hb dMO_residual_23 ?_
    refine lv_bipush (v := (12 : Int32)) hx hb dMO_residual_24 (by decide) ?_
    refine lv_ishr hx hb dMO_residual_26 ?_
    cases hf
    exact hret H locs 27 ls _ dMO_residual_27 rfl hP hD hS
