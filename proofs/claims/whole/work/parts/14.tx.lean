set_option maxHeartbeats 4000000 in
set_option maxRecDepth 100000 in
theorem tIP_bring {l : Launch} {dC : Nat → ClassId} {dI : Nat → Nat → Nat} {cI : ClassId} {ad : Nat → Nat} {ts : ip_TT}  {p1 : Int32} {p2 : Int32} {p3 : Int32} {r0 : Int32}  (hf : fIP_bring p1 p2 p3 = some r0) : ip_Mi l yIP_bring wsIP_bring rmIP_bring (dC, dI) vwCl [(cI, .int)] ts [.int p1, .int p2, .int p3] (wIP_bring ad cI) (wIP_bring ad cI) r0 := by
  refine ip_startI (cc := cIP_bring) (maxL := 3) (by decide) rfl (Nat.le_of_ble_eq_true rfl) ?_
  intro p e s m args below meth c Q A ls hx hb hml hts hown hK hP hD hS hA hZ hl hret
  replace hl : lv_has ls 3 [(0, .int p1), (1, .int p2), (2, .int p3)] := hl
  unfold fIP_bring at hf
  suffices J0 : ∀ (ls : Array Slot) (H : Heap) (locs : List Loc), lv_has ls 3 [(0, .int p1), (1, .int p2), (2, .int p3)] → va_P (dC, dI) vwCl (wIP_bring ad cI) H → va_D A (wIP_bring ad cI) → va_S A s.heap H locs → W p l e rmIP_bring s m args below meth c H locs 0 0 Q (F0 m 0 ls []) by exact J0 ls s.heap [] hl hP hD hS
  clear hP hD hS hl
  intro ls H locs hl hP hD hS
  refine lv_iload_n hx hb dIP_bring_0 rfl (lv_at hl 1 rfl) ?_
  refine lv_iload_n hx hb dIP_bring_1 rfl (lv_at hl 2 rfl) ?_
  refine lv_iload_n hx hb dIP_bring_2 rfl (lv_at hl 0 rfl) ?_
  refine va_mmin hx hb (by rw [hml]; exact hl.1.symm) hown (hts _ (List.mem_cons_of_mem _ kw3_15)) (hts _ (List.mem_cons_of_mem _ kw3_16)) (hts _ (List.mem_cons_of_mem _ kw1_16)) (hts _ (List.mem_cons_of_mem _ kw3_17)) (Nat.le_of_ble_eq_true rfl) (Nat.le_of_ble_eq_true rfl) (Nat.le_of_ble_eq_true rfl) (Nat.le_of_ble_eq_true rfl) dIP_bring_3 ?_
  refine ip_top hf (fun z1 hf => ?_)
  refine va_mmax hx hb (by rw [hml]; exact hl.1.symm) hown (hts _ (List.mem_cons_of_mem _ kw3_18)) (hts _ (List.mem_cons_of_mem _ kw3_19)) (hts _ (List.mem_cons_of_mem _ kw1_16)) (hts _ (List.mem_cons_of_mem _ kw3_20)) (Nat.le_of_ble_eq_true rfl) (Nat.le_of_ble_eq_true rfl) (Nat.le_of_ble_eq_true rfl) (Nat.le_of_ble_eq_true rfl) dIP_bring_6 ?_
  refine ip_top hf (fun z2 hf => ?_)
  cases hf
  exact hret H locs 9 ls _ dIP_bring_9 rfl hP hD hS
set_option maxHeartbeats 4000000 in
set_option maxRecDepth 100000 in
theorem tRS_scaleLevels {l : Launch} {dC : Nat → ClassId} {dI : Nat → Nat → Nat} {cI : ClassId} {ad : Nat → Nat} {t0 t1 t2 t3 : Nat} {v_LF_x : Int32} {v_LF_y : Int32} {v_LF_side : Int32} {v_LF_mode : Int32} {v_LF_skip : Int32} {v_aLevels : Nat → Int32} {v_aCoef : Nat → Int32} {p2 : Int32} {nv_aCoef : Nat → Int32} (hf : fRS_scaleLevels v_LF_x v_LF_y v_LF_side v_LF_mode v_LF_skip v_aLevels v_aCoef p2 = some nv_aCoef) : ip_Mv l yRS_scaleLevels wsRS_scaleLevels rmRS_scaleLevels (dC, dI) vwCl [(cI, .int)] (ip_TS t0 t1 t2 t3) [.ref (ad 9), .ref (ad 5), .int p2] (wRS_scaleLevels ad cI v_LF_x v_LF_y v_LF_side v_LF_mode v_LF_skip v_aLevels v_aCoef) (wRS_scaleLevels ad cI v_LF_x v_LF_y v_LF_side v_LF_mode v_LF_skip v_aLevels nv_aCoef) := by
  refine ip_startV (cc := cRS_scaleLevels) (maxL := 8) (by decide) rfl (Nat.le_of_ble_eq_true rfl) ?_
  intro p e s m args below meth c Q A ls hx hb hml hts hown hK hP hD hS hA hZ hl hret
  replace hl : lv_has ls 8 [(0, .ref (ad 9)), (1, .ref (ad 5)), (2, .int p2)] := hl
  unfold fRS_scaleLevels at hf
  suffices J0 : ∀ (ls : Array Slot) (H : Heap) (locs : List Loc), lv_has ls 8 [(0, .ref (ad 9)), (1, .ref (ad 5)), (2, .int p2)] → va_P (dC, dI) vwCl (wRS_scaleLevels ad cI v_LF_x v_LF_y v_LF_side v_LF_mode v_LF_skip v_aLevels v_aCoef) H → va_D A (wRS_scaleLevels ad cI v_LF_x v_LF_y v_LF_side v_LF_mode v_LF_skip v_aLevels v_aCoef) → va_S A s.heap H locs → W p l e rmRS_scaleLevels s m args below meth c H locs 0 0 Q (F0 m 0 ls []) by exact J0 ls s.heap [] hl hP hD hS
  clear hP hD hS hl
  intro ls H locs hl hP hD hS
  refine lv_aload_n hx hb dRS_scaleLevels_0 rfl (lv_at hl 1 rfl) ?_
  refine va_get (D := (dC, dI)) (ci := 5) (v := .int v_LF_side) (C := kR_LF) (T := kT_LF) (N := 5) hx hb hts kin_LF hown hK hP 0 rfl rfl 2 (by decide) (hts _ (List.mem_cons_of_mem _ kw1_173)) (fun _ h9 => h9) rfl dRS_scaleLevels_1 ?_
  refine lv_iconst (v := (4 : Int32)) hx hb dRS_scaleLevels_4 (by decide) ?_
  obtain ⟨z1, hh, hf⟩ := ip_b1_e hf
  suffices J13 : ∀ (ls : Array Slot) (H : Heap) (locs : List Loc), lv_has ls 8 [(0, .ref (ad 9)), (1, .ref (ad 5)), (2, .int p2)] → va_P (dC, dI) vwCl (wRS_scaleLevels ad cI v_LF_x v_LF_y v_LF_side v_LF_mode v_LF_skip v_aLevels v_aCoef) H → va_D A (wRS_scaleLevels ad cI v_LF_x v_LF_y v_LF_side v_LF_mode v_LF_skip v_aLevels v_aCoef) → va_S A s.heap H locs → W p l e rmRS_scaleLevels s m args below meth c H locs 0 0 Q (F0 m 13 ls [.int z1]) by
    replace hf := hh
    refine ip_icmp_ne (tgt := 12) hx hb dRS_scaleLevels_5 rfl hf (fun hf => ?_) (fun hf => ?_)
    · refine lv_iconst (v := (2 : Int32)) hx hb dRS_scaleLevels_12 (by decide) ?_
      cases hf
      exact J13 ls H locs hl hP hD hS
    · refine lv_iconst (v := (1 : Int32)) hx hb dRS_scaleLevels_8 (by decide) ?_
      refine lv_goto (tgt := 13) hx hb dRS_scaleLevels_9 rfl ?_
      cases hf
      exact J13 ls H locs hl hP hD hS
  intro ls H locs hl hP hD hS
  clear hh
  refine lv_istore_n (lv' := [(3, .int z1), (0, .ref (ad 9)), (1, .ref (ad 5)), (2, .int p2)]) hx hb dRS_scaleLevels_13 rfl hl (by decide) rfl (fun ls hl => ?_)
  refine lv_iconst (v := (1 : Int32)) hx hb dRS_scaleLevels_14 (by decide) ?_
  refine lv_iload_n hx hb dRS_scaleLevels_15 rfl (lv_at hl 0 rfl) ?_
  refine lv_iconst (v := (1 : Int32)) hx hb dRS_scaleLevels_16 (by decide) ?_
  refine lv_isub hx hb dRS_scaleLevels_17 ?_
  refine lv_ishl hx hb dRS_scaleLevels_18 ?_
  refine ip_top hf (fun z2 hf => ?_)
  refine lv_istore (lv' := [(4, .int z2), (3, .int z1), (0, .ref (ad 9)), (1, .ref (ad 5)), (2, .int p2)]) hx hb dRS_scaleLevels_19 hl (by decide) rfl (fun ls hl => ?_)
  refine lv_iconst (v := (0 : Int32)) hx hb dRS_scaleLevels_21 (by decide) ?_
  refine lv_istore (lv' := [(5, .int (0 : Int32)), (4, .int z2), (3, .int z1), (0, .ref (ad 9)), (1, .ref (ad 5)), (2, .int p2)]) hx hb dRS_scaleLevels_22 hl (by decide) rfl (fun ls hl => ?_)
  replace hl := lv_sub hl (l' := [(0, .ref (ad 9)), (1, .ref (ad 5)), (2, .int p2), (3, .int z1), (4, .int z2), (5, .int (0 : Int32))]) [3, 4, 5, 2, 1, 0] rfl
  obtain ⟨x5, y6, hL, hf⟩ := ip_b2_e hf
  suffices J117 : ∀ (ls : Array Slot) (H : Heap) (locs : List Loc), lv_has ls 8 [] → va_P (dC, dI) vwCl (wRS_scaleLevels ad cI v_LF_x v_LF_y v_LF_side v_LF_mode v_LF_skip v_aLevels y6) H → va_D A (wRS_scaleLevels ad cI v_LF_x v_LF_y v_LF_side v_LF_mode v_LF_skip v_aLevels y6) → va_S A s.heap H locs → W p l e rmRS_scaleLevels s m args below meth c H locs 0 0 Q (F0 m 117 ls []) by
    have L : ∀ (n : Nat) (z3 : Int32) (g4 : Nat → Int32), ip_lp2 (fRS_scaleLevels_B24 v_LF_x v_LF_y v_LF_side v_LF_mode v_LF_skip v_aLevels p2 z1 z2) n z3 g4 = some (x5, y6) → ∀ (ls : Array Slot) (H : Heap) (locs : List Loc), lv_has ls 8 [(0, .ref (ad 9)), (1, .ref (ad 5)), (2, .int p2), (3, .int z1), (4, .int z2), (5, .int z3)] → va_P (dC, dI) vwCl (wRS_scaleLevels ad cI v_LF_x v_LF_y v_LF_side v_LF_mode v_LF_skip v_aLevels g4) H → va_D A (wRS_scaleLevels ad cI v_LF_x v_LF_y v_LF_side v_LF_mode v_LF_skip v_aLevels g4) → va_S A s.heap H locs → W p l e rmRS_scaleLevels s m args below meth c H locs 0 0 Q (F0 m 24 ls []) := by
      intro n
      induction n with
      | zero => intro z3 g4 hL; exact (ip_lp2_0 hL).elim
      | succ n ih =>
        intro z3 g4 hL ls H locs hl hP hD hS
        clear hf
        obtain ⟨r9, hf, hr24⟩ := ip_lp2_s hL
        clear hL
        unfold fRS_scaleLevels_B24 at hf
        refine lv_iload hx hb dRS_scaleLevels_24 (lv_at hl 5 rfl) ?_
        refine lv_aload_n hx hb dRS_scaleLevels_26 rfl (lv_at hl 1 rfl) ?_
        refine va_get (D := (dC, dI)) (ci := 5) (v := .int v_LF_side) (C := kR_LF) (T := kT_LF) (N := 5) hx hb hts kin_LF hown hK hP 0 rfl rfl 2 (by decide) (hts _ (List.mem_cons_of_mem _ kw1_173)) (fun _ h9 => h9) rfl dRS_scaleLevels_27 ?_
        refine ip_icmp_ge (tgt := 117) hx hb dRS_scaleLevels_30 rfl hf (fun hf => ?_) (fun hf => ?_)
        · have hx9 := ip_lp_x hr24 hf
          replace hl := lv_sub hl (l' := []) [] rfl
          cases hx9
          exact J117 ls H locs hl hP hD hS
        · refine lv_iconst (v := (0 : Int32)) hx hb dRS_scaleLevels_33 (by decide) ?_
          refine lv_istore (lv' := [(6, .int (0 : Int32)), (0, .ref (ad 9)), (1, .ref (ad 5)), (2, .int p2), (3, .int z1), (4, .int z2), (5, .int z3)]) hx hb dRS_scaleLevels_34 hl (by decide) rfl (fun ls hl => ?_)
          replace hl := lv_sub hl (l' := [(0, .ref (ad 9)), (1, .ref (ad 5)), (2, .int p2), (3, .int z1), (4, .int z2), (5, .int z3), (6, .int (0 : Int32))]) [1, 2, 3, 4, 5, 6, 0] rfl
          obtain ⟨x9, y10, hL, hf⟩ := ip_b2_e hf
          suffices J111 : ∀ (ls : Array Slot) (H : Heap) (locs : List Loc), lv_has ls 8 [(0, .ref (ad 9)), (1, .ref (ad 5)), (2, .int p2), (3, .int z1), (4, .int z2), (5, .int z3)] → va_P (dC, dI) vwCl (wRS_scaleLevels ad cI v_LF_x v_LF_y v_LF_side v_LF_mode v_LF_skip v_aLevels y10) H → va_D A (wRS_scaleLevels ad cI v_LF_x v_LF_y v_LF_side v_LF_mode v_LF_skip v_aLevels y10) → va_S A s.heap H locs → W p l e rmRS_scaleLevels s m args below meth c H locs 0 0 Q (F0 m 111 ls []) by
            have L : ∀ (n : Nat) (z7 : Int32) (g8 : Nat → Int32), ip_lp2 (fRS_scaleLevels_B36 v_LF_x v_LF_y v_LF_side v_LF_mode v_LF_skip v_aLevels p2 z1 z2 z3) n z7 g8 = some (x9, y10) → ∀ (ls : Array Slot) (H : Heap) (locs : List Loc), lv_has ls 8 [(0, .ref (ad 9)), (1, .ref (ad 5)), (2, .int p2), (3, .int z1), (4, .int z2), (5, .int z3), (6, .int z7)] → va_P (dC, dI) vwCl (wRS_scaleLevels ad cI v_LF_x v_LF_y v_LF_side v_LF_mode v_LF_skip v_aLevels g8) H → va_D A (wRS_scaleLevels ad cI v_LF_x v_LF_y v_LF_side v_LF_mode v_LF_skip v_aLevels g8) → va_S A s.heap H locs → W p l e rmRS_scaleLevels s m args below meth c H locs 0 0 Q (F0 m 36 ls []) := by
              intro n
              induction n with
              | zero => intro z7 g8 hL; exact (ip_lp2_0 hL).elim
              | succ n ih =>
                intro z7 g8 hL ls H locs hl hP hD hS
                clear hf
                obtain ⟨r9, hf, hr36⟩ := ip_lp2_s hL
                clear hL
                unfold fRS_scaleLevels_B36 at hf
                refine lv_iload hx hb dRS_scaleLevels_36 (lv_at hl 6 rfl) ?_
                refine lv_aload_n hx hb dRS_scaleLevels_38 rfl (lv_at hl 1 rfl) ?_
                refine va_get (D := (dC, dI)) (ci := 5) (v := .int v_LF_side) (C := kR_LF) (T := kT_LF) (N := 5) hx hb hts kin_LF hown hK hP 0 rfl rfl 2 (by decide) (hts _ (List.mem_cons_of_mem _ kw1_173)) (fun _ h9 => h9) rfl dRS_scaleLevels_39 ?_
                refine ip_icmp_ge (tgt := 111) hx hb dRS_scaleLevels_42 rfl hf (fun hf => ?_) (fun hf => ?_)
                · have hx9 := ip_lp_x hr36 hf
                  replace hl := lv_sub hl (l' := [(0, .ref (ad 9)), (1, .ref (ad 5)), (2, .int p2), (3, .int z1), (4, .int z2), (5, .int z3)]) [0, 1, 2, 3, 4, 5] rfl
                  cases hx9
                  exact J111 ls H locs hl hP hD hS
                · refine lv_aload_n hx hb dRS_scaleLevels_45 rfl (lv_at hl 0 rfl) ?_
                  refine va_get (D := (dC, dI)) (ci := 9) (v := .ref (ad 21)) (C := kR_RS) (T := kT_RS) (N := 4) hx hb hts kin_RS hown hK hP 1 rfl rfl 0 (by decide) (hts _ (List.mem_cons_of_mem _ kw1_222)) (fun _ h9 => h9) rfl dRS_scaleLevels_46 ?_
                  refine lv_aload_n hx hb dRS_scaleLevels_49 rfl (lv_at hl 1 rfl) ?_
                  refine lv_iload hx hb dRS_scaleLevels_50 (lv_at hl 6 rfl) ?_
                  refine lv_iload hx hb dRS_scaleLevels_52 (lv_at hl 5 rfl) ?_
                  obtain ⟨z11, hc, hf⟩ := ip_b1_e hf
                  refine ip_calli (va_runV (As := [.int z7, .int z3]) (rest := [.ref (ad 21)]) ⟨hx, hb, hml, hown, hts⟩ (tLF_placeInPicture (l := l) (dC := dC) (dI := dI) (ad := ad) (cI := cI) (ts := (ip_TS t0 t1 t2 t3)) hc H.size) (cwV 2 hts (ip_gdV (own := kR_RS) (idx := 46) (C := kR_LF) (y := yLF_placeInPicture) kw3_9 kw2_199 kw2_200 kw1_8 kw2_201) rfl rfl rfl (by decide +kernel) ⟨Nat.le_of_ble_eq_true rfl, Nat.le_of_ble_eq_true rfl⟩) (ip_preV hK hP hD hS hA hZ [0] rfl rfl (ci := 5) (q0 := 0) rfl rfl) rfl rfl hl.1 rfl (lv_room (Nat.le_of_ble_eq_true rfl)) dRS_scaleLevels_54 ⟨Nat.le_of_ble_eq_true rfl, Nat.le_of_ble_eq_true rfl⟩) hP hD hS hA [0] [1, 2, 3] [3, 0, 1, 2] (wRS_scaleLevels ad cI v_LF_x v_LF_y v_LF_side v_LF_mode v_LF_skip v_aLevels g8) rfl rfl rfl (by decide) rfl rfl (fun H locs hP hD hS => ?_)
                  clear hc
                  refine ip_iald hx hb hK hP 2 0 rfl rfl dRS_scaleLevels_57 hf (fun z12 hf => ?_)
                  refine ip_gets (own := kR_RS) hx hb hZ hS 1 rfl hown (hts _ (List.mem_cons_of_mem _ kw3_10)) dRS_scaleLevels_58 ?_
                  refine lv_iload_n hx hb dRS_scaleLevels_61 rfl (lv_at hl 2 rfl) ?_
                  refine lv_bipush (v := (6 : Int32)) hx hb dRS_scaleLevels_62 (by decide) ?_
                  refine lv_irem hx hb dRS_scaleLevels_64 (by decide) ?_
                  refine ip_tald hx hb hZ hS 1 rfl dRS_scaleLevels_65 hf (fun z13 hf => ?_)
                  refine lv_imul hx hb dRS_scaleLevels_66 ?_
                  refine lv_iload_n hx hb dRS_scaleLevels_67 rfl (lv_at hl 2 rfl) ?_
                  refine lv_bipush (v := (6 : Int32)) hx hb dRS_scaleLevels_68 (by decide) ?_
                  refine lv_idiv hx hb dRS_scaleLevels_70 (by decide) ?_
                  refine lv_ishl hx hb dRS_scaleLevels_71 ?_
                  refine ip_top hf (fun z14 hf => ?_)
                  refine lv_istore (lv' := [(7, .int z14), (0, .ref (ad 9)), (1, .ref (ad 5)), (2, .int p2), (3, .int z1), (4, .int z2), (5, .int z3), (6, .int z7)]) hx hb dRS_scaleLevels_72 hl (by decide) rfl (fun ls hl => ?_)
                  refine lv_aload_n hx hb dRS_scaleLevels_74 rfl (lv_at hl 1 rfl) ?_
                  refine va_get (D := (dC, dI)) (ci := 9) (v := .ref (ad 25)) (C := kR_RS) (T := kT_RS) (N := 4) hx hb hts kin_RS hown hK hP 1 rfl rfl 1 (by decide) (hts _ (List.mem_cons_of_mem _ kw1_223)) (fun _ h9 => h9) rfl dRS_scaleLevels_75 ?_
                  refine lv_iload hx hb dRS_scaleLevels_78 (lv_at hl 6 rfl) ?_
                  refine lv_aload_n hx hb dRS_scaleLevels_80 rfl (lv_at hl 2 rfl) ?_
                  refine va_get (D := (dC, dI)) (ci := 5) (v := .int v_LF_side) (C := kR_LF) (T := kT_LF) (N := 5) hx hb hts kin_LF hown hK hP 0 rfl rfl 2 (by decide) (hts _ (List.mem_cons_of_mem _ kw1_173)) (fun _ h9 => h9) rfl dRS_scaleLevels_81 ?_
                  refine lv_imul hx hb dRS_scaleLevels_84 ?_
                  refine lv_iload hx hb dRS_scaleLevels_85 (lv_at hl 7 rfl) ?_
                  refine lv_iadd hx hb dRS_scaleLevels_87 ?_
                  refine lv_iload hx hb dRS_scaleLevels_88 (lv_at hl 0 rfl) ?_
                  refine lv_iload hx hb dRS_scaleLevels_90 (lv_at hl 5 rfl) ?_
                  refine lv_iadd hx hb dRS_scaleLevels_92 ?_
                  refine lv_iload_n hx hb dRS_scaleLevels_93 rfl (lv_at hl 4 rfl) ?_
                  refine lv_ishr hx hb dRS_scaleLevels_94 ?_
                  refine lv_sipush (v := (-32768 : Int32)) hx hb dRS_scaleLevels_95 (by decide) ?_
                  refine lv_sipush (v := (32767 : Int32)) hx hb dRS_scaleLevels_98 (by decide) ?_
                  obtain ⟨z15, hc, hf⟩ := ip_b1_e hf
                  refine ip_calli (va_runSN (As := [.int ((z14 + z2) >>> (z1 &&& 31)), .int (-32768 : Int32), .int (32767 : Int32)]) (rest := [.int ((z3 * v_LF_side) + z7), .ref (ad 25)]) ⟨hx, hb, hml, hown, hts⟩ (tIP_bring (l := l) (dC := dC) (dI := dI) (ad := ad) (cI := cI) (ts := (ip_TS t0 t1 t2 t3)) hc H.size) ⟨va_cnB 3 hts (ip_gd kw3_14) rfl rfl rfl (hZ.2 6 _ rfl) (hts _ (List.mem_cons_of_mem _ kw1_1)) (by decide +kernel) ⟨Nat.le_of_ble_eq_true rfl, Nat.le_of_ble_eq_true rfl⟩, (hts _ (List.mem_cons_of_mem _ kw3_13)), trivial⟩ (ip_preS hK hP hD hS hA hZ [] rfl rfl) rfl rfl hl.1 rfl (lv_room (Nat.le_of_ble_eq_true rfl)) dRS_scaleLevels_101 ⟨Nat.le_of_ble_eq_true rfl, Nat.le_of_ble_eq_true rfl⟩) hP hD hS hA [] [0, 1, 2, 3] [0, 1, 2, 3] (wRS_scaleLevels ad cI v_LF_x v_LF_y v_LF_side v_LF_mode v_LF_skip v_aLevels g8) rfl rfl rfl (by decide) rfl rfl (fun H locs hP hD hS => ?_)
                  clear hc
                  refine ip_iast hx hb hK hP hD hS 3 0 rfl rfl (fun g16 => (wRS_scaleLevels ad cI v_LF_x v_LF_y v_LF_side v_LF_mode v_LF_skip v_aLevels g16)) (fun _ => rfl) dRS_scaleLevels_104 hf (fun g16 H locs hf hP hD hS => ?_)
                  refine ip_iinc (k0 := 7) (v0 := (1 : Int32)) (lv1 := fun z17 => [(6, .int z17), (7, .int z14), (0, .ref (ad 9)), (1, .ref (ad 5)), (2, .int p2), (3, .int z1), (4, .int z2), (5, .int z3)]) hx hb dRS_scaleLevels_105 hl rfl (by decide) (by decide) (fun _ => rfl) hf (fun z17 ls hf hl => ?_)
                  refine lv_goto (tgt := 36) hx hb dRS_scaleLevels_108 rfl ?_
                  replace hl := lv_sub hl (l' := [(0, .ref (ad 9)), (1, .ref (ad 5)), (2, .int p2), (3, .int z1), (4, .int z2), (5, .int z3), (6, .int z17)]) [2, 3, 4, 5, 6, 7, 0] rfl
                  exact ih _ _ (ip_lp2_l hr36 hf) ls H locs hl hP hD hS
            exact L 1000 _ _ hL ls H locs hl hP hD hS
          intro ls H locs hl hP hD hS
          clear hL
          refine ip_iinc (k0 := 5) (v0 := (1 : Int32)) (lv1 := fun z18 => [(5, .int z18), (0, .ref (ad 9)), (1, .ref (ad 5)), (2, .int p2), (3, .int z1), (4, .int z2)]) hx hb dRS_scaleLevels_111 hl rfl (by decide) (by decide) (fun _ => rfl) hf (fun z18 ls hf hl => ?_)
          refine lv_goto (tgt := 24) hx hb dRS_scaleLevels_114 rfl ?_
          replace hl := lv_sub hl (l' := [(0, .ref (ad 9)), (1, .ref (ad 5)), (2, .int p2), (3, .int z1), (4, .int z2), (5, .int z18)]) [1, 2, 3, 4, 5, 0] rfl
          exact ih _ _ (ip_lp2_l hr24 hf) ls H locs hl hP hD hS
    exact L 1000 _ _ hL ls H locs hl hP hD hS
  intro ls H locs hl hP hD hS
  clear hL
  cases hf
  exact hret H locs 117 ls dRS_scaleLevels_117 hP hD hS
set_option maxHeartbeats 4000000 in
set_option maxRecDepth 100000 in
theorem tRS_scaleWithoutMatrix {l : Launch} {dC : Nat → ClassId} {dI : Nat → Nat → Nat} {cI : ClassId} {ad : Nat → Nat} {ts : ip_TT} {v_aCoef : Nat → Int32} {v_aResult : Nat → Int32} {p1 : Int32} {nv_aResult : Nat → Int32} (hf : fRS_scaleWithoutMatrix v_aCoef v_aResult p1 = some nv_aResult) : ip_Mv l yRS_scaleWithoutMatrix wsRS_scaleWithoutMatrix rmRS_scaleWithoutMatrix (dC, dI) vwCl [(cI, .int)] ts [.ref (ad 9), .int p1] (wRS_scaleWithoutMatrix ad cI v_aCoef v_aResult) (wRS_scaleWithoutMatrix ad cI v_aCoef nv_aResult) := by
  refine ip_startV (cc := cRS_scaleWithoutMatrix) (maxL := 3) (by decide) rfl (Nat.le_of_ble_eq_true rfl) ?_
  intro p e s m args below meth c Q A ls hx hb hml hts hown hK hP hD hS hA hZ hl hret
  replace hl : lv_has ls 3 [(0, .ref (ad 9)), (1, .int p1)] := hl
  unfold fRS_scaleWithoutMatrix at hf
  suffices J0 : ∀ (ls : Array Slot) (H : Heap) (locs : List Loc), lv_has ls 3 [(0, .ref (ad 9)), (1, .int p1)] → va_P (dC, dI) vwCl (wRS_scaleWithoutMatrix ad cI v_aCoef v_aResult) H → va_D A (wRS_scaleWithoutMatrix ad cI v_aCoef v_aResult) → va_S A s.heap H locs → W p l e rmRS_scaleWithoutMatrix s m args below meth c H locs 0 0 Q (F0 m 0 ls []) by exact J0 ls s.heap [] hl hP hD hS
  clear hP hD hS hl
  intro ls H locs hl hP hD hS
  refine lv_iconst (v := (0 : Int32)) hx hb dRS_scaleWithoutMatrix_0 (by decide) ?_
  refine lv_istore_n (lv' := [(2, .int (0 : Int32)), (0, .ref (ad 9)), (1, .int p1)]) hx hb dRS_scaleWithoutMatrix_1 rfl hl (by decide) rfl (fun ls hl => ?_)
  replace hl := lv_sub hl (l' := [(0, .ref (ad 9)), (1, .int p1), (2, .int (0 : Int32))]) [1, 2, 0] rfl
  obtain ⟨x3, y4, hL, hf⟩ := ip_b2_e hf
  suffices J38 : ∀ (ls : Array Slot) (H : Heap) (locs : List Loc), lv_has ls 3 [] → va_P (dC, dI) vwCl (wRS_scaleWithoutMatrix ad cI v_aCoef y4) H → va_D A (wRS_scaleWithoutMatrix ad cI v_aCoef y4) → va_S A s.heap H locs → W p l e rmRS_scaleWithoutMatrix s m args below meth c H locs 0 0 Q (F0 m 38 ls []) by
    have L : ∀ (n : Nat) (z1 : Int32) (g2 : Nat → Int32), ip_lp2 (fRS_scaleWithoutMatrix_B2 v_aCoef p1) n z1 g2 = some (x3, y4) → ∀ (ls : Array Slot) (H : Heap) (locs : List Loc), lv_has ls 3 [(0, .ref (ad 9)), (1, .int p1), (2, .int z1)] → va_P (dC, dI) vwCl (wRS_scaleWithoutMatrix ad cI v_aCoef g2) H → va_D A (wRS_scaleWithoutMatrix ad cI v_aCoef g2) → va_S A s.heap H locs → W p l e rmRS_scaleWithoutMatrix s m args below meth c H locs 0 0 Q (F0 m 2 ls []) := by
      intro n
      induction n with
      | zero => intro z1 g2 hL; exact (ip_lp2_0 hL).elim
      | succ n ih =>
        intro z1 g2 hL ls H locs hl hP hD hS
        clear hf
        obtain ⟨r9, hf, hr2⟩ := ip_lp2_s hL
        clear hL
        unfold fRS_scaleWithoutMatrix_B2 at hf
        refine lv_iload_n hx hb dRS_scaleWithoutMatrix_2 rfl (lv_at hl 2 rfl) ?_
        refine lv_iload_n hx hb dRS_scaleWithoutMatrix_3 rfl (lv_at hl 1 rfl) ?_
        refine lv_iload_n hx hb dRS_scaleWithoutMatrix_4 rfl (lv_at hl 1 rfl) ?_
        refine lv_imul hx hb dRS_scaleWithoutMatrix_5 ?_
        refine ip_icmp_ge (tgt := 38) hx hb dRS_scaleWithoutMatrix_6 rfl hf (fun hf => ?_) (fun hf => ?_)
        · have hx9 := ip_lp_x hr2 hf
          replace hl := lv_sub hl (l' := []) [] rfl
          cases hx9
          exact J38 ls H locs hl hP hD hS
        · refine lv_aload_n hx hb dRS_scaleWithoutMatrix_9 rfl (lv_at hl 0 rfl) ?_
          refine va_get (D := (dC, dI)) (ci := 9) (v := .ref (ad 27)) (C := kR_RS) (T := kT_RS) (N := 4) hx hb hts kin_RS hown hK hP 0 rfl rfl 3 (by decide) (hts _ (List.mem_cons_of_mem _ kw1_225)) (fun _ h9 => h9) rfl dRS_scaleWithoutMatrix_10 ?_
          refine lv_iload_n hx hb dRS_scaleWithoutMatrix_13 rfl (lv_at hl 2 rfl) ?_
          refine lv_aload_n hx hb dRS_scaleWithoutMatrix_14 rfl (lv_at hl 0 rfl) ?_
          refine va_get (D := (dC, dI)) (ci := 9) (v := .ref (ad 25)) (C := kR_RS) (T := kT_RS) (N := 4) hx hb hts kin_RS hown hK hP 0 rfl rfl 1 (by decide) (hts _ (List.mem_cons_of_mem _ kw1_223)) (fun _ h9 => h9) rfl dRS_scaleWithoutMatrix_15 ?_
          refine lv_iload_n hx hb dRS_scaleWithoutMatrix_18 rfl (lv_at hl 2 rfl) ?_
          refine ip_iald hx hb hK hP 1 0 rfl rfl dRS_scaleWithoutMatrix_19 hf (fun z5 hf => ?_)
          refine lv_sipush (v := (128 : Int32)) hx hb dRS_scaleWithoutMatrix_20 (by decide) ?_
          refine lv_imul hx hb dRS_scaleWithoutMatrix_23 ?_
          refine lv_sipush (v := (2048 : Int32)) hx hb dRS_scaleWithoutMatrix_24 (by decide) ?_
          refine lv_iadd hx hb dRS_scaleWithoutMatrix_27 ?_
          refine lv_bipush (v := (12 : Int32)) hx hb dRS_scaleWithoutMatrix_28 (by decide) ?_
          refine lv_ishr hx hb dRS_scaleWithoutMatrix_30 ?_
          refine ip_iast hx hb hK hP hD hS 2 0 rfl rfl (fun g6 => (wRS_scaleWithoutMatrix ad cI v_aCoef g6)) (fun _ => rfl) dRS_scaleWithoutMatrix_31 hf (fun g6 H locs hf hP hD hS => ?_)
          refine ip_iinc (k0 := 2) (v0 := (1 : Int32)) (lv1 := fun z7 => [(2, .int z7), (0, .ref (ad 9)), (1, .int p1)]) hx hb dRS_scaleWithoutMatrix_32 hl rfl (by decide) (by decide) (fun _ => rfl) hf (fun z7 ls hf hl => ?_)
          refine lv_goto (tgt := 2) hx hb dRS_scaleWithoutMatrix_35 rfl ?_
          replace hl := lv_sub hl (l' := [(0, .ref (ad 9)), (1, .int p1), (2, .int z7)]) [1, 2, 0] rfl
          exact ih _ _ (ip_lp2_l hr2 hf) ls H locs hl hP hD hS
    exact L 1000 _ _ hL ls H locs hl hP hD hS
  intro ls H locs hl hP hD hS
  clear hL
  cases hf
  exact hret H locs 38 ls dRS_scaleWithoutMatrix_38 hP hD hS
set_option maxHeartbeats 4000000 in
set_option maxRecDepth 100000 in
theorem tRS_matrix {l : Launch} {dC : Nat → ClassId} {dI : Nat → Nat → Nat} {cI : ClassId} {ad : Nat → Nat} {t0 t1 t2 t3 : Nat}  {p1 : Int32} {p2 : Int32} {p3 : Int32} {r0 : Int32}  (hf : fRS_matrix p1 p2 p3 = some r0) : ip_Mi l yRS_matrix wsRS_matrix rmRS_matrix (dC, dI) vwCl [(cI, .int)] (ip_TS t0 t1 t2 t3) [.int p1, .int p2, .int p3] (wRS_matrix ad cI) (wRS_matrix ad cI) r0 := by
  refine ip_startI (cc := cRS_matrix) (maxL := 3) (by decide) rfl (Nat.le_of_ble_eq_true rfl) ?_
  intro p e s m args below meth c Q A ls hx hb hml hts hown hK hP hD hS hA hZ hl hret
  replace hl : lv_has ls 3 [(0, .int p1), (1, .int p2), (2, .int p3)] := hl
  unfold fRS_matrix at hf
  suffices J0 : ∀ (ls : Array Slot) (H : Heap) (locs : List Loc), lv_has ls 3 [(0, .int p1), (1, .int p2), (2, .int p3)] → va_P (dC, dI) vwCl (wRS_matrix ad cI) H → va_D A (wRS_matrix ad cI) → va_S A s.heap H locs → W p l e rmRS_matrix s m args below meth c H locs 0 0 Q (F0 m 0 ls []) by exact J0 ls s.heap [] hl hP hD hS
  clear hP hD hS hl
  intro ls H locs hl hP hD hS
  refine lv_iload_n hx hb dRS_matrix_0 rfl (lv_at hl 0 rfl) ?_
  refine lv_iconst (v := (4 : Int32)) hx hb dRS_matrix_1 (by decide) ?_
  refine ip_icmp_ne (tgt := 15) hx hb dRS_matrix_2 rfl hf (fun hf => ?_) (fun hf => ?_)
  · refine lv_iload_n hx hb dRS_matrix_15 rfl (lv_at hl 1 rfl) ?_
    refine ip_if_ne (tgt := 24) hx hb dRS_matrix_16 rfl hf (fun hf => ?_) (fun hf => ?_)
    · refine ip_gets (own := kR_RS) hx hb hZ hS 3 rfl hown (hts _ (List.mem_cons_of_mem _ kw3_34)) dRS_matrix_24 ?_
      refine lv_iconst (v := (2 : Int32)) hx hb dRS_matrix_27 (by decide) ?_
      refine lv_iload_n hx hb dRS_matrix_28 rfl (lv_at hl 2 rfl) ?_
      refine lv_imul hx hb dRS_matrix_29 ?_
      refine lv_iconst (v := (1 : Int32)) hx hb dRS_matrix_30 (by decide) ?_
      refine lv_iadd hx hb dRS_matrix_31 ?_
      refine lv_iload_n hx hb dRS_matrix_32 rfl (lv_at hl 1 rfl) ?_
      refine lv_imul hx hb dRS_matrix_33 ?_
      refine lv_bipush (v := (32 : Int32)) hx hb dRS_matrix_34 (by decide) ?_
      refine lv_irem hx hb dRS_matrix_36 (by decide) ?_
      refine ip_tald hx hb hZ hS 3 rfl dRS_matrix_37 hf (fun z1 hf => ?_)
      cases hf
      exact hret H locs 38 ls _ dRS_matrix_38 rfl hP hD hS
    · refine lv_bipush (v := (64 : Int32)) hx hb dRS_matrix_19 (by decide) ?_
      refine lv_goto (tgt := 38) hx hb dRS_matrix_21 rfl ?_
      cases hf
      exact hret H locs 38 ls _ dRS_matrix_38 rfl hP hD hS
  · refine ip_gets (own := kR_RS) hx hb hZ hS 2 rfl hown (hts _ (List.mem_cons_of_mem _ kw3_32)) dRS_matrix_5 ?_
    refine lv_iconst (v := (4 : Int32)) hx hb dRS_matrix_8 (by decide) ?_
    refine lv_iload_n hx hb dRS_matrix_9 rfl (lv_at hl 1 rfl) ?_
    refine lv_imul hx hb dRS_matrix_10 ?_
    refine lv_iload_n hx hb dRS_matrix_11 rfl (lv_at hl 2 rfl) ?_
    refine lv_iadd hx hb dRS_matrix_12 ?_
    refine ip_tald hx hb hZ hS 2 rfl dRS_matrix_13 hf (fun z2 hf => ?_)
    cases hf
    exact hret H locs 14 ls _ dRS_matrix_14 rfl hP hD hS
set_option maxHeartbeats 4000000 in
set_option maxRecDepth 100000 in
theorem tRS_goThroughColumns {l : Launch} {dC : Nat → ClassId} {dI : Nat → Nat → Nat} {cI : ClassId} {ad : Nat → Nat} {t0 t1 t2 t3 : Nat} {v_aCoef : Nat → Int32} {v_aBetween : Nat → Int32} {p1 : Int32} {nv_aBetween : Nat → Int32} (hf : fRS_goThroughColumns v_aCoef v_aBetween p1 = some nv_aBetween) : ip_Mv l yRS_goThroughColumns wsRS_goThroughColumns rmRS_goThroughColumns (dC, dI) vwCl [(cI, .int)] (ip_TS t0 t1 t2 t3) [.ref (ad 9), .int p1] (wRS_goThroughColumns ad cI v_aCoef v_aBetween) (wRS_goThroughColumns ad cI v_aCoef nv_aBetween) := by
  refine ip_startV (cc := cRS_goThroughColumns) (maxL := 6) (by decide) rfl (Nat.le_of_ble_eq_true rfl) ?_
  intro p e s m args below meth c Q A ls hx hb hml hts hown hK hP hD hS hA hZ hl hret
  replace hl : lv_has ls 6 [(0, .ref (ad 9)), (1, .int p1)] := hl
  unfold fRS_goThroughColumns at hf
  suffices J0 : ∀ (ls : Array Slot) (H : Heap) (locs : List Loc), lv_has ls 6 [(0, .ref (ad 9)), (1, .int p1)] → va_P (dC, dI) vwCl (wRS_goThroughColumns ad cI v_aCoef v_aBetween) H → va_D A (wRS_goThroughColumns ad cI v_aCoef v_aBetween) → va_S A s.heap H locs → W p l e rmRS_goThroughColumns s m args below meth c H locs 0 0 Q (F0 m 0 ls []) by exact J0 ls s.heap [] hl hP hD hS
  clear hP hD hS hl
  intro ls H locs hl hP hD hS
  refine lv_iconst (v := (0 : Int32)) hx hb dRS_goThroughColumns_0 (by decide) ?_
  refine lv_istore_n (lv' := [(2, .int (0 : Int32)), (0, .ref (ad 9)), (1, .int p1)]) hx hb dRS_goThroughColumns_1 rfl hl (by decide) rfl (fun ls hl => ?_)
  replace hl := lv_sub hl (l' := [(0, .ref (ad 9)), (1, .int p1), (2, .int (0 : Int32))]) [1, 2, 0] rfl
  obtain ⟨x3, y4, hL, hf⟩ := ip_b2_e hf
  suffices J93 : ∀ (ls : Array Slot) (H : Heap) (locs : List Loc), lv_has ls 6 [] → va_P (dC, dI) vwCl (wRS_goThroughColumns ad cI v_aCoef y4) H → va_D A (wRS_goThroughColumns ad cI v_aCoef y4) → va_S A s.heap H locs → W p l e rmRS_goThroughColumns s m args below meth c H locs 0 0 Q (F0 m 93 ls []) by
    have L : ∀ (n : Nat) (z1 : Int32) (g2 : Nat → Int32), ip_lp2 (fRS_goThroughColumns_B2 v_aCoef p1) n z1 g2 = some (x3, y4) → ∀ (ls : Array Slot) (H : Heap) (locs : List Loc), lv_has ls 6 [(0, .ref (ad 9)), (1, .int p1), (2, .int z1)] → va_P (dC, dI) vwCl (wRS_goThroughColumns ad cI v_aCoef g2) H → va_D A (wRS_goThroughColumns ad cI v_aCoef g2) → va_S A s.heap H locs → W p l e rmRS_goThroughColumns s m args below meth c H locs 0 0 Q (F0 m 2 ls []) := by
      intro n
      induction n with
      | zero => intro z1 g2 hL; exact (ip_lp2_0 hL).elim
      | succ n ih =>
        intro z1 g2 hL ls H locs hl hP hD hS
        clear hf
        obtain ⟨r9, hf, hr2⟩ := ip_lp2_s hL
        clear hL
        unfold fRS_goThroughColumns_B2 at hf
        refine lv_iload_n hx hb dRS_goThroughColumns_2 rfl (lv_at hl 2 rfl) ?_
        refine lv_iload_n hx hb dRS_goThroughColumns_3 rfl (lv_at hl 1 rfl) ?_
        refine ip_icmp_ge (tgt := 93) hx hb dRS_goThroughColumns_4 rfl hf (fun hf => ?_) (fun hf => ?_)
        · have hx9 := ip_lp_x hr2 hf
          replace hl := lv_sub hl (l' := []) [] rfl
          cases hx9
          exact J93 ls H locs hl hP hD hS
        · refine lv_iconst (v := (0 : Int32)) hx hb dRS_goThroughColumns_7 (by decide) ?_
          refine lv_istore_n (lv' := [(3, .int (0 : Int32)), (0, .ref (ad 9)), (1, .int p1), (2, .int z1)]) hx hb dRS_goThroughColumns_8 rfl hl (by decide) rfl (fun ls hl => ?_)
          replace hl := lv_sub hl (l' := [(0, .ref (ad 9)), (1, .int p1), (2, .int z1), (3, .int (0 : Int32))]) [1, 2, 3, 0] rfl
          obtain ⟨x7, y8, hL, hf⟩ := ip_b2_e hf
          suffices J87 : ∀ (ls : Array Slot) (H : Heap) (locs : List Loc), lv_has ls 6 [(0, .ref (ad 9)), (1, .int p1), (2, .int z1)] → va_P (dC, dI) vwCl (wRS_goThroughColumns ad cI v_aCoef y8) H → va_D A (wRS_goThroughColumns ad cI v_aCoef y8) → va_S A s.heap H locs → W p l e rmRS_goThroughColumns s m args below meth c H locs 0 0 Q (F0 m 87 ls []) by
            have L : ∀ (n : Nat) (z5 : Int32) (g6 : Nat → Int32), ip_lp2 (fRS_goThroughColumns_B9 v_aCoef p1 z1) n z5 g6 = some (x7, y8) → ∀ (ls : Array Slot) (H : Heap) (locs : List Loc), lv_has ls 6 [(0, .ref (ad 9)), (1, .int p1), (2, .int z1), (3, .int z5)] → va_P (dC, dI) vwCl (wRS_goThroughColumns ad cI v_aCoef g6) H → va_D A (wRS_goThroughColumns ad cI v_aCoef g6) → va_S A s.heap H locs → W p l e rmRS_goThroughColumns s m args below meth c H locs 0 0 Q (F0 m 9 ls []) := by
              intro n
              induction n with
              | zero => intro z5 g6 hL; exact (ip_lp2_0 hL).elim
              | succ n ih =>
                intro z5 g6 hL ls H locs hl hP hD hS
                clear hf
                obtain ⟨r9, hf, hr9⟩ := ip_lp2_s hL
                clear hL
                unfold fRS_goThroughColumns_B9 at hf
                refine lv_iload_n hx hb dRS_goThroughColumns_9 rfl (lv_at hl 3 rfl) ?_
                refine lv_iload_n hx hb dRS_goThroughColumns_10 rfl (lv_at hl 1 rfl) ?_
                refine ip_icmp_ge (tgt := 87) hx hb dRS_goThroughColumns_11 rfl hf (fun hf => ?_) (fun hf => ?_)
                · have hx9 := ip_lp_x hr9 hf
                  replace hl := lv_sub hl (l' := [(0, .ref (ad 9)), (1, .int p1), (2, .int z1)]) [0, 1, 2] rfl
                  cases hx9
                  exact J87 ls H locs hl hP hD hS
                · refine lv_bipush (v := (64 : Int32)) hx hb dRS_goThroughColumns_14 (by decide) ?_
                  refine lv_istore (lv' := [(4, .int (64 : Int32)), (0, .ref (ad 9)), (1, .int p1), (2, .int z1), (3, .int z5)]) hx hb dRS_goThroughColumns_16 hl (by decide) rfl (fun ls hl => ?_)
                  refine lv_iconst (v := (0 : Int32)) hx hb dRS_goThroughColumns_18 (by decide) ?_
                  refine lv_istore (lv' := [(5, .int (0 : Int32)), (4, .int (64 : Int32)), (0, .ref (ad 9)), (1, .int p1), (2, .int z1), (3, .int z5)]) hx hb dRS_goThroughColumns_19 hl (by decide) rfl (fun ls hl => ?_)
                  replace hl := lv_sub hl (l' := [(0, .ref (ad 9)), (1, .int p1), (2, .int z1), (3, .int z5), (4, .int (64 : Int32)), (5, .int (0 : Int32))]) [2, 3, 4, 5, 1, 0] rfl
                  obtain ⟨x11, x12, hL, hf⟩ := ip_b2_e hf
                  suffices J57 : ∀ (ls : Array Slot) (H : Heap) (locs : List Loc), lv_has ls 6 [(0, .ref (ad 9)), (1, .int p1), (2, .int z1), (3, .int z5), (4, .int x11)] → va_P (dC, dI) vwCl (wRS_goThroughColumns ad cI v_aCoef g6) H → va_D A (wRS_goThroughColumns ad cI v_aCoef g6) → va_S A s.heap H locs → W p l e rmRS_goThroughColumns s m args below meth c H locs 0 0 Q (F0 m 57 ls []) by
                    have L : ∀ (n : Nat) (z9 : Int32) (z10 : Int32), ip_lp2 (fRS_goThroughColumns_B21 v_aCoef p1 z1 z5) n z9 z10 = some (x11, x12) → ∀ (ls : Array Slot) (H : Heap) (locs : List Loc), lv_has ls 6 [(0, .ref (ad 9)), (1, .int p1), (2, .int z1), (3, .int z5), (4, .int z9), (5, .int z10)] → va_P (dC, dI) vwCl (wRS_goThroughColumns ad cI v_aCoef g6) H → va_D A (wRS_goThroughColumns ad cI v_aCoef g6) → va_S A s.heap H locs → W p l e rmRS_goThroughColumns s m args below meth c H locs 0 0 Q (F0 m 21 ls []) := by
                      intro n
                      induction n with
                      | zero => intro z9 z10 hL; exact (ip_lp2_0 hL).elim
                      | succ n ih =>
                        intro z9 z10 hL ls H locs hl hP hD hS
                        clear hf
                        obtain ⟨r9, hf, hr21⟩ := ip_lp2_s hL
                        clear hL
                        unfold fRS_goThroughColumns_B21 at hf
                        refine lv_iload hx hb dRS_goThroughColumns_21 (lv_at hl 5 rfl) ?_
                        refine lv_iload_n hx hb dRS_goThroughColumns_23 rfl (lv_at hl 1 rfl) ?_
                        refine ip_icmp_ge (tgt := 57) hx hb dRS_goThroughColumns_24 rfl hf (fun hf => ?_) (fun hf => ?_)
                        · have hx9 := ip_lp_x hr21 hf
                          replace hl := lv_sub hl (l' := [(0, .ref (ad 9)), (1, .int p1), (2, .int z1), (3, .int z5), (4, .int z9)]) [0, 1, 2, 3, 4] rfl
                          cases hx9
                          exact J57 ls H locs hl hP hD hS
                        · refine lv_iload hx hb dRS_goThroughColumns_27 (lv_at hl 4 rfl) ?_
                          refine lv_iload_n hx hb dRS_goThroughColumns_29 rfl (lv_at hl 1 rfl) ?_
                          refine lv_iload hx hb dRS_goThroughColumns_30 (lv_at hl 5 rfl) ?_
                          refine lv_iload_n hx hb dRS_goThroughColumns_32 rfl (lv_at hl 2 rfl) ?_
                          obtain ⟨z13, hc, hf⟩ := ip_b1_e hf
                          refine ip_calli (va_runS (As := [.int p1, .int z10, .int z1]) (rest := [.int z9]) ⟨hx, hb, hml, hown, hts⟩ (tRS_matrix (l := l) (dC := dC) (dI := dI) (ad := ad) (cI := cI) (t0 := t0) (t1 := t1) (t2 := t2) (t3 := t3) hc H.size) (va_cwS 3 hts (ip_gdS (own := kR_RS) (idx := 65) (y := yRS_matrix) kw3_29 kw3_30 kw1_10 kw3_31) rfl rfl rfl (by decide +kernel) ⟨Nat.le_of_ble_eq_true rfl, Nat.le_of_ble_eq_true rfl⟩) (ip_preS hK hP hD hS hA hZ [] rfl rfl) rfl rfl hl.1 rfl (lv_room (Nat.le_of_ble_eq_true rfl)) dRS_goThroughColumns_33 ⟨Nat.le_of_ble_eq_true rfl, Nat.le_of_ble_eq_true rfl⟩) hP hD hS hA [] [0, 1, 2] [0, 1, 2] (wRS_goThroughColumns ad cI v_aCoef g6) rfl rfl rfl (by decide) rfl rfl (fun H locs hP hD hS => ?_)
                          clear hc
                          refine lv_aload_n hx hb dRS_goThroughColumns_36 rfl (lv_at hl 0 rfl) ?_
                          refine va_get (D := (dC, dI)) (ci := 9) (v := .ref (ad 25)) (C := kR_RS) (T := kT_RS) (N := 4) hx hb hts kin_RS hown hK hP 0 rfl rfl 1 (by decide) (hts _ (List.mem_cons_of_mem _ kw1_223)) (fun _ h9 => h9) rfl dRS_goThroughColumns_37 ?_
                          refine lv_iload hx hb dRS_goThroughColumns_40 (lv_at hl 5 rfl) ?_
                          refine lv_iload_n hx hb dRS_goThroughColumns_42 rfl (lv_at hl 1 rfl) ?_
                          refine lv_imul hx hb dRS_goThroughColumns_43 ?_
                          refine lv_iload_n hx hb dRS_goThroughColumns_44 rfl (lv_at hl 3 rfl) ?_
                          refine lv_iadd hx hb dRS_goThroughColumns_45 ?_
                          refine ip_iald hx hb hK hP 1 0 rfl rfl dRS_goThroughColumns_46 hf (fun z14 hf => ?_)
                          refine lv_imul hx hb dRS_goThroughColumns_47 ?_
                          refine lv_iadd hx hb dRS_goThroughColumns_48 ?_
                          refine ip_top hf (fun z15 hf => ?_)
                          refine lv_istore (lv' := [(4, .int z15), (0, .ref (ad 9)), (1, .int p1), (2, .int z1), (3, .int z5), (5, .int z10)]) hx hb dRS_goThroughColumns_49 hl (by decide) rfl (fun ls hl => ?_)
                          refine ip_iinc (k0 := 5) (v0 := (1 : Int32)) (lv1 := fun z16 => [(5, .int z16), (4, .int z15), (0, .ref (ad 9)), (1, .int p1), (2, .int z1), (3, .int z5)]) hx hb dRS_goThroughColumns_51 hl rfl (by decide) (by decide) (fun _ => rfl) hf (fun z16 ls hf hl => ?_)
                          refine lv_goto (tgt := 21) hx hb dRS_goThroughColumns_54 rfl ?_
                          replace hl := lv_sub hl (l' := [(0, .ref (ad 9)), (1, .int p1), (2, .int z1), (3, .int z5), (4, .int z15), (5, .int z16)]) [2, 3, 4, 5, 1, 0] rfl
                          exact ih _ _ (ip_lp2_l hr21 hf) ls H locs hl hP hD hS
                    exact L 1000 _ _ hL ls H locs hl hP hD hS
                  intro ls H locs hl hP hD hS
                  clear hL
                  refine lv_aload_n hx hb dRS_goThroughColumns_57 rfl (lv_at hl 0 rfl) ?_
                  refine va_get (D := (dC, dI)) (ci := 9) (v := .ref (ad 26)) (C := kR_RS) (T := kT_RS) (N := 4) hx hb hts kin_RS hown hK hP 0 rfl rfl 2 (by decide) (hts _ (List.mem_cons_of_mem _ kw1_224)) (fun _ h9 => h9) rfl dRS_goThroughColumns_58 ?_
                  refine lv_iload_n hx hb dRS_goThroughColumns_61 rfl (lv_at hl 2 rfl) ?_
                  refine lv_iload_n hx hb dRS_goThroughColumns_62 rfl (lv_at hl 1 rfl) ?_
                  refine lv_imul hx hb dRS_goThroughColumns_63 ?_
                  refine lv_iload_n hx hb dRS_goThroughColumns_64 rfl (lv_at hl 3 rfl) ?_
                  refine lv_iadd hx hb dRS_goThroughColumns_65 ?_
                  refine lv_iload hx hb dRS_goThroughColumns_66 (lv_at hl 4 rfl) ?_
                  refine lv_bipush (v := (7 : Int32)) hx hb dRS_goThroughColumns_68 (by decide) ?_
                  refine lv_ishr hx hb dRS_goThroughColumns_70 ?_
                  refine lv_sipush (v := (-32768 : Int32)) hx hb dRS_goThroughColumns_71 (by decide) ?_
                  refine lv_sipush (v := (32767 : Int32)) hx hb dRS_goThroughColumns_74 (by decide) ?_
                  obtain ⟨z17, hc, hf⟩ := ip_b1_e hf
                  refine ip_calli (va_runSN (As := [.int (x11 >>> ((7 : Int32) &&& 31)), .int (-32768 : Int32), .int (32767 : Int32)]) (rest := [.int ((z1 * p1) + z5), .ref (ad 26)]) ⟨hx, hb, hml, hown, hts⟩ (tIP_bring (l := l) (dC := dC) (dI := dI) (ad := ad) (cI := cI) (ts := (ip_TS t0 t1 t2 t3)) hc H.size) ⟨va_cnB 3 hts (ip_gd kw3_14) rfl rfl rfl (hZ.2 6 _ rfl) (hts _ (List.mem_cons_of_mem _ kw1_1)) (by decide +kernel) ⟨Nat.le_of_ble_eq_true rfl, Nat.le_of_ble_eq_true rfl⟩, (hts _ (List.mem_cons_of_mem _ kw3_13)), trivial⟩ (ip_preS hK hP hD hS hA hZ [] rfl rfl) rfl rfl hl.1 rfl (lv_room (Nat.le_of_ble_eq_true rfl)) dRS_goThroughColumns_77 ⟨Nat.le_of_ble_eq_true rfl, Nat.le_of_ble_eq_true rfl⟩) hP hD hS hA [] [0, 1, 2] [0, 1, 2] (wRS_goThroughColumns ad cI v_aCoef g6) rfl rfl rfl (by decide) rfl rfl (fun H locs hP hD hS => ?_)
                  clear hc
                  refine ip_iast hx hb hK hP hD hS 2 0 rfl rfl (fun g18 => (wRS_goThroughColumns ad cI v_aCoef g18)) (fun _ => rfl) dRS_goThroughColumns_80 hf (fun g18 H locs hf hP hD hS => ?_)
                  refine ip_iinc (k0 := 3) (v0 := (1 : Int32)) (lv1 := fun z19 => [(3, .int z19), (0, .ref (ad 9)), (1, .int p1), (2, .int z1), (4, .int x11)]) hx hb dRS_goThroughColumns_81 hl rfl (by decide) (by decide) (fun _ => rfl) hf (fun z19 ls hf hl => ?_)
                  refine lv_goto (tgt := 9) hx hb dRS_goThroughColumns_84 rfl ?_
                  replace hl := lv_sub hl (l' := [(0, .ref (ad 9)), (1, .int p1), (2, .int z1), (3, .int z19)]) [1, 2, 3, 0] rfl
                  exact ih _ _ (ip_lp2_l hr9 hf) ls H locs hl hP hD hS
            exact L 1000 _ _ hL ls H locs hl hP hD hS
          intro ls H locs hl hP hD hS
          clear hL
          refine ip_iinc (k0 := 2) (v0 := (1 : Int32)) (lv1 := fun z20 => [(2, .int z20), (0, .ref (ad 9)), (1, .int p1)]) hx hb dRS_goThroughColumns_87 hl rfl (by decide) (by decide) (fun _ => rfl) hf (fun z20 ls hf hl => ?_)
          refine lv_goto (tgt := 2) hx hb dRS_goThroughColumns_90 rfl ?_
          replace hl := lv_sub hl (l' := [(0, .ref (ad 9)), (1, .int p1), (2, .int z20)]) [1, 2, 0] rfl
          exact ih _ _ (ip_lp2_l hr2 hf) ls H locs hl hP hD hS
    exact L 1000 _ _ hL ls H locs hl hP hD hS
  intro ls H locs hl hP hD hS
  clear hL
  cases hf
  exact hret H locs 93 ls dRS_goThroughColumns_93 hP hD hS
set_option maxHeartbeats 4000000 in
set_option maxRecDepth 100000 in
theorem tRS_goThroughRows {l : Launch} {dC : Nat → ClassId} {dI : Nat → Nat → Nat} {cI : ClassId} {ad : Nat → Nat} {t0 t1 t2 t3 : Nat} {v_aBetween : Nat → Int32} {v_aResult : Nat → Int32} {p1 : Int32} {nv_aResult : Nat → Int32} (hf : fRS_goThroughRows v_aBetween v_aResult p1 = some nv_aResult) : ip_Mv l yRS_goThroughRows wsRS_goThroughRows rmRS_goThroughRows (dC, dI) vwCl [(cI, .int)] (ip_TS t0 t1 t2 t3) [.ref (ad 9), .int p1] (wRS_goThroughRows ad cI v_aBetween v_aResult) (wRS_goThroughRows ad cI v_aBetween nv_aResult) := by
  refine ip_startV (cc := cRS_goThroughRows) (maxL := 6) (by decide) rfl (Nat.le_of_ble_eq_true rfl) ?_
  intro p e s m args below meth c Q A ls hx hb hml hts hown hK hP hD hS hA hZ hl hret
  replace hl : lv_has ls 6 [(0, .ref (ad 9)), (1, .int p1)] := hl
  unfold fRS_goThroughRows at hf
  suffices J0 : ∀ (ls : Array Slot) (H : Heap) (locs : List Loc), lv_has ls 6 [(0, .ref (ad 9)), (1, .int p1)] → va_P (dC, dI) vwCl (wRS_goThroughRows ad cI v_aBetween v_aResult) H → va_D A (wRS_goThroughRows ad cI v_aBetween v_aResult) → va_S A s.heap H locs → W p l e rmRS_goThroughRows s m args below meth c H locs 0 0 Q (F0 m 0 ls []) by exact J0 ls s.heap [] hl hP hD hS
  clear hP hD hS hl
  intro ls H locs hl hP hD hS
  refine lv_iconst (v := (0 : Int32)) hx hb dRS_goThroughRows_0 (by decide) ?_
  refine lv_istore_n (lv' := [(2, .int (0 : Int32)), (0, .ref (ad 9)), (1, .int p1)]) hx hb dRS_goThroughRows_1 rfl hl (by decide) rfl (fun ls hl => ?_)
  replace hl := lv_sub hl (l' := [(0, .ref (ad 9)), (1, .int p1), (2, .int (0 : Int32))]) [1, 2, 0] rfl
  obtain ⟨x3, y4, hL, hf⟩ := ip_b2_e hf
  suffices J85 : ∀ (ls : Array Slot) (H : Heap) (locs : List Loc), lv_has ls 6 [] → va_P (dC, dI) vwCl (wRS_goThroughRows ad cI v_aBetween y4) H → va_D A (wRS_goThroughRows ad cI v_aBetween y4) → va_S A s.heap H locs → W p l e rmRS_goThroughRows s m args below meth c H locs 0 0 Q (F0 m 85 ls []) by
    have L : ∀ (n : Nat) (z1 : Int32) (g2 : Nat → Int32), ip_lp2 (fRS_goThroughRows_B2 v_aBetween p1) n z1 g2 = some (x3, y4) → ∀ (ls : Array Slot) (H : Heap) (locs : List Loc), lv_has ls 6 [(0, .ref (ad 9)), (1, .int p1), (2, .int z1)] → va_P (dC, dI) vwCl (wRS_goThroughRows ad cI v_aBetween g2) H → va_D A (wRS_goThroughRows ad cI v_aBetween g2) → va_S A s.heap H locs → W p l e rmRS_goThroughRows s m args below meth c H locs 0 0 Q (F0 m 2 ls []) := by
      intro n
      induction n with
      | zero => intro z1 g2 hL; exact (ip_lp2_0 hL).elim
      | succ n ih =>
        intro z1 g2 hL ls H locs hl hP hD hS
        clear hf
        obtain ⟨r9, hf, hr2⟩ := ip_lp2_s hL
        clear hL
        unfold fRS_goThroughRows_B2 at hf
        refine lv_iload_n hx hb dRS_goThroughRows_2 rfl (lv_at hl 2 rfl) ?_
        refine lv_iload_n hx hb dRS_goThroughRows_3 rfl (lv_at hl 1 rfl) ?_
        refine ip_icmp_ge (tgt := 85) hx hb dRS_goThroughRows_4 rfl hf (fun hf => ?_) (fun hf => ?_)
        · have hx9 := ip_lp_x hr2 hf
          replace hl := lv_sub hl (l' := []) [] rfl
          cases hx9
          exact J85 ls H locs hl hP hD hS
        · refine lv_iconst (v := (0 : Int32)) hx hb dRS_goThroughRows_7 (by decide) ?_
          refine lv_istore_n (lv' := [(3, .int (0 : Int32)), (0, .ref (ad 9)), (1, .int p1), (2, .int z1)]) hx hb dRS_goThroughRows_8 rfl hl (by decide) rfl (fun ls hl => ?_)
          replace hl := lv_sub hl (l' := [(0, .ref (ad 9)), (1, .int p1), (2, .int z1), (3, .int (0 : Int32))]) [1, 2, 3, 0] rfl
          obtain ⟨x7, y8, hL, hf⟩ := ip_b2_e hf
          suffices J79 : ∀ (ls : Array Slot) (H : Heap) (locs : List Loc), lv_has ls 6 [(0, .ref (ad 9)), (1, .int p1), (2, .int z1)] → va_P (dC, dI) vwCl (wRS_goThroughRows ad cI v_aBetween y8) H → va_D A (wRS_goThroughRows ad cI v_aBetween y8) → va_S A s.heap H locs → W p l e rmRS_goThroughRows s m args below meth c H locs 0 0 Q (F0 m 79 ls []) by
            have L : ∀ (n : Nat) (z5 : Int32) (g6 : Nat → Int32), ip_lp2 (fRS_goThroughRows_B9 v_aBetween p1 z1) n z5 g6 = some (x7, y8) → ∀ (ls : Array Slot) (H : Heap) (locs : List Loc), lv_has ls 6 [(0, .ref (ad 9)), (1, .int p1), (2, .int z1), (3, .int z5)] → va_P (dC, dI) vwCl (wRS_goThroughRows ad cI v_aBetween g6) H → va_D A (wRS_goThroughRows ad cI v_aBetween g6) → va_S A s.heap H locs → W p l e rmRS_goThroughRows s m args below meth c H locs 0 0 Q (F0 m 9 ls []) := by
              intro n
              induction n with
              | zero => intro z5 g6 hL; exact (ip_lp2_0 hL).elim
              | succ n ih =>
                intro z5 g6 hL ls H locs hl hP hD hS
                clear hf
                obtain ⟨r9, hf, hr9⟩ := ip_lp2_s hL
                clear hL
                unfold fRS_goThroughRows_B9 at hf
                refine lv_iload_n hx hb dRS_goThroughRows_9 rfl (lv_at hl 3 rfl) ?_
                refine lv_iload_n hx hb dRS_goThroughRows_10 rfl (lv_at hl 1 rfl) ?_
                refine ip_icmp_ge (tgt := 79) hx hb dRS_goThroughRows_11 rfl hf (fun hf => ?_) (fun hf => ?_)
                · have hx9 := ip_lp_x hr9 hf
                  replace hl := lv_sub hl (l' := [(0, .ref (ad 9)), (1, .int p1), (2, .int z1)]) [0, 1, 2] rfl
                  cases hx9
                  exact J79 ls H locs hl hP hD hS
                · refine lv_sipush (v := (2048 : Int32)) hx hb dRS_goThroughRows_14 (by decide) ?_
                  refine lv_istore (lv' := [(4, .int (2048 : Int32)), (0, .ref (ad 9)), (1, .int p1), (2, .int z1), (3, .int z5)]) hx hb dRS_goThroughRows_17 hl (by decide) rfl (fun ls hl => ?_)
                  refine lv_iconst (v := (0 : Int32)) hx hb dRS_goThroughRows_19 (by decide) ?_
                  refine lv_istore (lv' := [(5, .int (0 : Int32)), (4, .int (2048 : Int32)), (0, .ref (ad 9)), (1, .int p1), (2, .int z1), (3, .int z5)]) hx hb dRS_goThroughRows_20 hl (by decide) rfl (fun ls hl => ?_)
                  replace hl := lv_sub hl (l' := [(0, .ref (ad 9)), (1, .int p1), (2, .int z1), (3, .int z5), (4, .int (2048 : Int32)), (5, .int (0 : Int32))]) [2, 3, 4, 5, 1, 0] rfl
                  obtain ⟨x11, x12, hL, hf⟩ := ip_b2_e hf
                  suffices J58 : ∀ (ls : Array Slot) (H : Heap) (locs : List Loc), lv_has ls 6 [(0, .ref (ad 9)), (1, .int p1), (2, .int z1), (3, .int z5), (4, .int x11)] → va_P (dC, dI) vwCl (wRS_goThroughRows ad cI v_aBetween g6) H → va_D A (wRS_goThroughRows ad cI v_aBetween g6) → va_S A s.heap H locs → W p l e rmRS_goThroughRows s m args below meth c H locs 0 0 Q (F0 m 58 ls []) by
                    have L : ∀ (n : Nat) (z9 : Int32) (z10 : Int32), ip_lp2 (fRS_goThroughRows_B22 v_aBetween p1 z1 z5) n z9 z10 = some (x11, x12) → ∀ (ls : Array Slot) (H : Heap) (locs : List Loc), lv_has ls 6 [(0, .ref (ad 9)), (1, .int p1), (2, .int z1), (3, .int z5), (4, .int z9), (5, .int z10)] → va_P (dC, dI) vwCl (wRS_goThroughRows ad cI v_aBetween g6) H → va_D A (wRS_goThroughRows ad cI v_aBetween g6) → va_S A s.heap H locs → W p l e rmRS_goThroughRows s m args below meth c H locs 0 0 Q (F0 m 22 ls []) := by
                      intro n
                      induction n with
                      | zero => intro z9 z10 hL; exact (ip_lp2_0 hL).elim
                      | succ n ih =>
                        intro z9 z10 hL ls H locs hl hP hD hS
                        clear hf
                        obtain ⟨r9, hf, hr22⟩ := ip_lp2_s hL
                        clear hL
                        unfold fRS_goThroughRows_B22 at hf
                        refine lv_iload hx hb dRS_goThroughRows_22 (lv_at hl 5 rfl) ?_
                        refine lv_iload_n hx hb dRS_goThroughRows_24 rfl (lv_at hl 1 rfl) ?_
                        refine ip_icmp_ge (tgt := 58) hx hb dRS_goThroughRows_25 rfl hf (fun hf => ?_) (fun hf => ?_)
                        · have hx9 := ip_lp_x hr22 hf
                          replace hl := lv_sub hl (l' := [(0, .ref (ad 9)), (1, .int p1), (2, .int z1), (3, .int z5), (4, .int z9)]) [0, 1, 2, 3, 4] rfl
                          cases hx9
                          exact J58 ls H locs hl hP hD hS
                        · refine lv_iload hx hb dRS_goThroughRows_28 (lv_at hl 4 rfl) ?_
                          refine lv_iload_n hx hb dRS_goThroughRows_30 rfl (lv_at hl 1 rfl) ?_
                          refine lv_iload hx hb dRS_goThroughRows_31 (lv_at hl 5 rfl) ?_
                          refine lv_iload_n hx hb dRS_goThroughRows_33 rfl (lv_at hl 3 rfl) ?_
                          obtain ⟨z13, hc, hf⟩ := ip_b1_e hf
                          refine ip_calli (va_runS (As := [.int p1, .int z10, .int z5]) (rest := [.int z9]) ⟨hx, hb, hml, hown, hts⟩ (tRS_matrix (l := l) (dC := dC) (dI := dI) (ad := ad) (cI := cI) (t0 := t0) (t1 := t1) (t2 := t2) (t3 := t3) hc H.size) (va_cwS 3 hts (ip_gdS (own := kR_RS) (idx := 65) (y := yRS_matrix) kw3_29 kw3_30 kw1_10 kw3_31) rfl rfl rfl (by decide +kernel) ⟨Nat.le_of_ble_eq_true rfl, Nat.le_of_ble_eq_true rfl⟩) (ip_preS hK hP hD hS hA hZ [] rfl rfl) rfl rfl hl.1 rfl (lv_room (Nat.le_of_ble_eq_true rfl)) dRS_goThroughRows_34 ⟨Nat.le_of_ble_eq_true rfl, Nat.le_of_ble_eq_true rfl⟩) hP hD hS hA [] [0, 1, 2] [0, 1, 2] (wRS_goThroughRows ad cI v_aBetween g6) rfl rfl rfl (by decide) rfl rfl (fun H locs hP hD hS => ?_)
                          clear hc
                          refine lv_aload_n hx hb dRS_goThroughRows_37 rfl (lv_at hl 0 rfl) ?_
                          refine va_get (D := (dC, dI)) (ci := 9) (v := .ref (ad 26)) (C := kR_RS) (T := kT_RS) (N := 4) hx hb hts kin_RS hown hK hP 0 rfl rfl 2 (by decide) (hts _ (List.mem_cons_of_mem _ kw1_224)) (fun _ h9 => h9) rfl dRS_goThroughRows_38 ?_
                          refine lv_iload_n hx hb dRS_goThroughRows_41 rfl (lv_at hl 2 rfl) ?_
                          refine lv_iload_n hx hb dRS_goThroughRows_42 rfl (lv_at hl 1 rfl) ?_
                          refine lv_imul hx hb dRS_goThroughRows_43 ?_
                          refine lv_iload hx hb dRS_goThroughRows_44 (lv_at hl 5 rfl) ?_
                          refine lv_iadd hx hb dRS_goThroughRows_46 ?_
                          refine ip_iald hx hb hK hP 1 0 rfl rfl dRS_goThroughRows_47 hf (fun z14 hf => ?_)
                          refine lv_imul hx hb dRS_goThroughRows_48 ?_
                          refine lv_iadd hx hb dRS_goThroughRows_49 ?_
                          refine ip_top hf (fun z15 hf => ?_)
                          refine lv_istore (lv' := [(4, .int z15), (0, .ref (ad 9)), (1, .int p1), (2, .int z1), (3, .int z5), (5, .int z10)]) hx hb dRS_goThroughRows_50 hl (by decide) rfl (fun ls hl => ?_)
                          refine ip_iinc (k0 := 5) (v0 := (1 : Int32)) (lv1 := fun z16 => [(5, .int z16), (4, .int z15), (0, .ref (ad 9)), (1, .int p1), (2, .int z1), (3, .int z5)]) hx hb dRS_goThroughRows_52 hl rfl (by decide) (by decide) (fun _ => rfl) hf (fun z16 ls hf hl => ?_)
                          refine lv_goto (tgt := 22) hx hb dRS_goThroughRows_55 rfl ?_
                          replace hl := lv_sub hl (l' := [(0, .ref (ad 9)), (1, .int p1), (2, .int z1), (3, .int z5), (4, .int z15), (5, .int z16)]) [2, 3, 4, 5, 1, 0] rfl
                          exact ih _ _ (ip_lp2_l hr22 hf) ls H locs hl hP hD hS
                    exact L 1000 _ _ hL ls H locs hl hP hD hS
                  intro ls H locs hl hP hD hS
                  clear hL
                  refine lv_aload_n hx hb dRS_goThroughRows_58 rfl (lv_at hl 0 rfl) ?_
                  refine va_get (D := (dC, dI)) (ci := 9) (v := .ref (ad 27)) (C := kR_RS) (T := kT_RS) (N := 4) hx hb hts kin_RS hown hK hP 0 rfl rfl 3 (by decide) (hts _ (List.mem_cons_of_mem _ kw1_225)) (fun _ h9 => h9) rfl dRS_goThroughRows_59 ?_
                  refine lv_iload_n hx hb dRS_goThroughRows_62 rfl (lv_at hl 2 rfl) ?_
                  refine lv_iload_n hx hb dRS_goThroughRows_63 rfl (lv_at hl 1 rfl) ?_
                  refine lv_imul hx hb dRS_goThroughRows_64 ?_
                  refine lv_iload_n hx hb dRS_goThroughRows_65 rfl (lv_at hl 3 rfl) ?_
                  refine lv_iadd hx hb dRS_goThroughRows_66 ?_
                  refine lv_iload hx hb dRS_goThroughRows_67 (lv_at hl 4 rfl) ?_
                  refine lv_bipush (v := (12 : Int32)) hx hb dRS_goThroughRows_69 (by decide) ?_
                  refine lv_ishr hx hb dRS_goThroughRows_71 ?_
                  refine ip_iast hx hb hK hP hD hS 2 0 rfl rfl (fun g17 => (wRS_goThroughRows ad cI v_aBetween g17)) (fun _ => rfl) dRS_goThroughRows_72 hf (fun g17 H locs hf hP hD hS => ?_)
                  refine ip_iinc (k0 := 3) (v0 := (1 : Int32)) (lv1 := fun z18 => [(3, .int z18), (0, .ref (ad 9)), (1, .int p1), (2, .int z1), (4, .int x11)]) hx hb dRS_goThroughRows_73 hl rfl (by decide) (by decide) (fun _ => rfl) hf (fun z18 ls hf hl => ?_)
                  refine lv_goto (tgt := 9) hx hb dRS_goThroughRows_76 rfl ?_
                  replace hl := lv_sub hl (l' := [(0, .ref (ad 9)), (1, .int p1), (2, .int z1), (3, .int z18)]) [1, 2, 3, 0] rfl
                  exact ih _ _ (ip_lp2_l hr9 hf) ls H locs hl hP hD hS
            exact L 1000 _ _ hL ls H locs hl hP hD hS
          intro ls H locs hl hP hD hS
          clear hL
          refine ip_iinc (k0 := 2) (v0 := (1 : Int32)) (lv1 := fun z19 => [(2, .int z19), (0, .ref (ad 9)), (1, .int p1)]) hx hb dRS_goThroughRows_79 hl rfl (by decide) (by decide) (fun _ => rfl) hf (fun z19 ls hf hl => ?_)
          refine lv_goto (tgt := 2) hx hb dRS_goThroughRows_82 rfl ?_
          replace hl := lv_sub hl (l' := [(0, .ref (ad 9)), (1, .int p1), (2, .int z19)]) [1, 2, 0] rfl
          exact ih _ _ (ip_lp2_l hr2 hf) ls H locs hl hP hD hS
    exact L 1000 _ _ hL ls H locs hl hP hD hS
  intro ls H locs hl hP hD hS
  clear hL
  cases hf
  exact hret H locs 85 ls dRS_goThroughRows_85 hP hD hS
set_option maxHeartbeats 4000000 in
set_option maxRecDepth 100000 in
theorem tRS_compute {l : Launch} {dC : Nat → ClassId} {dI : Nat → Nat → Nat} {cI : ClassId} {ad : Nat → Nat} {t0 t1 t2 t3 : Nat} {v_LF_x : Int32} {v_LF_y : Int32} {v_LF_side : Int32} {v_LF_mode : Int32} {v_LF_skip : Int32} {v_aLevels : Nat → Int32} {v_aCoef : Nat → Int32} {v_aBetween : Nat → Int32} {v_aResult : Nat → Int32} {p2 : Int32} {nv_aCoef : Nat → Int32} {nv_aBetween : Nat → Int32} {nv_aResult : Nat → Int32} (hf : fRS_compute v_LF_x v_LF_y v_LF_side v_LF_mode v_LF_skip v_aLevels v_aCoef v_aBetween v_aResult p2 = some (nv_aCoef, nv_aBetween, nv_aResult)) : ip_Mv l yRS_compute wsRS_compute rmRS_compute (dC, dI) vwCl [(cI, .int)] (ip_TS t0 t1 t2 t3) [.ref (ad 9), .ref (ad 5), .int p2] (wRS_compute ad cI v_LF_x v_LF_y v_LF_side v_LF_mode v_LF_skip v_aLevels v_aCoef v_aBetween v_aResult) (wRS_compute ad cI v_LF_x v_LF_y v_LF_side v_LF_mode v_LF_skip v_aLevels nv_aCoef nv_aBetween nv_aResult) := by
  refine ip_startV (cc := cRS_compute) (maxL := 3) (by decide) rfl (Nat.le_of_ble_eq_true rfl) ?_
  intro p e s m args below meth c Q A ls hx hb hml hts hown hK hP hD hS hA hZ hl hret
  replace hl : lv_has ls 3 [(0, .ref (ad 9)), (1, .ref (ad 5)), (2, .int p2)] := hl
  unfold fRS_compute at hf
  suffices J0 : ∀ (ls : Array Slot) (H : Heap) (locs : List Loc), lv_has ls 3 [(0, .ref (ad 9)), (1, .ref (ad 5)), (2, .int p2)] → va_P (dC, dI) vwCl (wRS_compute ad cI v_LF_x v_LF_y v_LF_side v_LF_mode v_LF_skip v_aLevels v_aCoef v_aBetween v_aResult) H → va_D A (wRS_compute ad cI v_LF_x v_LF_y v_LF_side v_LF_mode v_LF_skip v_aLevels v_aCoef v_aBetween v_aResult) → va_S A s.heap H locs → W p l e rmRS_compute s m args below meth c H locs 0 0 Q (F0 m 0 ls []) by exact J0 ls s.heap [] hl hP hD hS
  clear hP hD hS hl
  intro ls H locs hl hP hD hS
  refine lv_aload_n hx hb dRS_compute_0 rfl (lv_at hl 0 rfl) ?_
  refine lv_aload_n hx hb dRS_compute_1 rfl (lv_at hl 1 rfl) ?_
  refine lv_iload_n hx hb dRS_compute_2 rfl (lv_at hl 2 rfl) ?_
  obtain ⟨g1, hc, hf⟩ := ip_b1_e hf
  refine ip_callv (va_runV (As := [.ref (ad 5), .int p2]) (rest := []) ⟨hx, hb, hml, hown, hts⟩ (tRS_scaleLevels (l := l) (dC := dC) (dI := dI) (ad := ad) (cI := cI) (t0 := t0) (t1 := t1) (t2 := t2) (t3 := t3) hc H.size) (cwV 2 hts (ip_gdV (own := kR_RS) (idx := 22) (C := kR_RS) (y := yRS_scaleLevels) kw3_5 kw3_7 kws_15 kw1_10 kw3_8) rfl rfl rfl (by decide +kernel) ⟨Nat.le_of_ble_eq_true rfl, Nat.le_of_ble_eq_true rfl⟩) (ip_preV hK hP hD hS hA hZ [0, 1, 2, 3] rfl rfl (ci := 9) (q0 := 1) rfl rfl) rfl rfl hl.1 rfl (lv_room (Nat.le_of_ble_eq_true rfl)) dRS_compute_3 ⟨Nat.le_of_ble_eq_true rfl, Nat.le_of_ble_eq_true rfl⟩) hP hD hS hA [0, 1, 2, 3] [4, 5] [2, 3, 4, 5, 0, 1] (wRS_compute ad cI v_LF_x v_LF_y v_LF_side v_LF_mode v_LF_skip v_aLevels g1 v_aBetween v_aResult) rfl rfl rfl (by decide) rfl rfl (fun H locs hP hD hS => ?_)
  clear hc
  refine lv_aload_n hx hb dRS_compute_6 rfl (lv_at hl 1 rfl) ?_
  refine va_get (D := (dC, dI)) (ci := 5) (v := .int v_LF_skip) (C := kR_LF) (T := kT_LF) (N := 5) hx hb hts kin_LF hown hK hP 0 rfl rfl 4 (by decide) (hts _ (List.mem_cons_of_mem _ kw1_177)) (fun _ h9 => h9) rfl dRS_compute_7 ?_
  refine ip_if_eq (tgt := 24) hx hb dRS_compute_10 rfl hf (fun hf => ?_) (fun hf => ?_)
  · refine lv_aload_n hx hb dRS_compute_24 rfl (lv_at hl 0 rfl) ?_
    refine lv_aload_n hx hb dRS_compute_25 rfl (lv_at hl 1 rfl) ?_
    refine va_get (D := (dC, dI)) (ci := 5) (v := .int v_LF_side) (C := kR_LF) (T := kT_LF) (N := 5) hx hb hts kin_LF hown hK hP 0 rfl rfl 2 (by decide) (hts _ (List.mem_cons_of_mem _ kw1_173)) (fun _ h9 => h9) rfl dRS_compute_26 ?_
    obtain ⟨g2, hc, hf⟩ := ip_b1_e hf
    refine ip_callv (va_runV (As := [.int v_LF_side]) (rest := []) ⟨hx, hb, hml, hown, hts⟩ (tRS_goThroughColumns (l := l) (dC := dC) (dI := dI) (ad := ad) (cI := cI) (t0 := t0) (t1 := t1) (t2 := t2) (t3 := t3) hc H.size) (cwV 1 hts (ip_gdV (own := kR_RS) (idx := 40) (C := kR_RS) (y := yRS_goThroughColumns) kw3_25 kw3_27 kws_17 kw1_10 kw3_28) rfl rfl rfl (by decide +kernel) ⟨Nat.le_of_ble_eq_true rfl, Nat.le_of_ble_eq_true rfl⟩) (ip_preV hK hP hD hS hA hZ [1, 3, 4] rfl rfl (ci := 9) (q0 := 1) rfl rfl) rfl rfl hl.1 rfl (lv_room (Nat.le_of_ble_eq_true rfl)) dRS_compute_29 ⟨Nat.le_of_ble_eq_true rfl, Nat.le_of_ble_eq_true rfl⟩) hP hD hS hA [1, 3, 4] [0, 2, 5] [0, 3, 1, 4, 5, 2] (wRS_compute ad cI v_LF_x v_LF_y v_LF_side v_LF_mode v_LF_skip v_aLevels g1 g2 v_aResult) rfl rfl rfl (by decide) rfl rfl (fun H locs hP hD hS => ?_)
    clear hc
    refine lv_aload_n hx hb dRS_compute_32 rfl (lv_at hl 0 rfl) ?_
    refine lv_aload_n hx hb dRS_compute_33 rfl (lv_at hl 1 rfl) ?_
    refine va_get (D := (dC, dI)) (ci := 5) (v := .int v_LF_side) (C := kR_LF) (T := kT_LF) (N := 5) hx hb hts kin_LF hown hK hP 0 rfl rfl 2 (by decide) (hts _ (List.mem_cons_of_mem _ kw1_173)) (fun _ h9 => h9) rfl dRS_compute_34 ?_
    obtain ⟨g3, hc, hf⟩ := ip_b1_e hf
    refine ip_callv (va_runV (As := [.int v_LF_side]) (rest := []) ⟨hx, hb, hml, hown, hts⟩ (tRS_goThroughRows (l := l) (dC := dC) (dI := dI) (ad := ad) (cI := cI) (t0 := t0) (t1 := t1) (t2 := t2) (t3 := t3) hc H.size) (cwV 1 hts (ip_gdV (own := kR_RS) (idx := 43) (C := kR_RS) (y := yRS_goThroughRows) kw3_36 kw3_38 kws_18 kw1_10 kw3_39) rfl rfl rfl (by decide +kernel) ⟨Nat.le_of_ble_eq_true rfl, Nat.le_of_ble_eq_true rfl⟩) (ip_preV hK hP hD hS hA hZ [1, 4, 5] rfl rfl (ci := 9) (q0 := 1) rfl rfl) rfl rfl hl.1 rfl (lv_room (Nat.le_of_ble_eq_true rfl)) dRS_compute_37 ⟨Nat.le_of_ble_eq_true rfl, Nat.le_of_ble_eq_true rfl⟩) hP hD hS hA [1, 4, 5] [0, 2, 3] [0, 3, 1, 2, 4, 5] (wRS_compute ad cI v_LF_x v_LF_y v_LF_side v_LF_mode v_LF_skip v_aLevels g1 g2 g3) rfl rfl rfl (by decide) rfl rfl (fun H locs hP hD hS => ?_)
    clear hc
    cases hf
    exact hret H locs 40 ls dRS_compute_40 hP hD hS
  · refine lv_aload_n hx hb dRS_compute_13 rfl (lv_at hl 0 rfl) ?_
    refine lv_aload_n hx hb dRS_compute_14 rfl (lv_at hl 1 rfl) ?_
    refine va_get (D := (dC, dI)) (ci := 5) (v := .int v_LF_side) (C := kR_LF) (T := kT_LF) (N := 5) hx hb hts kin_LF hown hK hP 0 rfl rfl 2 (by decide) (hts _ (List.mem_cons_of_mem _ kw1_173)) (fun _ h9 => h9) rfl dRS_compute_15 ?_
    obtain ⟨g4, hc, hf⟩ := ip_b1_e hf
    refine ip_callv (va_runV (As := [.int v_LF_side]) (rest := []) ⟨hx, hb, hml, hown, hts⟩ (tRS_scaleWithoutMatrix (l := l) (dC := dC) (dI := dI) (ad := ad) (cI := cI) (ts := (ip_TS t0 t1 t2 t3)) hc H.size) (cwV 1 hts (ip_gdV (own := kR_RS) (idx := 36) (C := kR_RS) (y := yRS_scaleWithoutMatrix) kw3_21 kw3_23 kws_16 kw1_10 kw3_24) rfl rfl rfl (by decide +kernel) ⟨Nat.le_of_ble_eq_true rfl, Nat.le_of_ble_eq_true rfl⟩) (ip_preV hK hP hD hS hA hZ [1, 3, 5] rfl rfl (ci := 9) (q0 := 1) rfl rfl) rfl rfl hl.1 rfl (lv_room (Nat.le_of_ble_eq_true rfl)) dRS_compute_18 ⟨Nat.le_of_ble_eq_true rfl, Nat.le_of_ble_eq_true rfl⟩) hP hD hS hA [1, 3, 5] [0, 2, 4] [0, 3, 1, 4, 2, 5] (wRS_compute ad cI v_LF_x v_LF_y v_LF_side v_LF_mode v_LF_skip v_aLevels g1 v_aBetween g4) rfl rfl rfl (by decide) rfl rfl (fun H locs hP hD hS => ?_)
    clear hc
    refine lv_goto (tgt := 40) hx hb dRS_compute_21 rfl ?_
    cases hf
    exact hret H locs 40 ls dRS_compute_40 hP hD hS
