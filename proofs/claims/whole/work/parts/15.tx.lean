set_option maxHeartbeats 4000000 in
set_option maxRecDepth 100000 in
theorem tPR_collect {l : Launch} {dC : Nat → ClassId} {dI : Nat → Nat → Nat} {cI : ClassId} {ad : Nat → Nat} {ts : ip_TT} {v_LF_x : Int32} {v_LF_y : Int32} {v_LF_side : Int32} {v_LF_mode : Int32} {v_LF_skip : Int32} {v_PR_side : Int32} {v_aPlain : Nat → Int32} {v_aSides : Nat → Int32} {v_aRefs : Nat → Int32}  {nv_aRefs : Nat → Int32} (hf : fPR_collect v_LF_x v_LF_y v_LF_side v_LF_mode v_LF_skip v_PR_side v_aPlain v_aSides v_aRefs = some nv_aRefs) : ip_Mv l yPR_collect wsPR_collect rmPR_collect (dC, dI) vwCl [(cI, .int)] ts [.ref (ad 10), .ref (ad 5)] (wPR_collect ad cI v_LF_x v_LF_y v_LF_side v_LF_mode v_LF_skip v_PR_side v_aPlain v_aSides v_aRefs) (wPR_collect ad cI v_LF_x v_LF_y v_LF_side v_LF_mode v_LF_skip v_PR_side v_aPlain v_aSides nv_aRefs) := by
  refine ip_startV (cc := cPR_collect) (maxL := 6) (by decide) rfl (Nat.le_of_ble_eq_true rfl) ?_
  intro p e s m args below meth c Q A ls hx hb hml hts hown hK hP hD hS hA hZ hl hret
  replace hl : lv_has ls 6 [(0, .ref (ad 10)), (1, .ref (ad 5))] := hl
  unfold fPR_collect at hf
  suffices J0 : ∀ (ls : Array Slot) (H : Heap) (locs : List Loc), lv_has ls 6 [(0, .ref (ad 10)), (1, .ref (ad 5))] → va_P (dC, dI) vwCl (wPR_collect ad cI v_LF_x v_LF_y v_LF_side v_LF_mode v_LF_skip v_PR_side v_aPlain v_aSides v_aRefs) H → va_D A (wPR_collect ad cI v_LF_x v_LF_y v_LF_side v_LF_mode v_LF_skip v_PR_side v_aPlain v_aSides v_aRefs) → va_S A s.heap H locs → W p l e rmPR_collect s m args below meth c H locs 0 0 Q (F0 m 0 ls []) by exact J0 ls s.heap [] hl hP hD hS
  clear hP hD hS hl
  intro ls H locs hl hP hD hS
  refine lv_iconst (v := (0 : Int32)) hx hb dPR_collect_0 (by decide) ?_
  refine lv_istore_n (lv' := [(2, .int (0 : Int32)), (0, .ref (ad 10)), (1, .ref (ad 5))]) hx hb dPR_collect_1 rfl hl (by decide) rfl (fun ls hl => ?_)
  replace hl := lv_sub hl (l' := [(0, .ref (ad 10)), (1, .ref (ad 5)), (2, .int (0 : Int32))]) [1, 2, 0] rfl
  obtain ⟨x3, y4, hL, hf⟩ := ip_b2_e hf
  suffices J121 : ∀ (ls : Array Slot) (H : Heap) (locs : List Loc), lv_has ls 6 [] → va_P (dC, dI) vwCl (wPR_collect ad cI v_LF_x v_LF_y v_LF_side v_LF_mode v_LF_skip v_PR_side v_aPlain v_aSides y4) H → va_D A (wPR_collect ad cI v_LF_x v_LF_y v_LF_side v_LF_mode v_LF_skip v_PR_side v_aPlain v_aSides y4) → va_S A s.heap H locs → W p l e rmPR_collect s m args below meth c H locs 0 0 Q (F0 m 121 ls []) by
    have L : ∀ (n : Nat) (z1 : Int32) (g2 : Nat → Int32), ip_lp2 (fPR_collect_B2 v_LF_x v_LF_y v_PR_side v_aPlain v_aSides) n z1 g2 = some (x3, y4) → ∀ (ls : Array Slot) (H : Heap) (locs : List Loc), lv_has ls 6 [(0, .ref (ad 10)), (1, .ref (ad 5)), (2, .int z1)] → va_P (dC, dI) vwCl (wPR_collect ad cI v_LF_x v_LF_y v_LF_side v_LF_mode v_LF_skip v_PR_side v_aPlain v_aSides g2) H → va_D A (wPR_collect ad cI v_LF_x v_LF_y v_LF_side v_LF_mode v_LF_skip v_PR_side v_aPlain v_aSides g2) → va_S A s.heap H locs → W p l e rmPR_collect s m args below meth c H locs 0 0 Q (F0 m 2 ls []) := by
      intro n
      induction n with
      | zero => intro z1 g2 hL; exact (ip_lp2_0 hL).elim
      | succ n ih =>
        intro z1 g2 hL ls H locs hl hP hD hS
        clear hf
        obtain ⟨r9, hf, hr2⟩ := ip_lp2_s hL
        clear hL
        unfold fPR_collect_B2 at hf
        refine lv_iload_n hx hb dPR_collect_2 rfl (lv_at hl 2 rfl) ?_
        refine lv_iconst (v := (4 : Int32)) hx hb dPR_collect_3 (by decide) ?_
        refine lv_aload_n hx hb dPR_collect_4 rfl (lv_at hl 0 rfl) ?_
        refine va_get (D := (dC, dI)) (ci := 10) (v := .int v_PR_side) (C := kR_PR) (T := kT_PR) (N := 4) hx hb hts kin_PR hown hK hP 2 rfl rfl 3 (by decide) (hts _ (List.mem_cons_of_mem _ kw2_5)) (fun _ h9 => h9) rfl dPR_collect_5 ?_
        refine lv_imul hx hb dPR_collect_8 ?_
        refine ip_icmp_gt (tgt := 121) hx hb dPR_collect_9 rfl hf (fun hf => ?_) (fun hf => ?_)
        · have hx9 := ip_lp_x hr2 hf
          replace hl := lv_sub hl (l' := []) [] rfl
          cases hx9
          exact J121 ls H locs hl hP hD hS
        · refine lv_aload_n hx hb dPR_collect_12 rfl (lv_at hl 1 rfl) ?_
          refine va_get (D := (dC, dI)) (ci := 5) (v := .int v_LF_x) (C := kR_LF) (T := kT_LF) (N := 5) hx hb hts kin_LF hown hK hP 0 rfl rfl 0 (by decide) (hts _ (List.mem_cons_of_mem _ kw1_167)) (fun _ h9 => h9) rfl dPR_collect_13 ?_
          refine lv_iconst (v := (-1 : Int32)) hx hb dPR_collect_16 (by decide) ?_
          refine lv_iload_n hx hb dPR_collect_17 rfl (lv_at hl 2 rfl) ?_
          refine lv_iconst (v := (2 : Int32)) hx hb dPR_collect_18 (by decide) ?_
          refine lv_aload_n hx hb dPR_collect_19 rfl (lv_at hl 0 rfl) ?_
          refine va_get (D := (dC, dI)) (ci := 10) (v := .int v_PR_side) (C := kR_PR) (T := kT_PR) (N := 4) hx hb hts kin_PR hown hK hP 2 rfl rfl 3 (by decide) (hts _ (List.mem_cons_of_mem _ kw2_5)) (fun _ h9 => h9) rfl dPR_collect_20 ?_
          refine lv_imul hx hb dPR_collect_23 ?_
          refine lv_isub hx hb dPR_collect_24 ?_
          refine lv_iconst (v := (1 : Int32)) hx hb dPR_collect_25 (by decide) ?_
          refine lv_isub hx hb dPR_collect_26 ?_
          refine va_mmax hx hb (by rw [hml]; exact hl.1.symm) hown (hts _ (List.mem_cons_of_mem _ kw3_48)) (hts _ (List.mem_cons_of_mem _ kw3_19)) (hts _ (List.mem_cons_of_mem _ kw1_16)) (hts _ (List.mem_cons_of_mem _ kw3_20)) (Nat.le_of_ble_eq_true rfl) (Nat.le_of_ble_eq_true rfl) (Nat.le_of_ble_eq_true rfl) (Nat.le_of_ble_eq_true rfl) dPR_collect_27 ?_
          refine ip_top hf (fun z5 hf => ?_)
          refine lv_iadd hx hb dPR_collect_30 ?_
          refine ip_top hf (fun z6 hf => ?_)
          refine lv_istore_n (lv' := [(3, .int z6), (0, .ref (ad 10)), (1, .ref (ad 5)), (2, .int z1)]) hx hb dPR_collect_31 rfl hl (by decide) rfl (fun ls hl => ?_)
          refine lv_aload_n hx hb dPR_collect_32 rfl (lv_at hl 2 rfl) ?_
          refine va_get (D := (dC, dI)) (ci := 5) (v := .int v_LF_y) (C := kR_LF) (T := kT_LF) (N := 5) hx hb hts kin_LF hown hK hP 0 rfl rfl 1 (by decide) (hts _ (List.mem_cons_of_mem _ kw1_169)) (fun _ h9 => h9) rfl dPR_collect_33 ?_
          refine lv_iconst (v := (-1 : Int32)) hx hb dPR_collect_36 (by decide) ?_
          refine lv_iconst (v := (2 : Int32)) hx hb dPR_collect_37 (by decide) ?_
          refine lv_aload_n hx hb dPR_collect_38 rfl (lv_at hl 1 rfl) ?_
          refine va_get (D := (dC, dI)) (ci := 10) (v := .int v_PR_side) (C := kR_PR) (T := kT_PR) (N := 4) hx hb hts kin_PR hown hK hP 2 rfl rfl 3 (by decide) (hts _ (List.mem_cons_of_mem _ kw2_5)) (fun _ h9 => h9) rfl dPR_collect_39 ?_
          refine lv_imul hx hb dPR_collect_42 ?_
          refine lv_iconst (v := (1 : Int32)) hx hb dPR_collect_43 (by decide) ?_
          refine lv_isub hx hb dPR_collect_44 ?_
          refine lv_iload_n hx hb dPR_collect_45 rfl (lv_at hl 3 rfl) ?_
          refine lv_isub hx hb dPR_collect_46 ?_
          refine va_mmax hx hb (by rw [hml]; exact hl.1.symm) hown (hts _ (List.mem_cons_of_mem _ kw3_48)) (hts _ (List.mem_cons_of_mem _ kw3_19)) (hts _ (List.mem_cons_of_mem _ kw1_16)) (hts _ (List.mem_cons_of_mem _ kw3_20)) (Nat.le_of_ble_eq_true rfl) (Nat.le_of_ble_eq_true rfl) (Nat.le_of_ble_eq_true rfl) (Nat.le_of_ble_eq_true rfl) dPR_collect_47 ?_
          refine ip_top hf (fun z7 hf => ?_)
          refine lv_iadd hx hb dPR_collect_50 ?_
          refine ip_top hf (fun z8 hf => ?_)
          refine lv_istore (lv' := [(4, .int z8), (3, .int z6), (0, .ref (ad 10)), (1, .ref (ad 5)), (2, .int z1)]) hx hb dPR_collect_51 hl (by decide) rfl (fun ls hl => ?_)
          refine lv_iload_n hx hb dPR_collect_53 rfl (lv_at hl 1 rfl) ?_
          refine lv_iload hx hb dPR_collect_54 (lv_at hl 0 rfl) ?_
          obtain ⟨z9, hc, hf⟩ := ip_b1_e hf
          refine ip_calli (va_runSN (As := [.int z6, .int z8]) (rest := []) ⟨hx, hb, hml, hown, hts⟩ (tIP_inPicture (l := l) (dC := dC) (dI := dI) (ad := ad) (cI := cI) (ts := ts) hc H.size) ⟨va_cnB 2 hts (ip_gd kw2_182) rfl rfl rfl (hZ.2 7 _ rfl) (hts _ (List.mem_cons_of_mem _ kw1_1)) (by decide +kernel) ⟨Nat.le_of_ble_eq_true rfl, Nat.le_of_ble_eq_true rfl⟩, (hts _ (List.mem_cons_of_mem _ kw2_181)), trivial⟩ (ip_preS hK hP hD hS hA hZ [] rfl rfl) rfl rfl hl.1 rfl (lv_room (Nat.le_of_ble_eq_true rfl)) dPR_collect_56 ⟨Nat.le_of_ble_eq_true rfl, Nat.le_of_ble_eq_true rfl⟩) hP hD hS hA [] [0, 1, 2, 3, 4, 5] [0, 1, 2, 3, 4, 5] (wPR_collect ad cI v_LF_x v_LF_y v_LF_side v_LF_mode v_LF_skip v_PR_side v_aPlain v_aSides g2) rfl rfl rfl (by decide) rfl rfl (fun H locs hP hD hS => ?_)
          clear hc
          obtain ⟨z10, hh, hf⟩ := ip_b1_e hf
          suffices J84 : ∀ (ls : Array Slot) (H : Heap) (locs : List Loc), lv_has ls 6 [(0, .ref (ad 10)), (1, .ref (ad 5)), (2, .int z1), (3, .int z6), (4, .int z8)] → va_P (dC, dI) vwCl (wPR_collect ad cI v_LF_x v_LF_y v_LF_side v_LF_mode v_LF_skip v_PR_side v_aPlain v_aSides g2) H → va_D A (wPR_collect ad cI v_LF_x v_LF_y v_LF_side v_LF_mode v_LF_skip v_PR_side v_aPlain v_aSides g2) → va_S A s.heap H locs → W p l e rmPR_collect s m args below meth c H locs 0 0 Q (F0 m 84 ls [.int z10]) by
            replace hf := hh
            refine ip_if_eq (tgt := 83) hx hb dPR_collect_59 rfl hf (fun hf => ?_) (fun hf => ?_)
            · refine lv_iconst (v := (0 : Int32)) hx hb dPR_collect_83 (by decide) ?_
              replace hl := lv_sub hl (l' := [(0, .ref (ad 10)), (1, .ref (ad 5)), (2, .int z1), (3, .int z6), (4, .int z8)]) [2, 3, 4, 1, 0] rfl
              cases hf
              exact J84 ls H locs hl hP hD hS
            · refine lv_aload_n hx hb dPR_collect_62 rfl (lv_at hl 2 rfl) ?_
              refine va_get (D := (dC, dI)) (ci := 10) (v := .ref (ad 6)) (C := kR_PR) (T := kT_PR) (N := 4) hx hb hts kin_PR hown hK hP 2 rfl rfl 0 (by decide) (hts _ (List.mem_cons_of_mem _ kw2_2)) (fun _ h9 => h9) rfl dPR_collect_63 ?_
              refine va_get (D := (dC, dI)) (ci := 6) (v := .ref (ad 23)) (C := kR_RW) (T := kT_RW) (N := 6) hx hb hts kin_RW hown hK hP 1 rfl rfl 5 (by decide) (hts _ (List.mem_cons_of_mem _ kw1_138)) (fun _ h9 => h9) rfl dPR_collect_66 ?_
              refine lv_iload_n hx hb dPR_collect_69 rfl (lv_at hl 1 rfl) ?_
              refine lv_iload hx hb dPR_collect_70 (lv_at hl 0 rfl) ?_
              obtain ⟨z11, hc, hf⟩ := ip_b1_e hf
              refine ip_calli (va_runSN (As := [.int z6, .int z8]) (rest := [.ref (ad 23)]) ⟨hx, hb, hml, hown, hts⟩ (tIP_placeOf (l := l) (dC := dC) (dI := dI) (ad := ad) (cI := cI) (ts := ts) hc H.size) ⟨va_cnB 2 hts (ip_gd kw2_185) rfl rfl rfl (hZ.2 8 _ rfl) (hts _ (List.mem_cons_of_mem _ kw1_1)) (by decide +kernel) ⟨Nat.le_of_ble_eq_true rfl, Nat.le_of_ble_eq_true rfl⟩, (hts _ (List.mem_cons_of_mem _ kw2_184)), trivial⟩ (ip_preS hK hP hD hS hA hZ [] rfl rfl) rfl rfl hl.1 rfl (lv_room (Nat.le_of_ble_eq_true rfl)) dPR_collect_72 ⟨Nat.le_of_ble_eq_true rfl, Nat.le_of_ble_eq_true rfl⟩) hP hD hS hA [] [0, 1, 2, 3, 4, 5] [0, 1, 2, 3, 4, 5] (wPR_collect ad cI v_LF_x v_LF_y v_LF_side v_LF_mode v_LF_skip v_PR_side v_aPlain v_aSides g2) rfl rfl rfl (by decide) rfl rfl (fun H locs hP hD hS => ?_)
              clear hc
              refine ip_iald hx hb hK hP 4 0 rfl rfl dPR_collect_75 hf (fun z12 hf => ?_)
              refine ip_if_eq (tgt := 83) hx hb dPR_collect_76 rfl hf (fun hf => ?_) (fun hf => ?_)
              · refine lv_iconst (v := (0 : Int32)) hx hb dPR_collect_83 (by decide) ?_
                replace hl := lv_sub hl (l' := [(0, .ref (ad 10)), (1, .ref (ad 5)), (2, .int z1), (3, .int z6), (4, .int z8)]) [2, 3, 4, 1, 0] rfl
                cases hf
                exact J84 ls H locs hl hP hD hS
              · refine lv_iconst (v := (1 : Int32)) hx hb dPR_collect_79 (by decide) ?_
                refine lv_goto (tgt := 84) hx hb dPR_collect_80 rfl ?_
                replace hl := lv_sub hl (l' := [(0, .ref (ad 10)), (1, .ref (ad 5)), (2, .int z1), (3, .int z6), (4, .int z8)]) [2, 3, 4, 1, 0] rfl
                cases hf
                exact J84 ls H locs hl hP hD hS
          intro ls H locs hl hP hD hS
          clear hh
          refine lv_istore (lv' := [(5, .int z10), (0, .ref (ad 10)), (1, .ref (ad 5)), (2, .int z1), (3, .int z6), (4, .int z8)]) hx hb dPR_collect_84 hl (by decide) rfl (fun ls hl => ?_)
          refine lv_aload_n hx hb dPR_collect_86 rfl (lv_at hl 1 rfl) ?_
          refine va_get (D := (dC, dI)) (ci := 10) (v := .ref (ad 28)) (C := kR_PR) (T := kT_PR) (N := 4) hx hb hts kin_PR hown hK hP 2 rfl rfl 1 (by decide) (hts _ (List.mem_cons_of_mem _ kw2_3)) (fun _ h9 => h9) rfl dPR_collect_87 ?_
          refine lv_iload_n hx hb dPR_collect_90 rfl (lv_at hl 3 rfl) ?_
          refine lv_iload hx hb dPR_collect_91 (lv_at hl 0 rfl) ?_
          obtain ⟨z13, hh, hf⟩ := ip_b1_e hf
          suffices J114 : ∀ (ls : Array Slot) (H : Heap) (locs : List Loc), lv_has ls 6 [(0, .ref (ad 10)), (1, .ref (ad 5)), (2, .int z1)] → va_P (dC, dI) vwCl (wPR_collect ad cI v_LF_x v_LF_y v_LF_side v_LF_mode v_LF_skip v_PR_side v_aPlain v_aSides g2) H → va_D A (wPR_collect ad cI v_LF_x v_LF_y v_LF_side v_LF_mode v_LF_skip v_PR_side v_aPlain v_aSides g2) → va_S A s.heap H locs → W p l e rmPR_collect s m args below meth c H locs 0 0 Q (F0 m 114 ls [.int z13, .int z1, .ref (ad 28)]) by
            replace hf := hh
            refine ip_if_eq (tgt := 113) hx hb dPR_collect_93 rfl hf (fun hf => ?_) (fun hf => ?_)
            · refine lv_iconst (v := (-1 : Int32)) hx hb dPR_collect_113 (by decide) ?_
              replace hl := lv_sub hl (l' := [(0, .ref (ad 10)), (1, .ref (ad 5)), (2, .int z1)]) [1, 2, 3] rfl
              cases hf
              exact J114 ls H locs hl hP hD hS
            · refine lv_aload_n hx hb dPR_collect_96 rfl (lv_at hl 1 rfl) ?_
              refine va_get (D := (dC, dI)) (ci := 10) (v := .ref (ad 6)) (C := kR_PR) (T := kT_PR) (N := 4) hx hb hts kin_PR hown hK hP 2 rfl rfl 0 (by decide) (hts _ (List.mem_cons_of_mem _ kw2_2)) (fun _ h9 => h9) rfl dPR_collect_97 ?_
              refine va_get (D := (dC, dI)) (ci := 6) (v := .ref (ad 19)) (C := kR_RW) (T := kT_RW) (N := 6) hx hb hts kin_RW hown hK hP 1 rfl rfl 1 (by decide) (hts _ (List.mem_cons_of_mem _ kw1_124)) (fun _ h9 => h9) rfl dPR_collect_100 ?_
              refine lv_iload_n hx hb dPR_collect_103 rfl (lv_at hl 4 rfl) ?_
              refine lv_iload hx hb dPR_collect_104 (lv_at hl 5 rfl) ?_
              obtain ⟨z14, hc, hf⟩ := ip_b1_e hf
              refine ip_calli (va_runSN (As := [.int z6, .int z8]) (rest := [.ref (ad 19), .int z1, .ref (ad 28)]) ⟨hx, hb, hml, hown, hts⟩ (tIP_placeOf (l := l) (dC := dC) (dI := dI) (ad := ad) (cI := cI) (ts := ts) hc H.size) ⟨va_cnB 2 hts (ip_gd kw2_185) rfl rfl rfl (hZ.2 8 _ rfl) (hts _ (List.mem_cons_of_mem _ kw1_1)) (by decide +kernel) ⟨Nat.le_of_ble_eq_true rfl, Nat.le_of_ble_eq_true rfl⟩, (hts _ (List.mem_cons_of_mem _ kw2_184)), trivial⟩ (ip_preS hK hP hD hS hA hZ [] rfl rfl) rfl rfl hl.1 rfl (lv_room (Nat.le_of_ble_eq_true rfl)) dPR_collect_106 ⟨Nat.le_of_ble_eq_true rfl, Nat.le_of_ble_eq_true rfl⟩) hP hD hS hA [] [0, 1, 2, 3, 4, 5] [0, 1, 2, 3, 4, 5] (wPR_collect ad cI v_LF_x v_LF_y v_LF_side v_LF_mode v_LF_skip v_PR_side v_aPlain v_aSides g2) rfl rfl rfl (by decide) rfl rfl (fun H locs hP hD hS => ?_)
              clear hc
              refine ip_iald hx hb hK hP 3 0 rfl rfl dPR_collect_109 hf (fun z15 hf => ?_)
              refine lv_goto (tgt := 114) hx hb dPR_collect_110 rfl ?_
              replace hl := lv_sub hl (l' := [(0, .ref (ad 10)), (1, .ref (ad 5)), (2, .int z1)]) [1, 2, 3] rfl
              cases hf
              exact J114 ls H locs hl hP hD hS
          intro ls H locs hl hP hD hS
          clear hh
          refine ip_iast hx hb hK hP hD hS 5 0 rfl rfl (fun g16 => (wPR_collect ad cI v_LF_x v_LF_y v_LF_side v_LF_mode v_LF_skip v_PR_side v_aPlain v_aSides g16)) (fun _ => rfl) dPR_collect_114 hf (fun g16 H locs hf hP hD hS => ?_)
          refine ip_iinc (k0 := 2) (v0 := (1 : Int32)) (lv1 := fun z17 => [(2, .int z17), (0, .ref (ad 10)), (1, .ref (ad 5))]) hx hb dPR_collect_115 hl rfl (by decide) (by decide) (fun _ => rfl) hf (fun z17 ls hf hl => ?_)
          refine lv_goto (tgt := 2) hx hb dPR_collect_118 rfl ?_
          replace hl := lv_sub hl (l' := [(0, .ref (ad 10)), (1, .ref (ad 5)), (2, .int z17)]) [1, 2, 0] rfl
          exact ih _ _ (ip_lp2_l hr2 hf) ls H locs hl hP hD hS
    exact L 1000 _ _ hL ls H locs hl hP hD hS
  intro ls H locs hl hP hD hS
  clear hL
  cases hf
  exact hret H locs 121 ls dPR_collect_121 hP hD hS
set_option maxHeartbeats 4000000 in
set_option maxRecDepth 100000 in
theorem tPR_fillGaps {l : Launch} {dC : Nat → ClassId} {dI : Nat → Nat → Nat} {cI : ClassId} {ad : Nat → Nat} {ts : ip_TT} {v_PR_side : Int32} {v_aRefs : Nat → Int32}  {nv_aRefs : Nat → Int32} (hf : fPR_fillGaps v_PR_side v_aRefs = some nv_aRefs) : ip_Mv l yPR_fillGaps wsPR_fillGaps rmPR_fillGaps (dC, dI) vwCl [(cI, .int)] ts [.ref (ad 10)] (wPR_fillGaps ad cI v_PR_side v_aRefs) (wPR_fillGaps ad cI v_PR_side nv_aRefs) := by
  refine ip_startV (cc := cPR_fillGaps) (maxL := 3) (by decide) rfl (Nat.le_of_ble_eq_true rfl) ?_
  intro p e s m args below meth c Q A ls hx hb hml hts hown hK hP hD hS hA hZ hl hret
  replace hl : lv_has ls 3 [(0, .ref (ad 10))] := hl
  unfold fPR_fillGaps at hf
  suffices J0 : ∀ (ls : Array Slot) (H : Heap) (locs : List Loc), lv_has ls 3 [(0, .ref (ad 10))] → va_P (dC, dI) vwCl (wPR_fillGaps ad cI v_PR_side v_aRefs) H → va_D A (wPR_fillGaps ad cI v_PR_side v_aRefs) → va_S A s.heap H locs → W p l e rmPR_fillGaps s m args below meth c H locs 0 0 Q (F0 m 0 ls []) by exact J0 ls s.heap [] hl hP hD hS
  clear hP hD hS hl
  intro ls H locs hl hP hD hS
  refine lv_sipush (v := (128 : Int32)) hx hb dPR_fillGaps_0 (by decide) ?_
  refine lv_istore_n (lv' := [(1, .int (128 : Int32)), (0, .ref (ad 10))]) hx hb dPR_fillGaps_3 rfl hl (by decide) rfl (fun ls hl => ?_)
  refine lv_iconst (v := (4 : Int32)) hx hb dPR_fillGaps_4 (by decide) ?_
  refine lv_aload_n hx hb dPR_fillGaps_5 rfl (lv_at hl 1 rfl) ?_
  refine va_get (D := (dC, dI)) (ci := 10) (v := .int v_PR_side) (C := kR_PR) (T := kT_PR) (N := 4) hx hb hts kin_PR hown hK hP 0 rfl rfl 3 (by decide) (hts _ (List.mem_cons_of_mem _ kw2_5)) (fun _ h9 => h9) rfl dPR_fillGaps_6 ?_
  refine lv_imul hx hb dPR_fillGaps_9 ?_
  refine ip_top hf (fun z1 hf => ?_)
  refine lv_istore_n (lv' := [(2, .int z1), (1, .int (128 : Int32)), (0, .ref (ad 10))]) hx hb dPR_fillGaps_10 rfl hl (by decide) rfl (fun ls hl => ?_)
  replace hl := lv_sub hl (l' := [(0, .ref (ad 10)), (1, .int (128 : Int32)), (2, .int z1)]) [2, 1, 0] rfl
  obtain ⟨x4, x5, hL, hf⟩ := ip_b2_e hf
  suffices J42 : ∀ (ls : Array Slot) (H : Heap) (locs : List Loc), lv_has ls 3 [(0, .ref (ad 10)), (1, .int x4)] → va_P (dC, dI) vwCl (wPR_fillGaps ad cI v_PR_side v_aRefs) H → va_D A (wPR_fillGaps ad cI v_PR_side v_aRefs) → va_S A s.heap H locs → W p l e rmPR_fillGaps s m args below meth c H locs 0 0 Q (F0 m 42 ls []) by
    have L : ∀ (n : Nat) (z2 : Int32) (z3 : Int32), ip_lp2 (fPR_fillGaps_B11 v_aRefs) n z2 z3 = some (x4, x5) → ∀ (ls : Array Slot) (H : Heap) (locs : List Loc), lv_has ls 3 [(0, .ref (ad 10)), (1, .int z2), (2, .int z3)] → va_P (dC, dI) vwCl (wPR_fillGaps ad cI v_PR_side v_aRefs) H → va_D A (wPR_fillGaps ad cI v_PR_side v_aRefs) → va_S A s.heap H locs → W p l e rmPR_fillGaps s m args below meth c H locs 0 0 Q (F0 m 11 ls []) := by
      intro n
      induction n with
      | zero => intro z2 z3 hL; exact (ip_lp2_0 hL).elim
      | succ n ih =>
        intro z2 z3 hL ls H locs hl hP hD hS
        clear hf
        obtain ⟨r9, hf, hr11⟩ := ip_lp2_s hL
        clear hL
        unfold fPR_fillGaps_B11 at hf
        refine lv_iload_n hx hb dPR_fillGaps_11 rfl (lv_at hl 2 rfl) ?_
        refine ip_if_lt (tgt := 42) hx hb dPR_fillGaps_12 rfl hf (fun hf => ?_) (fun hf => ?_)
        · have hx9 := ip_lp_x hr11 hf
          replace hl := lv_sub hl (l' := [(0, .ref (ad 10)), (1, .int z2)]) [0, 1] rfl
          cases hx9
          exact J42 ls H locs hl hP hD hS
        · refine lv_aload_n hx hb dPR_fillGaps_15 rfl (lv_at hl 0 rfl) ?_
          refine va_get (D := (dC, dI)) (ci := 10) (v := .ref (ad 28)) (C := kR_PR) (T := kT_PR) (N := 4) hx hb hts kin_PR hown hK hP 0 rfl rfl 1 (by decide) (hts _ (List.mem_cons_of_mem _ kw2_3)) (fun _ h9 => h9) rfl dPR_fillGaps_16 ?_
          refine lv_iload_n hx hb dPR_fillGaps_19 rfl (lv_at hl 2 rfl) ?_
          refine ip_iald hx hb hK hP 1 0 rfl rfl dPR_fillGaps_20 hf (fun z6 hf => ?_)
          refine lv_iconst (v := (-1 : Int32)) hx hb dPR_fillGaps_21 (by decide) ?_
          obtain ⟨z7, hh, hf⟩ := ip_b1_e hf
          suffices J35 : ∀ (ls : Array Slot) (H : Heap) (locs : List Loc), lv_has ls 3 [(0, .ref (ad 10)), (2, .int z3)] → va_P (dC, dI) vwCl (wPR_fillGaps ad cI v_PR_side v_aRefs) H → va_D A (wPR_fillGaps ad cI v_PR_side v_aRefs) → va_S A s.heap H locs → W p l e rmPR_fillGaps s m args below meth c H locs 0 0 Q (F0 m 35 ls [.int z7]) by
            replace hf := hh
            refine ip_icmp_ne (tgt := 29) hx hb dPR_fillGaps_22 rfl hf (fun hf => ?_) (fun hf => ?_)
            · refine lv_aload_n hx hb dPR_fillGaps_29 rfl (lv_at hl 0 rfl) ?_
              refine va_get (D := (dC, dI)) (ci := 10) (v := .ref (ad 28)) (C := kR_PR) (T := kT_PR) (N := 4) hx hb hts kin_PR hown hK hP 0 rfl rfl 1 (by decide) (hts _ (List.mem_cons_of_mem _ kw2_3)) (fun _ h9 => h9) rfl dPR_fillGaps_30 ?_
              refine lv_iload_n hx hb dPR_fillGaps_33 rfl (lv_at hl 2 rfl) ?_
              refine ip_iald hx hb hK hP 1 0 rfl rfl dPR_fillGaps_34 hf (fun z8 hf => ?_)
              replace hl := lv_sub hl (l' := [(0, .ref (ad 10)), (2, .int z3)]) [0, 2] rfl
              cases hf
              exact J35 ls H locs hl hP hD hS
            · refine lv_iload_n hx hb dPR_fillGaps_25 rfl (lv_at hl 1 rfl) ?_
              refine lv_goto (tgt := 35) hx hb dPR_fillGaps_26 rfl ?_
              replace hl := lv_sub hl (l' := [(0, .ref (ad 10)), (2, .int z3)]) [0, 2] rfl
              cases hf
              exact J35 ls H locs hl hP hD hS
          intro ls H locs hl hP hD hS
          clear hh
          refine lv_istore_n (lv' := [(1, .int z7), (0, .ref (ad 10)), (2, .int z3)]) hx hb dPR_fillGaps_35 rfl hl (by decide) rfl (fun ls hl => ?_)
          refine ip_iinc (k0 := 2) (v0 := (-1 : Int32)) (lv1 := fun z9 => [(2, .int z9), (1, .int z7), (0, .ref (ad 10))]) hx hb dPR_fillGaps_36 hl rfl (by decide) (by decide) (fun _ => rfl) hf (fun z9 ls hf hl => ?_)
          refine lv_goto (tgt := 11) hx hb dPR_fillGaps_39 rfl ?_
          replace hl := lv_sub hl (l' := [(0, .ref (ad 10)), (1, .int z7), (2, .int z9)]) [2, 1, 0] rfl
          exact ih _ _ (ip_lp2_l hr11 hf) ls H locs hl hP hD hS
    exact L 1000 _ _ hL ls H locs hl hP hD hS
  intro ls H locs hl hP hD hS
  clear hL
  refine lv_iconst (v := (0 : Int32)) hx hb dPR_fillGaps_42 (by decide) ?_
  refine lv_istore_n (lv' := [(2, .int (0 : Int32)), (0, .ref (ad 10)), (1, .int x4)]) hx hb dPR_fillGaps_43 rfl hl (by decide) rfl (fun ls hl => ?_)
  replace hl := lv_sub hl (l' := [(0, .ref (ad 10)), (1, .int x4), (2, .int (0 : Int32))]) [1, 2, 0] rfl
  obtain ⟨x13, x14, y15, hL, hf⟩ := ip_b3_e hf
  suffices J88 : ∀ (ls : Array Slot) (H : Heap) (locs : List Loc), lv_has ls 3 [] → va_P (dC, dI) vwCl (wPR_fillGaps ad cI v_PR_side y15) H → va_D A (wPR_fillGaps ad cI v_PR_side y15) → va_S A s.heap H locs → W p l e rmPR_fillGaps s m args below meth c H locs 0 0 Q (F0 m 88 ls []) by
    have L : ∀ (n : Nat) (z10 : Int32) (z11 : Int32) (g12 : Nat → Int32), ip_lp3 (fPR_fillGaps_B44 v_PR_side) n z10 z11 g12 = some (x13, x14, y15) → ∀ (ls : Array Slot) (H : Heap) (locs : List Loc), lv_has ls 3 [(0, .ref (ad 10)), (1, .int z10), (2, .int z11)] → va_P (dC, dI) vwCl (wPR_fillGaps ad cI v_PR_side g12) H → va_D A (wPR_fillGaps ad cI v_PR_side g12) → va_S A s.heap H locs → W p l e rmPR_fillGaps s m args below meth c H locs 0 0 Q (F0 m 44 ls []) := by
      intro n
      induction n with
      | zero => intro z10 z11 g12 hL; exact (ip_lp3_0 hL).elim
      | succ n ih =>
        intro z10 z11 g12 hL ls H locs hl hP hD hS
        clear hf
        obtain ⟨r9, hf, hr44⟩ := ip_lp3_s hL
        clear hL
        unfold fPR_fillGaps_B44 at hf
        refine lv_iload_n hx hb dPR_fillGaps_44 rfl (lv_at hl 2 rfl) ?_
        refine lv_iconst (v := (4 : Int32)) hx hb dPR_fillGaps_45 (by decide) ?_
        refine lv_aload_n hx hb dPR_fillGaps_46 rfl (lv_at hl 0 rfl) ?_
        refine va_get (D := (dC, dI)) (ci := 10) (v := .int v_PR_side) (C := kR_PR) (T := kT_PR) (N := 4) hx hb hts kin_PR hown hK hP 0 rfl rfl 3 (by decide) (hts _ (List.mem_cons_of_mem _ kw2_5)) (fun _ h9 => h9) rfl dPR_fillGaps_47 ?_
        refine lv_imul hx hb dPR_fillGaps_50 ?_
        refine ip_icmp_gt (tgt := 88) hx hb dPR_fillGaps_51 rfl hf (fun hf => ?_) (fun hf => ?_)
        · have hx9 := ip_lp_x hr44 hf
          replace hl := lv_sub hl (l' := []) [] rfl
          cases hx9
          exact J88 ls H locs hl hP hD hS
        · refine lv_aload_n hx hb dPR_fillGaps_54 rfl (lv_at hl 0 rfl) ?_
          refine va_get (D := (dC, dI)) (ci := 10) (v := .ref (ad 28)) (C := kR_PR) (T := kT_PR) (N := 4) hx hb hts kin_PR hown hK hP 0 rfl rfl 1 (by decide) (hts _ (List.mem_cons_of_mem _ kw2_3)) (fun _ h9 => h9) rfl dPR_fillGaps_55 ?_
          refine lv_iload_n hx hb dPR_fillGaps_58 rfl (lv_at hl 2 rfl) ?_
          refine ip_iald hx hb hK hP 1 0 rfl rfl dPR_fillGaps_59 hf (fun z16 hf => ?_)
          refine lv_iconst (v := (-1 : Int32)) hx hb dPR_fillGaps_60 (by decide) ?_
          obtain ⟨z17, hh, hf⟩ := ip_b1_e hf
          suffices J74 : ∀ (ls : Array Slot) (H : Heap) (locs : List Loc), lv_has ls 3 [(0, .ref (ad 10)), (2, .int z11)] → va_P (dC, dI) vwCl (wPR_fillGaps ad cI v_PR_side g12) H → va_D A (wPR_fillGaps ad cI v_PR_side g12) → va_S A s.heap H locs → W p l e rmPR_fillGaps s m args below meth c H locs 0 0 Q (F0 m 74 ls [.int z17]) by
            replace hf := hh
            refine ip_icmp_ne (tgt := 68) hx hb dPR_fillGaps_61 rfl hf (fun hf => ?_) (fun hf => ?_)
            · refine lv_aload_n hx hb dPR_fillGaps_68 rfl (lv_at hl 0 rfl) ?_
              refine va_get (D := (dC, dI)) (ci := 10) (v := .ref (ad 28)) (C := kR_PR) (T := kT_PR) (N := 4) hx hb hts kin_PR hown hK hP 0 rfl rfl 1 (by decide) (hts _ (List.mem_cons_of_mem _ kw2_3)) (fun _ h9 => h9) rfl dPR_fillGaps_69 ?_
              refine lv_iload_n hx hb dPR_fillGaps_72 rfl (lv_at hl 2 rfl) ?_
              refine ip_iald hx hb hK hP 1 0 rfl rfl dPR_fillGaps_73 hf (fun z18 hf => ?_)
              replace hl := lv_sub hl (l' := [(0, .ref (ad 10)), (2, .int z11)]) [0, 2] rfl
              cases hf
              exact J74 ls H locs hl hP hD hS
            · refine lv_iload_n hx hb dPR_fillGaps_64 rfl (lv_at hl 1 rfl) ?_
              refine lv_goto (tgt := 74) hx hb dPR_fillGaps_65 rfl ?_
              replace hl := lv_sub hl (l' := [(0, .ref (ad 10)), (2, .int z11)]) [0, 2] rfl
              cases hf
              exact J74 ls H locs hl hP hD hS
          intro ls H locs hl hP hD hS
          clear hh
          refine lv_istore_n (lv' := [(1, .int z17), (0, .ref (ad 10)), (2, .int z11)]) hx hb dPR_fillGaps_74 rfl hl (by decide) rfl (fun ls hl => ?_)
          refine lv_aload_n hx hb dPR_fillGaps_75 rfl (lv_at hl 1 rfl) ?_
          refine va_get (D := (dC, dI)) (ci := 10) (v := .ref (ad 28)) (C := kR_PR) (T := kT_PR) (N := 4) hx hb hts kin_PR hown hK hP 0 rfl rfl 1 (by decide) (hts _ (List.mem_cons_of_mem _ kw2_3)) (fun _ h9 => h9) rfl dPR_fillGaps_76 ?_
          refine lv_iload_n hx hb dPR_fillGaps_79 rfl (lv_at hl 2 rfl) ?_
          refine lv_iload_n hx hb dPR_fillGaps_80 rfl (lv_at hl 0 rfl) ?_
          refine ip_iast hx hb hK hP hD hS 1 0 rfl rfl (fun g19 => (wPR_fillGaps ad cI v_PR_side g19)) (fun _ => rfl) dPR_fillGaps_81 hf (fun g19 H locs hf hP hD hS => ?_)
          refine ip_iinc (k0 := 2) (v0 := (1 : Int32)) (lv1 := fun z20 => [(2, .int z20), (1, .int z17), (0, .ref (ad 10))]) hx hb dPR_fillGaps_82 hl rfl (by decide) (by decide) (fun _ => rfl) hf (fun z20 ls hf hl => ?_)
          refine lv_goto (tgt := 44) hx hb dPR_fillGaps_85 rfl ?_
          replace hl := lv_sub hl (l' := [(0, .ref (ad 10)), (1, .int z17), (2, .int z20)]) [2, 1, 0] rfl
          exact ih _ _ _ (ip_lp3_l hr44 hf) ls H locs hl hP hD hS
    exact L 1000 _ _ _ hL ls H locs hl hP hD hS
  intro ls H locs hl hP hD hS
  clear hL
  cases hf
  exact hret H locs 88 ls dPR_fillGaps_88 hP hD hS
set_option maxHeartbeats 4000000 in
set_option maxRecDepth 100000 in
theorem tPR_smooth {l : Launch} {dC : Nat → ClassId} {dI : Nat → Nat → Nat} {cI : ClassId} {ad : Nat → Nat} {ts : ip_TT} {v_PR_side : Int32} {v_aRefs : Nat → Int32} {v_aUnsm : Nat → Int32}  {nv_aRefs : Nat → Int32} {nv_aUnsm : Nat → Int32} (hf : fPR_smooth v_PR_side v_aRefs v_aUnsm = some (nv_aRefs, nv_aUnsm)) : ip_Mv l yPR_smooth wsPR_smooth rmPR_smooth (dC, dI) vwCl [(cI, .int)] ts [.ref (ad 10)] (wPR_smooth ad cI v_PR_side v_aRefs v_aUnsm) (wPR_smooth ad cI v_PR_side nv_aRefs nv_aUnsm) := by
  refine ip_startV (cc := cPR_smooth) (maxL := 2) (by decide) rfl (Nat.le_of_ble_eq_true rfl) ?_
  intro p e s m args below meth c Q A ls hx hb hml hts hown hK hP hD hS hA hZ hl hret
  replace hl : lv_has ls 2 [(0, .ref (ad 10))] := hl
  unfold fPR_smooth at hf
  suffices J0 : ∀ (ls : Array Slot) (H : Heap) (locs : List Loc), lv_has ls 2 [(0, .ref (ad 10))] → va_P (dC, dI) vwCl (wPR_smooth ad cI v_PR_side v_aRefs v_aUnsm) H → va_D A (wPR_smooth ad cI v_PR_side v_aRefs v_aUnsm) → va_S A s.heap H locs → W p l e rmPR_smooth s m args below meth c H locs 0 0 Q (F0 m 0 ls []) by exact J0 ls s.heap [] hl hP hD hS
  clear hP hD hS hl
  intro ls H locs hl hP hD hS
  refine lv_aload_n hx hb dPR_smooth_0 rfl (lv_at hl 0 rfl) ?_
  refine va_get (D := (dC, dI)) (ci := 10) (v := .ref (ad 28)) (C := kR_PR) (T := kT_PR) (N := 4) hx hb hts kin_PR hown hK hP 0 rfl rfl 1 (by decide) (hts _ (List.mem_cons_of_mem _ kw2_3)) (fun _ h9 => h9) rfl dPR_smooth_1 ?_
  refine lv_iconst (v := (0 : Int32)) hx hb dPR_smooth_4 (by decide) ?_
  refine lv_aload_n hx hb dPR_smooth_5 rfl (lv_at hl 0 rfl) ?_
  refine va_get (D := (dC, dI)) (ci := 10) (v := .ref (ad 29)) (C := kR_PR) (T := kT_PR) (N := 4) hx hb hts kin_PR hown hK hP 0 rfl rfl 2 (by decide) (hts _ (List.mem_cons_of_mem _ kw2_4)) (fun _ h9 => h9) rfl dPR_smooth_6 ?_
  refine lv_iconst (v := (0 : Int32)) hx hb dPR_smooth_9 (by decide) ?_
  refine lv_bipush (v := (33 : Int32)) hx hb dPR_smooth_10 (by decide) ?_
  refine va_copyi (ty := .int) hx hb (by rw [hml]; exact hl.1.symm) hown (hts _ (List.mem_cons_of_mem _ kw3_59)) (hts _ (List.mem_cons_of_mem _ kw2_164)) (hts _ (List.mem_cons_of_mem _ kw2_163)) (hts _ (List.mem_cons_of_mem _ kw1_15)) hK hP hD hS 1 2 0 0 rfl rfl rfl rfl rfl (by decide) (by decide) (by decide) (by decide) (by decide) (fun _ _ => rfl) (Nat.le_of_ble_eq_true rfl) (by decide) dPR_smooth_12 (fun H locs hP hD hS => ?_)
  obtain ⟨g1, hg9, hf⟩ := ip_lt_e hf
  rw [← hg9] at hP hD
  replace hP : va_P (dC, dI) vwCl (wPR_smooth ad cI v_PR_side v_aRefs g1) H := hP
  replace hD : va_D A (wPR_smooth ad cI v_PR_side v_aRefs g1) := hD
  clear hg9
  refine lv_iconst (v := (1 : Int32)) hx hb dPR_smooth_15 (by decide) ?_
  refine lv_istore_n (lv' := [(1, .int (1 : Int32)), (0, .ref (ad 10))]) hx hb dPR_smooth_16 rfl hl (by decide) rfl (fun ls hl => ?_)
  replace hl := lv_sub hl (l' := [(0, .ref (ad 10)), (1, .int (1 : Int32))]) [1, 0] rfl
  obtain ⟨x4, y5, hL, hf⟩ := ip_b2_e hf
  suffices J69 : ∀ (ls : Array Slot) (H : Heap) (locs : List Loc), lv_has ls 2 [] → va_P (dC, dI) vwCl (wPR_smooth ad cI v_PR_side y5 g1) H → va_D A (wPR_smooth ad cI v_PR_side y5 g1) → va_S A s.heap H locs → W p l e rmPR_smooth s m args below meth c H locs 0 0 Q (F0 m 69 ls []) by
    have L : ∀ (n : Nat) (z2 : Int32) (g3 : Nat → Int32), ip_lp2 (fPR_smooth_B17 v_PR_side g1) n z2 g3 = some (x4, y5) → ∀ (ls : Array Slot) (H : Heap) (locs : List Loc), lv_has ls 2 [(0, .ref (ad 10)), (1, .int z2)] → va_P (dC, dI) vwCl (wPR_smooth ad cI v_PR_side g3 g1) H → va_D A (wPR_smooth ad cI v_PR_side g3 g1) → va_S A s.heap H locs → W p l e rmPR_smooth s m args below meth c H locs 0 0 Q (F0 m 17 ls []) := by
      intro n
      induction n with
      | zero => intro z2 g3 hL; exact (ip_lp2_0 hL).elim
      | succ n ih =>
        intro z2 g3 hL ls H locs hl hP hD hS
        clear hf
        obtain ⟨r9, hf, hr17⟩ := ip_lp2_s hL
        clear hL
        unfold fPR_smooth_B17 at hf
        refine lv_iload_n hx hb dPR_smooth_17 rfl (lv_at hl 1 rfl) ?_
        refine lv_iconst (v := (4 : Int32)) hx hb dPR_smooth_18 (by decide) ?_
        refine lv_aload_n hx hb dPR_smooth_19 rfl (lv_at hl 0 rfl) ?_
        refine va_get (D := (dC, dI)) (ci := 10) (v := .int v_PR_side) (C := kR_PR) (T := kT_PR) (N := 4) hx hb hts kin_PR hown hK hP 0 rfl rfl 3 (by decide) (hts _ (List.mem_cons_of_mem _ kw2_5)) (fun _ h9 => h9) rfl dPR_smooth_20 ?_
        refine lv_imul hx hb dPR_smooth_23 ?_
        refine ip_icmp_ge (tgt := 69) hx hb dPR_smooth_24 rfl hf (fun hf => ?_) (fun hf => ?_)
        · have hx9 := ip_lp_x hr17 hf
          replace hl := lv_sub hl (l' := []) [] rfl
          cases hx9
          exact J69 ls H locs hl hP hD hS
        · refine lv_aload_n hx hb dPR_smooth_27 rfl (lv_at hl 0 rfl) ?_
          refine va_get (D := (dC, dI)) (ci := 10) (v := .ref (ad 28)) (C := kR_PR) (T := kT_PR) (N := 4) hx hb hts kin_PR hown hK hP 0 rfl rfl 1 (by decide) (hts _ (List.mem_cons_of_mem _ kw2_3)) (fun _ h9 => h9) rfl dPR_smooth_28 ?_
          refine lv_iload_n hx hb dPR_smooth_31 rfl (lv_at hl 1 rfl) ?_
          refine lv_aload_n hx hb dPR_smooth_32 rfl (lv_at hl 0 rfl) ?_
          refine va_get (D := (dC, dI)) (ci := 10) (v := .ref (ad 29)) (C := kR_PR) (T := kT_PR) (N := 4) hx hb hts kin_PR hown hK hP 0 rfl rfl 2 (by decide) (hts _ (List.mem_cons_of_mem _ kw2_4)) (fun _ h9 => h9) rfl dPR_smooth_33 ?_
          refine lv_iload_n hx hb dPR_smooth_36 rfl (lv_at hl 1 rfl) ?_
          refine lv_iconst (v := (1 : Int32)) hx hb dPR_smooth_37 (by decide) ?_
          refine lv_isub hx hb dPR_smooth_38 ?_
          refine ip_iald hx hb hK hP 2 0 rfl rfl dPR_smooth_39 hf (fun z6 hf => ?_)
          refine lv_iconst (v := (2 : Int32)) hx hb dPR_smooth_40 (by decide) ?_
          refine lv_aload_n hx hb dPR_smooth_41 rfl (lv_at hl 0 rfl) ?_
          refine va_get (D := (dC, dI)) (ci := 10) (v := .ref (ad 29)) (C := kR_PR) (T := kT_PR) (N := 4) hx hb hts kin_PR hown hK hP 0 rfl rfl 2 (by decide) (hts _ (List.mem_cons_of_mem _ kw2_4)) (fun _ h9 => h9) rfl dPR_smooth_42 ?_
          refine lv_iload_n hx hb dPR_smooth_45 rfl (lv_at hl 1 rfl) ?_
          refine ip_iald hx hb hK hP 2 0 rfl rfl dPR_smooth_46 hf (fun z7 hf => ?_)
          refine lv_imul hx hb dPR_smooth_47 ?_
          refine lv_iadd hx hb dPR_smooth_48 ?_
          refine lv_aload_n hx hb dPR_smooth_49 rfl (lv_at hl 0 rfl) ?_
          refine va_get (D := (dC, dI)) (ci := 10) (v := .ref (ad 29)) (C := kR_PR) (T := kT_PR) (N := 4) hx hb hts kin_PR hown hK hP 0 rfl rfl 2 (by decide) (hts _ (List.mem_cons_of_mem _ kw2_4)) (fun _ h9 => h9) rfl dPR_smooth_50 ?_
          refine lv_iload_n hx hb dPR_smooth_53 rfl (lv_at hl 1 rfl) ?_
          refine lv_iconst (v := (1 : Int32)) hx hb dPR_smooth_54 (by decide) ?_
          refine lv_iadd hx hb dPR_smooth_55 ?_
          refine ip_iald hx hb hK hP 2 0 rfl rfl dPR_smooth_56 hf (fun z8 hf => ?_)
          refine lv_iadd hx hb dPR_smooth_57 ?_
          refine lv_iconst (v := (2 : Int32)) hx hb dPR_smooth_58 (by decide) ?_
          refine lv_iadd hx hb dPR_smooth_59 ?_
          refine lv_iconst (v := (2 : Int32)) hx hb dPR_smooth_60 (by decide) ?_
          refine lv_ishr hx hb dPR_smooth_61 ?_
          refine ip_iast hx hb hK hP hD hS 1 0 rfl rfl (fun g9 => (wPR_smooth ad cI v_PR_side g9 g1)) (fun _ => rfl) dPR_smooth_62 hf (fun g9 H locs hf hP hD hS => ?_)
          refine ip_iinc (k0 := 1) (v0 := (1 : Int32)) (lv1 := fun z10 => [(1, .int z10), (0, .ref (ad 10))]) hx hb dPR_smooth_63 hl rfl (by decide) (by decide) (fun _ => rfl) hf (fun z10 ls hf hl => ?_)
          refine lv_goto (tgt := 17) hx hb dPR_smooth_66 rfl ?_
          replace hl := lv_sub hl (l' := [(0, .ref (ad 10)), (1, .int z10)]) [1, 0] rfl
          exact ih _ _ (ip_lp2_l hr17 hf) ls H locs hl hP hD hS
    exact L 1000 _ _ hL ls H locs hl hP hD hS
  intro ls H locs hl hP hD hS
  clear hL
  cases hf
  exact hret H locs 69 ls dPR_smooth_69 hP hD hS
set_option maxHeartbeats 4000000 in
set_option maxRecDepth 100000 in
theorem tPR_left {l : Launch} {dC : Nat → ClassId} {dI : Nat → Nat → Nat} {cI : ClassId} {ad : Nat → Nat} {ts : ip_TT} {v_PR_side : Int32} {v_aRefs : Nat → Int32} {p1 : Int32} {r0 : Int32}  (hf : fPR_left v_PR_side v_aRefs p1 = some r0) : ip_Mi l yPR_left wsPR_left rmPR_left (dC, dI) vwCl [(cI, .int)] ts [.ref (ad 10), .int p1] (wPR_left ad cI v_PR_side v_aRefs) (wPR_left ad cI v_PR_side v_aRefs) r0 := by
  refine ip_startI (cc := cPR_left) (maxL := 2) (by decide) rfl (Nat.le_of_ble_eq_true rfl) ?_
  intro p e s m args below meth c Q A ls hx hb hml hts hown hK hP hD hS hA hZ hl hret
  replace hl : lv_has ls 2 [(0, .ref (ad 10)), (1, .int p1)] := hl
  unfold fPR_left at hf
  suffices J0 : ∀ (ls : Array Slot) (H : Heap) (locs : List Loc), lv_has ls 2 [(0, .ref (ad 10)), (1, .int p1)] → va_P (dC, dI) vwCl (wPR_left ad cI v_PR_side v_aRefs) H → va_D A (wPR_left ad cI v_PR_side v_aRefs) → va_S A s.heap H locs → W p l e rmPR_left s m args below meth c H locs 0 0 Q (F0 m 0 ls []) by exact J0 ls s.heap [] hl hP hD hS
  clear hP hD hS hl
  intro ls H locs hl hP hD hS
  refine lv_aload_n hx hb dPR_left_0 rfl (lv_at hl 0 rfl) ?_
  refine va_get (D := (dC, dI)) (ci := 10) (v := .ref (ad 28)) (C := kR_PR) (T := kT_PR) (N := 4) hx hb hts kin_PR hown hK hP 0 rfl rfl 1 (by decide) (hts _ (List.mem_cons_of_mem _ kw2_3)) (fun _ h9 => h9) rfl dPR_left_1 ?_
  refine lv_iconst (v := (2 : Int32)) hx hb dPR_left_4 (by decide) ?_
  refine lv_aload_n hx hb dPR_left_5 rfl (lv_at hl 0 rfl) ?_
  refine va_get (D := (dC, dI)) (ci := 10) (v := .int v_PR_side) (C := kR_PR) (T := kT_PR) (N := 4) hx hb hts kin_PR hown hK hP 0 rfl rfl 3 (by decide) (hts _ (List.mem_cons_of_mem _ kw2_5)) (fun _ h9 => h9) rfl dPR_left_6 ?_
  refine lv_imul hx hb dPR_left_9 ?_
  refine lv_iconst (v := (1 : Int32)) hx hb dPR_left_10 (by decide) ?_
  refine lv_isub hx hb dPR_left_11 ?_
  refine lv_iload_n hx hb dPR_left_12 rfl (lv_at hl 1 rfl) ?_
  refine lv_isub hx hb dPR_left_13 ?_
  refine ip_iald hx hb hK hP 1 0 rfl rfl dPR_left_14 hf (fun z1 hf => ?_)
  cases hf
  exact hret H locs 15 ls _ dPR_left_15 rfl hP hD hS
set_option maxHeartbeats 4000000 in
set_option maxRecDepth 100000 in
theorem tPR_above {l : Launch} {dC : Nat → ClassId} {dI : Nat → Nat → Nat} {cI : ClassId} {ad : Nat → Nat} {ts : ip_TT} {v_PR_side : Int32} {v_aRefs : Nat → Int32} {p1 : Int32} {r0 : Int32}  (hf : fPR_above v_PR_side v_aRefs p1 = some r0) : ip_Mi l yPR_above wsPR_above rmPR_above (dC, dI) vwCl [(cI, .int)] ts [.ref (ad 10), .int p1] (wPR_above ad cI v_PR_side v_aRefs) (wPR_above ad cI v_PR_side v_aRefs) r0 := by
  refine ip_startI (cc := cPR_above) (maxL := 2) (by decide) rfl (Nat.le_of_ble_eq_true rfl) ?_
  intro p e s m args below meth c Q A ls hx hb hml hts hown hK hP hD hS hA hZ hl hret
  replace hl : lv_has ls 2 [(0, .ref (ad 10)), (1, .int p1)] := hl
  unfold fPR_above at hf
  suffices J0 : ∀ (ls : Array Slot) (H : Heap) (locs : List Loc), lv_has ls 2 [(0, .ref (ad 10)), (1, .int p1)] → va_P (dC, dI) vwCl (wPR_above ad cI v_PR_side v_aRefs) H → va_D A (wPR_above ad cI v_PR_side v_aRefs) → va_S A s.heap H locs → W p l e rmPR_above s m args below meth c H locs 0 0 Q (F0 m 0 ls []) by exact J0 ls s.heap [] hl hP hD hS
  clear hP hD hS hl
  intro ls H locs hl hP hD hS
  refine lv_aload_n hx hb dPR_above_0 rfl (lv_at hl 0 rfl) ?_
  refine va_get (D := (dC, dI)) (ci := 10) (v := .ref (ad 28)) (C := kR_PR) (T := kT_PR) (N := 4) hx hb hts kin_PR hown hK hP 0 rfl rfl 1 (by decide) (hts _ (List.mem_cons_of_mem _ kw2_3)) (fun _ h9 => h9) rfl dPR_above_1 ?_
  refine lv_iconst (v := (2 : Int32)) hx hb dPR_above_4 (by decide) ?_
  refine lv_aload_n hx hb dPR_above_5 rfl (lv_at hl 0 rfl) ?_
  refine va_get (D := (dC, dI)) (ci := 10) (v := .int v_PR_side) (C := kR_PR) (T := kT_PR) (N := 4) hx hb hts kin_PR hown hK hP 0 rfl rfl 3 (by decide) (hts _ (List.mem_cons_of_mem _ kw2_5)) (fun _ h9 => h9) rfl dPR_above_6 ?_
  refine lv_imul hx hb dPR_above_9 ?_
  refine lv_iconst (v := (1 : Int32)) hx hb dPR_above_10 (by decide) ?_
  refine lv_iadd hx hb dPR_above_11 ?_
  refine lv_iload_n hx hb dPR_above_12 rfl (lv_at hl 1 rfl) ?_
  refine lv_iadd hx hb dPR_above_13 ?_
  refine ip_iald hx hb hK hP 1 0 rfl rfl dPR_above_14 hf (fun z1 hf => ?_)
  cases hf
  exact hret H locs 15 ls _ dPR_above_15 rfl hP hD hS
set_option maxHeartbeats 4000000 in
set_option maxRecDepth 100000 in
theorem tPR_mean {l : Launch} {dC : Nat → ClassId} {dI : Nat → Nat → Nat} {cI : ClassId} {ad : Nat → Nat} {ts : ip_TT} {v_PR_side : Int32} {v_aRefs : Nat → Int32}  {r0 : Int32}  (hf : fPR_mean v_PR_side v_aRefs = some r0) : ip_Mi l yPR_mean wsPR_mean rmPR_mean (dC, dI) vwCl [(cI, .int)] ts [.ref (ad 10)] (wPR_mean ad cI v_PR_side v_aRefs) (wPR_mean ad cI v_PR_side v_aRefs) r0 := by
  refine ip_startI (cc := cPR_mean) (maxL := 3) (by decide) rfl (Nat.le_of_ble_eq_true rfl) ?_
  intro p e s m args below meth c Q A ls hx hb hml hts hown hK hP hD hS hA hZ hl hret
  replace hl : lv_has ls 3 [(0, .ref (ad 10))] := hl
  unfold fPR_mean at hf
  suffices J0 : ∀ (ls : Array Slot) (H : Heap) (locs : List Loc), lv_has ls 3 [(0, .ref (ad 10))] → va_P (dC, dI) vwCl (wPR_mean ad cI v_PR_side v_aRefs) H → va_D A (wPR_mean ad cI v_PR_side v_aRefs) → va_S A s.heap H locs → W p l e rmPR_mean s m args below meth c H locs 0 0 Q (F0 m 0 ls []) by exact J0 ls s.heap [] hl hP hD hS
  clear hP hD hS hl
  intro ls H locs hl hP hD hS
  refine lv_aload_n hx hb dPR_mean_0 rfl (lv_at hl 0 rfl) ?_
  refine va_get (D := (dC, dI)) (ci := 10) (v := .int v_PR_side) (C := kR_PR) (T := kT_PR) (N := 4) hx hb hts kin_PR hown hK hP 0 rfl rfl 3 (by decide) (hts _ (List.mem_cons_of_mem _ kw2_5)) (fun _ h9 => h9) rfl dPR_mean_1 ?_
  refine lv_istore_n (lv' := [(1, .int v_PR_side), (0, .ref (ad 10))]) hx hb dPR_mean_4 rfl hl (by decide) rfl (fun ls hl => ?_)
  refine lv_iconst (v := (0 : Int32)) hx hb dPR_mean_5 (by decide) ?_
  refine lv_istore_n (lv' := [(2, .int (0 : Int32)), (1, .int v_PR_side), (0, .ref (ad 10))]) hx hb dPR_mean_6 rfl hl (by decide) rfl (fun ls hl => ?_)
  replace hl := lv_sub hl (l' := [(0, .ref (ad 10)), (1, .int v_PR_side), (2, .int (0 : Int32))]) [2, 1, 0] rfl
  obtain ⟨x3, x4, hL, hf⟩ := ip_b2_e hf
  suffices J35 : ∀ (ls : Array Slot) (H : Heap) (locs : List Loc), lv_has ls 3 [(0, .ref (ad 10)), (1, .int x3)] → va_P (dC, dI) vwCl (wPR_mean ad cI v_PR_side v_aRefs) H → va_D A (wPR_mean ad cI v_PR_side v_aRefs) → va_S A s.heap H locs → W p l e rmPR_mean s m args below meth c H locs 0 0 Q (F0 m 35 ls []) by
    have L : ∀ (n : Nat) (z1 : Int32) (z2 : Int32), ip_lp2 (fPR_mean_B7 v_PR_side v_aRefs) n z1 z2 = some (x3, x4) → ∀ (ls : Array Slot) (H : Heap) (locs : List Loc), lv_has ls 3 [(0, .ref (ad 10)), (1, .int z1), (2, .int z2)] → va_P (dC, dI) vwCl (wPR_mean ad cI v_PR_side v_aRefs) H → va_D A (wPR_mean ad cI v_PR_side v_aRefs) → va_S A s.heap H locs → W p l e rmPR_mean s m args below meth c H locs 0 0 Q (F0 m 7 ls []) := by
      intro n
      induction n with
      | zero => intro z1 z2 hL; exact (ip_lp2_0 hL).elim
      | succ n ih =>
        intro z1 z2 hL ls H locs hl hP hD hS
        clear hf
        obtain ⟨r9, hf, hr7⟩ := ip_lp2_s hL
        clear hL
        unfold fPR_mean_B7 at hf
        refine lv_iload_n hx hb dPR_mean_7 rfl (lv_at hl 2 rfl) ?_
        refine lv_aload_n hx hb dPR_mean_8 rfl (lv_at hl 0 rfl) ?_
        refine va_get (D := (dC, dI)) (ci := 10) (v := .int v_PR_side) (C := kR_PR) (T := kT_PR) (N := 4) hx hb hts kin_PR hown hK hP 0 rfl rfl 3 (by decide) (hts _ (List.mem_cons_of_mem _ kw2_5)) (fun _ h9 => h9) rfl dPR_mean_9 ?_
        refine ip_icmp_ge (tgt := 35) hx hb dPR_mean_12 rfl hf (fun hf => ?_) (fun hf => ?_)
        · have hx9 := ip_lp_x hr7 hf
          replace hl := lv_sub hl (l' := [(0, .ref (ad 10)), (1, .int z1)]) [0, 1] rfl
          cases hx9
          exact J35 ls H locs hl hP hD hS
        · refine lv_iload_n hx hb dPR_mean_15 rfl (lv_at hl 1 rfl) ?_
          refine lv_aload_n hx hb dPR_mean_16 rfl (lv_at hl 0 rfl) ?_
          refine lv_iload_n hx hb dPR_mean_17 rfl (lv_at hl 2 rfl) ?_
          obtain ⟨z5, hc, hf⟩ := ip_b1_e hf
          refine ip_calli (va_runV (As := [.int z2]) (rest := [.int z1]) ⟨hx, hb, hml, hown, hts⟩ (tPR_left (l := l) (dC := dC) (dI := dI) (ad := ad) (cI := cI) (ts := ts) hc H.size) (cwV 1 hts (ip_gdV (own := kR_PR) (idx := 89) (C := kR_PR) (y := yPR_left) kw3_64 kw3_66 kws_23 kw1_11 kw3_67) rfl rfl rfl (by decide +kernel) ⟨Nat.le_of_ble_eq_true rfl, Nat.le_of_ble_eq_true rfl⟩) (ip_preV hK hP hD hS hA hZ [0, 1] rfl rfl (ci := 10) (q0 := 0) rfl rfl) rfl rfl hl.1 rfl (lv_room (Nat.le_of_ble_eq_true rfl)) dPR_mean_18 ⟨Nat.le_of_ble_eq_true rfl, Nat.le_of_ble_eq_true rfl⟩) hP hD hS hA [0, 1] [] [0, 1] (wPR_mean ad cI v_PR_side v_aRefs) rfl rfl rfl (by decide) rfl rfl (fun H locs hP hD hS => ?_)
          clear hc
          refine lv_aload_n hx hb dPR_mean_21 rfl (lv_at hl 0 rfl) ?_
          refine lv_iload_n hx hb dPR_mean_22 rfl (lv_at hl 2 rfl) ?_
          obtain ⟨z6, hc, hf⟩ := ip_b1_e hf
          refine ip_calli (va_runV (As := [.int z2]) (rest := [.int z5, .int z1]) ⟨hx, hb, hml, hown, hts⟩ (tPR_above (l := l) (dC := dC) (dI := dI) (ad := ad) (cI := cI) (ts := ts) hc H.size) (cwV 1 hts (ip_gdV (own := kR_PR) (idx := 93) (C := kR_PR) (y := yPR_above) kw3_68 kw3_70 kws_24 kw1_11 kw3_71) rfl rfl rfl (by decide +kernel) ⟨Nat.le_of_ble_eq_true rfl, Nat.le_of_ble_eq_true rfl⟩) (ip_preV hK hP hD hS hA hZ [0, 1] rfl rfl (ci := 10) (q0 := 0) rfl rfl) rfl rfl hl.1 rfl (lv_room (Nat.le_of_ble_eq_true rfl)) dPR_mean_23 ⟨Nat.le_of_ble_eq_true rfl, Nat.le_of_ble_eq_true rfl⟩) hP hD hS hA [0, 1] [] [0, 1] (wPR_mean ad cI v_PR_side v_aRefs) rfl rfl rfl (by decide) rfl rfl (fun H locs hP hD hS => ?_)
          clear hc
          refine lv_iadd hx hb dPR_mean_26 ?_
          refine lv_iadd hx hb dPR_mean_27 ?_
          refine ip_top hf (fun z7 hf => ?_)
          refine lv_istore_n (lv' := [(1, .int z7), (0, .ref (ad 10)), (2, .int z2)]) hx hb dPR_mean_28 rfl hl (by decide) rfl (fun ls hl => ?_)
          refine ip_iinc (k0 := 2) (v0 := (1 : Int32)) (lv1 := fun z8 => [(2, .int z8), (1, .int z7), (0, .ref (ad 10))]) hx hb dPR_mean_29 hl rfl (by decide) (by decide) (fun _ => rfl) hf (fun z8 ls hf hl => ?_)
          refine lv_goto (tgt := 7) hx hb dPR_mean_32 rfl ?_
          replace hl := lv_sub hl (l' := [(0, .ref (ad 10)), (1, .int z7), (2, .int z8)]) [2, 1, 0] rfl
          exact ih _ _ (ip_lp2_l hr7 hf) ls H locs hl hP hD hS
    exact L 1000 _ _ hL ls H locs hl hP hD hS
  intro ls H locs hl hP hD hS
  clear hL
  refine lv_iload_n hx hb dPR_mean_35 rfl (lv_at hl 1 rfl) ?_
  refine lv_iconst (v := (2 : Int32)) hx hb dPR_mean_36 (by decide) ?_
  refine lv_aload_n hx hb dPR_mean_37 rfl (lv_at hl 0 rfl) ?_
  refine va_get (D := (dC, dI)) (ci := 10) (v := .int v_PR_side) (C := kR_PR) (T := kT_PR) (N := 4) hx hb hts kin_PR hown hK hP 0 rfl rfl 3 (by decide) (hts _ (List.mem_cons_of_mem _ kw2_5)) (fun _ h9 => h9) rfl dPR_mean_38 ?_
  refine lv_imul hx hb dPR_mean_41 ?_
  refine ip_idiv hx hb dPR_mean_42 hf (fun z9 hf => ?_)
  cases hf
  exact hret H locs 43 ls _ dPR_mean_43 rfl hP hD hS
set_option maxHeartbeats 4000000 in
set_option maxRecDepth 100000 in
theorem tPR_plane {l : Launch} {dC : Nat → ClassId} {dI : Nat → Nat → Nat} {cI : ClassId} {ad : Nat → Nat} {ts : ip_TT} {v_PR_side : Int32} {v_aRefs : Nat → Int32} {p1 : Int32} {p2 : Int32} {r0 : Int32}  (hf : fPR_plane v_PR_side v_aRefs p1 p2 = some r0) : ip_Mi l yPR_plane wsPR_plane rmPR_plane (dC, dI) vwCl [(cI, .int)] ts [.ref (ad 10), .int p1, .int p2] (wPR_plane ad cI v_PR_side v_aRefs) (wPR_plane ad cI v_PR_side v_aRefs) r0 := by
  refine ip_startI (cc := cPR_plane) (maxL := 5) (by decide) rfl (Nat.le_of_ble_eq_true rfl) ?_
  intro p e s m args below meth c Q A ls hx hb hml hts hown hK hP hD hS hA hZ hl hret
  replace hl : lv_has ls 5 [(0, .ref (ad 10)), (1, .int p1), (2, .int p2)] := hl
  unfold fPR_plane at hf
  suffices J0 : ∀ (ls : Array Slot) (H : Heap) (locs : List Loc), lv_has ls 5 [(0, .ref (ad 10)), (1, .int p1), (2, .int p2)] → va_P (dC, dI) vwCl (wPR_plane ad cI v_PR_side v_aRefs) H → va_D A (wPR_plane ad cI v_PR_side v_aRefs) → va_S A s.heap H locs → W p l e rmPR_plane s m args below meth c H locs 0 0 Q (F0 m 0 ls []) by exact J0 ls s.heap [] hl hP hD hS
  clear hP hD hS hl
  intro ls H locs hl hP hD hS
  refine lv_aload_n hx hb dPR_plane_0 rfl (lv_at hl 0 rfl) ?_
  refine va_get (D := (dC, dI)) (ci := 10) (v := .int v_PR_side) (C := kR_PR) (T := kT_PR) (N := 4) hx hb hts kin_PR hown hK hP 0 rfl rfl 3 (by decide) (hts _ (List.mem_cons_of_mem _ kw2_5)) (fun _ h9 => h9) rfl dPR_plane_1 ?_
  refine lv_iconst (v := (1 : Int32)) hx hb dPR_plane_4 (by decide) ?_
  refine lv_isub hx hb dPR_plane_5 ?_
  refine lv_iload_n hx hb dPR_plane_6 rfl (lv_at hl 1 rfl) ?_
  refine lv_isub hx hb dPR_plane_7 ?_
  refine lv_aload_n hx hb dPR_plane_8 rfl (lv_at hl 0 rfl) ?_
  refine lv_iload_n hx hb dPR_plane_9 rfl (lv_at hl 2 rfl) ?_
  obtain ⟨z1, hc, hf⟩ := ip_b1_e hf
  refine ip_calli (va_runV (As := [.int p2]) (rest := [.int ((v_PR_side - (1 : Int32)) - p1)]) ⟨hx, hb, hml, hown, hts⟩ (tPR_left (l := l) (dC := dC) (dI := dI) (ad := ad) (cI := cI) (ts := ts) hc H.size) (cwV 1 hts (ip_gdV (own := kR_PR) (idx := 89) (C := kR_PR) (y := yPR_left) kw3_64 kw3_66 kws_23 kw1_11 kw3_67) rfl rfl rfl (by decide +kernel) ⟨Nat.le_of_ble_eq_true rfl, Nat.le_of_ble_eq_true rfl⟩) (ip_preV hK hP hD hS hA hZ [0, 1] rfl rfl (ci := 10) (q0 := 0) rfl rfl) rfl rfl hl.1 rfl (lv_room (Nat.le_of_ble_eq_true rfl)) dPR_plane_10 ⟨Nat.le_of_ble_eq_true rfl, Nat.le_of_ble_eq_true rfl⟩) hP hD hS hA [0, 1] [] [0, 1] (wPR_plane ad cI v_PR_side v_aRefs) rfl rfl rfl (by decide) rfl rfl (fun H locs hP hD hS => ?_)
  clear hc
  refine lv_imul hx hb dPR_plane_13 ?_
  refine lv_iload_n hx hb dPR_plane_14 rfl (lv_at hl 1 rfl) ?_
  refine lv_iconst (v := (1 : Int32)) hx hb dPR_plane_15 (by decide) ?_
  refine lv_iadd hx hb dPR_plane_16 ?_
  refine lv_aload_n hx hb dPR_plane_17 rfl (lv_at hl 0 rfl) ?_
  refine lv_aload_n hx hb dPR_plane_18 rfl (lv_at hl 0 rfl) ?_
  refine va_get (D := (dC, dI)) (ci := 10) (v := .int v_PR_side) (C := kR_PR) (T := kT_PR) (N := 4) hx hb hts kin_PR hown hK hP 0 rfl rfl 3 (by decide) (hts _ (List.mem_cons_of_mem _ kw2_5)) (fun _ h9 => h9) rfl dPR_plane_19 ?_
  obtain ⟨z2, hc, hf⟩ := ip_b1_e hf
  refine ip_calli (va_runV (As := [.int v_PR_side]) (rest := [.int (p1 + (1 : Int32)), .int (((v_PR_side - (1 : Int32)) - p1) * z1)]) ⟨hx, hb, hml, hown, hts⟩ (tPR_above (l := l) (dC := dC) (dI := dI) (ad := ad) (cI := cI) (ts := ts) hc H.size) (cwV 1 hts (ip_gdV (own := kR_PR) (idx := 93) (C := kR_PR) (y := yPR_above) kw3_68 kw3_70 kws_24 kw1_11 kw3_71) rfl rfl rfl (by decide +kernel) ⟨Nat.le_of_ble_eq_true rfl, Nat.le_of_ble_eq_true rfl⟩) (ip_preV hK hP hD hS hA hZ [0, 1] rfl rfl (ci := 10) (q0 := 0) rfl rfl) rfl rfl hl.1 rfl (lv_room (Nat.le_of_ble_eq_true rfl)) dPR_plane_22 ⟨Nat.le_of_ble_eq_true rfl, Nat.le_of_ble_eq_true rfl⟩) hP hD hS hA [0, 1] [] [0, 1] (wPR_plane ad cI v_PR_side v_aRefs) rfl rfl rfl (by decide) rfl rfl (fun H locs hP hD hS => ?_)
  clear hc
  refine lv_imul hx hb dPR_plane_25 ?_
  refine lv_iadd hx hb dPR_plane_26 ?_
  refine ip_top hf (fun z3 hf => ?_)
  refine lv_istore_n (lv' := [(3, .int z3), (0, .ref (ad 10)), (1, .int p1), (2, .int p2)]) hx hb dPR_plane_27 rfl hl (by decide) rfl (fun ls hl => ?_)
  refine lv_aload_n hx hb dPR_plane_28 rfl (lv_at hl 1 rfl) ?_
  refine va_get (D := (dC, dI)) (ci := 10) (v := .int v_PR_side) (C := kR_PR) (T := kT_PR) (N := 4) hx hb hts kin_PR hown hK hP 0 rfl rfl 3 (by decide) (hts _ (List.mem_cons_of_mem _ kw2_5)) (fun _ h9 => h9) rfl dPR_plane_29 ?_
  refine lv_iconst (v := (1 : Int32)) hx hb dPR_plane_32 (by decide) ?_
  refine lv_isub hx hb dPR_plane_33 ?_
  refine lv_iload_n hx hb dPR_plane_34 rfl (lv_at hl 3 rfl) ?_
  refine lv_isub hx hb dPR_plane_35 ?_
  refine lv_aload_n hx hb dPR_plane_36 rfl (lv_at hl 1 rfl) ?_
  refine lv_iload_n hx hb dPR_plane_37 rfl (lv_at hl 2 rfl) ?_
  obtain ⟨z4, hc, hf⟩ := ip_b1_e hf
  refine ip_calli (va_runV (As := [.int p1]) (rest := [.int ((v_PR_side - (1 : Int32)) - p2)]) ⟨hx, hb, hml, hown, hts⟩ (tPR_above (l := l) (dC := dC) (dI := dI) (ad := ad) (cI := cI) (ts := ts) hc H.size) (cwV 1 hts (ip_gdV (own := kR_PR) (idx := 93) (C := kR_PR) (y := yPR_above) kw3_68 kw3_70 kws_24 kw1_11 kw3_71) rfl rfl rfl (by decide +kernel) ⟨Nat.le_of_ble_eq_true rfl, Nat.le_of_ble_eq_true rfl⟩) (ip_preV hK hP hD hS hA hZ [0, 1] rfl rfl (ci := 10) (q0 := 0) rfl rfl) rfl rfl hl.1 rfl (lv_room (Nat.le_of_ble_eq_true rfl)) dPR_plane_38 ⟨Nat.le_of_ble_eq_true rfl, Nat.le_of_ble_eq_true rfl⟩) hP hD hS hA [0, 1] [] [0, 1] (wPR_plane ad cI v_PR_side v_aRefs) rfl rfl rfl (by decide) rfl rfl (fun H locs hP hD hS => ?_)
  clear hc
  refine lv_imul hx hb dPR_plane_41 ?_
  refine lv_iload_n hx hb dPR_plane_42 rfl (lv_at hl 3 rfl) ?_
  refine lv_iconst (v := (1 : Int32)) hx hb dPR_plane_43 (by decide) ?_
  refine lv_iadd hx hb dPR_plane_44 ?_
  refine lv_aload_n hx hb dPR_plane_45 rfl (lv_at hl 1 rfl) ?_
  refine lv_aload_n hx hb dPR_plane_46 rfl (lv_at hl 1 rfl) ?_
  refine va_get (D := (dC, dI)) (ci := 10) (v := .int v_PR_side) (C := kR_PR) (T := kT_PR) (N := 4) hx hb hts kin_PR hown hK hP 0 rfl rfl 3 (by decide) (hts _ (List.mem_cons_of_mem _ kw2_5)) (fun _ h9 => h9) rfl dPR_plane_47 ?_
  obtain ⟨z5, hc, hf⟩ := ip_b1_e hf
  refine ip_calli (va_runV (As := [.int v_PR_side]) (rest := [.int (p2 + (1 : Int32)), .int (((v_PR_side - (1 : Int32)) - p2) * z4)]) ⟨hx, hb, hml, hown, hts⟩ (tPR_left (l := l) (dC := dC) (dI := dI) (ad := ad) (cI := cI) (ts := ts) hc H.size) (cwV 1 hts (ip_gdV (own := kR_PR) (idx := 89) (C := kR_PR) (y := yPR_left) kw3_64 kw3_66 kws_23 kw1_11 kw3_67) rfl rfl rfl (by decide +kernel) ⟨Nat.le_of_ble_eq_true rfl, Nat.le_of_ble_eq_true rfl⟩) (ip_preV hK hP hD hS hA hZ [0, 1] rfl rfl (ci := 10) (q0 := 0) rfl rfl) rfl rfl hl.1 rfl (lv_room (Nat.le_of_ble_eq_true rfl)) dPR_plane_50 ⟨Nat.le_of_ble_eq_true rfl, Nat.le_of_ble_eq_true rfl⟩) hP hD hS hA [0, 1] [] [0, 1] (wPR_plane ad cI v_PR_side v_aRefs) rfl rfl rfl (by decide) rfl rfl (fun H locs hP hD hS => ?_)
  clear hc
  refine lv_imul hx hb dPR_plane_53 ?_
  refine lv_iadd hx hb dPR_plane_54 ?_
  refine ip_top hf (fun z6 hf => ?_)
  refine lv_istore (lv' := [(4, .int z6), (3, .int z3), (0, .ref (ad 10)), (1, .int p1), (2, .int p2)]) hx hb dPR_plane_55 hl (by decide) rfl (fun ls hl => ?_)
  refine lv_iload_n hx hb dPR_plane_57 rfl (lv_at hl 1 rfl) ?_
  refine lv_iload hx hb dPR_plane_58 (lv_at hl 0 rfl) ?_
  refine lv_iadd hx hb dPR_plane_60 ?_
  refine lv_aload_n hx hb dPR_plane_61 rfl (lv_at hl 2 rfl) ?_
  refine va_get (D := (dC, dI)) (ci := 10) (v := .int v_PR_side) (C := kR_PR) (T := kT_PR) (N := 4) hx hb hts kin_PR hown hK hP 0 rfl rfl 3 (by decide) (hts _ (List.mem_cons_of_mem _ kw2_5)) (fun _ h9 => h9) rfl dPR_plane_62 ?_
  refine lv_iadd hx hb dPR_plane_65 ?_
  refine lv_iconst (v := (2 : Int32)) hx hb dPR_plane_66 (by decide) ?_
  refine lv_aload_n hx hb dPR_plane_67 rfl (lv_at hl 2 rfl) ?_
  refine va_get (D := (dC, dI)) (ci := 10) (v := .int v_PR_side) (C := kR_PR) (T := kT_PR) (N := 4) hx hb hts kin_PR hown hK hP 0 rfl rfl 3 (by decide) (hts _ (List.mem_cons_of_mem _ kw2_5)) (fun _ h9 => h9) rfl dPR_plane_68 ?_
  refine lv_imul hx hb dPR_plane_71 ?_
  refine ip_idiv hx hb dPR_plane_72 hf (fun z7 hf => ?_)
  cases hf
  exact hret H locs 73 ls _ dPR_plane_73 rfl hP hD hS
set_option maxHeartbeats 4000000 in
set_option maxRecDepth 100000 in
theorem tPR_blend {l : Launch} {dC : Nat → ClassId} {dI : Nat → Nat → Nat} {cI : ClassId} {ad : Nat → Nat} {ts : ip_TT}  {p1 : Int32} {p2 : Int32} {p3 : Int32} {r0 : Int32}  (hf : fPR_blend p1 p2 p3 = some r0) : ip_Mi l yPR_blend wsPR_blend rmPR_blend (dC, dI) vwCl [(cI, .int)] ts [.int p1, .int p2, .int p3] (wPR_blend ad cI) (wPR_blend ad cI) r0 := by
  refine ip_startI (cc := cPR_blend) (maxL := 3) (by decide) rfl (Nat.le_of_ble_eq_true rfl) ?_
  intro p e s m args below meth c Q A ls hx hb hml hts hown hK hP hD hS hA hZ hl hret
  replace hl : lv_has ls 3 [(0, .int p1), (1, .int p2), (2, .int p3)] := hl
  unfold fPR_blend at hf
  suffices J0 : ∀ (ls : Array Slot) (H : Heap) (locs : List Loc), lv_has ls 3 [(0, .int p1), (1, .int p2), (2, .int p3)] → va_P (dC, dI) vwCl (wPR_blend ad cI) H → va_D A (wPR_blend ad cI) → va_S A s.heap H locs → W p l e rmPR_blend s m args below meth c H locs 0 0 Q (F0 m 0 ls []) by exact J0 ls s.heap [] hl hP hD hS
  clear hP hD hS hl
  intro ls H locs hl hP hD hS
  refine lv_bipush (v := (32 : Int32)) hx hb dPR_blend_0 (by decide) ?_
  refine lv_iload_n hx hb dPR_blend_2 rfl (lv_at hl 2 rfl) ?_
  refine lv_isub hx hb dPR_blend_3 ?_
  refine lv_iload_n hx hb dPR_blend_4 rfl (lv_at hl 0 rfl) ?_
  refine lv_imul hx hb dPR_blend_5 ?_
  refine lv_iload_n hx hb dPR_blend_6 rfl (lv_at hl 2 rfl) ?_
  refine lv_iload_n hx hb dPR_blend_7 rfl (lv_at hl 1 rfl) ?_
  refine lv_imul hx hb dPR_blend_8 ?_
  refine lv_iadd hx hb dPR_blend_9 ?_
  refine lv_bipush (v := (16 : Int32)) hx hb dPR_blend_10 (by decide) ?_
  refine lv_iadd hx hb dPR_blend_12 ?_
  refine lv_iconst (v := (5 : Int32)) hx hb dPR_blend_13 (by decide) ?_
  refine lv_ishr hx hb dPR_blend_14 ?_
  cases hf
  exact hret H locs 15 ls _ dPR_blend_15 rfl hP hD hS
set_option maxHeartbeats 4000000 in
set_option maxRecDepth 100000 in
theorem tPR_steep {l : Launch} {dC : Nat → ClassId} {dI : Nat → Nat → Nat} {cI : ClassId} {ad : Nat → Nat} {ts : ip_TT} {v_PR_side : Int32} {v_aRefs : Nat → Int32} {p1 : Int32} {p2 : Int32} {r0 : Int32}  (hf : fPR_steep v_PR_side v_aRefs p1 p2 = some r0) : ip_Mi l yPR_steep wsPR_steep rmPR_steep (dC, dI) vwCl [(cI, .int)] ts [.ref (ad 10), .int p1, .int p2] (wPR_steep ad cI v_PR_side v_aRefs) (wPR_steep ad cI v_PR_side v_aRefs) r0 := by
  refine ip_startI (cc := cPR_steep) (maxL := 4) (by decide) rfl (Nat.le_of_ble_eq_true rfl) ?_
  intro p e s m args below meth c Q A ls hx hb hml hts hown hK hP hD hS hA hZ hl hret
  replace hl : lv_has ls 4 [(0, .ref (ad 10)), (1, .int p1), (2, .int p2)] := hl
  unfold fPR_steep at hf
  suffices J0 : ∀ (ls : Array Slot) (H : Heap) (locs : List Loc), lv_has ls 4 [(0, .ref (ad 10)), (1, .int p1), (2, .int p2)] → va_P (dC, dI) vwCl (wPR_steep ad cI v_PR_side v_aRefs) H → va_D A (wPR_steep ad cI v_PR_side v_aRefs) → va_S A s.heap H locs → W p l e rmPR_steep s m args below meth c H locs 0 0 Q (F0 m 0 ls []) by exact J0 ls s.heap [] hl hP hD hS
  clear hP hD hS hl
  intro ls H locs hl hP hD hS
  refine lv_iload_n hx hb dPR_steep_0 rfl (lv_at hl 1 rfl) ?_
  refine lv_iload_n hx hb dPR_steep_1 rfl (lv_at hl 2 rfl) ?_
  refine lv_iconst (v := (5 : Int32)) hx hb dPR_steep_2 (by decide) ?_
  refine lv_ishr hx hb dPR_steep_3 ?_
  refine lv_iadd hx hb dPR_steep_4 ?_
  refine ip_top hf (fun z1 hf => ?_)
  refine lv_istore_n (lv' := [(3, .int z1), (0, .ref (ad 10)), (1, .int p1), (2, .int p2)]) hx hb dPR_steep_5 rfl hl (by decide) rfl (fun ls hl => ?_)
  refine lv_aload_n hx hb dPR_steep_6 rfl (lv_at hl 1 rfl) ?_
  refine lv_iload_n hx hb dPR_steep_7 rfl (lv_at hl 0 rfl) ?_
  obtain ⟨z2, hc, hf⟩ := ip_b1_e hf
  refine ip_calli (va_runV (As := [.int z1]) (rest := []) ⟨hx, hb, hml, hown, hts⟩ (tPR_above (l := l) (dC := dC) (dI := dI) (ad := ad) (cI := cI) (ts := ts) hc H.size) (cwV 1 hts (ip_gdV (own := kR_PR) (idx := 93) (C := kR_PR) (y := yPR_above) kw3_68 kw3_70 kws_24 kw1_11 kw3_71) rfl rfl rfl (by decide +kernel) ⟨Nat.le_of_ble_eq_true rfl, Nat.le_of_ble_eq_true rfl⟩) (ip_preV hK hP hD hS hA hZ [0, 1] rfl rfl (ci := 10) (q0 := 0) rfl rfl) rfl rfl hl.1 rfl (lv_room (Nat.le_of_ble_eq_true rfl)) dPR_steep_8 ⟨Nat.le_of_ble_eq_true rfl, Nat.le_of_ble_eq_true rfl⟩) hP hD hS hA [0, 1] [] [0, 1] (wPR_steep ad cI v_PR_side v_aRefs) rfl rfl rfl (by decide) rfl rfl (fun H locs hP hD hS => ?_)
  clear hc
  refine lv_aload_n hx hb dPR_steep_11 rfl (lv_at hl 1 rfl) ?_
  refine lv_iload_n hx hb dPR_steep_12 rfl (lv_at hl 0 rfl) ?_
  refine lv_iconst (v := (1 : Int32)) hx hb dPR_steep_13 (by decide) ?_
  refine lv_iadd hx hb dPR_steep_14 ?_
  obtain ⟨z3, hc, hf⟩ := ip_b1_e hf
  refine ip_calli (va_runV (As := [.int (z1 + (1 : Int32))]) (rest := [.int z2]) ⟨hx, hb, hml, hown, hts⟩ (tPR_above (l := l) (dC := dC) (dI := dI) (ad := ad) (cI := cI) (ts := ts) hc H.size) (cwV 1 hts (ip_gdV (own := kR_PR) (idx := 93) (C := kR_PR) (y := yPR_above) kw3_68 kw3_70 kws_24 kw1_11 kw3_71) rfl rfl rfl (by decide +kernel) ⟨Nat.le_of_ble_eq_true rfl, Nat.le_of_ble_eq_true rfl⟩) (ip_preV hK hP hD hS hA hZ [0, 1] rfl rfl (ci := 10) (q0 := 0) rfl rfl) rfl rfl hl.1 rfl (lv_room (Nat.le_of_ble_eq_true rfl)) dPR_steep_15 ⟨Nat.le_of_ble_eq_true rfl, Nat.le_of_ble_eq_true rfl⟩) hP hD hS hA [0, 1] [] [0, 1] (wPR_steep ad cI v_PR_side v_aRefs) rfl rfl rfl (by decide) rfl rfl (fun H locs hP hD hS => ?_)
  clear hc
  refine lv_iload_n hx hb dPR_steep_18 rfl (lv_at hl 3 rfl) ?_
  refine lv_bipush (v := (31 : Int32)) hx hb dPR_steep_19 (by decide) ?_
  refine lv_iand hx hb dPR_steep_21 ?_
  obtain ⟨z4, hc, hf⟩ := ip_b1_e hf
  refine ip_calli (va_runS (As := [.int z2, .int z3, .int (p2 &&& (31 : Int32))]) (rest := []) ⟨hx, hb, hml, hown, hts⟩ (tPR_blend (l := l) (dC := dC) (dI := dI) (ad := ad) (cI := cI) (ts := ts) hc H.size) (va_cwS 3 hts (ip_gdS (own := kR_PR) (idx := 108) (y := yPR_blend) kw3_84 kw3_85 kw1_11 kw3_86) rfl rfl rfl (by decide +kernel) ⟨Nat.le_of_ble_eq_true rfl, Nat.le_of_ble_eq_true rfl⟩) (ip_preS hK hP hD hS hA hZ [] rfl rfl) rfl rfl hl.1 rfl (lv_room (Nat.le_of_ble_eq_true rfl)) dPR_steep_22 ⟨Nat.le_of_ble_eq_true rfl, Nat.le_of_ble_eq_true rfl⟩) hP hD hS hA [] [0, 1] [0, 1] (wPR_steep ad cI v_PR_side v_aRefs) rfl rfl rfl (by decide) rfl rfl (fun H locs hP hD hS => ?_)
  clear hc
  cases hf
  exact hret H locs 25 ls _ dPR_steep_25 rfl hP hD hS
