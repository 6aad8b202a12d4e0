set_option maxHeartbeats 4000000 in
set_option maxRecDepth 100000 in
theorem tBD_begin {l : Launch} {dC : Nat → ClassId} {dI : Nat → Nat → Nat} {cI : ClassId} {ad : Nat → Nat} {ts : ip_TT} {v_RB_place : Int32} {v_RB_end : Int32} {v_BD_range : Int32} {v_BD_value : Int32} {v_aChosen : Nat → Int32} {v_aChances : Nat → Int32} {v_aCounts : Nat → Int32}  {nv_RB_place : Int32} {nv_BD_range : Int32} {nv_BD_value : Int32} {nv_aChances : Nat → Int32} {nv_aCounts : Nat → Int32} (hf : fBD_begin v_RB_place v_RB_end v_BD_range v_BD_value v_aChosen v_aChances v_aCounts = some (nv_RB_place, nv_BD_range, nv_BD_value, nv_aChances, nv_aCounts)) : ip_Mv l yBD_begin wsBD_begin rmBD_begin (dC, dI) vwCl [(cI, .int)] ts [.ref (ad 4)] (wBD_begin ad cI v_RB_place v_RB_end v_BD_range v_BD_value v_aChosen v_aChances v_aCounts) (wBD_begin ad cI nv_RB_place v_RB_end nv_BD_range nv_BD_value v_aChosen nv_aChances nv_aCounts) := by
  refine ip_startV (cc := cBD_begin) (maxL := 2) (by decide) rfl (Nat.le_of_ble_eq_true rfl) ?_
  intro p e s m args below meth c Q A ls hx hb hml hts hown hK hP hD hS hA hZ hl hret
  replace hl : lv_has ls 2 [(0, .ref (ad 4))] := hl
  unfold fBD_begin at hf
  suffices J0 : ∀ (ls : Array Slot) (H : Heap) (locs : List Loc), lv_has ls 2 [(0, .ref (ad 4))] → va_P (dC, dI) vwCl (wBD_begin ad cI v_RB_place v_RB_end v_BD_range v_BD_value v_aChosen v_aChances v_aCounts) H → va_D A (wBD_begin ad cI v_RB_place v_RB_end v_BD_range v_BD_value v_aChosen v_aChances v_aCounts) → va_S A s.heap H locs → W p l e rmBD_begin s m args below meth c H locs 0 0 Q (F0 m 0 ls []) by exact J0 ls s.heap [] hl hP hD hS
  clear hP hD hS hl
  intro ls H locs hl hP hD hS
  refine lv_aload_n hx hb dBD_begin_0 rfl (lv_at hl 0 rfl) ?_
  refine va_get (D := (dC, dI)) (ci := 4) (v := .ref (ad 16)) (C := kR_BD) (T := kT_BD) (N := 5) hx hb hts kin_BD hown hK hP 1 rfl rfl 1 (by decide) (hts _ (List.mem_cons_of_mem _ kw1_96)) (fun _ h9 => h9) rfl dBD_begin_1 ?_
  refine lv_sipush (v := (512 : Int32)) hx hb dBD_begin_4 (by decide) ?_
  obtain ⟨g1, hc, hf⟩ := ip_b1_e hf
  refine ip_callv (va_runS (As := [.ref (ad 16), .int (512 : Int32)]) (rest := []) ⟨hx, hb, hml, hown, hts⟩ (tAR_fill14 (l := l) (dC := dC) (dI := dI) (ad := ad) (cI := cI) (ts := ts) (bF14 := ad 16) hc H.size) (va_cwS 2 hts (ip_gdS (own := kR_BD) (idx := 20) (y := yAR_fill) kw2_174 kw2_132 kw1_14 kw2_133) rfl rfl rfl (by decide +kernel) ⟨Nat.le_of_ble_eq_true rfl, Nat.le_of_ble_eq_true rfl⟩) (ip_preS hK hP hD hS hA hZ [3] rfl rfl) rfl rfl hl.1 rfl (lv_room (Nat.le_of_ble_eq_true rfl)) dBD_begin_7 ⟨Nat.le_of_ble_eq_true rfl, Nat.le_of_ble_eq_true rfl⟩) hP hD hS hA [3] [0, 1, 2, 4] [0, 1, 2, 4, 3] (wBD_begin ad cI v_RB_place v_RB_end v_BD_range v_BD_value v_aChosen g1 v_aCounts) rfl rfl rfl (by decide) rfl rfl (fun H locs hP hD hS => ?_)
  clear hc
  refine lv_aload_n hx hb dBD_begin_10 rfl (lv_at hl 0 rfl) ?_
  refine va_get (D := (dC, dI)) (ci := 4) (v := .ref (ad 17)) (C := kR_BD) (T := kT_BD) (N := 5) hx hb hts kin_BD hown hK hP 1 rfl rfl 2 (by decide) (hts _ (List.mem_cons_of_mem _ kw1_98)) (fun _ h9 => h9) rfl dBD_begin_11 ?_
  refine lv_iconst (v := (0 : Int32)) hx hb dBD_begin_14 (by decide) ?_
  obtain ⟨g2, hc, hf⟩ := ip_b1_e hf
  refine ip_callv (va_runS (As := [.ref (ad 17), .int (0 : Int32)]) (rest := []) ⟨hx, hb, hml, hown, hts⟩ (tAR_fill3 (l := l) (dC := dC) (dI := dI) (ad := ad) (cI := cI) (ts := ts) (bF3 := ad 17) hc H.size) (va_cwS 2 hts (ip_gdS (own := kR_BD) (idx := 20) (y := yAR_fill) kw2_174 kw2_132 kw1_14 kw2_133) rfl rfl rfl (by decide +kernel) ⟨Nat.le_of_ble_eq_true rfl, Nat.le_of_ble_eq_true rfl⟩) (ip_preS hK hP hD hS hA hZ [4] rfl rfl) rfl rfl hl.1 rfl (lv_room (Nat.le_of_ble_eq_true rfl)) dBD_begin_15 ⟨Nat.le_of_ble_eq_true rfl, Nat.le_of_ble_eq_true rfl⟩) hP hD hS hA [4] [0, 1, 2, 3] [0, 1, 2, 3, 4] (wBD_begin ad cI v_RB_place v_RB_end v_BD_range v_BD_value v_aChosen g1 g2) rfl rfl rfl (by decide) rfl rfl (fun H locs hP hD hS => ?_)
  clear hc
  refine lv_aload_n hx hb dBD_begin_18 rfl (lv_at hl 0 rfl) ?_
  refine lv_sipush (v := (510 : Int32)) hx hb dBD_begin_19 (by decide) ?_
  refine va_put (D := (dC, dI)) (ci := 4) (v := .int (510 : Int32)) (ty := .int) (C := kR_BD) (T := kT_BD) (N := 5) hx hb hts kin_BD kty_BD kto_BD knm_BD hown hK hP hD hS 1 rfl rfl 3 (by decide) (hts _ (List.mem_cons_of_mem _ kw1_100)) (fun _ h9 => h9) rfl (by decide +kernel) rfl rfl (Nat.le_of_ble_eq_true rfl) dBD_begin_22 (fun H locs hP hD hS => ?_)
  replace hP : va_P (dC, dI) vwCl (wBD_begin ad cI v_RB_place v_RB_end (510 : Int32) v_BD_value v_aChosen g1 g2) H := hP
  replace hD : va_D A (wBD_begin ad cI v_RB_place v_RB_end (510 : Int32) v_BD_value v_aChosen g1 g2) := hD
  refine lv_aload_n hx hb dBD_begin_25 rfl (lv_at hl 0 rfl) ?_
  refine lv_iconst (v := (0 : Int32)) hx hb dBD_begin_26 (by decide) ?_
  refine va_put (D := (dC, dI)) (ci := 4) (v := .int (0 : Int32)) (ty := .int) (C := kR_BD) (T := kT_BD) (N := 5) hx hb hts kin_BD kty_BD kto_BD knm_BD hown hK hP hD hS 1 rfl rfl 4 (by decide) (hts _ (List.mem_cons_of_mem _ kw1_101)) (fun _ h9 => h9) rfl (by decide +kernel) rfl rfl (Nat.le_of_ble_eq_true rfl) dBD_begin_27 (fun H locs hP hD hS => ?_)
  replace hP : va_P (dC, dI) vwCl (wBD_begin ad cI v_RB_place v_RB_end (510 : Int32) (0 : Int32) v_aChosen g1 g2) H := hP
  replace hD : va_D A (wBD_begin ad cI v_RB_place v_RB_end (510 : Int32) (0 : Int32) v_aChosen g1 g2) := hD
  refine lv_iconst (v := (0 : Int32)) hx hb dBD_begin_30 (by decide) ?_
  refine lv_istore_n (lv' := [(1, .int (0 : Int32)), (0, .ref (ad 4))]) hx hb dBD_begin_31 rfl hl (by decide) rfl (fun ls hl => ?_)
  replace hl := lv_sub hl (l' := [(0, .ref (ad 4)), (1, .int (0 : Int32))]) [1, 0] rfl
  obtain ⟨x6, x7, x8, hL, hf⟩ := ip_b3_e hf
  suffices J62 : ∀ (ls : Array Slot) (H : Heap) (locs : List Loc), lv_has ls 2 [] → va_P (dC, dI) vwCl (wBD_begin ad cI x7 v_RB_end (510 : Int32) x8 v_aChosen g1 g2) H → va_D A (wBD_begin ad cI x7 v_RB_end (510 : Int32) x8 v_aChosen g1 g2) → va_S A s.heap H locs → W p l e rmBD_begin s m args below meth c H locs 0 0 Q (F0 m 62 ls []) by
    have L : ∀ (n : Nat) (z3 : Int32) (z4 : Int32) (z5 : Int32), ip_lp3 (fBD_begin_B32 v_RB_end v_aChosen) n z3 z4 z5 = some (x6, x7, x8) → ∀ (ls : Array Slot) (H : Heap) (locs : List Loc), lv_has ls 2 [(0, .ref (ad 4)), (1, .int z3)] → va_P (dC, dI) vwCl (wBD_begin ad cI z4 v_RB_end (510 : Int32) z5 v_aChosen g1 g2) H → va_D A (wBD_begin ad cI z4 v_RB_end (510 : Int32) z5 v_aChosen g1 g2) → va_S A s.heap H locs → W p l e rmBD_begin s m args below meth c H locs 0 0 Q (F0 m 32 ls []) := by
      intro n
      induction n with
      | zero => intro z3 z4 z5 hL; exact (ip_lp3_0 hL).elim
      | succ n ih =>
        intro z3 z4 z5 hL ls H locs hl hP hD hS
        clear hf
        obtain ⟨r9, hf, hr32⟩ := ip_lp3_s hL
        clear hL
        unfold fBD_begin_B32 at hf
        refine lv_iload_n hx hb dBD_begin_32 rfl (lv_at hl 1 rfl) ?_
        refine lv_bipush (v := (8 : Int32)) hx hb dBD_begin_33 (by decide) ?_
        refine ip_icmp_ge (tgt := 62) hx hb dBD_begin_35 rfl hf (fun hf => ?_) (fun hf => ?_)
        · have hx9 := ip_lp_x hr32 hf
          replace hl := lv_sub hl (l' := []) [] rfl
          cases hx9
          exact J62 ls H locs hl hP hD hS
        · refine lv_aload_n hx hb dBD_begin_38 rfl (lv_at hl 0 rfl) ?_
          refine lv_iconst (v := (2 : Int32)) hx hb dBD_begin_39 (by decide) ?_
          refine lv_aload_n hx hb dBD_begin_40 rfl (lv_at hl 0 rfl) ?_
          refine va_get (D := (dC, dI)) (ci := 4) (v := .int z5) (C := kR_BD) (T := kT_BD) (N := 5) hx hb hts kin_BD hown hK hP 1 rfl rfl 4 (by decide) (hts _ (List.mem_cons_of_mem _ kw1_101)) (fun _ h9 => h9) rfl dBD_begin_41 ?_
          refine lv_imul hx hb dBD_begin_44 ?_
          refine lv_aload_n hx hb dBD_begin_45 rfl (lv_at hl 0 rfl) ?_
          refine va_get (D := (dC, dI)) (ci := 4) (v := .ref (ad 2)) (C := kR_BD) (T := kT_BD) (N := 5) hx hb hts kin_BD hown hK hP 1 rfl rfl 0 (by decide) (hts _ (List.mem_cons_of_mem _ kw1_95)) (fun _ h9 => h9) rfl dBD_begin_46 ?_
          obtain ⟨z9, z10, hc, hf⟩ := ip_b2_e hf
          refine ip_calli (va_runV (As := []) (rest := [.int ((2 : Int32) * z5), .ref (ad 4)]) ⟨hx, hb, hml, hown, hts⟩ (tRB_next (l := l) (dC := dC) (dI := dI) (ad := ad) (cI := cI) (ts := ts) hc H.size) (cwV 0 hts (ip_gdV (own := kR_BD) (idx := 33) (C := kR_RB) (y := yRB_next) kw2_175 kw2_151 kw2_152 kw1_3 kw2_153) rfl rfl rfl (by decide +kernel) ⟨Nat.le_of_ble_eq_true rfl, Nat.le_of_ble_eq_true rfl⟩) (ip_preV hK hP hD hS hA hZ [0, 2] rfl rfl (ci := 2) (q0 := 0) rfl rfl) rfl rfl hl.1 rfl (lv_room (Nat.le_of_ble_eq_true rfl)) dBD_begin_49 ⟨Nat.le_of_ble_eq_true rfl, Nat.le_of_ble_eq_true rfl⟩) hP hD hS hA [0, 2] [1, 3, 4] [3, 0, 4, 1, 2] (wBD_begin ad cI z10 v_RB_end (510 : Int32) z5 v_aChosen g1 g2) rfl rfl rfl (by decide) rfl rfl (fun H locs hP hD hS => ?_)
          clear hc
          refine lv_iadd hx hb dBD_begin_52 ?_
          refine ip_top hf (fun z11 hf => ?_)
          refine va_put (D := (dC, dI)) (ci := 4) (v := .int z11) (ty := .int) (C := kR_BD) (T := kT_BD) (N := 5) hx hb hts kin_BD kty_BD kto_BD knm_BD hown hK hP hD hS 1 rfl rfl 4 (by decide) (hts _ (List.mem_cons_of_mem _ kw1_101)) (fun _ h9 => h9) rfl (by decide +kernel) rfl rfl (Nat.le_of_ble_eq_true rfl) dBD_begin_53 (fun H locs hP hD hS => ?_)
          replace hP : va_P (dC, dI) vwCl (wBD_begin ad cI z10 v_RB_end (510 : Int32) z11 v_aChosen g1 g2) H := hP
          replace hD : va_D A (wBD_begin ad cI z10 v_RB_end (510 : Int32) z11 v_aChosen g1 g2) := hD
          refine ip_iinc (k0 := 1) (v0 := (1 : Int32)) (lv1 := fun z12 => [(1, .int z12), (0, .ref (ad 4))]) hx hb dBD_begin_56 hl rfl (by decide) (by decide) (fun _ => rfl) hf (fun z12 ls hf hl => ?_)
          refine lv_goto (tgt := 32) hx hb dBD_begin_59 rfl ?_
          replace hl := lv_sub hl (l' := [(0, .ref (ad 4)), (1, .int z12)]) [1, 0] rfl
          exact ih _ _ _ (ip_lp3_l hr32 hf) ls H locs hl hP hD hS
    exact L 1000 _ _ _ hL ls H locs hl hP hD hS
  intro ls H locs hl hP hD hS
  clear hL
  cases hf
  exact hret H locs 62 ls dBD_begin_62 hP hD hS
set_option maxHeartbeats 4000000 in
set_option maxRecDepth 100000 in
theorem tIP_inPicture {l : Launch} {dC : Nat → ClassId} {dI : Nat → Nat → Nat} {cI : ClassId} {ad : Nat → Nat} {ts : ip_TT}  {p1 : Int32} {p2 : Int32} {r0 : Int32}  (hf : fIP_inPicture p1 p2 = some r0) : ip_Mi l yIP_inPicture wsIP_inPicture rmIP_inPicture (dC, dI) vwCl [(cI, .int)] ts [.int p1, .int p2] (wIP_inPicture ad cI) (wIP_inPicture ad cI) r0 := by
  refine ip_startZ (cc := cIP_inPicture) (maxL := 2) (by decide) rfl (Nat.le_of_ble_eq_true rfl) ?_
  intro p e s m args below meth c Q A ls hx hb hml hts hown hK hP hD hS hA hZ hl hret
  replace hl : lv_has ls 2 [(0, .int p1), (1, .int p2)] := hl
  unfold fIP_inPicture at hf
  suffices J0 : ∀ (ls : Array Slot) (H : Heap) (locs : List Loc), lv_has ls 2 [(0, .int p1), (1, .int p2)] → va_P (dC, dI) vwCl (wIP_inPicture ad cI) H → va_D A (wIP_inPicture ad cI) → va_S A s.heap H locs → W p l e rmIP_inPicture s m args below meth c H locs 0 0 Q (F0 m 0 ls []) by exact J0 ls s.heap [] hl hP hD hS
  clear hP hD hS hl
  intro ls H locs hl hP hD hS
  refine lv_iload_n hx hb dIP_inPicture_0 rfl (lv_at hl 0 rfl) ?_
  refine ip_if_lt (tgt := 24) hx hb dIP_inPicture_1 rfl hf (fun hf => ?_) (fun hf => ?_)
  · refine lv_iconst (v := (0 : Int32)) hx hb dIP_inPicture_24 (by decide) ?_
    cases hf
    exact hret H locs 25 ls _ dIP_inPicture_25 (Or.inl rfl) rfl hP hD hS
  · refine lv_iload_n hx hb dIP_inPicture_4 rfl (lv_at hl 0 rfl) ?_
    refine lv_bipush (v := (16 : Int32)) hx hb dIP_inPicture_5 (by decide) ?_
    refine ip_icmp_ge (tgt := 24) hx hb dIP_inPicture_7 rfl hf (fun hf => ?_) (fun hf => ?_)
    · refine lv_iconst (v := (0 : Int32)) hx hb dIP_inPicture_24 (by decide) ?_
      cases hf
      exact hret H locs 25 ls _ dIP_inPicture_25 (Or.inl rfl) rfl hP hD hS
    · refine lv_iload_n hx hb dIP_inPicture_10 rfl (lv_at hl 1 rfl) ?_
      refine ip_if_lt (tgt := 24) hx hb dIP_inPicture_11 rfl hf (fun hf => ?_) (fun hf => ?_)
      · refine lv_iconst (v := (0 : Int32)) hx hb dIP_inPicture_24 (by decide) ?_
        cases hf
        exact hret H locs 25 ls _ dIP_inPicture_25 (Or.inl rfl) rfl hP hD hS
      · refine lv_iload_n hx hb dIP_inPicture_14 rfl (lv_at hl 1 rfl) ?_
        refine lv_bipush (v := (16 : Int32)) hx hb dIP_inPicture_15 (by decide) ?_
        refine ip_icmp_ge (tgt := 24) hx hb dIP_inPicture_17 rfl hf (fun hf => ?_) (fun hf => ?_)
        · refine lv_iconst (v := (0 : Int32)) hx hb dIP_inPicture_24 (by decide) ?_
          cases hf
          exact hret H locs 25 ls _ dIP_inPicture_25 (Or.inl rfl) rfl hP hD hS
        · refine lv_iconst (v := (1 : Int32)) hx hb dIP_inPicture_20 (by decide) ?_
          refine lv_goto (tgt := 25) hx hb dIP_inPicture_21 rfl ?_
          cases hf
          exact hret H locs 25 ls _ dIP_inPicture_25 (Or.inr rfl) rfl hP hD hS
set_option maxHeartbeats 4000000 in
set_option maxRecDepth 100000 in
theorem tIP_placeOf {l : Launch} {dC : Nat → ClassId} {dI : Nat → Nat → Nat} {cI : ClassId} {ad : Nat → Nat} {ts : ip_TT}  {p1 : Int32} {p2 : Int32} {r0 : Int32}  (hf : fIP_placeOf p1 p2 = some r0) : ip_Mi l yIP_placeOf wsIP_placeOf rmIP_placeOf (dC, dI) vwCl [(cI, .int)] ts [.int p1, .int p2] (wIP_placeOf ad cI) (wIP_placeOf ad cI) r0 := by
  refine ip_startI (cc := cIP_placeOf) (maxL := 2) (by decide) rfl (Nat.le_of_ble_eq_true rfl) ?_
  intro p e s m args below meth c Q A ls hx hb hml hts hown hK hP hD hS hA hZ hl hret
  replace hl : lv_has ls 2 [(0, .int p1), (1, .int p2)] := hl
  unfold fIP_placeOf at hf
  suffices J0 : ∀ (ls : Array Slot) (H : Heap) (locs : List Loc), lv_has ls 2 [(0, .int p1), (1, .int p2)] → va_P (dC, dI) vwCl (wIP_placeOf ad cI) H → va_D A (wIP_placeOf ad cI) → va_S A s.heap H locs → W p l e rmIP_placeOf s m args below meth c H locs 0 0 Q (F0 m 0 ls []) by exact J0 ls s.heap [] hl hP hD hS
  clear hP hD hS hl
  intro ls H locs hl hP hD hS
  refine lv_iload_n hx hb dIP_placeOf_0 rfl (lv_at hl 1 rfl) ?_
  refine lv_bipush (v := (16 : Int32)) hx hb dIP_placeOf_1 (by decide) ?_
  refine lv_imul hx hb dIP_placeOf_3 ?_
  refine lv_iload_n hx hb dIP_placeOf_4 rfl (lv_at hl 0 rfl) ?_
  refine lv_iadd hx hb dIP_placeOf_5 ?_
  cases hf
  exact hret H locs 6 ls _ dIP_placeOf_6 rfl hP hD hS
set_option maxHeartbeats 4000000 in
set_option maxRecDepth 100000 in
theorem tPI_splitAt {l : Launch} {dC : Nat → ClassId} {dI : Nat → Nat → Nat} {cI : ClassId} {ad : Nat → Nat} {ts : ip_TT} {v_PI_leaves : Int32} {v_aSides : Nat → Int32} {p1 : Int32} {p2 : Int32} {r0 : Int32}  (hf : fPI_splitAt v_PI_leaves v_aSides p1 p2 = some r0) : ip_Mi l yPI_splitAt wsPI_splitAt rmPI_splitAt (dC, dI) vwCl [(cI, .int)] ts [.ref (ad 7), .int p1, .int p2] (wPI_splitAt ad cI v_PI_leaves v_aSides) (wPI_splitAt ad cI v_PI_leaves v_aSides) r0 := by
  refine ip_startI (cc := cPI_splitAt) (maxL := 3) (by decide) rfl (Nat.le_of_ble_eq_true rfl) ?_
  intro p e s m args below meth c Q A ls hx hb hml hts hown hK hP hD hS hA hZ hl hret
  replace hl : lv_has ls 3 [(0, .ref (ad 7)), (1, .int p1), (2, .int p2)] := hl
  unfold fPI_splitAt at hf
  suffices J0 : ∀ (ls : Array Slot) (H : Heap) (locs : List Loc), lv_has ls 3 [(0, .ref (ad 7)), (1, .int p1), (2, .int p2)] → va_P (dC, dI) vwCl (wPI_splitAt ad cI v_PI_leaves v_aSides) H → va_D A (wPI_splitAt ad cI v_PI_leaves v_aSides) → va_S A s.heap H locs → W p l e rmPI_splitAt s m args below meth c H locs 0 0 Q (F0 m 0 ls []) by exact J0 ls s.heap [] hl hP hD hS
  clear hP hD hS hl
  intro ls H locs hl hP hD hS
  refine lv_iload_n hx hb dPI_splitAt_0 rfl (lv_at hl 1 rfl) ?_
  refine lv_iload_n hx hb dPI_splitAt_1 rfl (lv_at hl 2 rfl) ?_
  obtain ⟨z1, hc, hf⟩ := ip_b1_e hf
  refine ip_calli (va_runSN (As := [.int p1, .int p2]) (rest := []) ⟨hx, hb, hml, hown, hts⟩ (tIP_inPicture (l := l) (dC := dC) (dI := dI) (ad := ad) (cI := cI) (ts := ts) hc H.size) ⟨va_cnB 2 hts (ip_gd kw2_182) rfl rfl rfl (hZ.2 3 _ rfl) (hts _ (List.mem_cons_of_mem _ kw1_1)) (by decide +kernel) ⟨Nat.le_of_ble_eq_true rfl, Nat.le_of_ble_eq_true rfl⟩, (hts _ (List.mem_cons_of_mem _ kw2_181)), trivial⟩ (ip_preS hK hP hD hS hA hZ [] rfl rfl) rfl rfl hl.1 rfl (lv_room (Nat.le_of_ble_eq_true rfl)) dPI_splitAt_2 ⟨Nat.le_of_ble_eq_true rfl, Nat.le_of_ble_eq_true rfl⟩) hP hD hS hA [] [0, 1, 2] [0, 1, 2] (wPI_splitAt ad cI v_PI_leaves v_aSides) rfl rfl rfl (by decide) rfl rfl (fun H locs hP hD hS => ?_)
  clear hc
  refine ip_if_eq (tgt := 29) hx hb dPI_splitAt_5 rfl hf (fun hf => ?_) (fun hf => ?_)
  · refine lv_iconst (v := (0 : Int32)) hx hb dPI_splitAt_29 (by decide) ?_
    cases hf
    exact hret H locs 30 ls _ dPI_splitAt_30 rfl hP hD hS
  · refine lv_aload_n hx hb dPI_splitAt_8 rfl (lv_at hl 0 rfl) ?_
    refine va_get (D := (dC, dI)) (ci := 7) (v := .ref (ad 6)) (C := kR_PI) (T := kT_PI) (N := 9) hx hb hts kin_PI hown hK hP 1 rfl rfl 2 (by decide) (hts _ (List.mem_cons_of_mem _ kw2_30)) (fun _ h9 => h9) rfl dPI_splitAt_9 ?_
    refine va_get (D := (dC, dI)) (ci := 6) (v := .ref (ad 23)) (C := kR_RW) (T := kT_RW) (N := 6) hx hb hts kin_RW hown hK hP 0 rfl rfl 5 (by decide) (hts _ (List.mem_cons_of_mem _ kw1_137)) (fun _ h9 => h9) rfl dPI_splitAt_12 ?_
    refine lv_iload_n hx hb dPI_splitAt_15 rfl (lv_at hl 1 rfl) ?_
    refine lv_iload_n hx hb dPI_splitAt_16 rfl (lv_at hl 2 rfl) ?_
    obtain ⟨z2, hc, hf⟩ := ip_b1_e hf
    refine ip_calli (va_runSN (As := [.int p1, .int p2]) (rest := [.ref (ad 23)]) ⟨hx, hb, hml, hown, hts⟩ (tIP_placeOf (l := l) (dC := dC) (dI := dI) (ad := ad) (cI := cI) (ts := ts) hc H.size) ⟨va_cnB 2 hts (ip_gd kw2_185) rfl rfl rfl (hZ.2 4 _ rfl) (hts _ (List.mem_cons_of_mem _ kw1_1)) (by decide +kernel) ⟨Nat.le_of_ble_eq_true rfl, Nat.le_of_ble_eq_true rfl⟩, (hts _ (List.mem_cons_of_mem _ kw2_184)), trivial⟩ (ip_preS hK hP hD hS hA hZ [] rfl rfl) rfl rfl hl.1 rfl (lv_room (Nat.le_of_ble_eq_true rfl)) dPI_splitAt_17 ⟨Nat.le_of_ble_eq_true rfl, Nat.le_of_ble_eq_true rfl⟩) hP hD hS hA [] [0, 1, 2] [0, 1, 2] (wPI_splitAt ad cI v_PI_leaves v_aSides) rfl rfl rfl (by decide) rfl rfl (fun H locs hP hD hS => ?_)
    clear hc
    refine ip_iald hx hb hK hP 2 0 rfl rfl dPI_splitAt_20 hf (fun z3 hf => ?_)
    refine lv_iconst (v := (4 : Int32)) hx hb dPI_splitAt_21 (by decide) ?_
    refine ip_icmp_ne (tgt := 29) hx hb dPI_splitAt_22 rfl hf (fun hf => ?_) (fun hf => ?_)
    · refine lv_iconst (v := (0 : Int32)) hx hb dPI_splitAt_29 (by decide) ?_
      cases hf
      exact hret H locs 30 ls _ dPI_splitAt_30 rfl hP hD hS
    · refine lv_iconst (v := (1 : Int32)) hx hb dPI_splitAt_25 (by decide) ?_
      refine lv_goto (tgt := 30) hx hb dPI_splitAt_26 rfl ?_
      cases hf
      exact hret H locs 30 ls _ dPI_splitAt_30 rfl hP hD hS
set_option maxHeartbeats 4000000 in
set_option maxRecDepth 100000 in
theorem tBD_bin {l : Launch} {dC : Nat → ClassId} {dI : Nat → Nat → Nat} {cI : ClassId} {ad : Nat → Nat} {ts : ip_TT} {v_RB_place : Int32} {v_RB_end : Int32} {v_BD_range : Int32} {v_BD_value : Int32} {v_aChosen : Nat → Int32} {v_aChances : Nat → Int32} {v_aCounts : Nat → Int32} {p1 : Int32} {r0 : Int32} {nv_RB_place : Int32} {nv_BD_range : Int32} {nv_BD_value : Int32} {nv_aChances : Nat → Int32} {nv_aCounts : Nat → Int32} (hf : fBD_bin v_RB_place v_RB_end v_BD_range v_BD_value v_aChosen v_aChances v_aCounts p1 = some (r0, nv_RB_place, nv_BD_range, nv_BD_value, nv_aChances, nv_aCounts)) : ip_Mi l yBD_bin wsBD_bin rmBD_bin (dC, dI) vwCl [(cI, .int)] ts [.ref (ad 4), .int p1] (wBD_bin ad cI v_RB_place v_RB_end v_BD_range v_BD_value v_aChosen v_aChances v_aCounts) (wBD_bin ad cI nv_RB_place v_RB_end nv_BD_range nv_BD_value v_aChosen nv_aChances nv_aCounts) r0 := by
  refine ip_startI (cc := cBD_bin) (maxL := 8) (by decide) rfl (Nat.le_of_ble_eq_true rfl) ?_
  intro p e s m args below meth c Q A ls hx hb hml hts hown hK hP hD hS hA hZ hl hret
  replace hl : lv_has ls 8 [(0, .ref (ad 4)), (1, .int p1)] := hl
  unfold fBD_bin at hf
  suffices J0 : ∀ (ls : Array Slot) (H : Heap) (locs : List Loc), lv_has ls 8 [(0, .ref (ad 4)), (1, .int p1)] → va_P (dC, dI) vwCl (wBD_bin ad cI v_RB_place v_RB_end v_BD_range v_BD_value v_aChosen v_aChances v_aCounts) H → va_D A (wBD_bin ad cI v_RB_place v_RB_end v_BD_range v_BD_value v_aChosen v_aChances v_aCounts) → va_S A s.heap H locs → W p l e rmBD_bin s m args below meth c H locs 0 0 Q (F0 m 0 ls []) by exact J0 ls s.heap [] hl hP hD hS
  clear hP hD hS hl
  intro ls H locs hl hP hD hS
  refine lv_aload_n hx hb dBD_bin_0 rfl (lv_at hl 0 rfl) ?_
  refine va_get (D := (dC, dI)) (ci := 4) (v := .ref (ad 16)) (C := kR_BD) (T := kT_BD) (N := 5) hx hb hts kin_BD hown hK hP 1 rfl rfl 1 (by decide) (hts _ (List.mem_cons_of_mem _ kw1_96)) (fun _ h9 => h9) rfl dBD_bin_1 ?_
  refine lv_iload_n hx hb dBD_bin_4 rfl (lv_at hl 1 rfl) ?_
  refine ip_iald hx hb hK hP 3 0 rfl rfl dBD_bin_5 hf (fun z1 hf => ?_)
  refine lv_istore_n (lv' := [(2, .int z1), (0, .ref (ad 4)), (1, .int p1)]) hx hb dBD_bin_6 rfl hl (by decide) rfl (fun ls hl => ?_)
  refine lv_iload_n hx hb dBD_bin_7 rfl (lv_at hl 0 rfl) ?_
  refine lv_sipush (v := (512 : Int32)) hx hb dBD_bin_8 (by decide) ?_
  obtain ⟨z2, hh, hf⟩ := ip_b1_e hf
  suffices J19 : ∀ (ls : Array Slot) (H : Heap) (locs : List Loc), lv_has ls 8 [(0, .ref (ad 4)), (1, .int p1), (2, .int z1)] → va_P (dC, dI) vwCl (wBD_bin ad cI v_RB_place v_RB_end v_BD_range v_BD_value v_aChosen v_aChances v_aCounts) H → va_D A (wBD_bin ad cI v_RB_place v_RB_end v_BD_range v_BD_value v_aChosen v_aChances v_aCounts) → va_S A s.heap H locs → W p l e rmBD_bin s m args below meth c H locs 0 0 Q (F0 m 19 ls [.int z2]) by
    replace hf := hh
    refine ip_icmp_lt (tgt := 18) hx hb dBD_bin_11 rfl hf (fun hf => ?_) (fun hf => ?_)
    · refine lv_iconst (v := (0 : Int32)) hx hb dBD_bin_18 (by decide) ?_
      replace hl := lv_sub hl (l' := [(0, .ref (ad 4)), (1, .int p1), (2, .int z1)]) [1, 2, 0] rfl
      cases hf
      exact J19 ls H locs hl hP hD hS
    · refine lv_iconst (v := (1 : Int32)) hx hb dBD_bin_14 (by decide) ?_
      refine lv_goto (tgt := 19) hx hb dBD_bin_15 rfl ?_
      replace hl := lv_sub hl (l' := [(0, .ref (ad 4)), (1, .int p1), (2, .int z1)]) [1, 2, 0] rfl
      cases hf
      exact J19 ls H locs hl hP hD hS
  intro ls H locs hl hP hD hS
  clear hh
  refine lv_istore_n (lv' := [(3, .int z2), (0, .ref (ad 4)), (1, .int p1), (2, .int z1)]) hx hb dBD_bin_19 rfl hl (by decide) rfl (fun ls hl => ?_)
  refine lv_iload_n hx hb dBD_bin_20 rfl (lv_at hl 0 rfl) ?_
  refine lv_iconst (v := (1 : Int32)) hx hb dBD_bin_21 (by decide) ?_
  obtain ⟨z3, hh, hf⟩ := ip_b1_e hf
  suffices J34 : ∀ (ls : Array Slot) (H : Heap) (locs : List Loc), lv_has ls 8 [(0, .ref (ad 4)), (1, .int p1), (2, .int z1), (3, .int z2)] → va_P (dC, dI) vwCl (wBD_bin ad cI v_RB_place v_RB_end v_BD_range v_BD_value v_aChosen v_aChances v_aCounts) H → va_D A (wBD_bin ad cI v_RB_place v_RB_end v_BD_range v_BD_value v_aChosen v_aChances v_aCounts) → va_S A s.heap H locs → W p l e rmBD_bin s m args below meth c H locs 0 0 Q (F0 m 34 ls [.int z3]) by
    replace hf := hh
    refine ip_icmp_ne (tgt := 33) hx hb dBD_bin_22 rfl hf (fun hf => ?_) (fun hf => ?_)
    · refine lv_iload_n hx hb dBD_bin_33 rfl (lv_at hl 3 rfl) ?_
      replace hl := lv_sub hl (l' := [(0, .ref (ad 4)), (1, .int p1), (2, .int z1), (3, .int z2)]) [1, 2, 3, 0] rfl
      cases hf
      exact J34 ls H locs hl hP hD hS
    · refine lv_sipush (v := (1023 : Int32)) hx hb dBD_bin_25 (by decide) ?_
      refine lv_iload_n hx hb dBD_bin_28 rfl (lv_at hl 3 rfl) ?_
      refine lv_isub hx hb dBD_bin_29 ?_
      refine lv_goto (tgt := 34) hx hb dBD_bin_30 rfl ?_
      replace hl := lv_sub hl (l' := [(0, .ref (ad 4)), (1, .int p1), (2, .int z1), (3, .int z2)]) [1, 2, 3, 0] rfl
      cases hf
      exact J34 ls H locs hl hP hD hS
  intro ls H locs hl hP hD hS
  clear hh
  refine lv_iconst (v := (5 : Int32)) hx hb dBD_bin_34 (by decide) ?_
  refine lv_ishr hx hb dBD_bin_35 ?_
  refine ip_top hf (fun z4 hf => ?_)
  refine lv_istore (lv' := [(4, .int z4), (0, .ref (ad 4)), (1, .int p1), (2, .int z1), (3, .int z2)]) hx hb dBD_bin_36 hl (by decide) rfl (fun ls hl => ?_)
  refine lv_aload_n hx hb dBD_bin_38 rfl (lv_at hl 1 rfl) ?_
  refine va_get (D := (dC, dI)) (ci := 4) (v := .int v_BD_range) (C := kR_BD) (T := kT_BD) (N := 5) hx hb hts kin_BD hown hK hP 1 rfl rfl 3 (by decide) (hts _ (List.mem_cons_of_mem _ kw1_100)) (fun _ h9 => h9) rfl dBD_bin_39 ?_
  refine lv_iconst (v := (5 : Int32)) hx hb dBD_bin_42 (by decide) ?_
  refine lv_ishr hx hb dBD_bin_43 ?_
  refine lv_iload hx hb dBD_bin_44 (lv_at hl 0 rfl) ?_
  refine lv_imul hx hb dBD_bin_46 ?_
  refine lv_iconst (v := (1 : Int32)) hx hb dBD_bin_47 (by decide) ?_
  refine lv_ishr hx hb dBD_bin_48 ?_
  refine lv_iconst (v := (4 : Int32)) hx hb dBD_bin_49 (by decide) ?_
  refine lv_iadd hx hb dBD_bin_50 ?_
  refine ip_top hf (fun z5 hf => ?_)
  refine lv_istore (lv' := [(5, .int z5), (4, .int z4), (0, .ref (ad 4)), (1, .int p1), (2, .int z1), (3, .int z2)]) hx hb dBD_bin_51 hl (by decide) rfl (fun ls hl => ?_)
  refine lv_iload_n hx hb dBD_bin_53 rfl (lv_at hl 5 rfl) ?_
  refine lv_istore (lv' := [(6, .int z2), (5, .int z5), (4, .int z4), (0, .ref (ad 4)), (1, .int p1), (2, .int z1), (3, .int z2)]) hx hb dBD_bin_54 hl (by decide) rfl (fun ls hl => ?_)
  refine lv_aload_n hx hb dBD_bin_56 rfl (lv_at hl 3 rfl) ?_
  refine lv_dup hx hb dBD_bin_57 rfl ?_
  refine va_get (D := (dC, dI)) (ci := 4) (v := .int v_BD_range) (C := kR_BD) (T := kT_BD) (N := 5) hx hb hts kin_BD hown hK hP 1 rfl rfl 3 (by decide) (hts _ (List.mem_cons_of_mem _ kw1_100)) (fun _ h9 => h9) rfl dBD_bin_58 ?_
  refine lv_iload hx hb dBD_bin_61 (lv_at hl 1 rfl) ?_
  refine lv_isub hx hb dBD_bin_63 ?_
  refine ip_top hf (fun z6 hf => ?_)
  refine va_put (D := (dC, dI)) (ci := 4) (v := .int z6) (ty := .int) (C := kR_BD) (T := kT_BD) (N := 5) hx hb hts kin_BD kty_BD kto_BD knm_BD hown hK hP hD hS 1 rfl rfl 3 (by decide) (hts _ (List.mem_cons_of_mem _ kw1_100)) (fun _ h9 => h9) rfl (by decide +kernel) rfl rfl (Nat.le_of_ble_eq_true rfl) dBD_bin_64 (fun H locs hP hD hS => ?_)
  replace hP : va_P (dC, dI) vwCl (wBD_bin ad cI v_RB_place v_RB_end z6 v_BD_value v_aChosen v_aChances v_aCounts) H := hP
  replace hD : va_D A (wBD_bin ad cI v_RB_place v_RB_end z6 v_BD_value v_aChosen v_aChances v_aCounts) := hD
  refine lv_aload_n hx hb dBD_bin_67 rfl (lv_at hl 3 rfl) ?_
  refine va_get (D := (dC, dI)) (ci := 4) (v := .int v_BD_value) (C := kR_BD) (T := kT_BD) (N := 5) hx hb hts kin_BD hown hK hP 1 rfl rfl 4 (by decide) (hts _ (List.mem_cons_of_mem _ kw1_101)) (fun _ h9 => h9) rfl dBD_bin_68 ?_
  refine lv_aload_n hx hb dBD_bin_71 rfl (lv_at hl 3 rfl) ?_
  refine va_get (D := (dC, dI)) (ci := 4) (v := .int z6) (C := kR_BD) (T := kT_BD) (N := 5) hx hb hts kin_BD hown hK hP 1 rfl rfl 3 (by decide) (hts _ (List.mem_cons_of_mem _ kw1_100)) (fun _ h9 => h9) rfl dBD_bin_72 ?_
  obtain ⟨z7, z8, z9, hh, hf⟩ := ip_b3_e hf
  suffices J102 : ∀ (ls : Array Slot) (H : Heap) (locs : List Loc), lv_has ls 8 [(0, .ref (ad 4)), (1, .int p1), (2, .int z1), (6, .int z7)] → va_P (dC, dI) vwCl (wBD_bin ad cI v_RB_place v_RB_end z8 z9 v_aChosen v_aChances v_aCounts) H → va_D A (wBD_bin ad cI v_RB_place v_RB_end z8 z9 v_aChosen v_aChances v_aCounts) → va_S A s.heap H locs → W p l e rmBD_bin s m args below meth c H locs 0 0 Q (F0 m 102 ls []) by
    replace hf := hh
    refine ip_icmp_lt (tgt := 102) hx hb dBD_bin_75 rfl hf (fun hf => ?_) (fun hf => ?_)
    · replace hl := lv_sub hl (l' := [(0, .ref (ad 4)), (1, .int p1), (2, .int z1), (6, .int z2)]) [3, 4, 5, 0] rfl
      cases hf
      exact J102 ls H locs hl hP hD hS
    · refine lv_aload_n hx hb dBD_bin_78 rfl (lv_at hl 3 rfl) ?_
      refine lv_dup hx hb dBD_bin_79 rfl ?_
      refine va_get (D := (dC, dI)) (ci := 4) (v := .int v_BD_value) (C := kR_BD) (T := kT_BD) (N := 5) hx hb hts kin_BD hown hK hP 1 rfl rfl 4 (by decide) (hts _ (List.mem_cons_of_mem _ kw1_101)) (fun _ h9 => h9) rfl dBD_bin_80 ?_
      refine lv_aload_n hx hb dBD_bin_83 rfl (lv_at hl 3 rfl) ?_
      refine va_get (D := (dC, dI)) (ci := 4) (v := .int z6) (C := kR_BD) (T := kT_BD) (N := 5) hx hb hts kin_BD hown hK hP 1 rfl rfl 3 (by decide) (hts _ (List.mem_cons_of_mem _ kw1_100)) (fun _ h9 => h9) rfl dBD_bin_84 ?_
      refine lv_isub hx hb dBD_bin_87 ?_
      refine ip_top hf (fun z10 hf => ?_)
      refine va_put (D := (dC, dI)) (ci := 4) (v := .int z10) (ty := .int) (C := kR_BD) (T := kT_BD) (N := 5) hx hb hts kin_BD kty_BD kto_BD knm_BD hown hK hP hD hS 1 rfl rfl 4 (by decide) (hts _ (List.mem_cons_of_mem _ kw1_101)) (fun _ h9 => h9) rfl (by decide +kernel) rfl rfl (Nat.le_of_ble_eq_true rfl) dBD_bin_88 (fun H locs hP hD hS => ?_)
      replace hP : va_P (dC, dI) vwCl (wBD_bin ad cI v_RB_place v_RB_end z6 z10 v_aChosen v_aChances v_aCounts) H := hP
      replace hD : va_D A (wBD_bin ad cI v_RB_place v_RB_end z6 z10 v_aChosen v_aChances v_aCounts) := hD
      refine lv_aload_n hx hb dBD_bin_91 rfl (lv_at hl 3 rfl) ?_
      refine lv_iload hx hb dBD_bin_92 (lv_at hl 1 rfl) ?_
      refine va_put (D := (dC, dI)) (ci := 4) (v := .int z5) (ty := .int) (C := kR_BD) (T := kT_BD) (N := 5) hx hb hts kin_BD kty_BD kto_BD knm_BD hown hK hP hD hS 1 rfl rfl 3 (by decide) (hts _ (List.mem_cons_of_mem _ kw1_100)) (fun _ h9 => h9) rfl (by decide +kernel) rfl rfl (Nat.le_of_ble_eq_true rfl) dBD_bin_94 (fun H locs hP hD hS => ?_)
      replace hP : va_P (dC, dI) vwCl (wBD_bin ad cI v_RB_place v_RB_end z5 z10 v_aChosen v_aChances v_aCounts) H := hP
      replace hD : va_D A (wBD_bin ad cI v_RB_place v_RB_end z5 z10 v_aChosen v_aChances v_aCounts) := hD
      refine lv_iconst (v := (1 : Int32)) hx hb dBD_bin_97 (by decide) ?_
      refine lv_iload_n hx hb dBD_bin_98 rfl (lv_at hl 6 rfl) ?_
      refine lv_isub hx hb dBD_bin_99 ?_
      refine ip_top hf (fun z11 hf => ?_)
      refine lv_istore (lv' := [(6, .int z11), (5, .int z5), (4, .int z4), (0, .ref (ad 4)), (1, .int p1), (2, .int z1), (3, .int z2)]) hx hb dBD_bin_100 hl (by decide) rfl (fun ls hl => ?_)
      replace hl := lv_sub hl (l' := [(0, .ref (ad 4)), (1, .int p1), (2, .int z1), (6, .int z11)]) [3, 4, 5, 0] rfl
      cases hf
      exact J102 ls H locs hl hP hD hS
  intro ls H locs hl hP hD hS
  clear hh
  refine lv_aload_n hx hb dBD_bin_102 rfl (lv_at hl 0 rfl) ?_
  refine va_get (D := (dC, dI)) (ci := 4) (v := .ref (ad 16)) (C := kR_BD) (T := kT_BD) (N := 5) hx hb hts kin_BD hown hK hP 1 rfl rfl 1 (by decide) (hts _ (List.mem_cons_of_mem _ kw1_96)) (fun _ h9 => h9) rfl dBD_bin_103 ?_
  refine lv_iload_n hx hb dBD_bin_106 rfl (lv_at hl 1 rfl) ?_
  refine lv_iload hx hb dBD_bin_107 (lv_at hl 3 rfl) ?_
  refine lv_iconst (v := (1 : Int32)) hx hb dBD_bin_109 (by decide) ?_
  obtain ⟨z12, hh, hf⟩ := ip_b1_e hf
  suffices J130 : ∀ (ls : Array Slot) (H : Heap) (locs : List Loc), lv_has ls 8 [(0, .ref (ad 4)), (6, .int z7)] → va_P (dC, dI) vwCl (wBD_bin ad cI v_RB_place v_RB_end z8 z9 v_aChosen v_aChances v_aCounts) H → va_D A (wBD_bin ad cI v_RB_place v_RB_end z8 z9 v_aChosen v_aChances v_aCounts) → va_S A s.heap H locs → W p l e rmBD_bin s m args below meth c H locs 0 0 Q (F0 m 130 ls [.int z12, .int p1, .ref (ad 16)]) by
    replace hf := hh
    refine ip_icmp_ne (tgt := 125) hx hb dBD_bin_110 rfl hf (fun hf => ?_) (fun hf => ?_)
    · refine lv_iload_n hx hb dBD_bin_125 rfl (lv_at hl 2 rfl) ?_
      refine lv_iload_n hx hb dBD_bin_126 rfl (lv_at hl 2 rfl) ?_
      refine lv_iconst (v := (4 : Int32)) hx hb dBD_bin_127 (by decide) ?_
      refine lv_ishr hx hb dBD_bin_128 ?_
      refine lv_isub hx hb dBD_bin_129 ?_
      replace hl := lv_sub hl (l' := [(0, .ref (ad 4)), (6, .int z7)]) [0, 3] rfl
      cases hf
      exact J130 ls H locs hl hP hD hS
    · refine lv_iload_n hx hb dBD_bin_113 rfl (lv_at hl 2 rfl) ?_
      refine lv_sipush (v := (1023 : Int32)) hx hb dBD_bin_114 (by decide) ?_
      refine lv_iload_n hx hb dBD_bin_117 rfl (lv_at hl 2 rfl) ?_
      refine lv_isub hx hb dBD_bin_118 ?_
      refine lv_iconst (v := (4 : Int32)) hx hb dBD_bin_119 (by decide) ?_
      refine lv_ishr hx hb dBD_bin_120 ?_
      refine lv_iadd hx hb dBD_bin_121 ?_
      refine lv_goto (tgt := 130) hx hb dBD_bin_122 rfl ?_
      replace hl := lv_sub hl (l' := [(0, .ref (ad 4)), (6, .int z7)]) [0, 3] rfl
      cases hf
      exact J130 ls H locs hl hP hD hS
  intro ls H locs hl hP hD hS
  clear hh
  refine ip_iast hx hb hK hP hD hS 3 0 rfl rfl (fun g13 => (wBD_bin ad cI v_RB_place v_RB_end z8 z9 v_aChosen g13 v_aCounts)) (fun _ => rfl) dBD_bin_130 hf (fun g13 H locs hf hP hD hS => ?_)
  refine lv_iconst (v := (0 : Int32)) hx hb dBD_bin_131 (by decide) ?_
  refine lv_istore (lv' := [(7, .int (0 : Int32)), (0, .ref (ad 4)), (6, .int z7)]) hx hb dBD_bin_132 hl (by decide) rfl (fun ls hl => ?_)
  replace hl := lv_sub hl (l' := [(0, .ref (ad 4)), (6, .int z7), (7, .int (0 : Int32))]) [1, 2, 0] rfl
  obtain ⟨x18, x19, x20, x21, hL, hf⟩ := ip_b4_e hf
  suffices J185 : ∀ (ls : Array Slot) (H : Heap) (locs : List Loc), lv_has ls 8 [(0, .ref (ad 4)), (6, .int z7)] → va_P (dC, dI) vwCl (wBD_bin ad cI x19 v_RB_end x20 x21 v_aChosen g13 v_aCounts) H → va_D A (wBD_bin ad cI x19 v_RB_end x20 x21 v_aChosen g13 v_aCounts) → va_S A s.heap H locs → W p l e rmBD_bin s m args below meth c H locs 0 0 Q (F0 m 185 ls []) by
    have L : ∀ (n : Nat) (z14 : Int32) (z15 : Int32) (z16 : Int32) (z17 : Int32), ip_lp4 (fBD_bin_B134 v_RB_end v_aChosen) n z14 z15 z16 z17 = some (x18, x19, x20, x21) → ∀ (ls : Array Slot) (H : Heap) (locs : List Loc), lv_has ls 8 [(0, .ref (ad 4)), (6, .int z7), (7, .int z14)] → va_P (dC, dI) vwCl (wBD_bin ad cI z15 v_RB_end z16 z17 v_aChosen g13 v_aCounts) H → va_D A (wBD_bin ad cI z15 v_RB_end z16 z17 v_aChosen g13 v_aCounts) → va_S A s.heap H locs → W p l e rmBD_bin s m args below meth c H locs 0 0 Q (F0 m 134 ls []) := by
      intro n
      induction n with
      | zero => intro z14 z15 z16 z17 hL; exact (ip_lp4_0 hL).elim
      | succ n ih =>
        intro z14 z15 z16 z17 hL ls H locs hl hP hD hS
        clear hf
        obtain ⟨r9, hf, hr134⟩ := ip_lp4_s hL
        clear hL
        unfold fBD_bin_B134 at hf
        refine lv_iload hx hb dBD_bin_134 (lv_at hl 2 rfl) ?_
        refine lv_bipush (v := (6 : Int32)) hx hb dBD_bin_136 (by decide) ?_
        refine ip_icmp_ge (tgt := 185) hx hb dBD_bin_138 rfl hf (fun hf => ?_) (fun hf => ?_)
        · have hx9 := ip_lp_x hr134 hf
          replace hl := lv_sub hl (l' := [(0, .ref (ad 4)), (6, .int z7)]) [0, 1] rfl
          cases hx9
          exact J185 ls H locs hl hP hD hS
        · refine lv_aload_n hx hb dBD_bin_141 rfl (lv_at hl 0 rfl) ?_
          refine va_get (D := (dC, dI)) (ci := 4) (v := .int z16) (C := kR_BD) (T := kT_BD) (N := 5) hx hb hts kin_BD hown hK hP 1 rfl rfl 3 (by decide) (hts _ (List.mem_cons_of_mem _ kw1_100)) (fun _ h9 => h9) rfl dBD_bin_142 ?_
          refine lv_sipush (v := (256 : Int32)) hx hb dBD_bin_145 (by decide) ?_
          refine ip_icmp_ge (tgt := 185) hx hb dBD_bin_148 rfl hf (fun hf => ?_) (fun hf => ?_)
          · have hx9 := ip_lp_x hr134 hf
            replace hl := lv_sub hl (l' := [(0, .ref (ad 4)), (6, .int z7)]) [0, 1] rfl
            cases hx9
            exact J185 ls H locs hl hP hD hS
          · refine lv_aload_n hx hb dBD_bin_151 rfl (lv_at hl 0 rfl) ?_
            refine lv_dup hx hb dBD_bin_152 rfl ?_
            refine va_get (D := (dC, dI)) (ci := 4) (v := .int z16) (C := kR_BD) (T := kT_BD) (N := 5) hx hb hts kin_BD hown hK hP 1 rfl rfl 3 (by decide) (hts _ (List.mem_cons_of_mem _ kw1_100)) (fun _ h9 => h9) rfl dBD_bin_153 ?_
            refine lv_iconst (v := (2 : Int32)) hx hb dBD_bin_156 (by decide) ?_
            refine lv_imul hx hb dBD_bin_157 ?_
            refine ip_top hf (fun z22 hf => ?_)
            refine va_put (D := (dC, dI)) (ci := 4) (v := .int z22) (ty := .int) (C := kR_BD) (T := kT_BD) (N := 5) hx hb hts kin_BD kty_BD kto_BD knm_BD hown hK hP hD hS 1 rfl rfl 3 (by decide) (hts _ (List.mem_cons_of_mem _ kw1_100)) (fun _ h9 => h9) rfl (by decide +kernel) rfl rfl (Nat.le_of_ble_eq_true rfl) dBD_bin_158 (fun H locs hP hD hS => ?_)
            replace hP : va_P (dC, dI) vwCl (wBD_bin ad cI z15 v_RB_end z22 z17 v_aChosen g13 v_aCounts) H := hP
            replace hD : va_D A (wBD_bin ad cI z15 v_RB_end z22 z17 v_aChosen g13 v_aCounts) := hD
            refine lv_aload_n hx hb dBD_bin_161 rfl (lv_at hl 0 rfl) ?_
            refine lv_iconst (v := (2 : Int32)) hx hb dBD_bin_162 (by decide) ?_
            refine lv_aload_n hx hb dBD_bin_163 rfl (lv_at hl 0 rfl) ?_
            refine va_get (D := (dC, dI)) (ci := 4) (v := .int z17) (C := kR_BD) (T := kT_BD) (N := 5) hx hb hts kin_BD hown hK hP 1 rfl rfl 4 (by decide) (hts _ (List.mem_cons_of_mem _ kw1_101)) (fun _ h9 => h9) rfl dBD_bin_164 ?_
            refine lv_imul hx hb dBD_bin_167 ?_
            refine lv_aload_n hx hb dBD_bin_168 rfl (lv_at hl 0 rfl) ?_
            refine va_get (D := (dC, dI)) (ci := 4) (v := .ref (ad 2)) (C := kR_BD) (T := kT_BD) (N := 5) hx hb hts kin_BD hown hK hP 1 rfl rfl 0 (by decide) (hts _ (List.mem_cons_of_mem _ kw1_95)) (fun _ h9 => h9) rfl dBD_bin_169 ?_
            obtain ⟨z23, z24, hc, hf⟩ := ip_b2_e hf
            refine ip_calli (va_runV (As := []) (rest := [.int ((2 : Int32) * z17), .ref (ad 4)]) ⟨hx, hb, hml, hown, hts⟩ (tRB_next (l := l) (dC := dC) (dI := dI) (ad := ad) (cI := cI) (ts := ts) hc H.size) (cwV 0 hts (ip_gdV (own := kR_BD) (idx := 33) (C := kR_RB) (y := yRB_next) kw2_175 kw2_151 kw2_152 kw1_3 kw2_153) rfl rfl rfl (by decide +kernel) ⟨Nat.le_of_ble_eq_true rfl, Nat.le_of_ble_eq_true rfl⟩) (ip_preV hK hP hD hS hA hZ [0, 2] rfl rfl (ci := 2) (q0 := 0) rfl rfl) rfl rfl hl.1 rfl (lv_room (Nat.le_of_ble_eq_true rfl)) dBD_bin_172 ⟨Nat.le_of_ble_eq_true rfl, Nat.le_of_ble_eq_true rfl⟩) hP hD hS hA [0, 2] [1, 3, 4] [3, 0, 4, 1, 2] (wBD_bin ad cI z24 v_RB_end z22 z17 v_aChosen g13 v_aCounts) rfl rfl rfl (by decide) rfl rfl (fun H locs hP hD hS => ?_)
            clear hc
            refine lv_iadd hx hb dBD_bin_175 ?_
            refine ip_top hf (fun z25 hf => ?_)
            refine va_put (D := (dC, dI)) (ci := 4) (v := .int z25) (ty := .int) (C := kR_BD) (T := kT_BD) (N := 5) hx hb hts kin_BD kty_BD kto_BD knm_BD hown hK hP hD hS 1 rfl rfl 4 (by decide) (hts _ (List.mem_cons_of_mem _ kw1_101)) (fun _ h9 => h9) rfl (by decide +kernel) rfl rfl (Nat.le_of_ble_eq_true rfl) dBD_bin_176 (fun H locs hP hD hS => ?_)
            replace hP : va_P (dC, dI) vwCl (wBD_bin ad cI z24 v_RB_end z22 z25 v_aChosen g13 v_aCounts) H := hP
            replace hD : va_D A (wBD_bin ad cI z24 v_RB_end z22 z25 v_aChosen g13 v_aCounts) := hD
            refine ip_iinc (k0 := 2) (v0 := (1 : Int32)) (lv1 := fun z26 => [(7, .int z26), (0, .ref (ad 4)), (6, .int z7)]) hx hb dBD_bin_179 hl rfl (by decide) (by decide) (fun _ => rfl) hf (fun z26 ls hf hl => ?_)
            refine lv_goto (tgt := 134) hx hb dBD_bin_182 rfl ?_
            replace hl := lv_sub hl (l' := [(0, .ref (ad 4)), (6, .int z7), (7, .int z26)]) [1, 2, 0] rfl
            exact ih _ _ _ _ (ip_lp4_l hr134 hf) ls H locs hl hP hD hS
    exact L 1000 _ _ _ _ hL ls H locs hl hP hD hS
  intro ls H locs hl hP hD hS
  clear hL
  refine lv_aload_n hx hb dBD_bin_185 rfl (lv_at hl 0 rfl) ?_
  refine va_get (D := (dC, dI)) (ci := 4) (v := .ref (ad 17)) (C := kR_BD) (T := kT_BD) (N := 5) hx hb hts kin_BD hown hK hP 1 rfl rfl 2 (by decide) (hts _ (List.mem_cons_of_mem _ kw1_98)) (fun _ h9 => h9) rfl dBD_bin_186 ?_
  refine lv_iconst (v := (0 : Int32)) hx hb dBD_bin_189 (by decide) ?_
  refine lv_dup2_11 hx hb dBD_bin_190 rfl rfl ?_
  refine ip_iald hx hb hK hP 4 0 rfl rfl dBD_bin_191 hf (fun z27 hf => ?_)
  refine lv_iconst (v := (1 : Int32)) hx hb dBD_bin_192 (by decide) ?_
  refine lv_iadd hx hb dBD_bin_193 ?_
  refine ip_iast hx hb hK hP hD hS 4 0 rfl rfl (fun g28 => (wBD_bin ad cI x19 v_RB_end x20 x21 v_aChosen g13 g28)) (fun _ => rfl) dBD_bin_194 hf (fun g28 H locs hf hP hD hS => ?_)
  refine lv_iload hx hb dBD_bin_195 (lv_at hl 1 rfl) ?_
  cases hf
  exact hret H locs 197 ls _ dBD_bin_197 rfl hP hD hS
set_option maxHeartbeats 4000000 in
set_option maxRecDepth 100000 in
theorem tLF_moveTo {l : Launch} {dC : Nat → ClassId} {dI : Nat → Nat → Nat} {cI : ClassId} {ad : Nat → Nat} {ts : ip_TT} {v_LF_x : Int32} {v_LF_y : Int32} {v_LF_side : Int32} {v_LF_mode : Int32} {v_LF_skip : Int32} {p1 : Int32} {p2 : Int32} {p3 : Int32} {nv_LF_x : Int32} {nv_LF_y : Int32} {nv_LF_side : Int32} {nv_LF_skip : Int32} (hf : fLF_moveTo v_LF_x v_LF_y v_LF_side v_LF_mode v_LF_skip p1 p2 p3 = some (nv_LF_x, nv_LF_y, nv_LF_side, nv_LF_skip)) : ip_Mv l yLF_moveTo wsLF_moveTo rmLF_moveTo (dC, dI) vwCl [(cI, .int)] ts [.ref (ad 5), .int p1, .int p2, .int p3] (wLF_moveTo ad cI v_LF_x v_LF_y v_LF_side v_LF_mode v_LF_skip) (wLF_moveTo ad cI nv_LF_x nv_LF_y nv_LF_side v_LF_mode nv_LF_skip) := by
  refine ip_startV (cc := cLF_moveTo) (maxL := 4) (by decide) rfl (Nat.le_of_ble_eq_true rfl) ?_
  intro p e s m args below meth c Q A ls hx hb hml hts hown hK hP hD hS hA hZ hl hret
  replace hl : lv_has ls 4 [(0, .ref (ad 5)), (1, .int p1), (2, .int p2), (3, .int p3)] := hl
  unfold fLF_moveTo at hf
  suffices J0 : ∀ (ls : Array Slot) (H : Heap) (locs : List Loc), lv_has ls 4 [(0, .ref (ad 5)), (1, .int p1), (2, .int p2), (3, .int p3)] → va_P (dC, dI) vwCl (wLF_moveTo ad cI v_LF_x v_LF_y v_LF_side v_LF_mode v_LF_skip) H → va_D A (wLF_moveTo ad cI v_LF_x v_LF_y v_LF_side v_LF_mode v_LF_skip) → va_S A s.heap H locs → W p l e rmLF_moveTo s m args below meth c H locs 0 0 Q (F0 m 0 ls []) by exact J0 ls s.heap [] hl hP hD hS
  clear hP hD hS hl
  intro ls H locs hl hP hD hS
  refine lv_aload_n hx hb dLF_moveTo_0 rfl (lv_at hl 0 rfl) ?_
  refine lv_iload_n hx hb dLF_moveTo_1 rfl (lv_at hl 1 rfl) ?_
  refine va_put (D := (dC, dI)) (ci := 5) (v := .int p1) (ty := .int) (C := kR_LF) (T := kT_LF) (N := 5) hx hb hts kin_LF kty_LF kto_LF knm_LF hown hK hP hD hS 0 rfl rfl 0 (by decide) (hts _ (List.mem_cons_of_mem _ kw1_165)) (fun _ h9 => h9) rfl (by decide +kernel) rfl rfl (Nat.le_of_ble_eq_true rfl) dLF_moveTo_2 (fun H locs hP hD hS => ?_)
  replace hP : va_P (dC, dI) vwCl (wLF_moveTo ad cI p1 v_LF_y v_LF_side v_LF_mode v_LF_skip) H := hP
  replace hD : va_D A (wLF_moveTo ad cI p1 v_LF_y v_LF_side v_LF_mode v_LF_skip) := hD
  refine lv_aload_n hx hb dLF_moveTo_5 rfl (lv_at hl 0 rfl) ?_
  refine lv_iload_n hx hb dLF_moveTo_6 rfl (lv_at hl 2 rfl) ?_
  refine va_put (D := (dC, dI)) (ci := 5) (v := .int p2) (ty := .int) (C := kR_LF) (T := kT_LF) (N := 5) hx hb hts kin_LF kty_LF kto_LF knm_LF hown hK hP hD hS 0 rfl rfl 1 (by decide) (hts _ (List.mem_cons_of_mem _ kw1_168)) (fun _ h9 => h9) rfl (by decide +kernel) rfl rfl (Nat.le_of_ble_eq_true rfl) dLF_moveTo_7 (fun H locs hP hD hS => ?_)
  replace hP : va_P (dC, dI) vwCl (wLF_moveTo ad cI p1 p2 v_LF_side v_LF_mode v_LF_skip) H := hP
  replace hD : va_D A (wLF_moveTo ad cI p1 p2 v_LF_side v_LF_mode v_LF_skip) := hD
  refine lv_aload_n hx hb dLF_moveTo_10 rfl (lv_at hl 0 rfl) ?_
  refine lv_iload_n hx hb dLF_moveTo_11 rfl (lv_at hl 3 rfl) ?_
  refine va_put (D := (dC, dI)) (ci := 5) (v := .int p3) (ty := .int) (C := kR_LF) (T := kT_LF) (N := 5) hx hb hts kin_LF kty_LF kto_LF knm_LF hown hK hP hD hS 0 rfl rfl 2 (by decide) (hts _ (List.mem_cons_of_mem _ kw1_172)) (fun _ h9 => h9) rfl (by decide +kernel) rfl rfl (Nat.le_of_ble_eq_true rfl) dLF_moveTo_12 (fun H locs hP hD hS => ?_)
  replace hP : va_P (dC, dI) vwCl (wLF_moveTo ad cI p1 p2 p3 v_LF_mode v_LF_skip) H := hP
  replace hD : va_D A (wLF_moveTo ad cI p1 p2 p3 v_LF_mode v_LF_skip) := hD
  refine lv_aload_n hx hb dLF_moveTo_15 rfl (lv_at hl 0 rfl) ?_
  refine lv_iconst (v := (0 : Int32)) hx hb dLF_moveTo_16 (by decide) ?_
  refine va_put (D := (dC, dI)) (ci := 5) (v := .int (0 : Int32)) (ty := .boolean) (C := kR_LF) (T := kT_LF) (N := 5) hx hb hts kin_LF kty_LF kto_LF knm_LF hown hK hP hD hS 0 rfl rfl 4 (by decide) (hts _ (List.mem_cons_of_mem _ kw1_178)) (fun _ h9 => h9) rfl (by decide +kernel) rfl rfl (Nat.le_of_ble_eq_true rfl) dLF_moveTo_17 (fun H locs hP hD hS => ?_)
  replace hP : va_P (dC, dI) vwCl (wLF_moveTo ad cI p1 p2 p3 v_LF_mode (0 : Int32)) H := hP
  replace hD : va_D A (wLF_moveTo ad cI p1 p2 p3 v_LF_mode (0 : Int32)) := hD
  cases hf
  exact hret H locs 20 ls dLF_moveTo_20 hP hD hS
set_option maxHeartbeats 4000000 in
set_option maxRecDepth 100000 in
theorem tLF_placeInPicture {l : Launch} {dC : Nat → ClassId} {dI : Nat → Nat → Nat} {cI : ClassId} {ad : Nat → Nat} {ts : ip_TT} {v_LF_x : Int32} {v_LF_y : Int32} {v_LF_side : Int32} {v_LF_mode : Int32} {v_LF_skip : Int32} {p1 : Int32} {p2 : Int32} {r0 : Int32}  (hf : fLF_placeInPicture v_LF_x v_LF_y v_LF_side v_LF_mode v_LF_skip p1 p2 = some r0) : ip_Mi l yLF_placeInPicture wsLF_placeInPicture rmLF_placeInPicture (dC, dI) vwCl [(cI, .int)] ts [.ref (ad 5), .int p1, .int p2] (wLF_placeInPicture ad cI v_LF_x v_LF_y v_LF_side v_LF_mode v_LF_skip) (wLF_placeInPicture ad cI v_LF_x v_LF_y v_LF_side v_LF_mode v_LF_skip) r0 := by
  refine ip_startI (cc := cLF_placeInPicture) (maxL := 3) (by decide) rfl (Nat.le_of_ble_eq_true rfl) ?_
  intro p e s m args below meth c Q A ls hx hb hml hts hown hK hP hD hS hA hZ hl hret
  replace hl : lv_has ls 3 [(0, .ref (ad 5)), (1, .int p1), (2, .int p2)] := hl
  unfold fLF_placeInPicture at hf
  suffices J0 : ∀ (ls : Array Slot) (H : Heap) (locs : List Loc), lv_has ls 3 [(0, .ref (ad 5)), (1, .int p1), (2, .int p2)] → va_P (dC, dI) vwCl (wLF_placeInPicture ad cI v_LF_x v_LF_y v_LF_side v_LF_mode v_LF_skip) H → va_D A (wLF_placeInPicture ad cI v_LF_x v_LF_y v_LF_side v_LF_mode v_LF_skip) → va_S A s.heap H locs → W p l e rmLF_placeInPicture s m args below meth c H locs 0 0 Q (F0 m 0 ls []) by exact J0 ls s.heap [] hl hP hD hS
  clear hP hD hS hl
  intro ls H locs hl hP hD hS
  refine lv_aload_n hx hb dLF_placeInPicture_0 rfl (lv_at hl 0 rfl) ?_
  refine va_get (D := (dC, dI)) (ci := 5) (v := .int v_LF_x) (C := kR_LF) (T := kT_LF) (N := 5) hx hb hts kin_LF hown hK hP 0 rfl rfl 0 (by decide) (hts _ (List.mem_cons_of_mem _ kw1_165)) (fun _ h9 => h9) rfl dLF_placeInPicture_1 ?_
  refine lv_iload_n hx hb dLF_placeInPicture_4 rfl (lv_at hl 1 rfl) ?_
  refine lv_iadd hx hb dLF_placeInPicture_5 ?_
  refine lv_aload_n hx hb dLF_placeInPicture_6 rfl (lv_at hl 0 rfl) ?_
  refine va_get (D := (dC, dI)) (ci := 5) (v := .int v_LF_y) (C := kR_LF) (T := kT_LF) (N := 5) hx hb hts kin_LF hown hK hP 0 rfl rfl 1 (by decide) (hts _ (List.mem_cons_of_mem _ kw1_168)) (fun _ h9 => h9) rfl dLF_placeInPicture_7 ?_
  refine lv_iload_n hx hb dLF_placeInPicture_10 rfl (lv_at hl 2 rfl) ?_
  refine lv_iadd hx hb dLF_placeInPicture_11 ?_
  obtain ⟨z1, hc, hf⟩ := ip_b1_e hf
  refine ip_calli (va_runSN (As := [.int (v_LF_x + p1), .int (v_LF_y + p2)]) (rest := []) ⟨hx, hb, hml, hown, hts⟩ (tIP_placeOf (l := l) (dC := dC) (dI := dI) (ad := ad) (cI := cI) (ts := ts) hc H.size) ⟨va_cnB 2 hts (ip_gd kw2_185) rfl rfl rfl (hZ.2 5 _ rfl) (hts _ (List.mem_cons_of_mem _ kw1_1)) (by decide +kernel) ⟨Nat.le_of_ble_eq_true rfl, Nat.le_of_ble_eq_true rfl⟩, (hts _ (List.mem_cons_of_mem _ kw2_184)), trivial⟩ (ip_preS hK hP hD hS hA hZ [] rfl rfl) rfl rfl hl.1 rfl (lv_room (Nat.le_of_ble_eq_true rfl)) dLF_placeInPicture_12 ⟨Nat.le_of_ble_eq_true rfl, Nat.le_of_ble_eq_true rfl⟩) hP hD hS hA [] [0] [0] (wLF_placeInPicture ad cI v_LF_x v_LF_y v_LF_side v_LF_mode v_LF_skip) rfl rfl rfl (by decide) rfl rfl (fun H locs hP hD hS => ?_)
  clear hc
  cases hf
  exact hret H locs 15 ls _ dLF_placeInPicture_15 rfl hP hD hS
set_option maxHeartbeats 4000000 in
set_option maxRecDepth 100000 in
theorem tPI_modeToTheLeft {l : Launch} {dC : Nat → ClassId} {dI : Nat → Nat → Nat} {cI : ClassId} {ad : Nat → Nat} {ts : ip_TT} {v_LF_x : Int32} {v_LF_y : Int32} {v_LF_side : Int32} {v_LF_mode : Int32} {v_LF_skip : Int32} {v_PI_leaves : Int32} {v_aModes : Nat → Int32}  {r0 : Int32}  (hf : fPI_modeToTheLeft v_LF_x v_LF_y v_LF_side v_LF_mode v_LF_skip v_PI_leaves v_aModes = some r0) : ip_Mi l yPI_modeToTheLeft wsPI_modeToTheLeft rmPI_modeToTheLeft (dC, dI) vwCl [(cI, .int)] ts [.ref (ad 7)] (wPI_modeToTheLeft ad cI v_LF_x v_LF_y v_LF_side v_LF_mode v_LF_skip v_PI_leaves v_aModes) (wPI_modeToTheLeft ad cI v_LF_x v_LF_y v_LF_side v_LF_mode v_LF_skip v_PI_leaves v_aModes) r0 := by
  refine ip_startI (cc := cPI_modeToTheLeft) (maxL := 1) (by decide) rfl (Nat.le_of_ble_eq_true rfl) ?_
  intro p e s m args below meth c Q A ls hx hb hml hts hown hK hP hD hS hA hZ hl hret
  replace hl : lv_has ls 1 [(0, .ref (ad 7))] := hl
  unfold fPI_modeToTheLeft at hf
  suffices J0 : ∀ (ls : Array Slot) (H : Heap) (locs : List Loc), lv_has ls 1 [(0, .ref (ad 7))] → va_P (dC, dI) vwCl (wPI_modeToTheLeft ad cI v_LF_x v_LF_y v_LF_side v_LF_mode v_LF_skip v_PI_leaves v_aModes) H → va_D A (wPI_modeToTheLeft ad cI v_LF_x v_LF_y v_LF_side v_LF_mode v_LF_skip v_PI_leaves v_aModes) → va_S A s.heap H locs → W p l e rmPI_modeToTheLeft s m args below meth c H locs 0 0 Q (F0 m 0 ls []) by exact J0 ls s.heap [] hl hP hD hS
  clear hP hD hS hl
  intro ls H locs hl hP hD hS
  refine lv_aload_n hx hb dPI_modeToTheLeft_0 rfl (lv_at hl 0 rfl) ?_
  refine va_get (D := (dC, dI)) (ci := 7) (v := .ref (ad 5)) (C := kR_PI) (T := kT_PI) (N := 9) hx hb hts kin_PI hown hK hP 2 rfl rfl 3 (by decide) (hts _ (List.mem_cons_of_mem _ kw2_31)) (fun _ h9 => h9) rfl dPI_modeToTheLeft_1 ?_
  refine va_get (D := (dC, dI)) (ci := 5) (v := .int v_LF_x) (C := kR_LF) (T := kT_LF) (N := 5) hx hb hts kin_LF hown hK hP 0 rfl rfl 0 (by decide) (hts _ (List.mem_cons_of_mem _ kw1_166)) (fun _ h9 => h9) rfl dPI_modeToTheLeft_4 ?_
  refine ip_if_ne (tgt := 14) hx hb dPI_modeToTheLeft_7 rfl hf (fun hf => ?_) (fun hf => ?_)
  · refine lv_aload_n hx hb dPI_modeToTheLeft_14 rfl (lv_at hl 0 rfl) ?_
    refine va_get (D := (dC, dI)) (ci := 7) (v := .ref (ad 6)) (C := kR_PI) (T := kT_PI) (N := 9) hx hb hts kin_PI hown hK hP 2 rfl rfl 2 (by decide) (hts _ (List.mem_cons_of_mem _ kw2_30)) (fun _ h9 => h9) rfl dPI_modeToTheLeft_15 ?_
    refine va_get (D := (dC, dI)) (ci := 6) (v := .ref (ad 22)) (C := kR_RW) (T := kT_RW) (N := 6) hx hb hts kin_RW hown hK hP 1 rfl rfl 4 (by decide) (hts _ (List.mem_cons_of_mem _ kw1_134)) (fun _ h9 => h9) rfl dPI_modeToTheLeft_18 ?_
    refine lv_aload_n hx hb dPI_modeToTheLeft_21 rfl (lv_at hl 0 rfl) ?_
    refine va_get (D := (dC, dI)) (ci := 7) (v := .ref (ad 5)) (C := kR_PI) (T := kT_PI) (N := 9) hx hb hts kin_PI hown hK hP 2 rfl rfl 3 (by decide) (hts _ (List.mem_cons_of_mem _ kw2_31)) (fun _ h9 => h9) rfl dPI_modeToTheLeft_22 ?_
    refine lv_iconst (v := (-1 : Int32)) hx hb dPI_modeToTheLeft_25 (by decide) ?_
    refine lv_iconst (v := (0 : Int32)) hx hb dPI_modeToTheLeft_26 (by decide) ?_
    obtain ⟨z1, hc, hf⟩ := ip_b1_e hf
    refine ip_calli (va_runV (As := [.int (-1 : Int32), .int (0 : Int32)]) (rest := [.ref (ad 22)]) ⟨hx, hb, hml, hown, hts⟩ (tLF_placeInPicture (l := l) (dC := dC) (dI := dI) (ad := ad) (cI := cI) (ts := ts) hc H.size) (cwV 2 hts (ip_gdV (own := kR_PI) (idx := 152) (C := kR_LF) (y := yLF_placeInPicture) kw2_198 kw2_199 kw2_200 kw1_8 kw2_201) rfl rfl rfl (by decide +kernel) ⟨Nat.le_of_ble_eq_true rfl, Nat.le_of_ble_eq_true rfl⟩) (ip_preV hK hP hD hS hA hZ [0] rfl rfl (ci := 5) (q0 := 0) rfl rfl) rfl rfl hl.1 rfl (lv_room (Nat.le_of_ble_eq_true rfl)) dPI_modeToTheLeft_27 ⟨Nat.le_of_ble_eq_true rfl, Nat.le_of_ble_eq_true rfl⟩) hP hD hS hA [0] [1, 2, 3] [3, 0, 1, 2] (wPI_modeToTheLeft ad cI v_LF_x v_LF_y v_LF_side v_LF_mode v_LF_skip v_PI_leaves v_aModes) rfl rfl rfl (by decide) rfl rfl (fun H locs hP hD hS => ?_)
    clear hc
    refine ip_iald hx hb hK hP 3 0 rfl rfl dPI_modeToTheLeft_30 hf (fun z2 hf => ?_)
    cases hf
    exact hret H locs 31 ls _ dPI_modeToTheLeft_31 rfl hP hD hS
  · refine lv_iconst (v := (1 : Int32)) hx hb dPI_modeToTheLeft_10 (by decide) ?_
    refine lv_goto (tgt := 31) hx hb dPI_modeToTheLeft_11 rfl ?_
    cases hf
    exact hret H locs 31 ls _ dPI_modeToTheLeft_31 rfl hP hD hS
set_option maxHeartbeats 4000000 in
set_option maxRecDepth 100000 in
theorem tBD_freeBits {l : Launch} {dC : Nat → ClassId} {dI : Nat → Nat → Nat} {cI : ClassId} {ad : Nat → Nat} {ts : ip_TT} {v_RB_place : Int32} {v_RB_end : Int32} {v_BD_range : Int32} {v_BD_value : Int32} {v_aChosen : Nat → Int32} {v_aCounts : Nat → Int32} {p1 : Int32} {r0 : Int32} {nv_RB_place : Int32} {nv_BD_value : Int32} {nv_aCounts : Nat → Int32} (hf : fBD_freeBits v_RB_place v_RB_end v_BD_range v_BD_value v_aChosen v_aCounts p1 = some (r0, nv_RB_place, nv_BD_value, nv_aCounts)) : ip_Mi l yBD_freeBits wsBD_freeBits rmBD_freeBits (dC, dI) vwCl [(cI, .int)] ts [.ref (ad 4), .int p1] (wBD_freeBits ad cI v_RB_place v_RB_end v_BD_range v_BD_value v_aChosen v_aCounts) (wBD_freeBits ad cI nv_RB_place v_RB_end v_BD_range nv_BD_value v_aChosen nv_aCounts) r0 := by
  refine ip_startI (cc := cBD_freeBits) (maxL := 5) (by decide) rfl (Nat.le_of_ble_eq_true rfl) ?_
  intro p e s m args below meth c Q A ls hx hb hml hts hown hK hP hD hS hA hZ hl hret
  replace hl : lv_has ls 5 [(0, .ref (ad 4)), (1, .int p1)] := hl
  unfold fBD_freeBits at hf
  suffices J0 : ∀ (ls : Array Slot) (H : Heap) (locs : List Loc), lv_has ls 5 [(0, .ref (ad 4)), (1, .int p1)] → va_P (dC, dI) vwCl (wBD_freeBits ad cI v_RB_place v_RB_end v_BD_range v_BD_value v_aChosen v_aCounts) H → va_D A (wBD_freeBits ad cI v_RB_place v_RB_end v_BD_range v_BD_value v_aChosen v_aCounts) → va_S A s.heap H locs → W p l e rmBD_freeBits s m args below meth c H locs 0 0 Q (F0 m 0 ls []) by exact J0 ls s.heap [] hl hP hD hS
  clear hP hD hS hl
  intro ls H locs hl hP hD hS
  refine lv_iconst (v := (0 : Int32)) hx hb dBD_freeBits_0 (by decide) ?_
  refine lv_istore_n (lv' := [(2, .int (0 : Int32)), (0, .ref (ad 4)), (1, .int p1)]) hx hb dBD_freeBits_1 rfl hl (by decide) rfl (fun ls hl => ?_)
  refine lv_iconst (v := (0 : Int32)) hx hb dBD_freeBits_2 (by decide) ?_
  refine lv_istore_n (lv' := [(3, .int (0 : Int32)), (2, .int (0 : Int32)), (0, .ref (ad 4)), (1, .int p1)]) hx hb dBD_freeBits_3 rfl hl (by decide) rfl (fun ls hl => ?_)
  replace hl := lv_sub hl (l' := [(0, .ref (ad 4)), (1, .int p1), (2, .int (0 : Int32)), (3, .int (0 : Int32))]) [2, 3, 1, 0] rfl
  obtain ⟨x5, x6, x7, x8, hL, hf⟩ := ip_b4_e hf
  suffices J74 : ∀ (ls : Array Slot) (H : Heap) (locs : List Loc), lv_has ls 5 [(0, .ref (ad 4)), (1, .int p1), (2, .int x5)] → va_P (dC, dI) vwCl (wBD_freeBits ad cI x7 v_RB_end v_BD_range x8 v_aChosen v_aCounts) H → va_D A (wBD_freeBits ad cI x7 v_RB_end v_BD_range x8 v_aChosen v_aCounts) → va_S A s.heap H locs → W p l e rmBD_freeBits s m args below meth c H locs 0 0 Q (F0 m 74 ls []) by
    have L : ∀ (n : Nat) (z1 : Int32) (z2 : Int32) (z3 : Int32) (z4 : Int32), ip_lp4 (fBD_freeBits_B4 v_RB_end v_BD_range v_aChosen p1) n z1 z2 z3 z4 = some (x5, x6, x7, x8) → ∀ (ls : Array Slot) (H : Heap) (locs : List Loc), lv_has ls 5 [(0, .ref (ad 4)), (1, .int p1), (2, .int z1), (3, .int z2)] → va_P (dC, dI) vwCl (wBD_freeBits ad cI z3 v_RB_end v_BD_range z4 v_aChosen v_aCounts) H → va_D A (wBD_freeBits ad cI z3 v_RB_end v_BD_range z4 v_aChosen v_aCounts) → va_S A s.heap H locs → W p l e rmBD_freeBits s m args below meth c H locs 0 0 Q (F0 m 4 ls []) := by
      intro n
      induction n with
      | zero => intro z1 z2 z3 z4 hL; exact (ip_lp4_0 hL).elim
      | succ n ih =>
        intro z1 z2 z3 z4 hL ls H locs hl hP hD hS
        clear hf
        obtain ⟨r9, hf, hr4⟩ := ip_lp4_s hL
        clear hL
        unfold fBD_freeBits_B4 at hf
        refine lv_iload_n hx hb dBD_freeBits_4 rfl (lv_at hl 3 rfl) ?_
        refine lv_iload_n hx hb dBD_freeBits_5 rfl (lv_at hl 1 rfl) ?_
        refine ip_icmp_ge (tgt := 74) hx hb dBD_freeBits_6 rfl hf (fun hf => ?_) (fun hf => ?_)
        · have hx9 := ip_lp_x hr4 hf
          replace hl := lv_sub hl (l' := [(0, .ref (ad 4)), (1, .int p1), (2, .int z1)]) [0, 1, 2] rfl
          cases hx9
          exact J74 ls H locs hl hP hD hS
        · refine lv_aload_n hx hb dBD_freeBits_9 rfl (lv_at hl 0 rfl) ?_
          refine lv_iconst (v := (2 : Int32)) hx hb dBD_freeBits_10 (by decide) ?_
          refine lv_aload_n hx hb dBD_freeBits_11 rfl (lv_at hl 0 rfl) ?_
          refine va_get (D := (dC, dI)) (ci := 4) (v := .int z4) (C := kR_BD) (T := kT_BD) (N := 5) hx hb hts kin_BD hown hK hP 1 rfl rfl 4 (by decide) (hts _ (List.mem_cons_of_mem _ kw1_101)) (fun _ h9 => h9) rfl dBD_freeBits_12 ?_
          refine lv_imul hx hb dBD_freeBits_15 ?_
          refine lv_aload_n hx hb dBD_freeBits_16 rfl (lv_at hl 0 rfl) ?_
          refine va_get (D := (dC, dI)) (ci := 4) (v := .ref (ad 2)) (C := kR_BD) (T := kT_BD) (N := 5) hx hb hts kin_BD hown hK hP 1 rfl rfl 0 (by decide) (hts _ (List.mem_cons_of_mem _ kw1_95)) (fun _ h9 => h9) rfl dBD_freeBits_17 ?_
          obtain ⟨z9, z10, hc, hf⟩ := ip_b2_e hf
          refine ip_calli (va_runV (As := []) (rest := [.int ((2 : Int32) * z4), .ref (ad 4)]) ⟨hx, hb, hml, hown, hts⟩ (tRB_next (l := l) (dC := dC) (dI := dI) (ad := ad) (cI := cI) (ts := ts) hc H.size) (cwV 0 hts (ip_gdV (own := kR_BD) (idx := 33) (C := kR_RB) (y := yRB_next) kw2_175 kw2_151 kw2_152 kw1_3 kw2_153) rfl rfl rfl (by decide +kernel) ⟨Nat.le_of_ble_eq_true rfl, Nat.le_of_ble_eq_true rfl⟩) (ip_preV hK hP hD hS hA hZ [0, 2] rfl rfl (ci := 2) (q0 := 0) rfl rfl) rfl rfl hl.1 rfl (lv_room (Nat.le_of_ble_eq_true rfl)) dBD_freeBits_20 ⟨Nat.le_of_ble_eq_true rfl, Nat.le_of_ble_eq_true rfl⟩) hP hD hS hA [0, 2] [1, 3] [2, 0, 3, 1] (wBD_freeBits ad cI z10 v_RB_end v_BD_range z4 v_aChosen v_aCounts) rfl rfl rfl (by decide) rfl rfl (fun H locs hP hD hS => ?_)
          clear hc
          refine lv_iadd hx hb dBD_freeBits_23 ?_
          refine ip_top hf (fun z11 hf => ?_)
          refine va_put (D := (dC, dI)) (ci := 4) (v := .int z11) (ty := .int) (C := kR_BD) (T := kT_BD) (N := 5) hx hb hts kin_BD kty_BD kto_BD knm_BD hown hK hP hD hS 1 rfl rfl 4 (by decide) (hts _ (List.mem_cons_of_mem _ kw1_101)) (fun _ h9 => h9) rfl (by decide +kernel) rfl rfl (Nat.le_of_ble_eq_true rfl) dBD_freeBits_24 (fun H locs hP hD hS => ?_)
          replace hP : va_P (dC, dI) vwCl (wBD_freeBits ad cI z10 v_RB_end v_BD_range z11 v_aChosen v_aCounts) H := hP
          replace hD : va_D A (wBD_freeBits ad cI z10 v_RB_end v_BD_range z11 v_aChosen v_aCounts) := hD
          refine lv_aload_n hx hb dBD_freeBits_27 rfl (lv_at hl 0 rfl) ?_
          refine va_get (D := (dC, dI)) (ci := 4) (v := .int z11) (C := kR_BD) (T := kT_BD) (N := 5) hx hb hts kin_BD hown hK hP 1 rfl rfl 4 (by decide) (hts _ (List.mem_cons_of_mem _ kw1_101)) (fun _ h9 => h9) rfl dBD_freeBits_28 ?_
          refine lv_aload_n hx hb dBD_freeBits_31 rfl (lv_at hl 0 rfl) ?_
          refine va_get (D := (dC, dI)) (ci := 4) (v := .int v_BD_range) (C := kR_BD) (T := kT_BD) (N := 5) hx hb hts kin_BD hown hK hP 1 rfl rfl 3 (by decide) (hts _ (List.mem_cons_of_mem _ kw1_100)) (fun _ h9 => h9) rfl dBD_freeBits_32 ?_
          obtain ⟨z12, hh, hf⟩ := ip_b1_e hf
          suffices J43 : ∀ (ls : Array Slot) (H : Heap) (locs : List Loc), lv_has ls 5 [(0, .ref (ad 4)), (1, .int p1), (2, .int z1), (3, .int z2)] → va_P (dC, dI) vwCl (wBD_freeBits ad cI z10 v_RB_end v_BD_range z11 v_aChosen v_aCounts) H → va_D A (wBD_freeBits ad cI z10 v_RB_end v_BD_range z11 v_aChosen v_aCounts) → va_S A s.heap H locs → W p l e rmBD_freeBits s m args below meth c H locs 0 0 Q (F0 m 43 ls [.int z12]) by
            replace hf := hh
            refine ip_icmp_lt (tgt := 42) hx hb dBD_freeBits_35 rfl hf (fun hf => ?_) (fun hf => ?_)
            · refine lv_iconst (v := (0 : Int32)) hx hb dBD_freeBits_42 (by decide) ?_
              cases hf
              exact J43 ls H locs hl hP hD hS
            · refine lv_iconst (v := (1 : Int32)) hx hb dBD_freeBits_38 (by decide) ?_
              refine lv_goto (tgt := 43) hx hb dBD_freeBits_39 rfl ?_
              cases hf
              exact J43 ls H locs hl hP hD hS
          intro ls H locs hl hP hD hS
          clear hh
          refine lv_istore (lv' := [(4, .int z12), (0, .ref (ad 4)), (1, .int p1), (2, .int z1), (3, .int z2)]) hx hb dBD_freeBits_43 hl (by decide) rfl (fun ls hl => ?_)
          refine lv_aload_n hx hb dBD_freeBits_45 rfl (lv_at hl 1 rfl) ?_
          refine lv_dup hx hb dBD_freeBits_46 rfl ?_
          refine va_get (D := (dC, dI)) (ci := 4) (v := .int z11) (C := kR_BD) (T := kT_BD) (N := 5) hx hb hts kin_BD hown hK hP 1 rfl rfl 4 (by decide) (hts _ (List.mem_cons_of_mem _ kw1_101)) (fun _ h9 => h9) rfl dBD_freeBits_47 ?_
          refine lv_iload hx hb dBD_freeBits_50 (lv_at hl 0 rfl) ?_
          refine lv_aload_n hx hb dBD_freeBits_52 rfl (lv_at hl 1 rfl) ?_
          refine va_get (D := (dC, dI)) (ci := 4) (v := .int v_BD_range) (C := kR_BD) (T := kT_BD) (N := 5) hx hb hts kin_BD hown hK hP 1 rfl rfl 3 (by decide) (hts _ (List.mem_cons_of_mem _ kw1_100)) (fun _ h9 => h9) rfl dBD_freeBits_53 ?_
          refine lv_imul hx hb dBD_freeBits_56 ?_
          refine lv_isub hx hb dBD_freeBits_57 ?_
          refine ip_top hf (fun z13 hf => ?_)
          refine va_put (D := (dC, dI)) (ci := 4) (v := .int z13) (ty := .int) (C := kR_BD) (T := kT_BD) (N := 5) hx hb hts kin_BD kty_BD kto_BD knm_BD hown hK hP hD hS 1 rfl rfl 4 (by decide) (hts _ (List.mem_cons_of_mem _ kw1_101)) (fun _ h9 => h9) rfl (by decide +kernel) rfl rfl (Nat.le_of_ble_eq_true rfl) dBD_freeBits_58 (fun H locs hP hD hS => ?_)
          replace hP : va_P (dC, dI) vwCl (wBD_freeBits ad cI z10 v_RB_end v_BD_range z13 v_aChosen v_aCounts) H := hP
          replace hD : va_D A (wBD_freeBits ad cI z10 v_RB_end v_BD_range z13 v_aChosen v_aCounts) := hD
          refine lv_iconst (v := (2 : Int32)) hx hb dBD_freeBits_61 (by decide) ?_
          refine lv_iload_n hx hb dBD_freeBits_62 rfl (lv_at hl 3 rfl) ?_
          refine lv_imul hx hb dBD_freeBits_63 ?_
          refine lv_iload hx hb dBD_freeBits_64 (lv_at hl 0 rfl) ?_
          refine lv_iadd hx hb dBD_freeBits_66 ?_
          refine ip_top hf (fun z14 hf => ?_)
          refine lv_istore_n (lv' := [(2, .int z14), (4, .int z12), (0, .ref (ad 4)), (1, .int p1), (3, .int z2)]) hx hb dBD_freeBits_67 rfl hl (by decide) rfl (fun ls hl => ?_)
          refine ip_iinc (k0 := 4) (v0 := (1 : Int32)) (lv1 := fun z15 => [(3, .int z15), (2, .int z14), (4, .int z12), (0, .ref (ad 4)), (1, .int p1)]) hx hb dBD_freeBits_68 hl rfl (by decide) (by decide) (fun _ => rfl) hf (fun z15 ls hf hl => ?_)
          refine lv_goto (tgt := 4) hx hb dBD_freeBits_71 rfl ?_
          replace hl := lv_sub hl (l' := [(0, .ref (ad 4)), (1, .int p1), (2, .int z14), (3, .int z15)]) [3, 4, 1, 0] rfl
          exact ih _ _ _ _ (ip_lp4_l hr4 hf) ls H locs hl hP hD hS
    exact L 1000 _ _ _ _ hL ls H locs hl hP hD hS
  intro ls H locs hl hP hD hS
  clear hL
  refine lv_aload_n hx hb dBD_freeBits_74 rfl (lv_at hl 0 rfl) ?_
  refine va_get (D := (dC, dI)) (ci := 4) (v := .ref (ad 17)) (C := kR_BD) (T := kT_BD) (N := 5) hx hb hts kin_BD hown hK hP 1 rfl rfl 2 (by decide) (hts _ (List.mem_cons_of_mem _ kw1_98)) (fun _ h9 => h9) rfl dBD_freeBits_75 ?_
  refine lv_iconst (v := (1 : Int32)) hx hb dBD_freeBits_78 (by decide) ?_
  refine lv_dup2_11 hx hb dBD_freeBits_79 rfl rfl ?_
  refine ip_iald hx hb hK hP 3 0 rfl rfl dBD_freeBits_80 hf (fun z16 hf => ?_)
  refine lv_iload_n hx hb dBD_freeBits_81 rfl (lv_at hl 1 rfl) ?_
  refine lv_iadd hx hb dBD_freeBits_82 ?_
  refine ip_iast hx hb hK hP hD hS 3 0 rfl rfl (fun g17 => (wBD_freeBits ad cI x7 v_RB_end v_BD_range x8 v_aChosen g17)) (fun _ => rfl) dBD_freeBits_83 hf (fun g17 H locs hf hP hD hS => ?_)
  refine lv_iload_n hx hb dBD_freeBits_84 rfl (lv_at hl 2 rfl) ?_
  cases hf
  exact hret H locs 85 ls _ dBD_freeBits_85 rfl hP hD hS
