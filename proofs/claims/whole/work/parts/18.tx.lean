set_option maxHeartbeats 4000000 in
set_option maxRecDepth 100000 in
theorem tPI_readUnit {l : Launch} {dC : Nat → ClassId} {dI : Nat → Nat → Nat} {cI : ClassId} {ad : Nat → Nat} {t0 t1 t2 t3 : Nat} {v_RB_place : Int32} {v_RB_end : Int32} {v_BD_range : Int32} {v_BD_value : Int32} {v_LF_x : Int32} {v_LF_y : Int32} {v_LF_side : Int32} {v_LF_mode : Int32} {v_LF_skip : Int32} {v_PI_leaves : Int32} {v_LR_first : Int32} {v_LR_last : Int32} {v_LR_sum : Int32} {v_PR_side : Int32} {v_aChosen : Nat → Int32} {v_aValues : Nat → Int32} {v_aChances : Nat → Int32} {v_aCounts : Nat → Int32} {v_aSamples : Nat → Int32} {v_aPlain : Nat → Int32} {v_aPredicted : Nat → Int32} {v_aLevels : Nat → Int32} {v_aModes : Nat → Int32} {v_aSides : Nat → Int32} {v_aGroup : Nat → Int32} {v_aCoef : Nat → Int32} {v_aBetween : Nat → Int32} {v_aResult : Nat → Int32} {v_aRefs : Nat → Int32} {v_aUnsm : Nat → Int32} {v_aBefore : Nat → Int32}  {nv_RB_place : Int32} {nv_BD_range : Int32} {nv_BD_value : Int32} {nv_LF_x : Int32} {nv_LF_y : Int32} {nv_LF_side : Int32} {nv_LF_mode : Int32} {nv_LF_skip : Int32} {nv_PI_leaves : Int32} {nv_LR_first : Int32} {nv_LR_last : Int32} {nv_LR_sum : Int32} {nv_PR_side : Int32} {nv_aChances : Nat → Int32} {nv_aCounts : Nat → Int32} {nv_aSamples : Nat → Int32} {nv_aPlain : Nat → Int32} {nv_aPredicted : Nat → Int32} {nv_aLevels : Nat → Int32} {nv_aModes : Nat → Int32} {nv_aSides : Nat → Int32} {nv_aGroup : Nat → Int32} {nv_aCoef : Nat → Int32} {nv_aBetween : Nat → Int32} {nv_aResult : Nat → Int32} {nv_aRefs : Nat → Int32} {nv_aUnsm : Nat → Int32} {nv_aBefore : Nat → Int32} (hf : fPI_readUnit v_RB_place v_RB_end v_BD_range v_BD_value v_LF_x v_LF_y v_LF_side v_LF_mode v_LF_skip v_PI_leaves v_LR_first v_LR_last v_LR_sum v_PR_side v_aChosen v_aValues v_aChances v_aCounts v_aSamples v_aPlain v_aPredicted v_aLevels v_aModes v_aSides v_aGroup v_aCoef v_aBetween v_aResult v_aRefs v_aUnsm v_aBefore = some (nv_RB_place, nv_BD_range, nv_BD_value, nv_LF_x, nv_LF_y, nv_LF_side, nv_LF_mode, nv_LF_skip, nv_PI_leaves, nv_LR_first, nv_LR_last, nv_LR_sum, nv_PR_side, nv_aChances, nv_aCounts, nv_aSamples, nv_aPlain, nv_aPredicted, nv_aLevels, nv_aModes, nv_aSides, nv_aGroup, nv_aCoef, nv_aBetween, nv_aResult, nv_aRefs, nv_aUnsm, nv_aBefore)) : ip_Mv l yPI_readUnit wsPI_readUnit rmPI_readUnit (dC, dI) vwCl [(cI, .int)] (ip_TS t0 t1 t2 t3) [.ref (ad 7)] (wPI_readUnit ad cI v_RB_place v_RB_end v_BD_range v_BD_value v_LF_x v_LF_y v_LF_side v_LF_mode v_LF_skip v_PI_leaves v_LR_first v_LR_last v_LR_sum v_PR_side v_aChosen v_aValues v_aChances v_aCounts v_aSamples v_aPlain v_aPredicted v_aLevels v_aModes v_aSides v_aGroup v_aCoef v_aBetween v_aResult v_aRefs v_aUnsm v_aBefore) (wPI_readUnit ad cI nv_RB_place v_RB_end nv_BD_range nv_BD_value nv_LF_x nv_LF_y nv_LF_side nv_LF_mode nv_LF_skip nv_PI_leaves nv_LR_first nv_LR_last nv_LR_sum nv_PR_side v_aChosen v_aValues nv_aChances nv_aCounts nv_aSamples nv_aPlain nv_aPredicted nv_aLevels nv_aModes nv_aSides nv_aGroup nv_aCoef nv_aBetween nv_aResult nv_aRefs nv_aUnsm nv_aBefore) := by
  refine ip_startV (cc := cPI_readUnit) (maxL := 7) (by decide) rfl (Nat.le_of_ble_eq_true rfl) ?_
  intro p e s m args below meth c Q A ls hx hb hml hts hown hK hP hD hS hA hZ hl hret
  replace hl : lv_has ls 7 [(0, .ref (ad 7))] := hl
  unfold fPI_readUnit at hf
  suffices J0 : ∀ (ls : Array Slot) (H : Heap) (locs : List Loc), lv_has ls 7 [(0, .ref (ad 7))] → va_P (dC, dI) vwCl (wPI_readUnit ad cI v_RB_place v_RB_end v_BD_range v_BD_value v_LF_x v_LF_y v_LF_side v_LF_mode v_LF_skip v_PI_leaves v_LR_first v_LR_last v_LR_sum v_PR_side v_aChosen v_aValues v_aChances v_aCounts v_aSamples v_aPlain v_aPredicted v_aLevels v_aModes v_aSides v_aGroup v_aCoef v_aBetween v_aResult v_aRefs v_aUnsm v_aBefore) H → va_D A (wPI_readUnit ad cI v_RB_place v_RB_end v_BD_range v_BD_value v_LF_x v_LF_y v_LF_side v_LF_mode v_LF_skip v_PI_leaves v_LR_first v_LR_last v_LR_sum v_PR_side v_aChosen v_aValues v_aChances v_aCounts v_aSamples v_aPlain v_aPredicted v_aLevels v_aModes v_aSides v_aGroup v_aCoef v_aBetween v_aResult v_aRefs v_aUnsm v_aBefore) → va_S A s.heap H locs → W p l e rmPI_readUnit s m args below meth c H locs 0 0 Q (F0 m 0 ls []) by exact J0 ls s.heap [] hl hP hD hS
  clear hP hD hS hl
  intro ls H locs hl hP hD hS
  refine lv_aload_n hx hb dPI_readUnit_0 rfl (lv_at hl 0 rfl) ?_
  refine lv_iconst (v := (0 : Int32)) hx hb dPI_readUnit_1 (by decide) ?_
  refine va_put (D := (dC, dI)) (ci := 7) (v := .int (0 : Int32)) (ty := .int) (C := kR_PI) (T := kT_PI) (N := 9) hx hb hts kin_PI kty_PI kto_PI knm_PI hown hK hP hD hS 4 rfl rfl 8 (by decide) (hts _ (List.mem_cons_of_mem _ kw2_36)) (fun _ h9 => h9) rfl (by decide +kernel) rfl rfl (Nat.le_of_ble_eq_true rfl) dPI_readUnit_2 (fun H locs hP hD hS => ?_)
  replace hP : va_P (dC, dI) vwCl (wPI_readUnit ad cI v_RB_place v_RB_end v_BD_range v_BD_value v_LF_x v_LF_y v_LF_side v_LF_mode v_LF_skip (0 : Int32) v_LR_first v_LR_last v_LR_sum v_PR_side v_aChosen v_aValues v_aChances v_aCounts v_aSamples v_aPlain v_aPredicted v_aLevels v_aModes v_aSides v_aGroup v_aCoef v_aBetween v_aResult v_aRefs v_aUnsm v_aBefore) H := hP
  replace hD : va_D A (wPI_readUnit ad cI v_RB_place v_RB_end v_BD_range v_BD_value v_LF_x v_LF_y v_LF_side v_LF_mode v_LF_skip (0 : Int32) v_LR_first v_LR_last v_LR_sum v_PR_side v_aChosen v_aValues v_aChances v_aCounts v_aSamples v_aPlain v_aPredicted v_aLevels v_aModes v_aSides v_aGroup v_aCoef v_aBetween v_aResult v_aRefs v_aUnsm v_aBefore) := hD
  refine lv_aload_n hx hb dPI_readUnit_5 rfl (lv_at hl 0 rfl) ?_
  refine va_get (D := (dC, dI)) (ci := 7) (v := .ref (ad 6)) (C := kR_PI) (T := kT_PI) (N := 9) hx hb hts kin_PI hown hK hP 4 rfl rfl 2 (by decide) (hts _ (List.mem_cons_of_mem _ kw2_30)) (fun _ h9 => h9) rfl dPI_readUnit_6 ?_
  refine va_get (D := (dC, dI)) (ci := 6) (v := .ref (ad 23)) (C := kR_RW) (T := kT_RW) (N := 6) hx hb hts kin_RW hown hK hP 3 rfl rfl 5 (by decide) (hts _ (List.mem_cons_of_mem _ kw1_137)) (fun _ h9 => h9) rfl dPI_readUnit_9 ?_
  refine lv_iconst (v := (0 : Int32)) hx hb dPI_readUnit_12 (by decide) ?_
  obtain ⟨g1, hc, hf⟩ := ip_b1_e hf
  refine ip_callv (va_runS (As := [.ref (ad 23), .int (0 : Int32)]) (rest := []) ⟨hx, hb, hml, hown, hts⟩ (tAR_fill256 (l := l) (dC := dC) (dI := dI) (ad := ad) (cI := cI) (ts := (ip_TS t0 t1 t2 t3)) (bF256 := ad 23) hc H.size) (va_cwS 2 hts (ip_gdS (own := kR_PI) (idx := 79) (y := yAR_fill) kw2_169 kw2_132 kw1_14 kw2_133) rfl rfl rfl (by decide +kernel) ⟨Nat.le_of_ble_eq_true rfl, Nat.le_of_ble_eq_true rfl⟩) (ip_preS hK hP hD hS hA hZ [18] rfl rfl) rfl rfl hl.1 rfl (lv_room (Nat.le_of_ble_eq_true rfl)) dPI_readUnit_13 ⟨Nat.le_of_ble_eq_true rfl, Nat.le_of_ble_eq_true rfl⟩) hP hD hS hA [18] [0, 1, 2, 3, 4, 5, 6, 7, 8, 9, 10, 11, 12, 13, 14, 15, 16, 17, 19, 20, 21, 22, 23, 24, 25] [0, 1, 2, 3, 4, 5, 6, 7, 8, 9, 10, 11, 12, 13, 14, 15, 16, 17, 25, 18, 19, 20, 21, 22, 23, 24] (wPI_readUnit ad cI v_RB_place v_RB_end v_BD_range v_BD_value v_LF_x v_LF_y v_LF_side v_LF_mode v_LF_skip (0 : Int32) v_LR_first v_LR_last v_LR_sum v_PR_side v_aChosen v_aValues v_aChances v_aCounts v_aSamples v_aPlain v_aPredicted v_aLevels v_aModes g1 v_aGroup v_aCoef v_aBetween v_aResult v_aRefs v_aUnsm v_aBefore) rfl rfl rfl (by decide) rfl rfl (fun H locs hP hD hS => ?_)
  clear hc
  refine lv_aload_n hx hb dPI_readUnit_16 rfl (lv_at hl 0 rfl) ?_
  refine va_get (D := (dC, dI)) (ci := 7) (v := .ref (ad 4)) (C := kR_PI) (T := kT_PI) (N := 9) hx hb hts kin_PI hown hK hP 4 rfl rfl 0 (by decide) (hts _ (List.mem_cons_of_mem _ kw2_28)) (fun _ h9 => h9) rfl dPI_readUnit_17 ?_
  obtain ⟨z2, z3, z4, g5, g6, hc, hf⟩ := ip_b5_e hf
  refine ip_callv (va_runV (As := []) (rest := []) ⟨hx, hb, hml, hown, hts⟩ (tBD_begin (l := l) (dC := dC) (dI := dI) (ad := ad) (cI := cI) (ts := (ip_TS t0 t1 t2 t3)) hc H.size) (cwV 0 hts (ip_gdV (own := kR_PI) (idx := 85) (C := kR_BD) (y := yBD_begin) kw2_170 kw2_171 kw2_172 kw1_5 kw2_173) rfl rfl rfl (by decide +kernel) ⟨Nat.le_of_ble_eq_true rfl, Nat.le_of_ble_eq_true rfl⟩) (ip_preV hK hP hD hS hA hZ [0, 1, 9, 11, 12] rfl rfl (ci := 4) (q0 := 1) rfl rfl) rfl rfl hl.1 rfl (lv_room (Nat.le_of_ble_eq_true rfl)) dPI_readUnit_20 ⟨Nat.le_of_ble_eq_true rfl, Nat.le_of_ble_eq_true rfl⟩) hP hD hS hA [0, 1, 9, 11, 12] [2, 3, 4, 5, 6, 7, 8, 10, 13, 14, 15, 16, 17, 18, 19, 20, 21, 22, 23, 24, 25] [21, 22, 0, 1, 2, 3, 4, 5, 6, 23, 7, 24, 25, 8, 9, 10, 11, 12, 13, 14, 15, 16, 17, 18, 19, 20] (wPI_readUnit ad cI z2 v_RB_end z3 z4 v_LF_x v_LF_y v_LF_side v_LF_mode v_LF_skip (0 : Int32) v_LR_first v_LR_last v_LR_sum v_PR_side v_aChosen v_aValues g5 g6 v_aSamples v_aPlain v_aPredicted v_aLevels v_aModes g1 v_aGroup v_aCoef v_aBetween v_aResult v_aRefs v_aUnsm v_aBefore) rfl rfl rfl (by decide) rfl rfl (fun H locs hP hD hS => ?_)
  clear hc
  refine lv_iconst (v := (0 : Int32)) hx hb dPI_readUnit_23 (by decide) ?_
  refine lv_istore_n (lv' := [(1, .int (0 : Int32)), (0, .ref (ad 7))]) hx hb dPI_readUnit_24 rfl hl (by decide) rfl (fun ls hl => ?_)
  replace hl := lv_sub hl (l' := [(0, .ref (ad 7)), (1, .int (0 : Int32))]) [1, 0] rfl
  obtain ⟨x34, x35, x36, x37, x38, x39, x40, x41, x42, x43, x44, x45, x46, x47, y48, y49, y50, y51, y52, y53, y54, y55, y56, y57, y58, y59, y60, hL, hf⟩ := ip_b27_e hf
  suffices J211 : ∀ (ls : Array Slot) (H : Heap) (locs : List Loc), lv_has ls 7 [(0, .ref (ad 7))] → va_P (dC, dI) vwCl (wPI_readUnit ad cI x35 v_RB_end x36 x37 x38 x39 x40 x41 x42 x43 x44 x45 x46 x47 v_aChosen v_aValues y48 y49 v_aSamples y50 y51 y52 y53 y54 y55 y56 y57 y58 y59 y60 v_aBefore) H → va_D A (wPI_readUnit ad cI x35 v_RB_end x36 x37 x38 x39 x40 x41 x42 x43 x44 x45 x46 x47 v_aChosen v_aValues y48 y49 v_aSamples y50 y51 y52 y53 y54 y55 y56 y57 y58 y59 y60 v_aBefore) → va_S A s.heap H locs → W p l e rmPI_readUnit s m args below meth c H locs 0 0 Q (F0 m 211 ls []) by
    have L : ∀ (n : Nat) (z7 : Int32) (z8 : Int32) (z9 : Int32) (z10 : Int32) (z11 : Int32) (z12 : Int32) (z13 : Int32) (z14 : Int32) (z15 : Int32) (z16 : Int32) (z17 : Int32) (z18 : Int32) (z19 : Int32) (z20 : Int32) (g21 : Nat → Int32) (g22 : Nat → Int32) (g23 : Nat → Int32) (g24 : Nat → Int32) (g25 : Nat → Int32) (g26 : Nat → Int32) (g27 : Nat → Int32) (g28 : Nat → Int32) (g29 : Nat → Int32) (g30 : Nat → Int32) (g31 : Nat → Int32) (g32 : Nat → Int32) (g33 : Nat → Int32), ip_lp27 (fPI_readUnit_B25 v_RB_end v_aChosen v_aValues) n z7 z8 z9 z10 z11 z12 z13 z14 z15 z16 z17 z18 z19 z20 g21 g22 g23 g24 g25 g26 g27 g28 g29 g30 g31 g32 g33 = some (x34, x35, x36, x37, x38, x39, x40, x41, x42, x43, x44, x45, x46, x47, y48, y49, y50, y51, y52, y53, y54, y55, y56, y57, y58, y59, y60) → ∀ (ls : Array Slot) (H : Heap) (locs : List Loc), lv_has ls 7 [(0, .ref (ad 7)), (1, .int z7)] → va_P (dC, dI) vwCl (wPI_readUnit ad cI z8 v_RB_end z9 z10 z11 z12 z13 z14 z15 z16 z17 z18 z19 z20 v_aChosen v_aValues g21 g22 v_aSamples g23 g24 g25 g26 g27 g28 g29 g30 g31 g32 g33 v_aBefore) H → va_D A (wPI_readUnit ad cI z8 v_RB_end z9 z10 z11 z12 z13 z14 z15 z16 z17 z18 z19 z20 v_aChosen v_aValues g21 g22 v_aSamples g23 g24 g25 g26 g27 g28 g29 g30 g31 g32 g33 v_aBefore) → va_S A s.heap H locs → W p l e rmPI_readUnit s m args below meth c H locs 0 0 Q (F0 m 25 ls []) := by
      intro n
      induction n with
      | zero => intro z7 z8 z9 z10 z11 z12 z13 z14 z15 z16 z17 z18 z19 z20 g21 g22 g23 g24 g25 g26 g27 g28 g29 g30 g31 g32 g33 hL; exact (ip_lp27_0 hL).elim
      | succ n ih =>
        intro z7 z8 z9 z10 z11 z12 z13 z14 z15 z16 z17 z18 z19 z20 g21 g22 g23 g24 g25 g26 g27 g28 g29 g30 g31 g32 g33 hL ls H locs hl hP hD hS
        clear hf
        obtain ⟨r9, hf, hr25⟩ := ip_lp27_s hL
        clear hL
        unfold fPI_readUnit_B25 at hf
        refine lv_iload_n hx hb dPI_readUnit_25 rfl (lv_at hl 1 rfl) ?_
        refine lv_iconst (v := (4 : Int32)) hx hb dPI_readUnit_26 (by decide) ?_
        refine ip_icmp_ge (tgt := 211) hx hb dPI_readUnit_27 rfl hf (fun hf => ?_) (fun hf => ?_)
        · have hx9 := ip_lp_x hr25 hf
          replace hl := lv_sub hl (l' := [(0, .ref (ad 7))]) [0] rfl
          cases hx9
          exact J211 ls H locs hl hP hD hS
        · refine lv_bipush (v := (8 : Int32)) hx hb dPI_readUnit_30 (by decide) ?_
          refine lv_iload_n hx hb dPI_readUnit_32 rfl (lv_at hl 1 rfl) ?_
          refine lv_iconst (v := (1 : Int32)) hx hb dPI_readUnit_33 (by decide) ?_
          refine lv_iand hx hb dPI_readUnit_34 ?_
          refine lv_imul hx hb dPI_readUnit_35 ?_
          refine ip_top hf (fun z61 hf => ?_)
          refine lv_istore_n (lv' := [(2, .int z61), (0, .ref (ad 7)), (1, .int z7)]) hx hb dPI_readUnit_36 rfl hl (by decide) rfl (fun ls hl => ?_)
          refine lv_bipush (v := (8 : Int32)) hx hb dPI_readUnit_37 (by decide) ?_
          refine lv_iload_n hx hb dPI_readUnit_39 rfl (lv_at hl 2 rfl) ?_
          refine lv_iconst (v := (1 : Int32)) hx hb dPI_readUnit_40 (by decide) ?_
          refine lv_ishr hx hb dPI_readUnit_41 ?_
          refine lv_imul hx hb dPI_readUnit_42 ?_
          refine ip_top hf (fun z62 hf => ?_)
          refine lv_istore_n (lv' := [(3, .int z62), (2, .int z61), (0, .ref (ad 7)), (1, .int z7)]) hx hb dPI_readUnit_43 rfl hl (by decide) rfl (fun ls hl => ?_)
          refine lv_aload_n hx hb dPI_readUnit_44 rfl (lv_at hl 2 rfl) ?_
          refine va_get (D := (dC, dI)) (ci := 7) (v := .ref (ad 4)) (C := kR_PI) (T := kT_PI) (N := 9) hx hb hts kin_PI hown hK hP 4 rfl rfl 0 (by decide) (hts _ (List.mem_cons_of_mem _ kw2_28)) (fun _ h9 => h9) rfl dPI_readUnit_45 ?_
          refine lv_aload_n hx hb dPI_readUnit_48 rfl (lv_at hl 2 rfl) ?_
          refine lv_iload_n hx hb dPI_readUnit_49 rfl (lv_at hl 1 rfl) ?_
          refine lv_iconst (v := (1 : Int32)) hx hb dPI_readUnit_50 (by decide) ?_
          refine lv_isub hx hb dPI_readUnit_51 ?_
          refine lv_iload_n hx hb dPI_readUnit_52 rfl (lv_at hl 0 rfl) ?_
          obtain ⟨z63, hc, hf⟩ := ip_b1_e hf
          refine ip_calli (va_runV (As := [.int (z61 - (1 : Int32)), .int z62]) (rest := [.ref (ad 4)]) ⟨hx, hb, hml, hown, hts⟩ (tPI_splitAt (l := l) (dC := dC) (dI := dI) (ad := ad) (cI := cI) (ts := (ip_TS t0 t1 t2 t3)) hc H.size) (cwV 2 hts (ip_gdV (own := kR_PI) (idx := 90) (C := kR_PI) (y := yPI_splitAt) kw2_176 kw2_178 kws_7 kw1_7 kw2_179) rfl rfl rfl (by decide +kernel) ⟨Nat.le_of_ble_eq_true rfl, Nat.le_of_ble_eq_true rfl⟩) (ip_preV hK hP hD hS hA hZ [3, 4, 18] rfl rfl (ci := 7) (q0 := 4) rfl rfl) rfl rfl hl.1 rfl (lv_room (Nat.le_of_ble_eq_true rfl)) dPI_readUnit_53 ⟨Nat.le_of_ble_eq_true rfl, Nat.le_of_ble_eq_true rfl⟩) hP hD hS hA [3, 4, 18] [0, 1, 2, 5, 6, 7, 8, 9, 10, 11, 12, 13, 14, 15, 16, 17, 19, 20, 21, 22, 23, 24, 25] [0, 1, 2, 23, 24, 3, 4, 5, 6, 7, 8, 9, 10, 11, 12, 13, 14, 15, 25, 16, 17, 18, 19, 20, 21, 22] (wPI_readUnit ad cI z8 v_RB_end z9 z10 z11 z12 z13 z14 z15 z16 z17 z18 z19 z20 v_aChosen v_aValues g21 g22 v_aSamples g23 g24 g25 g26 g27 g28 g29 g30 g31 g32 g33 v_aBefore) rfl rfl rfl (by decide) rfl rfl (fun H locs hP hD hS => ?_)
          clear hc
          refine lv_aload_n hx hb dPI_readUnit_56 rfl (lv_at hl 2 rfl) ?_
          refine lv_iload_n hx hb dPI_readUnit_57 rfl (lv_at hl 1 rfl) ?_
          refine lv_iload_n hx hb dPI_readUnit_58 rfl (lv_at hl 0 rfl) ?_
          refine lv_iconst (v := (1 : Int32)) hx hb dPI_readUnit_59 (by decide) ?_
          refine lv_isub hx hb dPI_readUnit_60 ?_
          obtain ⟨z64, hc, hf⟩ := ip_b1_e hf
          refine ip_calli (va_runV (As := [.int z61, .int (z62 - (1 : Int32))]) (rest := [.int z63, .ref (ad 4)]) ⟨hx, hb, hml, hown, hts⟩ (tPI_splitAt (l := l) (dC := dC) (dI := dI) (ad := ad) (cI := cI) (ts := (ip_TS t0 t1 t2 t3)) hc H.size) (cwV 2 hts (ip_gdV (own := kR_PI) (idx := 90) (C := kR_PI) (y := yPI_splitAt) kw2_176 kw2_178 kws_7 kw1_7 kw2_179) rfl rfl rfl (by decide +kernel) ⟨Nat.le_of_ble_eq_true rfl, Nat.le_of_ble_eq_true rfl⟩) (ip_preV hK hP hD hS hA hZ [3, 4, 18] rfl rfl (ci := 7) (q0 := 4) rfl rfl) rfl rfl hl.1 rfl (lv_room (Nat.le_of_ble_eq_true rfl)) dPI_readUnit_61 ⟨Nat.le_of_ble_eq_true rfl, Nat.le_of_ble_eq_true rfl⟩) hP hD hS hA [3, 4, 18] [0, 1, 2, 5, 6, 7, 8, 9, 10, 11, 12, 13, 14, 15, 16, 17, 19, 20, 21, 22, 23, 24, 25] [0, 1, 2, 23, 24, 3, 4, 5, 6, 7, 8, 9, 10, 11, 12, 13, 14, 15, 25, 16, 17, 18, 19, 20, 21, 22] (wPI_readUnit ad cI z8 v_RB_end z9 z10 z11 z12 z13 z14 z15 z16 z17 z18 z19 z20 v_aChosen v_aValues g21 g22 v_aSamples g23 g24 g25 g26 g27 g28 g29 g30 g31 g32 g33 v_aBefore) rfl rfl rfl (by decide) rfl rfl (fun H locs hP hD hS => ?_)
          clear hc
          refine lv_iadd hx hb dPI_readUnit_64 ?_
          obtain ⟨z65, z66, z67, z68, g69, g70, hc, hf⟩ := ip_b6_e hf
          refine ip_calli (va_runV (As := [.int (z63 + z64)]) (rest := []) ⟨hx, hb, hml, hown, hts⟩ (tBD_bin (l := l) (dC := dC) (dI := dI) (ad := ad) (cI := cI) (ts := (ip_TS t0 t1 t2 t3)) hc H.size) (cwV 1 hts (ip_gdV (own := kR_PI) (idx := 94) (C := kR_BD) (y := yBD_bin) kw2_186 kw2_187 kw2_188 kw1_5 kw2_189) rfl rfl rfl (by decide +kernel) ⟨Nat.le_of_ble_eq_true rfl, Nat.le_of_ble_eq_true rfl⟩) (ip_preV hK hP hD hS hA hZ [0, 1, 9, 11, 12] rfl rfl (ci := 4) (q0 := 1) rfl rfl) rfl rfl hl.1 rfl (lv_room (Nat.le_of_ble_eq_true rfl)) dPI_readUnit_65 ⟨Nat.le_of_ble_eq_true rfl, Nat.le_of_ble_eq_true rfl⟩) hP hD hS hA [0, 1, 9, 11, 12] [2, 3, 4, 5, 6, 7, 8, 10, 13, 14, 15, 16, 17, 18, 19, 20, 21, 22, 23, 24, 25] [21, 22, 0, 1, 2, 3, 4, 5, 6, 23, 7, 24, 25, 8, 9, 10, 11, 12, 13, 14, 15, 16, 17, 18, 19, 20] (wPI_readUnit ad cI z66 v_RB_end z67 z68 z11 z12 z13 z14 z15 z16 z17 z18 z19 z20 v_aChosen v_aValues g69 g70 v_aSamples g23 g24 g25 g26 g27 g28 g29 g30 g31 g32 g33 v_aBefore) rfl rfl rfl (by decide) rfl rfl (fun H locs hP hD hS => ?_)
          clear hc
          refine lv_iconst (v := (1 : Int32)) hx hb dPI_readUnit_68 (by decide) ?_
          obtain ⟨z71, hh, hf⟩ := ip_b1_e hf
          suffices J77 : ∀ (ls : Array Slot) (H : Heap) (locs : List Loc), lv_has ls 7 [(0, .ref (ad 7)), (1, .int z7), (2, .int z61), (3, .int z62)] → va_P (dC, dI) vwCl (wPI_readUnit ad cI z66 v_RB_end z67 z68 z11 z12 z13 z14 z15 z16 z17 z18 z19 z20 v_aChosen v_aValues g69 g70 v_aSamples g23 g24 g25 g26 g27 g28 g29 g30 g31 g32 g33 v_aBefore) H → va_D A (wPI_readUnit ad cI z66 v_RB_end z67 z68 z11 z12 z13 z14 z15 z16 z17 z18 z19 z20 v_aChosen v_aValues g69 g70 v_aSamples g23 g24 g25 g26 g27 g28 g29 g30 g31 g32 g33 v_aBefore) → va_S A s.heap H locs → W p l e rmPI_readUnit s m args below meth c H locs 0 0 Q (F0 m 77 ls [.int z71]) by
            replace hf := hh
            refine ip_icmp_ne (tgt := 76) hx hb dPI_readUnit_69 rfl hf (fun hf => ?_) (fun hf => ?_)
            · refine lv_iconst (v := (0 : Int32)) hx hb dPI_readUnit_76 (by decide) ?_
              replace hl := lv_sub hl (l' := [(0, .ref (ad 7)), (1, .int z7), (2, .int z61), (3, .int z62)]) [2, 3, 1, 0] rfl
              cases hf
              exact J77 ls H locs hl hP hD hS
            · refine lv_iconst (v := (1 : Int32)) hx hb dPI_readUnit_72 (by decide) ?_
              refine lv_goto (tgt := 77) hx hb dPI_readUnit_73 rfl ?_
              replace hl := lv_sub hl (l' := [(0, .ref (ad 7)), (1, .int z7), (2, .int z61), (3, .int z62)]) [2, 3, 1, 0] rfl
              cases hf
              exact J77 ls H locs hl hP hD hS
          intro ls H locs hl hP hD hS
          clear hh
          refine lv_istore (lv' := [(4, .int z71), (0, .ref (ad 7)), (1, .int z7), (2, .int z61), (3, .int z62)]) hx hb dPI_readUnit_77 hl (by decide) rfl (fun ls hl => ?_)
          refine lv_iload hx hb dPI_readUnit_79 (lv_at hl 0 rfl) ?_
          obtain ⟨z72, hh, hf⟩ := ip_b1_e hf
          suffices J89 : ∀ (ls : Array Slot) (H : Heap) (locs : List Loc), lv_has ls 7 [(0, .ref (ad 7)), (1, .int z7), (2, .int z61), (3, .int z62), (4, .int z71)] → va_P (dC, dI) vwCl (wPI_readUnit ad cI z66 v_RB_end z67 z68 z11 z12 z13 z14 z15 z16 z17 z18 z19 z20 v_aChosen v_aValues g69 g70 v_aSamples g23 g24 g25 g26 g27 g28 g29 g30 g31 g32 g33 v_aBefore) H → va_D A (wPI_readUnit ad cI z66 v_RB_end z67 z68 z11 z12 z13 z14 z15 z16 z17 z18 z19 z20 v_aChosen v_aValues g69 g70 v_aSamples g23 g24 g25 g26 g27 g28 g29 g30 g31 g32 g33 v_aBefore) → va_S A s.heap H locs → W p l e rmPI_readUnit s m args below meth c H locs 0 0 Q (F0 m 89 ls [.int z72]) by
            replace hf := hh
            refine ip_if_eq (tgt := 88) hx hb dPI_readUnit_81 rfl hf (fun hf => ?_) (fun hf => ?_)
            · refine lv_iconst (v := (1 : Int32)) hx hb dPI_readUnit_88 (by decide) ?_
              replace hl := lv_sub hl (l' := [(0, .ref (ad 7)), (1, .int z7), (2, .int z61), (3, .int z62), (4, .int z71)]) [1, 2, 3, 4, 0] rfl
              cases hf
              exact J89 ls H locs hl hP hD hS
            · refine lv_iconst (v := (4 : Int32)) hx hb dPI_readUnit_84 (by decide) ?_
              refine lv_goto (tgt := 89) hx hb dPI_readUnit_85 rfl ?_
              replace hl := lv_sub hl (l' := [(0, .ref (ad 7)), (1, .int z7), (2, .int z61), (3, .int z62), (4, .int z71)]) [1, 2, 3, 4, 0] rfl
              cases hf
              exact J89 ls H locs hl hP hD hS
          intro ls H locs hl hP hD hS
          clear hh
          refine lv_istore (lv' := [(5, .int z72), (0, .ref (ad 7)), (1, .int z7), (2, .int z61), (3, .int z62), (4, .int z71)]) hx hb dPI_readUnit_89 hl (by decide) rfl (fun ls hl => ?_)
          refine lv_iconst (v := (0 : Int32)) hx hb dPI_readUnit_91 (by decide) ?_
          refine lv_istore (lv' := [(6, .int (0 : Int32)), (5, .int z72), (0, .ref (ad 7)), (1, .int z7), (2, .int z61), (3, .int z62), (4, .int z71)]) hx hb dPI_readUnit_92 hl (by decide) rfl (fun ls hl => ?_)
          replace hl := lv_sub hl (l' := [(0, .ref (ad 7)), (1, .int z7), (2, .int z61), (3, .int z62), (4, .int z71), (5, .int z72), (6, .int (0 : Int32))]) [2, 3, 4, 5, 6, 1, 0] rfl
          obtain ⟨x99, x100, x101, x102, x103, x104, x105, x106, x107, x108, x109, x110, x111, y112, y113, y114, y115, y116, y117, y118, y119, y120, y121, y122, y123, y124, hL, hf⟩ := ip_b26_e hf
          suffices J194 : ∀ (ls : Array Slot) (H : Heap) (locs : List Loc), lv_has ls 7 [(0, .ref (ad 7)), (1, .int z7), (5, .int z72)] → va_P (dC, dI) vwCl (wPI_readUnit ad cI x100 v_RB_end x101 x102 x103 x104 x105 x106 x107 z16 x108 x109 x110 x111 v_aChosen v_aValues y112 y113 v_aSamples y114 y115 y116 y117 y118 y119 y120 y121 y122 y123 y124 v_aBefore) H → va_D A (wPI_readUnit ad cI x100 v_RB_end x101 x102 x103 x104 x105 x106 x107 z16 x108 x109 x110 x111 v_aChosen v_aValues y112 y113 v_aSamples y114 y115 y116 y117 y118 y119 y120 y121 y122 y123 y124 v_aBefore) → va_S A s.heap H locs → W p l e rmPI_readUnit s m args below meth c H locs 0 0 Q (F0 m 194 ls []) by
            have L : ∀ (n : Nat) (z73 : Int32) (z74 : Int32) (z75 : Int32) (z76 : Int32) (z77 : Int32) (z78 : Int32) (z79 : Int32) (z80 : Int32) (z81 : Int32) (z82 : Int32) (z83 : Int32) (z84 : Int32) (z85 : Int32) (g86 : Nat → Int32) (g87 : Nat → Int32) (g88 : Nat → Int32) (g89 : Nat → Int32) (g90 : Nat → Int32) (g91 : Nat → Int32) (g92 : Nat → Int32) (g93 : Nat → Int32) (g94 : Nat → Int32) (g95 : Nat → Int32) (g96 : Nat → Int32) (g97 : Nat → Int32) (g98 : Nat → Int32), ip_lp26 (fPI_readUnit_B94 v_RB_end v_aChosen v_aValues z16 z61 z62 z71 z72) n z73 z74 z75 z76 z77 z78 z79 z80 z81 z82 z83 z84 z85 g86 g87 g88 g89 g90 g91 g92 g93 g94 g95 g96 g97 g98 = some (x99, x100, x101, x102, x103, x104, x105, x106, x107, x108, x109, x110, x111, y112, y113, y114, y115, y116, y117, y118, y119, y120, y121, y122, y123, y124) → ∀ (ls : Array Slot) (H : Heap) (locs : List Loc), lv_has ls 7 [(0, .ref (ad 7)), (1, .int z7), (2, .int z61), (3, .int z62), (4, .int z71), (5, .int z72), (6, .int z73)] → va_P (dC, dI) vwCl (wPI_readUnit ad cI z74 v_RB_end z75 z76 z77 z78 z79 z80 z81 z16 z82 z83 z84 z85 v_aChosen v_aValues g86 g87 v_aSamples g88 g89 g90 g91 g92 g93 g94 g95 g96 g97 g98 v_aBefore) H → va_D A (wPI_readUnit ad cI z74 v_RB_end z75 z76 z77 z78 z79 z80 z81 z16 z82 z83 z84 z85 v_aChosen v_aValues g86 g87 v_aSamples g88 g89 g90 g91 g92 g93 g94 g95 g96 g97 g98 v_aBefore) → va_S A s.heap H locs → W p l e rmPI_readUnit s m args below meth c H locs 0 0 Q (F0 m 94 ls []) := by
              intro n
              induction n with
              | zero => intro z73 z74 z75 z76 z77 z78 z79 z80 z81 z82 z83 z84 z85 g86 g87 g88 g89 g90 g91 g92 g93 g94 g95 g96 g97 g98 hL; exact (ip_lp26_0 hL).elim
              | succ n ih =>
                intro z73 z74 z75 z76 z77 z78 z79 z80 z81 z82 z83 z84 z85 g86 g87 g88 g89 g90 g91 g92 g93 g94 g95 g96 g97 g98 hL ls H locs hl hP hD hS
                clear hf
                obtain ⟨r9, hf, hr94⟩ := ip_lp26_s hL
                clear hL
                unfold fPI_readUnit_B94 at hf
                refine lv_iload hx hb dPI_readUnit_94 (lv_at hl 6 rfl) ?_
                refine lv_iload hx hb dPI_readUnit_96 (lv_at hl 5 rfl) ?_
                refine ip_icmp_ge (tgt := 194) hx hb dPI_readUnit_98 rfl hf (fun hf => ?_) (fun hf => ?_)
                · have hx9 := ip_lp_x hr94 hf
                  replace hl := lv_sub hl (l' := [(0, .ref (ad 7)), (1, .int z7), (5, .int z72)]) [0, 1, 5] rfl
                  cases hx9
                  exact J194 ls H locs hl hP hD hS
                · refine lv_aload_n hx hb dPI_readUnit_101 rfl (lv_at hl 0 rfl) ?_
                  refine va_get (D := (dC, dI)) (ci := 7) (v := .ref (ad 5)) (C := kR_PI) (T := kT_PI) (N := 9) hx hb hts kin_PI hown hK hP 4 rfl rfl 3 (by decide) (hts _ (List.mem_cons_of_mem _ kw2_31)) (fun _ h9 => h9) rfl dPI_readUnit_102 ?_
                  refine lv_iload_n hx hb dPI_readUnit_105 rfl (lv_at hl 2 rfl) ?_
                  refine lv_iconst (v := (4 : Int32)) hx hb dPI_readUnit_106 (by decide) ?_
                  refine lv_iload hx hb dPI_readUnit_107 (lv_at hl 6 rfl) ?_
                  refine lv_iconst (v := (1 : Int32)) hx hb dPI_readUnit_109 (by decide) ?_
                  refine lv_iand hx hb dPI_readUnit_110 ?_
                  refine lv_imul hx hb dPI_readUnit_111 ?_
                  refine lv_iadd hx hb dPI_readUnit_112 ?_
                  refine lv_iload_n hx hb dPI_readUnit_113 rfl (lv_at hl 3 rfl) ?_
                  refine lv_iconst (v := (4 : Int32)) hx hb dPI_readUnit_114 (by decide) ?_
                  refine lv_iload hx hb dPI_readUnit_115 (lv_at hl 6 rfl) ?_
                  refine lv_iconst (v := (1 : Int32)) hx hb dPI_readUnit_117 (by decide) ?_
                  refine lv_ishr hx hb dPI_readUnit_118 ?_
                  refine lv_imul hx hb dPI_readUnit_119 ?_
                  refine lv_iadd hx hb dPI_readUnit_120 ?_
                  refine lv_iload hx hb dPI_readUnit_121 (lv_at hl 4 rfl) ?_
                  obtain ⟨z125, hh, hf⟩ := ip_b1_e hf
                  suffices J132 : ∀ (ls : Array Slot) (H : Heap) (locs : List Loc), lv_has ls 7 [(0, .ref (ad 7)), (1, .int z7), (2, .int z61), (3, .int z62), (4, .int z71), (5, .int z72), (6, .int z73)] → va_P (dC, dI) vwCl (wPI_readUnit ad cI z74 v_RB_end z75 z76 z77 z78 z79 z80 z81 z16 z82 z83 z84 z85 v_aChosen v_aValues g86 g87 v_aSamples g88 g89 g90 g91 g92 g93 g94 g95 g96 g97 g98 v_aBefore) H → va_D A (wPI_readUnit ad cI z74 v_RB_end z75 z76 z77 z78 z79 z80 z81 z16 z82 z83 z84 z85 v_aChosen v_aValues g86 g87 v_aSamples g88 g89 g90 g91 g92 g93 g94 g95 g96 g97 g98 v_aBefore) → va_S A s.heap H locs → W p l e rmPI_readUnit s m args below meth c H locs 0 0 Q (F0 m 132 ls [.int z125, .int (z62 + ((4 : Int32) * (z73 >>> ((1 : Int32) &&& 31)))), .int (z61 + ((4 : Int32) * (z73 &&& (1 : Int32)))), .ref (ad 5)]) by
                    replace hf := hh
                    refine ip_if_eq (tgt := 130) hx hb dPI_readUnit_123 rfl hf (fun hf => ?_) (fun hf => ?_)
                    · refine lv_bipush (v := (8 : Int32)) hx hb dPI_readUnit_130 (by decide) ?_
                      cases hf
                      exact J132 ls H locs hl hP hD hS
                    · refine lv_iconst (v := (4 : Int32)) hx hb dPI_readUnit_126 (by decide) ?_
                      refine lv_goto (tgt := 132) hx hb dPI_readUnit_127 rfl ?_
                      cases hf
                      exact J132 ls H locs hl hP hD hS
                  intro ls H locs hl hP hD hS
                  clear hh
                  obtain ⟨z126, z127, z128, z129, hc, hf⟩ := ip_b4_e hf
                  refine ip_callv (va_runV (As := [.int (z61 + ((4 : Int32) * (z73 &&& (1 : Int32)))), .int (z62 + ((4 : Int32) * (z73 >>> ((1 : Int32) &&& 31)))), .int z125]) (rest := []) ⟨hx, hb, hml, hown, hts⟩ (tLF_moveTo (l := l) (dC := dC) (dI := dI) (ad := ad) (cI := cI) (ts := (ip_TS t0 t1 t2 t3)) hc H.size) (cwV 3 hts (ip_gdV (own := kR_PI) (idx := 98) (C := kR_LF) (y := yLF_moveTo) kw2_190 kw2_191 kw2_192 kw1_8 kw2_193) rfl rfl rfl (by decide +kernel) ⟨Nat.le_of_ble_eq_true rfl, Nat.le_of_ble_eq_true rfl⟩) (ip_preV hK hP hD hS hA hZ [2] rfl rfl (ci := 5) (q0 := 2) rfl rfl) rfl rfl hl.1 rfl (lv_room (Nat.le_of_ble_eq_true rfl)) dPI_readUnit_132 ⟨Nat.le_of_ble_eq_true rfl, Nat.le_of_ble_eq_true rfl⟩) hP hD hS hA [2] [0, 1, 3, 4, 5, 6, 7, 8, 9, 10, 11, 12, 13, 14, 15, 16, 17, 18, 19, 20, 21, 22, 23, 24, 25] [0, 1, 25, 2, 3, 4, 5, 6, 7, 8, 9, 10, 11, 12, 13, 14, 15, 16, 17, 18, 19, 20, 21, 22, 23, 24] (wPI_readUnit ad cI z74 v_RB_end z75 z76 z126 z127 z128 z80 z129 z16 z82 z83 z84 z85 v_aChosen v_aValues g86 g87 v_aSamples g88 g89 g90 g91 g92 g93 g94 g95 g96 g97 g98 v_aBefore) rfl rfl rfl (by decide) rfl rfl (fun H locs hP hD hS => ?_)
                  clear hc
                  refine lv_aload_n hx hb dPI_readUnit_135 rfl (lv_at hl 0 rfl) ?_
                  refine va_get (D := (dC, dI)) (ci := 7) (v := .ref (ad 5)) (C := kR_PI) (T := kT_PI) (N := 9) hx hb hts kin_PI hown hK hP 4 rfl rfl 3 (by decide) (hts _ (List.mem_cons_of_mem _ kw2_31)) (fun _ h9 => h9) rfl dPI_readUnit_136 ?_
                  refine lv_aload_n hx hb dPI_readUnit_139 rfl (lv_at hl 0 rfl) ?_
                  refine va_get (D := (dC, dI)) (ci := 7) (v := .ref (ad 4)) (C := kR_PI) (T := kT_PI) (N := 9) hx hb hts kin_PI hown hK hP 4 rfl rfl 0 (by decide) (hts _ (List.mem_cons_of_mem _ kw2_28)) (fun _ h9 => h9) rfl dPI_readUnit_140 ?_
                  refine lv_iconst (v := (3 : Int32)) hx hb dPI_readUnit_143 (by decide) ?_
                  obtain ⟨z130, z131, z132, z133, g134, g135, hc, hf⟩ := ip_b6_e hf
                  refine ip_calli (va_runV (As := [.int (3 : Int32)]) (rest := [.ref (ad 5)]) ⟨hx, hb, hml, hown, hts⟩ (tBD_bin (l := l) (dC := dC) (dI := dI) (ad := ad) (cI := cI) (ts := (ip_TS t0 t1 t2 t3)) hc H.size) (cwV 1 hts (ip_gdV (own := kR_PI) (idx := 94) (C := kR_BD) (y := yBD_bin) kw2_186 kw2_187 kw2_188 kw1_5 kw2_189) rfl rfl rfl (by decide +kernel) ⟨Nat.le_of_ble_eq_true rfl, Nat.le_of_ble_eq_true rfl⟩) (ip_preV hK hP hD hS hA hZ [0, 1, 9, 11, 12] rfl rfl (ci := 4) (q0 := 1) rfl rfl) rfl rfl hl.1 rfl (lv_room (Nat.le_of_ble_eq_true rfl)) dPI_readUnit_144 ⟨Nat.le_of_ble_eq_true rfl, Nat.le_of_ble_eq_true rfl⟩) hP hD hS hA [0, 1, 9, 11, 12] [2, 3, 4, 5, 6, 7, 8, 10, 13, 14, 15, 16, 17, 18, 19, 20, 21, 22, 23, 24, 25] [21, 22, 0, 1, 2, 3, 4, 5, 6, 23, 7, 24, 25, 8, 9, 10, 11, 12, 13, 14, 15, 16, 17, 18, 19, 20] (wPI_readUnit ad cI z131 v_RB_end z132 z133 z126 z127 z128 z80 z129 z16 z82 z83 z84 z85 v_aChosen v_aValues g134 g135 v_aSamples g88 g89 g90 g91 g92 g93 g94 g95 g96 g97 g98 v_aBefore) rfl rfl rfl (by decide) rfl rfl (fun H locs hP hD hS => ?_)
                  clear hc
                  refine lv_iconst (v := (1 : Int32)) hx hb dPI_readUnit_147 (by decide) ?_
                  obtain ⟨z136, z137, z138, g139, hh, hf⟩ := ip_b4_e hf
                  suffices J166 : ∀ (ls : Array Slot) (H : Heap) (locs : List Loc), lv_has ls 7 [(0, .ref (ad 7)), (1, .int z7), (2, .int z61), (3, .int z62), (4, .int z71), (5, .int z72), (6, .int z73)] → va_P (dC, dI) vwCl (wPI_readUnit ad cI z137 v_RB_end z132 z138 z126 z127 z128 z80 z129 z16 z82 z83 z84 z85 v_aChosen v_aValues g134 g139 v_aSamples g88 g89 g90 g91 g92 g93 g94 g95 g96 g97 g98 v_aBefore) H → va_D A (wPI_readUnit ad cI z137 v_RB_end z132 z138 z126 z127 z128 z80 z129 z16 z82 z83 z84 z85 v_aChosen v_aValues g134 g139 v_aSamples g88 g89 g90 g91 g92 g93 g94 g95 g96 g97 g98 v_aBefore) → va_S A s.heap H locs → W p l e rmPI_readUnit s m args below meth c H locs 0 0 Q (F0 m 166 ls [.int z136, .ref (ad 5)]) by
                    replace hf := hh
                    refine ip_icmp_ne (tgt := 158) hx hb dPI_readUnit_148 rfl hf (fun hf => ?_) (fun hf => ?_)
                    · refine lv_aload_n hx hb dPI_readUnit_158 rfl (lv_at hl 0 rfl) ?_
                      refine va_get (D := (dC, dI)) (ci := 7) (v := .ref (ad 4)) (C := kR_PI) (T := kT_PI) (N := 9) hx hb hts kin_PI hown hK hP 4 rfl rfl 0 (by decide) (hts _ (List.mem_cons_of_mem _ kw2_28)) (fun _ h9 => h9) rfl dPI_readUnit_159 ?_
                      refine lv_iconst (v := (3 : Int32)) hx hb dPI_readUnit_162 (by decide) ?_
                      obtain ⟨z140, z141, z142, g143, hc, hf⟩ := ip_b4_e hf
                      refine ip_calli (va_runV (As := [.int (3 : Int32)]) (rest := [.ref (ad 5)]) ⟨hx, hb, hml, hown, hts⟩ (tBD_freeBits (l := l) (dC := dC) (dI := dI) (ad := ad) (cI := cI) (ts := (ip_TS t0 t1 t2 t3)) hc H.size) (cwV 1 hts (ip_gdV (own := kR_PI) (idx := 106) (C := kR_BD) (y := yBD_freeBits) kw2_203 kw2_204 kw2_205 kw1_5 kw2_206) rfl rfl rfl (by decide +kernel) ⟨Nat.le_of_ble_eq_true rfl, Nat.le_of_ble_eq_true rfl⟩) (ip_preV hK hP hD hS hA hZ [0, 1, 9, 12] rfl rfl (ci := 4) (q0 := 1) rfl rfl) rfl rfl hl.1 rfl (lv_room (Nat.le_of_ble_eq_true rfl)) dPI_readUnit_163 ⟨Nat.le_of_ble_eq_true rfl, Nat.le_of_ble_eq_true rfl⟩) hP hD hS hA [0, 1, 9, 12] [2, 3, 4, 5, 6, 7, 8, 10, 11, 13, 14, 15, 16, 17, 18, 19, 20, 21, 22, 23, 24, 25] [22, 23, 0, 1, 2, 3, 4, 5, 6, 24, 7, 8, 25, 9, 10, 11, 12, 13, 14, 15, 16, 17, 18, 19, 20, 21] (wPI_readUnit ad cI z141 v_RB_end z132 z142 z126 z127 z128 z80 z129 z16 z82 z83 z84 z85 v_aChosen v_aValues g134 g143 v_aSamples g88 g89 g90 g91 g92 g93 g94 g95 g96 g97 g98 v_aBefore) rfl rfl rfl (by decide) rfl rfl (fun H locs hP hD hS => ?_)
                      clear hc
                      cases hf
                      exact J166 ls H locs hl hP hD hS
                    · refine lv_aload_n hx hb dPI_readUnit_151 rfl (lv_at hl 0 rfl) ?_
                      obtain ⟨z144, hc, hf⟩ := ip_b1_e hf
                      refine ip_calli (va_runV (As := []) (rest := [.ref (ad 5)]) ⟨hx, hb, hml, hown, hts⟩ (tPI_modeToTheLeft (l := l) (dC := dC) (dI := dI) (ad := ad) (cI := cI) (ts := (ip_TS t0 t1 t2 t3)) hc H.size) (cwV 0 hts (ip_gdV (own := kR_PI) (idx := 102) (C := kR_PI) (y := yPI_modeToTheLeft) kw2_194 kw2_196 kws_8 kw1_7 kw2_197) rfl rfl rfl (by decide +kernel) ⟨Nat.le_of_ble_eq_true rfl, Nat.le_of_ble_eq_true rfl⟩) (ip_preV hK hP hD hS hA hZ [2, 3, 4, 17] rfl rfl (ci := 7) (q0 := 4) rfl rfl) rfl rfl hl.1 rfl (lv_room (Nat.le_of_ble_eq_true rfl)) dPI_readUnit_152 ⟨Nat.le_of_ble_eq_true rfl, Nat.le_of_ble_eq_true rfl⟩) hP hD hS hA [2, 3, 4, 17] [0, 1, 5, 6, 7, 8, 9, 10, 11, 12, 13, 14, 15, 16, 18, 19, 20, 21, 22, 23, 24, 25] [0, 1, 22, 23, 24, 2, 3, 4, 5, 6, 7, 8, 9, 10, 11, 12, 13, 25, 14, 15, 16, 17, 18, 19, 20, 21] (wPI_readUnit ad cI z131 v_RB_end z132 z133 z126 z127 z128 z80 z129 z16 z82 z83 z84 z85 v_aChosen v_aValues g134 g135 v_aSamples g88 g89 g90 g91 g92 g93 g94 g95 g96 g97 g98 v_aBefore) rfl rfl rfl (by decide) rfl rfl (fun H locs hP hD hS => ?_)
                      clear hc
                      refine lv_goto (tgt := 166) hx hb dPI_readUnit_155 rfl ?_
                      cases hf
                      exact J166 ls H locs hl hP hD hS
                  intro ls H locs hl hP hD hS
                  clear hh
                  refine va_put (D := (dC, dI)) (ci := 5) (v := .int z136) (ty := .int) (C := kR_LF) (T := kT_LF) (N := 5) hx hb hts kin_LF kty_LF kto_LF knm_LF hown hK hP hD hS 2 rfl rfl 3 (by decide) (hts _ (List.mem_cons_of_mem _ kw1_176)) (fun _ h9 => h9) rfl (by decide +kernel) rfl rfl (Nat.le_of_ble_eq_true rfl) dPI_readUnit_166 (fun H locs hP hD hS => ?_)
                  replace hP : va_P (dC, dI) vwCl (wPI_readUnit ad cI z137 v_RB_end z132 z138 z126 z127 z128 z136 z129 z16 z82 z83 z84 z85 v_aChosen v_aValues g134 g139 v_aSamples g88 g89 g90 g91 g92 g93 g94 g95 g96 g97 g98 v_aBefore) H := hP
                  replace hD : va_D A (wPI_readUnit ad cI z137 v_RB_end z132 z138 z126 z127 z128 z136 z129 z16 z82 z83 z84 z85 v_aChosen v_aValues g134 g139 v_aSamples g88 g89 g90 g91 g92 g93 g94 g95 g96 g97 g98 v_aBefore) := hD
                  refine lv_aload_n hx hb dPI_readUnit_169 rfl (lv_at hl 0 rfl) ?_
                  refine va_get (D := (dC, dI)) (ci := 7) (v := .ref (ad 8)) (C := kR_PI) (T := kT_PI) (N := 9) hx hb hts kin_PI hown hK hP 4 rfl rfl 4 (by decide) (hts _ (List.mem_cons_of_mem _ kw2_32)) (fun _ h9 => h9) rfl dPI_readUnit_170 ?_
                  refine lv_aload_n hx hb dPI_readUnit_173 rfl (lv_at hl 0 rfl) ?_
                  refine va_get (D := (dC, dI)) (ci := 7) (v := .ref (ad 5)) (C := kR_PI) (T := kT_PI) (N := 9) hx hb hts kin_PI hown hK hP 4 rfl rfl 3 (by decide) (hts _ (List.mem_cons_of_mem _ kw2_31)) (fun _ h9 => h9) rfl dPI_readUnit_174 ?_
                  refine lv_aload_n hx hb dPI_readUnit_177 rfl (lv_at hl 0 rfl) ?_
                  refine va_get (D := (dC, dI)) (ci := 7) (v := .ref (ad 14)) (C := kR_PI) (T := kT_PI) (N := 9) hx hb hts kin_PI hown hK hP 4 rfl rfl 1 (by decide) (hts _ (List.mem_cons_of_mem _ kw2_29)) (fun _ h9 => h9) rfl dPI_readUnit_178 ?_
                  obtain ⟨z145, z146, z147, z148, z149, z150, z151, g152, g153, g154, g155, hc, hf⟩ := ip_b11_e hf
                  refine ip_callv (va_runV (As := [.ref (ad 5), .ref (ad 14)]) (rest := []) ⟨hx, hb, hml, hown, hts⟩ (tLR_readLeaf (l := l) (dC := dC) (dI := dI) (ad := ad) (cI := cI) (t0 := t0) (t1 := t1) (t2 := t2) (t3 := t3) hc H.size) (cwV 2 hts (ip_gdV (own := kR_PI) (idx := 112) (C := kR_LR) (y := yLR_readLeaf) kw2_207 kw2_208 kw2_209 kw1_9 kw2_210) rfl rfl rfl (by decide +kernel) ⟨Nat.le_of_ble_eq_true rfl, Nat.le_of_ble_eq_true rfl⟩) (ip_preV hK hP hD hS hA hZ [0, 1, 2, 5, 9, 10, 11, 12, 16, 19] rfl rfl (ci := 8) (q0 := 5) rfl rfl) rfl rfl hl.1 rfl (lv_room (Nat.le_of_ble_eq_true rfl)) dPI_readUnit_181 ⟨Nat.le_of_ble_eq_true rfl, Nat.le_of_ble_eq_true rfl⟩) hP hD hS hA [0, 1, 2, 5, 9, 10, 11, 12, 16, 19] [3, 4, 6, 7, 8, 13, 14, 15, 17, 18, 20, 21, 22, 23, 24, 25] [16, 17, 18, 0, 1, 19, 2, 3, 4, 20, 21, 22, 23, 5, 6, 7, 24, 8, 9, 25, 10, 11, 12, 13, 14, 15] (wPI_readUnit ad cI z145 v_RB_end z146 z147 z126 z127 z128 z136 z148 z16 z149 z150 z151 z85 v_aChosen v_aValues g152 g153 v_aSamples g88 g89 g154 g91 g92 g155 g94 g95 g96 g97 g98 v_aBefore) rfl rfl rfl (by decide) rfl rfl (fun H locs hP hD hS => ?_)
                  clear hc
                  refine lv_aload_n hx hb dPI_readUnit_184 rfl (lv_at hl 0 rfl) ?_
                  obtain ⟨z156, g157, g158, g159, g160, g161, g162, g163, g164, g165, hc, hf⟩ := ip_b10_e hf
                  refine ip_callv (va_runV (As := []) (rest := []) ⟨hx, hb, hml, hown, hts⟩ (tPI_buildLeaf (l := l) (dC := dC) (dI := dI) (ad := ad) (cI := cI) (t0 := t0) (t1 := t1) (t2 := t2) (t3 := t3) hc H.size) (cwV 0 hts (ip_gdV (own := kR_PI) (idx := 116) (C := kR_PI) (y := yPI_buildLeaf) kw2_237 kw2_239 kws_14 kw1_7 kw3_0) rfl rfl rfl (by decide +kernel) ⟨Nat.le_of_ble_eq_true rfl, Nat.le_of_ble_eq_true rfl⟩) (ip_preV hK hP hD hS hA hZ [2, 3, 4, 6, 7, 10, 14, 15, 16, 17, 18, 20, 21, 22, 23, 24] rfl rfl (ci := 7) (q0 := 4) rfl rfl) rfl rfl hl.1 rfl (lv_room (Nat.le_of_ble_eq_true rfl)) dPI_readUnit_185 ⟨Nat.le_of_ble_eq_true rfl, Nat.le_of_ble_eq_true rfl⟩) hP hD hS hA [2, 3, 4, 6, 7, 10, 14, 15, 16, 17, 18, 20, 21, 22, 23, 24] [0, 1, 5, 8, 9, 11, 12, 13, 19, 25] [0, 1, 10, 11, 12, 2, 13, 14, 3, 4, 15, 5, 6, 7, 16, 17, 18, 19, 20, 8, 21, 22, 23, 24, 25, 9] (wPI_readUnit ad cI z145 v_RB_end z146 z147 z126 z127 z128 z136 z148 z16 z149 z150 z151 z156 v_aChosen v_aValues g152 g153 v_aSamples g157 g158 g154 g159 g160 g155 g161 g162 g163 g164 g165 v_aBefore) rfl rfl rfl (by decide) rfl rfl (fun H locs hP hD hS => ?_)
                  clear hc
                  refine ip_iinc (k0 := 6) (v0 := (1 : Int32)) (lv1 := fun z166 => [(6, .int z166), (0, .ref (ad 7)), (1, .int z7), (2, .int z61), (3, .int z62), (4, .int z71), (5, .int z72)]) hx hb dPI_readUnit_188 hl rfl (by decide) (by decide) (fun _ => rfl) hf (fun z166 ls hf hl => ?_)
                  refine lv_goto (tgt := 94) hx hb dPI_readUnit_191 rfl ?_
                  replace hl := lv_sub hl (l' := [(0, .ref (ad 7)), (1, .int z7), (2, .int z61), (3, .int z62), (4, .int z71), (5, .int z72), (6, .int z166)]) [1, 2, 3, 4, 5, 6, 0] rfl
                  exact ih _ _ _ _ _ _ _ _ _ _ _ _ _ _ _ _ _ _ _ _ _ _ _ _ _ _ (ip_lp26_l hr94 hf) ls H locs hl hP hD hS
            exact L 1000 _ _ _ _ _ _ _ _ _ _ _ _ _ _ _ _ _ _ _ _ _ _ _ _ _ _ hL ls H locs hl hP hD hS
          intro ls H locs hl hP hD hS
          clear hL
          refine lv_aload_n hx hb dPI_readUnit_194 rfl (lv_at hl 0 rfl) ?_
          refine lv_dup hx hb dPI_readUnit_195 rfl ?_
          refine va_get (D := (dC, dI)) (ci := 7) (v := .int z16) (C := kR_PI) (T := kT_PI) (N := 9) hx hb hts kin_PI hown hK hP 4 rfl rfl 8 (by decide) (hts _ (List.mem_cons_of_mem _ kw2_36)) (fun _ h9 => h9) rfl dPI_readUnit_196 ?_
          refine lv_iload hx hb dPI_readUnit_199 (lv_at hl 2 rfl) ?_
          refine lv_iadd hx hb dPI_readUnit_201 ?_
          refine ip_top hf (fun z167 hf => ?_)
          refine va_put (D := (dC, dI)) (ci := 7) (v := .int z167) (ty := .int) (C := kR_PI) (T := kT_PI) (N := 9) hx hb hts kin_PI kty_PI kto_PI knm_PI hown hK hP hD hS 4 rfl rfl 8 (by decide) (hts _ (List.mem_cons_of_mem _ kw2_36)) (fun _ h9 => h9) rfl (by decide +kernel) rfl rfl (Nat.le_of_ble_eq_true rfl) dPI_readUnit_202 (fun H locs hP hD hS => ?_)
          replace hP : va_P (dC, dI) vwCl (wPI_readUnit ad cI x100 v_RB_end x101 x102 x103 x104 x105 x106 x107 z167 x108 x109 x110 x111 v_aChosen v_aValues y112 y113 v_aSamples y114 y115 y116 y117 y118 y119 y120 y121 y122 y123 y124 v_aBefore) H := hP
          replace hD : va_D A (wPI_readUnit ad cI x100 v_RB_end x101 x102 x103 x104 x105 x106 x107 z167 x108 x109 x110 x111 v_aChosen v_aValues y112 y113 v_aSamples y114 y115 y116 y117 y118 y119 y120 y121 y122 y123 y124 v_aBefore) := hD
          refine ip_iinc (k0 := 1) (v0 := (1 : Int32)) (lv1 := fun z168 => [(1, .int z168), (0, .ref (ad 7)), (5, .int z72)]) hx hb dPI_readUnit_205 hl rfl (by decide) (by decide) (fun _ => rfl) hf (fun z168 ls hf hl => ?_)
          refine lv_goto (tgt := 25) hx hb dPI_readUnit_208 rfl ?_
          replace hl := lv_sub hl (l' := [(0, .ref (ad 7)), (1, .int z168)]) [1, 0] rfl
          exact ih _ _ _ _ _ _ _ _ _ _ _ _ _ _ _ _ _ _ _ _ _ _ _ _ _ _ _ (ip_lp27_l hr25 hf) ls H locs hl hP hD hS
    exact L 1000 _ _ _ _ _ _ _ _ _ _ _ _ _ _ _ _ _ _ _ _ _ _ _ _ _ _ _ hL ls H locs hl hP hD hS
  intro ls H locs hl hP hD hS
  clear hL
  refine lv_aload_n hx hb dPI_readUnit_211 rfl (lv_at hl 0 rfl) ?_
  refine va_get (D := (dC, dI)) (ci := 7) (v := .ref (ad 4)) (C := kR_PI) (T := kT_PI) (N := 9) hx hb hts kin_PI hown hK hP 4 rfl rfl 0 (by decide) (hts _ (List.mem_cons_of_mem _ kw2_28)) (fun _ h9 => h9) rfl dPI_readUnit_212 ?_
  obtain ⟨g169, hc, hf⟩ := ip_b1_e hf
  refine ip_callv (va_runV (As := []) (rest := []) ⟨hx, hb, hml, hown, hts⟩ (tBD_end (l := l) (dC := dC) (dI := dI) (ad := ad) (cI := cI) (ts := (ip_TS t0 t1 t2 t3)) hc H.size) (cwV 0 hts (ip_gdV (own := kR_PI) (idx := 119) (C := kR_BD) (y := yBD_end) kw3_101 kw3_102 kw3_103 kw1_5 kw3_104) rfl rfl rfl (by decide +kernel) ⟨Nat.le_of_ble_eq_true rfl, Nat.le_of_ble_eq_true rfl⟩) (ip_preV hK hP hD hS hA hZ [0, 1, 12] rfl rfl (ci := 4) (q0 := 1) rfl rfl) rfl rfl hl.1 rfl (lv_room (Nat.le_of_ble_eq_true rfl)) dPI_readUnit_215 ⟨Nat.le_of_ble_eq_true rfl, Nat.le_of_ble_eq_true rfl⟩) hP hD hS hA [0, 1, 12] [2, 3, 4, 5, 6, 7, 8, 9, 10, 11, 13, 14, 15, 16, 17, 18, 19, 20, 21, 22, 23, 24, 25] [23, 24, 0, 1, 2, 3, 4, 5, 6, 7, 8, 9, 25, 10, 11, 12, 13, 14, 15, 16, 17, 18, 19, 20, 21, 22] (wPI_readUnit ad cI x35 v_RB_end x36 x37 x38 x39 x40 x41 x42 x43 x44 x45 x46 x47 v_aChosen v_aValues y48 g169 v_aSamples y50 y51 y52 y53 y54 y55 y56 y57 y58 y59 y60 v_aBefore) rfl rfl rfl (by decide) rfl rfl (fun H locs hP hD hS => ?_)
  clear hc
  refine lv_aload_n hx hb dPI_readUnit_218 rfl (lv_at hl 0 rfl) ?_
  refine va_get (D := (dC, dI)) (ci := 7) (v := .ref (ad 6)) (C := kR_PI) (T := kT_PI) (N := 9) hx hb hts kin_PI hown hK hP 4 rfl rfl 2 (by decide) (hts _ (List.mem_cons_of_mem _ kw2_30)) (fun _ h9 => h9) rfl dPI_readUnit_219 ?_
  refine va_get (D := (dC, dI)) (ci := 6) (v := .ref (ad 19)) (C := kR_RW) (T := kT_RW) (N := 6) hx hb hts kin_RW hown hK hP 3 rfl rfl 1 (by decide) (hts _ (List.mem_cons_of_mem _ kw1_123)) (fun _ h9 => h9) rfl dPI_readUnit_222 ?_
  refine lv_iconst (v := (0 : Int32)) hx hb dPI_readUnit_225 (by decide) ?_
  refine lv_aload_n hx hb dPI_readUnit_226 rfl (lv_at hl 0 rfl) ?_
  refine va_get (D := (dC, dI)) (ci := 7) (v := .ref (ad 6)) (C := kR_PI) (T := kT_PI) (N := 9) hx hb hts kin_PI hown hK hP 4 rfl rfl 2 (by decide) (hts _ (List.mem_cons_of_mem _ kw2_30)) (fun _ h9 => h9) rfl dPI_readUnit_227 ?_
  refine va_get (D := (dC, dI)) (ci := 6) (v := .ref (ad 18)) (C := kR_RW) (T := kT_RW) (N := 6) hx hb hts kin_RW hown hK hP 3 rfl rfl 0 (by decide) (hts _ (List.mem_cons_of_mem _ kw1_120)) (fun _ h9 => h9) rfl dPI_readUnit_230 ?_
  refine lv_iconst (v := (0 : Int32)) hx hb dPI_readUnit_233 (by decide) ?_
  refine lv_sipush (v := (256 : Int32)) hx hb dPI_readUnit_234 (by decide) ?_
  refine va_copyi (ty := .int) hx hb (by rw [hml]; exact hl.1.symm) hown (hts _ (List.mem_cons_of_mem _ kw3_109)) (hts _ (List.mem_cons_of_mem _ kw2_164)) (hts _ (List.mem_cons_of_mem _ kw2_163)) (hts _ (List.mem_cons_of_mem _ kw1_15)) hK hP hD hS 14 13 0 0 rfl rfl rfl rfl rfl (by decide) (by decide) (by decide) (by decide) (by decide) (fun _ _ => rfl) (Nat.le_of_ble_eq_true rfl) (by decide) dPI_readUnit_237 (fun H locs hP hD hS => ?_)
  obtain ⟨g170, hg9, hf⟩ := ip_lt_e hf
  rw [← hg9] at hP hD
  replace hP : va_P (dC, dI) vwCl (wPI_readUnit ad cI x35 v_RB_end x36 x37 x38 x39 x40 x41 x42 x43 x44 x45 x46 x47 v_aChosen v_aValues y48 g169 g170 y50 y51 y52 y53 y54 y55 y56 y57 y58 y59 y60 v_aBefore) H := hP
  replace hD : va_D A (wPI_readUnit ad cI x35 v_RB_end x36 x37 x38 x39 x40 x41 x42 x43 x44 x45 x46 x47 v_aChosen v_aValues y48 g169 g170 y50 y51 y52 y53 y54 y55 y56 y57 y58 y59 y60 v_aBefore) := hD
  clear hg9
  refine lv_aload_n hx hb dPI_readUnit_240 rfl (lv_at hl 0 rfl) ?_
  refine va_get (D := (dC, dI)) (ci := 7) (v := .ref (ad 11)) (C := kR_PI) (T := kT_PI) (N := 9) hx hb hts kin_PI hown hK hP 4 rfl rfl 7 (by decide) (hts _ (List.mem_cons_of_mem _ kw2_35)) (fun _ h9 => h9) rfl dPI_readUnit_241 ?_
  refine lv_aload_n hx hb dPI_readUnit_244 rfl (lv_at hl 0 rfl) ?_
  refine va_get (D := (dC, dI)) (ci := 7) (v := .ref (ad 14)) (C := kR_PI) (T := kT_PI) (N := 9) hx hb hts kin_PI hown hK hP 4 rfl rfl 1 (by decide) (hts _ (List.mem_cons_of_mem _ kw2_29)) (fun _ h9 => h9) rfl dPI_readUnit_245 ?_
  obtain ⟨g171, g172, hc, hf⟩ := ip_b2_e hf
  refine ip_callv (va_runV (As := [.ref (ad 14)]) (rest := []) ⟨hx, hb, hml, hown, hts⟩ (tFI_apply (l := l) (dC := dC) (dI := dI) (ad := ad) (cI := cI) (ts := (ip_TS t0 t1 t2 t3)) hc H.size) (cwV 1 hts (ip_gdV (own := kR_PI) (idx := 131) (C := kR_FI) (y := yFI_apply) kw3_110 kw3_111 kw3_112 kw1_12 kw3_113) rfl rfl rfl (by decide +kernel) ⟨Nat.le_of_ble_eq_true rfl, Nat.le_of_ble_eq_true rfl⟩) (ip_preV hK hP hD hS hA hZ [8, 10, 13, 25] rfl rfl (ci := 11) (q0 := 8) rfl rfl) rfl rfl hl.1 rfl (lv_room (Nat.le_of_ble_eq_true rfl)) dPI_readUnit_248 ⟨Nat.le_of_ble_eq_true rfl, Nat.le_of_ble_eq_true rfl⟩) hP hD hS hA [8, 10, 13, 25] [0, 1, 2, 3, 4, 5, 6, 7, 9, 11, 12, 14, 15, 16, 17, 18, 19, 20, 21, 22, 23, 24] [0, 1, 2, 3, 4, 5, 6, 7, 22, 8, 23, 9, 10, 24, 11, 12, 13, 14, 15, 16, 17, 18, 19, 20, 21, 25] (wPI_readUnit ad cI x35 v_RB_end x36 x37 x38 x39 x40 x41 x42 x43 x44 x45 x46 x47 v_aChosen v_aValues y48 g169 g171 y50 y51 y52 y53 y54 y55 y56 y57 y58 y59 y60 g172) rfl rfl rfl (by decide) rfl rfl (fun H locs hP hD hS => ?_)
  clear hc
  cases hf
  exact hret H locs 251 ls dPI_readUnit_251 hP hD hS
set_option maxHeartbeats 4000000 in
set_option maxRecDepth 100000 in
theorem tIP_decode {l : Launch} {dC : Nat → ClassId} {dI : Nat → Nat → Nat} {cI : ClassId} {ad : Nat → Nat} {t0 t1 t2 t3 : Nat} {v_IP_pictureStands : Int32} {v_FB_count : Int32} {v_FB_chosenLength : Int32} {v_RB_place : Int32} {v_RB_end : Int32} {v_PA_there : Int32} {v_PA_fault : Int32} {v_BD_range : Int32} {v_BD_value : Int32} {v_LF_x : Int32} {v_LF_y : Int32} {v_LF_side : Int32} {v_LF_mode : Int32} {v_LF_skip : Int32} {v_PI_leaves : Int32} {v_LR_first : Int32} {v_LR_last : Int32} {v_LR_sum : Int32} {v_PR_side : Int32} {v_aBytes : Nat → Int32} {v_aChosen : Nat → Int32} {v_aValues : Nat → Int32} {v_aComing : Nat → Int32} {v_aChances : Nat → Int32} {v_aCounts : Nat → Int32} {v_aSamples : Nat → Int32} {v_aPlain : Nat → Int32} {v_aPredicted : Nat → Int32} {v_aLevels : Nat → Int32} {v_aModes : Nat → Int32} {v_aSides : Nat → Int32} {v_aGroup : Nat → Int32} {v_aCoef : Nat → Int32} {v_aBetween : Nat → Int32} {v_aResult : Nat → Int32} {v_aRefs : Nat → Int32} {v_aUnsm : Nat → Int32} {v_aBefore : Nat → Int32}  {r0 : Int32} {nv_IP_pictureStands : Int32} {nv_FB_chosenLength : Int32} {nv_RB_place : Int32} {nv_RB_end : Int32} {nv_PA_there : Int32} {nv_PA_fault : Int32} {nv_BD_range : Int32} {nv_BD_value : Int32} {nv_LF_x : Int32} {nv_LF_y : Int32} {nv_LF_side : Int32} {nv_LF_mode : Int32} {nv_LF_skip : Int32} {nv_PI_leaves : Int32} {nv_LR_first : Int32} {nv_LR_last : Int32} {nv_LR_sum : Int32} {nv_PR_side : Int32} {nv_aChosen : Nat → Int32} {nv_aValues : Nat → Int32} {nv_aComing : Nat → Int32} {nv_aChances : Nat → Int32} {nv_aCounts : Nat → Int32} {nv_aSamples : Nat → Int32} {nv_aPlain : Nat → Int32} {nv_aPredicted : Nat → Int32} {nv_aLevels : Nat → Int32} {nv_aModes : Nat → Int32} {nv_aSides : Nat → Int32} {nv_aGroup : Nat → Int32} {nv_aCoef : Nat → Int32} {nv_aBetween : Nat → Int32} {nv_aResult : Nat → Int32} {nv_aRefs : Nat → Int32} {nv_aUnsm : Nat → Int32} {nv_aBefore : Nat → Int32} (hf : fIP_decode v_IP_pictureStands v_FB_count v_FB_chosenLength v_RB_place v_RB_end v_PA_there v_PA_fault v_BD_range v_BD_value v_LF_x v_LF_y v_LF_side v_LF_mode v_LF_skip v_PI_leaves v_LR_first v_LR_last v_LR_sum v_PR_side v_aBytes v_aChosen v_aValues v_aComing v_aChances v_aCounts v_aSamples v_aPlain v_aPredicted v_aLevels v_aModes v_aSides v_aGroup v_aCoef v_aBetween v_aResult v_aRefs v_aUnsm v_aBefore = some (r0, nv_IP_pictureStands, nv_FB_chosenLength, nv_RB_place, nv_RB_end, nv_PA_there, nv_PA_fault, nv_BD_range, nv_BD_value, nv_LF_x, nv_LF_y, nv_LF_side, nv_LF_mode, nv_LF_skip, nv_PI_leaves, nv_LR_first, nv_LR_last, nv_LR_sum, nv_PR_side, nv_aChosen, nv_aValues, nv_aComing, nv_aChances, nv_aCounts, nv_aSamples, nv_aPlain, nv_aPredicted, nv_aLevels, nv_aModes, nv_aSides, nv_aGroup, nv_aCoef, nv_aBetween, nv_aResult, nv_aRefs, nv_aUnsm, nv_aBefore)) : ip_Mi l yIP_decode wsIP_decode rmIP_decode (dC, dI) vwCl [(cI, .int)] (ip_TS t0 t1 t2 t3) [.ref (ad 0)] (wIP_decode ad cI v_IP_pictureStands v_FB_count v_FB_chosenLength v_RB_place v_RB_end v_PA_there v_PA_fault v_BD_range v_BD_value v_LF_x v_LF_y v_LF_side v_LF_mode v_LF_skip v_PI_leaves v_LR_first v_LR_last v_LR_sum v_PR_side v_aBytes v_aChosen v_aValues v_aComing v_aChances v_aCounts v_aSamples v_aPlain v_aPredicted v_aLevels v_aModes v_aSides v_aGroup v_aCoef v_aBetween v_aResult v_aRefs v_aUnsm v_aBefore) (wIP_decode ad cI nv_IP_pictureStands v_FB_count nv_FB_chosenLength nv_RB_place nv_RB_end nv_PA_there nv_PA_fault nv_BD_range nv_BD_value nv_LF_x nv_LF_y nv_LF_side nv_LF_mode nv_LF_skip nv_PI_leaves nv_LR_first nv_LR_last nv_LR_sum nv_PR_side v_aBytes nv_aChosen nv_aValues nv_aComing nv_aChances nv_aCounts nv_aSamples nv_aPlain nv_aPredicted nv_aLevels nv_aModes nv_aSides nv_aGroup nv_aCoef nv_aBetween nv_aResult nv_aRefs nv_aUnsm nv_aBefore) r0 := by
  refine ip_startI (cc := cIP_decode) (maxL := 6) (by decide) rfl (Nat.le_of_ble_eq_true rfl) ?_
  intro p e s m args below meth c Q A ls hx hb hml hts hown hK hP hD hS hA hZ hl hret
  replace hl : lv_has ls 6 [(0, .ref (ad 0))] := hl
  unfold fIP_decode at hf
  suffices J0 : ∀ (ls : Array Slot) (H : Heap) (locs : List Loc), lv_has ls 6 [(0, .ref (ad 0))] → va_P (dC, dI) vwCl (wIP_decode ad cI v_IP_pictureStands v_FB_count v_FB_chosenLength v_RB_place v_RB_end v_PA_there v_PA_fault v_BD_range v_BD_value v_LF_x v_LF_y v_LF_side v_LF_mode v_LF_skip v_PI_leaves v_LR_first v_LR_last v_LR_sum v_PR_side v_aBytes v_aChosen v_aValues v_aComing v_aChances v_aCounts v_aSamples v_aPlain v_aPredicted v_aLevels v_aModes v_aSides v_aGroup v_aCoef v_aBetween v_aResult v_aRefs v_aUnsm v_aBefore) H → va_D A (wIP_decode ad cI v_IP_pictureStands v_FB_count v_FB_chosenLength v_RB_place v_RB_end v_PA_there v_PA_fault v_BD_range v_BD_value v_LF_x v_LF_y v_LF_side v_LF_mode v_LF_skip v_PI_leaves v_LR_first v_LR_last v_LR_sum v_PR_side v_aBytes v_aChosen v_aValues v_aComing v_aChances v_aCounts v_aSamples v_aPlain v_aPredicted v_aLevels v_aModes v_aSides v_aGroup v_aCoef v_aBetween v_aResult v_aRefs v_aUnsm v_aBefore) → va_S A s.heap H locs → W p l e rmIP_decode s m args below meth c H locs 0 0 Q (F0 m 0 ls []) by exact J0 ls s.heap [] hl hP hD hS
  clear hP hD hS hl
  intro ls H locs hl hP hD hS
  refine lv_aload_n hx hb dIP_decode_0 rfl (lv_at hl 0 rfl) ?_
  refine va_get (D := (dC, dI)) (ci := 0) (v := .ref (ad 3)) (C := kR_IP) (T := kT_IP) (N := 7) hx hb hts kin_IP hown hK hP 0 rfl rfl 2 (by decide) (hts _ (List.mem_cons_of_mem _ kw2_59)) (fun _ h9 => h9) rfl dIP_decode_1 ?_
  refine lv_iconst (v := (0 : Int32)) hx hb dIP_decode_4 (by decide) ?_
  refine va_put (D := (dC, dI)) (ci := 3) (v := .int (0 : Int32)) (ty := .boolean) (C := kR_PA) (T := kT_PA) (N := 5) hx hb hts kin_PA kty_PA kto_PA knm_PA hown hK hP hD hS 3 rfl rfl 3 (by decide) (hts _ (List.mem_cons_of_mem _ kw1_76)) (fun _ h9 => h9) rfl (by decide +kernel) rfl rfl (Nat.le_of_ble_eq_true rfl) dIP_decode_5 (fun H locs hP hD hS => ?_)
  replace hP : va_P (dC, dI) vwCl (wIP_decode ad cI v_IP_pictureStands v_FB_count v_FB_chosenLength v_RB_place v_RB_end (0 : Int32) v_PA_fault v_BD_range v_BD_value v_LF_x v_LF_y v_LF_side v_LF_mode v_LF_skip v_PI_leaves v_LR_first v_LR_last v_LR_sum v_PR_side v_aBytes v_aChosen v_aValues v_aComing v_aChances v_aCounts v_aSamples v_aPlain v_aPredicted v_aLevels v_aModes v_aSides v_aGroup v_aCoef v_aBetween v_aResult v_aRefs v_aUnsm v_aBefore) H := hP
  replace hD : va_D A (wIP_decode ad cI v_IP_pictureStands v_FB_count v_FB_chosenLength v_RB_place v_RB_end (0 : Int32) v_PA_fault v_BD_range v_BD_value v_LF_x v_LF_y v_LF_side v_LF_mode v_LF_skip v_PI_leaves v_LR_first v_LR_last v_LR_sum v_PR_side v_aBytes v_aChosen v_aValues v_aComing v_aChances v_aCounts v_aSamples v_aPlain v_aPredicted v_aLevels v_aModes v_aSides v_aGroup v_aCoef v_aBetween v_aResult v_aRefs v_aUnsm v_aBefore) := hD
  refine lv_aload_n hx hb dIP_decode_8 rfl (lv_at hl 0 rfl) ?_
  refine lv_iconst (v := (0 : Int32)) hx hb dIP_decode_9 (by decide) ?_
  refine va_put (D := (dC, dI)) (ci := 0) (v := .int (0 : Int32)) (ty := .boolean) (C := kR_IP) (T := kT_IP) (N := 7) hx hb hts kin_IP kty_IP kto_IP knm_IP hown hK hP hD hS 0 rfl rfl 6 (by decide) (hts _ (List.mem_cons_of_mem _ kw2_63)) (fun _ h9 => h9) rfl (by decide +kernel) rfl rfl (Nat.le_of_ble_eq_true rfl) dIP_decode_10 (fun H locs hP hD hS => ?_)
  replace hP : va_P (dC, dI) vwCl (wIP_decode ad cI (0 : Int32) v_FB_count v_FB_chosenLength v_RB_place v_RB_end (0 : Int32) v_PA_fault v_BD_range v_BD_value v_LF_x v_LF_y v_LF_side v_LF_mode v_LF_skip v_PI_leaves v_LR_first v_LR_last v_LR_sum v_PR_side v_aBytes v_aChosen v_aValues v_aComing v_aChances v_aCounts v_aSamples v_aPlain v_aPredicted v_aLevels v_aModes v_aSides v_aGroup v_aCoef v_aBetween v_aResult v_aRefs v_aUnsm v_aBefore) H := hP
  replace hD : va_D A (wIP_decode ad cI (0 : Int32) v_FB_count v_FB_chosenLength v_RB_place v_RB_end (0 : Int32) v_PA_fault v_BD_range v_BD_value v_LF_x v_LF_y v_LF_side v_LF_mode v_LF_skip v_PI_leaves v_LR_first v_LR_last v_LR_sum v_PR_side v_aBytes v_aChosen v_aValues v_aComing v_aChances v_aCounts v_aSamples v_aPlain v_aPredicted v_aLevels v_aModes v_aSides v_aGroup v_aCoef v_aBetween v_aResult v_aRefs v_aUnsm v_aBefore) := hD
  refine lv_iconst (v := (0 : Int32)) hx hb dIP_decode_13 (by decide) ?_
  refine lv_istore_n (lv' := [(1, .int (0 : Int32)), (0, .ref (ad 0))]) hx hb dIP_decode_14 rfl hl (by decide) rfl (fun ls hl => ?_)
  refine lv_iconst (v := (0 : Int32)) hx hb dIP_decode_15 (by decide) ?_
  refine lv_istore_n (lv' := [(2, .int (0 : Int32)), (1, .int (0 : Int32)), (0, .ref (ad 0))]) hx hb dIP_decode_16 rfl hl (by decide) rfl (fun ls hl => ?_)
  refine lv_aload_n hx hb dIP_decode_17 rfl (lv_at hl 2 rfl) ?_
  refine va_get (D := (dC, dI)) (ci := 0) (v := .ref (ad 1)) (C := kR_IP) (T := kT_IP) (N := 7) hx hb hts kin_IP hown hK hP 0 rfl rfl 0 (by decide) (hts _ (List.mem_cons_of_mem _ kw2_57)) (fun _ h9 => h9) rfl dIP_decode_18 ?_
  obtain ⟨z1, hc, hf⟩ := ip_b1_e hf
  refine ip_calli (va_runV (As := []) (rest := []) ⟨hx, hb, hml, hown, hts⟩ (tFB_countStarts (l := l) (dC := dC) (dI := dI) (ad := ad) (cI := cI) (ts := (ip_TS t0 t1 t2 t3)) hc H.size) (cwV 0 hts (ip_gdV (own := kR_IP) (idx := 79) (C := kR_FB) (y := yFB_countStarts) kw2_95 kw2_96 kw2_97 kw1_2 kw2_98) rfl rfl rfl (by decide +kernel) ⟨Nat.le_of_ble_eq_true rfl, Nat.le_of_ble_eq_true rfl⟩) (ip_preV hK hP hD hS hA hZ [1, 12] rfl rfl (ci := 1) (q0 := 1) rfl rfl) rfl rfl hl.1 rfl (lv_room (Nat.le_of_ble_eq_true rfl)) dIP_decode_21 ⟨Nat.le_of_ble_eq_true rfl, Nat.le_of_ble_eq_true rfl⟩) hP hD hS hA [1, 12] [0, 2, 3, 4, 5, 6, 7, 8, 9, 10, 11, 13, 14, 15, 16, 17, 18, 19, 20, 21, 22, 23, 24, 25, 26, 27, 28, 29, 30] [0, 29, 1, 2, 3, 4, 5, 6, 7, 8, 9, 10, 30, 11, 12, 13, 14, 15, 16, 17, 18, 19, 20, 21, 22, 23, 24, 25, 26, 27, 28] (wIP_decode ad cI (0 : Int32) v_FB_count v_FB_chosenLength v_RB_place v_RB_end (0 : Int32) v_PA_fault v_BD_range v_BD_value v_LF_x v_LF_y v_LF_side v_LF_mode v_LF_skip v_PI_leaves v_LR_first v_LR_last v_LR_sum v_PR_side v_aBytes v_aChosen v_aValues v_aComing v_aChances v_aCounts v_aSamples v_aPlain v_aPredicted v_aLevels v_aModes v_aSides v_aGroup v_aCoef v_aBetween v_aResult v_aRefs v_aUnsm v_aBefore) rfl rfl rfl (by decide) rfl rfl (fun H locs hP hD hS => ?_)
  clear hc
  refine lv_istore_n (lv' := [(3, .int z1), (2, .int (0 : Int32)), (1, .int (0 : Int32)), (0, .ref (ad 0))]) hx hb dIP_decode_24 rfl hl (by decide) rfl (fun ls hl => ?_)
  refine lv_iconst (v := (0 : Int32)) hx hb dIP_decode_25 (by decide) ?_
  refine lv_istore (lv' := [(4, .int (0 : Int32)), (3, .int z1), (2, .int (0 : Int32)), (1, .int (0 : Int32)), (0, .ref (ad 0))]) hx hb dIP_decode_26 hl (by decide) rfl (fun ls hl => ?_)
  replace hl := lv_sub hl (l' := [(0, .ref (ad 0)), (1, .int (0 : Int32)), (2, .int (0 : Int32)), (3, .int z1), (4, .int (0 : Int32))]) [4, 3, 2, 1, 0] rfl
  obtain ⟨x40, x41, x42, x43, x44, x45, x46, x47, x48, x49, x50, x51, x52, x53, x54, x55, x56, x57, x58, x59, y60, y61, y62, y63, y64, y65, y66, y67, y68, y69, y70, y71, y72, y73, y74, y75, y76, y77, hL, hf⟩ := ip_b38_e hf
  suffices J131 : ∀ (ls : Array Slot) (H : Heap) (locs : List Loc), lv_has ls 6 [(0, .ref (ad 0)), (1, .int x40), (2, .int x41)] → va_P (dC, dI) vwCl (wIP_decode ad cI (0 : Int32) v_FB_count x43 x44 x45 x46 x47 x48 x49 x50 x51 x52 x53 x54 x55 x56 x57 x58 x59 v_aBytes y60 y61 y62 y63 y64 y65 y66 y67 y68 y69 y70 y71 y72 y73 y74 y75 y76 y77) H → va_D A (wIP_decode ad cI (0 : Int32) v_FB_count x43 x44 x45 x46 x47 x48 x49 x50 x51 x52 x53 x54 x55 x56 x57 x58 x59 v_aBytes y60 y61 y62 y63 y64 y65 y66 y67 y68 y69 y70 y71 y72 y73 y74 y75 y76 y77) → va_S A s.heap H locs → W p l e rmIP_decode s m args below meth c H locs 0 0 Q (F0 m 131 ls []) by
    have L : ∀ (n : Nat) (z2 : Int32) (z3 : Int32) (z4 : Int32) (z5 : Int32) (z6 : Int32) (z7 : Int32) (z8 : Int32) (z9 : Int32) (z10 : Int32) (z11 : Int32) (z12 : Int32) (z13 : Int32) (z14 : Int32) (z15 : Int32) (z16 : Int32) (z17 : Int32) (z18 : Int32) (z19 : Int32) (z20 : Int32) (z21 : Int32) (g22 : Nat → Int32) (g23 : Nat → Int32) (g24 : Nat → Int32) (g25 : Nat → Int32) (g26 : Nat → Int32) (g27 : Nat → Int32) (g28 : Nat → Int32) (g29 : Nat → Int32) (g30 : Nat → Int32) (g31 : Nat → Int32) (g32 : Nat → Int32) (g33 : Nat → Int32) (g34 : Nat → Int32) (g35 : Nat → Int32) (g36 : Nat → Int32) (g37 : Nat → Int32) (g38 : Nat → Int32) (g39 : Nat → Int32), ip_lp38 (fIP_decode_B28 v_FB_count v_aBytes z1) n z2 z3 z4 z5 z6 z7 z8 z9 z10 z11 z12 z13 z14 z15 z16 z17 z18 z19 z20 z21 g22 g23 g24 g25 g26 g27 g28 g29 g30 g31 g32 g33 g34 g35 g36 g37 g38 g39 = some (x40, x41, x42, x43, x44, x45, x46, x47, x48, x49, x50, x51, x52, x53, x54, x55, x56, x57, x58, x59, y60, y61, y62, y63, y64, y65, y66, y67, y68, y69, y70, y71, y72, y73, y74, y75, y76, y77) → ∀ (ls : Array Slot) (H : Heap) (locs : List Loc), lv_has ls 6 [(0, .ref (ad 0)), (1, .int z2), (2, .int z3), (3, .int z1), (4, .int z4)] → va_P (dC, dI) vwCl (wIP_decode ad cI (0 : Int32) v_FB_count z5 z6 z7 z8 z9 z10 z11 z12 z13 z14 z15 z16 z17 z18 z19 z20 z21 v_aBytes g22 g23 g24 g25 g26 g27 g28 g29 g30 g31 g32 g33 g34 g35 g36 g37 g38 g39) H → va_D A (wIP_decode ad cI (0 : Int32) v_FB_count z5 z6 z7 z8 z9 z10 z11 z12 z13 z14 z15 z16 z17 z18 z19 z20 z21 v_aBytes g22 g23 g24 g25 g26 g27 g28 g29 g30 g31 g32 g33 g34 g35 g36 g37 g38 g39) → va_S A s.heap H locs → W p l e rmIP_decode s m args below meth c H locs 0 0 Q (F0 m 28 ls []) := by
      intro n
      induction n with
      | zero => intro z2 z3 z4 z5 z6 z7 z8 z9 z10 z11 z12 z13 z14 z15 z16 z17 z18 z19 z20 z21 g22 g23 g24 g25 g26 g27 g28 g29 g30 g31 g32 g33 g34 g35 g36 g37 g38 g39 hL; exact (ip_lp38_0 hL).elim
      | succ n ih =>
        intro z2 z3 z4 z5 z6 z7 z8 z9 z10 z11 z12 z13 z14 z15 z16 z17 z18 z19 z20 z21 g22 g23 g24 g25 g26 g27 g28 g29 g30 g31 g32 g33 g34 g35 g36 g37 g38 g39 hL ls H locs hl hP hD hS
        clear hf
        obtain ⟨r9, hf, hr28⟩ := ip_lp38_s hL
        clear hL
        unfold fIP_decode_B28 at hf
        refine lv_iload hx hb dIP_decode_28 (lv_at hl 4 rfl) ?_
        refine lv_iload_n hx hb dIP_decode_30 rfl (lv_at hl 3 rfl) ?_
        refine ip_icmp_ge (tgt := 131) hx hb dIP_decode_31 rfl hf (fun hf => ?_) (fun hf => ?_)
        · have hx9 := ip_lp_x hr28 hf
          replace hl := lv_sub hl (l' := [(0, .ref (ad 0)), (1, .int z2), (2, .int z3)]) [0, 1, 2] rfl
          cases hx9
          exact J131 ls H locs hl hP hD hS
        · refine lv_iload_n hx hb dIP_decode_34 rfl (lv_at hl 2 rfl) ?_
          refine ip_if_ne (tgt := 131) hx hb dIP_decode_35 rfl hf (fun hf => ?_) (fun hf => ?_)
          · have hx9 := ip_lp_x hr28 hf
            replace hl := lv_sub hl (l' := [(0, .ref (ad 0)), (1, .int z2), (2, .int z3)]) [0, 1, 2] rfl
            cases hx9
            exact J131 ls H locs hl hP hD hS
          · refine lv_aload_n hx hb dIP_decode_38 rfl (lv_at hl 0 rfl) ?_
            refine va_get (D := (dC, dI)) (ci := 0) (v := .ref (ad 1)) (C := kR_IP) (T := kT_IP) (N := 7) hx hb hts kin_IP hown hK hP 0 rfl rfl 0 (by decide) (hts _ (List.mem_cons_of_mem _ kw2_57)) (fun _ h9 => h9) rfl dIP_decode_39 ?_
            refine lv_iload hx hb dIP_decode_42 (lv_at hl 4 rfl) ?_
            obtain ⟨z78, z79, g80, hc, hf⟩ := ip_b3_e hf
            refine ip_calli (va_runV (As := [.int z4]) (rest := []) ⟨hx, hb, hml, hown, hts⟩ (tFB_choose (l := l) (dC := dC) (dI := dI) (ad := ad) (cI := cI) (ts := (ip_TS t0 t1 t2 t3)) hc H.size) (cwV 1 hts (ip_gdV (own := kR_IP) (idx := 83) (C := kR_FB) (y := yFB_choose) kw2_107 kw2_108 kw2_109 kw1_2 kw2_110) rfl rfl rfl (by decide +kernel) ⟨Nat.le_of_ble_eq_true rfl, Nat.le_of_ble_eq_true rfl⟩) (ip_preV hK hP hD hS hA hZ [1, 12, 13] rfl rfl (ci := 1) (q0 := 1) rfl rfl) rfl rfl hl.1 rfl (lv_room (Nat.le_of_ble_eq_true rfl)) dIP_decode_44 ⟨Nat.le_of_ble_eq_true rfl, Nat.le_of_ble_eq_true rfl⟩) hP hD hS hA [1, 12, 13] [0, 2, 3, 4, 5, 6, 7, 8, 9, 10, 11, 14, 15, 16, 17, 18, 19, 20, 21, 22, 23, 24, 25, 26, 27, 28, 29, 30] [0, 28, 1, 2, 3, 4, 5, 6, 7, 8, 9, 10, 29, 30, 11, 12, 13, 14, 15, 16, 17, 18, 19, 20, 21, 22, 23, 24, 25, 26, 27] (wIP_decode ad cI (0 : Int32) v_FB_count z79 z6 z7 z8 z9 z10 z11 z12 z13 z14 z15 z16 z17 z18 z19 z20 z21 v_aBytes g80 g23 g24 g25 g26 g27 g28 g29 g30 g31 g32 g33 g34 g35 g36 g37 g38 g39) rfl rfl rfl (by decide) rfl rfl (fun H locs hP hD hS => ?_)
            clear hc
            refine lv_pop hx hb dIP_decode_47 rfl ?_
            refine lv_aload_n hx hb dIP_decode_48 rfl (lv_at hl 0 rfl) ?_
            refine va_get (D := (dC, dI)) (ci := 0) (v := .ref (ad 2)) (C := kR_IP) (T := kT_IP) (N := 7) hx hb hts kin_IP hown hK hP 0 rfl rfl 1 (by decide) (hts _ (List.mem_cons_of_mem _ kw2_58)) (fun _ h9 => h9) rfl dIP_decode_49 ?_
            refine lv_aload_n hx hb dIP_decode_52 rfl (lv_at hl 0 rfl) ?_
            refine va_get (D := (dC, dI)) (ci := 0) (v := .ref (ad 1)) (C := kR_IP) (T := kT_IP) (N := 7) hx hb hts kin_IP hown hK hP 0 rfl rfl 0 (by decide) (hts _ (List.mem_cons_of_mem _ kw2_57)) (fun _ h9 => h9) rfl dIP_decode_53 ?_
            refine va_get (D := (dC, dI)) (ci := 1) (v := .int z79) (C := kR_FB) (T := kT_FB) (N := 4) hx hb hts kin_FB hown hK hP 1 rfl rfl 3 (by decide) (hts _ (List.mem_cons_of_mem _ kw1_37)) (fun _ h9 => h9) rfl dIP_decode_56 ?_
            obtain ⟨z81, z82, hc, hf⟩ := ip_b2_e hf
            refine ip_callv (va_runV (As := [.int z79]) (rest := []) ⟨hx, hb, hml, hown, hts⟩ (tRB_rewind (l := l) (dC := dC) (dI := dI) (ad := ad) (cI := cI) (ts := (ip_TS t0 t1 t2 t3)) hc H.size) (cwV 1 hts (ip_gdV (own := kR_IP) (idx := 90) (C := kR_RB) (y := yRB_rewind) kw2_119 kw2_120 kw2_121 kw1_3 kw2_122) rfl rfl rfl (by decide +kernel) ⟨Nat.le_of_ble_eq_true rfl, Nat.le_of_ble_eq_true rfl⟩) (ip_preV hK hP hD hS hA hZ [2] rfl rfl (ci := 2) (q0 := 2) rfl rfl) rfl rfl hl.1 rfl (lv_room (Nat.le_of_ble_eq_true rfl)) dIP_decode_59 ⟨Nat.le_of_ble_eq_true rfl, Nat.le_of_ble_eq_true rfl⟩) hP hD hS hA [2] [0, 1, 3, 4, 5, 6, 7, 8, 9, 10, 11, 12, 13, 14, 15, 16, 17, 18, 19, 20, 21, 22, 23, 24, 25, 26, 27, 28, 29, 30] [0, 1, 30, 2, 3, 4, 5, 6, 7, 8, 9, 10, 11, 12, 13, 14, 15, 16, 17, 18, 19, 20, 21, 22, 23, 24, 25, 26, 27, 28, 29] (wIP_decode ad cI (0 : Int32) v_FB_count z79 z81 z82 z8 z9 z10 z11 z12 z13 z14 z15 z16 z17 z18 z19 z20 z21 v_aBytes g80 g23 g24 g25 g26 g27 g28 g29 g30 g31 g32 g33 g34 g35 g36 g37 g38 g39) rfl rfl rfl (by decide) rfl rfl (fun H locs hP hD hS => ?_)
            clear hc
            refine lv_aload_n hx hb dIP_decode_62 rfl (lv_at hl 0 rfl) ?_
            refine va_get (D := (dC, dI)) (ci := 0) (v := .ref (ad 1)) (C := kR_IP) (T := kT_IP) (N := 7) hx hb hts kin_IP hown hK hP 0 rfl rfl 0 (by decide) (hts _ (List.mem_cons_of_mem _ kw2_57)) (fun _ h9 => h9) rfl dIP_decode_63 ?_
            obtain ⟨z83, hc, hf⟩ := ip_b1_e hf
            refine ip_calli (va_runV (As := []) (rest := []) ⟨hx, hb, hml, hown, hts⟩ (tFB_chosenKind (l := l) (dC := dC) (dI := dI) (ad := ad) (cI := cI) (ts := (ip_TS t0 t1 t2 t3)) hc H.size) (cwV 0 hts (ip_gdV (own := kR_IP) (idx := 94) (C := kR_FB) (y := yFB_chosenKind) kw2_123 kw2_124 kw2_125 kw1_2 kw2_126) rfl rfl rfl (by decide +kernel) ⟨Nat.le_of_ble_eq_true rfl, Nat.le_of_ble_eq_true rfl⟩) (ip_preV hK hP hD hS hA hZ [1, 13] rfl rfl (ci := 1) (q0 := 1) rfl rfl) rfl rfl hl.1 rfl (lv_room (Nat.le_of_ble_eq_true rfl)) dIP_decode_66 ⟨Nat.le_of_ble_eq_true rfl, Nat.le_of_ble_eq_true rfl⟩) hP hD hS hA [1, 13] [0, 2, 3, 4, 5, 6, 7, 8, 9, 10, 11, 12, 14, 15, 16, 17, 18, 19, 20, 21, 22, 23, 24, 25, 26, 27, 28, 29, 30] [0, 29, 1, 2, 3, 4, 5, 6, 7, 8, 9, 10, 11, 30, 12, 13, 14, 15, 16, 17, 18, 19, 20, 21, 22, 23, 24, 25, 26, 27, 28] (wIP_decode ad cI (0 : Int32) v_FB_count z79 z81 z82 z8 z9 z10 z11 z12 z13 z14 z15 z16 z17 z18 z19 z20 z21 v_aBytes g80 g23 g24 g25 g26 g27 g28 g29 g30 g31 g32 g33 g34 g35 g36 g37 g38 g39) rfl rfl rfl (by decide) rfl rfl (fun H locs hP hD hS => ?_)
            clear hc
            refine lv_istore (lv' := [(5, .int z83), (0, .ref (ad 0)), (1, .int z2), (2, .int z3), (3, .int z1), (4, .int z4)]) hx hb dIP_decode_69 hl (by decide) rfl (fun ls hl => ?_)
            refine lv_iload hx hb dIP_decode_71 (lv_at hl 0 rfl) ?_
            refine lv_iconst (v := (1 : Int32)) hx hb dIP_decode_73 (by decide) ?_
            obtain ⟨z84, z85, z86, z87, z88, z89, z90, z91, z92, z93, z94, z95, z96, z97, z98, z99, z100, g101, g102, g103, g104, g105, g106, g107, g108, g109, g110, g111, g112, g113, g114, g115, g116, g117, hh, hf⟩ := ip_b34_e hf
            suffices J125 : ∀ (ls : Array Slot) (H : Heap) (locs : List Loc), lv_has ls 6 [(0, .ref (ad 0)), (1, .int z84), (2, .int z85), (3, .int z1), (4, .int z4)] → va_P (dC, dI) vwCl (wIP_decode ad cI (0 : Int32) v_FB_count z79 z86 z82 z87 z88 z89 z90 z91 z92 z93 z94 z95 z96 z97 z98 z99 z100 v_aBytes g80 g101 g102 g103 g104 g105 g106 g107 g108 g109 g110 g111 g112 g113 g114 g115 g116 g117) H → va_D A (wIP_decode ad cI (0 : Int32) v_FB_count z79 z86 z82 z87 z88 z89 z90 z91 z92 z93 z94 z95 z96 z97 z98 z99 z100 v_aBytes g80 g101 g102 g103 g104 g105 g106 g107 g108 g109 g110 g111 g112 g113 g114 g115 g116 g117) → va_S A s.heap H locs → W p l e rmIP_decode s m args below meth c H locs 0 0 Q (F0 m 125 ls []) by
              replace hf := hh
              refine ip_icmp_ne (tgt := 88) hx hb dIP_decode_74 rfl hf (fun hf => ?_) (fun hf => ?_)
              · refine lv_iload hx hb dIP_decode_88 (lv_at hl 0 rfl) ?_
                refine lv_iconst (v := (2 : Int32)) hx hb dIP_decode_90 (by decide) ?_
                refine ip_icmp_ne (tgt := 110) hx hb dIP_decode_91 rfl hf (fun hf => ?_) (fun hf => ?_)
                · refine lv_iload hx hb dIP_decode_110 (lv_at hl 0 rfl) ?_
                  refine lv_iconst (v := (2 : Int32)) hx hb dIP_decode_112 (by decide) ?_
                  refine ip_icmp_ne (tgt := 125) hx hb dIP_decode_113 rfl hf (fun hf => ?_) (fun hf => ?_)
                  · replace hl := lv_sub hl (l' := [(0, .ref (ad 0)), (1, .int z2), (2, .int z3), (3, .int z1), (4, .int z4)]) [1, 2, 3, 4, 5] rfl
                    cases hf
                    exact J125 ls H locs hl hP hD hS
                  · refine lv_aload_n hx hb dIP_decode_116 rfl (lv_at hl 1 rfl) ?_
                    refine va_get (D := (dC, dI)) (ci := 0) (v := .ref (ad 7)) (C := kR_IP) (T := kT_IP) (N := 7) hx hb hts kin_IP hown hK hP 0 rfl rfl 5 (by decide) (hts _ (List.mem_cons_of_mem _ kw2_62)) (fun _ h9 => h9) rfl dIP_decode_117 ?_
                    obtain ⟨z118, z119, z120, z121, z122, z123, z124, z125, z126, z127, z128, z129, z130, g131, g132, g133, g134, g135, g136, g137, g138, g139, g140, g141, g142, g143, g144, g145, hc, hf⟩ := ip_b28_e hf
                    refine ip_callv (va_runV (As := []) (rest := []) ⟨hx, hb, hml, hown, hts⟩ (tPI_readUnit (l := l) (dC := dC) (dI := dI) (ad := ad) (cI := cI) (t0 := t0) (t1 := t1) (t2 := t2) (t3 := t3) hc H.size) (cwV 0 hts (ip_gdV (own := kR_IP) (idx := 100) (C := kR_PI) (y := yPI_readUnit) kw2_165 kw2_166 kw2_167 kw1_7 kw2_168) rfl rfl rfl (by decide +kernel) ⟨Nat.le_of_ble_eq_true rfl, Nat.le_of_ble_eq_true rfl⟩) (ip_preV hK hP hD hS hA hZ [2, 4, 5, 6, 7, 8, 9, 10, 11, 13, 14, 16, 17, 18, 19, 20, 21, 22, 23, 24, 25, 26, 27, 28, 29, 30] rfl rfl (ci := 7) (q0 := 7) rfl rfl) rfl rfl hl.1 rfl (lv_room (Nat.le_of_ble_eq_true rfl)) dIP_decode_120 ⟨Nat.le_of_ble_eq_true rfl, Nat.le_of_ble_eq_true rfl⟩) hP hD hS hA [2, 4, 5, 6, 7, 8, 9, 10, 11, 13, 14, 16, 17, 18, 19, 20, 21, 22, 23, 24, 25, 26, 27, 28, 29, 30] [0, 1, 3, 12, 15] [0, 1, 5, 2, 6, 7, 8, 9, 10, 11, 12, 13, 3, 14, 15, 4, 16, 17, 18, 19, 20, 21, 22, 23, 24, 25, 26, 27, 28, 29, 30] (wIP_decode ad cI (0 : Int32) v_FB_count z79 z118 z82 z8 z9 z119 z120 z121 z122 z123 z124 z125 z126 z127 z128 z129 z130 v_aBytes g80 g23 g24 g131 g132 g133 g134 g135 g136 g137 g138 g139 g140 g141 g142 g143 g144 g145) rfl rfl rfl (by decide) rfl rfl (fun H locs hP hD hS => ?_)
                    clear hc
                    refine lv_iconst (v := (1 : Int32)) hx hb dIP_decode_123 (by decide) ?_
                    refine lv_istore_n (lv' := [(1, .int (1 : Int32)), (5, .int z83), (0, .ref (ad 0)), (2, .int z3), (3, .int z1), (4, .int z4)]) hx hb dIP_decode_124 rfl hl (by decide) rfl (fun ls hl => ?_)
                    replace hl := lv_sub hl (l' := [(0, .ref (ad 0)), (1, .int (1 : Int32)), (2, .int z3), (3, .int z1), (4, .int z4)]) [2, 0, 3, 4, 5] rfl
                    cases hf
                    exact J125 ls H locs hl hP hD hS
                · refine lv_aload_n hx hb dIP_decode_94 rfl (lv_at hl 1 rfl) ?_
                  refine va_get (D := (dC, dI)) (ci := 0) (v := .ref (ad 3)) (C := kR_IP) (T := kT_IP) (N := 7) hx hb hts kin_IP hown hK hP 0 rfl rfl 2 (by decide) (hts _ (List.mem_cons_of_mem _ kw2_59)) (fun _ h9 => h9) rfl dIP_decode_95 ?_
                  refine va_get (D := (dC, dI)) (ci := 3) (v := .int z8) (C := kR_PA) (T := kT_PA) (N := 5) hx hb hts kin_PA hown hK hP 3 rfl rfl 3 (by decide) (hts _ (List.mem_cons_of_mem _ kw1_76)) (fun _ h9 => h9) rfl dIP_decode_98 ?_
                  refine ip_if_ne (tgt := 110) hx hb dIP_decode_101 rfl hf (fun hf => ?_) (fun hf => ?_)
                  · refine lv_iload hx hb dIP_decode_110 (lv_at hl 0 rfl) ?_
                    refine lv_iconst (v := (2 : Int32)) hx hb dIP_decode_112 (by decide) ?_
                    refine ip_icmp_ne (tgt := 125) hx hb dIP_decode_113 rfl hf (fun hf => ?_) (fun hf => ?_)
                    · replace hl := lv_sub hl (l' := [(0, .ref (ad 0)), (1, .int z2), (2, .int z3), (3, .int z1), (4, .int z4)]) [1, 2, 3, 4, 5] rfl
                      cases hf
                      exact J125 ls H locs hl hP hD hS
                    · refine lv_aload_n hx hb dIP_decode_116 rfl (lv_at hl 1 rfl) ?_
                      refine va_get (D := (dC, dI)) (ci := 0) (v := .ref (ad 7)) (C := kR_IP) (T := kT_IP) (N := 7) hx hb hts kin_IP hown hK hP 0 rfl rfl 5 (by decide) (hts _ (List.mem_cons_of_mem _ kw2_62)) (fun _ h9 => h9) rfl dIP_decode_117 ?_
                      obtain ⟨z146, z147, z148, z149, z150, z151, z152, z153, z154, z155, z156, z157, z158, g159, g160, g161, g162, g163, g164, g165, g166, g167, g168, g169, g170, g171, g172, g173, hc, hf⟩ := ip_b28_e hf
                      refine ip_callv (va_runV (As := []) (rest := []) ⟨hx, hb, hml, hown, hts⟩ (tPI_readUnit (l := l) (dC := dC) (dI := dI) (ad := ad) (cI := cI) (t0 := t0) (t1 := t1) (t2 := t2) (t3 := t3) hc H.size) (cwV 0 hts (ip_gdV (own := kR_IP) (idx := 100) (C := kR_PI) (y := yPI_readUnit) kw2_165 kw2_166 kw2_167 kw1_7 kw2_168) rfl rfl rfl (by decide +kernel) ⟨Nat.le_of_ble_eq_true rfl, Nat.le_of_ble_eq_true rfl⟩) (ip_preV hK hP hD hS hA hZ [2, 4, 5, 6, 7, 8, 9, 10, 11, 13, 14, 16, 17, 18, 19, 20, 21, 22, 23, 24, 25, 26, 27, 28, 29, 30] rfl rfl (ci := 7) (q0 := 7) rfl rfl) rfl rfl hl.1 rfl (lv_room (Nat.le_of_ble_eq_true rfl)) dIP_decode_120 ⟨Nat.le_of_ble_eq_true rfl, Nat.le_of_ble_eq_true rfl⟩) hP hD hS hA [2, 4, 5, 6, 7, 8, 9, 10, 11, 13, 14, 16, 17, 18, 19, 20, 21, 22, 23, 24, 25, 26, 27, 28, 29, 30] [0, 1, 3, 12, 15] [0, 1, 5, 2, 6, 7, 8, 9, 10, 11, 12, 13, 3, 14, 15, 4, 16, 17, 18, 19, 20, 21, 22, 23, 24, 25, 26, 27, 28, 29, 30] (wIP_decode ad cI (0 : Int32) v_FB_count z79 z146 z82 z8 z9 z147 z148 z149 z150 z151 z152 z153 z154 z155 z156 z157 z158 v_aBytes g80 g23 g24 g159 g160 g161 g162 g163 g164 g165 g166 g167 g168 g169 g170 g171 g172 g173) rfl rfl rfl (by decide) rfl rfl (fun H locs hP hD hS => ?_)
                      clear hc
                      refine lv_iconst (v := (1 : Int32)) hx hb dIP_decode_123 (by decide) ?_
                      refine lv_istore_n (lv' := [(1, .int (1 : Int32)), (5, .int z83), (0, .ref (ad 0)), (2, .int z3), (3, .int z1), (4, .int z4)]) hx hb dIP_decode_124 rfl hl (by decide) rfl (fun ls hl => ?_)
                      replace hl := lv_sub hl (l' := [(0, .ref (ad 0)), (1, .int (1 : Int32)), (2, .int z3), (3, .int z1), (4, .int z4)]) [2, 0, 3, 4, 5] rfl
                      cases hf
                      exact J125 ls H locs hl hP hD hS
                  · refine lv_bipush (v := (-2 : Int32)) hx hb dIP_decode_104 (by decide) ?_
                    refine lv_istore_n (lv' := [(2, .int (-2 : Int32)), (5, .int z83), (0, .ref (ad 0)), (1, .int z2), (3, .int z1), (4, .int z4)]) hx hb dIP_decode_106 rfl hl (by decide) rfl (fun ls hl => ?_)
                    refine lv_goto (tgt := 125) hx hb dIP_decode_107 rfl ?_
                    replace hl := lv_sub hl (l' := [(0, .ref (ad 0)), (1, .int z2), (2, .int (-2 : Int32)), (3, .int z1), (4, .int z4)]) [2, 3, 0, 4, 5] rfl
                    cases hf
                    exact J125 ls H locs hl hP hD hS
              · refine lv_aload_n hx hb dIP_decode_77 rfl (lv_at hl 1 rfl) ?_
                refine va_get (D := (dC, dI)) (ci := 0) (v := .ref (ad 3)) (C := kR_IP) (T := kT_IP) (N := 7) hx hb hts kin_IP hown hK hP 0 rfl rfl 2 (by decide) (hts _ (List.mem_cons_of_mem _ kw2_59)) (fun _ h9 => h9) rfl dIP_decode_78 ?_
                obtain ⟨z174, z175, z176, z177, g178, g179, hc, hf⟩ := ip_b6_e hf
                refine ip_calli (va_runV (As := []) (rest := []) ⟨hx, hb, hml, hown, hts⟩ (tPA_readUnit (l := l) (dC := dC) (dI := dI) (ad := ad) (cI := cI) (ts := (ip_TS t0 t1 t2 t3)) hc H.size) (cwV 0 hts (ip_gdV (own := kR_IP) (idx := 97) (C := kR_PA) (y := yPA_readUnit) kw2_127 kw2_128 kw2_129 kw1_4 kw2_130) rfl rfl rfl (by decide +kernel) ⟨Nat.le_of_ble_eq_true rfl, Nat.le_of_ble_eq_true rfl⟩) (ip_preV hK hP hD hS hA hZ [2, 3, 13, 14, 15] rfl rfl (ci := 3) (q0 := 3) rfl rfl) rfl rfl hl.1 rfl (lv_room (Nat.le_of_ble_eq_true rfl)) dIP_decode_81 ⟨Nat.le_of_ble_eq_true rfl, Nat.le_of_ble_eq_true rfl⟩) hP hD hS hA [2, 3, 13, 14, 15] [0, 1, 4, 5, 6, 7, 8, 9, 10, 11, 12, 16, 17, 18, 19, 20, 21, 22, 23, 24, 25, 26, 27, 28, 29, 30] [0, 1, 26, 27, 2, 3, 4, 5, 6, 7, 8, 9, 10, 28, 29, 30, 11, 12, 13, 14, 15, 16, 17, 18, 19, 20, 21, 22, 23, 24, 25] (wIP_decode ad cI (0 : Int32) v_FB_count z79 z175 z82 z176 z177 z10 z11 z12 z13 z14 z15 z16 z17 z18 z19 z20 z21 v_aBytes g80 g178 g179 g25 g26 g27 g28 g29 g30 g31 g32 g33 g34 g35 g36 g37 g38 g39) rfl rfl rfl (by decide) rfl rfl (fun H locs hP hD hS => ?_)
                clear hc
                refine lv_istore_n (lv' := [(2, .int z174), (5, .int z83), (0, .ref (ad 0)), (1, .int z2), (3, .int z1), (4, .int z4)]) hx hb dIP_decode_84 rfl hl (by decide) rfl (fun ls hl => ?_)
                refine lv_goto (tgt := 125) hx hb dIP_decode_85 rfl ?_
                replace hl := lv_sub hl (l' := [(0, .ref (ad 0)), (1, .int z2), (2, .int z174), (3, .int z1), (4, .int z4)]) [2, 3, 0, 4, 5] rfl
                cases hf
                exact J125 ls H locs hl hP hD hS
            intro ls H locs hl hP hD hS
            clear hh
            refine ip_iinc (k0 := 4) (v0 := (1 : Int32)) (lv1 := fun z180 => [(4, .int z180), (0, .ref (ad 0)), (1, .int z84), (2, .int z85), (3, .int z1)]) hx hb dIP_decode_125 hl rfl (by decide) (by decide) (fun _ => rfl) hf (fun z180 ls hf hl => ?_)
            refine lv_goto (tgt := 28) hx hb dIP_decode_128 rfl ?_
            replace hl := lv_sub hl (l' := [(0, .ref (ad 0)), (1, .int z84), (2, .int z85), (3, .int z1), (4, .int z180)]) [1, 2, 3, 4, 0] rfl
            exact ih _ _ _ _ _ _ _ _ _ _ _ _ _ _ _ _ _ _ _ _ _ _ _ _ _ _ _ _ _ _ _ _ _ _ _ _ _ _ (ip_lp38_l hr28 hf) ls H locs hl hP hD hS
    exact L 1000 _ _ _ _ _ _ _ _ _ _ _ _ _ _ _ _ _ _ _ _ _ _ _ _ _ _ _ _ _ _ _ _ _ _ _ _ _ _ hL ls H locs hl hP hD hS
  intro ls H locs hl hP hD hS
  clear hL
  refine lv_iload_n hx hb dIP_decode_131 rfl (lv_at hl 2 rfl) ?_
  refine ip_if_eq (tgt := 137) hx hb dIP_decode_132 rfl hf (fun hf => ?_) (fun hf => ?_)
  · refine lv_aload_n hx hb dIP_decode_137 rfl (lv_at hl 0 rfl) ?_
    refine lv_iload_n hx hb dIP_decode_138 rfl (lv_at hl 1 rfl) ?_
    obtain ⟨hz, hf⟩ := ip_zk_e hf
    refine va_put (D := (dC, dI)) (ci := 0) (v := .int x40) (ty := .boolean) (C := kR_IP) (T := kT_IP) (N := 7) hx hb hts kin_IP kty_IP kto_IP knm_IP hown hK hP hD hS 0 rfl rfl 6 (by decide) (hts _ (List.mem_cons_of_mem _ kw2_63)) (fun _ h9 => h9) rfl (by decide +kernel) (ip_zn hz).1 (ip_zn hz).2 (Nat.le_of_ble_eq_true rfl) dIP_decode_139 (fun H locs hP hD hS => ?_)
    replace hP : va_P (dC, dI) vwCl (wIP_decode ad cI x40 v_FB_count x43 x44 x45 x46 x47 x48 x49 x50 x51 x52 x53 x54 x55 x56 x57 x58 x59 v_aBytes y60 y61 y62 y63 y64 y65 y66 y67 y68 y69 y70 y71 y72 y73 y74 y75 y76 y77) H := hP
    replace hD : va_D A (wIP_decode ad cI x40 v_FB_count x43 x44 x45 x46 x47 x48 x49 x50 x51 x52 x53 x54 x55 x56 x57 x58 x59 v_aBytes y60 y61 y62 y63 y64 y65 y66 y67 y68 y69 y70 y71 y72 y73 y74 y75 y76 y77) := hD
    refine lv_iload_n hx hb dIP_decode_142 rfl (lv_at hl 1 rfl) ?_
    refine ip_if_eq (tgt := 156) hx hb dIP_decode_143 rfl hf (fun hf => ?_) (fun hf => ?_)
    · refine lv_iconst (v := (-1 : Int32)) hx hb dIP_decode_156 (by decide) ?_
      cases hf
      exact hret H locs 157 ls _ dIP_decode_157 rfl hP hD hS
    · refine lv_aload_n hx hb dIP_decode_146 rfl (lv_at hl 0 rfl) ?_
      refine va_get (D := (dC, dI)) (ci := 0) (v := .ref (ad 7)) (C := kR_IP) (T := kT_IP) (N := 7) hx hb hts kin_IP hown hK hP 0 rfl rfl 5 (by decide) (hts _ (List.mem_cons_of_mem _ kw2_62)) (fun _ h9 => h9) rfl dIP_decode_147 ?_
      refine va_get (D := (dC, dI)) (ci := 7) (v := .int x55) (C := kR_PI) (T := kT_PI) (N := 9) hx hb hts kin_PI hown hK hP 7 rfl rfl 8 (by decide) (hts _ (List.mem_cons_of_mem _ kw2_37)) (fun _ h9 => h9) rfl dIP_decode_150 ?_
      refine lv_goto (tgt := 157) hx hb dIP_decode_153 rfl ?_
      cases hf
      exact hret H locs 157 ls _ dIP_decode_157 rfl hP hD hS
  · refine lv_iload_n hx hb dIP_decode_135 rfl (lv_at hl 2 rfl) ?_
    cases hf
    exact hret H locs 136 ls _ dIP_decode_136 rfl hP hD hS
