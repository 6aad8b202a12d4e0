set_option maxHeartbeats 4000000 in
set_option maxRecDepth 100000 in
theorem tLR_notZeroBefore {l : Launch} {dC : Nat → ClassId} {dI : Nat → Nat → Nat} {cI : ClassId} {ad : Nat → Nat} {ts : ip_TT} {v_LR_first : Int32} {v_LR_last : Int32} {v_LR_sum : Int32} {v_aGroup : Nat → Int32} {p1 : Int32} {r0 : Int32}  (hf : fLR_notZeroBefore v_LR_first v_LR_last v_LR_sum v_aGroup p1 = some r0) : ip_Mi l yLR_notZeroBefore wsLR_notZeroBefore rmLR_notZeroBefore (dC, dI) vwCl [(cI, .int)] ts [.ref (ad 8), .int p1] (wLR_notZeroBefore ad cI v_LR_first v_LR_last v_LR_sum v_aGroup) (wLR_notZeroBefore ad cI v_LR_first v_LR_last v_LR_sum v_aGroup) r0 := by
  refine ip_startI (cc := cLR_notZeroBefore) (maxL := 4) (by decide) rfl (Nat.le_of_ble_eq_true rfl) ?_
  intro p e s m args below meth c Q A ls hx hb hml hts hown hK hP hD hS hA hZ hl hret
  replace hl : lv_has ls 4 [(0, .ref (ad 8)), (1, .int p1)] := hl
  unfold fLR_notZeroBefore at hf
  suffices J0 : ∀ (ls : Array Slot) (H : Heap) (locs : List Loc), lv_has ls 4 [(0, .ref (ad 8)), (1, .int p1)] → va_P (dC, dI) vwCl (wLR_notZeroBefore ad cI v_LR_first v_LR_last v_LR_sum v_aGroup) H → va_D A (wLR_notZeroBefore ad cI v_LR_first v_LR_last v_LR_sum v_aGroup) → va_S A s.heap H locs → W p l e rmLR_notZeroBefore s m args below meth c H locs 0 0 Q (F0 m 0 ls []) by exact J0 ls s.heap [] hl hP hD hS
  clear hP hD hS hl
  intro ls H locs hl hP hD hS
  refine lv_iload_n hx hb dLR_notZeroBefore_0 rfl (lv_at hl 1 rfl) ?_
  refine lv_iconst (v := (3 : Int32)) hx hb dLR_notZeroBefore_1 (by decide) ?_
  refine lv_iand hx hb dLR_notZeroBefore_2 ?_
  obtain ⟨z1, hh, hf⟩ := ip_b1_e hf
  suffices J22 : ∀ (ls : Array Slot) (H : Heap) (locs : List Loc), lv_has ls 4 [(0, .ref (ad 8)), (1, .int p1)] → va_P (dC, dI) vwCl (wLR_notZeroBefore ad cI v_LR_first v_LR_last v_LR_sum v_aGroup) H → va_D A (wLR_notZeroBefore ad cI v_LR_first v_LR_last v_LR_sum v_aGroup) → va_S A s.heap H locs → W p l e rmLR_notZeroBefore s m args below meth c H locs 0 0 Q (F0 m 22 ls [.int z1]) by
    replace hf := hh
    refine ip_if_le (tgt := 21) hx hb dLR_notZeroBefore_3 rfl hf (fun hf => ?_) (fun hf => ?_)
    · refine lv_iconst (v := (0 : Int32)) hx hb dLR_notZeroBefore_21 (by decide) ?_
      cases hf
      exact J22 ls H locs hl hP hD hS
    · refine lv_aload_n hx hb dLR_notZeroBefore_6 rfl (lv_at hl 0 rfl) ?_
      refine va_get (D := (dC, dI)) (ci := 8) (v := .ref (ad 24)) (C := kR_LR) (T := kT_LR) (N := 6) hx hb hts kin_LR hown hK hP 0 rfl rfl 2 (by decide) (hts _ (List.mem_cons_of_mem _ kw1_199)) (fun _ h9 => h9) rfl dLR_notZeroBefore_7 ?_
      refine lv_iload_n hx hb dLR_notZeroBefore_10 rfl (lv_at hl 1 rfl) ?_
      refine lv_iconst (v := (1 : Int32)) hx hb dLR_notZeroBefore_11 (by decide) ?_
      refine lv_isub hx hb dLR_notZeroBefore_12 ?_
      refine ip_iald hx hb hK hP 1 0 rfl rfl dLR_notZeroBefore_13 hf (fun z2 hf => ?_)
      refine ip_if_eq (tgt := 21) hx hb dLR_notZeroBefore_14 rfl hf (fun hf => ?_) (fun hf => ?_)
      · refine lv_iconst (v := (0 : Int32)) hx hb dLR_notZeroBefore_21 (by decide) ?_
        cases hf
        exact J22 ls H locs hl hP hD hS
      · refine lv_iconst (v := (1 : Int32)) hx hb dLR_notZeroBefore_17 (by decide) ?_
        refine lv_goto (tgt := 22) hx hb dLR_notZeroBefore_18 rfl ?_
        cases hf
        exact J22 ls H locs hl hP hD hS
  intro ls H locs hl hP hD hS
  clear hh
  refine lv_istore_n (lv' := [(2, .int z1), (0, .ref (ad 8)), (1, .int p1)]) hx hb dLR_notZeroBefore_22 rfl hl (by decide) rfl (fun ls hl => ?_)
  refine lv_iload_n hx hb dLR_notZeroBefore_23 rfl (lv_at hl 2 rfl) ?_
  refine lv_iconst (v := (4 : Int32)) hx hb dLR_notZeroBefore_24 (by decide) ?_
  obtain ⟨z3, hh, hf⟩ := ip_b1_e hf
  suffices J44 : ∀ (ls : Array Slot) (H : Heap) (locs : List Loc), lv_has ls 4 [(2, .int z1)] → va_P (dC, dI) vwCl (wLR_notZeroBefore ad cI v_LR_first v_LR_last v_LR_sum v_aGroup) H → va_D A (wLR_notZeroBefore ad cI v_LR_first v_LR_last v_LR_sum v_aGroup) → va_S A s.heap H locs → W p l e rmLR_notZeroBefore s m args below meth c H locs 0 0 Q (F0 m 44 ls [.int z3]) by
    replace hf := hh
    refine ip_icmp_lt (tgt := 43) hx hb dLR_notZeroBefore_25 rfl hf (fun hf => ?_) (fun hf => ?_)
    · refine lv_iconst (v := (0 : Int32)) hx hb dLR_notZeroBefore_43 (by decide) ?_
      replace hl := lv_sub hl (l' := [(2, .int z1)]) [0] rfl
      cases hf
      exact J44 ls H locs hl hP hD hS
    · refine lv_aload_n hx hb dLR_notZeroBefore_28 rfl (lv_at hl 1 rfl) ?_
      refine va_get (D := (dC, dI)) (ci := 8) (v := .ref (ad 24)) (C := kR_LR) (T := kT_LR) (N := 6) hx hb hts kin_LR hown hK hP 0 rfl rfl 2 (by decide) (hts _ (List.mem_cons_of_mem _ kw1_199)) (fun _ h9 => h9) rfl dLR_notZeroBefore_29 ?_
      refine lv_iload_n hx hb dLR_notZeroBefore_32 rfl (lv_at hl 2 rfl) ?_
      refine lv_iconst (v := (4 : Int32)) hx hb dLR_notZeroBefore_33 (by decide) ?_
      refine lv_isub hx hb dLR_notZeroBefore_34 ?_
      refine ip_iald hx hb hK hP 1 0 rfl rfl dLR_notZeroBefore_35 hf (fun z4 hf => ?_)
      refine ip_if_eq (tgt := 43) hx hb dLR_notZeroBefore_36 rfl hf (fun hf => ?_) (fun hf => ?_)
      · refine lv_iconst (v := (0 : Int32)) hx hb dLR_notZeroBefore_43 (by decide) ?_
        replace hl := lv_sub hl (l' := [(2, .int z1)]) [0] rfl
        cases hf
        exact J44 ls H locs hl hP hD hS
      · refine lv_iconst (v := (1 : Int32)) hx hb dLR_notZeroBefore_39 (by decide) ?_
        refine lv_goto (tgt := 44) hx hb dLR_notZeroBefore_40 rfl ?_
        replace hl := lv_sub hl (l' := [(2, .int z1)]) [0] rfl
        cases hf
        exact J44 ls H locs hl hP hD hS
  intro ls H locs hl hP hD hS
  clear hh
  refine lv_istore_n (lv' := [(3, .int z3), (2, .int z1)]) hx hb dLR_notZeroBefore_44 rfl hl (by decide) rfl (fun ls hl => ?_)
  refine lv_iload_n hx hb dLR_notZeroBefore_45 rfl (lv_at hl 1 rfl) ?_
  refine lv_iload_n hx hb dLR_notZeroBefore_46 rfl (lv_at hl 0 rfl) ?_
  refine lv_iadd hx hb dLR_notZeroBefore_47 ?_
  cases hf
  exact hret H locs 48 ls _ dLR_notZeroBefore_48 rfl hP hD hS
set_option maxHeartbeats 4000000 in
set_option maxRecDepth 100000 in
theorem tLR_readSize {l : Launch} {dC : Nat → ClassId} {dI : Nat → Nat → Nat} {cI : ClassId} {ad : Nat → Nat} {ts : ip_TT} {v_RB_place : Int32} {v_RB_end : Int32} {v_BD_range : Int32} {v_BD_value : Int32} {v_LR_first : Int32} {v_LR_last : Int32} {v_LR_sum : Int32} {v_aChosen : Nat → Int32} {v_aChances : Nat → Int32} {v_aCounts : Nat → Int32}  {r0 : Int32} {nv_RB_place : Int32} {nv_BD_range : Int32} {nv_BD_value : Int32} {nv_aChances : Nat → Int32} {nv_aCounts : Nat → Int32} (hf : fLR_readSize v_RB_place v_RB_end v_BD_range v_BD_value v_LR_first v_LR_last v_LR_sum v_aChosen v_aChances v_aCounts = some (r0, nv_RB_place, nv_BD_range, nv_BD_value, nv_aChances, nv_aCounts)) : ip_Mi l yLR_readSize wsLR_readSize rmLR_readSize (dC, dI) vwCl [(cI, .int)] ts [.ref (ad 8)] (wLR_readSize ad cI v_RB_place v_RB_end v_BD_range v_BD_value v_LR_first v_LR_last v_LR_sum v_aChosen v_aChances v_aCounts) (wLR_readSize ad cI nv_RB_place v_RB_end nv_BD_range nv_BD_value v_LR_first v_LR_last v_LR_sum v_aChosen nv_aChances nv_aCounts) r0 := by
  refine ip_startI (cc := cLR_readSize) (maxL := 2) (by decide) rfl (Nat.le_of_ble_eq_true rfl) ?_
  intro p e s m args below meth c Q A ls hx hb hml hts hown hK hP hD hS hA hZ hl hret
  replace hl : lv_has ls 2 [(0, .ref (ad 8))] := hl
  unfold fLR_readSize at hf
  suffices J0 : ∀ (ls : Array Slot) (H : Heap) (locs : List Loc), lv_has ls 2 [(0, .ref (ad 8))] → va_P (dC, dI) vwCl (wLR_readSize ad cI v_RB_place v_RB_end v_BD_range v_BD_value v_LR_first v_LR_last v_LR_sum v_aChosen v_aChances v_aCounts) H → va_D A (wLR_readSize ad cI v_RB_place v_RB_end v_BD_range v_BD_value v_LR_first v_LR_last v_LR_sum v_aChosen v_aChances v_aCounts) → va_S A s.heap H locs → W p l e rmLR_readSize s m args below meth c H locs 0 0 Q (F0 m 0 ls []) by exact J0 ls s.heap [] hl hP hD hS
  clear hP hD hS hl
  intro ls H locs hl hP hD hS
  refine lv_aload_n hx hb dLR_readSize_0 rfl (lv_at hl 0 rfl) ?_
  refine va_get (D := (dC, dI)) (ci := 8) (v := .ref (ad 4)) (C := kR_LR) (T := kT_LR) (N := 6) hx hb hts kin_LR hown hK hP 2 rfl rfl 0 (by decide) (hts _ (List.mem_cons_of_mem _ kw1_197)) (fun _ h9 => h9) rfl dLR_readSize_1 ?_
  refine lv_bipush (v := (12 : Int32)) hx hb dLR_readSize_4 (by decide) ?_
  obtain ⟨z1, z2, z3, z4, g5, g6, hc, hf⟩ := ip_b6_e hf
  refine ip_calli (va_runV (As := [.int (12 : Int32)]) (rest := []) ⟨hx, hb, hml, hown, hts⟩ (tBD_bin (l := l) (dC := dC) (dI := dI) (ad := ad) (cI := cI) (ts := ts) hc H.size) (cwV 1 hts (ip_gdV (own := kR_LR) (idx := 28) (C := kR_BD) (y := yBD_bin) kw2_211 kw2_187 kw2_188 kw1_5 kw2_189) rfl rfl rfl (by decide +kernel) ⟨Nat.le_of_ble_eq_true rfl, Nat.le_of_ble_eq_true rfl⟩) (ip_preV hK hP hD hS hA hZ [0, 1, 3, 4, 5] rfl rfl (ci := 4) (q0 := 1) rfl rfl) rfl rfl hl.1 rfl (lv_room (Nat.le_of_ble_eq_true rfl)) dLR_readSize_6 ⟨Nat.le_of_ble_eq_true rfl, Nat.le_of_ble_eq_true rfl⟩) hP hD hS hA [0, 1, 3, 4, 5] [2] [1, 2, 0, 3, 4, 5] (wLR_readSize ad cI z2 v_RB_end z3 z4 v_LR_first v_LR_last v_LR_sum v_aChosen g5 g6) rfl rfl rfl (by decide) rfl rfl (fun H locs hP hD hS => ?_)
  clear hc
  refine ip_if_ne (tgt := 14) hx hb dLR_readSize_9 rfl hf (fun hf => ?_) (fun hf => ?_)
  · refine lv_aload_n hx hb dLR_readSize_14 rfl (lv_at hl 0 rfl) ?_
    refine va_get (D := (dC, dI)) (ci := 8) (v := .ref (ad 4)) (C := kR_LR) (T := kT_LR) (N := 6) hx hb hts kin_LR hown hK hP 2 rfl rfl 0 (by decide) (hts _ (List.mem_cons_of_mem _ kw1_197)) (fun _ h9 => h9) rfl dLR_readSize_15 ?_
    refine lv_bipush (v := (13 : Int32)) hx hb dLR_readSize_18 (by decide) ?_
    obtain ⟨z7, z8, z9, z10, g11, g12, hc, hf⟩ := ip_b6_e hf
    refine ip_calli (va_runV (As := [.int (13 : Int32)]) (rest := []) ⟨hx, hb, hml, hown, hts⟩ (tBD_bin (l := l) (dC := dC) (dI := dI) (ad := ad) (cI := cI) (ts := ts) hc H.size) (cwV 1 hts (ip_gdV (own := kR_LR) (idx := 28) (C := kR_BD) (y := yBD_bin) kw2_211 kw2_187 kw2_188 kw1_5 kw2_189) rfl rfl rfl (by decide +kernel) ⟨Nat.le_of_ble_eq_true rfl, Nat.le_of_ble_eq_true rfl⟩) (ip_preV hK hP hD hS hA hZ [0, 1, 3, 4, 5] rfl rfl (ci := 4) (q0 := 1) rfl rfl) rfl rfl hl.1 rfl (lv_room (Nat.le_of_ble_eq_true rfl)) dLR_readSize_20 ⟨Nat.le_of_ble_eq_true rfl, Nat.le_of_ble_eq_true rfl⟩) hP hD hS hA [0, 1, 3, 4, 5] [2] [1, 2, 0, 3, 4, 5] (wLR_readSize ad cI z8 v_RB_end z9 z10 v_LR_first v_LR_last v_LR_sum v_aChosen g11 g12) rfl rfl rfl (by decide) rfl rfl (fun H locs hP hD hS => ?_)
    clear hc
    refine ip_if_ne (tgt := 28) hx hb dLR_readSize_23 rfl hf (fun hf => ?_) (fun hf => ?_)
    · refine lv_iconst (v := (0 : Int32)) hx hb dLR_readSize_28 (by decide) ?_
      refine lv_istore_n (lv' := [(1, .int (0 : Int32)), (0, .ref (ad 8))]) hx hb dLR_readSize_29 rfl hl (by decide) rfl (fun ls hl => ?_)
      replace hl := lv_sub hl (l' := [(0, .ref (ad 8)), (1, .int (0 : Int32))]) [1, 0] rfl
      obtain ⟨x17, x18, x19, y20, hL, hf⟩ := ip_b4_e hf
      suffices J54 : ∀ (ls : Array Slot) (H : Heap) (locs : List Loc), lv_has ls 2 [(0, .ref (ad 8)), (1, .int x17)] → va_P (dC, dI) vwCl (wLR_readSize ad cI x18 v_RB_end z9 x19 v_LR_first v_LR_last v_LR_sum v_aChosen g11 y20) H → va_D A (wLR_readSize ad cI x18 v_RB_end z9 x19 v_LR_first v_LR_last v_LR_sum v_aChosen g11 y20) → va_S A s.heap H locs → W p l e rmLR_readSize s m args below meth c H locs 0 0 Q (F0 m 54 ls []) by
        have L : ∀ (n : Nat) (z13 : Int32) (z14 : Int32) (z15 : Int32) (g16 : Nat → Int32), ip_lp4 (fLR_readSize_B30 v_RB_end v_aChosen z9) n z13 z14 z15 g16 = some (x17, x18, x19, y20) → ∀ (ls : Array Slot) (H : Heap) (locs : List Loc), lv_has ls 2 [(0, .ref (ad 8)), (1, .int z13)] → va_P (dC, dI) vwCl (wLR_readSize ad cI z14 v_RB_end z9 z15 v_LR_first v_LR_last v_LR_sum v_aChosen g11 g16) H → va_D A (wLR_readSize ad cI z14 v_RB_end z9 z15 v_LR_first v_LR_last v_LR_sum v_aChosen g11 g16) → va_S A s.heap H locs → W p l e rmLR_readSize s m args below meth c H locs 0 0 Q (F0 m 30 ls []) := by
          intro n
          induction n with
          | zero => intro z13 z14 z15 g16 hL; exact (ip_lp4_0 hL).elim
          | succ n ih =>
            intro z13 z14 z15 g16 hL ls H locs hl hP hD hS
            clear hf
            obtain ⟨r9, hf, hr30⟩ := ip_lp4_s hL
            clear hL
            unfold fLR_readSize_B30 at hf
            refine lv_iload_n hx hb dLR_readSize_30 rfl (lv_at hl 1 rfl) ?_
            refine lv_bipush (v := (6 : Int32)) hx hb dLR_readSize_31 (by decide) ?_
            refine ip_icmp_ge (tgt := 54) hx hb dLR_readSize_33 rfl hf (fun hf => ?_) (fun hf => ?_)
            · have hx9 := ip_lp_x hr30 hf
              cases hx9
              exact J54 ls H locs hl hP hD hS
            · refine lv_aload_n hx hb dLR_readSize_36 rfl (lv_at hl 0 rfl) ?_
              refine va_get (D := (dC, dI)) (ci := 8) (v := .ref (ad 4)) (C := kR_LR) (T := kT_LR) (N := 6) hx hb hts kin_LR hown hK hP 2 rfl rfl 0 (by decide) (hts _ (List.mem_cons_of_mem _ kw1_197)) (fun _ h9 => h9) rfl dLR_readSize_37 ?_
              refine lv_iconst (v := (1 : Int32)) hx hb dLR_readSize_40 (by decide) ?_
              obtain ⟨z21, z22, z23, g24, hc, hf⟩ := ip_b4_e hf
              refine ip_calli (va_runV (As := [.int (1 : Int32)]) (rest := []) ⟨hx, hb, hml, hown, hts⟩ (tBD_freeBits (l := l) (dC := dC) (dI := dI) (ad := ad) (cI := cI) (ts := ts) hc H.size) (cwV 1 hts (ip_gdV (own := kR_LR) (idx := 78) (C := kR_BD) (y := yBD_freeBits) kw2_226 kw2_204 kw2_205 kw1_5 kw2_206) rfl rfl rfl (by decide +kernel) ⟨Nat.le_of_ble_eq_true rfl, Nat.le_of_ble_eq_true rfl⟩) (ip_preV hK hP hD hS hA hZ [0, 1, 3, 5] rfl rfl (ci := 4) (q0 := 1) rfl rfl) rfl rfl hl.1 rfl (lv_room (Nat.le_of_ble_eq_true rfl)) dLR_readSize_41 ⟨Nat.le_of_ble_eq_true rfl, Nat.le_of_ble_eq_true rfl⟩) hP hD hS hA [0, 1, 3, 5] [2, 4] [2, 3, 0, 4, 1, 5] (wLR_readSize ad cI z22 v_RB_end z9 z23 v_LR_first v_LR_last v_LR_sum v_aChosen g11 g24) rfl rfl rfl (by decide) rfl rfl (fun H locs hP hD hS => ?_)
              clear hc
              refine lv_iconst (v := (1 : Int32)) hx hb dLR_readSize_44 (by decide) ?_
              refine ip_icmp_ne (tgt := 54) hx hb dLR_readSize_45 rfl hf (fun hf => ?_) (fun hf => ?_)
              · have hx9 := ip_lp_x hr30 hf
                cases hx9
                exact J54 ls H locs hl hP hD hS
              · refine ip_iinc (k0 := 1) (v0 := (1 : Int32)) (lv1 := fun z25 => [(1, .int z25), (0, .ref (ad 8))]) hx hb dLR_readSize_48 hl rfl (by decide) (by decide) (fun _ => rfl) hf (fun z25 ls hf hl => ?_)
                refine lv_goto (tgt := 30) hx hb dLR_readSize_51 rfl ?_
                replace hl := lv_sub hl (l' := [(0, .ref (ad 8)), (1, .int z25)]) [1, 0] rfl
                exact ih _ _ _ _ (ip_lp4_l hr30 hf) ls H locs hl hP hD hS
        exact L 1000 _ _ _ _ hL ls H locs hl hP hD hS
      intro ls H locs hl hP hD hS
      clear hL
      refine lv_iconst (v := (2 : Int32)) hx hb dLR_readSize_54 (by decide) ?_
      refine lv_iconst (v := (1 : Int32)) hx hb dLR_readSize_55 (by decide) ?_
      refine lv_iload_n hx hb dLR_readSize_56 rfl (lv_at hl 1 rfl) ?_
      refine lv_ishl hx hb dLR_readSize_57 ?_
      refine lv_iadd hx hb dLR_readSize_58 ?_
      refine lv_aload_n hx hb dLR_readSize_59 rfl (lv_at hl 0 rfl) ?_
      refine va_get (D := (dC, dI)) (ci := 8) (v := .ref (ad 4)) (C := kR_LR) (T := kT_LR) (N := 6) hx hb hts kin_LR hown hK hP 2 rfl rfl 0 (by decide) (hts _ (List.mem_cons_of_mem _ kw1_197)) (fun _ h9 => h9) rfl dLR_readSize_60 ?_
      refine lv_iload_n hx hb dLR_readSize_63 rfl (lv_at hl 1 rfl) ?_
      obtain ⟨z26, z27, z28, g29, hc, hf⟩ := ip_b4_e hf
      refine ip_calli (va_runV (As := [.int x17]) (rest := [.int ((2 : Int32) + ((1 : Int32) <<< (x17 &&& 31)))]) ⟨hx, hb, hml, hown, hts⟩ (tBD_freeBits (l := l) (dC := dC) (dI := dI) (ad := ad) (cI := cI) (ts := ts) hc H.size) (cwV 1 hts (ip_gdV (own := kR_LR) (idx := 78) (C := kR_BD) (y := yBD_freeBits) kw2_226 kw2_204 kw2_205 kw1_5 kw2_206) rfl rfl rfl (by decide +kernel) ⟨Nat.le_of_ble_eq_true rfl, Nat.le_of_ble_eq_true rfl⟩) (ip_preV hK hP hD hS hA hZ [0, 1, 3, 5] rfl rfl (ci := 4) (q0 := 1) rfl rfl) rfl rfl hl.1 rfl (lv_room (Nat.le_of_ble_eq_true rfl)) dLR_readSize_64 ⟨Nat.le_of_ble_eq_true rfl, Nat.le_of_ble_eq_true rfl⟩) hP hD hS hA [0, 1, 3, 5] [2, 4] [2, 3, 0, 4, 1, 5] (wLR_readSize ad cI z27 v_RB_end z9 z28 v_LR_first v_LR_last v_LR_sum v_aChosen g11 g29) rfl rfl rfl (by decide) rfl rfl (fun H locs hP hD hS => ?_)
      clear hc
      refine lv_iadd hx hb dLR_readSize_67 ?_
      cases hf
      exact hret H locs 68 ls _ dLR_readSize_68 rfl hP hD hS
    · refine lv_iconst (v := (2 : Int32)) hx hb dLR_readSize_26 (by decide) ?_
      cases hf
      exact hret H locs 27 ls _ dLR_readSize_27 rfl hP hD hS
  · refine lv_iconst (v := (1 : Int32)) hx hb dLR_readSize_12 (by decide) ?_
    cases hf
    exact hret H locs 13 ls _ dLR_readSize_13 rfl hP hD hS
set_option maxHeartbeats 4000000 in
set_option maxRecDepth 100000 in
theorem tLR_readSizes {l : Launch} {dC : Nat → ClassId} {dI : Nat → Nat → Nat} {cI : ClassId} {ad : Nat → Nat} {t0 t1 t2 t3 : Nat} {v_RB_place : Int32} {v_RB_end : Int32} {v_BD_range : Int32} {v_BD_value : Int32} {v_LR_first : Int32} {v_LR_last : Int32} {v_LR_sum : Int32} {v_aChosen : Nat → Int32} {v_aChances : Nat → Int32} {v_aCounts : Nat → Int32} {v_aGroup : Nat → Int32}  {nv_RB_place : Int32} {nv_BD_range : Int32} {nv_BD_value : Int32} {nv_LR_first : Int32} {nv_LR_last : Int32} {nv_LR_sum : Int32} {nv_aChances : Nat → Int32} {nv_aCounts : Nat → Int32} {nv_aGroup : Nat → Int32} (hf : fLR_readSizes v_RB_place v_RB_end v_BD_range v_BD_value v_LR_first v_LR_last v_LR_sum v_aChosen v_aChances v_aCounts v_aGroup = some (nv_RB_place, nv_BD_range, nv_BD_value, nv_LR_first, nv_LR_last, nv_LR_sum, nv_aChances, nv_aCounts, nv_aGroup)) : ip_Mv l yLR_readSizes wsLR_readSizes rmLR_readSizes (dC, dI) vwCl [(cI, .int)] (ip_TS t0 t1 t2 t3) [.ref (ad 8)] (wLR_readSizes ad cI v_RB_place v_RB_end v_BD_range v_BD_value v_LR_first v_LR_last v_LR_sum v_aChosen v_aChances v_aCounts v_aGroup) (wLR_readSizes ad cI nv_RB_place v_RB_end nv_BD_range nv_BD_value nv_LR_first nv_LR_last nv_LR_sum v_aChosen nv_aChances nv_aCounts nv_aGroup) := by
  refine ip_startV (cc := cLR_readSizes) (maxL := 3) (by decide) rfl (Nat.le_of_ble_eq_true rfl) ?_
  intro p e s m args below meth c Q A ls hx hb hml hts hown hK hP hD hS hA hZ hl hret
  replace hl : lv_has ls 3 [(0, .ref (ad 8))] := hl
  unfold fLR_readSizes at hf
  suffices J0 : ∀ (ls : Array Slot) (H : Heap) (locs : List Loc), lv_has ls 3 [(0, .ref (ad 8))] → va_P (dC, dI) vwCl (wLR_readSizes ad cI v_RB_place v_RB_end v_BD_range v_BD_value v_LR_first v_LR_last v_LR_sum v_aChosen v_aChances v_aCounts v_aGroup) H → va_D A (wLR_readSizes ad cI v_RB_place v_RB_end v_BD_range v_BD_value v_LR_first v_LR_last v_LR_sum v_aChosen v_aChances v_aCounts v_aGroup) → va_S A s.heap H locs → W p l e rmLR_readSizes s m args below meth c H locs 0 0 Q (F0 m 0 ls []) by exact J0 ls s.heap [] hl hP hD hS
  clear hP hD hS hl
  intro ls H locs hl hP hD hS
  refine lv_aload_n hx hb dLR_readSizes_0 rfl (lv_at hl 0 rfl) ?_
  refine lv_iconst (v := (-1 : Int32)) hx hb dLR_readSizes_1 (by decide) ?_
  refine va_put (D := (dC, dI)) (ci := 8) (v := .int (-1 : Int32)) (ty := .int) (C := kR_LR) (T := kT_LR) (N := 6) hx hb hts kin_LR kty_LR kto_LR knm_LR hown hK hP hD hS 2 rfl rfl 3 (by decide) (hts _ (List.mem_cons_of_mem _ kw1_200)) (fun _ h9 => h9) rfl (by decide +kernel) rfl rfl (Nat.le_of_ble_eq_true rfl) dLR_readSizes_2 (fun H locs hP hD hS => ?_)
  replace hP : va_P (dC, dI) vwCl (wLR_readSizes ad cI v_RB_place v_RB_end v_BD_range v_BD_value (-1 : Int32) v_LR_last v_LR_sum v_aChosen v_aChances v_aCounts v_aGroup) H := hP
  replace hD : va_D A (wLR_readSizes ad cI v_RB_place v_RB_end v_BD_range v_BD_value (-1 : Int32) v_LR_last v_LR_sum v_aChosen v_aChances v_aCounts v_aGroup) := hD
  refine lv_aload_n hx hb dLR_readSizes_5 rfl (lv_at hl 0 rfl) ?_
  refine lv_iconst (v := (-1 : Int32)) hx hb dLR_readSizes_6 (by decide) ?_
  refine va_put (D := (dC, dI)) (ci := 8) (v := .int (-1 : Int32)) (ty := .int) (C := kR_LR) (T := kT_LR) (N := 6) hx hb hts kin_LR kty_LR kto_LR knm_LR hown hK hP hD hS 2 rfl rfl 4 (by decide) (hts _ (List.mem_cons_of_mem _ kw1_201)) (fun _ h9 => h9) rfl (by decide +kernel) rfl rfl (Nat.le_of_ble_eq_true rfl) dLR_readSizes_7 (fun H locs hP hD hS => ?_)
  replace hP : va_P (dC, dI) vwCl (wLR_readSizes ad cI v_RB_place v_RB_end v_BD_range v_BD_value (-1 : Int32) (-1 : Int32) v_LR_sum v_aChosen v_aChances v_aCounts v_aGroup) H := hP
  replace hD : va_D A (wLR_readSizes ad cI v_RB_place v_RB_end v_BD_range v_BD_value (-1 : Int32) (-1 : Int32) v_LR_sum v_aChosen v_aChances v_aCounts v_aGroup) := hD
  refine lv_aload_n hx hb dLR_readSizes_10 rfl (lv_at hl 0 rfl) ?_
  refine lv_iconst (v := (0 : Int32)) hx hb dLR_readSizes_11 (by decide) ?_
  refine va_put (D := (dC, dI)) (ci := 8) (v := .int (0 : Int32)) (ty := .int) (C := kR_LR) (T := kT_LR) (N := 6) hx hb hts kin_LR kty_LR kto_LR knm_LR hown hK hP hD hS 2 rfl rfl 5 (by decide) (hts _ (List.mem_cons_of_mem _ kw1_202)) (fun _ h9 => h9) rfl (by decide +kernel) rfl rfl (Nat.le_of_ble_eq_true rfl) dLR_readSizes_12 (fun H locs hP hD hS => ?_)
  replace hP : va_P (dC, dI) vwCl (wLR_readSizes ad cI v_RB_place v_RB_end v_BD_range v_BD_value (-1 : Int32) (-1 : Int32) (0 : Int32) v_aChosen v_aChances v_aCounts v_aGroup) H := hP
  replace hD : va_D A (wLR_readSizes ad cI v_RB_place v_RB_end v_BD_range v_BD_value (-1 : Int32) (-1 : Int32) (0 : Int32) v_aChosen v_aChances v_aCounts v_aGroup) := hD
  refine lv_iconst (v := (0 : Int32)) hx hb dLR_readSizes_15 (by decide) ?_
  refine lv_istore_n (lv' := [(1, .int (0 : Int32)), (0, .ref (ad 8))]) hx hb dLR_readSizes_16 rfl hl (by decide) rfl (fun ls hl => ?_)
  replace hl := lv_sub hl (l' := [(0, .ref (ad 8)), (1, .int (0 : Int32))]) [1, 0] rfl
  obtain ⟨x11, x12, x13, x14, x15, x16, x17, y18, y19, y20, hL, hf⟩ := ip_b10_e hf
  suffices J110 : ∀ (ls : Array Slot) (H : Heap) (locs : List Loc), lv_has ls 3 [] → va_P (dC, dI) vwCl (wLR_readSizes ad cI x12 v_RB_end x13 x14 x15 x16 x17 v_aChosen y18 y19 y20) H → va_D A (wLR_readSizes ad cI x12 v_RB_end x13 x14 x15 x16 x17 v_aChosen y18 y19 y20) → va_S A s.heap H locs → W p l e rmLR_readSizes s m args below meth c H locs 0 0 Q (F0 m 110 ls []) by
    have L : ∀ (n : Nat) (z1 : Int32) (z2 : Int32) (z3 : Int32) (z4 : Int32) (z5 : Int32) (z6 : Int32) (z7 : Int32) (g8 : Nat → Int32) (g9 : Nat → Int32) (g10 : Nat → Int32), ip_lp10 (fLR_readSizes_B17 v_RB_end v_aChosen) n z1 z2 z3 z4 z5 z6 z7 g8 g9 g10 = some (x11, x12, x13, x14, x15, x16, x17, y18, y19, y20) → ∀ (ls : Array Slot) (H : Heap) (locs : List Loc), lv_has ls 3 [(0, .ref (ad 8)), (1, .int z1)] → va_P (dC, dI) vwCl (wLR_readSizes ad cI z2 v_RB_end z3 z4 z5 z6 z7 v_aChosen g8 g9 g10) H → va_D A (wLR_readSizes ad cI z2 v_RB_end z3 z4 z5 z6 z7 v_aChosen g8 g9 g10) → va_S A s.heap H locs → W p l e rmLR_readSizes s m args below meth c H locs 0 0 Q (F0 m 17 ls []) := by
      intro n
      induction n with
      | zero => intro z1 z2 z3 z4 z5 z6 z7 g8 g9 g10 hL; exact (ip_lp10_0 hL).elim
      | succ n ih =>
        intro z1 z2 z3 z4 z5 z6 z7 g8 g9 g10 hL ls H locs hl hP hD hS
        clear hf
        obtain ⟨r9, hf, hr17⟩ := ip_lp10_s hL
        clear hL
        unfold fLR_readSizes_B17 at hf
        refine lv_iload_n hx hb dLR_readSizes_17 rfl (lv_at hl 1 rfl) ?_
        refine lv_bipush (v := (16 : Int32)) hx hb dLR_readSizes_18 (by decide) ?_
        refine ip_icmp_ge (tgt := 110) hx hb dLR_readSizes_20 rfl hf (fun hf => ?_) (fun hf => ?_)
        · have hx9 := ip_lp_x hr17 hf
          replace hl := lv_sub hl (l' := []) [] rfl
          cases hx9
          exact J110 ls H locs hl hP hD hS
        · refine ip_gets (own := kR_LR) hx hb hZ hS 0 rfl hown (hts _ (List.mem_cons_of_mem _ kw2_216)) dLR_readSizes_23 ?_
          refine lv_iload_n hx hb dLR_readSizes_26 rfl (lv_at hl 1 rfl) ?_
          refine ip_tald hx hb hZ hS 0 rfl dLR_readSizes_27 hf (fun z21 hf => ?_)
          refine lv_istore_n (lv' := [(2, .int z21), (0, .ref (ad 8)), (1, .int z1)]) hx hb dLR_readSizes_28 rfl hl (by decide) rfl (fun ls hl => ?_)
          refine lv_aload_n hx hb dLR_readSizes_29 rfl (lv_at hl 1 rfl) ?_
          refine va_get (D := (dC, dI)) (ci := 8) (v := .ref (ad 24)) (C := kR_LR) (T := kT_LR) (N := 6) hx hb hts kin_LR hown hK hP 2 rfl rfl 2 (by decide) (hts _ (List.mem_cons_of_mem _ kw1_199)) (fun _ h9 => h9) rfl dLR_readSizes_30 ?_
          refine lv_iload_n hx hb dLR_readSizes_33 rfl (lv_at hl 0 rfl) ?_
          refine lv_iconst (v := (0 : Int32)) hx hb dLR_readSizes_34 (by decide) ?_
          refine ip_iast hx hb hK hP hD hS 6 0 rfl rfl (fun g22 => (wLR_readSizes ad cI z2 v_RB_end z3 z4 z5 z6 z7 v_aChosen g8 g9 g22)) (fun _ => rfl) dLR_readSizes_35 hf (fun g22 H locs hf hP hD hS => ?_)
          refine lv_aload_n hx hb dLR_readSizes_36 rfl (lv_at hl 1 rfl) ?_
          refine va_get (D := (dC, dI)) (ci := 8) (v := .ref (ad 4)) (C := kR_LR) (T := kT_LR) (N := 6) hx hb hts kin_LR hown hK hP 2 rfl rfl 0 (by decide) (hts _ (List.mem_cons_of_mem _ kw1_197)) (fun _ h9 => h9) rfl dLR_readSizes_37 ?_
          refine lv_bipush (v := (9 : Int32)) hx hb dLR_readSizes_40 (by decide) ?_
          refine lv_aload_n hx hb dLR_readSizes_42 rfl (lv_at hl 1 rfl) ?_
          refine lv_iload_n hx hb dLR_readSizes_43 rfl (lv_at hl 0 rfl) ?_
          obtain ⟨z23, hc, hf⟩ := ip_b1_e hf
          refine ip_calli (va_runV (As := [.int z21]) (rest := [.int (9 : Int32), .ref (ad 4)]) ⟨hx, hb, hml, hown, hts⟩ (tLR_notZeroBefore (l := l) (dC := dC) (dI := dI) (ad := ad) (cI := cI) (ts := (ip_TS t0 t1 t2 t3)) hc H.size) (cwV 1 hts (ip_gdV (own := kR_LR) (idx := 71) (C := kR_LR) (y := yLR_notZeroBefore) kw2_218 kw2_220 kws_10 kw1_9 kw2_221) rfl rfl rfl (by decide +kernel) ⟨Nat.le_of_ble_eq_true rfl, Nat.le_of_ble_eq_true rfl⟩) (ip_preV hK hP hD hS hA hZ [2, 6] rfl rfl (ci := 8) (q0 := 2) rfl rfl) rfl rfl hl.1 rfl (lv_room (Nat.le_of_ble_eq_true rfl)) dLR_readSizes_44 ⟨Nat.le_of_ble_eq_true rfl, Nat.le_of_ble_eq_true rfl⟩) hP hD hS hA [2, 6] [0, 1, 3, 4, 5] [0, 1, 5, 2, 3, 4, 6] (wLR_readSizes ad cI z2 v_RB_end z3 z4 z5 z6 z7 v_aChosen g8 g9 g22) rfl rfl rfl (by decide) rfl rfl (fun H locs hP hD hS => ?_)
          clear hc
          refine lv_iadd hx hb dLR_readSizes_47 ?_
          obtain ⟨z24, z25, z26, z27, g28, g29, hc, hf⟩ := ip_b6_e hf
          refine ip_calli (va_runV (As := [.int ((9 : Int32) + z23)]) (rest := []) ⟨hx, hb, hml, hown, hts⟩ (tBD_bin (l := l) (dC := dC) (dI := dI) (ad := ad) (cI := cI) (ts := (ip_TS t0 t1 t2 t3)) hc H.size) (cwV 1 hts (ip_gdV (own := kR_LR) (idx := 28) (C := kR_BD) (y := yBD_bin) kw2_211 kw2_187 kw2_188 kw1_5 kw2_189) rfl rfl rfl (by decide +kernel) ⟨Nat.le_of_ble_eq_true rfl, Nat.le_of_ble_eq_true rfl⟩) (ip_preV hK hP hD hS hA hZ [0, 1, 3, 4, 5] rfl rfl (ci := 4) (q0 := 1) rfl rfl) rfl rfl hl.1 rfl (lv_room (Nat.le_of_ble_eq_true rfl)) dLR_readSizes_48 ⟨Nat.le_of_ble_eq_true rfl, Nat.le_of_ble_eq_true rfl⟩) hP hD hS hA [0, 1, 3, 4, 5] [2, 6] [2, 3, 0, 4, 5, 6, 1] (wLR_readSizes ad cI z25 v_RB_end z26 z27 z5 z6 z7 v_aChosen g28 g29 g22) rfl rfl rfl (by decide) rfl rfl (fun H locs hP hD hS => ?_)
          clear hc
          refine lv_iconst (v := (1 : Int32)) hx hb dLR_readSizes_51 (by decide) ?_
          obtain ⟨z30, z31, z32, z33, z34, z35, g36, g37, g38, hh, hf⟩ := ip_b9_e hf
          suffices J104 : ∀ (ls : Array Slot) (H : Heap) (locs : List Loc), lv_has ls 3 [(0, .ref (ad 8)), (1, .int z1)] → va_P (dC, dI) vwCl (wLR_readSizes ad cI z30 v_RB_end z31 z32 z33 z34 z35 v_aChosen g36 g37 g38) H → va_D A (wLR_readSizes ad cI z30 v_RB_end z31 z32 z33 z34 z35 v_aChosen g36 g37 g38) → va_S A s.heap H locs → W p l e rmLR_readSizes s m args below meth c H locs 0 0 Q (F0 m 104 ls []) by
            replace hf := hh
            refine ip_icmp_ne (tgt := 104) hx hb dLR_readSizes_52 rfl hf (fun hf => ?_) (fun hf => ?_)
            · replace hl := lv_sub hl (l' := [(0, .ref (ad 8)), (1, .int z1)]) [1, 2] rfl
              cases hf
              exact J104 ls H locs hl hP hD hS
            · refine lv_aload_n hx hb dLR_readSizes_55 rfl (lv_at hl 1 rfl) ?_
              refine va_get (D := (dC, dI)) (ci := 8) (v := .ref (ad 24)) (C := kR_LR) (T := kT_LR) (N := 6) hx hb hts kin_LR hown hK hP 2 rfl rfl 2 (by decide) (hts _ (List.mem_cons_of_mem _ kw1_199)) (fun _ h9 => h9) rfl dLR_readSizes_56 ?_
              refine lv_iload_n hx hb dLR_readSizes_59 rfl (lv_at hl 0 rfl) ?_
              refine lv_aload_n hx hb dLR_readSizes_60 rfl (lv_at hl 1 rfl) ?_
              obtain ⟨z39, z40, z41, z42, g43, g44, hc, hf⟩ := ip_b6_e hf
              refine ip_calli (va_runV (As := []) (rest := [.int z21, .ref (ad 24)]) ⟨hx, hb, hml, hown, hts⟩ (tLR_readSize (l := l) (dC := dC) (dI := dI) (ad := ad) (cI := cI) (ts := (ip_TS t0 t1 t2 t3)) hc H.size) (cwV 0 hts (ip_gdV (own := kR_LR) (idx := 74) (C := kR_LR) (y := yLR_readSize) kw2_222 kw2_224 kws_11 kw1_9 kw2_225) rfl rfl rfl (by decide +kernel) ⟨Nat.le_of_ble_eq_true rfl, Nat.le_of_ble_eq_true rfl⟩) (ip_preV hK hP hD hS hA hZ [0, 1, 2, 3, 4, 5] rfl rfl (ci := 8) (q0 := 2) rfl rfl) rfl rfl hl.1 rfl (lv_room (Nat.le_of_ble_eq_true rfl)) dLR_readSizes_61 ⟨Nat.le_of_ble_eq_true rfl, Nat.le_of_ble_eq_true rfl⟩) hP hD hS hA [0, 1, 2, 3, 4, 5] [6] [1, 2, 3, 4, 5, 6, 0] (wLR_readSizes ad cI z40 v_RB_end z41 z42 z5 z6 z7 v_aChosen g43 g44 g22) rfl rfl rfl (by decide) rfl rfl (fun H locs hP hD hS => ?_)
              clear hc
              refine ip_iast hx hb hK hP hD hS 6 0 rfl rfl (fun g45 => (wLR_readSizes ad cI z40 v_RB_end z41 z42 z5 z6 z7 v_aChosen g43 g44 g45)) (fun _ => rfl) dLR_readSizes_64 hf (fun g45 H locs hf hP hD hS => ?_)
              refine lv_aload_n hx hb dLR_readSizes_65 rfl (lv_at hl 1 rfl) ?_
              refine lv_dup hx hb dLR_readSizes_66 rfl ?_
              refine va_get (D := (dC, dI)) (ci := 8) (v := .int z7) (C := kR_LR) (T := kT_LR) (N := 6) hx hb hts kin_LR hown hK hP 2 rfl rfl 5 (by decide) (hts _ (List.mem_cons_of_mem _ kw1_202)) (fun _ h9 => h9) rfl dLR_readSizes_67 ?_
              refine lv_aload_n hx hb dLR_readSizes_70 rfl (lv_at hl 1 rfl) ?_
              refine va_get (D := (dC, dI)) (ci := 8) (v := .ref (ad 24)) (C := kR_LR) (T := kT_LR) (N := 6) hx hb hts kin_LR hown hK hP 2 rfl rfl 2 (by decide) (hts _ (List.mem_cons_of_mem _ kw1_199)) (fun _ h9 => h9) rfl dLR_readSizes_71 ?_
              refine lv_iload_n hx hb dLR_readSizes_74 rfl (lv_at hl 0 rfl) ?_
              refine ip_iald hx hb hK hP 6 0 rfl rfl dLR_readSizes_75 hf (fun z46 hf => ?_)
              refine lv_iadd hx hb dLR_readSizes_76 ?_
              refine ip_top hf (fun z47 hf => ?_)
              refine va_put (D := (dC, dI)) (ci := 8) (v := .int z47) (ty := .int) (C := kR_LR) (T := kT_LR) (N := 6) hx hb hts kin_LR kty_LR kto_LR knm_LR hown hK hP hD hS 2 rfl rfl 5 (by decide) (hts _ (List.mem_cons_of_mem _ kw1_202)) (fun _ h9 => h9) rfl (by decide +kernel) rfl rfl (Nat.le_of_ble_eq_true rfl) dLR_readSizes_77 (fun H locs hP hD hS => ?_)
              replace hP : va_P (dC, dI) vwCl (wLR_readSizes ad cI z40 v_RB_end z41 z42 z5 z6 z47 v_aChosen g43 g44 g45) H := hP
              replace hD : va_D A (wLR_readSizes ad cI z40 v_RB_end z41 z42 z5 z6 z47 v_aChosen g43 g44 g45) := hD
              refine lv_aload_n hx hb dLR_readSizes_80 rfl (lv_at hl 1 rfl) ?_
              refine lv_aload_n hx hb dLR_readSizes_81 rfl (lv_at hl 1 rfl) ?_
              refine va_get (D := (dC, dI)) (ci := 8) (v := .int z5) (C := kR_LR) (T := kT_LR) (N := 6) hx hb hts kin_LR hown hK hP 2 rfl rfl 3 (by decide) (hts _ (List.mem_cons_of_mem _ kw1_200)) (fun _ h9 => h9) rfl dLR_readSizes_82 ?_
              obtain ⟨z48, hh, hf⟩ := ip_b1_e hf
              suffices J96 : ∀ (ls : Array Slot) (H : Heap) (locs : List Loc), lv_has ls 3 [(0, .ref (ad 8)), (1, .int z1)] → va_P (dC, dI) vwCl (wLR_readSizes ad cI z40 v_RB_end z41 z42 z5 z6 z47 v_aChosen g43 g44 g45) H → va_D A (wLR_readSizes ad cI z40 v_RB_end z41 z42 z5 z6 z47 v_aChosen g43 g44 g45) → va_S A s.heap H locs → W p l e rmLR_readSizes s m args below meth c H locs 0 0 Q (F0 m 96 ls [.int z48, .ref (ad 8)]) by
                replace hf := hh
                refine ip_if_ge (tgt := 92) hx hb dLR_readSizes_85 rfl hf (fun hf => ?_) (fun hf => ?_)
                · refine lv_aload_n hx hb dLR_readSizes_92 rfl (lv_at hl 1 rfl) ?_
                  refine va_get (D := (dC, dI)) (ci := 8) (v := .int z5) (C := kR_LR) (T := kT_LR) (N := 6) hx hb hts kin_LR hown hK hP 2 rfl rfl 3 (by decide) (hts _ (List.mem_cons_of_mem _ kw1_200)) (fun _ h9 => h9) rfl dLR_readSizes_93 ?_
                  replace hl := lv_sub hl (l' := [(0, .ref (ad 8)), (1, .int z1)]) [1, 2] rfl
                  cases hf
                  exact J96 ls H locs hl hP hD hS
                · refine lv_iload_n hx hb dLR_readSizes_88 rfl (lv_at hl 2 rfl) ?_
                  refine lv_goto (tgt := 96) hx hb dLR_readSizes_89 rfl ?_
                  replace hl := lv_sub hl (l' := [(0, .ref (ad 8)), (1, .int z1)]) [1, 2] rfl
                  cases hf
                  exact J96 ls H locs hl hP hD hS
              intro ls H locs hl hP hD hS
              clear hh
              refine va_put (D := (dC, dI)) (ci := 8) (v := .int z48) (ty := .int) (C := kR_LR) (T := kT_LR) (N := 6) hx hb hts kin_LR kty_LR kto_LR knm_LR hown hK hP hD hS 2 rfl rfl 3 (by decide) (hts _ (List.mem_cons_of_mem _ kw1_200)) (fun _ h9 => h9) rfl (by decide +kernel) rfl rfl (Nat.le_of_ble_eq_true rfl) dLR_readSizes_96 (fun H locs hP hD hS => ?_)
              replace hP : va_P (dC, dI) vwCl (wLR_readSizes ad cI z40 v_RB_end z41 z42 z48 z6 z47 v_aChosen g43 g44 g45) H := hP
              replace hD : va_D A (wLR_readSizes ad cI z40 v_RB_end z41 z42 z48 z6 z47 v_aChosen g43 g44 g45) := hD
              refine lv_aload_n hx hb dLR_readSizes_99 rfl (lv_at hl 0 rfl) ?_
              refine lv_iload_n hx hb dLR_readSizes_100 rfl (lv_at hl 1 rfl) ?_
              refine va_put (D := (dC, dI)) (ci := 8) (v := .int z1) (ty := .int) (C := kR_LR) (T := kT_LR) (N := 6) hx hb hts kin_LR kty_LR kto_LR knm_LR hown hK hP hD hS 2 rfl rfl 4 (by decide) (hts _ (List.mem_cons_of_mem _ kw1_201)) (fun _ h9 => h9) rfl (by decide +kernel) rfl rfl (Nat.le_of_ble_eq_true rfl) dLR_readSizes_101 (fun H locs hP hD hS => ?_)
              replace hP : va_P (dC, dI) vwCl (wLR_readSizes ad cI z40 v_RB_end z41 z42 z48 z1 z47 v_aChosen g43 g44 g45) H := hP
              replace hD : va_D A (wLR_readSizes ad cI z40 v_RB_end z41 z42 z48 z1 z47 v_aChosen g43 g44 g45) := hD
              cases hf
              exact J104 ls H locs hl hP hD hS
          intro ls H locs hl hP hD hS
          clear hh
          refine ip_iinc (k0 := 1) (v0 := (1 : Int32)) (lv1 := fun z49 => [(1, .int z49), (0, .ref (ad 8))]) hx hb dLR_readSizes_104 hl rfl (by decide) (by decide) (fun _ => rfl) hf (fun z49 ls hf hl => ?_)
          refine lv_goto (tgt := 17) hx hb dLR_readSizes_107 rfl ?_
          replace hl := lv_sub hl (l' := [(0, .ref (ad 8)), (1, .int z49)]) [1, 0] rfl
          exact ih _ _ _ _ _ _ _ _ _ _ (ip_lp10_l hr17 hf) ls H locs hl hP hD hS
    exact L 1000 _ _ _ _ _ _ _ _ _ _ hL ls H locs hl hP hD hS
  intro ls H locs hl hP hD hS
  clear hL
  cases hf
  exact hret H locs 110 ls dLR_readSizes_110 hP hD hS
set_option maxHeartbeats 4000000 in
set_option maxRecDepth 100000 in
theorem tLR_readSigns {l : Launch} {dC : Nat → ClassId} {dI : Nat → Nat → Nat} {cI : ClassId} {ad : Nat → Nat} {t0 t1 t2 t3 : Nat} {v_RB_place : Int32} {v_RB_end : Int32} {v_BD_range : Int32} {v_BD_value : Int32} {v_LR_first : Int32} {v_LR_last : Int32} {v_LR_sum : Int32} {v_aChosen : Nat → Int32} {v_aCounts : Nat → Int32} {v_aGroup : Nat → Int32} {p1 : Int32} {nv_RB_place : Int32} {nv_BD_value : Int32} {nv_aCounts : Nat → Int32} {nv_aGroup : Nat → Int32} (hf : fLR_readSigns v_RB_place v_RB_end v_BD_range v_BD_value v_LR_first v_LR_last v_LR_sum v_aChosen v_aCounts v_aGroup p1 = some (nv_RB_place, nv_BD_value, nv_aCounts, nv_aGroup)) : ip_Mv l yLR_readSigns wsLR_readSigns rmLR_readSigns (dC, dI) vwCl [(cI, .int)] (ip_TS t0 t1 t2 t3) [.ref (ad 8), .int p1] (wLR_readSigns ad cI v_RB_place v_RB_end v_BD_range v_BD_value v_LR_first v_LR_last v_LR_sum v_aChosen v_aCounts v_aGroup) (wLR_readSigns ad cI nv_RB_place v_RB_end v_BD_range nv_BD_value v_LR_first v_LR_last v_LR_sum v_aChosen nv_aCounts nv_aGroup) := by
  refine ip_startV (cc := cLR_readSigns) (maxL := 5) (by decide) rfl (Nat.le_of_ble_eq_true rfl) ?_
  intro p e s m args below meth c Q A ls hx hb hml hts hown hK hP hD hS hA hZ hl hret
  replace hl : lv_has ls 5 [(0, .ref (ad 8)), (1, .int p1)] := hl
  unfold fLR_readSigns at hf
  suffices J0 : ∀ (ls : Array Slot) (H : Heap) (locs : List Loc), lv_has ls 5 [(0, .ref (ad 8)), (1, .int p1)] → va_P (dC, dI) vwCl (wLR_readSigns ad cI v_RB_place v_RB_end v_BD_range v_BD_value v_LR_first v_LR_last v_LR_sum v_aChosen v_aCounts v_aGroup) H → va_D A (wLR_readSigns ad cI v_RB_place v_RB_end v_BD_range v_BD_value v_LR_first v_LR_last v_LR_sum v_aChosen v_aCounts v_aGroup) → va_S A s.heap H locs → W p l e rmLR_readSigns s m args below meth c H locs 0 0 Q (F0 m 0 ls []) by exact J0 ls s.heap [] hl hP hD hS
  clear hP hD hS hl
  intro ls H locs hl hP hD hS
  refine lv_iconst (v := (0 : Int32)) hx hb dLR_readSigns_0 (by decide) ?_
  refine lv_istore_n (lv' := [(2, .int (0 : Int32)), (0, .ref (ad 8)), (1, .int p1)]) hx hb dLR_readSigns_1 rfl hl (by decide) rfl (fun ls hl => ?_)
  replace hl := lv_sub hl (l' := [(0, .ref (ad 8)), (1, .int p1), (2, .int (0 : Int32))]) [1, 2, 0] rfl
  obtain ⟨x6, x7, x8, y9, y10, hL, hf⟩ := ip_b5_e hf
  suffices J88 : ∀ (ls : Array Slot) (H : Heap) (locs : List Loc), lv_has ls 5 [] → va_P (dC, dI) vwCl (wLR_readSigns ad cI x7 v_RB_end v_BD_range x8 v_LR_first v_LR_last v_LR_sum v_aChosen y9 y10) H → va_D A (wLR_readSigns ad cI x7 v_RB_end v_BD_range x8 v_LR_first v_LR_last v_LR_sum v_aChosen y9 y10) → va_S A s.heap H locs → W p l e rmLR_readSigns s m args below meth c H locs 0 0 Q (F0 m 88 ls []) by
    have L : ∀ (n : Nat) (z1 : Int32) (z2 : Int32) (z3 : Int32) (g4 : Nat → Int32) (g5 : Nat → Int32), ip_lp5 (fLR_readSigns_B2 v_RB_end v_BD_range v_LR_first v_LR_sum v_aChosen p1) n z1 z2 z3 g4 g5 = some (x6, x7, x8, y9, y10) → ∀ (ls : Array Slot) (H : Heap) (locs : List Loc), lv_has ls 5 [(0, .ref (ad 8)), (1, .int p1), (2, .int z1)] → va_P (dC, dI) vwCl (wLR_readSigns ad cI z2 v_RB_end v_BD_range z3 v_LR_first v_LR_last v_LR_sum v_aChosen g4 g5) H → va_D A (wLR_readSigns ad cI z2 v_RB_end v_BD_range z3 v_LR_first v_LR_last v_LR_sum v_aChosen g4 g5) → va_S A s.heap H locs → W p l e rmLR_readSigns s m args below meth c H locs 0 0 Q (F0 m 2 ls []) := by
      intro n
      induction n with
      | zero => intro z1 z2 z3 g4 g5 hL; exact (ip_lp5_0 hL).elim
      | succ n ih =>
        intro z1 z2 z3 g4 g5 hL ls H locs hl hP hD hS
        clear hf
        obtain ⟨r9, hf, hr2⟩ := ip_lp5_s hL
        clear hL
        unfold fLR_readSigns_B2 at hf
        refine lv_iload_n hx hb dLR_readSigns_2 rfl (lv_at hl 2 rfl) ?_
        refine lv_bipush (v := (16 : Int32)) hx hb dLR_readSigns_3 (by decide) ?_
        refine ip_icmp_ge (tgt := 88) hx hb dLR_readSigns_5 rfl hf (fun hf => ?_) (fun hf => ?_)
        · have hx9 := ip_lp_x hr2 hf
          replace hl := lv_sub hl (l' := []) [] rfl
          cases hx9
          exact J88 ls H locs hl hP hD hS
        · refine ip_gets (own := kR_LR) hx hb hZ hS 0 rfl hown (hts _ (List.mem_cons_of_mem _ kw2_216)) dLR_readSigns_8 ?_
          refine lv_iload_n hx hb dLR_readSigns_11 rfl (lv_at hl 2 rfl) ?_
          refine ip_tald hx hb hZ hS 0 rfl dLR_readSigns_12 hf (fun z11 hf => ?_)
          refine lv_istore_n (lv' := [(3, .int z11), (0, .ref (ad 8)), (1, .int p1), (2, .int z1)]) hx hb dLR_readSigns_13 rfl hl (by decide) rfl (fun ls hl => ?_)
          refine lv_aload_n hx hb dLR_readSigns_14 rfl (lv_at hl 1 rfl) ?_
          refine va_get (D := (dC, dI)) (ci := 8) (v := .ref (ad 24)) (C := kR_LR) (T := kT_LR) (N := 6) hx hb hts kin_LR hown hK hP 2 rfl rfl 2 (by decide) (hts _ (List.mem_cons_of_mem _ kw1_199)) (fun _ h9 => h9) rfl dLR_readSigns_15 ?_
          refine lv_iload_n hx hb dLR_readSigns_18 rfl (lv_at hl 0 rfl) ?_
          refine ip_iald hx hb hK hP 5 0 rfl rfl dLR_readSigns_19 hf (fun z12 hf => ?_)
          obtain ⟨z13, z14, g15, g16, hh, hf⟩ := ip_b4_e hf
          suffices J82 : ∀ (ls : Array Slot) (H : Heap) (locs : List Loc), lv_has ls 5 [(0, .ref (ad 8)), (1, .int p1), (2, .int z1)] → va_P (dC, dI) vwCl (wLR_readSigns ad cI z13 v_RB_end v_BD_range z14 v_LR_first v_LR_last v_LR_sum v_aChosen g15 g16) H → va_D A (wLR_readSigns ad cI z13 v_RB_end v_BD_range z14 v_LR_first v_LR_last v_LR_sum v_aChosen g15 g16) → va_S A s.heap H locs → W p l e rmLR_readSigns s m args below meth c H locs 0 0 Q (F0 m 82 ls []) by
            replace hf := hh
            refine ip_if_eq (tgt := 82) hx hb dLR_readSigns_20 rfl hf (fun hf => ?_) (fun hf => ?_)
            · replace hl := lv_sub hl (l' := [(0, .ref (ad 8)), (1, .int p1), (2, .int z1)]) [1, 2, 3] rfl
              cases hf
              exact J82 ls H locs hl hP hD hS
            · refine lv_iload_n hx hb dLR_readSigns_23 rfl (lv_at hl 2 rfl) ?_
              obtain ⟨z17, z18, z19, g20, hh, hf⟩ := ip_b4_e hf
              suffices J52 : ∀ (ls : Array Slot) (H : Heap) (locs : List Loc), lv_has ls 5 [(0, .ref (ad 8)), (1, .int p1), (2, .int z1), (3, .int z11)] → va_P (dC, dI) vwCl (wLR_readSigns ad cI z18 v_RB_end v_BD_range z19 v_LR_first v_LR_last v_LR_sum v_aChosen g20 g5) H → va_D A (wLR_readSigns ad cI z18 v_RB_end v_BD_range z19 v_LR_first v_LR_last v_LR_sum v_aChosen g20 g5) → va_S A s.heap H locs → W p l e rmLR_readSigns s m args below meth c H locs 0 0 Q (F0 m 52 ls [.int z17]) by
                replace hf := hh
                refine ip_if_eq (tgt := 44) hx hb dLR_readSigns_24 rfl hf (fun hf => ?_) (fun hf => ?_)
                · refine lv_aload_n hx hb dLR_readSigns_44 rfl (lv_at hl 1 rfl) ?_
                  refine va_get (D := (dC, dI)) (ci := 8) (v := .ref (ad 4)) (C := kR_LR) (T := kT_LR) (N := 6) hx hb hts kin_LR hown hK hP 2 rfl rfl 0 (by decide) (hts _ (List.mem_cons_of_mem _ kw1_197)) (fun _ h9 => h9) rfl dLR_readSigns_45 ?_
                  refine lv_iconst (v := (1 : Int32)) hx hb dLR_readSigns_48 (by decide) ?_
                  obtain ⟨z21, z22, z23, g24, hc, hf⟩ := ip_b4_e hf
                  refine ip_calli (va_runV (As := [.int (1 : Int32)]) (rest := []) ⟨hx, hb, hml, hown, hts⟩ (tBD_freeBits (l := l) (dC := dC) (dI := dI) (ad := ad) (cI := cI) (ts := (ip_TS t0 t1 t2 t3)) hc H.size) (cwV 1 hts (ip_gdV (own := kR_LR) (idx := 78) (C := kR_BD) (y := yBD_freeBits) kw2_226 kw2_204 kw2_205 kw1_5 kw2_206) rfl rfl rfl (by decide +kernel) ⟨Nat.le_of_ble_eq_true rfl, Nat.le_of_ble_eq_true rfl⟩) (ip_preV hK hP hD hS hA hZ [0, 1, 3, 4] rfl rfl (ci := 4) (q0 := 1) rfl rfl) rfl rfl hl.1 rfl (lv_room (Nat.le_of_ble_eq_true rfl)) dLR_readSigns_49 ⟨Nat.le_of_ble_eq_true rfl, Nat.le_of_ble_eq_true rfl⟩) hP hD hS hA [0, 1, 3, 4] [2, 5] [2, 3, 0, 4, 5, 1] (wLR_readSigns ad cI z22 v_RB_end v_BD_range z23 v_LR_first v_LR_last v_LR_sum v_aChosen g24 g5) rfl rfl rfl (by decide) rfl rfl (fun H locs hP hD hS => ?_)
                  clear hc
                  replace hl := lv_sub hl (l' := [(0, .ref (ad 8)), (1, .int p1), (2, .int z1), (3, .int z11)]) [1, 2, 3, 0] rfl
                  cases hf
                  exact J52 ls H locs hl hP hD hS
                · refine lv_iload_n hx hb dLR_readSigns_27 rfl (lv_at hl 3 rfl) ?_
                  refine lv_aload_n hx hb dLR_readSigns_28 rfl (lv_at hl 1 rfl) ?_
                  refine va_get (D := (dC, dI)) (ci := 8) (v := .int v_LR_first) (C := kR_LR) (T := kT_LR) (N := 6) hx hb hts kin_LR hown hK hP 2 rfl rfl 3 (by decide) (hts _ (List.mem_cons_of_mem _ kw1_200)) (fun _ h9 => h9) rfl dLR_readSigns_29 ?_
                  refine ip_icmp_ne (tgt := 44) hx hb dLR_readSigns_32 rfl hf (fun hf => ?_) (fun hf => ?_)
                  · refine lv_aload_n hx hb dLR_readSigns_44 rfl (lv_at hl 1 rfl) ?_
                    refine va_get (D := (dC, dI)) (ci := 8) (v := .ref (ad 4)) (C := kR_LR) (T := kT_LR) (N := 6) hx hb hts kin_LR hown hK hP 2 rfl rfl 0 (by decide) (hts _ (List.mem_cons_of_mem _ kw1_197)) (fun _ h9 => h9) rfl dLR_readSigns_45 ?_
                    refine lv_iconst (v := (1 : Int32)) hx hb dLR_readSigns_48 (by decide) ?_
                    obtain ⟨z25, z26, z27, g28, hc, hf⟩ := ip_b4_e hf
                    refine ip_calli (va_runV (As := [.int (1 : Int32)]) (rest := []) ⟨hx, hb, hml, hown, hts⟩ (tBD_freeBits (l := l) (dC := dC) (dI := dI) (ad := ad) (cI := cI) (ts := (ip_TS t0 t1 t2 t3)) hc H.size) (cwV 1 hts (ip_gdV (own := kR_LR) (idx := 78) (C := kR_BD) (y := yBD_freeBits) kw2_226 kw2_204 kw2_205 kw1_5 kw2_206) rfl rfl rfl (by decide +kernel) ⟨Nat.le_of_ble_eq_true rfl, Nat.le_of_ble_eq_true rfl⟩) (ip_preV hK hP hD hS hA hZ [0, 1, 3, 4] rfl rfl (ci := 4) (q0 := 1) rfl rfl) rfl rfl hl.1 rfl (lv_room (Nat.le_of_ble_eq_true rfl)) dLR_readSigns_49 ⟨Nat.le_of_ble_eq_true rfl, Nat.le_of_ble_eq_true rfl⟩) hP hD hS hA [0, 1, 3, 4] [2, 5] [2, 3, 0, 4, 5, 1] (wLR_readSigns ad cI z26 v_RB_end v_BD_range z27 v_LR_first v_LR_last v_LR_sum v_aChosen g28 g5) rfl rfl rfl (by decide) rfl rfl (fun H locs hP hD hS => ?_)
                    clear hc
                    replace hl := lv_sub hl (l' := [(0, .ref (ad 8)), (1, .int p1), (2, .int z1), (3, .int z11)]) [1, 2, 3, 0] rfl
                    cases hf
                    exact J52 ls H locs hl hP hD hS
                  · refine lv_aload_n hx hb dLR_readSigns_35 rfl (lv_at hl 1 rfl) ?_
                    refine va_get (D := (dC, dI)) (ci := 8) (v := .int v_LR_sum) (C := kR_LR) (T := kT_LR) (N := 6) hx hb hts kin_LR hown hK hP 2 rfl rfl 5 (by decide) (hts _ (List.mem_cons_of_mem _ kw1_202)) (fun _ h9 => h9) rfl dLR_readSigns_36 ?_
                    refine lv_iconst (v := (1 : Int32)) hx hb dLR_readSigns_39 (by decide) ?_
                    refine lv_iand hx hb dLR_readSigns_40 ?_
                    refine lv_goto (tgt := 52) hx hb dLR_readSigns_41 rfl ?_
                    replace hl := lv_sub hl (l' := [(0, .ref (ad 8)), (1, .int p1), (2, .int z1), (3, .int z11)]) [1, 2, 3, 0] rfl
                    cases hf
                    exact J52 ls H locs hl hP hD hS
              intro ls H locs hl hP hD hS
              clear hh
              refine lv_istore (lv' := [(4, .int z17), (0, .ref (ad 8)), (1, .int p1), (2, .int z1), (3, .int z11)]) hx hb dLR_readSigns_52 hl (by decide) rfl (fun ls hl => ?_)
              refine lv_aload_n hx hb dLR_readSigns_54 rfl (lv_at hl 1 rfl) ?_
              refine va_get (D := (dC, dI)) (ci := 8) (v := .ref (ad 24)) (C := kR_LR) (T := kT_LR) (N := 6) hx hb hts kin_LR hown hK hP 2 rfl rfl 2 (by decide) (hts _ (List.mem_cons_of_mem _ kw1_199)) (fun _ h9 => h9) rfl dLR_readSigns_55 ?_
              refine lv_iload_n hx hb dLR_readSigns_58 rfl (lv_at hl 4 rfl) ?_
              refine lv_iload hx hb dLR_readSigns_59 (lv_at hl 0 rfl) ?_
              refine lv_iconst (v := (1 : Int32)) hx hb dLR_readSigns_61 (by decide) ?_
              obtain ⟨z29, hh, hf⟩ := ip_b1_e hf
              suffices J81 : ∀ (ls : Array Slot) (H : Heap) (locs : List Loc), lv_has ls 5 [(0, .ref (ad 8)), (1, .int p1), (2, .int z1)] → va_P (dC, dI) vwCl (wLR_readSigns ad cI z18 v_RB_end v_BD_range z19 v_LR_first v_LR_last v_LR_sum v_aChosen g20 g5) H → va_D A (wLR_readSigns ad cI z18 v_RB_end v_BD_range z19 v_LR_first v_LR_last v_LR_sum v_aChosen g20 g5) → va_S A s.heap H locs → W p l e rmLR_readSigns s m args below meth c H locs 0 0 Q (F0 m 81 ls [.int z29, .int z11, .ref (ad 24)]) by
                replace hf := hh
                refine ip_icmp_ne (tgt := 75) hx hb dLR_readSigns_62 rfl hf (fun hf => ?_) (fun hf => ?_)
                · refine lv_aload_n hx hb dLR_readSigns_75 rfl (lv_at hl 1 rfl) ?_
                  refine va_get (D := (dC, dI)) (ci := 8) (v := .ref (ad 24)) (C := kR_LR) (T := kT_LR) (N := 6) hx hb hts kin_LR hown hK hP 2 rfl rfl 2 (by decide) (hts _ (List.mem_cons_of_mem _ kw1_199)) (fun _ h9 => h9) rfl dLR_readSigns_76 ?_
                  refine lv_iload_n hx hb dLR_readSigns_79 rfl (lv_at hl 4 rfl) ?_
                  refine ip_iald hx hb hK hP 5 0 rfl rfl dLR_readSigns_80 hf (fun z30 hf => ?_)
                  replace hl := lv_sub hl (l' := [(0, .ref (ad 8)), (1, .int p1), (2, .int z1)]) [1, 2, 3] rfl
                  cases hf
                  exact J81 ls H locs hl hP hD hS
                · refine lv_aload_n hx hb dLR_readSigns_65 rfl (lv_at hl 1 rfl) ?_
                  refine va_get (D := (dC, dI)) (ci := 8) (v := .ref (ad 24)) (C := kR_LR) (T := kT_LR) (N := 6) hx hb hts kin_LR hown hK hP 2 rfl rfl 2 (by decide) (hts _ (List.mem_cons_of_mem _ kw1_199)) (fun _ h9 => h9) rfl dLR_readSigns_66 ?_
                  refine lv_iload_n hx hb dLR_readSigns_69 rfl (lv_at hl 4 rfl) ?_
                  refine ip_iald hx hb hK hP 5 0 rfl rfl dLR_readSigns_70 hf (fun z31 hf => ?_)
                  refine lv_ineg hx hb dLR_readSigns_71 ?_
                  refine lv_goto (tgt := 81) hx hb dLR_readSigns_72 rfl ?_
                  replace hl := lv_sub hl (l' := [(0, .ref (ad 8)), (1, .int p1), (2, .int z1)]) [1, 2, 3] rfl
                  cases hf
                  exact J81 ls H locs hl hP hD hS
              intro ls H locs hl hP hD hS
              clear hh
              refine ip_iast hx hb hK hP hD hS 5 0 rfl rfl (fun g32 => (wLR_readSigns ad cI z18 v_RB_end v_BD_range z19 v_LR_first v_LR_last v_LR_sum v_aChosen g20 g32)) (fun _ => rfl) dLR_readSigns_81 hf (fun g32 H locs hf hP hD hS => ?_)
              cases hf
              exact J82 ls H locs hl hP hD hS
          intro ls H locs hl hP hD hS
          clear hh
          refine ip_iinc (k0 := 2) (v0 := (1 : Int32)) (lv1 := fun z33 => [(2, .int z33), (0, .ref (ad 8)), (1, .int p1)]) hx hb dLR_readSigns_82 hl rfl (by decide) (by decide) (fun _ => rfl) hf (fun z33 ls hf hl => ?_)
          refine lv_goto (tgt := 2) hx hb dLR_readSigns_85 rfl ?_
          replace hl := lv_sub hl (l' := [(0, .ref (ad 8)), (1, .int p1), (2, .int z33)]) [1, 2, 0] rfl
          exact ih _ _ _ _ _ (ip_lp5_l hr2 hf) ls H locs hl hP hD hS
    exact L 1000 _ _ _ _ _ hL ls H locs hl hP hD hS
  intro ls H locs hl hP hD hS
  clear hL
  cases hf
  exact hret H locs 88 ls dLR_readSigns_88 hP hD hS
set_option maxHeartbeats 4000000 in
set_option maxRecDepth 100000 in
theorem tLR_keepGroup {l : Launch} {dC : Nat → ClassId} {dI : Nat → Nat → Nat} {cI : ClassId} {ad : Nat → Nat} {ts : ip_TT} {v_LR_first : Int32} {v_LR_last : Int32} {v_LR_sum : Int32} {v_aLevels : Nat → Int32} {v_aGroup : Nat → Int32} {p1 : Int32} {nv_aLevels : Nat → Int32} (hf : fLR_keepGroup v_LR_first v_LR_last v_LR_sum v_aLevels v_aGroup p1 = some nv_aLevels) : ip_Mv l yLR_keepGroup wsLR_keepGroup rmLR_keepGroup (dC, dI) vwCl [(cI, .int)] ts [.ref (ad 8), .int p1] (wLR_keepGroup ad cI v_LR_first v_LR_last v_LR_sum v_aLevels v_aGroup) (wLR_keepGroup ad cI v_LR_first v_LR_last v_LR_sum nv_aLevels v_aGroup) := by
  refine ip_startV (cc := cLR_keepGroup) (maxL := 3) (by decide) rfl (Nat.le_of_ble_eq_true rfl) ?_
  intro p e s m args below meth c Q A ls hx hb hml hts hown hK hP hD hS hA hZ hl hret
  replace hl : lv_has ls 3 [(0, .ref (ad 8)), (1, .int p1)] := hl
  unfold fLR_keepGroup at hf
  suffices J0 : ∀ (ls : Array Slot) (H : Heap) (locs : List Loc), lv_has ls 3 [(0, .ref (ad 8)), (1, .int p1)] → va_P (dC, dI) vwCl (wLR_keepGroup ad cI v_LR_first v_LR_last v_LR_sum v_aLevels v_aGroup) H → va_D A (wLR_keepGroup ad cI v_LR_first v_LR_last v_LR_sum v_aLevels v_aGroup) → va_S A s.heap H locs → W p l e rmLR_keepGroup s m args below meth c H locs 0 0 Q (F0 m 0 ls []) by exact J0 ls s.heap [] hl hP hD hS
  clear hP hD hS hl
  intro ls H locs hl hP hD hS
  refine lv_iconst (v := (0 : Int32)) hx hb dLR_keepGroup_0 (by decide) ?_
  refine lv_istore_n (lv' := [(2, .int (0 : Int32)), (0, .ref (ad 8)), (1, .int p1)]) hx hb dLR_keepGroup_1 rfl hl (by decide) rfl (fun ls hl => ?_)
  replace hl := lv_sub hl (l' := [(0, .ref (ad 8)), (1, .int p1), (2, .int (0 : Int32))]) [1, 2, 0] rfl
  obtain ⟨x3, y4, hL, hf⟩ := ip_b2_e hf
  suffices J37 : ∀ (ls : Array Slot) (H : Heap) (locs : List Loc), lv_has ls 3 [] → va_P (dC, dI) vwCl (wLR_keepGroup ad cI v_LR_first v_LR_last v_LR_sum y4 v_aGroup) H → va_D A (wLR_keepGroup ad cI v_LR_first v_LR_last v_LR_sum y4 v_aGroup) → va_S A s.heap H locs → W p l e rmLR_keepGroup s m args below meth c H locs 0 0 Q (F0 m 37 ls []) by
    have L : ∀ (n : Nat) (z1 : Int32) (g2 : Nat → Int32), ip_lp2 (fLR_keepGroup_B2 v_aGroup p1) n z1 g2 = some (x3, y4) → ∀ (ls : Array Slot) (H : Heap) (locs : List Loc), lv_has ls 3 [(0, .ref (ad 8)), (1, .int p1), (2, .int z1)] → va_P (dC, dI) vwCl (wLR_keepGroup ad cI v_LR_first v_LR_last v_LR_sum g2 v_aGroup) H → va_D A (wLR_keepGroup ad cI v_LR_first v_LR_last v_LR_sum g2 v_aGroup) → va_S A s.heap H locs → W p l e rmLR_keepGroup s m args below meth c H locs 0 0 Q (F0 m 2 ls []) := by
      intro n
      induction n with
      | zero => intro z1 g2 hL; exact (ip_lp2_0 hL).elim
      | succ n ih =>
        intro z1 g2 hL ls H locs hl hP hD hS
        clear hf
        obtain ⟨r9, hf, hr2⟩ := ip_lp2_s hL
        clear hL
        unfold fLR_keepGroup_B2 at hf
        refine lv_iload_n hx hb dLR_keepGroup_2 rfl (lv_at hl 2 rfl) ?_
        refine lv_bipush (v := (16 : Int32)) hx hb dLR_keepGroup_3 (by decide) ?_
        refine ip_icmp_ge (tgt := 37) hx hb dLR_keepGroup_5 rfl hf (fun hf => ?_) (fun hf => ?_)
        · have hx9 := ip_lp_x hr2 hf
          replace hl := lv_sub hl (l' := []) [] rfl
          cases hx9
          exact J37 ls H locs hl hP hD hS
        · refine lv_aload_n hx hb dLR_keepGroup_8 rfl (lv_at hl 0 rfl) ?_
          refine va_get (D := (dC, dI)) (ci := 8) (v := .ref (ad 21)) (C := kR_LR) (T := kT_LR) (N := 6) hx hb hts kin_LR hown hK hP 0 rfl rfl 1 (by decide) (hts _ (List.mem_cons_of_mem _ kw1_198)) (fun _ h9 => h9) rfl dLR_keepGroup_9 ?_
          refine lv_iload_n hx hb dLR_keepGroup_12 rfl (lv_at hl 1 rfl) ?_
          refine lv_iload_n hx hb dLR_keepGroup_13 rfl (lv_at hl 2 rfl) ?_
          refine lv_iconst (v := (2 : Int32)) hx hb dLR_keepGroup_14 (by decide) ?_
          refine lv_ishr hx hb dLR_keepGroup_15 ?_
          refine lv_bipush (v := (16 : Int32)) hx hb dLR_keepGroup_16 (by decide) ?_
          refine lv_imul hx hb dLR_keepGroup_18 ?_
          refine lv_iadd hx hb dLR_keepGroup_19 ?_
          refine lv_iload_n hx hb dLR_keepGroup_20 rfl (lv_at hl 2 rfl) ?_
          refine lv_iconst (v := (3 : Int32)) hx hb dLR_keepGroup_21 (by decide) ?_
          refine lv_iand hx hb dLR_keepGroup_22 ?_
          refine lv_iadd hx hb dLR_keepGroup_23 ?_
          refine lv_aload_n hx hb dLR_keepGroup_24 rfl (lv_at hl 0 rfl) ?_
          refine va_get (D := (dC, dI)) (ci := 8) (v := .ref (ad 24)) (C := kR_LR) (T := kT_LR) (N := 6) hx hb hts kin_LR hown hK hP 0 rfl rfl 2 (by decide) (hts _ (List.mem_cons_of_mem _ kw1_199)) (fun _ h9 => h9) rfl dLR_keepGroup_25 ?_
          refine lv_iload_n hx hb dLR_keepGroup_28 rfl (lv_at hl 2 rfl) ?_
          refine ip_iald hx hb hK hP 2 0 rfl rfl dLR_keepGroup_29 hf (fun z5 hf => ?_)
          refine ip_iast hx hb hK hP hD hS 1 0 rfl rfl (fun g6 => (wLR_keepGroup ad cI v_LR_first v_LR_last v_LR_sum g6 v_aGroup)) (fun _ => rfl) dLR_keepGroup_30 hf (fun g6 H locs hf hP hD hS => ?_)
          refine ip_iinc (k0 := 2) (v0 := (1 : Int32)) (lv1 := fun z7 => [(2, .int z7), (0, .ref (ad 8)), (1, .int p1)]) hx hb dLR_keepGroup_31 hl rfl (by decide) (by decide) (fun _ => rfl) hf (fun z7 ls hf hl => ?_)
          refine lv_goto (tgt := 2) hx hb dLR_keepGroup_34 rfl ?_
          replace hl := lv_sub hl (l' := [(0, .ref (ad 8)), (1, .int p1), (2, .int z7)]) [1, 2, 0] rfl
          exact ih _ _ (ip_lp2_l hr2 hf) ls H locs hl hP hD hS
    exact L 1000 _ _ hL ls H locs hl hP hD hS
  intro ls H locs hl hP hD hS
  clear hL
  cases hf
  exact hret H locs 37 ls dLR_keepGroup_37 hP hD hS
set_option maxHeartbeats 4000000 in
set_option maxRecDepth 100000 in
theorem tLR_readLeaf {l : Launch} {dC : Nat → ClassId} {dI : Nat → Nat → Nat} {cI : ClassId} {ad : Nat → Nat} {t0 t1 t2 t3 : Nat} {v_RB_place : Int32} {v_RB_end : Int32} {v_BD_range : Int32} {v_BD_value : Int32} {v_LF_x : Int32} {v_LF_y : Int32} {v_LF_side : Int32} {v_LF_mode : Int32} {v_LF_skip : Int32} {v_LR_first : Int32} {v_LR_last : Int32} {v_LR_sum : Int32} {v_aChosen : Nat → Int32} {v_aValues : Nat → Int32} {v_aChances : Nat → Int32} {v_aCounts : Nat → Int32} {v_aLevels : Nat → Int32} {v_aGroup : Nat → Int32}  {nv_RB_place : Int32} {nv_BD_range : Int32} {nv_BD_value : Int32} {nv_LF_skip : Int32} {nv_LR_first : Int32} {nv_LR_last : Int32} {nv_LR_sum : Int32} {nv_aChances : Nat → Int32} {nv_aCounts : Nat → Int32} {nv_aLevels : Nat → Int32} {nv_aGroup : Nat → Int32} (hf : fLR_readLeaf v_RB_place v_RB_end v_BD_range v_BD_value v_LF_x v_LF_y v_LF_side v_LF_mode v_LF_skip v_LR_first v_LR_last v_LR_sum v_aChosen v_aValues v_aChances v_aCounts v_aLevels v_aGroup = some (nv_RB_place, nv_BD_range, nv_BD_value, nv_LF_skip, nv_LR_first, nv_LR_last, nv_LR_sum, nv_aChances, nv_aCounts, nv_aLevels, nv_aGroup)) : ip_Mv l yLR_readLeaf wsLR_readLeaf rmLR_readLeaf (dC, dI) vwCl [(cI, .int)] (ip_TS t0 t1 t2 t3) [.ref (ad 8), .ref (ad 5), .ref (ad 14)] (wLR_readLeaf ad cI v_RB_place v_RB_end v_BD_range v_BD_value v_LF_x v_LF_y v_LF_side v_LF_mode v_LF_skip v_LR_first v_LR_last v_LR_sum v_aChosen v_aValues v_aChances v_aCounts v_aLevels v_aGroup) (wLR_readLeaf ad cI nv_RB_place v_RB_end nv_BD_range nv_BD_value v_LF_x v_LF_y v_LF_side v_LF_mode nv_LF_skip nv_LR_first nv_LR_last nv_LR_sum v_aChosen v_aValues nv_aChances nv_aCounts nv_aLevels nv_aGroup) := by
  refine ip_startV (cc := cLR_readLeaf) (maxL := 8) (by decide) rfl (Nat.le_of_ble_eq_true rfl) ?_
  intro p e s m args below meth c Q A ls hx hb hml hts hown hK hP hD hS hA hZ hl hret
  replace hl : lv_has ls 8 [(0, .ref (ad 8)), (1, .ref (ad 5)), (2, .ref (ad 14))] := hl
  unfold fLR_readLeaf at hf
  suffices J0 : ∀ (ls : Array Slot) (H : Heap) (locs : List Loc), lv_has ls 8 [(0, .ref (ad 8)), (1, .ref (ad 5)), (2, .ref (ad 14))] → va_P (dC, dI) vwCl (wLR_readLeaf ad cI v_RB_place v_RB_end v_BD_range v_BD_value v_LF_x v_LF_y v_LF_side v_LF_mode v_LF_skip v_LR_first v_LR_last v_LR_sum v_aChosen v_aValues v_aChances v_aCounts v_aLevels v_aGroup) H → va_D A (wLR_readLeaf ad cI v_RB_place v_RB_end v_BD_range v_BD_value v_LF_x v_LF_y v_LF_side v_LF_mode v_LF_skip v_LR_first v_LR_last v_LR_sum v_aChosen v_aValues v_aChances v_aCounts v_aLevels v_aGroup) → va_S A s.heap H locs → W p l e rmLR_readLeaf s m args below meth c H locs 0 0 Q (F0 m 0 ls []) by exact J0 ls s.heap [] hl hP hD hS
  clear hP hD hS hl
  intro ls H locs hl hP hD hS
  refine lv_aload_n hx hb dLR_readLeaf_0 rfl (lv_at hl 1 rfl) ?_
  refine va_get (D := (dC, dI)) (ci := 5) (v := .int v_LF_side) (C := kR_LF) (T := kT_LF) (N := 5) hx hb hts kin_LF hown hK hP 2 rfl rfl 2 (by decide) (hts _ (List.mem_cons_of_mem _ kw1_170)) (fun _ h9 => h9) rfl dLR_readLeaf_1 ?_
  refine lv_bipush (v := (8 : Int32)) hx hb dLR_readLeaf_4 (by decide) ?_
  obtain ⟨z1, hh, hf⟩ := ip_b1_e hf
  suffices J14 : ∀ (ls : Array Slot) (H : Heap) (locs : List Loc), lv_has ls 8 [(0, .ref (ad 8)), (1, .ref (ad 5)), (2, .ref (ad 14))] → va_P (dC, dI) vwCl (wLR_readLeaf ad cI v_RB_place v_RB_end v_BD_range v_BD_value v_LF_x v_LF_y v_LF_side v_LF_mode v_LF_skip v_LR_first v_LR_last v_LR_sum v_aChosen v_aValues v_aChances v_aCounts v_aLevels v_aGroup) H → va_D A (wLR_readLeaf ad cI v_RB_place v_RB_end v_BD_range v_BD_value v_LF_x v_LF_y v_LF_side v_LF_mode v_LF_skip v_LR_first v_LR_last v_LR_sum v_aChosen v_aValues v_aChances v_aCounts v_aLevels v_aGroup) → va_S A s.heap H locs → W p l e rmLR_readLeaf s m args below meth c H locs 0 0 Q (F0 m 14 ls [.int z1]) by
    replace hf := hh
    refine ip_icmp_ne (tgt := 13) hx hb dLR_readLeaf_6 rfl hf (fun hf => ?_) (fun hf => ?_)
    · refine lv_iconst (v := (0 : Int32)) hx hb dLR_readLeaf_13 (by decide) ?_
      cases hf
      exact J14 ls H locs hl hP hD hS
    · refine lv_iconst (v := (1 : Int32)) hx hb dLR_readLeaf_9 (by decide) ?_
      refine lv_goto (tgt := 14) hx hb dLR_readLeaf_10 rfl ?_
      cases hf
      exact J14 ls H locs hl hP hD hS
  intro ls H locs hl hP hD hS
  clear hh
  refine lv_istore_n (lv' := [(3, .int z1), (0, .ref (ad 8)), (1, .ref (ad 5)), (2, .ref (ad 14))]) hx hb dLR_readLeaf_14 rfl hl (by decide) rfl (fun ls hl => ?_)
  refine lv_aload_n hx hb dLR_readLeaf_15 rfl (lv_at hl 1 rfl) ?_
  refine va_get (D := (dC, dI)) (ci := 8) (v := .ref (ad 4)) (C := kR_LR) (T := kT_LR) (N := 6) hx hb hts kin_LR hown hK hP 3 rfl rfl 0 (by decide) (hts _ (List.mem_cons_of_mem _ kw1_197)) (fun _ h9 => h9) rfl dLR_readLeaf_16 ?_
  refine lv_iload_n hx hb dLR_readLeaf_19 rfl (lv_at hl 0 rfl) ?_
  obtain ⟨z2, hh, hf⟩ := ip_b1_e hf
  suffices J28 : ∀ (ls : Array Slot) (H : Heap) (locs : List Loc), lv_has ls 8 [(0, .ref (ad 8)), (1, .ref (ad 5)), (2, .ref (ad 14)), (3, .int z1)] → va_P (dC, dI) vwCl (wLR_readLeaf ad cI v_RB_place v_RB_end v_BD_range v_BD_value v_LF_x v_LF_y v_LF_side v_LF_mode v_LF_skip v_LR_first v_LR_last v_LR_sum v_aChosen v_aValues v_aChances v_aCounts v_aLevels v_aGroup) H → va_D A (wLR_readLeaf ad cI v_RB_place v_RB_end v_BD_range v_BD_value v_LF_x v_LF_y v_LF_side v_LF_mode v_LF_skip v_LR_first v_LR_last v_LR_sum v_aChosen v_aValues v_aChances v_aCounts v_aLevels v_aGroup) → va_S A s.heap H locs → W p l e rmLR_readLeaf s m args below meth c H locs 0 0 Q (F0 m 28 ls [.int z2, .ref (ad 4)]) by
    replace hf := hh
    refine ip_if_eq (tgt := 27) hx hb dLR_readLeaf_20 rfl hf (fun hf => ?_) (fun hf => ?_)
    · refine lv_iconst (v := (4 : Int32)) hx hb dLR_readLeaf_27 (by decide) ?_
      replace hl := lv_sub hl (l' := [(0, .ref (ad 8)), (1, .ref (ad 5)), (2, .ref (ad 14)), (3, .int z1)]) [1, 2, 3, 0] rfl
      cases hf
      exact J28 ls H locs hl hP hD hS
    · refine lv_iconst (v := (5 : Int32)) hx hb dLR_readLeaf_23 (by decide) ?_
      refine lv_goto (tgt := 28) hx hb dLR_readLeaf_24 rfl ?_
      replace hl := lv_sub hl (l' := [(0, .ref (ad 8)), (1, .ref (ad 5)), (2, .ref (ad 14)), (3, .int z1)]) [1, 2, 3, 0] rfl
      cases hf
      exact J28 ls H locs hl hP hD hS
  intro ls H locs hl hP hD hS
  clear hh
  obtain ⟨z3, z4, z5, z6, g7, g8, hc, hf⟩ := ip_b6_e hf
  refine ip_calli (va_runV (As := [.int z2]) (rest := []) ⟨hx, hb, hml, hown, hts⟩ (tBD_bin (l := l) (dC := dC) (dI := dI) (ad := ad) (cI := cI) (ts := (ip_TS t0 t1 t2 t3)) hc H.size) (cwV 1 hts (ip_gdV (own := kR_LR) (idx := 28) (C := kR_BD) (y := yBD_bin) kw2_211 kw2_187 kw2_188 kw1_5 kw2_189) rfl rfl rfl (by decide +kernel) ⟨Nat.le_of_ble_eq_true rfl, Nat.le_of_ble_eq_true rfl⟩) (ip_preV hK hP hD hS hA hZ [0, 1, 4, 6, 7] rfl rfl (ci := 4) (q0 := 1) rfl rfl) rfl rfl hl.1 rfl (lv_room (Nat.le_of_ble_eq_true rfl)) dLR_readLeaf_28 ⟨Nat.le_of_ble_eq_true rfl, Nat.le_of_ble_eq_true rfl⟩) hP hD hS hA [0, 1, 4, 6, 7] [2, 3, 5, 8, 9] [5, 6, 0, 1, 7, 2, 8, 9, 3, 4] (wLR_readLeaf ad cI z4 v_RB_end z5 z6 v_LF_x v_LF_y v_LF_side v_LF_mode v_LF_skip v_LR_first v_LR_last v_LR_sum v_aChosen v_aValues g7 g8 v_aLevels v_aGroup) rfl rfl rfl (by decide) rfl rfl (fun H locs hP hD hS => ?_)
  clear hc
  refine lv_iconst (v := (1 : Int32)) hx hb dLR_readLeaf_31 (by decide) ?_
  obtain ⟨z9, hh, hf⟩ := ip_b1_e hf
  suffices J40 : ∀ (ls : Array Slot) (H : Heap) (locs : List Loc), lv_has ls 8 [(0, .ref (ad 8)), (1, .ref (ad 5)), (2, .ref (ad 14)), (3, .int z1)] → va_P (dC, dI) vwCl (wLR_readLeaf ad cI z4 v_RB_end z5 z6 v_LF_x v_LF_y v_LF_side v_LF_mode v_LF_skip v_LR_first v_LR_last v_LR_sum v_aChosen v_aValues g7 g8 v_aLevels v_aGroup) H → va_D A (wLR_readLeaf ad cI z4 v_RB_end z5 z6 v_LF_x v_LF_y v_LF_side v_LF_mode v_LF_skip v_LR_first v_LR_last v_LR_sum v_aChosen v_aValues g7 g8 v_aLevels v_aGroup) → va_S A s.heap H locs → W p l e rmLR_readLeaf s m args below meth c H locs 0 0 Q (F0 m 40 ls [.int z9]) by
    replace hf := hh
    refine ip_icmp_ne (tgt := 39) hx hb dLR_readLeaf_32 rfl hf (fun hf => ?_) (fun hf => ?_)
    · refine lv_iconst (v := (0 : Int32)) hx hb dLR_readLeaf_39 (by decide) ?_
      cases hf
      exact J40 ls H locs hl hP hD hS
    · refine lv_iconst (v := (1 : Int32)) hx hb dLR_readLeaf_35 (by decide) ?_
      refine lv_goto (tgt := 40) hx hb dLR_readLeaf_36 rfl ?_
      cases hf
      exact J40 ls H locs hl hP hD hS
  intro ls H locs hl hP hD hS
  clear hh
  refine lv_istore (lv' := [(4, .int z9), (0, .ref (ad 8)), (1, .ref (ad 5)), (2, .ref (ad 14)), (3, .int z1)]) hx hb dLR_readLeaf_40 hl (by decide) rfl (fun ls hl => ?_)
  refine lv_iload hx hb dLR_readLeaf_42 (lv_at hl 0 rfl) ?_
  obtain ⟨z10, z11, z12, z13, g14, g15, hh, hf⟩ := ip_b6_e hf
  suffices J80 : ∀ (ls : Array Slot) (H : Heap) (locs : List Loc), lv_has ls 8 [(0, .ref (ad 8)), (1, .ref (ad 5)), (2, .ref (ad 14)), (3, .int z1), (4, .int z9)] → va_P (dC, dI) vwCl (wLR_readLeaf ad cI z10 v_RB_end z11 z12 v_LF_x v_LF_y v_LF_side v_LF_mode z13 v_LR_first v_LR_last v_LR_sum v_aChosen v_aValues g14 g15 v_aLevels v_aGroup) H → va_D A (wLR_readLeaf ad cI z10 v_RB_end z11 z12 v_LF_x v_LF_y v_LF_side v_LF_mode z13 v_LR_first v_LR_last v_LR_sum v_aChosen v_aValues g14 g15 v_aLevels v_aGroup) → va_S A s.heap H locs → W p l e rmLR_readLeaf s m args below meth c H locs 0 0 Q (F0 m 80 ls []) by
    replace hf := hh
    refine ip_if_eq (tgt := 80) hx hb dLR_readLeaf_44 rfl hf (fun hf => ?_) (fun hf => ?_)
    · replace hl := lv_sub hl (l' := [(0, .ref (ad 8)), (1, .ref (ad 5)), (2, .ref (ad 14)), (3, .int z1), (4, .int z9)]) [1, 2, 3, 4, 0] rfl
      cases hf
      exact J80 ls H locs hl hP hD hS
    · refine lv_iload_n hx hb dLR_readLeaf_47 rfl (lv_at hl 4 rfl) ?_
      refine ip_if_ne (tgt := 80) hx hb dLR_readLeaf_48 rfl hf (fun hf => ?_) (fun hf => ?_)
      · replace hl := lv_sub hl (l' := [(0, .ref (ad 8)), (1, .ref (ad 5)), (2, .ref (ad 14)), (3, .int z1), (4, .int z9)]) [1, 2, 3, 4, 0] rfl
        cases hf
        exact J80 ls H locs hl hP hD hS
      · refine lv_aload_n hx hb dLR_readLeaf_51 rfl (lv_at hl 3 rfl) ?_
        refine lv_iconst (v := (2 : Int32)) hx hb dLR_readLeaf_52 (by decide) ?_
        refine ip_iald hx hb hK hP 5 0 rfl rfl dLR_readLeaf_53 hf (fun z16 hf => ?_)
        refine lv_iconst (v := (1 : Int32)) hx hb dLR_readLeaf_54 (by decide) ?_
        refine ip_icmp_ne (tgt := 80) hx hb dLR_readLeaf_55 rfl hf (fun hf => ?_) (fun hf => ?_)
        · replace hl := lv_sub hl (l' := [(0, .ref (ad 8)), (1, .ref (ad 5)), (2, .ref (ad 14)), (3, .int z1), (4, .int z9)]) [1, 2, 3, 4, 0] rfl
          cases hf
          exact J80 ls H locs hl hP hD hS
        · refine lv_aload_n hx hb dLR_readLeaf_58 rfl (lv_at hl 2 rfl) ?_
          refine lv_aload_n hx hb dLR_readLeaf_59 rfl (lv_at hl 1 rfl) ?_
          refine va_get (D := (dC, dI)) (ci := 8) (v := .ref (ad 4)) (C := kR_LR) (T := kT_LR) (N := 6) hx hb hts kin_LR hown hK hP 3 rfl rfl 0 (by decide) (hts _ (List.mem_cons_of_mem _ kw1_197)) (fun _ h9 => h9) rfl dLR_readLeaf_60 ?_
          refine lv_bipush (v := (6 : Int32)) hx hb dLR_readLeaf_63 (by decide) ?_
          obtain ⟨z17, z18, z19, z20, g21, g22, hc, hf⟩ := ip_b6_e hf
          refine ip_calli (va_runV (As := [.int (6 : Int32)]) (rest := [.ref (ad 5)]) ⟨hx, hb, hml, hown, hts⟩ (tBD_bin (l := l) (dC := dC) (dI := dI) (ad := ad) (cI := cI) (ts := (ip_TS t0 t1 t2 t3)) hc H.size) (cwV 1 hts (ip_gdV (own := kR_LR) (idx := 28) (C := kR_BD) (y := yBD_bin) kw2_211 kw2_187 kw2_188 kw1_5 kw2_189) rfl rfl rfl (by decide +kernel) ⟨Nat.le_of_ble_eq_true rfl, Nat.le_of_ble_eq_true rfl⟩) (ip_preV hK hP hD hS hA hZ [0, 1, 4, 6, 7] rfl rfl (ci := 4) (q0 := 1) rfl rfl) rfl rfl hl.1 rfl (lv_room (Nat.le_of_ble_eq_true rfl)) dLR_readLeaf_65 ⟨Nat.le_of_ble_eq_true rfl, Nat.le_of_ble_eq_true rfl⟩) hP hD hS hA [0, 1, 4, 6, 7] [2, 3, 5, 8, 9] [5, 6, 0, 1, 7, 2, 8, 9, 3, 4] (wLR_readLeaf ad cI z18 v_RB_end z19 z20 v_LF_x v_LF_y v_LF_side v_LF_mode v_LF_skip v_LR_first v_LR_last v_LR_sum v_aChosen v_aValues g21 g22 v_aLevels v_aGroup) rfl rfl rfl (by decide) rfl rfl (fun H locs hP hD hS => ?_)
          clear hc
          refine lv_iconst (v := (1 : Int32)) hx hb dLR_readLeaf_68 (by decide) ?_
          obtain ⟨z23, hh, hf⟩ := ip_b1_e hf
          suffices J77 : ∀ (ls : Array Slot) (H : Heap) (locs : List Loc), lv_has ls 8 [(0, .ref (ad 8)), (1, .ref (ad 5)), (2, .ref (ad 14)), (3, .int z1), (4, .int z9)] → va_P (dC, dI) vwCl (wLR_readLeaf ad cI z18 v_RB_end z19 z20 v_LF_x v_LF_y v_LF_side v_LF_mode v_LF_skip v_LR_first v_LR_last v_LR_sum v_aChosen v_aValues g21 g22 v_aLevels v_aGroup) H → va_D A (wLR_readLeaf ad cI z18 v_RB_end z19 z20 v_LF_x v_LF_y v_LF_side v_LF_mode v_LF_skip v_LR_first v_LR_last v_LR_sum v_aChosen v_aValues g21 g22 v_aLevels v_aGroup) → va_S A s.heap H locs → W p l e rmLR_readLeaf s m args below meth c H locs 0 0 Q (F0 m 77 ls [.int z23, .ref (ad 5)]) by
            replace hf := hh
            refine ip_icmp_ne (tgt := 76) hx hb dLR_readLeaf_69 rfl hf (fun hf => ?_) (fun hf => ?_)
            · refine lv_iconst (v := (0 : Int32)) hx hb dLR_readLeaf_76 (by decide) ?_
              replace hl := lv_sub hl (l' := [(0, .ref (ad 8)), (1, .ref (ad 5)), (2, .ref (ad 14)), (3, .int z1), (4, .int z9)]) [1, 2, 3, 4, 0] rfl
              cases hf
              exact J77 ls H locs hl hP hD hS
            · refine lv_iconst (v := (1 : Int32)) hx hb dLR_readLeaf_72 (by decide) ?_
              refine lv_goto (tgt := 77) hx hb dLR_readLeaf_73 rfl ?_
              replace hl := lv_sub hl (l' := [(0, .ref (ad 8)), (1, .ref (ad 5)), (2, .ref (ad 14)), (3, .int z1), (4, .int z9)]) [1, 2, 3, 4, 0] rfl
              cases hf
              exact J77 ls H locs hl hP hD hS
          intro ls H locs hl hP hD hS
          clear hh
          obtain ⟨hz, hf⟩ := ip_zk_e hf
          refine va_put (D := (dC, dI)) (ci := 5) (v := .int z23) (ty := .boolean) (C := kR_LF) (T := kT_LF) (N := 5) hx hb hts kin_LF kty_LF kto_LF knm_LF hown hK hP hD hS 2 rfl rfl 4 (by decide) (hts _ (List.mem_cons_of_mem _ kw1_179)) (fun _ h9 => h9) rfl (by decide +kernel) (ip_zn hz).1 (ip_zn hz).2 (Nat.le_of_ble_eq_true rfl) dLR_readLeaf_77 (fun H locs hP hD hS => ?_)
          replace hP : va_P (dC, dI) vwCl (wLR_readLeaf ad cI z18 v_RB_end z19 z20 v_LF_x v_LF_y v_LF_side v_LF_mode z23 v_LR_first v_LR_last v_LR_sum v_aChosen v_aValues g21 g22 v_aLevels v_aGroup) H := hP
          replace hD : va_D A (wLR_readLeaf ad cI z18 v_RB_end z19 z20 v_LF_x v_LF_y v_LF_side v_LF_mode z23 v_LR_first v_LR_last v_LR_sum v_aChosen v_aValues g21 g22 v_aLevels v_aGroup) := hD
          cases hf
          exact J80 ls H locs hl hP hD hS
  intro ls H locs hl hP hD hS
  clear hh
  refine lv_iload_n hx hb dLR_readLeaf_80 rfl (lv_at hl 3 rfl) ?_
  obtain ⟨z24, hh, hf⟩ := ip_b1_e hf
  suffices J89 : ∀ (ls : Array Slot) (H : Heap) (locs : List Loc), lv_has ls 8 [(0, .ref (ad 8)), (1, .ref (ad 5)), (2, .ref (ad 14)), (3, .int z1), (4, .int z9)] → va_P (dC, dI) vwCl (wLR_readLeaf ad cI z10 v_RB_end z11 z12 v_LF_x v_LF_y v_LF_side v_LF_mode z13 v_LR_first v_LR_last v_LR_sum v_aChosen v_aValues g14 g15 v_aLevels v_aGroup) H → va_D A (wLR_readLeaf ad cI z10 v_RB_end z11 z12 v_LF_x v_LF_y v_LF_side v_LF_mode z13 v_LR_first v_LR_last v_LR_sum v_aChosen v_aValues g14 g15 v_aLevels v_aGroup) → va_S A s.heap H locs → W p l e rmLR_readLeaf s m args below meth c H locs 0 0 Q (F0 m 89 ls [.int z24]) by
    replace hf := hh
    refine ip_if_eq (tgt := 88) hx hb dLR_readLeaf_81 rfl hf (fun hf => ?_) (fun hf => ?_)
    · refine lv_iconst (v := (1 : Int32)) hx hb dLR_readLeaf_88 (by decide) ?_
      cases hf
      exact J89 ls H locs hl hP hD hS
    · refine lv_iconst (v := (4 : Int32)) hx hb dLR_readLeaf_84 (by decide) ?_
      refine lv_goto (tgt := 89) hx hb dLR_readLeaf_85 rfl ?_
      cases hf
      exact J89 ls H locs hl hP hD hS
  intro ls H locs hl hP hD hS
  clear hh
  refine lv_istore (lv' := [(5, .int z24), (0, .ref (ad 8)), (1, .ref (ad 5)), (2, .ref (ad 14)), (3, .int z1), (4, .int z9)]) hx hb dLR_readLeaf_89 hl (by decide) rfl (fun ls hl => ?_)
  refine lv_iconst (v := (0 : Int32)) hx hb dLR_readLeaf_91 (by decide) ?_
  refine lv_istore (lv' := [(6, .int (0 : Int32)), (5, .int z24), (0, .ref (ad 8)), (1, .ref (ad 5)), (2, .ref (ad 14)), (3, .int z1), (4, .int z9)]) hx hb dLR_readLeaf_92 hl (by decide) rfl (fun ls hl => ?_)
  replace hl := lv_sub hl (l' := [(0, .ref (ad 8)), (1, .ref (ad 5)), (2, .ref (ad 14)), (3, .int z1), (4, .int z9), (5, .int z24), (6, .int (0 : Int32))]) [2, 3, 4, 5, 6, 1, 0] rfl
  obtain ⟨x36, x37, x38, x39, x40, x41, x42, y43, y44, y45, y46, hL, hf⟩ := ip_b11_e hf
  suffices J207 : ∀ (ls : Array Slot) (H : Heap) (locs : List Loc), lv_has ls 8 [] → va_P (dC, dI) vwCl (wLR_readLeaf ad cI x37 v_RB_end x38 x39 v_LF_x v_LF_y v_LF_side v_LF_mode z13 x40 x41 x42 v_aChosen v_aValues y43 y44 y45 y46) H → va_D A (wLR_readLeaf ad cI x37 v_RB_end x38 x39 v_LF_x v_LF_y v_LF_side v_LF_mode z13 x40 x41 x42 v_aChosen v_aValues y43 y44 y45 y46) → va_S A s.heap H locs → W p l e rmLR_readLeaf s m args below meth c H locs 0 0 Q (F0 m 207 ls []) by
    have L : ∀ (n : Nat) (z25 : Int32) (z26 : Int32) (z27 : Int32) (z28 : Int32) (z29 : Int32) (z30 : Int32) (z31 : Int32) (g32 : Nat → Int32) (g33 : Nat → Int32) (g34 : Nat → Int32) (g35 : Nat → Int32), ip_lp11 (fLR_readLeaf_B94 v_RB_end v_LF_x v_LF_y v_LF_side v_LF_mode v_aChosen v_aValues z1 z9 z13 z24) n z25 z26 z27 z28 z29 z30 z31 g32 g33 g34 g35 = some (x36, x37, x38, x39, x40, x41, x42, y43, y44, y45, y46) → ∀ (ls : Array Slot) (H : Heap) (locs : List Loc), lv_has ls 8 [(0, .ref (ad 8)), (1, .ref (ad 5)), (2, .ref (ad 14)), (3, .int z1), (4, .int z9), (5, .int z24), (6, .int z25)] → va_P (dC, dI) vwCl (wLR_readLeaf ad cI z26 v_RB_end z27 z28 v_LF_x v_LF_y v_LF_side v_LF_mode z13 z29 z30 z31 v_aChosen v_aValues g32 g33 g34 g35) H → va_D A (wLR_readLeaf ad cI z26 v_RB_end z27 z28 v_LF_x v_LF_y v_LF_side v_LF_mode z13 z29 z30 z31 v_aChosen v_aValues g32 g33 g34 g35) → va_S A s.heap H locs → W p l e rmLR_readLeaf s m args below meth c H locs 0 0 Q (F0 m 94 ls []) := by
      intro n
      induction n with
      | zero => intro z25 z26 z27 z28 z29 z30 z31 g32 g33 g34 g35 hL; exact (ip_lp11_0 hL).elim
      | succ n ih =>
        intro z25 z26 z27 z28 z29 z30 z31 g32 g33 g34 g35 hL ls H locs hl hP hD hS
        clear hf
        obtain ⟨r9, hf, hr94⟩ := ip_lp11_s hL
        clear hL
        unfold fLR_readLeaf_B94 at hf
        refine lv_iload hx hb dLR_readLeaf_94 (lv_at hl 6 rfl) ?_
        refine lv_iload hx hb dLR_readLeaf_96 (lv_at hl 5 rfl) ?_
        refine ip_icmp_ge (tgt := 207) hx hb dLR_readLeaf_98 rfl hf (fun hf => ?_) (fun hf => ?_)
        · have hx9 := ip_lp_x hr94 hf
          replace hl := lv_sub hl (l' := []) [] rfl
          cases hx9
          exact J207 ls H locs hl hP hD hS
        · refine lv_iload hx hb dLR_readLeaf_101 (lv_at hl 6 rfl) ?_
          obtain ⟨z47, hh, hf⟩ := ip_b1_e hf
          suffices J113 : ∀ (ls : Array Slot) (H : Heap) (locs : List Loc), lv_has ls 8 [(0, .ref (ad 8)), (1, .ref (ad 5)), (2, .ref (ad 14)), (3, .int z1), (4, .int z9), (5, .int z24), (6, .int z25)] → va_P (dC, dI) vwCl (wLR_readLeaf ad cI z26 v_RB_end z27 z28 v_LF_x v_LF_y v_LF_side v_LF_mode z13 z29 z30 z31 v_aChosen v_aValues g32 g33 g34 g35) H → va_D A (wLR_readLeaf ad cI z26 v_RB_end z27 z28 v_LF_x v_LF_y v_LF_side v_LF_mode z13 z29 z30 z31 v_aChosen v_aValues g32 g33 g34 g35) → va_S A s.heap H locs → W p l e rmLR_readLeaf s m args below meth c H locs 0 0 Q (F0 m 113 ls [.int z47]) by
            replace hf := hh
            refine ip_if_ne (tgt := 111) hx hb dLR_readLeaf_103 rfl hf (fun hf => ?_) (fun hf => ?_)
            · refine lv_bipush (v := (8 : Int32)) hx hb dLR_readLeaf_111 (by decide) ?_
              cases hf
              exact J113 ls H locs hl hP hD hS
            · refine lv_bipush (v := (7 : Int32)) hx hb dLR_readLeaf_106 (by decide) ?_
              refine lv_goto (tgt := 113) hx hb dLR_readLeaf_108 rfl ?_
              cases hf
              exact J113 ls H locs hl hP hD hS
          intro ls H locs hl hP hD hS
          clear hh
          refine lv_istore (lv' := [(7, .int z47), (0, .ref (ad 8)), (1, .ref (ad 5)), (2, .ref (ad 14)), (3, .int z1), (4, .int z9), (5, .int z24), (6, .int z25)]) hx hb dLR_readLeaf_113 hl (by decide) rfl (fun ls hl => ?_)
          refine lv_iload hx hb dLR_readLeaf_115 (lv_at hl 5 rfl) ?_
          obtain ⟨z48, z49, z50, z51, z52, z53, g54, g55, g56, hh, hf⟩ := ip_b9_e hf
          suffices J181 : ∀ (ls : Array Slot) (H : Heap) (locs : List Loc), lv_has ls 8 [(0, .ref (ad 8)), (1, .ref (ad 5)), (2, .ref (ad 14)), (3, .int z1), (4, .int z9), (5, .int z24), (6, .int z25)] → va_P (dC, dI) vwCl (wLR_readLeaf ad cI z48 v_RB_end z49 z50 v_LF_x v_LF_y v_LF_side v_LF_mode z13 z51 z52 z53 v_aChosen v_aValues g54 g55 g34 g56) H → va_D A (wLR_readLeaf ad cI z48 v_RB_end z49 z50 v_LF_x v_LF_y v_LF_side v_LF_mode z13 z51 z52 z53 v_aChosen v_aValues g54 g55 g34 g56) → va_S A s.heap H locs → W p l e rmLR_readLeaf s m args below meth c H locs 0 0 Q (F0 m 181 ls []) by
            replace hf := hh
            refine ip_if_eq (tgt := 173) hx hb dLR_readLeaf_117 rfl hf (fun hf => ?_) (fun hf => ?_)
            · refine lv_aload_n hx hb dLR_readLeaf_173 rfl (lv_at hl 1 rfl) ?_
              refine va_get (D := (dC, dI)) (ci := 8) (v := .ref (ad 24)) (C := kR_LR) (T := kT_LR) (N := 6) hx hb hts kin_LR hown hK hP 3 rfl rfl 2 (by decide) (hts _ (List.mem_cons_of_mem _ kw1_199)) (fun _ h9 => h9) rfl dLR_readLeaf_174 ?_
              refine lv_iconst (v := (0 : Int32)) hx hb dLR_readLeaf_177 (by decide) ?_
              obtain ⟨g57, hc, hf⟩ := ip_b1_e hf
              refine ip_callv (va_runS (As := [.ref (ad 24), .int (0 : Int32)]) (rest := []) ⟨hx, hb, hml, hown, hts⟩ (tAR_fill16 (l := l) (dC := dC) (dI := dI) (ad := ad) (cI := cI) (ts := (ip_TS t0 t1 t2 t3)) (bF16 := ad 24) hc H.size) (va_cwS 2 hts (ip_gdS (own := kR_LR) (idx := 51) (y := yAR_fill) kw2_231 kw2_132 kw1_14 kw2_133) rfl rfl rfl (by decide +kernel) ⟨Nat.le_of_ble_eq_true rfl, Nat.le_of_ble_eq_true rfl⟩) (ip_preS hK hP hD hS hA hZ [9] rfl rfl) rfl rfl hl.1 rfl (lv_room (Nat.le_of_ble_eq_true rfl)) dLR_readLeaf_178 ⟨Nat.le_of_ble_eq_true rfl, Nat.le_of_ble_eq_true rfl⟩) hP hD hS hA [9] [0, 1, 2, 3, 4, 5, 6, 7, 8] [0, 1, 2, 3, 4, 5, 6, 7, 8, 9] (wLR_readLeaf ad cI z26 v_RB_end z27 z28 v_LF_x v_LF_y v_LF_side v_LF_mode z13 z29 z30 z31 v_aChosen v_aValues g32 g33 g34 g57) rfl rfl rfl (by decide) rfl rfl (fun H locs hP hD hS => ?_)
              clear hc
              replace hl := lv_sub hl (l' := [(0, .ref (ad 8)), (1, .ref (ad 5)), (2, .ref (ad 14)), (3, .int z1), (4, .int z9), (5, .int z24), (6, .int z25)]) [1, 2, 3, 4, 5, 6, 7] rfl
              cases hf
              exact J181 ls H locs hl hP hD hS
            · refine lv_iload_n hx hb dLR_readLeaf_120 rfl (lv_at hl 4 rfl) ?_
              refine ip_if_eq (tgt := 137) hx hb dLR_readLeaf_121 rfl hf (fun hf => ?_) (fun hf => ?_)
              · refine lv_aload_n hx hb dLR_readLeaf_137 rfl (lv_at hl 1 rfl) ?_
                obtain ⟨z58, z59, z60, z61, z62, z63, g64, g65, g66, hc, hf⟩ := ip_b9_e hf
                refine ip_callv (va_runV (As := []) (rest := []) ⟨hx, hb, hml, hown, hts⟩ (tLR_readSizes (l := l) (dC := dC) (dI := dI) (ad := ad) (cI := cI) (t0 := t0) (t1 := t1) (t2 := t2) (t3 := t3) hc H.size) (cwV 0 hts (ip_gdV (own := kR_LR) (idx := 38) (C := kR_LR) (y := yLR_readSizes) kw2_212 kw2_214 kws_9 kw1_9 kw2_215) rfl rfl rfl (by decide +kernel) ⟨Nat.le_of_ble_eq_true rfl, Nat.le_of_ble_eq_true rfl⟩) (ip_preV hK hP hD hS hA hZ [0, 1, 3, 4, 6, 7, 9] rfl rfl (ci := 8) (q0 := 3) rfl rfl) rfl rfl hl.1 rfl (lv_room (Nat.le_of_ble_eq_true rfl)) dLR_readLeaf_138 ⟨Nat.le_of_ble_eq_true rfl, Nat.le_of_ble_eq_true rfl⟩) hP hD hS hA [0, 1, 3, 4, 6, 7, 9] [2, 5, 8] [3, 4, 0, 5, 6, 1, 7, 8, 2, 9] (wLR_readLeaf ad cI z58 v_RB_end z59 z60 v_LF_x v_LF_y v_LF_side v_LF_mode z13 z61 z62 z63 v_aChosen v_aValues g64 g65 g34 g66) rfl rfl rfl (by decide) rfl rfl (fun H locs hP hD hS => ?_)
                clear hc
                refine lv_aload_n hx hb dLR_readLeaf_141 rfl (lv_at hl 1 rfl) ?_
                refine lv_aload_n hx hb dLR_readLeaf_142 rfl (lv_at hl 3 rfl) ?_
                refine lv_iconst (v := (1 : Int32)) hx hb dLR_readLeaf_143 (by decide) ?_
                refine ip_iald hx hb hK hP 5 0 rfl rfl dLR_readLeaf_144 hf (fun z67 hf => ?_)
                refine lv_iconst (v := (1 : Int32)) hx hb dLR_readLeaf_145 (by decide) ?_
                obtain ⟨z68, hh, hf⟩ := ip_b1_e hf
                suffices J167 : ∀ (ls : Array Slot) (H : Heap) (locs : List Loc), lv_has ls 8 [(0, .ref (ad 8)), (1, .ref (ad 5)), (2, .ref (ad 14)), (3, .int z1), (4, .int z9), (5, .int z24), (6, .int z25)] → va_P (dC, dI) vwCl (wLR_readLeaf ad cI z58 v_RB_end z59 z60 v_LF_x v_LF_y v_LF_side v_LF_mode z13 z61 z62 z63 v_aChosen v_aValues g64 g65 g34 g66) H → va_D A (wLR_readLeaf ad cI z58 v_RB_end z59 z60 v_LF_x v_LF_y v_LF_side v_LF_mode z13 z61 z62 z63 v_aChosen v_aValues g64 g65 g34 g66) → va_S A s.heap H locs → W p l e rmLR_readLeaf s m args below meth c H locs 0 0 Q (F0 m 167 ls [.int z68, .ref (ad 8)]) by
                  replace hf := hh
                  refine ip_icmp_ne (tgt := 166) hx hb dLR_readLeaf_146 rfl hf (fun hf => ?_) (fun hf => ?_)
                  · refine lv_iconst (v := (0 : Int32)) hx hb dLR_readLeaf_166 (by decide) ?_
                    replace hl := lv_sub hl (l' := [(0, .ref (ad 8)), (1, .ref (ad 5)), (2, .ref (ad 14)), (3, .int z1), (4, .int z9), (5, .int z24), (6, .int z25)]) [1, 2, 3, 4, 5, 6, 7] rfl
                    cases hf
                    exact J167 ls H locs hl hP hD hS
                  · refine lv_aload_n hx hb dLR_readLeaf_149 rfl (lv_at hl 1 rfl) ?_
                    refine va_get (D := (dC, dI)) (ci := 8) (v := .int z62) (C := kR_LR) (T := kT_LR) (N := 6) hx hb hts kin_LR hown hK hP 3 rfl rfl 4 (by decide) (hts _ (List.mem_cons_of_mem _ kw1_201)) (fun _ h9 => h9) rfl dLR_readLeaf_150 ?_
                    refine lv_aload_n hx hb dLR_readLeaf_153 rfl (lv_at hl 1 rfl) ?_
                    refine va_get (D := (dC, dI)) (ci := 8) (v := .int z61) (C := kR_LR) (T := kT_LR) (N := 6) hx hb hts kin_LR hown hK hP 3 rfl rfl 3 (by decide) (hts _ (List.mem_cons_of_mem _ kw1_200)) (fun _ h9 => h9) rfl dLR_readLeaf_154 ?_
                    refine lv_isub hx hb dLR_readLeaf_157 ?_
                    refine lv_iconst (v := (4 : Int32)) hx hb dLR_readLeaf_158 (by decide) ?_
                    refine ip_icmp_lt (tgt := 166) hx hb dLR_readLeaf_159 rfl hf (fun hf => ?_) (fun hf => ?_)
                    · refine lv_iconst (v := (0 : Int32)) hx hb dLR_readLeaf_166 (by decide) ?_
                      replace hl := lv_sub hl (l' := [(0, .ref (ad 8)), (1, .ref (ad 5)), (2, .ref (ad 14)), (3, .int z1), (4, .int z9), (5, .int z24), (6, .int z25)]) [1, 2, 3, 4, 5, 6, 7] rfl
                      cases hf
                      exact J167 ls H locs hl hP hD hS
                    · refine lv_iconst (v := (1 : Int32)) hx hb dLR_readLeaf_162 (by decide) ?_
                      refine lv_goto (tgt := 167) hx hb dLR_readLeaf_163 rfl ?_
                      replace hl := lv_sub hl (l' := [(0, .ref (ad 8)), (1, .ref (ad 5)), (2, .ref (ad 14)), (3, .int z1), (4, .int z9), (5, .int z24), (6, .int z25)]) [1, 2, 3, 4, 5, 6, 7] rfl
                      cases hf
                      exact J167 ls H locs hl hP hD hS
                intro ls H locs hl hP hD hS
                clear hh
                obtain ⟨z69, z70, g71, g72, hc, hf⟩ := ip_b4_e hf
                refine ip_callv (va_runV (As := [.int z68]) (rest := []) ⟨hx, hb, hml, hown, hts⟩ (tLR_readSigns (l := l) (dC := dC) (dI := dI) (ad := ad) (cI := cI) (t0 := t0) (t1 := t1) (t2 := t2) (t3 := t3) hc H.size) (cwV 1 hts (ip_gdV (own := kR_LR) (idx := 47) (C := kR_LR) (y := yLR_readSigns) kw2_227 kw2_229 kws_12 kw1_9 kw2_230) rfl rfl rfl (by decide +kernel) ⟨Nat.le_of_ble_eq_true rfl, Nat.le_of_ble_eq_true rfl⟩) (ip_preV hK hP hD hS hA hZ [0, 1, 3, 4, 7, 9] rfl rfl (ci := 8) (q0 := 3) rfl rfl) rfl rfl hl.1 rfl (lv_room (Nat.le_of_ble_eq_true rfl)) dLR_readLeaf_167 ⟨Nat.le_of_ble_eq_true rfl, Nat.le_of_ble_eq_true rfl⟩) hP hD hS hA [0, 1, 3, 4, 7, 9] [2, 5, 6, 8] [4, 5, 0, 6, 7, 1, 2, 8, 3, 9] (wLR_readLeaf ad cI z69 v_RB_end z59 z70 v_LF_x v_LF_y v_LF_side v_LF_mode z13 z61 z62 z63 v_aChosen v_aValues g64 g71 g34 g72) rfl rfl rfl (by decide) rfl rfl (fun H locs hP hD hS => ?_)
                clear hc
                refine lv_goto (tgt := 181) hx hb dLR_readLeaf_170 rfl ?_
                cases hf
                exact J181 ls H locs hl hP hD hS
              · refine lv_aload_n hx hb dLR_readLeaf_124 rfl (lv_at hl 1 rfl) ?_
                refine va_get (D := (dC, dI)) (ci := 8) (v := .ref (ad 4)) (C := kR_LR) (T := kT_LR) (N := 6) hx hb hts kin_LR hown hK hP 3 rfl rfl 0 (by decide) (hts _ (List.mem_cons_of_mem _ kw1_197)) (fun _ h9 => h9) rfl dLR_readLeaf_125 ?_
                refine lv_iload hx hb dLR_readLeaf_128 (lv_at hl 0 rfl) ?_
                obtain ⟨z73, z74, z75, z76, g77, g78, hc, hf⟩ := ip_b6_e hf
                refine ip_calli (va_runV (As := [.int z47]) (rest := []) ⟨hx, hb, hml, hown, hts⟩ (tBD_bin (l := l) (dC := dC) (dI := dI) (ad := ad) (cI := cI) (ts := (ip_TS t0 t1 t2 t3)) hc H.size) (cwV 1 hts (ip_gdV (own := kR_LR) (idx := 28) (C := kR_BD) (y := yBD_bin) kw2_211 kw2_187 kw2_188 kw1_5 kw2_189) rfl rfl rfl (by decide +kernel) ⟨Nat.le_of_ble_eq_true rfl, Nat.le_of_ble_eq_true rfl⟩) (ip_preV hK hP hD hS hA hZ [0, 1, 4, 6, 7] rfl rfl (ci := 4) (q0 := 1) rfl rfl) rfl rfl hl.1 rfl (lv_room (Nat.le_of_ble_eq_true rfl)) dLR_readLeaf_130 ⟨Nat.le_of_ble_eq_true rfl, Nat.le_of_ble_eq_true rfl⟩) hP hD hS hA [0, 1, 4, 6, 7] [2, 3, 5, 8, 9] [5, 6, 0, 1, 7, 2, 8, 9, 3, 4] (wLR_readLeaf ad cI z74 v_RB_end z75 z76 v_LF_x v_LF_y v_LF_side v_LF_mode z13 z29 z30 z31 v_aChosen v_aValues g77 g78 g34 g35) rfl rfl rfl (by decide) rfl rfl (fun H locs hP hD hS => ?_)
                clear hc
                refine lv_iconst (v := (1 : Int32)) hx hb dLR_readLeaf_133 (by decide) ?_
                refine ip_icmp_ne (tgt := 173) hx hb dLR_readLeaf_134 rfl hf (fun hf => ?_) (fun hf => ?_)
                · refine lv_aload_n hx hb dLR_readLeaf_173 rfl (lv_at hl 1 rfl) ?_
                  refine va_get (D := (dC, dI)) (ci := 8) (v := .ref (ad 24)) (C := kR_LR) (T := kT_LR) (N := 6) hx hb hts kin_LR hown hK hP 3 rfl rfl 2 (by decide) (hts _ (List.mem_cons_of_mem _ kw1_199)) (fun _ h9 => h9) rfl dLR_readLeaf_174 ?_
                  refine lv_iconst (v := (0 : Int32)) hx hb dLR_readLeaf_177 (by decide) ?_
                  obtain ⟨g79, hc, hf⟩ := ip_b1_e hf
                  refine ip_callv (va_runS (As := [.ref (ad 24), .int (0 : Int32)]) (rest := []) ⟨hx, hb, hml, hown, hts⟩ (tAR_fill16 (l := l) (dC := dC) (dI := dI) (ad := ad) (cI := cI) (ts := (ip_TS t0 t1 t2 t3)) (bF16 := ad 24) hc H.size) (va_cwS 2 hts (ip_gdS (own := kR_LR) (idx := 51) (y := yAR_fill) kw2_231 kw2_132 kw1_14 kw2_133) rfl rfl rfl (by decide +kernel) ⟨Nat.le_of_ble_eq_true rfl, Nat.le_of_ble_eq_true rfl⟩) (ip_preS hK hP hD hS hA hZ [9] rfl rfl) rfl rfl hl.1 rfl (lv_room (Nat.le_of_ble_eq_true rfl)) dLR_readLeaf_178 ⟨Nat.le_of_ble_eq_true rfl, Nat.le_of_ble_eq_true rfl⟩) hP hD hS hA [9] [0, 1, 2, 3, 4, 5, 6, 7, 8] [0, 1, 2, 3, 4, 5, 6, 7, 8, 9] (wLR_readLeaf ad cI z74 v_RB_end z75 z76 v_LF_x v_LF_y v_LF_side v_LF_mode z13 z29 z30 z31 v_aChosen v_aValues g77 g78 g34 g79) rfl rfl rfl (by decide) rfl rfl (fun H locs hP hD hS => ?_)
                  clear hc
                  replace hl := lv_sub hl (l' := [(0, .ref (ad 8)), (1, .ref (ad 5)), (2, .ref (ad 14)), (3, .int z1), (4, .int z9), (5, .int z24), (6, .int z25)]) [1, 2, 3, 4, 5, 6, 7] rfl
                  cases hf
                  exact J181 ls H locs hl hP hD hS
                · refine lv_aload_n hx hb dLR_readLeaf_137 rfl (lv_at hl 1 rfl) ?_
                  obtain ⟨z80, z81, z82, z83, z84, z85, g86, g87, g88, hc, hf⟩ := ip_b9_e hf
                  refine ip_callv (va_runV (As := []) (rest := []) ⟨hx, hb, hml, hown, hts⟩ (tLR_readSizes (l := l) (dC := dC) (dI := dI) (ad := ad) (cI := cI) (t0 := t0) (t1 := t1) (t2 := t2) (t3 := t3) hc H.size) (cwV 0 hts (ip_gdV (own := kR_LR) (idx := 38) (C := kR_LR) (y := yLR_readSizes) kw2_212 kw2_214 kws_9 kw1_9 kw2_215) rfl rfl rfl (by decide +kernel) ⟨Nat.le_of_ble_eq_true rfl, Nat.le_of_ble_eq_true rfl⟩) (ip_preV hK hP hD hS hA hZ [0, 1, 3, 4, 6, 7, 9] rfl rfl (ci := 8) (q0 := 3) rfl rfl) rfl rfl hl.1 rfl (lv_room (Nat.le_of_ble_eq_true rfl)) dLR_readLeaf_138 ⟨Nat.le_of_ble_eq_true rfl, Nat.le_of_ble_eq_true rfl⟩) hP hD hS hA [0, 1, 3, 4, 6, 7, 9] [2, 5, 8] [3, 4, 0, 5, 6, 1, 7, 8, 2, 9] (wLR_readLeaf ad cI z80 v_RB_end z81 z82 v_LF_x v_LF_y v_LF_side v_LF_mode z13 z83 z84 z85 v_aChosen v_aValues g86 g87 g34 g88) rfl rfl rfl (by decide) rfl rfl (fun H locs hP hD hS => ?_)
                  clear hc
                  refine lv_aload_n hx hb dLR_readLeaf_141 rfl (lv_at hl 1 rfl) ?_
                  refine lv_aload_n hx hb dLR_readLeaf_142 rfl (lv_at hl 3 rfl) ?_
                  refine lv_iconst (v := (1 : Int32)) hx hb dLR_readLeaf_143 (by decide) ?_
                  refine ip_iald hx hb hK hP 5 0 rfl rfl dLR_readLeaf_144 hf (fun z89 hf => ?_)
                  refine lv_iconst (v := (1 : Int32)) hx hb dLR_readLeaf_145 (by decide) ?_
                  obtain ⟨z90, hh, hf⟩ := ip_b1_e hf
                  suffices J167 : ∀ (ls : Array Slot) (H : Heap) (locs : List Loc), lv_has ls 8 [(0, .ref (ad 8)), (1, .ref (ad 5)), (2, .ref (ad 14)), (3, .int z1), (4, .int z9), (5, .int z24), (6, .int z25)] → va_P (dC, dI) vwCl (wLR_readLeaf ad cI z80 v_RB_end z81 z82 v_LF_x v_LF_y v_LF_side v_LF_mode z13 z83 z84 z85 v_aChosen v_aValues g86 g87 g34 g88) H → va_D A (wLR_readLeaf ad cI z80 v_RB_end z81 z82 v_LF_x v_LF_y v_LF_side v_LF_mode z13 z83 z84 z85 v_aChosen v_aValues g86 g87 g34 g88) → va_S A s.heap H locs → W p l e rmLR_readLeaf s m args below meth c H locs 0 0 Q (F0 m 167 ls [.int z90, .ref (ad 8)]) by
                    replace hf := hh
                    refine ip_icmp_ne (tgt := 166) hx hb dLR_readLeaf_146 rfl hf (fun hf => ?_) (fun hf => ?_)
                    · refine lv_iconst (v := (0 : Int32)) hx hb dLR_readLeaf_166 (by decide) ?_
                      replace hl := lv_sub hl (l' := [(0, .ref (ad 8)), (1, .ref (ad 5)), (2, .ref (ad 14)), (3, .int z1), (4, .int z9), (5, .int z24), (6, .int z25)]) [1, 2, 3, 4, 5, 6, 7] rfl
                      cases hf
                      exact J167 ls H locs hl hP hD hS
                    · refine lv_aload_n hx hb dLR_readLeaf_149 rfl (lv_at hl 1 rfl) ?_
                      refine va_get (D := (dC, dI)) (ci := 8) (v := .int z84) (C := kR_LR) (T := kT_LR) (N := 6) hx hb hts kin_LR hown hK hP 3 rfl rfl 4 (by decide) (hts _ (List.mem_cons_of_mem _ kw1_201)) (fun _ h9 => h9) rfl dLR_readLeaf_150 ?_
                      refine lv_aload_n hx hb dLR_readLeaf_153 rfl (lv_at hl 1 rfl) ?_
                      refine va_get (D := (dC, dI)) (ci := 8) (v := .int z83) (C := kR_LR) (T := kT_LR) (N := 6) hx hb hts kin_LR hown hK hP 3 rfl rfl 3 (by decide) (hts _ (List.mem_cons_of_mem _ kw1_200)) (fun _ h9 => h9) rfl dLR_readLeaf_154 ?_
                      refine lv_isub hx hb dLR_readLeaf_157 ?_
                      refine lv_iconst (v := (4 : Int32)) hx hb dLR_readLeaf_158 (by decide) ?_
                      refine ip_icmp_lt (tgt := 166) hx hb dLR_readLeaf_159 rfl hf (fun hf => ?_) (fun hf => ?_)
                      · refine lv_iconst (v := (0 : Int32)) hx hb dLR_readLeaf_166 (by decide) ?_
                        replace hl := lv_sub hl (l' := [(0, .ref (ad 8)), (1, .ref (ad 5)), (2, .ref (ad 14)), (3, .int z1), (4, .int z9), (5, .int z24), (6, .int z25)]) [1, 2, 3, 4, 5, 6, 7] rfl
                        cases hf
                        exact J167 ls H locs hl hP hD hS
                      · refine lv_iconst (v := (1 : Int32)) hx hb dLR_readLeaf_162 (by decide) ?_
                        refine lv_goto (tgt := 167) hx hb dLR_readLeaf_163 rfl ?_
                        replace hl := lv_sub hl (l' := [(0, .ref (ad 8)), (1, .ref (ad 5)), (2, .ref (ad 14)), (3, .int z1), (4, .int z9), (5, .int z24), (6, .int z25)]) [1, 2, 3, 4, 5, 6, 7] rfl
                        cases hf
                        exact J167 ls H locs hl hP hD hS
                  intro ls H locs hl hP hD hS
                  clear hh
                  obtain ⟨z91, z92, g93, g94, hc, hf⟩ := ip_b4_e hf
                  refine ip_callv (va_runV (As := [.int z90]) (rest := []) ⟨hx, hb, hml, hown, hts⟩ (tLR_readSigns (l := l) (dC := dC) (dI := dI) (ad := ad) (cI := cI) (t0 := t0) (t1 := t1) (t2 := t2) (t3 := t3) hc H.size) (cwV 1 hts (ip_gdV (own := kR_LR) (idx := 47) (C := kR_LR) (y := yLR_readSigns) kw2_227 kw2_229 kws_12 kw1_9 kw2_230) rfl rfl rfl (by decide +kernel) ⟨Nat.le_of_ble_eq_true rfl, Nat.le_of_ble_eq_true rfl⟩) (ip_preV hK hP hD hS hA hZ [0, 1, 3, 4, 7, 9] rfl rfl (ci := 8) (q0 := 3) rfl rfl) rfl rfl hl.1 rfl (lv_room (Nat.le_of_ble_eq_true rfl)) dLR_readLeaf_167 ⟨Nat.le_of_ble_eq_true rfl, Nat.le_of_ble_eq_true rfl⟩) hP hD hS hA [0, 1, 3, 4, 7, 9] [2, 5, 6, 8] [4, 5, 0, 6, 7, 1, 2, 8, 3, 9] (wLR_readLeaf ad cI z91 v_RB_end z81 z92 v_LF_x v_LF_y v_LF_side v_LF_mode z13 z83 z84 z85 v_aChosen v_aValues g86 g93 g34 g94) rfl rfl rfl (by decide) rfl rfl (fun H locs hP hD hS => ?_)
                  clear hc
                  refine lv_goto (tgt := 181) hx hb dLR_readLeaf_170 rfl ?_
                  cases hf
                  exact J181 ls H locs hl hP hD hS
          intro ls H locs hl hP hD hS
          clear hh
          refine lv_aload_n hx hb dLR_readLeaf_181 rfl (lv_at hl 0 rfl) ?_
          refine lv_aload_n hx hb dLR_readLeaf_182 rfl (lv_at hl 1 rfl) ?_
          refine lv_iconst (v := (4 : Int32)) hx hb dLR_readLeaf_183 (by decide) ?_
          refine lv_iload hx hb dLR_readLeaf_184 (lv_at hl 6 rfl) ?_
          refine lv_iconst (v := (1 : Int32)) hx hb dLR_readLeaf_186 (by decide) ?_
          refine lv_iand hx hb dLR_readLeaf_187 ?_
          refine lv_imul hx hb dLR_readLeaf_188 ?_
          refine lv_iconst (v := (4 : Int32)) hx hb dLR_readLeaf_189 (by decide) ?_
          refine lv_iload hx hb dLR_readLeaf_190 (lv_at hl 6 rfl) ?_
          refine lv_iconst (v := (1 : Int32)) hx hb dLR_readLeaf_192 (by decide) ?_
          refine lv_ishr hx hb dLR_readLeaf_193 ?_
          refine lv_imul hx hb dLR_readLeaf_194 ?_
          obtain ⟨z95, hc, hf⟩ := ip_b1_e hf
          refine ip_calli (va_runV (As := [.int ((4 : Int32) * (z25 &&& (1 : Int32))), .int ((4 : Int32) * (z25 >>> ((1 : Int32) &&& 31)))]) (rest := [.ref (ad 8)]) ⟨hx, hb, hml, hown, hts⟩ (tLF_placeInPicture (l := l) (dC := dC) (dI := dI) (ad := ad) (cI := cI) (ts := (ip_TS t0 t1 t2 t3)) hc H.size) (cwV 2 hts (ip_gdV (own := kR_LR) (idx := 57) (C := kR_LF) (y := yLF_placeInPicture) kw2_232 kw2_199 kw2_200 kw1_8 kw2_201) rfl rfl rfl (by decide +kernel) ⟨Nat.le_of_ble_eq_true rfl, Nat.le_of_ble_eq_true rfl⟩) (ip_preV hK hP hD hS hA hZ [2] rfl rfl (ci := 5) (q0 := 2) rfl rfl) rfl rfl hl.1 rfl (lv_room (Nat.le_of_ble_eq_true rfl)) dLR_readLeaf_195 ⟨Nat.le_of_ble_eq_true rfl, Nat.le_of_ble_eq_true rfl⟩) hP hD hS hA [2] [0, 1, 3, 4, 5, 6, 7, 8, 9] [0, 1, 9, 2, 3, 4, 5, 6, 7, 8] (wLR_readLeaf ad cI z48 v_RB_end z49 z50 v_LF_x v_LF_y v_LF_side v_LF_mode z13 z51 z52 z53 v_aChosen v_aValues g54 g55 g34 g56) rfl rfl rfl (by decide) rfl rfl (fun H locs hP hD hS => ?_)
          clear hc
          obtain ⟨g96, hc, hf⟩ := ip_b1_e hf
          refine ip_callv (va_runV (As := [.int z95]) (rest := []) ⟨hx, hb, hml, hown, hts⟩ (tLR_keepGroup (l := l) (dC := dC) (dI := dI) (ad := ad) (cI := cI) (ts := (ip_TS t0 t1 t2 t3)) hc H.size) (cwV 1 hts (ip_gdV (own := kR_LR) (idx := 61) (C := kR_LR) (y := yLR_keepGroup) kw2_233 kw2_235 kws_13 kw1_9 kw2_236) rfl rfl rfl (by decide +kernel) ⟨Nat.le_of_ble_eq_true rfl, Nat.le_of_ble_eq_true rfl⟩) (ip_preV hK hP hD hS hA hZ [3, 8, 9] rfl rfl (ci := 8) (q0 := 3) rfl rfl) rfl rfl hl.1 rfl (lv_room (Nat.le_of_ble_eq_true rfl)) dLR_readLeaf_198 ⟨Nat.le_of_ble_eq_true rfl, Nat.le_of_ble_eq_true rfl⟩) hP hD hS hA [3, 8, 9] [0, 1, 2, 4, 5, 6, 7] [0, 1, 2, 7, 3, 4, 5, 6, 8, 9] (wLR_readLeaf ad cI z48 v_RB_end z49 z50 v_LF_x v_LF_y v_LF_side v_LF_mode z13 z51 z52 z53 v_aChosen v_aValues g54 g55 g96 g56) rfl rfl rfl (by decide) rfl rfl (fun H locs hP hD hS => ?_)
          clear hc
          refine ip_iinc (k0 := 6) (v0 := (1 : Int32)) (lv1 := fun z97 => [(6, .int z97), (0, .ref (ad 8)), (1, .ref (ad 5)), (2, .ref (ad 14)), (3, .int z1), (4, .int z9), (5, .int z24)]) hx hb dLR_readLeaf_201 hl rfl (by decide) (by decide) (fun _ => rfl) hf (fun z97 ls hf hl => ?_)
          refine lv_goto (tgt := 94) hx hb dLR_readLeaf_204 rfl ?_
          replace hl := lv_sub hl (l' := [(0, .ref (ad 8)), (1, .ref (ad 5)), (2, .ref (ad 14)), (3, .int z1), (4, .int z9), (5, .int z24), (6, .int z97)]) [1, 2, 3, 4, 5, 6, 0] rfl
          exact ih _ _ _ _ _ _ _ _ _ _ _ (ip_lp11_l hr94 hf) ls H locs hl hP hD hS
    exact L 1000 _ _ _ _ _ _ _ _ _ _ _ hL ls H locs hl hP hD hS
  intro ls H locs hl hP hD hS
  clear hL
  cases hf
  exact hret H locs 207 ls dLR_readLeaf_207 hP hD hS
