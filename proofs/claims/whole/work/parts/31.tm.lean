set_option maxHeartbeats 4000000 in
set_option maxRecDepth 100000 in
theorem tMO_bit {l : Launch} {dC : Nat → ClassId} {dI : Nat → Nat → Nat} {cI cZ : ClassId} {ad : Nat → Nat} {ts : ip_TT} {v_MO_size : Int32} {v_MO_loaded : Int32} {v_MO_at : Int32} {v_MO_fault : Int32} {v_MO_hasGiven : Int32} {v_MO_hasPicture : Int32} {v_MO_range : Int32} {v_MO_value : Int32} {v_MO_leaves : Int32} {v_mload : Nat → Int32}  {r0 : Int32} {nv_MO_at : Int32} (hf : fMO_bit v_MO_size v_MO_loaded v_MO_at v_MO_fault v_MO_hasGiven v_MO_hasPicture v_MO_range v_MO_value v_MO_leaves v_mload = some (r0, nv_MO_at)) : ip_Mi l yMO_bit wsMO_bit rmMO_bit (dC, dI) vwCl [(cI, .int), (cZ, .boolean)] ts [.ref (ad 0)] (wMO_bit ad cI cZ v_MO_size v_MO_loaded v_MO_at v_MO_fault v_MO_hasGiven v_MO_hasPicture v_MO_range v_MO_value v_MO_leaves v_mload) (wMO_bit ad cI cZ v_MO_size v_MO_loaded nv_MO_at v_MO_fault v_MO_hasGiven v_MO_hasPicture v_MO_range v_MO_value v_MO_leaves v_mload) r0 := by
  refine ip_startI (cc := cMO_bit) (maxL := 3) (by decide) rfl (Nat.le_of_ble_eq_true rfl) ?_
  intro p e s m args below meth c Q A ls hx hb hml hts hown hK hP hD hS hA hZ hl hret
  replace hl : lv_has ls 3 [(0, .ref (ad 0))] := hl
  unfold fMO_bit at hf
  suffices J0 : ∀ (ls : Array Slot) (H : Heap) (locs : List Loc), lv_has ls 3 [(0, .ref (ad 0))] → va_P (dC, dI) vwCl (wMO_bit ad cI cZ v_MO_size v_MO_loaded v_MO_at v_MO_fault v_MO_hasGiven v_MO_hasPicture v_MO_range v_MO_value v_MO_leaves v_mload) H → va_D A (wMO_bit ad cI cZ v_MO_size v_MO_loaded v_MO_at v_MO_fault v_MO_hasGiven v_MO_hasPicture v_MO_range v_MO_value v_MO_leaves v_mload) → va_S A s.heap H locs → W p l e rmMO_bit s m args below meth c H locs 0 0 Q (F0 m 0 ls []) by exact J0 ls s.heap [] hl hP hD hS
  clear hP hD hS hl
  intro ls H locs hl hP hD hS
  refine lv_iconst (v := (1 : Int32)) hx hb dMO_bit_0 (by decide) ?_
  refine lv_aload_n hx hb dMO_bit_1 rfl (lv_at hl 0 rfl) ?_
  refine va_get (D := (dC, dI)) (ci := 12) (v := .int v_MO_at) (C := kR_MO) (T := kT_MO) (N := 32) hx hb hts kin_MO hown hK hP 0 rfl rfl 4 (by decide) (hts _ (List.mem_cons_of_mem _ kw3_191)) (fun _ h9 => h9) rfl dMO_bit_2 ?_
  refine lv_bipush (v := (8 : Int32)) hx hb dMO_bit_5 (by decide) ?_
  refine lv_idiv hx hb dMO_bit_7 (by decide) ?_
  refine lv_iadd hx hb dMO_bit_8 ?_
  refine ip_top hf (fun z1 hf => ?_)
  refine lv_istore_n (lv' := [(1, .int z1), (0, .ref (ad 0))]) hx hb dMO_bit_9 rfl hl (by decide) rfl (fun ls hl => ?_)
  refine lv_iload_n hx hb dMO_bit_10 rfl (lv_at hl 0 rfl) ?_
  refine lv_aload_n hx hb dMO_bit_11 rfl (lv_at hl 1 rfl) ?_
  refine va_get (D := (dC, dI)) (ci := 12) (v := .int v_MO_loaded) (C := kR_MO) (T := kT_MO) (N := 32) hx hb hts kin_MO hown hK hP 0 rfl rfl 3 (by decide) (hts _ (List.mem_cons_of_mem _ kw3_190)) (fun _ h9 => h9) rfl dMO_bit_12 ?_
  obtain ⟨z2, hh, hf⟩ := ip_b1_e hf
  suffices J41 : ∀ (ls : Array Slot) (H : Heap) (locs : List Loc), lv_has ls 3 [(0, .ref (ad 0))] → va_P (dC, dI) vwCl (wMO_bit ad cI cZ v_MO_size v_MO_loaded v_MO_at v_MO_fault v_MO_hasGiven v_MO_hasPicture v_MO_range v_MO_value v_MO_leaves v_mload) H → va_D A (wMO_bit ad cI cZ v_MO_size v_MO_loaded v_MO_at v_MO_fault v_MO_hasGiven v_MO_hasPicture v_MO_range v_MO_value v_MO_leaves v_mload) → va_S A s.heap H locs → W p l e rmMO_bit s m args below meth c H locs 0 0 Q (F0 m 41 ls [.int z2]) by
    replace hf := hh
    refine ip_icmp_ge (tgt := 40) hx hb dMO_bit_15 rfl hf (fun hf => ?_) (fun hf => ?_)
    · refine lv_iconst (v := (0 : Int32)) hx hb dMO_bit_40 (by decide) ?_
      replace hl := lv_sub hl (l' := [(0, .ref (ad 0))]) [1] rfl
      cases hf
      exact J41 ls H locs hl hP hD hS
    · refine lv_aload_n hx hb dMO_bit_18 rfl (lv_at hl 1 rfl) ?_
      refine va_get (D := (dC, dI)) (ci := 12) (v := .ref (ad 2)) (C := kR_MO) (T := kT_MO) (N := 32) hx hb hts kin_MO hown hK hP 0 rfl rfl 2 (by decide) (hts _ (List.mem_cons_of_mem _ kw3_189)) (fun _ h9 => h9) rfl dMO_bit_19 ?_
      refine lv_iload_n hx hb dMO_bit_22 rfl (lv_at hl 0 rfl) ?_
      refine ip_iald hx hb hK hP 1 0 rfl rfl dMO_bit_23 hf (fun z3 hf => ?_)
      refine lv_bipush (v := (7 : Int32)) hx hb dMO_bit_24 (by decide) ?_
      refine lv_aload_n hx hb dMO_bit_26 rfl (lv_at hl 1 rfl) ?_
      refine va_get (D := (dC, dI)) (ci := 12) (v := .int v_MO_at) (C := kR_MO) (T := kT_MO) (N := 32) hx hb hts kin_MO hown hK hP 0 rfl rfl 4 (by decide) (hts _ (List.mem_cons_of_mem _ kw3_191)) (fun _ h9 => h9) rfl dMO_bit_27 ?_
      refine lv_bipush (v := (8 : Int32)) hx hb dMO_bit_30 (by decide) ?_
      refine lv_irem hx hb dMO_bit_32 (by decide) ?_
      refine lv_isub hx hb dMO_bit_33 ?_
      refine lv_ishr hx hb dMO_bit_34 ?_
      refine lv_iconst (v := (1 : Int32)) hx hb dMO_bit_35 (by decide) ?_
      refine lv_iand hx hb dMO_bit_36 ?_
      refine lv_goto (tgt := 41) hx hb dMO_bit_37 rfl ?_
      replace hl := lv_sub hl (l' := [(0, .ref (ad 0))]) [1] rfl
      cases hf
      exact J41 ls H locs hl hP hD hS
  intro ls H locs hl hP hD hS
  clear hh
  refine lv_istore_n (lv' := [(2, .int z2), (0, .ref (ad 0))]) hx hb dMO_bit_41 rfl hl (by decide) rfl (fun ls hl => ?_)
  refine lv_aload_n hx hb dMO_bit_42 rfl (lv_at hl 1 rfl) ?_
  refine lv_dup hx hb dMO_bit_43 rfl ?_
  refine va_get (D := (dC, dI)) (ci := 12) (v := .int v_MO_at) (C := kR_MO) (T := kT_MO) (N := 32) hx hb hts kin_MO hown hK hP 0 rfl rfl 4 (by decide) (hts _ (List.mem_cons_of_mem _ kw3_191)) (fun _ h9 => h9) rfl dMO_bit_44 ?_
  refine lv_iconst (v := (1 : Int32)) hx hb dMO_bit_47 (by decide) ?_
  refine lv_iadd hx hb dMO_bit_48 ?_
  refine ip_top hf (fun z4 hf => ?_)
  refine va_put (D := (dC, dI)) (ci := 12) (v := .int z4) (ty := .int) (C := kR_MO) (T := kT_MO) (N := 32) hx hb hts kin_MO kty_MO kto_MO knm_MO hown hK hP hD hS 0 rfl rfl 4 (by decide) (hts _ (List.mem_cons_of_mem _ kw3_191)) (fun _ h9 => h9) rfl (by decide +kernel) rfl rfl (Nat.le_of_ble_eq_true rfl) dMO_bit_49 (fun H locs hP hD hS => ?_)
  replace hP : va_P (dC, dI) vwCl (wMO_bit ad cI cZ v_MO_size v_MO_loaded z4 v_MO_fault v_MO_hasGiven v_MO_hasPicture v_MO_range v_MO_value v_MO_leaves v_mload) H := hP
  replace hD : va_D A (wMO_bit ad cI cZ v_MO_size v_MO_loaded z4 v_MO_fault v_MO_hasGiven v_MO_hasPicture v_MO_range v_MO_value v_MO_leaves v_mload) := hD
  refine lv_iload_n hx hb dMO_bit_52 rfl (lv_at hl 0 rfl) ?_
  cases hf
  exact hret H locs 53 ls _ dMO_bit_53 rfl hP hD hS
set_option maxHeartbeats 4000000 in
set_option maxRecDepth 100000 in
theorem tMO_needed {l : Launch} {dC : Nat → ClassId} {dI : Nat → Nat → Nat} {cI cZ : ClassId} {ad : Nat → Nat} {ts : ip_TT} {v_MO_size : Int32} {v_MO_loaded : Int32} {v_MO_at : Int32} {v_MO_fault : Int32} {v_MO_hasGiven : Int32} {v_MO_hasPicture : Int32} {v_MO_range : Int32} {v_MO_value : Int32} {v_MO_leaves : Int32} {v_mload : Nat → Int32} {p1 : Int32} {r0 : Int32} {nv_MO_at : Int32} {nv_MO_fault : Int32} (hf : fMO_needed v_MO_size v_MO_loaded v_MO_at v_MO_fault v_MO_hasGiven v_MO_hasPicture v_MO_range v_MO_value v_MO_leaves v_mload p1 = some (r0, nv_MO_at, nv_MO_fault)) : ip_Mi l yMO_needed wsMO_needed rmMO_needed (dC, dI) vwCl [(cI, .int), (cZ, .boolean)] ts [.ref (ad 0), .int p1] (wMO_needed ad cI cZ v_MO_size v_MO_loaded v_MO_at v_MO_fault v_MO_hasGiven v_MO_hasPicture v_MO_range v_MO_value v_MO_leaves v_mload) (wMO_needed ad cI cZ v_MO_size v_MO_loaded nv_MO_at nv_MO_fault v_MO_hasGiven v_MO_hasPicture v_MO_range v_MO_value v_MO_leaves v_mload) r0 := by
  refine ip_startI (cc := cMO_needed) (maxL := 4) (by decide) rfl (Nat.le_of_ble_eq_true rfl) ?_
  intro p e s m args below meth c Q A ls hx hb hml hts hown hK hP hD hS hA hZ hl hret
  replace hl : lv_has ls 4 [(0, .ref (ad 0)), (1, .int p1)] := hl
  unfold fMO_needed at hf
  suffices J0 : ∀ (ls : Array Slot) (H : Heap) (locs : List Loc), lv_has ls 4 [(0, .ref (ad 0)), (1, .int p1)] → va_P (dC, dI) vwCl (wMO_needed ad cI cZ v_MO_size v_MO_loaded v_MO_at v_MO_fault v_MO_hasGiven v_MO_hasPicture v_MO_range v_MO_value v_MO_leaves v_mload) H → va_D A (wMO_needed ad cI cZ v_MO_size v_MO_loaded v_MO_at v_MO_fault v_MO_hasGiven v_MO_hasPicture v_MO_range v_MO_value v_MO_leaves v_mload) → va_S A s.heap H locs → W p l e rmMO_needed s m args below meth c H locs 0 0 Q (F0 m 0 ls []) by exact J0 ls s.heap [] hl hP hD hS
  clear hP hD hS hl
  intro ls H locs hl hP hD hS
  refine lv_iconst (v := (0 : Int32)) hx hb dMO_needed_0 (by decide) ?_
  refine lv_istore_n (lv' := [(2, .int (0 : Int32)), (0, .ref (ad 0)), (1, .int p1)]) hx hb dMO_needed_1 rfl hl (by decide) rfl (fun ls hl => ?_)
  refine lv_iconst (v := (0 : Int32)) hx hb dMO_needed_2 (by decide) ?_
  refine lv_istore_n (lv' := [(3, .int (0 : Int32)), (2, .int (0 : Int32)), (0, .ref (ad 0)), (1, .int p1)]) hx hb dMO_needed_3 rfl hl (by decide) rfl (fun ls hl => ?_)
  replace hl := lv_sub hl (l' := [(0, .ref (ad 0)), (1, .int p1), (2, .int (0 : Int32)), (3, .int (0 : Int32))]) [2, 3, 1, 0] rfl
  obtain ⟨x5, x6, x7, x8, hL, hf⟩ := ip_b4_e hf
  suffices J56 : ∀ (ls : Array Slot) (H : Heap) (locs : List Loc), lv_has ls 4 [(2, .int x5)] → va_P (dC, dI) vwCl (wMO_needed ad cI cZ v_MO_size v_MO_loaded x7 x8 v_MO_hasGiven v_MO_hasPicture v_MO_range v_MO_value v_MO_leaves v_mload) H → va_D A (wMO_needed ad cI cZ v_MO_size v_MO_loaded x7 x8 v_MO_hasGiven v_MO_hasPicture v_MO_range v_MO_value v_MO_leaves v_mload) → va_S A s.heap H locs → W p l e rmMO_needed s m args below meth c H locs 0 0 Q (F0 m 56 ls []) by
    have L : ∀ (n : Nat) (z1 : Int32) (z2 : Int32) (z3 : Int32) (z4 : Int32), ip_lp4 (fMO_needed_B4 v_MO_size v_MO_loaded v_MO_hasGiven v_MO_hasPicture v_MO_range v_MO_value v_MO_leaves v_mload p1) n z1 z2 z3 z4 = some (x5, x6, x7, x8) → ∀ (ls : Array Slot) (H : Heap) (locs : List Loc), lv_has ls 4 [(0, .ref (ad 0)), (1, .int p1), (2, .int z1), (3, .int z2)] → va_P (dC, dI) vwCl (wMO_needed ad cI cZ v_MO_size v_MO_loaded z3 z4 v_MO_hasGiven v_MO_hasPicture v_MO_range v_MO_value v_MO_leaves v_mload) H → va_D A (wMO_needed ad cI cZ v_MO_size v_MO_loaded z3 z4 v_MO_hasGiven v_MO_hasPicture v_MO_range v_MO_value v_MO_leaves v_mload) → va_S A s.heap H locs → W p l e rmMO_needed s m args below meth c H locs 0 0 Q (F0 m 4 ls []) := by
      intro n
      induction n with
      | zero => intro z1 z2 z3 z4 hL; exact (ip_lp4_0 hL).elim
      | succ n ih =>
        intro z1 z2 z3 z4 hL ls H locs hl hP hD hS
        clear hf
        obtain ⟨r9, hf, hr4⟩ := ip_lp4_s hL
        clear hL
        unfold fMO_needed_B4 at hf
        refine lv_iload_n hx hb dMO_needed_4 rfl (lv_at hl 3 rfl) ?_
        refine lv_iload_n hx hb dMO_needed_5 rfl (lv_at hl 1 rfl) ?_
        refine ip_icmp_ge (tgt := 56) hx hb dMO_needed_6 rfl hf (fun hf => ?_) (fun hf => ?_)
        · have hx9 := ip_lp_x hr4 hf
          replace hl := lv_sub hl (l' := [(2, .int z1)]) [2] rfl
          cases hx9
          exact J56 ls H locs hl hP hD hS
        · refine lv_aload_n hx hb dMO_needed_9 rfl (lv_at hl 0 rfl) ?_
          refine va_get (D := (dC, dI)) (ci := 12) (v := .int z4) (C := kR_MO) (T := kT_MO) (N := 32) hx hb hts kin_MO hown hK hP 0 rfl rfl 5 (by decide) (hts _ (List.mem_cons_of_mem _ kw3_192)) (fun _ h9 => h9) rfl dMO_needed_10 ?_
          refine ip_if_ne (tgt := 56) hx hb dMO_needed_13 rfl hf (fun hf => ?_) (fun hf => ?_)
          · have hx9 := ip_lp_x hr4 hf
            replace hl := lv_sub hl (l' := [(2, .int z1)]) [2] rfl
            cases hx9
            exact J56 ls H locs hl hP hD hS
          · refine lv_iconst (v := (1 : Int32)) hx hb dMO_needed_16 (by decide) ?_
            refine lv_aload_n hx hb dMO_needed_17 rfl (lv_at hl 0 rfl) ?_
            refine va_get (D := (dC, dI)) (ci := 12) (v := .int z3) (C := kR_MO) (T := kT_MO) (N := 32) hx hb hts kin_MO hown hK hP 0 rfl rfl 4 (by decide) (hts _ (List.mem_cons_of_mem _ kw3_191)) (fun _ h9 => h9) rfl dMO_needed_18 ?_
            refine lv_bipush (v := (8 : Int32)) hx hb dMO_needed_21 (by decide) ?_
            refine lv_idiv hx hb dMO_needed_23 (by decide) ?_
            refine lv_iadd hx hb dMO_needed_24 ?_
            refine lv_aload_n hx hb dMO_needed_25 rfl (lv_at hl 0 rfl) ?_
            refine va_get (D := (dC, dI)) (ci := 12) (v := .int v_MO_loaded) (C := kR_MO) (T := kT_MO) (N := 32) hx hb hts kin_MO hown hK hP 0 rfl rfl 3 (by decide) (hts _ (List.mem_cons_of_mem _ kw3_190)) (fun _ h9 => h9) rfl dMO_needed_26 ?_
            obtain ⟨z9, z10, z11, hh, hf⟩ := ip_b3_e hf
            suffices J50 : ∀ (ls : Array Slot) (H : Heap) (locs : List Loc), lv_has ls 4 [(0, .ref (ad 0)), (1, .int p1), (2, .int z9), (3, .int z2)] → va_P (dC, dI) vwCl (wMO_needed ad cI cZ v_MO_size v_MO_loaded z10 z11 v_MO_hasGiven v_MO_hasPicture v_MO_range v_MO_value v_MO_leaves v_mload) H → va_D A (wMO_needed ad cI cZ v_MO_size v_MO_loaded z10 z11 v_MO_hasGiven v_MO_hasPicture v_MO_range v_MO_value v_MO_leaves v_mload) → va_S A s.heap H locs → W p l e rmMO_needed s m args below meth c H locs 0 0 Q (F0 m 50 ls []) by
              replace hf := hh
              refine ip_icmp_lt (tgt := 41) hx hb dMO_needed_29 rfl hf (fun hf => ?_) (fun hf => ?_)
              · refine lv_iconst (v := (2 : Int32)) hx hb dMO_needed_41 (by decide) ?_
                refine lv_iload_n hx hb dMO_needed_42 rfl (lv_at hl 2 rfl) ?_
                refine lv_imul hx hb dMO_needed_43 ?_
                refine lv_aload_n hx hb dMO_needed_44 rfl (lv_at hl 0 rfl) ?_
                obtain ⟨z12, z13, hc, hf⟩ := ip_b2_e hf
                refine ip_calli (va_runV (As := []) (rest := [.int ((2 : Int32) * z1)]) ⟨hx, hb, hml, hown, hts⟩ (tMO_bit (l := l) (dC := dC) (dI := dI) (ad := ad) (cI := cI) (ts := ts) (cZ := cZ) hc H.size) (cwV 0 hts (ip_gdV (own := kR_MO) (idx := 114) (C := kR_MO) (y := yMO_bit) kw4_87 kw4_89 kws_41 kw1_13 kw4_90) rfl rfl rfl (by decide +kernel) ⟨Nat.le_of_ble_eq_true rfl, Nat.le_of_ble_eq_true rfl⟩) (ip_preV hK hP hD hS hA hZ [0, 1] rfl rfl (ci := 12) (q0 := 0) rfl rfl) rfl rfl hl.1 rfl (lv_room (Nat.le_of_ble_eq_true rfl)) dMO_needed_45 ⟨Nat.le_of_ble_eq_true rfl, Nat.le_of_ble_eq_true rfl⟩) hP hD hS hA [0, 1] [] [0, 1] (wMO_needed ad cI cZ v_MO_size v_MO_loaded z13 z4 v_MO_hasGiven v_MO_hasPicture v_MO_range v_MO_value v_MO_leaves v_mload) rfl rfl rfl (by decide) rfl rfl (fun H locs hP hD hS => ?_)
                clear hc
                refine lv_iadd hx hb dMO_needed_48 ?_
                refine ip_top hf (fun z14 hf => ?_)
                refine lv_istore_n (lv' := [(2, .int z14), (0, .ref (ad 0)), (1, .int p1), (3, .int z2)]) hx hb dMO_needed_49 rfl hl (by decide) rfl (fun ls hl => ?_)
                replace hl := lv_sub hl (l' := [(0, .ref (ad 0)), (1, .int p1), (2, .int z14), (3, .int z2)]) [1, 2, 0, 3] rfl
                cases hf
                exact J50 ls H locs hl hP hD hS
              · refine lv_aload_n hx hb dMO_needed_32 rfl (lv_at hl 0 rfl) ?_
                refine lv_bipush (v := (-4 : Int32)) hx hb dMO_needed_33 (by decide) ?_
                refine va_put (D := (dC, dI)) (ci := 12) (v := .int (-4 : Int32)) (ty := .int) (C := kR_MO) (T := kT_MO) (N := 32) hx hb hts kin_MO kty_MO kto_MO knm_MO hown hK hP hD hS 0 rfl rfl 5 (by decide) (hts _ (List.mem_cons_of_mem _ kw3_192)) (fun _ h9 => h9) rfl (by decide +kernel) rfl rfl (Nat.le_of_ble_eq_true rfl) dMO_needed_35 (fun H locs hP hD hS => ?_)
                replace hP : va_P (dC, dI) vwCl (wMO_needed ad cI cZ v_MO_size v_MO_loaded z3 (-4 : Int32) v_MO_hasGiven v_MO_hasPicture v_MO_range v_MO_value v_MO_leaves v_mload) H := hP
                replace hD : va_D A (wMO_needed ad cI cZ v_MO_size v_MO_loaded z3 (-4 : Int32) v_MO_hasGiven v_MO_hasPicture v_MO_range v_MO_value v_MO_leaves v_mload) := hD
                refine lv_goto (tgt := 50) hx hb dMO_needed_38 rfl ?_
                cases hf
                exact J50 ls H locs hl hP hD hS
            intro ls H locs hl hP hD hS
            clear hh
            refine ip_iinc (k0 := 3) (v0 := (1 : Int32)) (lv1 := fun z15 => [(3, .int z15), (0, .ref (ad 0)), (1, .int p1), (2, .int z9)]) hx hb dMO_needed_50 hl rfl (by decide) (by decide) (fun _ => rfl) hf (fun z15 ls hf hl => ?_)
            refine lv_goto (tgt := 4) hx hb dMO_needed_53 rfl ?_
            replace hl := lv_sub hl (l' := [(0, .ref (ad 0)), (1, .int p1), (2, .int z9), (3, .int z15)]) [1, 2, 3, 0] rfl
            exact ih _ _ _ _ (ip_lp4_l hr4 hf) ls H locs hl hP hD hS
    exact L 1000 _ _ _ _ hL ls H locs hl hP hD hS
  intro ls H locs hl hP hD hS
  clear hL
  refine lv_iload_n hx hb dMO_needed_56 rfl (lv_at hl 0 rfl) ?_
  cases hf
  exact hret H locs 57 ls _ dMO_needed_57 rfl hP hD hS
set_option maxHeartbeats 4000000 in
set_option maxRecDepth 100000 in
theorem tMO_code {l : Launch} {dC : Nat → ClassId} {dI : Nat → Nat → Nat} {cI cZ : ClassId} {ad : Nat → Nat} {ts : ip_TT} {v_MO_size : Int32} {v_MO_loaded : Int32} {v_MO_at : Int32} {v_MO_fault : Int32} {v_MO_hasGiven : Int32} {v_MO_hasPicture : Int32} {v_MO_range : Int32} {v_MO_value : Int32} {v_MO_leaves : Int32} {v_mload : Nat → Int32}  {r0 : Int32} {nv_MO_at : Int32} {nv_MO_fault : Int32} (hf : fMO_code v_MO_size v_MO_loaded v_MO_at v_MO_fault v_MO_hasGiven v_MO_hasPicture v_MO_range v_MO_value v_MO_leaves v_mload = some (r0, nv_MO_at, nv_MO_fault)) : ip_Mi l yMO_code wsMO_code rmMO_code (dC, dI) vwCl [(cI, .int), (cZ, .boolean)] ts [.ref (ad 0)] (wMO_code ad cI cZ v_MO_size v_MO_loaded v_MO_at v_MO_fault v_MO_hasGiven v_MO_hasPicture v_MO_range v_MO_value v_MO_leaves v_mload) (wMO_code ad cI cZ v_MO_size v_MO_loaded nv_MO_at nv_MO_fault v_MO_hasGiven v_MO_hasPicture v_MO_range v_MO_value v_MO_leaves v_mload) r0 := by
  refine ip_startI (cc := cMO_code) (maxL := 3) (by decide) rfl (Nat.le_of_ble_eq_true rfl) ?_
  intro p e s m args below meth c Q A ls hx hb hml hts hown hK hP hD hS hA hZ hl hret
  replace hl : lv_has ls 3 [(0, .ref (ad 0))] := hl
  unfold fMO_code at hf
  suffices J0 : ∀ (ls : Array Slot) (H : Heap) (locs : List Loc), lv_has ls 3 [(0, .ref (ad 0))] → va_P (dC, dI) vwCl (wMO_code ad cI cZ v_MO_size v_MO_loaded v_MO_at v_MO_fault v_MO_hasGiven v_MO_hasPicture v_MO_range v_MO_value v_MO_leaves v_mload) H → va_D A (wMO_code ad cI cZ v_MO_size v_MO_loaded v_MO_at v_MO_fault v_MO_hasGiven v_MO_hasPicture v_MO_range v_MO_value v_MO_leaves v_mload) → va_S A s.heap H locs → W p l e rmMO_code s m args below meth c H locs 0 0 Q (F0 m 0 ls []) by exact J0 ls s.heap [] hl hP hD hS
  clear hP hD hS hl
  intro ls H locs hl hP hD hS
  refine lv_iconst (v := (0 : Int32)) hx hb dMO_code_0 (by decide) ?_
  refine lv_istore_n (lv' := [(1, .int (0 : Int32)), (0, .ref (ad 0))]) hx hb dMO_code_1 rfl hl (by decide) rfl (fun ls hl => ?_)
  refine lv_aload_n hx hb dMO_code_2 rfl (lv_at hl 1 rfl) ?_
  refine lv_iconst (v := (1 : Int32)) hx hb dMO_code_3 (by decide) ?_
  obtain ⟨z1, z2, z3, hc, hf⟩ := ip_b3_e hf
  refine ip_calli (va_runV (As := [.int (1 : Int32)]) (rest := []) ⟨hx, hb, hml, hown, hts⟩ (tMO_needed (l := l) (dC := dC) (dI := dI) (ad := ad) (cI := cI) (ts := ts) (cZ := cZ) hc H.size) (cwV 1 hts (ip_gdV (own := kR_MO) (idx := 117) (C := kR_MO) (y := yMO_needed) kw4_83 kw4_85 kws_40 kw1_13 kw4_86) rfl rfl rfl (by decide +kernel) ⟨Nat.le_of_ble_eq_true rfl, Nat.le_of_ble_eq_true rfl⟩) (ip_preV hK hP hD hS hA hZ [0, 1] rfl rfl (ci := 12) (q0 := 0) rfl rfl) rfl rfl hl.1 rfl (lv_room (Nat.le_of_ble_eq_true rfl)) dMO_code_4 ⟨Nat.le_of_ble_eq_true rfl, Nat.le_of_ble_eq_true rfl⟩) hP hD hS hA [0, 1] [] [0, 1] (wMO_code ad cI cZ v_MO_size v_MO_loaded z2 z3 v_MO_hasGiven v_MO_hasPicture v_MO_range v_MO_value v_MO_leaves v_mload) rfl rfl rfl (by decide) rfl rfl (fun H locs hP hD hS => ?_)
  clear hc
  refine lv_istore_n (lv' := [(2, .int z1), (1, .int (0 : Int32)), (0, .ref (ad 0))]) hx hb dMO_code_7 rfl hl (by decide) rfl (fun ls hl => ?_)
  replace hl := lv_sub hl (l' := [(0, .ref (ad 0)), (1, .int (0 : Int32)), (2, .int z1)]) [2, 1, 0] rfl
  obtain ⟨x8, x9, x10, x11, hL, hf⟩ := ip_b4_e hf
  suffices J46 : ∀ (ls : Array Slot) (H : Heap) (locs : List Loc), lv_has ls 3 [(0, .ref (ad 0)), (1, .int x8)] → va_P (dC, dI) vwCl (wMO_code ad cI cZ v_MO_size v_MO_loaded x10 x11 v_MO_hasGiven v_MO_hasPicture v_MO_range v_MO_value v_MO_leaves v_mload) H → va_D A (wMO_code ad cI cZ v_MO_size v_MO_loaded x10 x11 v_MO_hasGiven v_MO_hasPicture v_MO_range v_MO_value v_MO_leaves v_mload) → va_S A s.heap H locs → W p l e rmMO_code s m args below meth c H locs 0 0 Q (F0 m 46 ls []) by
    have L : ∀ (n : Nat) (z4 : Int32) (z5 : Int32) (z6 : Int32) (z7 : Int32), ip_lp4 (fMO_code_B8 v_MO_size v_MO_loaded v_MO_hasGiven v_MO_hasPicture v_MO_range v_MO_value v_MO_leaves v_mload) n z4 z5 z6 z7 = some (x8, x9, x10, x11) → ∀ (ls : Array Slot) (H : Heap) (locs : List Loc), lv_has ls 3 [(0, .ref (ad 0)), (1, .int z4), (2, .int z5)] → va_P (dC, dI) vwCl (wMO_code ad cI cZ v_MO_size v_MO_loaded z6 z7 v_MO_hasGiven v_MO_hasPicture v_MO_range v_MO_value v_MO_leaves v_mload) H → va_D A (wMO_code ad cI cZ v_MO_size v_MO_loaded z6 z7 v_MO_hasGiven v_MO_hasPicture v_MO_range v_MO_value v_MO_leaves v_mload) → va_S A s.heap H locs → W p l e rmMO_code s m args below meth c H locs 0 0 Q (F0 m 8 ls []) := by
      intro n
      induction n with
      | zero => intro z4 z5 z6 z7 hL; exact (ip_lp4_0 hL).elim
      | succ n ih =>
        intro z4 z5 z6 z7 hL ls H locs hl hP hD hS
        clear hf
        obtain ⟨r9, hf, hr8⟩ := ip_lp4_s hL
        clear hL
        unfold fMO_code_B8 at hf
        refine lv_iload_n hx hb dMO_code_8 rfl (lv_at hl 2 rfl) ?_
        refine ip_if_ne (tgt := 46) hx hb dMO_code_9 rfl hf (fun hf => ?_) (fun hf => ?_)
        · have hx9 := ip_lp_x hr8 hf
          replace hl := lv_sub hl (l' := [(0, .ref (ad 0)), (1, .int z4)]) [0, 1] rfl
          cases hx9
          exact J46 ls H locs hl hP hD hS
        · refine lv_aload_n hx hb dMO_code_12 rfl (lv_at hl 0 rfl) ?_
          refine va_get (D := (dC, dI)) (ci := 12) (v := .int z7) (C := kR_MO) (T := kT_MO) (N := 32) hx hb hts kin_MO hown hK hP 0 rfl rfl 5 (by decide) (hts _ (List.mem_cons_of_mem _ kw3_192)) (fun _ h9 => h9) rfl dMO_code_13 ?_
          refine ip_if_ne (tgt := 46) hx hb dMO_code_16 rfl hf (fun hf => ?_) (fun hf => ?_)
          · have hx9 := ip_lp_x hr8 hf
            replace hl := lv_sub hl (l' := [(0, .ref (ad 0)), (1, .int z4)]) [0, 1] rfl
            cases hx9
            exact J46 ls H locs hl hP hD hS
          · refine ip_iinc (k0 := 1) (v0 := (1 : Int32)) (lv1 := fun z12 => [(1, .int z12), (0, .ref (ad 0)), (2, .int z5)]) hx hb dMO_code_19 hl rfl (by decide) (by decide) (fun _ => rfl) hf (fun z12 ls hf hl => ?_)
            refine lv_iload_n hx hb dMO_code_22 rfl (lv_at hl 0 rfl) ?_
            refine lv_bipush (v := (7 : Int32)) hx hb dMO_code_23 (by decide) ?_
            refine ip_icmp_ne (tgt := 37) hx hb dMO_code_25 rfl hf (fun hf => ?_) (fun hf => ?_)
            · refine lv_aload_n hx hb dMO_code_37 rfl (lv_at hl 1 rfl) ?_
              refine lv_iconst (v := (1 : Int32)) hx hb dMO_code_38 (by decide) ?_
              obtain ⟨z13, z14, z15, hc, hf⟩ := ip_b3_e hf
              refine ip_calli (va_runV (As := [.int (1 : Int32)]) (rest := []) ⟨hx, hb, hml, hown, hts⟩ (tMO_needed (l := l) (dC := dC) (dI := dI) (ad := ad) (cI := cI) (ts := ts) (cZ := cZ) hc H.size) (cwV 1 hts (ip_gdV (own := kR_MO) (idx := 117) (C := kR_MO) (y := yMO_needed) kw4_83 kw4_85 kws_40 kw1_13 kw4_86) rfl rfl rfl (by decide +kernel) ⟨Nat.le_of_ble_eq_true rfl, Nat.le_of_ble_eq_true rfl⟩) (ip_preV hK hP hD hS hA hZ [0, 1] rfl rfl (ci := 12) (q0 := 0) rfl rfl) rfl rfl hl.1 rfl (lv_room (Nat.le_of_ble_eq_true rfl)) dMO_code_39 ⟨Nat.le_of_ble_eq_true rfl, Nat.le_of_ble_eq_true rfl⟩) hP hD hS hA [0, 1] [] [0, 1] (wMO_code ad cI cZ v_MO_size v_MO_loaded z14 z15 v_MO_hasGiven v_MO_hasPicture v_MO_range v_MO_value v_MO_leaves v_mload) rfl rfl rfl (by decide) rfl rfl (fun H locs hP hD hS => ?_)
              clear hc
              refine lv_istore_n (lv' := [(2, .int z13), (1, .int z12), (0, .ref (ad 0))]) hx hb dMO_code_42 rfl hl (by decide) rfl (fun ls hl => ?_)
              refine lv_goto (tgt := 8) hx hb dMO_code_43 rfl ?_
              replace hl := lv_sub hl (l' := [(0, .ref (ad 0)), (1, .int z12), (2, .int z13)]) [2, 1, 0] rfl
              exact ih _ _ _ _ (ip_lp4_l hr8 hf) ls H locs hl hP hD hS
            · refine lv_aload_n hx hb dMO_code_28 rfl (lv_at hl 1 rfl) ?_
              refine lv_bipush (v := (-3 : Int32)) hx hb dMO_code_29 (by decide) ?_
              refine va_put (D := (dC, dI)) (ci := 12) (v := .int (-3 : Int32)) (ty := .int) (C := kR_MO) (T := kT_MO) (N := 32) hx hb hts kin_MO kty_MO kto_MO knm_MO hown hK hP hD hS 0 rfl rfl 5 (by decide) (hts _ (List.mem_cons_of_mem _ kw3_192)) (fun _ h9 => h9) rfl (by decide +kernel) rfl rfl (Nat.le_of_ble_eq_true rfl) dMO_code_31 (fun H locs hP hD hS => ?_)
              replace hP : va_P (dC, dI) vwCl (wMO_code ad cI cZ v_MO_size v_MO_loaded z6 (-3 : Int32) v_MO_hasGiven v_MO_hasPicture v_MO_range v_MO_value v_MO_leaves v_mload) H := hP
              replace hD : va_D A (wMO_code ad cI cZ v_MO_size v_MO_loaded z6 (-3 : Int32) v_MO_hasGiven v_MO_hasPicture v_MO_range v_MO_value v_MO_leaves v_mload) := hD
              refine lv_goto (tgt := 8) hx hb dMO_code_34 rfl ?_
              replace hl := lv_sub hl (l' := [(0, .ref (ad 0)), (1, .int z12), (2, .int z5)]) [1, 0, 2] rfl
              exact ih _ _ _ _ (ip_lp4_l hr8 hf) ls H locs hl hP hD hS
    exact L 1000 _ _ _ _ hL ls H locs hl hP hD hS
  intro ls H locs hl hP hD hS
  clear hL
  refine lv_iconst (v := (1 : Int32)) hx hb dMO_code_46 (by decide) ?_
  refine lv_iload_n hx hb dMO_code_47 rfl (lv_at hl 1 rfl) ?_
  refine lv_ishl hx hb dMO_code_48 ?_
  refine lv_iconst (v := (1 : Int32)) hx hb dMO_code_49 (by decide) ?_
  refine lv_isub hx hb dMO_code_50 ?_
  refine lv_aload_n hx hb dMO_code_51 rfl (lv_at hl 0 rfl) ?_
  refine lv_iload_n hx hb dMO_code_52 rfl (lv_at hl 1 rfl) ?_
  obtain ⟨z16, z17, z18, hc, hf⟩ := ip_b3_e hf
  refine ip_calli (va_runV (As := [.int x8]) (rest := [.int (((1 : Int32) <<< (x8 &&& 31)) - (1 : Int32))]) ⟨hx, hb, hml, hown, hts⟩ (tMO_needed (l := l) (dC := dC) (dI := dI) (ad := ad) (cI := cI) (ts := ts) (cZ := cZ) hc H.size) (cwV 1 hts (ip_gdV (own := kR_MO) (idx := 117) (C := kR_MO) (y := yMO_needed) kw4_83 kw4_85 kws_40 kw1_13 kw4_86) rfl rfl rfl (by decide +kernel) ⟨Nat.le_of_ble_eq_true rfl, Nat.le_of_ble_eq_true rfl⟩) (ip_preV hK hP hD hS hA hZ [0, 1] rfl rfl (ci := 12) (q0 := 0) rfl rfl) rfl rfl hl.1 rfl (lv_room (Nat.le_of_ble_eq_true rfl)) dMO_code_53 ⟨Nat.le_of_ble_eq_true rfl, Nat.le_of_ble_eq_true rfl⟩) hP hD hS hA [0, 1] [] [0, 1] (wMO_code ad cI cZ v_MO_size v_MO_loaded z17 z18 v_MO_hasGiven v_MO_hasPicture v_MO_range v_MO_value v_MO_leaves v_mload) rfl rfl rfl (by decide) rfl rfl (fun H locs hP hD hS => ?_)
  clear hc
  refine lv_iadd hx hb dMO_code_56 ?_
  cases hf
  exact hret H locs 57 ls _ dMO_code_57 rfl hP hD hS
set_option maxHeartbeats 4000000 in
set_option maxRecDepth 100000 in
theorem tMO_within {l : Launch} {dC : Nat → ClassId} {dI : Nat → Nat → Nat} {cI cZ : ClassId} {ad : Nat → Nat} {ts : ip_TT} {v_MO_size : Int32} {v_MO_loaded : Int32} {v_MO_at : Int32} {v_MO_fault : Int32} {v_MO_hasGiven : Int32} {v_MO_hasPicture : Int32} {v_MO_range : Int32} {v_MO_value : Int32} {v_MO_leaves : Int32} {p1 : Int32} {p2 : Int32} {p3 : Int32} {r0 : Int32} {nv_MO_fault : Int32} (hf : fMO_within v_MO_size v_MO_loaded v_MO_at v_MO_fault v_MO_hasGiven v_MO_hasPicture v_MO_range v_MO_value v_MO_leaves p1 p2 p3 = some (r0, nv_MO_fault)) : ip_Mi l yMO_within wsMO_within rmMO_within (dC, dI) vwCl [(cI, .int), (cZ, .boolean)] ts [.ref (ad 0), .int p1, .int p2, .int p3] (wMO_within ad cI cZ v_MO_size v_MO_loaded v_MO_at v_MO_fault v_MO_hasGiven v_MO_hasPicture v_MO_range v_MO_value v_MO_leaves) (wMO_within ad cI cZ v_MO_size v_MO_loaded v_MO_at nv_MO_fault v_MO_hasGiven v_MO_hasPicture v_MO_range v_MO_value v_MO_leaves) r0 := by
  refine ip_startI (cc := cMO_within) (maxL := 4) (by decide) rfl (Nat.le_of_ble_eq_true rfl) ?_
  intro p e s m args below meth c Q A ls hx hb hml hts hown hK hP hD hS hA hZ hl hret
  replace hl : lv_has ls 4 [(0, .ref (ad 0)), (1, .int p1), (2, .int p2), (3, .int p3)] := hl
  unfold fMO_within at hf
  suffices J0 : ∀ (ls : Array Slot) (H : Heap) (locs : List Loc), lv_has ls 4 [(0, .ref (ad 0)), (1, .int p1), (2, .int p2), (3, .int p3)] → va_P (dC, dI) vwCl (wMO_within ad cI cZ v_MO_size v_MO_loaded v_MO_at v_MO_fault v_MO_hasGiven v_MO_hasPicture v_MO_range v_MO_value v_MO_leaves) H → va_D A (wMO_within ad cI cZ v_MO_size v_MO_loaded v_MO_at v_MO_fault v_MO_hasGiven v_MO_hasPicture v_MO_range v_MO_value v_MO_leaves) → va_S A s.heap H locs → W p l e rmMO_within s m args below meth c H locs 0 0 Q (F0 m 0 ls []) by exact J0 ls s.heap [] hl hP hD hS
  clear hP hD hS hl
  intro ls H locs hl hP hD hS
  refine lv_aload_n hx hb dMO_within_0 rfl (lv_at hl 0 rfl) ?_
  refine va_get (D := (dC, dI)) (ci := 12) (v := .int v_MO_fault) (C := kR_MO) (T := kT_MO) (N := 32) hx hb hts kin_MO hown hK hP 0 rfl rfl 5 (by decide) (hts _ (List.mem_cons_of_mem _ kw3_192)) (fun _ h9 => h9) rfl dMO_within_1 ?_
  obtain ⟨z1, hh, hf⟩ := ip_b1_e hf
  suffices J23 : ∀ (ls : Array Slot) (H : Heap) (locs : List Loc), lv_has ls 4 [(1, .int p1)] → va_P (dC, dI) vwCl (wMO_within ad cI cZ v_MO_size v_MO_loaded v_MO_at z1 v_MO_hasGiven v_MO_hasPicture v_MO_range v_MO_value v_MO_leaves) H → va_D A (wMO_within ad cI cZ v_MO_size v_MO_loaded v_MO_at z1 v_MO_hasGiven v_MO_hasPicture v_MO_range v_MO_value v_MO_leaves) → va_S A s.heap H locs → W p l e rmMO_within s m args below meth c H locs 0 0 Q (F0 m 23 ls []) by
    replace hf := hh
    refine ip_if_ne (tgt := 23) hx hb dMO_within_4 rfl hf (fun hf => ?_) (fun hf => ?_)
    · replace hl := lv_sub hl (l' := [(1, .int p1)]) [1] rfl
      cases hf
      exact J23 ls H locs hl hP hD hS
    · refine lv_iload_n hx hb dMO_within_7 rfl (lv_at hl 1 rfl) ?_
      refine lv_iload_n hx hb dMO_within_8 rfl (lv_at hl 2 rfl) ?_
      refine ip_icmp_lt (tgt := 17) hx hb dMO_within_9 rfl hf (fun hf => ?_) (fun hf => ?_)
      · refine lv_aload_n hx hb dMO_within_17 rfl (lv_at hl 0 rfl) ?_
        refine lv_bipush (v := (-3 : Int32)) hx hb dMO_within_18 (by decide) ?_
        refine va_put (D := (dC, dI)) (ci := 12) (v := .int (-3 : Int32)) (ty := .int) (C := kR_MO) (T := kT_MO) (N := 32) hx hb hts kin_MO kty_MO kto_MO knm_MO hown hK hP hD hS 0 rfl rfl 5 (by decide) (hts _ (List.mem_cons_of_mem _ kw3_192)) (fun _ h9 => h9) rfl (by decide +kernel) rfl rfl (Nat.le_of_ble_eq_true rfl) dMO_within_20 (fun H locs hP hD hS => ?_)
        replace hP : va_P (dC, dI) vwCl (wMO_within ad cI cZ v_MO_size v_MO_loaded v_MO_at (-3 : Int32) v_MO_hasGiven v_MO_hasPicture v_MO_range v_MO_value v_MO_leaves) H := hP
        replace hD : va_D A (wMO_within ad cI cZ v_MO_size v_MO_loaded v_MO_at (-3 : Int32) v_MO_hasGiven v_MO_hasPicture v_MO_range v_MO_value v_MO_leaves) := hD
        replace hl := lv_sub hl (l' := [(1, .int p1)]) [1] rfl
        cases hf
        exact J23 ls H locs hl hP hD hS
      · refine lv_iload_n hx hb dMO_within_12 rfl (lv_at hl 1 rfl) ?_
        refine lv_iload_n hx hb dMO_within_13 rfl (lv_at hl 3 rfl) ?_
        refine ip_icmp_le (tgt := 23) hx hb dMO_within_14 rfl hf (fun hf => ?_) (fun hf => ?_)
        · replace hl := lv_sub hl (l' := [(1, .int p1)]) [1] rfl
          cases hf
          exact J23 ls H locs hl hP hD hS
        · refine lv_aload_n hx hb dMO_within_17 rfl (lv_at hl 0 rfl) ?_
          refine lv_bipush (v := (-3 : Int32)) hx hb dMO_within_18 (by decide) ?_
          refine va_put (D := (dC, dI)) (ci := 12) (v := .int (-3 : Int32)) (ty := .int) (C := kR_MO) (T := kT_MO) (N := 32) hx hb hts kin_MO kty_MO kto_MO knm_MO hown hK hP hD hS 0 rfl rfl 5 (by decide) (hts _ (List.mem_cons_of_mem _ kw3_192)) (fun _ h9 => h9) rfl (by decide +kernel) rfl rfl (Nat.le_of_ble_eq_true rfl) dMO_within_20 (fun H locs hP hD hS => ?_)
          replace hP : va_P (dC, dI) vwCl (wMO_within ad cI cZ v_MO_size v_MO_loaded v_MO_at (-3 : Int32) v_MO_hasGiven v_MO_hasPicture v_MO_range v_MO_value v_MO_leaves) H := hP
          replace hD : va_D A (wMO_within ad cI cZ v_MO_size v_MO_loaded v_MO_at (-3 : Int32) v_MO_hasGiven v_MO_hasPicture v_MO_range v_MO_value v_MO_leaves) := hD
          replace hl := lv_sub hl (l' := [(1, .int p1)]) [1] rfl
          cases hf
          exact J23 ls H locs hl hP hD hS
  intro ls H locs hl hP hD hS
  clear hh
  refine lv_iload_n hx hb dMO_within_23 rfl (lv_at hl 0 rfl) ?_
  cases hf
  exact hret H locs 24 ls _ dMO_within_24 rfl hP hD hS
set_option maxHeartbeats 4000000 in
set_option maxRecDepth 100000 in
theorem tMO_signedCode {l : Launch} {dC : Nat → ClassId} {dI : Nat → Nat → Nat} {cI cZ : ClassId} {ad : Nat → Nat} {ts : ip_TT} {v_MO_size : Int32} {v_MO_loaded : Int32} {v_MO_at : Int32} {v_MO_fault : Int32} {v_MO_hasGiven : Int32} {v_MO_hasPicture : Int32} {v_MO_range : Int32} {v_MO_value : Int32} {v_MO_leaves : Int32} {v_mload : Nat → Int32}  {r0 : Int32} {nv_MO_at : Int32} {nv_MO_fault : Int32} (hf : fMO_signedCode v_MO_size v_MO_loaded v_MO_at v_MO_fault v_MO_hasGiven v_MO_hasPicture v_MO_range v_MO_value v_MO_leaves v_mload = some (r0, nv_MO_at, nv_MO_fault)) : ip_Mi l yMO_signedCode wsMO_signedCode rmMO_signedCode (dC, dI) vwCl [(cI, .int), (cZ, .boolean)] ts [.ref (ad 0)] (wMO_signedCode ad cI cZ v_MO_size v_MO_loaded v_MO_at v_MO_fault v_MO_hasGiven v_MO_hasPicture v_MO_range v_MO_value v_MO_leaves v_mload) (wMO_signedCode ad cI cZ v_MO_size v_MO_loaded nv_MO_at nv_MO_fault v_MO_hasGiven v_MO_hasPicture v_MO_range v_MO_value v_MO_leaves v_mload) r0 := by
  refine ip_startI (cc := cMO_signedCode) (maxL := 2) (by decide) rfl (Nat.le_of_ble_eq_true rfl) ?_
  intro p e s m args below meth c Q A ls hx hb hml hts hown hK hP hD hS hA hZ hl hret
  replace hl : lv_has ls 2 [(0, .ref (ad 0))] := hl
  unfold fMO_signedCode at hf
  suffices J0 : ∀ (ls : Array Slot) (H : Heap) (locs : List Loc), lv_has ls 2 [(0, .ref (ad 0))] → va_P (dC, dI) vwCl (wMO_signedCode ad cI cZ v_MO_size v_MO_loaded v_MO_at v_MO_fault v_MO_hasGiven v_MO_hasPicture v_MO_range v_MO_value v_MO_leaves v_mload) H → va_D A (wMO_signedCode ad cI cZ v_MO_size v_MO_loaded v_MO_at v_MO_fault v_MO_hasGiven v_MO_hasPicture v_MO_range v_MO_value v_MO_leaves v_mload) → va_S A s.heap H locs → W p l e rmMO_signedCode s m args below meth c H locs 0 0 Q (F0 m 0 ls []) by exact J0 ls s.heap [] hl hP hD hS
  clear hP hD hS hl
  intro ls H locs hl hP hD hS
  refine lv_aload_n hx hb dMO_signedCode_0 rfl (lv_at hl 0 rfl) ?_
  obtain ⟨z1, z2, z3, hc, hf⟩ := ip_b3_e hf
  refine ip_calli (va_runV (As := []) (rest := []) ⟨hx, hb, hml, hown, hts⟩ (tMO_code (l := l) (dC := dC) (dI := dI) (ad := ad) (cI := cI) (ts := ts) (cZ := cZ) hc H.size) (cwV 0 hts (ip_gdV (own := kR_MO) (idx := 120) (C := kR_MO) (y := yMO_code) kw4_79 kw4_81 kws_39 kw1_13 kw4_82) rfl rfl rfl (by decide +kernel) ⟨Nat.le_of_ble_eq_true rfl, Nat.le_of_ble_eq_true rfl⟩) (ip_preV hK hP hD hS hA hZ [0, 1] rfl rfl (ci := 12) (q0 := 0) rfl rfl) rfl rfl hl.1 rfl (lv_room (Nat.le_of_ble_eq_true rfl)) dMO_signedCode_1 ⟨Nat.le_of_ble_eq_true rfl, Nat.le_of_ble_eq_true rfl⟩) hP hD hS hA [0, 1] [] [0, 1] (wMO_signedCode ad cI cZ v_MO_size v_MO_loaded z2 z3 v_MO_hasGiven v_MO_hasPicture v_MO_range v_MO_value v_MO_leaves v_mload) rfl rfl rfl (by decide) rfl rfl (fun H locs hP hD hS => ?_)
  clear hc
  refine lv_istore_n (lv' := [(1, .int z1), (0, .ref (ad 0))]) hx hb dMO_signedCode_4 rfl hl (by decide) rfl (fun ls hl => ?_)
  refine lv_aload_n hx hb dMO_signedCode_5 rfl (lv_at hl 1 rfl) ?_
  refine lv_iload_n hx hb dMO_signedCode_6 rfl (lv_at hl 0 rfl) ?_
  refine lv_iconst (v := (2 : Int32)) hx hb dMO_signedCode_7 (by decide) ?_
  refine lv_irem hx hb dMO_signedCode_8 (by decide) ?_
  refine lv_iconst (v := (1 : Int32)) hx hb dMO_signedCode_9 (by decide) ?_
  obtain ⟨z4, hh, hf⟩ := ip_b1_e hf
  suffices J25 : ∀ (ls : Array Slot) (H : Heap) (locs : List Loc), lv_has ls 2 [] → va_P (dC, dI) vwCl (wMO_signedCode ad cI cZ v_MO_size v_MO_loaded z2 z3 v_MO_hasGiven v_MO_hasPicture v_MO_range v_MO_value v_MO_leaves v_mload) H → va_D A (wMO_signedCode ad cI cZ v_MO_size v_MO_loaded z2 z3 v_MO_hasGiven v_MO_hasPicture v_MO_range v_MO_value v_MO_leaves v_mload) → va_S A s.heap H locs → W p l e rmMO_signedCode s m args below meth c H locs 0 0 Q (F0 m 25 ls [.int z4, .ref (ad 0)]) by
    replace hf := hh
    refine ip_icmp_ne (tgt := 21) hx hb dMO_signedCode_10 rfl hf (fun hf => ?_) (fun hf => ?_)
    · refine lv_iload_n hx hb dMO_signedCode_21 rfl (lv_at hl 0 rfl) ?_
      refine lv_iconst (v := (2 : Int32)) hx hb dMO_signedCode_22 (by decide) ?_
      refine lv_idiv hx hb dMO_signedCode_23 (by decide) ?_
      refine lv_ineg hx hb dMO_signedCode_24 ?_
      replace hl := lv_sub hl (l' := []) [] rfl
      cases hf
      exact J25 ls H locs hl hP hD hS
    · refine lv_iload_n hx hb dMO_signedCode_13 rfl (lv_at hl 0 rfl) ?_
      refine lv_iconst (v := (1 : Int32)) hx hb dMO_signedCode_14 (by decide) ?_
      refine lv_iadd hx hb dMO_signedCode_15 ?_
      refine lv_iconst (v := (2 : Int32)) hx hb dMO_signedCode_16 (by decide) ?_
      refine lv_idiv hx hb dMO_signedCode_17 (by decide) ?_
      refine lv_goto (tgt := 25) hx hb dMO_signedCode_18 rfl ?_
      replace hl := lv_sub hl (l' := []) [] rfl
      cases hf
      exact J25 ls H locs hl hP hD hS
  intro ls H locs hl hP hD hS
  clear hh
  refine lv_bipush (v := (-7 : Int32)) hx hb dMO_signedCode_25 (by decide) ?_
  refine lv_bipush (v := (7 : Int32)) hx hb dMO_signedCode_27 (by decide) ?_
  obtain ⟨z5, z6, hc, hf⟩ := ip_b2_e hf
  refine ip_calli (va_runV (As := [.int z4, .int (-7 : Int32), .int (7 : Int32)]) (rest := []) ⟨hx, hb, hml, hown, hts⟩ (tMO_within (l := l) (dC := dC) (dI := dI) (ad := ad) (cI := cI) (ts := ts) (cZ := cZ) hc H.size) (cwV 3 hts (ip_gdV (own := kR_MO) (idx := 123) (C := kR_MO) (y := yMO_within) kw4_91 kw4_93 kws_42 kw1_13 kw4_94) rfl rfl rfl (by decide +kernel) ⟨Nat.le_of_ble_eq_true rfl, Nat.le_of_ble_eq_true rfl⟩) (ip_preV hK hP hD hS hA hZ [0] rfl rfl (ci := 12) (q0 := 0) rfl rfl) rfl rfl hl.1 rfl (lv_room (Nat.le_of_ble_eq_true rfl)) dMO_signedCode_29 ⟨Nat.le_of_ble_eq_true rfl, Nat.le_of_ble_eq_true rfl⟩) hP hD hS hA [0] [1] [1, 0] (wMO_signedCode ad cI cZ v_MO_size v_MO_loaded z2 z6 v_MO_hasGiven v_MO_hasPicture v_MO_range v_MO_value v_MO_leaves v_mload) rfl rfl rfl (by decide) rfl rfl (fun H locs hP hD hS => ?_)
  clear hc
  cases hf
  exact hret H locs 32 ls _ dMO_signedCode_32 rfl hP hD hS
set_option maxHeartbeats 4000000 in
set_option maxRecDepth 100000 in
theorem tMO_readParameters {l : Launch} {dC : Nat → ClassId} {dI : Nat → Nat → Nat} {cI cZ : ClassId} {ad : Nat → Nat} {ts : ip_TT} {v_MO_size : Int32} {v_MO_loaded : Int32} {v_MO_at : Int32} {v_MO_fault : Int32} {v_MO_hasGiven : Int32} {v_MO_hasPicture : Int32} {v_MO_range : Int32} {v_MO_value : Int32} {v_MO_leaves : Int32} {v_mload : Nat → Int32} {v_mgiven : Nat → Int32} {v_mwanted : Nat → Int32}  {nv_MO_at : Int32} {nv_MO_fault : Int32} {nv_MO_hasGiven : Int32} {nv_mgiven : Nat → Int32} {nv_mwanted : Nat → Int32} (hf : fMO_readParameters v_MO_size v_MO_loaded v_MO_at v_MO_fault v_MO_hasGiven v_MO_hasPicture v_MO_range v_MO_value v_MO_leaves v_mload v_mgiven v_mwanted = some (nv_MO_at, nv_MO_fault, nv_MO_hasGiven, nv_mgiven, nv_mwanted)) : ip_Mv l yMO_readParameters wsMO_readParameters rmMO_readParameters (dC, dI) vwCl [(cI, .int), (cZ, .boolean)] ts [.ref (ad 0)] (wMO_readParameters ad cI cZ v_MO_size v_MO_loaded v_MO_at v_MO_fault v_MO_hasGiven v_MO_hasPicture v_MO_range v_MO_value v_MO_leaves v_mload v_mgiven v_mwanted) (wMO_readParameters ad cI cZ v_MO_size v_MO_loaded nv_MO_at nv_MO_fault nv_MO_hasGiven v_MO_hasPicture v_MO_range v_MO_value v_MO_leaves v_mload nv_mgiven nv_mwanted) := by
  refine ip_startV (cc := cMO_readParameters) (maxL := 2) (by decide) rfl (Nat.le_of_ble_eq_true rfl) ?_
  intro p e s m args below meth c Q A ls hx hb hml hts hown hK hP hD hS hA hZ hl hret
  replace hl : lv_has ls 2 [(0, .ref (ad 0))] := hl
  unfold fMO_readParameters at hf
  suffices J0 : ∀ (ls : Array Slot) (H : Heap) (locs : List Loc), lv_has ls 2 [(0, .ref (ad 0))] → va_P (dC, dI) vwCl (wMO_readParameters ad cI cZ v_MO_size v_MO_loaded v_MO_at v_MO_fault v_MO_hasGiven v_MO_hasPicture v_MO_range v_MO_value v_MO_leaves v_mload v_mgiven v_mwanted) H → va_D A (wMO_readParameters ad cI cZ v_MO_size v_MO_loaded v_MO_at v_MO_fault v_MO_hasGiven v_MO_hasPicture v_MO_range v_MO_value v_MO_leaves v_mload v_mgiven v_mwanted) → va_S A s.heap H locs → W p l e rmMO_readParameters s m args below meth c H locs 0 0 Q (F0 m 0 ls []) by exact J0 ls s.heap [] hl hP hD hS
  clear hP hD hS hl
  intro ls H locs hl hP hD hS
  refine lv_aload_n hx hb dMO_readParameters_0 rfl (lv_at hl 0 rfl) ?_
  refine lv_iconst (v := (0 : Int32)) hx hb dMO_readParameters_1 (by decide) ?_
  refine va_put (D := (dC, dI)) (ci := 12) (v := .int (0 : Int32)) (ty := .int) (C := kR_MO) (T := kT_MO) (N := 32) hx hb hts kin_MO kty_MO kto_MO knm_MO hown hK hP hD hS 0 rfl rfl 4 (by decide) (hts _ (List.mem_cons_of_mem _ kw3_191)) (fun _ h9 => h9) rfl (by decide +kernel) rfl rfl (Nat.le_of_ble_eq_true rfl) dMO_readParameters_2 (fun H locs hP hD hS => ?_)
  replace hP : va_P (dC, dI) vwCl (wMO_readParameters ad cI cZ v_MO_size v_MO_loaded (0 : Int32) v_MO_fault v_MO_hasGiven v_MO_hasPicture v_MO_range v_MO_value v_MO_leaves v_mload v_mgiven v_mwanted) H := hP
  replace hD : va_D A (wMO_readParameters ad cI cZ v_MO_size v_MO_loaded (0 : Int32) v_MO_fault v_MO_hasGiven v_MO_hasPicture v_MO_range v_MO_value v_MO_leaves v_mload v_mgiven v_mwanted) := hD
  refine lv_iconst (v := (0 : Int32)) hx hb dMO_readParameters_5 (by decide) ?_
  refine lv_istore_n (lv' := [(1, .int (0 : Int32)), (0, .ref (ad 0))]) hx hb dMO_readParameters_6 rfl hl (by decide) rfl (fun ls hl => ?_)
  replace hl := lv_sub hl (l' := [(0, .ref (ad 0)), (1, .int (0 : Int32))]) [1, 0] rfl
  obtain ⟨x3, y4, hL, hf⟩ := ip_b2_e hf
  suffices J26 : ∀ (ls : Array Slot) (H : Heap) (locs : List Loc), lv_has ls 2 [(0, .ref (ad 0))] → va_P (dC, dI) vwCl (wMO_readParameters ad cI cZ v_MO_size v_MO_loaded (0 : Int32) v_MO_fault v_MO_hasGiven v_MO_hasPicture v_MO_range v_MO_value v_MO_leaves v_mload v_mgiven y4) H → va_D A (wMO_readParameters ad cI cZ v_MO_size v_MO_loaded (0 : Int32) v_MO_fault v_MO_hasGiven v_MO_hasPicture v_MO_range v_MO_value v_MO_leaves v_mload v_mgiven y4) → va_S A s.heap H locs → W p l e rmMO_readParameters s m args below meth c H locs 0 0 Q (F0 m 26 ls []) by
    have L : ∀ (n : Nat) (z1 : Int32) (g2 : Nat → Int32), ip_lp2 fMO_readParameters_B7 n z1 g2 = some (x3, y4) → ∀ (ls : Array Slot) (H : Heap) (locs : List Loc), lv_has ls 2 [(0, .ref (ad 0)), (1, .int z1)] → va_P (dC, dI) vwCl (wMO_readParameters ad cI cZ v_MO_size v_MO_loaded (0 : Int32) v_MO_fault v_MO_hasGiven v_MO_hasPicture v_MO_range v_MO_value v_MO_leaves v_mload v_mgiven g2) H → va_D A (wMO_readParameters ad cI cZ v_MO_size v_MO_loaded (0 : Int32) v_MO_fault v_MO_hasGiven v_MO_hasPicture v_MO_range v_MO_value v_MO_leaves v_mload v_mgiven g2) → va_S A s.heap H locs → W p l e rmMO_readParameters s m args below meth c H locs 0 0 Q (F0 m 7 ls []) := by
      intro n
      induction n with
      | zero => intro z1 g2 hL; exact (ip_lp2_0 hL).elim
      | succ n ih =>
        intro z1 g2 hL ls H locs hl hP hD hS
        clear hf
        obtain ⟨r9, hf, hr7⟩ := ip_lp2_s hL
        clear hL
        unfold fMO_readParameters_B7 at hf
        refine lv_iload_n hx hb dMO_readParameters_7 rfl (lv_at hl 1 rfl) ?_
        refine lv_bipush (v := (10 : Int32)) hx hb dMO_readParameters_8 (by decide) ?_
        refine ip_icmp_ge (tgt := 26) hx hb dMO_readParameters_10 rfl hf (fun hf => ?_) (fun hf => ?_)
        · have hx9 := ip_lp_x hr7 hf
          replace hl := lv_sub hl (l' := [(0, .ref (ad 0))]) [0] rfl
          cases hx9
          exact J26 ls H locs hl hP hD hS
        · refine lv_aload_n hx hb dMO_readParameters_13 rfl (lv_at hl 0 rfl) ?_
          refine va_get (D := (dC, dI)) (ci := 12) (v := .ref (ad 4)) (C := kR_MO) (T := kT_MO) (N := 32) hx hb hts kin_MO hown hK hP 0 rfl rfl 7 (by decide) (hts _ (List.mem_cons_of_mem _ kw3_194)) (fun _ h9 => h9) rfl dMO_readParameters_14 ?_
          refine lv_iload_n hx hb dMO_readParameters_17 rfl (lv_at hl 1 rfl) ?_
          refine lv_iconst (v := (0 : Int32)) hx hb dMO_readParameters_18 (by decide) ?_
          refine ip_iast hx hb hK hP hD hS 3 0 rfl rfl (fun g5 => (wMO_readParameters ad cI cZ v_MO_size v_MO_loaded (0 : Int32) v_MO_fault v_MO_hasGiven v_MO_hasPicture v_MO_range v_MO_value v_MO_leaves v_mload v_mgiven g5)) (fun _ => rfl) dMO_readParameters_19 hf (fun g5 H locs hf hP hD hS => ?_)
          refine ip_iinc (k0 := 1) (v0 := (1 : Int32)) (lv1 := fun z6 => [(1, .int z6), (0, .ref (ad 0))]) hx hb dMO_readParameters_20 hl rfl (by decide) (by decide) (fun _ => rfl) hf (fun z6 ls hf hl => ?_)
          refine lv_goto (tgt := 7) hx hb dMO_readParameters_23 rfl ?_
          replace hl := lv_sub hl (l' := [(0, .ref (ad 0)), (1, .int z6)]) [1, 0] rfl
          exact ih _ _ (ip_lp2_l hr7 hf) ls H locs hl hP hD hS
    exact L 1000 _ _ hL ls H locs hl hP hD hS
  intro ls H locs hl hP hD hS
  clear hL
  refine lv_aload_n hx hb dMO_readParameters_26 rfl (lv_at hl 0 rfl) ?_
  refine va_get (D := (dC, dI)) (ci := 12) (v := .ref (ad 4)) (C := kR_MO) (T := kT_MO) (N := 32) hx hb hts kin_MO hown hK hP 0 rfl rfl 7 (by decide) (hts _ (List.mem_cons_of_mem _ kw3_194)) (fun _ h9 => h9) rfl dMO_readParameters_27 ?_
  refine lv_iconst (v := (0 : Int32)) hx hb dMO_readParameters_30 (by decide) ?_
  refine lv_aload_n hx hb dMO_readParameters_31 rfl (lv_at hl 0 rfl) ?_
  refine lv_aload_n hx hb dMO_readParameters_32 rfl (lv_at hl 0 rfl) ?_
  obtain ⟨z7, z8, z9, hc, hf⟩ := ip_b3_e hf
  refine ip_calli (va_runV (As := []) (rest := [.ref (ad 0), .int (0 : Int32), .ref (ad 4)]) ⟨hx, hb, hml, hown, hts⟩ (tMO_code (l := l) (dC := dC) (dI := dI) (ad := ad) (cI := cI) (ts := ts) (cZ := cZ) hc H.size) (cwV 0 hts (ip_gdV (own := kR_MO) (idx := 120) (C := kR_MO) (y := yMO_code) kw4_79 kw4_81 kws_39 kw1_13 kw4_82) rfl rfl rfl (by decide +kernel) ⟨Nat.le_of_ble_eq_true rfl, Nat.le_of_ble_eq_true rfl⟩) (ip_preV hK hP hD hS hA hZ [0, 1] rfl rfl (ci := 12) (q0 := 0) rfl rfl) rfl rfl hl.1 rfl (lv_room (Nat.le_of_ble_eq_true rfl)) dMO_readParameters_33 ⟨Nat.le_of_ble_eq_true rfl, Nat.le_of_ble_eq_true rfl⟩) hP hD hS hA [0, 1] [2, 3] [2, 3, 0, 1] (wMO_readParameters ad cI cZ v_MO_size v_MO_loaded z8 z9 v_MO_hasGiven v_MO_hasPicture v_MO_range v_MO_value v_MO_leaves v_mload v_mgiven y4) rfl rfl rfl (by decide) rfl rfl (fun H locs hP hD hS => ?_)
  clear hc
  refine lv_iconst (v := (0 : Int32)) hx hb dMO_readParameters_36 (by decide) ?_
  refine lv_bipush (v := (51 : Int32)) hx hb dMO_readParameters_37 (by decide) ?_
  obtain ⟨z10, z11, hc, hf⟩ := ip_b2_e hf
  refine ip_calli (va_runV (As := [.int z7, .int (0 : Int32), .int (51 : Int32)]) (rest := [.int (0 : Int32), .ref (ad 4)]) ⟨hx, hb, hml, hown, hts⟩ (tMO_within (l := l) (dC := dC) (dI := dI) (ad := ad) (cI := cI) (ts := ts) (cZ := cZ) hc H.size) (cwV 3 hts (ip_gdV (own := kR_MO) (idx := 123) (C := kR_MO) (y := yMO_within) kw4_91 kw4_93 kws_42 kw1_13 kw4_94) rfl rfl rfl (by decide +kernel) ⟨Nat.le_of_ble_eq_true rfl, Nat.le_of_ble_eq_true rfl⟩) (ip_preV hK hP hD hS hA hZ [0] rfl rfl (ci := 12) (q0 := 0) rfl rfl) rfl rfl hl.1 rfl (lv_room (Nat.le_of_ble_eq_true rfl)) dMO_readParameters_39 ⟨Nat.le_of_ble_eq_true rfl, Nat.le_of_ble_eq_true rfl⟩) hP hD hS hA [0] [1, 2, 3] [3, 0, 1, 2] (wMO_readParameters ad cI cZ v_MO_size v_MO_loaded z8 z11 v_MO_hasGiven v_MO_hasPicture v_MO_range v_MO_value v_MO_leaves v_mload v_mgiven y4) rfl rfl rfl (by decide) rfl rfl (fun H locs hP hD hS => ?_)
  clear hc
  refine ip_iast hx hb hK hP hD hS 3 0 rfl rfl (fun g12 => (wMO_readParameters ad cI cZ v_MO_size v_MO_loaded z8 z11 v_MO_hasGiven v_MO_hasPicture v_MO_range v_MO_value v_MO_leaves v_mload v_mgiven g12)) (fun _ => rfl) dMO_readParameters_42 hf (fun g12 H locs hf hP hD hS => ?_)
  refine lv_iconst (v := (1 : Int32)) hx hb dMO_readParameters_43 (by decide) ?_
  refine lv_istore_n (lv' := [(1, .int (1 : Int32)), (0, .ref (ad 0))]) hx hb dMO_readParameters_44 rfl hl (by decide) rfl (fun ls hl => ?_)
  replace hl := lv_sub hl (l' := [(0, .ref (ad 0)), (1, .int (1 : Int32))]) [1, 0] rfl
  obtain ⟨x17, x18, x19, y20, hL, hf⟩ := ip_b4_e hf
  suffices J67 : ∀ (ls : Array Slot) (H : Heap) (locs : List Loc), lv_has ls 2 [(0, .ref (ad 0))] → va_P (dC, dI) vwCl (wMO_readParameters ad cI cZ v_MO_size v_MO_loaded x18 x19 v_MO_hasGiven v_MO_hasPicture v_MO_range v_MO_value v_MO_leaves v_mload v_mgiven y20) H → va_D A (wMO_readParameters ad cI cZ v_MO_size v_MO_loaded x18 x19 v_MO_hasGiven v_MO_hasPicture v_MO_range v_MO_value v_MO_leaves v_mload v_mgiven y20) → va_S A s.heap H locs → W p l e rmMO_readParameters s m args below meth c H locs 0 0 Q (F0 m 67 ls []) by
    have L : ∀ (n : Nat) (z13 : Int32) (z14 : Int32) (z15 : Int32) (g16 : Nat → Int32), ip_lp4 (fMO_readParameters_B45 v_MO_size v_MO_loaded v_MO_hasGiven v_MO_hasPicture v_MO_range v_MO_value v_MO_leaves v_mload) n z13 z14 z15 g16 = some (x17, x18, x19, y20) → ∀ (ls : Array Slot) (H : Heap) (locs : List Loc), lv_has ls 2 [(0, .ref (ad 0)), (1, .int z13)] → va_P (dC, dI) vwCl (wMO_readParameters ad cI cZ v_MO_size v_MO_loaded z14 z15 v_MO_hasGiven v_MO_hasPicture v_MO_range v_MO_value v_MO_leaves v_mload v_mgiven g16) H → va_D A (wMO_readParameters ad cI cZ v_MO_size v_MO_loaded z14 z15 v_MO_hasGiven v_MO_hasPicture v_MO_range v_MO_value v_MO_leaves v_mload v_mgiven g16) → va_S A s.heap H locs → W p l e rmMO_readParameters s m args below meth c H locs 0 0 Q (F0 m 45 ls []) := by
      intro n
      induction n with
      | zero => intro z13 z14 z15 g16 hL; exact (ip_lp4_0 hL).elim
      | succ n ih =>
        intro z13 z14 z15 g16 hL ls H locs hl hP hD hS
        clear hf
        obtain ⟨r9, hf, hr45⟩ := ip_lp4_s hL
        clear hL
        unfold fMO_readParameters_B45 at hf
        refine lv_iload_n hx hb dMO_readParameters_45 rfl (lv_at hl 1 rfl) ?_
        refine lv_iconst (v := (4 : Int32)) hx hb dMO_readParameters_46 (by decide) ?_
        refine ip_icmp_ge (tgt := 67) hx hb dMO_readParameters_47 rfl hf (fun hf => ?_) (fun hf => ?_)
        · have hx9 := ip_lp_x hr45 hf
          replace hl := lv_sub hl (l' := [(0, .ref (ad 0))]) [0] rfl
          cases hx9
          exact J67 ls H locs hl hP hD hS
        · refine lv_aload_n hx hb dMO_readParameters_50 rfl (lv_at hl 0 rfl) ?_
          refine va_get (D := (dC, dI)) (ci := 12) (v := .ref (ad 4)) (C := kR_MO) (T := kT_MO) (N := 32) hx hb hts kin_MO hown hK hP 0 rfl rfl 7 (by decide) (hts _ (List.mem_cons_of_mem _ kw3_194)) (fun _ h9 => h9) rfl dMO_readParameters_51 ?_
          refine lv_iload_n hx hb dMO_readParameters_54 rfl (lv_at hl 1 rfl) ?_
          refine lv_aload_n hx hb dMO_readParameters_55 rfl (lv_at hl 0 rfl) ?_
          refine lv_iconst (v := (1 : Int32)) hx hb dMO_readParameters_56 (by decide) ?_
          obtain ⟨z21, z22, z23, hc, hf⟩ := ip_b3_e hf
          refine ip_calli (va_runV (As := [.int (1 : Int32)]) (rest := [.int z13, .ref (ad 4)]) ⟨hx, hb, hml, hown, hts⟩ (tMO_needed (l := l) (dC := dC) (dI := dI) (ad := ad) (cI := cI) (ts := ts) (cZ := cZ) hc H.size) (cwV 1 hts (ip_gdV (own := kR_MO) (idx := 117) (C := kR_MO) (y := yMO_needed) kw4_83 kw4_85 kws_40 kw1_13 kw4_86) rfl rfl rfl (by decide +kernel) ⟨Nat.le_of_ble_eq_true rfl, Nat.le_of_ble_eq_true rfl⟩) (ip_preV hK hP hD hS hA hZ [0, 1] rfl rfl (ci := 12) (q0 := 0) rfl rfl) rfl rfl hl.1 rfl (lv_room (Nat.le_of_ble_eq_true rfl)) dMO_readParameters_57 ⟨Nat.le_of_ble_eq_true rfl, Nat.le_of_ble_eq_true rfl⟩) hP hD hS hA [0, 1] [2, 3] [2, 3, 0, 1] (wMO_readParameters ad cI cZ v_MO_size v_MO_loaded z22 z23 v_MO_hasGiven v_MO_hasPicture v_MO_range v_MO_value v_MO_leaves v_mload v_mgiven g16) rfl rfl rfl (by decide) rfl rfl (fun H locs hP hD hS => ?_)
          clear hc
          refine ip_iast hx hb hK hP hD hS 3 0 rfl rfl (fun g24 => (wMO_readParameters ad cI cZ v_MO_size v_MO_loaded z22 z23 v_MO_hasGiven v_MO_hasPicture v_MO_range v_MO_value v_MO_leaves v_mload v_mgiven g24)) (fun _ => rfl) dMO_readParameters_60 hf (fun g24 H locs hf hP hD hS => ?_)
          refine ip_iinc (k0 := 1) (v0 := (1 : Int32)) (lv1 := fun z25 => [(1, .int z25), (0, .ref (ad 0))]) hx hb dMO_readParameters_61 hl rfl (by decide) (by decide) (fun _ => rfl) hf (fun z25 ls hf hl => ?_)
          refine lv_goto (tgt := 45) hx hb dMO_readParameters_64 rfl ?_
          replace hl := lv_sub hl (l' := [(0, .ref (ad 0)), (1, .int z25)]) [1, 0] rfl
          exact ih _ _ _ _ (ip_lp4_l hr45 hf) ls H locs hl hP hD hS
    exact L 1000 _ _ _ _ hL ls H locs hl hP hD hS
  intro ls H locs hl hP hD hS
  clear hL
  refine lv_aload_n hx hb dMO_readParameters_67 rfl (lv_at hl 0 rfl) ?_
  refine va_get (D := (dC, dI)) (ci := 12) (v := .ref (ad 4)) (C := kR_MO) (T := kT_MO) (N := 32) hx hb hts kin_MO hown hK hP 0 rfl rfl 7 (by decide) (hts _ (List.mem_cons_of_mem _ kw3_194)) (fun _ h9 => h9) rfl dMO_readParameters_68 ?_
  refine lv_iconst (v := (4 : Int32)) hx hb dMO_readParameters_71 (by decide) ?_
  refine lv_aload_n hx hb dMO_readParameters_72 rfl (lv_at hl 0 rfl) ?_
  refine lv_iconst (v := (2 : Int32)) hx hb dMO_readParameters_73 (by decide) ?_
  obtain ⟨z26, z27, z28, hc, hf⟩ := ip_b3_e hf
  refine ip_calli (va_runV (As := [.int (2 : Int32)]) (rest := [.int (4 : Int32), .ref (ad 4)]) ⟨hx, hb, hml, hown, hts⟩ (tMO_needed (l := l) (dC := dC) (dI := dI) (ad := ad) (cI := cI) (ts := ts) (cZ := cZ) hc H.size) (cwV 1 hts (ip_gdV (own := kR_MO) (idx := 117) (C := kR_MO) (y := yMO_needed) kw4_83 kw4_85 kws_40 kw1_13 kw4_86) rfl rfl rfl (by decide +kernel) ⟨Nat.le_of_ble_eq_true rfl, Nat.le_of_ble_eq_true rfl⟩) (ip_preV hK hP hD hS hA hZ [0, 1] rfl rfl (ci := 12) (q0 := 0) rfl rfl) rfl rfl hl.1 rfl (lv_room (Nat.le_of_ble_eq_true rfl)) dMO_readParameters_74 ⟨Nat.le_of_ble_eq_true rfl, Nat.le_of_ble_eq_true rfl⟩) hP hD hS hA [0, 1] [2, 3] [2, 3, 0, 1] (wMO_readParameters ad cI cZ v_MO_size v_MO_loaded z27 z28 v_MO_hasGiven v_MO_hasPicture v_MO_range v_MO_value v_MO_leaves v_mload v_mgiven y20) rfl rfl rfl (by decide) rfl rfl (fun H locs hP hD hS => ?_)
  clear hc
  refine ip_iast hx hb hK hP hD hS 3 0 rfl rfl (fun g29 => (wMO_readParameters ad cI cZ v_MO_size v_MO_loaded z27 z28 v_MO_hasGiven v_MO_hasPicture v_MO_range v_MO_value v_MO_leaves v_mload v_mgiven g29)) (fun _ => rfl) dMO_readParameters_77 hf (fun g29 H locs hf hP hD hS => ?_)
  refine lv_iconst (v := (5 : Int32)) hx hb dMO_readParameters_78 (by decide) ?_
  refine lv_istore_n (lv' := [(1, .int (5 : Int32)), (0, .ref (ad 0))]) hx hb dMO_readParameters_79 rfl hl (by decide) rfl (fun ls hl => ?_)
  replace hl := lv_sub hl (l' := [(0, .ref (ad 0)), (1, .int (5 : Int32))]) [1, 0] rfl
  obtain ⟨x34, x35, x36, y37, hL, hf⟩ := ip_b4_e hf
  suffices J118 : ∀ (ls : Array Slot) (H : Heap) (locs : List Loc), lv_has ls 2 [(0, .ref (ad 0))] → va_P (dC, dI) vwCl (wMO_readParameters ad cI cZ v_MO_size v_MO_loaded x35 x36 v_MO_hasGiven v_MO_hasPicture v_MO_range v_MO_value v_MO_leaves v_mload v_mgiven y37) H → va_D A (wMO_readParameters ad cI cZ v_MO_size v_MO_loaded x35 x36 v_MO_hasGiven v_MO_hasPicture v_MO_range v_MO_value v_MO_leaves v_mload v_mgiven y37) → va_S A s.heap H locs → W p l e rmMO_readParameters s m args below meth c H locs 0 0 Q (F0 m 118 ls []) by
    have L : ∀ (n : Nat) (z30 : Int32) (z31 : Int32) (z32 : Int32) (g33 : Nat → Int32), ip_lp4 (fMO_readParameters_B80 v_MO_size v_MO_loaded v_MO_hasGiven v_MO_hasPicture v_MO_range v_MO_value v_MO_leaves v_mload) n z30 z31 z32 g33 = some (x34, x35, x36, y37) → ∀ (ls : Array Slot) (H : Heap) (locs : List Loc), lv_has ls 2 [(0, .ref (ad 0)), (1, .int z30)] → va_P (dC, dI) vwCl (wMO_readParameters ad cI cZ v_MO_size v_MO_loaded z31 z32 v_MO_hasGiven v_MO_hasPicture v_MO_range v_MO_value v_MO_leaves v_mload v_mgiven g33) H → va_D A (wMO_readParameters ad cI cZ v_MO_size v_MO_loaded z31 z32 v_MO_hasGiven v_MO_hasPicture v_MO_range v_MO_value v_MO_leaves v_mload v_mgiven g33) → va_S A s.heap H locs → W p l e rmMO_readParameters s m args below meth c H locs 0 0 Q (F0 m 80 ls []) := by
      intro n
      induction n with
      | zero => intro z30 z31 z32 g33 hL; exact (ip_lp4_0 hL).elim
      | succ n ih =>
        intro z30 z31 z32 g33 hL ls H locs hl hP hD hS
        clear hf
        obtain ⟨r9, hf, hr80⟩ := ip_lp4_s hL
        clear hL
        unfold fMO_readParameters_B80 at hf
        refine lv_iload_n hx hb dMO_readParameters_80 rfl (lv_at hl 1 rfl) ?_
        refine lv_bipush (v := (9 : Int32)) hx hb dMO_readParameters_81 (by decide) ?_
        refine ip_icmp_ge (tgt := 118) hx hb dMO_readParameters_83 rfl hf (fun hf => ?_) (fun hf => ?_)
        · have hx9 := ip_lp_x hr80 hf
          replace hl := lv_sub hl (l' := [(0, .ref (ad 0))]) [0] rfl
          cases hx9
          exact J118 ls H locs hl hP hD hS
        · refine lv_aload_n hx hb dMO_readParameters_86 rfl (lv_at hl 0 rfl) ?_
          refine va_get (D := (dC, dI)) (ci := 12) (v := .ref (ad 4)) (C := kR_MO) (T := kT_MO) (N := 32) hx hb hts kin_MO hown hK hP 0 rfl rfl 7 (by decide) (hts _ (List.mem_cons_of_mem _ kw3_194)) (fun _ h9 => h9) rfl dMO_readParameters_87 ?_
          refine lv_iconst (v := (4 : Int32)) hx hb dMO_readParameters_90 (by decide) ?_
          refine ip_iald hx hb hK hP 3 0 rfl rfl dMO_readParameters_91 hf (fun z38 hf => ?_)
          refine ip_if_eq (tgt := 118) hx hb dMO_readParameters_92 rfl hf (fun hf => ?_) (fun hf => ?_)
          · have hx9 := ip_lp_x hr80 hf
            replace hl := lv_sub hl (l' := [(0, .ref (ad 0))]) [0] rfl
            cases hx9
            exact J118 ls H locs hl hP hD hS
          · refine lv_aload_n hx hb dMO_readParameters_95 rfl (lv_at hl 0 rfl) ?_
            refine va_get (D := (dC, dI)) (ci := 12) (v := .int z32) (C := kR_MO) (T := kT_MO) (N := 32) hx hb hts kin_MO hown hK hP 0 rfl rfl 5 (by decide) (hts _ (List.mem_cons_of_mem _ kw3_192)) (fun _ h9 => h9) rfl dMO_readParameters_96 ?_
            refine ip_if_ne (tgt := 118) hx hb dMO_readParameters_99 rfl hf (fun hf => ?_) (fun hf => ?_)
            · have hx9 := ip_lp_x hr80 hf
              replace hl := lv_sub hl (l' := [(0, .ref (ad 0))]) [0] rfl
              cases hx9
              exact J118 ls H locs hl hP hD hS
            · refine lv_aload_n hx hb dMO_readParameters_102 rfl (lv_at hl 0 rfl) ?_
              refine va_get (D := (dC, dI)) (ci := 12) (v := .ref (ad 4)) (C := kR_MO) (T := kT_MO) (N := 32) hx hb hts kin_MO hown hK hP 0 rfl rfl 7 (by decide) (hts _ (List.mem_cons_of_mem _ kw3_194)) (fun _ h9 => h9) rfl dMO_readParameters_103 ?_
              refine lv_iload_n hx hb dMO_readParameters_106 rfl (lv_at hl 1 rfl) ?_
              refine lv_aload_n hx hb dMO_readParameters_107 rfl (lv_at hl 0 rfl) ?_
              obtain ⟨z39, z40, z41, hc, hf⟩ := ip_b3_e hf
              refine ip_calli (va_runV (As := []) (rest := [.int z30, .ref (ad 4)]) ⟨hx, hb, hml, hown, hts⟩ (tMO_signedCode (l := l) (dC := dC) (dI := dI) (ad := ad) (cI := cI) (ts := ts) (cZ := cZ) hc H.size) (cwV 0 hts (ip_gdV (own := kR_MO) (idx := 127) (C := kR_MO) (y := yMO_signedCode) kw4_95 kw4_97 kws_43 kw1_13 kw4_98) rfl rfl rfl (by decide +kernel) ⟨Nat.le_of_ble_eq_true rfl, Nat.le_of_ble_eq_true rfl⟩) (ip_preV hK hP hD hS hA hZ [0, 1] rfl rfl (ci := 12) (q0 := 0) rfl rfl) rfl rfl hl.1 rfl (lv_room (Nat.le_of_ble_eq_true rfl)) dMO_readParameters_108 ⟨Nat.le_of_ble_eq_true rfl, Nat.le_of_ble_eq_true rfl⟩) hP hD hS hA [0, 1] [2, 3] [2, 3, 0, 1] (wMO_readParameters ad cI cZ v_MO_size v_MO_loaded z40 z41 v_MO_hasGiven v_MO_hasPicture v_MO_range v_MO_value v_MO_leaves v_mload v_mgiven g33) rfl rfl rfl (by decide) rfl rfl (fun H locs hP hD hS => ?_)
              clear hc
              refine ip_iast hx hb hK hP hD hS 3 0 rfl rfl (fun g42 => (wMO_readParameters ad cI cZ v_MO_size v_MO_loaded z40 z41 v_MO_hasGiven v_MO_hasPicture v_MO_range v_MO_value v_MO_leaves v_mload v_mgiven g42)) (fun _ => rfl) dMO_readParameters_111 hf (fun g42 H locs hf hP hD hS => ?_)
              refine ip_iinc (k0 := 1) (v0 := (1 : Int32)) (lv1 := fun z43 => [(1, .int z43), (0, .ref (ad 0))]) hx hb dMO_readParameters_112 hl rfl (by decide) (by decide) (fun _ => rfl) hf (fun z43 ls hf hl => ?_)
              refine lv_goto (tgt := 80) hx hb dMO_readParameters_115 rfl ?_
              replace hl := lv_sub hl (l' := [(0, .ref (ad 0)), (1, .int z43)]) [1, 0] rfl
              exact ih _ _ _ _ (ip_lp4_l hr80 hf) ls H locs hl hP hD hS
    exact L 1000 _ _ _ _ hL ls H locs hl hP hD hS
  intro ls H locs hl hP hD hS
  clear hL
  refine lv_aload_n hx hb dMO_readParameters_118 rfl (lv_at hl 0 rfl) ?_
  refine va_get (D := (dC, dI)) (ci := 12) (v := .ref (ad 4)) (C := kR_MO) (T := kT_MO) (N := 32) hx hb hts kin_MO hown hK hP 0 rfl rfl 7 (by decide) (hts _ (List.mem_cons_of_mem _ kw3_194)) (fun _ h9 => h9) rfl dMO_readParameters_119 ?_
  refine lv_iconst (v := (4 : Int32)) hx hb dMO_readParameters_122 (by decide) ?_
  refine ip_iald hx hb hK hP 3 0 rfl rfl dMO_readParameters_123 hf (fun z44 hf => ?_)
  refine lv_iconst (v := (3 : Int32)) hx hb dMO_readParameters_124 (by decide) ?_
  obtain ⟨z45, z46, g47, hh, hf⟩ := ip_b3_e hf
  suffices J140 : ∀ (ls : Array Slot) (H : Heap) (locs : List Loc), lv_has ls 2 [(0, .ref (ad 0))] → va_P (dC, dI) vwCl (wMO_readParameters ad cI cZ v_MO_size v_MO_loaded z45 z46 v_MO_hasGiven v_MO_hasPicture v_MO_range v_MO_value v_MO_leaves v_mload v_mgiven g47) H → va_D A (wMO_readParameters ad cI cZ v_MO_size v_MO_loaded z45 z46 v_MO_hasGiven v_MO_hasPicture v_MO_range v_MO_value v_MO_leaves v_mload v_mgiven g47) → va_S A s.heap H locs → W p l e rmMO_readParameters s m args below meth c H locs 0 0 Q (F0 m 140 ls []) by
    replace hf := hh
    refine ip_icmp_ne (tgt := 140) hx hb dMO_readParameters_125 rfl hf (fun hf => ?_) (fun hf => ?_)
    · cases hf
      exact J140 ls H locs hl hP hD hS
    · refine lv_aload_n hx hb dMO_readParameters_128 rfl (lv_at hl 0 rfl) ?_
      refine va_get (D := (dC, dI)) (ci := 12) (v := .ref (ad 4)) (C := kR_MO) (T := kT_MO) (N := 32) hx hb hts kin_MO hown hK hP 0 rfl rfl 7 (by decide) (hts _ (List.mem_cons_of_mem _ kw3_194)) (fun _ h9 => h9) rfl dMO_readParameters_129 ?_
      refine lv_bipush (v := (9 : Int32)) hx hb dMO_readParameters_132 (by decide) ?_
      refine lv_aload_n hx hb dMO_readParameters_134 rfl (lv_at hl 0 rfl) ?_
      refine lv_iconst (v := (3 : Int32)) hx hb dMO_readParameters_135 (by decide) ?_
      obtain ⟨z48, z49, z50, hc, hf⟩ := ip_b3_e hf
      refine ip_calli (va_runV (As := [.int (3 : Int32)]) (rest := [.int (9 : Int32), .ref (ad 4)]) ⟨hx, hb, hml, hown, hts⟩ (tMO_needed (l := l) (dC := dC) (dI := dI) (ad := ad) (cI := cI) (ts := ts) (cZ := cZ) hc H.size) (cwV 1 hts (ip_gdV (own := kR_MO) (idx := 117) (C := kR_MO) (y := yMO_needed) kw4_83 kw4_85 kws_40 kw1_13 kw4_86) rfl rfl rfl (by decide +kernel) ⟨Nat.le_of_ble_eq_true rfl, Nat.le_of_ble_eq_true rfl⟩) (ip_preV hK hP hD hS hA hZ [0, 1] rfl rfl (ci := 12) (q0 := 0) rfl rfl) rfl rfl hl.1 rfl (lv_room (Nat.le_of_ble_eq_true rfl)) dMO_readParameters_136 ⟨Nat.le_of_ble_eq_true rfl, Nat.le_of_ble_eq_true rfl⟩) hP hD hS hA [0, 1] [2, 3] [2, 3, 0, 1] (wMO_readParameters ad cI cZ v_MO_size v_MO_loaded z49 z50 v_MO_hasGiven v_MO_hasPicture v_MO_range v_MO_value v_MO_leaves v_mload v_mgiven y37) rfl rfl rfl (by decide) rfl rfl (fun H locs hP hD hS => ?_)
      clear hc
      refine ip_iast hx hb hK hP hD hS 3 0 rfl rfl (fun g51 => (wMO_readParameters ad cI cZ v_MO_size v_MO_loaded z49 z50 v_MO_hasGiven v_MO_hasPicture v_MO_range v_MO_value v_MO_leaves v_mload v_mgiven g51)) (fun _ => rfl) dMO_readParameters_139 hf (fun g51 H locs hf hP hD hS => ?_)
      cases hf
      exact J140 ls H locs hl hP hD hS
  intro ls H locs hl hP hD hS
  clear hh
  refine lv_iconst (v := (0 : Int32)) hx hb dMO_readParameters_140 (by decide) ?_
  refine lv_istore_n (lv' := [(1, .int (0 : Int32)), (0, .ref (ad 0))]) hx hb dMO_readParameters_141 rfl hl (by decide) rfl (fun ls hl => ?_)
  replace hl := lv_sub hl (l' := [(0, .ref (ad 0)), (1, .int (0 : Int32))]) [1, 0] rfl
  obtain ⟨x54, y55, hL, hf⟩ := ip_b2_e hf
  suffices J173 : ∀ (ls : Array Slot) (H : Heap) (locs : List Loc), lv_has ls 2 [(0, .ref (ad 0))] → va_P (dC, dI) vwCl (wMO_readParameters ad cI cZ v_MO_size v_MO_loaded z45 z46 v_MO_hasGiven v_MO_hasPicture v_MO_range v_MO_value v_MO_leaves v_mload y55 g47) H → va_D A (wMO_readParameters ad cI cZ v_MO_size v_MO_loaded z45 z46 v_MO_hasGiven v_MO_hasPicture v_MO_range v_MO_value v_MO_leaves v_mload y55 g47) → va_S A s.heap H locs → W p l e rmMO_readParameters s m args below meth c H locs 0 0 Q (F0 m 173 ls []) by
    have L : ∀ (n : Nat) (z52 : Int32) (g53 : Nat → Int32), ip_lp2 (fMO_readParameters_B142 z46 g47) n z52 g53 = some (x54, y55) → ∀ (ls : Array Slot) (H : Heap) (locs : List Loc), lv_has ls 2 [(0, .ref (ad 0)), (1, .int z52)] → va_P (dC, dI) vwCl (wMO_readParameters ad cI cZ v_MO_size v_MO_loaded z45 z46 v_MO_hasGiven v_MO_hasPicture v_MO_range v_MO_value v_MO_leaves v_mload g53 g47) H → va_D A (wMO_readParameters ad cI cZ v_MO_size v_MO_loaded z45 z46 v_MO_hasGiven v_MO_hasPicture v_MO_range v_MO_value v_MO_leaves v_mload g53 g47) → va_S A s.heap H locs → W p l e rmMO_readParameters s m args below meth c H locs 0 0 Q (F0 m 142 ls []) := by
      intro n
      induction n with
      | zero => intro z52 g53 hL; exact (ip_lp2_0 hL).elim
      | succ n ih =>
        intro z52 g53 hL ls H locs hl hP hD hS
        clear hf
        obtain ⟨r9, hf, hr142⟩ := ip_lp2_s hL
        clear hL
        unfold fMO_readParameters_B142 at hf
        refine lv_iload_n hx hb dMO_readParameters_142 rfl (lv_at hl 1 rfl) ?_
        refine lv_bipush (v := (10 : Int32)) hx hb dMO_readParameters_143 (by decide) ?_
        refine ip_icmp_ge (tgt := 173) hx hb dMO_readParameters_145 rfl hf (fun hf => ?_) (fun hf => ?_)
        · have hx9 := ip_lp_x hr142 hf
          replace hl := lv_sub hl (l' := [(0, .ref (ad 0))]) [0] rfl
          cases hx9
          exact J173 ls H locs hl hP hD hS
        · refine lv_aload_n hx hb dMO_readParameters_148 rfl (lv_at hl 0 rfl) ?_
          refine va_get (D := (dC, dI)) (ci := 12) (v := .int z46) (C := kR_MO) (T := kT_MO) (N := 32) hx hb hts kin_MO hown hK hP 0 rfl rfl 5 (by decide) (hts _ (List.mem_cons_of_mem _ kw3_192)) (fun _ h9 => h9) rfl dMO_readParameters_149 ?_
          refine ip_if_ne (tgt := 173) hx hb dMO_readParameters_152 rfl hf (fun hf => ?_) (fun hf => ?_)
          · have hx9 := ip_lp_x hr142 hf
            replace hl := lv_sub hl (l' := [(0, .ref (ad 0))]) [0] rfl
            cases hx9
            exact J173 ls H locs hl hP hD hS
          · refine lv_aload_n hx hb dMO_readParameters_155 rfl (lv_at hl 0 rfl) ?_
            refine va_get (D := (dC, dI)) (ci := 12) (v := .ref (ad 3)) (C := kR_MO) (T := kT_MO) (N := 32) hx hb hts kin_MO hown hK hP 0 rfl rfl 6 (by decide) (hts _ (List.mem_cons_of_mem _ kw3_193)) (fun _ h9 => h9) rfl dMO_readParameters_156 ?_
            refine lv_iload_n hx hb dMO_readParameters_159 rfl (lv_at hl 1 rfl) ?_
            refine lv_aload_n hx hb dMO_readParameters_160 rfl (lv_at hl 0 rfl) ?_
            refine va_get (D := (dC, dI)) (ci := 12) (v := .ref (ad 4)) (C := kR_MO) (T := kT_MO) (N := 32) hx hb hts kin_MO hown hK hP 0 rfl rfl 7 (by decide) (hts _ (List.mem_cons_of_mem _ kw3_194)) (fun _ h9 => h9) rfl dMO_readParameters_161 ?_
            refine lv_iload_n hx hb dMO_readParameters_164 rfl (lv_at hl 1 rfl) ?_
            refine ip_iald hx hb hK hP 3 0 rfl rfl dMO_readParameters_165 hf (fun z56 hf => ?_)
            refine ip_iast hx hb hK hP hD hS 2 0 rfl rfl (fun g57 => (wMO_readParameters ad cI cZ v_MO_size v_MO_loaded z45 z46 v_MO_hasGiven v_MO_hasPicture v_MO_range v_MO_value v_MO_leaves v_mload g57 g47)) (fun _ => rfl) dMO_readParameters_166 hf (fun g57 H locs hf hP hD hS => ?_)
            refine ip_iinc (k0 := 1) (v0 := (1 : Int32)) (lv1 := fun z58 => [(1, .int z58), (0, .ref (ad 0))]) hx hb dMO_readParameters_167 hl rfl (by decide) (by decide) (fun _ => rfl) hf (fun z58 ls hf hl => ?_)
            refine lv_goto (tgt := 142) hx hb dMO_readParameters_170 rfl ?_
            replace hl := lv_sub hl (l' := [(0, .ref (ad 0)), (1, .int z58)]) [1, 0] rfl
            exact ih _ _ (ip_lp2_l hr142 hf) ls H locs hl hP hD hS
    exact L 1000 _ _ hL ls H locs hl hP hD hS
  intro ls H locs hl hP hD hS
  clear hL
  refine lv_aload_n hx hb dMO_readParameters_173 rfl (lv_at hl 0 rfl) ?_
  refine lv_aload_n hx hb dMO_readParameters_174 rfl (lv_at hl 0 rfl) ?_
  refine va_get (D := (dC, dI)) (ci := 12) (v := .int v_MO_hasGiven) (C := kR_MO) (T := kT_MO) (N := 32) hx hb hts kin_MO hown hK hP 0 rfl rfl 8 (by decide) (hts _ (List.mem_cons_of_mem _ kw3_195)) (fun _ h9 => h9) rfl dMO_readParameters_175 ?_
  obtain ⟨z59, hh, hf⟩ := ip_b1_e hf
  suffices J193 : ∀ (ls : Array Slot) (H : Heap) (locs : List Loc), lv_has ls 2 [] → va_P (dC, dI) vwCl (wMO_readParameters ad cI cZ v_MO_size v_MO_loaded z45 z46 v_MO_hasGiven v_MO_hasPicture v_MO_range v_MO_value v_MO_leaves v_mload y55 g47) H → va_D A (wMO_readParameters ad cI cZ v_MO_size v_MO_loaded z45 z46 v_MO_hasGiven v_MO_hasPicture v_MO_range v_MO_value v_MO_leaves v_mload y55 g47) → va_S A s.heap H locs → W p l e rmMO_readParameters s m args below meth c H locs 0 0 Q (F0 m 193 ls [.int z59, .ref (ad 0)]) by
    replace hf := hh
    refine ip_if_ne (tgt := 188) hx hb dMO_readParameters_178 rfl hf (fun hf => ?_) (fun hf => ?_)
    · refine lv_iconst (v := (1 : Int32)) hx hb dMO_readParameters_188 (by decide) ?_
      refine lv_goto (tgt := 193) hx hb dMO_readParameters_189 rfl ?_
      replace hl := lv_sub hl (l' := []) [] rfl
      cases hf
      exact J193 ls H locs hl hP hD hS
    · refine lv_aload_n hx hb dMO_readParameters_181 rfl (lv_at hl 0 rfl) ?_
      refine va_get (D := (dC, dI)) (ci := 12) (v := .int z46) (C := kR_MO) (T := kT_MO) (N := 32) hx hb hts kin_MO hown hK hP 0 rfl rfl 5 (by decide) (hts _ (List.mem_cons_of_mem _ kw3_192)) (fun _ h9 => h9) rfl dMO_readParameters_182 ?_
      refine ip_if_ne (tgt := 192) hx hb dMO_readParameters_185 rfl hf (fun hf => ?_) (fun hf => ?_)
      · refine lv_iconst (v := (0 : Int32)) hx hb dMO_readParameters_192 (by decide) ?_
        replace hl := lv_sub hl (l' := []) [] rfl
        cases hf
        exact J193 ls H locs hl hP hD hS
      · refine lv_iconst (v := (1 : Int32)) hx hb dMO_readParameters_188 (by decide) ?_
        refine lv_goto (tgt := 193) hx hb dMO_readParameters_189 rfl ?_
        replace hl := lv_sub hl (l' := []) [] rfl
        cases hf
        exact J193 ls H locs hl hP hD hS
  intro ls H locs hl hP hD hS
  clear hh
  obtain ⟨hz, hf⟩ := ip_zk_e hf
  refine va_put (D := (dC, dI)) (ci := 12) (v := .int z59) (ty := .boolean) (C := kR_MO) (T := kT_MO) (N := 32) hx hb hts kin_MO kty_MO kto_MO knm_MO hown hK hP hD hS 0 rfl rfl 8 (by decide) (hts _ (List.mem_cons_of_mem _ kw3_195)) (fun _ h9 => h9) rfl (by decide +kernel) (ip_zn hz).1 (ip_zn hz).2 (Nat.le_of_ble_eq_true rfl) dMO_readParameters_193 (fun H locs hP hD hS => ?_)
  replace hP : va_P (dC, dI) vwCl (wMO_readParameters ad cI cZ v_MO_size v_MO_loaded z45 z46 z59 v_MO_hasPicture v_MO_range v_MO_value v_MO_leaves v_mload y55 g47) H := hP
  replace hD : va_D A (wMO_readParameters ad cI cZ v_MO_size v_MO_loaded z45 z46 z59 v_MO_hasPicture v_MO_range v_MO_value v_MO_leaves v_mload y55 g47) := hD
  cases hf
  exact hret H locs 196 ls dMO_readParameters_196 hP hD hS
