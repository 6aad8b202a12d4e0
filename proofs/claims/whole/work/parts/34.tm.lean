set_option maxHeartbeats 4000000 in
set_option maxRecDepth 100000 in
theorem tMO_reference {l : Launch} {dC : Nat → ClassId} {dI : Nat → Nat → Nat} {cI cZ : ClassId} {ad : Nat → Nat} {ts : ip_TT} {v_MO_size : Int32} {v_MO_loaded : Int32} {v_MO_at : Int32} {v_MO_fault : Int32} {v_MO_hasGiven : Int32} {v_MO_hasPicture : Int32} {v_MO_range : Int32} {v_MO_value : Int32} {v_MO_leaves : Int32} {v_mleft : Nat → Int32} {v_mtop : Nat → Int32} {v_msides : Nat → Int32} {v_mowner : Nat → Int32} {p1 : Int32} {p2 : Int32} {r0 : Int32}  (hf : fMO_reference v_MO_size v_MO_loaded v_MO_at v_MO_fault v_MO_hasGiven v_MO_hasPicture v_MO_range v_MO_value v_MO_leaves v_mleft v_mtop v_msides v_mowner p1 p2 = some r0) : ip_Mi l yMO_reference wsMO_reference rmMO_reference (dC, dI) vwCl [(cI, .int), (cZ, .boolean)] ts [.ref (ad 0), .int p1, .int p2] (wMO_reference ad cI cZ v_MO_size v_MO_loaded v_MO_at v_MO_fault v_MO_hasGiven v_MO_hasPicture v_MO_range v_MO_value v_MO_leaves v_mleft v_mtop v_msides v_mowner) (wMO_reference ad cI cZ v_MO_size v_MO_loaded v_MO_at v_MO_fault v_MO_hasGiven v_MO_hasPicture v_MO_range v_MO_value v_MO_leaves v_mleft v_mtop v_msides v_mowner) r0 := by
  refine ip_startI (cc := cMO_reference) (maxL := 7) (by decide) rfl (Nat.le_of_ble_eq_true rfl) ?_
  intro p e s m args below meth c Q A ls hx hb hml hts hown hK hP hD hS hA hZ hl hret
  replace hl : lv_has ls 7 [(0, .ref (ad 0)), (1, .int p1), (2, .int p2)] := hl
  unfold fMO_reference at hf
  suffices J0 : ∀ (ls : Array Slot) (H : Heap) (locs : List Loc), lv_has ls 7 [(0, .ref (ad 0)), (1, .int p1), (2, .int p2)] → va_P (dC, dI) vwCl (wMO_reference ad cI cZ v_MO_size v_MO_loaded v_MO_at v_MO_fault v_MO_hasGiven v_MO_hasPicture v_MO_range v_MO_value v_MO_leaves v_mleft v_mtop v_msides v_mowner) H → va_D A (wMO_reference ad cI cZ v_MO_size v_MO_loaded v_MO_at v_MO_fault v_MO_hasGiven v_MO_hasPicture v_MO_range v_MO_value v_MO_leaves v_mleft v_mtop v_msides v_mowner) → va_S A s.heap H locs → W p l e rmMO_reference s m args below meth c H locs 0 0 Q (F0 m 0 ls []) by exact J0 ls s.heap [] hl hP hD hS
  clear hP hD hS hl
  intro ls H locs hl hP hD hS
  refine lv_iconst (v := (2 : Int32)) hx hb dMO_reference_0 (by decide) ?_
  refine lv_aload_n hx hb dMO_reference_1 rfl (lv_at hl 0 rfl) ?_
  refine va_get (D := (dC, dI)) (ci := 12) (v := .ref (ad 9)) (C := kR_MO) (T := kT_MO) (N := 32) hx hb hts kin_MO hown hK hP 0 rfl rfl 17 (by decide) (hts _ (List.mem_cons_of_mem _ kw3_204)) (fun _ h9 => h9) rfl dMO_reference_2 ?_
  refine lv_iload_n hx hb dMO_reference_5 rfl (lv_at hl 1 rfl) ?_
  refine ip_iald hx hb hK hP 3 0 rfl rfl dMO_reference_6 hf (fun z1 hf => ?_)
  refine lv_imul hx hb dMO_reference_7 ?_
  refine ip_top hf (fun z2 hf => ?_)
  refine lv_istore_n (lv' := [(3, .int z2), (0, .ref (ad 0)), (1, .int p1), (2, .int p2)]) hx hb dMO_reference_8 rfl hl (by decide) rfl (fun ls hl => ?_)
  refine lv_iload_n hx hb dMO_reference_9 rfl (lv_at hl 3 rfl) ?_
  refine lv_iload_n hx hb dMO_reference_10 rfl (lv_at hl 0 rfl) ?_
  obtain ⟨z3, hh, hf⟩ := ip_b1_e hf
  suffices J37 : ∀ (ls : Array Slot) (H : Heap) (locs : List Loc), lv_has ls 7 [(0, .ref (ad 0)), (1, .int p1), (2, .int p2), (3, .int z2)] → va_P (dC, dI) vwCl (wMO_reference ad cI cZ v_MO_size v_MO_loaded v_MO_at v_MO_fault v_MO_hasGiven v_MO_hasPicture v_MO_range v_MO_value v_MO_leaves v_mleft v_mtop v_msides v_mowner) H → va_D A (wMO_reference ad cI cZ v_MO_size v_MO_loaded v_MO_at v_MO_fault v_MO_hasGiven v_MO_hasPicture v_MO_range v_MO_value v_MO_leaves v_mleft v_mtop v_msides v_mowner) → va_S A s.heap H locs → W p l e rmMO_reference s m args below meth c H locs 0 0 Q (F0 m 37 ls [.int z3]) by
    replace hf := hh
    refine ip_icmp_gt (tgt := 25) hx hb dMO_reference_11 rfl hf (fun hf => ?_) (fun hf => ?_)
    · refine lv_aload_n hx hb dMO_reference_25 rfl (lv_at hl 1 rfl) ?_
      refine va_get (D := (dC, dI)) (ci := 12) (v := .ref (ad 7)) (C := kR_MO) (T := kT_MO) (N := 32) hx hb hts kin_MO hown hK hP 0 rfl rfl 15 (by decide) (hts _ (List.mem_cons_of_mem _ kw3_202)) (fun _ h9 => h9) rfl dMO_reference_26 ?_
      refine lv_iload_n hx hb dMO_reference_29 rfl (lv_at hl 2 rfl) ?_
      refine ip_iald hx hb hK hP 1 0 rfl rfl dMO_reference_30 hf (fun z4 hf => ?_)
      refine lv_iload_n hx hb dMO_reference_31 rfl (lv_at hl 3 rfl) ?_
      refine lv_iadd hx hb dMO_reference_32 ?_
      refine lv_iload_n hx hb dMO_reference_33 rfl (lv_at hl 0 rfl) ?_
      refine lv_isub hx hb dMO_reference_34 ?_
      refine lv_iconst (v := (1 : Int32)) hx hb dMO_reference_35 (by decide) ?_
      refine lv_isub hx hb dMO_reference_36 ?_
      replace hl := lv_sub hl (l' := [(0, .ref (ad 0)), (1, .int p1), (2, .int p2), (3, .int z2)]) [1, 2, 3, 0] rfl
      cases hf
      exact J37 ls H locs hl hP hD hS
    · refine lv_aload_n hx hb dMO_reference_14 rfl (lv_at hl 1 rfl) ?_
      refine va_get (D := (dC, dI)) (ci := 12) (v := .ref (ad 7)) (C := kR_MO) (T := kT_MO) (N := 32) hx hb hts kin_MO hown hK hP 0 rfl rfl 15 (by decide) (hts _ (List.mem_cons_of_mem _ kw3_202)) (fun _ h9 => h9) rfl dMO_reference_15 ?_
      refine lv_iload_n hx hb dMO_reference_18 rfl (lv_at hl 2 rfl) ?_
      refine ip_iald hx hb hK hP 1 0 rfl rfl dMO_reference_19 hf (fun z5 hf => ?_)
      refine lv_iconst (v := (1 : Int32)) hx hb dMO_reference_20 (by decide) ?_
      refine lv_isub hx hb dMO_reference_21 ?_
      refine lv_goto (tgt := 37) hx hb dMO_reference_22 rfl ?_
      replace hl := lv_sub hl (l' := [(0, .ref (ad 0)), (1, .int p1), (2, .int p2), (3, .int z2)]) [1, 2, 3, 0] rfl
      cases hf
      exact J37 ls H locs hl hP hD hS
  intro ls H locs hl hP hD hS
  clear hh
  refine lv_istore (lv' := [(4, .int z3), (0, .ref (ad 0)), (1, .int p1), (2, .int p2), (3, .int z2)]) hx hb dMO_reference_37 hl (by decide) rfl (fun ls hl => ?_)
  refine lv_iload_n hx hb dMO_reference_39 rfl (lv_at hl 3 rfl) ?_
  refine lv_iload_n hx hb dMO_reference_40 rfl (lv_at hl 4 rfl) ?_
  obtain ⟨z6, hh, hf⟩ := ip_b1_e hf
  suffices J67 : ∀ (ls : Array Slot) (H : Heap) (locs : List Loc), lv_has ls 7 [(0, .ref (ad 0)), (1, .int p1), (4, .int z3)] → va_P (dC, dI) vwCl (wMO_reference ad cI cZ v_MO_size v_MO_loaded v_MO_at v_MO_fault v_MO_hasGiven v_MO_hasPicture v_MO_range v_MO_value v_MO_leaves v_mleft v_mtop v_msides v_mowner) H → va_D A (wMO_reference ad cI cZ v_MO_size v_MO_loaded v_MO_at v_MO_fault v_MO_hasGiven v_MO_hasPicture v_MO_range v_MO_value v_MO_leaves v_mleft v_mtop v_msides v_mowner) → va_S A s.heap H locs → W p l e rmMO_reference s m args below meth c H locs 0 0 Q (F0 m 67 ls [.int z6]) by
    replace hf := hh
    refine ip_icmp_ge (tgt := 59) hx hb dMO_reference_41 rfl hf (fun hf => ?_) (fun hf => ?_)
    · refine lv_aload_n hx hb dMO_reference_59 rfl (lv_at hl 1 rfl) ?_
      refine va_get (D := (dC, dI)) (ci := 12) (v := .ref (ad 8)) (C := kR_MO) (T := kT_MO) (N := 32) hx hb hts kin_MO hown hK hP 0 rfl rfl 16 (by decide) (hts _ (List.mem_cons_of_mem _ kw3_203)) (fun _ h9 => h9) rfl dMO_reference_60 ?_
      refine lv_iload_n hx hb dMO_reference_63 rfl (lv_at hl 2 rfl) ?_
      refine ip_iald hx hb hK hP 2 0 rfl rfl dMO_reference_64 hf (fun z7 hf => ?_)
      refine lv_iconst (v := (1 : Int32)) hx hb dMO_reference_65 (by decide) ?_
      refine lv_isub hx hb dMO_reference_66 ?_
      replace hl := lv_sub hl (l' := [(0, .ref (ad 0)), (1, .int p1), (4, .int z3)]) [1, 2, 0] rfl
      cases hf
      exact J67 ls H locs hl hP hD hS
    · refine lv_aload_n hx hb dMO_reference_44 rfl (lv_at hl 1 rfl) ?_
      refine va_get (D := (dC, dI)) (ci := 12) (v := .ref (ad 8)) (C := kR_MO) (T := kT_MO) (N := 32) hx hb hts kin_MO hown hK hP 0 rfl rfl 16 (by decide) (hts _ (List.mem_cons_of_mem _ kw3_203)) (fun _ h9 => h9) rfl dMO_reference_45 ?_
      refine lv_iload_n hx hb dMO_reference_48 rfl (lv_at hl 2 rfl) ?_
      refine ip_iald hx hb hK hP 2 0 rfl rfl dMO_reference_49 hf (fun z8 hf => ?_)
      refine lv_iload_n hx hb dMO_reference_50 rfl (lv_at hl 4 rfl) ?_
      refine lv_iadd hx hb dMO_reference_51 ?_
      refine lv_iconst (v := (1 : Int32)) hx hb dMO_reference_52 (by decide) ?_
      refine lv_isub hx hb dMO_reference_53 ?_
      refine lv_iload_n hx hb dMO_reference_54 rfl (lv_at hl 3 rfl) ?_
      refine lv_isub hx hb dMO_reference_55 ?_
      refine lv_goto (tgt := 67) hx hb dMO_reference_56 rfl ?_
      replace hl := lv_sub hl (l' := [(0, .ref (ad 0)), (1, .int p1), (4, .int z3)]) [1, 2, 0] rfl
      cases hf
      exact J67 ls H locs hl hP hD hS
  intro ls H locs hl hP hD hS
  clear hh
  refine lv_istore (lv' := [(5, .int z6), (0, .ref (ad 0)), (1, .int p1), (4, .int z3)]) hx hb dMO_reference_67 hl (by decide) rfl (fun ls hl => ?_)
  refine lv_iload hx hb dMO_reference_69 (lv_at hl 3 rfl) ?_
  refine ip_if_lt (tgt := 93) hx hb dMO_reference_71 rfl hf (fun hf => ?_) (fun hf => ?_)
  · refine lv_iconst (v := (-1 : Int32)) hx hb dMO_reference_93 (by decide) ?_
    cases hf
    exact hret H locs 94 ls _ dMO_reference_94 rfl hP hD hS
  · refine lv_iload hx hb dMO_reference_74 (lv_at hl 0 rfl) ?_
    refine ip_if_lt (tgt := 93) hx hb dMO_reference_76 rfl hf (fun hf => ?_) (fun hf => ?_)
    · refine lv_iconst (v := (-1 : Int32)) hx hb dMO_reference_93 (by decide) ?_
      cases hf
      exact hret H locs 94 ls _ dMO_reference_94 rfl hP hD hS
    · refine lv_iload hx hb dMO_reference_79 (lv_at hl 3 rfl) ?_
      refine lv_bipush (v := (15 : Int32)) hx hb dMO_reference_81 (by decide) ?_
      refine ip_icmp_gt (tgt := 93) hx hb dMO_reference_83 rfl hf (fun hf => ?_) (fun hf => ?_)
      · refine lv_iconst (v := (-1 : Int32)) hx hb dMO_reference_93 (by decide) ?_
        cases hf
        exact hret H locs 94 ls _ dMO_reference_94 rfl hP hD hS
      · refine lv_iload hx hb dMO_reference_86 (lv_at hl 0 rfl) ?_
        refine lv_bipush (v := (15 : Int32)) hx hb dMO_reference_88 (by decide) ?_
        refine ip_icmp_le (tgt := 95) hx hb dMO_reference_90 rfl hf (fun hf => ?_) (fun hf => ?_)
        · refine lv_bipush (v := (16 : Int32)) hx hb dMO_reference_95 (by decide) ?_
          refine lv_iload hx hb dMO_reference_97 (lv_at hl 0 rfl) ?_
          refine lv_imul hx hb dMO_reference_99 ?_
          refine lv_iload hx hb dMO_reference_100 (lv_at hl 3 rfl) ?_
          refine lv_iadd hx hb dMO_reference_102 ?_
          refine ip_top hf (fun z9 hf => ?_)
          refine lv_istore (lv' := [(6, .int z9), (5, .int z6), (0, .ref (ad 0)), (1, .int p1), (4, .int z3)]) hx hb dMO_reference_103 hl (by decide) rfl (fun ls hl => ?_)
          refine lv_aload_n hx hb dMO_reference_105 rfl (lv_at hl 2 rfl) ?_
          refine va_get (D := (dC, dI)) (ci := 12) (v := .ref (ad 12)) (C := kR_MO) (T := kT_MO) (N := 32) hx hb hts kin_MO hown hK hP 0 rfl rfl 20 (by decide) (hts _ (List.mem_cons_of_mem _ kw3_207)) (fun _ h9 => h9) rfl dMO_reference_106 ?_
          refine lv_iload hx hb dMO_reference_109 (lv_at hl 0 rfl) ?_
          refine ip_iald hx hb hK hP 4 0 rfl rfl dMO_reference_111 hf (fun z10 hf => ?_)
          refine lv_iload_n hx hb dMO_reference_112 rfl (lv_at hl 3 rfl) ?_
          refine ip_icmp_ge (tgt := 121) hx hb dMO_reference_113 rfl hf (fun hf => ?_) (fun hf => ?_)
          · refine lv_iconst (v := (-1 : Int32)) hx hb dMO_reference_121 (by decide) ?_
            cases hf
            exact hret H locs 122 ls _ dMO_reference_122 rfl hP hD hS
          · refine lv_iload hx hb dMO_reference_116 (lv_at hl 0 rfl) ?_
            refine lv_goto (tgt := 122) hx hb dMO_reference_118 rfl ?_
            cases hf
            exact hret H locs 122 ls _ dMO_reference_122 rfl hP hD hS
        · refine lv_iconst (v := (-1 : Int32)) hx hb dMO_reference_93 (by decide) ?_
          cases hf
          exact hret H locs 94 ls _ dMO_reference_94 rfl hP hD hS
set_option maxHeartbeats 4000000 in
set_option maxRecDepth 100000 in
theorem tMO_references {l : Launch} {dC : Nat → ClassId} {dI : Nat → Nat → Nat} {cI cZ : ClassId} {ad : Nat → Nat} {ts : ip_TT} {v_MO_size : Int32} {v_MO_loaded : Int32} {v_MO_at : Int32} {v_MO_fault : Int32} {v_MO_hasGiven : Int32} {v_MO_hasPicture : Int32} {v_MO_range : Int32} {v_MO_value : Int32} {v_MO_leaves : Int32} {v_mleft : Nat → Int32} {v_mtop : Nat → Int32} {v_msides : Nat → Int32} {v_mmodes : Nat → Int32} {v_mowner : Nat → Int32} {v_mfirst : Nat → Int32} {v_mrow : Nat → Int32} {v_mraw : Nat → Int32} {p1 : Int32} {nv_mrow : Nat → Int32} {nv_mraw : Nat → Int32} (hf : fMO_references v_MO_size v_MO_loaded v_MO_at v_MO_fault v_MO_hasGiven v_MO_hasPicture v_MO_range v_MO_value v_MO_leaves v_mleft v_mtop v_msides v_mmodes v_mowner v_mfirst v_mrow v_mraw p1 = some (nv_mrow, nv_mraw)) : ip_Mv l yMO_references wsMO_references rmMO_references (dC, dI) vwCl [(cI, .int), (cZ, .boolean)] ts [.ref (ad 0), .int p1] (wMO_references ad cI cZ v_MO_size v_MO_loaded v_MO_at v_MO_fault v_MO_hasGiven v_MO_hasPicture v_MO_range v_MO_value v_MO_leaves v_mleft v_mtop v_msides v_mmodes v_mowner v_mfirst v_mrow v_mraw) (wMO_references ad cI cZ v_MO_size v_MO_loaded v_MO_at v_MO_fault v_MO_hasGiven v_MO_hasPicture v_MO_range v_MO_value v_MO_leaves v_mleft v_mtop v_msides v_mmodes v_mowner v_mfirst nv_mrow nv_mraw) := by
  refine ip_startV (cc := cMO_references) (maxL := 7) (by decide) rfl (Nat.le_of_ble_eq_true rfl) ?_
  intro p e s m args below meth c Q A ls hx hb hml hts hown hK hP hD hS hA hZ hl hret
  replace hl : lv_has ls 7 [(0, .ref (ad 0)), (1, .int p1)] := hl
  unfold fMO_references at hf
  suffices J0 : ∀ (ls : Array Slot) (H : Heap) (locs : List Loc), lv_has ls 7 [(0, .ref (ad 0)), (1, .int p1)] → va_P (dC, dI) vwCl (wMO_references ad cI cZ v_MO_size v_MO_loaded v_MO_at v_MO_fault v_MO_hasGiven v_MO_hasPicture v_MO_range v_MO_value v_MO_leaves v_mleft v_mtop v_msides v_mmodes v_mowner v_mfirst v_mrow v_mraw) H → va_D A (wMO_references ad cI cZ v_MO_size v_MO_loaded v_MO_at v_MO_fault v_MO_hasGiven v_MO_hasPicture v_MO_range v_MO_value v_MO_leaves v_mleft v_mtop v_msides v_mmodes v_mowner v_mfirst v_mrow v_mraw) → va_S A s.heap H locs → W p l e rmMO_references s m args below meth c H locs 0 0 Q (F0 m 0 ls []) by exact J0 ls s.heap [] hl hP hD hS
  clear hP hD hS hl
  intro ls H locs hl hP hD hS
  refine lv_iconst (v := (4 : Int32)) hx hb dMO_references_0 (by decide) ?_
  refine lv_aload_n hx hb dMO_references_1 rfl (lv_at hl 0 rfl) ?_
  refine va_get (D := (dC, dI)) (ci := 12) (v := .ref (ad 9)) (C := kR_MO) (T := kT_MO) (N := 32) hx hb hts kin_MO hown hK hP 0 rfl rfl 17 (by decide) (hts _ (List.mem_cons_of_mem _ kw3_204)) (fun _ h9 => h9) rfl dMO_references_2 ?_
  refine lv_iload_n hx hb dMO_references_5 rfl (lv_at hl 1 rfl) ?_
  refine ip_iald hx hb hK hP 3 0 rfl rfl dMO_references_6 hf (fun z1 hf => ?_)
  refine lv_imul hx hb dMO_references_7 ?_
  refine ip_top hf (fun z2 hf => ?_)
  refine lv_istore_n (lv' := [(2, .int z2), (0, .ref (ad 0)), (1, .int p1)]) hx hb dMO_references_8 rfl hl (by decide) rfl (fun ls hl => ?_)
  refine lv_iconst (v := (-1 : Int32)) hx hb dMO_references_9 (by decide) ?_
  refine lv_istore_n (lv' := [(3, .int (-1 : Int32)), (2, .int z2), (0, .ref (ad 0)), (1, .int p1)]) hx hb dMO_references_10 rfl hl (by decide) rfl (fun ls hl => ?_)
  refine lv_iload_n hx hb dMO_references_11 rfl (lv_at hl 1 rfl) ?_
  refine lv_istore (lv' := [(4, .int z2), (3, .int (-1 : Int32)), (2, .int z2), (0, .ref (ad 0)), (1, .int p1)]) hx hb dMO_references_12 hl (by decide) rfl (fun ls hl => ?_)
  replace hl := lv_sub hl (l' := [(0, .ref (ad 0)), (1, .int p1), (2, .int z2), (3, .int (-1 : Int32)), (4, .int z2)]) [3, 4, 2, 1, 0] rfl
  obtain ⟨x5, x6, hL, hf⟩ := ip_b2_e hf
  suffices J42 : ∀ (ls : Array Slot) (H : Heap) (locs : List Loc), lv_has ls 7 [(0, .ref (ad 0)), (1, .int p1), (2, .int z2), (3, .int x5)] → va_P (dC, dI) vwCl (wMO_references ad cI cZ v_MO_size v_MO_loaded v_MO_at v_MO_fault v_MO_hasGiven v_MO_hasPicture v_MO_range v_MO_value v_MO_leaves v_mleft v_mtop v_msides v_mmodes v_mowner v_mfirst v_mrow v_mraw) H → va_D A (wMO_references ad cI cZ v_MO_size v_MO_loaded v_MO_at v_MO_fault v_MO_hasGiven v_MO_hasPicture v_MO_range v_MO_value v_MO_leaves v_mleft v_mtop v_msides v_mmodes v_mowner v_mfirst v_mrow v_mraw) → va_S A s.heap H locs → W p l e rmMO_references s m args below meth c H locs 0 0 Q (F0 m 42 ls []) by
    have L : ∀ (n : Nat) (z3 : Int32) (z4 : Int32), ip_lp2 (fMO_references_B14 v_MO_size v_MO_loaded v_MO_at v_MO_fault v_MO_hasGiven v_MO_hasPicture v_MO_range v_MO_value v_MO_leaves v_mleft v_mtop v_msides v_mowner p1) n z3 z4 = some (x5, x6) → ∀ (ls : Array Slot) (H : Heap) (locs : List Loc), lv_has ls 7 [(0, .ref (ad 0)), (1, .int p1), (2, .int z2), (3, .int z3), (4, .int z4)] → va_P (dC, dI) vwCl (wMO_references ad cI cZ v_MO_size v_MO_loaded v_MO_at v_MO_fault v_MO_hasGiven v_MO_hasPicture v_MO_range v_MO_value v_MO_leaves v_mleft v_mtop v_msides v_mmodes v_mowner v_mfirst v_mrow v_mraw) H → va_D A (wMO_references ad cI cZ v_MO_size v_MO_loaded v_MO_at v_MO_fault v_MO_hasGiven v_MO_hasPicture v_MO_range v_MO_value v_MO_leaves v_mleft v_mtop v_msides v_mmodes v_mowner v_mfirst v_mrow v_mraw) → va_S A s.heap H locs → W p l e rmMO_references s m args below meth c H locs 0 0 Q (F0 m 14 ls []) := by
      intro n
      induction n with
      | zero => intro z3 z4 hL; exact (ip_lp2_0 hL).elim
      | succ n ih =>
        intro z3 z4 hL ls H locs hl hP hD hS
        clear hf
        obtain ⟨r9, hf, hr14⟩ := ip_lp2_s hL
        clear hL
        unfold fMO_references_B14 at hf
        refine lv_iload hx hb dMO_references_14 (lv_at hl 4 rfl) ?_
        refine ip_if_lt (tgt := 42) hx hb dMO_references_16 rfl hf (fun hf => ?_) (fun hf => ?_)
        · have hx9 := ip_lp_x hr14 hf
          replace hl := lv_sub hl (l' := [(0, .ref (ad 0)), (1, .int p1), (2, .int z2), (3, .int z3)]) [0, 1, 2, 3] rfl
          cases hx9
          exact J42 ls H locs hl hP hD hS
        · refine lv_aload_n hx hb dMO_references_19 rfl (lv_at hl 0 rfl) ?_
          refine lv_iload_n hx hb dMO_references_20 rfl (lv_at hl 1 rfl) ?_
          refine lv_iload hx hb dMO_references_21 (lv_at hl 4 rfl) ?_
          obtain ⟨z7, hc, hf⟩ := ip_b1_e hf
          refine ip_calli (va_runV (As := [.int p1, .int z4]) (rest := []) ⟨hx, hb, hml, hown, hts⟩ (tMO_reference (l := l) (dC := dC) (dI := dI) (ad := ad) (cI := cI) (ts := ts) (cZ := cZ) hc H.size) (cwV 2 hts (ip_gdV (own := kR_MO) (idx := 186) (C := kR_MO) (y := yMO_reference) kw4_142 kw4_144 kws_54 kw1_13 kw4_145) rfl rfl rfl (by decide +kernel) ⟨Nat.le_of_ble_eq_true rfl, Nat.le_of_ble_eq_true rfl⟩) (ip_preV hK hP hD hS hA hZ [0, 1, 2, 3, 5] rfl rfl (ci := 12) (q0 := 0) rfl rfl) rfl rfl hl.1 rfl (lv_room (Nat.le_of_ble_eq_true rfl)) dMO_references_23 ⟨Nat.le_of_ble_eq_true rfl, Nat.le_of_ble_eq_true rfl⟩) hP hD hS hA [0, 1, 2, 3, 5] [4, 6, 7, 8] [4, 5, 6, 7, 0, 8, 1, 2, 3] (wMO_references ad cI cZ v_MO_size v_MO_loaded v_MO_at v_MO_fault v_MO_hasGiven v_MO_hasPicture v_MO_range v_MO_value v_MO_leaves v_mleft v_mtop v_msides v_mmodes v_mowner v_mfirst v_mrow v_mraw) rfl rfl rfl (by decide) rfl rfl (fun H locs hP hD hS => ?_)
          clear hc
          obtain ⟨z8, hh, hf⟩ := ip_b1_e hf
          suffices J35 : ∀ (ls : Array Slot) (H : Heap) (locs : List Loc), lv_has ls 7 [(0, .ref (ad 0)), (1, .int p1), (2, .int z2), (4, .int z4)] → va_P (dC, dI) vwCl (wMO_references ad cI cZ v_MO_size v_MO_loaded v_MO_at v_MO_fault v_MO_hasGiven v_MO_hasPicture v_MO_range v_MO_value v_MO_leaves v_mleft v_mtop v_msides v_mmodes v_mowner v_mfirst v_mrow v_mraw) H → va_D A (wMO_references ad cI cZ v_MO_size v_MO_loaded v_MO_at v_MO_fault v_MO_hasGiven v_MO_hasPicture v_MO_range v_MO_value v_MO_leaves v_mleft v_mtop v_msides v_mmodes v_mowner v_mfirst v_mrow v_mraw) → va_S A s.heap H locs → W p l e rmMO_references s m args below meth c H locs 0 0 Q (F0 m 35 ls [.int z8]) by
            replace hf := hh
            refine ip_if_lt (tgt := 34) hx hb dMO_references_26 rfl hf (fun hf => ?_) (fun hf => ?_)
            · refine lv_iload_n hx hb dMO_references_34 rfl (lv_at hl 3 rfl) ?_
              replace hl := lv_sub hl (l' := [(0, .ref (ad 0)), (1, .int p1), (2, .int z2), (4, .int z4)]) [0, 1, 2, 4] rfl
              cases hf
              exact J35 ls H locs hl hP hD hS
            · refine lv_iload hx hb dMO_references_29 (lv_at hl 4 rfl) ?_
              refine lv_goto (tgt := 35) hx hb dMO_references_31 rfl ?_
              replace hl := lv_sub hl (l' := [(0, .ref (ad 0)), (1, .int p1), (2, .int z2), (4, .int z4)]) [0, 1, 2, 4] rfl
              cases hf
              exact J35 ls H locs hl hP hD hS
          intro ls H locs hl hP hD hS
          clear hh
          refine lv_istore_n (lv' := [(3, .int z8), (0, .ref (ad 0)), (1, .int p1), (2, .int z2), (4, .int z4)]) hx hb dMO_references_35 rfl hl (by decide) rfl (fun ls hl => ?_)
          refine ip_iinc (k0 := 4) (v0 := (-1 : Int32)) (lv1 := fun z9 => [(4, .int z9), (3, .int z8), (0, .ref (ad 0)), (1, .int p1), (2, .int z2)]) hx hb dMO_references_36 hl rfl (by decide) (by decide) (fun _ => rfl) hf (fun z9 ls hf hl => ?_)
          refine lv_goto (tgt := 14) hx hb dMO_references_39 rfl ?_
          replace hl := lv_sub hl (l' := [(0, .ref (ad 0)), (1, .int p1), (2, .int z2), (3, .int z8), (4, .int z9)]) [2, 3, 4, 1, 0] rfl
          exact ih _ _ (ip_lp2_l hr14 hf) ls H locs hl hP hD hS
    exact L 1000 _ _ hL ls H locs hl hP hD hS
  intro ls H locs hl hP hD hS
  clear hL
  refine lv_iload_n hx hb dMO_references_42 rfl (lv_at hl 3 rfl) ?_
  obtain ⟨z10, hh, hf⟩ := ip_b1_e hf
  suffices J63 : ∀ (ls : Array Slot) (H : Heap) (locs : List Loc), lv_has ls 7 [(0, .ref (ad 0)), (1, .int p1), (2, .int z2)] → va_P (dC, dI) vwCl (wMO_references ad cI cZ v_MO_size v_MO_loaded v_MO_at v_MO_fault v_MO_hasGiven v_MO_hasPicture v_MO_range v_MO_value v_MO_leaves v_mleft v_mtop v_msides v_mmodes v_mowner v_mfirst v_mrow v_mraw) H → va_D A (wMO_references ad cI cZ v_MO_size v_MO_loaded v_MO_at v_MO_fault v_MO_hasGiven v_MO_hasPicture v_MO_range v_MO_value v_MO_leaves v_mleft v_mtop v_msides v_mmodes v_mowner v_mfirst v_mrow v_mraw) → va_S A s.heap H locs → W p l e rmMO_references s m args below meth c H locs 0 0 Q (F0 m 63 ls [.int z10]) by
    replace hf := hh
    refine ip_if_ge (tgt := 52) hx hb dMO_references_43 rfl hf (fun hf => ?_) (fun hf => ?_)
    · refine lv_aload_n hx hb dMO_references_52 rfl (lv_at hl 0 rfl) ?_
      refine va_get (D := (dC, dI)) (ci := 12) (v := .ref (ad 16)) (C := kR_MO) (T := kT_MO) (N := 32) hx hb hts kin_MO hown hK hP 0 rfl rfl 24 (by decide) (hts _ (List.mem_cons_of_mem _ kw3_211)) (fun _ h9 => h9) rfl dMO_references_53 ?_
      refine lv_aload_n hx hb dMO_references_56 rfl (lv_at hl 0 rfl) ?_
      refine lv_iload_n hx hb dMO_references_57 rfl (lv_at hl 1 rfl) ?_
      refine lv_iload_n hx hb dMO_references_58 rfl (lv_at hl 3 rfl) ?_
      obtain ⟨z11, hc, hf⟩ := ip_b1_e hf
      refine ip_calli (va_runV (As := [.int p1, .int x5]) (rest := [.ref (ad 16)]) ⟨hx, hb, hml, hown, hts⟩ (tMO_reference (l := l) (dC := dC) (dI := dI) (ad := ad) (cI := cI) (ts := ts) (cZ := cZ) hc H.size) (cwV 2 hts (ip_gdV (own := kR_MO) (idx := 186) (C := kR_MO) (y := yMO_reference) kw4_142 kw4_144 kws_54 kw1_13 kw4_145) rfl rfl rfl (by decide +kernel) ⟨Nat.le_of_ble_eq_true rfl, Nat.le_of_ble_eq_true rfl⟩) (ip_preV hK hP hD hS hA hZ [0, 1, 2, 3, 5] rfl rfl (ci := 12) (q0 := 0) rfl rfl) rfl rfl hl.1 rfl (lv_room (Nat.le_of_ble_eq_true rfl)) dMO_references_59 ⟨Nat.le_of_ble_eq_true rfl, Nat.le_of_ble_eq_true rfl⟩) hP hD hS hA [0, 1, 2, 3, 5] [4, 6, 7, 8] [4, 5, 6, 7, 0, 8, 1, 2, 3] (wMO_references ad cI cZ v_MO_size v_MO_loaded v_MO_at v_MO_fault v_MO_hasGiven v_MO_hasPicture v_MO_range v_MO_value v_MO_leaves v_mleft v_mtop v_msides v_mmodes v_mowner v_mfirst v_mrow v_mraw) rfl rfl rfl (by decide) rfl rfl (fun H locs hP hD hS => ?_)
      clear hc
      refine ip_iald hx hb hK hP 6 0 rfl rfl dMO_references_62 hf (fun z12 hf => ?_)
      replace hl := lv_sub hl (l' := [(0, .ref (ad 0)), (1, .int p1), (2, .int z2)]) [0, 1, 2] rfl
      cases hf
      exact J63 ls H locs hl hP hD hS
    · refine lv_sipush (v := (128 : Int32)) hx hb dMO_references_46 (by decide) ?_
      refine lv_goto (tgt := 63) hx hb dMO_references_49 rfl ?_
      replace hl := lv_sub hl (l' := [(0, .ref (ad 0)), (1, .int p1), (2, .int z2)]) [0, 1, 2] rfl
      cases hf
      exact J63 ls H locs hl hP hD hS
  intro ls H locs hl hP hD hS
  clear hh
  refine lv_istore (lv' := [(4, .int z10), (0, .ref (ad 0)), (1, .int p1), (2, .int z2)]) hx hb dMO_references_63 hl (by decide) rfl (fun ls hl => ?_)
  refine lv_iconst (v := (0 : Int32)) hx hb dMO_references_65 (by decide) ?_
  refine lv_istore (lv' := [(5, .int (0 : Int32)), (4, .int z10), (0, .ref (ad 0)), (1, .int p1), (2, .int z2)]) hx hb dMO_references_66 hl (by decide) rfl (fun ls hl => ?_)
  replace hl := lv_sub hl (l' := [(0, .ref (ad 0)), (1, .int p1), (2, .int z2), (4, .int z10), (5, .int (0 : Int32))]) [2, 3, 4, 1, 0] rfl
  obtain ⟨x16, x17, y18, hL, hf⟩ := ip_b3_e hf
  suffices J117 : ∀ (ls : Array Slot) (H : Heap) (locs : List Loc), lv_has ls 7 [(0, .ref (ad 0)), (1, .int p1), (2, .int z2)] → va_P (dC, dI) vwCl (wMO_references ad cI cZ v_MO_size v_MO_loaded v_MO_at v_MO_fault v_MO_hasGiven v_MO_hasPicture v_MO_range v_MO_value v_MO_leaves v_mleft v_mtop v_msides v_mmodes v_mowner v_mfirst v_mrow y18) H → va_D A (wMO_references ad cI cZ v_MO_size v_MO_loaded v_MO_at v_MO_fault v_MO_hasGiven v_MO_hasPicture v_MO_range v_MO_value v_MO_leaves v_mleft v_mtop v_msides v_mmodes v_mowner v_mfirst v_mrow y18) → va_S A s.heap H locs → W p l e rmMO_references s m args below meth c H locs 0 0 Q (F0 m 117 ls []) by
    have L : ∀ (n : Nat) (z13 : Int32) (z14 : Int32) (g15 : Nat → Int32), ip_lp3 (fMO_references_B68 v_MO_size v_MO_loaded v_MO_at v_MO_fault v_MO_hasGiven v_MO_hasPicture v_MO_range v_MO_value v_MO_leaves v_mleft v_mtop v_msides v_mowner v_mfirst p1 z2) n z13 z14 g15 = some (x16, x17, y18) → ∀ (ls : Array Slot) (H : Heap) (locs : List Loc), lv_has ls 7 [(0, .ref (ad 0)), (1, .int p1), (2, .int z2), (4, .int z13), (5, .int z14)] → va_P (dC, dI) vwCl (wMO_references ad cI cZ v_MO_size v_MO_loaded v_MO_at v_MO_fault v_MO_hasGiven v_MO_hasPicture v_MO_range v_MO_value v_MO_leaves v_mleft v_mtop v_msides v_mmodes v_mowner v_mfirst v_mrow g15) H → va_D A (wMO_references ad cI cZ v_MO_size v_MO_loaded v_MO_at v_MO_fault v_MO_hasGiven v_MO_hasPicture v_MO_range v_MO_value v_MO_leaves v_mleft v_mtop v_msides v_mmodes v_mowner v_mfirst v_mrow g15) → va_S A s.heap H locs → W p l e rmMO_references s m args below meth c H locs 0 0 Q (F0 m 68 ls []) := by
      intro n
      induction n with
      | zero => intro z13 z14 g15 hL; exact (ip_lp3_0 hL).elim
      | succ n ih =>
        intro z13 z14 g15 hL ls H locs hl hP hD hS
        clear hf
        obtain ⟨r9, hf, hr68⟩ := ip_lp3_s hL
        clear hL
        unfold fMO_references_B68 at hf
        refine lv_iload hx hb dMO_references_68 (lv_at hl 4 rfl) ?_
        refine lv_iload_n hx hb dMO_references_70 rfl (lv_at hl 2 rfl) ?_
        refine ip_icmp_gt (tgt := 117) hx hb dMO_references_71 rfl hf (fun hf => ?_) (fun hf => ?_)
        · have hx9 := ip_lp_x hr68 hf
          replace hl := lv_sub hl (l' := [(0, .ref (ad 0)), (1, .int p1), (2, .int z2)]) [0, 1, 2] rfl
          cases hx9
          exact J117 ls H locs hl hP hD hS
        · refine lv_aload_n hx hb dMO_references_74 rfl (lv_at hl 0 rfl) ?_
          refine lv_iload_n hx hb dMO_references_75 rfl (lv_at hl 1 rfl) ?_
          refine lv_iload hx hb dMO_references_76 (lv_at hl 4 rfl) ?_
          obtain ⟨z19, hc, hf⟩ := ip_b1_e hf
          refine ip_calli (va_runV (As := [.int p1, .int z14]) (rest := []) ⟨hx, hb, hml, hown, hts⟩ (tMO_reference (l := l) (dC := dC) (dI := dI) (ad := ad) (cI := cI) (ts := ts) (cZ := cZ) hc H.size) (cwV 2 hts (ip_gdV (own := kR_MO) (idx := 186) (C := kR_MO) (y := yMO_reference) kw4_142 kw4_144 kws_54 kw1_13 kw4_145) rfl rfl rfl (by decide +kernel) ⟨Nat.le_of_ble_eq_true rfl, Nat.le_of_ble_eq_true rfl⟩) (ip_preV hK hP hD hS hA hZ [0, 1, 2, 3, 5] rfl rfl (ci := 12) (q0 := 0) rfl rfl) rfl rfl hl.1 rfl (lv_room (Nat.le_of_ble_eq_true rfl)) dMO_references_78 ⟨Nat.le_of_ble_eq_true rfl, Nat.le_of_ble_eq_true rfl⟩) hP hD hS hA [0, 1, 2, 3, 5] [4, 6, 7, 8] [4, 5, 6, 7, 0, 8, 1, 2, 3] (wMO_references ad cI cZ v_MO_size v_MO_loaded v_MO_at v_MO_fault v_MO_hasGiven v_MO_hasPicture v_MO_range v_MO_value v_MO_leaves v_mleft v_mtop v_msides v_mmodes v_mowner v_mfirst v_mrow g15) rfl rfl rfl (by decide) rfl rfl (fun H locs hP hD hS => ?_)
          clear hc
          refine lv_istore (lv' := [(6, .int z19), (0, .ref (ad 0)), (1, .int p1), (2, .int z2), (4, .int z13), (5, .int z14)]) hx hb dMO_references_81 hl (by decide) rfl (fun ls hl => ?_)
          refine lv_iload hx hb dMO_references_83 (lv_at hl 0 rfl) ?_
          obtain ⟨z20, hh, hf⟩ := ip_b1_e hf
          suffices J100 : ∀ (ls : Array Slot) (H : Heap) (locs : List Loc), lv_has ls 7 [(0, .ref (ad 0)), (1, .int p1), (2, .int z2), (5, .int z14)] → va_P (dC, dI) vwCl (wMO_references ad cI cZ v_MO_size v_MO_loaded v_MO_at v_MO_fault v_MO_hasGiven v_MO_hasPicture v_MO_range v_MO_value v_MO_leaves v_mleft v_mtop v_msides v_mmodes v_mowner v_mfirst v_mrow g15) H → va_D A (wMO_references ad cI cZ v_MO_size v_MO_loaded v_MO_at v_MO_fault v_MO_hasGiven v_MO_hasPicture v_MO_range v_MO_value v_MO_leaves v_mleft v_mtop v_msides v_mmodes v_mowner v_mfirst v_mrow g15) → va_S A s.heap H locs → W p l e rmMO_references s m args below meth c H locs 0 0 Q (F0 m 100 ls [.int z20]) by
            replace hf := hh
            refine ip_if_lt (tgt := 98) hx hb dMO_references_85 rfl hf (fun hf => ?_) (fun hf => ?_)
            · refine lv_iload hx hb dMO_references_98 (lv_at hl 4 rfl) ?_
              replace hl := lv_sub hl (l' := [(0, .ref (ad 0)), (1, .int p1), (2, .int z2), (5, .int z14)]) [1, 2, 3, 5] rfl
              cases hf
              exact J100 ls H locs hl hP hD hS
            · refine lv_aload_n hx hb dMO_references_88 rfl (lv_at hl 1 rfl) ?_
              refine va_get (D := (dC, dI)) (ci := 12) (v := .ref (ad 16)) (C := kR_MO) (T := kT_MO) (N := 32) hx hb hts kin_MO hown hK hP 0 rfl rfl 24 (by decide) (hts _ (List.mem_cons_of_mem _ kw3_211)) (fun _ h9 => h9) rfl dMO_references_89 ?_
              refine lv_iload hx hb dMO_references_92 (lv_at hl 0 rfl) ?_
              refine ip_iald hx hb hK hP 6 0 rfl rfl dMO_references_94 hf (fun z21 hf => ?_)
              refine lv_goto (tgt := 100) hx hb dMO_references_95 rfl ?_
              replace hl := lv_sub hl (l' := [(0, .ref (ad 0)), (1, .int p1), (2, .int z2), (5, .int z14)]) [1, 2, 3, 5] rfl
              cases hf
              exact J100 ls H locs hl hP hD hS
          intro ls H locs hl hP hD hS
          clear hh
          refine lv_istore (lv' := [(4, .int z20), (0, .ref (ad 0)), (1, .int p1), (2, .int z2), (5, .int z14)]) hx hb dMO_references_100 hl (by decide) rfl (fun ls hl => ?_)
          refine lv_aload_n hx hb dMO_references_102 rfl (lv_at hl 1 rfl) ?_
          refine va_get (D := (dC, dI)) (ci := 12) (v := .ref (ad 20)) (C := kR_MO) (T := kT_MO) (N := 32) hx hb hts kin_MO hown hK hP 0 rfl rfl 28 (by decide) (hts _ (List.mem_cons_of_mem _ kw3_215)) (fun _ h9 => h9) rfl dMO_references_103 ?_
          refine lv_iload hx hb dMO_references_106 (lv_at hl 4 rfl) ?_
          refine lv_iload hx hb dMO_references_108 (lv_at hl 0 rfl) ?_
          refine ip_iast hx hb hK hP hD hS 8 0 rfl rfl (fun g22 => (wMO_references ad cI cZ v_MO_size v_MO_loaded v_MO_at v_MO_fault v_MO_hasGiven v_MO_hasPicture v_MO_range v_MO_value v_MO_leaves v_mleft v_mtop v_msides v_mmodes v_mowner v_mfirst v_mrow g22)) (fun _ => rfl) dMO_references_110 hf (fun g22 H locs hf hP hD hS => ?_)
          refine ip_iinc (k0 := 4) (v0 := (1 : Int32)) (lv1 := fun z23 => [(5, .int z23), (4, .int z20), (0, .ref (ad 0)), (1, .int p1), (2, .int z2)]) hx hb dMO_references_111 hl rfl (by decide) (by decide) (fun _ => rfl) hf (fun z23 ls hf hl => ?_)
          refine lv_goto (tgt := 68) hx hb dMO_references_114 rfl ?_
          replace hl := lv_sub hl (l' := [(0, .ref (ad 0)), (1, .int p1), (2, .int z2), (4, .int z20), (5, .int z23)]) [2, 3, 4, 1, 0] rfl
          exact ih _ _ _ (ip_lp3_l hr68 hf) ls H locs hl hP hD hS
    exact L 1000 _ _ _ hL ls H locs hl hP hD hS
  intro ls H locs hl hP hD hS
  clear hL
  refine lv_aload_n hx hb dMO_references_117 rfl (lv_at hl 0 rfl) ?_
  refine va_get (D := (dC, dI)) (ci := 12) (v := .ref (ad 9)) (C := kR_MO) (T := kT_MO) (N := 32) hx hb hts kin_MO hown hK hP 0 rfl rfl 17 (by decide) (hts _ (List.mem_cons_of_mem _ kw3_204)) (fun _ h9 => h9) rfl dMO_references_118 ?_
  refine lv_iload_n hx hb dMO_references_121 rfl (lv_at hl 1 rfl) ?_
  refine ip_iald hx hb hK hP 3 0 rfl rfl dMO_references_122 hf (fun z24 hf => ?_)
  refine lv_bipush (v := (8 : Int32)) hx hb dMO_references_123 (by decide) ?_
  obtain ⟨z25, hh, hf⟩ := ip_b1_e hf
  suffices J163 : ∀ (ls : Array Slot) (H : Heap) (locs : List Loc), lv_has ls 7 [(0, .ref (ad 0)), (2, .int z2)] → va_P (dC, dI) vwCl (wMO_references ad cI cZ v_MO_size v_MO_loaded v_MO_at v_MO_fault v_MO_hasGiven v_MO_hasPicture v_MO_range v_MO_value v_MO_leaves v_mleft v_mtop v_msides v_mmodes v_mowner v_mfirst v_mrow y18) H → va_D A (wMO_references ad cI cZ v_MO_size v_MO_loaded v_MO_at v_MO_fault v_MO_hasGiven v_MO_hasPicture v_MO_range v_MO_value v_MO_leaves v_mleft v_mtop v_msides v_mmodes v_mowner v_mfirst v_mrow y18) → va_S A s.heap H locs → W p l e rmMO_references s m args below meth c H locs 0 0 Q (F0 m 163 ls [.int z25]) by
    replace hf := hh
    refine ip_icmp_ne (tgt := 162) hx hb dMO_references_125 rfl hf (fun hf => ?_) (fun hf => ?_)
    · refine lv_iconst (v := (0 : Int32)) hx hb dMO_references_162 (by decide) ?_
      replace hl := lv_sub hl (l' := [(0, .ref (ad 0)), (2, .int z2)]) [0, 2] rfl
      cases hf
      exact J163 ls H locs hl hP hD hS
    · refine lv_aload_n hx hb dMO_references_128 rfl (lv_at hl 0 rfl) ?_
      refine va_get (D := (dC, dI)) (ci := 12) (v := .ref (ad 10)) (C := kR_MO) (T := kT_MO) (N := 32) hx hb hts kin_MO hown hK hP 0 rfl rfl 18 (by decide) (hts _ (List.mem_cons_of_mem _ kw3_205)) (fun _ h9 => h9) rfl dMO_references_129 ?_
      refine lv_iload_n hx hb dMO_references_132 rfl (lv_at hl 1 rfl) ?_
      refine ip_iald hx hb hK hP 4 0 rfl rfl dMO_references_133 hf (fun z26 hf => ?_)
      refine ip_if_eq (tgt := 158) hx hb dMO_references_134 rfl hf (fun hf => ?_) (fun hf => ?_)
      · refine lv_iconst (v := (1 : Int32)) hx hb dMO_references_158 (by decide) ?_
        refine lv_goto (tgt := 163) hx hb dMO_references_159 rfl ?_
        replace hl := lv_sub hl (l' := [(0, .ref (ad 0)), (2, .int z2)]) [0, 2] rfl
        cases hf
        exact J163 ls H locs hl hP hD hS
      · refine lv_aload_n hx hb dMO_references_137 rfl (lv_at hl 0 rfl) ?_
        refine va_get (D := (dC, dI)) (ci := 12) (v := .ref (ad 10)) (C := kR_MO) (T := kT_MO) (N := 32) hx hb hts kin_MO hown hK hP 0 rfl rfl 18 (by decide) (hts _ (List.mem_cons_of_mem _ kw3_205)) (fun _ h9 => h9) rfl dMO_references_138 ?_
        refine lv_iload_n hx hb dMO_references_141 rfl (lv_at hl 1 rfl) ?_
        refine ip_iald hx hb hK hP 4 0 rfl rfl dMO_references_142 hf (fun z27 hf => ?_)
        refine lv_iconst (v := (5 : Int32)) hx hb dMO_references_143 (by decide) ?_
        refine ip_icmp_eq (tgt := 158) hx hb dMO_references_144 rfl hf (fun hf => ?_) (fun hf => ?_)
        · refine lv_iconst (v := (1 : Int32)) hx hb dMO_references_158 (by decide) ?_
          refine lv_goto (tgt := 163) hx hb dMO_references_159 rfl ?_
          replace hl := lv_sub hl (l' := [(0, .ref (ad 0)), (2, .int z2)]) [0, 2] rfl
          cases hf
          exact J163 ls H locs hl hP hD hS
        · refine lv_aload_n hx hb dMO_references_147 rfl (lv_at hl 0 rfl) ?_
          refine va_get (D := (dC, dI)) (ci := 12) (v := .ref (ad 10)) (C := kR_MO) (T := kT_MO) (N := 32) hx hb hts kin_MO hown hK hP 0 rfl rfl 18 (by decide) (hts _ (List.mem_cons_of_mem _ kw3_205)) (fun _ h9 => h9) rfl dMO_references_148 ?_
          refine lv_iload_n hx hb dMO_references_151 rfl (lv_at hl 1 rfl) ?_
          refine ip_iald hx hb hK hP 4 0 rfl rfl dMO_references_152 hf (fun z28 hf => ?_)
          refine lv_bipush (v := (7 : Int32)) hx hb dMO_references_153 (by decide) ?_
          refine ip_icmp_ne (tgt := 162) hx hb dMO_references_155 rfl hf (fun hf => ?_) (fun hf => ?_)
          · refine lv_iconst (v := (0 : Int32)) hx hb dMO_references_162 (by decide) ?_
            replace hl := lv_sub hl (l' := [(0, .ref (ad 0)), (2, .int z2)]) [0, 2] rfl
            cases hf
            exact J163 ls H locs hl hP hD hS
          · refine lv_iconst (v := (1 : Int32)) hx hb dMO_references_158 (by decide) ?_
            refine lv_goto (tgt := 163) hx hb dMO_references_159 rfl ?_
            replace hl := lv_sub hl (l' := [(0, .ref (ad 0)), (2, .int z2)]) [0, 2] rfl
            cases hf
            exact J163 ls H locs hl hP hD hS
  intro ls H locs hl hP hD hS
  clear hh
  refine lv_istore (lv' := [(5, .int z25), (0, .ref (ad 0)), (2, .int z2)]) hx hb dMO_references_163 hl (by decide) rfl (fun ls hl => ?_)
  refine lv_iconst (v := (0 : Int32)) hx hb dMO_references_165 (by decide) ?_
  refine lv_istore (lv' := [(6, .int (0 : Int32)), (5, .int z25), (0, .ref (ad 0)), (2, .int z2)]) hx hb dMO_references_166 hl (by decide) rfl (fun ls hl => ?_)
  replace hl := lv_sub hl (l' := [(0, .ref (ad 0)), (2, .int z2), (5, .int z25), (6, .int (0 : Int32))]) [2, 3, 1, 0] rfl
  obtain ⟨x31, y32, hL, hf⟩ := ip_b2_e hf
  suffices J246 : ∀ (ls : Array Slot) (H : Heap) (locs : List Loc), lv_has ls 7 [] → va_P (dC, dI) vwCl (wMO_references ad cI cZ v_MO_size v_MO_loaded v_MO_at v_MO_fault v_MO_hasGiven v_MO_hasPicture v_MO_range v_MO_value v_MO_leaves v_mleft v_mtop v_msides v_mmodes v_mowner v_mfirst y32 y18) H → va_D A (wMO_references ad cI cZ v_MO_size v_MO_loaded v_MO_at v_MO_fault v_MO_hasGiven v_MO_hasPicture v_MO_range v_MO_value v_MO_leaves v_mleft v_mtop v_msides v_mmodes v_mowner v_mfirst y32 y18) → va_S A s.heap H locs → W p l e rmMO_references s m args below meth c H locs 0 0 Q (F0 m 246 ls []) by
    have L : ∀ (n : Nat) (z29 : Int32) (g30 : Nat → Int32), ip_lp2 (fMO_references_B168 z2 y18 z25) n z29 g30 = some (x31, y32) → ∀ (ls : Array Slot) (H : Heap) (locs : List Loc), lv_has ls 7 [(0, .ref (ad 0)), (2, .int z2), (5, .int z25), (6, .int z29)] → va_P (dC, dI) vwCl (wMO_references ad cI cZ v_MO_size v_MO_loaded v_MO_at v_MO_fault v_MO_hasGiven v_MO_hasPicture v_MO_range v_MO_value v_MO_leaves v_mleft v_mtop v_msides v_mmodes v_mowner v_mfirst g30 y18) H → va_D A (wMO_references ad cI cZ v_MO_size v_MO_loaded v_MO_at v_MO_fault v_MO_hasGiven v_MO_hasPicture v_MO_range v_MO_value v_MO_leaves v_mleft v_mtop v_msides v_mmodes v_mowner v_mfirst g30 y18) → va_S A s.heap H locs → W p l e rmMO_references s m args below meth c H locs 0 0 Q (F0 m 168 ls []) := by
      intro n
      induction n with
      | zero => intro z29 g30 hL; exact (ip_lp2_0 hL).elim
      | succ n ih =>
        intro z29 g30 hL ls H locs hl hP hD hS
        clear hf
        obtain ⟨r9, hf, hr168⟩ := ip_lp2_s hL
        clear hL
        unfold fMO_references_B168 at hf
        refine lv_iload hx hb dMO_references_168 (lv_at hl 3 rfl) ?_
        refine lv_iload_n hx hb dMO_references_170 rfl (lv_at hl 1 rfl) ?_
        refine ip_icmp_gt (tgt := 246) hx hb dMO_references_171 rfl hf (fun hf => ?_) (fun hf => ?_)
        · have hx9 := ip_lp_x hr168 hf
          replace hl := lv_sub hl (l' := []) [] rfl
          cases hx9
          exact J246 ls H locs hl hP hD hS
        · refine lv_aload_n hx hb dMO_references_174 rfl (lv_at hl 0 rfl) ?_
          refine va_get (D := (dC, dI)) (ci := 12) (v := .ref (ad 19)) (C := kR_MO) (T := kT_MO) (N := 32) hx hb hts kin_MO hown hK hP 0 rfl rfl 27 (by decide) (hts _ (List.mem_cons_of_mem _ kw3_214)) (fun _ h9 => h9) rfl dMO_references_175 ?_
          refine lv_iload hx hb dMO_references_178 (lv_at hl 3 rfl) ?_
          refine lv_iload hx hb dMO_references_180 (lv_at hl 2 rfl) ?_
          obtain ⟨z33, hh, hf⟩ := ip_b1_e hf
          suffices J239 : ∀ (ls : Array Slot) (H : Heap) (locs : List Loc), lv_has ls 7 [(0, .ref (ad 0)), (2, .int z2), (5, .int z25), (6, .int z29)] → va_P (dC, dI) vwCl (wMO_references ad cI cZ v_MO_size v_MO_loaded v_MO_at v_MO_fault v_MO_hasGiven v_MO_hasPicture v_MO_range v_MO_value v_MO_leaves v_mleft v_mtop v_msides v_mmodes v_mowner v_mfirst g30 y18) H → va_D A (wMO_references ad cI cZ v_MO_size v_MO_loaded v_MO_at v_MO_fault v_MO_hasGiven v_MO_hasPicture v_MO_range v_MO_value v_MO_leaves v_mleft v_mtop v_msides v_mmodes v_mowner v_mfirst g30 y18) → va_S A s.heap H locs → W p l e rmMO_references s m args below meth c H locs 0 0 Q (F0 m 239 ls [.int z33, .int z29, .ref (ad 19)]) by
            replace hf := hh
            refine ip_if_eq (tgt := 232) hx hb dMO_references_182 rfl hf (fun hf => ?_) (fun hf => ?_)
            · refine lv_aload_n hx hb dMO_references_232 rfl (lv_at hl 0 rfl) ?_
              refine va_get (D := (dC, dI)) (ci := 12) (v := .ref (ad 20)) (C := kR_MO) (T := kT_MO) (N := 32) hx hb hts kin_MO hown hK hP 0 rfl rfl 28 (by decide) (hts _ (List.mem_cons_of_mem _ kw3_215)) (fun _ h9 => h9) rfl dMO_references_233 ?_
              refine lv_iload hx hb dMO_references_236 (lv_at hl 3 rfl) ?_
              refine ip_iald hx hb hK hP 8 0 rfl rfl dMO_references_238 hf (fun z34 hf => ?_)
              cases hf
              exact J239 ls H locs hl hP hD hS
            · refine lv_iload hx hb dMO_references_185 (lv_at hl 3 rfl) ?_
              refine ip_if_le (tgt := 232) hx hb dMO_references_187 rfl hf (fun hf => ?_) (fun hf => ?_)
              · refine lv_aload_n hx hb dMO_references_232 rfl (lv_at hl 0 rfl) ?_
                refine va_get (D := (dC, dI)) (ci := 12) (v := .ref (ad 20)) (C := kR_MO) (T := kT_MO) (N := 32) hx hb hts kin_MO hown hK hP 0 rfl rfl 28 (by decide) (hts _ (List.mem_cons_of_mem _ kw3_215)) (fun _ h9 => h9) rfl dMO_references_233 ?_
                refine lv_iload hx hb dMO_references_236 (lv_at hl 3 rfl) ?_
                refine ip_iald hx hb hK hP 8 0 rfl rfl dMO_references_238 hf (fun z35 hf => ?_)
                cases hf
                exact J239 ls H locs hl hP hD hS
              · refine lv_iload hx hb dMO_references_190 (lv_at hl 3 rfl) ?_
                refine lv_iload_n hx hb dMO_references_192 rfl (lv_at hl 1 rfl) ?_
                refine ip_icmp_ge (tgt := 232) hx hb dMO_references_193 rfl hf (fun hf => ?_) (fun hf => ?_)
                · refine lv_aload_n hx hb dMO_references_232 rfl (lv_at hl 0 rfl) ?_
                  refine va_get (D := (dC, dI)) (ci := 12) (v := .ref (ad 20)) (C := kR_MO) (T := kT_MO) (N := 32) hx hb hts kin_MO hown hK hP 0 rfl rfl 28 (by decide) (hts _ (List.mem_cons_of_mem _ kw3_215)) (fun _ h9 => h9) rfl dMO_references_233 ?_
                  refine lv_iload hx hb dMO_references_236 (lv_at hl 3 rfl) ?_
                  refine ip_iald hx hb hK hP 8 0 rfl rfl dMO_references_238 hf (fun z36 hf => ?_)
                  cases hf
                  exact J239 ls H locs hl hP hD hS
                · refine lv_aload_n hx hb dMO_references_196 rfl (lv_at hl 0 rfl) ?_
                  refine va_get (D := (dC, dI)) (ci := 12) (v := .ref (ad 20)) (C := kR_MO) (T := kT_MO) (N := 32) hx hb hts kin_MO hown hK hP 0 rfl rfl 28 (by decide) (hts _ (List.mem_cons_of_mem _ kw3_215)) (fun _ h9 => h9) rfl dMO_references_197 ?_
                  refine lv_iload hx hb dMO_references_200 (lv_at hl 3 rfl) ?_
                  refine lv_iconst (v := (1 : Int32)) hx hb dMO_references_202 (by decide) ?_
                  refine lv_isub hx hb dMO_references_203 ?_
                  refine ip_iald hx hb hK hP 8 0 rfl rfl dMO_references_204 hf (fun z37 hf => ?_)
                  refine lv_iconst (v := (2 : Int32)) hx hb dMO_references_205 (by decide) ?_
                  refine lv_aload_n hx hb dMO_references_206 rfl (lv_at hl 0 rfl) ?_
                  refine va_get (D := (dC, dI)) (ci := 12) (v := .ref (ad 20)) (C := kR_MO) (T := kT_MO) (N := 32) hx hb hts kin_MO hown hK hP 0 rfl rfl 28 (by decide) (hts _ (List.mem_cons_of_mem _ kw3_215)) (fun _ h9 => h9) rfl dMO_references_207 ?_
                  refine lv_iload hx hb dMO_references_210 (lv_at hl 3 rfl) ?_
                  refine ip_iald hx hb hK hP 8 0 rfl rfl dMO_references_212 hf (fun z38 hf => ?_)
                  refine lv_imul hx hb dMO_references_213 ?_
                  refine lv_iadd hx hb dMO_references_214 ?_
                  refine lv_aload_n hx hb dMO_references_215 rfl (lv_at hl 0 rfl) ?_
                  refine va_get (D := (dC, dI)) (ci := 12) (v := .ref (ad 20)) (C := kR_MO) (T := kT_MO) (N := 32) hx hb hts kin_MO hown hK hP 0 rfl rfl 28 (by decide) (hts _ (List.mem_cons_of_mem _ kw3_215)) (fun _ h9 => h9) rfl dMO_references_216 ?_
                  refine lv_iload hx hb dMO_references_219 (lv_at hl 3 rfl) ?_
                  refine lv_iconst (v := (1 : Int32)) hx hb dMO_references_221 (by decide) ?_
                  refine lv_iadd hx hb dMO_references_222 ?_
                  refine ip_iald hx hb hK hP 8 0 rfl rfl dMO_references_223 hf (fun z39 hf => ?_)
                  refine lv_iadd hx hb dMO_references_224 ?_
                  refine lv_iconst (v := (2 : Int32)) hx hb dMO_references_225 (by decide) ?_
                  refine lv_iadd hx hb dMO_references_226 ?_
                  refine lv_iconst (v := (2 : Int32)) hx hb dMO_references_227 (by decide) ?_
                  refine lv_ishr hx hb dMO_references_228 ?_
                  refine lv_goto (tgt := 239) hx hb dMO_references_229 rfl ?_
                  cases hf
                  exact J239 ls H locs hl hP hD hS
          intro ls H locs hl hP hD hS
          clear hh
          refine ip_iast hx hb hK hP hD hS 7 0 rfl rfl (fun g40 => (wMO_references ad cI cZ v_MO_size v_MO_loaded v_MO_at v_MO_fault v_MO_hasGiven v_MO_hasPicture v_MO_range v_MO_value v_MO_leaves v_mleft v_mtop v_msides v_mmodes v_mowner v_mfirst g40 y18)) (fun _ => rfl) dMO_references_239 hf (fun g40 H locs hf hP hD hS => ?_)
          refine ip_iinc (k0 := 3) (v0 := (1 : Int32)) (lv1 := fun z41 => [(6, .int z41), (0, .ref (ad 0)), (2, .int z2), (5, .int z25)]) hx hb dMO_references_240 hl rfl (by decide) (by decide) (fun _ => rfl) hf (fun z41 ls hf hl => ?_)
          refine lv_goto (tgt := 168) hx hb dMO_references_243 rfl ?_
          replace hl := lv_sub hl (l' := [(0, .ref (ad 0)), (2, .int z2), (5, .int z25), (6, .int z41)]) [1, 2, 3, 0] rfl
          exact ih _ _ (ip_lp2_l hr168 hf) ls H locs hl hP hD hS
    exact L 1000 _ _ hL ls H locs hl hP hD hS
  intro ls H locs hl hP hD hS
  clear hL
  cases hf
  exact hret H locs 246 ls dMO_references_246 hP hD hS
set_option maxHeartbeats 4000000 in
set_option maxRecDepth 100000 in
theorem tMO_toLeft {l : Launch} {dC : Nat → ClassId} {dI : Nat → Nat → Nat} {cI cZ : ClassId} {ad : Nat → Nat} {ts : ip_TT} {v_MO_size : Int32} {v_MO_loaded : Int32} {v_MO_at : Int32} {v_MO_fault : Int32} {v_MO_hasGiven : Int32} {v_MO_hasPicture : Int32} {v_MO_range : Int32} {v_MO_value : Int32} {v_MO_leaves : Int32} {v_msides : Nat → Int32} {v_mrow : Nat → Int32} {p1 : Int32} {p2 : Int32} {r0 : Int32}  (hf : fMO_toLeft v_MO_size v_MO_loaded v_MO_at v_MO_fault v_MO_hasGiven v_MO_hasPicture v_MO_range v_MO_value v_MO_leaves v_msides v_mrow p1 p2 = some r0) : ip_Mi l yMO_toLeft wsMO_toLeft rmMO_toLeft (dC, dI) vwCl [(cI, .int), (cZ, .boolean)] ts [.ref (ad 0), .int p1, .int p2] (wMO_toLeft ad cI cZ v_MO_size v_MO_loaded v_MO_at v_MO_fault v_MO_hasGiven v_MO_hasPicture v_MO_range v_MO_value v_MO_leaves v_msides v_mrow) (wMO_toLeft ad cI cZ v_MO_size v_MO_loaded v_MO_at v_MO_fault v_MO_hasGiven v_MO_hasPicture v_MO_range v_MO_value v_MO_leaves v_msides v_mrow) r0 := by
  refine ip_startI (cc := cMO_toLeft) (maxL := 3) (by decide) rfl (Nat.le_of_ble_eq_true rfl) ?_
  intro p e s m args below meth c Q A ls hx hb hml hts hown hK hP hD hS hA hZ hl hret
  replace hl : lv_has ls 3 [(0, .ref (ad 0)), (1, .int p1), (2, .int p2)] := hl
  unfold fMO_toLeft at hf
  suffices J0 : ∀ (ls : Array Slot) (H : Heap) (locs : List Loc), lv_has ls 3 [(0, .ref (ad 0)), (1, .int p1), (2, .int p2)] → va_P (dC, dI) vwCl (wMO_toLeft ad cI cZ v_MO_size v_MO_loaded v_MO_at v_MO_fault v_MO_hasGiven v_MO_hasPicture v_MO_range v_MO_value v_MO_leaves v_msides v_mrow) H → va_D A (wMO_toLeft ad cI cZ v_MO_size v_MO_loaded v_MO_at v_MO_fault v_MO_hasGiven v_MO_hasPicture v_MO_range v_MO_value v_MO_leaves v_msides v_mrow) → va_S A s.heap H locs → W p l e rmMO_toLeft s m args below meth c H locs 0 0 Q (F0 m 0 ls []) by exact J0 ls s.heap [] hl hP hD hS
  clear hP hD hS hl
  intro ls H locs hl hP hD hS
  refine lv_aload_n hx hb dMO_toLeft_0 rfl (lv_at hl 0 rfl) ?_
  refine va_get (D := (dC, dI)) (ci := 12) (v := .ref (ad 19)) (C := kR_MO) (T := kT_MO) (N := 32) hx hb hts kin_MO hown hK hP 0 rfl rfl 27 (by decide) (hts _ (List.mem_cons_of_mem _ kw3_214)) (fun _ h9 => h9) rfl dMO_toLeft_1 ?_
  refine lv_iconst (v := (2 : Int32)) hx hb dMO_toLeft_4 (by decide) ?_
  refine lv_aload_n hx hb dMO_toLeft_5 rfl (lv_at hl 0 rfl) ?_
  refine va_get (D := (dC, dI)) (ci := 12) (v := .ref (ad 9)) (C := kR_MO) (T := kT_MO) (N := 32) hx hb hts kin_MO hown hK hP 0 rfl rfl 17 (by decide) (hts _ (List.mem_cons_of_mem _ kw3_204)) (fun _ h9 => h9) rfl dMO_toLeft_6 ?_
  refine lv_iload_n hx hb dMO_toLeft_9 rfl (lv_at hl 1 rfl) ?_
  refine ip_iald hx hb hK hP 1 0 rfl rfl dMO_toLeft_10 hf (fun z1 hf => ?_)
  refine lv_imul hx hb dMO_toLeft_11 ?_
  refine lv_iconst (v := (1 : Int32)) hx hb dMO_toLeft_12 (by decide) ?_
  refine lv_isub hx hb dMO_toLeft_13 ?_
  refine lv_iload_n hx hb dMO_toLeft_14 rfl (lv_at hl 2 rfl) ?_
  refine lv_isub hx hb dMO_toLeft_15 ?_
  refine ip_iald hx hb hK hP 2 0 rfl rfl dMO_toLeft_16 hf (fun z2 hf => ?_)
  cases hf
  exact hret H locs 17 ls _ dMO_toLeft_17 rfl hP hD hS
set_option maxHeartbeats 4000000 in
set_option maxRecDepth 100000 in
theorem tMO_above {l : Launch} {dC : Nat → ClassId} {dI : Nat → Nat → Nat} {cI cZ : ClassId} {ad : Nat → Nat} {ts : ip_TT} {v_MO_size : Int32} {v_MO_loaded : Int32} {v_MO_at : Int32} {v_MO_fault : Int32} {v_MO_hasGiven : Int32} {v_MO_hasPicture : Int32} {v_MO_range : Int32} {v_MO_value : Int32} {v_MO_leaves : Int32} {v_msides : Nat → Int32} {v_mrow : Nat → Int32} {p1 : Int32} {p2 : Int32} {r0 : Int32}  (hf : fMO_above v_MO_size v_MO_loaded v_MO_at v_MO_fault v_MO_hasGiven v_MO_hasPicture v_MO_range v_MO_value v_MO_leaves v_msides v_mrow p1 p2 = some r0) : ip_Mi l yMO_above wsMO_above rmMO_above (dC, dI) vwCl [(cI, .int), (cZ, .boolean)] ts [.ref (ad 0), .int p1, .int p2] (wMO_above ad cI cZ v_MO_size v_MO_loaded v_MO_at v_MO_fault v_MO_hasGiven v_MO_hasPicture v_MO_range v_MO_value v_MO_leaves v_msides v_mrow) (wMO_above ad cI cZ v_MO_size v_MO_loaded v_MO_at v_MO_fault v_MO_hasGiven v_MO_hasPicture v_MO_range v_MO_value v_MO_leaves v_msides v_mrow) r0 := by
  refine ip_startI (cc := cMO_above) (maxL := 3) (by decide) rfl (Nat.le_of_ble_eq_true rfl) ?_
  intro p e s m args below meth c Q A ls hx hb hml hts hown hK hP hD hS hA hZ hl hret
  replace hl : lv_has ls 3 [(0, .ref (ad 0)), (1, .int p1), (2, .int p2)] := hl
  unfold fMO_above at hf
  suffices J0 : ∀ (ls : Array Slot) (H : Heap) (locs : List Loc), lv_has ls 3 [(0, .ref (ad 0)), (1, .int p1), (2, .int p2)] → va_P (dC, dI) vwCl (wMO_above ad cI cZ v_MO_size v_MO_loaded v_MO_at v_MO_fault v_MO_hasGiven v_MO_hasPicture v_MO_range v_MO_value v_MO_leaves v_msides v_mrow) H → va_D A (wMO_above ad cI cZ v_MO_size v_MO_loaded v_MO_at v_MO_fault v_MO_hasGiven v_MO_hasPicture v_MO_range v_MO_value v_MO_leaves v_msides v_mrow) → va_S A s.heap H locs → W p l e rmMO_above s m args below meth c H locs 0 0 Q (F0 m 0 ls []) by exact J0 ls s.heap [] hl hP hD hS
  clear hP hD hS hl
  intro ls H locs hl hP hD hS
  refine lv_aload_n hx hb dMO_above_0 rfl (lv_at hl 0 rfl) ?_
  refine va_get (D := (dC, dI)) (ci := 12) (v := .ref (ad 19)) (C := kR_MO) (T := kT_MO) (N := 32) hx hb hts kin_MO hown hK hP 0 rfl rfl 27 (by decide) (hts _ (List.mem_cons_of_mem _ kw3_214)) (fun _ h9 => h9) rfl dMO_above_1 ?_
  refine lv_iconst (v := (2 : Int32)) hx hb dMO_above_4 (by decide) ?_
  refine lv_aload_n hx hb dMO_above_5 rfl (lv_at hl 0 rfl) ?_
  refine va_get (D := (dC, dI)) (ci := 12) (v := .ref (ad 9)) (C := kR_MO) (T := kT_MO) (N := 32) hx hb hts kin_MO hown hK hP 0 rfl rfl 17 (by decide) (hts _ (List.mem_cons_of_mem _ kw3_204)) (fun _ h9 => h9) rfl dMO_above_6 ?_
  refine lv_iload_n hx hb dMO_above_9 rfl (lv_at hl 1 rfl) ?_
  refine ip_iald hx hb hK hP 1 0 rfl rfl dMO_above_10 hf (fun z1 hf => ?_)
  refine lv_imul hx hb dMO_above_11 ?_
  refine lv_iconst (v := (1 : Int32)) hx hb dMO_above_12 (by decide) ?_
  refine lv_iadd hx hb dMO_above_13 ?_
  refine lv_iload_n hx hb dMO_above_14 rfl (lv_at hl 2 rfl) ?_
  refine lv_iadd hx hb dMO_above_15 ?_
  refine ip_iald hx hb hK hP 2 0 rfl rfl dMO_above_16 hf (fun z2 hf => ?_)
  cases hf
  exact hret H locs 17 ls _ dMO_above_17 rfl hP hD hS
set_option maxHeartbeats 4000000 in
set_option maxRecDepth 100000 in
theorem tMO_mean {l : Launch} {dC : Nat → ClassId} {dI : Nat → Nat → Nat} {cI cZ : ClassId} {ad : Nat → Nat} {ts : ip_TT} {v_MO_size : Int32} {v_MO_loaded : Int32} {v_MO_at : Int32} {v_MO_fault : Int32} {v_MO_hasGiven : Int32} {v_MO_hasPicture : Int32} {v_MO_range : Int32} {v_MO_value : Int32} {v_MO_leaves : Int32} {v_msides : Nat → Int32} {v_mrow : Nat → Int32} {p1 : Int32} {r0 : Int32}  (hf : fMO_mean v_MO_size v_MO_loaded v_MO_at v_MO_fault v_MO_hasGiven v_MO_hasPicture v_MO_range v_MO_value v_MO_leaves v_msides v_mrow p1 = some r0) : ip_Mi l yMO_mean wsMO_mean rmMO_mean (dC, dI) vwCl [(cI, .int), (cZ, .boolean)] ts [.ref (ad 0), .int p1] (wMO_mean ad cI cZ v_MO_size v_MO_loaded v_MO_at v_MO_fault v_MO_hasGiven v_MO_hasPicture v_MO_range v_MO_value v_MO_leaves v_msides v_mrow) (wMO_mean ad cI cZ v_MO_size v_MO_loaded v_MO_at v_MO_fault v_MO_hasGiven v_MO_hasPicture v_MO_range v_MO_value v_MO_leaves v_msides v_mrow) r0 := by
  refine ip_startI (cc := cMO_mean) (maxL := 5) (by decide) rfl (Nat.le_of_ble_eq_true rfl) ?_
  intro p e s m args below meth c Q A ls hx hb hml hts hown hK hP hD hS hA hZ hl hret
  replace hl : lv_has ls 5 [(0, .ref (ad 0)), (1, .int p1)] := hl
  unfold fMO_mean at hf
  suffices J0 : ∀ (ls : Array Slot) (H : Heap) (locs : List Loc), lv_has ls 5 [(0, .ref (ad 0)), (1, .int p1)] → va_P (dC, dI) vwCl (wMO_mean ad cI cZ v_MO_size v_MO_loaded v_MO_at v_MO_fault v_MO_hasGiven v_MO_hasPicture v_MO_range v_MO_value v_MO_leaves v_msides v_mrow) H → va_D A (wMO_mean ad cI cZ v_MO_size v_MO_loaded v_MO_at v_MO_fault v_MO_hasGiven v_MO_hasPicture v_MO_range v_MO_value v_MO_leaves v_msides v_mrow) → va_S A s.heap H locs → W p l e rmMO_mean s m args below meth c H locs 0 0 Q (F0 m 0 ls []) by exact J0 ls s.heap [] hl hP hD hS
  clear hP hD hS hl
  intro ls H locs hl hP hD hS
  refine lv_aload_n hx hb dMO_mean_0 rfl (lv_at hl 0 rfl) ?_
  refine va_get (D := (dC, dI)) (ci := 12) (v := .ref (ad 9)) (C := kR_MO) (T := kT_MO) (N := 32) hx hb hts kin_MO hown hK hP 0 rfl rfl 17 (by decide) (hts _ (List.mem_cons_of_mem _ kw3_204)) (fun _ h9 => h9) rfl dMO_mean_1 ?_
  refine lv_iload_n hx hb dMO_mean_4 rfl (lv_at hl 1 rfl) ?_
  refine ip_iald hx hb hK hP 1 0 rfl rfl dMO_mean_5 hf (fun z1 hf => ?_)
  refine lv_istore_n (lv' := [(2, .int z1), (0, .ref (ad 0)), (1, .int p1)]) hx hb dMO_mean_6 rfl hl (by decide) rfl (fun ls hl => ?_)
  refine lv_iload_n hx hb dMO_mean_7 rfl (lv_at hl 0 rfl) ?_
  refine lv_istore_n (lv' := [(3, .int z1), (2, .int z1), (0, .ref (ad 0)), (1, .int p1)]) hx hb dMO_mean_8 rfl hl (by decide) rfl (fun ls hl => ?_)
  refine lv_iconst (v := (0 : Int32)) hx hb dMO_mean_9 (by decide) ?_
  refine lv_istore (lv' := [(4, .int (0 : Int32)), (3, .int z1), (2, .int z1), (0, .ref (ad 0)), (1, .int p1)]) hx hb dMO_mean_10 hl (by decide) rfl (fun ls hl => ?_)
  replace hl := lv_sub hl (l' := [(0, .ref (ad 0)), (1, .int p1), (2, .int z1), (3, .int z1), (4, .int (0 : Int32))]) [3, 4, 2, 1, 0] rfl
  obtain ⟨x4, x5, hL, hf⟩ := ip_b2_e hf
  suffices J42 : ∀ (ls : Array Slot) (H : Heap) (locs : List Loc), lv_has ls 5 [(2, .int z1), (3, .int x4)] → va_P (dC, dI) vwCl (wMO_mean ad cI cZ v_MO_size v_MO_loaded v_MO_at v_MO_fault v_MO_hasGiven v_MO_hasPicture v_MO_range v_MO_value v_MO_leaves v_msides v_mrow) H → va_D A (wMO_mean ad cI cZ v_MO_size v_MO_loaded v_MO_at v_MO_fault v_MO_hasGiven v_MO_hasPicture v_MO_range v_MO_value v_MO_leaves v_msides v_mrow) → va_S A s.heap H locs → W p l e rmMO_mean s m args below meth c H locs 0 0 Q (F0 m 42 ls []) by
    have L : ∀ (n : Nat) (z2 : Int32) (z3 : Int32), ip_lp2 (fMO_mean_B12 v_MO_size v_MO_loaded v_MO_at v_MO_fault v_MO_hasGiven v_MO_hasPicture v_MO_range v_MO_value v_MO_leaves v_msides v_mrow p1 z1) n z2 z3 = some (x4, x5) → ∀ (ls : Array Slot) (H : Heap) (locs : List Loc), lv_has ls 5 [(0, .ref (ad 0)), (1, .int p1), (2, .int z1), (3, .int z2), (4, .int z3)] → va_P (dC, dI) vwCl (wMO_mean ad cI cZ v_MO_size v_MO_loaded v_MO_at v_MO_fault v_MO_hasGiven v_MO_hasPicture v_MO_range v_MO_value v_MO_leaves v_msides v_mrow) H → va_D A (wMO_mean ad cI cZ v_MO_size v_MO_loaded v_MO_at v_MO_fault v_MO_hasGiven v_MO_hasPicture v_MO_range v_MO_value v_MO_leaves v_msides v_mrow) → va_S A s.heap H locs → W p l e rmMO_mean s m args below meth c H locs 0 0 Q (F0 m 12 ls []) := by
      intro n
      induction n with
      | zero => intro z2 z3 hL; exact (ip_lp2_0 hL).elim
      | succ n ih =>
        intro z2 z3 hL ls H locs hl hP hD hS
        clear hf
        obtain ⟨r9, hf, hr12⟩ := ip_lp2_s hL
        clear hL
        unfold fMO_mean_B12 at hf
        refine lv_iload hx hb dMO_mean_12 (lv_at hl 4 rfl) ?_
        refine lv_iload_n hx hb dMO_mean_14 rfl (lv_at hl 2 rfl) ?_
        refine ip_icmp_ge (tgt := 42) hx hb dMO_mean_15 rfl hf (fun hf => ?_) (fun hf => ?_)
        · have hx9 := ip_lp_x hr12 hf
          replace hl := lv_sub hl (l' := [(2, .int z1), (3, .int z2)]) [2, 3] rfl
          cases hx9
          exact J42 ls H locs hl hP hD hS
        · refine lv_iload_n hx hb dMO_mean_18 rfl (lv_at hl 3 rfl) ?_
          refine lv_aload_n hx hb dMO_mean_19 rfl (lv_at hl 0 rfl) ?_
          refine lv_iload_n hx hb dMO_mean_20 rfl (lv_at hl 1 rfl) ?_
          refine lv_iload hx hb dMO_mean_21 (lv_at hl 4 rfl) ?_
          obtain ⟨z6, hc, hf⟩ := ip_b1_e hf
          refine ip_calli (va_runV (As := [.int p1, .int z3]) (rest := [.int z2]) ⟨hx, hb, hml, hown, hts⟩ (tMO_toLeft (l := l) (dC := dC) (dI := dI) (ad := ad) (cI := cI) (ts := ts) (cZ := cZ) hc H.size) (cwV 2 hts (ip_gdV (own := kR_MO) (idx := 190) (C := kR_MO) (y := yMO_toLeft) kw4_150 kw4_152 kws_56 kw1_13 kw4_153) rfl rfl rfl (by decide +kernel) ⟨Nat.le_of_ble_eq_true rfl, Nat.le_of_ble_eq_true rfl⟩) (ip_preV hK hP hD hS hA hZ [0, 1, 2] rfl rfl (ci := 12) (q0 := 0) rfl rfl) rfl rfl hl.1 rfl (lv_room (Nat.le_of_ble_eq_true rfl)) dMO_mean_23 ⟨Nat.le_of_ble_eq_true rfl, Nat.le_of_ble_eq_true rfl⟩) hP hD hS hA [0, 1, 2] [] [0, 1, 2] (wMO_mean ad cI cZ v_MO_size v_MO_loaded v_MO_at v_MO_fault v_MO_hasGiven v_MO_hasPicture v_MO_range v_MO_value v_MO_leaves v_msides v_mrow) rfl rfl rfl (by decide) rfl rfl (fun H locs hP hD hS => ?_)
          clear hc
          refine lv_aload_n hx hb dMO_mean_26 rfl (lv_at hl 0 rfl) ?_
          refine lv_iload_n hx hb dMO_mean_27 rfl (lv_at hl 1 rfl) ?_
          refine lv_iload hx hb dMO_mean_28 (lv_at hl 4 rfl) ?_
          obtain ⟨z7, hc, hf⟩ := ip_b1_e hf
          refine ip_calli (va_runV (As := [.int p1, .int z3]) (rest := [.int z6, .int z2]) ⟨hx, hb, hml, hown, hts⟩ (tMO_above (l := l) (dC := dC) (dI := dI) (ad := ad) (cI := cI) (ts := ts) (cZ := cZ) hc H.size) (cwV 2 hts (ip_gdV (own := kR_MO) (idx := 193) (C := kR_MO) (y := yMO_above) kw4_154 kw4_156 kws_57 kw1_13 kw4_157) rfl rfl rfl (by decide +kernel) ⟨Nat.le_of_ble_eq_true rfl, Nat.le_of_ble_eq_true rfl⟩) (ip_preV hK hP hD hS hA hZ [0, 1, 2] rfl rfl (ci := 12) (q0 := 0) rfl rfl) rfl rfl hl.1 rfl (lv_room (Nat.le_of_ble_eq_true rfl)) dMO_mean_30 ⟨Nat.le_of_ble_eq_true rfl, Nat.le_of_ble_eq_true rfl⟩) hP hD hS hA [0, 1, 2] [] [0, 1, 2] (wMO_mean ad cI cZ v_MO_size v_MO_loaded v_MO_at v_MO_fault v_MO_hasGiven v_MO_hasPicture v_MO_range v_MO_value v_MO_leaves v_msides v_mrow) rfl rfl rfl (by decide) rfl rfl (fun H locs hP hD hS => ?_)
          clear hc
          refine lv_iadd hx hb dMO_mean_33 ?_
          refine lv_iadd hx hb dMO_mean_34 ?_
          refine ip_top hf (fun z8 hf => ?_)
          refine lv_istore_n (lv' := [(3, .int z8), (0, .ref (ad 0)), (1, .int p1), (2, .int z1), (4, .int z3)]) hx hb dMO_mean_35 rfl hl (by decide) rfl (fun ls hl => ?_)
          refine ip_iinc (k0 := 4) (v0 := (1 : Int32)) (lv1 := fun z9 => [(4, .int z9), (3, .int z8), (0, .ref (ad 0)), (1, .int p1), (2, .int z1)]) hx hb dMO_mean_36 hl rfl (by decide) (by decide) (fun _ => rfl) hf (fun z9 ls hf hl => ?_)
          refine lv_goto (tgt := 12) hx hb dMO_mean_39 rfl ?_
          replace hl := lv_sub hl (l' := [(0, .ref (ad 0)), (1, .int p1), (2, .int z1), (3, .int z8), (4, .int z9)]) [2, 3, 4, 1, 0] rfl
          exact ih _ _ (ip_lp2_l hr12 hf) ls H locs hl hP hD hS
    exact L 1000 _ _ hL ls H locs hl hP hD hS
  intro ls H locs hl hP hD hS
  clear hL
  refine lv_iload_n hx hb dMO_mean_42 rfl (lv_at hl 1 rfl) ?_
  refine lv_iconst (v := (2 : Int32)) hx hb dMO_mean_43 (by decide) ?_
  refine lv_iload_n hx hb dMO_mean_44 rfl (lv_at hl 0 rfl) ?_
  refine lv_imul hx hb dMO_mean_45 ?_
  refine ip_idiv hx hb dMO_mean_46 hf (fun z10 hf => ?_)
  cases hf
  exact hret H locs 47 ls _ dMO_mean_47 rfl hP hD hS
