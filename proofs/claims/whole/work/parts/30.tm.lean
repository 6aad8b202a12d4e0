set_option maxHeartbeats 4000000 in
set_option maxRecDepth 100000 in
theorem tMO_held {l : Launch} {dC : Nat → ClassId} {dI : Nat → Nat → Nat} {cI cZ : ClassId} {ad : Nat → Nat} {ts : ip_TT}  {p1 : Int32} {p2 : Int32} {p3 : Int32} {r0 : Int32}  (hf : fMO_held p1 p2 p3 = some r0) : ip_Mi l yMO_held wsMO_held rmMO_held (dC, dI) vwCl [(cI, .int), (cZ, .boolean)] ts [.int p1, .int p2, .int p3] (wMO_held ad cI cZ) (wMO_held ad cI cZ) r0 := by
  refine ip_startI (cc := cMO_held) (maxL := 3) (by decide) rfl (Nat.le_of_ble_eq_true rfl) ?_
  intro p e s m args below meth c Q A ls hx hb hml hts hown hK hP hD hS hA hZ hl hret
  replace hl : lv_has ls 3 [(0, .int p1), (1, .int p2), (2, .int p3)] := hl
  unfold fMO_held at hf
  suffices J0 : ∀ (ls : Array Slot) (H : Heap) (locs : List Loc), lv_has ls 3 [(0, .int p1), (1, .int p2), (2, .int p3)] → va_P (dC, dI) vwCl (wMO_held ad cI cZ) H → va_D A (wMO_held ad cI cZ) → va_S A s.heap H locs → W p l e rmMO_held s m args below meth c H locs 0 0 Q (F0 m 0 ls []) by exact J0 ls s.heap [] hl hP hD hS
  clear hP hD hS hl
  intro ls H locs hl hP hD hS
  refine lv_iload_n hx hb dMO_held_0 rfl (lv_at hl 0 rfl) ?_
  refine lv_iload_n hx hb dMO_held_1 rfl (lv_at hl 1 rfl) ?_
  refine ip_icmp_ge (tgt := 9) hx hb dMO_held_2 rfl hf (fun hf => ?_) (fun hf => ?_)
  · refine lv_iload_n hx hb dMO_held_9 rfl (lv_at hl 0 rfl) ?_
    refine lv_iload_n hx hb dMO_held_10 rfl (lv_at hl 2 rfl) ?_
    refine ip_icmp_le (tgt := 18) hx hb dMO_held_11 rfl hf (fun hf => ?_) (fun hf => ?_)
    · refine lv_iload_n hx hb dMO_held_18 rfl (lv_at hl 0 rfl) ?_
      cases hf
      exact hret H locs 19 ls _ dMO_held_19 rfl hP hD hS
    · refine lv_iload_n hx hb dMO_held_14 rfl (lv_at hl 2 rfl) ?_
      refine lv_goto (tgt := 19) hx hb dMO_held_15 rfl ?_
      cases hf
      exact hret H locs 19 ls _ dMO_held_19 rfl hP hD hS
  · refine lv_iload_n hx hb dMO_held_5 rfl (lv_at hl 1 rfl) ?_
    refine lv_goto (tgt := 19) hx hb dMO_held_6 rfl ?_
    cases hf
    exact hret H locs 19 ls _ dMO_held_19 rfl hP hD hS
set_option maxHeartbeats 4000000 in
set_option maxRecDepth 100000 in
theorem tMO_feed {l : Launch} {dC : Nat → ClassId} {dI : Nat → Nat → Nat} {cI cZ : ClassId} {ad : Nat → Nat} {ts : ip_TT} {v_MO_size : Int32} {v_MO_loaded : Int32} {v_MO_at : Int32} {v_MO_fault : Int32} {v_MO_hasGiven : Int32} {v_MO_hasPicture : Int32} {v_MO_range : Int32} {v_MO_value : Int32} {v_MO_leaves : Int32} {v_mfed : Nat → Int32} {p1 : Int64} {p2 : Int32} {r0 : Int32} {nv_MO_size : Int32} {nv_mfed : Nat → Int32} (hf : fMO_feed v_MO_size v_MO_loaded v_MO_at v_MO_fault v_MO_hasGiven v_MO_hasPicture v_MO_range v_MO_value v_MO_leaves v_mfed p1 p2 = some (r0, nv_MO_size, nv_mfed)) : ip_Mi l yMO_feed wsMO_feed rmMO_feed (dC, dI) vwCl [(cI, .int), (cZ, .boolean)] ts [.ref (ad 0), .long p1, .int p2] (wMO_feed ad cI cZ v_MO_size v_MO_loaded v_MO_at v_MO_fault v_MO_hasGiven v_MO_hasPicture v_MO_range v_MO_value v_MO_leaves v_mfed) (wMO_feed ad cI cZ nv_MO_size v_MO_loaded v_MO_at v_MO_fault v_MO_hasGiven v_MO_hasPicture v_MO_range v_MO_value v_MO_leaves nv_mfed) r0 := by
  refine ip_startZ (cc := cMO_feed) (maxL := 5) (by decide) rfl (Nat.le_of_ble_eq_true rfl) ?_
  intro p e s m args below meth c Q A ls hx hb hml hts hown hK hP hD hS hA hZ hl hret
  replace hl : lv_has ls 5 [(0, .ref (ad 0)), (1, .long p1), (3, .int p2)] := hl
  unfold fMO_feed at hf
  suffices J0 : ∀ (ls : Array Slot) (H : Heap) (locs : List Loc), lv_has ls 5 [(0, .ref (ad 0)), (1, .long p1), (3, .int p2)] → va_P (dC, dI) vwCl (wMO_feed ad cI cZ v_MO_size v_MO_loaded v_MO_at v_MO_fault v_MO_hasGiven v_MO_hasPicture v_MO_range v_MO_value v_MO_leaves v_mfed) H → va_D A (wMO_feed ad cI cZ v_MO_size v_MO_loaded v_MO_at v_MO_fault v_MO_hasGiven v_MO_hasPicture v_MO_range v_MO_value v_MO_leaves v_mfed) → va_S A s.heap H locs → W p l e rmMO_feed s m args below meth c H locs 0 0 Q (F0 m 0 ls []) by exact J0 ls s.heap [] hl hP hD hS
  clear hP hD hS hl
  intro ls H locs hl hP hD hS
  refine lv_iload_n hx hb dMO_feed_0 rfl (lv_at hl 2 rfl) ?_
  refine lv_iconst (v := (1 : Int32)) hx hb dMO_feed_1 (by decide) ?_
  refine ip_icmp_lt (tgt := 23) hx hb dMO_feed_2 rfl hf (fun hf => ?_) (fun hf => ?_)
  · refine lv_iconst (v := (0 : Int32)) hx hb dMO_feed_23 (by decide) ?_
    cases hf
    exact hret H locs 24 ls _ dMO_feed_24 (Or.inl rfl) rfl hP hD hS
  · refine lv_iload_n hx hb dMO_feed_5 rfl (lv_at hl 2 rfl) ?_
    refine lv_bipush (v := (8 : Int32)) hx hb dMO_feed_6 (by decide) ?_
    refine ip_icmp_gt (tgt := 23) hx hb dMO_feed_8 rfl hf (fun hf => ?_) (fun hf => ?_)
    · refine lv_iconst (v := (0 : Int32)) hx hb dMO_feed_23 (by decide) ?_
      cases hf
      exact hret H locs 24 ls _ dMO_feed_24 (Or.inl rfl) rfl hP hD hS
    · refine lv_aload_n hx hb dMO_feed_11 rfl (lv_at hl 0 rfl) ?_
      refine va_get (D := (dC, dI)) (ci := 12) (v := .int v_MO_size) (C := kR_MO) (T := kT_MO) (N := 32) hx hb hts kin_MO hown hK hP 0 rfl rfl 1 (by decide) (hts _ (List.mem_cons_of_mem _ kw3_188)) (fun _ h9 => h9) rfl dMO_feed_12 ?_
      refine lv_iload_n hx hb dMO_feed_15 rfl (lv_at hl 2 rfl) ?_
      refine lv_iadd hx hb dMO_feed_16 ?_
      refine lv_sipush (v := (240 : Int32)) hx hb dMO_feed_17 (by decide) ?_
      refine ip_icmp_le (tgt := 25) hx hb dMO_feed_20 rfl hf (fun hf => ?_) (fun hf => ?_)
      · refine lv_iconst (v := (0 : Int32)) hx hb dMO_feed_25 (by decide) ?_
        refine lv_istore (lv' := [(4, .int (0 : Int32)), (0, .ref (ad 0)), (1, .long p1), (3, .int p2)]) hx hb dMO_feed_26 hl (by decide) rfl (fun ls hl => ?_)
        replace hl := lv_sub hl (l' := [(0, .ref (ad 0)), (1, .long p1), (3, .int p2), (4, .int (0 : Int32))]) [1, 2, 3, 0] rfl
        obtain ⟨x4, x5, y6, hL, hf⟩ := ip_b3_e hf
        suffices J71 : ∀ (ls : Array Slot) (H : Heap) (locs : List Loc), lv_has ls 5 [] → va_P (dC, dI) vwCl (wMO_feed ad cI cZ x5 v_MO_loaded v_MO_at v_MO_fault v_MO_hasGiven v_MO_hasPicture v_MO_range v_MO_value v_MO_leaves y6) H → va_D A (wMO_feed ad cI cZ x5 v_MO_loaded v_MO_at v_MO_fault v_MO_hasGiven v_MO_hasPicture v_MO_range v_MO_value v_MO_leaves y6) → va_S A s.heap H locs → W p l e rmMO_feed s m args below meth c H locs 0 0 Q (F0 m 71 ls []) by
          have L : ∀ (n : Nat) (z1 : Int32) (z2 : Int32) (g3 : Nat → Int32), ip_lp3 (fMO_feed_B28 p1 p2) n z1 z2 g3 = some (x4, x5, y6) → ∀ (ls : Array Slot) (H : Heap) (locs : List Loc), lv_has ls 5 [(0, .ref (ad 0)), (1, .long p1), (3, .int p2), (4, .int z1)] → va_P (dC, dI) vwCl (wMO_feed ad cI cZ z2 v_MO_loaded v_MO_at v_MO_fault v_MO_hasGiven v_MO_hasPicture v_MO_range v_MO_value v_MO_leaves g3) H → va_D A (wMO_feed ad cI cZ z2 v_MO_loaded v_MO_at v_MO_fault v_MO_hasGiven v_MO_hasPicture v_MO_range v_MO_value v_MO_leaves g3) → va_S A s.heap H locs → W p l e rmMO_feed s m args below meth c H locs 0 0 Q (F0 m 28 ls []) := by
            intro n
            induction n with
            | zero => intro z1 z2 g3 hL; exact (ip_lp3_0 hL).elim
            | succ n ih =>
              intro z1 z2 g3 hL ls H locs hl hP hD hS
              clear hf
              obtain ⟨r9, hf, hr28⟩ := ip_lp3_s hL
              clear hL
              unfold fMO_feed_B28 at hf
              refine lv_iload hx hb dMO_feed_28 (lv_at hl 3 rfl) ?_
              refine lv_iload_n hx hb dMO_feed_30 rfl (lv_at hl 2 rfl) ?_
              refine ip_icmp_ge (tgt := 71) hx hb dMO_feed_31 rfl hf (fun hf => ?_) (fun hf => ?_)
              · have hx9 := ip_lp_x hr28 hf
                replace hl := lv_sub hl (l' := []) [] rfl
                cases hx9
                exact J71 ls H locs hl hP hD hS
              · refine lv_aload_n hx hb dMO_feed_34 rfl (lv_at hl 0 rfl) ?_
                refine va_get (D := (dC, dI)) (ci := 12) (v := .ref (ad 1)) (C := kR_MO) (T := kT_MO) (N := 32) hx hb hts kin_MO hown hK hP 0 rfl rfl 0 (by decide) (hts _ (List.mem_cons_of_mem _ kw3_187)) (fun _ h9 => h9) rfl dMO_feed_35 ?_
                refine lv_aload_n hx hb dMO_feed_38 rfl (lv_at hl 0 rfl) ?_
                refine va_get (D := (dC, dI)) (ci := 12) (v := .int z2) (C := kR_MO) (T := kT_MO) (N := 32) hx hb hts kin_MO hown hK hP 0 rfl rfl 1 (by decide) (hts _ (List.mem_cons_of_mem _ kw3_188)) (fun _ h9 => h9) rfl dMO_feed_39 ?_
                refine lv_lload_n hx hb dMO_feed_42 rfl (lv_at hl 1 rfl) ?_
                refine lv_bipush (v := (8 : Int32)) hx hb dMO_feed_43 (by decide) ?_
                refine lv_iload hx hb dMO_feed_45 (lv_at hl 3 rfl) ?_
                refine lv_imul hx hb dMO_feed_47 ?_
                refine lv_lushr hx hb dMO_feed_48 rfl ?_
                refine lv_ldc2 (v := (255 : Int64)) hx hb hown (hts _ (List.mem_cons_of_mem _ kw4_49)) dMO_feed_49 ?_
                refine lv_land hx hb dMO_feed_52 ?_
                refine lv_l2i hx hb dMO_feed_53 rfl ?_
                refine ip_iast hx hb hK hP hD hS 1 0 rfl rfl (fun g7 => (wMO_feed ad cI cZ z2 v_MO_loaded v_MO_at v_MO_fault v_MO_hasGiven v_MO_hasPicture v_MO_range v_MO_value v_MO_leaves g7)) (fun _ => rfl) dMO_feed_54 hf (fun g7 H locs hf hP hD hS => ?_)
                refine lv_aload_n hx hb dMO_feed_55 rfl (lv_at hl 0 rfl) ?_
                refine lv_dup hx hb dMO_feed_56 rfl ?_
                refine va_get (D := (dC, dI)) (ci := 12) (v := .int z2) (C := kR_MO) (T := kT_MO) (N := 32) hx hb hts kin_MO hown hK hP 0 rfl rfl 1 (by decide) (hts _ (List.mem_cons_of_mem _ kw3_188)) (fun _ h9 => h9) rfl dMO_feed_57 ?_
                refine lv_iconst (v := (1 : Int32)) hx hb dMO_feed_60 (by decide) ?_
                refine lv_iadd hx hb dMO_feed_61 ?_
                refine ip_top hf (fun z8 hf => ?_)
                refine va_put (D := (dC, dI)) (ci := 12) (v := .int z8) (ty := .int) (C := kR_MO) (T := kT_MO) (N := 32) hx hb hts kin_MO kty_MO kto_MO knm_MO hown hK hP hD hS 0 rfl rfl 1 (by decide) (hts _ (List.mem_cons_of_mem _ kw3_188)) (fun _ h9 => h9) rfl (by decide +kernel) rfl rfl (Nat.le_of_ble_eq_true rfl) dMO_feed_62 (fun H locs hP hD hS => ?_)
                replace hP : va_P (dC, dI) vwCl (wMO_feed ad cI cZ z8 v_MO_loaded v_MO_at v_MO_fault v_MO_hasGiven v_MO_hasPicture v_MO_range v_MO_value v_MO_leaves g7) H := hP
                replace hD : va_D A (wMO_feed ad cI cZ z8 v_MO_loaded v_MO_at v_MO_fault v_MO_hasGiven v_MO_hasPicture v_MO_range v_MO_value v_MO_leaves g7) := hD
                refine ip_iinc (k0 := 3) (v0 := (1 : Int32)) (lv1 := fun z9 => [(4, .int z9), (0, .ref (ad 0)), (1, .long p1), (3, .int p2)]) hx hb dMO_feed_65 hl rfl (by decide) (by decide) (fun _ => rfl) hf (fun z9 ls hf hl => ?_)
                refine lv_goto (tgt := 28) hx hb dMO_feed_68 rfl ?_
                replace hl := lv_sub hl (l' := [(0, .ref (ad 0)), (1, .long p1), (3, .int p2), (4, .int z9)]) [1, 2, 3, 0] rfl
                exact ih _ _ _ (ip_lp3_l hr28 hf) ls H locs hl hP hD hS
          exact L 1000 _ _ _ hL ls H locs hl hP hD hS
        intro ls H locs hl hP hD hS
        clear hL
        refine lv_iconst (v := (1 : Int32)) hx hb dMO_feed_71 (by decide) ?_
        cases hf
        exact hret H locs 72 ls _ dMO_feed_72 (Or.inr rfl) rfl hP hD hS
      · refine lv_iconst (v := (0 : Int32)) hx hb dMO_feed_23 (by decide) ?_
        cases hf
        exact hret H locs 24 ls _ dMO_feed_24 (Or.inl rfl) rfl hP hD hS
set_option maxHeartbeats 4000000 in
set_option maxRecDepth 100000 in
theorem tMO_clear {l : Launch} {dC : Nat → ClassId} {dI : Nat → Nat → Nat} {cI cZ : ClassId} {ad : Nat → Nat} {ts : ip_TT} {v_MO_size : Int32} {v_MO_loaded : Int32} {v_MO_at : Int32} {v_MO_fault : Int32} {v_MO_hasGiven : Int32} {v_MO_hasPicture : Int32} {v_MO_range : Int32} {v_MO_value : Int32} {v_MO_leaves : Int32}  {nv_MO_size : Int32} {nv_MO_hasGiven : Int32} {nv_MO_hasPicture : Int32} (hf : fMO_clear v_MO_size v_MO_loaded v_MO_at v_MO_fault v_MO_hasGiven v_MO_hasPicture v_MO_range v_MO_value v_MO_leaves = some (nv_MO_size, nv_MO_hasGiven, nv_MO_hasPicture)) : ip_Mv l yMO_clear wsMO_clear rmMO_clear (dC, dI) vwCl [(cI, .int), (cZ, .boolean)] ts [.ref (ad 0)] (wMO_clear ad cI cZ v_MO_size v_MO_loaded v_MO_at v_MO_fault v_MO_hasGiven v_MO_hasPicture v_MO_range v_MO_value v_MO_leaves) (wMO_clear ad cI cZ nv_MO_size v_MO_loaded v_MO_at v_MO_fault nv_MO_hasGiven nv_MO_hasPicture v_MO_range v_MO_value v_MO_leaves) := by
  refine ip_startV (cc := cMO_clear) (maxL := 1) (by decide) rfl (Nat.le_of_ble_eq_true rfl) ?_
  intro p e s m args below meth c Q A ls hx hb hml hts hown hK hP hD hS hA hZ hl hret
  replace hl : lv_has ls 1 [(0, .ref (ad 0))] := hl
  unfold fMO_clear at hf
  suffices J0 : ∀ (ls : Array Slot) (H : Heap) (locs : List Loc), lv_has ls 1 [(0, .ref (ad 0))] → va_P (dC, dI) vwCl (wMO_clear ad cI cZ v_MO_size v_MO_loaded v_MO_at v_MO_fault v_MO_hasGiven v_MO_hasPicture v_MO_range v_MO_value v_MO_leaves) H → va_D A (wMO_clear ad cI cZ v_MO_size v_MO_loaded v_MO_at v_MO_fault v_MO_hasGiven v_MO_hasPicture v_MO_range v_MO_value v_MO_leaves) → va_S A s.heap H locs → W p l e rmMO_clear s m args below meth c H locs 0 0 Q (F0 m 0 ls []) by exact J0 ls s.heap [] hl hP hD hS
  clear hP hD hS hl
  intro ls H locs hl hP hD hS
  refine lv_aload_n hx hb dMO_clear_0 rfl (lv_at hl 0 rfl) ?_
  refine lv_iconst (v := (0 : Int32)) hx hb dMO_clear_1 (by decide) ?_
  refine va_put (D := (dC, dI)) (ci := 12) (v := .int (0 : Int32)) (ty := .int) (C := kR_MO) (T := kT_MO) (N := 32) hx hb hts kin_MO kty_MO kto_MO knm_MO hown hK hP hD hS 0 rfl rfl 1 (by decide) (hts _ (List.mem_cons_of_mem _ kw3_188)) (fun _ h9 => h9) rfl (by decide +kernel) rfl rfl (Nat.le_of_ble_eq_true rfl) dMO_clear_2 (fun H locs hP hD hS => ?_)
  replace hP : va_P (dC, dI) vwCl (wMO_clear ad cI cZ (0 : Int32) v_MO_loaded v_MO_at v_MO_fault v_MO_hasGiven v_MO_hasPicture v_MO_range v_MO_value v_MO_leaves) H := hP
  replace hD : va_D A (wMO_clear ad cI cZ (0 : Int32) v_MO_loaded v_MO_at v_MO_fault v_MO_hasGiven v_MO_hasPicture v_MO_range v_MO_value v_MO_leaves) := hD
  refine lv_aload_n hx hb dMO_clear_5 rfl (lv_at hl 0 rfl) ?_
  refine lv_iconst (v := (0 : Int32)) hx hb dMO_clear_6 (by decide) ?_
  refine va_put (D := (dC, dI)) (ci := 12) (v := .int (0 : Int32)) (ty := .boolean) (C := kR_MO) (T := kT_MO) (N := 32) hx hb hts kin_MO kty_MO kto_MO knm_MO hown hK hP hD hS 0 rfl rfl 8 (by decide) (hts _ (List.mem_cons_of_mem _ kw3_195)) (fun _ h9 => h9) rfl (by decide +kernel) rfl rfl (Nat.le_of_ble_eq_true rfl) dMO_clear_7 (fun H locs hP hD hS => ?_)
  replace hP : va_P (dC, dI) vwCl (wMO_clear ad cI cZ (0 : Int32) v_MO_loaded v_MO_at v_MO_fault (0 : Int32) v_MO_hasPicture v_MO_range v_MO_value v_MO_leaves) H := hP
  replace hD : va_D A (wMO_clear ad cI cZ (0 : Int32) v_MO_loaded v_MO_at v_MO_fault (0 : Int32) v_MO_hasPicture v_MO_range v_MO_value v_MO_leaves) := hD
  refine lv_aload_n hx hb dMO_clear_10 rfl (lv_at hl 0 rfl) ?_
  refine lv_iconst (v := (0 : Int32)) hx hb dMO_clear_11 (by decide) ?_
  refine va_put (D := (dC, dI)) (ci := 12) (v := .int (0 : Int32)) (ty := .boolean) (C := kR_MO) (T := kT_MO) (N := 32) hx hb hts kin_MO kty_MO kto_MO knm_MO hown hK hP hD hS 0 rfl rfl 9 (by decide) (hts _ (List.mem_cons_of_mem _ kw3_196)) (fun _ h9 => h9) rfl (by decide +kernel) rfl rfl (Nat.le_of_ble_eq_true rfl) dMO_clear_12 (fun H locs hP hD hS => ?_)
  replace hP : va_P (dC, dI) vwCl (wMO_clear ad cI cZ (0 : Int32) v_MO_loaded v_MO_at v_MO_fault (0 : Int32) (0 : Int32) v_MO_range v_MO_value v_MO_leaves) H := hP
  replace hD : va_D A (wMO_clear ad cI cZ (0 : Int32) v_MO_loaded v_MO_at v_MO_fault (0 : Int32) (0 : Int32) v_MO_range v_MO_value v_MO_leaves) := hD
  cases hf
  exact hret H locs 15 ls dMO_clear_15 hP hD hS
set_option maxHeartbeats 4000000 in
set_option maxRecDepth 100000 in
theorem tMO_start {l : Launch} {dC : Nat → ClassId} {dI : Nat → Nat → Nat} {cI cZ : ClassId} {ad : Nat → Nat} {ts : ip_TT} {v_MO_size : Int32} {v_MO_loaded : Int32} {v_MO_at : Int32} {v_MO_fault : Int32} {v_MO_hasGiven : Int32} {v_MO_hasPicture : Int32} {v_MO_range : Int32} {v_MO_value : Int32} {v_MO_leaves : Int32} {v_mfed : Nat → Int32} {p1 : Int32} {r0 : Int32}  (hf : fMO_start v_MO_size v_MO_loaded v_MO_at v_MO_fault v_MO_hasGiven v_MO_hasPicture v_MO_range v_MO_value v_MO_leaves v_mfed p1 = some r0) : ip_Mi l yMO_start wsMO_start rmMO_start (dC, dI) vwCl [(cI, .int), (cZ, .boolean)] ts [.ref (ad 0), .int p1] (wMO_start ad cI cZ v_MO_size v_MO_loaded v_MO_at v_MO_fault v_MO_hasGiven v_MO_hasPicture v_MO_range v_MO_value v_MO_leaves v_mfed) (wMO_start ad cI cZ v_MO_size v_MO_loaded v_MO_at v_MO_fault v_MO_hasGiven v_MO_hasPicture v_MO_range v_MO_value v_MO_leaves v_mfed) r0 := by
  refine ip_startI (cc := cMO_start) (maxL := 3) (by decide) rfl (Nat.le_of_ble_eq_true rfl) ?_
  intro p e s m args below meth c Q A ls hx hb hml hts hown hK hP hD hS hA hZ hl hret
  replace hl : lv_has ls 3 [(0, .ref (ad 0)), (1, .int p1)] := hl
  unfold fMO_start at hf
  suffices J0 : ∀ (ls : Array Slot) (H : Heap) (locs : List Loc), lv_has ls 3 [(0, .ref (ad 0)), (1, .int p1)] → va_P (dC, dI) vwCl (wMO_start ad cI cZ v_MO_size v_MO_loaded v_MO_at v_MO_fault v_MO_hasGiven v_MO_hasPicture v_MO_range v_MO_value v_MO_leaves v_mfed) H → va_D A (wMO_start ad cI cZ v_MO_size v_MO_loaded v_MO_at v_MO_fault v_MO_hasGiven v_MO_hasPicture v_MO_range v_MO_value v_MO_leaves v_mfed) → va_S A s.heap H locs → W p l e rmMO_start s m args below meth c H locs 0 0 Q (F0 m 0 ls []) by exact J0 ls s.heap [] hl hP hD hS
  clear hP hD hS hl
  intro ls H locs hl hP hD hS
  refine lv_iload_n hx hb dMO_start_0 rfl (lv_at hl 1 rfl) ?_
  refine lv_istore_n (lv' := [(2, .int p1), (0, .ref (ad 0)), (1, .int p1)]) hx hb dMO_start_1 rfl hl (by decide) rfl (fun ls hl => ?_)
  replace hl := lv_sub hl (l' := [(0, .ref (ad 0)), (2, .int p1)]) [1, 0] rfl
  obtain ⟨x2, hL, hf⟩ := ip_b1_e hf
  suffices J58 : ∀ (ls : Array Slot) (H : Heap) (locs : List Loc), lv_has ls 3 [(2, .int x2)] → va_P (dC, dI) vwCl (wMO_start ad cI cZ v_MO_size v_MO_loaded v_MO_at v_MO_fault v_MO_hasGiven v_MO_hasPicture v_MO_range v_MO_value v_MO_leaves v_mfed) H → va_D A (wMO_start ad cI cZ v_MO_size v_MO_loaded v_MO_at v_MO_fault v_MO_hasGiven v_MO_hasPicture v_MO_range v_MO_value v_MO_leaves v_mfed) → va_S A s.heap H locs → W p l e rmMO_start s m args below meth c H locs 0 0 Q (F0 m 58 ls []) by
    have L : ∀ (n : Nat) (z1 : Int32), ip_lp1 (fMO_start_B2 v_MO_size v_mfed) n z1 = some x2 → ∀ (ls : Array Slot) (H : Heap) (locs : List Loc), lv_has ls 3 [(0, .ref (ad 0)), (2, .int z1)] → va_P (dC, dI) vwCl (wMO_start ad cI cZ v_MO_size v_MO_loaded v_MO_at v_MO_fault v_MO_hasGiven v_MO_hasPicture v_MO_range v_MO_value v_MO_leaves v_mfed) H → va_D A (wMO_start ad cI cZ v_MO_size v_MO_loaded v_MO_at v_MO_fault v_MO_hasGiven v_MO_hasPicture v_MO_range v_MO_value v_MO_leaves v_mfed) → va_S A s.heap H locs → W p l e rmMO_start s m args below meth c H locs 0 0 Q (F0 m 2 ls []) := by
      intro n
      induction n with
      | zero => intro z1 hL; exact (ip_lp1_0 hL).elim
      | succ n ih =>
        intro z1 hL ls H locs hl hP hD hS
        clear hf
        obtain ⟨r9, hf, hr2⟩ := ip_lp1_s hL
        clear hL
        unfold fMO_start_B2 at hf
        refine lv_iload_n hx hb dMO_start_2 rfl (lv_at hl 1 rfl) ?_
        refine lv_aload_n hx hb dMO_start_3 rfl (lv_at hl 0 rfl) ?_
        refine va_get (D := (dC, dI)) (ci := 12) (v := .int v_MO_size) (C := kR_MO) (T := kT_MO) (N := 32) hx hb hts kin_MO hown hK hP 0 rfl rfl 1 (by decide) (hts _ (List.mem_cons_of_mem _ kw3_188)) (fun _ h9 => h9) rfl dMO_start_4 ?_
        refine ip_icmp_ge (tgt := 58) hx hb dMO_start_7 rfl hf (fun hf => ?_) (fun hf => ?_)
        · have hx9 := ip_lp_x hr2 hf
          replace hl := lv_sub hl (l' := [(2, .int z1)]) [1] rfl
          cases hx9
          exact J58 ls H locs hl hP hD hS
        · refine lv_iload_n hx hb dMO_start_10 rfl (lv_at hl 1 rfl) ?_
          refine lv_iconst (v := (2 : Int32)) hx hb dMO_start_11 (by decide) ?_
          refine lv_iadd hx hb dMO_start_12 ?_
          refine lv_aload_n hx hb dMO_start_13 rfl (lv_at hl 0 rfl) ?_
          refine va_get (D := (dC, dI)) (ci := 12) (v := .int v_MO_size) (C := kR_MO) (T := kT_MO) (N := 32) hx hb hts kin_MO hown hK hP 0 rfl rfl 1 (by decide) (hts _ (List.mem_cons_of_mem _ kw3_188)) (fun _ h9 => h9) rfl dMO_start_14 ?_
          refine ip_icmp_ge (tgt := 52) hx hb dMO_start_17 rfl hf (fun hf => ?_) (fun hf => ?_)
          · refine ip_iinc (k0 := 1) (v0 := (1 : Int32)) (lv1 := fun z3 => [(2, .int z3), (0, .ref (ad 0))]) hx hb dMO_start_52 hl rfl (by decide) (by decide) (fun _ => rfl) hf (fun z3 ls hf hl => ?_)
            refine lv_goto (tgt := 2) hx hb dMO_start_55 rfl ?_
            replace hl := lv_sub hl (l' := [(0, .ref (ad 0)), (2, .int z3)]) [1, 0] rfl
            exact ih _ (ip_lp1_l hr2 hf) ls H locs hl hP hD hS
          · refine lv_aload_n hx hb dMO_start_20 rfl (lv_at hl 0 rfl) ?_
            refine va_get (D := (dC, dI)) (ci := 12) (v := .ref (ad 1)) (C := kR_MO) (T := kT_MO) (N := 32) hx hb hts kin_MO hown hK hP 0 rfl rfl 0 (by decide) (hts _ (List.mem_cons_of_mem _ kw3_187)) (fun _ h9 => h9) rfl dMO_start_21 ?_
            refine lv_iload_n hx hb dMO_start_24 rfl (lv_at hl 1 rfl) ?_
            refine ip_iald hx hb hK hP 1 0 rfl rfl dMO_start_25 hf (fun z4 hf => ?_)
            refine ip_if_ne (tgt := 52) hx hb dMO_start_26 rfl hf (fun hf => ?_) (fun hf => ?_)
            · refine ip_iinc (k0 := 1) (v0 := (1 : Int32)) (lv1 := fun z5 => [(2, .int z5), (0, .ref (ad 0))]) hx hb dMO_start_52 hl rfl (by decide) (by decide) (fun _ => rfl) hf (fun z5 ls hf hl => ?_)
              refine lv_goto (tgt := 2) hx hb dMO_start_55 rfl ?_
              replace hl := lv_sub hl (l' := [(0, .ref (ad 0)), (2, .int z5)]) [1, 0] rfl
              exact ih _ (ip_lp1_l hr2 hf) ls H locs hl hP hD hS
            · refine lv_aload_n hx hb dMO_start_29 rfl (lv_at hl 0 rfl) ?_
              refine va_get (D := (dC, dI)) (ci := 12) (v := .ref (ad 1)) (C := kR_MO) (T := kT_MO) (N := 32) hx hb hts kin_MO hown hK hP 0 rfl rfl 0 (by decide) (hts _ (List.mem_cons_of_mem _ kw3_187)) (fun _ h9 => h9) rfl dMO_start_30 ?_
              refine lv_iload_n hx hb dMO_start_33 rfl (lv_at hl 1 rfl) ?_
              refine lv_iconst (v := (1 : Int32)) hx hb dMO_start_34 (by decide) ?_
              refine lv_iadd hx hb dMO_start_35 ?_
              refine ip_iald hx hb hK hP 1 0 rfl rfl dMO_start_36 hf (fun z6 hf => ?_)
              refine ip_if_ne (tgt := 52) hx hb dMO_start_37 rfl hf (fun hf => ?_) (fun hf => ?_)
              · refine ip_iinc (k0 := 1) (v0 := (1 : Int32)) (lv1 := fun z7 => [(2, .int z7), (0, .ref (ad 0))]) hx hb dMO_start_52 hl rfl (by decide) (by decide) (fun _ => rfl) hf (fun z7 ls hf hl => ?_)
                refine lv_goto (tgt := 2) hx hb dMO_start_55 rfl ?_
                replace hl := lv_sub hl (l' := [(0, .ref (ad 0)), (2, .int z7)]) [1, 0] rfl
                exact ih _ (ip_lp1_l hr2 hf) ls H locs hl hP hD hS
              · refine lv_aload_n hx hb dMO_start_40 rfl (lv_at hl 0 rfl) ?_
                refine va_get (D := (dC, dI)) (ci := 12) (v := .ref (ad 1)) (C := kR_MO) (T := kT_MO) (N := 32) hx hb hts kin_MO hown hK hP 0 rfl rfl 0 (by decide) (hts _ (List.mem_cons_of_mem _ kw3_187)) (fun _ h9 => h9) rfl dMO_start_41 ?_
                refine lv_iload_n hx hb dMO_start_44 rfl (lv_at hl 1 rfl) ?_
                refine lv_iconst (v := (2 : Int32)) hx hb dMO_start_45 (by decide) ?_
                refine lv_iadd hx hb dMO_start_46 ?_
                refine ip_iald hx hb hK hP 1 0 rfl rfl dMO_start_47 hf (fun z8 hf => ?_)
                refine lv_iconst (v := (1 : Int32)) hx hb dMO_start_48 (by decide) ?_
                refine ip_icmp_eq (tgt := 58) hx hb dMO_start_49 rfl hf (fun hf => ?_) (fun hf => ?_)
                · have hx9 := ip_lp_x hr2 hf
                  replace hl := lv_sub hl (l' := [(2, .int z1)]) [1] rfl
                  cases hx9
                  exact J58 ls H locs hl hP hD hS
                · refine ip_iinc (k0 := 1) (v0 := (1 : Int32)) (lv1 := fun z9 => [(2, .int z9), (0, .ref (ad 0))]) hx hb dMO_start_52 hl rfl (by decide) (by decide) (fun _ => rfl) hf (fun z9 ls hf hl => ?_)
                  refine lv_goto (tgt := 2) hx hb dMO_start_55 rfl ?_
                  replace hl := lv_sub hl (l' := [(0, .ref (ad 0)), (2, .int z9)]) [1, 0] rfl
                  exact ih _ (ip_lp1_l hr2 hf) ls H locs hl hP hD hS
    exact L 1000 _ hL ls H locs hl hP hD hS
  intro ls H locs hl hP hD hS
  clear hL
  refine lv_iload_n hx hb dMO_start_58 rfl (lv_at hl 0 rfl) ?_
  cases hf
  exact hret H locs 59 ls _ dMO_start_59 rfl hP hD hS
set_option maxHeartbeats 4000000 in
set_option maxRecDepth 100000 in
theorem tMO_units {l : Launch} {dC : Nat → ClassId} {dI : Nat → Nat → Nat} {cI cZ : ClassId} {ad : Nat → Nat} {ts : ip_TT} {v_MO_size : Int32} {v_MO_loaded : Int32} {v_MO_at : Int32} {v_MO_fault : Int32} {v_MO_hasGiven : Int32} {v_MO_hasPicture : Int32} {v_MO_range : Int32} {v_MO_value : Int32} {v_MO_leaves : Int32} {v_mfed : Nat → Int32}  {r0 : Int32}  (hf : fMO_units v_MO_size v_MO_loaded v_MO_at v_MO_fault v_MO_hasGiven v_MO_hasPicture v_MO_range v_MO_value v_MO_leaves v_mfed = some r0) : ip_Mi l yMO_units wsMO_units rmMO_units (dC, dI) vwCl [(cI, .int), (cZ, .boolean)] ts [.ref (ad 0)] (wMO_units ad cI cZ v_MO_size v_MO_loaded v_MO_at v_MO_fault v_MO_hasGiven v_MO_hasPicture v_MO_range v_MO_value v_MO_leaves v_mfed) (wMO_units ad cI cZ v_MO_size v_MO_loaded v_MO_at v_MO_fault v_MO_hasGiven v_MO_hasPicture v_MO_range v_MO_value v_MO_leaves v_mfed) r0 := by
  refine ip_startI (cc := cMO_units) (maxL := 3) (by decide) rfl (Nat.le_of_ble_eq_true rfl) ?_
  intro p e s m args below meth c Q A ls hx hb hml hts hown hK hP hD hS hA hZ hl hret
  replace hl : lv_has ls 3 [(0, .ref (ad 0))] := hl
  unfold fMO_units at hf
  suffices J0 : ∀ (ls : Array Slot) (H : Heap) (locs : List Loc), lv_has ls 3 [(0, .ref (ad 0))] → va_P (dC, dI) vwCl (wMO_units ad cI cZ v_MO_size v_MO_loaded v_MO_at v_MO_fault v_MO_hasGiven v_MO_hasPicture v_MO_range v_MO_value v_MO_leaves v_mfed) H → va_D A (wMO_units ad cI cZ v_MO_size v_MO_loaded v_MO_at v_MO_fault v_MO_hasGiven v_MO_hasPicture v_MO_range v_MO_value v_MO_leaves v_mfed) → va_S A s.heap H locs → W p l e rmMO_units s m args below meth c H locs 0 0 Q (F0 m 0 ls []) by exact J0 ls s.heap [] hl hP hD hS
  clear hP hD hS hl
  intro ls H locs hl hP hD hS
  refine lv_iconst (v := (0 : Int32)) hx hb dMO_units_0 (by decide) ?_
  refine lv_istore_n (lv' := [(1, .int (0 : Int32)), (0, .ref (ad 0))]) hx hb dMO_units_1 rfl hl (by decide) rfl (fun ls hl => ?_)
  refine lv_aload_n hx hb dMO_units_2 rfl (lv_at hl 1 rfl) ?_
  refine lv_iconst (v := (0 : Int32)) hx hb dMO_units_3 (by decide) ?_
  obtain ⟨z1, hc, hf⟩ := ip_b1_e hf
  refine ip_calli (va_runV (As := [.int (0 : Int32)]) (rest := []) ⟨hx, hb, hml, hown, hts⟩ (tMO_start (l := l) (dC := dC) (dI := dI) (ad := ad) (cI := cI) (ts := ts) (cZ := cZ) hc H.size) (cwV 1 hts (ip_gdV (own := kR_MO) (idx := 93) (C := kR_MO) (y := yMO_start) kw4_58 kw4_60 kws_36 kw1_13 kw4_61) rfl rfl rfl (by decide +kernel) ⟨Nat.le_of_ble_eq_true rfl, Nat.le_of_ble_eq_true rfl⟩) (ip_preV hK hP hD hS hA hZ [0, 1] rfl rfl (ci := 12) (q0 := 0) rfl rfl) rfl rfl hl.1 rfl (lv_room (Nat.le_of_ble_eq_true rfl)) dMO_units_4 ⟨Nat.le_of_ble_eq_true rfl, Nat.le_of_ble_eq_true rfl⟩) hP hD hS hA [0, 1] [] [0, 1] (wMO_units ad cI cZ v_MO_size v_MO_loaded v_MO_at v_MO_fault v_MO_hasGiven v_MO_hasPicture v_MO_range v_MO_value v_MO_leaves v_mfed) rfl rfl rfl (by decide) rfl rfl (fun H locs hP hD hS => ?_)
  clear hc
  refine lv_istore_n (lv' := [(2, .int z1), (1, .int (0 : Int32)), (0, .ref (ad 0))]) hx hb dMO_units_7 rfl hl (by decide) rfl (fun ls hl => ?_)
  replace hl := lv_sub hl (l' := [(0, .ref (ad 0)), (1, .int (0 : Int32)), (2, .int z1)]) [2, 1, 0] rfl
  obtain ⟨x4, x5, hL, hf⟩ := ip_b2_e hf
  suffices J30 : ∀ (ls : Array Slot) (H : Heap) (locs : List Loc), lv_has ls 3 [(1, .int x4)] → va_P (dC, dI) vwCl (wMO_units ad cI cZ v_MO_size v_MO_loaded v_MO_at v_MO_fault v_MO_hasGiven v_MO_hasPicture v_MO_range v_MO_value v_MO_leaves v_mfed) H → va_D A (wMO_units ad cI cZ v_MO_size v_MO_loaded v_MO_at v_MO_fault v_MO_hasGiven v_MO_hasPicture v_MO_range v_MO_value v_MO_leaves v_mfed) → va_S A s.heap H locs → W p l e rmMO_units s m args below meth c H locs 0 0 Q (F0 m 30 ls []) by
    have L : ∀ (n : Nat) (z2 : Int32) (z3 : Int32), ip_lp2 (fMO_units_B8 v_MO_size v_MO_loaded v_MO_at v_MO_fault v_MO_hasGiven v_MO_hasPicture v_MO_range v_MO_value v_MO_leaves v_mfed) n z2 z3 = some (x4, x5) → ∀ (ls : Array Slot) (H : Heap) (locs : List Loc), lv_has ls 3 [(0, .ref (ad 0)), (1, .int z2), (2, .int z3)] → va_P (dC, dI) vwCl (wMO_units ad cI cZ v_MO_size v_MO_loaded v_MO_at v_MO_fault v_MO_hasGiven v_MO_hasPicture v_MO_range v_MO_value v_MO_leaves v_mfed) H → va_D A (wMO_units ad cI cZ v_MO_size v_MO_loaded v_MO_at v_MO_fault v_MO_hasGiven v_MO_hasPicture v_MO_range v_MO_value v_MO_leaves v_mfed) → va_S A s.heap H locs → W p l e rmMO_units s m args below meth c H locs 0 0 Q (F0 m 8 ls []) := by
      intro n
      induction n with
      | zero => intro z2 z3 hL; exact (ip_lp2_0 hL).elim
      | succ n ih =>
        intro z2 z3 hL ls H locs hl hP hD hS
        clear hf
        obtain ⟨r9, hf, hr8⟩ := ip_lp2_s hL
        clear hL
        unfold fMO_units_B8 at hf
        refine lv_iload_n hx hb dMO_units_8 rfl (lv_at hl 2 rfl) ?_
        refine lv_aload_n hx hb dMO_units_9 rfl (lv_at hl 0 rfl) ?_
        refine va_get (D := (dC, dI)) (ci := 12) (v := .int v_MO_size) (C := kR_MO) (T := kT_MO) (N := 32) hx hb hts kin_MO hown hK hP 0 rfl rfl 1 (by decide) (hts _ (List.mem_cons_of_mem _ kw3_188)) (fun _ h9 => h9) rfl dMO_units_10 ?_
        refine ip_icmp_ge (tgt := 30) hx hb dMO_units_13 rfl hf (fun hf => ?_) (fun hf => ?_)
        · have hx9 := ip_lp_x hr8 hf
          replace hl := lv_sub hl (l' := [(1, .int z2)]) [1] rfl
          cases hx9
          exact J30 ls H locs hl hP hD hS
        · refine ip_iinc (k0 := 1) (v0 := (1 : Int32)) (lv1 := fun z6 => [(1, .int z6), (0, .ref (ad 0)), (2, .int z3)]) hx hb dMO_units_16 hl rfl (by decide) (by decide) (fun _ => rfl) hf (fun z6 ls hf hl => ?_)
          refine lv_aload_n hx hb dMO_units_19 rfl (lv_at hl 1 rfl) ?_
          refine lv_iload_n hx hb dMO_units_20 rfl (lv_at hl 2 rfl) ?_
          refine lv_iconst (v := (3 : Int32)) hx hb dMO_units_21 (by decide) ?_
          refine lv_iadd hx hb dMO_units_22 ?_
          obtain ⟨z7, hc, hf⟩ := ip_b1_e hf
          refine ip_calli (va_runV (As := [.int (z3 + (3 : Int32))]) (rest := []) ⟨hx, hb, hml, hown, hts⟩ (tMO_start (l := l) (dC := dC) (dI := dI) (ad := ad) (cI := cI) (ts := ts) (cZ := cZ) hc H.size) (cwV 1 hts (ip_gdV (own := kR_MO) (idx := 93) (C := kR_MO) (y := yMO_start) kw4_58 kw4_60 kws_36 kw1_13 kw4_61) rfl rfl rfl (by decide +kernel) ⟨Nat.le_of_ble_eq_true rfl, Nat.le_of_ble_eq_true rfl⟩) (ip_preV hK hP hD hS hA hZ [0, 1] rfl rfl (ci := 12) (q0 := 0) rfl rfl) rfl rfl hl.1 rfl (lv_room (Nat.le_of_ble_eq_true rfl)) dMO_units_23 ⟨Nat.le_of_ble_eq_true rfl, Nat.le_of_ble_eq_true rfl⟩) hP hD hS hA [0, 1] [] [0, 1] (wMO_units ad cI cZ v_MO_size v_MO_loaded v_MO_at v_MO_fault v_MO_hasGiven v_MO_hasPicture v_MO_range v_MO_value v_MO_leaves v_mfed) rfl rfl rfl (by decide) rfl rfl (fun H locs hP hD hS => ?_)
          clear hc
          refine lv_istore_n (lv' := [(2, .int z7), (1, .int z6), (0, .ref (ad 0))]) hx hb dMO_units_26 rfl hl (by decide) rfl (fun ls hl => ?_)
          refine lv_goto (tgt := 8) hx hb dMO_units_27 rfl ?_
          replace hl := lv_sub hl (l' := [(0, .ref (ad 0)), (1, .int z6), (2, .int z7)]) [2, 1, 0] rfl
          exact ih _ _ (ip_lp2_l hr8 hf) ls H locs hl hP hD hS
    exact L 1000 _ _ hL ls H locs hl hP hD hS
  intro ls H locs hl hP hD hS
  clear hL
  refine lv_iload_n hx hb dMO_units_30 rfl (lv_at hl 0 rfl) ?_
  cases hf
  exact hret H locs 31 ls _ dMO_units_31 rfl hP hD hS
set_option maxHeartbeats 4000000 in
set_option maxRecDepth 100000 in
theorem tMO_open {l : Launch} {dC : Nat → ClassId} {dI : Nat → Nat → Nat} {cI cZ : ClassId} {ad : Nat → Nat} {ts : ip_TT} {v_MO_size : Int32} {v_MO_loaded : Int32} {v_MO_at : Int32} {v_MO_fault : Int32} {v_MO_hasGiven : Int32} {v_MO_hasPicture : Int32} {v_MO_range : Int32} {v_MO_value : Int32} {v_MO_leaves : Int32} {v_mfed : Nat → Int32} {v_mload : Nat → Int32} {p1 : Int32} {r0 : Int32} {nv_MO_loaded : Int32} {nv_mload : Nat → Int32} (hf : fMO_open v_MO_size v_MO_loaded v_MO_at v_MO_fault v_MO_hasGiven v_MO_hasPicture v_MO_range v_MO_value v_MO_leaves v_mfed v_mload p1 = some (r0, nv_MO_loaded, nv_mload)) : ip_Mi l yMO_open wsMO_open rmMO_open (dC, dI) vwCl [(cI, .int), (cZ, .boolean)] ts [.ref (ad 0), .int p1] (wMO_open ad cI cZ v_MO_size v_MO_loaded v_MO_at v_MO_fault v_MO_hasGiven v_MO_hasPicture v_MO_range v_MO_value v_MO_leaves v_mfed v_mload) (wMO_open ad cI cZ v_MO_size nv_MO_loaded v_MO_at v_MO_fault v_MO_hasGiven v_MO_hasPicture v_MO_range v_MO_value v_MO_leaves v_mfed nv_mload) r0 := by
  refine ip_startZ (cc := cMO_open) (maxL := 7) (by decide) rfl (Nat.le_of_ble_eq_true rfl) ?_
  intro p e s m args below meth c Q A ls hx hb hml hts hown hK hP hD hS hA hZ hl hret
  replace hl : lv_has ls 7 [(0, .ref (ad 0)), (1, .int p1)] := hl
  unfold fMO_open at hf
  suffices J0 : ∀ (ls : Array Slot) (H : Heap) (locs : List Loc), lv_has ls 7 [(0, .ref (ad 0)), (1, .int p1)] → va_P (dC, dI) vwCl (wMO_open ad cI cZ v_MO_size v_MO_loaded v_MO_at v_MO_fault v_MO_hasGiven v_MO_hasPicture v_MO_range v_MO_value v_MO_leaves v_mfed v_mload) H → va_D A (wMO_open ad cI cZ v_MO_size v_MO_loaded v_MO_at v_MO_fault v_MO_hasGiven v_MO_hasPicture v_MO_range v_MO_value v_MO_leaves v_mfed v_mload) → va_S A s.heap H locs → W p l e rmMO_open s m args below meth c H locs 0 0 Q (F0 m 0 ls []) by exact J0 ls s.heap [] hl hP hD hS
  clear hP hD hS hl
  intro ls H locs hl hP hD hS
  refine lv_iload_n hx hb dMO_open_0 rfl (lv_at hl 1 rfl) ?_
  refine ip_if_lt (tgt := 12) hx hb dMO_open_1 rfl hf (fun hf => ?_) (fun hf => ?_)
  · refine lv_iconst (v := (0 : Int32)) hx hb dMO_open_12 (by decide) ?_
    cases hf
    exact hret H locs 13 ls _ dMO_open_13 (Or.inl rfl) rfl hP hD hS
  · refine lv_iload_n hx hb dMO_open_4 rfl (lv_at hl 1 rfl) ?_
    refine lv_aload_n hx hb dMO_open_5 rfl (lv_at hl 0 rfl) ?_
    obtain ⟨z1, hc, hf⟩ := ip_b1_e hf
    refine ip_calli (va_runV (As := []) (rest := [.int p1]) ⟨hx, hb, hml, hown, hts⟩ (tMO_units (l := l) (dC := dC) (dI := dI) (ad := ad) (cI := cI) (ts := ts) (cZ := cZ) hc H.size) (cwV 0 hts (ip_gdV (own := kR_MO) (idx := 97) (C := kR_MO) (y := yMO_units) kw4_70 kw4_55 kw4_56 kw1_13 kw4_57) rfl rfl rfl (by decide +kernel) ⟨Nat.le_of_ble_eq_true rfl, Nat.le_of_ble_eq_true rfl⟩) (ip_preV hK hP hD hS hA hZ [0, 1] rfl rfl (ci := 12) (q0 := 0) rfl rfl) rfl rfl hl.1 rfl (lv_room (Nat.le_of_ble_eq_true rfl)) dMO_open_6 ⟨Nat.le_of_ble_eq_true rfl, Nat.le_of_ble_eq_true rfl⟩) hP hD hS hA [0, 1] [2] [1, 2, 0] (wMO_open ad cI cZ v_MO_size v_MO_loaded v_MO_at v_MO_fault v_MO_hasGiven v_MO_hasPicture v_MO_range v_MO_value v_MO_leaves v_mfed v_mload) rfl rfl rfl (by decide) rfl rfl (fun H locs hP hD hS => ?_)
    clear hc
    refine ip_icmp_lt (tgt := 14) hx hb dMO_open_9 rfl hf (fun hf => ?_) (fun hf => ?_)
    · refine lv_aload_n hx hb dMO_open_14 rfl (lv_at hl 0 rfl) ?_
      refine lv_iconst (v := (0 : Int32)) hx hb dMO_open_15 (by decide) ?_
      obtain ⟨z2, hc, hf⟩ := ip_b1_e hf
      refine ip_calli (va_runV (As := [.int (0 : Int32)]) (rest := []) ⟨hx, hb, hml, hown, hts⟩ (tMO_start (l := l) (dC := dC) (dI := dI) (ad := ad) (cI := cI) (ts := ts) (cZ := cZ) hc H.size) (cwV 1 hts (ip_gdV (own := kR_MO) (idx := 93) (C := kR_MO) (y := yMO_start) kw4_58 kw4_60 kws_36 kw1_13 kw4_61) rfl rfl rfl (by decide +kernel) ⟨Nat.le_of_ble_eq_true rfl, Nat.le_of_ble_eq_true rfl⟩) (ip_preV hK hP hD hS hA hZ [0, 1] rfl rfl (ci := 12) (q0 := 0) rfl rfl) rfl rfl hl.1 rfl (lv_room (Nat.le_of_ble_eq_true rfl)) dMO_open_16 ⟨Nat.le_of_ble_eq_true rfl, Nat.le_of_ble_eq_true rfl⟩) hP hD hS hA [0, 1] [2] [1, 2, 0] (wMO_open ad cI cZ v_MO_size v_MO_loaded v_MO_at v_MO_fault v_MO_hasGiven v_MO_hasPicture v_MO_range v_MO_value v_MO_leaves v_mfed v_mload) rfl rfl rfl (by decide) rfl rfl (fun H locs hP hD hS => ?_)
      clear hc
      refine lv_istore_n (lv' := [(2, .int z2), (0, .ref (ad 0)), (1, .int p1)]) hx hb dMO_open_19 rfl hl (by decide) rfl (fun ls hl => ?_)
      refine lv_iconst (v := (0 : Int32)) hx hb dMO_open_20 (by decide) ?_
      refine lv_istore_n (lv' := [(3, .int (0 : Int32)), (2, .int z2), (0, .ref (ad 0)), (1, .int p1)]) hx hb dMO_open_21 rfl hl (by decide) rfl (fun ls hl => ?_)
      replace hl := lv_sub hl (l' := [(0, .ref (ad 0)), (1, .int p1), (2, .int z2), (3, .int (0 : Int32))]) [2, 3, 1, 0] rfl
      obtain ⟨x5, x6, hL, hf⟩ := ip_b2_e hf
      suffices J41 : ∀ (ls : Array Slot) (H : Heap) (locs : List Loc), lv_has ls 7 [(0, .ref (ad 0)), (2, .int x5)] → va_P (dC, dI) vwCl (wMO_open ad cI cZ v_MO_size v_MO_loaded v_MO_at v_MO_fault v_MO_hasGiven v_MO_hasPicture v_MO_range v_MO_value v_MO_leaves v_mfed v_mload) H → va_D A (wMO_open ad cI cZ v_MO_size v_MO_loaded v_MO_at v_MO_fault v_MO_hasGiven v_MO_hasPicture v_MO_range v_MO_value v_MO_leaves v_mfed v_mload) → va_S A s.heap H locs → W p l e rmMO_open s m args below meth c H locs 0 0 Q (F0 m 41 ls []) by
        have L : ∀ (n : Nat) (z3 : Int32) (z4 : Int32), ip_lp2 (fMO_open_B22 v_MO_size v_MO_loaded v_MO_at v_MO_fault v_MO_hasGiven v_MO_hasPicture v_MO_range v_MO_value v_MO_leaves v_mfed p1) n z3 z4 = some (x5, x6) → ∀ (ls : Array Slot) (H : Heap) (locs : List Loc), lv_has ls 7 [(0, .ref (ad 0)), (1, .int p1), (2, .int z3), (3, .int z4)] → va_P (dC, dI) vwCl (wMO_open ad cI cZ v_MO_size v_MO_loaded v_MO_at v_MO_fault v_MO_hasGiven v_MO_hasPicture v_MO_range v_MO_value v_MO_leaves v_mfed v_mload) H → va_D A (wMO_open ad cI cZ v_MO_size v_MO_loaded v_MO_at v_MO_fault v_MO_hasGiven v_MO_hasPicture v_MO_range v_MO_value v_MO_leaves v_mfed v_mload) → va_S A s.heap H locs → W p l e rmMO_open s m args below meth c H locs 0 0 Q (F0 m 22 ls []) := by
          intro n
          induction n with
          | zero => intro z3 z4 hL; exact (ip_lp2_0 hL).elim
          | succ n ih =>
            intro z3 z4 hL ls H locs hl hP hD hS
            clear hf
            obtain ⟨r9, hf, hr22⟩ := ip_lp2_s hL
            clear hL
            unfold fMO_open_B22 at hf
            refine lv_iload_n hx hb dMO_open_22 rfl (lv_at hl 3 rfl) ?_
            refine lv_iload_n hx hb dMO_open_23 rfl (lv_at hl 1 rfl) ?_
            refine ip_icmp_ge (tgt := 41) hx hb dMO_open_24 rfl hf (fun hf => ?_) (fun hf => ?_)
            · have hx9 := ip_lp_x hr22 hf
              replace hl := lv_sub hl (l' := [(0, .ref (ad 0)), (2, .int z3)]) [0, 2] rfl
              cases hx9
              exact J41 ls H locs hl hP hD hS
            · refine lv_aload_n hx hb dMO_open_27 rfl (lv_at hl 0 rfl) ?_
              refine lv_iload_n hx hb dMO_open_28 rfl (lv_at hl 2 rfl) ?_
              refine lv_iconst (v := (3 : Int32)) hx hb dMO_open_29 (by decide) ?_
              refine lv_iadd hx hb dMO_open_30 ?_
              obtain ⟨z7, hc, hf⟩ := ip_b1_e hf
              refine ip_calli (va_runV (As := [.int (z3 + (3 : Int32))]) (rest := []) ⟨hx, hb, hml, hown, hts⟩ (tMO_start (l := l) (dC := dC) (dI := dI) (ad := ad) (cI := cI) (ts := ts) (cZ := cZ) hc H.size) (cwV 1 hts (ip_gdV (own := kR_MO) (idx := 93) (C := kR_MO) (y := yMO_start) kw4_58 kw4_60 kws_36 kw1_13 kw4_61) rfl rfl rfl (by decide +kernel) ⟨Nat.le_of_ble_eq_true rfl, Nat.le_of_ble_eq_true rfl⟩) (ip_preV hK hP hD hS hA hZ [0, 1] rfl rfl (ci := 12) (q0 := 0) rfl rfl) rfl rfl hl.1 rfl (lv_room (Nat.le_of_ble_eq_true rfl)) dMO_open_31 ⟨Nat.le_of_ble_eq_true rfl, Nat.le_of_ble_eq_true rfl⟩) hP hD hS hA [0, 1] [2] [1, 2, 0] (wMO_open ad cI cZ v_MO_size v_MO_loaded v_MO_at v_MO_fault v_MO_hasGiven v_MO_hasPicture v_MO_range v_MO_value v_MO_leaves v_mfed v_mload) rfl rfl rfl (by decide) rfl rfl (fun H locs hP hD hS => ?_)
              clear hc
              refine lv_istore_n (lv' := [(2, .int z7), (0, .ref (ad 0)), (1, .int p1), (3, .int z4)]) hx hb dMO_open_34 rfl hl (by decide) rfl (fun ls hl => ?_)
              refine ip_iinc (k0 := 3) (v0 := (1 : Int32)) (lv1 := fun z8 => [(3, .int z8), (2, .int z7), (0, .ref (ad 0)), (1, .int p1)]) hx hb dMO_open_35 hl rfl (by decide) (by decide) (fun _ => rfl) hf (fun z8 ls hf hl => ?_)
              refine lv_goto (tgt := 22) hx hb dMO_open_38 rfl ?_
              replace hl := lv_sub hl (l' := [(0, .ref (ad 0)), (1, .int p1), (2, .int z7), (3, .int z8)]) [2, 3, 1, 0] rfl
              exact ih _ _ (ip_lp2_l hr22 hf) ls H locs hl hP hD hS
        exact L 1000 _ _ hL ls H locs hl hP hD hS
      intro ls H locs hl hP hD hS
      clear hL
      refine lv_aload_n hx hb dMO_open_41 rfl (lv_at hl 0 rfl) ?_
      refine lv_iload_n hx hb dMO_open_42 rfl (lv_at hl 1 rfl) ?_
      refine lv_iconst (v := (3 : Int32)) hx hb dMO_open_43 (by decide) ?_
      refine lv_iadd hx hb dMO_open_44 ?_
      obtain ⟨z9, hc, hf⟩ := ip_b1_e hf
      refine ip_calli (va_runV (As := [.int (x5 + (3 : Int32))]) (rest := []) ⟨hx, hb, hml, hown, hts⟩ (tMO_start (l := l) (dC := dC) (dI := dI) (ad := ad) (cI := cI) (ts := ts) (cZ := cZ) hc H.size) (cwV 1 hts (ip_gdV (own := kR_MO) (idx := 93) (C := kR_MO) (y := yMO_start) kw4_58 kw4_60 kws_36 kw1_13 kw4_61) rfl rfl rfl (by decide +kernel) ⟨Nat.le_of_ble_eq_true rfl, Nat.le_of_ble_eq_true rfl⟩) (ip_preV hK hP hD hS hA hZ [0, 1] rfl rfl (ci := 12) (q0 := 0) rfl rfl) rfl rfl hl.1 rfl (lv_room (Nat.le_of_ble_eq_true rfl)) dMO_open_45 ⟨Nat.le_of_ble_eq_true rfl, Nat.le_of_ble_eq_true rfl⟩) hP hD hS hA [0, 1] [2] [1, 2, 0] (wMO_open ad cI cZ v_MO_size v_MO_loaded v_MO_at v_MO_fault v_MO_hasGiven v_MO_hasPicture v_MO_range v_MO_value v_MO_leaves v_mfed v_mload) rfl rfl rfl (by decide) rfl rfl (fun H locs hP hD hS => ?_)
      clear hc
      refine lv_istore_n (lv' := [(3, .int z9), (0, .ref (ad 0)), (2, .int x5)]) hx hb dMO_open_48 rfl hl (by decide) rfl (fun ls hl => ?_)
      refine lv_iconst (v := (0 : Int32)) hx hb dMO_open_49 (by decide) ?_
      refine lv_istore (lv' := [(4, .int (0 : Int32)), (3, .int z9), (0, .ref (ad 0)), (2, .int x5)]) hx hb dMO_open_50 hl (by decide) rfl (fun ls hl => ?_)
      refine lv_aload_n hx hb dMO_open_52 rfl (lv_at hl 2 rfl) ?_
      refine lv_iconst (v := (0 : Int32)) hx hb dMO_open_53 (by decide) ?_
      refine va_put (D := (dC, dI)) (ci := 12) (v := .int (0 : Int32)) (ty := .int) (C := kR_MO) (T := kT_MO) (N := 32) hx hb hts kin_MO kty_MO kto_MO knm_MO hown hK hP hD hS 0 rfl rfl 3 (by decide) (hts _ (List.mem_cons_of_mem _ kw3_190)) (fun _ h9 => h9) rfl (by decide +kernel) rfl rfl (Nat.le_of_ble_eq_true rfl) dMO_open_54 (fun H locs hP hD hS => ?_)
      replace hP : va_P (dC, dI) vwCl (wMO_open ad cI cZ v_MO_size (0 : Int32) v_MO_at v_MO_fault v_MO_hasGiven v_MO_hasPicture v_MO_range v_MO_value v_MO_leaves v_mfed v_mload) H := hP
      replace hD : va_D A (wMO_open ad cI cZ v_MO_size (0 : Int32) v_MO_at v_MO_fault v_MO_hasGiven v_MO_hasPicture v_MO_range v_MO_value v_MO_leaves v_mfed v_mload) := hD
      refine lv_iload_n hx hb dMO_open_57 rfl (lv_at hl 3 rfl) ?_
      refine lv_iconst (v := (3 : Int32)) hx hb dMO_open_58 (by decide) ?_
      refine lv_iadd hx hb dMO_open_59 ?_
      refine ip_top hf (fun z10 hf => ?_)
      refine lv_istore (lv' := [(5, .int z10), (4, .int (0 : Int32)), (3, .int z9), (0, .ref (ad 0)), (2, .int x5)]) hx hb dMO_open_60 hl (by decide) rfl (fun ls hl => ?_)
      replace hl := lv_sub hl (l' := [(0, .ref (ad 0)), (3, .int z9), (4, .int (0 : Int32)), (5, .int z10)]) [3, 2, 1, 0] rfl
      obtain ⟨x15, x16, x17, y18, hL, hf⟩ := ip_b4_e hf
      suffices J154 : ∀ (ls : Array Slot) (H : Heap) (locs : List Loc), lv_has ls 7 [] → va_P (dC, dI) vwCl (wMO_open ad cI cZ v_MO_size x17 v_MO_at v_MO_fault v_MO_hasGiven v_MO_hasPicture v_MO_range v_MO_value v_MO_leaves v_mfed y18) H → va_D A (wMO_open ad cI cZ v_MO_size x17 v_MO_at v_MO_fault v_MO_hasGiven v_MO_hasPicture v_MO_range v_MO_value v_MO_leaves v_mfed y18) → va_S A s.heap H locs → W p l e rmMO_open s m args below meth c H locs 0 0 Q (F0 m 154 ls []) by
        have L : ∀ (n : Nat) (z11 : Int32) (z12 : Int32) (z13 : Int32) (g14 : Nat → Int32), ip_lp4 (fMO_open_B62 v_mfed z9) n z11 z12 z13 g14 = some (x15, x16, x17, y18) → ∀ (ls : Array Slot) (H : Heap) (locs : List Loc), lv_has ls 7 [(0, .ref (ad 0)), (3, .int z9), (4, .int z11), (5, .int z12)] → va_P (dC, dI) vwCl (wMO_open ad cI cZ v_MO_size z13 v_MO_at v_MO_fault v_MO_hasGiven v_MO_hasPicture v_MO_range v_MO_value v_MO_leaves v_mfed g14) H → va_D A (wMO_open ad cI cZ v_MO_size z13 v_MO_at v_MO_fault v_MO_hasGiven v_MO_hasPicture v_MO_range v_MO_value v_MO_leaves v_mfed g14) → va_S A s.heap H locs → W p l e rmMO_open s m args below meth c H locs 0 0 Q (F0 m 62 ls []) := by
          intro n
          induction n with
          | zero => intro z11 z12 z13 g14 hL; exact (ip_lp4_0 hL).elim
          | succ n ih =>
            intro z11 z12 z13 g14 hL ls H locs hl hP hD hS
            clear hf
            obtain ⟨r9, hf, hr62⟩ := ip_lp4_s hL
            clear hL
            unfold fMO_open_B62 at hf
            refine lv_iload hx hb dMO_open_62 (lv_at hl 3 rfl) ?_
            refine lv_iload_n hx hb dMO_open_64 rfl (lv_at hl 1 rfl) ?_
            refine ip_icmp_ge (tgt := 154) hx hb dMO_open_65 rfl hf (fun hf => ?_) (fun hf => ?_)
            · have hx9 := ip_lp_x hr62 hf
              replace hl := lv_sub hl (l' := []) [] rfl
              cases hx9
              exact J154 ls H locs hl hP hD hS
            · refine lv_iload hx hb dMO_open_68 (lv_at hl 2 rfl) ?_
              refine lv_iconst (v := (2 : Int32)) hx hb dMO_open_70 (by decide) ?_
              obtain ⟨z19, hh, hf⟩ := ip_b1_e hf
              suffices J90 : ∀ (ls : Array Slot) (H : Heap) (locs : List Loc), lv_has ls 7 [(0, .ref (ad 0)), (3, .int z9), (4, .int z11), (5, .int z12)] → va_P (dC, dI) vwCl (wMO_open ad cI cZ v_MO_size z13 v_MO_at v_MO_fault v_MO_hasGiven v_MO_hasPicture v_MO_range v_MO_value v_MO_leaves v_mfed g14) H → va_D A (wMO_open ad cI cZ v_MO_size z13 v_MO_at v_MO_fault v_MO_hasGiven v_MO_hasPicture v_MO_range v_MO_value v_MO_leaves v_mfed g14) → va_S A s.heap H locs → W p l e rmMO_open s m args below meth c H locs 0 0 Q (F0 m 90 ls [.int z19]) by
                replace hf := hh
                refine ip_icmp_lt (tgt := 89) hx hb dMO_open_71 rfl hf (fun hf => ?_) (fun hf => ?_)
                · refine lv_iconst (v := (0 : Int32)) hx hb dMO_open_89 (by decide) ?_
                  cases hf
                  exact J90 ls H locs hl hP hD hS
                · refine lv_aload_n hx hb dMO_open_74 rfl (lv_at hl 0 rfl) ?_
                  refine va_get (D := (dC, dI)) (ci := 12) (v := .ref (ad 1)) (C := kR_MO) (T := kT_MO) (N := 32) hx hb hts kin_MO hown hK hP 0 rfl rfl 0 (by decide) (hts _ (List.mem_cons_of_mem _ kw3_187)) (fun _ h9 => h9) rfl dMO_open_75 ?_
                  refine lv_iload hx hb dMO_open_78 (lv_at hl 3 rfl) ?_
                  refine ip_iald hx hb hK hP 1 0 rfl rfl dMO_open_80 hf (fun z20 hf => ?_)
                  refine lv_iconst (v := (3 : Int32)) hx hb dMO_open_81 (by decide) ?_
                  refine ip_icmp_ne (tgt := 89) hx hb dMO_open_82 rfl hf (fun hf => ?_) (fun hf => ?_)
                  · refine lv_iconst (v := (0 : Int32)) hx hb dMO_open_89 (by decide) ?_
                    cases hf
                    exact J90 ls H locs hl hP hD hS
                  · refine lv_iconst (v := (1 : Int32)) hx hb dMO_open_85 (by decide) ?_
                    refine lv_goto (tgt := 90) hx hb dMO_open_86 rfl ?_
                    cases hf
                    exact J90 ls H locs hl hP hD hS
              intro ls H locs hl hP hD hS
              clear hh
              refine lv_istore (lv' := [(6, .int z19), (0, .ref (ad 0)), (3, .int z9), (4, .int z11), (5, .int z12)]) hx hb dMO_open_90 hl (by decide) rfl (fun ls hl => ?_)
              refine lv_aload_n hx hb dMO_open_92 rfl (lv_at hl 1 rfl) ?_
              refine va_get (D := (dC, dI)) (ci := 12) (v := .ref (ad 1)) (C := kR_MO) (T := kT_MO) (N := 32) hx hb hts kin_MO hown hK hP 0 rfl rfl 0 (by decide) (hts _ (List.mem_cons_of_mem _ kw3_187)) (fun _ h9 => h9) rfl dMO_open_93 ?_
              refine lv_iload hx hb dMO_open_96 (lv_at hl 4 rfl) ?_
              refine ip_iald hx hb hK hP 1 0 rfl rfl dMO_open_98 hf (fun z21 hf => ?_)
              obtain ⟨z22, hh, hf⟩ := ip_b1_e hf
              suffices J115 : ∀ (ls : Array Slot) (H : Heap) (locs : List Loc), lv_has ls 7 [(0, .ref (ad 0)), (3, .int z9), (5, .int z12), (6, .int z19)] → va_P (dC, dI) vwCl (wMO_open ad cI cZ v_MO_size z13 v_MO_at v_MO_fault v_MO_hasGiven v_MO_hasPicture v_MO_range v_MO_value v_MO_leaves v_mfed g14) H → va_D A (wMO_open ad cI cZ v_MO_size z13 v_MO_at v_MO_fault v_MO_hasGiven v_MO_hasPicture v_MO_range v_MO_value v_MO_leaves v_mfed g14) → va_S A s.heap H locs → W p l e rmMO_open s m args below meth c H locs 0 0 Q (F0 m 115 ls [.int z22]) by
                replace hf := hh
                refine ip_if_ne (tgt := 114) hx hb dMO_open_99 rfl hf (fun hf => ?_) (fun hf => ?_)
                · refine lv_iconst (v := (0 : Int32)) hx hb dMO_open_114 (by decide) ?_
                  replace hl := lv_sub hl (l' := [(0, .ref (ad 0)), (3, .int z9), (5, .int z12), (6, .int z19)]) [1, 2, 4, 0] rfl
                  cases hf
                  exact J115 ls H locs hl hP hD hS
                · refine lv_iload hx hb dMO_open_102 (lv_at hl 0 rfl) ?_
                  refine ip_if_ne (tgt := 114) hx hb dMO_open_104 rfl hf (fun hf => ?_) (fun hf => ?_)
                  · refine lv_iconst (v := (0 : Int32)) hx hb dMO_open_114 (by decide) ?_
                    replace hl := lv_sub hl (l' := [(0, .ref (ad 0)), (3, .int z9), (5, .int z12), (6, .int z19)]) [1, 2, 4, 0] rfl
                    cases hf
                    exact J115 ls H locs hl hP hD hS
                  · refine lv_iload hx hb dMO_open_107 (lv_at hl 3 rfl) ?_
                    refine lv_iconst (v := (1 : Int32)) hx hb dMO_open_109 (by decide) ?_
                    refine lv_iadd hx hb dMO_open_110 ?_
                    refine lv_goto (tgt := 115) hx hb dMO_open_111 rfl ?_
                    replace hl := lv_sub hl (l' := [(0, .ref (ad 0)), (3, .int z9), (5, .int z12), (6, .int z19)]) [1, 2, 4, 0] rfl
                    cases hf
                    exact J115 ls H locs hl hP hD hS
              intro ls H locs hl hP hD hS
              clear hh
              refine lv_istore (lv' := [(4, .int z22), (0, .ref (ad 0)), (3, .int z9), (5, .int z12), (6, .int z19)]) hx hb dMO_open_115 hl (by decide) rfl (fun ls hl => ?_)
              refine lv_iload hx hb dMO_open_117 (lv_at hl 4 rfl) ?_
              obtain ⟨z23, g24, hh, hf⟩ := ip_b2_e hf
              suffices J148 : ∀ (ls : Array Slot) (H : Heap) (locs : List Loc), lv_has ls 7 [(0, .ref (ad 0)), (3, .int z9), (4, .int z22), (5, .int z12)] → va_P (dC, dI) vwCl (wMO_open ad cI cZ v_MO_size z23 v_MO_at v_MO_fault v_MO_hasGiven v_MO_hasPicture v_MO_range v_MO_value v_MO_leaves v_mfed g24) H → va_D A (wMO_open ad cI cZ v_MO_size z23 v_MO_at v_MO_fault v_MO_hasGiven v_MO_hasPicture v_MO_range v_MO_value v_MO_leaves v_mfed g24) → va_S A s.heap H locs → W p l e rmMO_open s m args below meth c H locs 0 0 Q (F0 m 148 ls []) by
                replace hf := hh
                refine ip_if_ne (tgt := 148) hx hb dMO_open_119 rfl hf (fun hf => ?_) (fun hf => ?_)
                · replace hl := lv_sub hl (l' := [(0, .ref (ad 0)), (3, .int z9), (4, .int z22), (5, .int z12)]) [1, 2, 0, 3] rfl
                  cases hf
                  exact J148 ls H locs hl hP hD hS
                · refine lv_aload_n hx hb dMO_open_122 rfl (lv_at hl 1 rfl) ?_
                  refine va_get (D := (dC, dI)) (ci := 12) (v := .ref (ad 2)) (C := kR_MO) (T := kT_MO) (N := 32) hx hb hts kin_MO hown hK hP 0 rfl rfl 2 (by decide) (hts _ (List.mem_cons_of_mem _ kw3_189)) (fun _ h9 => h9) rfl dMO_open_123 ?_
                  refine lv_aload_n hx hb dMO_open_126 rfl (lv_at hl 1 rfl) ?_
                  refine va_get (D := (dC, dI)) (ci := 12) (v := .int z13) (C := kR_MO) (T := kT_MO) (N := 32) hx hb hts kin_MO hown hK hP 0 rfl rfl 3 (by decide) (hts _ (List.mem_cons_of_mem _ kw3_190)) (fun _ h9 => h9) rfl dMO_open_127 ?_
                  refine lv_aload_n hx hb dMO_open_130 rfl (lv_at hl 1 rfl) ?_
                  refine va_get (D := (dC, dI)) (ci := 12) (v := .ref (ad 1)) (C := kR_MO) (T := kT_MO) (N := 32) hx hb hts kin_MO hown hK hP 0 rfl rfl 0 (by decide) (hts _ (List.mem_cons_of_mem _ kw3_187)) (fun _ h9 => h9) rfl dMO_open_131 ?_
                  refine lv_iload hx hb dMO_open_134 (lv_at hl 3 rfl) ?_
                  refine ip_iald hx hb hK hP 1 0 rfl rfl dMO_open_136 hf (fun z25 hf => ?_)
                  refine ip_iast hx hb hK hP hD hS 2 0 rfl rfl (fun g26 => (wMO_open ad cI cZ v_MO_size z13 v_MO_at v_MO_fault v_MO_hasGiven v_MO_hasPicture v_MO_range v_MO_value v_MO_leaves v_mfed g26)) (fun _ => rfl) dMO_open_137 hf (fun g26 H locs hf hP hD hS => ?_)
                  refine lv_aload_n hx hb dMO_open_138 rfl (lv_at hl 1 rfl) ?_
                  refine lv_dup hx hb dMO_open_139 rfl ?_
                  refine va_get (D := (dC, dI)) (ci := 12) (v := .int z13) (C := kR_MO) (T := kT_MO) (N := 32) hx hb hts kin_MO hown hK hP 0 rfl rfl 3 (by decide) (hts _ (List.mem_cons_of_mem _ kw3_190)) (fun _ h9 => h9) rfl dMO_open_140 ?_
                  refine lv_iconst (v := (1 : Int32)) hx hb dMO_open_143 (by decide) ?_
                  refine lv_iadd hx hb dMO_open_144 ?_
                  refine ip_top hf (fun z27 hf => ?_)
                  refine va_put (D := (dC, dI)) (ci := 12) (v := .int z27) (ty := .int) (C := kR_MO) (T := kT_MO) (N := 32) hx hb hts kin_MO kty_MO kto_MO knm_MO hown hK hP hD hS 0 rfl rfl 3 (by decide) (hts _ (List.mem_cons_of_mem _ kw3_190)) (fun _ h9 => h9) rfl (by decide +kernel) rfl rfl (Nat.le_of_ble_eq_true rfl) dMO_open_145 (fun H locs hP hD hS => ?_)
                  replace hP : va_P (dC, dI) vwCl (wMO_open ad cI cZ v_MO_size z27 v_MO_at v_MO_fault v_MO_hasGiven v_MO_hasPicture v_MO_range v_MO_value v_MO_leaves v_mfed g26) H := hP
                  replace hD : va_D A (wMO_open ad cI cZ v_MO_size z27 v_MO_at v_MO_fault v_MO_hasGiven v_MO_hasPicture v_MO_range v_MO_value v_MO_leaves v_mfed g26) := hD
                  replace hl := lv_sub hl (l' := [(0, .ref (ad 0)), (3, .int z9), (4, .int z22), (5, .int z12)]) [1, 2, 0, 3] rfl
                  cases hf
                  exact J148 ls H locs hl hP hD hS
              intro ls H locs hl hP hD hS
              clear hh
              refine ip_iinc (k0 := 3) (v0 := (1 : Int32)) (lv1 := fun z28 => [(5, .int z28), (0, .ref (ad 0)), (3, .int z9), (4, .int z22)]) hx hb dMO_open_148 hl rfl (by decide) (by decide) (fun _ => rfl) hf (fun z28 ls hf hl => ?_)
              refine lv_goto (tgt := 62) hx hb dMO_open_151 rfl ?_
              replace hl := lv_sub hl (l' := [(0, .ref (ad 0)), (3, .int z9), (4, .int z22), (5, .int z28)]) [1, 2, 3, 0] rfl
              exact ih _ _ _ _ (ip_lp4_l hr62 hf) ls H locs hl hP hD hS
        exact L 1000 _ _ _ _ hL ls H locs hl hP hD hS
      intro ls H locs hl hP hD hS
      clear hL
      refine lv_iconst (v := (1 : Int32)) hx hb dMO_open_154 (by decide) ?_
      cases hf
      exact hret H locs 155 ls _ dMO_open_155 (Or.inr rfl) rfl hP hD hS
    · refine lv_iconst (v := (0 : Int32)) hx hb dMO_open_12 (by decide) ?_
      cases hf
      exact hret H locs 13 ls _ dMO_open_13 (Or.inl rfl) rfl hP hD hS
set_option maxHeartbeats 4000000 in
set_option maxRecDepth 100000 in
theorem tMO_payload {l : Launch} {dC : Nat → ClassId} {dI : Nat → Nat → Nat} {cI cZ : ClassId} {ad : Nat → Nat} {ts : ip_TT} {v_MO_size : Int32} {v_MO_loaded : Int32} {v_MO_at : Int32} {v_MO_fault : Int32} {v_MO_hasGiven : Int32} {v_MO_hasPicture : Int32} {v_MO_range : Int32} {v_MO_value : Int32} {v_MO_leaves : Int32} {v_mfed : Nat → Int32} {v_mload : Nat → Int32} {p1 : Int32} {p2 : Int32} {r0 : Int32} {nv_MO_loaded : Int32} {nv_mload : Nat → Int32} (hf : fMO_payload v_MO_size v_MO_loaded v_MO_at v_MO_fault v_MO_hasGiven v_MO_hasPicture v_MO_range v_MO_value v_MO_leaves v_mfed v_mload p1 p2 = some (r0, nv_MO_loaded, nv_mload)) : ip_Mi l yMO_payload wsMO_payload rmMO_payload (dC, dI) vwCl [(cI, .int), (cZ, .boolean)] ts [.ref (ad 0), .int p1, .int p2] (wMO_payload ad cI cZ v_MO_size v_MO_loaded v_MO_at v_MO_fault v_MO_hasGiven v_MO_hasPicture v_MO_range v_MO_value v_MO_leaves v_mfed v_mload) (wMO_payload ad cI cZ v_MO_size nv_MO_loaded v_MO_at v_MO_fault v_MO_hasGiven v_MO_hasPicture v_MO_range v_MO_value v_MO_leaves v_mfed nv_mload) r0 := by
  refine ip_startI (cc := cMO_payload) (maxL := 3) (by decide) rfl (Nat.le_of_ble_eq_true rfl) ?_
  intro p e s m args below meth c Q A ls hx hb hml hts hown hK hP hD hS hA hZ hl hret
  replace hl : lv_has ls 3 [(0, .ref (ad 0)), (1, .int p1), (2, .int p2)] := hl
  unfold fMO_payload at hf
  suffices J0 : ∀ (ls : Array Slot) (H : Heap) (locs : List Loc), lv_has ls 3 [(0, .ref (ad 0)), (1, .int p1), (2, .int p2)] → va_P (dC, dI) vwCl (wMO_payload ad cI cZ v_MO_size v_MO_loaded v_MO_at v_MO_fault v_MO_hasGiven v_MO_hasPicture v_MO_range v_MO_value v_MO_leaves v_mfed v_mload) H → va_D A (wMO_payload ad cI cZ v_MO_size v_MO_loaded v_MO_at v_MO_fault v_MO_hasGiven v_MO_hasPicture v_MO_range v_MO_value v_MO_leaves v_mfed v_mload) → va_S A s.heap H locs → W p l e rmMO_payload s m args below meth c H locs 0 0 Q (F0 m 0 ls []) by exact J0 ls s.heap [] hl hP hD hS
  clear hP hD hS hl
  intro ls H locs hl hP hD hS
  refine lv_aload_n hx hb dMO_payload_0 rfl (lv_at hl 0 rfl) ?_
  refine lv_iload_n hx hb dMO_payload_1 rfl (lv_at hl 1 rfl) ?_
  obtain ⟨z1, z2, g3, hc, hf⟩ := ip_b3_e hf
  refine ip_calli (va_runV (As := [.int p1]) (rest := []) ⟨hx, hb, hml, hown, hts⟩ (tMO_open (l := l) (dC := dC) (dI := dI) (ad := ad) (cI := cI) (ts := ts) (cZ := cZ) hc H.size) (cwV 1 hts (ip_gdV (own := kR_MO) (idx := 104) (C := kR_MO) (y := yMO_open) kw4_66 kw4_68 kws_37 kw1_13 kw4_69) rfl rfl rfl (by decide +kernel) ⟨Nat.le_of_ble_eq_true rfl, Nat.le_of_ble_eq_true rfl⟩) (ip_preV hK hP hD hS hA hZ [0, 1, 2] rfl rfl (ci := 12) (q0 := 0) rfl rfl) rfl rfl hl.1 rfl (lv_room (Nat.le_of_ble_eq_true rfl)) dMO_payload_2 ⟨Nat.le_of_ble_eq_true rfl, Nat.le_of_ble_eq_true rfl⟩) hP hD hS hA [0, 1, 2] [] [0, 1, 2] (wMO_payload ad cI cZ v_MO_size z2 v_MO_at v_MO_fault v_MO_hasGiven v_MO_hasPicture v_MO_range v_MO_value v_MO_leaves v_mfed g3) rfl rfl rfl (by decide) rfl rfl (fun H locs hP hD hS => ?_)
  clear hc
  refine ip_if_eq (tgt := 21) hx hb dMO_payload_5 rfl hf (fun hf => ?_) (fun hf => ?_)
  · refine lv_iconst (v := (-1 : Int32)) hx hb dMO_payload_21 (by decide) ?_
    cases hf
    exact hret H locs 22 ls _ dMO_payload_22 rfl hP hD hS
  · refine lv_iload_n hx hb dMO_payload_8 rfl (lv_at hl 2 rfl) ?_
    refine lv_iconst (v := (-1 : Int32)) hx hb dMO_payload_9 (by decide) ?_
    refine ip_icmp_lt (tgt := 21) hx hb dMO_payload_10 rfl hf (fun hf => ?_) (fun hf => ?_)
    · refine lv_iconst (v := (-1 : Int32)) hx hb dMO_payload_21 (by decide) ?_
      cases hf
      exact hret H locs 22 ls _ dMO_payload_22 rfl hP hD hS
    · refine lv_iload_n hx hb dMO_payload_13 rfl (lv_at hl 2 rfl) ?_
      refine lv_aload_n hx hb dMO_payload_14 rfl (lv_at hl 0 rfl) ?_
      refine va_get (D := (dC, dI)) (ci := 12) (v := .int z2) (C := kR_MO) (T := kT_MO) (N := 32) hx hb hts kin_MO hown hK hP 0 rfl rfl 3 (by decide) (hts _ (List.mem_cons_of_mem _ kw3_190)) (fun _ h9 => h9) rfl dMO_payload_15 ?_
      refine ip_icmp_lt (tgt := 23) hx hb dMO_payload_18 rfl hf (fun hf => ?_) (fun hf => ?_)
      · refine lv_iload_n hx hb dMO_payload_23 rfl (lv_at hl 2 rfl) ?_
        refine lv_iconst (v := (-1 : Int32)) hx hb dMO_payload_24 (by decide) ?_
        refine ip_icmp_ne (tgt := 35) hx hb dMO_payload_25 rfl hf (fun hf => ?_) (fun hf => ?_)
        · refine lv_aload_n hx hb dMO_payload_35 rfl (lv_at hl 0 rfl) ?_
          refine va_get (D := (dC, dI)) (ci := 12) (v := .ref (ad 2)) (C := kR_MO) (T := kT_MO) (N := 32) hx hb hts kin_MO hown hK hP 0 rfl rfl 2 (by decide) (hts _ (List.mem_cons_of_mem _ kw3_189)) (fun _ h9 => h9) rfl dMO_payload_36 ?_
          refine lv_iload_n hx hb dMO_payload_39 rfl (lv_at hl 2 rfl) ?_
          refine ip_iald hx hb hK hP 2 0 rfl rfl dMO_payload_40 hf (fun z4 hf => ?_)
          cases hf
          exact hret H locs 41 ls _ dMO_payload_41 rfl hP hD hS
        · refine lv_aload_n hx hb dMO_payload_28 rfl (lv_at hl 0 rfl) ?_
          refine va_get (D := (dC, dI)) (ci := 12) (v := .int z2) (C := kR_MO) (T := kT_MO) (N := 32) hx hb hts kin_MO hown hK hP 0 rfl rfl 3 (by decide) (hts _ (List.mem_cons_of_mem _ kw3_190)) (fun _ h9 => h9) rfl dMO_payload_29 ?_
          refine lv_goto (tgt := 41) hx hb dMO_payload_32 rfl ?_
          cases hf
          exact hret H locs 41 ls _ dMO_payload_41 rfl hP hD hS
      · refine lv_iconst (v := (-1 : Int32)) hx hb dMO_payload_21 (by decide) ?_
        cases hf
        exact hret H locs 22 ls _ dMO_payload_22 rfl hP hD hS
