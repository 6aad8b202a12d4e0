set_option maxHeartbeats 4000000 in
set_option maxRecDepth 100000 in
theorem tMO_decode {l : Launch} {dC : Nat → ClassId} {dI : Nat → Nat → Nat} {cI cZ : ClassId} {ad : Nat → Nat} {ts : ip_TT} {v_MO_size : Int32} {v_MO_loaded : Int32} {v_MO_at : Int32} {v_MO_fault : Int32} {v_MO_hasGiven : Int32} {v_MO_hasPicture : Int32} {v_MO_range : Int32} {v_MO_value : Int32} {v_MO_leaves : Int32} {v_mfed : Nat → Int32} {v_mload : Nat → Int32} {v_mgiven : Nat → Int32} {v_mwanted : Nat → Int32} {v_mchances : Nat → Int32} {v_mcounts : Nat → Int32} {v_mleft : Nat → Int32} {v_mtop : Nat → Int32} {v_msides : Nat → Int32} {v_mmodes : Nat → Int32} {v_mskips : Nat → Int32} {v_mowner : Nat → Int32} {v_mlevels : Nat → Int32} {v_mgroup : Nat → Int32} {v_mguess : Nat → Int32} {v_mfirst : Nat → Int32} {v_mlast : Nat → Int32} {v_mold : Nat → Int32} {v_mrow : Nat → Int32} {v_mraw : Nat → Int32} {v_mfour : Nat → Int32} {v_mwave : Nat → Int32} {v_mscale : Nat → Int32}  {r0 : Int32} {nv_MO_loaded : Int32} {nv_MO_at : Int32} {nv_MO_fault : Int32} {nv_MO_hasGiven : Int32} {nv_MO_hasPicture : Int32} {nv_MO_range : Int32} {nv_MO_value : Int32} {nv_MO_leaves : Int32} {nv_mload : Nat → Int32} {nv_mgiven : Nat → Int32} {nv_mwanted : Nat → Int32} {nv_mchances : Nat → Int32} {nv_mcounts : Nat → Int32} {nv_mleft : Nat → Int32} {nv_mtop : Nat → Int32} {nv_msides : Nat → Int32} {nv_mmodes : Nat → Int32} {nv_mskips : Nat → Int32} {nv_mowner : Nat → Int32} {nv_mlevels : Nat → Int32} {nv_mgroup : Nat → Int32} {nv_mguess : Nat → Int32} {nv_mfirst : Nat → Int32} {nv_mlast : Nat → Int32} {nv_mold : Nat → Int32} {nv_mrow : Nat → Int32} {nv_mraw : Nat → Int32} (hf : fMO_decode v_MO_size v_MO_loaded v_MO_at v_MO_fault v_MO_hasGiven v_MO_hasPicture v_MO_range v_MO_value v_MO_leaves v_mfed v_mload v_mgiven v_mwanted v_mchances v_mcounts v_mleft v_mtop v_msides v_mmodes v_mskips v_mowner v_mlevels v_mgroup v_mguess v_mfirst v_mlast v_mold v_mrow v_mraw v_mfour v_mwave v_mscale = some (r0, nv_MO_loaded, nv_MO_at, nv_MO_fault, nv_MO_hasGiven, nv_MO_hasPicture, nv_MO_range, nv_MO_value, nv_MO_leaves, nv_mload, nv_mgiven, nv_mwanted, nv_mchances, nv_mcounts, nv_mleft, nv_mtop, nv_msides, nv_mmodes, nv_mskips, nv_mowner, nv_mlevels, nv_mgroup, nv_mguess, nv_mfirst, nv_mlast, nv_mold, nv_mrow, nv_mraw)) : ip_Mi l yMO_decode wsMO_decode rmMO_decode (dC, dI) vwCl [(cI, .int), (cZ, .boolean)] ts [.ref (ad 0)] (wMO_decode ad cI cZ v_MO_size v_MO_loaded v_MO_at v_MO_fault v_MO_hasGiven v_MO_hasPicture v_MO_range v_MO_value v_MO_leaves v_mfed v_mload v_mgiven v_mwanted v_mchances v_mcounts v_mleft v_mtop v_msides v_mmodes v_mskips v_mowner v_mlevels v_mgroup v_mguess v_mfirst v_mlast v_mold v_mrow v_mraw v_mfour v_mwave v_mscale) (wMO_decode ad cI cZ v_MO_size nv_MO_loaded nv_MO_at nv_MO_fault nv_MO_hasGiven nv_MO_hasPicture nv_MO_range nv_MO_value nv_MO_leaves v_mfed nv_mload nv_mgiven nv_mwanted nv_mchances nv_mcounts nv_mleft nv_mtop nv_msides nv_mmodes nv_mskips nv_mowner nv_mlevels nv_mgroup nv_mguess nv_mfirst nv_mlast nv_mold nv_mrow nv_mraw v_mfour v_mwave v_mscale) r0 := by
  refine ip_startI (cc := cMO_decode) (maxL := 5) (by decide) rfl (Nat.le_of_ble_eq_true rfl) ?_
  intro p e s m args below meth c Q A ls hx hb hml hts hown hK hP hD hS hA hZ hl hret
  replace hl : lv_has ls 5 [(0, .ref (ad 0))] := hl
  unfold fMO_decode at hf
  suffices J0 : ∀ (ls : Array Slot) (H : Heap) (locs : List Loc), lv_has ls 5 [(0, .ref (ad 0))] → va_P (dC, dI) vwCl (wMO_decode ad cI cZ v_MO_size v_MO_loaded v_MO_at v_MO_fault v_MO_hasGiven v_MO_hasPicture v_MO_range v_MO_value v_MO_leaves v_mfed v_mload v_mgiven v_mwanted v_mchances v_mcounts v_mleft v_mtop v_msides v_mmodes v_mskips v_mowner v_mlevels v_mgroup v_mguess v_mfirst v_mlast v_mold v_mrow v_mraw v_mfour v_mwave v_mscale) H → va_D A (wMO_decode ad cI cZ v_MO_size v_MO_loaded v_MO_at v_MO_fault v_MO_hasGiven v_MO_hasPicture v_MO_range v_MO_value v_MO_leaves v_mfed v_mload v_mgiven v_mwanted v_mchances v_mcounts v_mleft v_mtop v_msides v_mmodes v_mskips v_mowner v_mlevels v_mgroup v_mguess v_mfirst v_mlast v_mold v_mrow v_mraw v_mfour v_mwave v_mscale) → va_S A s.heap H locs → W p l e rmMO_decode s m args below meth c H locs 0 0 Q (F0 m 0 ls []) by exact J0 ls s.heap [] hl hP hD hS
  clear hP hD hS hl
  intro ls H locs hl hP hD hS
  refine lv_aload_n hx hb dMO_decode_0 rfl (lv_at hl 0 rfl) ?_
  refine lv_iconst (v := (0 : Int32)) hx hb dMO_decode_1 (by decide) ?_
  refine va_put (D := (dC, dI)) (ci := 12) (v := .int (0 : Int32)) (ty := .boolean) (C := kR_MO) (T := kT_MO) (N := 32) hx hb hts kin_MO kty_MO kto_MO knm_MO hown hK hP hD hS 0 rfl rfl 8 (by decide) (hts _ (List.mem_cons_of_mem _ kw3_195)) (fun _ h9 => h9) rfl (by decide +kernel) rfl rfl (Nat.le_of_ble_eq_true rfl) dMO_decode_2 (fun H locs hP hD hS => ?_)
  replace hP : va_P (dC, dI) vwCl (wMO_decode ad cI cZ v_MO_size v_MO_loaded v_MO_at v_MO_fault (0 : Int32) v_MO_hasPicture v_MO_range v_MO_value v_MO_leaves v_mfed v_mload v_mgiven v_mwanted v_mchances v_mcounts v_mleft v_mtop v_msides v_mmodes v_mskips v_mowner v_mlevels v_mgroup v_mguess v_mfirst v_mlast v_mold v_mrow v_mraw v_mfour v_mwave v_mscale) H := hP
  replace hD : va_D A (wMO_decode ad cI cZ v_MO_size v_MO_loaded v_MO_at v_MO_fault (0 : Int32) v_MO_hasPicture v_MO_range v_MO_value v_MO_leaves v_mfed v_mload v_mgiven v_mwanted v_mchances v_mcounts v_mleft v_mtop v_msides v_mmodes v_mskips v_mowner v_mlevels v_mgroup v_mguess v_mfirst v_mlast v_mold v_mrow v_mraw v_mfour v_mwave v_mscale) := hD
  refine lv_aload_n hx hb dMO_decode_5 rfl (lv_at hl 0 rfl) ?_
  refine lv_iconst (v := (0 : Int32)) hx hb dMO_decode_6 (by decide) ?_
  refine va_put (D := (dC, dI)) (ci := 12) (v := .int (0 : Int32)) (ty := .boolean) (C := kR_MO) (T := kT_MO) (N := 32) hx hb hts kin_MO kty_MO kto_MO knm_MO hown hK hP hD hS 0 rfl rfl 9 (by decide) (hts _ (List.mem_cons_of_mem _ kw3_196)) (fun _ h9 => h9) rfl (by decide +kernel) rfl rfl (Nat.le_of_ble_eq_true rfl) dMO_decode_7 (fun H locs hP hD hS => ?_)
  replace hP : va_P (dC, dI) vwCl (wMO_decode ad cI cZ v_MO_size v_MO_loaded v_MO_at v_MO_fault (0 : Int32) (0 : Int32) v_MO_range v_MO_value v_MO_leaves v_mfed v_mload v_mgiven v_mwanted v_mchances v_mcounts v_mleft v_mtop v_msides v_mmodes v_mskips v_mowner v_mlevels v_mgroup v_mguess v_mfirst v_mlast v_mold v_mrow v_mraw v_mfour v_mwave v_mscale) H := hP
  replace hD : va_D A (wMO_decode ad cI cZ v_MO_size v_MO_loaded v_MO_at v_MO_fault (0 : Int32) (0 : Int32) v_MO_range v_MO_value v_MO_leaves v_mfed v_mload v_mgiven v_mwanted v_mchances v_mcounts v_mleft v_mtop v_msides v_mmodes v_mskips v_mowner v_mlevels v_mgroup v_mguess v_mfirst v_mlast v_mold v_mrow v_mraw v_mfour v_mwave v_mscale) := hD
  refine lv_aload_n hx hb dMO_decode_10 rfl (lv_at hl 0 rfl) ?_
  refine lv_iconst (v := (0 : Int32)) hx hb dMO_decode_11 (by decide) ?_
  refine va_put (D := (dC, dI)) (ci := 12) (v := .int (0 : Int32)) (ty := .int) (C := kR_MO) (T := kT_MO) (N := 32) hx hb hts kin_MO kty_MO kto_MO knm_MO hown hK hP hD hS 0 rfl rfl 5 (by decide) (hts _ (List.mem_cons_of_mem _ kw3_192)) (fun _ h9 => h9) rfl (by decide +kernel) rfl rfl (Nat.le_of_ble_eq_true rfl) dMO_decode_12 (fun H locs hP hD hS => ?_)
  replace hP : va_P (dC, dI) vwCl (wMO_decode ad cI cZ v_MO_size v_MO_loaded v_MO_at (0 : Int32) (0 : Int32) (0 : Int32) v_MO_range v_MO_value v_MO_leaves v_mfed v_mload v_mgiven v_mwanted v_mchances v_mcounts v_mleft v_mtop v_msides v_mmodes v_mskips v_mowner v_mlevels v_mgroup v_mguess v_mfirst v_mlast v_mold v_mrow v_mraw v_mfour v_mwave v_mscale) H := hP
  replace hD : va_D A (wMO_decode ad cI cZ v_MO_size v_MO_loaded v_MO_at (0 : Int32) (0 : Int32) (0 : Int32) v_MO_range v_MO_value v_MO_leaves v_mfed v_mload v_mgiven v_mwanted v_mchances v_mcounts v_mleft v_mtop v_msides v_mmodes v_mskips v_mowner v_mlevels v_mgroup v_mguess v_mfirst v_mlast v_mold v_mrow v_mraw v_mfour v_mwave v_mscale) := hD
  refine lv_aload_n hx hb dMO_decode_15 rfl (lv_at hl 0 rfl) ?_
  obtain ⟨z1, hc, hf⟩ := ip_b1_e hf
  refine ip_calli (va_runV (As := []) (rest := []) ⟨hx, hb, hml, hown, hts⟩ (tMO_units (l := l) (dC := dC) (dI := dI) (ad := ad) (cI := cI) (ts := ts) (cZ := cZ) hc H.size) (cwV 0 hts (ip_gdV (own := kR_MO) (idx := 97) (C := kR_MO) (y := yMO_units) kw4_70 kw4_55 kw4_56 kw1_13 kw4_57) rfl rfl rfl (by decide +kernel) ⟨Nat.le_of_ble_eq_true rfl, Nat.le_of_ble_eq_true rfl⟩) (ip_preV hK hP hD hS hA hZ [0, 1] rfl rfl (ci := 12) (q0 := 0) rfl rfl) rfl rfl hl.1 rfl (lv_room (Nat.le_of_ble_eq_true rfl)) dMO_decode_16 ⟨Nat.le_of_ble_eq_true rfl, Nat.le_of_ble_eq_true rfl⟩) hP hD hS hA [0, 1] [2, 3, 4, 5, 6, 7, 8, 9, 10, 11, 12, 13, 14, 15, 16, 17, 18, 19, 20, 21, 22, 23] [22, 23, 0, 1, 2, 3, 4, 5, 6, 7, 8, 9, 10, 11, 12, 13, 14, 15, 16, 17, 18, 19, 20, 21] (wMO_decode ad cI cZ v_MO_size v_MO_loaded v_MO_at (0 : Int32) (0 : Int32) (0 : Int32) v_MO_range v_MO_value v_MO_leaves v_mfed v_mload v_mgiven v_mwanted v_mchances v_mcounts v_mleft v_mtop v_msides v_mmodes v_mskips v_mowner v_mlevels v_mgroup v_mguess v_mfirst v_mlast v_mold v_mrow v_mraw v_mfour v_mwave v_mscale) rfl rfl rfl (by decide) rfl rfl (fun H locs hP hD hS => ?_)
  clear hc
  refine lv_istore_n (lv' := [(1, .int z1), (0, .ref (ad 0))]) hx hb dMO_decode_19 rfl hl (by decide) rfl (fun ls hl => ?_)
  refine lv_iconst (v := (0 : Int32)) hx hb dMO_decode_20 (by decide) ?_
  refine lv_istore_n (lv' := [(2, .int (0 : Int32)), (1, .int z1), (0, .ref (ad 0))]) hx hb dMO_decode_21 rfl hl (by decide) rfl (fun ls hl => ?_)
  replace hl := lv_sub hl (l' := [(0, .ref (ad 0)), (1, .int z1), (2, .int (0 : Int32))]) [2, 1, 0] rfl
  obtain ⟨x30, x31, x32, x33, x34, x35, x36, x37, x38, y39, y40, y41, y42, y43, y44, y45, y46, y47, y48, y49, y50, y51, y52, y53, y54, y55, y56, y57, hL, hf⟩ := ip_b28_e hf
  suffices J119 : ∀ (ls : Array Slot) (H : Heap) (locs : List Loc), lv_has ls 5 [(0, .ref (ad 0))] → va_P (dC, dI) vwCl (wMO_decode ad cI cZ v_MO_size x31 x32 x33 x34 x35 x36 x37 x38 v_mfed y39 y40 y41 y42 y43 y44 y45 y46 y47 y48 y49 y50 y51 y52 y53 y54 y55 y56 y57 v_mfour v_mwave v_mscale) H → va_D A (wMO_decode ad cI cZ v_MO_size x31 x32 x33 x34 x35 x36 x37 x38 v_mfed y39 y40 y41 y42 y43 y44 y45 y46 y47 y48 y49 y50 y51 y52 y53 y54 y55 y56 y57 v_mfour v_mwave v_mscale) → va_S A s.heap H locs → W p l e rmMO_decode s m args below meth c H locs 0 0 Q (F0 m 119 ls []) by
    have L : ∀ (n : Nat) (z2 : Int32) (z3 : Int32) (z4 : Int32) (z5 : Int32) (z6 : Int32) (z7 : Int32) (z8 : Int32) (z9 : Int32) (z10 : Int32) (g11 : Nat → Int32) (g12 : Nat → Int32) (g13 : Nat → Int32) (g14 : Nat → Int32) (g15 : Nat → Int32) (g16 : Nat → Int32) (g17 : Nat → Int32) (g18 : Nat → Int32) (g19 : Nat → Int32) (g20 : Nat → Int32) (g21 : Nat → Int32) (g22 : Nat → Int32) (g23 : Nat → Int32) (g24 : Nat → Int32) (g25 : Nat → Int32) (g26 : Nat → Int32) (g27 : Nat → Int32) (g28 : Nat → Int32) (g29 : Nat → Int32), ip_lp28 (fMO_decode_B22 v_MO_size v_mfed v_mfour v_mwave v_mscale z1) n z2 z3 z4 z5 z6 z7 z8 z9 z10 g11 g12 g13 g14 g15 g16 g17 g18 g19 g20 g21 g22 g23 g24 g25 g26 g27 g28 g29 = some (x30, x31, x32, x33, x34, x35, x36, x37, x38, y39, y40, y41, y42, y43, y44, y45, y46, y47, y48, y49, y50, y51, y52, y53, y54, y55, y56, y57) → ∀ (ls : Array Slot) (H : Heap) (locs : List Loc), lv_has ls 5 [(0, .ref (ad 0)), (1, .int z1), (2, .int z2)] → va_P (dC, dI) vwCl (wMO_decode ad cI cZ v_MO_size z3 z4 z5 z6 z7 z8 z9 z10 v_mfed g11 g12 g13 g14 g15 g16 g17 g18 g19 g20 g21 g22 g23 g24 g25 g26 g27 g28 g29 v_mfour v_mwave v_mscale) H → va_D A (wMO_decode ad cI cZ v_MO_size z3 z4 z5 z6 z7 z8 z9 z10 v_mfed g11 g12 g13 g14 g15 g16 g17 g18 g19 g20 g21 g22 g23 g24 g25 g26 g27 g28 g29 v_mfour v_mwave v_mscale) → va_S A s.heap H locs → W p l e rmMO_decode s m args below meth c H locs 0 0 Q (F0 m 22 ls []) := by
      intro n
      induction n with
      | zero => intro z2 z3 z4 z5 z6 z7 z8 z9 z10 g11 g12 g13 g14 g15 g16 g17 g18 g19 g20 g21 g22 g23 g24 g25 g26 g27 g28 g29 hL; exact (ip_lp28_0 hL).elim
      | succ n ih =>
        intro z2 z3 z4 z5 z6 z7 z8 z9 z10 g11 g12 g13 g14 g15 g16 g17 g18 g19 g20 g21 g22 g23 g24 g25 g26 g27 g28 g29 hL ls H locs hl hP hD hS
        clear hf
        obtain ⟨r9, hf, hr22⟩ := ip_lp28_s hL
        clear hL
        unfold fMO_decode_B22 at hf
        refine lv_iload_n hx hb dMO_decode_22 rfl (lv_at hl 2 rfl) ?_
        refine lv_iload_n hx hb dMO_decode_23 rfl (lv_at hl 1 rfl) ?_
        refine ip_icmp_ge (tgt := 119) hx hb dMO_decode_24 rfl hf (fun hf => ?_) (fun hf => ?_)
        · have hx9 := ip_lp_x hr22 hf
          replace hl := lv_sub hl (l' := [(0, .ref (ad 0))]) [0] rfl
          cases hx9
          exact J119 ls H locs hl hP hD hS
        · refine lv_aload_n hx hb dMO_decode_27 rfl (lv_at hl 0 rfl) ?_
          refine va_get (D := (dC, dI)) (ci := 12) (v := .int z5) (C := kR_MO) (T := kT_MO) (N := 32) hx hb hts kin_MO hown hK hP 0 rfl rfl 5 (by decide) (hts _ (List.mem_cons_of_mem _ kw3_192)) (fun _ h9 => h9) rfl dMO_decode_28 ?_
          refine ip_if_ne (tgt := 119) hx hb dMO_decode_31 rfl hf (fun hf => ?_) (fun hf => ?_)
          · have hx9 := ip_lp_x hr22 hf
            replace hl := lv_sub hl (l' := [(0, .ref (ad 0))]) [0] rfl
            cases hx9
            exact J119 ls H locs hl hP hD hS
          · refine lv_aload_n hx hb dMO_decode_34 rfl (lv_at hl 0 rfl) ?_
            refine lv_iload_n hx hb dMO_decode_35 rfl (lv_at hl 2 rfl) ?_
            obtain ⟨z58, z59, g60, hc, hf⟩ := ip_b3_e hf
            refine ip_calli (va_runV (As := [.int z2]) (rest := []) ⟨hx, hb, hml, hown, hts⟩ (tMO_open (l := l) (dC := dC) (dI := dI) (ad := ad) (cI := cI) (ts := ts) (cZ := cZ) hc H.size) (cwV 1 hts (ip_gdV (own := kR_MO) (idx := 104) (C := kR_MO) (y := yMO_open) kw4_66 kw4_68 kws_37 kw1_13 kw4_69) rfl rfl rfl (by decide +kernel) ⟨Nat.le_of_ble_eq_true rfl, Nat.le_of_ble_eq_true rfl⟩) (ip_preV hK hP hD hS hA hZ [0, 1, 2] rfl rfl (ci := 12) (q0 := 0) rfl rfl) rfl rfl hl.1 rfl (lv_room (Nat.le_of_ble_eq_true rfl)) dMO_decode_36 ⟨Nat.le_of_ble_eq_true rfl, Nat.le_of_ble_eq_true rfl⟩) hP hD hS hA [0, 1, 2] [3, 4, 5, 6, 7, 8, 9, 10, 11, 12, 13, 14, 15, 16, 17, 18, 19, 20, 21, 22, 23] [21, 22, 23, 0, 1, 2, 3, 4, 5, 6, 7, 8, 9, 10, 11, 12, 13, 14, 15, 16, 17, 18, 19, 20] (wMO_decode ad cI cZ v_MO_size z59 z4 z5 z6 z7 z8 z9 z10 v_mfed g60 g12 g13 g14 g15 g16 g17 g18 g19 g20 g21 g22 g23 g24 g25 g26 g27 g28 g29 v_mfour v_mwave v_mscale) rfl rfl rfl (by decide) rfl rfl (fun H locs hP hD hS => ?_)
            clear hc
            refine lv_istore_n (lv' := [(3, .int z58), (0, .ref (ad 0)), (1, .int z1), (2, .int z2)]) hx hb dMO_decode_39 rfl hl (by decide) rfl (fun ls hl => ?_)
            refine lv_aload_n hx hb dMO_decode_40 rfl (lv_at hl 1 rfl) ?_
            refine va_get (D := (dC, dI)) (ci := 12) (v := .int z59) (C := kR_MO) (T := kT_MO) (N := 32) hx hb hts kin_MO hown hK hP 0 rfl rfl 3 (by decide) (hts _ (List.mem_cons_of_mem _ kw3_190)) (fun _ h9 => h9) rfl dMO_decode_41 ?_
            obtain ⟨z61, hh, hf⟩ := ip_b1_e hf
            suffices J57 : ∀ (ls : Array Slot) (H : Heap) (locs : List Loc), lv_has ls 5 [(0, .ref (ad 0)), (1, .int z1), (2, .int z2), (3, .int z58)] → va_P (dC, dI) vwCl (wMO_decode ad cI cZ v_MO_size z59 z4 z5 z6 z7 z8 z9 z10 v_mfed g60 g12 g13 g14 g15 g16 g17 g18 g19 g20 g21 g22 g23 g24 g25 g26 g27 g28 g29 v_mfour v_mwave v_mscale) H → va_D A (wMO_decode ad cI cZ v_MO_size z59 z4 z5 z6 z7 z8 z9 z10 v_mfed g60 g12 g13 g14 g15 g16 g17 g18 g19 g20 g21 g22 g23 g24 g25 g26 g27 g28 g29 v_mfour v_mwave v_mscale) → va_S A s.heap H locs → W p l e rmMO_decode s m args below meth c H locs 0 0 Q (F0 m 57 ls [.int z61]) by
              replace hf := hh
              refine ip_if_le (tgt := 56) hx hb dMO_decode_44 rfl hf (fun hf => ?_) (fun hf => ?_)
              · refine lv_iconst (v := (-1 : Int32)) hx hb dMO_decode_56 (by decide) ?_
                replace hl := lv_sub hl (l' := [(0, .ref (ad 0)), (1, .int z1), (2, .int z2), (3, .int z58)]) [1, 2, 3, 0] rfl
                cases hf
                exact J57 ls H locs hl hP hD hS
              · refine lv_aload_n hx hb dMO_decode_47 rfl (lv_at hl 1 rfl) ?_
                refine va_get (D := (dC, dI)) (ci := 12) (v := .ref (ad 2)) (C := kR_MO) (T := kT_MO) (N := 32) hx hb hts kin_MO hown hK hP 0 rfl rfl 2 (by decide) (hts _ (List.mem_cons_of_mem _ kw3_189)) (fun _ h9 => h9) rfl dMO_decode_48 ?_
                refine lv_iconst (v := (0 : Int32)) hx hb dMO_decode_51 (by decide) ?_
                refine ip_iald hx hb hK hP 2 0 rfl rfl dMO_decode_52 hf (fun z62 hf => ?_)
                refine lv_goto (tgt := 57) hx hb dMO_decode_53 rfl ?_
                replace hl := lv_sub hl (l' := [(0, .ref (ad 0)), (1, .int z1), (2, .int z2), (3, .int z58)]) [1, 2, 3, 0] rfl
                cases hf
                exact J57 ls H locs hl hP hD hS
            intro ls H locs hl hP hD hS
            clear hh
            refine lv_istore (lv' := [(4, .int z61), (0, .ref (ad 0)), (1, .int z1), (2, .int z2), (3, .int z58)]) hx hb dMO_decode_57 hl (by decide) rfl (fun ls hl => ?_)
            refine lv_iload hx hb dMO_decode_59 (lv_at hl 0 rfl) ?_
            refine lv_iconst (v := (1 : Int32)) hx hb dMO_decode_61 (by decide) ?_
            obtain ⟨z63, z64, z65, z66, z67, z68, z69, g70, g71, g72, g73, g74, g75, g76, g77, g78, g79, g80, g81, g82, g83, g84, g85, g86, g87, hh, hf⟩ := ip_b25_e hf
            suffices J113 : ∀ (ls : Array Slot) (H : Heap) (locs : List Loc), lv_has ls 5 [(0, .ref (ad 0)), (1, .int z1), (2, .int z2)] → va_P (dC, dI) vwCl (wMO_decode ad cI cZ v_MO_size z59 z63 z64 z65 z66 z67 z68 z69 v_mfed g60 g70 g71 g72 g73 g74 g75 g76 g77 g78 g79 g80 g81 g82 g83 g84 g85 g86 g87 v_mfour v_mwave v_mscale) H → va_D A (wMO_decode ad cI cZ v_MO_size z59 z63 z64 z65 z66 z67 z68 z69 v_mfed g60 g70 g71 g72 g73 g74 g75 g76 g77 g78 g79 g80 g81 g82 g83 g84 g85 g86 g87 v_mfour v_mwave v_mscale) → va_S A s.heap H locs → W p l e rmMO_decode s m args below meth c H locs 0 0 Q (F0 m 113 ls []) by
              replace hf := hh
              refine ip_icmp_ne (tgt := 72) hx hb dMO_decode_62 rfl hf (fun hf => ?_) (fun hf => ?_)
              · refine lv_iload hx hb dMO_decode_72 (lv_at hl 0 rfl) ?_
                refine lv_iconst (v := (2 : Int32)) hx hb dMO_decode_74 (by decide) ?_
                refine ip_icmp_ne (tgt := 94) hx hb dMO_decode_75 rfl hf (fun hf => ?_) (fun hf => ?_)
                · refine lv_iload hx hb dMO_decode_94 (lv_at hl 0 rfl) ?_
                  refine lv_iconst (v := (2 : Int32)) hx hb dMO_decode_96 (by decide) ?_
                  refine ip_icmp_ne (tgt := 113) hx hb dMO_decode_97 rfl hf (fun hf => ?_) (fun hf => ?_)
                  · replace hl := lv_sub hl (l' := [(0, .ref (ad 0)), (1, .int z1), (2, .int z2)]) [1, 2, 3] rfl
                    cases hf
                    exact J113 ls H locs hl hP hD hS
                  · refine lv_aload_n hx hb dMO_decode_100 rfl (lv_at hl 1 rfl) ?_
                    refine lv_iload_n hx hb dMO_decode_101 rfl (lv_at hl 4 rfl) ?_
                    obtain ⟨hz, hf⟩ := ip_zk_e hf
                    refine va_put (D := (dC, dI)) (ci := 12) (v := .int z58) (ty := .boolean) (C := kR_MO) (T := kT_MO) (N := 32) hx hb hts kin_MO kty_MO kto_MO knm_MO hown hK hP hD hS 0 rfl rfl 9 (by decide) (hts _ (List.mem_cons_of_mem _ kw3_196)) (fun _ h9 => h9) rfl (by decide +kernel) (ip_zn hz).1 (ip_zn hz).2 (Nat.le_of_ble_eq_true rfl) dMO_decode_102 (fun H locs hP hD hS => ?_)
                    replace hP : va_P (dC, dI) vwCl (wMO_decode ad cI cZ v_MO_size z59 z4 z5 z6 z58 z8 z9 z10 v_mfed g60 g12 g13 g14 g15 g16 g17 g18 g19 g20 g21 g22 g23 g24 g25 g26 g27 g28 g29 v_mfour v_mwave v_mscale) H := hP
                    replace hD : va_D A (wMO_decode ad cI cZ v_MO_size z59 z4 z5 z6 z58 z8 z9 z10 v_mfed g60 g12 g13 g14 g15 g16 g17 g18 g19 g20 g21 g22 g23 g24 g25 g26 g27 g28 g29 v_mfour v_mwave v_mscale) := hD
                    refine lv_aload_n hx hb dMO_decode_105 rfl (lv_at hl 1 rfl) ?_
                    obtain ⟨z88, z89, z90, z91, g92, g93, g94, g95, g96, g97, g98, g99, g100, g101, hc, hf⟩ := ip_b14_e hf
                    refine ip_callv (va_runV (As := []) (rest := []) ⟨hx, hb, hml, hown, hts⟩ (tMO_readPicture (l := l) (dC := dC) (dI := dI) (ad := ad) (cI := cI) (ts := ts) (cZ := cZ) hc H.size) (cwV 0 hts (ip_gdV (own := kR_MO) (idx := 133) (C := kR_MO) (y := yMO_readPicture) kw4_99 kw4_101 kws_44 kw1_13 kw4_102) rfl rfl rfl (by decide +kernel) ⟨Nat.le_of_ble_eq_true rfl, Nat.le_of_ble_eq_true rfl⟩) (ip_preV hK hP hD hS hA hZ [0, 2, 3, 5, 6, 7, 8, 9, 10, 11, 12, 13, 14] rfl rfl (ci := 12) (q0 := 0) rfl rfl) rfl rfl hl.1 rfl (lv_room (Nat.le_of_ble_eq_true rfl)) dMO_decode_106 ⟨Nat.le_of_ble_eq_true rfl, Nat.le_of_ble_eq_true rfl⟩) hP hD hS hA [0, 2, 3, 5, 6, 7, 8, 9, 10, 11, 12, 13, 14] [1, 4, 15, 16, 17, 18, 19, 20, 21, 22, 23] [11, 0, 12, 13, 1, 14, 15, 16, 17, 18, 19, 20, 21, 22, 23, 2, 3, 4, 5, 6, 7, 8, 9, 10] (wMO_decode ad cI cZ v_MO_size z59 z88 z5 z6 z58 z89 z90 z91 v_mfed g60 g12 g13 g92 g93 g94 g95 g96 g97 g98 g99 g100 g101 g24 g25 g26 g27 g28 g29 v_mfour v_mwave v_mscale) rfl rfl rfl (by decide) rfl rfl (fun H locs hP hD hS => ?_)
                    clear hc
                    refine lv_aload_n hx hb dMO_decode_109 rfl (lv_at hl 1 rfl) ?_
                    obtain ⟨g102, g103, g104, g105, g106, g107, hc, hf⟩ := ip_b6_e hf
                    refine ip_callv (va_runV (As := []) (rest := []) ⟨hx, hb, hml, hown, hts⟩ (tMO_restore (l := l) (dC := dC) (dI := dI) (ad := ad) (cI := cI) (ts := ts) (cZ := cZ) hc H.size) (cwV 0 hts (ip_gdV (own := kR_MO) (idx := 136) (C := kR_MO) (y := yMO_restore) kw4_134 kw4_136 kws_52 kw1_13 kw4_137) rfl rfl rfl (by decide +kernel) ⟨Nat.le_of_ble_eq_true rfl, Nat.le_of_ble_eq_true rfl⟩) (ip_preV hK hP hD hS hA hZ [0, 3, 7, 8, 9, 10, 11, 12, 13, 15, 16, 17, 18, 19, 20, 21, 22, 23] rfl rfl (ci := 12) (q0 := 0) rfl rfl) rfl rfl hl.1 rfl (lv_room (Nat.le_of_ble_eq_true rfl)) dMO_decode_110 ⟨Nat.le_of_ble_eq_true rfl, Nat.le_of_ble_eq_true rfl⟩) hP hD hS hA [0, 3, 7, 8, 9, 10, 11, 12, 13, 15, 16, 17, 18, 19, 20, 21, 22, 23] [1, 2, 4, 5, 6, 14] [6, 0, 1, 7, 2, 3, 4, 8, 9, 10, 11, 12, 13, 14, 5, 15, 16, 17, 18, 19, 20, 21, 22, 23] (wMO_decode ad cI cZ v_MO_size z59 z88 z5 z6 z58 z89 z90 z91 v_mfed g60 g12 g13 g92 g93 g94 g95 g96 g97 g98 g99 g100 g101 g102 g103 g104 g105 g106 g107 v_mfour v_mwave v_mscale) rfl rfl rfl (by decide) rfl rfl (fun H locs hP hD hS => ?_)
                    clear hc
                    replace hl := lv_sub hl (l' := [(0, .ref (ad 0)), (1, .int z1), (2, .int z2)]) [1, 2, 3] rfl
                    cases hf
                    exact J113 ls H locs hl hP hD hS
                · refine lv_aload_n hx hb dMO_decode_78 rfl (lv_at hl 1 rfl) ?_
                  refine va_get (D := (dC, dI)) (ci := 12) (v := .int z6) (C := kR_MO) (T := kT_MO) (N := 32) hx hb hts kin_MO hown hK hP 0 rfl rfl 8 (by decide) (hts _ (List.mem_cons_of_mem _ kw3_195)) (fun _ h9 => h9) rfl dMO_decode_79 ?_
                  refine ip_if_ne (tgt := 94) hx hb dMO_decode_82 rfl hf (fun hf => ?_) (fun hf => ?_)
                  · refine lv_iload hx hb dMO_decode_94 (lv_at hl 0 rfl) ?_
                    refine lv_iconst (v := (2 : Int32)) hx hb dMO_decode_96 (by decide) ?_
                    refine ip_icmp_ne (tgt := 113) hx hb dMO_decode_97 rfl hf (fun hf => ?_) (fun hf => ?_)
                    · replace hl := lv_sub hl (l' := [(0, .ref (ad 0)), (1, .int z1), (2, .int z2)]) [1, 2, 3] rfl
                      cases hf
                      exact J113 ls H locs hl hP hD hS
                    · refine lv_aload_n hx hb dMO_decode_100 rfl (lv_at hl 1 rfl) ?_
                      refine lv_iload_n hx hb dMO_decode_101 rfl (lv_at hl 4 rfl) ?_
                      obtain ⟨hz, hf⟩ := ip_zk_e hf
                      refine va_put (D := (dC, dI)) (ci := 12) (v := .int z58) (ty := .boolean) (C := kR_MO) (T := kT_MO) (N := 32) hx hb hts kin_MO kty_MO kto_MO knm_MO hown hK hP hD hS 0 rfl rfl 9 (by decide) (hts _ (List.mem_cons_of_mem _ kw3_196)) (fun _ h9 => h9) rfl (by decide +kernel) (ip_zn hz).1 (ip_zn hz).2 (Nat.le_of_ble_eq_true rfl) dMO_decode_102 (fun H locs hP hD hS => ?_)
                      replace hP : va_P (dC, dI) vwCl (wMO_decode ad cI cZ v_MO_size z59 z4 z5 z6 z58 z8 z9 z10 v_mfed g60 g12 g13 g14 g15 g16 g17 g18 g19 g20 g21 g22 g23 g24 g25 g26 g27 g28 g29 v_mfour v_mwave v_mscale) H := hP
                      replace hD : va_D A (wMO_decode ad cI cZ v_MO_size z59 z4 z5 z6 z58 z8 z9 z10 v_mfed g60 g12 g13 g14 g15 g16 g17 g18 g19 g20 g21 g22 g23 g24 g25 g26 g27 g28 g29 v_mfour v_mwave v_mscale) := hD
                      refine lv_aload_n hx hb dMO_decode_105 rfl (lv_at hl 1 rfl) ?_
                      obtain ⟨z108, z109, z110, z111, g112, g113, g114, g115, g116, g117, g118, g119, g120, g121, hc, hf⟩ := ip_b14_e hf
                      refine ip_callv (va_runV (As := []) (rest := []) ⟨hx, hb, hml, hown, hts⟩ (tMO_readPicture (l := l) (dC := dC) (dI := dI) (ad := ad) (cI := cI) (ts := ts) (cZ := cZ) hc H.size) (cwV 0 hts (ip_gdV (own := kR_MO) (idx := 133) (C := kR_MO) (y := yMO_readPicture) kw4_99 kw4_101 kws_44 kw1_13 kw4_102) rfl rfl rfl (by decide +kernel) ⟨Nat.le_of_ble_eq_true rfl, Nat.le_of_ble_eq_true rfl⟩) (ip_preV hK hP hD hS hA hZ [0, 2, 3, 5, 6, 7, 8, 9, 10, 11, 12, 13, 14] rfl rfl (ci := 12) (q0 := 0) rfl rfl) rfl rfl hl.1 rfl (lv_room (Nat.le_of_ble_eq_true rfl)) dMO_decode_106 ⟨Nat.le_of_ble_eq_true rfl, Nat.le_of_ble_eq_true rfl⟩) hP hD hS hA [0, 2, 3, 5, 6, 7, 8, 9, 10, 11, 12, 13, 14] [1, 4, 15, 16, 17, 18, 19, 20, 21, 22, 23] [11, 0, 12, 13, 1, 14, 15, 16, 17, 18, 19, 20, 21, 22, 23, 2, 3, 4, 5, 6, 7, 8, 9, 10] (wMO_decode ad cI cZ v_MO_size z59 z108 z5 z6 z58 z109 z110 z111 v_mfed g60 g12 g13 g112 g113 g114 g115 g116 g117 g118 g119 g120 g121 g24 g25 g26 g27 g28 g29 v_mfour v_mwave v_mscale) rfl rfl rfl (by decide) rfl rfl (fun H locs hP hD hS => ?_)
                      clear hc
                      refine lv_aload_n hx hb dMO_decode_109 rfl (lv_at hl 1 rfl) ?_
                      obtain ⟨g122, g123, g124, g125, g126, g127, hc, hf⟩ := ip_b6_e hf
                      refine ip_callv (va_runV (As := []) (rest := []) ⟨hx, hb, hml, hown, hts⟩ (tMO_restore (l := l) (dC := dC) (dI := dI) (ad := ad) (cI := cI) (ts := ts) (cZ := cZ) hc H.size) (cwV 0 hts (ip_gdV (own := kR_MO) (idx := 136) (C := kR_MO) (y := yMO_restore) kw4_134 kw4_136 kws_52 kw1_13 kw4_137) rfl rfl rfl (by decide +kernel) ⟨Nat.le_of_ble_eq_true rfl, Nat.le_of_ble_eq_true rfl⟩) (ip_preV hK hP hD hS hA hZ [0, 3, 7, 8, 9, 10, 11, 12, 13, 15, 16, 17, 18, 19, 20, 21, 22, 23] rfl rfl (ci := 12) (q0 := 0) rfl rfl) rfl rfl hl.1 rfl (lv_room (Nat.le_of_ble_eq_true rfl)) dMO_decode_110 ⟨Nat.le_of_ble_eq_true rfl, Nat.le_of_ble_eq_true rfl⟩) hP hD hS hA [0, 3, 7, 8, 9, 10, 11, 12, 13, 15, 16, 17, 18, 19, 20, 21, 22, 23] [1, 2, 4, 5, 6, 14] [6, 0, 1, 7, 2, 3, 4, 8, 9, 10, 11, 12, 13, 14, 5, 15, 16, 17, 18, 19, 20, 21, 22, 23] (wMO_decode ad cI cZ v_MO_size z59 z108 z5 z6 z58 z109 z110 z111 v_mfed g60 g12 g13 g112 g113 g114 g115 g116 g117 g118 g119 g120 g121 g122 g123 g124 g125 g126 g127 v_mfour v_mwave v_mscale) rfl rfl rfl (by decide) rfl rfl (fun H locs hP hD hS => ?_)
                      clear hc
                      replace hl := lv_sub hl (l' := [(0, .ref (ad 0)), (1, .int z1), (2, .int z2)]) [1, 2, 3] rfl
                      cases hf
                      exact J113 ls H locs hl hP hD hS
                  · refine lv_aload_n hx hb dMO_decode_85 rfl (lv_at hl 1 rfl) ?_
                    refine lv_bipush (v := (-2 : Int32)) hx hb dMO_decode_86 (by decide) ?_
                    refine va_put (D := (dC, dI)) (ci := 12) (v := .int (-2 : Int32)) (ty := .int) (C := kR_MO) (T := kT_MO) (N := 32) hx hb hts kin_MO kty_MO kto_MO knm_MO hown hK hP hD hS 0 rfl rfl 5 (by decide) (hts _ (List.mem_cons_of_mem _ kw3_192)) (fun _ h9 => h9) rfl (by decide +kernel) rfl rfl (Nat.le_of_ble_eq_true rfl) dMO_decode_88 (fun H locs hP hD hS => ?_)
                    replace hP : va_P (dC, dI) vwCl (wMO_decode ad cI cZ v_MO_size z59 z4 (-2 : Int32) z6 z7 z8 z9 z10 v_mfed g60 g12 g13 g14 g15 g16 g17 g18 g19 g20 g21 g22 g23 g24 g25 g26 g27 g28 g29 v_mfour v_mwave v_mscale) H := hP
                    replace hD : va_D A (wMO_decode ad cI cZ v_MO_size z59 z4 (-2 : Int32) z6 z7 z8 z9 z10 v_mfed g60 g12 g13 g14 g15 g16 g17 g18 g19 g20 g21 g22 g23 g24 g25 g26 g27 g28 g29 v_mfour v_mwave v_mscale) := hD
                    refine lv_goto (tgt := 113) hx hb dMO_decode_91 rfl ?_
                    replace hl := lv_sub hl (l' := [(0, .ref (ad 0)), (1, .int z1), (2, .int z2)]) [1, 2, 3] rfl
                    cases hf
                    exact J113 ls H locs hl hP hD hS
              · refine lv_aload_n hx hb dMO_decode_65 rfl (lv_at hl 1 rfl) ?_
                obtain ⟨z128, z129, z130, g131, g132, hc, hf⟩ := ip_b5_e hf
                refine ip_callv (va_runV (As := []) (rest := []) ⟨hx, hb, hml, hown, hts⟩ (tMO_readParameters (l := l) (dC := dC) (dI := dI) (ad := ad) (cI := cI) (ts := ts) (cZ := cZ) hc H.size) (cwV 0 hts (ip_gdV (own := kR_MO) (idx := 130) (C := kR_MO) (y := yMO_readParameters) kw4_75 kw4_77 kws_38 kw1_13 kw4_78) rfl rfl rfl (by decide +kernel) ⟨Nat.le_of_ble_eq_true rfl, Nat.le_of_ble_eq_true rfl⟩) (ip_preV hK hP hD hS hA hZ [0, 2, 3, 4] rfl rfl (ci := 12) (q0 := 0) rfl rfl) rfl rfl hl.1 rfl (lv_room (Nat.le_of_ble_eq_true rfl)) dMO_decode_66 ⟨Nat.le_of_ble_eq_true rfl, Nat.le_of_ble_eq_true rfl⟩) hP hD hS hA [0, 2, 3, 4] [1, 5, 6, 7, 8, 9, 10, 11, 12, 13, 14, 15, 16, 17, 18, 19, 20, 21, 22, 23] [20, 0, 21, 22, 23, 1, 2, 3, 4, 5, 6, 7, 8, 9, 10, 11, 12, 13, 14, 15, 16, 17, 18, 19] (wMO_decode ad cI cZ v_MO_size z59 z128 z129 z130 z7 z8 z9 z10 v_mfed g60 g131 g132 g14 g15 g16 g17 g18 g19 g20 g21 g22 g23 g24 g25 g26 g27 g28 g29 v_mfour v_mwave v_mscale) rfl rfl rfl (by decide) rfl rfl (fun H locs hP hD hS => ?_)
                clear hc
                refine lv_goto (tgt := 113) hx hb dMO_decode_69 rfl ?_
                replace hl := lv_sub hl (l' := [(0, .ref (ad 0)), (1, .int z1), (2, .int z2)]) [1, 2, 3] rfl
                cases hf
                exact J113 ls H locs hl hP hD hS
            intro ls H locs hl hP hD hS
            clear hh
            refine ip_iinc (k0 := 2) (v0 := (1 : Int32)) (lv1 := fun z133 => [(2, .int z133), (0, .ref (ad 0)), (1, .int z1)]) hx hb dMO_decode_113 hl rfl (by decide) (by decide) (fun _ => rfl) hf (fun z133 ls hf hl => ?_)
            refine lv_goto (tgt := 22) hx hb dMO_decode_116 rfl ?_
            replace hl := lv_sub hl (l' := [(0, .ref (ad 0)), (1, .int z1), (2, .int z133)]) [1, 2, 0] rfl
            exact ih _ _ _ _ _ _ _ _ _ _ _ _ _ _ _ _ _ _ _ _ _ _ _ _ _ _ _ _ (ip_lp28_l hr22 hf) ls H locs hl hP hD hS
    exact L 1000 _ _ _ _ _ _ _ _ _ _ _ _ _ _ _ _ _ _ _ _ _ _ _ _ _ _ _ _ hL ls H locs hl hP hD hS
  intro ls H locs hl hP hD hS
  clear hL
  refine lv_aload_n hx hb dMO_decode_119 rfl (lv_at hl 0 rfl) ?_
  refine lv_aload_n hx hb dMO_decode_120 rfl (lv_at hl 0 rfl) ?_
  refine va_get (D := (dC, dI)) (ci := 12) (v := .int x35) (C := kR_MO) (T := kT_MO) (N := 32) hx hb hts kin_MO hown hK hP 0 rfl rfl 9 (by decide) (hts _ (List.mem_cons_of_mem _ kw3_196)) (fun _ h9 => h9) rfl dMO_decode_121 ?_
  obtain ⟨z134, hh, hf⟩ := ip_b1_e hf
  suffices J139 : ∀ (ls : Array Slot) (H : Heap) (locs : List Loc), lv_has ls 5 [(0, .ref (ad 0))] → va_P (dC, dI) vwCl (wMO_decode ad cI cZ v_MO_size x31 x32 x33 x34 x35 x36 x37 x38 v_mfed y39 y40 y41 y42 y43 y44 y45 y46 y47 y48 y49 y50 y51 y52 y53 y54 y55 y56 y57 v_mfour v_mwave v_mscale) H → va_D A (wMO_decode ad cI cZ v_MO_size x31 x32 x33 x34 x35 x36 x37 x38 v_mfed y39 y40 y41 y42 y43 y44 y45 y46 y47 y48 y49 y50 y51 y52 y53 y54 y55 y56 y57 v_mfour v_mwave v_mscale) → va_S A s.heap H locs → W p l e rmMO_decode s m args below meth c H locs 0 0 Q (F0 m 139 ls [.int z134, .ref (ad 0)]) by
    replace hf := hh
    refine ip_if_eq (tgt := 138) hx hb dMO_decode_124 rfl hf (fun hf => ?_) (fun hf => ?_)
    · refine lv_iconst (v := (0 : Int32)) hx hb dMO_decode_138 (by decide) ?_
      cases hf
      exact J139 ls H locs hl hP hD hS
    · refine lv_aload_n hx hb dMO_decode_127 rfl (lv_at hl 0 rfl) ?_
      refine va_get (D := (dC, dI)) (ci := 12) (v := .int x33) (C := kR_MO) (T := kT_MO) (N := 32) hx hb hts kin_MO hown hK hP 0 rfl rfl 5 (by decide) (hts _ (List.mem_cons_of_mem _ kw3_192)) (fun _ h9 => h9) rfl dMO_decode_128 ?_
      refine ip_if_ne (tgt := 138) hx hb dMO_decode_131 rfl hf (fun hf => ?_) (fun hf => ?_)
      · refine lv_iconst (v := (0 : Int32)) hx hb dMO_decode_138 (by decide) ?_
        cases hf
        exact J139 ls H locs hl hP hD hS
      · refine lv_iconst (v := (1 : Int32)) hx hb dMO_decode_134 (by decide) ?_
        refine lv_goto (tgt := 139) hx hb dMO_decode_135 rfl ?_
        cases hf
        exact J139 ls H locs hl hP hD hS
  intro ls H locs hl hP hD hS
  clear hh
  obtain ⟨hz, hf⟩ := ip_zk_e hf
  refine va_put (D := (dC, dI)) (ci := 12) (v := .int z134) (ty := .boolean) (C := kR_MO) (T := kT_MO) (N := 32) hx hb hts kin_MO kty_MO kto_MO knm_MO hown hK hP hD hS 0 rfl rfl 9 (by decide) (hts _ (List.mem_cons_of_mem _ kw3_196)) (fun _ h9 => h9) rfl (by decide +kernel) (ip_zn hz).1 (ip_zn hz).2 (Nat.le_of_ble_eq_true rfl) dMO_decode_139 (fun H locs hP hD hS => ?_)
  replace hP : va_P (dC, dI) vwCl (wMO_decode ad cI cZ v_MO_size x31 x32 x33 x34 z134 x36 x37 x38 v_mfed y39 y40 y41 y42 y43 y44 y45 y46 y47 y48 y49 y50 y51 y52 y53 y54 y55 y56 y57 v_mfour v_mwave v_mscale) H := hP
  replace hD : va_D A (wMO_decode ad cI cZ v_MO_size x31 x32 x33 x34 z134 x36 x37 x38 v_mfed y39 y40 y41 y42 y43 y44 y45 y46 y47 y48 y49 y50 y51 y52 y53 y54 y55 y56 y57 v_mfour v_mwave v_mscale) := hD
  refine lv_aload_n hx hb dMO_decode_142 rfl (lv_at hl 0 rfl) ?_
  refine va_get (D := (dC, dI)) (ci := 12) (v := .int x33) (C := kR_MO) (T := kT_MO) (N := 32) hx hb hts kin_MO hown hK hP 0 rfl rfl 5 (by decide) (hts _ (List.mem_cons_of_mem _ kw3_192)) (fun _ h9 => h9) rfl dMO_decode_143 ?_
  refine ip_if_ge (tgt := 156) hx hb dMO_decode_146 rfl hf (fun hf => ?_) (fun hf => ?_)
  · refine lv_aload_n hx hb dMO_decode_156 rfl (lv_at hl 0 rfl) ?_
    refine va_get (D := (dC, dI)) (ci := 12) (v := .int z134) (C := kR_MO) (T := kT_MO) (N := 32) hx hb hts kin_MO hown hK hP 0 rfl rfl 9 (by decide) (hts _ (List.mem_cons_of_mem _ kw3_196)) (fun _ h9 => h9) rfl dMO_decode_157 ?_
    refine ip_if_eq (tgt := 170) hx hb dMO_decode_160 rfl hf (fun hf => ?_) (fun hf => ?_)
    · refine lv_iconst (v := (-1 : Int32)) hx hb dMO_decode_170 (by decide) ?_
      cases hf
      exact hret H locs 171 ls _ dMO_decode_171 rfl hP hD hS
    · refine lv_aload_n hx hb dMO_decode_163 rfl (lv_at hl 0 rfl) ?_
      refine va_get (D := (dC, dI)) (ci := 12) (v := .int x38) (C := kR_MO) (T := kT_MO) (N := 32) hx hb hts kin_MO hown hK hP 0 rfl rfl 14 (by decide) (hts _ (List.mem_cons_of_mem _ kw3_201)) (fun _ h9 => h9) rfl dMO_decode_164 ?_
      refine lv_goto (tgt := 171) hx hb dMO_decode_167 rfl ?_
      cases hf
      exact hret H locs 171 ls _ dMO_decode_171 rfl hP hD hS
  · refine lv_aload_n hx hb dMO_decode_149 rfl (lv_at hl 0 rfl) ?_
    refine va_get (D := (dC, dI)) (ci := 12) (v := .int x33) (C := kR_MO) (T := kT_MO) (N := 32) hx hb hts kin_MO hown hK hP 0 rfl rfl 5 (by decide) (hts _ (List.mem_cons_of_mem _ kw3_192)) (fun _ h9 => h9) rfl dMO_decode_150 ?_
    refine lv_goto (tgt := 171) hx hb dMO_decode_153 rfl ?_
    cases hf
    exact hret H locs 171 ls _ dMO_decode_171 rfl hP hD hS
set_option maxHeartbeats 4000000 in
set_option maxRecDepth 100000 in
theorem tMO_parameter {l : Launch} {dC : Nat → ClassId} {dI : Nat → Nat → Nat} {cI cZ : ClassId} {ad : Nat → Nat} {ts : ip_TT} {v_MO_size : Int32} {v_MO_loaded : Int32} {v_MO_at : Int32} {v_MO_fault : Int32} {v_MO_hasGiven : Int32} {v_MO_hasPicture : Int32} {v_MO_range : Int32} {v_MO_value : Int32} {v_MO_leaves : Int32} {v_mgiven : Nat → Int32} {p1 : Int32} {r0 : Int32}  (hf : fMO_parameter v_MO_size v_MO_loaded v_MO_at v_MO_fault v_MO_hasGiven v_MO_hasPicture v_MO_range v_MO_value v_MO_leaves v_mgiven p1 = some r0) : ip_Mi l yMO_parameter wsMO_parameter rmMO_parameter (dC, dI) vwCl [(cI, .int), (cZ, .boolean)] ts [.ref (ad 0), .int p1] (wMO_parameter ad cI cZ v_MO_size v_MO_loaded v_MO_at v_MO_fault v_MO_hasGiven v_MO_hasPicture v_MO_range v_MO_value v_MO_leaves v_mgiven) (wMO_parameter ad cI cZ v_MO_size v_MO_loaded v_MO_at v_MO_fault v_MO_hasGiven v_MO_hasPicture v_MO_range v_MO_value v_MO_leaves v_mgiven) r0 := by
  refine ip_startI (cc := cMO_parameter) (maxL := 2) (by decide) rfl (Nat.le_of_ble_eq_true rfl) ?_
  intro p e s m args below meth c Q A ls hx hb hml hts hown hK hP hD hS hA hZ hl hret
  replace hl : lv_has ls 2 [(0, .ref (ad 0)), (1, .int p1)] := hl
  unfold fMO_parameter at hf
  suffices J0 : ∀ (ls : Array Slot) (H : Heap) (locs : List Loc), lv_has ls 2 [(0, .ref (ad 0)), (1, .int p1)] → va_P (dC, dI) vwCl (wMO_parameter ad cI cZ v_MO_size v_MO_loaded v_MO_at v_MO_fault v_MO_hasGiven v_MO_hasPicture v_MO_range v_MO_value v_MO_leaves v_mgiven) H → va_D A (wMO_parameter ad cI cZ v_MO_size v_MO_loaded v_MO_at v_MO_fault v_MO_hasGiven v_MO_hasPicture v_MO_range v_MO_value v_MO_leaves v_mgiven) → va_S A s.heap H locs → W p l e rmMO_parameter s m args below meth c H locs 0 0 Q (F0 m 0 ls []) by exact J0 ls s.heap [] hl hP hD hS
  clear hP hD hS hl
  intro ls H locs hl hP hD hS
  refine lv_aload_n hx hb dMO_parameter_0 rfl (lv_at hl 0 rfl) ?_
  refine va_get (D := (dC, dI)) (ci := 12) (v := .int v_MO_hasGiven) (C := kR_MO) (T := kT_MO) (N := 32) hx hb hts kin_MO hown hK hP 0 rfl rfl 8 (by decide) (hts _ (List.mem_cons_of_mem _ kw3_195)) (fun _ h9 => h9) rfl dMO_parameter_1 ?_
  refine ip_if_eq (tgt := 26) hx hb dMO_parameter_4 rfl hf (fun hf => ?_) (fun hf => ?_)
  · refine lv_bipush (v := (-100 : Int32)) hx hb dMO_parameter_26 (by decide) ?_
    cases hf
    exact hret H locs 28 ls _ dMO_parameter_28 rfl hP hD hS
  · refine lv_iload_n hx hb dMO_parameter_7 rfl (lv_at hl 1 rfl) ?_
    refine ip_if_lt (tgt := 26) hx hb dMO_parameter_8 rfl hf (fun hf => ?_) (fun hf => ?_)
    · refine lv_bipush (v := (-100 : Int32)) hx hb dMO_parameter_26 (by decide) ?_
      cases hf
      exact hret H locs 28 ls _ dMO_parameter_28 rfl hP hD hS
    · refine lv_iload_n hx hb dMO_parameter_11 rfl (lv_at hl 1 rfl) ?_
      refine lv_bipush (v := (9 : Int32)) hx hb dMO_parameter_12 (by decide) ?_
      refine ip_icmp_gt (tgt := 26) hx hb dMO_parameter_14 rfl hf (fun hf => ?_) (fun hf => ?_)
      · refine lv_bipush (v := (-100 : Int32)) hx hb dMO_parameter_26 (by decide) ?_
        cases hf
        exact hret H locs 28 ls _ dMO_parameter_28 rfl hP hD hS
      · refine lv_aload_n hx hb dMO_parameter_17 rfl (lv_at hl 0 rfl) ?_
        refine va_get (D := (dC, dI)) (ci := 12) (v := .ref (ad 3)) (C := kR_MO) (T := kT_MO) (N := 32) hx hb hts kin_MO hown hK hP 0 rfl rfl 6 (by decide) (hts _ (List.mem_cons_of_mem _ kw3_193)) (fun _ h9 => h9) rfl dMO_parameter_18 ?_
        refine lv_iload_n hx hb dMO_parameter_21 rfl (lv_at hl 1 rfl) ?_
        refine ip_iald hx hb hK hP 1 0 rfl rfl dMO_parameter_22 hf (fun z1 hf => ?_)
        refine lv_goto (tgt := 28) hx hb dMO_parameter_23 rfl ?_
        cases hf
        exact hret H locs 28 ls _ dMO_parameter_28 rfl hP hD hS
set_option maxHeartbeats 4000000 in
set_option maxRecDepth 100000 in
theorem tMO_seen {l : Launch} {dC : Nat → ClassId} {dI : Nat → Nat → Nat} {cI cZ : ClassId} {ad : Nat → Nat} {ts : ip_TT} {v_MO_size : Int32} {v_MO_loaded : Int32} {v_MO_at : Int32} {v_MO_fault : Int32} {v_MO_hasGiven : Int32} {v_MO_hasPicture : Int32} {v_MO_range : Int32} {v_MO_value : Int32} {v_MO_leaves : Int32} {p1 : Int32} {p2 : Int32} {r0 : Int32}  (hf : fMO_seen v_MO_size v_MO_loaded v_MO_at v_MO_fault v_MO_hasGiven v_MO_hasPicture v_MO_range v_MO_value v_MO_leaves p1 p2 = some r0) : ip_Mi l yMO_seen wsMO_seen rmMO_seen (dC, dI) vwCl [(cI, .int), (cZ, .boolean)] ts [.ref (ad 0), .int p1, .int p2] (wMO_seen ad cI cZ v_MO_size v_MO_loaded v_MO_at v_MO_fault v_MO_hasGiven v_MO_hasPicture v_MO_range v_MO_value v_MO_leaves) (wMO_seen ad cI cZ v_MO_size v_MO_loaded v_MO_at v_MO_fault v_MO_hasGiven v_MO_hasPicture v_MO_range v_MO_value v_MO_leaves) r0 := by
  refine ip_startZ (cc := cMO_seen) (maxL := 3) (by decide) rfl (Nat.le_of_ble_eq_true rfl) ?_
  intro p e s m args below meth c Q A ls hx hb hml hts hown hK hP hD hS hA hZ hl hret
  replace hl : lv_has ls 3 [(0, .ref (ad 0)), (1, .int p1), (2, .int p2)] := hl
  unfold fMO_seen at hf
  suffices J0 : ∀ (ls : Array Slot) (H : Heap) (locs : List Loc), lv_has ls 3 [(0, .ref (ad 0)), (1, .int p1), (2, .int p2)] → va_P (dC, dI) vwCl (wMO_seen ad cI cZ v_MO_size v_MO_loaded v_MO_at v_MO_fault v_MO_hasGiven v_MO_hasPicture v_MO_range v_MO_value v_MO_leaves) H → va_D A (wMO_seen ad cI cZ v_MO_size v_MO_loaded v_MO_at v_MO_fault v_MO_hasGiven v_MO_hasPicture v_MO_range v_MO_value v_MO_leaves) → va_S A s.heap H locs → W p l e rmMO_seen s m args below meth c H locs 0 0 Q (F0 m 0 ls []) by exact J0 ls s.heap [] hl hP hD hS
  clear hP hD hS hl
  intro ls H locs hl hP hD hS
  refine lv_aload_n hx hb dMO_seen_0 rfl (lv_at hl 0 rfl) ?_
  refine va_get (D := (dC, dI)) (ci := 12) (v := .int v_MO_hasPicture) (C := kR_MO) (T := kT_MO) (N := 32) hx hb hts kin_MO hown hK hP 0 rfl rfl 9 (by decide) (hts _ (List.mem_cons_of_mem _ kw3_196)) (fun _ h9 => h9) rfl dMO_seen_1 ?_
  refine ip_if_eq (tgt := 31) hx hb dMO_seen_4 rfl hf (fun hf => ?_) (fun hf => ?_)
  · refine lv_iconst (v := (0 : Int32)) hx hb dMO_seen_31 (by decide) ?_
    cases hf
    exact hret H locs 32 ls _ dMO_seen_32 (Or.inl rfl) rfl hP hD hS
  · refine lv_iload_n hx hb dMO_seen_7 rfl (lv_at hl 1 rfl) ?_
    refine ip_if_lt (tgt := 31) hx hb dMO_seen_8 rfl hf (fun hf => ?_) (fun hf => ?_)
    · refine lv_iconst (v := (0 : Int32)) hx hb dMO_seen_31 (by decide) ?_
      cases hf
      exact hret H locs 32 ls _ dMO_seen_32 (Or.inl rfl) rfl hP hD hS
    · refine lv_iload_n hx hb dMO_seen_11 rfl (lv_at hl 1 rfl) ?_
      refine lv_bipush (v := (15 : Int32)) hx hb dMO_seen_12 (by decide) ?_
      refine ip_icmp_gt (tgt := 31) hx hb dMO_seen_14 rfl hf (fun hf => ?_) (fun hf => ?_)
      · refine lv_iconst (v := (0 : Int32)) hx hb dMO_seen_31 (by decide) ?_
        cases hf
        exact hret H locs 32 ls _ dMO_seen_32 (Or.inl rfl) rfl hP hD hS
      · refine lv_iload_n hx hb dMO_seen_17 rfl (lv_at hl 2 rfl) ?_
        refine ip_if_lt (tgt := 31) hx hb dMO_seen_18 rfl hf (fun hf => ?_) (fun hf => ?_)
        · refine lv_iconst (v := (0 : Int32)) hx hb dMO_seen_31 (by decide) ?_
          cases hf
          exact hret H locs 32 ls _ dMO_seen_32 (Or.inl rfl) rfl hP hD hS
        · refine lv_iload_n hx hb dMO_seen_21 rfl (lv_at hl 2 rfl) ?_
          refine lv_bipush (v := (15 : Int32)) hx hb dMO_seen_22 (by decide) ?_
          refine ip_icmp_gt (tgt := 31) hx hb dMO_seen_24 rfl hf (fun hf => ?_) (fun hf => ?_)
          · refine lv_iconst (v := (0 : Int32)) hx hb dMO_seen_31 (by decide) ?_
            cases hf
            exact hret H locs 32 ls _ dMO_seen_32 (Or.inl rfl) rfl hP hD hS
          · refine lv_iconst (v := (1 : Int32)) hx hb dMO_seen_27 (by decide) ?_
            refine lv_goto (tgt := 32) hx hb dMO_seen_28 rfl ?_
            cases hf
            exact hret H locs 32 ls _ dMO_seen_32 (Or.inr rfl) rfl hP hD hS
set_option maxHeartbeats 4000000 in
set_option maxRecDepth 100000 in
theorem tMO_sample {l : Launch} {dC : Nat → ClassId} {dI : Nat → Nat → Nat} {cI cZ : ClassId} {ad : Nat → Nat} {ts : ip_TT} {v_MO_size : Int32} {v_MO_loaded : Int32} {v_MO_at : Int32} {v_MO_fault : Int32} {v_MO_hasGiven : Int32} {v_MO_hasPicture : Int32} {v_MO_range : Int32} {v_MO_value : Int32} {v_MO_leaves : Int32} {v_mlast : Nat → Int32} {p1 : Int32} {p2 : Int32} {r0 : Int32}  (hf : fMO_sample v_MO_size v_MO_loaded v_MO_at v_MO_fault v_MO_hasGiven v_MO_hasPicture v_MO_range v_MO_value v_MO_leaves v_mlast p1 p2 = some r0) : ip_Mi l yMO_sample wsMO_sample rmMO_sample (dC, dI) vwCl [(cI, .int), (cZ, .boolean)] ts [.ref (ad 0), .int p1, .int p2] (wMO_sample ad cI cZ v_MO_size v_MO_loaded v_MO_at v_MO_fault v_MO_hasGiven v_MO_hasPicture v_MO_range v_MO_value v_MO_leaves v_mlast) (wMO_sample ad cI cZ v_MO_size v_MO_loaded v_MO_at v_MO_fault v_MO_hasGiven v_MO_hasPicture v_MO_range v_MO_value v_MO_leaves v_mlast) r0 := by
  refine ip_startI (cc := cMO_sample) (maxL := 3) (by decide) rfl (Nat.le_of_ble_eq_true rfl) ?_
  intro p e s m args below meth c Q A ls hx hb hml hts hown hK hP hD hS hA hZ hl hret
  replace hl : lv_has ls 3 [(0, .ref (ad 0)), (1, .int p1), (2, .int p2)] := hl
  unfold fMO_sample at hf
  suffices J0 : ∀ (ls : Array Slot) (H : Heap) (locs : List Loc), lv_has ls 3 [(0, .ref (ad 0)), (1, .int p1), (2, .int p2)] → va_P (dC, dI) vwCl (wMO_sample ad cI cZ v_MO_size v_MO_loaded v_MO_at v_MO_fault v_MO_hasGiven v_MO_hasPicture v_MO_range v_MO_value v_MO_leaves v_mlast) H → va_D A (wMO_sample ad cI cZ v_MO_size v_MO_loaded v_MO_at v_MO_fault v_MO_hasGiven v_MO_hasPicture v_MO_range v_MO_value v_MO_leaves v_mlast) → va_S A s.heap H locs → W p l e rmMO_sample s m args below meth c H locs 0 0 Q (F0 m 0 ls []) by exact J0 ls s.heap [] hl hP hD hS
  clear hP hD hS hl
  intro ls H locs hl hP hD hS
  refine lv_aload_n hx hb dMO_sample_0 rfl (lv_at hl 0 rfl) ?_
  refine lv_iload_n hx hb dMO_sample_1 rfl (lv_at hl 1 rfl) ?_
  refine lv_iload_n hx hb dMO_sample_2 rfl (lv_at hl 2 rfl) ?_
  obtain ⟨z1, hc, hf⟩ := ip_b1_e hf
  refine ip_calli (va_runV (As := [.int p1, .int p2]) (rest := []) ⟨hx, hb, hml, hown, hts⟩ (tMO_seen (l := l) (dC := dC) (dI := dI) (ad := ad) (cI := cI) (ts := ts) (cZ := cZ) hc H.size) (cwV 2 hts (ip_gdV (own := kR_MO) (idx := 221) (C := kR_MO) (y := yMO_seen) kw4_203 kw4_205 kws_65 kw1_13 kw4_206) rfl rfl rfl (by decide +kernel) ⟨Nat.le_of_ble_eq_true rfl, Nat.le_of_ble_eq_true rfl⟩) (ip_preV hK hP hD hS hA hZ [0] rfl rfl (ci := 12) (q0 := 0) rfl rfl) rfl rfl hl.1 rfl (lv_room (Nat.le_of_ble_eq_true rfl)) dMO_sample_3 ⟨Nat.le_of_ble_eq_true rfl, Nat.le_of_ble_eq_true rfl⟩) hP hD hS hA [0] [1] [1, 0] (wMO_sample ad cI cZ v_MO_size v_MO_loaded v_MO_at v_MO_fault v_MO_hasGiven v_MO_hasPicture v_MO_range v_MO_value v_MO_leaves v_mlast) rfl rfl rfl (by decide) rfl rfl (fun H locs hP hD hS => ?_)
  clear hc
  refine ip_if_eq (tgt := 23) hx hb dMO_sample_6 rfl hf (fun hf => ?_) (fun hf => ?_)
  · refine lv_iconst (v := (-1 : Int32)) hx hb dMO_sample_23 (by decide) ?_
    cases hf
    exact hret H locs 24 ls _ dMO_sample_24 rfl hP hD hS
  · refine lv_aload_n hx hb dMO_sample_9 rfl (lv_at hl 0 rfl) ?_
    refine va_get (D := (dC, dI)) (ci := 12) (v := .ref (ad 17)) (C := kR_MO) (T := kT_MO) (N := 32) hx hb hts kin_MO hown hK hP 0 rfl rfl 25 (by decide) (hts _ (List.mem_cons_of_mem _ kw3_212)) (fun _ h9 => h9) rfl dMO_sample_10 ?_
    refine lv_bipush (v := (16 : Int32)) hx hb dMO_sample_13 (by decide) ?_
    refine lv_iload_n hx hb dMO_sample_15 rfl (lv_at hl 2 rfl) ?_
    refine lv_imul hx hb dMO_sample_16 ?_
    refine lv_iload_n hx hb dMO_sample_17 rfl (lv_at hl 1 rfl) ?_
    refine lv_iadd hx hb dMO_sample_18 ?_
    refine ip_iald hx hb hK hP 1 0 rfl rfl dMO_sample_19 hf (fun z2 hf => ?_)
    refine lv_goto (tgt := 24) hx hb dMO_sample_20 rfl ?_
    cases hf
    exact hret H locs 24 ls _ dMO_sample_24 rfl hP hD hS
set_option maxHeartbeats 4000000 in
set_option maxRecDepth 100000 in
theorem tMO_plain {l : Launch} {dC : Nat → ClassId} {dI : Nat → Nat → Nat} {cI cZ : ClassId} {ad : Nat → Nat} {ts : ip_TT} {v_MO_size : Int32} {v_MO_loaded : Int32} {v_MO_at : Int32} {v_MO_fault : Int32} {v_MO_hasGiven : Int32} {v_MO_hasPicture : Int32} {v_MO_range : Int32} {v_MO_value : Int32} {v_MO_leaves : Int32} {v_mfirst : Nat → Int32} {p1 : Int32} {p2 : Int32} {r0 : Int32}  (hf : fMO_plain v_MO_size v_MO_loaded v_MO_at v_MO_fault v_MO_hasGiven v_MO_hasPicture v_MO_range v_MO_value v_MO_leaves v_mfirst p1 p2 = some r0) : ip_Mi l yMO_plain wsMO_plain rmMO_plain (dC, dI) vwCl [(cI, .int), (cZ, .boolean)] ts [.ref (ad 0), .int p1, .int p2] (wMO_plain ad cI cZ v_MO_size v_MO_loaded v_MO_at v_MO_fault v_MO_hasGiven v_MO_hasPicture v_MO_range v_MO_value v_MO_leaves v_mfirst) (wMO_plain ad cI cZ v_MO_size v_MO_loaded v_MO_at v_MO_fault v_MO_hasGiven v_MO_hasPicture v_MO_range v_MO_value v_MO_leaves v_mfirst) r0 := by
  refine ip_startI (cc := cMO_plain) (maxL := 3) (by decide) rfl (Nat.le_of_ble_eq_true rfl) ?_
  intro p e s m args below meth c Q A ls hx hb hml hts hown hK hP hD hS hA hZ hl hret
  replace hl : lv_has ls 3 [(0, .ref (ad 0)), (1, .int p1), (2, .int p2)] := hl
  unfold fMO_plain at hf
  suffices J0 : ∀ (ls : Array Slot) (H : Heap) (locs : List Loc), lv_has ls 3 [(0, .ref (ad 0)), (1, .int p1), (2, .int p2)] → va_P (dC, dI) vwCl (wMO_plain ad cI cZ v_MO_size v_MO_loaded v_MO_at v_MO_fault v_MO_hasGiven v_MO_hasPicture v_MO_range v_MO_value v_MO_leaves v_mfirst) H → va_D A (wMO_plain ad cI cZ v_MO_size v_MO_loaded v_MO_at v_MO_fault v_MO_hasGiven v_MO_hasPicture v_MO_range v_MO_value v_MO_leaves v_mfirst) → va_S A s.heap H locs → W p l e rmMO_plain s m args below meth c H locs 0 0 Q (F0 m 0 ls []) by exact J0 ls s.heap [] hl hP hD hS
  clear hP hD hS hl
  intro ls H locs hl hP hD hS
  refine lv_aload_n hx hb dMO_plain_0 rfl (lv_at hl 0 rfl) ?_
  refine lv_iload_n hx hb dMO_plain_1 rfl (lv_at hl 1 rfl) ?_
  refine lv_iload_n hx hb dMO_plain_2 rfl (lv_at hl 2 rfl) ?_
  obtain ⟨z1, hc, hf⟩ := ip_b1_e hf
  refine ip_calli (va_runV (As := [.int p1, .int p2]) (rest := []) ⟨hx, hb, hml, hown, hts⟩ (tMO_seen (l := l) (dC := dC) (dI := dI) (ad := ad) (cI := cI) (ts := ts) (cZ := cZ) hc H.size) (cwV 2 hts (ip_gdV (own := kR_MO) (idx := 221) (C := kR_MO) (y := yMO_seen) kw4_203 kw4_205 kws_65 kw1_13 kw4_206) rfl rfl rfl (by decide +kernel) ⟨Nat.le_of_ble_eq_true rfl, Nat.le_of_ble_eq_true rfl⟩) (ip_preV hK hP hD hS hA hZ [0] rfl rfl (ci := 12) (q0 := 0) rfl rfl) rfl rfl hl.1 rfl (lv_room (Nat.le_of_ble_eq_true rfl)) dMO_plain_3 ⟨Nat.le_of_ble_eq_true rfl, Nat.le_of_ble_eq_true rfl⟩) hP hD hS hA [0] [1] [1, 0] (wMO_plain ad cI cZ v_MO_size v_MO_loaded v_MO_at v_MO_fault v_MO_hasGiven v_MO_hasPicture v_MO_range v_MO_value v_MO_leaves v_mfirst) rfl rfl rfl (by decide) rfl rfl (fun H locs hP hD hS => ?_)
  clear hc
  refine ip_if_eq (tgt := 23) hx hb dMO_plain_6 rfl hf (fun hf => ?_) (fun hf => ?_)
  · refine lv_iconst (v := (-1 : Int32)) hx hb dMO_plain_23 (by decide) ?_
    cases hf
    exact hret H locs 24 ls _ dMO_plain_24 rfl hP hD hS
  · refine lv_aload_n hx hb dMO_plain_9 rfl (lv_at hl 0 rfl) ?_
    refine va_get (D := (dC, dI)) (ci := 12) (v := .ref (ad 16)) (C := kR_MO) (T := kT_MO) (N := 32) hx hb hts kin_MO hown hK hP 0 rfl rfl 24 (by decide) (hts _ (List.mem_cons_of_mem _ kw3_211)) (fun _ h9 => h9) rfl dMO_plain_10 ?_
    refine lv_bipush (v := (16 : Int32)) hx hb dMO_plain_13 (by decide) ?_
    refine lv_iload_n hx hb dMO_plain_15 rfl (lv_at hl 2 rfl) ?_
    refine lv_imul hx hb dMO_plain_16 ?_
    refine lv_iload_n hx hb dMO_plain_17 rfl (lv_at hl 1 rfl) ?_
    refine lv_iadd hx hb dMO_plain_18 ?_
    refine ip_iald hx hb hK hP 1 0 rfl rfl dMO_plain_19 hf (fun z2 hf => ?_)
    refine lv_goto (tgt := 24) hx hb dMO_plain_20 rfl ?_
    cases hf
    exact hret H locs 24 ls _ dMO_plain_24 rfl hP hD hS
set_option maxHeartbeats 4000000 in
set_option maxRecDepth 100000 in
theorem tMO_predicted {l : Launch} {dC : Nat → ClassId} {dI : Nat → Nat → Nat} {cI cZ : ClassId} {ad : Nat → Nat} {ts : ip_TT} {v_MO_size : Int32} {v_MO_loaded : Int32} {v_MO_at : Int32} {v_MO_fault : Int32} {v_MO_hasGiven : Int32} {v_MO_hasPicture : Int32} {v_MO_range : Int32} {v_MO_value : Int32} {v_MO_leaves : Int32} {v_mguess : Nat → Int32} {p1 : Int32} {p2 : Int32} {r0 : Int32}  (hf : fMO_predicted v_MO_size v_MO_loaded v_MO_at v_MO_fault v_MO_hasGiven v_MO_hasPicture v_MO_range v_MO_value v_MO_leaves v_mguess p1 p2 = some r0) : ip_Mi l yMO_predicted wsMO_predicted rmMO_predicted (dC, dI) vwCl [(cI, .int), (cZ, .boolean)] ts [.ref (ad 0), .int p1, .int p2] (wMO_predicted ad cI cZ v_MO_size v_MO_loaded v_MO_at v_MO_fault v_MO_hasGiven v_MO_hasPicture v_MO_range v_MO_value v_MO_leaves v_mguess) (wMO_predicted ad cI cZ v_MO_size v_MO_loaded v_MO_at v_MO_fault v_MO_hasGiven v_MO_hasPicture v_MO_range v_MO_value v_MO_leaves v_mguess) r0 := by
  refine ip_startI (cc := cMO_predicted) (maxL := 3) (by decide) rfl (Nat.le_of_ble_eq_true rfl) ?_
  intro p e s m args below meth c Q A ls hx hb hml hts hown hK hP hD hS hA hZ hl hret
  replace hl : lv_has ls 3 [(0, .ref (ad 0)), (1, .int p1), (2, .int p2)] := hl
  unfold fMO_predicted at hf
  suffices J0 : ∀ (ls : Array Slot) (H : Heap) (locs : List Loc), lv_has ls 3 [(0, .ref (ad 0)), (1, .int p1), (2, .int p2)] → va_P (dC, dI) vwCl (wMO_predicted ad cI cZ v_MO_size v_MO_loaded v_MO_at v_MO_fault v_MO_hasGiven v_MO_hasPicture v_MO_range v_MO_value v_MO_leaves v_mguess) H → va_D A (wMO_predicted ad cI cZ v_MO_size v_MO_loaded v_MO_at v_MO_fault v_MO_hasGiven v_MO_hasPicture v_MO_range v_MO_value v_MO_leaves v_mguess) → va_S A s.heap H locs → W p l e rmMO_predicted s m args below meth c H locs 0 0 Q (F0 m 0 ls []) by exact J0 ls s.heap [] hl hP hD hS
  clear hP hD hS hl
  intro ls H locs hl hP hD hS
  refine lv_aload_n hx hb dMO_predicted_0 rfl (lv_at hl 0 rfl) ?_
  refine lv_iload_n hx hb dMO_predicted_1 rfl (lv_at hl 1 rfl) ?_
  refine lv_iload_n hx hb dMO_predicted_2 rfl (lv_at hl 2 rfl) ?_
  obtain ⟨z1, hc, hf⟩ := ip_b1_e hf
  refine ip_calli (va_runV (As := [.int p1, .int p2]) (rest := []) ⟨hx, hb, hml, hown, hts⟩ (tMO_seen (l := l) (dC := dC) (dI := dI) (ad := ad) (cI := cI) (ts := ts) (cZ := cZ) hc H.size) (cwV 2 hts (ip_gdV (own := kR_MO) (idx := 221) (C := kR_MO) (y := yMO_seen) kw4_203 kw4_205 kws_65 kw1_13 kw4_206) rfl rfl rfl (by decide +kernel) ⟨Nat.le_of_ble_eq_true rfl, Nat.le_of_ble_eq_true rfl⟩) (ip_preV hK hP hD hS hA hZ [0] rfl rfl (ci := 12) (q0 := 0) rfl rfl) rfl rfl hl.1 rfl (lv_room (Nat.le_of_ble_eq_true rfl)) dMO_predicted_3 ⟨Nat.le_of_ble_eq_true rfl, Nat.le_of_ble_eq_true rfl⟩) hP hD hS hA [0] [1] [1, 0] (wMO_predicted ad cI cZ v_MO_size v_MO_loaded v_MO_at v_MO_fault v_MO_hasGiven v_MO_hasPicture v_MO_range v_MO_value v_MO_leaves v_mguess) rfl rfl rfl (by decide) rfl rfl (fun H locs hP hD hS => ?_)
  clear hc
  refine ip_if_eq (tgt := 23) hx hb dMO_predicted_6 rfl hf (fun hf => ?_) (fun hf => ?_)
  · refine lv_iconst (v := (-1 : Int32)) hx hb dMO_predicted_23 (by decide) ?_
    cases hf
    exact hret H locs 24 ls _ dMO_predicted_24 rfl hP hD hS
  · refine lv_aload_n hx hb dMO_predicted_9 rfl (lv_at hl 0 rfl) ?_
    refine va_get (D := (dC, dI)) (ci := 12) (v := .ref (ad 15)) (C := kR_MO) (T := kT_MO) (N := 32) hx hb hts kin_MO hown hK hP 0 rfl rfl 23 (by decide) (hts _ (List.mem_cons_of_mem _ kw3_210)) (fun _ h9 => h9) rfl dMO_predicted_10 ?_
    refine lv_bipush (v := (16 : Int32)) hx hb dMO_predicted_13 (by decide) ?_
    refine lv_iload_n hx hb dMO_predicted_15 rfl (lv_at hl 2 rfl) ?_
    refine lv_imul hx hb dMO_predicted_16 ?_
    refine lv_iload_n hx hb dMO_predicted_17 rfl (lv_at hl 1 rfl) ?_
    refine lv_iadd hx hb dMO_predicted_18 ?_
    refine ip_iald hx hb hK hP 1 0 rfl rfl dMO_predicted_19 hf (fun z2 hf => ?_)
    refine lv_goto (tgt := 24) hx hb dMO_predicted_20 rfl ?_
    cases hf
    exact hret H locs 24 ls _ dMO_predicted_24 rfl hP hD hS
set_option maxHeartbeats 4000000 in
set_option maxRecDepth 100000 in
theorem tMO_level {l : Launch} {dC : Nat → ClassId} {dI : Nat → Nat → Nat} {cI cZ : ClassId} {ad : Nat → Nat} {ts : ip_TT} {v_MO_size : Int32} {v_MO_loaded : Int32} {v_MO_at : Int32} {v_MO_fault : Int32} {v_MO_hasGiven : Int32} {v_MO_hasPicture : Int32} {v_MO_range : Int32} {v_MO_value : Int32} {v_MO_leaves : Int32} {v_mlevels : Nat → Int32} {p1 : Int32} {p2 : Int32} {r0 : Int32}  (hf : fMO_level v_MO_size v_MO_loaded v_MO_at v_MO_fault v_MO_hasGiven v_MO_hasPicture v_MO_range v_MO_value v_MO_leaves v_mlevels p1 p2 = some r0) : ip_Mi l yMO_level wsMO_level rmMO_level (dC, dI) vwCl [(cI, .int), (cZ, .boolean)] ts [.ref (ad 0), .int p1, .int p2] (wMO_level ad cI cZ v_MO_size v_MO_loaded v_MO_at v_MO_fault v_MO_hasGiven v_MO_hasPicture v_MO_range v_MO_value v_MO_leaves v_mlevels) (wMO_level ad cI cZ v_MO_size v_MO_loaded v_MO_at v_MO_fault v_MO_hasGiven v_MO_hasPicture v_MO_range v_MO_value v_MO_leaves v_mlevels) r0 := by
  refine ip_startI (cc := cMO_level) (maxL := 3) (by decide) rfl (Nat.le_of_ble_eq_true rfl) ?_
  intro p e s m args below meth c Q A ls hx hb hml hts hown hK hP hD hS hA hZ hl hret
  replace hl : lv_has ls 3 [(0, .ref (ad 0)), (1, .int p1), (2, .int p2)] := hl
  unfold fMO_level at hf
  suffices J0 : ∀ (ls : Array Slot) (H : Heap) (locs : List Loc), lv_has ls 3 [(0, .ref (ad 0)), (1, .int p1), (2, .int p2)] → va_P (dC, dI) vwCl (wMO_level ad cI cZ v_MO_size v_MO_loaded v_MO_at v_MO_fault v_MO_hasGiven v_MO_hasPicture v_MO_range v_MO_value v_MO_leaves v_mlevels) H → va_D A (wMO_level ad cI cZ v_MO_size v_MO_loaded v_MO_at v_MO_fault v_MO_hasGiven v_MO_hasPicture v_MO_range v_MO_value v_MO_leaves v_mlevels) → va_S A s.heap H locs → W p l e rmMO_level s m args below meth c H locs 0 0 Q (F0 m 0 ls []) by exact J0 ls s.heap [] hl hP hD hS
  clear hP hD hS hl
  intro ls H locs hl hP hD hS
  refine lv_aload_n hx hb dMO_level_0 rfl (lv_at hl 0 rfl) ?_
  refine lv_iload_n hx hb dMO_level_1 rfl (lv_at hl 1 rfl) ?_
  refine lv_iload_n hx hb dMO_level_2 rfl (lv_at hl 2 rfl) ?_
  obtain ⟨z1, hc, hf⟩ := ip_b1_e hf
  refine ip_calli (va_runV (As := [.int p1, .int p2]) (rest := []) ⟨hx, hb, hml, hown, hts⟩ (tMO_seen (l := l) (dC := dC) (dI := dI) (ad := ad) (cI := cI) (ts := ts) (cZ := cZ) hc H.size) (cwV 2 hts (ip_gdV (own := kR_MO) (idx := 221) (C := kR_MO) (y := yMO_seen) kw4_203 kw4_205 kws_65 kw1_13 kw4_206) rfl rfl rfl (by decide +kernel) ⟨Nat.le_of_ble_eq_true rfl, Nat.le_of_ble_eq_true rfl⟩) (ip_preV hK hP hD hS hA hZ [0] rfl rfl (ci := 12) (q0 := 0) rfl rfl) rfl rfl hl.1 rfl (lv_room (Nat.le_of_ble_eq_true rfl)) dMO_level_3 ⟨Nat.le_of_ble_eq_true rfl, Nat.le_of_ble_eq_true rfl⟩) hP hD hS hA [0] [1] [1, 0] (wMO_level ad cI cZ v_MO_size v_MO_loaded v_MO_at v_MO_fault v_MO_hasGiven v_MO_hasPicture v_MO_range v_MO_value v_MO_leaves v_mlevels) rfl rfl rfl (by decide) rfl rfl (fun H locs hP hD hS => ?_)
  clear hc
  refine ip_if_eq (tgt := 23) hx hb dMO_level_6 rfl hf (fun hf => ?_) (fun hf => ?_)
  · refine lv_sipush (v := (-1000 : Int32)) hx hb dMO_level_23 (by decide) ?_
    cases hf
    exact hret H locs 26 ls _ dMO_level_26 rfl hP hD hS
  · refine lv_aload_n hx hb dMO_level_9 rfl (lv_at hl 0 rfl) ?_
    refine va_get (D := (dC, dI)) (ci := 12) (v := .ref (ad 13)) (C := kR_MO) (T := kT_MO) (N := 32) hx hb hts kin_MO hown hK hP 0 rfl rfl 21 (by decide) (hts _ (List.mem_cons_of_mem _ kw3_208)) (fun _ h9 => h9) rfl dMO_level_10 ?_
    refine lv_bipush (v := (16 : Int32)) hx hb dMO_level_13 (by decide) ?_
    refine lv_iload_n hx hb dMO_level_15 rfl (lv_at hl 2 rfl) ?_
    refine lv_imul hx hb dMO_level_16 ?_
    refine lv_iload_n hx hb dMO_level_17 rfl (lv_at hl 1 rfl) ?_
    refine lv_iadd hx hb dMO_level_18 ?_
    refine ip_iald hx hb hK hP 1 0 rfl rfl dMO_level_19 hf (fun z2 hf => ?_)
    refine lv_goto (tgt := 26) hx hb dMO_level_20 rfl ?_
    cases hf
    exact hret H locs 26 ls _ dMO_level_26 rfl hP hD hS
set_option maxHeartbeats 4000000 in
set_option maxRecDepth 100000 in
theorem tMO_mode {l : Launch} {dC : Nat → ClassId} {dI : Nat → Nat → Nat} {cI cZ : ClassId} {ad : Nat → Nat} {ts : ip_TT} {v_MO_size : Int32} {v_MO_loaded : Int32} {v_MO_at : Int32} {v_MO_fault : Int32} {v_MO_hasGiven : Int32} {v_MO_hasPicture : Int32} {v_MO_range : Int32} {v_MO_value : Int32} {v_MO_leaves : Int32} {v_mmodes : Nat → Int32} {v_mowner : Nat → Int32} {p1 : Int32} {p2 : Int32} {r0 : Int32}  (hf : fMO_mode v_MO_size v_MO_loaded v_MO_at v_MO_fault v_MO_hasGiven v_MO_hasPicture v_MO_range v_MO_value v_MO_leaves v_mmodes v_mowner p1 p2 = some r0) : ip_Mi l yMO_mode wsMO_mode rmMO_mode (dC, dI) vwCl [(cI, .int), (cZ, .boolean)] ts [.ref (ad 0), .int p1, .int p2] (wMO_mode ad cI cZ v_MO_size v_MO_loaded v_MO_at v_MO_fault v_MO_hasGiven v_MO_hasPicture v_MO_range v_MO_value v_MO_leaves v_mmodes v_mowner) (wMO_mode ad cI cZ v_MO_size v_MO_loaded v_MO_at v_MO_fault v_MO_hasGiven v_MO_hasPicture v_MO_range v_MO_value v_MO_leaves v_mmodes v_mowner) r0 := by
  refine ip_startI (cc := cMO_mode) (maxL := 3) (by decide) rfl (Nat.le_of_ble_eq_true rfl) ?_
  intro p e s m args below meth c Q A ls hx hb hml hts hown hK hP hD hS hA hZ hl hret
  replace hl : lv_has ls 3 [(0, .ref (ad 0)), (1, .int p1), (2, .int p2)] := hl
  unfold fMO_mode at hf
  suffices J0 : ∀ (ls : Array Slot) (H : Heap) (locs : List Loc), lv_has ls 3 [(0, .ref (ad 0)), (1, .int p1), (2, .int p2)] → va_P (dC, dI) vwCl (wMO_mode ad cI cZ v_MO_size v_MO_loaded v_MO_at v_MO_fault v_MO_hasGiven v_MO_hasPicture v_MO_range v_MO_value v_MO_leaves v_mmodes v_mowner) H → va_D A (wMO_mode ad cI cZ v_MO_size v_MO_loaded v_MO_at v_MO_fault v_MO_hasGiven v_MO_hasPicture v_MO_range v_MO_value v_MO_leaves v_mmodes v_mowner) → va_S A s.heap H locs → W p l e rmMO_mode s m args below meth c H locs 0 0 Q (F0 m 0 ls []) by exact J0 ls s.heap [] hl hP hD hS
  clear hP hD hS hl
  intro ls H locs hl hP hD hS
  refine lv_aload_n hx hb dMO_mode_0 rfl (lv_at hl 0 rfl) ?_
  refine lv_iload_n hx hb dMO_mode_1 rfl (lv_at hl 1 rfl) ?_
  refine lv_iload_n hx hb dMO_mode_2 rfl (lv_at hl 2 rfl) ?_
  obtain ⟨z1, hc, hf⟩ := ip_b1_e hf
  refine ip_calli (va_runV (As := [.int p1, .int p2]) (rest := []) ⟨hx, hb, hml, hown, hts⟩ (tMO_seen (l := l) (dC := dC) (dI := dI) (ad := ad) (cI := cI) (ts := ts) (cZ := cZ) hc H.size) (cwV 2 hts (ip_gdV (own := kR_MO) (idx := 221) (C := kR_MO) (y := yMO_seen) kw4_203 kw4_205 kws_65 kw1_13 kw4_206) rfl rfl rfl (by decide +kernel) ⟨Nat.le_of_ble_eq_true rfl, Nat.le_of_ble_eq_true rfl⟩) (ip_preV hK hP hD hS hA hZ [0] rfl rfl (ci := 12) (q0 := 0) rfl rfl) rfl rfl hl.1 rfl (lv_room (Nat.le_of_ble_eq_true rfl)) dMO_mode_3 ⟨Nat.le_of_ble_eq_true rfl, Nat.le_of_ble_eq_true rfl⟩) hP hD hS hA [0] [1, 2] [2, 0, 1] (wMO_mode ad cI cZ v_MO_size v_MO_loaded v_MO_at v_MO_fault v_MO_hasGiven v_MO_hasPicture v_MO_range v_MO_value v_MO_leaves v_mmodes v_mowner) rfl rfl rfl (by decide) rfl rfl (fun H locs hP hD hS => ?_)
  clear hc
  refine ip_if_eq (tgt := 28) hx hb dMO_mode_6 rfl hf (fun hf => ?_) (fun hf => ?_)
  · refine lv_iconst (v := (-1 : Int32)) hx hb dMO_mode_28 (by decide) ?_
    cases hf
    exact hret H locs 29 ls _ dMO_mode_29 rfl hP hD hS
  · refine lv_aload_n hx hb dMO_mode_9 rfl (lv_at hl 0 rfl) ?_
    refine va_get (D := (dC, dI)) (ci := 12) (v := .ref (ad 10)) (C := kR_MO) (T := kT_MO) (N := 32) hx hb hts kin_MO hown hK hP 0 rfl rfl 18 (by decide) (hts _ (List.mem_cons_of_mem _ kw3_205)) (fun _ h9 => h9) rfl dMO_mode_10 ?_
    refine lv_aload_n hx hb dMO_mode_13 rfl (lv_at hl 0 rfl) ?_
    refine va_get (D := (dC, dI)) (ci := 12) (v := .ref (ad 12)) (C := kR_MO) (T := kT_MO) (N := 32) hx hb hts kin_MO hown hK hP 0 rfl rfl 20 (by decide) (hts _ (List.mem_cons_of_mem _ kw3_207)) (fun _ h9 => h9) rfl dMO_mode_14 ?_
    refine lv_bipush (v := (16 : Int32)) hx hb dMO_mode_17 (by decide) ?_
    refine lv_iload_n hx hb dMO_mode_19 rfl (lv_at hl 2 rfl) ?_
    refine lv_imul hx hb dMO_mode_20 ?_
    refine lv_iload_n hx hb dMO_mode_21 rfl (lv_at hl 1 rfl) ?_
    refine lv_iadd hx hb dMO_mode_22 ?_
    refine ip_iald hx hb hK hP 2 0 rfl rfl dMO_mode_23 hf (fun z2 hf => ?_)
    refine ip_iald hx hb hK hP 1 0 rfl rfl dMO_mode_24 hf (fun z3 hf => ?_)
    refine lv_goto (tgt := 29) hx hb dMO_mode_25 rfl ?_
    cases hf
    exact hret H locs 29 ls _ dMO_mode_29 rfl hP hD hS
