/-! one call of the law, both sides answering alike: the rest -/
set_option maxHeartbeats 4000000 in
set_option maxRecDepth 100000 in
theorem lw_c7 {p : Program} {l : Launch} {e : Env} {s : State} {m : MethodId} {below : List Frame} {meth : Method} {c : Code} {H : Heap} {locs : List Loc} {Q : State → Prop} {ls : Array Slot} {b L : Nat} {sc : Nat → Int32} {dC : Nat → ClassId} {dI : Nat → Nat → Nat} {cI cZ : ClassId} {t0 t1 t2 t3 : Nat} {A : Nat → Prop} {ad am : Nat → Nat} {i : Nat} (C : LWC p s m c b L sc dC dI cI cZ t0 t1 t2 t3 A) (hL : L ≤ 2048) (hi : i + 4 ≤ L) (hl : lv_has ls 4 [(0, .ref b), (1, .ref (ad 0)), (2, .ref (am 0)), (3, .int (nI i))]) (hs : LWS dC dI cI cZ ad am A s.heap H locs) (kk : ∀ (H : Heap) (locs : List Loc), LWS dC dI cI cZ ad am A s.heap H locs → W p l e room_1 s m #[Value.ref b] below meth c H locs 55 4921 Q (F0 m 504 ls [])) : W p l e room_1 s m #[Value.ref b] below meth c H locs 55 4921 Q (F0 m 293 ls []) := by
  obtain ⟨hx, hb, hml, hown, hts, hK, hA, hZ, hX, hbl, hbA⟩ := C
  obtain ⟨n, x, g, hP, hD, hS, hc, ht, hr⟩ := hs
  have hKx : va_K (dC, dI) vwCl [(cI, .int)] s := hK.sub [0] rfl
  obtain ⟨r2, r3, r4, r5, r6, r7, r8⟩ := hr
  obtain ⟨a, e1, e2⟩ := a_at (nI n) (x 18) (x 19) (x 20) (x 21) (x 23) (x 24) (x 25) (sc ((nI i + (1 : Int32)).toNatClampNeg)) (sc ((nI i + (2 : Int32)).toNatClampNeg)) (-1) r5 r6 (fun q => (r8 q).2.2.1)
  replace e1 : fIP_plain (x 0) (g 10) (sc ((nI i + (1 : Int32)).toNatClampNeg)) (sc ((nI i + (2 : Int32)).toNatClampNeg)) = some a := e1
  replace e2 : fMO_plain (nI n) (x 18) (x 19) (x 20) (x 21) (x 22) (x 23) (x 24) (x 25) (g 36) (sc ((nI i + (1 : Int32)).toNatClampNeg)) (sc ((nI i + (2 : Int32)).toNatClampNeg)) = some a := e2
  refine lv_aload_n hx hb dLW_293 rfl (lv_at hl 1 rfl) ?_
  refine lv_aload_n hx hb dLW_294 rfl (lv_at hl 0 rfl) ?_
  refine lv_iload_n hx hb dLW_295 rfl (lv_at hl 3 rfl) ?_
  refine lv_iconst (v := (1 : Int32)) hx hb dLW_296 (by decide) ?_
  refine lv_iadd hx hb dLW_297 ?_
  refine va_sld hx hb hX hbl hbA hS (lw_in (k := 1) rfl (by omega) hL) dLW_298 ?_
  refine lv_aload_n hx hb dLW_299 rfl (lv_at hl 0 rfl) ?_
  refine lv_iload_n hx hb dLW_300 rfl (lv_at hl 3 rfl) ?_
  refine lv_iconst (v := (2 : Int32)) hx hb dLW_301 (by decide) ?_
  refine lv_iadd hx hb dLW_302 ?_
  refine va_sld hx hb hX hbl hbA hS (lw_in (k := 2) rfl (by omega) hL) dLW_303 ?_
  refine lw_calli (va_runV (As := [.int (sc ((nI i + (1 : Int32)).toNatClampNeg)), .int (sc ((nI i + (2 : Int32)).toNatClampNeg))]) (rest := []) ⟨hx, hb, hml, hown, hts⟩ (tIP_plain (l := l) (dC := dC) (dI := dI) (cI := cI) (ad := ad) (ts := ip_TS t0 t1 t2 t3) e1 H.size) (cwV 2 hts (ip_gdV (own := "IntraPictureLaw") (idx := 47) (C := kR_IP) (y := yIP_plain) kw3_153 kw3_154 kw3_155 kw1_1 kw3_156) rfl rfl rfl (by decide +kernel) ⟨Nat.le_of_ble_eq_true rfl, Nat.le_of_ble_eq_true rfl⟩) (ip_preV hKx hP hD hS hA hZ [0, 6, 19] rfl rfl (ci := 0) (q0 := 0) rfl rfl) rfl rfl hl.1 rfl (lv_room (Nat.le_of_ble_eq_true rfl)) dLW_304 ⟨Nat.le_of_ble_eq_true rfl, Nat.le_of_ble_eq_true rfl⟩) hP hD hS hA [0, 6, 19] [1, 2, 3, 4, 5, 7, 8, 9, 10, 11, 12, 13, 14, 15, 16, 17, 18, 20, 21, 22, 23, 24, 25, 26, 27, 28, 29, 30, 31, 32, 33, 34, 35, 36, 37, 38, 39, 40, 41, 42, 43, 44, 45, 46, 47, 48, 49, 50, 51, 52, 53, 54] [52, 0, 1, 2, 3, 4, 53, 5, 6, 7, 8, 9, 10, 11, 12, 13, 14, 15, 16, 54, 17, 18, 19, 20, 21, 22, 23, 24, 25, 26, 27, 28, 29, 30, 31, 32, 33, 34, 35, 36, 37, 38, 39, 40, 41, 42, 43, 44, 45, 46, 47, 48, 49, 50, 51] (wIP_decode ad cI (x 0) (nI n) (x 1) (x 2) (x 3) (x 4) (x 5) (x 6) (x 7) (x 8) (x 9) (x 10) (x 11) (x 12) (x 13) (x 14) (x 15) (x 16) (x 17) (g 0) (g 4) (g 5) (g 6) (g 7) (g 8) (g 9) (g 10) (g 11) (g 12) (g 13) (g 14) (g 15) (g 16) (g 17) (g 18) (g 19) (g 20) (g 21) ++ wMO_decode am cI cZ (nI n) (x 18) (x 19) (x 20) (x 21) (x 22) (x 23) (x 24) (x 25) (g 0) (g 22) (g 23) (g 24) (g 25) (g 26) (g 27) (g 28) (g 29) (g 30) (g 31) (g 32) (g 33) (g 34) (g 35) (g 36) (g 37) (g 38) (g 39) (g 40) (g 1) (g 2) (g 3)) rfl 55 52 rfl rfl (by decide) rfl (by decide) rfl rfl (fun H locs hP hD hS => ?_)
  refine lv_aload_n hx hb dLW_307 rfl (lv_at hl 2 rfl) ?_
  refine lv_aload_n hx hb dLW_308 rfl (lv_at hl 0 rfl) ?_
  refine lv_iload_n hx hb dLW_309 rfl (lv_at hl 3 rfl) ?_
  refine lv_iconst (v := (1 : Int32)) hx hb dLW_310 (by decide) ?_
  refine lv_iadd hx hb dLW_311 ?_
  refine va_sld hx hb hX hbl hbA hS (lw_in (k := 1) rfl (by omega) hL) dLW_312 ?_
  refine lv_aload_n hx hb dLW_313 rfl (lv_at hl 0 rfl) ?_
  refine lv_iload_n hx hb dLW_314 rfl (lv_at hl 3 rfl) ?_
  refine lv_iconst (v := (2 : Int32)) hx hb dLW_315 (by decide) ?_
  refine lv_iadd hx hb dLW_316 ?_
  refine va_sld hx hb hX hbl hbA hS (lw_in (k := 2) rfl (by omega) hL) dLW_317 ?_
  refine lw_calli (va_runV (As := [.int (sc ((nI i + (1 : Int32)).toNatClampNeg)), .int (sc ((nI i + (2 : Int32)).toNatClampNeg))]) (rest := [.int a]) ⟨hx, hb, hml, hown, hts⟩ (tMO_plain (l := l) (dC := dC) (dI := dI) (cI := cI) (cZ := cZ) (ad := am) (ts := ip_TS t0 t1 t2 t3) e2 H.size) (cwV 2 hts (ip_gdV (own := "IntraPictureLaw") (idx := 50) (C := kR_MO) (y := yMO_plain) kw4_207 kw4_208 kw4_209 kw1_13 kw4_210) rfl rfl rfl (by decide +kernel) ⟨Nat.le_of_ble_eq_true rfl, Nat.le_of_ble_eq_true rfl⟩) (ip_preV hK hP hD hS hA hZ [31, 47] rfl rfl (ci := 12) (q0 := 31) rfl rfl) rfl rfl hl.1 rfl (lv_room (Nat.le_of_ble_eq_true rfl)) dLW_318 ⟨Nat.le_of_ble_eq_true rfl, Nat.le_of_ble_eq_true rfl⟩) hP hD hS hA [31, 47] [0, 1, 2, 3, 4, 5, 6, 7, 8, 9, 10, 11, 12, 13, 14, 15, 16, 17, 18, 19, 20, 21, 22, 23, 24, 25, 26, 27, 28, 29, 30, 32, 33, 34, 35, 36, 37, 38, 39, 40, 41, 42, 43, 44, 45, 46, 48, 49, 50, 51, 52, 53, 54] [0, 1, 2, 3, 4, 5, 6, 7, 8, 9, 10, 11, 12, 13, 14, 15, 16, 17, 18, 19, 20, 21, 22, 23, 24, 25, 26, 27, 28, 29, 30, 53, 31, 32, 33, 34, 35, 36, 37, 38, 39, 40, 41, 42, 43, 44, 45, 54, 46, 47, 48, 49, 50, 51, 52] (wIP_decode ad cI (x 0) (nI n) (x 1) (x 2) (x 3) (x 4) (x 5) (x 6) (x 7) (x 8) (x 9) (x 10) (x 11) (x 12) (x 13) (x 14) (x 15) (x 16) (x 17) (g 0) (g 4) (g 5) (g 6) (g 7) (g 8) (g 9) (g 10) (g 11) (g 12) (g 13) (g 14) (g 15) (g 16) (g 17) (g 18) (g 19) (g 20) (g 21) ++ wMO_decode am cI cZ (nI n) (x 18) (x 19) (x 20) (x 21) (x 22) (x 23) (x 24) (x 25) (g 0) (g 22) (g 23) (g 24) (g 25) (g 26) (g 27) (g 28) (g 29) (g 30) (g 31) (g 32) (g 33) (g 34) (g 35) (g 36) (g 37) (g 38) (g 39) (g 40) (g 1) (g 2) (g 3)) rfl 55 53 rfl rfl (by decide) rfl (by decide) rfl rfl (fun H locs hP hD hS => ?_)
  refine lv_icmp_eq (tgt := 504) hx hb dLW_321 rfl (fun _ => ?_) (fun h => absurd rfl h)
  exact kk H locs ⟨n, x, g, hP, hD, hS, hc, ht, ⟨r2, r3, r4, r5, r6, r7, r8⟩⟩
set_option maxHeartbeats 4000000 in
set_option maxRecDepth 100000 in
theorem lw_c8 {p : Program} {l : Launch} {e : Env} {s : State} {m : MethodId} {below : List Frame} {meth : Method} {c : Code} {H : Heap} {locs : List Loc} {Q : State → Prop} {ls : Array Slot} {b L : Nat} {sc : Nat → Int32} {dC : Nat → ClassId} {dI : Nat → Nat → Nat} {cI cZ : ClassId} {t0 t1 t2 t3 : Nat} {A : Nat → Prop} {ad am : Nat → Nat} {i : Nat} (C : LWC p s m c b L sc dC dI cI cZ t0 t1 t2 t3 A) (hL : L ≤ 2048) (hi : i + 4 ≤ L) (hl : lv_has ls 4 [(0, .ref b), (1, .ref (ad 0)), (2, .ref (am 0)), (3, .int (nI i))]) (hs : LWS dC dI cI cZ ad am A s.heap H locs) (kk : ∀ (H : Heap) (locs : List Loc), LWS dC dI cI cZ ad am A s.heap H locs → W p l e room_1 s m #[Value.ref b] below meth c H locs 55 4921 Q (F0 m 504 ls [])) : W p l e room_1 s m #[Value.ref b] below meth c H locs 55 4921 Q (F0 m 326 ls []) := by
  obtain ⟨hx, hb, hml, hown, hts, hK, hA, hZ, hX, hbl, hbA⟩ := C
  obtain ⟨n, x, g, hP, hD, hS, hc, ht, hr⟩ := hs
  have hKx : va_K (dC, dI) vwCl [(cI, .int)] s := hK.sub [0] rfl
  obtain ⟨r2, r3, r4, r5, r6, r7, r8⟩ := hr
  obtain ⟨a, e1, e2⟩ := a_at (nI n) (x 18) (x 19) (x 20) (x 21) (x 23) (x 24) (x 25) (sc ((nI i + (1 : Int32)).toNatClampNeg)) (sc ((nI i + (2 : Int32)).toNatClampNeg)) (-1) r5 r6 (fun q => (r8 q).2.2.2.1)
  replace e1 : fIP_predicted (x 0) (g 11) (sc ((nI i + (1 : Int32)).toNatClampNeg)) (sc ((nI i + (2 : Int32)).toNatClampNeg)) = some a := e1
  replace e2 : fMO_predicted (nI n) (x 18) (x 19) (x 20) (x 21) (x 22) (x 23) (x 24) (x 25) (g 35) (sc ((nI i + (1 : Int32)).toNatClampNeg)) (sc ((nI i + (2 : Int32)).toNatClampNeg)) = some a := e2
  refine lv_aload_n hx hb dLW_326 rfl (lv_at hl 1 rfl) ?_
  refine lv_aload_n hx hb dLW_327 rfl (lv_at hl 0 rfl) ?_
  refine lv_iload_n hx hb dLW_328 rfl (lv_at hl 3 rfl) ?_
  refine lv_iconst (v := (1 : Int32)) hx hb dLW_329 (by decide) ?_
  refine lv_iadd hx hb dLW_330 ?_
  refine va_sld hx hb hX hbl hbA hS (lw_in (k := 1) rfl (by omega) hL) dLW_331 ?_
  refine lv_aload_n hx hb dLW_332 rfl (lv_at hl 0 rfl) ?_
  refine lv_iload_n hx hb dLW_333 rfl (lv_at hl 3 rfl) ?_
  refine lv_iconst (v := (2 : Int32)) hx hb dLW_334 (by decide) ?_
  refine lv_iadd hx hb dLW_335 ?_
  refine va_sld hx hb hX hbl hbA hS (lw_in (k := 2) rfl (by omega) hL) dLW_336 ?_
  refine lw_calli (va_runV (As := [.int (sc ((nI i + (1 : Int32)).toNatClampNeg)), .int (sc ((nI i + (2 : Int32)).toNatClampNeg))]) (rest := []) ⟨hx, hb, hml, hown, hts⟩ (tIP_predicted (l := l) (dC := dC) (dI := dI) (cI := cI) (ad := ad) (ts := ip_TS t0 t1 t2 t3) e1 H.size) (cwV 2 hts (ip_gdV (own := "IntraPictureLaw") (idx := 51) (C := kR_IP) (y := yIP_predicted) kw3_157 kw3_158 kw3_159 kw1_1 kw3_160) rfl rfl rfl (by decide +kernel) ⟨Nat.le_of_ble_eq_true rfl, Nat.le_of_ble_eq_true rfl⟩) (ip_preV hKx hP hD hS hA hZ [0, 6, 20] rfl rfl (ci := 0) (q0 := 0) rfl rfl) rfl rfl hl.1 rfl (lv_room (Nat.le_of_ble_eq_true rfl)) dLW_337 ⟨Nat.le_of_ble_eq_true rfl, Nat.le_of_ble_eq_true rfl⟩) hP hD hS hA [0, 6, 20] [1, 2, 3, 4, 5, 7, 8, 9, 10, 11, 12, 13, 14, 15, 16, 17, 18, 19, 21, 22, 23, 24, 25, 26, 27, 28, 29, 30, 31, 32, 33, 34, 35, 36, 37, 38, 39, 40, 41, 42, 43, 44, 45, 46, 47, 48, 49, 50, 51, 52, 53, 54] [52, 0, 1, 2, 3, 4, 53, 5, 6, 7, 8, 9, 10, 11, 12, 13, 14, 15, 16, 17, 54, 18, 19, 20, 21, 22, 23, 24, 25, 26, 27, 28, 29, 30, 31, 32, 33, 34, 35, 36, 37, 38, 39, 40, 41, 42, 43, 44, 45, 46, 47, 48, 49, 50, 51] (wIP_decode ad cI (x 0) (nI n) (x 1) (x 2) (x 3) (x 4) (x 5) (x 6) (x 7) (x 8) (x 9) (x 10) (x 11) (x 12) (x 13) (x 14) (x 15) (x 16) (x 17) (g 0) (g 4) (g 5) (g 6) (g 7) (g 8) (g 9) (g 10) (g 11) (g 12) (g 13) (g 14) (g 15) (g 16) (g 17) (g 18) (g 19) (g 20) (g 21) ++ wMO_decode am cI cZ (nI n) (x 18) (x 19) (x 20) (x 21) (x 22) (x 23) (x 24) (x 25) (g 0) (g 22) (g 23) (g 24) (g 25) (g 26) (g 27) (g 28) (g 29) (g 30) (g 31) (g 32) (g 33) (g 34) (g 35) (g 36) (g 37) (g 38) (g 39) (g 40) (g 1) (g 2) (g 3)) rfl 55 52 rfl rfl (by decide) rfl (by decide) rfl rfl (fun H locs hP hD hS => ?_)
  refine lv_aload_n hx hb dLW_340 rfl (lv_at hl 2 rfl) ?_
  refine lv_aload_n hx hb dLW_341 rfl (lv_at hl 0 rfl) ?_
  refine lv_iload_n hx hb dLW_342 rfl (lv_at hl 3 rfl) ?_
  refine lv_iconst (v := (1 : Int32)) hx hb dLW_343 (by decide) ?_
  refine lv_iadd hx hb dLW_344 ?_
  refine va_sld hx hb hX hbl hbA hS (lw_in (k := 1) rfl (by omega) hL) dLW_345 ?_
  refine lv_aload_n hx hb dLW_346 rfl (lv_at hl 0 rfl) ?_
  refine lv_iload_n hx hb dLW_347 rfl (lv_at hl 3 rfl) ?_
  refine lv_iconst (v := (2 : Int32)) hx hb dLW_348 (by decide) ?_
  refine lv_iadd hx hb dLW_349 ?_
  refine va_sld hx hb hX hbl hbA hS (lw_in (k := 2) rfl (by omega) hL) dLW_350 ?_
  refine lw_calli (va_runV (As := [.int (sc ((nI i + (1 : Int32)).toNatClampNeg)), .int (sc ((nI i + (2 : Int32)).toNatClampNeg))]) (rest := [.int a]) ⟨hx, hb, hml, hown, hts⟩ (tMO_predicted (l := l) (dC := dC) (dI := dI) (cI := cI) (cZ := cZ) (ad := am) (ts := ip_TS t0 t1 t2 t3) e2 H.size) (cwV 2 hts (ip_gdV (own := "IntraPictureLaw") (idx := 54) (C := kR_MO) (y := yMO_predicted) kw4_211 kw4_212 kw4_213 kw1_13 kw4_214) rfl rfl rfl (by decide +kernel) ⟨Nat.le_of_ble_eq_true rfl, Nat.le_of_ble_eq_true rfl⟩) (ip_preV hK hP hD hS hA hZ [31, 46] rfl rfl (ci := 12) (q0 := 31) rfl rfl) rfl rfl hl.1 rfl (lv_room (Nat.le_of_ble_eq_true rfl)) dLW_351 ⟨Nat.le_of_ble_eq_true rfl, Nat.le_of_ble_eq_true rfl⟩) hP hD hS hA [31, 46] [0, 1, 2, 3, 4, 5, 6, 7, 8, 9, 10, 11, 12, 13, 14, 15, 16, 17, 18, 19, 20, 21, 22, 23, 24, 25, 26, 27, 28, 29, 30, 32, 33, 34, 35, 36, 37, 38, 39, 40, 41, 42, 43, 44, 45, 47, 48, 49, 50, 51, 52, 53, 54] [0, 1, 2, 3, 4, 5, 6, 7, 8, 9, 10, 11, 12, 13, 14, 15, 16, 17, 18, 19, 20, 21, 22, 23, 24, 25, 26, 27, 28, 29, 30, 53, 31, 32, 33, 34, 35, 36, 37, 38, 39, 40, 41, 42, 43, 44, 54, 45, 46, 47, 48, 49, 50, 51, 52] (wIP_decode ad cI (x 0) (nI n) (x 1) (x 2) (x 3) (x 4) (x 5) (x 6) (x 7) (x 8) (x 9) (x 10) (x 11) (x 12) (x 13) (x 14) (x 15) (x 16) (x 17) (g 0) (g 4) (g 5) (g 6) (g 7) (g 8) (g 9) (g 10) (g 11) (g 12) (g 13) (g 14) (g 15) (g 16) (g 17) (g 18) (g 19) (g 20) (g 21) ++ wMO_decode am cI cZ (nI n) (x 18) (x 19) (x 20) (x 21) (x 22) (x 23) (x 24) (x 25) (g 0) (g 22) (g 23) (g 24) (g 25) (g 26) (g 27) (g 28) (g 29) (g 30) (g 31) (g 32) (g 33) (g 34) (g 35) (g 36) (g 37) (g 38) (g 39) (g 40) (g 1) (g 2) (g 3)) rfl 55 53 rfl rfl (by decide) rfl (by decide) rfl rfl (fun H locs hP hD hS => ?_)
  refine lv_icmp_eq (tgt := 504) hx hb dLW_354 rfl (fun _ => ?_) (fun h => absurd rfl h)
  exact kk H locs ⟨n, x, g, hP, hD, hS, hc, ht, ⟨r2, r3, r4, r5, r6, r7, r8⟩⟩
set_option maxHeartbeats 4000000 in
set_option maxRecDepth 100000 in
theorem lw_c9 {p : Program} {l : Launch} {e : Env} {s : State} {m : MethodId} {below : List Frame} {meth : Method} {c : Code} {H : Heap} {locs : List Loc} {Q : State → Prop} {ls : Array Slot} {b L : Nat} {sc : Nat → Int32} {dC : Nat → ClassId} {dI : Nat → Nat → Nat} {cI cZ : ClassId} {t0 t1 t2 t3 : Nat} {A : Nat → Prop} {ad am : Nat → Nat} {i : Nat} (C : LWC p s m c b L sc dC dI cI cZ t0 t1 t2 t3 A) (hL : L ≤ 2048) (hi : i + 4 ≤ L) (hl : lv_has ls 4 [(0, .ref b), (1, .ref (ad 0)), (2, .ref (am 0)), (3, .int (nI i))]) (hs : LWS dC dI cI cZ ad am A s.heap H locs) (kk : ∀ (H : Heap) (locs : List Loc), LWS dC dI cI cZ ad am A s.heap H locs → W p l e room_1 s m #[Value.ref b] below meth c H locs 55 4921 Q (F0 m 504 ls [])) : W p l e room_1 s m #[Value.ref b] below meth c H locs 55 4921 Q (F0 m 359 ls []) := by
  obtain ⟨hx, hb, hml, hown, hts, hK, hA, hZ, hX, hbl, hbA⟩ := C
  obtain ⟨n, x, g, hP, hD, hS, hc, ht, hr⟩ := hs
  have hKx : va_K (dC, dI) vwCl [(cI, .int)] s := hK.sub [0] rfl
  obtain ⟨r2, r3, r4, r5, r6, r7, r8⟩ := hr
  obtain ⟨a, e1, e2⟩ := a_at (nI n) (x 18) (x 19) (x 20) (x 21) (x 23) (x 24) (x 25) (sc ((nI i + (1 : Int32)).toNatClampNeg)) (sc ((nI i + (2 : Int32)).toNatClampNeg)) (-1000) r5 r6 (fun q => (r8 q).2.2.2.2.1)
  replace e1 : fIP_level (x 0) (g 12) (sc ((nI i + (1 : Int32)).toNatClampNeg)) (sc ((nI i + (2 : Int32)).toNatClampNeg)) = some a := e1
  replace e2 : fMO_level (nI n) (x 18) (x 19) (x 20) (x 21) (x 22) (x 23) (x 24) (x 25) (g 33) (sc ((nI i + (1 : Int32)).toNatClampNeg)) (sc ((nI i + (2 : Int32)).toNatClampNeg)) = some a := e2
  refine lv_aload_n hx hb dLW_359 rfl (lv_at hl 1 rfl) ?_
  refine lv_aload_n hx hb dLW_360 rfl (lv_at hl 0 rfl) ?_
  refine lv_iload_n hx hb dLW_361 rfl (lv_at hl 3 rfl) ?_
  refine lv_iconst (v := (1 : Int32)) hx hb dLW_362 (by decide) ?_
  refine lv_iadd hx hb dLW_363 ?_
  refine va_sld hx hb hX hbl hbA hS (lw_in (k := 1) rfl (by omega) hL) dLW_364 ?_
  refine lv_aload_n hx hb dLW_365 rfl (lv_at hl 0 rfl) ?_
  refine lv_iload_n hx hb dLW_366 rfl (lv_at hl 3 rfl) ?_
  refine lv_iconst (v := (2 : Int32)) hx hb dLW_367 (by decide) ?_
  refine lv_iadd hx hb dLW_368 ?_
  refine va_sld hx hb hX hbl hbA hS (lw_in (k := 2) rfl (by omega) hL) dLW_369 ?_
  refine lw_calli (va_runV (As := [.int (sc ((nI i + (1 : Int32)).toNatClampNeg)), .int (sc ((nI i + (2 : Int32)).toNatClampNeg))]) (rest := []) ⟨hx, hb, hml, hown, hts⟩ (tIP_level (l := l) (dC := dC) (dI := dI) (cI := cI) (ad := ad) (ts := ip_TS t0 t1 t2 t3) e1 H.size) (cwV 2 hts (ip_gdV (own := "IntraPictureLaw") (idx := 55) (C := kR_IP) (y := yIP_level) kw3_161 kw3_162 kw3_163 kw1_1 kw3_164) rfl rfl rfl (by decide +kernel) ⟨Nat.le_of_ble_eq_true rfl, Nat.le_of_ble_eq_true rfl⟩) (ip_preV hKx hP hD hS hA hZ [0, 6, 21] rfl rfl (ci := 0) (q0 := 0) rfl rfl) rfl rfl hl.1 rfl (lv_room (Nat.le_of_ble_eq_true rfl)) dLW_370 ⟨Nat.le_of_ble_eq_true rfl, Nat.le_of_ble_eq_true rfl⟩) hP hD hS hA [0, 6, 21] [1, 2, 3, 4, 5, 7, 8, 9, 10, 11, 12, 13, 14, 15, 16, 17, 18, 19, 20, 22, 23, 24, 25, 26, 27, 28, 29, 30, 31, 32, 33, 34, 35, 36, 37, 38, 39, 40, 41, 42, 43, 44, 45, 46, 47, 48, 49, 50, 51, 52, 53, 54] [52, 0, 1, 2, 3, 4, 53, 5, 6, 7, 8, 9, 10, 11, 12, 13, 14, 15, 16, 17, 18, 54, 19, 20, 21, 22, 23, 24, 25, 26, 27, 28, 29, 30, 31, 32, 33, 34, 35, 36, 37, 38, 39, 40, 41, 42, 43, 44, 45, 46, 47, 48, 49, 50, 51] (wIP_decode ad cI (x 0) (nI n) (x 1) (x 2) (x 3) (x 4) (x 5) (x 6) (x 7) (x 8) (x 9) (x 10) (x 11) (x 12) (x 13) (x 14) (x 15) (x 16) (x 17) (g 0) (g 4) (g 5) (g 6) (g 7) (g 8) (g 9) (g 10) (g 11) (g 12) (g 13) (g 14) (g 15) (g 16) (g 17) (g 18) (g 19) (g 20) (g 21) ++ wMO_decode am cI cZ (nI n) (x 18) (x 19) (x 20) (x 21) (x 22) (x 23) (x 24) (x 25) (g 0) (g 22) (g 23) (g 24) (g 25) (g 26) (g 27) (g 28) (g 29) (g 30) (g 31) (g 32) (g 33) (g 34) (g 35) (g 36) (g 37) (g 38) (g 39) (g 40) (g 1) (g 2) (g 3)) rfl 55 52 rfl rfl (by decide) rfl (by decide) rfl rfl (fun H locs hP hD hS => ?_)
  refine lv_aload_n hx hb dLW_373 rfl (lv_at hl 2 rfl) ?_
  refine lv_aload_n hx hb dLW_374 rfl (lv_at hl 0 rfl) ?_
  refine lv_iload_n hx hb dLW_375 rfl (lv_at hl 3 rfl) ?_
  refine lv_iconst (v := (1 : Int32)) hx hb dLW_376 (by decide) ?_
  refine lv_iadd hx hb dLW_377 ?_
  refine va_sld hx hb hX hbl hbA hS (lw_in (k := 1) rfl (by omega) hL) dLW_378 ?_
  refine lv_aload_n hx hb dLW_379 rfl (lv_at hl 0 rfl) ?_
  refine lv_iload_n hx hb dLW_380 rfl (lv_at hl 3 rfl) ?_
  refine lv_iconst (v := (2 : Int32)) hx hb dLW_381 (by decide) ?_
  refine lv_iadd hx hb dLW_382 ?_
  refine va_sld hx hb hX hbl hbA hS (lw_in (k := 2) rfl (by omega) hL) dLW_383 ?_
  refine lw_calli (va_runV (As := [.int (sc ((nI i + (1 : Int32)).toNatClampNeg)), .int (sc ((nI i + (2 : Int32)).toNatClampNeg))]) (rest := [.int a]) ⟨hx, hb, hml, hown, hts⟩ (tMO_level (l := l) (dC := dC) (dI := dI) (cI := cI) (cZ := cZ) (ad := am) (ts := ip_TS t0 t1 t2 t3) e2 H.size) (cwV 2 hts (ip_gdV (own := "IntraPictureLaw") (idx := 58) (C := kR_MO) (y := yMO_level) kw4_215 kw4_216 kw4_217 kw1_13 kw4_218) rfl rfl rfl (by decide +kernel) ⟨Nat.le_of_ble_eq_true rfl, Nat.le_of_ble_eq_true rfl⟩) (ip_preV hK hP hD hS hA hZ [31, 44] rfl rfl (ci := 12) (q0 := 31) rfl rfl) rfl rfl hl.1 rfl (lv_room (Nat.le_of_ble_eq_true rfl)) dLW_384 ⟨Nat.le_of_ble_eq_true rfl, Nat.le_of_ble_eq_true rfl⟩) hP hD hS hA [31, 44] [0, 1, 2, 3, 4, 5, 6, 7, 8, 9, 10, 11, 12, 13, 14, 15, 16, 17, 18, 19, 20, 21, 22, 23, 24, 25, 26, 27, 28, 29, 30, 32, 33, 34, 35, 36, 37, 38, 39, 40, 41, 42, 43, 45, 46, 47, 48, 49, 50, 51, 52, 53, 54] [0, 1, 2, 3, 4, 5, 6, 7, 8, 9, 10, 11, 12, 13, 14, 15, 16, 17, 18, 19, 20, 21, 22, 23, 24, 25, 26, 27, 28, 29, 30, 53, 31, 32, 33, 34, 35, 36, 37, 38, 39, 40, 41, 42, 54, 43, 44, 45, 46, 47, 48, 49, 50, 51, 52] (wIP_decode ad cI (x 0) (nI n) (x 1) (x 2) (x 3) (x 4) (x 5) (x 6) (x 7) (x 8) (x 9) (x 10) (x 11) (x 12) (x 13) (x 14) (x 15) (x 16) (x 17) (g 0) (g 4) (g 5) (g 6) (g 7) (g 8) (g 9) (g 10) (g 11) (g 12) (g 13) (g 14) (g 15) (g 16) (g 17) (g 18) (g 19) (g 20) (g 21) ++ wMO_decode am cI cZ (nI n) (x 18) (x 19) (x 20) (x 21) (x 22) (x 23) (x 24) (x 25) (g 0) (g 22) (g 23) (g 24) (g 25) (g 26) (g 27) (g 28) (g 29) (g 30) (g 31) (g 32) (g 33) (g 34) (g 35) (g 36) (g 37) (g 38) (g 39) (g 40) (g 1) (g 2) (g 3)) rfl 55 53 rfl rfl (by decide) rfl (by decide) rfl rfl (fun H locs hP hD hS => ?_)
  refine lv_icmp_eq (tgt := 504) hx hb dLW_387 rfl (fun _ => ?_) (fun h => absurd rfl h)
  exact kk H locs ⟨n, x, g, hP, hD, hS, hc, ht, ⟨r2, r3, r4, r5, r6, r7, r8⟩⟩
set_option maxHeartbeats 4000000 in
set_option maxRecDepth 100000 in
theorem lw_c10 {p : Program} {l : Launch} {e : Env} {s : State} {m : MethodId} {below : List Frame} {meth : Method} {c : Code} {H : Heap} {locs : List Loc} {Q : State → Prop} {ls : Array Slot} {b L : Nat} {sc : Nat → Int32} {dC : Nat → ClassId} {dI : Nat → Nat → Nat} {cI cZ : ClassId} {t0 t1 t2 t3 : Nat} {A : Nat → Prop} {ad am : Nat → Nat} {i : Nat} (C : LWC p s m c b L sc dC dI cI cZ t0 t1 t2 t3 A) (hL : L ≤ 2048) (hi : i + 4 ≤ L) (hl : lv_has ls 4 [(0, .ref b), (1, .ref (ad 0)), (2, .ref (am 0)), (3, .int (nI i))]) (hs : LWS dC dI cI cZ ad am A s.heap H locs) (kk : ∀ (H : Heap) (locs : List Loc), LWS dC dI cI cZ ad am A s.heap H locs → W p l e room_1 s m #[Value.ref b] below meth c H locs 55 4921 Q (F0 m 504 ls [])) : W p l e room_1 s m #[Value.ref b] below meth c H locs 55 4921 Q (F0 m 392 ls []) := by
  obtain ⟨hx, hb, hml, hown, hts, hK, hA, hZ, hX, hbl, hbA⟩ := C
  obtain ⟨n, x, g, hP, hD, hS, hc, ht, hr⟩ := hs
  have hKx : va_K (dC, dI) vwCl [(cI, .int)] s := hK.sub [0] rfl
  obtain ⟨r2, r3, r4, r5, r6, r7, r8⟩ := hr
  obtain ⟨a, e1, e2⟩ := a_own (nI n) (x 18) (x 19) (x 20) (x 21) (x 23) (x 24) (x 25) (sc ((nI i + (1 : Int32)).toNatClampNeg)) (sc ((nI i + (2 : Int32)).toNatClampNeg)) (-1) (u := (g 13)) (ow := (g 32)) (v := (g 30)) r5 r6 (fun q p hp => by obtain ⟨o, w1, w2, w3, w4⟩ := (r8 q).2.2.2.2.2.1 p hp; exact ⟨o, w1, w2, w4⟩)
  replace e1 : fIP_mode (x 0) (g 13) (sc ((nI i + (1 : Int32)).toNatClampNeg)) (sc ((nI i + (2 : Int32)).toNatClampNeg)) = some a := e1
  replace e2 : fMO_mode (nI n) (x 18) (x 19) (x 20) (x 21) (x 22) (x 23) (x 24) (x 25) (g 30) (g 32) (sc ((nI i + (1 : Int32)).toNatClampNeg)) (sc ((nI i + (2 : Int32)).toNatClampNeg)) = some a := e2
  refine lv_aload_n hx hb dLW_392 rfl (lv_at hl 1 rfl) ?_
  refine lv_aload_n hx hb dLW_393 rfl (lv_at hl 0 rfl) ?_
  refine lv_iload_n hx hb dLW_394 rfl (lv_at hl 3 rfl) ?_
  refine lv_iconst (v := (1 : Int32)) hx hb dLW_395 (by decide) ?_
  refine lv_iadd hx hb dLW_396 ?_
  refine va_sld hx hb hX hbl hbA hS (lw_in (k := 1) rfl (by omega) hL) dLW_397 ?_
  refine lv_aload_n hx hb dLW_398 rfl (lv_at hl 0 rfl) ?_
  refine lv_iload_n hx hb dLW_399 rfl (lv_at hl 3 rfl) ?_
  refine lv_iconst (v := (2 : Int32)) hx hb dLW_400 (by decide) ?_
  refine lv_iadd hx hb dLW_401 ?_
  refine va_sld hx hb hX hbl hbA hS (lw_in (k := 2) rfl (by omega) hL) dLW_402 ?_
  refine lw_calli (va_runV (As := [.int (sc ((nI i + (1 : Int32)).toNatClampNeg)), .int (sc ((nI i + (2 : Int32)).toNatClampNeg))]) (rest := []) ⟨hx, hb, hml, hown, hts⟩ (tIP_mode (l := l) (dC := dC) (dI := dI) (cI := cI) (ad := ad) (ts := ip_TS t0 t1 t2 t3) e1 H.size) (cwV 2 hts (ip_gdV (own := "IntraPictureLaw") (idx := 59) (C := kR_IP) (y := yIP_mode) kw3_165 kw3_166 kw3_167 kw1_1 kw3_168) rfl rfl rfl (by decide +kernel) ⟨Nat.le_of_ble_eq_true rfl, Nat.le_of_ble_eq_true rfl⟩) (ip_preV hKx hP hD hS hA hZ [0, 6, 22] rfl rfl (ci := 0) (q0 := 0) rfl rfl) rfl rfl hl.1 rfl (lv_room (Nat.le_of_ble_eq_true rfl)) dLW_403 ⟨Nat.le_of_ble_eq_true rfl, Nat.le_of_ble_eq_true rfl⟩) hP hD hS hA [0, 6, 22] [1, 2, 3, 4, 5, 7, 8, 9, 10, 11, 12, 13, 14, 15, 16, 17, 18, 19, 20, 21, 23, 24, 25, 26, 27, 28, 29, 30, 31, 32, 33, 34, 35, 36, 37, 38, 39, 40, 41, 42, 43, 44, 45, 46, 47, 48, 49, 50, 51, 52, 53, 54] [52, 0, 1, 2, 3, 4, 53, 5, 6, 7, 8, 9, 10, 11, 12, 13, 14, 15, 16, 17, 18, 19, 54, 20, 21, 22, 23, 24, 25, 26, 27, 28, 29, 30, 31, 32, 33, 34, 35, 36, 37, 38, 39, 40, 41, 42, 43, 44, 45, 46, 47, 48, 49, 50, 51] (wIP_decode ad cI (x 0) (nI n) (x 1) (x 2) (x 3) (x 4) (x 5) (x 6) (x 7) (x 8) (x 9) (x 10) (x 11) (x 12) (x 13) (x 14) (x 15) (x 16) (x 17) (g 0) (g 4) (g 5) (g 6) (g 7) (g 8) (g 9) (g 10) (g 11) (g 12) (g 13) (g 14) (g 15) (g 16) (g 17) (g 18) (g 19) (g 20) (g 21) ++ wMO_decode am cI cZ (nI n) (x 18) (x 19) (x 20) (x 21) (x 22) (x 23) (x 24) (x 25) (g 0) (g 22) (g 23) (g 24) (g 25) (g 26) (g 27) (g 28) (g 29) (g 30) (g 31) (g 32) (g 33) (g 34) (g 35) (g 36) (g 37) (g 38) (g 39) (g 40) (g 1) (g 2) (g 3)) rfl 55 52 rfl rfl (by decide) rfl (by decide) rfl rfl (fun H locs hP hD hS => ?_)
  refine lv_aload_n hx hb dLW_406 rfl (lv_at hl 2 rfl) ?_
  refine lv_aload_n hx hb dLW_407 rfl (lv_at hl 0 rfl) ?_
  refine lv_iload_n hx hb dLW_408 rfl (lv_at hl 3 rfl) ?_
  refine lv_iconst (v := (1 : Int32)) hx hb dLW_409 (by decide) ?_
  refine lv_iadd hx hb dLW_410 ?_
  refine va_sld hx hb hX hbl hbA hS (lw_in (k := 1) rfl (by omega) hL) dLW_411 ?_
  refine lv_aload_n hx hb dLW_412 rfl (lv_at hl 0 rfl) ?_
  refine lv_iload_n hx hb dLW_413 rfl (lv_at hl 3 rfl) ?_
  refine lv_iconst (v := (2 : Int32)) hx hb dLW_414 (by decide) ?_
  refine lv_iadd hx hb dLW_415 ?_
  refine va_sld hx hb hX hbl hbA hS (lw_in (k := 2) rfl (by omega) hL) dLW_416 ?_
  refine lw_calli (va_runV (As := [.int (sc ((nI i + (1 : Int32)).toNatClampNeg)), .int (sc ((nI i + (2 : Int32)).toNatClampNeg))]) (rest := [.int a]) ⟨hx, hb, hml, hown, hts⟩ (tMO_mode (l := l) (dC := dC) (dI := dI) (cI := cI) (cZ := cZ) (ad := am) (ts := ip_TS t0 t1 t2 t3) e2 H.size) (cwV 2 hts (ip_gdV (own := "IntraPictureLaw") (idx := 62) (C := kR_MO) (y := yMO_mode) kw4_219 kw4_220 kw4_221 kw1_13 kw4_222) rfl rfl rfl (by decide +kernel) ⟨Nat.le_of_ble_eq_true rfl, Nat.le_of_ble_eq_true rfl⟩) (ip_preV hK hP hD hS hA hZ [31, 41, 43] rfl rfl (ci := 12) (q0 := 31) rfl rfl) rfl rfl hl.1 rfl (lv_room (Nat.le_of_ble_eq_true rfl)) dLW_417 ⟨Nat.le_of_ble_eq_true rfl, Nat.le_of_ble_eq_true rfl⟩) hP hD hS hA [31, 41, 43] [0, 1, 2, 3, 4, 5, 6, 7, 8, 9, 10, 11, 12, 13, 14, 15, 16, 17, 18, 19, 20, 21, 22, 23, 24, 25, 26, 27, 28, 29, 30, 32, 33, 34, 35, 36, 37, 38, 39, 40, 42, 44, 45, 46, 47, 48, 49, 50, 51, 52, 53, 54] [0, 1, 2, 3, 4, 5, 6, 7, 8, 9, 10, 11, 12, 13, 14, 15, 16, 17, 18, 19, 20, 21, 22, 23, 24, 25, 26, 27, 28, 29, 30, 52, 31, 32, 33, 34, 35, 36, 37, 38, 39, 53, 40, 54, 41, 42, 43, 44, 45, 46, 47, 48, 49, 50, 51] (wIP_decode ad cI (x 0) (nI n) (x 1) (x 2) (x 3) (x 4) (x 5) (x 6) (x 7) (x 8) (x 9) (x 10) (x 11) (x 12) (x 13) (x 14) (x 15) (x 16) (x 17) (g 0) (g 4) (g 5) (g 6) (g 7) (g 8) (g 9) (g 10) (g 11) (g 12) (g 13) (g 14) (g 15) (g 16) (g 17) (g 18) (g 19) (g 20) (g 21) ++ wMO_decode am cI cZ (nI n) (x 18) (x 19) (x 20) (x 21) (x 22) (x 23) (x 24) (x 25) (g 0) (g 22) (g 23) (g 24) (g 25) (g 26) (g 27) (g 28) (g 29) (g 30) (g 31) (g 32) (g 33) (g 34) (g 35) (g 36) (g 37) (g 38) (g 39) (g 40) (g 1) (g 2) (g 3)) rfl 55 52 rfl rfl (by decide) rfl (by decide) rfl rfl (fun H locs hP hD hS => ?_)
  refine lv_icmp_eq (tgt := 504) hx hb dLW_420 rfl (fun _ => ?_) (fun h => absurd rfl h)
  exact kk H locs ⟨n, x, g, hP, hD, hS, hc, ht, ⟨r2, r3, r4, r5, r6, r7, r8⟩⟩
set_option maxHeartbeats 4000000 in
set_option maxRecDepth 100000 in
theorem lw_c11 {p : Program} {l : Launch} {e : Env} {s : State} {m : MethodId} {below : List Frame} {meth : Method} {c : Code} {H : Heap} {locs : List Loc} {Q : State → Prop} {ls : Array Slot} {b L : Nat} {sc : Nat → Int32} {dC : Nat → ClassId} {dI : Nat → Nat → Nat} {cI cZ : ClassId} {t0 t1 t2 t3 : Nat} {A : Nat → Prop} {ad am : Nat → Nat} {i : Nat} (C : LWC p s m c b L sc dC dI cI cZ t0 t1 t2 t3 A) (hL : L ≤ 2048) (hi : i + 4 ≤ L) (hl : lv_has ls 4 [(0, .ref b), (1, .ref (ad 0)), (2, .ref (am 0)), (3, .int (nI i))]) (hs : LWS dC dI cI cZ ad am A s.heap H locs) (kk : ∀ (H : Heap) (locs : List Loc), LWS dC dI cI cZ ad am A s.heap H locs → W p l e room_1 s m #[Value.ref b] below meth c H locs 55 4921 Q (F0 m 504 ls [])) : W p l e room_1 s m #[Value.ref b] below meth c H locs 55 4921 Q (F0 m 425 ls []) := by
  obtain ⟨hx, hb, hml, hown, hts, hK, hA, hZ, hX, hbl, hbA⟩ := C
  obtain ⟨n, x, g, hP, hD, hS, hc, ht, hr⟩ := hs
  have hKx : va_K (dC, dI) vwCl [(cI, .int)] s := hK.sub [0] rfl
  obtain ⟨r2, r3, r4, r5, r6, r7, r8⟩ := hr
  obtain ⟨a, e1, e2⟩ := a_own (nI n) (x 18) (x 19) (x 20) (x 21) (x 23) (x 24) (x 25) (sc ((nI i + (1 : Int32)).toNatClampNeg)) (sc ((nI i + (2 : Int32)).toNatClampNeg)) (-1) (u := (g 14)) (ow := (g 32)) (v := (g 29)) r5 r6 (fun q p hp => by obtain ⟨o, w1, w2, w3, w4⟩ := (r8 q).2.2.2.2.2.1 p hp; exact ⟨o, w1, w2, w3⟩)
  replace e1 : fIP_side (x 0) (g 14) (sc ((nI i + (1 : Int32)).toNatClampNeg)) (sc ((nI i + (2 : Int32)).toNatClampNeg)) = some a := e1
  replace e2 : fMO_side (nI n) (x 18) (x 19) (x 20) (x 21) (x 22) (x 23) (x 24) (x 25) (g 29) (g 32) (sc ((nI i + (1 : Int32)).toNatClampNeg)) (sc ((nI i + (2 : Int32)).toNatClampNeg)) = some a := e2
  refine lv_aload_n hx hb dLW_425 rfl (lv_at hl 1 rfl) ?_
  refine lv_aload_n hx hb dLW_426 rfl (lv_at hl 0 rfl) ?_
  refine lv_iload_n hx hb dLW_427 rfl (lv_at hl 3 rfl) ?_
  refine lv_iconst (v := (1 : Int32)) hx hb dLW_428 (by decide) ?_
  refine lv_iadd hx hb dLW_429 ?_
  refine va_sld hx hb hX hbl hbA hS (lw_in (k := 1) rfl (by omega) hL) dLW_430 ?_
  refine lv_aload_n hx hb dLW_431 rfl (lv_at hl 0 rfl) ?_
  refine lv_iload_n hx hb dLW_432 rfl (lv_at hl 3 rfl) ?_
  refine lv_iconst (v := (2 : Int32)) hx hb dLW_433 (by decide) ?_
  refine lv_iadd hx hb dLW_434 ?_
  refine va_sld hx hb hX hbl hbA hS (lw_in (k := 2) rfl (by omega) hL) dLW_435 ?_
  refine lw_calli (va_runV (As := [.int (sc ((nI i + (1 : Int32)).toNatClampNeg)), .int (sc ((nI i + (2 : Int32)).toNatClampNeg))]) (rest := []) ⟨hx, hb, hml, hown, hts⟩ (tIP_side (l := l) (dC := dC) (dI := dI) (cI := cI) (ad := ad) (ts := ip_TS t0 t1 t2 t3) e1 H.size) (cwV 2 hts (ip_gdV (own := "IntraPictureLaw") (idx := 63) (C := kR_IP) (y := yIP_side) kw3_169 kw3_170 kw3_171 kw1_1 kw3_172) rfl rfl rfl (by decide +kernel) ⟨Nat.le_of_ble_eq_true rfl, Nat.le_of_ble_eq_true rfl⟩) (ip_preV hKx hP hD hS hA hZ [0, 6, 23] rfl rfl (ci := 0) (q0 := 0) rfl rfl) rfl rfl hl.1 rfl (lv_room (Nat.le_of_ble_eq_true rfl)) dLW_436 ⟨Nat.le_of_ble_eq_true rfl, Nat.le_of_ble_eq_true rfl⟩) hP hD hS hA [0, 6, 23] [1, 2, 3, 4, 5, 7, 8, 9, 10, 11, 12, 13, 14, 15, 16, 17, 18, 19, 20, 21, 22, 24, 25, 26, 27, 28, 29, 30, 31, 32, 33, 34, 35, 36, 37, 38, 39, 40, 41, 42, 43, 44, 45, 46, 47, 48, 49, 50, 51, 52, 53, 54] [52, 0, 1, 2, 3, 4, 53, 5, 6, 7, 8, 9, 10, 11, 12, 13, 14, 15, 16, 17, 18, 19, 20, 54, 21, 22, 23, 24, 25, 26, 27, 28, 29, 30, 31, 32, 33, 34, 35, 36, 37, 38, 39, 40, 41, 42, 43, 44, 45, 46, 47, 48, 49, 50, 51] (wIP_decode ad cI (x 0) (nI n) (x 1) (x 2) (x 3) (x 4) (x 5) (x 6) (x 7) (x 8) (x 9) (x 10) (x 11) (x 12) (x 13) (x 14) (x 15) (x 16) (x 17) (g 0) (g 4) (g 5) (g 6) (g 7) (g 8) (g 9) (g 10) (g 11) (g 12) (g 13) (g 14) (g 15) (g 16) (g 17) (g 18) (g 19) (g 20) (g 21) ++ wMO_decode am cI cZ (nI n) (x 18) (x 19) (x 20) (x 21) (x 22) (x 23) (x 24) (x 25) (g 0) (g 22) (g 23) (g 24) (g 25) (g 26) (g 27) (g 28) (g 29) (g 30) (g 31) (g 32) (g 33) (g 34) (g 35) (g 36) (g 37) (g 38) (g 39) (g 40) (g 1) (g 2) (g 3)) rfl 55 52 rfl rfl (by decide) rfl (by decide) rfl rfl (fun H locs hP hD hS => ?_)
  refine lv_aload_n hx hb dLW_439 rfl (lv_at hl 2 rfl) ?_
  refine lv_aload_n hx hb dLW_440 rfl (lv_at hl 0 rfl) ?_
  refine lv_iload_n hx hb dLW_441 rfl (lv_at hl 3 rfl) ?_
  refine lv_iconst (v := (1 : Int32)) hx hb dLW_442 (by decide) ?_
  refine lv_iadd hx hb dLW_443 ?_
  refine va_sld hx hb hX hbl hbA hS (lw_in (k := 1) rfl (by omega) hL) dLW_444 ?_
  refine lv_aload_n hx hb dLW_445 rfl (lv_at hl 0 rfl) ?_
  refine lv_iload_n hx hb dLW_446 rfl (lv_at hl 3 rfl) ?_
  refine lv_iconst (v := (2 : Int32)) hx hb dLW_447 (by decide) ?_
  refine lv_iadd hx hb dLW_448 ?_
  refine va_sld hx hb hX hbl hbA hS (lw_in (k := 2) rfl (by omega) hL) dLW_449 ?_
  refine lw_calli (va_runV (As := [.int (sc ((nI i + (1 : Int32)).toNatClampNeg)), .int (sc ((nI i + (2 : Int32)).toNatClampNeg))]) (rest := [.int a]) ⟨hx, hb, hml, hown, hts⟩ (tMO_side (l := l) (dC := dC) (dI := dI) (cI := cI) (cZ := cZ) (ad := am) (ts := ip_TS t0 t1 t2 t3) e2 H.size) (cwV 2 hts (ip_gdV (own := "IntraPictureLaw") (idx := 66) (C := kR_MO) (y := yMO_side) kw4_223 kw4_224 kw4_225 kw1_13 kw4_226) rfl rfl rfl (by decide +kernel) ⟨Nat.le_of_ble_eq_true rfl, Nat.le_of_ble_eq_true rfl⟩) (ip_preV hK hP hD hS hA hZ [31, 40, 43] rfl rfl (ci := 12) (q0 := 31) rfl rfl) rfl rfl hl.1 rfl (lv_room (Nat.le_of_ble_eq_true rfl)) dLW_450 ⟨Nat.le_of_ble_eq_true rfl, Nat.le_of_ble_eq_true rfl⟩) hP hD hS hA [31, 40, 43] [0, 1, 2, 3, 4, 5, 6, 7, 8, 9, 10, 11, 12, 13, 14, 15, 16, 17, 18, 19, 20, 21, 22, 23, 24, 25, 26, 27, 28, 29, 30, 32, 33, 34, 35, 36, 37, 38, 39, 41, 42, 44, 45, 46, 47, 48, 49, 50, 51, 52, 53, 54] [0, 1, 2, 3, 4, 5, 6, 7, 8, 9, 10, 11, 12, 13, 14, 15, 16, 17, 18, 19, 20, 21, 22, 23, 24, 25, 26, 27, 28, 29, 30, 52, 31, 32, 33, 34, 35, 36, 37, 38, 53, 39, 40, 54, 41, 42, 43, 44, 45, 46, 47, 48, 49, 50, 51] (wIP_decode ad cI (x 0) (nI n) (x 1) (x 2) (x 3) (x 4) (x 5) (x 6) (x 7) (x 8) (x 9) (x 10) (x 11) (x 12) (x 13) (x 14) (x 15) (x 16) (x 17) (g 0) (g 4) (g 5) (g 6) (g 7) (g 8) (g 9) (g 10) (g 11) (g 12) (g 13) (g 14) (g 15) (g 16) (g 17) (g 18) (g 19) (g 20) (g 21) ++ wMO_decode am cI cZ (nI n) (x 18) (x 19) (x 20) (x 21) (x 22) (x 23) (x 24) (x 25) (g 0) (g 22) (g 23) (g 24) (g 25) (g 26) (g 27) (g 28) (g 29) (g 30) (g 31) (g 32) (g 33) (g 34) (g 35) (g 36) (g 37) (g 38) (g 39) (g 40) (g 1) (g 2) (g 3)) rfl 55 52 rfl rfl (by decide) rfl (by decide) rfl rfl (fun H locs hP hD hS => ?_)
  refine lv_icmp_eq (tgt := 504) hx hb dLW_453 rfl (fun _ => ?_) (fun h => absurd rfl h)
  exact kk H locs ⟨n, x, g, hP, hD, hS, hc, ht, ⟨r2, r3, r4, r5, r6, r7, r8⟩⟩
set_option maxHeartbeats 4000000 in
set_option maxRecDepth 100000 in
theorem lw_c12 {p : Program} {l : Launch} {e : Env} {s : State} {m : MethodId} {below : List Frame} {meth : Method} {c : Code} {H : Heap} {locs : List Loc} {Q : State → Prop} {ls : Array Slot} {b L : Nat} {sc : Nat → Int32} {dC : Nat → ClassId} {dI : Nat → Nat → Nat} {cI cZ : ClassId} {t0 t1 t2 t3 : Nat} {A : Nat → Prop} {ad am : Nat → Nat} {i : Nat} (C : LWC p s m c b L sc dC dI cI cZ t0 t1 t2 t3 A) (hL : L ≤ 2048) (hi : i + 4 ≤ L) (hl : lv_has ls 4 [(0, .ref b), (1, .ref (ad 0)), (2, .ref (am 0)), (3, .int (nI i))]) (hs : LWS dC dI cI cZ ad am A s.heap H locs) (kk : ∀ (H : Heap) (locs : List Loc), LWS dC dI cI cZ ad am A s.heap H locs → W p l e room_1 s m #[Value.ref b] below meth c H locs 55 4921 Q (F0 m 504 ls [])) : W p l e room_1 s m #[Value.ref b] below meth c H locs 55 4921 Q (F0 m 458 ls []) := by
  obtain ⟨hx, hb, hml, hown, hts, hK, hA, hZ, hX, hbl, hbA⟩ := C
  obtain ⟨n, x, g, hP, hD, hS, hc, ht, hr⟩ := hs
  have hKx : va_K (dC, dI) vwCl [(cI, .int)] s := hK.sub [0] rfl
  obtain ⟨r2, r3, r4, r5, r6, r7, r8⟩ := hr
  obtain ⟨a, e1, e2⟩ := a_chance (x 6) (x 7) (nI n) (x 18) (x 19) (x 20) (x 21) (x 23) (x 24) (x 25) (sc ((nI i + (1 : Int32)).toNatClampNeg)) r5 r6 (fun q => (r8 q).2.2.2.2.2.2.1)
  refine lv_aload_n hx hb dLW_458 rfl (lv_at hl 1 rfl) ?_
  refine lv_aload_n hx hb dLW_459 rfl (lv_at hl 0 rfl) ?_
  refine lv_iload_n hx hb dLW_460 rfl (lv_at hl 3 rfl) ?_
  refine lv_iconst (v := (1 : Int32)) hx hb dLW_461 (by decide) ?_
  refine lv_iadd hx hb dLW_462 ?_
  refine va_sld hx hb hX hbl hbA hS (lw_in (k := 1) rfl (by omega) hL) dLW_463 ?_
  refine lw_calli (va_runV (As := [.int (sc ((nI i + (1 : Int32)).toNatClampNeg))]) (rest := []) ⟨hx, hb, hml, hown, hts⟩ (tIP_chance (l := l) (dC := dC) (dI := dI) (cI := cI) (ad := ad) (ts := ip_TS t0 t1 t2 t3) e1 H.size) (cwV 1 hts (ip_gdV (own := "IntraPictureLaw") (idx := 67) (C := kR_IP) (y := yIP_chance) kw3_173 kw3_174 kw3_175 kw1_1 kw3_176) rfl rfl rfl (by decide +kernel) ⟨Nat.le_of_ble_eq_true rfl, Nat.le_of_ble_eq_true rfl⟩) (ip_preV hKx hP hD hS hA hZ [0, 4, 16] rfl rfl (ci := 0) (q0 := 0) rfl rfl) rfl rfl hl.1 rfl (lv_room (Nat.le_of_ble_eq_true rfl)) dLW_464 ⟨Nat.le_of_ble_eq_true rfl, Nat.le_of_ble_eq_true rfl⟩) hP hD hS hA [0, 4, 16] [1, 2, 3, 5, 6, 7, 8, 9, 10, 11, 12, 13, 14, 15, 17, 18, 19, 20, 21, 22, 23, 24, 25, 26, 27, 28, 29, 30, 31, 32, 33, 34, 35, 36, 37, 38, 39, 40, 41, 42, 43, 44, 45, 46, 47, 48, 49, 50, 51, 52, 53, 54] [52, 0, 1, 2, 53, 3, 4, 5, 6, 7, 8, 9, 10, 11, 12, 13, 54, 14, 15, 16, 17, 18, 19, 20, 21, 22, 23, 24, 25, 26, 27, 28, 29, 30, 31, 32, 33, 34, 35, 36, 37, 38, 39, 40, 41, 42, 43, 44, 45, 46, 47, 48, 49, 50, 51] (wIP_decode ad cI (x 0) (nI n) (x 1) (x 2) (x 3) (x 4) (x 5) (x 6) (x 7) (x 8) (x 9) (x 10) (x 11) (x 12) (x 13) (x 14) (x 15) (x 16) (x 17) (g 0) (g 4) (g 5) (g 6) (g 7) (g 8) (g 9) (g 10) (g 11) (g 12) (g 13) (g 14) (g 15) (g 16) (g 17) (g 18) (g 19) (g 20) (g 21) ++ wMO_decode am cI cZ (nI n) (x 18) (x 19) (x 20) (x 21) (x 22) (x 23) (x 24) (x 25) (g 0) (g 22) (g 23) (g 24) (g 25) (g 26) (g 27) (g 28) (g 29) (g 30) (g 31) (g 32) (g 33) (g 34) (g 35) (g 36) (g 37) (g 38) (g 39) (g 40) (g 1) (g 2) (g 3)) rfl 55 52 rfl rfl (by decide) rfl (by decide) rfl rfl (fun H locs hP hD hS => ?_)
  refine lv_aload_n hx hb dLW_467 rfl (lv_at hl 2 rfl) ?_
  refine lv_aload_n hx hb dLW_468 rfl (lv_at hl 0 rfl) ?_
  refine lv_iload_n hx hb dLW_469 rfl (lv_at hl 3 rfl) ?_
  refine lv_iconst (v := (1 : Int32)) hx hb dLW_470 (by decide) ?_
  refine lv_iadd hx hb dLW_471 ?_
  refine va_sld hx hb hX hbl hbA hS (lw_in (k := 1) rfl (by omega) hL) dLW_472 ?_
  refine lw_calli (va_runV (As := [.int (sc ((nI i + (1 : Int32)).toNatClampNeg))]) (rest := [.int a]) ⟨hx, hb, hml, hown, hts⟩ (tMO_chance (l := l) (dC := dC) (dI := dI) (cI := cI) (cZ := cZ) (ad := am) (ts := ip_TS t0 t1 t2 t3) e2 H.size) (cwV 1 hts (ip_gdV (own := "IntraPictureLaw") (idx := 70) (C := kR_MO) (y := yMO_chance) kw4_227 kw4_228 kw4_229 kw1_13 kw4_230) rfl rfl rfl (by decide +kernel) ⟨Nat.le_of_ble_eq_true rfl, Nat.le_of_ble_eq_true rfl⟩) (ip_preV hK hP hD hS hA hZ [31, 36] rfl rfl (ci := 12) (q0 := 31) rfl rfl) rfl rfl hl.1 rfl (lv_room (Nat.le_of_ble_eq_true rfl)) dLW_473 ⟨Nat.le_of_ble_eq_true rfl, Nat.le_of_ble_eq_true rfl⟩) hP hD hS hA [31, 36] [0, 1, 2, 3, 4, 5, 6, 7, 8, 9, 10, 11, 12, 13, 14, 15, 16, 17, 18, 19, 20, 21, 22, 23, 24, 25, 26, 27, 28, 29, 30, 32, 33, 34, 35, 37, 38, 39, 40, 41, 42, 43, 44, 45, 46, 47, 48, 49, 50, 51, 52, 53, 54] [0, 1, 2, 3, 4, 5, 6, 7, 8, 9, 10, 11, 12, 13, 14, 15, 16, 17, 18, 19, 20, 21, 22, 23, 24, 25, 26, 27, 28, 29, 30, 53, 31, 32, 33, 34, 54, 35, 36, 37, 38, 39, 40, 41, 42, 43, 44, 45, 46, 47, 48, 49, 50, 51, 52] (wIP_decode ad cI (x 0) (nI n) (x 1) (x 2) (x 3) (x 4) (x 5) (x 6) (x 7) (x 8) (x 9) (x 10) (x 11) (x 12) (x 13) (x 14) (x 15) (x 16) (x 17) (g 0) (g 4) (g 5) (g 6) (g 7) (g 8) (g 9) (g 10) (g 11) (g 12) (g 13) (g 14) (g 15) (g 16) (g 17) (g 18) (g 19) (g 20) (g 21) ++ wMO_decode am cI cZ (nI n) (x 18) (x 19) (x 20) (x 21) (x 22) (x 23) (x 24) (x 25) (g 0) (g 22) (g 23) (g 24) (g 25) (g 26) (g 27) (g 28) (g 29) (g 30) (g 31) (g 32) (g 33) (g 34) (g 35) (g 36) (g 37) (g 38) (g 39) (g 40) (g 1) (g 2) (g 3)) rfl 55 53 rfl rfl (by decide) rfl (by decide) rfl rfl (fun H locs hP hD hS => ?_)
  refine lv_icmp_eq (tgt := 504) hx hb dLW_476 rfl (fun _ => ?_) (fun h => absurd rfl h)
  exact kk H locs ⟨n, x, g, hP, hD, hS, hc, ht, ⟨r2, r3, r4, r5, r6, r7, r8⟩⟩
set_option maxHeartbeats 4000000 in
set_option maxRecDepth 100000 in
theorem lw_c13 {p : Program} {l : Launch} {e : Env} {s : State} {m : MethodId} {below : List Frame} {meth : Method} {c : Code} {H : Heap} {locs : List Loc} {Q : State → Prop} {ls : Array Slot} {b L : Nat} {sc : Nat → Int32} {dC : Nat → ClassId} {dI : Nat → Nat → Nat} {cI cZ : ClassId} {t0 t1 t2 t3 : Nat} {A : Nat → Prop} {ad am : Nat → Nat} {i : Nat} (C : LWC p s m c b L sc dC dI cI cZ t0 t1 t2 t3 A) (hL : L ≤ 2048) (hi : i + 4 ≤ L) (hl : lv_has ls 4 [(0, .ref b), (1, .ref (ad 0)), (2, .ref (am 0)), (3, .int (nI i))]) (hs : LWS dC dI cI cZ ad am A s.heap H locs) (kk : ∀ (H : Heap) (locs : List Loc), LWS dC dI cI cZ ad am A s.heap H locs → W p l e room_1 s m #[Value.ref b] below meth c H locs 55 4921 Q (F0 m 504 ls [])) : W p l e room_1 s m #[Value.ref b] below meth c H locs 55 4921 Q (F0 m 481 ls []) := by
  obtain ⟨hx, hb, hml, hown, hts, hK, hA, hZ, hX, hbl, hbA⟩ := C
  obtain ⟨n, x, g, hP, hD, hS, hc, ht, hr⟩ := hs
  have hKx : va_K (dC, dI) vwCl [(cI, .int)] s := hK.sub [0] rfl
  obtain ⟨r2, r3, r4, r5, r6, r7, r8⟩ := hr
  obtain ⟨a, e1, e2⟩ := a_took (x 6) (x 7) (nI n) (x 18) (x 19) (x 20) (x 21) (x 23) (x 24) (x 25) (sc ((nI i + (1 : Int32)).toNatClampNeg)) r5 r6 (fun q => (r8 q).2.2.2.2.2.2.2)
  refine lv_aload_n hx hb dLW_481 rfl (lv_at hl 1 rfl) ?_
  refine lv_aload_n hx hb dLW_482 rfl (lv_at hl 0 rfl) ?_
  refine lv_iload_n hx hb dLW_483 rfl (lv_at hl 3 rfl) ?_
  refine lv_iconst (v := (1 : Int32)) hx hb dLW_484 (by decide) ?_
  refine lv_iadd hx hb dLW_485 ?_
  refine va_sld hx hb hX hbl hbA hS (lw_in (k := 1) rfl (by omega) hL) dLW_486 ?_
  refine lw_calli (va_runV (As := [.int (sc ((nI i + (1 : Int32)).toNatClampNeg))]) (rest := []) ⟨hx, hb, hml, hown, hts⟩ (tIP_took (l := l) (dC := dC) (dI := dI) (cI := cI) (ad := ad) (ts := ip_TS t0 t1 t2 t3) e1 H.size) (cwV 1 hts (ip_gdV (own := "IntraPictureLaw") (idx := 71) (C := kR_IP) (y := yIP_took) kw3_177 kw3_178 kw3_179 kw1_1 kw3_180) rfl rfl rfl (by decide +kernel) ⟨Nat.le_of_ble_eq_true rfl, Nat.le_of_ble_eq_true rfl⟩) (ip_preV hKx hP hD hS hA hZ [0, 4, 17] rfl rfl (ci := 0) (q0 := 0) rfl rfl) rfl rfl hl.1 rfl (lv_room (Nat.le_of_ble_eq_true rfl)) dLW_487 ⟨Nat.le_of_ble_eq_true rfl, Nat.le_of_ble_eq_true rfl⟩) hP hD hS hA [0, 4, 17] [1, 2, 3, 5, 6, 7, 8, 9, 10, 11, 12, 13, 14, 15, 16, 18, 19, 20, 21, 22, 23, 24, 25, 26, 27, 28, 29, 30, 31, 32, 33, 34, 35, 36, 37, 38, 39, 40, 41, 42, 43, 44, 45, 46, 47, 48, 49, 50, 51, 52, 53, 54] [52, 0, 1, 2, 53, 3, 4, 5, 6, 7, 8, 9, 10, 11, 12, 13, 14, 54, 15, 16, 17, 18, 19, 20, 21, 22, 23, 24, 25, 26, 27, 28, 29, 30, 31, 32, 33, 34, 35, 36, 37, 38, 39, 40, 41, 42, 43, 44, 45, 46, 47, 48, 49, 50, 51] (wIP_decode ad cI (x 0) (nI n) (x 1) (x 2) (x 3) (x 4) (x 5) (x 6) (x 7) (x 8) (x 9) (x 10) (x 11) (x 12) (x 13) (x 14) (x 15) (x 16) (x 17) (g 0) (g 4) (g 5) (g 6) (g 7) (g 8) (g 9) (g 10) (g 11) (g 12) (g 13) (g 14) (g 15) (g 16) (g 17) (g 18) (g 19) (g 20) (g 21) ++ wMO_decode am cI cZ (nI n) (x 18) (x 19) (x 20) (x 21) (x 22) (x 23) (x 24) (x 25) (g 0) (g 22) (g 23) (g 24) (g 25) (g 26) (g 27) (g 28) (g 29) (g 30) (g 31) (g 32) (g 33) (g 34) (g 35) (g 36) (g 37) (g 38) (g 39) (g 40) (g 1) (g 2) (g 3)) rfl 55 52 rfl rfl (by decide) rfl (by decide) rfl rfl (fun H locs hP hD hS => ?_)
  refine lv_aload_n hx hb dLW_490 rfl (lv_at hl 2 rfl) ?_
  refine lv_aload_n hx hb dLW_491 rfl (lv_at hl 0 rfl) ?_
  refine lv_iload_n hx hb dLW_492 rfl (lv_at hl 3 rfl) ?_
  refine lv_iconst (v := (1 : Int32)) hx hb dLW_493 (by decide) ?_
  refine lv_iadd hx hb dLW_494 ?_
  refine va_sld hx hb hX hbl hbA hS (lw_in (k := 1) rfl (by omega) hL) dLW_495 ?_
  refine lw_calli (va_runV (As := [.int (sc ((nI i + (1 : Int32)).toNatClampNeg))]) (rest := [.int a]) ⟨hx, hb, hml, hown, hts⟩ (tMO_took (l := l) (dC := dC) (dI := dI) (cI := cI) (cZ := cZ) (ad := am) (ts := ip_TS t0 t1 t2 t3) e2 H.size) (cwV 1 hts (ip_gdV (own := "IntraPictureLaw") (idx := 74) (C := kR_MO) (y := yMO_took) kw4_231 kw4_232 kw4_233 kw1_13 kw4_234) rfl rfl rfl (by decide +kernel) ⟨Nat.le_of_ble_eq_true rfl, Nat.le_of_ble_eq_true rfl⟩) (ip_preV hK hP hD hS hA hZ [31, 37] rfl rfl (ci := 12) (q0 := 31) rfl rfl) rfl rfl hl.1 rfl (lv_room (Nat.le_of_ble_eq_true rfl)) dLW_496 ⟨Nat.le_of_ble_eq_true rfl, Nat.le_of_ble_eq_true rfl⟩) hP hD hS hA [31, 37] [0, 1, 2, 3, 4, 5, 6, 7, 8, 9, 10, 11, 12, 13, 14, 15, 16, 17, 18, 19, 20, 21, 22, 23, 24, 25, 26, 27, 28, 29, 30, 32, 33, 34, 35, 36, 38, 39, 40, 41, 42, 43, 44, 45, 46, 47, 48, 49, 50, 51, 52, 53, 54] [0, 1, 2, 3, 4, 5, 6, 7, 8, 9, 10, 11, 12, 13, 14, 15, 16, 17, 18, 19, 20, 21, 22, 23, 24, 25, 26, 27, 28, 29, 30, 53, 31, 32, 33, 34, 35, 54, 36, 37, 38, 39, 40, 41, 42, 43, 44, 45, 46, 47, 48, 49, 50, 51, 52] (wIP_decode ad cI (x 0) (nI n) (x 1) (x 2) (x 3) (x 4) (x 5) (x 6) (x 7) (x 8) (x 9) (x 10) (x 11) (x 12) (x 13) (x 14) (x 15) (x 16) (x 17) (g 0) (g 4) (g 5) (g 6) (g 7) (g 8) (g 9) (g 10) (g 11) (g 12) (g 13) (g 14) (g 15) (g 16) (g 17) (g 18) (g 19) (g 20) (g 21) ++ wMO_decode am cI cZ (nI n) (x 18) (x 19) (x 20) (x 21) (x 22) (x 23) (x 24) (x 25) (g 0) (g 22) (g 23) (g 24) (g 25) (g 26) (g 27) (g 28) (g 29) (g 30) (g 31) (g 32) (g 33) (g 34) (g 35) (g 36) (g 37) (g 38) (g 39) (g 40) (g 1) (g 2) (g 3)) rfl 55 53 rfl rfl (by decide) rfl (by decide) rfl rfl (fun H locs hP hD hS => ?_)
  refine lv_icmp_eq (tgt := 504) hx hb dLW_499 rfl (fun _ => ?_) (fun h => absurd rfl h)
  exact kk H locs ⟨n, x, g, hP, hD, hS, hc, ht, ⟨r2, r3, r4, r5, r6, r7, r8⟩⟩
