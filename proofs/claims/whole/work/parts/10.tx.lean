set_option maxHeartbeats 4000000 in
set_option maxRecDepth 100000 in
theorem tAR_fill3 {l : Launch} {dC : Nat → ClassId} {dI : Nat → Nat → Nat} {cI : ClassId} {ad : Nat → Nat} {ts : ip_TT} {bF3 : Nat} {v_bF3 : Nat → Int32} {p2 : Int32} {nv_bF3 : Nat → Int32} (hf : fAR_fill3 v_bF3 p2 = some nv_bF3) : ip_Mv l yAR_fill wsAR_fill rmAR_fill3 (dC, dI) vwCl [(cI, .int)] ts [.ref bF3, .int p2] (wAR_fill3 ad cI bF3 v_bF3) (wAR_fill3 ad cI bF3 nv_bF3) := by
  refine ip_startV (cc := cAR_fill) (maxL := 4) (by decide) rfl (Nat.le_of_ble_eq_true rfl) ?_
  intro p e s m args below meth c Q A ls hx hb hml hts hown hK hP hD hS hA hZ hl hret
  replace hl : lv_has ls 4 [(0, .ref bF3), (1, .int p2)] := hl
  unfold fAR_fill3 at hf
  suffices J0 : ∀ (ls : Array Slot) (H : Heap) (locs : List Loc), lv_has ls 4 [(0, .ref bF3), (1, .int p2)] → va_P (dC, dI) vwCl (wAR_fill3 ad cI bF3 v_bF3) H → va_D A (wAR_fill3 ad cI bF3 v_bF3) → va_S A s.heap H locs → W p l e rmAR_fill3 s m args below meth c H locs 0 0 Q (F0 m 0 ls []) by exact J0 ls s.heap [] hl hP hD hS
  clear hP hD hS hl
  intro ls H locs hl hP hD hS
  refine lv_iconst (v := (0 : Int32)) hx hb dAR_fill_0 (by decide) ?_
  refine lv_istore_n (lv' := [(2, .int (0 : Int32)), (0, .ref bF3), (1, .int p2)]) hx hb dAR_fill_1 rfl hl (by decide) rfl (fun ls hl => ?_)
  refine lv_aload_n hx hb dAR_fill_2 rfl (lv_at hl 1 rfl) ?_
  refine va_alen (v := (3 : Int32)) hx hb hK hP 0 0 rfl rfl rfl dAR_fill_3 ?_
  refine lv_istore_n (lv' := [(3, .int (3 : Int32)), (2, .int (0 : Int32)), (0, .ref bF3), (1, .int p2)]) hx hb dAR_fill_4 rfl hl (by decide) rfl (fun ls hl => ?_)
  replace hl := lv_sub hl (l' := [(0, .ref bF3), (1, .int p2), (2, .int (0 : Int32)), (3, .int (3 : Int32))]) [2, 3, 1, 0] rfl
  obtain ⟨x3, y4, hL, hf⟩ := ip_b2_e hf
  suffices J20 : ∀ (ls : Array Slot) (H : Heap) (locs : List Loc), lv_has ls 4 [] → va_P (dC, dI) vwCl (wAR_fill3 ad cI bF3 y4) H → va_D A (wAR_fill3 ad cI bF3 y4) → va_S A s.heap H locs → W p l e rmAR_fill3 s m args below meth c H locs 0 0 Q (F0 m 20 ls []) by
    have L : ∀ (n : Nat) (z1 : Int32) (g2 : Nat → Int32), ip_lp2 (fAR_fill3_B5 p2) n z1 g2 = some (x3, y4) → ∀ (ls : Array Slot) (H : Heap) (locs : List Loc), lv_has ls 4 [(0, .ref bF3), (1, .int p2), (2, .int z1), (3, .int (3 : Int32))] → va_P (dC, dI) vwCl (wAR_fill3 ad cI bF3 g2) H → va_D A (wAR_fill3 ad cI bF3 g2) → va_S A s.heap H locs → W p l e rmAR_fill3 s m args below meth c H locs 0 0 Q (F0 m 5 ls []) := by
      intro n
      induction n with
      | zero => intro z1 g2 hL; exact (ip_lp2_0 hL).elim
      | succ n ih =>
        intro z1 g2 hL ls H locs hl hP hD hS
        clear hf
        obtain ⟨r9, hf, hr5⟩ := ip_lp2_s hL
        clear hL
        unfold fAR_fill3_B5 at hf
        refine lv_iload_n hx hb dAR_fill_5 rfl (lv_at hl 2 rfl) ?_
        refine lv_iload_n hx hb dAR_fill_6 rfl (lv_at hl 3 rfl) ?_
        refine ip_icmp_ge (tgt := 20) hx hb dAR_fill_7 rfl hf (fun hf => ?_) (fun hf => ?_)
        · have hx9 := ip_lp_x hr5 hf
          replace hl := lv_sub hl (l' := []) [] rfl
          cases hx9
          exact J20 ls H locs hl hP hD hS
        · refine lv_aload_n hx hb dAR_fill_10 rfl (lv_at hl 0 rfl) ?_
          refine lv_iload_n hx hb dAR_fill_11 rfl (lv_at hl 2 rfl) ?_
          refine lv_iload_n hx hb dAR_fill_12 rfl (lv_at hl 1 rfl) ?_
          refine ip_iast hx hb hK hP hD hS 0 0 rfl rfl (fun g5 => (wAR_fill3 ad cI bF3 g5)) (fun _ => rfl) dAR_fill_13 hf (fun g5 H locs hf hP hD hS => ?_)
          refine ip_iinc (k0 := 2) (v0 := (1 : Int32)) (lv1 := fun z6 => [(2, .int z6), (0, .ref bF3), (1, .int p2), (3, .int (3 : Int32))]) hx hb dAR_fill_14 hl rfl (by decide) (by decide) (fun _ => rfl) hf (fun z6 ls hf hl => ?_)
          refine lv_goto (tgt := 5) hx hb dAR_fill_17 rfl ?_
          replace hl := lv_sub hl (l' := [(0, .ref bF3), (1, .int p2), (2, .int z6), (3, .int (3 : Int32))]) [1, 2, 0, 3] rfl
          exact ih _ _ (ip_lp2_l hr5 hf) ls H locs hl hP hD hS
    exact L 1000 _ _ hL ls H locs hl hP hD hS
  intro ls H locs hl hP hD hS
  clear hL
  cases hf
  exact hret H locs 20 ls dAR_fill_20 hP hD hS
set_option maxHeartbeats 4000000 in
set_option maxRecDepth 100000 in
theorem tAR_fill10 {l : Launch} {dC : Nat → ClassId} {dI : Nat → Nat → Nat} {cI : ClassId} {ad : Nat → Nat} {ts : ip_TT} {bF10 : Nat} {v_bF10 : Nat → Int32} {p2 : Int32} {nv_bF10 : Nat → Int32} (hf : fAR_fill10 v_bF10 p2 = some nv_bF10) : ip_Mv l yAR_fill wsAR_fill rmAR_fill10 (dC, dI) vwCl [(cI, .int)] ts [.ref bF10, .int p2] (wAR_fill10 ad cI bF10 v_bF10) (wAR_fill10 ad cI bF10 nv_bF10) := by
  refine ip_startV (cc := cAR_fill) (maxL := 4) (by decide) rfl (Nat.le_of_ble_eq_true rfl) ?_
  intro p e s m args below meth c Q A ls hx hb hml hts hown hK hP hD hS hA hZ hl hret
  replace hl : lv_has ls 4 [(0, .ref bF10), (1, .int p2)] := hl
  unfold fAR_fill10 at hf
  suffices J0 : ∀ (ls : Array Slot) (H : Heap) (locs : List Loc), lv_has ls 4 [(0, .ref bF10), (1, .int p2)] → va_P (dC, dI) vwCl (wAR_fill10 ad cI bF10 v_bF10) H → va_D A (wAR_fill10 ad cI bF10 v_bF10) → va_S A s.heap H locs → W p l e rmAR_fill10 s m args below meth c H locs 0 0 Q (F0 m 0 ls []) by exact J0 ls s.heap [] hl hP hD hS
  clear hP hD hS hl
  intro ls H locs hl hP hD hS
  refine lv_iconst (v := (0 : Int32)) hx hb dAR_fill_0 (by decide) ?_
  refine lv_istore_n (lv' := [(2, .int (0 : Int32)), (0, .ref bF10), (1, .int p2)]) hx hb dAR_fill_1 rfl hl (by decide) rfl (fun ls hl => ?_)
  refine lv_aload_n hx hb dAR_fill_2 rfl (lv_at hl 1 rfl) ?_
  refine va_alen (v := (10 : Int32)) hx hb hK hP 0 0 rfl rfl rfl dAR_fill_3 ?_
  refine lv_istore_n (lv' := [(3, .int (10 : Int32)), (2, .int (0 : Int32)), (0, .ref bF10), (1, .int p2)]) hx hb dAR_fill_4 rfl hl (by decide) rfl (fun ls hl => ?_)
  replace hl := lv_sub hl (l' := [(0, .ref bF10), (1, .int p2), (2, .int (0 : Int32)), (3, .int (10 : Int32))]) [2, 3, 1, 0] rfl
  obtain ⟨x3, y4, hL, hf⟩ := ip_b2_e hf
  suffices J20 : ∀ (ls : Array Slot) (H : Heap) (locs : List Loc), lv_has ls 4 [] → va_P (dC, dI) vwCl (wAR_fill10 ad cI bF10 y4) H → va_D A (wAR_fill10 ad cI bF10 y4) → va_S A s.heap H locs → W p l e rmAR_fill10 s m args below meth c H locs 0 0 Q (F0 m 20 ls []) by
    have L : ∀ (n : Nat) (z1 : Int32) (g2 : Nat → Int32), ip_lp2 (fAR_fill10_B5 p2) n z1 g2 = some (x3, y4) → ∀ (ls : Array Slot) (H : Heap) (locs : List Loc), lv_has ls 4 [(0, .ref bF10), (1, .int p2), (2, .int z1), (3, .int (10 : Int32))] → va_P (dC, dI) vwCl (wAR_fill10 ad cI bF10 g2) H → va_D A (wAR_fill10 ad cI bF10 g2) → va_S A s.heap H locs → W p l e rmAR_fill10 s m args below meth c H locs 0 0 Q (F0 m 5 ls []) := by
      intro n
      induction n with
      | zero => intro z1 g2 hL; exact (ip_lp2_0 hL).elim
      | succ n ih =>
        intro z1 g2 hL ls H locs hl hP hD hS
        clear hf
        obtain ⟨r9, hf, hr5⟩ := ip_lp2_s hL
        clear hL
        unfold fAR_fill10_B5 at hf
        refine lv_iload_n hx hb dAR_fill_5 rfl (lv_at hl 2 rfl) ?_
        refine lv_iload_n hx hb dAR_fill_6 rfl (lv_at hl 3 rfl) ?_
        refine ip_icmp_ge (tgt := 20) hx hb dAR_fill_7 rfl hf (fun hf => ?_) (fun hf => ?_)
        · have hx9 := ip_lp_x hr5 hf
          replace hl := lv_sub hl (l' := []) [] rfl
          cases hx9
          exact J20 ls H locs hl hP hD hS
        · refine lv_aload_n hx hb dAR_fill_10 rfl (lv_at hl 0 rfl) ?_
          refine lv_iload_n hx hb dAR_fill_11 rfl (lv_at hl 2 rfl) ?_
          refine lv_iload_n hx hb dAR_fill_12 rfl (lv_at hl 1 rfl) ?_
          refine ip_iast hx hb hK hP hD hS 0 0 rfl rfl (fun g5 => (wAR_fill10 ad cI bF10 g5)) (fun _ => rfl) dAR_fill_13 hf (fun g5 H locs hf hP hD hS => ?_)
          refine ip_iinc (k0 := 2) (v0 := (1 : Int32)) (lv1 := fun z6 => [(2, .int z6), (0, .ref bF10), (1, .int p2), (3, .int (10 : Int32))]) hx hb dAR_fill_14 hl rfl (by decide) (by decide) (fun _ => rfl) hf (fun z6 ls hf hl => ?_)
          refine lv_goto (tgt := 5) hx hb dAR_fill_17 rfl ?_
          replace hl := lv_sub hl (l' := [(0, .ref bF10), (1, .int p2), (2, .int z6), (3, .int (10 : Int32))]) [1, 2, 0, 3] rfl
          exact ih _ _ (ip_lp2_l hr5 hf) ls H locs hl hP hD hS
    exact L 1000 _ _ hL ls H locs hl hP hD hS
  intro ls H locs hl hP hD hS
  clear hL
  cases hf
  exact hret H locs 20 ls dAR_fill_20 hP hD hS
set_option maxHeartbeats 4000000 in
set_option maxRecDepth 100000 in
theorem tAR_fill14 {l : Launch} {dC : Nat → ClassId} {dI : Nat → Nat → Nat} {cI : ClassId} {ad : Nat → Nat} {ts : ip_TT} {bF14 : Nat} {v_bF14 : Nat → Int32} {p2 : Int32} {nv_bF14 : Nat → Int32} (hf : fAR_fill14 v_bF14 p2 = some nv_bF14) : ip_Mv l yAR_fill wsAR_fill rmAR_fill14 (dC, dI) vwCl [(cI, .int)] ts [.ref bF14, .int p2] (wAR_fill14 ad cI bF14 v_bF14) (wAR_fill14 ad cI bF14 nv_bF14) := by
  refine ip_startV (cc := cAR_fill) (maxL := 4) (by decide) rfl (Nat.le_of_ble_eq_true rfl) ?_
  intro p e s m args below meth c Q A ls hx hb hml hts hown hK hP hD hS hA hZ hl hret
  replace hl : lv_has ls 4 [(0, .ref bF14), (1, .int p2)] := hl
  unfold fAR_fill14 at hf
  suffices J0 : ∀ (ls : Array Slot) (H : Heap) (locs : List Loc), lv_has ls 4 [(0, .ref bF14), (1, .int p2)] → va_P (dC, dI) vwCl (wAR_fill14 ad cI bF14 v_bF14) H → va_D A (wAR_fill14 ad cI bF14 v_bF14) → va_S A s.heap H locs → W p l e rmAR_fill14 s m args below meth c H locs 0 0 Q (F0 m 0 ls []) by exact J0 ls s.heap [] hl hP hD hS
  clear hP hD hS hl
  intro ls H locs hl hP hD hS
  refine lv_iconst (v := (0 : Int32)) hx hb dAR_fill_0 (by decide) ?_
  refine lv_istore_n (lv' := [(2, .int (0 : Int32)), (0, .ref bF14), (1, .int p2)]) hx hb dAR_fill_1 rfl hl (by decide) rfl (fun ls hl => ?_)
  refine lv_aload_n hx hb dAR_fill_2 rfl (lv_at hl 1 rfl) ?_
  refine va_alen (v := (14 : Int32)) hx hb hK hP 0 0 rfl rfl rfl dAR_fill_3 ?_
  refine lv_istore_n (lv' := [(3, .int (14 : Int32)), (2, .int (0 : Int32)), (0, .ref bF14), (1, .int p2)]) hx hb dAR_fill_4 rfl hl (by decide) rfl (fun ls hl => ?_)
  replace hl := lv_sub hl (l' := [(0, .ref bF14), (1, .int p2), (2, .int (0 : Int32)), (3, .int (14 : Int32))]) [2, 3, 1, 0] rfl
  obtain ⟨x3, y4, hL, hf⟩ := ip_b2_e hf
  suffices J20 : ∀ (ls : Array Slot) (H : Heap) (locs : List Loc), lv_has ls 4 [] → va_P (dC, dI) vwCl (wAR_fill14 ad cI bF14 y4) H → va_D A (wAR_fill14 ad cI bF14 y4) → va_S A s.heap H locs → W p l e rmAR_fill14 s m args below meth c H locs 0 0 Q (F0 m 20 ls []) by
    have L : ∀ (n : Nat) (z1 : Int32) (g2 : Nat → Int32), ip_lp2 (fAR_fill14_B5 p2) n z1 g2 = some (x3, y4) → ∀ (ls : Array Slot) (H : Heap) (locs : List Loc), lv_has ls 4 [(0, .ref bF14), (1, .int p2), (2, .int z1), (3, .int (14 : Int32))] → va_P (dC, dI) vwCl (wAR_fill14 ad cI bF14 g2) H → va_D A (wAR_fill14 ad cI bF14 g2) → va_S A s.heap H locs → W p l e rmAR_fill14 s m args below meth c H locs 0 0 Q (F0 m 5 ls []) := by
      intro n
      induction n with
      | zero => intro z1 g2 hL; exact (ip_lp2_0 hL).elim
      | succ n ih =>
        intro z1 g2 hL ls H locs hl hP hD hS
        clear hf
        obtain ⟨r9, hf, hr5⟩ := ip_lp2_s hL
        clear hL
        unfold fAR_fill14_B5 at hf
        refine lv_iload_n hx hb dAR_fill_5 rfl (lv_at hl 2 rfl) ?_
        refine lv_iload_n hx hb dAR_fill_6 rfl (lv_at hl 3 rfl) ?_
        refine ip_icmp_ge (tgt := 20) hx hb dAR_fill_7 rfl hf (fun hf => ?_) (fun hf => ?_)
        · have hx9 := ip_lp_x hr5 hf
          replace hl := lv_sub hl (l' := []) [] rfl
          cases hx9
          exact J20 ls H locs hl hP hD hS
        · refine lv_aload_n hx hb dAR_fill_10 rfl (lv_at hl 0 rfl) ?_
          refine lv_iload_n hx hb dAR_fill_11 rfl (lv_at hl 2 rfl) ?_
          refine lv_iload_n hx hb dAR_fill_12 rfl (lv_at hl 1 rfl) ?_
          refine ip_iast hx hb hK hP hD hS 0 0 rfl rfl (fun g5 => (wAR_fill14 ad cI bF14 g5)) (fun _ => rfl) dAR_fill_13 hf (fun g5 H locs hf hP hD hS => ?_)
          refine ip_iinc (k0 := 2) (v0 := (1 : Int32)) (lv1 := fun z6 => [(2, .int z6), (0, .ref bF14), (1, .int p2), (3, .int (14 : Int32))]) hx hb dAR_fill_14 hl rfl (by decide) (by decide) (fun _ => rfl) hf (fun z6 ls hf hl => ?_)
          refine lv_goto (tgt := 5) hx hb dAR_fill_17 rfl ?_
          replace hl := lv_sub hl (l' := [(0, .ref bF14), (1, .int p2), (2, .int z6), (3, .int (14 : Int32))]) [1, 2, 0, 3] rfl
          exact ih _ _ (ip_lp2_l hr5 hf) ls H locs hl hP hD hS
    exact L 1000 _ _ hL ls H locs hl hP hD hS
  intro ls H locs hl hP hD hS
  clear hL
  cases hf
  exact hret H locs 20 ls dAR_fill_20 hP hD hS
set_option maxHeartbeats 4000000 in
set_option maxRecDepth 100000 in
theorem tAR_fill16 {l : Launch} {dC : Nat → ClassId} {dI : Nat → Nat → Nat} {cI : ClassId} {ad : Nat → Nat} {ts : ip_TT} {bF16 : Nat} {v_bF16 : Nat → Int32} {p2 : Int32} {nv_bF16 : Nat → Int32} (hf : fAR_fill16 v_bF16 p2 = some nv_bF16) : ip_Mv l yAR_fill wsAR_fill rmAR_fill16 (dC, dI) vwCl [(cI, .int)] ts [.ref bF16, .int p2] (wAR_fill16 ad cI bF16 v_bF16) (wAR_fill16 ad cI bF16 nv_bF16) := by
  refine ip_startV (cc := cAR_fill) (maxL := 4) (by decide) rfl (Nat.le_of_ble_eq_true rfl) ?_
  intro p e s m args below meth c Q A ls hx hb hml hts hown hK hP hD hS hA hZ hl hret
  replace hl : lv_has ls 4 [(0, .ref bF16), (1, .int p2)] := hl
  unfold fAR_fill16 at hf
  suffices J0 : ∀ (ls : Array Slot) (H : Heap) (locs : List Loc), lv_has ls 4 [(0, .ref bF16), (1, .int p2)] → va_P (dC, dI) vwCl (wAR_fill16 ad cI bF16 v_bF16) H → va_D A (wAR_fill16 ad cI bF16 v_bF16) → va_S A s.heap H locs → W p l e rmAR_fill16 s m args below meth c H locs 0 0 Q (F0 m 0 ls []) by exact J0 ls s.heap [] hl hP hD hS
  clear hP hD hS hl
  intro ls H locs hl hP hD hS
  refine lv_iconst (v := (0 : Int32)) hx hb dAR_fill_0 (by decide) ?_
  refine lv_istore_n (lv' := [(2, .int (0 : Int32)), (0, .ref bF16), (1, .int p2)]) hx hb dAR_fill_1 rfl hl (by decide) rfl (fun ls hl => ?_)
  refine lv_aload_n hx hb dAR_fill_2 rfl (lv_at hl 1 rfl) ?_
  refine va_alen (v := (16 : Int32)) hx hb hK hP 0 0 rfl rfl rfl dAR_fill_3 ?_
  refine lv_istore_n (lv' := [(3, .int (16 : Int32)), (2, .int (0 : Int32)), (0, .ref bF16), (1, .int p2)]) hx hb dAR_fill_4 rfl hl (by decide) rfl (fun ls hl => ?_)
  replace hl := lv_sub hl (l' := [(0, .ref bF16), (1, .int p2), (2, .int (0 : Int32)), (3, .int (16 : Int32))]) [2, 3, 1, 0] rfl
  obtain ⟨x3, y4, hL, hf⟩ := ip_b2_e hf
  suffices J20 : ∀ (ls : Array Slot) (H : Heap) (locs : List Loc), lv_has ls 4 [] → va_P (dC, dI) vwCl (wAR_fill16 ad cI bF16 y4) H → va_D A (wAR_fill16 ad cI bF16 y4) → va_S A s.heap H locs → W p l e rmAR_fill16 s m args below meth c H locs 0 0 Q (F0 m 20 ls []) by
    have L : ∀ (n : Nat) (z1 : Int32) (g2 : Nat → Int32), ip_lp2 (fAR_fill16_B5 p2) n z1 g2 = some (x3, y4) → ∀ (ls : Array Slot) (H : Heap) (locs : List Loc), lv_has ls 4 [(0, .ref bF16), (1, .int p2), (2, .int z1), (3, .int (16 : Int32))] → va_P (dC, dI) vwCl (wAR_fill16 ad cI bF16 g2) H → va_D A (wAR_fill16 ad cI bF16 g2) → va_S A s.heap H locs → W p l e rmAR_fill16 s m args below meth c H locs 0 0 Q (F0 m 5 ls []) := by
      intro n
      induction n with
      | zero => intro z1 g2 hL; exact (ip_lp2_0 hL).elim
      | succ n ih =>
        intro z1 g2 hL ls H locs hl hP hD hS
        clear hf
        obtain ⟨r9, hf, hr5⟩ := ip_lp2_s hL
        clear hL
        unfold fAR_fill16_B5 at hf
        refine lv_iload_n hx hb dAR_fill_5 rfl (lv_at hl 2 rfl) ?_
        refine lv_iload_n hx hb dAR_fill_6 rfl (lv_at hl 3 rfl) ?_
        refine ip_icmp_ge (tgt := 20) hx hb dAR_fill_7 rfl hf (fun hf => ?_) (fun hf => ?_)
        · have hx9 := ip_lp_x hr5 hf
          replace hl := lv_sub hl (l' := []) [] rfl
          cases hx9
          exact J20 ls H locs hl hP hD hS
        · refine lv_aload_n hx hb dAR_fill_10 rfl (lv_at hl 0 rfl) ?_
          refine lv_iload_n hx hb dAR_fill_11 rfl (lv_at hl 2 rfl) ?_
          refine lv_iload_n hx hb dAR_fill_12 rfl (lv_at hl 1 rfl) ?_
          refine ip_iast hx hb hK hP hD hS 0 0 rfl rfl (fun g5 => (wAR_fill16 ad cI bF16 g5)) (fun _ => rfl) dAR_fill_13 hf (fun g5 H locs hf hP hD hS => ?_)
          refine ip_iinc (k0 := 2) (v0 := (1 : Int32)) (lv1 := fun z6 => [(2, .int z6), (0, .ref bF16), (1, .int p2), (3, .int (16 : Int32))]) hx hb dAR_fill_14 hl rfl (by decide) (by decide) (fun _ => rfl) hf (fun z6 ls hf hl => ?_)
          refine lv_goto (tgt := 5) hx hb dAR_fill_17 rfl ?_
          replace hl := lv_sub hl (l' := [(0, .ref bF16), (1, .int p2), (2, .int z6), (3, .int (16 : Int32))]) [1, 2, 0, 3] rfl
          exact ih _ _ (ip_lp2_l hr5 hf) ls H locs hl hP hD hS
    exact L 1000 _ _ hL ls H locs hl hP hD hS
  intro ls H locs hl hP hD hS
  clear hL
  cases hf
  exact hret H locs 20 ls dAR_fill_20 hP hD hS
set_option maxHeartbeats 4000000 in
set_option maxRecDepth 100000 in
theorem tAR_fill256 {l : Launch} {dC : Nat → ClassId} {dI : Nat → Nat → Nat} {cI : ClassId} {ad : Nat → Nat} {ts : ip_TT} {bF256 : Nat} {v_bF256 : Nat → Int32} {p2 : Int32} {nv_bF256 : Nat → Int32} (hf : fAR_fill256 v_bF256 p2 = some nv_bF256) : ip_Mv l yAR_fill wsAR_fill rmAR_fill256 (dC, dI) vwCl [(cI, .int)] ts [.ref bF256, .int p2] (wAR_fill256 ad cI bF256 v_bF256) (wAR_fill256 ad cI bF256 nv_bF256) := by
  refine ip_startV (cc := cAR_fill) (maxL := 4) (by decide) rfl (Nat.le_of_ble_eq_true rfl) ?_
  intro p e s m args below meth c Q A ls hx hb hml hts hown hK hP hD hS hA hZ hl hret
  replace hl : lv_has ls 4 [(0, .ref bF256), (1, .int p2)] := hl
  unfold fAR_fill256 at hf
  suffices J0 : ∀ (ls : Array Slot) (H : Heap) (locs : List Loc), lv_has ls 4 [(0, .ref bF256), (1, .int p2)] → va_P (dC, dI) vwCl (wAR_fill256 ad cI bF256 v_bF256) H → va_D A (wAR_fill256 ad cI bF256 v_bF256) → va_S A s.heap H locs → W p l e rmAR_fill256 s m args below meth c H locs 0 0 Q (F0 m 0 ls []) by exact J0 ls s.heap [] hl hP hD hS
  clear hP hD hS hl
  intro ls H locs hl hP hD hS
  refine lv_iconst (v := (0 : Int32)) hx hb dAR_fill_0 (by decide) ?_
  refine lv_istore_n (lv' := [(2, .int (0 : Int32)), (0, .ref bF256), (1, .int p2)]) hx hb dAR_fill_1 rfl hl (by decide) rfl (fun ls hl => ?_)
  refine lv_aload_n hx hb dAR_fill_2 rfl (lv_at hl 1 rfl) ?_
  refine va_alen (v := (256 : Int32)) hx hb hK hP 0 0 rfl rfl rfl dAR_fill_3 ?_
  refine lv_istore_n (lv' := [(3, .int (256 : Int32)), (2, .int (0 : Int32)), (0, .ref bF256), (1, .int p2)]) hx hb dAR_fill_4 rfl hl (by decide) rfl (fun ls hl => ?_)
  replace hl := lv_sub hl (l' := [(0, .ref bF256), (1, .int p2), (2, .int (0 : Int32)), (3, .int (256 : Int32))]) [2, 3, 1, 0] rfl
  obtain ⟨x3, y4, hL, hf⟩ := ip_b2_e hf
  suffices J20 : ∀ (ls : Array Slot) (H : Heap) (locs : List Loc), lv_has ls 4 [] → va_P (dC, dI) vwCl (wAR_fill256 ad cI bF256 y4) H → va_D A (wAR_fill256 ad cI bF256 y4) → va_S A s.heap H locs → W p l e rmAR_fill256 s m args below meth c H locs 0 0 Q (F0 m 20 ls []) by
    have L : ∀ (n : Nat) (z1 : Int32) (g2 : Nat → Int32), ip_lp2 (fAR_fill256_B5 p2) n z1 g2 = some (x3, y4) → ∀ (ls : Array Slot) (H : Heap) (locs : List Loc), lv_has ls 4 [(0, .ref bF256), (1, .int p2), (2, .int z1), (3, .int (256 : Int32))] → va_P (dC, dI) vwCl (wAR_fill256 ad cI bF256 g2) H → va_D A (wAR_fill256 ad cI bF256 g2) → va_S A s.heap H locs → W p l e rmAR_fill256 s m args below meth c H locs 0 0 Q (F0 m 5 ls []) := by
      intro n
      induction n with
      | zero => intro z1 g2 hL; exact (ip_lp2_0 hL).elim
      | succ n ih =>
        intro z1 g2 hL ls H locs hl hP hD hS
        clear hf
        obtain ⟨r9, hf, hr5⟩ := ip_lp2_s hL
        clear hL
        unfold fAR_fill256_B5 at hf
        refine lv_iload_n hx hb dAR_fill_5 rfl (lv_at hl 2 rfl) ?_
        refine lv_iload_n hx hb dAR_fill_6 rfl (lv_at hl 3 rfl) ?_
        refine ip_icmp_ge (tgt := 20) hx hb dAR_fill_7 rfl hf (fun hf => ?_) (fun hf => ?_)
        · have hx9 := ip_lp_x hr5 hf
          replace hl := lv_sub hl (l' := []) [] rfl
          cases hx9
          exact J20 ls H locs hl hP hD hS
        · refine lv_aload_n hx hb dAR_fill_10 rfl (lv_at hl 0 rfl) ?_
          refine lv_iload_n hx hb dAR_fill_11 rfl (lv_at hl 2 rfl) ?_
          refine lv_iload_n hx hb dAR_fill_12 rfl (lv_at hl 1 rfl) ?_
          refine ip_iast hx hb hK hP hD hS 0 0 rfl rfl (fun g5 => (wAR_fill256 ad cI bF256 g5)) (fun _ => rfl) dAR_fill_13 hf (fun g5 H locs hf hP hD hS => ?_)
          refine ip_iinc (k0 := 2) (v0 := (1 : Int32)) (lv1 := fun z6 => [(2, .int z6), (0, .ref bF256), (1, .int p2), (3, .int (256 : Int32))]) hx hb dAR_fill_14 hl rfl (by decide) (by decide) (fun _ => rfl) hf (fun z6 ls hf hl => ?_)
          refine lv_goto (tgt := 5) hx hb dAR_fill_17 rfl ?_
          replace hl := lv_sub hl (l' := [(0, .ref bF256), (1, .int p2), (2, .int z6), (3, .int (256 : Int32))]) [1, 2, 0, 3] rfl
          exact ih _ _ (ip_lp2_l hr5 hf) ls H locs hl hP hD hS
    exact L 1000 _ _ hL ls H locs hl hP hD hS
  intro ls H locs hl hP hD hS
  clear hL
  cases hf
  exact hret H locs 20 ls dAR_fill_20 hP hD hS
set_option maxHeartbeats 4000000 in
set_option maxRecDepth 100000 in
theorem tJI_compare {l : Launch} {dC : Nat → ClassId} {dI : Nat → Nat → Nat} {cI : ClassId} {ad : Nat → Nat} {ts : ip_TT}  {p1 : Int32} {p2 : Int32} {r0 : Int32}  (hf : fJI_compare p1 p2 = some r0) : ip_Mi l yJI_compare wsJI_compare rmJI_compare (dC, dI) vwCl [(cI, .int)] ts [.int p1, .int p2] (wJI_compare ad cI) (wJI_compare ad cI) r0 := by
  refine ip_startI (cc := cJI_compare) (maxL := 2) (by decide) rfl (Nat.le_of_ble_eq_true rfl) ?_
  intro p e s m args below meth c Q A ls hx hb hml hts hown hK hP hD hS hA hZ hl hret
  replace hl : lv_has ls 2 [(0, .int p1), (1, .int p2)] := hl
  unfold fJI_compare at hf
  suffices J0 : ∀ (ls : Array Slot) (H : Heap) (locs : List Loc), lv_has ls 2 [(0, .int p1), (1, .int p2)] → va_P (dC, dI) vwCl (wJI_compare ad cI) H → va_D A (wJI_compare ad cI) → va_S A s.heap H locs → W p l e rmJI_compare s m args below meth c H locs 0 0 Q (F0 m 0 ls []) by exact J0 ls s.heap [] hl hP hD hS
  clear hP hD hS hl
  intro ls H locs hl hP hD hS
  refine lv_iload_n hx hb dJI_compare_0 rfl (lv_at hl 0 rfl) ?_
  refine lv_iload_n hx hb dJI_compare_1 rfl (lv_at hl 1 rfl) ?_
  refine ip_icmp_ge (tgt := 9) hx hb dJI_compare_2 rfl hf (fun hf => ?_) (fun hf => ?_)
  · refine lv_iload_n hx hb dJI_compare_9 rfl (lv_at hl 0 rfl) ?_
    refine lv_iload_n hx hb dJI_compare_10 rfl (lv_at hl 1 rfl) ?_
    refine ip_icmp_ne (tgt := 18) hx hb dJI_compare_11 rfl hf (fun hf => ?_) (fun hf => ?_)
    · refine lv_iconst (v := (1 : Int32)) hx hb dJI_compare_18 (by decide) ?_
      cases hf
      exact hret H locs 19 ls _ dJI_compare_19 rfl hP hD hS
    · refine lv_iconst (v := (0 : Int32)) hx hb dJI_compare_14 (by decide) ?_
      refine lv_goto (tgt := 19) hx hb dJI_compare_15 rfl ?_
      cases hf
      exact hret H locs 19 ls _ dJI_compare_19 rfl hP hD hS
  · refine lv_iconst (v := (-1 : Int32)) hx hb dJI_compare_5 (by decide) ?_
    refine lv_goto (tgt := 19) hx hb dJI_compare_6 rfl ?_
    cases hf
    exact hret H locs 19 ls _ dJI_compare_19 rfl hP hD hS
set_option maxHeartbeats 4000000 in
set_option maxRecDepth 100000 in
theorem tFB_append {l : Launch} {dC : Nat → ClassId} {dI : Nat → Nat → Nat} {cI : ClassId} {ad : Nat → Nat} {ts : ip_TT} {v_FB_count : Int32} {v_FB_chosenLength : Int32} {v_aBytes : Nat → Int32} {p1 : Int64} {p2 : Int32} {r0 : Int32} {nv_FB_count : Int32} {nv_aBytes : Nat → Int32} (hf : fFB_append v_FB_count v_FB_chosenLength v_aBytes p1 p2 = some (r0, nv_FB_count, nv_aBytes)) : ip_Mi l yFB_append wsFB_append rmFB_append (dC, dI) vwCl [(cI, .int)] ts [.ref (ad 1), .long p1, .int p2] (wFB_append ad cI v_FB_count v_FB_chosenLength v_aBytes) (wFB_append ad cI nv_FB_count v_FB_chosenLength nv_aBytes) r0 := by
  refine ip_startZ (cc := cFB_append) (maxL := 5) (by decide) rfl (Nat.le_of_ble_eq_true rfl) ?_
  intro p e s m args below meth c Q A ls hx hb hml hts hown hK hP hD hS hA hZ hl hret
  replace hl : lv_has ls 5 [(0, .ref (ad 1)), (1, .long p1), (3, .int p2)] := hl
  unfold fFB_append at hf
  suffices J0 : ∀ (ls : Array Slot) (H : Heap) (locs : List Loc), lv_has ls 5 [(0, .ref (ad 1)), (1, .long p1), (3, .int p2)] → va_P (dC, dI) vwCl (wFB_append ad cI v_FB_count v_FB_chosenLength v_aBytes) H → va_D A (wFB_append ad cI v_FB_count v_FB_chosenLength v_aBytes) → va_S A s.heap H locs → W p l e rmFB_append s m args below meth c H locs 0 0 Q (F0 m 0 ls []) by exact J0 ls s.heap [] hl hP hD hS
  clear hP hD hS hl
  intro ls H locs hl hP hD hS
  refine lv_iload_n hx hb dFB_append_0 rfl (lv_at hl 2 rfl) ?_
  refine lv_iconst (v := (1 : Int32)) hx hb dFB_append_1 (by decide) ?_
  refine ip_icmp_lt (tgt := 23) hx hb dFB_append_2 rfl hf (fun hf => ?_) (fun hf => ?_)
  · refine lv_iconst (v := (0 : Int32)) hx hb dFB_append_23 (by decide) ?_
    cases hf
    exact hret H locs 24 ls _ dFB_append_24 (Or.inl rfl) rfl hP hD hS
  · refine lv_iload_n hx hb dFB_append_5 rfl (lv_at hl 2 rfl) ?_
    refine lv_bipush (v := (8 : Int32)) hx hb dFB_append_6 (by decide) ?_
    refine ip_icmp_gt (tgt := 23) hx hb dFB_append_8 rfl hf (fun hf => ?_) (fun hf => ?_)
    · refine lv_iconst (v := (0 : Int32)) hx hb dFB_append_23 (by decide) ?_
      cases hf
      exact hret H locs 24 ls _ dFB_append_24 (Or.inl rfl) rfl hP hD hS
    · refine lv_aload_n hx hb dFB_append_11 rfl (lv_at hl 0 rfl) ?_
      refine va_get (D := (dC, dI)) (ci := 1) (v := .int v_FB_count) (C := kR_FB) (T := kT_FB) (N := 4) hx hb hts kin_FB hown hK hP 0 rfl rfl 2 (by decide) (hts _ (List.mem_cons_of_mem _ kw1_35)) (fun _ h9 => h9) rfl dFB_append_12 ?_
      refine lv_iload_n hx hb dFB_append_15 rfl (lv_at hl 2 rfl) ?_
      refine lv_iadd hx hb dFB_append_16 ?_
      refine lv_sipush (v := (240 : Int32)) hx hb dFB_append_17 (by decide) ?_
      refine ip_icmp_le (tgt := 25) hx hb dFB_append_20 rfl hf (fun hf => ?_) (fun hf => ?_)
      · refine lv_iconst (v := (0 : Int32)) hx hb dFB_append_25 (by decide) ?_
        refine lv_istore (lv' := [(4, .int (0 : Int32)), (0, .ref (ad 1)), (1, .long p1), (3, .int p2)]) hx hb dFB_append_26 hl (by decide) rfl (fun ls hl => ?_)
        replace hl := lv_sub hl (l' := [(0, .ref (ad 1)), (1, .long p1), (3, .int p2), (4, .int (0 : Int32))]) [1, 2, 3, 0] rfl
        obtain ⟨x3, y4, hL, hf⟩ := ip_b2_e hf
        suffices J64 : ∀ (ls : Array Slot) (H : Heap) (locs : List Loc), lv_has ls 5 [(0, .ref (ad 1)), (3, .int p2)] → va_P (dC, dI) vwCl (wFB_append ad cI v_FB_count v_FB_chosenLength y4) H → va_D A (wFB_append ad cI v_FB_count v_FB_chosenLength y4) → va_S A s.heap H locs → W p l e rmFB_append s m args below meth c H locs 0 0 Q (F0 m 64 ls []) by
          have L : ∀ (n : Nat) (z1 : Int32) (g2 : Nat → Int32), ip_lp2 (fFB_append_B28 v_FB_count p1 p2) n z1 g2 = some (x3, y4) → ∀ (ls : Array Slot) (H : Heap) (locs : List Loc), lv_has ls 5 [(0, .ref (ad 1)), (1, .long p1), (3, .int p2), (4, .int z1)] → va_P (dC, dI) vwCl (wFB_append ad cI v_FB_count v_FB_chosenLength g2) H → va_D A (wFB_append ad cI v_FB_count v_FB_chosenLength g2) → va_S A s.heap H locs → W p l e rmFB_append s m args below meth c H locs 0 0 Q (F0 m 28 ls []) := by
            intro n
            induction n with
            | zero => intro z1 g2 hL; exact (ip_lp2_0 hL).elim
            | succ n ih =>
              intro z1 g2 hL ls H locs hl hP hD hS
              clear hf
              obtain ⟨r9, hf, hr28⟩ := ip_lp2_s hL
              clear hL
              unfold fFB_append_B28 at hf
              refine lv_iload hx hb dFB_append_28 (lv_at hl 3 rfl) ?_
              refine lv_iload_n hx hb dFB_append_30 rfl (lv_at hl 2 rfl) ?_
              refine ip_icmp_ge (tgt := 64) hx hb dFB_append_31 rfl hf (fun hf => ?_) (fun hf => ?_)
              · have hx9 := ip_lp_x hr28 hf
                replace hl := lv_sub hl (l' := [(0, .ref (ad 1)), (3, .int p2)]) [0, 2] rfl
                cases hx9
                exact J64 ls H locs hl hP hD hS
              · refine lv_aload_n hx hb dFB_append_34 rfl (lv_at hl 0 rfl) ?_
                refine va_get (D := (dC, dI)) (ci := 1) (v := .ref (ad 12)) (C := kR_FB) (T := kT_FB) (N := 4) hx hb hts kin_FB hown hK hP 0 rfl rfl 0 (by decide) (hts _ (List.mem_cons_of_mem _ kw1_32)) (fun _ h9 => h9) rfl dFB_append_35 ?_
                refine lv_aload_n hx hb dFB_append_38 rfl (lv_at hl 0 rfl) ?_
                refine va_get (D := (dC, dI)) (ci := 1) (v := .int v_FB_count) (C := kR_FB) (T := kT_FB) (N := 4) hx hb hts kin_FB hown hK hP 0 rfl rfl 2 (by decide) (hts _ (List.mem_cons_of_mem _ kw1_35)) (fun _ h9 => h9) rfl dFB_append_39 ?_
                refine lv_iload hx hb dFB_append_42 (lv_at hl 3 rfl) ?_
                refine lv_iadd hx hb dFB_append_44 ?_
                refine lv_lload_n hx hb dFB_append_45 rfl (lv_at hl 1 rfl) ?_
                refine lv_bipush (v := (8 : Int32)) hx hb dFB_append_46 (by decide) ?_
                refine lv_iload hx hb dFB_append_48 (lv_at hl 3 rfl) ?_
                refine lv_imul hx hb dFB_append_50 ?_
                refine lv_lushr hx hb dFB_append_51 rfl ?_
                refine lv_l2i hx hb dFB_append_52 rfl ?_
                refine lv_sipush (v := (255 : Int32)) hx hb dFB_append_53 (by decide) ?_
                refine lv_iand hx hb dFB_append_56 ?_
                refine ip_iast hx hb hK hP hD hS 1 0 rfl rfl (fun g5 => (wFB_append ad cI v_FB_count v_FB_chosenLength g5)) (fun _ => rfl) dFB_append_57 hf (fun g5 H locs hf hP hD hS => ?_)
                refine ip_iinc (k0 := 3) (v0 := (1 : Int32)) (lv1 := fun z6 => [(4, .int z6), (0, .ref (ad 1)), (1, .long p1), (3, .int p2)]) hx hb dFB_append_58 hl rfl (by decide) (by decide) (fun _ => rfl) hf (fun z6 ls hf hl => ?_)
                refine lv_goto (tgt := 28) hx hb dFB_append_61 rfl ?_
                replace hl := lv_sub hl (l' := [(0, .ref (ad 1)), (1, .long p1), (3, .int p2), (4, .int z6)]) [1, 2, 3, 0] rfl
                exact ih _ _ (ip_lp2_l hr28 hf) ls H locs hl hP hD hS
          exact L 1000 _ _ hL ls H locs hl hP hD hS
        intro ls H locs hl hP hD hS
        clear hL
        refine lv_aload_n hx hb dFB_append_64 rfl (lv_at hl 0 rfl) ?_
        refine lv_dup hx hb dFB_append_65 rfl ?_
        refine va_get (D := (dC, dI)) (ci := 1) (v := .int v_FB_count) (C := kR_FB) (T := kT_FB) (N := 4) hx hb hts kin_FB hown hK hP 0 rfl rfl 2 (by decide) (hts _ (List.mem_cons_of_mem _ kw1_35)) (fun _ h9 => h9) rfl dFB_append_66 ?_
        refine lv_iload_n hx hb dFB_append_69 rfl (lv_at hl 1 rfl) ?_
        refine lv_iadd hx hb dFB_append_70 ?_
        refine ip_top hf (fun z7 hf => ?_)
        refine va_put (D := (dC, dI)) (ci := 1) (v := .int z7) (ty := .int) (C := kR_FB) (T := kT_FB) (N := 4) hx hb hts kin_FB kty_FB kto_FB knm_FB hown hK hP hD hS 0 rfl rfl 2 (by decide) (hts _ (List.mem_cons_of_mem _ kw1_35)) (fun _ h9 => h9) rfl (by decide +kernel) rfl rfl (Nat.le_of_ble_eq_true rfl) dFB_append_71 (fun H locs hP hD hS => ?_)
        replace hP : va_P (dC, dI) vwCl (wFB_append ad cI z7 v_FB_chosenLength y4) H := hP
        replace hD : va_D A (wFB_append ad cI z7 v_FB_chosenLength y4) := hD
        refine lv_iconst (v := (1 : Int32)) hx hb dFB_append_74 (by decide) ?_
        cases hf
        exact hret H locs 75 ls _ dFB_append_75 (Or.inr rfl) rfl hP hD hS
      · refine lv_iconst (v := (0 : Int32)) hx hb dFB_append_23 (by decide) ?_
        cases hf
        exact hret H locs 24 ls _ dFB_append_24 (Or.inl rfl) rfl hP hD hS
set_option maxHeartbeats 4000000 in
set_option maxRecDepth 100000 in
theorem tIP_feed {l : Launch} {dC : Nat → ClassId} {dI : Nat → Nat → Nat} {cI : ClassId} {ad : Nat → Nat} {ts : ip_TT} {v_IP_pictureStands : Int32} {v_FB_count : Int32} {v_FB_chosenLength : Int32} {v_aBytes : Nat → Int32} {p1 : Int64} {p2 : Int32} {r0 : Int32} {nv_FB_count : Int32} {nv_aBytes : Nat → Int32} (hf : fIP_feed v_IP_pictureStands v_FB_count v_FB_chosenLength v_aBytes p1 p2 = some (r0, nv_FB_count, nv_aBytes)) : ip_Mi l yIP_feed wsIP_feed rmIP_feed (dC, dI) vwCl [(cI, .int)] ts [.ref (ad 0), .long p1, .int p2] (wIP_feed ad cI v_IP_pictureStands v_FB_count v_FB_chosenLength v_aBytes) (wIP_feed ad cI v_IP_pictureStands nv_FB_count v_FB_chosenLength nv_aBytes) r0 := by
  refine ip_startZ (cc := cIP_feed) (maxL := 4) (by decide) rfl (Nat.le_of_ble_eq_true rfl) ?_
  intro p e s m args below meth c Q A ls hx hb hml hts hown hK hP hD hS hA hZ hl hret
  replace hl : lv_has ls 4 [(0, .ref (ad 0)), (1, .long p1), (3, .int p2)] := hl
  unfold fIP_feed at hf
  suffices J0 : ∀ (ls : Array Slot) (H : Heap) (locs : List Loc), lv_has ls 4 [(0, .ref (ad 0)), (1, .long p1), (3, .int p2)] → va_P (dC, dI) vwCl (wIP_feed ad cI v_IP_pictureStands v_FB_count v_FB_chosenLength v_aBytes) H → va_D A (wIP_feed ad cI v_IP_pictureStands v_FB_count v_FB_chosenLength v_aBytes) → va_S A s.heap H locs → W p l e rmIP_feed s m args below meth c H locs 0 0 Q (F0 m 0 ls []) by exact J0 ls s.heap [] hl hP hD hS
  clear hP hD hS hl
  intro ls H locs hl hP hD hS
  refine lv_aload_n hx hb dIP_feed_0 rfl (lv_at hl 0 rfl) ?_
  refine va_get (D := (dC, dI)) (ci := 0) (v := .ref (ad 1)) (C := kR_IP) (T := kT_IP) (N := 7) hx hb hts kin_IP hown hK hP 0 rfl rfl 0 (by decide) (hts _ (List.mem_cons_of_mem _ kw2_57)) (fun _ h9 => h9) rfl dIP_feed_1 ?_
  refine lv_lload_n hx hb dIP_feed_4 rfl (lv_at hl 1 rfl) ?_
  refine lv_iload_n hx hb dIP_feed_5 rfl (lv_at hl 2 rfl) ?_
  obtain ⟨z1, z2, g3, hc, hf⟩ := ip_b3_e hf
  refine ip_calli (va_runV (As := [.long p1, .int p2]) (rest := []) ⟨hx, hb, hml, hown, hts⟩ (tFB_append (l := l) (dC := dC) (dI := dI) (ad := ad) (cI := cI) (ts := ts) hc H.size) (cwV 2 hts (ip_gdV (own := kR_IP) (idx := 68) (C := kR_FB) (y := yFB_append) kw2_83 kw2_84 kw2_85 kw1_2 kw2_86) rfl rfl rfl (by decide +kernel) ⟨Nat.le_of_ble_eq_true rfl, Nat.le_of_ble_eq_true rfl⟩) (ip_preV hK hP hD hS hA hZ [1, 2] rfl rfl (ci := 1) (q0 := 1) rfl rfl) rfl rfl hl.1 rfl (lv_room (Nat.le_of_ble_eq_true rfl)) dIP_feed_6 ⟨Nat.le_of_ble_eq_true rfl, Nat.le_of_ble_eq_true rfl⟩) hP hD hS hA [1, 2] [0] [0, 1, 2] (wIP_feed ad cI v_IP_pictureStands z2 v_FB_chosenLength g3) rfl rfl rfl (by decide) rfl rfl (fun H locs hP hD hS => ?_)
  clear hc
  obtain ⟨hz, hf⟩ := ip_zk_e hf
  cases hf
  exact hret H locs 9 ls _ dIP_feed_9 (hz) rfl hP hD hS
set_option maxHeartbeats 4000000 in
set_option maxRecDepth 100000 in
theorem tIP_clear {l : Launch} {dC : Nat → ClassId} {dI : Nat → Nat → Nat} {cI : ClassId} {ad : Nat → Nat} {ts : ip_TT} {v_IP_pictureStands : Int32} {v_FB_count : Int32} {v_FB_chosenLength : Int32} {v_PA_there : Int32} {v_PA_fault : Int32}  {nv_IP_pictureStands : Int32} {nv_FB_count : Int32} {nv_PA_there : Int32} (hf : fIP_clear v_IP_pictureStands v_FB_count v_FB_chosenLength v_PA_there v_PA_fault = some (nv_IP_pictureStands, nv_FB_count, nv_PA_there)) : ip_Mv l yIP_clear wsIP_clear rmIP_clear (dC, dI) vwCl [(cI, .int)] ts [.ref (ad 0)] (wIP_clear ad cI v_IP_pictureStands v_FB_count v_FB_chosenLength v_PA_there v_PA_fault) (wIP_clear ad cI nv_IP_pictureStands nv_FB_count v_FB_chosenLength nv_PA_there v_PA_fault) := by
  refine ip_startV (cc := cIP_clear) (maxL := 1) (by decide) rfl (Nat.le_of_ble_eq_true rfl) ?_
  intro p e s m args below meth c Q A ls hx hb hml hts hown hK hP hD hS hA hZ hl hret
  replace hl : lv_has ls 1 [(0, .ref (ad 0))] := hl
  unfold fIP_clear at hf
  suffices J0 : ∀ (ls : Array Slot) (H : Heap) (locs : List Loc), lv_has ls 1 [(0, .ref (ad 0))] → va_P (dC, dI) vwCl (wIP_clear ad cI v_IP_pictureStands v_FB_count v_FB_chosenLength v_PA_there v_PA_fault) H → va_D A (wIP_clear ad cI v_IP_pictureStands v_FB_count v_FB_chosenLength v_PA_there v_PA_fault) → va_S A s.heap H locs → W p l e rmIP_clear s m args below meth c H locs 0 0 Q (F0 m 0 ls []) by exact J0 ls s.heap [] hl hP hD hS
  clear hP hD hS hl
  intro ls H locs hl hP hD hS
  refine lv_aload_n hx hb dIP_clear_0 rfl (lv_at hl 0 rfl) ?_
  refine va_get (D := (dC, dI)) (ci := 0) (v := .ref (ad 1)) (C := kR_IP) (T := kT_IP) (N := 7) hx hb hts kin_IP hown hK hP 0 rfl rfl 0 (by decide) (hts _ (List.mem_cons_of_mem _ kw2_57)) (fun _ h9 => h9) rfl dIP_clear_1 ?_
  refine lv_iconst (v := (0 : Int32)) hx hb dIP_clear_4 (by decide) ?_
  refine va_put (D := (dC, dI)) (ci := 1) (v := .int (0 : Int32)) (ty := .int) (C := kR_FB) (T := kT_FB) (N := 4) hx hb hts kin_FB kty_FB kto_FB knm_FB hown hK hP hD hS 1 rfl rfl 2 (by decide) (hts _ (List.mem_cons_of_mem _ kw1_36)) (fun _ h9 => h9) rfl (by decide +kernel) rfl rfl (Nat.le_of_ble_eq_true rfl) dIP_clear_5 (fun H locs hP hD hS => ?_)
  replace hP : va_P (dC, dI) vwCl (wIP_clear ad cI v_IP_pictureStands (0 : Int32) v_FB_chosenLength v_PA_there v_PA_fault) H := hP
  replace hD : va_D A (wIP_clear ad cI v_IP_pictureStands (0 : Int32) v_FB_chosenLength v_PA_there v_PA_fault) := hD
  refine lv_aload_n hx hb dIP_clear_8 rfl (lv_at hl 0 rfl) ?_
  refine va_get (D := (dC, dI)) (ci := 0) (v := .ref (ad 3)) (C := kR_IP) (T := kT_IP) (N := 7) hx hb hts kin_IP hown hK hP 0 rfl rfl 2 (by decide) (hts _ (List.mem_cons_of_mem _ kw2_59)) (fun _ h9 => h9) rfl dIP_clear_9 ?_
  refine lv_iconst (v := (0 : Int32)) hx hb dIP_clear_12 (by decide) ?_
  refine va_put (D := (dC, dI)) (ci := 3) (v := .int (0 : Int32)) (ty := .boolean) (C := kR_PA) (T := kT_PA) (N := 5) hx hb hts kin_PA kty_PA kto_PA knm_PA hown hK hP hD hS 2 rfl rfl 3 (by decide) (hts _ (List.mem_cons_of_mem _ kw1_76)) (fun _ h9 => h9) rfl (by decide +kernel) rfl rfl (Nat.le_of_ble_eq_true rfl) dIP_clear_13 (fun H locs hP hD hS => ?_)
  replace hP : va_P (dC, dI) vwCl (wIP_clear ad cI v_IP_pictureStands (0 : Int32) v_FB_chosenLength (0 : Int32) v_PA_fault) H := hP
  replace hD : va_D A (wIP_clear ad cI v_IP_pictureStands (0 : Int32) v_FB_chosenLength (0 : Int32) v_PA_fault) := hD
  refine lv_aload_n hx hb dIP_clear_16 rfl (lv_at hl 0 rfl) ?_
  refine lv_iconst (v := (0 : Int32)) hx hb dIP_clear_17 (by decide) ?_
  refine va_put (D := (dC, dI)) (ci := 0) (v := .int (0 : Int32)) (ty := .boolean) (C := kR_IP) (T := kT_IP) (N := 7) hx hb hts kin_IP kty_IP kto_IP knm_IP hown hK hP hD hS 0 rfl rfl 6 (by decide) (hts _ (List.mem_cons_of_mem _ kw2_63)) (fun _ h9 => h9) rfl (by decide +kernel) rfl rfl (Nat.le_of_ble_eq_true rfl) dIP_clear_18 (fun H locs hP hD hS => ?_)
  replace hP : va_P (dC, dI) vwCl (wIP_clear ad cI (0 : Int32) (0 : Int32) v_FB_chosenLength (0 : Int32) v_PA_fault) H := hP
  replace hD : va_D A (wIP_clear ad cI (0 : Int32) (0 : Int32) v_FB_chosenLength (0 : Int32) v_PA_fault) := hD
  cases hf
  exact hret H locs 21 ls dIP_clear_21 hP hD hS
set_option maxHeartbeats 4000000 in
set_option maxRecDepth 100000 in
theorem tFB_startsAt {l : Launch} {dC : Nat → ClassId} {dI : Nat → Nat → Nat} {cI : ClassId} {ad : Nat → Nat} {ts : ip_TT} {v_FB_count : Int32} {v_FB_chosenLength : Int32} {v_aBytes : Nat → Int32} {p1 : Int32} {r0 : Int32}  (hf : fFB_startsAt v_FB_count v_FB_chosenLength v_aBytes p1 = some r0) : ip_Mi l yFB_startsAt wsFB_startsAt rmFB_startsAt (dC, dI) vwCl [(cI, .int)] ts [.ref (ad 1), .int p1] (wFB_startsAt ad cI v_FB_count v_FB_chosenLength v_aBytes) (wFB_startsAt ad cI v_FB_count v_FB_chosenLength v_aBytes) r0 := by
  refine ip_startZ (cc := cFB_startsAt) (maxL := 2) (by decide) rfl (Nat.le_of_ble_eq_true rfl) ?_
  intro p e s m args below meth c Q A ls hx hb hml hts hown hK hP hD hS hA hZ hl hret
  replace hl : lv_has ls 2 [(0, .ref (ad 1)), (1, .int p1)] := hl
  unfold fFB_startsAt at hf
  suffices J0 : ∀ (ls : Array Slot) (H : Heap) (locs : List Loc), lv_has ls 2 [(0, .ref (ad 1)), (1, .int p1)] → va_P (dC, dI) vwCl (wFB_startsAt ad cI v_FB_count v_FB_chosenLength v_aBytes) H → va_D A (wFB_startsAt ad cI v_FB_count v_FB_chosenLength v_aBytes) → va_S A s.heap H locs → W p l e rmFB_startsAt s m args below meth c H locs 0 0 Q (F0 m 0 ls []) by exact J0 ls s.heap [] hl hP hD hS
  clear hP hD hS hl
  intro ls H locs hl hP hD hS
  refine lv_iload_n hx hb dFB_startsAt_0 rfl (lv_at hl 1 rfl) ?_
  refine lv_iconst (v := (3 : Int32)) hx hb dFB_startsAt_1 (by decide) ?_
  refine lv_iadd hx hb dFB_startsAt_2 ?_
  refine lv_aload_n hx hb dFB_startsAt_3 rfl (lv_at hl 0 rfl) ?_
  refine va_get (D := (dC, dI)) (ci := 1) (v := .int v_FB_count) (C := kR_FB) (T := kT_FB) (N := 4) hx hb hts kin_FB hown hK hP 0 rfl rfl 2 (by decide) (hts _ (List.mem_cons_of_mem _ kw1_35)) (fun _ h9 => h9) rfl dFB_startsAt_4 ?_
  refine ip_icmp_gt (tgt := 46) hx hb dFB_startsAt_7 rfl hf (fun hf => ?_) (fun hf => ?_)
  · refine lv_iconst (v := (0 : Int32)) hx hb dFB_startsAt_46 (by decide) ?_
    cases hf
    exact hret H locs 47 ls _ dFB_startsAt_47 (Or.inl rfl) rfl hP hD hS
  · refine lv_aload_n hx hb dFB_startsAt_10 rfl (lv_at hl 0 rfl) ?_
    refine va_get (D := (dC, dI)) (ci := 1) (v := .ref (ad 12)) (C := kR_FB) (T := kT_FB) (N := 4) hx hb hts kin_FB hown hK hP 0 rfl rfl 0 (by decide) (hts _ (List.mem_cons_of_mem _ kw1_32)) (fun _ h9 => h9) rfl dFB_startsAt_11 ?_
    refine lv_iload_n hx hb dFB_startsAt_14 rfl (lv_at hl 1 rfl) ?_
    refine ip_iald hx hb hK hP 1 0 rfl rfl dFB_startsAt_15 hf (fun z1 hf => ?_)
    refine ip_if_ne (tgt := 46) hx hb dFB_startsAt_16 rfl hf (fun hf => ?_) (fun hf => ?_)
    · refine lv_iconst (v := (0 : Int32)) hx hb dFB_startsAt_46 (by decide) ?_
      cases hf
      exact hret H locs 47 ls _ dFB_startsAt_47 (Or.inl rfl) rfl hP hD hS
    · refine lv_aload_n hx hb dFB_startsAt_19 rfl (lv_at hl 0 rfl) ?_
      refine va_get (D := (dC, dI)) (ci := 1) (v := .ref (ad 12)) (C := kR_FB) (T := kT_FB) (N := 4) hx hb hts kin_FB hown hK hP 0 rfl rfl 0 (by decide) (hts _ (List.mem_cons_of_mem _ kw1_32)) (fun _ h9 => h9) rfl dFB_startsAt_20 ?_
      refine lv_iload_n hx hb dFB_startsAt_23 rfl (lv_at hl 1 rfl) ?_
      refine lv_iconst (v := (1 : Int32)) hx hb dFB_startsAt_24 (by decide) ?_
      refine lv_iadd hx hb dFB_startsAt_25 ?_
      refine ip_iald hx hb hK hP 1 0 rfl rfl dFB_startsAt_26 hf (fun z2 hf => ?_)
      refine ip_if_ne (tgt := 46) hx hb dFB_startsAt_27 rfl hf (fun hf => ?_) (fun hf => ?_)
      · refine lv_iconst (v := (0 : Int32)) hx hb dFB_startsAt_46 (by decide) ?_
        cases hf
        exact hret H locs 47 ls _ dFB_startsAt_47 (Or.inl rfl) rfl hP hD hS
      · refine lv_aload_n hx hb dFB_startsAt_30 rfl (lv_at hl 0 rfl) ?_
        refine va_get (D := (dC, dI)) (ci := 1) (v := .ref (ad 12)) (C := kR_FB) (T := kT_FB) (N := 4) hx hb hts kin_FB hown hK hP 0 rfl rfl 0 (by decide) (hts _ (List.mem_cons_of_mem _ kw1_32)) (fun _ h9 => h9) rfl dFB_startsAt_31 ?_
        refine lv_iload_n hx hb dFB_startsAt_34 rfl (lv_at hl 1 rfl) ?_
        refine lv_iconst (v := (2 : Int32)) hx hb dFB_startsAt_35 (by decide) ?_
        refine lv_iadd hx hb dFB_startsAt_36 ?_
        refine ip_iald hx hb hK hP 1 0 rfl rfl dFB_startsAt_37 hf (fun z3 hf => ?_)
        refine lv_iconst (v := (1 : Int32)) hx hb dFB_startsAt_38 (by decide) ?_
        refine ip_icmp_ne (tgt := 46) hx hb dFB_startsAt_39 rfl hf (fun hf => ?_) (fun hf => ?_)
        · refine lv_iconst (v := (0 : Int32)) hx hb dFB_startsAt_46 (by decide) ?_
          cases hf
          exact hret H locs 47 ls _ dFB_startsAt_47 (Or.inl rfl) rfl hP hD hS
        · refine lv_iconst (v := (1 : Int32)) hx hb dFB_startsAt_42 (by decide) ?_
          refine lv_goto (tgt := 47) hx hb dFB_startsAt_43 rfl ?_
          cases hf
          exact hret H locs 47 ls _ dFB_startsAt_47 (Or.inr rfl) rfl hP hD hS
set_option maxHeartbeats 4000000 in
set_option maxRecDepth 100000 in
theorem tFB_countStarts {l : Launch} {dC : Nat → ClassId} {dI : Nat → Nat → Nat} {cI : ClassId} {ad : Nat → Nat} {ts : ip_TT} {v_FB_count : Int32} {v_FB_chosenLength : Int32} {v_aBytes : Nat → Int32}  {r0 : Int32}  (hf : fFB_countStarts v_FB_count v_FB_chosenLength v_aBytes = some r0) : ip_Mi l yFB_countStarts wsFB_countStarts rmFB_countStarts (dC, dI) vwCl [(cI, .int)] ts [.ref (ad 1)] (wFB_countStarts ad cI v_FB_count v_FB_chosenLength v_aBytes) (wFB_countStarts ad cI v_FB_count v_FB_chosenLength v_aBytes) r0 := by
  refine ip_startI (cc := cFB_countStarts) (maxL := 3) (by decide) rfl (Nat.le_of_ble_eq_true rfl) ?_
  intro p e s m args below meth c Q A ls hx hb hml hts hown hK hP hD hS hA hZ hl hret
  replace hl : lv_has ls 3 [(0, .ref (ad 1))] := hl
  unfold fFB_countStarts at hf
  suffices J0 : ∀ (ls : Array Slot) (H : Heap) (locs : List Loc), lv_has ls 3 [(0, .ref (ad 1))] → va_P (dC, dI) vwCl (wFB_countStarts ad cI v_FB_count v_FB_chosenLength v_aBytes) H → va_D A (wFB_countStarts ad cI v_FB_count v_FB_chosenLength v_aBytes) → va_S A s.heap H locs → W p l e rmFB_countStarts s m args below meth c H locs 0 0 Q (F0 m 0 ls []) by exact J0 ls s.heap [] hl hP hD hS
  clear hP hD hS hl
  intro ls H locs hl hP hD hS
  refine lv_iconst (v := (0 : Int32)) hx hb dFB_countStarts_0 (by decide) ?_
  refine lv_istore_n (lv' := [(1, .int (0 : Int32)), (0, .ref (ad 1))]) hx hb dFB_countStarts_1 rfl hl (by decide) rfl (fun ls hl => ?_)
  refine lv_iconst (v := (0 : Int32)) hx hb dFB_countStarts_2 (by decide) ?_
  refine lv_istore_n (lv' := [(2, .int (0 : Int32)), (1, .int (0 : Int32)), (0, .ref (ad 1))]) hx hb dFB_countStarts_3 rfl hl (by decide) rfl (fun ls hl => ?_)
  replace hl := lv_sub hl (l' := [(0, .ref (ad 1)), (1, .int (0 : Int32)), (2, .int (0 : Int32))]) [2, 1, 0] rfl
  obtain ⟨x3, x4, hL, hf⟩ := ip_b2_e hf
  suffices J29 : ∀ (ls : Array Slot) (H : Heap) (locs : List Loc), lv_has ls 3 [(1, .int x3)] → va_P (dC, dI) vwCl (wFB_countStarts ad cI v_FB_count v_FB_chosenLength v_aBytes) H → va_D A (wFB_countStarts ad cI v_FB_count v_FB_chosenLength v_aBytes) → va_S A s.heap H locs → W p l e rmFB_countStarts s m args below meth c H locs 0 0 Q (F0 m 29 ls []) by
    have L : ∀ (n : Nat) (z1 : Int32) (z2 : Int32), ip_lp2 (fFB_countStarts_B4 v_FB_count v_FB_chosenLength v_aBytes) n z1 z2 = some (x3, x4) → ∀ (ls : Array Slot) (H : Heap) (locs : List Loc), lv_has ls 3 [(0, .ref (ad 1)), (1, .int z1), (2, .int z2)] → va_P (dC, dI) vwCl (wFB_countStarts ad cI v_FB_count v_FB_chosenLength v_aBytes) H → va_D A (wFB_countStarts ad cI v_FB_count v_FB_chosenLength v_aBytes) → va_S A s.heap H locs → W p l e rmFB_countStarts s m args below meth c H locs 0 0 Q (F0 m 4 ls []) := by
      intro n
      induction n with
      | zero => intro z1 z2 hL; exact (ip_lp2_0 hL).elim
      | succ n ih =>
        intro z1 z2 hL ls H locs hl hP hD hS
        clear hf
        obtain ⟨r9, hf, hr4⟩ := ip_lp2_s hL
        clear hL
        unfold fFB_countStarts_B4 at hf
        refine lv_iload_n hx hb dFB_countStarts_4 rfl (lv_at hl 2 rfl) ?_
        refine lv_aload_n hx hb dFB_countStarts_5 rfl (lv_at hl 0 rfl) ?_
        refine va_get (D := (dC, dI)) (ci := 1) (v := .int v_FB_count) (C := kR_FB) (T := kT_FB) (N := 4) hx hb hts kin_FB hown hK hP 0 rfl rfl 2 (by decide) (hts _ (List.mem_cons_of_mem _ kw1_35)) (fun _ h9 => h9) rfl dFB_countStarts_6 ?_
        refine ip_icmp_ge (tgt := 29) hx hb dFB_countStarts_9 rfl hf (fun hf => ?_) (fun hf => ?_)
        · have hx9 := ip_lp_x hr4 hf
          replace hl := lv_sub hl (l' := [(1, .int z1)]) [1] rfl
          cases hx9
          exact J29 ls H locs hl hP hD hS
        · refine lv_aload_n hx hb dFB_countStarts_12 rfl (lv_at hl 0 rfl) ?_
          refine lv_iload_n hx hb dFB_countStarts_13 rfl (lv_at hl 2 rfl) ?_
          obtain ⟨z5, hc, hf⟩ := ip_b1_e hf
          refine ip_calli (va_runV (As := [.int z2]) (rest := []) ⟨hx, hb, hml, hown, hts⟩ (tFB_startsAt (l := l) (dC := dC) (dI := dI) (ad := ad) (cI := cI) (ts := ts) hc H.size) (cwV 1 hts (ip_gdV (own := kR_FB) (idx := 22) (C := kR_FB) (y := yFB_startsAt) kw2_99 kw2_101 kws_0 kw1_2 kw2_102) rfl rfl rfl (by decide +kernel) ⟨Nat.le_of_ble_eq_true rfl, Nat.le_of_ble_eq_true rfl⟩) (ip_preV hK hP hD hS hA hZ [0, 1] rfl rfl (ci := 1) (q0 := 0) rfl rfl) rfl rfl hl.1 rfl (lv_room (Nat.le_of_ble_eq_true rfl)) dFB_countStarts_14 ⟨Nat.le_of_ble_eq_true rfl, Nat.le_of_ble_eq_true rfl⟩) hP hD hS hA [0, 1] [] [0, 1] (wFB_countStarts ad cI v_FB_count v_FB_chosenLength v_aBytes) rfl rfl rfl (by decide) rfl rfl (fun H locs hP hD hS => ?_)
          clear hc
          obtain ⟨z6, hh, hf⟩ := ip_b1_e hf
          suffices J23 : ∀ (ls : Array Slot) (H : Heap) (locs : List Loc), lv_has ls 3 [(0, .ref (ad 1)), (1, .int z6), (2, .int z2)] → va_P (dC, dI) vwCl (wFB_countStarts ad cI v_FB_count v_FB_chosenLength v_aBytes) H → va_D A (wFB_countStarts ad cI v_FB_count v_FB_chosenLength v_aBytes) → va_S A s.heap H locs → W p l e rmFB_countStarts s m args below meth c H locs 0 0 Q (F0 m 23 ls []) by
            replace hf := hh
            refine ip_if_eq (tgt := 23) hx hb dFB_countStarts_17 rfl hf (fun hf => ?_) (fun hf => ?_)
            · cases hf
              exact J23 ls H locs hl hP hD hS
            · refine ip_iinc (k0 := 1) (v0 := (1 : Int32)) (lv1 := fun z7 => [(1, .int z7), (0, .ref (ad 1)), (2, .int z2)]) hx hb dFB_countStarts_20 hl rfl (by decide) (by decide) (fun _ => rfl) hf (fun z7 ls hf hl => ?_)
              replace hl := lv_sub hl (l' := [(0, .ref (ad 1)), (1, .int z7), (2, .int z2)]) [1, 0, 2] rfl
              cases hf
              exact J23 ls H locs hl hP hD hS
          intro ls H locs hl hP hD hS
          clear hh
          refine ip_iinc (k0 := 2) (v0 := (1 : Int32)) (lv1 := fun z8 => [(2, .int z8), (0, .ref (ad 1)), (1, .int z6)]) hx hb dFB_countStarts_23 hl rfl (by decide) (by decide) (fun _ => rfl) hf (fun z8 ls hf hl => ?_)
          refine lv_goto (tgt := 4) hx hb dFB_countStarts_26 rfl ?_
          replace hl := lv_sub hl (l' := [(0, .ref (ad 1)), (1, .int z6), (2, .int z8)]) [1, 2, 0] rfl
          exact ih _ _ (ip_lp2_l hr4 hf) ls H locs hl hP hD hS
    exact L 1000 _ _ hL ls H locs hl hP hD hS
  intro ls H locs hl hP hD hS
  clear hL
  refine lv_iload_n hx hb dFB_countStarts_29 rfl (lv_at hl 0 rfl) ?_
  cases hf
  exact hret H locs 30 ls _ dFB_countStarts_30 rfl hP hD hS
set_option maxHeartbeats 4000000 in
set_option maxRecDepth 100000 in
theorem tIP_units {l : Launch} {dC : Nat → ClassId} {dI : Nat → Nat → Nat} {cI : ClassId} {ad : Nat → Nat} {ts : ip_TT} {v_IP_pictureStands : Int32} {v_FB_count : Int32} {v_FB_chosenLength : Int32} {v_aBytes : Nat → Int32}  {r0 : Int32}  (hf : fIP_units v_IP_pictureStands v_FB_count v_FB_chosenLength v_aBytes = some r0) : ip_Mi l yIP_units wsIP_units rmIP_units (dC, dI) vwCl [(cI, .int)] ts [.ref (ad 0)] (wIP_units ad cI v_IP_pictureStands v_FB_count v_FB_chosenLength v_aBytes) (wIP_units ad cI v_IP_pictureStands v_FB_count v_FB_chosenLength v_aBytes) r0 := by
  refine ip_startI (cc := cIP_units) (maxL := 1) (by decide) rfl (Nat.le_of_ble_eq_true rfl) ?_
  intro p e s m args below meth c Q A ls hx hb hml hts hown hK hP hD hS hA hZ hl hret
  replace hl : lv_has ls 1 [(0, .ref (ad 0))] := hl
  unfold fIP_units at hf
  suffices J0 : ∀ (ls : Array Slot) (H : Heap) (locs : List Loc), lv_has ls 1 [(0, .ref (ad 0))] → va_P (dC, dI) vwCl (wIP_units ad cI v_IP_pictureStands v_FB_count v_FB_chosenLength v_aBytes) H → va_D A (wIP_units ad cI v_IP_pictureStands v_FB_count v_FB_chosenLength v_aBytes) → va_S A s.heap H locs → W p l e rmIP_units s m args below meth c H locs 0 0 Q (F0 m 0 ls []) by exact J0 ls s.heap [] hl hP hD hS
  clear hP hD hS hl
  intro ls H locs hl hP hD hS
  refine lv_aload_n hx hb dIP_units_0 rfl (lv_at hl 0 rfl) ?_
  refine va_get (D := (dC, dI)) (ci := 0) (v := .ref (ad 1)) (C := kR_IP) (T := kT_IP) (N := 7) hx hb hts kin_IP hown hK hP 0 rfl rfl 0 (by decide) (hts _ (List.mem_cons_of_mem _ kw2_57)) (fun _ h9 => h9) rfl dIP_units_1 ?_
  obtain ⟨z1, hc, hf⟩ := ip_b1_e hf
  refine ip_calli (va_runV (As := []) (rest := []) ⟨hx, hb, hml, hown, hts⟩ (tFB_countStarts (l := l) (dC := dC) (dI := dI) (ad := ad) (cI := cI) (ts := ts) hc H.size) (cwV 0 hts (ip_gdV (own := kR_IP) (idx := 79) (C := kR_FB) (y := yFB_countStarts) kw2_95 kw2_96 kw2_97 kw1_2 kw2_98) rfl rfl rfl (by decide +kernel) ⟨Nat.le_of_ble_eq_true rfl, Nat.le_of_ble_eq_true rfl⟩) (ip_preV hK hP hD hS hA hZ [1, 2] rfl rfl (ci := 1) (q0 := 1) rfl rfl) rfl rfl hl.1 rfl (lv_room (Nat.le_of_ble_eq_true rfl)) dIP_units_4 ⟨Nat.le_of_ble_eq_true rfl, Nat.le_of_ble_eq_true rfl⟩) hP hD hS hA [1, 2] [0] [0, 1, 2] (wIP_units ad cI v_IP_pictureStands v_FB_count v_FB_chosenLength v_aBytes) rfl rfl rfl (by decide) rfl rfl (fun H locs hP hD hS => ?_)
  clear hc
  cases hf
  exact hret H locs 7 ls _ dIP_units_7 rfl hP hD hS
set_option maxHeartbeats 4000000 in
set_option maxRecDepth 100000 in
theorem tFB_firstByteOf {l : Launch} {dC : Nat → ClassId} {dI : Nat → Nat → Nat} {cI : ClassId} {ad : Nat → Nat} {ts : ip_TT} {v_FB_count : Int32} {v_FB_chosenLength : Int32} {v_aBytes : Nat → Int32} {p1 : Int32} {r0 : Int32}  (hf : fFB_firstByteOf v_FB_count v_FB_chosenLength v_aBytes p1 = some r0) : ip_Mi l yFB_firstByteOf wsFB_firstByteOf rmFB_firstByteOf (dC, dI) vwCl [(cI, .int)] ts [.ref (ad 1), .int p1] (wFB_firstByteOf ad cI v_FB_count v_FB_chosenLength v_aBytes) (wFB_firstByteOf ad cI v_FB_count v_FB_chosenLength v_aBytes) r0 := by
  refine ip_startI (cc := cFB_firstByteOf) (maxL := 4) (by decide) rfl (Nat.le_of_ble_eq_true rfl) ?_
  intro p e s m args below meth c Q A ls hx hb hml hts hown hK hP hD hS hA hZ hl hret
  replace hl : lv_has ls 4 [(0, .ref (ad 1)), (1, .int p1)] := hl
  unfold fFB_firstByteOf at hf
  suffices J0 : ∀ (ls : Array Slot) (H : Heap) (locs : List Loc), lv_has ls 4 [(0, .ref (ad 1)), (1, .int p1)] → va_P (dC, dI) vwCl (wFB_firstByteOf ad cI v_FB_count v_FB_chosenLength v_aBytes) H → va_D A (wFB_firstByteOf ad cI v_FB_count v_FB_chosenLength v_aBytes) → va_S A s.heap H locs → W p l e rmFB_firstByteOf s m args below meth c H locs 0 0 Q (F0 m 0 ls []) by exact J0 ls s.heap [] hl hP hD hS
  clear hP hD hS hl
  intro ls H locs hl hP hD hS
  refine lv_iconst (v := (0 : Int32)) hx hb dFB_firstByteOf_0 (by decide) ?_
  refine lv_istore_n (lv' := [(2, .int (0 : Int32)), (0, .ref (ad 1)), (1, .int p1)]) hx hb dFB_firstByteOf_1 rfl hl (by decide) rfl (fun ls hl => ?_)
  refine lv_iconst (v := (0 : Int32)) hx hb dFB_firstByteOf_2 (by decide) ?_
  refine lv_istore_n (lv' := [(3, .int (0 : Int32)), (2, .int (0 : Int32)), (0, .ref (ad 1)), (1, .int p1)]) hx hb dFB_firstByteOf_3 rfl hl (by decide) rfl (fun ls hl => ?_)
  replace hl := lv_sub hl (l' := [(0, .ref (ad 1)), (1, .int p1), (2, .int (0 : Int32)), (3, .int (0 : Int32))]) [2, 3, 1, 0] rfl
  obtain ⟨X4, hL, hf⟩ := ip_b1_e hf
  have hfo4 := hf
  suffices J38 : ∀ (x3 : Int32) (x4 : Int32), X4 = .inl (x3, x4) → ∀ (ls : Array Slot) (H : Heap) (locs : List Loc), lv_has ls 4 [] → va_P (dC, dI) vwCl (wFB_firstByteOf ad cI v_FB_count v_FB_chosenLength v_aBytes) H → va_D A (wFB_firstByteOf ad cI v_FB_count v_FB_chosenLength v_aBytes) → va_S A s.heap H locs → W p l e rmFB_firstByteOf s m args below meth c H locs 0 0 Q (F0 m 38 ls []) by
    have L : ∀ (n : Nat) (z1 : Int32) (z2 : Int32), ip_lp2 (fFB_firstByteOf_B4 v_FB_count v_FB_chosenLength v_aBytes p1) n z1 z2 = some X4 → ∀ (ls : Array Slot) (H : Heap) (locs : List Loc), lv_has ls 4 [(0, .ref (ad 1)), (1, .int p1), (2, .int z1), (3, .int z2)] → va_P (dC, dI) vwCl (wFB_firstByteOf ad cI v_FB_count v_FB_chosenLength v_aBytes) H → va_D A (wFB_firstByteOf ad cI v_FB_count v_FB_chosenLength v_aBytes) → va_S A s.heap H locs → W p l e rmFB_firstByteOf s m args below meth c H locs 0 0 Q (F0 m 4 ls []) := by
      intro n
      induction n with
      | zero => intro z1 z2 hL; exact (ip_lp2_0 hL).elim
      | succ n ih =>
        intro z1 z2 hL ls H locs hl hP hD hS
        clear hf
        obtain ⟨r9, hf, hr4⟩ := ip_lp2_s hL
        clear hL
        unfold fFB_firstByteOf_B4 at hf
        refine lv_iload_n hx hb dFB_firstByteOf_4 rfl (lv_at hl 3 rfl) ?_
        refine lv_aload_n hx hb dFB_firstByteOf_5 rfl (lv_at hl 0 rfl) ?_
        refine va_get (D := (dC, dI)) (ci := 1) (v := .int v_FB_count) (C := kR_FB) (T := kT_FB) (N := 4) hx hb hts kin_FB hown hK hP 0 rfl rfl 2 (by decide) (hts _ (List.mem_cons_of_mem _ kw1_35)) (fun _ h9 => h9) rfl dFB_firstByteOf_6 ?_
        refine ip_icmp_ge (tgt := 38) hx hb dFB_firstByteOf_9 rfl hf (fun hf => ?_) (fun hf => ?_)
        · have hx9 := ip_lp_x hr4 hf
          replace hl := lv_sub hl (l' := []) [] rfl
          exact J38 _ _ hx9.symm ls H locs hl hP hD hS
        · refine lv_aload_n hx hb dFB_firstByteOf_12 rfl (lv_at hl 0 rfl) ?_
          refine lv_iload_n hx hb dFB_firstByteOf_13 rfl (lv_at hl 3 rfl) ?_
          obtain ⟨z5, hc, hf⟩ := ip_b1_e hf
          refine ip_calli (va_runV (As := [.int z2]) (rest := []) ⟨hx, hb, hml, hown, hts⟩ (tFB_startsAt (l := l) (dC := dC) (dI := dI) (ad := ad) (cI := cI) (ts := ts) hc H.size) (cwV 1 hts (ip_gdV (own := kR_FB) (idx := 22) (C := kR_FB) (y := yFB_startsAt) kw2_99 kw2_101 kws_0 kw1_2 kw2_102) rfl rfl rfl (by decide +kernel) ⟨Nat.le_of_ble_eq_true rfl, Nat.le_of_ble_eq_true rfl⟩) (ip_preV hK hP hD hS hA hZ [0, 1] rfl rfl (ci := 1) (q0 := 0) rfl rfl) rfl rfl hl.1 rfl (lv_room (Nat.le_of_ble_eq_true rfl)) dFB_firstByteOf_14 ⟨Nat.le_of_ble_eq_true rfl, Nat.le_of_ble_eq_true rfl⟩) hP hD hS hA [0, 1] [] [0, 1] (wFB_firstByteOf ad cI v_FB_count v_FB_chosenLength v_aBytes) rfl rfl rfl (by decide) rfl rfl (fun H locs hP hD hS => ?_)
          clear hc
          refine ip_if_eq (tgt := 32) hx hb dFB_firstByteOf_17 rfl hf (fun hf => ?_) (fun hf => ?_)
          · refine ip_iinc (k0 := 3) (v0 := (1 : Int32)) (lv1 := fun z6 => [(3, .int z6), (0, .ref (ad 1)), (1, .int p1), (2, .int z1)]) hx hb dFB_firstByteOf_32 hl rfl (by decide) (by decide) (fun _ => rfl) hf (fun z6 ls hf hl => ?_)
            refine lv_goto (tgt := 4) hx hb dFB_firstByteOf_35 rfl ?_
            replace hl := lv_sub hl (l' := [(0, .ref (ad 1)), (1, .int p1), (2, .int z1), (3, .int z6)]) [1, 2, 3, 0] rfl
            exact ih _ _ (ip_lp2_l hr4 hf) ls H locs hl hP hD hS
          · refine lv_iload_n hx hb dFB_firstByteOf_20 rfl (lv_at hl 2 rfl) ?_
            refine lv_iload_n hx hb dFB_firstByteOf_21 rfl (lv_at hl 1 rfl) ?_
            refine ip_icmp_ne (tgt := 29) hx hb dFB_firstByteOf_22 rfl hf (fun hf => ?_) (fun hf => ?_)
            · refine ip_iinc (k0 := 2) (v0 := (1 : Int32)) (lv1 := fun z7 => [(2, .int z7), (0, .ref (ad 1)), (1, .int p1), (3, .int z2)]) hx hb dFB_firstByteOf_29 hl rfl (by decide) (by decide) (fun _ => rfl) hf (fun z7 ls hf hl => ?_)
              refine ip_iinc (k0 := 3) (v0 := (1 : Int32)) (lv1 := fun z8 => [(3, .int z8), (2, .int z7), (0, .ref (ad 1)), (1, .int p1)]) hx hb dFB_firstByteOf_32 hl rfl (by decide) (by decide) (fun _ => rfl) hf (fun z8 ls hf hl => ?_)
              refine lv_goto (tgt := 4) hx hb dFB_firstByteOf_35 rfl ?_
              replace hl := lv_sub hl (l' := [(0, .ref (ad 1)), (1, .int p1), (2, .int z7), (3, .int z8)]) [2, 3, 1, 0] rfl
              exact ih _ _ (ip_lp2_l hr4 hf) ls H locs hl hP hD hS
            · refine lv_iload_n hx hb dFB_firstByteOf_25 rfl (lv_at hl 3 rfl) ?_
              refine lv_iconst (v := (3 : Int32)) hx hb dFB_firstByteOf_26 (by decide) ?_
              refine lv_iadd hx hb dFB_firstByteOf_27 ?_
              replace hf := ip_cs2_r (ip_lp_x hr4 hf) hfo4
              cases hf
              exact hret H locs 28 ls _ dFB_firstByteOf_28 rfl hP hD hS
    exact L 1000 _ _ hL ls H locs hl hP hD hS
  intro x3 x4 hX9 ls H locs hl hP hD hS
  replace hf := ip_cs2_l hX9 hf
  clear hL hfo4
  refine lv_iconst (v := (-1 : Int32)) hx hb dFB_firstByteOf_38 (by decide) ?_
  cases hf
  exact hret H locs 39 ls _ dFB_firstByteOf_39 rfl hP hD hS
set_option maxHeartbeats 4000000 in
set_option maxRecDepth 100000 in
theorem tFB_choose {l : Launch} {dC : Nat → ClassId} {dI : Nat → Nat → Nat} {cI : ClassId} {ad : Nat → Nat} {ts : ip_TT} {v_FB_count : Int32} {v_FB_chosenLength : Int32} {v_aBytes : Nat → Int32} {v_aChosen : Nat → Int32} {p1 : Int32} {r0 : Int32} {nv_FB_chosenLength : Int32} {nv_aChosen : Nat → Int32} (hf : fFB_choose v_FB_count v_FB_chosenLength v_aBytes v_aChosen p1 = some (r0, nv_FB_chosenLength, nv_aChosen)) : ip_Mi l yFB_choose wsFB_choose rmFB_choose (dC, dI) vwCl [(cI, .int)] ts [.ref (ad 1), .int p1] (wFB_choose ad cI v_FB_count v_FB_chosenLength v_aBytes v_aChosen) (wFB_choose ad cI v_FB_count nv_FB_chosenLength v_aBytes nv_aChosen) r0 := by
  refine ip_startZ (cc := cFB_choose) (maxL := 5) (by decide) rfl (Nat.le_of_ble_eq_true rfl) ?_
  intro p e s m args below meth c Q A ls hx hb hml hts hown hK hP hD hS hA hZ hl hret
  replace hl : lv_has ls 5 [(0, .ref (ad 1)), (1, .int p1)] := hl
  unfold fFB_choose at hf
  suffices J0 : ∀ (ls : Array Slot) (H : Heap) (locs : List Loc), lv_has ls 5 [(0, .ref (ad 1)), (1, .int p1)] → va_P (dC, dI) vwCl (wFB_choose ad cI v_FB_count v_FB_chosenLength v_aBytes v_aChosen) H → va_D A (wFB_choose ad cI v_FB_count v_FB_chosenLength v_aBytes v_aChosen) → va_S A s.heap H locs → W p l e rmFB_choose s m args below meth c H locs 0 0 Q (F0 m 0 ls []) by exact J0 ls s.heap [] hl hP hD hS
  clear hP hD hS hl
  intro ls H locs hl hP hD hS
  refine lv_aload_n hx hb dFB_choose_0 rfl (lv_at hl 0 rfl) ?_
  refine lv_iload_n hx hb dFB_choose_1 rfl (lv_at hl 1 rfl) ?_
  obtain ⟨z1, hc, hf⟩ := ip_b1_e hf
  refine ip_calli (va_runV (As := [.int p1]) (rest := []) ⟨hx, hb, hml, hown, hts⟩ (tFB_firstByteOf (l := l) (dC := dC) (dI := dI) (ad := ad) (cI := cI) (ts := ts) hc H.size) (cwV 1 hts (ip_gdV (own := kR_FB) (idx := 26) (C := kR_FB) (y := yFB_firstByteOf) kw2_111 kw2_113 kws_1 kw1_2 kw2_114) rfl rfl rfl (by decide +kernel) ⟨Nat.le_of_ble_eq_true rfl, Nat.le_of_ble_eq_true rfl⟩) (ip_preV hK hP hD hS hA hZ [0, 1] rfl rfl (ci := 1) (q0 := 0) rfl rfl) rfl rfl hl.1 rfl (lv_room (Nat.le_of_ble_eq_true rfl)) dFB_choose_2 ⟨Nat.le_of_ble_eq_true rfl, Nat.le_of_ble_eq_true rfl⟩) hP hD hS hA [0, 1] [2] [1, 2, 0] (wFB_choose ad cI v_FB_count v_FB_chosenLength v_aBytes v_aChosen) rfl rfl rfl (by decide) rfl rfl (fun H locs hP hD hS => ?_)
  clear hc
  refine lv_istore_n (lv' := [(2, .int z1), (0, .ref (ad 1)), (1, .int p1)]) hx hb dFB_choose_5 rfl hl (by decide) rfl (fun ls hl => ?_)
  refine lv_aload_n hx hb dFB_choose_6 rfl (lv_at hl 1 rfl) ?_
  refine lv_iconst (v := (0 : Int32)) hx hb dFB_choose_7 (by decide) ?_
  refine va_put (D := (dC, dI)) (ci := 1) (v := .int (0 : Int32)) (ty := .int) (C := kR_FB) (T := kT_FB) (N := 4) hx hb hts kin_FB kty_FB kto_FB knm_FB hown hK hP hD hS 0 rfl rfl 3 (by decide) (hts _ (List.mem_cons_of_mem _ kw1_38)) (fun _ h9 => h9) rfl (by decide +kernel) rfl rfl (Nat.le_of_ble_eq_true rfl) dFB_choose_8 (fun H locs hP hD hS => ?_)
  replace hP : va_P (dC, dI) vwCl (wFB_choose ad cI v_FB_count (0 : Int32) v_aBytes v_aChosen) H := hP
  replace hD : va_D A (wFB_choose ad cI v_FB_count (0 : Int32) v_aBytes v_aChosen) := hD
  refine lv_iload_n hx hb dFB_choose_11 rfl (lv_at hl 0 rfl) ?_
  refine ip_if_ge (tgt := 17) hx hb dFB_choose_12 rfl hf (fun hf => ?_) (fun hf => ?_)
  · refine lv_iconst (v := (0 : Int32)) hx hb dFB_choose_17 (by decide) ?_
    refine lv_istore_n (lv' := [(3, .int (0 : Int32)), (2, .int z1), (0, .ref (ad 1)), (1, .int p1)]) hx hb dFB_choose_18 rfl hl (by decide) rfl (fun ls hl => ?_)
    refine lv_iload_n hx hb dFB_choose_19 rfl (lv_at hl 1 rfl) ?_
    refine lv_istore (lv' := [(4, .int z1), (3, .int (0 : Int32)), (2, .int z1), (0, .ref (ad 1)), (1, .int p1)]) hx hb dFB_choose_20 hl (by decide) rfl (fun ls hl => ?_)
    replace hl := lv_sub hl (l' := [(0, .ref (ad 1)), (3, .int (0 : Int32)), (4, .int z1)]) [3, 1, 0] rfl
    obtain ⟨x6, x7, x8, y9, hL, hf⟩ := ip_b4_e hf
    suffices J111 : ∀ (ls : Array Slot) (H : Heap) (locs : List Loc), lv_has ls 5 [] → va_P (dC, dI) vwCl (wFB_choose ad cI v_FB_count x8 v_aBytes y9) H → va_D A (wFB_choose ad cI v_FB_count x8 v_aBytes y9) → va_S A s.heap H locs → W p l e rmFB_choose s m args below meth c H locs 0 0 Q (F0 m 111 ls []) by
      have L : ∀ (n : Nat) (z2 : Int32) (z3 : Int32) (z4 : Int32) (g5 : Nat → Int32), ip_lp4 (fFB_choose_B22 v_FB_count v_aBytes) n z2 z3 z4 g5 = some (x6, x7, x8, y9) → ∀ (ls : Array Slot) (H : Heap) (locs : List Loc), lv_has ls 5 [(0, .ref (ad 1)), (3, .int z2), (4, .int z3)] → va_P (dC, dI) vwCl (wFB_choose ad cI v_FB_count z4 v_aBytes g5) H → va_D A (wFB_choose ad cI v_FB_count z4 v_aBytes g5) → va_S A s.heap H locs → W p l e rmFB_choose s m args below meth c H locs 0 0 Q (F0 m 22 ls []) := by
        intro n
        induction n with
        | zero => intro z2 z3 z4 g5 hL; exact (ip_lp4_0 hL).elim
        | succ n ih =>
          intro z2 z3 z4 g5 hL ls H locs hl hP hD hS
          clear hf
          obtain ⟨r9, hf, hr22⟩ := ip_lp4_s hL
          clear hL
          unfold fFB_choose_B22 at hf
          refine lv_iload hx hb dFB_choose_22 (lv_at hl 2 rfl) ?_
          refine lv_aload_n hx hb dFB_choose_24 rfl (lv_at hl 0 rfl) ?_
          refine va_get (D := (dC, dI)) (ci := 1) (v := .int v_FB_count) (C := kR_FB) (T := kT_FB) (N := 4) hx hb hts kin_FB hown hK hP 0 rfl rfl 2 (by decide) (hts _ (List.mem_cons_of_mem _ kw1_35)) (fun _ h9 => h9) rfl dFB_choose_25 ?_
          refine ip_icmp_ge (tgt := 111) hx hb dFB_choose_28 rfl hf (fun hf => ?_) (fun hf => ?_)
          · have hx9 := ip_lp_x hr22 hf
            replace hl := lv_sub hl (l' := []) [] rfl
            cases hx9
            exact J111 ls H locs hl hP hD hS
          · refine lv_aload_n hx hb dFB_choose_31 rfl (lv_at hl 0 rfl) ?_
            refine lv_iload hx hb dFB_choose_32 (lv_at hl 2 rfl) ?_
            obtain ⟨z10, hc, hf⟩ := ip_b1_e hf
            refine ip_calli (va_runV (As := [.int z3]) (rest := []) ⟨hx, hb, hml, hown, hts⟩ (tFB_startsAt (l := l) (dC := dC) (dI := dI) (ad := ad) (cI := cI) (ts := ts) hc H.size) (cwV 1 hts (ip_gdV (own := kR_FB) (idx := 22) (C := kR_FB) (y := yFB_startsAt) kw2_99 kw2_101 kws_0 kw1_2 kw2_102) rfl rfl rfl (by decide +kernel) ⟨Nat.le_of_ble_eq_true rfl, Nat.le_of_ble_eq_true rfl⟩) (ip_preV hK hP hD hS hA hZ [0, 1] rfl rfl (ci := 1) (q0 := 0) rfl rfl) rfl rfl hl.1 rfl (lv_room (Nat.le_of_ble_eq_true rfl)) dFB_choose_34 ⟨Nat.le_of_ble_eq_true rfl, Nat.le_of_ble_eq_true rfl⟩) hP hD hS hA [0, 1] [2] [1, 2, 0] (wFB_choose ad cI v_FB_count z4 v_aBytes g5) rfl rfl rfl (by decide) rfl rfl (fun H locs hP hD hS => ?_)
            clear hc
            refine ip_if_ne (tgt := 111) hx hb dFB_choose_37 rfl hf (fun hf => ?_) (fun hf => ?_)
            · have hx9 := ip_lp_x hr22 hf
              replace hl := lv_sub hl (l' := []) [] rfl
              cases hx9
              exact J111 ls H locs hl hP hD hS
            · refine lv_iload_n hx hb dFB_choose_40 rfl (lv_at hl 1 rfl) ?_
              refine lv_iconst (v := (2 : Int32)) hx hb dFB_choose_41 (by decide) ?_
              obtain ⟨z11, z12, g13, hh, hf⟩ := ip_b3_e hf
              suffices J105 : ∀ (ls : Array Slot) (H : Heap) (locs : List Loc), lv_has ls 5 [(0, .ref (ad 1)), (3, .int z11), (4, .int z3)] → va_P (dC, dI) vwCl (wFB_choose ad cI v_FB_count z12 v_aBytes g13) H → va_D A (wFB_choose ad cI v_FB_count z12 v_aBytes g13) → va_S A s.heap H locs → W p l e rmFB_choose s m args below meth c H locs 0 0 Q (F0 m 105 ls []) by
                replace hf := hh
                refine ip_icmp_lt (tgt := 61) hx hb dFB_choose_42 rfl hf (fun hf => ?_) (fun hf => ?_)
                · refine lv_aload_n hx hb dFB_choose_61 rfl (lv_at hl 0 rfl) ?_
                  refine va_get (D := (dC, dI)) (ci := 1) (v := .ref (ad 13)) (C := kR_FB) (T := kT_FB) (N := 4) hx hb hts kin_FB hown hK hP 0 rfl rfl 1 (by decide) (hts _ (List.mem_cons_of_mem _ kw1_33)) (fun _ h9 => h9) rfl dFB_choose_62 ?_
                  refine lv_aload_n hx hb dFB_choose_65 rfl (lv_at hl 0 rfl) ?_
                  refine va_get (D := (dC, dI)) (ci := 1) (v := .int z4) (C := kR_FB) (T := kT_FB) (N := 4) hx hb hts kin_FB hown hK hP 0 rfl rfl 3 (by decide) (hts _ (List.mem_cons_of_mem _ kw1_38)) (fun _ h9 => h9) rfl dFB_choose_66 ?_
                  refine lv_aload_n hx hb dFB_choose_69 rfl (lv_at hl 0 rfl) ?_
                  refine va_get (D := (dC, dI)) (ci := 1) (v := .ref (ad 12)) (C := kR_FB) (T := kT_FB) (N := 4) hx hb hts kin_FB hown hK hP 0 rfl rfl 0 (by decide) (hts _ (List.mem_cons_of_mem _ kw1_32)) (fun _ h9 => h9) rfl dFB_choose_70 ?_
                  refine lv_iload hx hb dFB_choose_73 (lv_at hl 2 rfl) ?_
                  refine ip_iald hx hb hK hP 1 0 rfl rfl dFB_choose_75 hf (fun z14 hf => ?_)
                  refine ip_iast hx hb hK hP hD hS 2 0 rfl rfl (fun g15 => (wFB_choose ad cI v_FB_count z4 v_aBytes g15)) (fun _ => rfl) dFB_choose_76 hf (fun g15 H locs hf hP hD hS => ?_)
                  refine lv_aload_n hx hb dFB_choose_77 rfl (lv_at hl 0 rfl) ?_
                  refine lv_dup hx hb dFB_choose_78 rfl ?_
                  refine va_get (D := (dC, dI)) (ci := 1) (v := .int z4) (C := kR_FB) (T := kT_FB) (N := 4) hx hb hts kin_FB hown hK hP 0 rfl rfl 3 (by decide) (hts _ (List.mem_cons_of_mem _ kw1_38)) (fun _ h9 => h9) rfl dFB_choose_79 ?_
                  refine lv_iconst (v := (1 : Int32)) hx hb dFB_choose_82 (by decide) ?_
                  refine lv_iadd hx hb dFB_choose_83 ?_
                  refine ip_top hf (fun z16 hf => ?_)
                  refine va_put (D := (dC, dI)) (ci := 1) (v := .int z16) (ty := .int) (C := kR_FB) (T := kT_FB) (N := 4) hx hb hts kin_FB kty_FB kto_FB knm_FB hown hK hP hD hS 0 rfl rfl 3 (by decide) (hts _ (List.mem_cons_of_mem _ kw1_38)) (fun _ h9 => h9) rfl (by decide +kernel) rfl rfl (Nat.le_of_ble_eq_true rfl) dFB_choose_84 (fun H locs hP hD hS => ?_)
                  replace hP : va_P (dC, dI) vwCl (wFB_choose ad cI v_FB_count z16 v_aBytes g15) H := hP
                  replace hD : va_D A (wFB_choose ad cI v_FB_count z16 v_aBytes g15) := hD
                  refine lv_aload_n hx hb dFB_choose_87 rfl (lv_at hl 0 rfl) ?_
                  refine va_get (D := (dC, dI)) (ci := 1) (v := .ref (ad 12)) (C := kR_FB) (T := kT_FB) (N := 4) hx hb hts kin_FB hown hK hP 0 rfl rfl 0 (by decide) (hts _ (List.mem_cons_of_mem _ kw1_32)) (fun _ h9 => h9) rfl dFB_choose_88 ?_
                  refine lv_iload hx hb dFB_choose_91 (lv_at hl 2 rfl) ?_
                  refine ip_iald hx hb hK hP 1 0 rfl rfl dFB_choose_93 hf (fun z17 hf => ?_)
                  obtain ⟨z18, hh, hf⟩ := ip_b1_e hf
                  suffices J104 : ∀ (ls : Array Slot) (H : Heap) (locs : List Loc), lv_has ls 5 [(0, .ref (ad 1)), (4, .int z3)] → va_P (dC, dI) vwCl (wFB_choose ad cI v_FB_count z16 v_aBytes g15) H → va_D A (wFB_choose ad cI v_FB_count z16 v_aBytes g15) → va_S A s.heap H locs → W p l e rmFB_choose s m args below meth c H locs 0 0 Q (F0 m 104 ls [.int z18]) by
                    replace hf := hh
                    refine ip_if_ne (tgt := 103) hx hb dFB_choose_94 rfl hf (fun hf => ?_) (fun hf => ?_)
                    · refine lv_iconst (v := (0 : Int32)) hx hb dFB_choose_103 (by decide) ?_
                      replace hl := lv_sub hl (l' := [(0, .ref (ad 1)), (4, .int z3)]) [0, 2] rfl
                      cases hf
                      exact J104 ls H locs hl hP hD hS
                    · refine lv_iload_n hx hb dFB_choose_97 rfl (lv_at hl 1 rfl) ?_
                      refine lv_iconst (v := (1 : Int32)) hx hb dFB_choose_98 (by decide) ?_
                      refine lv_iadd hx hb dFB_choose_99 ?_
                      refine lv_goto (tgt := 104) hx hb dFB_choose_100 rfl ?_
                      replace hl := lv_sub hl (l' := [(0, .ref (ad 1)), (4, .int z3)]) [0, 2] rfl
                      cases hf
                      exact J104 ls H locs hl hP hD hS
                  intro ls H locs hl hP hD hS
                  clear hh
                  refine lv_istore_n (lv' := [(3, .int z18), (0, .ref (ad 1)), (4, .int z3)]) hx hb dFB_choose_104 rfl hl (by decide) rfl (fun ls hl => ?_)
                  replace hl := lv_sub hl (l' := [(0, .ref (ad 1)), (3, .int z18), (4, .int z3)]) [1, 0, 2] rfl
                  cases hf
                  exact J105 ls H locs hl hP hD hS
                · refine lv_aload_n hx hb dFB_choose_45 rfl (lv_at hl 0 rfl) ?_
                  refine va_get (D := (dC, dI)) (ci := 1) (v := .ref (ad 12)) (C := kR_FB) (T := kT_FB) (N := 4) hx hb hts kin_FB hown hK hP 0 rfl rfl 0 (by decide) (hts _ (List.mem_cons_of_mem _ kw1_32)) (fun _ h9 => h9) rfl dFB_choose_46 ?_
                  refine lv_iload hx hb dFB_choose_49 (lv_at hl 2 rfl) ?_
                  refine ip_iald hx hb hK hP 1 0 rfl rfl dFB_choose_51 hf (fun z19 hf => ?_)
                  refine lv_iconst (v := (3 : Int32)) hx hb dFB_choose_52 (by decide) ?_
                  refine ip_icmp_ne (tgt := 61) hx hb dFB_choose_53 rfl hf (fun hf => ?_) (fun hf => ?_)
                  · refine lv_aload_n hx hb dFB_choose_61 rfl (lv_at hl 0 rfl) ?_
                    refine va_get (D := (dC, dI)) (ci := 1) (v := .ref (ad 13)) (C := kR_FB) (T := kT_FB) (N := 4) hx hb hts kin_FB hown hK hP 0 rfl rfl 1 (by decide) (hts _ (List.mem_cons_of_mem _ kw1_33)) (fun _ h9 => h9) rfl dFB_choose_62 ?_
                    refine lv_aload_n hx hb dFB_choose_65 rfl (lv_at hl 0 rfl) ?_
                    refine va_get (D := (dC, dI)) (ci := 1) (v := .int z4) (C := kR_FB) (T := kT_FB) (N := 4) hx hb hts kin_FB hown hK hP 0 rfl rfl 3 (by decide) (hts _ (List.mem_cons_of_mem _ kw1_38)) (fun _ h9 => h9) rfl dFB_choose_66 ?_
                    refine lv_aload_n hx hb dFB_choose_69 rfl (lv_at hl 0 rfl) ?_
                    refine va_get (D := (dC, dI)) (ci := 1) (v := .ref (ad 12)) (C := kR_FB) (T := kT_FB) (N := 4) hx hb hts kin_FB hown hK hP 0 rfl rfl 0 (by decide) (hts _ (List.mem_cons_of_mem _ kw1_32)) (fun _ h9 => h9) rfl dFB_choose_70 ?_
                    refine lv_iload hx hb dFB_choose_73 (lv_at hl 2 rfl) ?_
                    refine ip_iald hx hb hK hP 1 0 rfl rfl dFB_choose_75 hf (fun z20 hf => ?_)
                    refine ip_iast hx hb hK hP hD hS 2 0 rfl rfl (fun g21 => (wFB_choose ad cI v_FB_count z4 v_aBytes g21)) (fun _ => rfl) dFB_choose_76 hf (fun g21 H locs hf hP hD hS => ?_)
                    refine lv_aload_n hx hb dFB_choose_77 rfl (lv_at hl 0 rfl) ?_
                    refine lv_dup hx hb dFB_choose_78 rfl ?_
                    refine va_get (D := (dC, dI)) (ci := 1) (v := .int z4) (C := kR_FB) (T := kT_FB) (N := 4) hx hb hts kin_FB hown hK hP 0 rfl rfl 3 (by decide) (hts _ (List.mem_cons_of_mem _ kw1_38)) (fun _ h9 => h9) rfl dFB_choose_79 ?_
                    refine lv_iconst (v := (1 : Int32)) hx hb dFB_choose_82 (by decide) ?_
                    refine lv_iadd hx hb dFB_choose_83 ?_
                    refine ip_top hf (fun z22 hf => ?_)
                    refine va_put (D := (dC, dI)) (ci := 1) (v := .int z22) (ty := .int) (C := kR_FB) (T := kT_FB) (N := 4) hx hb hts kin_FB kty_FB kto_FB knm_FB hown hK hP hD hS 0 rfl rfl 3 (by decide) (hts _ (List.mem_cons_of_mem _ kw1_38)) (fun _ h9 => h9) rfl (by decide +kernel) rfl rfl (Nat.le_of_ble_eq_true rfl) dFB_choose_84 (fun H locs hP hD hS => ?_)
                    replace hP : va_P (dC, dI) vwCl (wFB_choose ad cI v_FB_count z22 v_aBytes g21) H := hP
                    replace hD : va_D A (wFB_choose ad cI v_FB_count z22 v_aBytes g21) := hD
                    refine lv_aload_n hx hb dFB_choose_87 rfl (lv_at hl 0 rfl) ?_
                    refine va_get (D := (dC, dI)) (ci := 1) (v := .ref (ad 12)) (C := kR_FB) (T := kT_FB) (N := 4) hx hb hts kin_FB hown hK hP 0 rfl rfl 0 (by decide) (hts _ (List.mem_cons_of_mem _ kw1_32)) (fun _ h9 => h9) rfl dFB_choose_88 ?_
                    refine lv_iload hx hb dFB_choose_91 (lv_at hl 2 rfl) ?_
                    refine ip_iald hx hb hK hP 1 0 rfl rfl dFB_choose_93 hf (fun z23 hf => ?_)
                    obtain ⟨z24, hh, hf⟩ := ip_b1_e hf
                    suffices J104 : ∀ (ls : Array Slot) (H : Heap) (locs : List Loc), lv_has ls 5 [(0, .ref (ad 1)), (4, .int z3)] → va_P (dC, dI) vwCl (wFB_choose ad cI v_FB_count z22 v_aBytes g21) H → va_D A (wFB_choose ad cI v_FB_count z22 v_aBytes g21) → va_S A s.heap H locs → W p l e rmFB_choose s m args below meth c H locs 0 0 Q (F0 m 104 ls [.int z24]) by
                      replace hf := hh
                      refine ip_if_ne (tgt := 103) hx hb dFB_choose_94 rfl hf (fun hf => ?_) (fun hf => ?_)
                      · refine lv_iconst (v := (0 : Int32)) hx hb dFB_choose_103 (by decide) ?_
                        replace hl := lv_sub hl (l' := [(0, .ref (ad 1)), (4, .int z3)]) [0, 2] rfl
                        cases hf
                        exact J104 ls H locs hl hP hD hS
                      · refine lv_iload_n hx hb dFB_choose_97 rfl (lv_at hl 1 rfl) ?_
                        refine lv_iconst (v := (1 : Int32)) hx hb dFB_choose_98 (by decide) ?_
                        refine lv_iadd hx hb dFB_choose_99 ?_
                        refine lv_goto (tgt := 104) hx hb dFB_choose_100 rfl ?_
                        replace hl := lv_sub hl (l' := [(0, .ref (ad 1)), (4, .int z3)]) [0, 2] rfl
                        cases hf
                        exact J104 ls H locs hl hP hD hS
                    intro ls H locs hl hP hD hS
                    clear hh
                    refine lv_istore_n (lv' := [(3, .int z24), (0, .ref (ad 1)), (4, .int z3)]) hx hb dFB_choose_104 rfl hl (by decide) rfl (fun ls hl => ?_)
                    replace hl := lv_sub hl (l' := [(0, .ref (ad 1)), (3, .int z24), (4, .int z3)]) [1, 0, 2] rfl
                    cases hf
                    exact J105 ls H locs hl hP hD hS
                  · refine lv_iconst (v := (0 : Int32)) hx hb dFB_choose_56 (by decide) ?_
                    refine lv_istore_n (lv' := [(3, .int (0 : Int32)), (0, .ref (ad 1)), (4, .int z3)]) hx hb dFB_choose_57 rfl hl (by decide) rfl (fun ls hl => ?_)
                    refine lv_goto (tgt := 105) hx hb dFB_choose_58 rfl ?_
                    replace hl := lv_sub hl (l' := [(0, .ref (ad 1)), (3, .int (0 : Int32)), (4, .int z3)]) [1, 0, 2] rfl
                    cases hf
                    exact J105 ls H locs hl hP hD hS
              intro ls H locs hl hP hD hS
              clear hh
              refine ip_iinc (k0 := 2) (v0 := (1 : Int32)) (lv1 := fun z25 => [(4, .int z25), (0, .ref (ad 1)), (3, .int z11)]) hx hb dFB_choose_105 hl rfl (by decide) (by decide) (fun _ => rfl) hf (fun z25 ls hf hl => ?_)
              refine lv_goto (tgt := 22) hx hb dFB_choose_108 rfl ?_
              replace hl := lv_sub hl (l' := [(0, .ref (ad 1)), (3, .int z11), (4, .int z25)]) [1, 2, 0] rfl
              exact ih _ _ _ _ (ip_lp4_l hr22 hf) ls H locs hl hP hD hS
      exact L 1000 _ _ _ _ hL ls H locs hl hP hD hS
    intro ls H locs hl hP hD hS
    clear hL
    refine lv_iconst (v := (1 : Int32)) hx hb dFB_choose_111 (by decide) ?_
    cases hf
    exact hret H locs 112 ls _ dFB_choose_112 (Or.inr rfl) rfl hP hD hS
  · refine lv_iconst (v := (0 : Int32)) hx hb dFB_choose_15 (by decide) ?_
    cases hf
    exact hret H locs 16 ls _ dFB_choose_16 (Or.inl rfl) rfl hP hD hS
