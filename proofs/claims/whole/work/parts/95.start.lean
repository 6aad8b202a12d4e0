/-! the law's start -/
theorem lw_m1 {w : Cond} (i : Nat) (h : tables_1_1[i]? = some w) : w ∈ lw_tbl := List.mem_append_right _ (List.mem_append_left _ (List.mem_of_getElem? h))
theorem lw_m2 {w : Cond} (i : Nat) (h : tables_1_2[i]? = some w) : w ∈ lw_tbl := List.mem_append_right _ (List.mem_append_right _ (List.mem_append_left _ (List.mem_of_getElem? h)))
theorem lw_m3 {w : Cond} (i : Nat) (h : tables_1_3[i]? = some w) : w ∈ lw_tbl := List.mem_append_right _ (List.mem_append_right _ (List.mem_append_right _ (List.mem_append_left _ (List.mem_of_getElem? h))))
theorem lw_m4 {w : Cond} (i : Nat) (h : tables_1_4[i]? = some w) : w ∈ lw_tbl := List.mem_append_right _ (List.mem_append_right _ (List.mem_append_right _ (List.mem_append_right _ (List.mem_of_getElem? h))))
set_option maxRecDepth 100000 in
theorem lw_ns {args : Array Value} {s : State} (hts : ∀ w ∈ lw_tbl, w.before args s = true) : ∀ (k : Nat) (q : String × Nat × MethodName × String), ip_NS[k]? = some q → va_Nw (.methodLinkNest q.1 q.2.1 q.2.2.1 q.2.2.2) s := by
  intro k q hq
  have hk : k < 12 := (List.getElem?_eq_some_iff.mp hq).1
  rcases (show k = 0 ∨ k = 1 ∨ k = 2 ∨ k = 3 ∨ k = 4 ∨ k = 5 ∨ k = 6 ∨ k = 7 ∨ k = 8 ∨ k = 9 ∨ k = 10 ∨ k = 11 by omega) with rfl | rfl | rfl | rfl | rfl | rfl | rfl | rfl | rfl | rfl | rfl | rfl
  · obtain rfl : (("IntraPicture", 11, ⟨"IntraPicture$FedBytes", "<init>", "()V"⟩, "IntraPicture") : String × Nat × MethodName × String) = q := Option.some.inj hq
    exact va_Nw.of rfl (hts _ (lw_m1 28 rfl))
  · obtain rfl : (("IntraPicture", 47, ⟨"IntraPicture$Rows", "<init>", "()V"⟩, "IntraPicture") : String × Nat × MethodName × String) = q := Option.some.inj hq
    exact va_Nw.of rfl (hts _ (lw_m1 115 rfl))
  · obtain rfl : (("IntraPicture$Picture", 11, ⟨"IntraPicture$Leaf", "<init>", "()V"⟩, "IntraPicture") : String × Nat × MethodName × String) = q := Option.some.inj hq
    exact va_Nw.of rfl (hts _ (lw_m1 161 rfl))
  · obtain rfl : (("IntraPicture$Picture", 134, ⟨"IntraPicture", "inPicture", "(II)Z"⟩, "IntraPicture") : String × Nat × MethodName × String) = q := Option.some.inj hq
    exact va_Nw.of rfl (hts _ (lw_m2 180 rfl))
  · obtain rfl : (("IntraPicture$Picture", 138, ⟨"IntraPicture", "placeOf", "(II)I"⟩, "IntraPicture") : String × Nat × MethodName × String) = q := Option.some.inj hq
    exact va_Nw.of rfl (hts _ (lw_m2 183 rfl))
  · obtain rfl : (("IntraPicture$Leaf", 23, ⟨"IntraPicture", "placeOf", "(II)I"⟩, "IntraPicture") : String × Nat × MethodName × String) = q := Option.some.inj hq
    exact va_Nw.of rfl (hts _ (lw_m2 202 rfl))
  · obtain rfl : (("IntraPicture$Residuals", 53, ⟨"IntraPicture", "bring", "(III)I"⟩, "IntraPicture") : String × Nat × MethodName × String) = q := Option.some.inj hq
    exact va_Nw.of rfl (hts _ (lw_m3 12 rfl))
  · obtain rfl : (("IntraPicture$Predictor", 70, ⟨"IntraPicture", "inPicture", "(II)Z"⟩, "IntraPicture") : String × Nat × MethodName × String) = q := Option.some.inj hq
    exact va_Nw.of rfl (hts _ (lw_m3 49 rfl))
  · obtain rfl : (("IntraPicture$Predictor", 77, ⟨"IntraPicture", "placeOf", "(II)I"⟩, "IntraPicture") : String × Nat × MethodName × String) = q := Option.some.inj hq
    exact va_Nw.of rfl (hts _ (lw_m3 50 rfl))
  · obtain rfl : (("IntraPicture$Picture", 161, ⟨"IntraPicture", "bring", "(III)I"⟩, "IntraPicture") : String × Nat × MethodName × String) = q := Option.some.inj hq
    exact va_Nw.of rfl (hts _ (lw_m3 100 rfl))
  · obtain rfl : (("IntraPicture$Finish", 18, ⟨"IntraPicture", "placeOf", "(II)I"⟩, "IntraPicture") : String × Nat × MethodName × String) = q := Option.some.inj hq
    exact va_Nw.of rfl (hts _ (lw_m3 114 rfl))
  · obtain rfl : (("IntraPicture$Finish", 36, ⟨"IntraPicture", "bring", "(III)I"⟩, "IntraPicture") : String × Nat × MethodName × String) = q := Option.some.inj hq
    exact va_Nw.of rfl (hts _ (lw_m3 122 rfl))
set_option maxRecDepth 100000 in
theorem lw_tab0 {args : Array Value} {s : State} {A : Nat → Prop} (hts : ∀ w ∈ lw_tbl, w.before args s = true) (hgv : (Jvm.Cond.and given_1 narrow_1).before args s = true) (hA : ∀ a : Nat, a < s.heap.size → ¬ A a) : ∃ t : Nat, va_Z "IntraPicture$LevelReader" "ORDER" "[I" (.ref t) A s s.heap ∧ va_T .int t 16 (fun j => .int (tb_order j)) A s s.heap := by
  have hs := flat_of_before _ hgv
  obtain ⟨t, h1, h2⟩ := va_Tof (tm := (Term.static "IntraPicture$LevelReader" "ORDER" "[I")) (ty := .int) (N := 16) (f := fun j => .int (tb_order j)) (A := A) (by decide) (hs (Cond.arrayOf (Term.static "IntraPicture$LevelReader" "ORDER" "[I") .int) (by decide +kernel)) (va_eqt (hs (Cond.eq (.length (Term.static "IntraPicture$LevelReader" "ORDER" "[I")) (.int 16)) (by decide +kernel))) (fun j hj => by
    rcases (show j = 0 ∨ j = 1 ∨ j = 2 ∨ j = 3 ∨ j = 4 ∨ j = 5 ∨ j = 6 ∨ j = 7 ∨ j = 8 ∨ j = 9 ∨ j = 10 ∨ j = 11 ∨ j = 12 ∨ j = 13 ∨ j = 14 ∨ j = 15 by omega) with rfl | rfl | rfl | rfl | rfl | rfl | rfl | rfl | rfl | rfl | rfl | rfl | rfl | rfl | rfl | rfl
    · exact va_eqt (hs (Cond.eq (.elem (Term.static "IntraPicture$LevelReader" "ORDER" "[I") (.int 0)) (.int (0))) (by decide +kernel))
    · exact va_eqt (hs (Cond.eq (.elem (Term.static "IntraPicture$LevelReader" "ORDER" "[I") (.int 1)) (.int (4))) (by decide +kernel))
    · exact va_eqt (hs (Cond.eq (.elem (Term.static "IntraPicture$LevelReader" "ORDER" "[I") (.int 2)) (.int (1))) (by decide +kernel))
    · exact va_eqt (hs (Cond.eq (.elem (Term.static "IntraPicture$LevelReader" "ORDER" "[I") (.int 3)) (.int (8))) (by decide +kernel))
    · exact va_eqt (hs (Cond.eq (.elem (Term.static "IntraPicture$LevelReader" "ORDER" "[I") (.int 4)) (.int (5))) (by decide +kernel))
    · exact va_eqt (hs (Cond.eq (.elem (Term.static "IntraPicture$LevelReader" "ORDER" "[I") (.int 5)) (.int (2))) (by decide +kernel))
    · exact va_eqt (hs (Cond.eq (.elem (Term.static "IntraPicture$LevelReader" "ORDER" "[I") (.int 6)) (.int (12))) (by decide +kernel))
    · exact va_eqt (hs (Cond.eq (.elem (Term.static "IntraPicture$LevelReader" "ORDER" "[I") (.int 7)) (.int (9))) (by decide +kernel))
    · exact va_eqt (hs (Cond.eq (.elem (Term.static "IntraPicture$LevelReader" "ORDER" "[I") (.int 8)) (.int (6))) (by decide +kernel))
    · exact va_eqt (hs (Cond.eq (.elem (Term.static "IntraPicture$LevelReader" "ORDER" "[I") (.int 9)) (.int (3))) (by decide +kernel))
    · exact va_eqt (hs (Cond.eq (.elem (Term.static "IntraPicture$LevelReader" "ORDER" "[I") (.int 10)) (.int (13))) (by decide +kernel))
    · exact va_eqt (hs (Cond.eq (.elem (Term.static "IntraPicture$LevelReader" "ORDER" "[I") (.int 11)) (.int (10))) (by decide +kernel))
    · exact va_eqt (hs (Cond.eq (.elem (Term.static "IntraPicture$LevelReader" "ORDER" "[I") (.int 12)) (.int (7))) (by decide +kernel))
    · exact va_eqt (hs (Cond.eq (.elem (Term.static "IntraPicture$LevelReader" "ORDER" "[I") (.int 13)) (.int (14))) (by decide +kernel))
    · exact va_eqt (hs (Cond.eq (.elem (Term.static "IntraPicture$LevelReader" "ORDER" "[I") (.int 14)) (.int (11))) (by decide +kernel))
    · exact va_eqt (hs (Cond.eq (.elem (Term.static "IntraPicture$LevelReader" "ORDER" "[I") (.int 15)) (.int (15))) (by decide +kernel))) hA
  exact ⟨t, va_Zref (hts _ (lw_m2 217 rfl)) (hts _ (lw_m1 9 rfl)) h1 hA, h2⟩
set_option maxRecDepth 100000 in
theorem lw_tab1 {args : Array Value} {s : State} {A : Nat → Prop} (hts : ∀ w ∈ lw_tbl, w.before args s = true) (hgv : (Jvm.Cond.and given_1 narrow_1).before args s = true) (hA : ∀ a : Nat, a < s.heap.size → ¬ A a) : ∃ t : Nat, va_Z "IntraPicture$Residuals" "SCALES" "[I" (.ref t) A s s.heap ∧ va_T .int t 6 (fun j => .int (tb_scales j)) A s s.heap := by
  have hs := flat_of_before _ hgv
  obtain ⟨t, h1, h2⟩ := va_Tof (tm := (Term.static "IntraPicture$Residuals" "SCALES" "[I")) (ty := .int) (N := 6) (f := fun j => .int (tb_scales j)) (A := A) (by decide) (hs (Cond.arrayOf (Term.static "IntraPicture$Residuals" "SCALES" "[I") .int) (by decide +kernel)) (va_eqt (hs (Cond.eq (.length (Term.static "IntraPicture$Residuals" "SCALES" "[I")) (.int 6)) (by decide +kernel))) (fun j hj => by
    rcases (show j = 0 ∨ j = 1 ∨ j = 2 ∨ j = 3 ∨ j = 4 ∨ j = 5 by omega) with rfl | rfl | rfl | rfl | rfl | rfl
    · exact va_eqt (hs (Cond.eq (.elem (Term.static "IntraPicture$Residuals" "SCALES" "[I") (.int 0)) (.int (40))) (by decide +kernel))
    · exact va_eqt (hs (Cond.eq (.elem (Term.static "IntraPicture$Residuals" "SCALES" "[I") (.int 1)) (.int (45))) (by decide +kernel))
    · exact va_eqt (hs (Cond.eq (.elem (Term.static "IntraPicture$Residuals" "SCALES" "[I") (.int 2)) (.int (51))) (by decide +kernel))
    · exact va_eqt (hs (Cond.eq (.elem (Term.static "IntraPicture$Residuals" "SCALES" "[I") (.int 3)) (.int (57))) (by decide +kernel))
    · exact va_eqt (hs (Cond.eq (.elem (Term.static "IntraPicture$Residuals" "SCALES" "[I") (.int 4)) (.int (64))) (by decide +kernel))
    · exact va_eqt (hs (Cond.eq (.elem (Term.static "IntraPicture$Residuals" "SCALES" "[I") (.int 5)) (.int (72))) (by decide +kernel))) hA
  exact ⟨t, va_Zref (hts _ (lw_m3 11 rfl)) (hts _ (lw_m1 10 rfl)) h1 hA, h2⟩
set_option maxRecDepth 100000 in
theorem lw_tab2 {args : Array Value} {s : State} {A : Nat → Prop} (hts : ∀ w ∈ lw_tbl, w.before args s = true) (hgv : (Jvm.Cond.and given_1 narrow_1).before args s = true) (hA : ∀ a : Nat, a < s.heap.size → ¬ A a) : ∃ t : Nat, va_Z "IntraPicture$Residuals" "MATRIX_4" "[I" (.ref t) A s s.heap ∧ va_T .int t 16 (fun j => .int (tb_four j)) A s s.heap := by
  have hs := flat_of_before _ hgv
  obtain ⟨t, h1, h2⟩ := va_Tof (tm := (Term.static "IntraPicture$Residuals" "MATRIX_4" "[I")) (ty := .int) (N := 16) (f := fun j => .int (tb_four j)) (A := A) (by decide) (hs (Cond.arrayOf (Term.static "IntraPicture$Residuals" "MATRIX_4" "[I") .int) (by decide +kernel)) (va_eqt (hs (Cond.eq (.length (Term.static "IntraPicture$Residuals" "MATRIX_4" "[I")) (.int 16)) (by decide +kernel))) (fun j hj => by
    rcases (show j = 0 ∨ j = 1 ∨ j = 2 ∨ j = 3 ∨ j = 4 ∨ j = 5 ∨ j = 6 ∨ j = 7 ∨ j = 8 ∨ j = 9 ∨ j = 10 ∨ j = 11 ∨ j = 12 ∨ j = 13 ∨ j = 14 ∨ j = 15 by omega) with rfl | rfl | rfl | rfl | rfl | rfl | rfl | rfl | rfl | rfl | rfl | rfl | rfl | rfl | rfl | rfl
    · exact va_eqt (hs (Cond.eq (.elem (Term.static "IntraPicture$Residuals" "MATRIX_4" "[I") (.int 0)) (.int (29))) (by decide +kernel))
    · exact va_eqt (hs (Cond.eq (.elem (Term.static "IntraPicture$Residuals" "MATRIX_4" "[I") (.int 1)) (.int (55))) (by decide +kernel))
    · exact va_eqt (hs (Cond.eq (.elem (Term.static "IntraPicture$Residuals" "MATRIX_4" "[I") (.int 2)) (.int (74))) (by decide +kernel))
    · exact va_eqt (hs (Cond.eq (.elem (Term.static "IntraPicture$Residuals" "MATRIX_4" "[I") (.int 3)) (.int (84))) (by decide +kernel))
    · exact va_eqt (hs (Cond.eq (.elem (Term.static "IntraPicture$Residuals" "MATRIX_4" "[I") (.int 4)) (.int (74))) (by decide +kernel))
    · exact va_eqt (hs (Cond.eq (.elem (Term.static "IntraPicture$Residuals" "MATRIX_4" "[I") (.int 5)) (.int (74))) (by decide +kernel))
    · exact va_eqt (hs (Cond.eq (.elem (Term.static "IntraPicture$Residuals" "MATRIX_4" "[I") (.int 6)) (.int (0))) (by decide +kernel))
    · exact va_eqt (hs (Cond.eq (.elem (Term.static "IntraPicture$Residuals" "MATRIX_4" "[I") (.int 7)) (.int (-74))) (by decide +kernel))
    · exact va_eqt (hs (Cond.eq (.elem (Term.static "IntraPicture$Residuals" "MATRIX_4" "[I") (.int 8)) (.int (84))) (by decide +kernel))
    · exact va_eqt (hs (Cond.eq (.elem (Term.static "IntraPicture$Residuals" "MATRIX_4" "[I") (.int 9)) (.int (-29))) (by decide +kernel))
    · exact va_eqt (hs (Cond.eq (.elem (Term.static "IntraPicture$Residuals" "MATRIX_4" "[I") (.int 10)) (.int (-74))) (by decide +kernel))
    · exact va_eqt (hs (Cond.eq (.elem (Term.static "IntraPicture$Residuals" "MATRIX_4" "[I") (.int 11)) (.int (55))) (by decide +kernel))
    · exact va_eqt (hs (Cond.eq (.elem (Term.static "IntraPicture$Residuals" "MATRIX_4" "[I") (.int 12)) (.int (55))) (by decide +kernel))
    · exact va_eqt (hs (Cond.eq (.elem (Term.static "IntraPicture$Residuals" "MATRIX_4" "[I") (.int 13)) (.int (-84))) (by decide +kernel))
    · exact va_eqt (hs (Cond.eq (.elem (Term.static "IntraPicture$Residuals" "MATRIX_4" "[I") (.int 14)) (.int (74))) (by decide +kernel))
    · exact va_eqt (hs (Cond.eq (.elem (Term.static "IntraPicture$Residuals" "MATRIX_4" "[I") (.int 15)) (.int (-29))) (by decide +kernel))) hA
  exact ⟨t, va_Zref (hts _ (lw_m3 33 rfl)) (hts _ (lw_m1 10 rfl)) h1 hA, h2⟩
set_option maxRecDepth 100000 in
theorem lw_tab3 {args : Array Value} {s : State} {A : Nat → Prop} (hts : ∀ w ∈ lw_tbl, w.before args s = true) (hgv : (Jvm.Cond.and given_1 narrow_1).before args s = true) (hA : ∀ a : Nat, a < s.heap.size → ¬ A a) : ∃ t : Nat, va_Z "IntraPicture$Residuals" "WAVE" "[I" (.ref t) A s s.heap ∧ va_T .int t 32 (fun j => .int (tb_wave j)) A s s.heap := by
  have hs := flat_of_before _ hgv
  obtain ⟨t, h1, h2⟩ := va_Tof (tm := (Term.static "IntraPicture$Residuals" "WAVE" "[I")) (ty := .int) (N := 32) (f := fun j => .int (tb_wave j)) (A := A) (by decide) (hs (Cond.arrayOf (Term.static "IntraPicture$Residuals" "WAVE" "[I") .int) (by decide +kernel)) (va_eqt (hs (Cond.eq (.length (Term.static "IntraPicture$Residuals" "WAVE" "[I")) (.int 32)) (by decide +kernel))) (fun j hj => by
    rcases (show j = 0 ∨ j = 1 ∨ j = 2 ∨ j = 3 ∨ j = 4 ∨ j = 5 ∨ j = 6 ∨ j = 7 ∨ j = 8 ∨ j = 9 ∨ j = 10 ∨ j = 11 ∨ j = 12 ∨ j = 13 ∨ j = 14 ∨ j = 15 ∨ j = 16 ∨ j = 17 ∨ j = 18 ∨ j = 19 ∨ j = 20 ∨ j = 21 ∨ j = 22 ∨ j = 23 ∨ j = 24 ∨ j = 25 ∨ j = 26 ∨ j = 27 ∨ j = 28 ∨ j = 29 ∨ j = 30 ∨ j = 31 by omega) with rfl | rfl | rfl | rfl | rfl | rfl | rfl | rfl | rfl | rfl | rfl | rfl | rfl | rfl | rfl | rfl | rfl | rfl | rfl | rfl | rfl | rfl | rfl | rfl | rfl | rfl | rfl | rfl | rfl | rfl | rfl | rfl
    · exact va_eqt (hs (Cond.eq (.elem (Term.static "IntraPicture$Residuals" "WAVE" "[I") (.int 0)) (.int (91))) (by decide +kernel))
    · exact va_eqt (hs (Cond.eq (.elem (Term.static "IntraPicture$Residuals" "WAVE" "[I") (.int 1)) (.int (89))) (by decide +kernel))
    · exact va_eqt (hs (Cond.eq (.elem (Term.static "IntraPicture$Residuals" "WAVE" "[I") (.int 2)) (.int (83))) (by decide +kernel))
    · exact va_eqt (hs (Cond.eq (.elem (Term.static "IntraPicture$Residuals" "WAVE" "[I") (.int 3)) (.int (75))) (by decide +kernel))
    · exact va_eqt (hs (Cond.eq (.elem (Term.static "IntraPicture$Residuals" "WAVE" "[I") (.int 4)) (.int (64))) (by decide +kernel))
    · exact va_eqt (hs (Cond.eq (.elem (Term.static "IntraPicture$Residuals" "WAVE" "[I") (.int 5)) (.int (50))) (by decide +kernel))
    · exact va_eqt (hs (Cond.eq (.elem (Term.static "IntraPicture$Residuals" "WAVE" "[I") (.int 6)) (.int (36))) (by decide +kernel))
    · exact va_eqt (hs (Cond.eq (.elem (Term.static "IntraPicture$Residuals" "WAVE" "[I") (.int 7)) (.int (18))) (by decide +kernel))
    · exact va_eqt (hs (Cond.eq (.elem (Term.static "IntraPicture$Residuals" "WAVE" "[I") (.int 8)) (.int (0))) (by decide +kernel))
    · exact va_eqt (hs (Cond.eq (.elem (Term.static "IntraPicture$Residuals" "WAVE" "[I") (.int 9)) (.int (-18))) (by decide +kernel))
    · exact va_eqt (hs (Cond.eq (.elem (Term.static "IntraPicture$Residuals" "WAVE" "[I") (.int 10)) (.int (-36))) (by decide +kernel))
    · exact va_eqt (hs (Cond.eq (.elem (Term.static "IntraPicture$Residuals" "WAVE" "[I") (.int 11)) (.int (-50))) (by decide +kernel))
    · exact va_eqt (hs (Cond.eq (.elem (Term.static "IntraPicture$Residuals" "WAVE" "[I") (.int 12)) (.int (-64))) (by decide +kernel))
    · exact va_eqt (hs (Cond.eq (.elem (Term.static "IntraPicture$Residuals" "WAVE" "[I") (.int 13)) (.int (-75))) (by decide +kernel))
    · exact va_eqt (hs (Cond.eq (.elem (Term.static "IntraPicture$Residuals" "WAVE" "[I") (.int 14)) (.int (-83))) (by decide +kernel))
    · exact va_eqt (hs (Cond.eq (.elem (Term.static "IntraPicture$Residuals" "WAVE" "[I") (.int 15)) (.int (-89))) (by decide +kernel))
    · exact va_eqt (hs (Cond.eq (.elem (Term.static "IntraPicture$Residuals" "WAVE" "[I") (.int 16)) (.int (-91))) (by decide +kernel))
    · exact va_eqt (hs (Cond.eq (.elem (Term.static "IntraPicture$Residuals" "WAVE" "[I") (.int 17)) (.int (-89))) (by decide +kernel))
    · exact va_eqt (hs (Cond.eq (.elem (Term.static "IntraPicture$Residuals" "WAVE" "[I") (.int 18)) (.int (-83))) (by decide +kernel))
    · exact va_eqt (hs (Cond.eq (.elem (Term.static "IntraPicture$Residuals" "WAVE" "[I") (.int 19)) (.int (-75))) (by decide +kernel))
    · exact va_eqt (hs (Cond.eq (.elem (Term.static "IntraPicture$Residuals" "WAVE" "[I") (.int 20)) (.int (-64))) (by decide +kernel))
    · exact va_eqt (hs (Cond.eq (.elem (Term.static "IntraPicture$Residuals" "WAVE" "[I") (.int 21)) (.int (-50))) (by decide +kernel))
    · exact va_eqt (hs (Cond.eq (.elem (Term.static "IntraPicture$Residuals" "WAVE" "[I") (.int 22)) (.int (-36))) (by decide +kernel))
    · exact va_eqt (hs (Cond.eq (.elem (Term.static "IntraPicture$Residuals" "WAVE" "[I") (.int 23)) (.int (-18))) (by decide +kernel))
    · exact va_eqt (hs (Cond.eq (.elem (Term.static "IntraPicture$Residuals" "WAVE" "[I") (.int 24)) (.int (0))) (by decide +kernel))
    · exact va_eqt (hs (Cond.eq (.elem (Term.static "IntraPicture$Residuals" "WAVE" "[I") (.int 25)) (.int (18))) (by decide +kernel))
    · exact va_eqt (hs (Cond.eq (.elem (Term.static "IntraPicture$Residuals" "WAVE" "[I") (.int 26)) (.int (36))) (by decide +kernel))
    · exact va_eqt (hs (Cond.eq (.elem (Term.static "IntraPicture$Residuals" "WAVE" "[I") (.int 27)) (.int (50))) (by decide +kernel))
    · exact va_eqt (hs (Cond.eq (.elem (Term.static "IntraPicture$Residuals" "WAVE" "[I") (.int 28)) (.int (64))) (by decide +kernel))
    · exact va_eqt (hs (Cond.eq (.elem (Term.static "IntraPicture$Residuals" "WAVE" "[I") (.int 29)) (.int (75))) (by decide +kernel))
    · exact va_eqt (hs (Cond.eq (.elem (Term.static "IntraPicture$Residuals" "WAVE" "[I") (.int 30)) (.int (83))) (by decide +kernel))
    · exact va_eqt (hs (Cond.eq (.elem (Term.static "IntraPicture$Residuals" "WAVE" "[I") (.int 31)) (.int (89))) (by decide +kernel))) hA
  exact ⟨t, va_Zref (hts _ (lw_m3 35 rfl)) (hts _ (lw_m1 10 rfl)) h1 hA, h2⟩
theorem lw_tabs {args : Array Value} {s : State} {A : Nat → Prop} (hts : ∀ w ∈ lw_tbl, w.before args s = true) (hgv : (Jvm.Cond.and given_1 narrow_1).before args s = true) (hA : ∀ a : Nat, a < s.heap.size → ¬ A a) : ∃ t0 t1 t2 t3 : Nat, ip_Z (ip_TS t0 t1 t2 t3) A s s.heap := by
  obtain ⟨t0, h0⟩ := lw_tab0 hts hgv hA
  obtain ⟨t1, h1⟩ := lw_tab1 hts hgv hA
  obtain ⟨t2, h2⟩ := lw_tab2 hts hgv hA
  obtain ⟨t3, h3⟩ := lw_tab3 hts hgv hA
  refine ⟨t0, t1, t2, t3, fun k q hq => ?_, lw_ns hts⟩
  have hk : k < 4 := (List.getElem?_eq_some_iff.mp hq).1
  rcases (show k = 0 ∨ k = 1 ∨ k = 2 ∨ k = 3 by omega) with rfl | rfl | rfl | rfl
  · cases hq
    exact h0
  · cases hq
    exact h1
  · cases hq
    exact h2
  · cases hq
    exact h3
theorem lw_arr {args : Array Value} {s : State} {ty : FieldType} (h : (Cond.arrayClass ty).before args s = true) : ∃ cA : ClassId, ArrOfT s cA ty ∧ s.vm.findClass ("[" ++ ty.toString) = some cA := by
  obtain ⟨cA, kA, comp, h1, h2, h3⟩ := Cond.arrayClass_spec h
  exact ⟨cA, fun n z => ⟨fun k h => (by cases h), kA, h2, comp, h3⟩, h1⟩
theorem lw_kn {args : Array Value} {s : State} (hts : ∀ w ∈ lwT, w.before args s = true) : ∃ (dC : Nat → ClassId) (dI : Nat → Nat → Nat) (cI cZ : ClassId), va_K (dC, dI) vwCl [(cI, .int), (cZ, .boolean)] s := by
  obtain ⟨k0, j0, h0⟩ := u_known (C := kR_IP) (T := kT_IP) (N := 7) (n := 7) hts kin_IP (hts _ (List.mem_cons_of_mem _ kw1_19))
  obtain ⟨k1, j1, h1⟩ := u_known (C := kR_FB) (T := kT_FB) (N := 4) (n := 4) hts kin_FB (hts _ (List.mem_cons_of_mem _ kw1_27))
  obtain ⟨k2, j2, h2⟩ := u_known (C := kR_RB) (T := kT_RB) (N := 3) (n := 3) hts kin_RB (hts _ (List.mem_cons_of_mem _ kw1_50))
  obtain ⟨k3, j3, h3⟩ := u_known (C := kR_PA) (T := kT_PA) (N := 5) (n := 5) hts kin_PA (hts _ (List.mem_cons_of_mem _ kw1_66))
  obtain ⟨k4, j4, h4⟩ := u_known (C := kR_BD) (T := kT_BD) (N := 5) (n := 5) hts kin_BD (hts _ (List.mem_cons_of_mem _ kw1_90))
  obtain ⟨k5, j5, h5⟩ := u_known (C := kR_LF) (T := kT_LF) (N := 5) (n := 5) hts kin_LF (hts _ (List.mem_cons_of_mem _ kw1_160))
  obtain ⟨k6, j6, h6⟩ := u_known (C := kR_RW) (T := kT_RW) (N := 6) (n := 6) hts kin_RW (hts _ (List.mem_cons_of_mem _ kw1_114))
  obtain ⟨k7, j7, h7⟩ := u_known (C := kR_PI) (T := kT_PI) (N := 9) (n := 9) hts kin_PI (hts _ (List.mem_cons_of_mem _ kw1_154))
  obtain ⟨k8, j8, h8⟩ := u_known (C := kR_LR) (T := kT_LR) (N := 6) (n := 6) hts kin_LR (hts _ (List.mem_cons_of_mem _ kw1_192))
  obtain ⟨k9, j9, h9⟩ := u_known (C := kR_RS) (T := kT_RS) (N := 4) (n := 4) hts kin_RS (hts _ (List.mem_cons_of_mem _ kw1_217))
  obtain ⟨k10, j10, h10⟩ := u_known (C := kR_PR) (T := kT_PR) (N := 4) (n := 4) hts kin_PR (hts _ (List.mem_cons_of_mem _ kw1_237))
  obtain ⟨k11, j11, h11⟩ := u_known (C := kR_FI) (T := kT_FI) (N := 2) (n := 2) hts kin_FI (hts _ (List.mem_cons_of_mem _ kw2_16))
  obtain ⟨k12, j12, h12⟩ := u_known (C := kR_MO) (T := kT_MO) (N := 32) (n := 32) hts kin_MO (hts _ (List.mem_cons_of_mem _ kw3_182))
  obtain ⟨cI, hI1, hI2⟩ := lw_arr (hts _ (List.mem_cons_of_mem _ kw1_48))
  obtain ⟨cZ, hZ1, hZ2⟩ := lw_arr (hts _ (List.mem_cons_of_mem _ kw4_44))
  refine ⟨fun k => ([k0, k1, k2, k3, k4, k5, k6, k7, k8, k9, k10, k11, k12] : List ClassId).getD k k0, fun k => ([j0, j1, j2, j3, j4, j5, j6, j7, j8, j9, j10, j11, j12] : List (Nat → Nat)).getD k j0, cI, cZ, fun c q hq => ?_, fun k q hq => ?_⟩
  · have hc : c < 13 := (List.getElem?_eq_some_iff.mp hq).1
    rcases (show c = 0 ∨ c = 1 ∨ c = 2 ∨ c = 3 ∨ c = 4 ∨ c = 5 ∨ c = 6 ∨ c = 7 ∨ c = 8 ∨ c = 9 ∨ c = 10 ∨ c = 11 ∨ c = 12 by omega) with rfl | rfl | rfl | rfl | rfl | rfl | rfl | rfl | rfl | rfl | rfl | rfl | rfl
    · cases hq
      exact h0
    · cases hq
      exact h1
    · cases hq
      exact h2
    · cases hq
      exact h3
    · cases hq
      exact h4
    · cases hq
      exact h5
    · cases hq
      exact h6
    · cases hq
      exact h7
    · cases hq
      exact h8
    · cases hq
      exact h9
    · cases hq
      exact h10
    · cases hq
      exact h11
    · cases hq
      exact h12
  · have hk : k < 2 := (List.getElem?_eq_some_iff.mp hq).1
    rcases (show k = 0 ∨ k = 1 by omega) with rfl | rfl
    · cases hq
      exact ⟨hI1, hI2⟩
    · cases hq
      exact ⟨hZ1, hZ2⟩
abbrev lw_four : Nat → Int32 := (upd (upd (upd (upd (upd (upd (upd (upd (upd (upd (upd (upd (upd (upd (upd (upd (fun _ => 0) ((0 : Int32)).toNatClampNeg (29 : Int32)) ((1 : Int32)).toNatClampNeg (55 : Int32)) ((2 : Int32)).toNatClampNeg (74 : Int32)) ((3 : Int32)).toNatClampNeg (84 : Int32)) ((4 : Int32)).toNatClampNeg (74 : Int32)) ((5 : Int32)).toNatClampNeg (74 : Int32)) ((6 : Int32)).toNatClampNeg (0 : Int32)) ((7 : Int32)).toNatClampNeg (-74 : Int32)) ((8 : Int32)).toNatClampNeg (84 : Int32)) ((9 : Int32)).toNatClampNeg (-29 : Int32)) ((10 : Int32)).toNatClampNeg (-74 : Int32)) ((11 : Int32)).toNatClampNeg (55 : Int32)) ((12 : Int32)).toNatClampNeg (55 : Int32)) ((13 : Int32)).toNatClampNeg (-84 : Int32)) ((14 : Int32)).toNatClampNeg (74 : Int32)) ((15 : Int32)).toNatClampNeg (-29 : Int32))
abbrev lw_wave : Nat → Int32 := (upd (upd (upd (upd (upd (upd (upd (upd (upd (fun _ => 0) ((0 : Int32)).toNatClampNeg (91 : Int32)) ((1 : Int32)).toNatClampNeg (89 : Int32)) ((2 : Int32)).toNatClampNeg (83 : Int32)) ((3 : Int32)).toNatClampNeg (75 : Int32)) ((4 : Int32)).toNatClampNeg (64 : Int32)) ((5 : Int32)).toNatClampNeg (50 : Int32)) ((6 : Int32)).toNatClampNeg (36 : Int32)) ((7 : Int32)).toNatClampNeg (18 : Int32)) ((8 : Int32)).toNatClampNeg (0 : Int32))
abbrev lw_scale : Nat → Int32 := (upd (upd (upd (upd (upd (upd (fun _ => 0) ((0 : Int32)).toNatClampNeg (40 : Int32)) ((1 : Int32)).toNatClampNeg (45 : Int32)) ((2 : Int32)).toNatClampNeg (51 : Int32)) ((3 : Int32)).toNatClampNeg (57 : Int32)) ((4 : Int32)).toNatClampNeg (64 : Int32)) ((5 : Int32)).toNatClampNeg (72 : Int32))
theorem lw_tok : TabOK lw_four lw_wave lw_scale := ⟨by decide, by decide, by decide⟩
/-! THE CLAIM OUT OF ONE WALK OF THE LAW'S BODY. Your part is whole_start (and what it stands on); all else here is the same for every law, but numbers. -/
def R_law : String := "IntraPictureLaw"
def lw_P (b : Addr) (xs : List Int32) (args : Array Value) (s : State) : Prop := args = #[.ref b] ∧ s.IntsAt b xs ∧ xs.length ≤ 2048 ∧ (Jvm.Cond.and given_1 narrow_1).before args s = true
def lw_Q (_ : Array Value) (s : State) (o : Outcome) (t : State) : Prop := o = .returned (some (.int 1)) ∧ Framed s o t [] 55 4921
def lw_Z (below : List Frame) (a : Array Value) (s : State) : State → Prop := fun t => ∃ o, t.status = .running ∧ Ended t below o ∧ lw_Q a s o t
/-- the law's own end, with 1 on the stack, nothing written that was there before, its room as the claim has it -/
theorem lw_ret {p : Program} {l : Launch} {e : Env} {s : State} {m : MethodId} {below : List Frame} {meth : Method} {c : Code} {b : Nat} (hx : p.tables.exec = Jvm.exec) (hb : c.code = code) (hr : meth.sig.returnType = ret) (hlocks : meth.locks = false) {pc : Nat} {H : Heap} {ls : Array Slot} (hdg : decode code pc = .ok (.ireturn, 1)) : W p l e room_1 s m #[Value.ref b] below meth c H [] 55 4921 (lw_Z below #[Value.ref b] s) (F0 m pc ls [.int 1]) := by
  intro T hT X
  obtain ⟨fs, hret, hrun, hended, hW, hframe⟩ := X.leave (v := some (.int 1)) (hlocks := hlocks) (fun h => by rw [hr] at h; cases h)
  have hmeth' : T.vm.method? m = some meth := X.method'
  refine ⟨T.setFrames fs, ?_, .returned (some (.int 1)), hrun, hended, rfl, ⟨_, rfl⟩, hW, hframe⟩
  jvm_step X.here [X.here.top, hx, hb, hdg, hmeth', hr, ret, narrow_b1]
  (try refine ⟨rfl, ?_⟩); (try refine ⟨rfl, ?_⟩)
  first | (intro acts; rw [hret _ acts rfl rfl rfl]) | rw [hret _ _ rfl rfl rfl]
  exact Steps.refl _
/-- what holds at the law's entry: the machine, the code, the tables' words (any of lw_tbl by 'hts w (by decide +kernel)'), the script of L ints xs at the cell b, what the Statement gives of the start (any of its parts by flat_of_before) -/
def lw_At (p : Program) (s : State) (m : MethodId) (meth : Method) (c : Code) (b L : Nat) (xs : Nat → Int32) : Prop :=
  p.tables.exec = Jvm.exec ∧ c.code = code ∧ meth.sig.returnType = ret ∧ c.maxLocals = 4 ∧ s.vm.findClass R_law = some m.cls ∧ (∀ w ∈ lw_tbl, w.before #[Value.ref b] s = true) ∧ va_X b L xs s s.heap ∧ b < s.heap.size ∧ meth.locks = false ∧ (Jvm.Cond.and given_1 narrow_1).before #[Value.ref b] s = true
set_option maxHeartbeats 4000000 in
set_option maxRecDepth 100000 in
theorem whole_start {p : Program} {e : Env} {s : State} {m : MethodId} {below : List Frame} {meth : Method} {c : Code} (l : Launch) {b L : Nat} {xs : Nat → Int32} (hL : L ≤ 2048) (C0 : lw_At p s m meth c b L xs) : W p l e room_1 s m #[Value.ref b] below meth c s.heap [] 0 0 (lw_Z below #[Value.ref b] s) (entryFrame m ([Value.ref b] : List Value).toArray 4) := by
  obtain ⟨hx, hb, hret, hml, hown, hts0, hX, hbl, hlk, hgv⟩ := C0
  have hown : s.vm.findClass "IntraPictureLaw" = some m.cls := hown
  have hts : ∀ w ∈ lwT, w.before #[Value.ref b] s = true := fun w h => by
    rcases List.mem_cons.mp h with rfl | h
    · exact hts0 _ (List.mem_filter.mp kw1_1).1
    · exact hts0 _ (List.mem_filter.mp h).1
  obtain ⟨dC, dI, cI, cZ, hK⟩ := lw_kn hts
  have hKx : va_K (dC, dI) vwCl [(cI, .int)] s := hK.sub [0] rfl
  obtain ⟨t0, t1, t2, t3, hZ⟩ := lw_tabs (A := fun q => s.heap.size ≤ q) hts0 hgv (fun a h => Nat.not_le.mpr h)
  obtain ⟨A, hAe⟩ : ∃ A : Nat → Prop, A = fun q => s.heap.size ≤ q := ⟨_, rfl⟩
  rw [← hAe] at hZ
  have hA : ∀ q : Nat, s.heap.size ≤ q → A q := fun q h => by rw [hAe]; exact h
  have hAl : ∀ q : Nat, A q → s.heap.size ≤ q := fun q h => by rw [hAe] at h; exact h
  have hbA : ¬ A b := fun h => absurd (hAl b h) (Nat.not_le.mpr hbl)
  clear hAe
  have hC : LWC p s m c b L xs dC dI cI cZ t0 t1 t2 t3 A := ⟨hx, hb, hml, hown, hts, hK, hA, hZ, hX, hbl, hbA⟩
  have hl := lv_entry [Value.ref b] (n := 4) (Nat.le_of_ble_eq_true rfl)
  rw [lg_entry_eq]
  generalize (lg_sl [Value.ref b] ++ List.replicate (4 - (lg_sl [Value.ref b]).length) Slot.unset).toArray = ls at hl ⊢
  replace hl : lv_has ls 4 [(0, .ref b)] := hl
  have hP : va_P (dC, dI) vwCl [] s.heap := fun k q h => by simp at h
  have hD : va_D A [] := ⟨fun i j p q h => by simp at h, fun k q h => by simp at h⟩
  have hS : va_S A s.heap s.heap [] := va_S.rf
  suffices J0 : ∀ (H : Heap) (locs : List Loc), va_P (dC, dI) vwCl [] H → va_D A [] → va_S A s.heap H locs → W p l e room_1 s m #[Value.ref b] below meth c H locs 0 0 (lw_Z below #[Value.ref b] s) (F0 m 0 ls []) by exact J0 s.heap [] hP hD hS
  clear hP hD hS
  intro H locs hP hD hS
  refine va_new (ci := 0) (fs := [.null, .null, .null, .null, .null, .null, .int 0]) (C := kR_IP) (T := kT_IP) (N := 7) hx hb hts kin_IP kty_IP kto_IP hown (hts _ (List.mem_cons_of_mem _ kw1_18)) (hts _ (List.mem_cons_of_mem _ kw1_19)) (hts _ (List.mem_cons_of_mem _ kw1_1)) hK hP hD hS hA rfl (fun j hj => by rcases (show j = 0 ∨ j = 1 ∨ j = 2 ∨ j = 3 ∨ j = 4 ∨ j = 5 ∨ j = 6 by omega) with rfl | rfl | rfl | rfl | rfl | rfl | rfl <;> rfl) (Nat.le_of_ble_eq_true rfl) (Nat.le_of_ble_eq_true rfl) dLW_0 (fun q1 H hP hD hS => ?_)
  replace hP : va_P (dC, dI) vwCl [(q1, .inr (0, [.null, .null, .null, .null, .null, .null, .int 0]))] H := hP
  replace hD : va_D A [(q1, .inr (0, [.null, .null, .null, .null, .null, .null, .int 0]))] := hD
  refine W.widen (k := 1) (n := 7) (by omega) (by omega) ?_
  refine lv_dup hx hb dLW_3 rfl ?_
  refine ip_calln (va_runI (As := []) (rest := [.ref q1]) ⟨hx, hb, hml, hown, hts⟩ (nIP_init (l := l) (dC := dC) (dI := dI) (cI := cI) (ts := ip_TS t0 t1 t2 t3) (h0 := q1) H.size) (cwI 0 hts (ip_gd kw1_22) rfl rfl rfl (hts _ (List.mem_cons_of_mem _ kw1_1)) (hts _ (List.mem_cons_of_mem _ kw1_20)) (hts _ (List.mem_cons_of_mem _ kw1_21)) rfl (by decide +kernel) ⟨Nat.le_of_ble_eq_true rfl, Nat.le_of_ble_eq_true rfl⟩) (ip_preS (As := .ref q1 :: []) hKx hP hD hS hA hZ [0] rfl rfl) rfl rfl hl.1 rfl (lv_room (Nat.le_of_ble_eq_true rfl)) dLW_4 ⟨Nat.le_of_ble_eq_true rfl, Nat.le_of_ble_eq_true rfl⟩) hP hD hS hA [0] [] [0, 1, 4, 5, 8, 19, 11, 18, 20, 22, 26, 29, 2, 3, 6, 7, 9, 10, 12, 13, 14, 15, 16, 17, 21, 23, 24, 25, 27, 28, 30] (fun u => wIP_decode (fun k => ([q1, u 0, u 3, u 4, u 7, u 18, u 10, u 17, u 19, u 21, u 25, u 28, u 1, u 2, u 5, u 6, u 8, u 9, u 11, u 12, u 13, u 14, u 15, u 16, u 20, u 22, u 23, u 24, u 26, u 27, u 29] : List Nat).getD k 0) cI 0 (nI 0) 0 0 0 0 0 0 0 0 0 0 0 0 0 0 0 0 0 (fun _ => 0) (fun _ => 0) (fun _ => 0) (fun _ => 0) (fun _ => 0) (fun _ => 0) (fun _ => 0) (fun _ => 0) (fun _ => 0) (fun _ => 0) (fun _ => 0) (fun _ => 0) (fun _ => 0) (fun _ => 0) (fun _ => 0) (fun _ => 0) (fun _ => 0) (fun _ => 0) (fun _ => 0)) 31 2643 rfl rfl rfl rfl rfl (by decide) (fun _ => rfl) rfl (fun u H locs hP hD hS => ?_)
  refine lv_astore_n (lv' := [(1, .ref q1), (0, .ref b)]) hx hb dLW_7 rfl hl (by decide) rfl (fun ls hl => ?_)
  obtain ⟨ad, had, ha0⟩ : ∃ ad : Nat → Nat, ad = (fun k => ([q1, u 0, u 3, u 4, u 7, u 18, u 10, u 17, u 19, u 21, u 25, u 28, u 1, u 2, u 5, u 6, u 8, u 9, u 11, u 12, u 13, u 14, u 15, u 16, u 20, u 22, u 23, u 24, u 26, u 27, u 29] : List Nat).getD k 0) ∧ ad 0 = q1 := ⟨_, rfl, rfl⟩
  rw [← had] at hP hD
  rw [← ha0] at hl
  clear had
  refine va_new (ci := 12) (fs := [.null, .int 0, .null, .int 0, .int 0, .int 0, .null, .null, .int 0, .int 0, .int 0, .int 0, .null, .null, .int 0, .null, .null, .null, .null, .null, .null, .null, .null, .null, .null, .null, .null, .null, .null, .null, .null, .null]) (C := kR_MO) (T := kT_MO) (N := 32) hx hb hts kin_MO kty_MO kto_MO hown (hts _ (List.mem_cons_of_mem _ kw3_181)) (hts _ (List.mem_cons_of_mem _ kw3_182)) (hts _ (List.mem_cons_of_mem _ kw1_13)) hK hP hD hS hA rfl (fun j hj => by rcases (show j = 0 ∨ j = 1 ∨ j = 2 ∨ j = 3 ∨ j = 4 ∨ j = 5 ∨ j = 6 ∨ j = 7 ∨ j = 8 ∨ j = 9 ∨ j = 10 ∨ j = 11 ∨ j = 12 ∨ j = 13 ∨ j = 14 ∨ j = 15 ∨ j = 16 ∨ j = 17 ∨ j = 18 ∨ j = 19 ∨ j = 20 ∨ j = 21 ∨ j = 22 ∨ j = 23 ∨ j = 24 ∨ j = 25 ∨ j = 26 ∨ j = 27 ∨ j = 28 ∨ j = 29 ∨ j = 30 ∨ j = 31 by omega) with rfl | rfl | rfl | rfl | rfl | rfl | rfl | rfl | rfl | rfl | rfl | rfl | rfl | rfl | rfl | rfl | rfl | rfl | rfl | rfl | rfl | rfl | rfl | rfl | rfl | rfl | rfl | rfl | rfl | rfl | rfl | rfl <;> rfl) (Nat.le_of_ble_eq_true rfl) (Nat.le_of_ble_eq_true rfl) dLW_8 (fun q2 H hP hD hS => ?_)
  replace hP : va_P (dC, dI) vwCl (wIP_decode ad cI 0 (nI 0) 0 0 0 0 0 0 0 0 0 0 0 0 0 0 0 0 0 (fun _ => 0) (fun _ => 0) (fun _ => 0) (fun _ => 0) (fun _ => 0) (fun _ => 0) (fun _ => 0) (fun _ => 0) (fun _ => 0) (fun _ => 0) (fun _ => 0) (fun _ => 0) (fun _ => 0) (fun _ => 0) (fun _ => 0) (fun _ => 0) (fun _ => 0) (fun _ => 0) (fun _ => 0) ++ [(q2, .inr (12, [.null, .int 0, .null, .int 0, .int 0, .int 0, .null, .null, .int 0, .int 0, .int 0, .int 0, .null, .null, .int 0, .null, .null, .null, .null, .null, .null, .null, .null, .null, .null, .null, .null, .null, .null, .null, .null, .null]))]) H := hP
  replace hD : va_D A (wIP_decode ad cI 0 (nI 0) 0 0 0 0 0 0 0 0 0 0 0 0 0 0 0 0 0 (fun _ => 0) (fun _ => 0) (fun _ => 0) (fun _ => 0) (fun _ => 0) (fun _ => 0) (fun _ => 0) (fun _ => 0) (fun _ => 0) (fun _ => 0) (fun _ => 0) (fun _ => 0) (fun _ => 0) (fun _ => 0) (fun _ => 0) (fun _ => 0) (fun _ => 0) (fun _ => 0) (fun _ => 0) ++ [(q2, .inr (12, [.null, .int 0, .null, .int 0, .int 0, .int 0, .null, .null, .int 0, .int 0, .int 0, .int 0, .null, .null, .int 0, .null, .null, .null, .null, .null, .null, .null, .null, .null, .null, .null, .null, .null, .null, .null, .null, .null]))]) := hD
  refine W.widen (k := 32) (n := 2675) (by omega) (by omega) ?_
  refine lv_dup hx hb dLW_11 rfl ?_
  refine ip_calln (va_runI (As := []) (rest := [.ref q2]) ⟨hx, hb, hml, hown, hts⟩ (nMO_init (l := l) (dC := dC) (dI := dI) (cI := cI) (cZ := cZ) (ts := ip_TS t0 t1 t2 t3) (h0 := q2) H.size) (cwI 0 hts (ip_gd kw3_185) rfl rfl rfl (hts _ (List.mem_cons_of_mem _ kw1_13)) (hts _ (List.mem_cons_of_mem _ kw3_183)) (hts _ (List.mem_cons_of_mem _ kw3_184)) rfl (by decide +kernel) ⟨Nat.le_of_ble_eq_true rfl, Nat.le_of_ble_eq_true rfl⟩) (ip_preS (As := .ref q2 :: []) hK hP hD hS hA hZ [31] rfl rfl) rfl rfl hl.1 rfl (lv_room (Nat.le_of_ble_eq_true rfl)) dLW_12 ⟨Nat.le_of_ble_eq_true rfl, Nat.le_of_ble_eq_true rfl⟩) hP hD hS hA [31] [0, 1, 2, 3, 4, 5, 6, 7, 8, 9, 10, 11, 12, 13, 14, 15, 16, 17, 18, 19, 20, 21, 22, 23, 24, 25, 26, 27, 28, 29, 30] [0, 1, 2, 3, 4, 5, 6, 7, 8, 9, 10, 11, 12, 13, 14, 15, 16, 17, 18, 19, 20, 21, 22, 23, 24, 25, 26, 27, 28, 29, 30, 31, 32, 33, 34, 35, 36, 37, 38, 39, 40, 41, 42, 43, 44, 45, 46, 47, 48, 49, 50, 51, 52, 53, 54] (fun u => (wIP_decode ad cI 0 (nI 0) 0 0 0 0 0 0 0 0 0 0 0 0 0 0 0 0 0 (fun _ => 0) (fun _ => 0) (fun _ => 0) (fun _ => 0) (fun _ => 0) (fun _ => 0) (fun _ => 0) (fun _ => 0) (fun _ => 0) (fun _ => 0) (fun _ => 0) (fun _ => 0) (fun _ => 0) (fun _ => 0) (fun _ => 0) (fun _ => 0) (fun _ => 0) (fun _ => 0) (fun _ => 0) ++ wMO_decode (fun k => ([q2, u 0, u 1, u 2, u 3, u 4, u 5, u 6, u 7, u 8, u 9, u 10, u 11, u 12, u 13, u 14, u 15, u 16, u 17, u 18, u 19, u 20, u 21, u 22] : List Nat).getD k 0) cI cZ (nI 0) 0 0 0 0 0 0 0 0 (fun _ => 0) (fun _ => 0) (fun _ => 0) (fun _ => 0) (fun _ => 0) (fun _ => 0) (fun _ => 0) (fun _ => 0) (fun _ => 0) (fun _ => 0) (fun _ => 0) (fun _ => 0) (fun _ => 0) (fun _ => 0) (fun _ => 0) (fun _ => 0) (fun _ => 0) (fun _ => 0) (fun _ => 0) (fun _ => 0) lw_four lw_wave lw_scale)) 55 4921 rfl rfl rfl rfl rfl (by decide) (fun _ => rfl) rfl (fun u H locs hP hD hS => ?_)
  refine lv_astore_n (lv' := [(2, .ref q2), (1, .ref (ad 0)), (0, .ref b)]) hx hb dLW_15 rfl hl (by decide) rfl (fun ls hl => ?_)
  obtain ⟨am, ham, hm0⟩ : ∃ am : Nat → Nat, am = (fun k => ([q2, u 0, u 1, u 2, u 3, u 4, u 5, u 6, u 7, u 8, u 9, u 10, u 11, u 12, u 13, u 14, u 15, u 16, u 17, u 18, u 19, u 20, u 21, u 22] : List Nat).getD k 0) ∧ am 0 = q2 := ⟨_, rfl, rfl⟩
  rw [← ham] at hP hD
  rw [← hm0] at hl
  clear ham
  refine lv_iconst (v := (0 : Int32)) hx hb dLW_16 (by decide) ?_
  refine lv_istore_n (lv' := [(3, .int (0 : Int32)), (2, .ref (am 0)), (1, .ref (ad 0)), (0, .ref b)]) hx hb dLW_17 rfl hl (by decide) rfl (fun ls hl => ?_)
  replace hl := lv_sub hl (l' := [(0, .ref b), (1, .ref (ad 0)), (2, .ref (am 0)), (3, .int (0 : Int32))]) [3, 2, 1, 0] rfl
  refine lw_loop (ad := ad) (am := am) hC hL ?_ L 0 ls H locs (by omega) (by omega) hl ?_
  · intro ls H locs hS
    refine lv_iconst (v := (1 : Int32)) hx hb dLW_510 (by decide) ?_
    refine va_forget (fun q hq => hAl _ (hS.2.2 q hq)) ?_
    exact lw_ret hx hb hret hlk dLW_511
  · exact ⟨0, (fun k => ([0, 0, 0, 0, 0, 0, 0, 0, 0, 0, 0, 0, 0, 0, 0, 0, 0, 0, 0, 0, 0, 0, 0, 0, 0, 0] : List Int32).getD k 0), (fun k => ([(fun _ => 0), lw_four, lw_wave, lw_scale, (fun _ => 0), (fun _ => 0), (fun _ => 0), (fun _ => 0), (fun _ => 0), (fun _ => 0), (fun _ => 0), (fun _ => 0), (fun _ => 0), (fun _ => 0), (fun _ => 0), (fun _ => 0), (fun _ => 0), (fun _ => 0), (fun _ => 0), (fun _ => 0), (fun _ => 0), (fun _ => 0), (fun _ => 0), (fun _ => 0), (fun _ => 0), (fun _ => 0), (fun _ => 0), (fun _ => 0), (fun _ => 0), (fun _ => 0), (fun _ => 0), (fun _ => 0), (fun _ => 0), (fun _ => 0), (fun _ => 0), (fun _ => 0), (fun _ => 0), (fun _ => 0), (fun _ => 0), (fun _ => 0), (fun _ => 0)] : List (Nat → Int32)).getD k (fun _ => 0)), hP, hD, hS, Nat.zero_le 240, lw_tok, rfl, Or.inl rfl, fun q => absurd (show (0 : Int32) = 1 from q) (by decide), rfl, Or.inl rfl, fun _ _ => rfl, fun q => absurd (show (0 : Int32) = 1 from q) (by decide)⟩
