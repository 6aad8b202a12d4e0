/-! the reference's references and values -/
def mth (ow : Nat → Int32) (e : Nat) : Nat → Bool := fun p => decide (¬ nI e ≤ ow p)
theorem n1_gt15 {a : Nat} (ha : a < 2 ^ 30) : 15 < nI a - 1 ↔ 17 ≤ a := by
  rw [Int32.lt_iff_toInt_lt, show (nI a - 1).toInt = (a : Int) - (1 : Nat) from pk_sub_toInt (b := 1) ha (by omega)]
  show (15 : Int) < (a : Int) - 1 ↔ _
  omega
theorem n1_le15 {a : Nat} (ha : a < 2 ^ 30) : nI a - 1 ≤ 15 ↔ a ≤ 16 := by
  rw [Int32.le_iff_toInt_le, show (nI a - 1).toInt = (a : Int) - (1 : Nat) from pk_sub_toInt (b := 1) ha (by omega)]
  show (a : Int) - 1 ≤ (15 : Int) ↔ _
  omega
theorem q_refM (a1 a2 a3 a4 a5 a6 a7 a8 a9 : Int32) {left top sides ow : Nat → Int32} {e m x0 y0 k : Nat} (he : e < 16) (hl : left e = nI x0) (htp : top e = nI y0) (hsd : sides e = nI m) (hm : m = 4 ∨ m = 8) (hx0 : x0 + m ≤ 16) (hy0 : y0 + m ≤ 16) (hk : k ≤ 4 * m) : fMO_reference a1 a2 a3 a4 a5 a6 a7 a8 a9 left top sides ow (nI e) (nI k) = some (if f_in x0 y0 m k ∧ mth ow e (f_p x0 y0 m k) = true then nI (f_p x0 y0 m k) else -1) := by
  have h1 : ip_ald 16 sides (nI e) = some (nI m) := by rw [ip_ald_n he (by omega), hsd]
  have h2 : ip_ald 16 left (nI e) = some (nI x0) := by rw [ip_ald_n he (by omega), hl]
  have h3 : ip_ald 16 top (nI e) = some (nI y0) := by rw [ip_ald_n he (by omega), htp]
  have e2 : (2 : Int32) * nI m = nI (2 * m) := pk_mul 2 m
  have ex : (if nI (2 * m) < nI k then some (((nI x0 + nI k) - nI (2 * m)) - (1 : Int32)) else some (nI x0 - (1 : Int32))) = some (nI (x0 + (k - 2 * m)) - 1) := by
    by_cases h : 2 * m < k
    · rw [if_pos (nI_lt h (by omega)), nI_add, pk_sub (by omega), show x0 + k - 2 * m = x0 + (k - 2 * m) by omega]
    · rw [if_neg (nI_nlt (by omega) (by omega)), show k - 2 * m = 0 by omega, Nat.add_zero]
  have ey : (if nI (2 * m) ≤ nI k then some (nI y0 - (1 : Int32)) else some (((nI y0 + nI (2 * m)) - (1 : Int32)) - nI k)) = some (nI (y0 + (2 * m - k)) - 1) := by
    by_cases h : 2 * m ≤ k
    · rw [if_pos (nI_le h (by omega)), show 2 * m - k = 0 by omega, Nat.add_zero]
    · rw [if_neg (nI_ge (by omega) (by omega)), nI_add, Int32.sub_sub, Int32.add_comm, ← Int32.sub_sub, pk_sub (by omega), show y0 + 2 * m - k = y0 + (2 * m - k) by omega]
  unfold fMO_reference
  rw [h1, e_b1, e_lt, e2, h2, e_b1, e_b1, ex, e_b1, h3, e_b1, e_b1, ey, e_b1]
  have hA : x0 + (k - 2 * m) < 2 ^ 30 := by omega
  have hB : y0 + (2 * m - k) < 2 ^ 30 := by omega
  by_cases g1 : x0 + (k - 2 * m) = 0
  · rw [if_pos ((n1_lt0 hA).mpr g1), if_neg (fun q => by have := q.1; unfold f_in at this; omega)]
  · rw [if_neg (fun q => g1 ((n1_lt0 hA).mp q))]
    by_cases g2 : y0 + (2 * m - k) = 0
    · rw [if_pos ((n1_lt0 hB).mpr g2), if_neg (fun q => by have := q.1; unfold f_in at this; omega)]
    · rw [if_neg (fun q => g2 ((n1_lt0 hB).mp q))]
      by_cases g3 : 17 ≤ x0 + (k - 2 * m)
      · rw [if_pos ((n1_gt15 hA).mpr g3), if_neg (fun q => by have := q.1; unfold f_in at this; omega)]
      · rw [if_neg (fun q => g3 ((n1_gt15 hA).mp q))]
        by_cases g4 : y0 + (2 * m - k) ≤ 16
        · have hin : f_in x0 y0 m k := by unfold f_in; omega
          rw [if_pos ((n1_le15 hB).mpr g4), e_lt]
          have ep : ((16 : Int32) * (nI (y0 + (2 * m - k)) - 1)) + (nI (x0 + (k - 2 * m)) - 1) = nI (f_p x0 y0 m k) := by
            rw [show nI (y0 + (2 * m - k)) - 1 = nI (y0 + (2 * m - k) - 1) from pk_sub (b := 1) (by omega), show nI (x0 + (k - 2 * m)) - 1 = nI (x0 + (k - 2 * m) - 1) from pk_sub (b := 1) (by omega), show (16 : Int32) = nI 16 from rfl, pk_mul, nI_add]
            rfl
          rw [ep, ip_ald_n (f_p_lt hin) (by omega), e_b1]
          by_cases g5 : nI e ≤ ow (f_p x0 y0 m k)
          · rw [if_pos g5, if_neg (fun q => by have := q.2; unfold mth at this; simp [g5] at this)]
          · rw [if_neg g5, if_pos ⟨hin, by unfold mth; simp [g5]⟩]
        · rw [if_neg (fun q => g4 ((n1_le15 hB).mp q)), if_neg (fun q => by have := q.1; unfold f_in at this; omega)]
def f_seen (o : Nat → Option Int32) : Nat → Int32 → Int32
  | 0, s => s
  | k + 1, s => f_seen o k (if (o k).isSome = true then nI k else s)
def f_vs (o : Nat → Option Int32) (s : Int32) : Int32 := if 0 ≤ s then (o s.toNatClampNeg).getD 128 else 128
theorem f_seen_ok (o : Nat → Option Int32) {N : Nat} (hN : N ≤ 33) : ∀ (k : Nat) (s : Int32), k ≤ N + 1 → (s = -1 ∨ ∃ j, j ≤ N ∧ s = nI j ∧ (o j).isSome = true) → f_seed o k (f_vs o s) = f_vs o (f_seen o k s) ∧ (f_seen o k s = -1 ∨ ∃ j, j ≤ N ∧ f_seen o k s = nI j ∧ (o j).isSome = true) := by
  intro k
  induction k with
  | zero => intro s _ hs; exact ⟨rfl, hs⟩
  | succ k ih =>
    intro s hk hs
    show f_seed o k ((o k).getD (f_vs o s)) = f_vs o (f_seen o k (if (o k).isSome = true then nI k else s)) ∧ _
    show _ ∧ (f_seen o k (if (o k).isSome = true then nI k else s) = -1 ∨ ∃ j, j ≤ N ∧ f_seen o k (if (o k).isSome = true then nI k else s) = nI j ∧ (o j).isSome = true)
    cases ho : o k with
    | none =>
      rw [if_neg (by simp)]
      exact ih s (by omega) hs
    | some v =>
      rw [if_pos (by simp)]
      have e : f_vs o (nI k) = v := by
        unfold f_vs
        rw [if_pos (nI_pos' (by omega)), nI_clamp (by omega), ho]
        rfl
      have := ih (nI k) (by omega) (Or.inr ⟨k, by omega, rfl, by rw [ho]; rfl⟩)
      rw [e] at this
      exact this
theorem f_op_some (th : Nat → Bool) (pl : Nat → Int32) (x0 y0 m k : Nat) : (f_op th pl x0 y0 m k).isSome = true ↔ f_in x0 y0 m k ∧ th (f_p x0 y0 m k) = true := by
  unfold f_op
  show _ ↔ (1 ≤ x0 + (k - 2 * m) ∧ x0 + (k - 2 * m) ≤ 16 ∧ 1 ≤ y0 + (2 * m - k) ∧ y0 + (2 * m - k) ≤ 16) ∧ _
  split
  · next h => exact ⟨fun _ => h, fun _ => rfl⟩
  · next h => exact ⟨fun q => absurd q (by simp), fun q => absurd q h⟩
theorem f_op_val {th : Nat → Bool} {pl : Nat → Int32} {x0 y0 m k : Nat} (h : f_in x0 y0 m k ∧ th (f_p x0 y0 m k) = true) : f_op th pl x0 y0 m k = some (pl (f_p x0 y0 m k)) := if_pos h
theorem f_op_none {th : Nat → Bool} {pl : Nat → Int32} {x0 y0 m k : Nat} (h : ¬ (f_in x0 y0 m k ∧ th (f_p x0 y0 m k) = true)) : f_op th pl x0 y0 m k = none := if_neg h
theorem q_refsM (a1 a2 a3 a4 a5 a6 a7 a8 a9 : Int32) {left top sides modes ow fs rw_ raw : Nat → Int32} {e m md x0 y0 : Nat} (he : e < 16) (hl : left e = nI x0) (htp : top e = nI y0) (hsd : sides e = nI m) (hmo : modes e = nI md) (hmd : md ≤ 7) (hm : m = 4 ∨ m = 8) (hx0 : x0 + m ≤ 16) (hy0 : y0 + m ≤ 16) : ∃ rw1 raw1 : Nat → Int32, fMO_references a1 a2 a3 a4 a5 a6 a7 a8 a9 left top sides modes ow fs rw_ raw (nI e) = some (rw1, raw1) ∧ ∀ k, k ≤ 4 * m → rw1 k = f_rw (mth ow e) fs x0 y0 m md k := by
  have lit : ∀ c : Nat, c ≤ 7 → (nI md = nI c ↔ md = c) := fun c hc => nI_eq (by omega) (by omega)
  have h1 : ip_ald 16 sides (nI e) = some (nI m) := by rw [ip_ald_n he (by omega), hsd]
  have hmo2 : ip_ald 16 modes (nI e) = some (nI md) := by rw [ip_ald_n he (by omega), hmo]
  have e4 : (4 : Int32) * nI m = nI (4 * m) := pk_mul 4 m
  have ref : ∀ k, k ≤ 4 * m → fMO_reference a1 a2 a3 a4 a5 a6 a7 a8 a9 left top sides ow (nI e) (nI k) = some (if f_in x0 y0 m k ∧ mth ow e (f_p x0 y0 m k) = true then nI (f_p x0 y0 m k) else -1) := fun k hk => q_refM a1 a2 a3 a4 a5 a6 a7 a8 a9 he hl htp hsd hm hx0 hy0 hk
  generalize ho : f_op (mth ow e) fs x0 y0 m = o
  have seen : ∀ (k fuel : Nat) (s : Int32), k ≤ 4 * m + 1 → k < fuel → ip_lp2 (fMO_references_B14 a1 a2 a3 a4 a5 a6 a7 a8 a9 left top sides ow (nI e)) fuel s (nI k - 1) = some (f_seen o k s, -1) := by
    intro k
    induction k with
    | zero =>
      intro fuel s _ hf
      obtain ⟨f, rfl⟩ : ∃ f, fuel = f + 1 := ⟨fuel - 1, by omega⟩
      refine l_ex2 ?_
      unfold fMO_references_B14
      rw [if_pos ((n1_lt0 (by omega)).mpr rfl)]
      rfl
    | succ k ih =>
      intro fuel s hk hf
      obtain ⟨f, rfl⟩ : ∃ f, fuel = f + 1 := ⟨fuel - 1, by omega⟩
      have step : fMO_references_B14 a1 a2 a3 a4 a5 a6 a7 a8 a9 left top sides ow (nI e) s (nI (k + 1) - 1) = some (.inl (if (o k).isSome = true then nI k else s, nI k - 1)) := by
        unfold fMO_references_B14
        rw [show nI (k + 1) - 1 = nI k from nI_pred k, if_neg (nI_pos (by omega)), ref k (by omega), e_b1, show nI k + (-1 : Int32) = nI k - 1 from (Int32.sub_eq_add_neg _ _).symm]
        by_cases h : f_in x0 y0 m k ∧ mth ow e (f_p x0 y0 m k) = true
        · rw [if_pos h, if_neg (nI_pos (by have := f_p_lt h.1; omega)), e_b1, e_lt, if_pos (by rw [← ho]; exact (f_op_some _ _ _ _ _ _).mpr h)]
        · rw [if_neg h, if_pos (show (-1 : Int32) < 0 by decide), e_b1, e_lt, if_neg (by rw [← ho]; exact fun q => h ((f_op_some _ _ _ _ _ _).mp q))]
      rw [l_in2 step]
      exact ih f _ (by omega) (by omega)
  have h2 := seen (4 * m + 1) 1000 (-1) (Nat.le_refl _) (by omega)
  rw [show nI (4 * m + 1) - 1 = nI (4 * m) from nI_pred _] at h2
  obtain ⟨s1, s2⟩ := f_seen_ok o (N := 4 * m) (by omega) (4 * m + 1) (-1) (by omega) (Or.inl rfl)
  have hseed : ip_b1 (if 0 ≤ f_seen o (4 * m + 1) (-1) then ip_b1 (fMO_reference a1 a2 a3 a4 a5 a6 a7 a8 a9 left top sides ow (nI e) (f_seen o (4 * m + 1) (-1))) (fun z11 => ip_b1 (ip_ald 256 fs z11) (fun z12 => some z12)) else some (128 : Int32)) (fun z => some z) = some (f_seed o (4 * m + 1) 128) := by
    rw [show (128 : Int32) = f_vs o (-1) from rfl, s1]
    rcases s2 with hs | ⟨j, hj, hs, hsome⟩
    · rw [hs, if_neg (show ¬ (0 : Int32) ≤ -1 by decide), e_b1]
    · have hj2 : j ≤ 4 * m := hj
      have hin := hsome
      rw [← ho] at hin
      have hin := (f_op_some _ _ _ _ _ _).mp hin
      rw [hs, if_pos (nI_pos' (by omega)), ref j hj2, if_pos hin, e_b1, ip_ald_n (f_p_lt hin.1) (by omega), e_b1, e_b1]
      unfold f_vs
      rw [if_pos (nI_pos' (by omega)), nI_clamp (by omega), ← ho, f_op_val hin]
      rfl
  obtain ⟨sd, q1, q2⟩ := ip_b1_e hseed
  have q3 : sd = f_seed o (4 * m + 1) 128 := Option.some.inj q2
  subst q3
  have run : ∀ (k i fuel : Nat) (b : Int32) (rf : Nat → Int32), i + k = 4 * m + 1 → k < fuel → (b = if i = 0 then f_seed o (4 * m + 1) 128 else f_row o (f_seed o (4 * m + 1) 128) (i - 1)) → ∃ (b1 : Int32) (rf1 : Nat → Int32), ip_lp3 (fMO_references_B68 a1 a2 a3 a4 a5 a6 a7 a8 a9 left top sides ow fs (nI e) (nI (4 * m))) fuel b (nI i) rf = some (b1, nI (4 * m + 1), rf1) ∧ (∀ j, i ≤ j → j ≤ 4 * m → rf1 j = f_row o (f_seed o (4 * m + 1) 128) j) ∧ ∀ j, j < i → rf1 j = rf j := by
    intro k
    induction k with
    | zero =>
      intro i fuel b rf hi hf hb
      obtain ⟨f, rfl⟩ : ∃ f, fuel = f + 1 := ⟨fuel - 1, by omega⟩
      have e : i = 4 * m + 1 := by omega
      subst e
      refine ⟨b, rf, l_ex3 ?_, fun j h1 h2 => by omega, fun j _ => rfl⟩
      unfold fMO_references_B68
      rw [if_pos (nI_lt (by omega) (by omega))]
    | succ k ih =>
      intro i fuel b rf hi hf hb
      obtain ⟨f, rfl⟩ : ∃ f, fuel = f + 1 := ⟨fuel - 1, by omega⟩
      have hrow : (o i).getD b = f_row o (f_seed o (4 * m + 1) 128) i := by
        cases i with
        | zero => rw [hb]; rfl
        | succ i => rw [hb]; rfl
      have step : fMO_references_B68 a1 a2 a3 a4 a5 a6 a7 a8 a9 left top sides ow fs (nI e) (nI (4 * m)) b (nI i) rf = some (.inl (f_row o (f_seed o (4 * m + 1) 128) i, nI (i + 1), upd rf i (f_row o (f_seed o (4 * m + 1) 128) i))) := by
        unfold fMO_references_B68
        rw [if_neg (nI_nlt (by omega) (by omega)), ref i (by omega), e_b1]
        have e2 : (if (if f_in x0 y0 m i ∧ mth ow e (f_p x0 y0 m i) = true then nI (f_p x0 y0 m i) else (-1 : Int32)) < 0 then some b else ip_b1 (ip_ald 256 fs (if f_in x0 y0 m i ∧ mth ow e (f_p x0 y0 m i) = true then nI (f_p x0 y0 m i) else -1)) (fun z21 => some z21)) = some (f_row o (f_seed o (4 * m + 1) 128) i) := by
          rw [← hrow, ← ho]
          by_cases h : f_in x0 y0 m i ∧ mth ow e (f_p x0 y0 m i) = true
          · rw [if_pos h, if_neg (nI_pos (by have := f_p_lt h.1; omega)), ip_ald_n (f_p_lt h.1) (by omega), e_b1, f_op_val h]
            rfl
          · rw [if_neg h, if_pos (show (-1 : Int32) < 0 by decide), f_op_none h]
            rfl
        rw [e2, e_b1, ip_ast_n (by omega) (by omega), e_b1, e_lt, nI_1]
      obtain ⟨b1, rf1, g1, g2, g3⟩ := ih (i + 1) f (f_row o (f_seed o (4 * m + 1) 128) i) (upd rf i (f_row o (f_seed o (4 * m + 1) 128) i)) (by omega) (by omega) (by rw [if_neg (by omega)]; rfl)
      refine ⟨b1, rf1, by rw [l_in3 step]; exact g1, fun j j1 j2 => ?_, fun j j1 => by rw [g3 j (by omega), u_n (by omega)]⟩
      by_cases e : j = i
      · subst e
        rw [g3 j (by omega), u_0]
      · exact g2 j (by omega) j2
  obtain ⟨b1, raw1, r1, r2, -⟩ := run (4 * m + 1) 0 1000 (f_seed o (4 * m + 1) 128) raw (by omega) (by omega) (by rw [if_pos rfl])
  have hraw : ∀ k, k ≤ 4 * m → raw1 k = f_raw o m k := fun k hk => r2 k (by omega) hk
  have hsm : (if nI m = (8 : Int32) then ip_b1 (ip_ald 16 modes (nI e)) (fun z26 => if z26 = 0 then some (1 : Int32) else ip_b1 (ip_ald 16 modes (nI e)) (fun z27 => if z27 = (5 : Int32) then some (1 : Int32) else ip_b1 (ip_ald 16 modes (nI e)) (fun z28 => if z28 = (7 : Int32) then some (1 : Int32) else some (0 : Int32)))) else some (0 : Int32)) = some (if smt m md = true then 1 else 0) := by
    rw [hmo2, e_b1, e_b1, e_b1]
    unfold smt
    rcases hm with rfl | rfl
    · rw [if_neg (show ¬ nI 4 = (8 : Int32) by decide), if_neg (by simp)]
    · rw [if_pos (show nI 8 = (8 : Int32) from rfl)]
      by_cases h0 : md = 0
      · rw [if_pos (show nI md = 0 from (lit 0 (by omega)).mpr h0), if_pos (by simp [h0])]
      · rw [if_neg (show ¬ nI md = 0 from fun q => h0 ((lit 0 (by omega)).mp q))]
        by_cases h5 : md = 5
        · rw [if_pos (show nI md = (5 : Int32) from (lit 5 (by omega)).mpr h5), if_pos (by simp [h5])]
        · rw [if_neg (show ¬ nI md = (5 : Int32) from fun q => h5 ((lit 5 (by omega)).mp q))]
          by_cases h7 : md = 7
          · rw [if_pos (show nI md = (7 : Int32) from (lit 7 (by omega)).mpr h7), if_pos (by simp [h7])]
          · rw [if_neg (show ¬ nI md = (7 : Int32) from fun q => h7 ((lit 7 (by omega)).mp q)), if_neg (by simp [h0, h5, h7])]
  have rowl : ip_lp2 (fMO_references_B168 (nI (4 * m)) raw1 (if smt m md = true then 1 else 0)) 1000 (nI 0) rw_ = some (nI (4 * m + 1), s_it (fun k g => upd g k (f_sm (smt m md) m (f_raw o m) k)) (4 * m + 1) 0 rw_) := by
    refine lp_it _ (fun k g hk => ?_) (fun g => ?_) (4 * m + 1) 0 1000 rw_ (by omega) (by omega)
    · have ev : (if (if smt m md = true then (1 : Int32) else 0) = 0 then ip_b1 (ip_ald 33 raw1 (nI k)) (fun z34 => some z34) else (if nI k ≤ 0 then ip_b1 (ip_ald 33 raw1 (nI k)) (fun z35 => some z35) else (if nI (4 * m) ≤ nI k then ip_b1 (ip_ald 33 raw1 (nI k)) (fun z36 => some z36) else ip_b1 (ip_ald 33 raw1 (nI k - (1 : Int32))) (fun z37 => ip_b1 (ip_ald 33 raw1 (nI k)) (fun z38 => ip_b1 (ip_ald 33 raw1 (nI k + (1 : Int32))) (fun z39 => some ((((z37 + ((2 : Int32) * z38)) + z39) + (2 : Int32)) >>> ((2 : Int32) &&& 31)))))))) = some (f_sm (smt m md) m (f_raw o m) k) := by
        rw [ip_ald_n (show k < 33 by omega) (by omega), e_b1]
        unfold f_sm
        by_cases hb : smt m md = true
        · rw [if_pos hb, if_neg (show ¬ (1 : Int32) = 0 by decide)]
          by_cases h0 : k = 0
          · subst h0
            rw [if_pos (show nI 0 ≤ 0 by decide), if_neg (by omega), hraw 0 (by omega)]
          · rw [if_neg (nI_nle (by omega) (by omega))]
            by_cases h9 : 4 * m ≤ k
            · rw [if_pos (nI_le h9 (by omega)), if_neg (by omega), hraw k (by omega)]
            · rw [if_neg (nI_ge (by omega) (by omega)), show nI k - (1 : Int32) = nI (k - 1) from pk_sub (b := 1) (by omega), ip_ald_n (by omega) (by omega), e_b1, e_b1, nI_1, ip_ald_n (by omega) (by omega), e_b1, if_pos ⟨hb, by omega, by omega⟩, hraw _ (by omega), hraw _ (by omega), hraw _ (by omega)]
        · rw [if_neg hb, if_pos rfl, if_neg (fun q => hb q.1), hraw k (by omega)]
      unfold fMO_references_B168
      rw [if_neg (nI_nlt (by omega) (by omega)), ev, e_b1, ip_ast_n (by omega) (by omega), e_b1, e_lt, nI_1]
    · unfold fMO_references_B168
      rw [if_pos (nI_lt (by omega) (by omega))]
  unfold fMO_references
  rw [h1, e_b1, e_lt, e4, h2, e_b2, q1, e_b1, show ip_lp3 (fMO_references_B68 a1 a2 a3 a4 a5 a6 a7 a8 a9 left top sides ow fs (nI e) (nI (4 * m))) 1000 (f_seed o (4 * m + 1) 128) (0 : Int32) raw = _ from r1, e_b3, e_b1, hsm, e_b1, show ip_lp2 (fMO_references_B168 (nI (4 * m)) raw1 (if smt m md = true then 1 else 0)) 1000 (0 : Int32) rw_ = _ from rowl, e_b2]
  refine ⟨_, _, rfl, fun k hk => ?_⟩
  unfold f_rw
  rw [ho]
  exact it_in (ix := fun i => i) (4 * m + 1) 0 rw_ k (by omega) (by omega) (fun x2 _ _ e => e)
