/-! the class's references -/
theorem n1_lt0 {a : Nat} (ha : a < 2 ^ 30) : nI a - 1 < 0 ↔ a = 0 := by
  rw [Int32.lt_iff_toInt_lt, show (nI a - 1).toInt = (a : Int) - (1 : Nat) from pk_sub_toInt (b := 1) ha (by omega)]
  show (a : Int) - 1 < 0 ↔ _
  omega
theorem n1_ge {a : Nat} (ha : a < 2 ^ 30) : 16 ≤ nI a - 1 ↔ 17 ≤ a := by
  rw [Int32.le_iff_toInt_le, show (nI a - 1).toInt = (a : Int) - (1 : Nat) from pk_sub_toInt (b := 1) ha (by omega)]
  show (16 : Int) ≤ (a : Int) - 1 ↔ _
  omega
theorem q_inP {a b : Nat} (ha : a < 2 ^ 30) (hb : b < 2 ^ 30) : fIP_inPicture (nI a - 1) (nI b - 1) = some (if 1 ≤ a ∧ a ≤ 16 ∧ 1 ≤ b ∧ b ≤ 16 then 1 else 0) := by
  unfold fIP_inPicture
  by_cases h1 : a = 0
  · rw [if_pos ((n1_lt0 ha).mpr h1), if_neg (by omega)]
  · rw [if_neg (fun q => h1 ((n1_lt0 ha).mp q))]
    by_cases h2 : 17 ≤ a
    · rw [if_pos ((n1_ge ha).mpr h2), if_neg (by omega)]
    · rw [if_neg (fun q => h2 ((n1_ge ha).mp q))]
      by_cases h3 : b = 0
      · rw [if_pos ((n1_lt0 hb).mpr h3), if_neg (by omega)]
      · rw [if_neg (fun q => h3 ((n1_lt0 hb).mp q))]
        by_cases h4 : 17 ≤ b
        · rw [if_pos ((n1_ge hb).mpr h4), if_neg (by omega)]
        · rw [if_neg (fun q => h4 ((n1_ge hb).mp q)), if_pos (by omega)]
theorem q_plP {a b : Nat} (ha : 1 ≤ a) (hb : 1 ≤ b) : fIP_placeOf (nI a - 1) (nI b - 1) = some (nI (16 * (b - 1) + (a - 1))) := by
  unfold fIP_placeOf
  rw [show nI a - 1 = nI (a - 1) from pk_sub (b := 1) ha, show nI b - 1 = nI (b - 1) from pk_sub (b := 1) hb, show (16 : Int32) = nI 16 from rfl, pk_mul, nI_add, Nat.mul_comm]
theorem q_mx {a b : Nat} (ha : a < 2 ^ 29) (hb : b < 2 ^ 29) : (if (-1 : Int32) < (nI a - nI b) - 1 then (nI a - nI b) - 1 else -1) = nI (a - b) - 1 := by
  by_cases h : b < a
  · rw [pk_sub (by omega), if_pos]
    rw [Int32.lt_iff_toInt_lt, show (nI (a - b) - 1).toInt = ((a - b : Nat) : Int) - (1 : Nat) from pk_sub_toInt (b := 1) (by omega) (by omega)]
    show (-1 : Int) < _
    omega
  · rw [show a - b = 0 by omega, if_neg]
    · rfl
    · have e : (nI a - nI b) - 1 = nI a - nI (b + 1) := by rw [Int32.sub_sub, nI_1]
      rw [e, Int32.lt_iff_toInt_lt, pk_sub_toInt (by omega) (by omega)]
      show ¬ (-1 : Int) < _
      omega
def xth (sides : Nat → Int32) : Nat → Bool := fun p => decide (¬ sides p = 0)
theorem q_colct (md sk sd : Int32) (pl sides rf : Nat → Int32) {m x0 y0 : Nat} (hm : m = 4 ∨ m = 8) (hx : x0 + m ≤ 16) (hy : y0 + m ≤ 16) : ∃ rf1 : Nat → Int32, fPR_collect (nI x0) (nI y0) sd md sk (nI m) pl sides rf = some rf1 ∧ ∀ k, k ≤ 4 * m → rf1 k = (f_op (xth sides) pl x0 y0 m k).getD (-1) := by
  have outer : ip_lp2 (fPR_collect_B2 (nI x0) (nI y0) (nI m) pl sides) 1000 (nI 0) rf = some (nI (4 * m + 1), s_it (fun i g => upd g i ((f_op (xth sides) pl x0 y0 m i).getD (-1))) (4 * m + 1) 0 rf) := by
    refine lp_it _ (fun i g hi => ?_) (fun g => ?_) (4 * m + 1) 0 1000 rf (by omega) (by omega)
    · unfold fPR_collect_B2
      have e4 : (4 : Int32) * nI m = nI (4 * m) := pk_mul 4 m
      have e2 : (2 : Int32) * nI m = nI (2 * m) := pk_mul 2 m
      have e5 : (nI (2 * m) - (1 : Int32)) - nI i = (nI (2 * m) - nI i) - 1 := by
        rw [Int32.sub_sub, Int32.sub_sub, Int32.add_comm]
      have a1 : ∀ a b : Nat, nI a + (nI b - 1) = nI (a + b) - 1 := by
        intro a b
        rw [Int32.sub_eq_add_neg, Int32.sub_eq_add_neg, ← Int32.add_assoc, nI_add]
      rw [e4, if_neg (nI_nlt (by omega) (by omega)), e2, e5, q_mx (by omega) (by omega), e_lt, e_lt, q_mx (by omega) (by omega), e_lt, e_lt, a1, a1, q_inP (by omega) (by omega), e_b1]
      have hv : ip_b1 (if (if 1 ≤ x0 + (i - 2 * m) ∧ x0 + (i - 2 * m) ≤ 16 ∧ 1 ≤ y0 + (2 * m - i) ∧ y0 + (2 * m - i) ≤ 16 then (1 : Int32) else 0) = 0 then some (0 : Int32) else ip_b1 (fIP_placeOf (nI (x0 + (i - 2 * m)) - 1) (nI (y0 + (2 * m - i)) - 1)) (fun z11 => ip_b1 (ip_ald 256 sides z11) (fun z12 => if z12 = 0 then some 0 else some 1))) (fun z10 => if z10 = 0 then some (-1 : Int32) else ip_b1 (fIP_placeOf (nI (x0 + (i - 2 * m)) - 1) (nI (y0 + (2 * m - i)) - 1)) (fun z14 => ip_b1 (ip_ald 256 pl z14) (fun z15 => some z15))) = some ((f_op (xth sides) pl x0 y0 m i).getD (-1)) := by
        unfold f_op
        by_cases h : 1 ≤ x0 + (i - 2 * m) ∧ x0 + (i - 2 * m) ≤ 16 ∧ 1 ≤ y0 + (2 * m - i) ∧ y0 + (2 * m - i) ≤ 16
        · have hp : f_p x0 y0 m i < 256 := f_p_lt h
          rw [if_pos h, if_neg (show ¬ (1 : Int32) = 0 by decide), q_plP h.1 h.2.2.1, e_b1, show 16 * (y0 + (2 * m - i) - 1) + (x0 + (i - 2 * m) - 1) = f_p x0 y0 m i from rfl, ip_ald_n hp (by omega), e_b1]
          by_cases h2 : sides (f_p x0 y0 m i) = 0
          · rw [if_pos h2, e_b1, if_pos rfl, if_neg (fun q => by have := q.2; unfold xth at this; simp [h2] at this)]
            rfl
          · rw [if_neg h2, e_b1, if_neg (show ¬ (1 : Int32) = 0 by decide), e_b1, ip_ald_n hp (by omega), e_b1, if_pos ⟨h, by unfold xth; simp [h2]⟩]
            rfl
        · rw [if_neg h, if_pos rfl, e_b1, if_pos rfl, if_neg (fun q => h q.1)]
          rfl
      obtain ⟨z10, h1, h2⟩ := ip_b1_e hv
      rw [h1, e_b1, h2, e_b1, ip_ast_n (by omega) (by omega), e_b1, e_lt, nI_1]
    · unfold fPR_collect_B2
      rw [show (4 : Int32) * nI m = nI (4 * m) from pk_mul 4 m, if_pos (nI_lt (by omega) (by omega))]
  unfold fPR_collect
  rw [show (0 : Int32) = nI 0 from rfl, outer, e_b2]
  refine ⟨_, rfl, fun k hk => ?_⟩
  exact it_in (ix := fun i => i) (4 * m + 1) 0 rf k (by omega) (by omega) (fun x2 _ _ e => e)
theorem q_seedX (o : Nat → Option Int32) (rf : Nat → Int32) {K : Nat} (hK : K ≤ 33) (hr : ∀ k, k < K → rf k = (o k).getD (-1)) (hv : ∀ k v, o k = some v → ¬ v = -1) : ∀ (k fuel : Nat) (b : Int32), k ≤ K → k < fuel → ip_lp2 (fPR_fillGaps_B11 rf) fuel b (nI k - 1) = some (f_seed o k b, -1) := by
  intro k
  induction k with
  | zero =>
    intro fuel b _ hf
    obtain ⟨f, rfl⟩ : ∃ f, fuel = f + 1 := ⟨fuel - 1, by omega⟩
    refine l_ex2 ?_
    unfold fPR_fillGaps_B11
    rw [if_pos ((n1_lt0 (by omega)).mpr rfl)]
    rfl
  | succ k ih =>
    intro fuel b hk hf
    obtain ⟨f, rfl⟩ : ∃ f, fuel = f + 1 := ⟨fuel - 1, by omega⟩
    have e1 : nI (k + 1) - 1 = nI k := nI_pred k
    have step : fPR_fillGaps_B11 rf b (nI (k + 1) - 1) = some (.inl ((o k).getD b, nI k - 1)) := by
      unfold fPR_fillGaps_B11
      rw [e1, if_neg (nI_pos (by omega)), ip_ald_n (by omega) (by omega), e_b1, e_b1, hr k (by omega), show nI k + (-1 : Int32) = nI k - 1 from (Int32.sub_eq_add_neg _ _).symm]
      cases ho : o k with
      | none =>
        show ip_b1 (if (-1 : Int32) = -1 then some b else some (-1)) _ = _
        rw [if_pos rfl, e_b1, e_lt]
        rfl
      | some v =>
        show ip_b1 (if v = -1 then some b else some v) _ = _
        rw [if_neg (hv k v ho), e_b1, e_lt]
        rfl
    rw [l_in2 step]
    exact ih f _ (by omega) (by omega)
theorem q_runX (o : Nat → Option Int32) {m : Nat} (hm : m = 4 ∨ m = 8) (hv : ∀ k v, o k = some v → ¬ v = -1) (b0 : Int32) : ∀ (k i fuel : Nat) (b : Int32) (rf : Nat → Int32), i + k = 4 * m + 1 → k < fuel → (∀ j, i ≤ j → j ≤ 4 * m → rf j = (o j).getD (-1)) → (b = if i = 0 then b0 else f_row o b0 (i - 1)) → ∃ (b1 : Int32) (rf1 : Nat → Int32), ip_lp3 (fPR_fillGaps_B44 (nI m)) fuel b (nI i) rf = some (b1, nI (4 * m + 1), rf1) ∧ (∀ j, i ≤ j → j ≤ 4 * m → rf1 j = f_row o b0 j) ∧ ∀ j, j < i → rf1 j = rf j := by
  intro k
  induction k with
  | zero =>
    intro i fuel b rf hi hf hr hb
    obtain ⟨f, rfl⟩ : ∃ f, fuel = f + 1 := ⟨fuel - 1, by omega⟩
    have e : i = 4 * m + 1 := by omega
    subst e
    refine ⟨b, rf, l_ex3 ?_, fun j h1 h2 => by omega, fun j _ => rfl⟩
    unfold fPR_fillGaps_B44
    rw [show (4 : Int32) * nI m = nI (4 * m) from pk_mul 4 m, if_pos (nI_lt (by omega) (by omega))]
  | succ k ih =>
    intro i fuel b rf hi hf hr hb
    obtain ⟨f, rfl⟩ : ∃ f, fuel = f + 1 := ⟨fuel - 1, by omega⟩
    have hrow : (o i).getD b = f_row o b0 i := by
      cases i with
      | zero => rw [hb]; rfl
      | succ i => rw [hb]; rfl
    have step : fPR_fillGaps_B44 (nI m) b (nI i) rf = some (.inl (f_row o b0 i, nI (i + 1), upd rf i (f_row o b0 i))) := by
      unfold fPR_fillGaps_B44
      rw [show (4 : Int32) * nI m = nI (4 * m) from pk_mul 4 m, if_neg (nI_nlt (by omega) (by omega)), ip_ald_n (by omega) (by omega), e_b1, e_b1, hr i (Nat.le_refl _) (by omega)]
      have e2 : (if (o i).getD (-1) = (-1 : Int32) then some b else some ((o i).getD (-1))) = some (f_row o b0 i) := by
        rw [← hrow]
        cases ho : o i with
        | none => rfl
        | some v =>
          show (if v = -1 then some b else some v) = some v
          rw [if_neg (hv i v ho)]
      rw [e2, e_b1, ip_ast_n (by omega) (by omega), e_b1, e_lt, nI_1]
    obtain ⟨b1, rf1, h1, h2, h3⟩ := ih (i + 1) f (f_row o b0 i) (upd rf i (f_row o b0 i)) (by omega) (by omega) (fun j g1 g2 => by rw [u_n (by omega)]; exact hr j (by omega) g2) (by rw [if_neg (by omega)]; rfl)
    refine ⟨b1, rf1, by rw [l_in3 step]; exact h1, fun j g1 g2 => ?_, fun j g1 => by rw [h3 j (by omega), u_n (by omega)]⟩
    by_cases e : j = i
    · subst e
      rw [h3 j (by omega), u_0]
    · exact h2 j (by omega) g2
theorem q_gaps (o : Nat → Option Int32) (rf : Nat → Int32) {m : Nat} (hm : m = 4 ∨ m = 8) (hr : ∀ k, k ≤ 4 * m → rf k = (o k).getD (-1)) (hv : ∀ k v, o k = some v → ¬ v = -1) : ∃ rf1 : Nat → Int32, fPR_fillGaps (nI m) rf = some rf1 ∧ ∀ k, k ≤ 4 * m → rf1 k = f_raw o m k := by
  have h1 := q_seedX o rf (K := 4 * m + 1) (by omega) (fun k hk => hr k (by omega)) hv (4 * m + 1) 1000 128 (Nat.le_refl _) (by omega)
  obtain ⟨b1, rf1, h2, h3, -⟩ := q_runX o hm hv (f_seed o (4 * m + 1) 128) (4 * m + 1) 0 1000 (f_seed o (4 * m + 1) 128) rf (by omega) (by omega) (fun j _ g2 => hr j g2) (by rw [if_pos rfl])
  refine ⟨rf1, ?_, fun k hk => h3 k (by omega) hk⟩
  unfold fPR_fillGaps
  rw [show nI (4 * m + 1) - 1 = nI (4 * m) from nI_pred _] at h1
  rw [e_lt, show (4 : Int32) * nI m = nI (4 * m) from pk_mul 4 m, h1, e_b2, show (0 : Int32) = nI 0 from rfl, h2, e_b3]
theorem q_smoo (rf un raw : Nat → Int32) (hr : ∀ k, k ≤ 32 → rf k = raw k) : ∃ rf1 un1 : Nat → Int32, fPR_smooth (nI 8) rf un = some (rf1, un1) ∧ ∀ k, k ≤ 32 → rf1 k = f_sm true 8 raw k := by
  have hc : ∀ j, j < 33 → va_cpy rf un (0 : Int32).toNatClampNeg (0 : Int32).toNatClampNeg (33 : Int32).toNatClampNeg j = raw j := by
    intro j hj
    show va_cpy rf un 0 0 33 j = raw j
    rw [pk_cpy_in (by omega) (by omega), ← hr j (by omega)]
    congr 1
    omega
  unfold fPR_smooth
  rw [e_lt]
  generalize va_cpy rf un (0 : Int32).toNatClampNeg (0 : Int32).toNatClampNeg (33 : Int32).toNatClampNeg = cp at hc ⊢
  have outer : ip_lp2 (fPR_smooth_B17 (nI 8) cp) 1000 (nI 1) rf = some (nI 32, s_it (fun i g => upd g i ((((raw (i - 1) + (2 * raw i)) + raw (i + 1)) + 2) >>> ((2 : Int32) &&& 31))) 31 1 rf) := by
    have key : ∀ (k i fuel : Nat) (g : Nat → Int32), 1 ≤ i → i + k = 32 → k < fuel → ip_lp2 (fPR_smooth_B17 (nI 8) cp) fuel (nI i) g = some (nI 32, s_it (fun i g => upd g i ((((raw (i - 1) + (2 * raw i)) + raw (i + 1)) + 2) >>> ((2 : Int32) &&& 31))) k i g) := by
      intro k
      induction k with
      | zero =>
        intro i fuel g _ hi hf
        obtain ⟨f, rfl⟩ : ∃ f, fuel = f + 1 := ⟨fuel - 1, by omega⟩
        have e : i = 32 := by omega
        subst e
        refine l_ex2 ?_
        unfold fPR_smooth_B17
        rw [if_pos (show (4 : Int32) * nI 8 ≤ nI 32 by decide)]
        rfl
      | succ k ih =>
        intro i fuel g h1 hi hf
        obtain ⟨f, rfl⟩ : ∃ f, fuel = f + 1 := ⟨fuel - 1, by omega⟩
        have step : fPR_smooth_B17 (nI 8) cp (nI i) g = some (.inl (nI (i + 1), upd g i ((((raw (i - 1) + (2 * raw i)) + raw (i + 1)) + 2) >>> ((2 : Int32) &&& 31)))) := by
          unfold fPR_smooth_B17
          rw [show (4 : Int32) * nI 8 = nI 32 from rfl, if_neg (nI_ge (by omega) (by omega)), show nI i - (1 : Int32) = nI (i - 1) from pk_sub (b := 1) h1, ip_ald_n (by omega) (by omega), e_b1, ip_ald_n (by omega) (by omega), e_b1, nI_1, ip_ald_n (by omega) (by omega), e_b1, ip_ast_n (by omega) (by omega), e_b1, e_lt, hc _ (by omega), hc _ (by omega), hc _ (by omega)]
        rw [l_in2 step, ih (i + 1) f _ (by omega) (by omega) (by omega)]
        rfl
    exact key 31 1 1000 rf (by omega) (by omega) (by omega)
  rw [show (1 : Int32) = nI 1 from rfl, outer, e_b2]
  refine ⟨_, _, rfl, fun k hk => ?_⟩
  unfold f_sm
  by_cases h : 0 < k ∧ k < 4 * 8
  · rw [if_pos ⟨rfl, h⟩]
    exact it_in (ix := fun i => i) (v := fun i => (((raw (i - 1) + (2 * raw i)) + raw (i + 1)) + 2) >>> ((2 : Int32) &&& 31)) 31 1 rf k (by omega) (by omega) (fun x2 _ _ e => e)
  · rw [if_neg (fun q => h q.2), ← hr k hk]
    exact it_out (ix := fun i => i) 31 1 rf k (fun x h1 h2 => by omega)
