/-! a leaf is built: the class -/
theorem s_it_cong {t t2 : Nat → Int32} : ∀ (k i : Nat) (a : Int32), (∀ j, i ≤ j → j < i + k → t j = t2 j) → s_it (fun j s => s + t j) k i a = s_it (fun j s => s + t2 j) k i a := by
  intro k
  induction k with
  | zero => intro i a _; rfl
  | succ k ih =>
    intro i a h
    show s_it (fun j s => s + t j) k (i + 1) (a + t i) = s_it (fun j s => s + t2 j) k (i + 1) (a + t2 i)
    rw [h i (Nat.le_refl _) (by omega)]
    exact ih (i + 1) _ (fun j h1 h2 => h j (by omega) (by omega))
theorem p_val_cong {m md x y : Nat} {r r2 : Nat → Int32} (hm : m = 4 ∨ m = 8) (hx : x < m) (hy : y < m) (h : ∀ k, k ≤ 4 * m → r k = r2 k) : p_val m md r x y = p_val m md r2 x y := by
  have hs : s_it (fun k s => s + (r (2 * m - 1 - k) + r (2 * m + 1 + k))) m 0 (nI m) = s_it (fun k s => s + (r2 (2 * m - 1 - k) + r2 (2 * m + 1 + k))) m 0 (nI m) := s_it_cong m 0 _ (fun j _ h2 => by rw [h _ (by omega), h _ (by omega)])
  unfold p_val
  rw [hs, h (2 * m - 1 - y) (by omega), h (3 * m + 1) (by omega), h (2 * m + 1 + x) (by omega), h (m - 1) (by omega), h (2 * m + 1 + (x + 13 * (y + 1) / 32)) (by omega), h (2 * m + 1 + (x + 13 * (y + 1) / 32 + 1)) (by omega), h (2 * m + 1 + (x + y + 1)) (by omega), h (2 * m - 1 - (y + 26 * (x + 1) / 32)) (by omega), h (2 * m - 1 - (y + 26 * (x + 1) / 32 + 1)) (by omega), h (2 * m + x - y) (by omega)]
def ixp (x0 y0 : Nat) : Nat → Nat → Nat := fun y x => 16 * (y0 + y) + x0 + x
def smt (m md : Nat) : Bool := decide (m = 8 ∧ (md = 0 ∨ md = 5 ∨ md = 7))
theorem ixp_lt {x0 y0 m y x : Nat} (hx0 : x0 + m ≤ 16) (hy0 : y0 + m ≤ 16) (hy : y < m) (hx : x < m) : ixp x0 y0 y x < 256 := by
  unfold ixp
  omega
theorem ixp_inj {x0 y0 m y x y2 x2 : Nat} (hx0 : x0 + m ≤ 16) (hx : x < m) (hx2 : x2 < m) (h : ixp x0 y0 y2 x2 = ixp x0 y0 y x) : y2 = y ∧ x2 = x := by
  unfold ixp at h
  omega
def f_rw (th : Nat → Bool) (pl : Nat → Int32) (x0 y0 m md : Nat) : Nat → Int32 := f_sm (smt m md) m (f_raw (f_op th pl x0 y0 m) m)
theorem q_prdX (sk ps : Int32) (pl pd sides rf un : Nat → Int32) {m md x0 y0 : Nat} (hm : m = 4 ∨ m = 8) (hmd : md ≤ 7) (hx : x0 + m ≤ 16) (hy : y0 + m ≤ 16) (hv : ∀ p, p < 256 → ¬ sides p = 0 → ¬ pl p = -1) : ∃ rf1 un1 : Nat → Int32, fPR_predict (nI x0) (nI y0) (nI m) (nI md) sk ps pl pd sides rf un = some (nI m, d_put m (ixp x0 y0) (fun y x => p_val m md (f_rw (xth sides) pl x0 y0 m md) x y) pd, rf1, un1) := by
  have lit : ∀ c : Nat, c ≤ 7 → (nI md = nI c ↔ md = c) := fun c hc => nI_eq (by omega) (by omega)
  have hov : ∀ k v, f_op (xth sides) pl x0 y0 m k = some v → ¬ v = -1 := by
    intro k v ho
    unfold f_op at ho
    by_cases h : (1 ≤ x0 + (k - 2 * m) ∧ x0 + (k - 2 * m) ≤ 16 ∧ 1 ≤ y0 + (2 * m - k) ∧ y0 + (2 * m - k) ≤ 16) ∧ xth sides (f_p x0 y0 m k) = true
    · rw [if_pos h] at ho
      have e := Option.some.inj ho
      rw [← e]
      exact hv _ (f_p_lt h.1) (by have := h.2; unfold xth at this; simpa using this)
    · rw [if_neg h] at ho
      cases ho
  obtain ⟨r1, c1, c2⟩ := q_colct (nI md) sk (nI m) pl sides rf hm hx hy
  obtain ⟨r2, c3, c4⟩ := q_gaps (f_op (xth sides) pl x0 y0 m) r1 hm c2 hov
  have hsm : ∃ r3 u3 : Nat → Int32, (if nI m = (8 : Int32) then (if nI md = 0 then ip_b2 (fPR_smooth (nI m) r2 un) (fun g5 g6 => some (g5, g6)) else (if nI md = (5 : Int32) then ip_b2 (fPR_smooth (nI m) r2 un) (fun g7 g8 => some (g7, g8)) else (if nI md = (7 : Int32) then ip_b2 (fPR_smooth (nI m) r2 un) (fun g9 g10 => some (g9, g10)) else some (r2, un)))) else some (r2, un)) = some (r3, u3) ∧ ∀ k, k ≤ 4 * m → r3 k = f_rw (xth sides) pl x0 y0 m md k := by
    have keep : smt m md = false → ∀ k, k ≤ 4 * m → r2 k = f_rw (xth sides) pl x0 y0 m md k := by
      intro hb k hk
      unfold f_rw f_sm
      rw [if_neg (fun q => by rw [hb] at q; exact absurd q.1 (by decide)), c4 k hk]
    rcases hm with rfl | rfl
    · rw [if_neg (show ¬ nI 4 = (8 : Int32) by decide)]
      exact ⟨r2, un, rfl, keep (by unfold smt; simp)⟩
    · rw [if_pos (show nI 8 = (8 : Int32) from rfl)]
      obtain ⟨r3, u3, s1, s2⟩ := q_smoo r2 un (f_raw (f_op (xth sides) pl x0 y0 8) 8) (fun k hk => c4 k (by omega))
      have done : smt 8 md = true → ∀ k, k ≤ 4 * 8 → r3 k = f_rw (xth sides) pl x0 y0 8 md k := by
        intro hb k hk
        rw [s2 k (by omega)]
        unfold f_rw
        rw [hb]
      by_cases h0 : md = 0
      · rw [if_pos (show nI md = 0 from (lit 0 (by omega)).mpr h0), s1, e_b2]
        exact ⟨r3, u3, rfl, done (by unfold smt; simp [h0])⟩
      · rw [if_neg (show ¬ nI md = 0 from fun q => h0 ((lit 0 (by omega)).mp q))]
        by_cases h5 : md = 5
        · rw [if_pos (show nI md = (5 : Int32) from (lit 5 (by omega)).mpr h5), s1, e_b2]
          exact ⟨r3, u3, rfl, done (by unfold smt; simp [h5])⟩
        · rw [if_neg (show ¬ nI md = (5 : Int32) from fun q => h5 ((lit 5 (by omega)).mp q))]
          by_cases h7 : md = 7
          · rw [if_pos (show nI md = (7 : Int32) from (lit 7 (by omega)).mpr h7), s1, e_b2]
            exact ⟨r3, u3, rfl, done (by unfold smt; simp [h7])⟩
          · rw [if_neg (show ¬ nI md = (7 : Int32) from fun q => h7 ((lit 7 (by omega)).mp q))]
            exact ⟨r2, un, rfl, keep (by unfold smt; simp [h0, h5, h7])⟩
  obtain ⟨r3, u3, c5, c6⟩ := hsm
  have hmean : ∃ mn : Int32, (if nI md = (1 : Int32) then ip_b1 (fPR_mean (nI m) r3) (fun z12 => some z12) else some (0 : Int32)) = some mn ∧ (md = 1 → ∀ x y, x < m → y < m → mn = p_val m md (f_rw (xth sides) pl x0 y0 m md) x y) := by
    by_cases h1 : md = 1
    · rw [if_pos (show nI md = (1 : Int32) from (lit 1 (by omega)).mpr h1), q_meanX r3 hm 0 0, e_b1]
      refine ⟨_, rfl, fun _ x y hx2 hy2 => ?_⟩
      rw [← p_val_cong hm hx2 hy2 c6]
      subst h1
      unfold p_val
      rw [if_neg (show ¬ (1 : Nat) = 0 by decide), if_pos rfl, if_neg (show ¬ (1 : Nat) = 0 by decide), if_pos rfl]
    · rw [if_neg (show ¬ nI md = (1 : Int32) from fun q => h1 ((lit 1 (by omega)).mp q))]
      exact ⟨_, rfl, fun q => absurd q h1⟩
  obtain ⟨mn, c7, c8⟩ := hmean
  refine ⟨r3, u3, ?_⟩
  have inner : ∀ y, y < m → ∀ g, ip_lp2 (fPR_predict_B84 (nI x0) (nI y0) (nI m) (nI md) sk r3 mn (nI y)) 1000 (nI 0) g = some (nI m, s_it (fun x g => upd g (ixp x0 y0 y x) (p_val m md (f_rw (xth sides) pl x0 y0 m md) x y)) m 0 g) := by
    intro y hy2 g
    refine lp_it _ (fun x g hx2 => ?_) (fun g => ?_) m 0 1000 g (by omega) (by omega)
    · have ev : (if nI md = (1 : Int32) then some mn else ip_b1 (fPR_predictAt (nI m) r3 (nI md) (nI x) (nI y)) (fun z22 => some z22)) = some (p_val m md (f_rw (xth sides) pl x0 y0 m md) x y) := by
        by_cases h1 : md = 1
        · rw [if_pos (show nI md = (1 : Int32) from (lit 1 (by omega)).mpr h1), c8 h1 x y hx2 hy2]
        · rw [if_neg (show ¬ nI md = (1 : Int32) from fun q => h1 ((lit 1 (by omega)).mp q)), q_predX r3 hm hmd h1 hx2 hy2, e_b1, p_val_cong hm hx2 hy2 c6]
      unfold fPR_predict_B84
      rw [if_neg (nI_ge hx2 (by omega)), ev, e_b1, q_place, e_b1, show 16 * (y0 + y) + x0 + x = ixp x0 y0 y x from rfl, ip_ast_n (ixp_lt hx hy hy2 hx2) (by omega), e_b1, e_lt, nI_1]
    · unfold fPR_predict_B84
      rw [if_pos (nI_le (Nat.le_refl _) (by omega))]
  have outer : ip_lp2 (fPR_predict_B73 (nI x0) (nI y0) (nI m) (nI md) sk r3 mn) 1000 (nI 0) pd = some (nI m, d_put m (ixp x0 y0) (fun y x => p_val m md (f_rw (xth sides) pl x0 y0 m md) x y) pd) := by
    refine lp_it _ (fun y g hy2 => ?_) (fun g => ?_) m 0 1000 pd (by omega) (by omega)
    · unfold fPR_predict_B73
      rw [if_neg (nI_ge hy2 (by omega)), show (0 : Int32) = nI 0 from rfl, inner y hy2 g, e_b2, e_lt, nI_1]
    · unfold fPR_predict_B73
      rw [if_pos (nI_le (Nat.le_refl _) (by omega))]
  unfold fPR_predict
  rw [c1, e_b1, c3, e_b1, c5, e_b2, c7, e_b1, show ip_lp2 (fPR_predict_B73 (nI x0) (nI y0) (nI m) (nI md) sk r3 mn) 1000 (0 : Int32) pd = _ from outer, e_b2]
theorem lp_it4 {B : Int32 → (Nat → Int32) → (Nat → Int32) → (Nat → Int32) → Option ((Int32 × (Nat → Int32) × (Nat → Int32) × (Nat → Int32)) ⊕ (Int32 × (Nat → Int32) × (Nat → Int32) × (Nat → Int32)))} {m : Nat} (F G K : Nat → (Nat → Int32) → (Nat → Int32)) (hs : ∀ x g h l, x < m → B (nI x) g h l = some (.inl (nI (x + 1), F x g, G x h, K x l))) (hx : ∀ g h l, B (nI m) g h l = some (.inr (nI m, g, h, l))) : ∀ (k i fuel : Nat) (g h l : Nat → Int32), i + k = m → k < fuel → ip_lp4 B fuel (nI i) g h l = some (nI m, s_it F k i g, s_it G k i h, s_it K k i l) := by
  intro k
  induction k with
  | zero =>
    intro i fuel g h l hi hf
    obtain ⟨f, rfl⟩ : ∃ f, fuel = f + 1 := ⟨fuel - 1, by omega⟩
    have e : i = m := by omega
    subst e
    exact l_ex4 (hx g h l)
  | succ k ih =>
    intro i fuel g h l hi hf
    obtain ⟨f, rfl⟩ : ∃ f, fuel = f + 1 := ⟨fuel - 1, by omega⟩
    rw [l_in4 (hs i g h l (by omega)), ih (i + 1) f _ _ _ (by omega) (by omega)]
    rfl
/-- what a leaf's samples are -/
def b_val (th : Nat → Bool) (pl lv : Nat → Int32) (x0 y0 m md q : Nat) (sk : Int32) (x y : Nat) : Int32 := hold (p_val m md (f_rw th pl x0 y0 m md) x y + r_res m sk (fun x y => r_coef lv q m x0 y0 x y) x y) 0 255
theorem q_build (sk lvs ps : Int32) (vals pl pd lv mo sides cf bt rs rf un : Nat → Int32) {m md x0 y0 q : Nat} (hm : m = 4 ∨ m = 8) (hmd : md ≤ 7) (hx : x0 + m ≤ 16) (hy : y0 + m ≤ 16) (hq : vals 0 = nI q) (hq2 : q ≤ 51) (hv : ∀ p, p < 256 → ¬ sides p = 0 → ¬ pl p = -1) : ∃ cf1 bt1 rs1 rf1 un1 : Nat → Int32, fPI_buildLeaf (nI x0) (nI y0) (nI m) (nI md) sk lvs ps vals pl pd lv mo sides cf bt rs rf un = some (nI m, d_put m (ixp x0 y0) (fun y x => b_val (xth sides) pl lv x0 y0 m md q sk x y) pl, d_put m (ixp x0 y0) (fun y x => p_val m md (f_rw (xth sides) pl x0 y0 m md) x y) pd, d_put m (ixp x0 y0) (fun _ _ => nI md) mo, d_put m (ixp x0 y0) (fun _ _ => nI m) sides, cf1, bt1, rs1, rf1, un1) := by
  obtain ⟨cf1, bt1, rs1, r1, r2⟩ := q_resX (nI md) sk lv cf bt rs hm hx hy hq2
  obtain ⟨rf1, un1, p1⟩ := q_prdX sk ps pl pd sides rf un hm hmd hx hy hv
  refine ⟨cf1, bt1, rs1, rf1, un1, ?_⟩
  have hp : ∀ y x, y < m → x < m → d_put m (ixp x0 y0) (fun y x => p_val m md (f_rw (xth sides) pl x0 y0 m md) x y) pd (ixp x0 y0 y x) = p_val m md (f_rw (xth sides) pl x0 y0 m md) x y := fun y x h1 h2 => d_put_in h1 h2 (fun y2 x2 g1 g2 e => ixp_inj hx h2 g2 e)
  unfold fPI_buildLeaf
  rw [e_ald 10 vals 0 0 rfl (by omega) (by omega), hq, e_b1, r1, e_b3, p1, e_b4]
  generalize d_put m (ixp x0 y0) (fun y x => p_val m md (f_rw (xth sides) pl x0 y0 m md) x y) pd = pd1 at hp ⊢
  have inner : ∀ y, y < m → ∀ g h l, ip_lp4 (fPI_buildLeaf_B43 (nI x0) (nI y0) (nI m) (nI md) sk rs1 pd1 (nI y)) 1000 (nI 0) g h l = some (nI m, s_it (fun x g => upd g (ixp x0 y0 y x) (b_val (xth sides) pl lv x0 y0 m md q sk x y)) m 0 g, s_it (fun x g => upd g (ixp x0 y0 y x) (nI md)) m 0 h, s_it (fun x g => upd g (ixp x0 y0 y x) (nI m)) m 0 l) := by
    intro y hy2 g h l
    refine lp_it4 _ _ _ (fun x g h l hx2 => ?_) (fun g h l => ?_) m 0 1000 g h l (by omega) (by omega)
    · have hix := ixp_lt hx hy hy2 hx2
      unfold fPI_buildLeaf_B43
      rw [if_neg (nI_ge hx2 (by omega)), q_place, e_b1, pk_mul, nI_add, ip_ald_n (sq_lt hm hy2 hx2).1 (by omega), e_b1, r2 y x hy2 hx2, show 16 * (y0 + y) + x0 + x = ixp x0 y0 y x from rfl, ip_ald_n hix (by omega), e_b1, hp y x hy2 hx2, q_bring _ (by decide), e_b1, ip_ast_n hix (by omega), e_b1, ip_ast_n hix (by omega), e_b1, ip_ast_n hix (by omega), e_b1, e_lt, nI_1]
      rfl
    · unfold fPI_buildLeaf_B43
      rw [if_pos (nI_le (Nat.le_refl _) (by omega))]
  have outer : ip_lp4 (fPI_buildLeaf_B30 (nI x0) (nI y0) (nI m) (nI md) sk rs1 pd1) 1000 (nI 0) pl mo sides = some (nI m, d_put m (ixp x0 y0) (fun y x => b_val (xth sides) pl lv x0 y0 m md q sk x y) pl, d_put m (ixp x0 y0) (fun _ _ => nI md) mo, d_put m (ixp x0 y0) (fun _ _ => nI m) sides) := by
    refine lp_it4 _ _ _ (fun y g h l hy2 => ?_) (fun g h l => ?_) m 0 1000 pl mo sides (by omega) (by omega)
    · unfold fPI_buildLeaf_B30
      rw [if_neg (nI_ge hy2 (by omega)), show (0 : Int32) = nI 0 from rfl, inner y hy2 g h l, e_b4, e_lt, nI_1]
    · unfold fPI_buildLeaf_B30
      rw [if_pos (nI_le (Nat.le_refl _) (by omega))]
  rw [show ip_lp4 (fPI_buildLeaf_B30 (nI x0) (nI y0) (nI m) (nI md) sk rs1 pd1) 1000 (0 : Int32) pl mo sides = _ from outer, e_b4]
