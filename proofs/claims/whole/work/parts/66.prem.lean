/-! the reference's prediction, a leaf restored -/
theorem q_leftM (a1 a2 a3 a4 a5 a6 a7 a8 a9 : Int32) {sides : Nat → Int32} (r : Nat → Int32) {e m k : Nat} (he : e < 16) (hsd : sides e = nI m) (hm : m = 4 ∨ m = 8) (hk : k < 2 * m) : fMO_toLeft a1 a2 a3 a4 a5 a6 a7 a8 a9 sides r (nI e) (nI k) = some (r (2 * m - 1 - k)) := by
  have e1 : (((2 : Int32) * nI m) - (1 : Int32)) - nI k = nI (2 * m - 1 - k) := by
    rw [show (2 : Int32) = nI 2 from rfl, pk_mul, show nI (2 * m) - (1 : Int32) = nI (2 * m - 1) from pk_sub (b := 1) (by omega), pk_sub (by omega)]
  unfold fMO_toLeft
  rw [ip_ald_n he (by omega), hsd, e_b1, e1, ip_ald_n (by omega) (by omega), e_b1]
theorem q_abovM (a1 a2 a3 a4 a5 a6 a7 a8 a9 : Int32) {sides : Nat → Int32} (r : Nat → Int32) {e m k : Nat} (he : e < 16) (hsd : sides e = nI m) (hm : m = 4 ∨ m = 8) (hk : k < 2 * m) : fMO_above a1 a2 a3 a4 a5 a6 a7 a8 a9 sides r (nI e) (nI k) = some (r (2 * m + 1 + k)) := by
  have e1 : (((2 : Int32) * nI m) + (1 : Int32)) + nI k = nI (2 * m + 1 + k) := by
    rw [show (2 : Int32) = nI 2 from rfl, pk_mul, nI_1, nI_add]
  unfold fMO_above
  rw [ip_ald_n he (by omega), hsd, e_b1, e1, ip_ald_n (by omega) (by omega), e_b1]
theorem q_predM (a1 a2 a3 a4 a5 a6 a7 a8 a9 : Int32) {sides modes : Nat → Int32} (r : Nat → Int32) {e m md x y : Nat} (he : e < 16) (hsd : sides e = nI m) (hmo : modes e = nI md) (hmd : md ≤ 7) (hm : m = 4 ∨ m = 8) (hx : x < m) (hy : y < m) : fMO_predict a1 a2 a3 a4 a5 a6 a7 a8 a9 sides modes r (nI e) (nI x) (nI y) = some (p_val m md r x y) := by
  have lit : ∀ c : Nat, c ≤ 7 → (nI md = nI c ↔ md = c) := fun c hc => nI_eq (by omega) (by omega)
  have h1 : ip_ald 16 sides (nI e) = some (nI m) := by rw [ip_ald_n he (by omega), hsd]
  have h2 : ip_ald 16 modes (nI e) = some (nI md) := by rw [ip_ald_n he (by omega), hmo]
  have ea : (13 : Int32) * (nI y + (1 : Int32)) = nI (13 * (y + 1)) := by rw [nI_1]; exact pk_mul 13 (y + 1)
  have eb : (26 : Int32) * (nI x + (1 : Int32)) = nI (26 * (x + 1)) := by rw [nI_1]; exact pk_mul 26 (x + 1)
  have lf : ∀ k, k < 2 * m → fMO_toLeft a1 a2 a3 a4 a5 a6 a7 a8 a9 sides r (nI e) (nI k) = some (r (2 * m - 1 - k)) := fun k hk => q_leftM a1 a2 a3 a4 a5 a6 a7 a8 a9 r he hsd hm hk
  have ab : ∀ k, k < 2 * m → fMO_above a1 a2 a3 a4 a5 a6 a7 a8 a9 sides r (nI e) (nI k) = some (r (2 * m + 1 + k)) := fun k hk => q_abovM a1 a2 a3 a4 a5 a6 a7 a8 a9 r he hsd hm hk
  unfold fMO_predict p_val
  rw [h1, e_b1, e_lt, e_lt, h2, e_b1, ea, eb]
  by_cases h0 : md = 0
  · have e1 : (nI m - (1 : Int32)) - nI x = nI (m - 1 - x) := by
      rw [show nI m - (1 : Int32) = nI (m - 1) from pk_sub (b := 1) (by omega), pk_sub (by omega)]
    have e2 : (nI m - (1 : Int32)) - nI y = nI (m - 1 - y) := by
      rw [show nI m - (1 : Int32) = nI (m - 1) from pk_sub (b := 1) (by omega), pk_sub (by omega)]
    rw [if_pos (show nI md = (0 : Int32) from (lit 0 (by omega)).mpr h0), if_pos h0, lf y (by omega), e_b1, ab m (by omega), e_b1, ab x (by omega), e_b1, lf m (by omega), e_b1, q_div _ hm, e_b1, e1, e2, nI_1, nI_1, show 2 * m + 1 + m = 3 * m + 1 by omega, show 2 * m - 1 - m = m - 1 by omega]
    congr 2
    rw [← Int32.add_assoc]
  · rw [if_neg (show ¬ nI md = (0 : Int32) from fun q => h0 ((lit 0 (by omega)).mp q)), if_neg h0]
    by_cases h1x : md = 1
    · rw [if_pos (show nI md = (1 : Int32) from (lit 1 (by omega)).mpr h1x), if_pos h1x]
      have sum : ip_lp2 (fMO_mean_B12 a1 a2 a3 a4 a5 a6 a7 a8 a9 sides r (nI e) (nI m)) 1000 (nI m) (nI 0) = some (s_it (fun k s => s + (r (2 * m - 1 - k) + r (2 * m + 1 + k))) m 0 (nI m), nI m) := by
        refine lp_sum (fun k => r (2 * m - 1 - k) + r (2 * m + 1 + k)) (fun k a hk => ?_) (fun a => ?_) m 0 1000 (nI m) (by omega) (by omega)
        · unfold fMO_mean_B12
          rw [if_neg (nI_ge hk (by omega)), lf k (by omega), e_b1, ab k (by omega), e_b1, e_lt, e_lt, nI_1]
        · unfold fMO_mean_B12
          rw [if_pos (nI_le (Nat.le_refl _) (by omega))]
      unfold fMO_mean
      rw [h1, e_b1, show ip_lp2 (fMO_mean_B12 a1 a2 a3 a4 a5 a6 a7 a8 a9 sides r (nI e) (nI m)) 1000 (nI m) (0 : Int32) = _ from sum, e_b2, q_div _ hm, e_b1, e_b1]
    · rw [if_neg (show ¬ nI md = (1 : Int32) from fun q => h1x ((lit 1 (by omega)).mp q)), if_neg h1x]
      by_cases h2 : md = 2
      · rw [if_pos (show nI md = (2 : Int32) from (lit 2 (by omega)).mpr h2), if_pos h2, lf y (by omega), e_b1]
      · rw [if_neg (show ¬ nI md = (2 : Int32) from fun q => h2 ((lit 2 (by omega)).mp q)), if_neg h2]
        by_cases h3 : md = 3
        · rw [if_pos (show nI md = (3 : Int32) from (lit 3 (by omega)).mpr h3), if_pos h3, ab x (by omega), e_b1]
        · rw [if_neg (show ¬ nI md = (3 : Int32) from fun q => h3 ((lit 3 (by omega)).mp q)), if_neg h3]
          by_cases h4 : md = 4
          · rw [if_pos (show nI md = (4 : Int32) from (lit 4 (by omega)).mpr h4), if_pos h4, show nI (13 * (y + 1)) - nI (13 * (y + 1)) / (32 : Int32) * (32 : Int32) = nI (13 * (y + 1) % 32) from pk_rem (d := 32) (by omega) (by omega) (by omega), show nI (13 * (y + 1)) / (32 : Int32) = nI (13 * (y + 1) / 32) from pk_div (d := 32) (by omega) (by omega) (by omega), nI_add, ab _ (by omega), e_b1, nI_1, ab _ (by omega), e_b1]
            rfl
          · rw [if_neg (show ¬ nI md = (4 : Int32) from fun q => h4 ((lit 4 (by omega)).mp q)), if_neg h4]
            by_cases h5 : md = 5
            · rw [if_pos (show nI md = (5 : Int32) from (lit 5 (by omega)).mpr h5), if_pos h5, nI_add, nI_1, ab _ (by omega), e_b1]
            · rw [if_neg (show ¬ nI md = (5 : Int32) from fun q => h5 ((lit 5 (by omega)).mp q)), if_neg h5]
              by_cases h6 : md = 6
              · rw [if_pos (show nI md = (6 : Int32) from (lit 6 (by omega)).mpr h6), if_pos h6, show nI (26 * (x + 1)) - nI (26 * (x + 1)) / (32 : Int32) * (32 : Int32) = nI (26 * (x + 1) % 32) from pk_rem (d := 32) (by omega) (by omega) (by omega), show nI (26 * (x + 1)) / (32 : Int32) = nI (26 * (x + 1) / 32) from pk_div (d := 32) (by omega) (by omega) (by omega), nI_add, lf _ (by omega), e_b1, nI_1, lf _ (by omega), e_b1]
                rfl
              · rw [if_neg (show ¬ nI md = (6 : Int32) from fun q => h6 ((lit 6 (by omega)).mp q)), if_neg h6, show (2 : Int32) * nI m = nI (2 * m) from pk_mul 2 m, nI_add, pk_sub (by omega), ip_ald_n (by omega) (by omega), e_b1]
theorem lp_it3 {B : Int32 → (Nat → Int32) → (Nat → Int32) → Option ((Int32 × (Nat → Int32) × (Nat → Int32)) ⊕ (Int32 × (Nat → Int32) × (Nat → Int32)))} {m : Nat} (F G : Nat → (Nat → Int32) → (Nat → Int32)) (hs : ∀ x g h, x < m → B (nI x) g h = some (.inl (nI (x + 1), F x g, G x h))) (hx : ∀ g h, B (nI m) g h = some (.inr (nI m, g, h))) : ∀ (k i fuel : Nat) (g h : Nat → Int32), i + k = m → k < fuel → ip_lp3 B fuel (nI i) g h = some (nI m, s_it F k i g, s_it G k i h) := by
  intro k
  induction k with
  | zero =>
    intro i fuel g h hi hf
    obtain ⟨f, rfl⟩ : ∃ f, fuel = f + 1 := ⟨fuel - 1, by omega⟩
    have e : i = m := by omega
    subst e
    exact l_ex3 (hx g h)
  | succ k ih =>
    intro i fuel g h hi hf
    obtain ⟨f, rfl⟩ : ∃ f, fuel = f + 1 := ⟨fuel - 1, by omega⟩
    rw [l_in3 (hs i g h (by omega)), ih (i + 1) f _ _ (by omega) (by omega)]
    rfl
theorem sq_ix {m k : Nat} (hm : m = 4 ∨ m = 8) : k / m * m + k % m = k := by
  rw [Nat.mul_comm]
  exact Nat.div_add_mod k m
theorem sq_dm {m y x : Nat} (hx : x < m) : (y * m + x) / m = y ∧ (y * m + x) % m = x := by
  constructor
  · rw [Nat.mul_comm, Nat.mul_add_div (by omega), Nat.div_eq_of_lt hx, Nat.add_zero]
  · rw [Nat.mul_comm, Nat.mul_add_mod, Nat.mod_eq_of_lt hx]
/-- a leaf restored: its guess and its samples, all else as it was -/
theorem q_restL (a1 a2 a3 a4 a5 a6 a7 a8 a9 : Int32) {given left top sides modes skips ow lv four wave scale : Nat → Int32} (gs fs rw_ raw : Nat → Int32) (ht : TabOK four wave scale) {e m md x0 y0 q L : Nat} (he : e < L) (hL : L ≤ 16) (ha9 : a9 = nI L) (hl : left e = nI x0) (htp : top e = nI y0) (hsd : sides e = nI m) (hmo : modes e = nI md) (hmd : md ≤ 7) (hg : given 0 = nI q) (hq : q ≤ 51) (hm : m = 4 ∨ m = 8) (hx0 : x0 + m ≤ 16) (hy0 : y0 + m ≤ 16) : ∃ gs1 fs1 rw1 raw1 : Nat → Int32, fMO_restore_B2 a1 a2 a3 a4 a5 a6 a7 a8 a9 given left top sides modes skips ow lv four wave scale (nI e) gs fs rw_ raw = some (.inl (nI (e + 1), gs1, fs1, rw1, raw1)) ∧ (∀ y x, y < m → x < m → gs1 (ixp x0 y0 y x) = p_val m md (f_rw (mth ow e) fs x0 y0 m md) x y ∧ fs1 (ixp x0 y0 y x) = b_val (mth ow e) fs lv x0 y0 m md q (skips e) x y) ∧ ∀ p, (∀ y x, y < m → x < m → p ≠ ixp x0 y0 y x) → gs1 p = gs p ∧ fs1 p = fs p := by
  have he16 : e < 16 := by omega
  have hmm : m * m ≤ 64 := by rcases hm with rfl | rfl <;> omega
  obtain ⟨rw1, raw1, r1, r2⟩ := q_refsM a1 a2 a3 a4 a5 a6 a7 a8 a9 (ow := ow) (fs := fs) (rw_ := rw_) (raw := raw) he16 hl htp hsd hmo hmd hm hx0 hy0
  have loop : ip_lp3 (fMO_restore_B24 a1 a2 a3 a4 a5 a6 a7 a8 a9 given left top sides modes skips lv four wave scale (nI e) rw1 (nI m)) 1000 (nI 0) gs fs = some (nI (m * m), s_it (fun k g => upd g (ixp x0 y0 (k / m) (k % m)) (p_val m md (f_rw (mth ow e) fs x0 y0 m md) (k % m) (k / m))) (m * m) 0 gs, s_it (fun k g => upd g (ixp x0 y0 (k / m) (k % m)) (b_val (mth ow e) fs lv x0 y0 m md q (skips e) (k % m) (k / m))) (m * m) 0 fs) := by
    refine lp_it3 _ _ (fun k g h hk => ?_) (fun g h => ?_) (m * m) 0 1000 gs fs (by omega) (by omega)
    · obtain ⟨d1, d2⟩ := sq_div hm hk
      have ed : ip_div (nI k) (nI m) = some (nI (k / m)) := by
        unfold ip_div
        rw [if_neg (nI_ne0 (by omega) (by omega)), pk_div (by omega) (by omega) (by omega)]
      have er : ip_rem (nI k) (nI m) = some (nI (k % m)) := by
        unfold ip_rem
        rw [if_neg (nI_ne0 (by omega) (by omega)), pk_rem (by omega) (by omega) (by omega)]
      have h1 : ip_ald 16 top (nI e) = some (nI y0) := by rw [ip_ald_n he16 (by omega), htp]
      have h2 : ip_ald 16 left (nI e) = some (nI x0) := by rw [ip_ald_n he16 (by omega), hl]
      have ei : (((16 : Int32) * (nI y0 + nI (k / m))) + nI x0) + nI (k % m) = nI (ixp x0 y0 (k / m) (k % m)) := by
        rw [nI_add, show (16 : Int32) = nI 16 from rfl, pk_mul, nI_add, nI_add]
        rfl
      have hix := ixp_lt hx0 hy0 d1 d2
      unfold fMO_restore_B24
      rw [pk_mul, if_neg (nI_ge hk (by omega)), er, e_b1, ed, e_b1, h1, e_b1, h2, e_b1, ei, e_lt, q_predM a1 a2 a3 a4 a5 a6 a7 a8 a9 rw1 he16 hsd hmo hmd hm d2 d1, p_val_cong hm d2 d1 r2, e_b1, ip_ast_n hix (by omega), e_b1, ip_ald_n hix (by omega), e_b1, u_0, q_resM a1 a2 a3 a4 a5 a6 a7 a8 a9 ht he16 hl htp hsd hg hq hm hx0 hy0 d2 d1, e_b1, q_held, e_b1, ip_ast_n hix (by omega), e_b1, e_lt, nI_1]
      rfl
    · unfold fMO_restore_B24
      rw [pk_mul, if_pos (nI_le (Nat.le_refl _) (by omega))]
  have inj : ∀ k k2, k < m * m → k2 < m * m → ixp x0 y0 (k2 / m) (k2 % m) = ixp x0 y0 (k / m) (k % m) → k2 = k := by
    intro k k2 hk hk2 h
    obtain ⟨d1, d2⟩ := sq_div hm hk
    obtain ⟨d3, d4⟩ := sq_div hm hk2
    obtain ⟨i1, i2⟩ := ixp_inj hx0 d2 d4 h
    rw [← sq_ix (k := k) hm, ← sq_ix (k := k2) hm, i1, i2]
  refine ⟨s_it (fun k g => upd g (ixp x0 y0 (k / m) (k % m)) (p_val m md (f_rw (mth ow e) fs x0 y0 m md) (k % m) (k / m))) (m * m) 0 gs, s_it (fun k g => upd g (ixp x0 y0 (k / m) (k % m)) (b_val (mth ow e) fs lv x0 y0 m md q (skips e) (k % m) (k / m))) (m * m) 0 fs, rw1, raw1, ?_, fun y x hy hx => ?_, fun p hp => ?_⟩
  · unfold fMO_restore_B2
    rw [ha9, if_neg (nI_ge he (by omega)), ← ha9, r1, e_b2, ip_ald_n he16 (by omega), hsd, e_b1, show ip_lp3 (fMO_restore_B24 a1 a2 a3 a4 a5 a6 a7 a8 a9 given left top sides modes skips lv four wave scale (nI e) rw1 (nI m)) 1000 (0 : Int32) gs fs = _ from loop, e_b3, e_lt, nI_1]
  · obtain ⟨d1, d2⟩ := sq_dm (m := m) (y := y) hx
    have hk := (sq_lt hm hy hx).2
    constructor
    · have := it_in (ix := fun k => ixp x0 y0 (k / m) (k % m)) (v := fun k => p_val m md (f_rw (mth ow e) fs x0 y0 m md) (k % m) (k / m)) (m * m) 0 gs (y * m + x) (by omega) (by omega) (fun k2 _ h2 q => inj _ _ hk (by omega) q)
      simp only [d1, d2] at this
      exact this
    · have := it_in (ix := fun k => ixp x0 y0 (k / m) (k % m)) (v := fun k => b_val (mth ow e) fs lv x0 y0 m md q (skips e) (k % m) (k / m)) (m * m) 0 fs (y * m + x) (by omega) (by omega) (fun k2 _ h2 q => inj _ _ hk (by omega) q)
      simp only [d1, d2] at this
      exact this
  · have hp2 : ∀ k, 0 ≤ k → k < 0 + m * m → p ≠ ixp x0 y0 (k / m) (k % m) := fun k _ hk => by
      obtain ⟨d1, d2⟩ := sq_div hm (show k < m * m by omega)
      exact hp _ _ d1 d2
    exact ⟨it_out (ix := fun k => ixp x0 y0 (k / m) (k % m)) (m * m) 0 gs p hp2, it_out (ix := fun k => ixp x0 y0 (k / m) (k % m)) (m * m) 0 fs p hp2⟩
