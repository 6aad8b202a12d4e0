/-! loops that fill arrays; residuals -/
theorem lp_it {B : Int32 → (Nat → Int32) → Option ((Int32 × (Nat → Int32)) ⊕ (Int32 × (Nat → Int32)))} {m : Nat} (F : Nat → (Nat → Int32) → (Nat → Int32)) (hs : ∀ x g, x < m → B (nI x) g = some (.inl (nI (x + 1), F x g))) (hx : ∀ g, B (nI m) g = some (.inr (nI m, g))) : ∀ (k i fuel : Nat) (g : Nat → Int32), i + k = m → k < fuel → ip_lp2 B fuel (nI i) g = some (nI m, s_it F k i g) := by
  intro k
  induction k with
  | zero =>
    intro i fuel g hi hf
    obtain ⟨f, rfl⟩ : ∃ f, fuel = f + 1 := ⟨fuel - 1, by omega⟩
    have e : i = m := by omega
    subst e
    exact l_ex2 (hx g)
  | succ k ih =>
    intro i fuel g hi hf
    obtain ⟨f, rfl⟩ : ∃ f, fuel = f + 1 := ⟨fuel - 1, by omega⟩
    rw [l_in2 (hs i g (by omega)), ih (i + 1) f _ (by omega) (by omega)]
    rfl
theorem lp_sum {B : Int32 → Int32 → Option ((Int32 × Int32) ⊕ (Int32 × Int32))} {m : Nat} (t : Nat → Int32) (hs : ∀ x a, x < m → B a (nI x) = some (.inl (a + t x, nI (x + 1)))) (hx : ∀ a, B a (nI m) = some (.inr (a, nI m))) : ∀ (k i fuel : Nat) (a : Int32), i + k = m → k < fuel → ip_lp2 B fuel a (nI i) = some (s_it (fun k a => a + t k) k i a, nI m) := by
  intro k
  induction k with
  | zero =>
    intro i fuel g hi hf
    obtain ⟨f, rfl⟩ : ∃ f, fuel = f + 1 := ⟨fuel - 1, by omega⟩
    have e : i = m := by omega
    subst e
    exact l_ex2 (hx g)
  | succ k ih =>
    intro i fuel g hi hf
    obtain ⟨f, rfl⟩ : ∃ f, fuel = f + 1 := ⟨fuel - 1, by omega⟩
    rw [l_in2 (hs i g (by omega)), ih (i + 1) f _ (by omega) (by omega)]
    rfl
theorem it_out {ix : Nat → Nat} {v : Nat → Int32} : ∀ (k i : Nat) (g : Nat → Int32) (q : Nat), (∀ x, i ≤ x → x < i + k → q ≠ ix x) → s_it (fun x g => upd g (ix x) (v x)) k i g q = g q := by
  intro k
  induction k with
  | zero => intro i g q _; rfl
  | succ k ih =>
    intro i g q h
    show s_it (fun x g => upd g (ix x) (v x)) k (i + 1) (upd g (ix i) (v i)) q = _
    rw [ih (i + 1) _ q (fun x h1 h2 => h x (by omega) (by omega)), u_n (h i (Nat.le_refl _) (by omega))]
theorem it_in {ix : Nat → Nat} {v : Nat → Int32} : ∀ (k i : Nat) (g : Nat → Int32) (x : Nat), i ≤ x → x < i + k → (∀ x2, i ≤ x2 → x2 < i + k → ix x2 = ix x → x2 = x) → s_it (fun x g => upd g (ix x) (v x)) k i g (ix x) = v x := by
  intro k
  induction k with
  | zero => intro i g x h1 h2; omega
  | succ k ih =>
    intro i g x h1 h2 hj
    show s_it (fun x g => upd g (ix x) (v x)) k (i + 1) (upd g (ix i) (v i)) (ix x) = _
    by_cases e : x = i
    · subst e
      rw [it_out k (x + 1) _ _ (fun x2 g1 g2 q => by have := hj x2 (by omega) (by omega) q.symm; omega), u_0]
    · exact ih (i + 1) _ x (by omega) (by omega) (fun x2 g1 g2 => hj x2 (by omega) (by omega))
/-- a square of values, row by row -/
def d_put (m : Nat) (ix : Nat → Nat → Nat) (v : Nat → Nat → Int32) (g : Nat → Int32) : Nat → Int32 := s_it (fun y g => s_it (fun x g => upd g (ix y x) (v y x)) m 0 g) m 0 g
theorem d_out {m : Nat} {ix : Nat → Nat → Nat} {v : Nat → Nat → Int32} : ∀ (k i : Nat) (g : Nat → Int32) (q : Nat), (∀ y x, i ≤ y → y < i + k → x < m → q ≠ ix y x) → s_it (fun y g => s_it (fun x g => upd g (ix y x) (v y x)) m 0 g) k i g q = g q := by
  intro k
  induction k with
  | zero => intro i g q _; rfl
  | succ k ih =>
    intro i g q h
    show s_it (fun y g => s_it (fun x g => upd g (ix y x) (v y x)) m 0 g) k (i + 1) (s_it (fun x g => upd g (ix i x) (v i x)) m 0 g) q = _
    rw [ih (i + 1) _ q (fun y x h1 h2 h3 => h y x (by omega) (by omega) h3), it_out m 0 g q (fun x _ h2 => h i x (Nat.le_refl _) (by omega) (by omega))]
theorem d_in {m : Nat} {ix : Nat → Nat → Nat} {v : Nat → Nat → Int32} : ∀ (k i : Nat) (g : Nat → Int32) (y x : Nat), i ≤ y → y < i + k → x < m → (∀ y2 x2, i ≤ y2 → y2 < i + k → x2 < m → ix y2 x2 = ix y x → y2 = y ∧ x2 = x) → s_it (fun y g => s_it (fun x g => upd g (ix y x) (v y x)) m 0 g) k i g (ix y x) = v y x := by
  intro k
  induction k with
  | zero => intro i g y x h1 h2; omega
  | succ k ih =>
    intro i g y x h1 h2 h3 hj
    show s_it (fun y g => s_it (fun x g => upd g (ix y x) (v y x)) m 0 g) k (i + 1) (s_it (fun x g => upd g (ix i x) (v i x)) m 0 g) (ix y x) = _
    by_cases e : y = i
    · subst e
      rw [d_out k (y + 1) _ _ (fun y2 x2 g1 g2 g3 q => by have := (hj y2 x2 (by omega) (by omega) g3 q.symm).1; omega)]
      exact it_in m 0 g x (by omega) (by omega) (fun x2 _ g2 q => (hj y x2 (Nat.le_refl _) (by omega) (by omega) q).2)
    · exact ih (i + 1) _ y x (by omega) (by omega) h3 (fun y2 x2 g1 g2 g3 => hj y2 x2 (by omega) (by omega) g3)
theorem d_put_in {m : Nat} {ix : Nat → Nat → Nat} {v : Nat → Nat → Int32} {g : Nat → Int32} {y x : Nat} (hy : y < m) (hx : x < m) (hj : ∀ y2 x2, y2 < m → x2 < m → ix y2 x2 = ix y x → y2 = y ∧ x2 = x) : d_put m ix v g (ix y x) = v y x := d_in m 0 g y x (by omega) (by omega) hx (fun y2 x2 _ g2 g3 q => hj y2 x2 (by omega) g3 q)
theorem d_put_out {m : Nat} {ix : Nat → Nat → Nat} {v : Nat → Nat → Int32} {g : Nat → Int32} {q : Nat} (h : ∀ y x, y < m → x < m → q ≠ ix y x) : d_put m ix v g q = g q := d_out m 0 g q (fun y x _ g2 g3 => h y x (by omega) g3)
theorem sq_inj {m y x y2 x2 : Nat} (hx : x < m) (hx2 : x2 < m) (h : y2 * m + x2 = y * m + x) : y2 = y ∧ x2 = x := by
  have h1 : (y2 * m + x2) / m = y2 := by
    rw [Nat.mul_comm, Nat.mul_add_div (by omega), Nat.div_eq_of_lt hx2, Nat.add_zero]
  have h2 : (y * m + x) / m = y := by
    rw [Nat.mul_comm, Nat.mul_add_div (by omega), Nat.div_eq_of_lt hx, Nat.add_zero]
  have h3 : y2 = y := by rw [← h1, ← h2, h]
  subst h3
  exact ⟨rfl, by omega⟩
def hold (p lo hi : Int32) : Int32 := if lo ≤ p then (if p ≤ hi then p else hi) else lo
theorem q_held (p lo hi : Int32) : fMO_held p lo hi = some (hold p lo hi) := by
  unfold fMO_held hold
  split
  · split <;> rfl
  · rfl
theorem q_bring (p : Int32) {lo hi : Int32} (h : lo ≤ hi) : fIP_bring p lo hi = some (hold p lo hi) := by
  unfold fIP_bring hold
  simp only [e_lt]
  congr 1
  rw [Int32.le_iff_toInt_le] at h
  have ext : ∀ a b : Int32, a.toInt = b.toInt → a = b := fun a b q => Int32.toInt_inj.mp q
  by_cases h1 : p < hi
  · rw [if_pos h1]
    rw [Int32.lt_iff_toInt_lt] at h1
    by_cases h2 : lo < p
    · rw [if_pos h2]
      rw [Int32.lt_iff_toInt_lt] at h2
      rw [if_pos (by rw [Int32.le_iff_toInt_le]; omega), if_pos (by rw [Int32.le_iff_toInt_le]; omega)]
    · rw [if_neg h2]
      rw [Int32.lt_iff_toInt_lt] at h2
      by_cases h3 : lo ≤ p
      · rw [if_pos h3]
        rw [Int32.le_iff_toInt_le] at h3
        rw [if_pos (by rw [Int32.le_iff_toInt_le]; omega)]
        exact ext _ _ (by omega)
      · rw [if_neg h3]
  · rw [if_neg h1]
    rw [Int32.lt_iff_toInt_lt] at h1
    have h4 : lo ≤ p := by rw [Int32.le_iff_toInt_le]; omega
    rw [if_pos h4]
    by_cases h2 : lo < hi
    · rw [if_pos h2]
      by_cases h5 : p ≤ hi
      · rw [if_pos h5]
        rw [Int32.le_iff_toInt_le] at h5
        exact ext _ _ (by omega)
      · rw [if_neg h5]
    · rw [if_neg h2]
      rw [Int32.lt_iff_toInt_lt] at h2
      by_cases h5 : p ≤ hi
      · rw [if_pos h5]
        rw [Int32.le_iff_toInt_le] at h5
        exact ext _ _ (by omega)
      · rw [if_neg h5]
        exact ext _ _ (by omega)
def r_coef (lv : Nat → Int32) (q m x0 y0 x y : Nat) : Int32 := hold (if m = 4 then (((lv (16 * (y0 + y) + x0 + x) * tb_scales (q % 6)) <<< (nI (q / 6) &&& 31)) + 1) >>> ((1 : Int32) &&& 31) else (((lv (16 * (y0 + y) + x0 + x) * tb_scales (q % 6)) <<< (nI (q / 6) &&& 31)) + 2) >>> ((2 : Int32) &&& 31)) (-32768) 32767
def r_mat (m k j : Nat) : Int32 := if m = 4 then tb_four (4 * k + j) else if k = 0 then 64 else tb_wave ((2 * j + 1) * k % 32)
def r_half (m : Nat) (co : Nat → Nat → Int32) (x y : Nat) : Int32 := hold ((s_it (fun k s => s + r_mat m k y * co x k) m 0 64) >>> ((7 : Int32) &&& 31)) (-32768) 32767
def r_res (m : Nat) (sk : Int32) (co : Nat → Nat → Int32) (x y : Nat) : Int32 := if sk = 0 then (s_it (fun k s => s + r_mat m k x * r_half m co k y) m 0 2048) >>> ((12 : Int32) &&& 31) else ((co x y * 128) + 2048) >>> ((12 : Int32) &&& 31)
theorem q_matX {m k j : Nat} (hm : m = 4 ∨ m = 8) (hk : k < m) (hj : j < m) : fRS_matrix (nI m) (nI k) (nI j) = some (r_mat m k j) := by
  unfold fRS_matrix r_mat
  rcases hm with rfl | rfl
  · rw [if_pos (show nI 4 = (4 : Int32) from rfl), if_pos rfl, show (4 : Int32) = nI 4 from rfl, pk_mul, nI_add, ip_ald_n (by omega) (by omega)]
    rfl
  · rw [if_neg (show ¬ nI 8 = (4 : Int32) by decide), if_neg (show ¬ (8 : Nat) = 4 by decide)]
    by_cases h : k = 0
    · subst h
      rfl
    · have hp : (2 * j + 1) * k ≤ 15 * 7 := Nat.mul_le_mul (by omega) (by omega)
      rw [if_neg (nI_ne0 (by omega) (by omega)), if_neg h]
      have e : (((2 : Int32) * nI j) + (1 : Int32)) * nI k = nI ((2 * j + 1) * k) := by
        rw [show (2 : Int32) = nI 2 from rfl, show (1 : Int32) = nI 1 from rfl, pk_mul, nI_add, pk_mul]
      rw [e, show nI ((2 * j + 1) * k) - nI ((2 * j + 1) * k) / (32 : Int32) * (32 : Int32) = nI ((2 * j + 1) * k % 32) from pk_rem (d := 32) (by omega) (by omega) (by omega), ip_ald_n (by omega) (by omega)]
      rfl
def TabOK (four wave scale : Nat → Int32) : Prop := (∀ i, i < 16 → four i = tb_four i) ∧ (∀ i, i < 9 → wave i = tb_wave i) ∧ ∀ i, i < 6 → scale i = tb_scales i
theorem wave_fold : ∀ i, i < 32 → (if (if i ≤ 16 then i else 32 - i) ≤ 8 then tb_wave (if i ≤ 16 then i else 32 - i) else -(tb_wave (16 - (if i ≤ 16 then i else 32 - i)))) = tb_wave i := by decide
theorem q_matM (a1 a2 a3 a4 a5 a6 a7 a8 a9 : Int32) {four wave scale : Nat → Int32} (ht : TabOK four wave scale) {m k j : Nat} (hm : m = 4 ∨ m = 8) (hk : k < m) (hj : j < m) : fMO_matrix a1 a2 a3 a4 a5 a6 a7 a8 a9 four wave (nI m) (nI k) (nI j) = some (r_mat m k j) := by
  unfold fMO_matrix r_mat
  rcases hm with rfl | rfl
  · rw [if_pos (show nI 4 = (4 : Int32) from rfl), if_pos rfl, show (4 : Int32) = nI 4 from rfl, pk_mul, nI_add, ip_ald_n (by omega) (by omega), ht.1 _ (by omega)]
    rfl
  · rw [if_neg (show ¬ nI 8 = (4 : Int32) by decide), if_neg (show ¬ (8 : Nat) = 4 by decide)]
    by_cases h : k = 0
    · subst h
      rfl
    · have hp : (2 * j + 1) * k ≤ 15 * 7 := Nat.mul_le_mul (by omega) (by omega)
      rw [if_neg (nI_ne0 (by omega) (by omega)), if_neg h]
      have e : (((2 : Int32) * nI j) + (1 : Int32)) * nI k = nI ((2 * j + 1) * k) := by
        rw [show (2 : Int32) = nI 2 from rfl, show (1 : Int32) = nI 1 from rfl, pk_mul, nI_add, pk_mul]
      rw [e, show nI ((2 * j + 1) * k) - nI ((2 * j + 1) * k) / (32 : Int32) * (32 : Int32) = nI ((2 * j + 1) * k % 32) from pk_rem (d := 32) (by omega) (by omega) (by omega)]
      have hi : (2 * j + 1) * k % 32 < 32 := by omega
      rw [← wave_fold _ hi]
      generalize (2 * j + 1) * k % 32 = i at hi ⊢
      simp only [e_lt]
      have e2 : (if nI i ≤ (16 : Int32) then some (nI i) else some ((32 : Int32) - nI i)) = some (nI (if i ≤ 16 then i else 32 - i)) := by
        by_cases h2 : i ≤ 16
        · rw [if_pos (show nI i ≤ (16 : Int32) from (nI_leI (b := 16) (by omega) (by omega)).mpr h2), if_pos h2]
        · rw [if_neg (show ¬ nI i ≤ (16 : Int32) from fun q => h2 ((nI_leI (b := 16) (by omega) (by omega)).mp q)), if_neg h2, show (32 : Int32) - nI i = nI (32 - i) from pk_sub (a := 32) (by omega)]
      rw [e2]
      simp only [e_b1]
      have hu : (if i ≤ 16 then i else 32 - i) ≤ 16 := by split <;> omega
      generalize (if i ≤ 16 then i else 32 - i) = u at hu ⊢
      by_cases h3 : u ≤ 8
      · rw [if_pos (show nI u ≤ (8 : Int32) from (nI_leI (b := 8) (by omega) (by omega)).mpr h3), if_pos h3, ip_ald_n (by omega) (by omega), ht.2.1 _ (by omega)]
        rfl
      · rw [if_neg (show ¬ nI u ≤ (8 : Int32) from fun q => h3 ((nI_leI (b := 8) (by omega) (by omega)).mp q)), if_neg h3, show (16 : Int32) - nI u = nI (16 - u) from pk_sub (a := 16) (by omega), ip_ald_n (by omega) (by omega), ht.2.1 _ (by omega)]
        rfl
