/-! prediction: the references, the values -/
abbrev f_in (x0 y0 m k : Nat) : Prop := 1 ≤ x0 + (k - 2 * m) ∧ x0 + (k - 2 * m) ≤ 16 ∧ 1 ≤ y0 + (2 * m - k) ∧ y0 + (2 * m - k) ≤ 16
def f_p (x0 y0 m k : Nat) : Nat := 16 * (y0 + (2 * m - k) - 1) + (x0 + (k - 2 * m) - 1)
theorem f_p_lt {x0 y0 m k : Nat} (h : f_in x0 y0 m k) : f_p x0 y0 m k < 256 := by
  unfold f_in at h
  unfold f_p
  omega
def f_op (th : Nat → Bool) (pl : Nat → Int32) (x0 y0 m k : Nat) : Option Int32 := if (1 ≤ x0 + (k - 2 * m) ∧ x0 + (k - 2 * m) ≤ 16 ∧ 1 ≤ y0 + (2 * m - k) ∧ y0 + (2 * m - k) ≤ 16) ∧ th (f_p x0 y0 m k) = true then some (pl (f_p x0 y0 m k)) else none
def f_seed (o : Nat → Option Int32) : Nat → Int32 → Int32
  | 0, b => b
  | k + 1, b => f_seed o k ((o k).getD b)
def f_row (o : Nat → Option Int32) (b : Int32) : Nat → Int32
  | 0 => (o 0).getD b
  | k + 1 => (o (k + 1)).getD (f_row o b k)
def f_raw (o : Nat → Option Int32) (m : Nat) : Nat → Int32 := f_row o (f_seed o (4 * m + 1) 128)
def f_sm (sm : Bool) (m : Nat) (raw : Nat → Int32) (k : Nat) : Int32 := if sm = true ∧ 0 < k ∧ k < 4 * m then (((raw (k - 1) + (2 * raw k)) + raw (k + 1)) + 2) >>> ((2 : Int32) &&& 31) else raw k
def p_bl (a b : Int32) (f : Nat) : Int32 := ((((32 - nI f) * a) + (nI f * b)) + 16) >>> ((5 : Int32) &&& 31)
def p_val (m md : Nat) (row : Nat → Int32) (x y : Nat) : Int32 :=
  if md = 0 then (((nI (m - 1 - x) * row (2 * m - 1 - y)) + (nI (x + 1) * row (3 * m + 1))) + ((nI (m - 1 - y) * row (2 * m + 1 + x)) + (nI (y + 1) * row (m - 1))) + nI m) / nI (2 * m)
  else if md = 1 then (s_it (fun k s => s + (row (2 * m - 1 - k) + row (2 * m + 1 + k))) m 0 (nI m)) / nI (2 * m)
  else if md = 2 then row (2 * m - 1 - y)
  else if md = 3 then row (2 * m + 1 + x)
  else if md = 4 then p_bl (row (2 * m + 1 + (x + 13 * (y + 1) / 32))) (row (2 * m + 1 + (x + 13 * (y + 1) / 32 + 1))) (13 * (y + 1) % 32)
  else if md = 5 then row (2 * m + 1 + (x + y + 1))
  else if md = 6 then p_bl (row (2 * m - 1 - (y + 26 * (x + 1) / 32))) (row (2 * m - 1 - (y + 26 * (x + 1) / 32 + 1))) (26 * (x + 1) % 32)
  else row (2 * m + x - y)
theorem q_left (r : Nat → Int32) {m k : Nat} (hm : m = 4 ∨ m = 8) (hk : k < 2 * m) : fPR_left (nI m) r (nI k) = some (r (2 * m - 1 - k)) := by
  have e : (((2 : Int32) * nI m) - (1 : Int32)) - nI k = nI (2 * m - 1 - k) := by
    rw [show (2 : Int32) = nI 2 from rfl, pk_mul, show nI (2 * m) - (1 : Int32) = nI (2 * m - 1) from pk_sub (b := 1) (by omega), pk_sub (by omega)]
  unfold fPR_left
  rw [e, ip_ald_n (by omega) (by omega), e_b1]
theorem q_above (r : Nat → Int32) {m k : Nat} (hm : m = 4 ∨ m = 8) (hk : k < 2 * m) : fPR_above (nI m) r (nI k) = some (r (2 * m + 1 + k)) := by
  have e : (((2 : Int32) * nI m) + (1 : Int32)) + nI k = nI (2 * m + 1 + k) := by
    rw [show (2 : Int32) = nI 2 from rfl, pk_mul, nI_1, nI_add]
  unfold fPR_above
  rw [e, ip_ald_n (by omega) (by omega), e_b1]
theorem q_div (a : Int32) {m : Nat} (hm : m = 4 ∨ m = 8) : ip_div a ((2 : Int32) * nI m) = some (a / nI (2 * m)) := by
  have e : (2 : Int32) * nI m = nI (2 * m) := pk_mul 2 m
  unfold ip_div
  rw [e, if_neg (nI_ne0 (by omega) (by omega))]
theorem q_meanX (r : Nat → Int32) {m : Nat} (hm : m = 4 ∨ m = 8) (x y : Nat) : fPR_mean (nI m) r = some (p_val m 1 r x y) := by
  have sum : ip_lp2 (fPR_mean_B7 (nI m) r) 1000 (nI m) (nI 0) = some (s_it (fun k s => s + (r (2 * m - 1 - k) + r (2 * m + 1 + k))) m 0 (nI m), nI m) := by
    refine lp_sum (fun k => r (2 * m - 1 - k) + r (2 * m + 1 + k)) (fun k a hk => ?_) (fun a => ?_) m 0 1000 (nI m) (by omega) (by omega)
    · unfold fPR_mean_B7
      rw [if_neg (nI_ge hk (by omega)), q_left r hm (by omega), e_b1, q_above r hm (by omega), e_b1, e_lt, e_lt, nI_1]
    · unfold fPR_mean_B7
      rw [if_pos (nI_le (Nat.le_refl _) (by omega))]
  unfold fPR_mean
  rw [show (0 : Int32) = nI 0 from rfl, sum, e_b2, q_div _ hm, e_b1]
  unfold p_val
  rw [if_neg (show ¬ (1 : Nat) = 0 by decide), if_pos rfl]
theorem q_predX (r : Nat → Int32) {m md x y : Nat} (hm : m = 4 ∨ m = 8) (hmd : md ≤ 7) (h1 : md ≠ 1) (hx : x < m) (hy : y < m) : fPR_predictAt (nI m) r (nI md) (nI x) (nI y) = some (p_val m md r x y) := by
  have lit : ∀ c : Nat, c ≤ 7 → (nI md = nI c ↔ md = c) := fun c hc => nI_eq (by omega) (by omega)
  unfold fPR_predictAt p_val
  by_cases h0 : md = 0
  · rw [if_pos (show nI md = (0 : Int32) from (lit 0 (by omega)).mpr h0), if_pos h0]
    unfold fPR_plane
    have e1 : (nI m - (1 : Int32)) - nI x = nI (m - 1 - x) := by
      rw [show nI m - (1 : Int32) = nI (m - 1) from pk_sub (b := 1) (by omega), pk_sub (by omega)]
    have e2 : (nI m - (1 : Int32)) - nI y = nI (m - 1 - y) := by
      rw [show nI m - (1 : Int32) = nI (m - 1) from pk_sub (b := 1) (by omega), pk_sub (by omega)]
    rw [q_left r hm (by omega), e_b1, q_above r hm (by omega), e_b1, e_lt, q_above r hm (by omega), e_b1, q_left r hm (by omega), e_b1, e_lt, q_div _ hm, e_b1, e_b1, e1, e2, nI_1, nI_1, show 2 * m + 1 + m = 3 * m + 1 by omega, show 2 * m - 1 - m = m - 1 by omega]
  · rw [if_neg (show ¬ nI md = (0 : Int32) from fun q => h0 ((lit 0 (by omega)).mp q)), if_neg h0, if_neg (show ¬ nI md = (1 : Int32) from fun q => h1 ((lit 1 (by omega)).mp q)), if_neg h1]
    by_cases h2 : md = 2
    · rw [if_pos (show nI md = (2 : Int32) from (lit 2 (by omega)).mpr h2), if_pos h2, q_left r hm (by omega), e_b1]
    · rw [if_neg (show ¬ nI md = (2 : Int32) from fun q => h2 ((lit 2 (by omega)).mp q)), if_neg h2]
      by_cases h3 : md = 3
      · rw [if_pos (show nI md = (3 : Int32) from (lit 3 (by omega)).mpr h3), if_pos h3, q_above r hm (by omega), e_b1]
      · rw [if_neg (show ¬ nI md = (3 : Int32) from fun q => h3 ((lit 3 (by omega)).mp q)), if_neg h3]
        by_cases h4 : md = 4
        · have ea : (13 : Int32) * (nI y + (1 : Int32)) = nI (13 * (y + 1)) := by rw [nI_1]; exact pk_mul 13 (y + 1)
          have es : nI (13 * (y + 1)) >>> ((5 : Int32) &&& 31) = nI (13 * (y + 1) / 32) := pk_shrN (by omega) _ 5 (by decide)
          have em : nI (13 * (y + 1)) &&& (31 : Int32) = nI (13 * (y + 1) % 32) := pk_andN (by omega) 5 (by decide)
          rw [if_pos (show nI md = (4 : Int32) from (lit 4 (by omega)).mpr h4), if_pos h4, ea]
          unfold fPR_steep
          rw [es, em, nI_add, e_lt, q_above r hm (by omega), e_b1, nI_1, q_above r hm (by omega), e_b1]
          unfold fPR_blend p_bl
          rw [e_b1, e_b1]
        · rw [if_neg (show ¬ nI md = (4 : Int32) from fun q => h4 ((lit 4 (by omega)).mp q)), if_neg h4]
          by_cases h5 : md = 5
          · rw [if_pos (show nI md = (5 : Int32) from (lit 5 (by omega)).mpr h5), if_pos h5, nI_add, nI_1, q_above r hm (by omega), e_b1]
          · rw [if_neg (show ¬ nI md = (5 : Int32) from fun q => h5 ((lit 5 (by omega)).mp q)), if_neg h5]
            by_cases h6 : md = 6
            · have ea : (26 : Int32) * (nI x + (1 : Int32)) = nI (26 * (x + 1)) := by rw [nI_1]; exact pk_mul 26 (x + 1)
              have es : nI (26 * (x + 1)) >>> ((5 : Int32) &&& 31) = nI (26 * (x + 1) / 32) := pk_shrN (by omega) _ 5 (by decide)
              have em : nI (26 * (x + 1)) &&& (31 : Int32) = nI (26 * (x + 1) % 32) := pk_andN (by omega) 5 (by decide)
              rw [if_pos (show nI md = (6 : Int32) from (lit 6 (by omega)).mpr h6), if_pos h6, ea]
              unfold fPR_flat
              rw [es, em, nI_add, e_lt, q_left r hm (by omega), e_b1, nI_1, q_left r hm (by omega), e_b1]
              unfold fPR_blend p_bl
              rw [e_b1, e_b1]
            · rw [if_neg (show ¬ nI md = (6 : Int32) from fun q => h6 ((lit 6 (by omega)).mp q)), if_neg h6]
              unfold fPR_diagonal
              by_cases h7 : x = y
              · subst h7
                have ec : fPR_corner (nI m) r = some (r (2 * m)) := by
                  unfold fPR_corner
                  rw [show (2 : Int32) * nI m = nI (2 * m) from pk_mul 2 m, ip_ald_n (by omega) (by omega), e_b1]
                rw [if_pos rfl, ec, e_b1, e_b1, show 2 * m + x - x = 2 * m by omega]
              · rw [if_neg (fun q => h7 ((nI_eq (by omega) (by omega)).mp q))]
                by_cases h8 : x ≤ y
                · have e1 : (nI y - nI x) - (1 : Int32) = nI (y - x - 1) := by
                    rw [pk_sub (by omega)]
                    exact pk_sub (b := 1) (by omega)
                  rw [if_pos (nI_le h8 (by omega)), e1, q_left r hm (by omega), e_b1, e_b1, show 2 * m - 1 - (y - x - 1) = 2 * m + x - y by omega]
                · have e1 : (nI x - nI y) - (1 : Int32) = nI (x - y - 1) := by
                    rw [pk_sub (by omega)]
                    exact pk_sub (b := 1) (by omega)
                  rw [if_neg (fun q => h8 ((nI_leI (by omega) (by omega)).mp q)), e1, q_above r hm (by omega), e_b1, e_b1, show 2 * m + 1 + (x - y - 1) = 2 * m + x - y by omega]
