/-! the arithmetic decoder: what both sides compute -/
def sb (ld : Nat → Int32) (n t : Nat) : Int32 := if 1 + t / 8 < n then (ld (1 + t / 8) >>> (((7 : Int32) - nI (t % 8)) &&& 31)) &&& (1 : Int32) else 0
theorem q_next (ld : Nat → Int32) {n t : Nat} (hn : n ≤ 240) (ht : t < 2 ^ 30) : fRB_next (nI (t + 8)) (nI (8 * n)) ld = some (sb ld n t, nI (t + 9)) := by
  have h3 : nI (t + 8) >>> ((3 : Int32) &&& 31) = nI (1 + t / 8) := by
    rw [pk_shrN (by omega) _ 3 (by decide)]
    congr 1
    omega
  have h7 : nI (t + 8) &&& (7 : Int32) = nI (t % 8) := by
    rw [pk_andN (by omega) 3 (by decide)]
    congr 1
    omega
  unfold fRB_next sb
  rw [h3, h7]
  by_cases h : 1 + t / 8 < n
  · rw [if_neg (fun q => by rw [nI_leI (by omega) (by omega)] at q; omega), if_pos h, ip_ald_n (by omega) (by omega)]
    show some (_, nI (t + 8) + 1) = _
    rw [nI_1]
  · rw [if_pos (by rw [nI_leI (by omega) (by omega)]; omega), if_neg h]
    show some (_, nI (t + 8) + 1) = _
    rw [nI_1]
theorem q_bit (a1 a4 a5 a6 a7 a8 a9 : Int32) (ld : Nat → Int32) {n t : Nat} (hn : n ≤ 240) (ht : t < 2 ^ 30) : fMO_bit a1 (nI n) (nI t) a4 a5 a6 a7 a8 a9 ld = some (sb ld n t, nI (t + 1)) := by
  have h1 : (1 : Int32) + nI t / (8 : Int32) = nI (1 + t / 8) := by
    rw [show (8 : Int32) = nI 8 from rfl, pk_div (by omega) (by omega) (by omega), show (1 : Int32) = nI 1 from rfl, nI_add]
  have h2 : nI t - nI t / (8 : Int32) * (8 : Int32) = nI (t % 8) := pk_rem (d := 8) (by omega) (by omega) (by omega)
  unfold fMO_bit sb
  rw [h1, h2]
  show ip_b1 (if nI n ≤ nI (1 + t / 8) then _ else _) _ = _
  by_cases h : 1 + t / 8 < n
  · rw [if_neg (fun q => by rw [nI_leI (by omega) (by omega)] at q; omega), if_pos h, ip_ald_n (by omega) (by omega)]
    show some (_, nI t + 1) = _
    rw [nI_1]
  · rw [if_pos (by rw [nI_leI (by omega) (by omega)]; omega), if_neg h]
    show some (_, nI t + 1) = _
    rw [nI_1]
theorem u_0 {f : Nat → Int32} {k : Nat} {x : Int32} : upd f k x k = x := if_pos rfl
theorem u_n {f : Nat → Int32} {k j : Nat} {x : Int32} (h : j ≠ k) : upd f k x j = f j := if_neg h
theorem q_shift (a1 a4 a5 a6 a7 a8 a9 : Int32) (ld co : Nat → Int32) {n t : Nat} (hn : n ≤ 240) (ht : t < 2 ^ 30) : fMO_shift a1 (nI n) (nI t) a4 a5 a6 a7 a8 a9 ld co = some (nI (t + 1), 2 * a8 + sb ld n t, upd co 2 (co 2 + 1)) := by
  unfold fMO_shift
  rw [q_bit a1 a4 a5 a6 a7 a8 a9 ld hn ht]
  simp only [e_b2, e_lt]
  rw [e_ald 3 co 2 2 rfl (by omega) (by omega)]
  simp only [e_b1]
  rw [e_ast 3 co 2 _ 2 rfl (by omega) (by omega)]
  rfl
/-- doubling the range: at most k times -/
def s_nrm (ld : Nat → Int32) (n : Nat) : Nat → Int32 → Int32 → Nat → Int32 × Int32 × Nat
  | 0, rg, vl, t => (rg, vl, t)
  | k + 1, rg, vl, t => if 256 ≤ rg then (rg, vl, t) else s_nrm ld n k (rg * 2) (2 * vl + sb ld n t) (t + 1)
theorem s_nrm_t (ld : Nat → Int32) (n : Nat) : ∀ (k : Nat) (rg vl : Int32) (t : Nat), t ≤ (s_nrm ld n k rg vl t).2.2 ∧ (s_nrm ld n k rg vl t).2.2 ≤ t + k := by
  intro k
  induction k with
  | zero => intro rg vl t; exact ⟨Nat.le_refl _, Nat.le_refl _⟩
  | succ k ih =>
    intro rg vl t
    unfold s_nrm
    by_cases h : 256 ≤ rg
    · rw [if_pos h]
      exact ⟨Nat.le_refl _, by show t ≤ t + (k + 1); omega⟩
    · rw [if_neg h]
      have := ih (rg * 2) (2 * vl + sb ld n t) (t + 1)
      omega
theorem s_nrm_r (ld : Nat → Int32) (n : Nat) : ∀ (k r : Nat) (vl : Int32) (t : Nat), 256 ≤ r * 2 ^ k → r < 512 → (∃ r1, (s_nrm ld n k (nI r) vl t).1 = nI r1 ∧ 256 ≤ r1 ∧ r1 < 512) ∧ ∀ j, s_nrm ld n (k + j) (nI r) vl t = s_nrm ld n k (nI r) vl t := by
  intro k
  induction k with
  | zero =>
    intro r vl t h h2
    refine ⟨⟨r, rfl, by simpa using h, h2⟩, fun j => ?_⟩
    cases j with
    | zero => rfl
    | succ j =>
      show s_nrm ld n (0 + j + 1) (nI r) vl t = _
      unfold s_nrm
      rw [if_pos (show (256 : Int32) ≤ nI r from (nI_leI (a := 256) (by omega) (by omega)).mpr (by simpa using h))]
  | succ k ih =>
    intro r vl t h h2
    by_cases hr : 256 ≤ r
    · have hc : (256 : Int32) ≤ nI r := (nI_leI (a := 256) (by omega) (by omega)).mpr hr
      refine ⟨⟨r, ?_, hr, h2⟩, fun j => ?_⟩
      · unfold s_nrm
        rw [if_pos hc]
      · rw [show k + 1 + j = (k + j) + 1 by omega]
        unfold s_nrm
        rw [if_pos hc, if_pos hc]
    · have hc : ¬ (256 : Int32) ≤ nI r := fun q => hr ((nI_leI (a := 256) (by omega) (by omega)).mp q)
      have e2 : nI r * 2 = nI (r * 2) := pk_mul r 2
      have hk : 256 ≤ r * 2 * 2 ^ k := by rw [Nat.pow_succ] at h; rw [Nat.mul_assoc, Nat.mul_comm 2]; exact h
      obtain ⟨h3, h4⟩ := ih (r * 2) (2 * vl + sb ld n t) (t + 1) hk (by omega)
      refine ⟨?_, fun j => ?_⟩
      · unfold s_nrm
        rw [if_neg hc, e2]
        exact h3
      · rw [show k + 1 + j = (k + j) + 1 by omega]
        unfold s_nrm
        rw [if_neg hc, if_neg hc, e2]
        exact h4 j
/-- the state: chances, bins, free bits, range, value, bits read -/
abbrev DS : Type := (Nat → Int32) × Int32 × Int32 × Int32 × Int32 × Nat
def s_likely (p : Int32) : Int32 := if p < 512 then 0 else 1
def s_part (rg p : Int32) : Int32 := (((rg >>> ((5 : Int32) &&& 31)) * ((if s_likely p = 1 then 1023 - p else p) >>> ((5 : Int32) &&& 31))) >>> ((1 : Int32) &&& 31)) + 4
def s_got (rg vl p : Int32) : Int32 := if vl < rg - s_part rg p then s_likely p else 1 - s_likely p
def s_rg (rg vl p : Int32) : Int32 := if vl < rg - s_part rg p then rg - s_part rg p else s_part rg p
def s_vl (rg vl p : Int32) : Int32 := if vl < rg - s_part rg p then vl else vl - (rg - s_part rg p)
def s_ch (got p : Int32) : Int32 := if got = 1 then p + ((1023 - p) >>> ((4 : Int32) &&& 31)) else p - (p >>> ((4 : Int32) &&& 31))
def s_bin (ld : Nat → Int32) (n : Nat) (s : DS) (c : Nat) : Int32 × DS :=
  (s_got s.2.2.2.1 s.2.2.2.2.1 (s.1 c), upd s.1 c (s_ch (s_got s.2.2.2.1 s.2.2.2.2.1 (s.1 c)) (s.1 c)), s.2.1 + 1, s.2.2.1,
    (s_nrm ld n 6 (s_rg s.2.2.2.1 s.2.2.2.2.1 (s.1 c)) (s_vl s.2.2.2.1 s.2.2.2.2.1 (s.1 c)) s.2.2.2.2.2).1,
    (s_nrm ld n 6 (s_rg s.2.2.2.1 s.2.2.2.2.1 (s.1 c)) (s_vl s.2.2.2.1 s.2.2.2.2.1 (s.1 c)) s.2.2.2.2.2).2.1,
    (s_nrm ld n 6 (s_rg s.2.2.2.1 s.2.2.2.2.1 (s.1 c)) (s_vl s.2.2.2.1 s.2.2.2.2.1 (s.1 c)) s.2.2.2.2.2).2.2)
/-- in range: chances, range; the bits read are at most b -/
def DOK (b : Nat) (s : DS) : Prop := (∀ c, c < 14 → ∃ q, s.1 c = nI q ∧ q ≤ 1023) ∧ (∃ r, s.2.2.2.1 = nI r ∧ 256 ≤ r ∧ r < 512) ∧ s.2.2.2.2.2 ≤ b
theorem s_part_ok {r q : Nat} (h1 : 256 ≤ r) (h2 : r < 512) (h3 : q ≤ 1023) : ∃ d, s_part (nI r) (nI q) = nI d ∧ 4 ≤ d ∧ d ≤ 116 := by
  have e5 : nI r >>> ((5 : Int32) &&& 31) = nI (r / 32) := pk_shrN (by omega) _ 5 (by decide)
  have hr : r / 32 ≤ 15 := by omega
  have key : ∀ w : Nat, w ≤ 511 → ((nI (r / 32) * (nI w >>> ((5 : Int32) &&& 31))) >>> ((1 : Int32) &&& 31)) + 4 = nI (r / 32 * (w / 32) / 2 + 4) ∧ r / 32 * (w / 32) / 2 ≤ 112 := by
    intro w hw
    have hw2 : w / 32 ≤ 15 := by omega
    have hm : r / 32 * (w / 32) ≤ 15 * 15 := Nat.mul_le_mul hr hw2
    have e1 : nI w >>> ((5 : Int32) &&& 31) = nI (w / 32) := pk_shrN (by omega) _ 5 (by decide)
    have e2 : nI (r / 32 * (w / 32)) >>> ((1 : Int32) &&& 31) = nI (r / 32 * (w / 32) / 2) := pk_shrN (by omega) _ 1 (by decide)
    refine ⟨?_, by omega⟩
    rw [e1, pk_mul, e2, show (4 : Int32) = nI 4 from rfl, nI_add]
  unfold s_part s_likely
  rw [e5]
  by_cases h : q < 512
  · have hc : nI q < 512 := (nI_ltI (b := 512) (by omega) (by omega)).mpr h
    rw [if_pos hc, if_neg (by decide)]
    obtain ⟨k1, k2⟩ := key q (by omega)
    exact ⟨_, k1, by omega, by omega⟩
  · have hc : ¬ nI q < 512 := fun z => h ((nI_ltI (b := 512) (by omega) (by omega)).mp z)
    rw [if_neg hc, if_pos rfl]
    have e : (1023 : Int32) - nI q = nI (1023 - q) := pk_sub (a := 1023) h3
    rw [e]
    obtain ⟨k1, k2⟩ := key (1023 - q) (by omega)
    exact ⟨_, k1, by omega, by omega⟩
theorem s_ch_ok {q : Nat} (h : q ≤ 1023) (g : Int32) : ∃ q1, s_ch g (nI q) = nI q1 ∧ q1 ≤ 1023 := by
  unfold s_ch
  by_cases hg : g = 1
  · rw [if_pos hg]
    have e : (1023 : Int32) - nI q = nI (1023 - q) := pk_sub (a := 1023) h
    have e2 : nI (1023 - q) >>> ((4 : Int32) &&& 31) = nI ((1023 - q) / 16) := pk_shrN (by omega) _ 4 (by decide)
    rw [e, e2, nI_add]
    exact ⟨_, rfl, by omega⟩
  · rw [if_neg hg]
    have e2 : nI q >>> ((4 : Int32) &&& 31) = nI (q / 16) := pk_shrN (by omega) _ 4 (by decide)
    rw [e2, pk_sub (by omega)]
    exact ⟨_, rfl, by omega⟩
theorem s_rg_ok {r q : Nat} (vl : Int32) (h1 : 256 ≤ r) (h2 : r < 512) (h3 : q ≤ 1023) : ∃ d, s_rg (nI r) vl (nI q) = nI d ∧ 4 ≤ d ∧ d < 512 := by
  obtain ⟨d, e, h4, h5⟩ := s_part_ok h1 h2 h3
  unfold s_rg
  rw [e, pk_sub (show d ≤ r by omega)]
  by_cases h : vl < nI (r - d)
  · rw [if_pos h]
    exact ⟨_, rfl, by omega, by omega⟩
  · rw [if_neg h]
    exact ⟨_, rfl, by omega, by omega⟩
theorem s_bin_ok (ld : Nat → Int32) (n : Nat) {b : Nat} {s : DS} {c : Nat} (hc : c < 14) (h : DOK b s) : DOK (b + 6) (s_bin ld n s c).2 := by
  obtain ⟨h1, ⟨r, h2, h3, h4⟩, h5⟩ := h
  obtain ⟨q, hq, hq2⟩ := h1 c hc
  refine ⟨fun k hk => ?_, ?_, ?_⟩
  · show ∃ q, upd s.1 c _ k = nI q ∧ q ≤ 1023
    by_cases hkc : k = c
    · subst hkc
      rw [u_0, hq]
      exact s_ch_ok hq2 _
    · rw [u_n hkc]
      exact h1 k hk
  · show ∃ r, (s_nrm ld n 6 _ _ _).1 = nI r ∧ _
    rw [h2, hq]
    obtain ⟨d, e, h6, h7⟩ := s_rg_ok s.2.2.2.2.1 h3 h4 hq2
    rw [e]
    exact (s_nrm_r ld n 6 d _ _ (by omega) h7).1
  · show (s_nrm ld n 6 _ _ _).2.2 ≤ _
    have := (s_nrm_t ld n 6 (s_rg s.2.2.2.1 s.2.2.2.2.1 (s.1 c)) (s_vl s.2.2.2.1 s.2.2.2.2.1 (s.1 c)) s.2.2.2.2.2).2
    omega
