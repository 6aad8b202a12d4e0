/-! free bits -/
def s_fr (ld : Nat → Int32) (n : Nat) (s : DS) : Int32 × DS :=
  (if 2 * s.2.2.2.2.1 + sb ld n s.2.2.2.2.2 < s.2.2.2.1 then 0 else 1, s.1, s.2.1, s.2.2.1 + 1, s.2.2.2.1,
    if 2 * s.2.2.2.2.1 + sb ld n s.2.2.2.2.2 < s.2.2.2.1 then 2 * s.2.2.2.2.1 + sb ld n s.2.2.2.2.2 else 2 * s.2.2.2.2.1 + sb ld n s.2.2.2.2.2 - s.2.2.2.1, s.2.2.2.2.2 + 1)
def s_frs (ld : Nat → Int32) (n : Nat) : Nat → Int32 → DS → Int32 × DS
  | 0, a, s => (a, s)
  | k + 1, a, s => s_frs ld n k (2 * a + (s_fr ld n s).1) (s_fr ld n s).2
theorem s_fr_ok (ld : Nat → Int32) (n : Nat) {b : Nat} {s : DS} (h : DOK b s) : DOK (b + 1) (s_fr ld n s).2 := ⟨h.1, h.2.1, by show s.2.2.2.2.2 + 1 ≤ b + 1; have := h.2.2; omega⟩
theorem s_fr_01 (ld : Nat → Int32) (n : Nat) (s : DS) : (s_fr ld n s).1 = 0 ∨ (s_fr ld n s).1 = 1 := by
  show (if _ then (0 : Int32) else 1) = 0 ∨ (if _ then (0 : Int32) else 1) = 1
  split
  · exact Or.inl rfl
  · exact Or.inr rfl
theorem s_frs_ok (ld : Nat → Int32) (n : Nat) : ∀ (k b : Nat) (a : Int32) (s : DS), DOK b s → DOK (b + k) (s_frs ld n k a s).2 := by
  intro k
  induction k with
  | zero => intro b a s h; exact h
  | succ k ih =>
    intro b a s h
    have := ih (b + 1) (2 * a + (s_fr ld n s).1) (s_fr ld n s).2 (s_fr_ok ld n h)
    rw [show b + (k + 1) = b + 1 + k by omega]
    exact this
theorem s_frs_v (ld : Nat → Int32) (n : Nat) : ∀ (k x : Nat) (s : DS), ∃ y, (s_frs ld n k (nI x) s).1 = nI y ∧ y < (x + 1) * 2 ^ k := by
  intro k
  induction k with
  | zero => intro x s; exact ⟨x, rfl, by omega⟩
  | succ k ih =>
    intro x s
    have e : ∃ b, b ≤ 1 ∧ 2 * nI x + (s_fr ld n s).1 = nI (2 * x + b) := by
      rcases s_fr_01 ld n s with h | h
      · exact ⟨0, by omega, by rw [h, show (2 : Int32) = nI 2 from rfl, pk_mul, show (0 : Int32) = nI 0 from rfl, nI_add]⟩
      · exact ⟨1, by omega, by rw [h, show (2 : Int32) = nI 2 from rfl, pk_mul, show (1 : Int32) = nI 1 from rfl, nI_add]⟩
    obtain ⟨b, hb, e⟩ := e
    obtain ⟨y, h1, h2⟩ := ih (2 * x + b) (s_fr ld n s).2
    refine ⟨y, ?_, ?_⟩
    · show (s_frs ld n k (2 * nI x + (s_fr ld n s).1) (s_fr ld n s).2).1 = nI y
      rw [e]
      exact h1
    · have h3 : (2 * x + b + 1) * 2 ^ k ≤ (2 * (x + 1)) * 2 ^ k := Nat.mul_le_mul_right _ (by omega)
      rw [Nat.pow_succ, ← Nat.mul_assoc, Nat.mul_comm ((x + 1) * 2 ^ k) 2, ← Nat.mul_assoc]
      omega
theorem s_frs_c (ld : Nat → Int32) (n : Nat) : ∀ (k : Nat) (a : Int32) (s : DS), (s_frs ld n k a s).2.1 = s.1 ∧ (s_frs ld n k a s).2.2.1 = s.2.1 ∧ (s_frs ld n k a s).2.2.2.1 = s.2.2.1 + nI k ∧ (s_frs ld n k a s).2.2.2.2.1 = s.2.2.2.1 ∧ (s_frs ld n k a s).2.2.2.2.2.2 = s.2.2.2.2.2 + k := by
  intro k
  induction k with
  | zero => intro a s; exact ⟨rfl, rfl, by show _ = _ + (0 : Int32); rw [Int32.add_zero]; rfl, rfl, rfl⟩
  | succ k ih =>
    intro a s
    obtain ⟨h1, h2, h3, h4, h5⟩ := ih (2 * a + (s_fr ld n s).1) (s_fr ld n s).2
    refine ⟨h1, h2, ?_, h4, ?_⟩
    · show (s_frs ld n k (2 * a + (s_fr ld n s).1) (s_fr ld n s).2).2.2.2.1 = _
      rw [h3]
      show s.2.2.1 + 1 + nI k = s.2.2.1 + nI (k + 1)
      rw [← nI_1, Int32.add_assoc, Int32.add_comm 1]
    · show (s_frs ld n k (2 * a + (s_fr ld n s).1) (s_fr ld n s).2).2.2.2.2.2.2 = _
      rw [h5]
      show s.2.2.2.2.2 + 1 + k = _
      omega
theorem q_frX (ld : Nat → Int32) {n N : Nat} (hn : n ≤ 240) (hN : N < 1000) (rg : Int32) : ∀ (k i fuel : Nat) (a : Int32) (s : DS), s.2.2.2.1 = rg → i + k = N → k < fuel → s.2.2.2.2.2 + k < 2 ^ 30 → ip_lp4 (fBD_freeBits_B4 (nI (8 * n)) rg ld (nI N)) fuel a (nI i) (nI (s.2.2.2.2.2 + 8)) s.2.2.2.2.1 = some ((s_frs ld n k a s).1, nI N, nI ((s_frs ld n k a s).2.2.2.2.2.2 + 8), (s_frs ld n k a s).2.2.2.2.2.1) := by
  intro k
  induction k with
  | zero =>
    intro i fuel a s hr hi hf ht
    obtain ⟨f, rfl⟩ : ∃ f, fuel = f + 1 := ⟨fuel - 1, by omega⟩
    have e : i = N := by omega
    subst e
    unfold ip_lp4 ip_lp fBD_freeBits_B4
    simp only []
    rw [if_pos (nI_le (Nat.le_refl _) (by omega))]
    rfl
  | succ k ih =>
    intro i fuel a s hr hi hf ht
    obtain ⟨f, rfl⟩ : ∃ f, fuel = f + 1 := ⟨fuel - 1, by omega⟩
    have h1 := ih (i + 1) f (2 * a + (s_fr ld n s).1) (s_fr ld n s).2 hr (by omega) (by omega) (by show s.2.2.2.2.2 + 1 + k < _; omega)
    show _ = some ((s_frs ld n k (2 * a + (s_fr ld n s).1) (s_fr ld n s).2).1, _, nI ((s_frs ld n k (2 * a + (s_fr ld n s).1) (s_fr ld n s).2).2.2.2.2.2.2 + 8), (s_frs ld n k (2 * a + (s_fr ld n s).1) (s_fr ld n s).2).2.2.2.2.2.1)
    rw [← h1]
    conv => lhs; unfold ip_lp4 ip_lp fBD_freeBits_B4
    simp only []
    rw [if_neg (nI_ge (show i < N by omega) (by omega)), q_next ld hn (by omega)]
    simp only [e_b2, e_lt, nI_1]
    have e1 : (if 2 * s.2.2.2.2.1 + sb ld n s.2.2.2.2.2 < rg then some (0 : Int32) else some (1 : Int32)) = some (s_fr ld n s).1 := by
      unfold s_fr
      rw [hr]
      split <;> rfl
    rw [e1]
    simp only [e_b1]
    have e2 : 2 * s.2.2.2.2.1 + sb ld n s.2.2.2.2.2 - (s_fr ld n s).1 * rg = (s_fr ld n s).2.2.2.2.2.1 := by
      unfold s_fr
      simp only []
      rw [hr]
      split
      · rw [Int32.zero_mul, Int32.sub_zero]
      · rw [Int32.one_mul]
    rw [e2]
    rfl
theorem q_freeX (ld co : Nat → Int32) {n b N : Nat} {s : DS} (hn : n ≤ 240) (hN : N < 1000) (hs : DOK b s) (hb : b + N < 2 ^ 30) (h0 : co 0 = s.2.1) (h1 : co 1 = s.2.2.1) : ∃ co1 : Nat → Int32, fBD_freeBits (nI (s.2.2.2.2.2 + 8)) (nI (8 * n)) s.2.2.2.1 s.2.2.2.2.1 ld co (nI N) = some ((s_frs ld n N 0 s).1, nI ((s_frs ld n N 0 s).2.2.2.2.2.2 + 8), (s_frs ld n N 0 s).2.2.2.2.2.1, co1) ∧ co1 0 = (s_frs ld n N 0 s).2.2.1 ∧ co1 1 = (s_frs ld n N 0 s).2.2.2.1 := by
  have hc := s_frs_c ld n N 0 s
  refine ⟨upd co 1 (co 1 + nI N), ?_, by rw [u_n (by decide), h0, hc.2.1], by rw [u_0, h1, hc.2.2.1]⟩
  unfold fBD_freeBits
  have h2 := q_frX ld hn hN s.2.2.2.1 N 0 1000 0 s rfl (by omega) (by omega) (by have := hs.2.2; omega)
  rw [show ip_lp4 (fBD_freeBits_B4 (nI (8 * n)) s.2.2.2.1 ld (nI N)) 1000 (0 : Int32) (0 : Int32) (nI (s.2.2.2.2.2 + 8)) s.2.2.2.2.1 = _ from h2]
  simp only [e_b4]
  rw [e_ald 3 co 1 1 rfl (by omega) (by omega)]
  simp only [e_b1]
  rw [e_ast 3 co 1 _ 1 rfl (by omega) (by omega)]
  rfl
theorem q_free1M (a1 a4 a5 a6 a9 : Int32) (ld co : Nat → Int32) {n b : Nat} {s : DS} (hn : n ≤ 240) (hs : DOK b s) (hb : b + 1 < 2 ^ 30) (h0 : co 0 = s.2.1) (h1 : co 1 = s.2.2.1) (h2 : co 2 = nI s.2.2.2.2.2) : ∃ co1 : Nat → Int32, fMO_free a1 (nI n) (nI s.2.2.2.2.2) a4 a5 a6 s.2.2.2.1 s.2.2.2.2.1 a9 ld co = some ((s_fr ld n s).1, nI (s_fr ld n s).2.2.2.2.2.2, (s_fr ld n s).2.2.2.2.2.1, co1) ∧ co1 0 = (s_fr ld n s).2.2.1 ∧ co1 1 = (s_fr ld n s).2.2.2.1 ∧ co1 2 = nI (s_fr ld n s).2.2.2.2.2.2 := by
  refine ⟨upd (upd co 1 (co 1 + 1)) 2 (upd co 1 (co 1 + 1) 2 + 1), ?_, by rw [u_n (by decide), u_n (by decide), h0]; rfl, by rw [u_n (by decide), u_0, h1]; rfl, by rw [u_0, u_n (by decide), h2, nI_1]; rfl⟩
  unfold fMO_free
  rw [e_ald 3 co 1 1 rfl (by omega) (by omega)]
  simp only [e_b1]
  rw [e_ast 3 co 1 _ 1 rfl (by omega) (by omega)]
  simp only [e_b1]
  rw [q_shift a1 a4 a5 a6 s.2.2.2.1 s.2.2.2.2.1 a9 ld _ hn (by have := hs.2.2; omega)]
  simp only [e_b3, e_lt]
  unfold s_fr
  simp only []
  by_cases h : 2 * s.2.2.2.2.1 + sb ld n s.2.2.2.2.2 < s.2.2.2.1
  · rw [if_neg (Int32.not_le.mpr h), if_pos h, if_pos h]
  · rw [if_pos (Int32.not_lt.mp h), if_neg h, if_neg h]
theorem q_freeM (a1 a4 a5 a6 a9 : Int32) (ld : Nat → Int32) {n N : Nat} (hn : n ≤ 240) (hN : N < 1000) (rg : Int32) : ∀ (k i fuel b : Nat) (a : Int32) (s : DS) (co : Nat → Int32), s.2.2.2.1 = rg → i + k = N → k < fuel → DOK b s → b + k < 2 ^ 30 → co 0 = s.2.1 → co 1 = s.2.2.1 → co 2 = nI s.2.2.2.2.2 → ∃ co1 : Nat → Int32, ip_lp5 (fMO_frees_B4 a1 (nI n) a4 a5 a6 rg a9 ld (nI N)) fuel a (nI i) (nI s.2.2.2.2.2) s.2.2.2.2.1 co = some ((s_frs ld n k a s).1, nI N, nI (s_frs ld n k a s).2.2.2.2.2.2, (s_frs ld n k a s).2.2.2.2.2.1, co1) ∧ co1 0 = (s_frs ld n k a s).2.2.1 ∧ co1 1 = (s_frs ld n k a s).2.2.2.1 ∧ co1 2 = nI (s_frs ld n k a s).2.2.2.2.2.2 := by
  intro k
  induction k with
  | zero =>
    intro i fuel b a s co hr hi hf hs ht h0 h1 h2
    obtain ⟨f, rfl⟩ : ∃ f, fuel = f + 1 := ⟨fuel - 1, by omega⟩
    have e : i = N := by omega
    subst e
    refine ⟨co, ?_, h0, h1, h2⟩
    unfold ip_lp5 ip_lp fMO_frees_B4
    simp only []
    rw [if_pos (nI_le (Nat.le_refl _) (by omega))]
    rfl
  | succ k ih =>
    intro i fuel b a s co hr hi hf hs ht h0 h1 h2
    obtain ⟨f, rfl⟩ : ∃ f, fuel = f + 1 := ⟨fuel - 1, by omega⟩
    obtain ⟨co1, g0, g1, g2, g3⟩ := q_free1M a1 a4 a5 a6 a9 ld co hn hs (by omega) h0 h1 h2
    obtain ⟨co2, k0, k1, k2, k3⟩ := ih (i + 1) f (b + 1) (2 * a + (s_fr ld n s).1) (s_fr ld n s).2 co1 hr (by omega) (by omega) (s_fr_ok ld n hs) (by omega) g1 g2 g3
    refine ⟨co2, ?_, k1, k2, k3⟩
    show _ = some ((s_frs ld n k (2 * a + (s_fr ld n s).1) (s_fr ld n s).2).1, _, nI (s_frs ld n k (2 * a + (s_fr ld n s).1) (s_fr ld n s).2).2.2.2.2.2.2, (s_frs ld n k (2 * a + (s_fr ld n s).1) (s_fr ld n s).2).2.2.2.2.2.1, co2)
    rw [← k0]
    conv => lhs; unfold ip_lp5 ip_lp fMO_frees_B4
    simp only []
    rw [if_neg (nI_ge (show i < N by omega) (by omega)), ← hr, g0]
    simp only [e_b4, e_lt, nI_1]
    rfl
theorem q_freesM (a1 a4 a5 a6 a9 : Int32) (ld co : Nat → Int32) {n b N : Nat} {s : DS} (hn : n ≤ 240) (hN : N < 1000) (hs : DOK b s) (hb : b + N < 2 ^ 30) (h0 : co 0 = s.2.1) (h1 : co 1 = s.2.2.1) (h2 : co 2 = nI s.2.2.2.2.2) : ∃ co1 : Nat → Int32, fMO_frees a1 (nI n) (nI s.2.2.2.2.2) a4 a5 a6 s.2.2.2.1 s.2.2.2.2.1 a9 ld co (nI N) = some ((s_frs ld n N 0 s).1, nI (s_frs ld n N 0 s).2.2.2.2.2.2, (s_frs ld n N 0 s).2.2.2.2.2.1, co1) ∧ co1 0 = (s_frs ld n N 0 s).2.2.1 ∧ co1 1 = (s_frs ld n N 0 s).2.2.2.1 ∧ co1 2 = nI (s_frs ld n N 0 s).2.2.2.2.2.2 := by
  obtain ⟨co1, g0, g⟩ := q_freeM a1 a4 a5 a6 a9 ld hn hN s.2.2.2.1 N 0 1000 b 0 s co rfl (by omega) (by omega) hs hb h0 h1 h2
  refine ⟨co1, ?_, g⟩
  unfold fMO_frees
  rw [show ip_lp5 (fMO_frees_B4 a1 (nI n) a4 a5 a6 s.2.2.2.1 a9 ld (nI N)) 1000 (0 : Int32) (0 : Int32) (nI s.2.2.2.2.2) s.2.2.2.2.1 co = _ from g0]
  rfl
