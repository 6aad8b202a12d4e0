/-! the size of a level -/
def XR (s : DS) (co : Nat → Int32) : Prop := co 0 = s.2.1 ∧ co 1 = s.2.2.1
def MR (s : DS) (co : Nat → Int32) : Prop := co 0 = s.2.1 ∧ co 1 = s.2.2.1 ∧ co 2 = nI s.2.2.2.2.2
theorem DOK.mono {b b2 : Nat} {s : DS} (h : DOK b s) (hb : b ≤ b2) : DOK b2 s := ⟨h.1, h.2.1, Nat.le_trans h.2.2 hb⟩
def s_cnt (ld : Nat → Int32) (n : Nat) : Nat → Nat → DS → Nat × DS
  | 0, k, s => (k, s)
  | f + 1, k, s => if (s_fr ld n s).1 = 1 then s_cnt ld n f (k + 1) (s_fr ld n s).2 else (k, (s_fr ld n s).2)
def s_size (ld : Nat → Int32) (n : Nat) (s : DS) : Int32 × DS :=
  if (s_bin ld n s 12).1 = 0 then (1, (s_bin ld n s 12).2) else
  if (s_bin ld n (s_bin ld n s 12).2 13).1 = 0 then (2, (s_bin ld n (s_bin ld n s 12).2 13).2) else
  (((2 + ((1 : Int32) <<< (nI (s_cnt ld n 6 0 (s_bin ld n (s_bin ld n s 12).2 13).2).1 &&& 31))) + (s_frs ld n (s_cnt ld n 6 0 (s_bin ld n (s_bin ld n s 12).2 13).2).1 0 (s_cnt ld n 6 0 (s_bin ld n (s_bin ld n s 12).2 13).2).2).1), (s_frs ld n (s_cnt ld n 6 0 (s_bin ld n (s_bin ld n s 12).2 13).2).1 0 (s_cnt ld n 6 0 (s_bin ld n (s_bin ld n s 12).2 13).2).2).2)
theorem s_frs1 (ld : Nat → Int32) (n : Nat) (s : DS) : s_frs ld n 1 0 s = s_fr ld n s := by
  show ((2 : Int32) * 0 + (s_fr ld n s).1, (s_fr ld n s).2) = s_fr ld n s
  rw [Int32.mul_zero, Int32.zero_add]
theorem s_cnt_ok (ld : Nat → Int32) (n : Nat) : ∀ (f k b : Nat) (s : DS), DOK b s → DOK (b + f) (s_cnt ld n f k s).2 ∧ (s_cnt ld n f k s).1 ≤ k + f ∧ (s_cnt ld n f k s).2.1 = s.1 ∧ (s_cnt ld n f k s).2.2.2.2.1 = s.2.2.2.1 := by
  intro f
  induction f with
  | zero => intro k b s h; exact ⟨h, Nat.le_refl _, rfl, rfl⟩
  | succ f ih =>
    intro k b s h
    unfold s_cnt
    by_cases hc : (s_fr ld n s).1 = 1
    · rw [if_pos hc]
      obtain ⟨h1, h2, h3, h4⟩ := ih (k + 1) (b + 1) (s_fr ld n s).2 (s_fr_ok ld n h)
      refine ⟨?_, by omega, h3, h4⟩
      rw [show b + (f + 1) = b + 1 + f by omega]
      exact h1
    · rw [if_neg hc]
      refine ⟨?_, by show k ≤ _; omega, rfl, rfl⟩
      exact (s_fr_ok ld n h).mono (by omega)
theorem s_shl1 : ∀ k : Nat, k ≤ 6 → (1 : Int32) <<< (nI k &&& 31) = nI (2 ^ k) := by
  intro k hk
  have : k = 0 ∨ k = 1 ∨ k = 2 ∨ k = 3 ∨ k = 4 ∨ k = 5 ∨ k = 6 := by omega
  rcases this with rfl | rfl | rfl | rfl | rfl | rfl | rfl <;> decide
theorem s_size_ok (ld : Nat → Int32) (n : Nat) {b : Nat} {s : DS} (h : DOK b s) : DOK (b + 24) (s_size ld n s).2 ∧ ∃ z, (s_size ld n s).1 = nI z ∧ 1 ≤ z ∧ z ≤ 129 := by
  have h1 := s_bin_ok ld n (c := 12) (by omega) h
  have h2 := s_bin_ok ld n (c := 13) (by omega) h1
  unfold s_size
  by_cases hc : (s_bin ld n s 12).1 = 0
  · rw [if_pos hc]
    exact ⟨h1.mono (by omega), 1, rfl, by omega, by omega⟩
  · rw [if_neg hc]
    by_cases hd : (s_bin ld n (s_bin ld n s 12).2 13).1 = 0
    · rw [if_pos hd]
      exact ⟨h2.mono (by omega), 2, rfl, by omega, by omega⟩
    · rw [if_neg hd]
      obtain ⟨h3, h4, -, -⟩ := s_cnt_ok ld n 6 0 _ _ h2
      generalize s_cnt ld n 6 0 (s_bin ld n (s_bin ld n s 12).2 13).2 = r3 at h3 h4 ⊢
      have h5 := s_frs_ok ld n r3.1 _ 0 _ h3
      obtain ⟨y, h6, h7⟩ := s_frs_v ld n r3.1 0 r3.2
      rw [show nI 0 = (0 : Int32) from rfl] at h6
      generalize s_frs ld n r3.1 0 r3.2 = r4 at h5 h6 ⊢
      refine ⟨h5.mono (by omega), ?_⟩
      simp only []
      rw [h6, s_shl1 _ (by omega), show (2 : Int32) = nI 2 from rfl, nI_add, nI_add]
      have h8 : 2 ^ r3.1 ≤ 2 ^ 6 := Nat.pow_le_pow_right (by omega) (by omega)
      refine ⟨_, rfl, by omega, by omega⟩
theorem q_cntX (ld : Nat → Int32) {n : Nat} (hn : n ≤ 240) (rg : Int32) : ∀ (f k fuel b : Nat) (s : DS) (co : Nat → Int32), s.2.2.2.1 = rg → k + f = 6 → f < fuel → DOK b s → b + f < 2 ^ 30 → XR s co → ∃ co1 : Nat → Int32, ip_lp4 (fLR_readSize_B30 (nI (8 * n)) ld rg) fuel (nI k) (nI (s.2.2.2.2.2 + 8)) s.2.2.2.2.1 co = some (nI (s_cnt ld n f k s).1, nI ((s_cnt ld n f k s).2.2.2.2.2.2 + 8), (s_cnt ld n f k s).2.2.2.2.2.1, co1) ∧ XR (s_cnt ld n f k s).2 co1 := by
  intro f
  induction f with
  | zero =>
    intro k fuel b s co hr hk hf hs hb hx
    obtain ⟨g, rfl⟩ : ∃ f, fuel = f + 1 := ⟨fuel - 1, by omega⟩
    refine ⟨co, ?_, hx⟩
    unfold ip_lp4 ip_lp fLR_readSize_B30
    simp only []
    rw [if_pos (show (6 : Int32) ≤ nI k from (nI_leI (a := 6) (by omega) (by omega)).mpr (by omega))]
    rfl
  | succ f ih =>
    intro k fuel b s co hr hk hf hs hb hx
    obtain ⟨g, rfl⟩ : ∃ f, fuel = f + 1 := ⟨fuel - 1, by omega⟩
    obtain ⟨co1, h1, h2, h3⟩ := q_freeX ld co (N := 1) hn (by omega) hs (by omega) hx.1 hx.2
    rw [s_frs1] at h1 h2 h3
    have h1 : fBD_freeBits (nI (s.2.2.2.2.2 + 8)) (nI (8 * n)) s.2.2.2.1 s.2.2.2.2.1 ld co (1 : Int32) = _ := h1
    have h6 : ¬ (6 : Int32) ≤ nI k := fun q => by
      have := (nI_leI (a := 6) (by omega) (by omega)).mp q
      omega
    by_cases hc : (s_fr ld n s).1 = 1
    · obtain ⟨co2, k1, k2⟩ := ih (k + 1) g (b + 1) (s_fr ld n s).2 co1 hr (by omega) (by omega) (s_fr_ok ld n hs) (by omega) ⟨h2, h3⟩
      refine ⟨co2, ?_, ?_⟩
      · unfold s_cnt
        rw [if_pos hc, ← k1]
        conv => lhs; unfold ip_lp4 ip_lp fLR_readSize_B30
        simp only []
        rw [if_neg h6, ← hr, h1]
        simp only [e_b4]
        rw [if_pos hc]
        simp only [e_lt, nI_1]
        rfl
      · unfold s_cnt
        rw [if_pos hc]
        exact k2
    · refine ⟨co1, ?_, ?_⟩
      · unfold s_cnt
        rw [if_neg hc]
        unfold ip_lp4 ip_lp fLR_readSize_B30
        simp only []
        rw [if_neg h6, ← hr, h1]
        simp only [e_b4]
        rw [if_neg hc]
      · unfold s_cnt
        rw [if_neg hc]
        exact ⟨h2, h3⟩
theorem q_cntM (a1 a4 a5 a6 a9 : Int32) (ld : Nat → Int32) {n : Nat} (hn : n ≤ 240) (rg : Int32) : ∀ (f k fuel b : Nat) (s : DS) (co : Nat → Int32), s.2.2.2.1 = rg → k + f = 6 → f < fuel → DOK b s → b + f < 2 ^ 30 → MR s co → ∃ co1 : Nat → Int32, ip_lp4 (fMO_sizeOfLevel_B24 a1 (nI n) a4 a5 a6 a9 ld rg) fuel (nI k) (nI s.2.2.2.2.2) s.2.2.2.2.1 co = some (nI (s_cnt ld n f k s).1, nI (s_cnt ld n f k s).2.2.2.2.2.2, (s_cnt ld n f k s).2.2.2.2.2.1, co1) ∧ MR (s_cnt ld n f k s).2 co1 := by
  intro f
  induction f with
  | zero =>
    intro k fuel b s co hr hk hf hs hb hx
    obtain ⟨g, rfl⟩ : ∃ f, fuel = f + 1 := ⟨fuel - 1, by omega⟩
    refine ⟨co, ?_, hx⟩
    unfold ip_lp4 ip_lp fMO_sizeOfLevel_B24
    simp only []
    rw [if_pos (show (6 : Int32) ≤ nI k from (nI_leI (a := 6) (by omega) (by omega)).mpr (by omega))]
    rfl
  | succ f ih =>
    intro k fuel b s co hr hk hf hs hb hx
    obtain ⟨g, rfl⟩ : ∃ f, fuel = f + 1 := ⟨fuel - 1, by omega⟩
    obtain ⟨co1, h1, h2⟩ := q_free1M a1 a4 a5 a6 a9 ld co hn hs (by omega) hx.1 hx.2.1 hx.2.2
    have h6 : ¬ (6 : Int32) ≤ nI k := fun q => by
      have := (nI_leI (a := 6) (by omega) (by omega)).mp q
      omega
    by_cases hc : (s_fr ld n s).1 = 1
    · obtain ⟨co2, k1, k2⟩ := ih (k + 1) g (b + 1) (s_fr ld n s).2 co1 hr (by omega) (by omega) (s_fr_ok ld n hs) (by omega) h2
      refine ⟨co2, ?_, ?_⟩
      · unfold s_cnt
        rw [if_pos hc, ← k1]
        conv => lhs; unfold ip_lp4 ip_lp fMO_sizeOfLevel_B24
        simp only []
        rw [if_neg h6, ← hr, h1]
        simp only [e_b4]
        rw [if_pos hc]
        simp only [e_lt, nI_1]
        rfl
      · unfold s_cnt
        rw [if_pos hc]
        exact k2
    · refine ⟨co1, ?_, ?_⟩
      · unfold s_cnt
        rw [if_neg hc]
        unfold ip_lp4 ip_lp fMO_sizeOfLevel_B24
        simp only []
        rw [if_neg h6, ← hr, h1]
        simp only [e_b4]
        rw [if_neg hc]
      · unfold s_cnt
        rw [if_neg hc]
        exact h2
theorem q_sizeX (f l sm : Int32) (ld co : Nat → Int32) {n b : Nat} {s : DS} (hn : n ≤ 240) (hs : DOK b s) (hb : b + 24 < 2 ^ 30) (hx : XR s co) : ∃ co1 : Nat → Int32, fLR_readSize (nI (s.2.2.2.2.2 + 8)) (nI (8 * n)) s.2.2.2.1 s.2.2.2.2.1 f l sm ld s.1 co = some ((s_size ld n s).1, nI ((s_size ld n s).2.2.2.2.2.2 + 8), (s_size ld n s).2.2.2.2.1, (s_size ld n s).2.2.2.2.2.1, (s_size ld n s).2.1, co1) ∧ XR (s_size ld n s).2 co1 := by
  obtain ⟨co1, h1, h2⟩ := q_binX ld co (c := 12) hn (by omega) hs (by omega) hx.1 hx.2
  have k1 := s_bin_ok ld n (c := 12) (by omega) hs
  obtain ⟨co2, h3, h4⟩ := q_binX ld co1 (c := 13) hn (by omega) k1 (by omega) h2.1 h2.2
  have k2 := s_bin_ok ld n (c := 13) (by omega) k1
  unfold fLR_readSize s_size
  rw [show (12 : Int32) = nI 12 from rfl, h1]
  simp only [e_b6]
  by_cases hc : (s_bin ld n s 12).1 = 0
  · rw [if_pos hc, if_pos hc]
    exact ⟨co1, rfl, h2⟩
  · rw [if_neg hc, if_neg hc, show (13 : Int32) = nI 13 from rfl, h3]
    simp only [e_b6]
    by_cases hd : (s_bin ld n (s_bin ld n s 12).2 13).1 = 0
    · rw [if_pos hd, if_pos hd]
      exact ⟨co2, rfl, h4⟩
    · rw [if_neg hd, if_neg hd]
      obtain ⟨co3, h5, h6⟩ := q_cntX ld hn _ 6 0 1000 (b + 6 + 6) (s_bin ld n (s_bin ld n s 12).2 13).2 co2 rfl (by omega) (by omega) k2 (by omega) h4
      obtain ⟨k3, k4, k5, k6⟩ := s_cnt_ok ld n 6 0 _ _ k2
      generalize s_bin ld n (s_bin ld n s 12).2 13 = r2 at h5 h6 k3 k4 k5 k6 ⊢
      generalize s_cnt ld n 6 0 r2.2 = r3 at h5 h6 k3 k4 k5 k6 ⊢
      have k7 := s_frs_c ld n r3.1 0 r3.2
      obtain ⟨co4, h7, h8⟩ := q_freeX ld co3 (N := r3.1) hn (by omega) k3 (by omega) h6.1 h6.2
      generalize s_frs ld n r3.1 0 r3.2 = r4 at k7 h7 h8 ⊢
      rw [k6] at h7
      refine ⟨co4, ?_, h8⟩
      rw [show (0 : Int32) = nI 0 from rfl, h5]
      simp only [e_b4]
      rw [h7]
      simp only [e_b4]
      rw [k7.1, k7.2.2.2.1, k5, k6]
theorem q_sizeM (a1 a4 a5 a6 a9 : Int32) (ld co : Nat → Int32) {n b : Nat} {s : DS} (hn : n ≤ 240) (hs : DOK b s) (hb : b + 40 < 2 ^ 30) (hx : MR s co) : ∃ co1 : Nat → Int32, fMO_sizeOfLevel a1 (nI n) (nI s.2.2.2.2.2) a4 a5 a6 s.2.2.2.1 s.2.2.2.2.1 a9 ld s.1 co = some ((s_size ld n s).1, nI (s_size ld n s).2.2.2.2.2.2, (s_size ld n s).2.2.2.2.1, (s_size ld n s).2.2.2.2.2.1, (s_size ld n s).2.1, co1) ∧ MR (s_size ld n s).2 co1 := by
  obtain ⟨co1, h1, h2⟩ := q_binM a1 a4 a5 a6 a9 ld co (c := 12) hn (by omega) hs (by omega) hx.1 hx.2.1 hx.2.2
  have k1 := s_bin_ok ld n (c := 12) (by omega) hs
  obtain ⟨co2, h3, h4⟩ := q_binM a1 a4 a5 a6 a9 ld co1 (c := 13) hn (by omega) k1 (by omega) h2.1 h2.2.1 h2.2.2
  have k2 := s_bin_ok ld n (c := 13) (by omega) k1
  unfold fMO_sizeOfLevel s_size
  rw [show (12 : Int32) = nI 12 from rfl, h1]
  simp only [e_b6]
  by_cases hc : (s_bin ld n s 12).1 = 0
  · rw [if_pos hc, if_pos hc]
    exact ⟨co1, rfl, h2⟩
  · rw [if_neg hc, if_neg hc, show (13 : Int32) = nI 13 from rfl, h3]
    simp only [e_b6]
    by_cases hd : (s_bin ld n (s_bin ld n s 12).2 13).1 = 0
    · rw [if_pos hd, if_pos hd]
      exact ⟨co2, rfl, h4⟩
    · rw [if_neg hd, if_neg hd]
      obtain ⟨co3, h5, h6⟩ := q_cntM a1 a4 a5 a6 a9 ld hn _ 6 0 1000 (b + 6 + 6) (s_bin ld n (s_bin ld n s 12).2 13).2 co2 rfl (by omega) (by omega) k2 (by omega) h4
      obtain ⟨k3, k4, k5, k6⟩ := s_cnt_ok ld n 6 0 _ _ k2
      generalize s_bin ld n (s_bin ld n s 12).2 13 = r2 at h5 h6 k3 k4 k5 k6 ⊢
      generalize s_cnt ld n 6 0 r2.2 = r3 at h5 h6 k3 k4 k5 k6 ⊢
      have k7 := s_frs_c ld n r3.1 0 r3.2
      obtain ⟨co4, h7, h8⟩ := q_freesM a1 a4 a5 a6 a9 ld co3 (N := r3.1) hn (by omega) k3 (by omega) h6.1 h6.2.1 h6.2.2
      generalize s_frs ld n r3.1 0 r3.2 = r4 at k7 h7 h8 ⊢
      rw [k6] at h7
      refine ⟨co4, ?_, h8⟩
      rw [show (0 : Int32) = nI 0 from rfl, h5]
      simp only [e_b4]
      rw [h7]
      simp only [e_b4]
      rw [k7.1, k7.2.2.2.1, k5, k6]
