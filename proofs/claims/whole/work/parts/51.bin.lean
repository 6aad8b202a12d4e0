/-! bin and free bits: class and reference against the common values -/
theorem q_nrmX (ld : Nat → Int32) {n : Nat} (hn : n ≤ 240) : ∀ (k i fuel : Nat) (rg vl : Int32) (t : Nat), i + k = 6 → k < fuel → t + k < 2 ^ 30 → ∃ i1 : Int32, ip_lp4 (fBD_bin_B134 (nI (8 * n)) ld) fuel (nI i) (nI (t + 8)) rg vl = some (i1, nI ((s_nrm ld n k rg vl t).2.2 + 8), (s_nrm ld n k rg vl t).1, (s_nrm ld n k rg vl t).2.1) := by
  intro k
  induction k with
  | zero =>
    intro i fuel rg vl t hi hf ht
    obtain ⟨f, rfl⟩ : ∃ f, fuel = f + 1 := ⟨fuel - 1, by omega⟩
    refine ⟨nI i, ?_⟩
    unfold ip_lp4 ip_lp fBD_bin_B134
    simp only []
    rw [if_pos (show (6 : Int32) ≤ nI i from (nI_leI (a := 6) (by omega) (by omega)).mpr (by omega))]
    rfl
  | succ k ih =>
    intro i fuel rg vl t hi hf ht
    obtain ⟨f, rfl⟩ : ∃ f, fuel = f + 1 := ⟨fuel - 1, by omega⟩
    have h6 : ¬ (6 : Int32) ≤ nI i := fun q => by
      have := (nI_leI (a := 6) (by omega) (by omega)).mp q
      omega
    by_cases hr : 256 ≤ rg
    · refine ⟨nI i, ?_⟩
      unfold ip_lp4 ip_lp fBD_bin_B134 s_nrm
      simp only []
      rw [if_neg h6, if_pos hr, if_pos hr]
    · obtain ⟨i1, h1⟩ := ih (i + 1) f (rg * 2) (2 * vl + sb ld n t) (t + 1) (by omega) (by omega) (by omega)
      refine ⟨i1, ?_⟩
      unfold s_nrm
      rw [if_neg hr, ← h1]
      conv => lhs; unfold ip_lp4 ip_lp fBD_bin_B134
      simp only []
      rw [if_neg h6, if_neg hr, q_next ld hn (by omega)]
      simp only [e_b2, e_lt, nI_1]
      rfl
theorem q_nrmM (a1 a4 a5 a6 a9 : Int32) (ld : Nat → Int32) {n : Nat} (hn : n ≤ 240) : ∀ (k i fuel : Nat) (rg vl : Int32) (t : Nat) (co : Nat → Int32), i + k = 10 → k < fuel → t + k < 2 ^ 30 → co 2 = nI t → ∃ (i1 : Int32) (co1 : Nat → Int32), ip_lp5 (fMO_bin_B140 a1 (nI n) a4 a5 a6 a9 ld) fuel (nI i) (nI t) rg vl co = some (i1, nI (s_nrm ld n k rg vl t).2.2, (s_nrm ld n k rg vl t).1, (s_nrm ld n k rg vl t).2.1, co1) ∧ co1 0 = co 0 ∧ co1 1 = co 1 ∧ co1 2 = nI (s_nrm ld n k rg vl t).2.2 := by
  intro k
  induction k with
  | zero =>
    intro i fuel rg vl t co hi hf ht hc
    obtain ⟨f, rfl⟩ : ∃ f, fuel = f + 1 := ⟨fuel - 1, by omega⟩
    refine ⟨nI i, co, ?_, rfl, rfl, hc⟩
    unfold ip_lp5 ip_lp fMO_bin_B140
    simp only []
    rw [if_pos (show (10 : Int32) ≤ nI i from (nI_leI (a := 10) (by omega) (by omega)).mpr (by omega))]
    rfl
  | succ k ih =>
    intro i fuel rg vl t co hi hf ht hc
    obtain ⟨f, rfl⟩ : ∃ f, fuel = f + 1 := ⟨fuel - 1, by omega⟩
    have h6 : ¬ (10 : Int32) ≤ nI i := fun q => by
      have := (nI_leI (a := 10) (by omega) (by omega)).mp q
      omega
    by_cases hr : 256 ≤ rg
    · refine ⟨nI i, co, ?_, rfl, rfl, ?_⟩
      · unfold ip_lp5 ip_lp fMO_bin_B140 s_nrm
        simp only []
        rw [if_neg h6, if_pos hr, if_pos hr]
      · unfold s_nrm
        rw [if_pos hr]
        exact hc
    · obtain ⟨i1, co1, h1, h2, h3, h4⟩ := ih (i + 1) f (rg * 2) (2 * vl + sb ld n t) (t + 1) (upd co 2 (co 2 + 1)) (by omega) (by omega) (by omega) (by rw [u_0, hc, nI_1])
      refine ⟨i1, co1, ?_, h2, h3, ?_⟩
      · unfold s_nrm
        rw [if_neg hr, ← h1]
        conv => lhs; unfold ip_lp5 ip_lp fMO_bin_B140
        simp only []
        rw [if_neg h6, if_neg hr]
        simp only [e_lt]
        rw [q_shift a1 a4 a5 a6 (rg * 2) vl a9 ld co hn (by omega)]
        simp only [e_b3, e_lt, nI_1]
        rfl
      · unfold s_nrm
        rw [if_neg hr]
        exact h4
theorem q_binX (ld co : Nat → Int32) {n b c : Nat} {s : DS} (hn : n ≤ 240) (hc : c < 14) (hs : DOK b s) (hb : b + 6 < 2 ^ 30) (h0 : co 0 = s.2.1) (h1 : co 1 = s.2.2.1) : ∃ co1 : Nat → Int32, fBD_bin (nI (s.2.2.2.2.2 + 8)) (nI (8 * n)) s.2.2.2.1 s.2.2.2.2.1 ld s.1 co (nI c) = some ((s_bin ld n s c).1, nI ((s_bin ld n s c).2.2.2.2.2.2 + 8), (s_bin ld n s c).2.2.2.2.1, (s_bin ld n s c).2.2.2.2.2.1, (s_bin ld n s c).2.1, co1) ∧ co1 0 = (s_bin ld n s c).2.2.1 ∧ co1 1 = (s_bin ld n s c).2.2.2.1 := by
  obtain ⟨ch, c0, c1, rg, vl, t⟩ := s
  obtain ⟨k1, ⟨r, k2, k3, k4⟩, k5⟩ := hs
  simp only [] at k1 k2 k3 k4 k5 h0 h1 ⊢
  refine ⟨upd co 0 (co 0 + 1), ?_, by rw [u_0, h0]; rfl, by rw [u_n (by decide), h1]; rfl⟩
  unfold fBD_bin
  rw [ip_ald_n hc (by omega)]
  simp only [e_b1]
  have ek : (if ch c < (512 : Int32) then some (0 : Int32) else some (1 : Int32)) = some (s_likely (ch c)) := by
    unfold s_likely
    split <;> rfl
  rw [ek]
  simp only [e_b1]
  have e3 : (if s_likely (ch c) = (1 : Int32) then some ((1023 : Int32) - ch c) else some (ch c)) = some (if s_likely (ch c) = 1 then 1023 - ch c else ch c) := by
    split <;> rfl
  rw [e3]
  simp only [e_b1, e_lt]
  have e4 : (if vl < rg - s_part rg (ch c) then some (s_likely (ch c), rg - s_part rg (ch c), vl) else some (1 - s_likely (ch c), s_part rg (ch c), vl - (rg - s_part rg (ch c)))) = some (s_got rg vl (ch c), s_rg rg vl (ch c), s_vl rg vl (ch c)) := by
    unfold s_got s_rg s_vl
    split <;> rfl
  show ip_b3 (if vl < rg - s_part rg (ch c) then some (s_likely (ch c), rg - s_part rg (ch c), vl) else some (1 - s_likely (ch c), s_part rg (ch c), vl - (rg - s_part rg (ch c)))) _ = _
  rw [e4]
  simp only [e_b3]
  have e5 : (if s_got rg vl (ch c) = (1 : Int32) then some (ch c + (((1023 : Int32) - ch c) >>> ((4 : Int32) &&& 31))) else some (ch c - (ch c >>> ((4 : Int32) &&& 31)))) = some (s_ch (s_got rg vl (ch c)) (ch c)) := by
    unfold s_ch
    split <;> rfl
  rw [e5]
  simp only [e_b1]
  rw [ip_ast_n hc (by omega)]
  simp only [e_b1]
  obtain ⟨i1, h6⟩ := q_nrmX ld hn 6 0 1000 (s_rg rg vl (ch c)) (s_vl rg vl (ch c)) t (by omega) (by omega) (by omega)
  rw [show (0 : Int32) = nI 0 from rfl, h6]
  simp only [e_b4]
  rw [e_ald 3 co (nI 0) 0 rfl (by omega) (by omega)]
  simp only [e_b1]
  rw [e_ast 3 co (nI 0) _ 0 rfl (by omega) (by omega)]
  rfl
theorem q_binM (a1 a4 a5 a6 a9 : Int32) (ld co : Nat → Int32) {n b c : Nat} {s : DS} (hn : n ≤ 240) (hc : c < 14) (hs : DOK b s) (hb : b + 10 < 2 ^ 30) (h0 : co 0 = s.2.1) (h1 : co 1 = s.2.2.1) (h2 : co 2 = nI s.2.2.2.2.2) : ∃ co1 : Nat → Int32, fMO_bin a1 (nI n) (nI s.2.2.2.2.2) a4 a5 a6 s.2.2.2.1 s.2.2.2.2.1 a9 ld s.1 co (nI c) = some ((s_bin ld n s c).1, nI (s_bin ld n s c).2.2.2.2.2.2, (s_bin ld n s c).2.2.2.2.1, (s_bin ld n s c).2.2.2.2.2.1, (s_bin ld n s c).2.1, co1) ∧ co1 0 = (s_bin ld n s c).2.2.1 ∧ co1 1 = (s_bin ld n s c).2.2.2.1 ∧ co1 2 = nI (s_bin ld n s c).2.2.2.2.2.2 := by
  obtain ⟨ch, c0, c1, rg, vl, t⟩ := s
  obtain ⟨k1, ⟨r, k2, k3, k4⟩, k5⟩ := hs
  simp only [] at k1 k2 k3 k4 k5 h0 h1 h2 ⊢
  obtain ⟨q, hq, hq2⟩ := k1 c hc
  have hst : s_nrm ld n 10 (s_rg rg vl (ch c)) (s_vl rg vl (ch c)) t = s_nrm ld n 6 (s_rg rg vl (ch c)) (s_vl rg vl (ch c)) t := by
    rw [k2, hq]
    obtain ⟨d, e, h6, h7⟩ := s_rg_ok vl k3 k4 hq2
    rw [e]
    exact (s_nrm_r ld n 6 d _ _ (by omega) h7).2 4
  obtain ⟨i1, co1, h6, h7, h8, h9⟩ := q_nrmM a1 a4 a5 a6 a9 ld hn 10 0 1000 (s_rg rg vl (ch c)) (s_vl rg vl (ch c)) t (upd co 0 (co 0 + 1)) (by omega) (by omega) (by omega) (by rw [u_n (by decide), h2])
  rw [hst] at h6 h9
  refine ⟨co1, ?_, by rw [h7, u_0, h0]; rfl, by rw [h8, u_n (by decide), h1]; rfl, h9⟩
  unfold fMO_bin
  rw [e_ald 3 co 0 0 rfl (by omega) (by omega)]
  simp only [e_b1]
  rw [e_ast 3 co 0 _ 0 rfl (by omega) (by omega)]
  simp only [e_b1]
  rw [ip_ald_n hc (by omega)]
  simp only [e_b1]
  have ek : (if ch c < (512 : Int32) then some (0 : Int32) else some (1 : Int32)) = some (s_likely (ch c)) := by
    unfold s_likely
    split <;> rfl
  rw [ek]
  simp only [e_b1]
  have e3 : (if s_likely (ch c) = (1 : Int32) then some ((1023 : Int32) - ch c) else some (ch c)) = some (if s_likely (ch c) = 1 then 1023 - ch c else ch c) := by
    split <;> rfl
  rw [e3]
  simp only [e_b1, e_lt]
  have e4 : (if vl < rg - s_part rg (ch c) then some (s_likely (ch c), rg - s_part rg (ch c), vl) else some (1 - s_likely (ch c), s_part rg (ch c), vl - (rg - s_part rg (ch c)))) = some (s_got rg vl (ch c), s_rg rg vl (ch c), s_vl rg vl (ch c)) := by
    unfold s_got s_rg s_vl
    split <;> rfl
  show ip_b3 (if vl < rg - s_part rg (ch c) then some (s_likely (ch c), rg - s_part rg (ch c), vl) else some (1 - s_likely (ch c), s_part rg (ch c), vl - (rg - s_part rg (ch c)))) _ = _
  rw [e4]
  simp only [e_b3]
  have e5 : (if s_got rg vl (ch c) = (1 : Int32) then some (ch c + (((1023 : Int32) - ch c) >>> ((4 : Int32) &&& 31))) else some (ch c - (ch c >>> ((4 : Int32) &&& 31)))) = some (s_ch (s_got rg vl (ch c)) (ch c)) := by
    unfold s_ch
    split <;> rfl
  rw [e5]
  simp only [e_b1]
  rw [ip_ast_n hc (by omega)]
  simp only [e_b1]
  rw [show (0 : Int32) = nI 0 from rfl, h6]
  rfl
