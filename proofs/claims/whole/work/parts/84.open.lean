/-! one unit chosen, both sides -/
def kth (f : Nat → Int32) (c : Nat) : Nat → Nat → Nat
  | 0, p => nx f c p
  | j + 1, p => kth f c j (nx f c p + 3)
theorem kth_facts {f : Nat → Int32} {c : Nat} : ∀ j p, p ≤ c → j < cn f c p → kth f c j p < c ∧ st f c (kth f c j p) = true ∧ p ≤ kth f c j p := by
  intro j
  induction j with
  | zero =>
    intro p hp hj
    obtain ⟨h1, h2, h3, h4, h5, h6⟩ := nx_facts (f := f) (c := c) (c - p) p (by omega)
    have e : ¬ nx f c p = c := fun q => by rw [h5 q] at hj; omega
    exact ⟨show nx f c p < c by omega, h4.resolve_left e, h1⟩
  | succ j ih =>
    intro p hp hj
    obtain ⟨h1, h2, h3, h4, h5, h6⟩ := nx_facts (f := f) (c := c) (c - p) p (by omega)
    have e : ¬ nx f c p = c := fun q => by rw [h5 q] at hj; omega
    have s := h4.resolve_left e
    have s3 := st_le s
    obtain ⟨g1, g2, g3⟩ := ih (nx f c p + 3) s3 (by rw [← (nx_skip s).2]; have := h6 (by omega); omega)
    exact ⟨g1, g2, by show p ≤ kth f c j (nx f c p + 3); omega⟩
theorem q_kthM (a2 a3 a4 a5 a6 a7 a8 a9 : Int32) (f : Nat → Int32) {c J : Nat} (hc : c ≤ 240) (hJ : J < 240) : ∀ (k i p fuel : Nat), i + k = J → p ≤ c → k < cn f c p → k < fuel → ip_lp2 (fMO_open_B22 (nI c) a2 a3 a4 a5 a6 a7 a8 a9 f (nI J)) fuel (nI (nx f c p)) (nI i) = some (nI (kth f c k p), nI J) := by
  intro k
  induction k with
  | zero =>
    intro i p fuel h hp hk hf
    obtain ⟨f0, rfl⟩ : ∃ f, fuel = f + 1 := ⟨fuel - 1, by omega⟩
    have e : i = J := by omega
    subst e
    refine l_ex2 ?_
    unfold fMO_open_B22
    rw [if_pos (Int32.le_refl _)]
    rfl
  | succ k ih =>
    intro i p fuel h hp hk hf
    obtain ⟨f0, rfl⟩ : ∃ f, fuel = f + 1 := ⟨fuel - 1, by omega⟩
    obtain ⟨h1, h2, h3, h4, h5, h6⟩ := nx_facts (f := f) (c := c) (c - p) p (by omega)
    have e : ¬ nx f c p = c := fun q => by rw [h5 q] at hk; omega
    have s := h4.resolve_left e
    have s3 := st_le s
    have e2 : fMO_open_B22 (nI c) a2 a3 a4 a5 a6 a7 a8 a9 f (nI J) (nI (nx f c p)) (nI i) = some (.inl (nI (nx f c (nx f c p + 3)), nI (i + 1))) := by
      unfold fMO_open_B22
      rw [if_neg (show ¬ nI J ≤ nI i from nI_ge (by omega) (by omega)), show nI (nx f c p) + (3 : Int32) = nI (nx f c p + 3) from nI_add _ 3, q_stM a2 a3 a4 a5 a6 a7 a8 a9 f hc s3, e_b1, e_lt, nI_1]
    rw [l_in2 e2, ih (i + 1) (nx f c p + 3) f0 (by omega) s3 (by rw [← (nx_skip s).2]; have := h6 (by omega); omega) (by omega)]
    rfl
theorem kth_at {f : Nat → Int32} {c p : Nat} (hp : p < c) (s : st f c p = true) : ∀ j, kth f c j p = match j with | 0 => p | j + 1 => kth f c j (p + 1) := by
  have e : nx f c p = p := by rw [nx_step hp, if_pos s]
  intro j
  cases j with
  | zero => exact e
  | succ j =>
    show kth f c j (nx f c p + 3) = kth f c j (p + 1)
    rw [e]
    cases j with
    | zero => exact (nx_skip s).1.symm
    | succ j =>
      show kth f c j (nx f c (p + 3) + 3) = kth f c j (nx f c (p + 1) + 3)
      rw [(nx_skip s).1]
theorem kth_no {f : Nat → Int32} {c p : Nat} (hp : p < c) (s : ¬ st f c p = true) : ∀ j, kth f c j p = kth f c j (p + 1) := by
  have e : nx f c p = nx f c (p + 1) := by rw [nx_step hp, if_neg s]
  intro j
  cases j with
  | zero => exact e
  | succ j =>
    show kth f c j (nx f c p + 3) = kth f c j (nx f c (p + 1) + 3)
    rw [e]
theorem q_kthX (len : Int32) (f : Nat → Int32) {c J : Nat} (hc : c ≤ 240) (hJ : J < 2 ^ 31) : ∀ (k p i fuel : Nat), p + k = c → k < fuel → i ≤ J → i ≤ p → ip_b1 (ip_lp2 (fFB_firstByteOf_B4 (nI c) len f (nI J)) fuel (nI i) (nI p)) (fun X4 => ip_cs2 X4 (fun x3 x4 => some (-1 : Int32)) (fun q => some q)) = some (if J - i < cn f c p then nI (kth f c (J - i) p + 3) else -1) := by
  intro k
  induction k with
  | zero =>
    intro p i fuel h hf hi hip
    obtain ⟨f0, rfl⟩ : ∃ f, fuel = f + 1 := ⟨fuel - 1, by omega⟩
    have e : p = c := by omega
    subst e
    rw [l_ex2 (x := .inl (nI i, nI p)) (by
      unfold fFB_firstByteOf_B4
      rw [if_pos (Int32.le_refl _)]), e_b1, cn_end, if_neg (by omega)]
    rfl
  | succ k ih =>
    intro p i fuel h hf hi hip
    obtain ⟨f0, rfl⟩ : ∃ f, fuel = f + 1 := ⟨fuel - 1, by omega⟩
    have hp : p < c := by omega
    have n0 : ¬ nI c ≤ nI p := nI_ge hp (by omega)
    by_cases s : st f c p = true
    · by_cases c0 : i = J
      · subst c0
        rw [l_ex2 (x := .inr (nI p + 3)) (by
          unfold fFB_firstByteOf_B4
          rw [if_neg n0, q_stX len f hc hp, e_b1, if_pos s, if_neg (by decide), if_pos rfl]), e_b1, cn_step hp, if_pos s, Nat.sub_self, if_pos (by omega), kth_at hp s 0]
        show some (nI p + 3) = some (nI (p + 3))
        rw [show nI p + (3 : Int32) = nI (p + 3) from nI_add p 3]
      · have e2 : fFB_firstByteOf_B4 (nI c) len f (nI J) (nI i) (nI p) = some (.inl (nI (i + 1), nI (p + 1))) := by
          unfold fFB_firstByteOf_B4
          rw [if_neg n0, q_stX len f hc hp, e_b1, if_pos s, if_neg (by decide), if_neg (fun q => c0 ((nI_eq (by omega) (by omega)).mp q)), e_lt, e_lt, nI_1, nI_1]
        rw [l_in2 e2, ih (p + 1) (i + 1) f0 (by omega) (by omega) (by omega) (by omega), cn_step hp, if_pos s, show J - i = (J - (i + 1)) + 1 by omega, kth_at hp s]
        by_cases d : J - (i + 1) < cn f c (p + 1)
        · rw [if_pos d, if_pos (by omega)]
        · rw [if_neg d, if_neg (by omega)]
    · have e2 : fFB_firstByteOf_B4 (nI c) len f (nI J) (nI i) (nI p) = some (.inl (nI i, nI (p + 1))) := by
        unfold fFB_firstByteOf_B4
        rw [if_neg n0, q_stX len f hc hp, e_b1, if_neg s, if_pos rfl, e_lt, nI_1]
      rw [l_in2 e2, ih (p + 1) i f0 (by omega) (by omega) hi (by omega), cn_step hp, if_neg s, Nat.zero_add, kth_no hp s]
theorem q_kthXn (len : Int32) (f : Nat → Int32) {c : Nat} {J : Int32} (hc : c ≤ 240) (hJ : J < 0) : ∀ (k p i fuel : Nat), p + k = c → k < fuel → i ≤ p → ip_b1 (ip_lp2 (fFB_firstByteOf_B4 (nI c) len f J) fuel (nI i) (nI p)) (fun X4 => ip_cs2 X4 (fun x3 x4 => some (-1 : Int32)) (fun q => some q)) = some (-1) := by
  intro k
  induction k with
  | zero =>
    intro p i fuel h hf hip
    obtain ⟨f0, rfl⟩ : ∃ f, fuel = f + 1 := ⟨fuel - 1, by omega⟩
    have e : p = c := by omega
    subst e
    rw [l_ex2 (x := .inl (nI i, nI p)) (by
      unfold fFB_firstByteOf_B4
      rw [if_pos (Int32.le_refl _)]), e_b1]
    rfl
  | succ k ih =>
    intro p i fuel h hf hip
    obtain ⟨f0, rfl⟩ : ∃ f, fuel = f + 1 := ⟨fuel - 1, by omega⟩
    have hp : p < c := by omega
    have n0 : ¬ nI c ≤ nI p := nI_ge hp (by omega)
    by_cases s : st f c p = true
    · have e2 : fFB_firstByteOf_B4 (nI c) len f J (nI i) (nI p) = some (.inl (nI (i + 1), nI (p + 1))) := by
        unfold fFB_firstByteOf_B4
        rw [if_neg n0, q_stX len f hc hp, e_b1, if_pos s, if_neg (by decide), if_neg (fun q => nI_pos (n := i) (by omega) (by rw [q]; exact hJ)), e_lt, e_lt, nI_1, nI_1]
      rw [l_in2 e2, ih (p + 1) (i + 1) f0 (by omega) (by omega) (by omega)]
    · have e2 : fFB_firstByteOf_B4 (nI c) len f J (nI i) (nI p) = some (.inl (nI i, nI (p + 1))) := by
        unfold fFB_firstByteOf_B4
        rw [if_neg n0, q_stX len f hc hp, e_b1, if_neg s, if_pos rfl, e_lt, nI_1]
      rw [l_in2 e2, ih (p + 1) i f0 (by omega) (by omega) (by omega)]
