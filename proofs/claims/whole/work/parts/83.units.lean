/-! units behind start marks, both sides -/
def st (f : Nat → Int32) (c p : Nat) : Bool := decide (p + 3 ≤ c ∧ f p = 0 ∧ f (p + 1) = 0 ∧ f (p + 2) = 1)
theorem q_stX (len : Int32) (f : Nat → Int32) {c p : Nat} (hc : c ≤ 240) (hp : p < c) : fFB_startsAt (nI c) len f (nI p) = some (if st f c p = true then 1 else 0) := by
  unfold fFB_startsAt st
  rw [show nI p + (3 : Int32) = nI (p + 3) from nI_add p 3, show nI p + (1 : Int32) = nI (p + 1) from nI_1 p, show nI p + (2 : Int32) = nI (p + 2) from nI_add p 2]
  by_cases h : p + 3 ≤ c
  · rw [if_neg (show ¬ nI c < nI (p + 3) from nI_nlt h (by omega)), e_ald 240 f _ p rfl (by omega) (by omega), e_b1]
    by_cases h0 : f p = 0
    · rw [if_pos h0, e_ald 240 f _ (p + 1) rfl (by omega) (by omega), e_b1]
      by_cases h1 : f (p + 1) = 0
      · rw [if_pos h1, e_ald 240 f _ (p + 2) rfl (by omega) (by omega), e_b1]
        by_cases h2 : f (p + 2) = 1
        · rw [if_pos h2, if_pos (decide_eq_true ⟨h, h0, h1, h2⟩)]
        · rw [if_neg h2, if_neg (fun q => h2 (of_decide_eq_true q).2.2.2)]
      · rw [if_neg h1, if_neg (fun q => h1 (of_decide_eq_true q).2.2.1)]
    · rw [if_neg h0, if_neg (fun q => h0 (of_decide_eq_true q).2.1)]
  · rw [if_pos (show nI c < nI (p + 3) from nI_lt (by omega) (by omega)), if_neg (fun q => h (of_decide_eq_true q).1)]
def nxt (f : Nat → Int32) (c : Nat) : Nat → Nat → Nat
  | 0, p => p
  | k + 1, p => if st f c p = true then p else nxt f c k (p + 1)
def nx (f : Nat → Int32) (c p : Nat) : Nat := nxt f c (c - p) p
def cnt (f : Nat → Int32) (c : Nat) : Nat → Nat → Nat
  | 0, _ => 0
  | k + 1, p => (if st f c p = true then 1 else 0) + cnt f c k (p + 1)
def cn (f : Nat → Int32) (c p : Nat) : Nat := cnt f c (c - p) p
theorem nx_step {f : Nat → Int32} {c p : Nat} (hp : p < c) : nx f c p = if st f c p = true then p else nx f c (p + 1) := by
  unfold nx
  rw [show c - p = (c - (p + 1)) + 1 by omega]
  rfl
theorem nx_end {f : Nat → Int32} {c : Nat} : nx f c c = c := by
  unfold nx
  rw [Nat.sub_self]
  rfl
theorem cn_step {f : Nat → Int32} {c p : Nat} (hp : p < c) : cn f c p = (if st f c p = true then 1 else 0) + cn f c (p + 1) := by
  unfold cn
  rw [show c - p = (c - (p + 1)) + 1 by omega]
  rfl
theorem cn_end {f : Nat → Int32} {c : Nat} : cn f c c = 0 := by
  unfold cn
  rw [Nat.sub_self]
  rfl
theorem cn_le {f : Nat → Int32} {c : Nat} : ∀ k p, p + k = c → cn f c p ≤ k := by
  intro k
  induction k with
  | zero => intro p h; rw [show p = c by omega, cn_end]; omega
  | succ k ih =>
    intro p h
    have := ih (p + 1) (by omega)
    rw [cn_step (by omega)]
    split <;> omega
theorem nx_facts {f : Nat → Int32} {c : Nat} : ∀ k p, p + k = c → p ≤ nx f c p ∧ nx f c p ≤ c ∧ (∀ r, p ≤ r → r < nx f c p → ¬ st f c r = true) ∧ (nx f c p = c ∨ st f c (nx f c p) = true) ∧ (nx f c p = c → cn f c p = 0) ∧ (nx f c p < c → cn f c p = 1 + cn f c (nx f c p + 1)) := by
  intro k
  induction k with
  | zero =>
    intro p h
    have e : p = c := by omega
    subst e
    rw [nx_end]
    exact ⟨Nat.le_refl _, Nat.le_refl _, fun r h1 h2 => by omega, Or.inl rfl, fun _ => cn_end, fun q => by omega⟩
  | succ k ih =>
    intro p h
    obtain ⟨h1, h2, h3, h4, h5, h6⟩ := ih (p + 1) (by omega)
    rw [nx_step (by omega), cn_step (by omega)]
    by_cases s : st f c p = true
    · rw [if_pos s, if_pos s]
      exact ⟨Nat.le_refl _, by omega, fun r a b => by omega, Or.inr s, fun q => by omega, fun _ => rfl⟩
    · rw [if_neg s, if_neg s]
      refine ⟨by omega, h2, ?_, h4, ?_, ?_⟩
      · intro r a b
        by_cases e : r = p
        · subst e
          exact s
        · exact h3 r (by omega) b
      · intro q
        rw [h5 q]
      · intro q
        rw [h6 q]
        omega
theorem st_le {f : Nat → Int32} {c p : Nat} (h : st f c p = true) : p + 3 ≤ c := (of_decide_eq_true h).1
theorem nx_skip {f : Nat → Int32} {c p : Nat} (h : st f c p = true) : nx f c (p + 1) = nx f c (p + 3) ∧ cn f c (p + 1) = cn f c (p + 3) := by
  obtain ⟨h1, h2, h3, h4⟩ := of_decide_eq_true h
  have s1 : ¬ st f c (p + 1) = true := fun q => by
    have := (of_decide_eq_true q).2.2.1
    rw [show p + 1 + 1 = p + 2 by omega, h4] at this
    exact absurd this (by decide)
  have s2 : ¬ st f c (p + 2) = true := fun q => by
    have := (of_decide_eq_true q).2.1
    rw [h4] at this
    exact absurd this (by decide)
  rw [nx_step (by omega), if_neg s1, cn_step (by omega), if_neg s1, show p + 1 + 1 = p + 2 by omega, nx_step (by omega), if_neg s2, cn_step (by omega), if_neg s2, show p + 2 + 1 = p + 3 by omega]
  exact ⟨rfl, by omega⟩
theorem q_stM (a2 a3 a4 a5 a6 a7 a8 a9 : Int32) (f : Nat → Int32) {c : Nat} (hc : c ≤ 240) {p : Nat} (hp : p ≤ c) : fMO_start (nI c) a2 a3 a4 a5 a6 a7 a8 a9 f (nI p) = some (nI (nx f c p)) := by
  have l : ∀ (k p fuel : Nat), p + k = c → k < fuel → ip_lp1 (fMO_start_B2 (nI c) f) fuel (nI p) = some (nI (nx f c p)) := by
    intro k
    induction k with
    | zero =>
      intro p fuel h hf
      obtain ⟨f0, rfl⟩ : ∃ f, fuel = f + 1 := ⟨fuel - 1, by omega⟩
      have e : p = c := by omega
      subst e
      refine l_ex1 ?_
      unfold fMO_start_B2
      rw [if_pos (Int32.le_refl _), nx_end]
    | succ k ih =>
      intro p fuel h hf
      obtain ⟨f0, rfl⟩ : ∃ f, fuel = f + 1 := ⟨fuel - 1, by omega⟩
      have go : ¬ st f c p = true → fMO_start_B2 (nI c) f (nI p) = some (.inl (nI (p + 1))) → ip_lp1 (fMO_start_B2 (nI c) f) (f0 + 1) (nI p) = some (nI (nx f c p)) := by
        intro s e
        rw [l_in1 e, ih (p + 1) f0 (by omega) (by omega), nx_step (by omega : p < c), if_neg s]
      have n0 : ¬ nI c ≤ nI p := nI_ge (by omega) (by omega)
      have a1 : nI p + (1 : Int32) = nI (p + 1) := nI_1 p
      have a2 : nI p + (2 : Int32) = nI (p + 2) := nI_add p 2
      by_cases h3 : p + 3 ≤ c
      · have n1 : ¬ nI c ≤ nI (p + 2) := nI_ge (by omega) (by omega)
        by_cases h0 : f p = 0
        · by_cases h1 : f (p + 1) = 0
          · by_cases h2 : f (p + 2) = 1
            · have s : st f c p = true := decide_eq_true ⟨h3, h0, h1, h2⟩
              refine l_ex1 ?_
              unfold fMO_start_B2
              rw [if_neg n0, a2, if_neg n1, e_ald 240 f _ p rfl (by omega) (by omega), e_b1, if_pos h0, a1, e_ald 240 f _ (p + 1) rfl (by omega) (by omega), e_b1, if_pos h1, e_ald 240 f _ (p + 2) rfl (by omega) (by omega), e_b1, if_pos h2, nx_step (by omega : p < c), if_pos s]
            · refine go (fun q => h2 (of_decide_eq_true q).2.2.2) ?_
              unfold fMO_start_B2
              rw [if_neg n0, a2, if_neg n1, e_ald 240 f _ p rfl (by omega) (by omega), e_b1, if_pos h0, a1, e_ald 240 f _ (p + 1) rfl (by omega) (by omega), e_b1, if_pos h1, e_ald 240 f _ (p + 2) rfl (by omega) (by omega), e_b1, if_neg h2, e_lt]
          · refine go (fun q => h1 (of_decide_eq_true q).2.2.1) ?_
            unfold fMO_start_B2
            rw [if_neg n0, a2, if_neg n1, e_ald 240 f _ p rfl (by omega) (by omega), e_b1, if_pos h0, a1, e_ald 240 f _ (p + 1) rfl (by omega) (by omega), e_b1, if_neg h1, e_lt]
        · refine go (fun q => h0 (of_decide_eq_true q).2.1) ?_
          unfold fMO_start_B2
          rw [if_neg n0, a2, if_neg n1, e_ald 240 f _ p rfl (by omega) (by omega), e_b1, if_neg h0, e_lt, a1]
      · refine go (fun q => h3 (st_le q)) ?_
        unfold fMO_start_B2
        rw [if_neg n0, a2, if_pos (show nI c ≤ nI (p + 2) from nI_le (by omega) (by omega)), e_lt, a1]
  unfold fMO_start
  rw [l (c - p) p 1000 (by omega) (by omega), e_b1]
theorem q_unitsX (len : Int32) (f : Nat → Int32) {c : Nat} (hc : c ≤ 240) : fFB_countStarts (nI c) len f = some (nI (cn f c 0)) := by
  have l : ∀ (k p a fuel : Nat), p + k = c → k < fuel → ip_lp2 (fFB_countStarts_B4 (nI c) len f) fuel (nI a) (nI p) = some (nI (a + cn f c p), nI c) := by
    intro k
    induction k with
    | zero =>
      intro p a fuel h hf
      obtain ⟨f0, rfl⟩ : ∃ f, fuel = f + 1 := ⟨fuel - 1, by omega⟩
      have e : p = c := by omega
      subst e
      refine l_ex2 ?_
      unfold fFB_countStarts_B4
      rw [if_pos (Int32.le_refl _), cn_end, Nat.add_zero]
    | succ k ih =>
      intro p a fuel h hf
      obtain ⟨f0, rfl⟩ : ∃ f, fuel = f + 1 := ⟨fuel - 1, by omega⟩
      have e : fFB_countStarts_B4 (nI c) len f (nI a) (nI p) = some (.inl (nI (a + if st f c p = true then 1 else 0), nI (p + 1))) := by
        unfold fFB_countStarts_B4
        rw [if_neg (show ¬ nI c ≤ nI p from nI_ge (by omega) (by omega)), q_stX len f hc (by omega), e_b1]
        by_cases s : st f c p = true
        · rw [if_pos s, if_pos s, if_neg (by decide), e_lt, e_b1, e_lt, nI_1, nI_1]
        · rw [if_neg s, if_neg s, if_pos rfl, e_b1, e_lt, nI_1]
          rfl
      rw [l_in2 e, ih (p + 1) _ f0 (by omega) (by omega), cn_step (by omega : p < c), Nat.add_assoc]
  unfold fFB_countStarts
  have := l c 0 0 1000 (by omega) (by omega)
  rw [nI_0, Nat.zero_add] at this
  rw [this, e_b2]
theorem q_unitsM (a2 a3 a4 a5 a6 a7 a8 a9 : Int32) (f : Nat → Int32) {c : Nat} (hc : c ≤ 240) : fMO_units (nI c) a2 a3 a4 a5 a6 a7 a8 a9 f = some (nI (cn f c 0)) := by
  have l : ∀ (k p a fuel : Nat), p ≤ c → c - p ≤ k → k < fuel → ip_lp2 (fMO_units_B8 (nI c) a2 a3 a4 a5 a6 a7 a8 a9 f) fuel (nI a) (nI (nx f c p)) = some (nI (a + cn f c p), nI c) := by
    intro k
    induction k with
    | zero =>
      intro p a fuel h hk hf
      obtain ⟨f0, rfl⟩ : ∃ f, fuel = f + 1 := ⟨fuel - 1, by omega⟩
      have e : p = c := by omega
      subst e
      refine l_ex2 ?_
      unfold fMO_units_B8
      rw [nx_end, if_pos (Int32.le_refl _), cn_end, Nat.add_zero]
    | succ k ih =>
      intro p a fuel h hk hf
      obtain ⟨f0, rfl⟩ : ∃ f, fuel = f + 1 := ⟨fuel - 1, by omega⟩
      obtain ⟨h1, h2, h3, h4, h5, h6⟩ := nx_facts (f := f) (c := c) (c - p) p (by omega)
      by_cases e : nx f c p = c
      · refine l_ex2 ?_
        unfold fMO_units_B8
        rw [e, if_pos (Int32.le_refl _), h5 e, Nat.add_zero]
      · have s : st f c (nx f c p) = true := h4.resolve_left e
        have s3 := st_le s
        have e2 : fMO_units_B8 (nI c) a2 a3 a4 a5 a6 a7 a8 a9 f (nI a) (nI (nx f c p)) = some (.inl (nI (a + 1), nI (nx f c (nx f c p + 3)))) := by
          unfold fMO_units_B8
          rw [if_neg (show ¬ nI c ≤ nI (nx f c p) from nI_ge (by omega) (by omega)), e_lt, show nI (nx f c p) + (3 : Int32) = nI (nx f c p + 3) from nI_add _ 3, q_stM a2 a3 a4 a5 a6 a7 a8 a9 f hc s3, e_b1, nI_1]
        rw [l_in2 e2, ih (nx f c p + 3) (a + 1) f0 s3 (by omega) (by omega), h6 (by omega), (nx_skip s).2, Nat.add_assoc]
  unfold fMO_units
  have := l c 0 0 1000 (by omega) (by omega) (by omega)
  rw [nI_0, Nat.zero_add] at this
  rw [show (0 : Int32) = nI 0 from rfl, q_stM a2 a3 a4 a5 a6 a7 a8 a9 f hc (by omega), e_b1, nI_0, this, e_b2]
