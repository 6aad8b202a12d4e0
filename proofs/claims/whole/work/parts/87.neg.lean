/-! a fault of the parameters is never above 0 -/
def NF (f : Int32) : Prop := f = 0 ∨ f < 0
theorem lp_inv {S T : Type} (B : S → Option (S ⊕ T)) (P : S → Prop) (Q : T → Prop) (hB : ∀ s r, P s → B s = some r → Sum.elim P Q r) : ∀ (n : Nat) (s : S) (t : T), P s → ip_lp B n s = some t → Q t := by
  intro n
  induction n with
  | zero =>
    intro s t _ h
    have h9 : (none : Option T) = some t := h
    cases h9
  | succ n ih =>
    intro s t hp h
    unfold ip_lp at h
    cases e : B s with
    | none =>
      rw [e] at h
      cases h
    | some r =>
      rw [e] at h
      have k := hB s r hp e
      cases r with
      | inl s' => exact ih s' t k h
      | inr x =>
        have h9 : some x = some t := h
        cases h9
        exact k
theorem n_blame {th f k g : Int32} (h : fPA_blame th f k = some g) (hk : k < 0) (hf : NF f) : NF g := by
  unfold fPA_blame at h
  by_cases c : f = 0
  · rw [if_pos c] at h
    cases h
    exact Or.inr hk
  · rw [if_neg c] at h
    cases h
    exact hf
theorem n_number {p e th f N v p1 f1 : Int32} {ld : Nat → Int32} (h : fPA_number p e th f ld N = some (v, p1, f1)) (hf : NF f) : NF f1 := by
  unfold fPA_number at h
  obtain ⟨a1, a2, a3, a4, e1, e2⟩ := ip_b4_e h
  cases e2
  refine lp_inv (fun p => fPA_number_B4 e th ld N p.1 p.2.1 p.2.2.1 p.2.2.2) (fun s => NF s.2.2.2) (fun s => NF s.2.2.2) ?_ 1000 (0, 0, p, f) (v, a2, p1, f1) hf e1
  intro ⟨z1, z2, z3, z4⟩ r hz h
  have h : fPA_number_B4 e th ld N z1 z2 z3 z4 = some r := h
  unfold fPA_number_B4 at h
  by_cases c : N ≤ z2
  · rw [if_pos c] at h
    cases h
    exact hz
  · rw [if_neg c] at h
    obtain ⟨z9, _, h⟩ := ip_b1_e h
    obtain ⟨z10, h1, h⟩ := ip_b1_e h
    obtain ⟨z12, z13, _, h⟩ := ip_b2_e h
    cases h
    show NF z10
    by_cases d : z9 = 0
    · rw [if_pos d] at h1
      cases h1
      exact hz
    · rw [if_neg d] at h1
      obtain ⟨z11, h2, h3⟩ := ip_b1_e h1
      cases h3
      exact n_blame h2 (by decide) hz
theorem n_code {p e th f v p1 f1 : Int32} {ld : Nat → Int32} (h : fPA_code p e th f ld = some (v, p1, f1)) (hf : NF f) : NF f1 := by
  unfold fPA_code at h
  obtain ⟨a1, a2, a3, e1, e2⟩ := ip_b3_e h
  have k : NF a3 := by
    refine lp_inv (fun p => fPA_code_B2 e th ld p.1 p.2.1 p.2.2) (fun s => NF s.2.2) (fun s => NF s.2.2) ?_ 1000 (0, p, f) (a1, a2, a3) hf e1
    intro ⟨z1, z2, z3⟩ r hz h
    have h : fPA_code_B2 e th ld z1 z2 z3 = some r := h
    unfold fPA_code_B2 at h
    by_cases c : (7 : Int32) ≤ z1
    · rw [if_pos c] at h
      cases h
      exact hz
    · rw [if_neg c] at h
      obtain ⟨z7, z8, z9, h1, h⟩ := ip_b3_e h
      have := n_number h1 hz
      by_cases d : z7 = 0
      · rw [if_pos d] at h
        cases h
        exact this
      · rw [if_neg d] at h
        cases h
        exact this
  by_cases c : a1 = 7
  · rw [if_pos c] at e2
    obtain ⟨z, h1, h2⟩ := ip_b1_e e2
    cases h2
    exact n_blame h1 (by decide) k
  · rw [if_neg c] at e2
    obtain ⟨z1, z2, z3, h1, h2⟩ := ip_b3_e e2
    cases h2
    exact n_number h1 k
theorem n_check {th f v lo hi w f1 : Int32} (h : fPA_checked th f v lo hi = some (w, f1)) (hf : NF f) : NF f1 := by
  unfold fPA_checked at h
  obtain ⟨z, h1, h2⟩ := ip_b1_e h
  cases h2
  by_cases c : v < lo
  · rw [if_pos c] at h1
    obtain ⟨y, h3, h4⟩ := ip_b1_e h1
    cases h4
    exact n_blame h3 (by decide) hf
  · rw [if_neg c] at h1
    by_cases d : v ≤ hi
    · rw [if_pos d] at h1
      cases h1
      exact hf
    · rw [if_neg d] at h1
      obtain ⟨y, h3, h4⟩ := ip_b1_e h1
      cases h4
      exact n_blame h3 (by decide) hf
theorem n_sgn {p e th f v p1 f1 : Int32} {ld : Nat → Int32} (h : fPA_signedCode p e th f ld = some (v, p1, f1)) (hf : NF f) : NF f1 := by
  unfold fPA_signedCode at h
  obtain ⟨a1, a2, a3, e1, e2⟩ := ip_b3_e h
  have := n_code e1 hf
  by_cases c : (a1 &&& (1 : Int32)) = (1 : Int32)
  · rw [if_pos c] at e2
    cases e2
    exact this
  · rw [if_neg c] at e2
    cases e2
    exact this
theorem n_par {p e th f f1 p1 th1 f2 : Int32} {ld va cm va1 cm1 : Nat → Int32} (h : fPA_readUnit p e th f ld va cm = some (f1, p1, th1, f2, va1, cm1)) : NF f1 := by
  unfold fPA_readUnit at h
  obtain ⟨g1, _, h⟩ := ip_b1_e h
  obtain ⟨_, _, z4, k1, h⟩ := ip_b3_e h
  have k1 := n_code k1 (Or.inl rfl)
  obtain ⟨_, z6, k2, h⟩ := ip_b2_e h
  have k2 := n_check k2 k1
  obtain ⟨_, _, h⟩ := ip_b1_e h
  obtain ⟨_, _, z10, k3, h⟩ := ip_b3_e h
  have k3 := n_number k3 k2
  obtain ⟨_, _, h⟩ := ip_b1_e h
  obtain ⟨_, _, z14, k4, h⟩ := ip_b3_e h
  have k4 := n_number k4 k3
  obtain ⟨_, _, h⟩ := ip_b1_e h
  obtain ⟨_, _, z18, k5, h⟩ := ip_b3_e h
  have k5 := n_number k5 k4
  obtain ⟨_, _, h⟩ := ip_b1_e h
  obtain ⟨z20, z21, z22, k6, h⟩ := ip_b3_e h
  have k6 := n_number k6 k5
  obtain ⟨g23, _, h⟩ := ip_b1_e h
  obtain ⟨z24, _, h⟩ := ip_b1_e h
  obtain ⟨z25, z26, g27, k7, h⟩ := ip_b3_e h
  have k7 : NF z26 := by
    by_cases c : z24 = 0
    · rw [if_pos c] at k7
      cases k7
      exact k6
    · rw [if_neg c] at k7
      obtain ⟨a1, a2, a3, a4, e1, e2⟩ := ip_b4_e k7
      cases e2
      refine lp_inv (fun p => fPA_readUnit_B85 e th ld p.1 p.2.1 p.2.2.1 p.2.2.2) (fun s => NF s.2.2.1) (fun s => NF s.2.2.1) ?_ 1000 (0, z21, z22, g23) (a1, z25, z26, g27) k6 e1
      intro ⟨y1, y2, y3, y4⟩ r hz h
      have h : fPA_readUnit_B85 e th ld y1 y2 y3 y4 = some r := h
      unfold fPA_readUnit_B85 at h
      by_cases c : (4 : Int32) ≤ y1
      · rw [if_pos c] at h
        cases h
        exact hz
      · rw [if_neg c] at h
        obtain ⟨_, _, _, h1, h⟩ := ip_b3_e h
        obtain ⟨_, _, h2, h⟩ := ip_b2_e h
        obtain ⟨_, _, h⟩ := ip_b1_e h
        cases h
        exact n_check h2 (n_sgn h1 hz)
  obtain ⟨z43, _, h⟩ := ip_b1_e h
  obtain ⟨z44, z45, g46, k8, h⟩ := ip_b3_e h
  have k9 : NF z45 := by
    by_cases c : z43 = 3
    · rw [if_pos c] at k8
      obtain ⟨_, _, _, e1, e2⟩ := ip_b3_e k8
      obtain ⟨_, _, e2⟩ := ip_b1_e e2
      cases e2
      exact n_number e1 k7
    · rw [if_neg c] at k8
      cases k8
      exact k7
  obtain ⟨_, _, _, h⟩ := ip_b2_e h
  cases h
  exact k9
