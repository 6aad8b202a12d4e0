/-! the sizes of a group -/
def sp_ord (k : Nat) : Nat := ([0, 4, 1, 8, 5, 2, 12, 9, 6, 3, 13, 10, 7, 14, 11, 15] : List Nat).getD k 0
theorem ord_lt : ∀ k, k < 16 → sp_ord k < 16 := by decide
theorem ord_tb : ∀ k, k < 16 → tb_order k = nI (sp_ord k) := by decide
theorem ord_inj : ∀ k, k < 16 → ∀ j, j < 16 → sp_ord j = sp_ord k → j = k := by decide
theorem ord_sur : ∀ p, p < 16 → ∃ j, j < 16 ∧ sp_ord j = p := by decide
theorem ord_left : ∀ k, k < 16 → 0 < sp_ord k % 4 → ∃ j, j < k ∧ sp_ord j = sp_ord k - 1 := by decide
theorem ord_up : ∀ k, k < 16 → 4 ≤ sp_ord k → ∃ j, j < k ∧ sp_ord j = sp_ord k - 4 := by decide
theorem ord_place : ∀ k, k < 16 → fMO_place (nI k) = some (nI (sp_ord k)) := by decide +kernel
theorem uu {f : Nat → Int32} {k : Nat} {x y : Int32} : upd (upd f k x) k y = upd f k y := by
  funext j
  unfold upd
  split <;> rfl
def s_near (g : Nat → Int32) (p : Nat) : Nat := (if 0 < p % 4 then (if g (p - 1) = 0 then 0 else 1) else 0) + (if 4 ≤ p then (if g (p - 4) = 0 then 0 else 1) else 0)
theorem s_near_le (g : Nat → Int32) (p : Nat) : s_near g p ≤ 2 := by
  unfold s_near
  split <;> split <;> (try split) <;> (try split) <;> omega
abbrev GS : Type := Int32 × Int32 × Int32 × DS × (Nat → Int32)
def s_g1 (ld : Nat → Int32) (n k : Nat) (a : GS) : GS :=
  if (s_bin ld n a.2.2.2.1 (9 + s_near a.2.2.2.2 (sp_ord k))).1 = 1 then
    (a.1 + (s_size ld n (s_bin ld n a.2.2.2.1 (9 + s_near a.2.2.2.2 (sp_ord k))).2).1, if 0 ≤ a.2.1 then a.2.1 else nI k, nI k, (s_size ld n (s_bin ld n a.2.2.2.1 (9 + s_near a.2.2.2.2 (sp_ord k))).2).2, upd a.2.2.2.2 (sp_ord k) (s_size ld n (s_bin ld n a.2.2.2.1 (9 + s_near a.2.2.2.2 (sp_ord k))).2).1)
  else (a.1, a.2.1, a.2.2.1, (s_bin ld n a.2.2.2.1 (9 + s_near a.2.2.2.2 (sp_ord k))).2, upd a.2.2.2.2 (sp_ord k) 0)
def s_it {A : Type} (f : Nat → A → A) : Nat → Nat → A → A
  | 0, _, a => a
  | k + 1, i, a => s_it f k (i + 1) (f i a)
theorem q_nzb (f l sm : Int32) (g : Nat → Int32) {p : Nat} (hp : p < 16) : fLR_notZeroBefore f l sm g (nI p) = some (nI (s_near g p)) := by
  have e1 : nI p &&& (3 : Int32) = nI (p % 4) := pk_andN (by omega) 2 (by decide)
  have z : ∀ x : Int32, (if x = 0 then some (0 : Int32) else some 1) = some (nI (if x = 0 then 0 else 1)) := by
    intro x
    split <;> rfl
  have h1 : (if nI p &&& (3 : Int32) ≤ 0 then some (0 : Int32) else ip_b1 (ip_ald 16 g (nI p - 1)) (fun z2 => if z2 = 0 then some 0 else some 1)) = some (nI (if 0 < p % 4 then (if g (p - 1) = 0 then 0 else 1) else 0)) := by
    rw [e1]
    by_cases h : 0 < p % 4
    · rw [if_neg (nI_nle h (by omega)), if_pos h, show nI p - 1 = nI (p - 1) from pk_sub (b := 1) (by omega), ip_ald_n (by omega) (by omega)]
      simp only [e_b1]
      exact z _
    · rw [if_pos (show nI (p % 4) ≤ 0 by rw [show p % 4 = 0 by omega]; decide), if_neg h]
      rfl
  have h2 : (if nI p < (4 : Int32) then some (0 : Int32) else ip_b1 (ip_ald 16 g (nI p - 4)) (fun z4 => if z4 = 0 then some 0 else some 1)) = some (nI (if 4 ≤ p then (if g (p - 4) = 0 then 0 else 1) else 0)) := by
    by_cases h : 4 ≤ p
    · rw [if_neg (fun q => by have := (nI_ltI (b := 4) (by omega) (by omega)).mp q; omega), if_pos h, show nI p - 4 = nI (p - 4) from pk_sub (b := 4) (by omega), ip_ald_n (by omega) (by omega)]
      simp only [e_b1]
      exact z _
    · rw [if_pos (show nI p < (4 : Int32) from (nI_ltI (a := p) (b := 4) (by omega) (by omega)).mpr (by omega)), if_neg h]
      rfl
  unfold fLR_notZeroBefore
  rw [h1]
  simp only [e_b1]
  rw [h2]
  simp only [e_b1]
  rw [nI_add]
  rfl
theorem s_near_upd (g : Nat → Int32) (p : Nat) (x : Int32) : s_near (upd g p x) p = s_near g p := by
  unfold s_near
  by_cases h1 : 0 < p % 4
  · rw [if_pos h1, if_pos h1, u_n (by omega)]
    by_cases h2 : 4 ≤ p
    · rw [if_pos h2, if_pos h2, u_n (by omega)]
    · rw [if_neg h2, if_neg h2]
  · rw [if_neg h1, if_neg h1]
    by_cases h2 : 4 ≤ p
    · rw [if_pos h2, if_pos h2, u_n (by omega)]
    · rw [if_neg h2, if_neg h2]
/-- what holds between the steps -/
def GOK (b k : Nat) (a : GS) : Prop := DOK b a.2.2.2.1 ∧ ∃ S, a.1 = nI S ∧ S ≤ 129 * k
theorem s_g1_ok (ld : Nat → Int32) (n : Nat) {b k : Nat} {a : GS} (hk : k < 16) (h : GOK b k a) : GOK (b + 30) (k + 1) (s_g1 ld n k a) := by
  obtain ⟨h1, S, h2, h3⟩ := h
  have hl := s_near_le a.2.2.2.2 (sp_ord k)
  have h4 := s_bin_ok ld n (c := 9 + s_near a.2.2.2.2 (sp_ord k)) (by omega) h1
  obtain ⟨h5, z, h6, h7, h8⟩ := s_size_ok ld n h4
  unfold s_g1
  generalize s_bin ld n a.2.2.2.1 (9 + s_near a.2.2.2.2 (sp_ord k)) = r1 at h4 h5 h6 ⊢
  generalize s_size ld n r1.2 = r2 at h5 h6 ⊢
  by_cases hc : r1.1 = 1
  · rw [if_pos hc]
    exact ⟨h5.mono (by omega), S + z, by simp only []; rw [h2, h6, nI_add], by omega⟩
  · rw [if_neg hc]
    exact ⟨h4.mono (by omega), S, h2, by omega⟩
theorem q_g1X (ld co : Nat → Int32) {n b k : Nat} {a : GS} (hn : n ≤ 240) (hk : k < 16) (h : GOK b k a) (hb : b + 30 < 2 ^ 30) (hx : XR a.2.2.2.1 co) : ∃ co1 : Nat → Int32, fLR_readSizes_B17 (nI (8 * n)) ld (nI k) (nI (a.2.2.2.1.2.2.2.2.2 + 8)) a.2.2.2.1.2.2.2.1 a.2.2.2.1.2.2.2.2.1 a.2.1 a.2.2.1 a.1 a.2.2.2.1.1 co a.2.2.2.2 = some (.inl (nI (k + 1), nI ((s_g1 ld n k a).2.2.2.1.2.2.2.2.2 + 8), (s_g1 ld n k a).2.2.2.1.2.2.2.1, (s_g1 ld n k a).2.2.2.1.2.2.2.2.1, (s_g1 ld n k a).2.1, (s_g1 ld n k a).2.2.1, (s_g1 ld n k a).1, (s_g1 ld n k a).2.2.2.1.1, co1, (s_g1 ld n k a).2.2.2.2)) ∧ XR (s_g1 ld n k a).2.2.2.1 co1 := by
  obtain ⟨h1, S, h2, h3⟩ := h
  have hl := s_near_le a.2.2.2.2 (sp_ord k)
  have hp := ord_lt k hk
  have h4 := s_bin_ok ld n (c := 9 + s_near a.2.2.2.2 (sp_ord k)) (by omega) h1
  obtain ⟨co1, g1, g2⟩ := q_binX ld co (c := 9 + s_near a.2.2.2.2 (sp_ord k)) hn (by omega) h1 (by omega) hx.1 hx.2
  obtain ⟨co2, g3, g4⟩ := q_sizeX a.2.1 a.2.2.1 a.1 ld co1 hn h4 (by omega) g2
  unfold fLR_readSizes_B17 s_g1
  rw [if_neg (show ¬ (16 : Int32) ≤ nI k from nI_ge (b := 16) hk (by omega)), ip_ald_n hk (by omega)]
  simp only [e_b1]
  rw [ord_tb k hk, ip_ast_n hp (by omega)]
  simp only [e_b1]
  rw [q_nzb _ _ _ _ hp, s_near_upd]
  simp only [e_b1]
  rw [show (9 : Int32) = nI 9 from rfl, nI_add, g1]
  simp only [e_b6]
  generalize s_bin ld n a.2.2.2.1 (9 + s_near a.2.2.2.2 (sp_ord k)) = r1 at h4 g1 g2 g3 g4 ⊢
  by_cases hc : r1.1 = 1
  · rw [if_pos hc, if_pos hc, g3]
    generalize s_size ld n r1.2 = r2 at g3 g4 ⊢
    simp only [e_b6]
    rw [ip_ast_n hp (by omega)]
    simp only [e_b1]
    rw [ip_ald_n hp (by omega)]
    simp only [e_b1, e_lt, u_0, uu]
    have e : (if 0 ≤ a.2.1 then some a.2.1 else some (nI k)) = some (if 0 ≤ a.2.1 then a.2.1 else nI k) := by
      split <;> rfl
    rw [e]
    simp only [e_b1, e_b9, nI_1]
    exact ⟨co2, rfl, g4⟩
  · rw [if_neg hc, if_neg hc]
    simp only [e_b9, e_lt, nI_1]
    exact ⟨co1, rfl, g2⟩
def GA (k : Nat) (g gm : Nat → Int32) : Prop := ∀ j, j < k → gm (sp_ord j) = g (sp_ord j)
theorem GA.near {k : Nat} {g gm : Nat → Int32} (hk : k < 16) (h : GA k g gm) : s_near gm (sp_ord k) = s_near g (sp_ord k) := by
  unfold s_near
  congr 1
  · by_cases h1 : 0 < sp_ord k % 4
    · rw [if_pos h1, if_pos h1]
      obtain ⟨j, j1, j2⟩ := ord_left k hk h1
      rw [← j2, h j j1]
    · rw [if_neg h1, if_neg h1]
  · by_cases h1 : 4 ≤ sp_ord k
    · rw [if_pos h1, if_pos h1]
      obtain ⟨j, j1, j2⟩ := ord_up k hk h1
      rw [← j2, h j j1]
    · rw [if_neg h1, if_neg h1]
theorem GA.put {k : Nat} {g gm : Nat → Int32} (hk : k < 16) (h : GA k g gm) (x : Int32) : GA (k + 1) (upd g (sp_ord k) x) (upd gm (sp_ord k) x) := by
  intro j hj
  by_cases e : j = k
  · subst e
    rw [u_0, u_0]
  · have ne : sp_ord j ≠ sp_ord k := fun q => e (ord_inj k hk j (by omega) q)
    rw [u_n ne, u_n ne]
    exact h j (by omega)
theorem q_g1M (a1 a4 a5 a6 a9 : Int32) (ld co gm : Nat → Int32) {n b k : Nat} {a : GS} (hn : n ≤ 240) (hk : k < 16) (h : GOK b k a) (hb : b + 60 < 2 ^ 30) (hx : MR a.2.2.2.1 co) (hg : GA k a.2.2.2.2 gm) : ∃ co1 gm1 : Nat → Int32, fMO_readGroup_B11 a1 (nI n) a4 a5 a6 a9 ld a.1 a.2.1 a.2.2.1 (nI k) (nI a.2.2.2.1.2.2.2.2.2) a.2.2.2.1.2.2.2.1 a.2.2.2.1.2.2.2.2.1 a.2.2.2.1.1 co gm = some (.inl ((s_g1 ld n k a).1, (s_g1 ld n k a).2.1, (s_g1 ld n k a).2.2.1, nI (k + 1), nI (s_g1 ld n k a).2.2.2.1.2.2.2.2.2, (s_g1 ld n k a).2.2.2.1.2.2.2.1, (s_g1 ld n k a).2.2.2.1.2.2.2.2.1, (s_g1 ld n k a).2.2.2.1.1, co1, gm1)) ∧ MR (s_g1 ld n k a).2.2.2.1 co1 ∧ GA (k + 1) (s_g1 ld n k a).2.2.2.2 gm1 := by
  obtain ⟨h1, S, h2, h3⟩ := h
  have hl := s_near_le a.2.2.2.2 (sp_ord k)
  have hp := ord_lt k hk
  have h4 := s_bin_ok ld n (c := 9 + s_near a.2.2.2.2 (sp_ord k)) (by omega) h1
  obtain ⟨co1, g1, g2⟩ := q_binM a1 a4 a5 a6 a9 ld co (c := 9 + s_near a.2.2.2.2 (sp_ord k)) hn (by omega) h1 (by omega) hx.1 hx.2.1 hx.2.2
  obtain ⟨co2, g3, g4⟩ := q_sizeM a1 a4 a5 a6 a9 ld co1 hn h4 (by omega) g2
  obtain ⟨-, z, h6, h7, h8⟩ := s_size_ok ld n h4
  have z0 : ∀ x : Int32, (if x = 0 then some (0 : Int32) else some 1) = some (nI (if x = 0 then 0 else 1)) := by
    intro x
    split <;> rfl
  have e1 : (if nI (sp_ord k) - nI (sp_ord k) / (4 : Int32) * (4 : Int32) ≤ 0 then some (0 : Int32) else ip_b1 (ip_ald 16 gm (nI (sp_ord k) - 1)) (fun z2 => if z2 = 0 then some 0 else some 1)) = some (nI (if 0 < sp_ord k % 4 then (if gm (sp_ord k - 1) = 0 then 0 else 1) else 0)) := by
    rw [show nI (sp_ord k) - nI (sp_ord k) / (4 : Int32) * (4 : Int32) = nI (sp_ord k % 4) from pk_rem (d := 4) (by omega) (by omega) (by omega)]
    by_cases h : 0 < sp_ord k % 4
    · rw [if_neg (nI_nle h (by omega)), if_pos h, show nI (sp_ord k) - 1 = nI (sp_ord k - 1) from pk_sub (b := 1) (by omega), ip_ald_n (by omega) (by omega)]
      simp only [e_b1]
      exact z0 _
    · rw [if_pos (show nI (sp_ord k % 4) ≤ 0 by rw [show sp_ord k % 4 = 0 by omega]; decide), if_neg h]
      rfl
  have e2 : (if nI (sp_ord k) ≤ (3 : Int32) then some (0 : Int32) else ip_b1 (ip_ald 16 gm (nI (sp_ord k) - 4)) (fun z4 => if z4 = 0 then some 0 else some 1)) = some (nI (if 4 ≤ sp_ord k then (if gm (sp_ord k - 4) = 0 then 0 else 1) else 0)) := by
    by_cases h : 4 ≤ sp_ord k
    · rw [if_neg (fun q => by have := (nI_leI (b := 3) (by omega) (by omega)).mp q; omega), if_pos h, show nI (sp_ord k) - 4 = nI (sp_ord k - 4) from pk_sub (b := 4) (by omega), ip_ald_n (by omega) (by omega)]
      simp only [e_b1]
      exact z0 _
    · rw [if_pos (show nI (sp_ord k) ≤ (3 : Int32) from (nI_leI (a := sp_ord k) (b := 3) (by omega) (by omega)).mpr (by omega)), if_neg h]
      rfl
  unfold fMO_readGroup_B11
  rw [if_neg (show ¬ (16 : Int32) ≤ nI k from nI_ge (b := 16) hk (by omega)), ord_place k hk]
  simp only [e_b1]
  rw [e1]
  simp only [e_b1]
  rw [e2]
  simp only [e_b1, e_lt]
  rw [nI_add, show (if 0 < sp_ord k % 4 then (if gm (sp_ord k - 1) = 0 then 0 else 1) else 0) + (if 4 ≤ sp_ord k then (if gm (sp_ord k - 4) = 0 then 0 else 1) else 0) = s_near gm (sp_ord k) from rfl, hg.near hk, show (9 : Int32) = nI 9 from rfl, nI_add, g1]
  simp only [e_b6]
  unfold s_g1
  generalize s_bin ld n a.2.2.2.1 (9 + s_near a.2.2.2.2 (sp_ord k)) = r1 at h4 g1 g2 g3 g4 h6 ⊢
  by_cases hc : r1.1 = 1
  · rw [if_pos hc, if_pos hc, g3]
    generalize s_size ld n r1.2 = r2 at g3 g4 h6 ⊢
    simp only [e_b6]
    rw [ip_ast_n hp (by omega)]
    simp only [e_b1]
    rw [ip_ald_n hp (by omega)]
    simp only [e_b1, e_lt, u_0]
    rw [if_neg (show ¬ r2.1 = 0 by rw [h6]; exact nI_ne0 (by omega) (by omega))]
    have e : (if 0 ≤ a.2.1 then some a.2.1 else some (nI k)) = some (if 0 ≤ a.2.1 then a.2.1 else nI k) := by
      split <;> rfl
    rw [e]
    simp only [e_b1, e_b2, nI_1]
    exact ⟨co2, _, rfl, g4, hg.put hk _⟩
  · rw [if_neg hc, if_neg hc]
    simp only [e_b6]
    rw [ip_ast_n hp (by omega)]
    simp only [e_b1]
    rw [ip_ald_n hp (by omega)]
    simp only [e_b1, e_lt, u_0, Int32.add_zero, e_b2, nI_1, if_pos]
    exact ⟨co1, _, rfl, g2, hg.put hk _⟩
