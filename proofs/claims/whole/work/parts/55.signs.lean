/-! a group: its sizes, its signs, where they go -/
theorem q_sizesX (ld : Nat → Int32) {n : Nat} (hn : n ≤ 240) : ∀ (k i fuel b : Nat) (a : GS) (co : Nat → Int32), i + k = 16 → k < fuel → GOK b i a → b + 30 * k < 2 ^ 30 → XR a.2.2.2.1 co → ∃ co1 : Nat → Int32, ip_lp10 (fLR_readSizes_B17 (nI (8 * n)) ld) fuel (nI i) (nI (a.2.2.2.1.2.2.2.2.2 + 8)) a.2.2.2.1.2.2.2.1 a.2.2.2.1.2.2.2.2.1 a.2.1 a.2.2.1 a.1 a.2.2.2.1.1 co a.2.2.2.2 = some (nI 16, nI ((s_it (s_g1 ld n) k i a).2.2.2.1.2.2.2.2.2 + 8), (s_it (s_g1 ld n) k i a).2.2.2.1.2.2.2.1, (s_it (s_g1 ld n) k i a).2.2.2.1.2.2.2.2.1, (s_it (s_g1 ld n) k i a).2.1, (s_it (s_g1 ld n) k i a).2.2.1, (s_it (s_g1 ld n) k i a).1, (s_it (s_g1 ld n) k i a).2.2.2.1.1, co1, (s_it (s_g1 ld n) k i a).2.2.2.2) ∧ XR (s_it (s_g1 ld n) k i a).2.2.2.1 co1 ∧ GOK (b + 30 * k) 16 (s_it (s_g1 ld n) k i a) := by
  intro k
  induction k with
  | zero =>
    intro i fuel b a co hi hf hg hb hx
    obtain ⟨f, rfl⟩ : ∃ f, fuel = f + 1 := ⟨fuel - 1, by omega⟩
    have e : i = 16 := by omega
    subst e
    refine ⟨co, ?_, hx, hg⟩
    unfold ip_lp10 ip_lp fLR_readSizes_B17
    simp only []
    rw [if_pos (show (16 : Int32) ≤ nI 16 by decide)]
    rfl
  | succ k ih =>
    intro i fuel b a co hi hf hg hb hx
    obtain ⟨f, rfl⟩ : ∃ f, fuel = f + 1 := ⟨fuel - 1, by omega⟩
    obtain ⟨co1, h1, h2⟩ := q_g1X ld co hn (show i < 16 by omega) hg (by omega) hx
    obtain ⟨co2, h3, h4, h5⟩ := ih (i + 1) f (b + 30) (s_g1 ld n i a) co1 (by omega) (by omega) (s_g1_ok ld n (by omega) hg) (by omega) h2
    refine ⟨co2, ?_, h4, ?_⟩
    · show _ = some (nI 16, nI ((s_it (s_g1 ld n) k (i + 1) (s_g1 ld n i a)).2.2.2.1.2.2.2.2.2 + 8), (s_it (s_g1 ld n) k (i + 1) (s_g1 ld n i a)).2.2.2.1.2.2.2.1, (s_it (s_g1 ld n) k (i + 1) (s_g1 ld n i a)).2.2.2.1.2.2.2.2.1, (s_it (s_g1 ld n) k (i + 1) (s_g1 ld n i a)).2.1, (s_it (s_g1 ld n) k (i + 1) (s_g1 ld n i a)).2.2.1, (s_it (s_g1 ld n) k (i + 1) (s_g1 ld n i a)).1, (s_it (s_g1 ld n) k (i + 1) (s_g1 ld n i a)).2.2.2.1.1, co2, (s_it (s_g1 ld n) k (i + 1) (s_g1 ld n i a)).2.2.2.2)
      rw [← h3]
      conv => lhs; unfold ip_lp10 ip_lp
      simp only []
      rw [h1]
      rfl
    · rw [show b + 30 * (k + 1) = b + 30 + 30 * k by omega]
      exact h5
theorem q_sizesM (a1 a4 a5 a6 a9 : Int32) (ld : Nat → Int32) {n : Nat} (hn : n ≤ 240) : ∀ (k i fuel b : Nat) (a : GS) (co gm : Nat → Int32), i + k = 16 → k < fuel → GOK b i a → b + 30 * k + 60 < 2 ^ 30 → MR a.2.2.2.1 co → GA i a.2.2.2.2 gm → ∃ co1 gm1 : Nat → Int32, ip_lp10 (fMO_readGroup_B11 a1 (nI n) a4 a5 a6 a9 ld) fuel a.1 a.2.1 a.2.2.1 (nI i) (nI a.2.2.2.1.2.2.2.2.2) a.2.2.2.1.2.2.2.1 a.2.2.2.1.2.2.2.2.1 a.2.2.2.1.1 co gm = some ((s_it (s_g1 ld n) k i a).1, (s_it (s_g1 ld n) k i a).2.1, (s_it (s_g1 ld n) k i a).2.2.1, nI 16, nI (s_it (s_g1 ld n) k i a).2.2.2.1.2.2.2.2.2, (s_it (s_g1 ld n) k i a).2.2.2.1.2.2.2.1, (s_it (s_g1 ld n) k i a).2.2.2.1.2.2.2.2.1, (s_it (s_g1 ld n) k i a).2.2.2.1.1, co1, gm1) ∧ MR (s_it (s_g1 ld n) k i a).2.2.2.1 co1 ∧ GA 16 (s_it (s_g1 ld n) k i a).2.2.2.2 gm1 := by
  intro k
  induction k with
  | zero =>
    intro i fuel b a co gm hi hf hg hb hx hga
    obtain ⟨f, rfl⟩ : ∃ f, fuel = f + 1 := ⟨fuel - 1, by omega⟩
    have e : i = 16 := by omega
    subst e
    refine ⟨co, gm, ?_, hx, hga⟩
    unfold ip_lp10 ip_lp fMO_readGroup_B11
    simp only []
    rw [if_pos (show (16 : Int32) ≤ nI 16 by decide)]
    rfl
  | succ k ih =>
    intro i fuel b a co gm hi hf hg hb hx hga
    obtain ⟨f, rfl⟩ : ∃ f, fuel = f + 1 := ⟨fuel - 1, by omega⟩
    obtain ⟨co1, gm1, h1, h2, h2b⟩ := q_g1M a1 a4 a5 a6 a9 ld co gm hn (show i < 16 by omega) hg (by omega) hx hga
    obtain ⟨co2, gm2, h3, h4, h5⟩ := ih (i + 1) f (b + 30) (s_g1 ld n i a) co1 gm1 (by omega) (by omega) (s_g1_ok ld n (by omega) hg) (by omega) h2 h2b
    refine ⟨co2, gm2, ?_, h4, h5⟩
    show _ = some ((s_it (s_g1 ld n) k (i + 1) (s_g1 ld n i a)).1, (s_it (s_g1 ld n) k (i + 1) (s_g1 ld n i a)).2.1, (s_it (s_g1 ld n) k (i + 1) (s_g1 ld n i a)).2.2.1, nI 16, nI (s_it (s_g1 ld n) k (i + 1) (s_g1 ld n i a)).2.2.2.1.2.2.2.2.2, (s_it (s_g1 ld n) k (i + 1) (s_g1 ld n i a)).2.2.2.1.2.2.2.1, (s_it (s_g1 ld n) k (i + 1) (s_g1 ld n i a)).2.2.2.1.2.2.2.2.1, (s_it (s_g1 ld n) k (i + 1) (s_g1 ld n i a)).2.2.2.1.1, co2, gm2)
    rw [← h3]
    conv => lhs; unfold ip_lp10 ip_lp
    simp only []
    rw [h1]
    rfl
def s_g2 (ld : Nat → Int32) (n : Nat) (hid first sum : Int32) (k : Nat) (a : DS × (Nat → Int32)) : DS × (Nat → Int32) :=
  if a.2 (sp_ord k) = 0 then a else
  if hid = 0 ∨ ¬ nI k = first then ((s_fr ld n a.1).2, upd a.2 (sp_ord k) (if (s_fr ld n a.1).1 = 1 then -(a.2 (sp_ord k)) else a.2 (sp_ord k)))
  else (a.1, upd a.2 (sp_ord k) (if sum &&& 1 = 1 then -(a.2 (sp_ord k)) else a.2 (sp_ord k)))
theorem s_g2_ok (ld : Nat → Int32) (n : Nat) (hid first sum : Int32) {b k : Nat} {a : DS × (Nat → Int32)} (h : DOK b a.1) : DOK (b + 1) (s_g2 ld n hid first sum k a).1 ∧ (s_g2 ld n hid first sum k a).1.1 = a.1.1 ∧ (s_g2 ld n hid first sum k a).1.2.2.2.1 = a.1.2.2.2.1 ∧ (∀ p, p ≠ sp_ord k → (s_g2 ld n hid first sum k a).2 p = a.2 p) := by
  unfold s_g2
  by_cases h0 : a.2 (sp_ord k) = 0
  · rw [if_pos h0]
    exact ⟨h.mono (by omega), rfl, rfl, fun _ _ => rfl⟩
  · rw [if_neg h0]
    by_cases h1 : hid = 0 ∨ ¬ nI k = first
    · rw [if_pos h1]
      exact ⟨s_fr_ok ld n h, rfl, rfl, fun p hp => u_n hp⟩
    · rw [if_neg h1]
      exact ⟨h.mono (by omega), rfl, rfl, fun p hp => u_n hp⟩
theorem q_g2X (ld co : Nat → Int32) (hid first sum : Int32) {n b k : Nat} {a : DS × (Nat → Int32)} (hn : n ≤ 240) (hk : k < 16) (h : DOK b a.1) (hb : b + 1 < 2 ^ 30) (hx : XR a.1 co) : ∃ co1 : Nat → Int32, fLR_readSigns_B2 (nI (8 * n)) a.1.2.2.2.1 first sum ld hid (nI k) (nI (a.1.2.2.2.2.2 + 8)) a.1.2.2.2.2.1 co a.2 = some (.inl (nI (k + 1), nI ((s_g2 ld n hid first sum k a).1.2.2.2.2.2 + 8), (s_g2 ld n hid first sum k a).1.2.2.2.2.1, co1, (s_g2 ld n hid first sum k a).2)) ∧ XR (s_g2 ld n hid first sum k a).1 co1 := by
  have hp := ord_lt k hk
  obtain ⟨co1, g1, g2⟩ := q_freeX ld co (N := 1) hn (by omega) h (by omega) hx.1 hx.2
  rw [s_frs1] at g1 g2
  have g1 : fBD_freeBits (nI (a.1.2.2.2.2.2 + 8)) (nI (8 * n)) a.1.2.2.2.1 a.1.2.2.2.2.1 ld co (1 : Int32) = _ := g1
  unfold fLR_readSigns_B2 s_g2
  rw [if_neg (show ¬ (16 : Int32) ≤ nI k from nI_ge (b := 16) hk (by omega)), ip_ald_n hk (by omega)]
  simp only [e_b1]
  rw [ord_tb k hk, ip_ald_n hp (by omega)]
  simp only [e_b1]
  by_cases h0 : a.2 (sp_ord k) = 0
  · rw [if_pos h0, if_pos h0]
    simp only [e_b4, e_lt, nI_1]
    exact ⟨co, rfl, hx⟩
  · rw [if_neg h0, if_neg h0]
    have sgn : ∀ v : Int32, (if v = (1 : Int32) then some (-(a.2 (sp_ord k))) else some (a.2 (sp_ord k))) = some (if v = 1 then -(a.2 (sp_ord k)) else a.2 (sp_ord k)) := by
      intro v
      split <;> rfl
    by_cases h1 : hid = 0
    · rw [if_pos h1, if_pos (Or.inl h1), g1]
      simp only [e_b4, e_b1]
      rw [sgn]
      simp only [e_b1]
      rw [ip_ast_n hp (by omega)]
      simp only [e_b1, e_b4, e_lt, nI_1]
      exact ⟨co1, rfl, g2⟩
    · rw [if_neg h1]
      by_cases h2 : nI k = first
      · rw [if_pos h2, if_neg (fun q => q.elim h1 (fun z => z h2))]
        simp only [e_b4, e_b1]
        rw [sgn]
        simp only [e_b1]
        rw [ip_ast_n hp (by omega)]
        simp only [e_b1, e_b4, e_lt, nI_1]
        exact ⟨co, rfl, hx⟩
      · rw [if_neg h2, if_pos (Or.inr h2), g1]
        simp only [e_b4, e_b1]
        rw [sgn]
        simp only [e_b1]
        rw [ip_ast_n hp (by omega)]
        simp only [e_b1, e_b4, e_lt, nI_1]
        exact ⟨co1, rfl, g2⟩
theorem q_signsX (ld : Nat → Int32) (hid first sum rg : Int32) {n : Nat} (hn : n ≤ 240) : ∀ (k i fuel b : Nat) (a : DS × (Nat → Int32)) (co : Nat → Int32), i + k = 16 → k < fuel → DOK b a.1 → b + k < 2 ^ 30 → XR a.1 co → a.1.2.2.2.1 = rg → ∃ co1 : Nat → Int32, ip_lp5 (fLR_readSigns_B2 (nI (8 * n)) rg first sum ld hid) fuel (nI i) (nI (a.1.2.2.2.2.2 + 8)) a.1.2.2.2.2.1 co a.2 = some (nI 16, nI ((s_it (s_g2 ld n hid first sum) k i a).1.2.2.2.2.2 + 8), (s_it (s_g2 ld n hid first sum) k i a).1.2.2.2.2.1, co1, (s_it (s_g2 ld n hid first sum) k i a).2) ∧ XR (s_it (s_g2 ld n hid first sum) k i a).1 co1 ∧ DOK (b + k) (s_it (s_g2 ld n hid first sum) k i a).1 ∧ (s_it (s_g2 ld n hid first sum) k i a).1.1 = a.1.1 ∧ (s_it (s_g2 ld n hid first sum) k i a).1.2.2.2.1 = rg := by
  intro k
  induction k with
  | zero =>
    intro i fuel b a co hi hf hg hb hx hr
    obtain ⟨f, rfl⟩ : ∃ f, fuel = f + 1 := ⟨fuel - 1, by omega⟩
    have e : i = 16 := by omega
    subst e
    refine ⟨co, ?_, hx, hg, rfl, hr⟩
    unfold ip_lp5 ip_lp fLR_readSigns_B2
    simp only []
    rw [if_pos (show (16 : Int32) ≤ nI 16 by decide)]
    rfl
  | succ k ih =>
    intro i fuel b a co hi hf hg hb hx hr
    obtain ⟨f, rfl⟩ : ∃ f, fuel = f + 1 := ⟨fuel - 1, by omega⟩
    obtain ⟨co1, h1, h2⟩ := q_g2X ld co hid first sum hn (show i < 16 by omega) hg (by omega) hx
    obtain ⟨j1, j2, j3, -⟩ := s_g2_ok ld n hid first sum (k := i) hg
    obtain ⟨co2, h3, h4, h5, h6, h7⟩ := ih (i + 1) f (b + 1) (s_g2 ld n hid first sum i a) co1 (by omega) (by omega) j1 (by omega) h2 (j3.trans hr)
    refine ⟨co2, ?_, h4, ?_, h6.trans j2, h7⟩
    · show _ = some (nI 16, nI ((s_it (s_g2 ld n hid first sum) k (i + 1) (s_g2 ld n hid first sum i a)).1.2.2.2.2.2 + 8), (s_it (s_g2 ld n hid first sum) k (i + 1) (s_g2 ld n hid first sum i a)).1.2.2.2.2.1, co2, (s_it (s_g2 ld n hid first sum) k (i + 1) (s_g2 ld n hid first sum i a)).2)
      rw [← h3]
      conv => lhs; unfold ip_lp5 ip_lp
      simp only []
      rw [← hr, h1]
      rfl
    · rw [show b + (k + 1) = b + 1 + k by omega]
      exact h5
def pos (x y p : Nat) : Nat := 16 * (y + p / 4) + x + p % 4
theorem pos_inj {x y p q : Nat} (hx : x ≤ 12) (hp : p < 16) (hq : q < 16) (h : pos x y p = pos x y q) : p = q := by
  unfold pos at h
  omega
theorem par_bit {S : Nat} (h : S < 2 ^ 31) : (nI S - nI S / (2 : Int32) * (2 : Int32) = (1 : Int32)) ↔ nI S &&& 1 = 1 := by
  rw [show nI S - nI S / (2 : Int32) * (2 : Int32) = nI (S % 2) from pk_rem (d := 2) h (by omega) (by omega), show nI S &&& 1 = nI (S % 2) from pk_andN (by omega) 1 (by decide)]
theorem q_g2M (a1 a4 a5 a6 a9 : Int32) (ld co grp lv : Nat → Int32) (hid first : Int32) {n b k S x y : Nat} {a : DS × (Nat → Int32)} (hn : n ≤ 240) (hk : k < 16) (h : DOK b a.1) (hb : b + 1 < 2 ^ 30) (hx : MR a.1 co) (hS : S < 2 ^ 31) (hxx : x ≤ 12) (hyy : y ≤ 12) (hgrp : grp (sp_ord k) = a.2 (sp_ord k)) : ∃ co1 : Nat → Int32, fMO_readGroup_B176 a1 (nI n) a4 a5 a6 a9 ld (nI x) (nI y) (nI S) first a.1.2.2.2.1 grp hid (nI k) (nI a.1.2.2.2.2.2) a.1.2.2.2.2.1 co lv = some (.inl (nI (k + 1), nI (s_g2 ld n hid first (nI S) k a).1.2.2.2.2.2, (s_g2 ld n hid first (nI S) k a).1.2.2.2.2.1, co1, upd lv (pos x y (sp_ord k)) ((s_g2 ld n hid first (nI S) k a).2 (sp_ord k)))) ∧ MR (s_g2 ld n hid first (nI S) k a).1 co1 := by
  have hp := ord_lt k hk
  obtain ⟨co1, g1, g2⟩ := q_free1M a1 a4 a5 a6 a9 ld co hn h (by omega) hx.1 hx.2.1 hx.2.2
  have ei : (((16 : Int32) * (nI y + (nI (sp_ord k) / (4 : Int32)))) + nI x) + (nI (sp_ord k) - nI (sp_ord k) / (4 : Int32) * (4 : Int32)) = nI (pos x y (sp_ord k)) := by
    rw [show nI (sp_ord k) / (4 : Int32) = nI (sp_ord k / 4) from pk_div (d := 4) (by omega) (by omega) (by omega)]
    rw [show nI (sp_ord k) - nI (sp_ord k / 4) * (4 : Int32) = nI (sp_ord k % 4) by
      rw [show nI (sp_ord k / 4) = nI (sp_ord k) / (4 : Int32) from (pk_div (d := 4) (by omega) (by omega) (by omega)).symm]
      exact pk_rem (d := 4) (by omega) (by omega) (by omega)]
    rw [nI_add, show (16 : Int32) = nI 16 from rfl, pk_mul, nI_add, nI_add]
    rfl
  have hps : pos x y (sp_ord k) < 256 := by
    unfold pos
    omega
  have tl : ∀ (w v : Int32) (t2 : Int32) (v2 : Int32) (c2 : Nat → Int32), (if w = 0 then some (a.2 (sp_ord k)) else some (-(a.2 (sp_ord k)))) = some v → ip_b1 (if w = 0 then some (a.2 (sp_ord k)) else some (-(a.2 (sp_ord k)))) (fun z79 => ip_b1 (ip_ast 256 lv ((((16 : Int32) * (nI y + (nI (sp_ord k) / (4 : Int32)))) + nI x) + (nI (sp_ord k) - nI (sp_ord k) / (4 : Int32) * (4 : Int32))) z79) (fun g82 => some (Sum.inl (nI (k + 1), t2, v2, c2, g82) : (Int32 × Int32 × Int32 × (Nat → Int32) × (Nat → Int32)) ⊕ (Int32 × Int32 × Int32 × (Nat → Int32) × (Nat → Int32))))) = some (.inl (nI (k + 1), t2, v2, c2, upd lv (pos x y (sp_ord k)) v)) := by
    intro w v t2 v2 c2 hw
    rw [hw]
    simp only [e_b1]
    rw [ei, ip_ast_n hps (by omega)]
    rfl
  unfold fMO_readGroup_B176 s_g2
  rw [if_neg (show ¬ (16 : Int32) ≤ nI k from nI_ge (b := 16) hk (by omega)), ord_place k hk]
  simp only [e_b1]
  rw [ip_ald_n hp (by omega), hgrp]
  simp only [e_b1, e_lt, nI_1]
  by_cases h0 : a.2 (sp_ord k) = 0
  · rw [if_pos h0, if_pos h0]
    simp only [e_b4]
    refine ⟨co, ?_, hx⟩
    exact tl 0 (a.2 (sp_ord k)) _ _ _ (by rw [if_pos rfl])
  · rw [if_neg h0, if_neg h0]
    have fin : ∀ v : Int32, (v = 0 ∨ v = 1) → ∀ (T V : Int32) (C : Nat → Int32), ip_b4 (if v = (1 : Int32) then some ((1 : Int32), T, V, C) else some ((0 : Int32), T, V, C)) (fun z67 z68 z69 g70 => ip_b1 (if z67 = 0 then some (a.2 (sp_ord k)) else some (-(a.2 (sp_ord k)))) (fun z79 => ip_b1 (ip_ast 256 lv ((((16 : Int32) * (nI y + (nI (sp_ord k) / (4 : Int32)))) + nI x) + (nI (sp_ord k) - nI (sp_ord k) / (4 : Int32) * (4 : Int32))) z79) (fun g82 => some (Sum.inl (nI (k + 1), z68, z69, g70, g82) : (Int32 × Int32 × Int32 × (Nat → Int32) × (Nat → Int32)) ⊕ (Int32 × Int32 × Int32 × (Nat → Int32) × (Nat → Int32)))))) = some (.inl (nI (k + 1), T, V, C, upd lv (pos x y (sp_ord k)) (if v = 1 then -(a.2 (sp_ord k)) else a.2 (sp_ord k)))) := by
      intro v hv T V C
      by_cases h1 : v = 1
      · rw [if_pos h1, if_pos h1]
        simp only [e_b4]
        exact tl 1 _ _ _ _ (by rw [if_neg (by decide)])
      · rw [if_neg h1, if_neg h1]
        simp only [e_b4]
        exact tl 0 _ _ _ _ (by rw [if_pos rfl])
    by_cases h1 : hid = 0
    · rw [if_pos h1, if_pos (Or.inl h1), g1]
      simp only [e_b4, u_0]
      exact ⟨co1, fin _ (s_fr_01 ld n a.1) _ _ _, g2⟩
    · rw [if_neg h1]
      by_cases h2 : nI k = first
      · rw [if_pos h2, if_neg (show ¬ (hid = 0 ∨ ¬ nI k = first) from fun q => q.elim h1 (fun z => z h2))]
        simp only [u_0]
        refine ⟨co, ?_, hx⟩
        by_cases h3 : nI S &&& 1 = 1
        · rw [if_pos ((par_bit hS).mpr h3), if_pos h3]
          simp only [e_b4]
          exact tl 1 _ _ _ _ (by rw [if_neg (by decide)])
        · rw [if_neg (fun q => h3 ((par_bit hS).mp q)), if_neg h3]
          simp only [e_b4]
          exact tl 0 _ _ _ _ (by rw [if_pos rfl])
      · rw [if_neg h2, if_pos (Or.inr h2), g1]
        simp only [e_b4, u_0]
        exact ⟨co1, fin _ (s_fr_01 ld n a.1) _ _ _, g2⟩
