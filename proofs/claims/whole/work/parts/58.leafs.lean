/-! a leaf of the class, a leaf of the reference -/
set_option maxRecDepth 100000 in
theorem q_lvX (ld vals : Nat → Int32) (md cod lg sk sd : Int32) {n x y G : Nat} (hn : n ≤ 240) (hG : G ≤ 4) (hx : ∀ j, j < G → x + 4 * (j % 2) ≤ 12 ∧ y + 4 * (j / 2) ≤ 12) : ∀ (k j fuel b : Nat) (a : LvS) (co : Nat → Int32) (f l sm : Int32), j + k = G → k < fuel → DOK b a.1 → b + 510 * k < 2 ^ 30 → XR a.1 co → ∃ (f1 l1 sm1 : Int32) (co1 : Nat → Int32), ip_lp11 (fLR_readLeaf_B94 (nI (8 * n)) (nI x) (nI y) sd md ld vals lg cod sk (nI G)) fuel (nI j) (nI (a.1.2.2.2.2.2 + 8)) a.1.2.2.2.1 a.1.2.2.2.2.1 f l sm a.1.1 co a.2.2 a.2.1 = some (nI G, nI ((s_it (s_gj ld n (vals 1) cod lg x y) k j a).1.2.2.2.2.2 + 8), (s_it (s_gj ld n (vals 1) cod lg x y) k j a).1.2.2.2.1, (s_it (s_gj ld n (vals 1) cod lg x y) k j a).1.2.2.2.2.1, f1, l1, sm1, (s_it (s_gj ld n (vals 1) cod lg x y) k j a).1.1, co1, (s_it (s_gj ld n (vals 1) cod lg x y) k j a).2.2, (s_it (s_gj ld n (vals 1) cod lg x y) k j a).2.1) ∧ XR (s_it (s_gj ld n (vals 1) cod lg x y) k j a).1 co1 ∧ DOK (b + 510 * k) (s_it (s_gj ld n (vals 1) cod lg x y) k j a).1 := by
  intro k
  induction k with
  | zero =>
    intro j fuel b a co f l sm hj hf hs hb hxr
    obtain ⟨g, rfl⟩ : ∃ f, fuel = f + 1 := ⟨fuel - 1, by omega⟩
    have e : j = G := by omega
    subst e
    refine ⟨f, l, sm, co, ?_, hxr, hs⟩
    unfold ip_lp11 ip_lp fLR_readLeaf_B94
    simp only []
    rw [if_pos (nI_le (Nat.le_refl _) (by omega))]
    rfl
  | succ k ih =>
    intro j fuel b a co f l sm hj hf hs hb hxr
    obtain ⟨g, rfl⟩ : ∃ f, fuel = f + 1 := ⟨fuel - 1, by omega⟩
    obtain ⟨h1, h2⟩ := hx j (by omega)
    obtain ⟨f1, l1, sm1, co1, k1, k2, k3⟩ := q_gjX ld co vals md cod lg sk (nI G) f l sm sd hn (show j < 4 by omega) (nI_lt (show j < G by omega) (by omega)) h1 h2 hs (by omega) hxr
    obtain ⟨f2, l2, sm2, co2, k4, k5, k6⟩ := ih (j + 1) g (b + 510) (s_gj ld n (vals 1) cod lg x y j a) co1 f1 l1 sm1 (by omega) (by omega) k3 (by omega) k2
    refine ⟨f2, l2, sm2, co2, ?_, k5, ?_⟩
    · show _ = some (nI G, nI ((s_it (s_gj ld n (vals 1) cod lg x y) k (j + 1) (s_gj ld n (vals 1) cod lg x y j a)).1.2.2.2.2.2 + 8), (s_it (s_gj ld n (vals 1) cod lg x y) k (j + 1) (s_gj ld n (vals 1) cod lg x y j a)).1.2.2.2.1, (s_it (s_gj ld n (vals 1) cod lg x y) k (j + 1) (s_gj ld n (vals 1) cod lg x y j a)).1.2.2.2.2.1, f2, l2, sm2, (s_it (s_gj ld n (vals 1) cod lg x y) k (j + 1) (s_gj ld n (vals 1) cod lg x y j a)).1.1, co2, (s_it (s_gj ld n (vals 1) cod lg x y) k (j + 1) (s_gj ld n (vals 1) cod lg x y j a)).2.2, (s_it (s_gj ld n (vals 1) cod lg x y) k (j + 1) (s_gj ld n (vals 1) cod lg x y j a)).2.1)
      rw [← k4]
      conv => lhs; unfold ip_lp11 ip_lp
      simp only []
      rw [k1]
      rfl
    · rw [show b + 510 * (k + 1) = b + 510 + 510 * k by omega]
      exact k6
def s_cd (ld : Nat → Int32) (n : Nat) (lg : Int32) (s : DS) : Int32 × DS := s_bin ld n s (if lg = 0 then 4 else 5)
def s_sk (ld : Nat → Int32) (n : Nat) (sk lg : Int32) (s : DS) : Int32 × DS := if (s_cd ld n lg s).1 = 1 ∧ lg = 0 ∧ sk = 1 then s_bin ld n (s_cd ld n lg s).2 6 else (0, (s_cd ld n lg s).2)
def s_lf (ld : Nat → Int32) (n : Nat) (hp sk lg : Int32) (x y : Nat) (s : DS) (g lv : Nat → Int32) : Int32 × LvS := ((s_sk ld n sk lg s).1, s_it (s_gj ld n hp (s_cd ld n lg s).1 lg x y) (if lg = 0 then 1 else 4) 0 ((s_sk ld n sk lg s).2, g, lv))
theorem s_sk_ok (ld : Nat → Int32) (n : Nat) (sk lg : Int32) {b : Nat} {s : DS} (h : DOK b s) : DOK (b + 12) (s_sk ld n sk lg s).2 ∧ ((s_sk ld n sk lg s).1 = 0 ∨ (s_sk ld n sk lg s).1 = 1) := by
  have h1 := s_bin_ok ld n (c := if lg = 0 then 4 else 5) (by split <;> omega) h
  have h2 := s_bin_ok ld n (c := 6) (by omega) h1
  have h3 := s_bin_01 ld n (s_bin ld n s (if lg = 0 then 4 else 5)).2 6
  unfold s_sk s_cd
  generalize s_bin ld n s (if lg = 0 then 4 else 5) = r at h1 h2 h3 ⊢
  split
  · exact ⟨h2, h3⟩
  · exact ⟨h1.mono (by omega), Or.inl rfl⟩
theorem q_leafX (ld co vals lv g : Nat → Int32) (md f l sm sd lg : Int32) {n b x y : Nat} {s : DS} (hn : n ≤ 240) (hsd : (sd = 8 ∧ lg = 1 ∧ x ≤ 8 ∧ y ≤ 8) ∨ (sd = 4 ∧ lg = 0 ∧ x ≤ 12 ∧ y ≤ 12)) (hs : DOK b s) (hb : b + 3000 < 2 ^ 30) (hxr : XR s co) : ∃ (f1 l1 sm1 : Int32) (co1 : Nat → Int32), fLR_readLeaf (nI (s.2.2.2.2.2 + 8)) (nI (8 * n)) s.2.2.2.1 s.2.2.2.2.1 (nI x) (nI y) sd md 0 f l sm ld vals s.1 co lv g = some (nI ((s_lf ld n (vals 1) (vals 2) lg x y s g lv).2.1.2.2.2.2.2 + 8), (s_lf ld n (vals 1) (vals 2) lg x y s g lv).2.1.2.2.2.1, (s_lf ld n (vals 1) (vals 2) lg x y s g lv).2.1.2.2.2.2.1, (s_lf ld n (vals 1) (vals 2) lg x y s g lv).1, f1, l1, sm1, (s_lf ld n (vals 1) (vals 2) lg x y s g lv).2.1.1, co1, (s_lf ld n (vals 1) (vals 2) lg x y s g lv).2.2.2, (s_lf ld n (vals 1) (vals 2) lg x y s g lv).2.2.1) ∧ XR (s_lf ld n (vals 1) (vals 2) lg x y s g lv).2.1 co1 ∧ DOK (b + 2100) (s_lf ld n (vals 1) (vals 2) lg x y s g lv).2.1 := by
  have hlg : lg = 0 ∨ lg = 1 := by rcases hsd with h | h; exact Or.inr h.2.1; exact Or.inl h.2.1
  have e1 : (if sd = (8 : Int32) then some (1 : Int32) else some (0 : Int32)) = some lg := by
    rcases hsd with ⟨h1, h2, -⟩ | ⟨h1, h2, -⟩ <;> subst h1 <;> subst h2 <;> rfl
  have e2 : (if lg = 0 then some (4 : Int32) else some (5 : Int32)) = some (nI (if lg = 0 then 4 else 5)) := by
    split <;> rfl
  have e3 : (if lg = 0 then some (1 : Int32) else some (4 : Int32)) = some (nI (if lg = 0 then 1 else 4)) := by
    split <;> rfl
  have hc : (if lg = 0 then 4 else 5) < 14 := by split <;> omega
  obtain ⟨co1, g1, g2⟩ := q_binX ld co (c := if lg = 0 then 4 else 5) hn hc hs (by omega) hxr.1 hxr.2
  have k1 := s_bin_ok ld n (c := if lg = 0 then 4 else 5) hc hs
  have k01 := s_bin_01 ld n s (if lg = 0 then 4 else 5)
  obtain ⟨co2, g3, g4⟩ := q_binX ld co1 (c := 6) hn (by omega) k1 (by omega) g2.1 g2.2
  have k2 := s_bin_01 ld n (s_bin ld n s (if lg = 0 then 4 else 5)).2 6
  have hsk := s_sk_ok ld n (vals 2) lg hs
  -- the skip bit
  have e4 : ∃ co3 : Nat → Int32, (if (s_cd ld n lg s).1 = 0 then some (nI ((s_cd ld n lg s).2.2.2.2.2.2 + 8), (s_cd ld n lg s).2.2.2.2.1, (s_cd ld n lg s).2.2.2.2.2.1, (0 : Int32), (s_cd ld n lg s).2.1, co1) else (if lg = 0 then ip_b1 (ip_ald 10 vals (2 : Int32)) (fun z16 => if z16 = (1 : Int32) then ip_b6 (fBD_bin (nI ((s_cd ld n lg s).2.2.2.2.2.2 + 8)) (nI (8 * n)) (s_cd ld n lg s).2.2.2.2.1 (s_cd ld n lg s).2.2.2.2.2.1 ld (s_cd ld n lg s).2.1 co1 (6 : Int32)) (fun z17 z18 z19 z20 g21 g22 => ip_b1 (if z17 = (1 : Int32) then some (1 : Int32) else some (0 : Int32)) (fun z23 => ip_zk z23 (some (z18, z19, z20, z23, g21, g22)))) else some (nI ((s_cd ld n lg s).2.2.2.2.2.2 + 8), (s_cd ld n lg s).2.2.2.2.1, (s_cd ld n lg s).2.2.2.2.2.1, (0 : Int32), (s_cd ld n lg s).2.1, co1)) else some (nI ((s_cd ld n lg s).2.2.2.2.2.2 + 8), (s_cd ld n lg s).2.2.2.2.1, (s_cd ld n lg s).2.2.2.2.2.1, (0 : Int32), (s_cd ld n lg s).2.1, co1))) = some (nI ((s_sk ld n (vals 2) lg s).2.2.2.2.2.2 + 8), (s_sk ld n (vals 2) lg s).2.2.2.2.1, (s_sk ld n (vals 2) lg s).2.2.2.2.2.1, (s_sk ld n (vals 2) lg s).1, (s_sk ld n (vals 2) lg s).2.1, co3) ∧ XR (s_sk ld n (vals 2) lg s).2 co3 := by
    unfold s_sk s_cd
    generalize s_bin ld n s (if lg = 0 then 4 else 5) = r at g1 g2 g3 g4 k01 k2 ⊢
    by_cases h0 : r.1 = 0
    · rw [if_pos h0, if_neg (fun q => by rw [h0] at q; exact absurd q.1 (by decide))]
      exact ⟨co1, rfl, g2⟩
    · have h1 : r.1 = 1 := k01.resolve_left h0
      rw [if_neg h0]
      by_cases h2 : lg = 0
      · rw [if_pos h2, e_ald 10 vals 2 2 rfl (by omega) (by omega)]
        simp only [e_b1]
        by_cases h3 : vals 2 = 1
        · rw [if_pos h3, if_pos ⟨h1, h2, h3⟩, show (6 : Int32) = nI 6 from rfl, g3]
          generalize s_bin ld n r.2 6 = r2 at g3 g4 k2 ⊢
          simp only [e_b6]
          have e5 : (if r2.1 = (1 : Int32) then some (1 : Int32) else some (0 : Int32)) = some r2.1 := by
            rcases k2 with h | h <;> rw [h] <;> rfl
          rw [e5]
          simp only [e_b1]
          rw [e_zk k2]
          exact ⟨co2, rfl, g4⟩
        · rw [if_neg h3, if_neg (fun q => h3 q.2.2)]
          exact ⟨co1, rfl, g2⟩
      · rw [if_neg h2, if_neg (fun q => h2 q.2.1)]
        exact ⟨co1, rfl, g2⟩
  obtain ⟨co3, g5, g6⟩ := e4
  obtain ⟨f1, l1, sm1, co4, j1, j2, j3⟩ := q_lvX ld vals md (s_cd ld n lg s).1 lg (s_sk ld n (vals 2) lg s).1 sd (x := x) (y := y) (G := if lg = 0 then 1 else 4) hn (by split <;> omega) (fun j hj => by
    rcases hsd with ⟨-, h2, h3, h4⟩ | ⟨-, h2, h3, h4⟩
    · subst h2
      have : j < 4 := hj
      omega
    · subst h2
      have : j < 1 := hj
      omega) (if lg = 0 then 1 else 4) 0 1000 (b + 12) ((s_sk ld n (vals 2) lg s).2, g, lv) co3 f l sm (by omega) (by split <;> omega) hsk.1 (by split <;> omega) g6
  refine ⟨f1, l1, sm1, co4, ?_, j2, j3.mono (by split <;> omega)⟩
  unfold fLR_readLeaf
  rw [e1]
  simp only [e_b1]
  rw [e2]
  simp only [e_b1]
  rw [g1]
  simp only [e_b6]
  have e6 : (if (s_bin ld n s (if lg = 0 then 4 else 5)).1 = (1 : Int32) then some (1 : Int32) else some (0 : Int32)) = some (s_cd ld n lg s).1 := by
    unfold s_cd
    rcases k01 with h | h <;> rw [h] <;> rfl
  rw [e6]
  simp only [e_b1]
  rw [show s_bin ld n s (if lg = 0 then 4 else 5) = s_cd ld n lg s from rfl, g5]
  simp only [e_b6]
  rw [e3]
  simp only [e_b1]
  dsimp only at j1
  rw [show nI 0 = (0 : Int32) from rfl] at j1
  rw [j1]
  rfl
def inR (x y m q : Nat) : Prop := y ≤ q / 16 ∧ q / 16 < y + m ∧ x ≤ q % 16 ∧ q % 16 < x + m
def own1 (ow : Nat → Int32) (x y m : Nat) (e : Int32) : Nat → Int32 := fun q => if y ≤ q / 16 ∧ q / 16 < y + m ∧ x ≤ q % 16 ∧ q % 16 < x + m then e else ow q
theorem own1_in {ow : Nat → Int32} {x y m q : Nat} {e : Int32} (h : inR x y m q) : own1 ow x y m e q = e := if_pos h
theorem own1_out {ow : Nat → Int32} {x y m q : Nat} {e : Int32} (h : ¬ inR x y m q) : own1 ow x y m e q = ow q := if_neg h
theorem sq_div {m k : Nat} (hm : m = 4 ∨ m = 8) (hk : k < m * m) : k / m < m ∧ k % m < m := by
  rcases hm with rfl | rfl <;> omega
set_option maxRecDepth 100000 in
theorem q_ownL (e : Int32) {x y m : Nat} (hm : m = 4 ∨ m = 8) (hx : x + m ≤ 16) (hy : y + m ≤ 16) : ∀ (k i fuel : Nat) (ow : Nat → Int32), i + k = m * m → k < fuel → ∃ ow1, ip_lp2 (fMO_readLeaf_B90 e (nI x) (nI y) (nI m)) fuel (nI i) ow = some (nI (m * m), ow1) ∧ (∀ j, i ≤ j → j < m * m → ow1 (16 * (y + j / m) + x + j % m) = e) ∧ ∀ q, (∀ j, i ≤ j → j < m * m → q ≠ 16 * (y + j / m) + x + j % m) → ow1 q = ow q := by
  have hmm : m * m ≤ 64 := by rcases hm with rfl | rfl <;> omega
  intro k
  induction k with
  | zero =>
    intro i fuel ow hi hf
    obtain ⟨g, rfl⟩ : ∃ f, fuel = f + 1 := ⟨fuel - 1, by omega⟩
    have e : i = m * m := by omega
    subst e
    refine ⟨ow, ?_, fun j h1 h2 => by omega, fun q _ => rfl⟩
    unfold ip_lp2 ip_lp fMO_readLeaf_B90
    simp only []
    rw [pk_mul, if_pos (nI_le (Nat.le_refl _) (by omega))]
  | succ k ih =>
    intro i fuel ow hi hf
    obtain ⟨g, rfl⟩ : ∃ f, fuel = f + 1 := ⟨fuel - 1, by omega⟩
    have hi2 : i < m * m := by omega
    obtain ⟨d1, d2⟩ := sq_div hm hi2
    have hp : 16 * (y + i / m) + x + i % m < 256 := by omega
    obtain ⟨ow1, h1, h2, h3⟩ := ih (i + 1) g (upd ow (16 * (y + i / m) + x + i % m) e) (by omega) (by omega)
    have inj : ∀ j, j < m * m → 16 * (y + i / m) + x + i % m = 16 * (y + j / m) + x + j % m → j = i := by
      intro j hj q
      obtain ⟨d3, d4⟩ := sq_div hm hj
      have q1 : i / m = j / m := by omega
      have q2 : i % m = j % m := by omega
      rw [← Nat.div_add_mod i m, ← Nat.div_add_mod j m, q1, q2]
    refine ⟨ow1, ?_, ?_, ?_⟩
    · rw [← h1]
      refine l_in2 ?_
      unfold fMO_readLeaf_B90
      rw [pk_mul, if_neg (nI_ge hi2 (by omega))]
      have ed : ip_div (nI i) (nI m) = some (nI (i / m)) := by
        unfold ip_div
        rw [if_neg (nI_ne0 (by omega) (by omega)), pk_div (by omega) (by omega) (by omega)]
      have er : ip_rem (nI i) (nI m) = some (nI (i % m)) := by
        unfold ip_rem
        rw [if_neg (nI_ne0 (by omega) (by omega)), pk_rem (by omega) (by omega) (by omega)]
      rw [ed]
      simp only [e_b1]
      rw [er]
      simp only [e_b1]
      rw [show (16 : Int32) = nI 16 from rfl, nI_add, pk_mul, nI_add, nI_add, ip_ast_n hp (by omega)]
      simp only [e_b1, e_lt, nI_1]
    · intro j g1 g2
      by_cases q : j = i
      · subst q
        rw [h3 _ (fun j9 g3 g4 q => by have := inj j9 g4 q; omega), u_0]
      · exact h2 j (by omega) g2
    · intro q hq
      rw [h3 q (fun j g1 g2 => hq j (by omega) g2), u_n (hq i (Nat.le_refl _) hi2)]
theorem q_own (e : Int32) (ow : Nat → Int32) {x y m : Nat} (hm : m = 4 ∨ m = 8) (hx : x + m ≤ 16) (hy : y + m ≤ 16) : ip_lp2 (fMO_readLeaf_B90 e (nI x) (nI y) (nI m)) 1000 (0 : Int32) ow = some (nI (m * m), own1 ow x y m e) := by
  obtain ⟨ow1, h1, h2, h3⟩ := q_ownL e hm hx hy (m * m) 0 1000 ow (by omega) (by rcases hm with rfl | rfl <;> omega)
  rw [show ip_lp2 (fMO_readLeaf_B90 e (nI x) (nI y) (nI m)) 1000 (0 : Int32) ow = _ from h1]
  congr 2
  funext q
  by_cases hq : inR x y m q
  · rw [own1_in hq]
    have hq : y ≤ q / 16 ∧ q / 16 < y + m ∧ x ≤ q % 16 ∧ q % 16 < x + m := hq
    have hj : m * (q / 16 - y) + (q % 16 - x) < m * m := by
      rcases hm with rfl | rfl <;> omega
    have e1 : (m * (q / 16 - y) + (q % 16 - x)) / m = q / 16 - y := by
      rcases hm with rfl | rfl <;> omega
    have e2 : (m * (q / 16 - y) + (q % 16 - x)) % m = q % 16 - x := by
      rcases hm with rfl | rfl <;> omega
    have h4 := h2 _ (Nat.zero_le _) hj
    rw [e1, e2] at h4
    rw [← h4]
    congr 1
    omega
  · rw [own1_out hq]
    refine h3 q (fun j _ hj e => hq ?_)
    obtain ⟨d1, d2⟩ := sq_div hm hj
    unfold inR
    generalize j / m = u at e d1
    generalize j % m = v at e d2
    rcases hm with rfl | rfl <;> omega
