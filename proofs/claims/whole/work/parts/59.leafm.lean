/-! a leaf of the reference -/
theorem blocks_apart {x y j j2 q : Nat} (h : inb (x + 4 * (j % 2)) (y + 4 * (j / 2)) q) (h2 : inb (x + 4 * (j2 % 2)) (y + 4 * (j2 / 2)) q) : j = j2 := by
  unfold inb at h h2
  omega
set_option maxRecDepth 100000 in
theorem q_lvM (a1 a4 a5 a6 a9 : Int32) (ld vals : Nat → Int32) (lg sd : Int32) {n x y G : Nat} (hn : n ≤ 240) (hG : G ≤ 4) (hGs : (sd * sd) / (16 : Int32) = nI G) (hsd : sd = 4 ↔ lg = 0) (hx : ∀ j, j < G → x + 4 * (j % 2) ≤ 12 ∧ y + 4 * (j / 2) ≤ 12) : ∀ (k j fuel b : Nat) (a : LvS) (co gm : Nat → Int32), j + k = G → k < fuel → DOK b a.1 → b + 510 * k + 700 < 2 ^ 30 → MR a.1 co → (∀ j2, j ≤ j2 → j2 < G → ∀ q, inb (x + 4 * (j2 % 2)) (y + 4 * (j2 / 2)) q → a.2.2 q = 0) → ∃ (co1 gm1 : Nat → Int32), ip_lp8 (fMO_readLeaf_B203 a1 (nI n) a4 a5 a6 ld vals (nI x) (nI y) sd a9) fuel (nI j) (nI a.1.2.2.2.2.2) a.1.2.2.2.1 a.1.2.2.2.2.1 a.1.1 co a.2.2 gm = some (nI G, nI (s_it (s_gj ld n (vals 1) 1 lg x y) k j a).1.2.2.2.2.2, (s_it (s_gj ld n (vals 1) 1 lg x y) k j a).1.2.2.2.1, (s_it (s_gj ld n (vals 1) 1 lg x y) k j a).1.2.2.2.2.1, (s_it (s_gj ld n (vals 1) 1 lg x y) k j a).1.1, co1, (s_it (s_gj ld n (vals 1) 1 lg x y) k j a).2.2, gm1) ∧ MR (s_it (s_gj ld n (vals 1) 1 lg x y) k j a).1 co1 := by
  intro k
  induction k with
  | zero =>
    intro j fuel b a co gm hj hf hs hb hm hz
    obtain ⟨g, rfl⟩ : ∃ f, fuel = f + 1 := ⟨fuel - 1, by omega⟩
    have e : j = G := by omega
    subst e
    refine ⟨co, gm, ?_, hm⟩
    refine l_ex8 ?_
    unfold fMO_readLeaf_B203
    rw [hGs, if_pos (nI_le (Nat.le_refl _) (by omega))]
    rfl
  | succ k ih =>
    intro j fuel b a co gm hj hf hs hb hm hz
    obtain ⟨g, rfl⟩ : ∃ f, fuel = f + 1 := ⟨fuel - 1, by omega⟩
    obtain ⟨h1, h2⟩ := hx j (by omega)
    have hd : DOK (b + 510) (s_gj ld n (vals 1) 1 lg x y j a).1 := by
      obtain ⟨-, -, -, -, -, -, k3⟩ := q_gjX ld co vals 0 1 lg 0 (nI G) 0 0 0 sd hn (show j < 4 by omega) (nI_lt (show j < G by omega) (by omega)) h1 h2 hs (by omega) ⟨hm.1, hm.2.1⟩
      exact k3
    obtain ⟨co1, gm1, k1, k2⟩ := q_gjM a1 a4 a5 a6 a9 ld co vals gm lg sd hn (show j < 4 by omega) hGs (show j < G by omega) hG hsd h1 h2 hs (by omega) hm (hz j (Nat.le_refl _) (by omega))
    obtain ⟨co2, gm2, k4, k5⟩ := ih (j + 1) g (b + 510) (s_gj ld n (vals 1) 1 lg x y j a) co1 gm1 (by omega) (by omega) hd (by omega) k2 (fun j2 g1 g2 q hq => by
      show blk a.2.2 (x + 4 * (j % 2)) (y + 4 * (j / 2)) _ q = 0
      rw [blk_out (fun z => by have := blocks_apart z hq; omega)]
      exact hz j2 (by omega) g2 q hq)
    refine ⟨co2, gm2, ?_, k5⟩
    show _ = some (nI G, nI (s_it (s_gj ld n (vals 1) 1 lg x y) k (j + 1) (s_gj ld n (vals 1) 1 lg x y j a)).1.2.2.2.2.2, (s_it (s_gj ld n (vals 1) 1 lg x y) k (j + 1) (s_gj ld n (vals 1) 1 lg x y j a)).1.2.2.2.1, (s_it (s_gj ld n (vals 1) 1 lg x y) k (j + 1) (s_gj ld n (vals 1) 1 lg x y j a)).1.2.2.2.2.1, (s_it (s_gj ld n (vals 1) 1 lg x y) k (j + 1) (s_gj ld n (vals 1) 1 lg x y j a)).1.1, co2, (s_it (s_gj ld n (vals 1) 1 lg x y) k (j + 1) (s_gj ld n (vals 1) 1 lg x y j a)).2.2, gm2)
    rw [← k4]
    exact l_in8 k1
theorem s_it0 (ld : Nat → Int32) (n : Nat) (hp lg : Int32) {x y G : Nat} : ∀ (k j : Nat) (a : LvS), j + k = G → (∀ j2, j ≤ j2 → j2 < G → ∀ q, inb (x + 4 * (j2 % 2)) (y + 4 * (j2 / 2)) q → a.2.2 q = 0) → (s_it (s_gj ld n hp 0 lg x y) k j a).1 = a.1 ∧ (s_it (s_gj ld n hp 0 lg x y) k j a).2.2 = a.2.2 := by
  intro k
  induction k with
  | zero => intro j a _ _; exact ⟨rfl, rfl⟩
  | succ k ih =>
    intro j a hj hz
    have e : s_gj ld n hp 0 lg x y j a = (a.1, s_zf a.2.1, a.2.2) := by
      unfold s_gj s_gr
      rw [if_pos rfl, blk_zero (hz j (Nat.le_refl _) (by omega))]
    obtain ⟨h1, h2⟩ := ih (j + 1) (a.1, s_zf a.2.1, a.2.2) (by omega) (fun j2 g1 g2 q hq => hz j2 (by omega) g2 q hq)
    show (s_it (s_gj ld n hp 0 lg x y) k (j + 1) (s_gj ld n hp 0 lg x y j a)).1 = _ ∧ (s_it (s_gj ld n hp 0 lg x y) k (j + 1) (s_gj ld n hp 0 lg x y j a)).2.2 = _
    rw [e]
    exact ⟨h1, h2⟩
def s_md (ld : Nat → Int32) (n : Nat) (ml : Int32) (s : DS) : Int32 × DS := if (s_bin ld n s 3).1 = 1 then (ml, (s_bin ld n s 3).2) else s_frs ld n 3 0 (s_bin ld n s 3).2
theorem s_md_ok (ld : Nat → Int32) (n : Nat) {ml : Int32} {b : Nat} {s : DS} (h : DOK b s) (hml : ∃ q, ml = nI q ∧ q ≤ 7) : DOK (b + 9) (s_md ld n ml s).2 ∧ (∃ q, (s_md ld n ml s).1 = nI q ∧ q ≤ 7) ∧ (s_md ld n ml s).2.1 = (s_bin ld n s 3).2.1 ∧ (s_md ld n ml s).2.2.2.2.1 = (s_bin ld n s 3).2.2.2.2.1 := by
  have h1 := s_bin_ok ld n (c := 3) (by omega) h
  unfold s_md
  generalize s_bin ld n s 3 = r at h1 ⊢
  split
  · exact ⟨h1.mono (by omega), hml, rfl, rfl⟩
  · have h2 := s_frs_ok ld n 3 _ 0 r.2 h1
    have h3 := s_frs_c ld n 3 0 r.2
    obtain ⟨y, h4, h5⟩ := s_frs_v ld n 3 0 r.2
    exact ⟨h2, ⟨y, h4, by omega⟩, h3.1, h3.2.2.2.1⟩
set_option maxRecDepth 100000 in
theorem q_leafM (a1 a4 a5 a6 : Int32) (ld co vals lv g gm left top sides modes skips own : Nat → Int32) (ml lg : Int32) {n b x y e m : Nat} {s : DS} (hn : n ≤ 240) (hsd : (m = 8 ∧ lg = 1 ∧ x ≤ 8 ∧ y ≤ 8) ∨ (m = 4 ∧ lg = 0 ∧ x ≤ 12 ∧ y ≤ 12)) (he : e < 16) (hml : (x = 0 ∧ ml = 1) ∨ (0 < x ∧ ∃ o, o < 16 ∧ own (16 * y + x - 1) = nI o ∧ modes o = ml)) (hmq : ∃ q, ml = nI q ∧ q ≤ 7) (hz : ∀ q, inR x y m q → lv q = 0) (hs : DOK b s) (hb : b + 4000 < 2 ^ 30) (hm : MR s co) : ∃ co1 gm1 : Nat → Int32, fMO_readLeaf a1 (nI n) (nI s.2.2.2.2.2) a4 a5 a6 s.2.2.2.1 s.2.2.2.2.1 (nI e) ld vals s.1 co left top sides modes skips own lv gm (nI x) (nI y) (nI m) = some (nI (s_lf ld n (vals 1) (vals 2) lg x y (s_md ld n ml s).2 g lv).2.1.2.2.2.2.2, (s_lf ld n (vals 1) (vals 2) lg x y (s_md ld n ml s).2 g lv).2.1.2.2.2.1, (s_lf ld n (vals 1) (vals 2) lg x y (s_md ld n ml s).2 g lv).2.1.2.2.2.2.1, nI (e + 1), (s_lf ld n (vals 1) (vals 2) lg x y (s_md ld n ml s).2 g lv).2.1.1, co1, upd left e (nI x), upd top e (nI y), upd sides e (nI m), upd modes e (s_md ld n ml s).1, upd skips e (s_lf ld n (vals 1) (vals 2) lg x y (s_md ld n ml s).2 g lv).1, own1 own x y m (nI e), (s_lf ld n (vals 1) (vals 2) lg x y (s_md ld n ml s).2 g lv).2.2.2, gm1) ∧ MR (s_lf ld n (vals 1) (vals 2) lg x y (s_md ld n ml s).2 g lv).2.1 co1 := by
  have hm48 : m = 4 ∨ m = 8 := by rcases hsd with h | h; exact Or.inr h.1; exact Or.inl h.1
  have hlg : nI m = (4 : Int32) ↔ lg = 0 := by
    rcases hsd with ⟨rfl, rfl, -⟩ | ⟨rfl, rfl, -⟩ <;> decide
  have hG : (nI m * nI m) / (16 : Int32) = nI (if lg = 0 then 1 else 4) := by
    rcases hsd with ⟨rfl, rfl, -⟩ | ⟨rfl, rfl, -⟩ <;> decide
  have hblk : ∀ j, j < (if lg = 0 then 1 else 4) → x + 4 * (j % 2) ≤ 12 ∧ y + 4 * (j / 2) ≤ 12 := by
    intro j hj
    rcases hsd with ⟨-, rfl, h3, h4⟩ | ⟨-, rfl, h3, h4⟩
    · have : j < 4 := hj
      omega
    · have : j < 1 := hj
      omega
  have hz2 : ∀ j2, 0 ≤ j2 → j2 < (if lg = 0 then 1 else 4) → ∀ q, inb (x + 4 * (j2 % 2)) (y + 4 * (j2 / 2)) q → lv q = 0 := by
    intro j2 _ h2 q hq
    refine hz q ?_
    unfold inb at hq
    unfold inR
    rcases hsd with ⟨rfl, rfl, -⟩ | ⟨rfl, rfl, -⟩
    · have : j2 < 4 := h2
      omega
    · have : j2 < 1 := h2
      omega
  have hG4 : (if lg = 0 then 1 else 4) ≤ 4 := by split <;> omega
  -- the mode
  obtain ⟨co1, g1, g2⟩ := q_binM a1 a4 a5 a6 (nI e) ld co (c := 3) hn (by omega) hs (by omega) hm.1 hm.2.1 hm.2.2
  have k1 := s_bin_ok ld n (c := 3) (by omega) hs
  obtain ⟨co2, g3, g4⟩ := q_freesM a1 a4 a5 a6 (nI e) ld co1 (N := 3) hn (by omega) k1 (by omega) g2.1 g2.2.1 g2.2.2
  obtain ⟨k2, k3, k4, k5⟩ := s_md_ok ld n hs hmq
  have em : ∃ co3 : Nat → Int32, (if (s_bin ld n s 3).1 = (1 : Int32) then ip_b1 (if nI x = 0 then some (1 : Int32) else ip_b1 (ip_ald 256 own ((((16 : Int32) * nI y) + nI x) - (1 : Int32))) (fun z20 => ip_b1 (ip_ald 16 modes z20) (fun z21 => some z21))) (fun z19 => ip_b1 (ip_ast 16 modes (nI e) z19) (fun g22 => some (nI (s_bin ld n s 3).2.2.2.2.2.2, (s_bin ld n s 3).2.2.2.2.2.1, co1, g22))) else ip_b4 (fMO_frees a1 (nI n) (nI (s_bin ld n s 3).2.2.2.2.2.2) a4 a5 a6 (s_bin ld n s 3).2.2.2.2.1 (s_bin ld n s 3).2.2.2.2.2.1 (nI e) ld co1 (3 : Int32)) (fun z14 z15 z16 g17 => ip_b1 (ip_ast 16 modes (nI e) z14) (fun g18 => some (z15, z16, g17, g18)))) = some (nI (s_md ld n ml s).2.2.2.2.2.2, (s_md ld n ml s).2.2.2.2.2.1, co3, upd modes e (s_md ld n ml s).1) ∧ MR (s_md ld n ml s).2 co3 := by
    have e1 : (if nI x = 0 then some (1 : Int32) else ip_b1 (ip_ald 256 own ((((16 : Int32) * nI y) + nI x) - (1 : Int32))) (fun z20 => ip_b1 (ip_ald 16 modes z20) (fun z21 => some z21))) = some ml := by
      rcases hml with ⟨rfl, rfl⟩ | ⟨h1, o, h2, h3, h4⟩
      · rfl
      · rw [if_neg (nI_ne0 h1 (by omega)), show (((16 : Int32) * nI y) + nI x) - (1 : Int32) = nI (16 * y + x - 1) by
          rw [show (16 : Int32) = nI 16 from rfl, pk_mul, nI_add]
          exact pk_sub (b := 1) (by omega), ip_ald_n (by omega) (by omega)]
        simp only [e_b1]
        rw [h3, ip_ald_n h2 (by omega), h4]
        rfl
    rw [e1]
    simp only [e_b1]
    rw [ip_ast_n he (by omega)]
    simp only [e_b1]
    unfold s_md
    generalize s_bin ld n s 3 = r at g1 g2 g3 g4 ⊢
    by_cases h : r.1 = 1
    · rw [if_pos h, if_pos h]
      exact ⟨co1, rfl, g2⟩
    · rw [if_neg h, if_neg h, show (3 : Int32) = nI 3 from rfl, g3]
      simp only [e_b4]
      rw [ip_ast_n he (by omega)]
      exact ⟨co2, rfl, g4⟩
  obtain ⟨co3, e3, e4⟩ := em
  unfold fMO_readLeaf
  rw [ip_ast_n he (by omega)]
  simp only [e_b1]
  rw [ip_ast_n he (by omega)]
  simp only [e_b1]
  rw [ip_ast_n he (by omega)]
  simp only [e_b1]
  rw [show (3 : Int32) = nI 3 from rfl] at e3 ⊢
  rw [g1]
  simp only [e_b6]
  rw [e3]
  simp only [e_b4]
  rw [q_own (nI e) own hm48 (by rcases hsd with h | h <;> omega) (by rcases hsd with h | h <;> omega)]
  simp only [e_b2, e_lt]
  have ez : ip_zst 16 skips (nI e) (0 : Int32) = some (upd skips e 0) := by
    unfold ip_zst
    rw [if_pos (Or.inl rfl), ip_ast_n he (by omega)]
  rw [ez]
  simp only [e_b1]
  have e5 : (if nI m = (4 : Int32) then some (4 : Int32) else some (5 : Int32)) = some (nI (if lg = 0 then 4 else 5)) := by
    by_cases h : lg = 0
    · rw [if_pos (hlg.mpr h), if_pos h]
      rfl
    · rw [if_neg (fun q => h (hlg.mp q)), if_neg h]
      rfl
  rw [e5]
  simp only [e_b1]
  rw [← k4, ← k5]
  have hc : (if lg = 0 then 4 else 5) < 14 := by split <;> omega
  generalize s_md ld n ml s = r0 at e4 k2 k3 ⊢
  obtain ⟨co4, g5, g6⟩ := q_binM a1 a4 a5 a6 (nI e + 1) ld co3 (c := if lg = 0 then 4 else 5) hn hc k2 (by omega) e4.1 e4.2.1 e4.2.2
  rw [g5]
  simp only [e_b6]
  have k6 := s_bin_ok ld n (c := if lg = 0 then 4 else 5) hc k2
  have k7 := s_bin_01 ld n r0.2 (if lg = 0 then 4 else 5)
  have hsk := s_sk_ok ld n (vals 2) lg k2
  obtain ⟨co5, g7, g8⟩ := q_binM a1 a4 a5 a6 (nI e + 1) ld co4 (c := 6) hn (by omega) k6 (by omega) g6.1 g6.2.1 g6.2.2
  have k8 := s_bin_01 ld n (s_bin ld n r0.2 (if lg = 0 then 4 else 5)).2 6
  by_cases h0 : (s_bin ld n r0.2 (if lg = 0 then 4 else 5)).1 = 0
  · rw [if_pos h0]
    have hcd : (s_cd ld n lg r0.2).1 = 0 := h0
    have hs2 : s_sk ld n (vals 2) lg r0.2 = (0, (s_cd ld n lg r0.2).2) := by
      unfold s_sk
      rw [if_neg (fun q => by rw [hcd] at q; exact absurd q.1 (by decide))]
    have hi := s_it0 ld n (vals 1) lg (x := x) (y := y) (if lg = 0 then 1 else 4) 0 ((s_cd ld n lg r0.2).2, g, lv) (Nat.zero_add _) hz2
    unfold s_lf
    rw [hs2, hcd]
    generalize s_it (s_gj ld n (vals 1) 0 lg x y) (if lg = 0 then 1 else 4) 0 ((s_cd ld n lg r0.2).2, g, lv) = r at hi ⊢
    simp only [] at hi
    refine ⟨co4, gm, ?_, ?_⟩
    · simp only [nI_1]
      rw [hi.1, hi.2]
      rfl
    · simp only []
      rw [hi.1]
      exact g6
  · rw [if_neg h0]
    have h1 : (s_cd ld n lg r0.2).1 = 1 := k7.resolve_left h0
    have ek : ∃ co6 : Nat → Int32, (if nI m = (4 : Int32) then ip_b1 (ip_ald 10 vals (2 : Int32)) (fun z46 => if z46 = (1 : Int32) then ip_b6 (fMO_bin a1 (nI n) (nI (s_bin ld n r0.2 (if lg = 0 then 4 else 5)).2.2.2.2.2.2) a4 a5 a6 (s_bin ld n r0.2 (if lg = 0 then 4 else 5)).2.2.2.2.1 (s_bin ld n r0.2 (if lg = 0 then 4 else 5)).2.2.2.2.2.1 (nI e + 1) ld (s_bin ld n r0.2 (if lg = 0 then 4 else 5)).2.1 co4 (6 : Int32)) (fun z47 z48 z49 z50 g51 g52 => if z47 = (1 : Int32) then some ((1 : Int32), z48, z49, z50, g51, g52) else some ((0 : Int32), z48, z49, z50, g51, g52)) else some ((0 : Int32), nI (s_bin ld n r0.2 (if lg = 0 then 4 else 5)).2.2.2.2.2.2, (s_bin ld n r0.2 (if lg = 0 then 4 else 5)).2.2.2.2.1, (s_bin ld n r0.2 (if lg = 0 then 4 else 5)).2.2.2.2.2.1, (s_bin ld n r0.2 (if lg = 0 then 4 else 5)).2.1, co4)) else some ((0 : Int32), nI (s_bin ld n r0.2 (if lg = 0 then 4 else 5)).2.2.2.2.2.2, (s_bin ld n r0.2 (if lg = 0 then 4 else 5)).2.2.2.2.1, (s_bin ld n r0.2 (if lg = 0 then 4 else 5)).2.2.2.2.2.1, (s_bin ld n r0.2 (if lg = 0 then 4 else 5)).2.1, co4)) = some ((s_sk ld n (vals 2) lg r0.2).1, nI (s_sk ld n (vals 2) lg r0.2).2.2.2.2.2.2, (s_sk ld n (vals 2) lg r0.2).2.2.2.2.1, (s_sk ld n (vals 2) lg r0.2).2.2.2.2.2.1, (s_sk ld n (vals 2) lg r0.2).2.1, co6) ∧ MR (s_sk ld n (vals 2) lg r0.2).2 co6 := by
      unfold s_sk
      rw [h1]
      unfold s_cd
      generalize s_bin ld n r0.2 (if lg = 0 then 4 else 5) = r at g6 g7 g8 k8 ⊢
      by_cases h2 : lg = 0
      · rw [if_pos (hlg.mpr h2), e_ald 10 vals 2 2 rfl (by omega) (by omega)]
        simp only [e_b1]
        by_cases h3 : vals 2 = 1
        · rw [if_pos h3, if_pos ⟨trivial, h2, h3⟩, show (6 : Int32) = nI 6 from rfl, g7]
          generalize s_bin ld n r.2 6 = r2 at g8 k8 ⊢
          simp only [e_b6]
          refine ⟨co5, ?_, g8⟩
          rcases k8 with h | h <;> rw [h] <;> rfl
        · rw [if_neg h3, if_neg (fun q => h3 q.2.2)]
          exact ⟨co4, rfl, g6⟩
      · rw [if_neg (fun q => h2 (hlg.mp q)), if_neg (fun q => h2 q.2.1)]
        exact ⟨co4, rfl, g6⟩
    obtain ⟨co6, e6, e7⟩ := ek
    rw [e6]
    simp only [e_b6]
    have ez2 : ip_zst 16 (upd skips e 0) (nI e) (s_sk ld n (vals 2) lg r0.2).1 = some (upd skips e (s_sk ld n (vals 2) lg r0.2).1) := by
      unfold ip_zst
      rw [if_pos hsk.2, ip_ast_n he (by omega), uu]
    rw [ez2]
    simp only [e_b1]
    obtain ⟨co7, gm1, j1, j2⟩ := q_lvM a1 a4 a5 a6 (nI e + 1) ld vals lg (nI m) (x := x) (y := y) hn hG4 hG hlg hblk (if lg = 0 then 1 else 4) 0 1000 (b + 9 + 12) ((s_sk ld n (vals 2) lg r0.2).2, g, lv) co6 gm (Nat.zero_add _) (by omega) hsk.1 (by omega) e7 hz2
    dsimp only at j1 j2
    rw [show nI 0 = (0 : Int32) from rfl] at j1
    rw [j1]
    unfold s_lf
    rw [h1]
    simp only [e_b8, nI_1]
    exact ⟨co7, gm1, rfl, j2⟩
