/-! a whole group -/
def inb (x y q : Nat) : Prop := y ≤ q / 16 ∧ q / 16 < y + 4 ∧ x ≤ q % 16 ∧ q % 16 < x + 4
theorem inb_pos {x y p : Nat} (hx : x ≤ 12) (hp : p < 16) : inb x y (pos x y p) := by
  unfold inb pos
  omega
theorem pos_of {x y q : Nat} (h : inb x y q) : 4 * (q / 16 - y) + (q % 16 - x) < 16 ∧ pos x y (4 * (q / 16 - y) + (q % 16 - x)) = q := by
  unfold inb at h
  unfold pos
  omega
theorem idx_pos {x y p : Nat} (hx : x ≤ 12) (hp : p < 16) : 4 * (pos x y p / 16 - y) + (pos x y p % 16 - x) = p := by
  unfold pos
  omega
theorem pos_lt {x y p : Nat} (hx : x ≤ 12) (hy : y ≤ 12) (hp : p < 16) : pos x y p < 256 := by
  unfold pos
  omega
def blk (lv : Nat → Int32) (x y : Nat) (g : Nat → Int32) : Nat → Int32 := fun q => if y ≤ q / 16 ∧ q / 16 < y + 4 ∧ x ≤ q % 16 ∧ q % 16 < x + 4 then g (4 * (q / 16 - y) + (q % 16 - x)) else lv q
theorem blk_in {lv g : Nat → Int32} {x y q : Nat} (h : inb x y q) : blk lv x y g q = g (4 * (q / 16 - y) + (q % 16 - x)) := if_pos h
theorem blk_pos {lv g : Nat → Int32} {x y p : Nat} (hx : x ≤ 12) (hp : p < 16) : blk lv x y g (pos x y p) = g p := by
  rw [blk_in (inb_pos hx hp), idx_pos hx hp]
theorem blk_out {lv g : Nat → Int32} {x y q : Nat} (h : ¬ inb x y q) : blk lv x y g q = lv q := if_neg h
theorem q_keepX (gr : Nat → Int32) {x y : Nat} (hx : x ≤ 12) (hy : y ≤ 12) : ∀ (k i fuel : Nat) (lv : Nat → Int32), i + k = 16 → k < fuel → ∃ lv1, ip_lp2 (fLR_keepGroup_B2 gr (nI (16 * y + x))) fuel (nI i) lv = some (nI 16, lv1) ∧ (∀ p, p < 16 → i ≤ p → lv1 (pos x y p) = gr p) ∧ ∀ q, (∀ p, p < 16 → i ≤ p → q ≠ pos x y p) → lv1 q = lv q := by
  intro k
  induction k with
  | zero =>
    intro i fuel lv hi hf
    obtain ⟨f, rfl⟩ : ∃ f, fuel = f + 1 := ⟨fuel - 1, by omega⟩
    have e : i = 16 := by omega
    subst e
    refine ⟨lv, ?_, fun p h1 h2 => by omega, fun q _ => rfl⟩
    unfold ip_lp2 ip_lp fLR_keepGroup_B2
    simp only []
    rw [if_pos (show (16 : Int32) ≤ nI 16 by decide)]
  | succ k ih =>
    intro i fuel lv hi hf
    obtain ⟨f, rfl⟩ : ∃ f, fuel = f + 1 := ⟨fuel - 1, by omega⟩
    have hi16 : i < 16 := by omega
    have ei : (nI (16 * y + x) + ((nI i >>> ((2 : Int32) &&& 31)) * (16 : Int32))) + (nI i &&& (3 : Int32)) = nI (pos x y i) := by
      rw [show nI i >>> ((2 : Int32) &&& 31) = nI (i / 4) from pk_shrN (by omega) _ 2 (by decide), show nI i &&& (3 : Int32) = nI (i % 4) from pk_andN (by omega) 2 (by decide), show (16 : Int32) = nI 16 from rfl, pk_mul, nI_add, nI_add]
      congr 1
      unfold pos
      omega
    obtain ⟨lv1, h1, h2, h3⟩ := ih (i + 1) f (upd lv (pos x y i) (gr i)) (by omega) (by omega)
    refine ⟨lv1, ?_, ?_, ?_⟩
    · rw [← h1]
      conv => lhs; unfold ip_lp2 ip_lp fLR_keepGroup_B2
      simp only []
      rw [if_neg (show ¬ (16 : Int32) ≤ nI i from nI_ge (b := 16) hi16 (by omega)), ip_ald_n hi16 (by omega)]
      simp only [e_b1]
      rw [ei, ip_ast_n (pos_lt hx hy hi16) (by omega)]
      simp only [e_b1, e_lt, nI_1]
      rfl
    · intro p hp hip
      by_cases e : p = i
      · subst e
        rw [h3 _ (fun p1 hp1 hip1 q => by have := pos_inj hx hp hp1 q; omega), u_0]
      · exact h2 p hp (by omega)
    · intro q hq
      rw [h3 q (fun p hp hip => hq p hp (by omega)), u_n (hq i hi16 (Nat.le_refl _))]
theorem q_keep (f l sm : Int32) (lv gr : Nat → Int32) {x y : Nat} (hx : x ≤ 12) (hy : y ≤ 12) : fLR_keepGroup f l sm lv gr (nI (16 * y + x)) = some (blk lv x y gr) := by
  obtain ⟨lv1, h1, h2, h3⟩ := q_keepX gr hx hy 16 0 1000 lv (by omega) (by omega)
  unfold fLR_keepGroup
  rw [show (0 : Int32) = nI 0 from rfl, h1]
  show some lv1 = _
  congr 1
  funext q
  by_cases hq : inb x y q
  · obtain ⟨p1, p2⟩ := pos_of hq
    rw [blk_in hq]
    conv => lhs; rw [← p2]
    exact h2 _ p1 (by omega)
  · rw [blk_out hq]
    exact h3 q (fun p hp _ e => hq (by rw [e]; exact inb_pos hx hp))
theorem q_signsM (a1 a4 a5 a6 a9 : Int32) (ld grp : Nat → Int32) (hid first rg : Int32) {n S x y : Nat} (hn : n ≤ 240) (hS : S < 2 ^ 31) (hx : x ≤ 12) (hy : y ≤ 12) : ∀ (k i fuel b : Nat) (a : DS × (Nat → Int32)) (co lv : Nat → Int32), i + k = 16 → k < fuel → DOK b a.1 → b + k < 2 ^ 30 → MR a.1 co → a.1.2.2.2.1 = rg → (∀ j, i ≤ j → j < 16 → grp (sp_ord j) = a.2 (sp_ord j)) → ∃ co1 lv1 : Nat → Int32, ip_lp5 (fMO_readGroup_B176 a1 (nI n) a4 a5 a6 a9 ld (nI x) (nI y) (nI S) first rg grp hid) fuel (nI i) (nI a.1.2.2.2.2.2) a.1.2.2.2.2.1 co lv = some (nI 16, nI (s_it (s_g2 ld n hid first (nI S)) k i a).1.2.2.2.2.2, (s_it (s_g2 ld n hid first (nI S)) k i a).1.2.2.2.2.1, co1, lv1) ∧ MR (s_it (s_g2 ld n hid first (nI S)) k i a).1 co1 ∧ (∀ j, i ≤ j → j < 16 → lv1 (pos x y (sp_ord j)) = (s_it (s_g2 ld n hid first (nI S)) k i a).2 (sp_ord j)) ∧ (∀ q, (∀ j, i ≤ j → j < 16 → q ≠ pos x y (sp_ord j)) → lv1 q = lv q) ∧ ∀ j, j < i → (s_it (s_g2 ld n hid first (nI S)) k i a).2 (sp_ord j) = a.2 (sp_ord j) := by
  intro k
  induction k with
  | zero =>
    intro i fuel b a co lv hi hf hg hb hm hr hgr
    obtain ⟨f, rfl⟩ : ∃ f, fuel = f + 1 := ⟨fuel - 1, by omega⟩
    have e : i = 16 := by omega
    subst e
    refine ⟨co, lv, ?_, hm, fun j h1 h2 => by omega, fun q _ => rfl, fun j _ => rfl⟩
    unfold ip_lp5 ip_lp fMO_readGroup_B176
    simp only []
    rw [if_pos (show (16 : Int32) ≤ nI 16 by decide)]
    rfl
  | succ k ih =>
    intro i fuel b a co lv hi hf hg hb hm hr hgr
    obtain ⟨f, rfl⟩ : ∃ f, fuel = f + 1 := ⟨fuel - 1, by omega⟩
    have hi16 : i < 16 := by omega
    obtain ⟨co1, h1, h2⟩ := q_g2M a1 a4 a5 a6 a9 ld co grp lv hid first (S := S) (x := x) (y := y) hn hi16 hg (by omega) hm hS hx hy (hgr i (Nat.le_refl _) hi16)
    obtain ⟨j1, j2, j3, j4⟩ := s_g2_ok ld n hid first (nI S) (k := i) hg
    have ne : ∀ j, j < 16 → j ≠ i → sp_ord j ≠ sp_ord i := fun j hj e q => e (ord_inj i hi16 j hj q)
    obtain ⟨co2, lv2, h3, h4, h5, h6, h7⟩ := ih (i + 1) f (b + 1) (s_g2 ld n hid first (nI S) i a) co1 (upd lv (pos x y (sp_ord i)) ((s_g2 ld n hid first (nI S) i a).2 (sp_ord i))) (by omega) (by omega) j1 (by omega) h2 (j3.trans hr) (fun j g1 g2 => by rw [j4 _ (ne j g2 (by omega))]; exact hgr j (by omega) g2)
    refine ⟨co2, lv2, ?_, h4, ?_, ?_, ?_⟩
    · show _ = some (nI 16, nI (s_it (s_g2 ld n hid first (nI S)) k (i + 1) (s_g2 ld n hid first (nI S) i a)).1.2.2.2.2.2, (s_it (s_g2 ld n hid first (nI S)) k (i + 1) (s_g2 ld n hid first (nI S) i a)).1.2.2.2.2.1, co2, lv2)
      rw [← h3]
      conv => lhs; unfold ip_lp5 ip_lp
      simp only []
      rw [← hr, h1]
      rfl
    · intro j g1 g2
      by_cases e : j = i
      · subst e
        show lv2 _ = (s_it (s_g2 ld n hid first (nI S)) k (j + 1) (s_g2 ld n hid first (nI S) j a)).2 (sp_ord j)
        rw [h7 j (by omega), h6 _ (fun j9 g3 g4 q => by
          have := pos_inj hx (ord_lt j g2) (ord_lt j9 g4) q
          have := ord_inj j9 g4 j g2 this
          omega), u_0]
      · exact h5 j (by omega) g2
    · intro q hq
      rw [h6 q (fun j g1 g2 => hq j (by omega) g2), u_n (hq i (Nat.le_refl _) hi16)]
    · intro j hj
      show (s_it (s_g2 ld n hid first (nI S)) k (i + 1) (s_g2 ld n hid first (nI S) i a)).2 (sp_ord j) = _
      rw [h7 j (by omega), j4 _ (ne j (by omega) (by omega))]
/-- a group: the state behind it, its sixteen levels -/
def s_hid (hp : Int32) (a : GS) : Int32 := if hp = 1 then (if a.2.2.1 - a.2.1 < 4 then 0 else 1) else 0
def s_grp (ld : Nat → Int32) (n : Nat) (hp : Int32) (s : DS) (g : Nat → Int32) : DS × (Nat → Int32) :=
  s_it (s_g2 ld n (s_hid hp (s_it (s_g1 ld n) 16 0 (0, -1, -1, s, g))) (s_it (s_g1 ld n) 16 0 (0, -1, -1, s, g)).2.1 (s_it (s_g1 ld n) 16 0 (0, -1, -1, s, g)).1) 16 0 ((s_it (s_g1 ld n) 16 0 (0, -1, -1, s, g)).2.2.2.1, (s_it (s_g1 ld n) 16 0 (0, -1, -1, s, g)).2.2.2.2)
theorem q_grpX (ld co g vals : Nat → Int32) (f l sm : Int32) {n b : Nat} {s : DS} (hn : n ≤ 240) (hs : DOK b s) (hb : b + 500 < 2 ^ 30) (hx : XR s co) : ∃ (f1 l1 sm1 : Int32) (co1 : Nat → Int32), ip_b9 (fLR_readSizes (nI (s.2.2.2.2.2 + 8)) (nI (8 * n)) s.2.2.2.1 s.2.2.2.2.1 f l sm ld s.1 co g) (fun z58 z59 z60 z61 z62 z63 g64 g65 g66 =>
    ip_b1 (ip_ald 10 vals (1 : Int32)) (fun z67 => ip_b1 ((if z67 = (1 : Int32) then (if (z62 - z61) < (4 : Int32) then (some (0 : Int32)) else (some (1 : Int32))) else (some (0 : Int32)))) (fun z68 =>
    ip_b4 (fLR_readSigns z58 (nI (8 * n)) z59 z60 z61 z62 z63 ld g65 g66 z68) (fun z69 z70 g71 g72 => some (z69, z59, z70, z61, z62, z63, g64, g71, g72))))) = some (nI ((s_grp ld n (vals 1) s g).1.2.2.2.2.2 + 8), (s_grp ld n (vals 1) s g).1.2.2.2.1, (s_grp ld n (vals 1) s g).1.2.2.2.2.1, f1, l1, sm1, (s_grp ld n (vals 1) s g).1.1, co1, (s_grp ld n (vals 1) s g).2) ∧ XR (s_grp ld n (vals 1) s g).1 co1 ∧ DOK (b + 500) (s_grp ld n (vals 1) s g).1 := by
  obtain ⟨co1, h1, h2, h3⟩ := q_sizesX ld hn 16 0 1000 b (0, -1, -1, s, g) co (by omega) (by omega) ⟨hs, 0, rfl, by omega⟩ (by omega) hx
  unfold s_grp
  generalize s_it (s_g1 ld n) 16 0 (0, -1, -1, s, g) = a at h1 h2 h3 ⊢
  obtain ⟨h4, S, h5, h6⟩ := h3
  obtain ⟨co2, k1, k2, k3, k4, k5⟩ := q_signsX ld (s_hid (vals 1) a) a.2.1 a.1 a.2.2.2.1.2.2.2.1 hn 16 0 1000 (b + 30 * 16) (a.2.2.2.1, a.2.2.2.2) co1 (by omega) (by omega) h4 (by omega) h2 rfl
  generalize s_it (s_g2 ld n (s_hid (vals 1) a) a.2.1 a.1) 16 0 (a.2.2.2.1, a.2.2.2.2) = c at k1 k2 k3 k4 k5 ⊢
  refine ⟨a.2.1, a.2.2.1, a.1, co2, ?_, k2, k3.mono (by omega)⟩
  unfold fLR_readSizes
  rw [show ip_lp10 (fLR_readSizes_B17 (nI (8 * n)) ld) 1000 (0 : Int32) (nI (s.2.2.2.2.2 + 8)) s.2.2.2.1 s.2.2.2.2.1 (-1 : Int32) (-1 : Int32) (0 : Int32) s.1 co g = _ from h1]
  simp only [e_b10, e_b9]
  rw [e_ald 10 vals 1 1 rfl (by omega) (by omega)]
  simp only [e_b1]
  have eh : (if vals 1 = (1 : Int32) then (if a.2.2.1 - a.2.1 < (4 : Int32) then some (0 : Int32) else some (1 : Int32)) else some (0 : Int32)) = some (s_hid (vals 1) a) := by
    unfold s_hid
    split
    · split <;> rfl
    · rfl
  rw [eh]
  simp only [e_b1]
  unfold fLR_readSigns
  rw [show ip_lp5 (fLR_readSigns_B2 (nI (8 * n)) a.2.2.2.1.2.2.2.1 a.2.1 a.1 ld (s_hid (vals 1) a)) 1000 (0 : Int32) (nI (a.2.2.2.1.2.2.2.2.2 + 8)) a.2.2.2.1.2.2.2.2.1 co1 a.2.2.2.2 = _ from k1]
  simp only [e_b5, e_b4]
  rw [k4, k5]
theorem q_grpM (a1 a4 a5 a6 a9 : Int32) (ld co g gm vals lv : Nat → Int32) {n b x y : Nat} {s : DS} (hn : n ≤ 240) (hs : DOK b s) (hb : b + 600 < 2 ^ 30) (hm : MR s co) (hx : x ≤ 12) (hy : y ≤ 12) : ∃ co1 gm1 : Nat → Int32, fMO_readGroup a1 (nI n) (nI s.2.2.2.2.2) a4 a5 a6 s.2.2.2.1 s.2.2.2.2.1 a9 ld vals s.1 co lv gm (nI x) (nI y) = some (nI (s_grp ld n (vals 1) s g).1.2.2.2.2.2, (s_grp ld n (vals 1) s g).1.2.2.2.1, (s_grp ld n (vals 1) s g).1.2.2.2.2.1, (s_grp ld n (vals 1) s g).1.1, co1, blk lv x y (s_grp ld n (vals 1) s g).2, gm1) ∧ MR (s_grp ld n (vals 1) s g).1 co1 := by
  obtain ⟨-, -, -, h3⟩ := q_sizesX ld hn 16 0 1000 b (0, -1, -1, s, g) co (by omega) (by omega) ⟨hs, 0, rfl, by omega⟩ (by omega) ⟨hm.1, hm.2.1⟩
  obtain ⟨co1, gm1, h1, h2, hga⟩ := q_sizesM a1 a4 a5 a6 a9 ld hn 16 0 1000 b (0, -1, -1, s, g) co gm (by omega) (by omega) ⟨hs, 0, rfl, by omega⟩ (by omega) hm (fun j hj => by omega)
  unfold s_grp
  generalize s_it (s_g1 ld n) 16 0 (0, -1, -1, s, g) = a at h1 h2 h3 hga ⊢
  obtain ⟨h4, S, h5, h6⟩ := h3
  obtain ⟨-, -, -, -, k4, k5⟩ := q_signsX ld (s_hid (vals 1) a) a.2.1 a.1 a.2.2.2.1.2.2.2.1 hn 16 0 1000 (b + 30 * 16) (a.2.2.2.1, a.2.2.2.2) co1 (by omega) (by omega) h4 (by omega) ⟨h2.1, h2.2.1⟩ rfl
  obtain ⟨co2, lv2, k1, k2, k3, k6, -⟩ := q_signsM a1 a4 a5 a6 a9 ld gm1 (s_hid (vals 1) a) a.2.1 a.2.2.2.1.2.2.2.1 (S := S) hn (by omega) hx hy 16 0 1000 (b + 30 * 16) (a.2.2.2.1, a.2.2.2.2) co1 lv (by omega) (by omega) h4 (by omega) h2 rfl (fun j _ hj => hga j hj)
  rw [← h5] at k1 k2 k3
  generalize s_it (s_g2 ld n (s_hid (vals 1) a) a.2.1 a.1) 16 0 (a.2.2.2.1, a.2.2.2.2) = c at k1 k2 k3 k4 k5 ⊢
  have el : lv2 = blk lv x y c.2 := by
    funext q
    by_cases hq : inb x y q
    · obtain ⟨p1, p2⟩ := pos_of hq
      rw [blk_in hq]
      obtain ⟨j, j1, j2⟩ := ord_sur _ p1
      rw [← j2, ← k3 j (by omega) j1, j2, p2]
    · rw [blk_out hq]
      exact k6 q (fun j _ hj e => hq (by rw [e]; exact inb_pos hx (ord_lt j hj)))
  refine ⟨co2, gm1, ?_, k2⟩
  unfold fMO_readGroup
  rw [show ip_lp10 (fMO_readGroup_B11 a1 (nI n) a4 a5 a6 a9 ld) 1000 (0 : Int32) (-1 : Int32) (-1 : Int32) (0 : Int32) (nI s.2.2.2.2.2) s.2.2.2.1 s.2.2.2.2.1 s.1 co gm = _ from h1]
  simp only [e_b10]
  rw [e_ald 10 vals 1 1 rfl (by omega) (by omega)]
  simp only [e_b1]
  have eh : (if vals 1 = (1 : Int32) then (if a.2.2.1 - a.2.1 < (4 : Int32) then some (0 : Int32) else some (1 : Int32)) else some (0 : Int32)) = some (s_hid (vals 1) a) := by
    unfold s_hid
    split
    · split <;> rfl
    · rfl
  rw [eh]
  simp only [e_b1]
  rw [show (0 : Int32) = nI 0 from rfl, k1]
  simp only [e_b5]
  rw [k4, k5, el]
