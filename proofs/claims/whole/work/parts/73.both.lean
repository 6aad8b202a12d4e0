/-! one leaf on both sides at once -/
def bk (p : Nat) : Nat := 2 * (p / 16 / 8) + p % 16 / 8
def pt (p : Nat) : Nat := 2 * (p / 16 / 4 % 2) + p % 16 / 4 % 2
theorem pt_lt (p : Nat) : pt p < 4 := by
  unfold pt
  omega
theorem bk_lt {p : Nat} (h : p < 256) : bk p < 4 := by
  unfold bk
  omega
def cov (B P p : Nat) : Prop := bk p < B ∨ (bk p = B ∧ pt p < P)
theorem cov4 {B P x y p : Nat} (hB : B < 4) (hP : P < 4) (hx : x = 8 * (B % 2) + 4 * (P % 2)) (hy : y = 8 * (B / 2) + 4 * (P / 2)) (hp : p < 256) : inR x y 4 p ↔ bk p = B ∧ pt p = P := by
  have h1 : p / 16 < 16 := by omega
  have h2 : p % 16 < 16 := by omega
  unfold inR bk pt
  revert h1 h2
  generalize p / 16 = v
  generalize p % 16 = u
  intro h1 h2
  have cB : B = 0 ∨ B = 1 ∨ B = 2 ∨ B = 3 := by omega
  have cP : P = 0 ∨ P = 1 ∨ P = 2 ∨ P = 3 := by omega
  clear hp hB hP
  rcases cB with rfl | rfl | rfl | rfl <;> rcases cP with rfl | rfl | rfl | rfl <;> omega
theorem cov8 {B x y p : Nat} (hB : B < 4) (hx : x = 8 * (B % 2)) (hy : y = 8 * (B / 2)) (hp : p < 256) : inR x y 8 p ↔ bk p = B := by
  have h1 : p / 16 < 16 := by omega
  have h2 : p % 16 < 16 := by omega
  unfold inR bk
  revert h1 h2
  generalize p / 16 = v
  generalize p % 16 = u
  intro h1 h2
  have cB : B = 0 ∨ B = 1 ∨ B = 2 ∨ B = 3 := by omega
  clear hp hB
  rcases cB with rfl | rfl | rfl | rfl <;> omega
theorem cov_left {B P x y : Nat} (hB : B < 4) (hP : P < 4) (hx : x = 8 * (B % 2) + 4 * (P % 2)) (hy : y = 8 * (B / 2) + 4 * (P / 2)) (h0 : 0 < x) : cov B P (16 * y + x - 1) ∧ 16 * y + x - 1 < 256 := by
  have cB : B = 0 ∨ B = 1 ∨ B = 2 ∨ B = 3 := by omega
  have cP : P = 0 ∨ P = 1 ∨ P = 2 ∨ P = 3 := by omega
  subst hx hy
  unfold cov
  rcases cB with rfl | rfl | rfl | rfl <;> rcases cP with rfl | rfl | rfl | rfl <;> revert h0 <;> decide
theorem q_partM (a1 a4 a5 a6 : Int32) (ld given mco left top sides modes skips ow mlv g gm : Nat → Int32) {n b e B P sp m x y : Nat} {lg ml : Int32} {s : DS} (hn : n ≤ 240) (hB : B < 4) (hP : P < 1 + 3 * sp) (hsp : (sp = 0 ∧ m = 8 ∧ lg = 1 ∧ P = 0) ∨ (sp = 1 ∧ m = 4 ∧ lg = 0)) (hx : x = 8 * (B % 2) + 4 * (P % 2)) (hy : y = 8 * (B / 2) + 4 * (P / 2)) (he : e < 16) (hml : (x = 0 ∧ ml = 1) ∨ (0 < x ∧ ∃ o, o < 16 ∧ ow (16 * y + x - 1) = nI o ∧ modes o = ml)) (hmq : ∃ k, ml = nI k ∧ k ≤ 7) (hz : ∀ q, inR x y m q → mlv q = 0) (hs : DOK b s) (hb : b + 4000 < 2 ^ 30) (hm : MR s mco) : ∃ co1 gm1 : Nat → Int32, fMO_readPicture_B174 a1 (nI n) a4 a5 a6 ld given (nI B) (nI sp) (nI P) (nI s.2.2.2.2.2) s.2.2.2.1 s.2.2.2.2.1 (nI e) s.1 mco left top sides modes skips ow mlv gm = some (.inl (nI (P + 1), nI (s_lf ld n (given 1) (given 2) lg x y (s_md ld n ml s).2 g mlv).2.1.2.2.2.2.2, (s_lf ld n (given 1) (given 2) lg x y (s_md ld n ml s).2 g mlv).2.1.2.2.2.1, (s_lf ld n (given 1) (given 2) lg x y (s_md ld n ml s).2 g mlv).2.1.2.2.2.2.1, nI (e + 1), (s_lf ld n (given 1) (given 2) lg x y (s_md ld n ml s).2 g mlv).2.1.1, co1, upd left e (nI x), upd top e (nI y), upd sides e (nI m), upd modes e (s_md ld n ml s).1, upd skips e (s_lf ld n (given 1) (given 2) lg x y (s_md ld n ml s).2 g mlv).1, own1 ow x y m (nI e), (s_lf ld n (given 1) (given 2) lg x y (s_md ld n ml s).2 g mlv).2.2.2, gm1)) ∧ MR (s_lf ld n (given 1) (given 2) lg x y (s_md ld n ml s).2 g mlv).2.1 co1 := by
  have hP4 : P < 4 := by
    rcases hsp with ⟨h1, _⟩ | ⟨h1, _⟩ <;> omega
  have hs4 : sp ≤ 1 := by
    rcases hsp with ⟨h1, _⟩ | ⟨h1, _⟩ <;> omega
  have hsd : (m = 8 ∧ lg = 1 ∧ x ≤ 8 ∧ y ≤ 8) ∨ (m = 4 ∧ lg = 0 ∧ x ≤ 12 ∧ y ≤ 12) := by
    rcases hsp with ⟨_, h2, h3, h4⟩ | ⟨_, h2, h3⟩
    · exact Or.inl ⟨h2, h3, by omega, by omega⟩
    · exact Or.inr ⟨h2, h3, by omega, by omega⟩
  have eN : (1 : Int32) + ((3 : Int32) * nI sp) = nI (1 + 3 * sp) := by
    rw [show (3 : Int32) = nI 3 from rfl, pk_mul, show (1 : Int32) = nI 1 from rfl, nI_add]
  have em : (if nI sp = (1 : Int32) then some (4 : Int32) else some (8 : Int32)) = some (nI m) := by
    rcases hsp with ⟨h1, h2, _⟩ | ⟨h1, h2, _⟩
    · rw [h1, h2]; rfl
    · rw [h1, h2]; rfl
  have md2 : ∀ z : Nat, z < 4 → nI z - nI z / (2 : Int32) * (2 : Int32) = nI (z % 2) := fun z hz => pk_rem (d := 2) (by omega) (by omega) (by omega)
  have dv2 : ∀ z : Nat, z < 4 → nI z / (2 : Int32) = nI (z / 2) := fun z hz => pk_div (d := 2) (by omega) (by omega) (by omega)
  have ex : ((nI B - nI B / (2 : Int32) * (2 : Int32)) * (8 : Int32)) + ((nI P - nI P / (2 : Int32) * (2 : Int32)) * (4 : Int32)) = nI x := by
    rw [md2 B hB, md2 P hP4, show (8 : Int32) = nI 8 from rfl, pk_mul, show (4 : Int32) = nI 4 from rfl, pk_mul, nI_add, hx]
    congr 1
    omega
  have ey : ((nI B / (2 : Int32)) * (8 : Int32)) + ((nI P / (2 : Int32)) * (4 : Int32)) = nI y := by
    rw [dv2 B hB, dv2 P hP4, show (8 : Int32) = nI 8 from rfl, pk_mul, show (4 : Int32) = nI 4 from rfl, pk_mul, nI_add, hy]
    congr 1
    omega
  obtain ⟨co1, gm1, e1, h1⟩ := q_leafM a1 a4 a5 a6 ld mco given mlv g gm left top sides modes skips ow ml lg hn hsd he hml hmq hz hs hb hm
  refine ⟨co1, gm1, ?_, h1⟩
  unfold fMO_readPicture_B174
  rw [eN, if_neg (show ¬ nI (1 + 3 * sp) ≤ nI P from nI_ge hP (by omega)), em, e_b1, ex, ey, e1, e_b14, e_lt, nI_1]
theorem q_part (a1 a4 a5 a6 lvs fx fy fs fm fk f l sm ps : Int32) {ld mld vals given : Nat → Int32} (co xpl xpd xlv xmo xsd g cf bt rs rf un mco left top sides modes skips ow mlv gm : Nat → Int32) {n b q e B P sp : Nat} {s : DS} (hn : n ≤ 240) (hld : sb ld n = sb mld n) (hvg : ∀ i, i < 10 → vals i = given i) (hq : vals 0 = nI q) (hq2 : q ≤ 51) (hB : B < 4) (hsp : sp = 0 ∨ sp = 1) (hP : P < 1 + 3 * sp) (he : e < 16) (hs : DOK b s) (hb : b + 4000 < 2 ^ 30) (hx : XR s co) (hm : MR s mco) (hI : LInv q e (cov B P) left top sides modes skips ow mlv xsd xmo xlv xpl xpd) : ∃ (s1 : DS) (fx1 fy1 fs1 fm1 fk1 f1 l1 sm1 ps1 : Int32) (co1 xpl1 xpd1 xlv1 xmo1 xsd1 g1 cf1 bt1 rs1 rf1 un1 mco1 left1 top1 sides1 modes1 skips1 ow1 mlv1 gm1 : Nat → Int32), fPI_readUnit_B94 (nI (8 * n)) ld vals lvs (nI (8 * (B % 2))) (nI (8 * (B / 2))) (nI sp) (nI (1 + 3 * sp)) (nI P) (nI (s.2.2.2.2.2 + 8)) s.2.2.2.1 s.2.2.2.2.1 fx fy fs fm fk f l sm ps s.1 co xpl xpd xlv xmo xsd g cf bt rs rf un = some (.inl (nI (P + 1), nI (s1.2.2.2.2.2 + 8), s1.2.2.2.1, s1.2.2.2.2.1, fx1, fy1, fs1, fm1, fk1, f1, l1, sm1, ps1, s1.1, co1, xpl1, xpd1, xlv1, xmo1, xsd1, g1, cf1, bt1, rs1, rf1, un1)) ∧ fMO_readPicture_B174 a1 (nI n) a4 a5 a6 mld given (nI B) (nI sp) (nI P) (nI s.2.2.2.2.2) s.2.2.2.1 s.2.2.2.2.1 (nI e) s.1 mco left top sides modes skips ow mlv gm = some (.inl (nI (P + 1), nI s1.2.2.2.2.2, s1.2.2.2.1, s1.2.2.2.2.1, nI (e + 1), s1.1, mco1, left1, top1, sides1, modes1, skips1, ow1, mlv1, gm1)) ∧ DOK (b + 2109) s1 ∧ XR s1 co1 ∧ MR s1 mco1 ∧ LInv q (e + 1) (cov B (if sp = 1 then P + 1 else 4)) left1 top1 sides1 modes1 skips1 ow1 mlv1 xsd1 xmo1 xlv1 xpl1 xpd1 ∧ (∀ p, p < 256 → cov B P p → xsd1 p = xsd p) ∧ ∀ p, p < 256 → ¬ cov B P p → cov B (if sp = 1 then P + 1 else 4) p → xsd1 p = nI (8 - 4 * sp) := by
  obtain ⟨m, lg, hsd⟩ : ∃ (m : Nat) (lg : Int32), (sp = 0 ∧ m = 8 ∧ lg = 1 ∧ P = 0) ∨ (sp = 1 ∧ m = 4 ∧ lg = 0) := by
    rcases hsp with h | h
    · exact ⟨8, 1, Or.inl ⟨h, rfl, rfl, by omega⟩⟩
    · exact ⟨4, 0, Or.inr ⟨h, rfl, rfl⟩⟩
  have hP4 : P < 4 := by
    rcases hsp with h1 | h1 <;> omega
  obtain ⟨x, hxx⟩ : ∃ x, x = 8 * (B % 2) + 4 * (P % 2) := ⟨_, rfl⟩
  obtain ⟨y, hyy⟩ : ∃ y, y = 8 * (B / 2) + 4 * (P / 2) := ⟨_, rfl⟩
  have hm48 : m = 4 ∨ m = 8 := by
    rcases hsd with ⟨_, h2, _⟩ | ⟨_, h2, _⟩
    · exact Or.inr h2
    · exact Or.inl h2
  have hx16 : x + m ≤ 16 := by
    rcases hsd with ⟨_, h2, _, h4⟩ | ⟨_, h2, _⟩ <;> omega
  have hy16 : y + m ≤ 16 := by
    rcases hsd with ⟨_, h2, _, h4⟩ | ⟨_, h2, _⟩ <;> omega
  have hreg : ∀ p, p < 256 → inR x y m p → ¬ cov B P p := by
    intro p hp hi
    rcases hsd with ⟨_, h2, _, h4⟩ | ⟨_, h2, _⟩
    · rw [h2] at hi
      have := (cov8 hB (by omega) (by omega) hp).mp hi
      unfold cov
      omega
    · rw [h2] at hi
      have := (cov4 hB hP4 hxx hyy hp).mp hi
      unfold cov
      omega
  have hcv : ∀ p, p < 256 → (cov B (if sp = 1 then P + 1 else 4) p ↔ cov B P p ∨ inR x y m p) := by
    intro p hp
    rcases hsd with ⟨h1, h2, _, h4⟩ | ⟨h1, h2, _⟩
    · rw [if_neg (by omega), h2, cov8 hB (by omega) (by omega) hp]
      have := pt_lt p
      unfold cov
      omega
    · rw [if_pos h1, h2, cov4 hB hP4 hxx hyy hp]
      unfold cov
      omega
  have hInR : ∀ p, inR x y m p → p < 256 := by
    intro p hp
    unfold inR at hp
    omega
  obtain ⟨ml, hmX, hmM, hmq⟩ : ∃ ml : Int32, ((x = 0 ∧ ml = 1) ∨ (0 < x ∧ xmo (16 * y + x - 1) = ml)) ∧ ((x = 0 ∧ ml = 1) ∨ (0 < x ∧ ∃ o, o < 16 ∧ ow (16 * y + x - 1) = nI o ∧ modes o = ml)) ∧ ∃ k, ml = nI k ∧ k ≤ 7 := by
    by_cases h0 : x = 0
    · exact ⟨1, Or.inl ⟨h0, rfl⟩, Or.inl ⟨h0, rfl⟩, 1, rfl, by omega⟩
    · obtain ⟨c1, c2⟩ := cov_left hB hP4 hxx hyy (by omega)
      rcases hI.2.2 _ c2 with ⟨_, o, ho, w1, w2, w3, _⟩ | ⟨c, _⟩
      · obtain ⟨_, _, _, md, _, _, _, w4, w5, _⟩ := hI.2.1 o ho
        exact ⟨modes o, Or.inr ⟨by omega, w3⟩, Or.inr ⟨by omega, o, by omega, w1, rfl⟩, md, w4, w5⟩
      · exact absurd c1 c
  have hz : ∀ p, inR x y m p → mlv p = 0 := by
    intro p hp
    rcases hI.2.2 p (hInR p hp) with ⟨c, _⟩ | ⟨_, _, _, c⟩
    · exact absurd c (hreg p (hInR p hp) hp)
    · exact c
  have hv : ∀ p, p < 256 → ¬ xsd p = 0 → ¬ xpl p = -1 := by
    intro p hp hc
    rcases hI.2.2 p hp with ⟨_, o, _, _, _, _, _, v, w, hv⟩ | ⟨_, _, c, _⟩
    · rw [w]
      intro c
      have := nI_pos' (n := v) (by omega)
      rw [c] at this
      exact absurd this (by decide)
    · exact absurd c hc
  obtain ⟨_, ⟨md, hmd, hmd7⟩, _, _⟩ := s_md_ok ld n (ml := ml) hs hmq
  have hmdM : (s_md mld n ml s).1 = nI md := by rw [← c_md hld]; exact hmd
  obtain ⟨f1, l1, sm1, co1, g1, cf1, bt1, rs1, rf1, un1, eX, hx1, hs1⟩ := q_partX ld vals lvs fx fy fs fm fk f l sm ps co xpl xpd xlv xmo xsd g cf bt rs rf un (N := 1 + 3 * sp) hn hB hP (by omega) hsd hxx hyy hmX hmq hs hb hx hq hq2 hv hmd hmd7
  obtain ⟨mco1, gm1, eM, hm1⟩ := q_partM a1 a4 a5 a6 mld given mco left top sides modes skips ow mlv g gm hn hB hP hsd hxx hyy he hmM hmq hz hs hb hm
  obtain ⟨k1, k2, k3, k4⟩ := lf_lv ld n (vals 1) (vals 2) lg (s_md ld n ml s).2 g xlv mlv (x := x) (y := y) (m := m) (by
    rcases hsd with ⟨_, h2, h3, _⟩ | ⟨_, h2, h3⟩
    · exact Or.inl ⟨h2, h3⟩
    · exact Or.inr ⟨h2, h3⟩)
  obtain ⟨_, _, _, k5⟩ := lf_lv ld n (vals 1) (vals 2) lg (s_md ld n ml s).2 g mlv xlv (x := x) (y := y) (m := m) (by
    rcases hsd with ⟨_, h2, h3, _⟩ | ⟨_, h2, h3⟩
    · exact Or.inl ⟨h2, h3⟩
    · exact Or.inr ⟨h2, h3⟩)
  rw [← c_lf hld, ← c_md hld, ← hvg 1 (by omega), ← hvg 2 (by omega), hmd] at eM
  rw [← c_lf hld, ← c_md hld, ← hvg 1 (by omega), ← hvg 2 (by omega)] at hm1
  revert eX eM hx1 hm1 hs1 k1 k2 k3 k4 k5
  generalize s_lf ld n (vals 1) (vals 2) lg x y (s_md ld n ml s).2 g xlv = A
  generalize s_lf ld n (vals 1) (vals 2) lg x y (s_md ld n ml s).2 g mlv = A2
  intro eX hx1 hs1 eM hm1 k1 k2 k3 k4 k5
  rw [← k1, ← k2] at eM
  rw [← k2] at hm1
  have hI1 := LInv_leaf (cv1 := cov B (if sp = 1 then P + 1 else 4)) (mlv1 := A2.2.2.2) (xlv1 := A.2.2.2) hI he A.1 hm48 hmd7 hx16 hy16 hreg hcv k3 (fun p hp => ⟨k5 p hp, k4 p hp⟩)
  refine ⟨A.2.1, nI x, nI y, nI m, nI md, A.1, f1, l1, sm1, nI m, co1, _, _, _, _, _, g1, cf1, bt1, rs1, rf1, un1, mco1, _, _, _, _, _, _, _, gm1, eX, eM, hs1, hx1, hm1, hI1, ?_, ?_⟩
  · intro p hp hc
    exact dp_out hx16 (fun hi => hreg p hp hi hc)
  · intro p hp hc hc1
    rcases (hcv p hp).mp hc1 with c | c
    · exact absurd c hc
    · rw [dp_in hx16 c]
      congr 1
      rcases hsd with ⟨h1, h2, _⟩ | ⟨h1, h2, _⟩ <;> omega
