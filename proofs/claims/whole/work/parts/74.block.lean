/-! the leaves of one block, both sides -/
def pc (sp P : Nat) : Nat := if sp = 1 then P else if P = 0 then 0 else 4
theorem pc_at {sp P : Nat} (h : sp = 0 ∨ sp = 1) (hP : P < 1 + 3 * sp) : pc sp P = P := by
  unfold pc
  rcases h with h | h
  · rw [if_neg (by omega), if_pos (by omega)]
    omega
  · rw [if_pos h]
theorem pc_next {sp P : Nat} (h : sp = 0 ∨ sp = 1) : pc sp (P + 1) = if sp = 1 then P + 1 else 4 := by
  unfold pc
  rcases h with h | h
  · rw [if_neg (by omega), if_neg (by omega), if_neg (by omega)]
  · rw [if_pos h, if_pos h]
theorem pc_end {sp : Nat} (h : sp = 0 ∨ sp = 1) : pc sp (1 + 3 * sp) = 4 := by
  rcases h with h | h <;> subst h <;> rfl
theorem cov_mono {B P P2 p : Nat} (h : P ≤ P2) (hc : cov B P p) : cov B P2 p := by
  unfold cov at *
  omega
theorem q_parts (a1 a4 a5 a6 lvs : Int32) {ld mld vals given : Nat → Int32} {n q B sp : Nat} (hn : n ≤ 240) (hld : sb ld n = sb mld n) (hvg : ∀ i, i < 10 → vals i = given i) (hq : vals 0 = nI q) (hq2 : q ≤ 51) (hB : B < 4) (hsp : sp = 0 ∨ sp = 1) : ∀ (k P e b fuel : Nat) (s : DS) (fx fy fs fm fk f l sm ps : Int32) (co xpl xpd xlv xmo xsd g cf bt rs rf un mco left top sides modes skips ow mlv gm : Nat → Int32), P + k = 1 + 3 * sp → k < fuel → e + k ≤ 16 → DOK b s → b + 2109 * k + 4000 < 2 ^ 30 → XR s co → MR s mco → LInv q e (cov B (pc sp P)) left top sides modes skips ow mlv xsd xmo xlv xpl xpd → ∃ (s1 : DS) (fx1 fy1 fs1 fm1 fk1 f1 l1 sm1 ps1 : Int32) (co1 xpl1 xpd1 xlv1 xmo1 xsd1 g1 cf1 bt1 rs1 rf1 un1 mco1 left1 top1 sides1 modes1 skips1 ow1 mlv1 gm1 : Nat → Int32), ip_lp26 (fPI_readUnit_B94 (nI (8 * n)) ld vals lvs (nI (8 * (B % 2))) (nI (8 * (B / 2))) (nI sp) (nI (1 + 3 * sp))) fuel (nI P) (nI (s.2.2.2.2.2 + 8)) s.2.2.2.1 s.2.2.2.2.1 fx fy fs fm fk f l sm ps s.1 co xpl xpd xlv xmo xsd g cf bt rs rf un = some (nI (1 + 3 * sp), nI (s1.2.2.2.2.2 + 8), s1.2.2.2.1, s1.2.2.2.2.1, fx1, fy1, fs1, fm1, fk1, f1, l1, sm1, ps1, s1.1, co1, xpl1, xpd1, xlv1, xmo1, xsd1, g1, cf1, bt1, rs1, rf1, un1) ∧ ip_lp15 (fMO_readPicture_B174 a1 (nI n) a4 a5 a6 mld given (nI B) (nI sp)) fuel (nI P) (nI s.2.2.2.2.2) s.2.2.2.1 s.2.2.2.2.1 (nI e) s.1 mco left top sides modes skips ow mlv gm = some (nI (1 + 3 * sp), nI s1.2.2.2.2.2, s1.2.2.2.1, s1.2.2.2.2.1, nI (e + k), s1.1, mco1, left1, top1, sides1, modes1, skips1, ow1, mlv1, gm1) ∧ DOK (b + 2109 * k) s1 ∧ XR s1 co1 ∧ MR s1 mco1 ∧ LInv q (e + k) (cov B 4) left1 top1 sides1 modes1 skips1 ow1 mlv1 xsd1 xmo1 xlv1 xpl1 xpd1 ∧ (∀ p, p < 256 → cov B (pc sp P) p → xsd1 p = xsd p) ∧ ∀ p, p < 256 → ¬ cov B (pc sp P) p → cov B 4 p → xsd1 p = nI (8 - 4 * sp) := by
  have hs4 : sp ≤ 1 := by omega
  intro k
  induction k with
  | zero =>
    intro P e b fuel s fx fy fs fm fk f l sm ps co xpl xpd xlv xmo xsd g cf bt rs rf un mco left top sides modes skips ow mlv gm hP hf he hs hb hx hm hI
    obtain ⟨f0, rfl⟩ : ∃ f, fuel = f + 1 := ⟨fuel - 1, by omega⟩
    have hP0 : P = 1 + 3 * sp := by omega
    subst hP0
    rw [pc_end hsp] at *
    refine ⟨s, fx, fy, fs, fm, fk, f, l, sm, ps, co, xpl, xpd, xlv, xmo, xsd, g, cf, bt, rs, rf, un, mco, left, top, sides, modes, skips, ow, mlv, gm, ?_, ?_, hs, hx, hm, hI, fun _ _ _ => rfl, fun p _ c1 c2 => absurd c2 c1⟩
    · refine l_ex26 ?_
      unfold fPI_readUnit_B94
      rw [if_pos (Int32.le_refl _)]
    · refine l_ex15 ?_
      unfold fMO_readPicture_B174
      rw [if_pos (show (1 : Int32) + ((3 : Int32) * nI sp) ≤ nI (1 + 3 * sp) by
        rw [show (3 : Int32) = nI 3 from rfl, pk_mul, show (1 : Int32) = nI 1 from rfl, nI_add]
        exact Int32.le_refl _)]
      rfl
  | succ k ih =>
    intro P e b fuel s fx fy fs fm fk f l sm ps co xpl xpd xlv xmo xsd g cf bt rs rf un mco left top sides modes skips ow mlv gm hP hf he hs hb hx hm hI
    obtain ⟨f0, rfl⟩ : ∃ f, fuel = f + 1 := ⟨fuel - 1, by omega⟩
    have hPl : P < 1 + 3 * sp := by omega
    rw [pc_at hsp hPl] at *
    obtain ⟨s1, fx1, fy1, fs1, fm1, fk1, f1, l1, sm1, ps1, co1, xpl1, xpd1, xlv1, xmo1, xsd1, g1, cf1, bt1, rs1, rf1, un1, mco1, left1, top1, sides1, modes1, skips1, ow1, mlv1, gm1, eX, eM, hs1, hx1, hm1, hI1, w1, w2⟩ := q_part a1 a4 a5 a6 lvs fx fy fs fm fk f l sm ps co xpl xpd xlv xmo xsd g cf bt rs rf un mco left top sides modes skips ow mlv gm hn hld hvg hq hq2 hB hsp hPl (by omega) hs (by omega) hx hm hI
    rw [← pc_next hsp] at hI1 w2
    obtain ⟨s2, fx2, fy2, fs2, fm2, fk2, f2, l2, sm2, ps2, co2, xpl2, xpd2, xlv2, xmo2, xsd2, g2, cf2, bt2, rs2, rf2, un2, mco2, left2, top2, sides2, modes2, skips2, ow2, mlv2, gm2, eX2, eM2, hs2, hx2, hm2, hI2, w3, w4⟩ := ih (P + 1) (e + 1) (b + 2109) f0 s1 fx1 fy1 fs1 fm1 fk1 f1 l1 sm1 ps1 co1 xpl1 xpd1 xlv1 xmo1 xsd1 g1 cf1 bt1 rs1 rf1 un1 mco1 left1 top1 sides1 modes1 skips1 ow1 mlv1 gm1 (by omega) (by omega) (by omega) hs1 (by omega) hx1 hm1 hI1
    have hmono : ∀ p, cov B P p → cov B (pc sp (P + 1)) p := by
      intro p hc
      refine cov_mono ?_ hc
      rw [pc_next hsp]
      split <;> omega
    refine ⟨s2, fx2, fy2, fs2, fm2, fk2, f2, l2, sm2, ps2, co2, xpl2, xpd2, xlv2, xmo2, xsd2, g2, cf2, bt2, rs2, rf2, un2, mco2, left2, top2, sides2, modes2, skips2, ow2, mlv2, gm2, (l_in26 eX).trans eX2, ?_, hs2.mono (by omega), hx2, hm2, ?_, ?_, ?_⟩
    · rw [show e + (k + 1) = e + 1 + k by omega]
      exact (l_in15 eM).trans eM2
    · rw [show e + (k + 1) = e + 1 + k by omega]
      exact hI2
    · intro p hp hc
      exact (w3 p hp (hmono p hc)).trans (w1 p hp hc)
    · intro p hp hc hc4
      by_cases c : cov B (pc sp (P + 1)) p
      · exact (w3 p hp c).trans (w2 p hp hc c)
      · exact w4 p hp c hc4
