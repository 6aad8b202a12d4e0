/-! the picture unit read, both sides -/
def s_v0 (ld : Nat → Int32) (n : Nat) : Int32 := s_it (fun t v => 2 * v + sb ld n t) 8 0 0
theorem q_begX (ld : Nat → Int32) {n : Nat} (hn : n ≤ 240) : ∀ (k i fuel : Nat) (v : Int32), i + k = 8 → k < fuel → ip_lp3 (fBD_begin_B32 (nI (8 * n)) ld) fuel (nI i) (nI (i + 8)) v = some (nI 8, nI 16, s_it (fun t v => 2 * v + sb ld n t) k i v) := by
  intro k
  induction k with
  | zero =>
    intro i fuel v hi hf
    obtain ⟨f, rfl⟩ : ∃ f, fuel = f + 1 := ⟨fuel - 1, by omega⟩
    have e : i = 8 := by omega
    subst e
    refine l_ex3 ?_
    unfold fBD_begin_B32
    rw [if_pos (show (8 : Int32) ≤ nI 8 by decide)]
    rfl
  | succ k ih =>
    intro i fuel v hi hf
    obtain ⟨f, rfl⟩ : ∃ f, fuel = f + 1 := ⟨fuel - 1, by omega⟩
    refine (l_in3 (b1 := nI (i + 1)) (b2 := nI (i + 1 + 8)) (b3 := 2 * v + sb ld n i) ?_).trans (ih (i + 1) f _ (by omega) (by omega))
    unfold fBD_begin_B32
    rw [if_neg (show ¬ (8 : Int32) ≤ nI i from nI_ge (b := 8) (by omega) (by omega)), q_next ld hn (by omega), e_b2, e_lt, e_lt, nI_1, show i + 9 = i + 1 + 8 by omega]
theorem q_begM (a1 a4 a5 a6 : Int32) (ld : Nat → Int32) {n : Nat} (hn : n ≤ 240) : ∀ (k i fuel : Nat) (v : Int32) (co : Nat → Int32), i + k = 8 → k < fuel → co 2 = nI i → ∃ co1 : Nat → Int32, ip_lp4 (fMO_readPicture_B67 a1 (nI n) a4 a5 a6 ld) fuel (nI i) (nI i) v co = some (nI 8, nI 8, s_it (fun t v => 2 * v + sb ld n t) k i v, co1) ∧ co1 0 = co 0 ∧ co1 1 = co 1 ∧ co1 2 = nI 8 := by
  intro k
  induction k with
  | zero =>
    intro i fuel v co hi hf hc
    obtain ⟨f, rfl⟩ : ∃ f, fuel = f + 1 := ⟨fuel - 1, by omega⟩
    have e : i = 8 := by omega
    subst e
    refine ⟨co, l_ex4 ?_, rfl, rfl, hc⟩
    unfold fMO_readPicture_B67
    rw [if_pos (show (8 : Int32) ≤ nI 8 by decide)]
    rfl
  | succ k ih =>
    intro i fuel v co hi hf hc
    obtain ⟨f, rfl⟩ : ∃ f, fuel = f + 1 := ⟨fuel - 1, by omega⟩
    obtain ⟨co1, e1, h0, h1, h2⟩ := ih (i + 1) f (2 * v + sb ld n i) (upd co 2 (co 2 + 1)) (by omega) (by omega) (by rw [u_0, hc, nI_1])
    refine ⟨co1, (l_in4 ?_).trans e1, ?_, ?_, h2⟩
    · unfold fMO_readPicture_B67
      rw [if_neg (show ¬ (8 : Int32) ≤ nI i from nI_ge (b := 8) (by omega) (by omega)), q_shift a1 a4 a5 a6 510 v 0 ld co hn (by omega), e_b3, e_lt, nI_1]
    · rw [h0, u_n (by omega)]
    · rw [h1, u_n (by omega)]
theorem q_blocks (a1 a4 a5 a6 : Int32) {ld mld vals given : Nat → Int32} {n q : Nat} (hn : n ≤ 240) (hld : sb ld n = sb mld n) (hvg : ∀ i, i < 10 → vals i = given i) (hq : vals 0 = nI q) (hq2 : q ≤ 51) : ∀ (k B e b fuel : Nat) (s : DS) (bt0 : Nat → Nat) (mask fx fy fs fm fk f l sm ps : Int32) (co xpl xpd xlv xmo xsd g cf bt rs rf un mco left top sides modes skips ow mlv gm : Nat → Int32), B + k = 4 → k < fuel → e ≤ 4 * B → DOK b s → b + 9000 * k + 20000 < 2 ^ 30 → XR s co → MR s mco → LInv q e (cov B 0) left top sides modes skips ow mlv xsd xmo xlv xpl xpd → SpI bt0 B mask xsd → ∃ (s1 : DS) (e1 : Nat) (mask1 fx1 fy1 fs1 fm1 fk1 f1 l1 sm1 ps1 : Int32) (co1 xpl1 xpd1 xlv1 xmo1 xsd1 g1 cf1 bt1 rs1 rf1 un1 mco1 left1 top1 sides1 modes1 skips1 ow1 mlv1 gm1 : Nat → Int32), ip_lp27 (fPI_readUnit_B25 (nI (8 * n)) ld vals) fuel (nI B) (nI (s.2.2.2.2.2 + 8)) s.2.2.2.1 s.2.2.2.2.1 fx fy fs fm fk (nI e) f l sm ps s.1 co xpl xpd xlv xmo xsd g cf bt rs rf un = some (nI 4, nI (s1.2.2.2.2.2 + 8), s1.2.2.2.1, s1.2.2.2.2.1, fx1, fy1, fs1, fm1, fk1, nI e1, f1, l1, sm1, ps1, s1.1, co1, xpl1, xpd1, xlv1, xmo1, xsd1, g1, cf1, bt1, rs1, rf1, un1) ∧ ip_lp16 (fMO_readPicture_B116 a1 (nI n) a4 a5 a6 mld given) fuel mask (nI B) (nI s.2.2.2.2.2) s.2.2.2.1 s.2.2.2.2.1 (nI e) s.1 mco left top sides modes skips ow mlv gm = some (mask1, nI 4, nI s1.2.2.2.2.2, s1.2.2.2.1, s1.2.2.2.2.1, nI e1, s1.1, mco1, left1, top1, sides1, modes1, skips1, ow1, mlv1, gm1) ∧ DOK (b + 9000 * k) s1 ∧ XR s1 co1 ∧ MR s1 mco1 ∧ LInv q e1 (cov 4 0) left1 top1 sides1 modes1 skips1 ow1 mlv1 xsd1 xmo1 xlv1 xpl1 xpd1 := by
  intro k
  induction k with
  | zero =>
    intro B e b fuel s bt0 mask fx fy fs fm fk f l sm ps co xpl xpd xlv xmo xsd g cf bt rs rf un mco left top sides modes skips ow mlv gm hB hf he hs hb hx hm hI hS
    obtain ⟨f0, rfl⟩ : ∃ f, fuel = f + 1 := ⟨fuel - 1, by omega⟩
    have eB : B = 4 := by omega
    subst eB
    refine ⟨s, e, mask, fx, fy, fs, fm, fk, f, l, sm, ps, co, xpl, xpd, xlv, xmo, xsd, g, cf, bt, rs, rf, un, mco, left, top, sides, modes, skips, ow, mlv, gm, ?_, ?_, hs, hx, hm, hI⟩
    · refine l_ex27 ?_
      unfold fPI_readUnit_B25
      rw [if_pos (show (4 : Int32) ≤ nI 4 by decide)]
    · refine l_ex16 ?_
      unfold fMO_readPicture_B116
      rw [if_pos (show (4 : Int32) ≤ nI 4 by decide)]
  | succ k ih =>
    intro B e b fuel s bt0 mask fx fy fs fm fk f l sm ps co xpl xpd xlv xmo xsd g cf bt rs rf un mco left top sides modes skips ow mlv gm hB hf he hs hb hx hm hI hS
    obtain ⟨f0, rfl⟩ : ∃ f, fuel = f + 1 := ⟨fuel - 1, by omega⟩
    obtain ⟨s1, e1, bt9, mask1, fx1, fy1, fs1, fm1, fk1, f1, l1, sm1, ps1, co1, xpl1, xpd1, xlv1, xmo1, xsd1, g1, cf1, bt1, rs1, rf1, un1, mco1, left1, top1, sides1, modes1, skips1, ow1, mlv1, gm1, eX, eM, hs1, hx1, hm1, he1, hI1, hS1⟩ := q_block a1 a4 a5 a6 fx fy fs fm fk f l sm ps co xpl xpd xlv xmo xsd g cf bt rs rf un mco left top sides modes skips ow mlv gm hn hld hvg hq hq2 (by omega) he hs (by omega) hx hm hI hS
    obtain ⟨s2, e2, mask2, fx2, fy2, fs2, fm2, fk2, f2, l2, sm2, ps2, co2, xpl2, xpd2, xlv2, xmo2, xsd2, g2, cf2, bt2, rs2, rf2, un2, mco2, left2, top2, sides2, modes2, skips2, ow2, mlv2, gm2, eX2, eM2, hs2, hx2, hm2, hI2⟩ := ih (B + 1) e1 (b + 9000) f0 s1 bt9 mask1 fx1 fy1 fs1 fm1 fk1 f1 l1 sm1 ps1 co1 xpl1 xpd1 xlv1 xmo1 xsd1 g1 cf1 bt1 rs1 rf1 un1 mco1 left1 top1 sides1 modes1 skips1 ow1 mlv1 gm1 (by omega) (by omega) he1 hs1 (by omega) hx1 hm1 hI1 hS1
    exact ⟨s2, e2, mask2, fx2, fy2, fs2, fm2, fk2, f2, l2, sm2, ps2, co2, xpl2, xpd2, xlv2, xmo2, xsd2, g2, cf2, bt2, rs2, rf2, un2, mco2, left2, top2, sides2, modes2, skips2, ow2, mlv2, gm2, (l_in27 eX).trans eX2, (l_in16 eM).trans eM2, hs2.mono (by omega), hx2, hm2, hI2⟩
theorem q_restA (a1 a2 a3 a4 a5 a6 a7 a8 : Int32) {given left top sides modes skips ow lv four wave scale xsd xmo xlv xpl xpd : Nat → Int32} (ht : TabOK four wave scale) {L q : Nat} (hg : given 0 = nI q) (hq : q ≤ 51) (hI : LInv q L (cov 4 0) left top sides modes skips ow lv xsd xmo xlv xpl xpd) : ∀ (k i fuel : Nat) (gs fs rw_ raw : Nat → Int32), i + k = L → k < fuel → (∀ p, p < 256 → ∀ o, o < i → ow p = nI o → fs p = xpl p ∧ gs p = xpd p) → ∃ gs1 fs1 rw1 raw1 : Nat → Int32, ip_lp5 (fMO_restore_B2 a1 a2 a3 a4 a5 a6 a7 a8 (nI L) given left top sides modes skips ow lv four wave scale) fuel (nI i) gs fs rw_ raw = some (nI L, gs1, fs1, rw1, raw1) ∧ ∀ p, p < 256 → ∀ o, o < L → ow p = nI o → fs1 p = xpl p ∧ gs1 p = xpd p := by
  intro k
  induction k with
  | zero =>
    intro i fuel gs fs rw_ raw hi hf h
    obtain ⟨f0, rfl⟩ : ∃ f, fuel = f + 1 := ⟨fuel - 1, by omega⟩
    have e : i = L := by omega
    subst e
    refine ⟨gs, fs, rw_, raw, l_ex5 ?_, h⟩
    unfold fMO_restore_B2
    rw [if_pos (Int32.le_refl _)]
  | succ k ih =>
    intro i fuel gs fs rw_ raw hi hf h
    obtain ⟨f0, rfl⟩ : ∃ f, fuel = f + 1 := ⟨fuel - 1, by omega⟩
    have h16 := hI.1
    obtain ⟨x, y, m, md, w1, w2, w3, w4, w5, w6, w7, w8, w9, w10⟩ := hI.2.1 i (by omega)
    obtain ⟨gs1, fs1, rw1, raw1, e1, v1, v2⟩ := q_restL a1 a2 a3 a4 a5 a6 a7 a8 (nI L) (skips := skips) (ow := ow) (lv := lv) gs fs rw_ raw ht (e := i) (L := L) (by omega) h16 rfl w1 w2 w3 w4 w5 hg hq w6 w7 w8
    have tht : ∀ p, p < 256 → mth ow i p = thb ow i p := by
      intro p hp
      rcases hI.2.2 p hp with ⟨_, o, ho, c, _⟩ | ⟨c, _⟩
      · unfold mth thb
        rw [c]
        by_cases d : nI i ≤ nI o
        · rw [decide_eq_false (fun q => q d), decide_eq_false (fun q => q.2 d)]
        · rw [decide_eq_true d, decide_eq_true ⟨nI_pos' (by omega), d⟩]
      · have := bk_lt hp
        exact absurd (show cov 4 0 p by unfold cov; omega) c
    have plt : ∀ p, p < 256 → mth ow i p = true → fs p = xpl p := by
      intro p hp hc
      rcases hI.2.2 p hp with ⟨_, o, ho, c, _⟩ | ⟨c, _⟩
      · by_cases d : o < i
        · exact (h p hp o d c).1
        · rw [tht p hp, thb_f c (by omega) (by omega)] at hc
          exact Bool.noConfusion hc
      · have := bk_lt hp
        exact absurd (show cov 4 0 p by unfold cov; omega) c
    obtain ⟨gs2, fs2, rw2, raw2, e2, v3⟩ := ih (i + 1) f0 gs1 fs1 rw1 raw1 (by omega) (by omega) (by
      intro p hp o ho c
      by_cases d : o = i
      · subst d
        have hr := (w9 p hp).mp c
        obtain ⟨r1, r2, r3⟩ := inR_ix hr
        obtain ⟨u1, u2⟩ := v1 _ _ r1 r2
        obtain ⟨u3, u4⟩ := w10 _ _ r1 r2
        rw [← r3] at u1 u2 u3 u4
        rw [u1, u2, u3, u4]
        refine ⟨?_, ?_⟩
        · exact b_val_cong tht plt (fun _ _ _ _ => rfl) r2 r1
        · rw [f_rw_cong tht plt]
      · have nr : ¬ inR x y m p := by
          intro hr
          have := (w9 p hp).mpr hr
          rw [c] at this
          exact d ((nI_eq (by omega) (by omega)).mp this)
        obtain ⟨u1, u2⟩ := v2 p (fun yy xx h1 h2 e => nr (by rw [e]; exact inR_of w7 h1 h2))
        rw [u1, u2]
        exact h p hp o (by omega) c)
    exact ⟨gs2, fs2, rw2, raw2, (l_in5 e1).trans e2, v3⟩
