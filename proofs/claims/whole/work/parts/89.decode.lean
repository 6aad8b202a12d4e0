/-! decode, both sides -/
theorem q_decl (f four wave scale : Nat → Int32) {c : Nat} (hc : c ≤ 240) (ht : TabOK four wave scale) : ∀ (k i fuel : Nat) (xs xf xl xp xe xt xq r v b1 b2 b3 b4 b5 xn c1 c2 c3 ps ml ma mf mg mp mr mv mn : Int32) (ck va cm ch co sa pl pd lv mo sd gr cf bt rs rf un be md gv mw mch mco mle mto msi mmo msk mow mlv mgr mgs mfs mla mol mrw mra : Nat → Int32), i + k = cn f c 0 → k < fuel → DRel xs xf xt xn va ch co sa pl pd lv mo sd mf mg mp mn gv mch mco msi mmo mow mlv mgs mfs mla → ∃ (xs1 xf1 xl1 xp1 xe1 xt1 xq1 r1 v1 b11 b21 b31 b41 b51 xn1 c11 c21 c31 ps1 ml1 ma1 mf1 mg1 mp1 mr1 mv1 mn1 xi1 mi1 : Int32) (ck1 va1 cm1 ch1 co1 sa1 pl1 pd1 lv1 mo1 sd1 gr1 cf1 bt1 rs1 rf1 un1 be1 md1 gv1 mw1 mch1 mco1 mle1 mto1 msi1 mmo1 msk1 mow1 mlv1 mgr1 mgs1 mfs1 mla1 mol1 mrw1 mra1 : Nat → Int32), ip_lp38 (fIP_decode_B28 (nI c) f (nI (cn f c 0))) fuel xs xf (nI i) xl xp xe xt xq r v b1 b2 b3 b4 b5 xn c1 c2 c3 ps ck va cm ch co sa pl pd lv mo sd gr cf bt rs rf un be = some (xs1, xf1, xi1, xl1, xp1, xe1, xt1, xq1, r1, v1, b11, b21, b31, b41, b51, xn1, c11, c21, c31, ps1, ck1, va1, cm1, ch1, co1, sa1, pl1, pd1, lv1, mo1, sd1, gr1, cf1, bt1, rs1, rf1, un1, be1) ∧ ip_lp28 (fMO_decode_B22 (nI c) f four wave scale (nI (cn f c 0))) fuel (nI i) ml ma mf mg mp mr mv mn md gv mw mch mco mle mto msi mmo msk mow mlv mgr mgs mfs mla mol mrw mra = some (mi1, ml1, ma1, mf1, mg1, mp1, mr1, mv1, mn1, md1, gv1, mw1, mch1, mco1, mle1, mto1, msi1, mmo1, msk1, mow1, mlv1, mgr1, mgs1, mfs1, mla1, mol1, mrw1, mra1) ∧ DRel xs1 xf1 xt1 xn1 va1 ch1 co1 sa1 pl1 pd1 lv1 mo1 sd1 mf1 mg1 mp1 mn1 gv1 mch1 mco1 msi1 mmo1 mow1 mlv1 mgs1 mfs1 mla1 := by
  intro k
  induction k with
  | zero =>
    intro i fuel xs xf xl xp xe xt xq r v b1 b2 b3 b4 b5 xn c1 c2 c3 ps ml ma mf mg mp mr mv mn ck va cm ch co sa pl pd lv mo sd gr cf bt rs rf un be md gv mw mch mco mle mto msi mmo msk mow mlv mgr mgs mfs mla mol mrw mra hi hfu h
    obtain ⟨f0, rfl⟩ : ∃ f, fuel = f + 1 := ⟨fuel - 1, by omega⟩
    have e : i = cn f c 0 := by omega
    subst e
    refine ⟨xs, xf, xl, xp, xe, xt, xq, r, v, b1, b2, b3, b4, b5, xn, c1, c2, c3, ps, ml, ma, mf, mg, mp, mr, mv, mn, nI (cn f c 0), nI (cn f c 0), ck, va, cm, ch, co, sa, pl, pd, lv, mo, sd, gr, cf, bt, rs, rf, un, be, md, gv, mw, mch, mco, mle, mto, msi, mmo, msk, mow, mlv, mgr, mgs, mfs, mla, mol, mrw, mra, l_ex38 ?_, l_ex28 ?_, h⟩
    · unfold fIP_decode_B28
      rw [if_pos (Int32.le_refl _)]
    · unfold fMO_decode_B22
      rw [if_pos (Int32.le_refl _)]
  | succ k ih =>
    intro i fuel xs xf xl xp xe xt xq r v b1 b2 b3 b4 b5 xn c1 c2 c3 ps ml ma mf mg mp mr mv mn ck va cm ch co sa pl pd lv mo sd gr cf bt rs rf un be md gv mw mch mco mle mto msi mmo msk mow mlv mgr mgs mfs mla mol mrw mra hi hfu h
    obtain ⟨f0, rfl⟩ : ∃ f, fuel = f + 1 := ⟨fuel - 1, by omega⟩
    by_cases h0 : xf = 0
    · obtain ⟨xs2, xf2, xl2, xp2, xe2, xt2, xq2, r2, v2, b12, b22, b32, b42, b52, xn2, c12, c22, c32, ps2, ml2, ma2, mf2, mg2, mp2, mr2, mv2, mn2, ck2, va2, cm2, ch2, co2, sa2, pl2, pd2, lv2, mo2, sd2, gr2, cf2, bt2, rs2, rf2, un2, be2, md2, gv2, mw2, mch2, mco2, mle2, mto2, msi2, mmo2, msk2, mow2, mlv2, mgr2, mgs2, mfs2, mla2, mol2, mrw2, mra2, e1, e2, h2⟩ := q_ustep f four wave scale xs xf xl xp xe xt xq r v b1 b2 b3 b4 b5 xn c1 c2 c3 ps ml ma mf mg mp mr mv mn ck va cm ch co sa pl pd lv mo sd gr cf bt rs rf un be md gv mw mch mco mle mto msi mmo msk mow mlv mgr mgs mfs mla mol mrw mra hc (show i < cn f c 0 by omega) ht h0 h
      obtain ⟨xs3, xf3, xl3, xp3, xe3, xt3, xq3, r3, v3, b13, b23, b33, b43, b53, xn3, c13, c23, c33, ps3, ml3, ma3, mf3, mg3, mp3, mr3, mv3, mn3, xi3, mi3, ck3, va3, cm3, ch3, co3, sa3, pl3, pd3, lv3, mo3, sd3, gr3, cf3, bt3, rs3, rf3, un3, be3, md3, gv3, mw3, mch3, mco3, mle3, mto3, msi3, mmo3, msk3, mow3, mlv3, mgr3, mgs3, mfs3, mla3, mol3, mrw3, mra3, e3, e4, h3⟩ := ih (i + 1) f0 xs2 xf2 xl2 xp2 xe2 xt2 xq2 r2 v2 b12 b22 b32 b42 b52 xn2 c12 c22 c32 ps2 ml2 ma2 mf2 mg2 mp2 mr2 mv2 mn2 ck2 va2 cm2 ch2 co2 sa2 pl2 pd2 lv2 mo2 sd2 gr2 cf2 bt2 rs2 rf2 un2 be2 md2 gv2 mw2 mch2 mco2 mle2 mto2 msi2 mmo2 msk2 mow2 mlv2 mgr2 mgs2 mfs2 mla2 mol2 mrw2 mra2 (by omega) (by omega) h2
      exact ⟨xs3, xf3, xl3, xp3, xe3, xt3, xq3, r3, v3, b13, b23, b33, b43, b53, xn3, c13, c23, c33, ps3, ml3, ma3, mf3, mg3, mp3, mr3, mv3, mn3, xi3, mi3, ck3, va3, cm3, ch3, co3, sa3, pl3, pd3, lv3, mo3, sd3, gr3, cf3, bt3, rs3, rf3, un3, be3, md3, gv3, mw3, mch3, mco3, mle3, mto3, msi3, mmo3, msk3, mow3, mlv3, mgr3, mgs3, mfs3, mla3, mol3, mrw3, mra3, (l_in38 e1).trans e3, (l_in28 e2).trans e4, h3⟩
    · have n0 : ¬ nI (cn f c 0) ≤ nI i := nI_ge (by omega) (by have := cn_le (f := f) (c := c) c 0 (by omega); omega)
      refine ⟨xs, xf, xl, xp, xe, xt, xq, r, v, b1, b2, b3, b4, b5, xn, c1, c2, c3, ps, ml, ma, mf, mg, mp, mr, mv, mn, nI i, nI i, ck, va, cm, ch, co, sa, pl, pd, lv, mo, sd, gr, cf, bt, rs, rf, un, be, md, gv, mw, mch, mco, mle, mto, msi, mmo, msk, mow, mlv, mgr, mgs, mfs, mla, mol, mrw, mra, l_ex38 ?_, l_ex28 ?_, h⟩
      · unfold fIP_decode_B28
        rw [if_neg n0, if_neg h0]
      · unfold fMO_decode_B22
        rw [if_neg n0, if_neg (show ¬ mf = 0 from fun q => h0 (h.1.trans q))]
theorem q_decode (f four wave scale : Nat → Int32) {c : Nat} (xs xl xp xe xt xq r v b1 b2 b3 b4 b5 xn c1 c2 c3 ps ml ma mf mg mp mr mv mn : Int32) (ck va cm ch co sa pl pd lv mo sd gr cf bt rs rf un be md gv mw mch mco mle mto msi mmo msk mow mlv mgr mgs mfs mla mol mrw mra : Nat → Int32) (hc : c ≤ 240) (ht : TabOK four wave scale) (h14 : ∀ j, 14 ≤ j → ch j = mch j) : ∃ (a xs1 xl1 xp1 xe1 xt1 xq1 r1 v1 b11 b21 b31 b41 b51 xn1 c11 c21 c31 ps1 ml1 ma1 mf1 mg1 mp1 mr1 mv1 mn1 : Int32) (ck1 va1 cm1 ch1 co1 sa1 pl1 pd1 lv1 mo1 sd1 gr1 cf1 bt1 rs1 rf1 un1 be1 md1 gv1 mw1 mch1 mco1 mle1 mto1 msi1 mmo1 msk1 mow1 mlv1 mgr1 mgs1 mfs1 mla1 mol1 mrw1 mra1 : Nat → Int32), fIP_decode xs (nI c) xl xp xe xt xq r v b1 b2 b3 b4 b5 xn c1 c2 c3 ps f ck va cm ch co sa pl pd lv mo sd gr cf bt rs rf un be = some (a, xs1, xl1, xp1, xe1, xt1, xq1, r1, v1, b11, b21, b31, b41, b51, xn1, c11, c21, c31, ps1, ck1, va1, cm1, ch1, co1, sa1, pl1, pd1, lv1, mo1, sd1, gr1, cf1, bt1, rs1, rf1, un1, be1) ∧ fMO_decode (nI c) ml ma mf mg mp mr mv mn f md gv mw mch mco mle mto msi mmo msk mow mlv mgr mgs mfs mla mol mrw mra four wave scale = some (a, ml1, ma1, mf1, mg1, mp1, mr1, mv1, mn1, md1, gv1, mw1, mch1, mco1, mle1, mto1, msi1, mmo1, msk1, mow1, mlv1, mgr1, mgs1, mfs1, mla1, mol1, mrw1, mra1) ∧ ARel xs1 xt1 xn1 va1 ch1 co1 sa1 pl1 pd1 lv1 mo1 sd1 mg1 mp1 mn1 gv1 mch1 mco1 msi1 mmo1 mow1 mlv1 mgs1 mfs1 mla1 := by
  have hcn := cn_le (f := f) (c := c) c 0 (by omega)
  obtain ⟨xs2, xf2, xl2, xp2, xe2, xt2, xq2, r2, v2, b12, b22, b32, b42, b52, xn2, c12, c22, c32, ps2, ml2, ma2, mf2, mg2, mp2, mr2, mv2, mn2, xi2, mi2, ck2, va2, cm2, ch2, co2, sa2, pl2, pd2, lv2, mo2, sd2, gr2, cf2, bt2, rs2, rf2, un2, be2, md2, gv2, mw2, mch2, mco2, mle2, mto2, msi2, mmo2, msk2, mow2, mlv2, mgr2, mgs2, mfs2, mla2, mol2, mrw2, mra2, e1, e2, r1, r9, r2, r3, r4, r5, r6, r7, r8⟩ := q_decl f four wave scale hc ht (cn f c 0) 0 1000 0 0 xl xp xe 0 xq r v b1 b2 b3 b4 b5 xn c1 c2 c3 ps ml ma 0 0 0 mr mv mn ck va cm ch co sa pl pd lv mo sd gr cf bt rs rf un be md gv mw mch mco mle mto msi mmo msk mow mlv mgr mgs mfs mla mol mrw mra (by omega) (by omega) ⟨rfl, Or.inl rfl, rfl, Or.inl rfl, fun q => absurd q (by decide), rfl, Or.inl rfl, h14, fun q => absurd q (by decide)⟩
  rw [nI_0] at e1 e2
  unfold fIP_decode fMO_decode
  rw [q_unitsX xl f hc, e_b1, e1, e_b38, q_unitsM ml ma 0 0 0 mr mv mn f hc, e_b1, e2, e_b28]
  subst r1 r2 r5
  by_cases z : xf2 = 0
  · subst z
    by_cases y : xs2 = 0
    · rw [if_pos rfl, e_zk r6, if_pos y, if_pos y, e_b1, e_zk (Or.inl rfl), if_pos (by decide), if_pos rfl]
      exact ⟨-1, xs2, xl2, xp2, xe2, xt2, xq2, r2, v2, b12, b22, b32, b42, b52, xn2, c12, c22, c32, ps2, ml2, ma2, 0, xt2, 0, mr2, mv2, mn2, ck2, va2, cm2, ch2, co2, sa2, pl2, pd2, lv2, mo2, sd2, gr2, cf2, bt2, rs2, rf2, un2, be2, md2, gv2, mw2, mch2, mco2, mle2, mto2, msi2, mmo2, msk2, mow2, mlv2, mgr2, mgs2, mfs2, mla2, mol2, mrw2, mra2, rfl, rfl, rfl, r3, r4, y, Or.inl rfl, r7, fun q => absurd q (by decide)⟩
    · have y1 : xs2 = 1 := r6.resolve_left y
      rw [if_pos rfl, e_zk r6, if_neg y, if_neg y, if_pos rfl, e_b1, e_zk (Or.inr rfl), if_pos (by decide), if_neg (by decide)]
      obtain ⟨u1, u2⟩ := r8 y1
      exact ⟨xn2, xs2, xl2, xp2, xe2, xt2, xq2, r2, v2, b12, b22, b32, b42, b52, xn2, c12, c22, c32, ps2, ml2, ma2, 0, xt2, 1, mr2, mv2, mn2, ck2, va2, cm2, ch2, co2, sa2, pl2, pd2, lv2, mo2, sd2, gr2, cf2, bt2, rs2, rf2, un2, be2, md2, gv2, mw2, mch2, mco2, mle2, mto2, msi2, mmo2, msk2, mow2, mlv2, mgr2, mgs2, mfs2, mla2, mol2, mrw2, mra2, rfl, by rw [u1], rfl, r3, r4, y1, Or.inr rfl, r7, fun _ => ⟨u1, u2⟩⟩
  · have zn : ¬ (0 : Int32) ≤ xf2 := fun q => by
      rcases r9 with w | w
      · exact z w
      · exact absurd (Int32.lt_of_lt_of_le w q) (fun h => by rw [Int32.lt_iff_toInt_lt] at h; omega)
    rw [if_neg z, show (if xs2 = 0 then some (0 : Int32) else if xf2 = 0 then some 1 else some 0) = some 0 by rw [if_neg z]; split <;> rfl, e_b1, e_zk (Or.inl rfl), if_neg zn]
    exact ⟨xf2, 0, xl2, xp2, xe2, xt2, xq2, r2, v2, b12, b22, b32, b42, b52, xn2, c12, c22, c32, ps2, ml2, ma2, xf2, xt2, 0, mr2, mv2, mn2, ck2, va2, cm2, ch2, co2, sa2, pl2, pd2, lv2, mo2, sd2, gr2, cf2, bt2, rs2, rf2, un2, be2, md2, gv2, mw2, mch2, mco2, mle2, mto2, msi2, mmo2, msk2, mow2, mlv2, mgr2, mgs2, mfs2, mla2, mol2, mrw2, mra2, rfl, rfl, rfl, r3, r4, rfl, Or.inl rfl, r7, fun q => absurd q (by decide)⟩
