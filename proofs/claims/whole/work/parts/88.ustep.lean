/-! decode's loop over the units, both sides -/
def GivOK (va gv : Nat → Int32) : Prop := (∀ i, i < 10 → va i = gv i) ∧ Q4 va
def PicOK (ch co sa pl pd lv mo sd mch mco msi mmo mow mlv mgs mfs mla : Nat → Int32) : Prop := Eq2 sa mla ∧ Eq2 pl mfs ∧ Eq2 pd mgs ∧ Eq2 lv mlv ∧ (∀ p, p < 256 → ∃ o, o < 16 ∧ mow p = nI o ∧ sd p = msi o ∧ mo p = mmo o) ∧ (∀ j, j < 14 → ch j = mch j) ∧ ∀ j, j < 3 → co j = mco j
def ARel (xs xt xn : Int32) (va ch co sa pl pd lv mo sd : Nat → Int32) (mg mp mn : Int32) (gv mch mco msi mmo mow mlv mgs mfs mla : Nat → Int32) : Prop := xt = mg ∧ (mg = 0 ∨ mg = 1) ∧ (mg = 1 → GivOK va gv) ∧ xs = mp ∧ (mp = 0 ∨ mp = 1) ∧ (∀ j, 14 ≤ j → ch j = mch j) ∧ (mp = 1 → xn = mn ∧ PicOK ch co sa pl pd lv mo sd mch mco msi mmo mow mlv mgs mfs mla)
def DRel (xs xf xt xn : Int32) (va ch co sa pl pd lv mo sd : Nat → Int32) (mf mg mp mn : Int32) (gv mch mco msi mmo mow mlv mgs mfs mla : Nat → Int32) : Prop := xf = mf ∧ NF mf ∧ ARel xs xt xn va ch co sa pl pd lv mo sd mg mp mn gv mch mco msi mmo mow mlv mgs mfs mla
theorem q_ustep (f four wave scale : Nat → Int32) {c i : Nat} (xs xf xl xp xe xt xq r v b1 b2 b3 b4 b5 xn c1 c2 c3 ps ml ma mf mg mp mr mv mn : Int32) (ck va cm ch co sa pl pd lv mo sd gr cf bt rs rf un be md gv mw mch mco mle mto msi mmo msk mow mlv mgr mgs mfs mla mol mrw mra : Nat → Int32) (hc : c ≤ 240) (hi : i < cn f c 0) (ht : TabOK four wave scale) (h0 : xf = 0) (h : DRel xs xf xt xn va ch co sa pl pd lv mo sd mf mg mp mn gv mch mco msi mmo mow mlv mgs mfs mla) : ∃ (xs1 xf1 xl1 xp1 xe1 xt1 xq1 r1 v1 b11 b21 b31 b41 b51 xn1 c11 c21 c31 ps1 ml1 ma1 mf1 mg1 mp1 mr1 mv1 mn1 : Int32) (ck1 va1 cm1 ch1 co1 sa1 pl1 pd1 lv1 mo1 sd1 gr1 cf1 bt1 rs1 rf1 un1 be1 md1 gv1 mw1 mch1 mco1 mle1 mto1 msi1 mmo1 msk1 mow1 mlv1 mgr1 mgs1 mfs1 mla1 mol1 mrw1 mra1 : Nat → Int32), fIP_decode_B28 (nI c) f (nI (cn f c 0)) xs xf (nI i) xl xp xe xt xq r v b1 b2 b3 b4 b5 xn c1 c2 c3 ps ck va cm ch co sa pl pd lv mo sd gr cf bt rs rf un be = some (.inl (xs1, xf1, nI (i + 1), xl1, xp1, xe1, xt1, xq1, r1, v1, b11, b21, b31, b41, b51, xn1, c11, c21, c31, ps1, ck1, va1, cm1, ch1, co1, sa1, pl1, pd1, lv1, mo1, sd1, gr1, cf1, bt1, rs1, rf1, un1, be1)) ∧ fMO_decode_B22 (nI c) f four wave scale (nI (cn f c 0)) (nI i) ml ma mf mg mp mr mv mn md gv mw mch mco mle mto msi mmo msk mow mlv mgr mgs mfs mla mol mrw mra = some (.inl (nI (i + 1), ml1, ma1, mf1, mg1, mp1, mr1, mv1, mn1, md1, gv1, mw1, mch1, mco1, mle1, mto1, msi1, mmo1, msk1, mow1, mlv1, mgr1, mgs1, mfs1, mla1, mol1, mrw1, mra1)) ∧ DRel xs1 xf1 xt1 xn1 va1 ch1 co1 sa1 pl1 pd1 lv1 mo1 sd1 mf1 mg1 mp1 mn1 gv1 mch1 mco1 msi1 mmo1 mow1 mlv1 mgs1 mfs1 mla1 := by
  have hcn := cn_le (f := f) (c := c) c 0 (by omega)
  obtain ⟨r1, r9, r2, r3, r4, r5, r6, r7, r8⟩ := h
  subst h0
  subst r1
  have n0 : ¬ nI (cn f c 0) ≤ nI i := nI_ge hi (by omega)
  obtain ⟨_, n, ck1, md1, hn, eX, eM, ha⟩ := (q_open xl ml ma 0 mg mp mr mv mn f ck md hc (nI i)).resolve_right (fun q => q.1 ⟨i, hi, rfl⟩)
  have eR : fRB_rewind xp xe (nI n) = some (8, nI (8 * n)) := by
    unfold fRB_rewind
    rw [e_lt, show (8 : Int32) * nI n = nI (8 * n) from pk_mul 8 n]
  obtain ⟨kd, kX, kM, k1⟩ : ∃ kd : Int32, fFB_chosenKind (nI c) (nI n) ck1 = some kd ∧ (if nI n ≤ 0 then (some (-1 : Int32)) else (ip_b1 (ip_ald 240 md1 (0 : Int32)) (fun z62 => some z62))) = some kd ∧ ((kd = 1 ∨ kd = 2) → 1 ≤ n) := by
    unfold fFB_chosenKind
    by_cases z : n = 0
    · subst z
      exact ⟨-1, rfl, rfl, fun q => by rcases q with q | q <;> exact absurd q (by decide)⟩
    · have nn : ¬ nI n ≤ 0 := nI_nle (by omega) (by omega)
      refine ⟨ck1 0, ?_, ?_, fun _ => by omega⟩
      · rw [if_neg nn, e_ald 240 ck1 0 0 rfl (by omega) (by omega), e_b1]
      · rw [if_neg nn, e_ald 240 md1 0 0 rfl (by omega) (by omega), e_b1, ha 0 (by omega)]
  unfold fIP_decode_B28 fMO_decode_B22
  rw [if_neg n0, if_pos rfl, eX, e_b3, eR, e_b2, kX, e_b1, if_neg n0, if_pos rfl, eM, e_b3, kM, e_b1]
  by_cases p1 : kd = 1
  · obtain ⟨f1, pp1, th1, at1, va1, cm1, gv1, mw1, x1, m1, w1, w2, w3⟩ := q_par (nI c) ma mp mr mv mn xq (th := mg) va cm gv mw hn (k1 (Or.inl p1)) ha r3
    subst r2
    rw [if_pos p1, show (8 : Int32) = nI 8 from rfl, x1, e_b6, e_b34, e_lt, nI_1, if_pos p1, m1, e_b5, e_b25, e_lt]
    refine ⟨xs, f1, nI n, pp1, nI (8 * n), th1, f1, r, v, b1, b2, b3, b4, b5, xn, c1, c2, c3, ps, nI n, at1, f1, th1, mp, mr, mv, mn, ck1, va1, cm1, ch, co, sa, pl, pd, lv, mo, sd, gr, cf, bt, rs, rf, un, be, md1, gv1, mw1, mch, mco, mle, mto, msi, mmo, msk, mow, mlv, mgr, mgs, mfs, mla, mol, mrw, mra, rfl, rfl, rfl, n_par x1, rfl, w1, ?_, r5, r6, r7, r8⟩
    intro q
    by_cases z : f1 = 0
    · exact (w2 z).2
    · obtain ⟨u1, u2, u3⟩ := w3 z
      rw [u2, u3]
      exact r4 (by rw [← u1]; exact q)
  · rw [if_neg p1, if_neg p1]
    by_cases p2 : kd = 2
    · rw [if_pos p2, if_pos p2, if_pos p2, if_pos p2]
      subst r2
      by_cases z : xt = 0
      · rw [if_pos z, if_pos z, e_b34, e_lt, nI_1, e_b25, e_lt]
        exact ⟨xs, -2, nI n, 8, nI (8 * n), xt, xq, r, v, b1, b2, b3, b4, b5, xn, c1, c2, c3, ps, nI n, ma, -2, xt, mp, mr, mv, mn, ck1, va, cm, ch, co, sa, pl, pd, lv, mo, sd, gr, cf, bt, rs, rf, un, be, md1, gv, mw, mch, mco, mle, mto, msi, mmo, msk, mow, mlv, mgr, mgs, mfs, mla, mol, mrw, mra, rfl, rfl, rfl, Or.inr (by decide), rfl, r3, r4, r5, r6, r7, r8⟩
      · have t1 : xt = 1 := r3.resolve_left z
        obtain ⟨g1, ⟨q, q1, q2⟩, c4, q3, q4⟩ := r4 t1
        have h4 : gv 4 = 0 ∨ gv 4 = 1 ∨ gv 4 = 2 ∨ gv 4 = 3 := by
          rw [← g1 4 (by omega), q4]
          have : c4 = 0 ∨ c4 = 1 ∨ c4 = 2 ∨ c4 = 3 := by omega
          rcases this with u | u | u | u <;> subst u
          · exact Or.inl rfl
          · exact Or.inr (Or.inl rfl)
          · exact Or.inr (Or.inr (Or.inl rfl))
          · exact Or.inr (Or.inr (Or.inr rfl))
        obtain ⟨at1, rg1, vl1, pl1, fx1, fy1, fs1, fm1, fk1, le1, f1, l1, sm1, ps1, ch1, co1, sa1, xpl1, xpd1, xlv1, xmo1, xsd1, g9, cf1, bt1, rs1, rf1, un1, be1, mco1, left1, top1, sides1, modes1, skips1, ow1, mlv1, gm1, gs1, fsn, la1, ol1, rw1, raw1, x1, m1, m2, y1, y2, y3, y4, y5, y6, _⟩ := q_pic (nI c) 0 xt 1 ma mr mv mn r v b1 b2 b3 b4 b5 xn c1 c2 c3 ps ch co sa pl pd lv mo sd gr cf bt rs rf un be mch mco mle mto msi mmo msk mow mlv mgr mgs mfs mla mol mrw mra hn ha g1 q2 q1 h4 ht r7
        rw [if_neg z, if_neg z, show (8 : Int32) = nI 8 from rfl, x1, e_b28, e_b34, e_lt, nI_1, e_zk (Or.inr rfl), m1, e_b14, m2, e_b6, e_b25, e_lt]
        exact ⟨1, 0, nI n, pl1, nI (8 * n), xt, xq, rg1, vl1, fx1, fy1, fs1, fm1, fk1, le1, f1, l1, sm1, ps1, nI n, at1, 0, xt, 1, rg1, vl1, le1, ck1, va, cm, ch1, co1, sa1, xpl1, xpd1, xlv1, xmo1, xsd1, g9, cf1, bt1, rs1, rf1, un1, be1, md1, gv, mw, ch1, mco1, left1, top1, sides1, modes1, skips1, ow1, mlv1, gm1, gs1, fsn, la1, ol1, rw1, raw1, rfl, rfl, rfl, Or.inl rfl, rfl, r3, r4, rfl, Or.inr rfl, fun _ _ => rfl, fun _ => ⟨rfl, y1, y2, y3, y4, y5, fun _ _ => rfl, y6⟩⟩
    · rw [if_neg p2, if_neg p2, if_neg p2, if_neg p2, e_b34, e_lt, nI_1, e_b25, e_lt]
      exact ⟨xs, 0, nI n, 8, nI (8 * n), xt, xq, r, v, b1, b2, b3, b4, b5, xn, c1, c2, c3, ps, nI n, ma, 0, mg, mp, mr, mv, mn, ck1, va, cm, ch, co, sa, pl, pd, lv, mo, sd, gr, cf, bt, rs, rf, un, be, md1, gv, mw, mch, mco, mle, mto, msi, mmo, msk, mow, mlv, mgr, mgs, mfs, mla, mol, mrw, mra, rfl, rfl, rfl, Or.inl rfl, r2, r3, r4, r5, r6, r7, r8⟩
