/-! the picture unit, whole -/
theorem q_pic (a1 a4 a5 a6 m3 m7 m8 m9 : Int32) {ld mld vals given four wave scale : Nat → Int32} (v2 v3 fx fy fs fm fk lv0 f l sm ps : Int32) (ch co sa xpl xpd xlv xmo xsd g cf bt rs rf un be mch mco left top sides modes skips ow mlv gm gs fs0 la ol rw_ raw : Nat → Int32) {n q : Nat} (hn : n ≤ 240) (hld : ∀ i, i < n → ld i = mld i) (hvg : ∀ i, i < 10 → vals i = given i) (hq : vals 0 = nI q) (hq2 : q ≤ 51) (h4 : given 4 = 0 ∨ given 4 = 1 ∨ given 4 = 2 ∨ given 4 = 3) (ht : TabOK four wave scale) (hch : ∀ j, 14 ≤ j → ch j = mch j) :
  ∃ (at1 rg1 vl1 pl1 fx1 fy1 fs1 fm1 fk1 le1 f1 l1 sm1 ps1 : Int32) (ch1 co1 sa1 xpl1 xpd1 xlv1 xmo1 xsd1 g1 cf1 bt1 rs1 rf1 un1 be1 mco1 left1 top1 sides1 modes1 skips1 ow1 mlv1 gm1 gs1 fsn la1 ol1 rw1 raw1 : Nat → Int32),
  fPI_readUnit (nI 8) (nI (8 * n)) v2 v3 fx fy fs fm fk lv0 f l sm ps ld vals ch co sa xpl xpd xlv xmo xsd g cf bt rs rf un be = some (pl1, rg1, vl1, fx1, fy1, fs1, fm1, fk1, le1, f1, l1, sm1, ps1, ch1, co1, sa1, xpl1, xpd1, xlv1, xmo1, xsd1, g1, cf1, bt1, rs1, rf1, un1, be1) ∧
  fMO_readPicture a1 (nI n) m3 a4 a5 a6 m7 m8 m9 mld given mch mco left top sides modes skips ow mlv gm = some (at1, rg1, vl1, le1, ch1, mco1, left1, top1, sides1, modes1, skips1, ow1, mlv1, gm1) ∧
  fMO_restore a1 (nI n) at1 a4 a5 a6 rg1 vl1 le1 given left1 top1 sides1 modes1 skips1 ow1 mlv1 gs fs0 la ol rw_ raw four wave scale = some (gs1, fsn, la1, ol1, rw1, raw1) ∧
  Eq2 sa1 la1 ∧ Eq2 xpl1 fsn ∧ Eq2 xpd1 gs1 ∧ Eq2 xlv1 mlv1 ∧ (∀ p, p < 256 → ∃ o, o < 16 ∧ ow1 p = nI o ∧ xsd1 p = sides1 o ∧ xmo1 p = modes1 o) ∧ (∀ j, j < 3 → co1 j = mco1 j) ∧ ∃ L, le1 = nI L ∧ L ≤ 16 := by
  have hsb := sb_cong hld
  have hg0 : given 0 = nI q := by
    rw [← hvg 0 (by omega)]
    exact hq
  have fe : (fun j => if j < 14 then (512 : Int32) else ch j) = fun j => if j < 14 then (512 : Int32) else mch j := by
    funext j
    by_cases c : j < 14
    · rw [if_pos c, if_pos c]
    · rw [if_neg c, if_neg c, hch j (by omega)]
  obtain ⟨s, hsd⟩ : ∃ s : DS, s = ((fun j => if j < 14 then (512 : Int32) else ch j), 0, 0, 510, s_v0 ld n, 8) := ⟨_, rfl⟩
  have hs : DOK 8 s := by
    subst hsd
    refine ⟨?_, ⟨510, rfl, by omega, by omega⟩, Nat.le_refl _⟩
    intro c hc
    refine ⟨512, ?_, by omega⟩
    show (if c < 14 then (512 : Int32) else ch c) = nI 512
    rw [if_pos hc]
    rfl
  obtain ⟨mc1, mE, mh0, mh1, mh2⟩ := q_begM a1 a4 a5 a6 mld hn 8 0 1000 0 (fun j => if 0 ≤ j ∧ j < 3 then (0 : Int32) else mco j) (by omega) (by omega) rfl
  have hx : XR s (fun j => if j < 3 then (0 : Int32) else co j) := by
    subst hsd
    exact ⟨rfl, rfl⟩
  have hm : MR s mc1 := by
    subst hsd
    exact ⟨mh0, mh1, mh2⟩
  have hI : LInv q 0 (cov 0 0) left top sides modes skips (fun j => if 0 ≤ j ∧ j < 256 then (-1 : Int32) else ow j) (fun j => if 0 ≤ j ∧ j < 256 then (0 : Int32) else mlv j) (fun j => if j < 256 then (0 : Int32) else xsd j) xmo xlv xpl xpd := by
    refine ⟨by omega, fun i hi => by omega, ?_⟩
    intro p hp
    refine Or.inr ⟨?_, if_pos ⟨by omega, hp⟩, if_pos hp, if_pos ⟨by omega, hp⟩⟩
    unfold cov
    omega
  have hS : SpI (fun _ => 0) 0 0 (fun j => if j < 256 then (0 : Int32) else xsd j) := ⟨fun _ => Nat.zero_le 1, rfl, fun p _ c => absurd c (Nat.not_lt_zero _)⟩
  obtain ⟨s1, e1, mask1, fx1, fy1, fs1, fm1, fk1, f1, l1, sm1, ps1, co1, xpl1, xpd1, xlv1, xmo1, xsd1, g1, cf1, bt1, rs1, rf1, un1, mco1, left1, top1, sides1, modes1, skips1, ow1, mlv1, gm1, eX, eM, hs1, hx1, hm1, hI1⟩ := q_blocks a1 a4 a5 a6 hn hsb hvg hq hq2 4 0 0 8 1000 s (fun _ => 0) 0 fx fy fs fm fk f l sm ps (fun j => if j < 3 then (0 : Int32) else co j) xpl xpd xlv xmo (fun j => if j < 256 then (0 : Int32) else xsd j) g cf bt rs rf un mc1 left top sides modes skips (fun j => if 0 ≤ j ∧ j < 256 then (-1 : Int32) else ow j) (fun j => if 0 ≤ j ∧ j < 256 then (0 : Int32) else mlv j) gm (by omega) (by omega) (by omega) hs (by omega) hx hm hI hS
  rw [nI_0] at eX eM
  have h16 := hI1.1
  have hcov : ∀ p, p < 256 → ∃ o, o < e1 ∧ ow1 p = nI o ∧ xsd1 p = sides1 o ∧ xmo1 p = modes1 o ∧ xlv1 p = mlv1 p ∧ ∃ v, xpl1 p = nI v ∧ v ≤ 255 := by
    intro p hp
    rcases hI1.2.2 p hp with ⟨_, c⟩ | ⟨c, _⟩
    · exact c
    · have := bk_lt hp
      exact absurd (show cov 4 0 p by unfold cov; omega) c
  have hrg : RG xpl1 := by
    intro p hp
    obtain ⟨_, _, _, _, _, _, c⟩ := hcov p hp
    exact c
  obtain ⟨gs1, fsn, rw1, raw1, eR, hR⟩ := q_restA a1 (nI n) (nI s1.2.2.2.2.2) a4 a5 a6 s1.2.2.2.1 s1.2.2.2.2.1 ht hg0 hq2 hI1 e1 0 1000 gs fs0 rw_ raw (by omega) (by omega) (fun p _ o ho => by omega)
  have k1 : Eq2 fsn xpl1 := by
    intro p hp
    obtain ⟨o, ho, w, _⟩ := hcov p hp
    exact (hR p hp o ho w).1
  have k2 : Eq2 gs1 xpd1 := by
    intro p hp
    obtain ⟨o, ho, w, _⟩ := hcov p hp
    exact (hR p hp o ho w).2
  have hrgM : RG fsn := RG.eq2 (fun p hp => (k1 p hp).symm) hrg
  obtain ⟨la1, ol1, eT, hT⟩ := q_tailM a1 (nI n) (nI s1.2.2.2.2.2) a4 a5 a6 s1.2.2.2.1 s1.2.2.2.2.1 (nI e1) la ol gs1 rw1 raw1 hg0 hq2 hrgM h4
  have hcp : Eq2 (va_cpy xpl1 sa 0 0 256) xpl1 := fun p hp => sb_cpy0 hp
  obtain ⟨sa1, be1, eA, hA⟩ := q_applyX vals (va_cpy xpl1 sa 0 0 256) be hq hq2 (RG.eq2 (fun p hp => (hcp p hp).symm) hrg)
  refine ⟨nI s1.2.2.2.2.2, s1.2.2.2.1, s1.2.2.2.2.1, nI (s1.2.2.2.2.2 + 8), fx1, fy1, fs1, fm1, fk1, nI e1, f1, l1, sm1, ps1, s1.1, upd co1 2 (nI s1.2.2.2.2.2), sa1, xpl1, xpd1, xlv1, xmo1, xsd1, g1, cf1, bt1, rs1, rf1, un1, be1, mco1, left1, top1, sides1, modes1, skips1, ow1, mlv1, gm1, gs1, fsn, la1, ol1, rw1, raw1, ?_, ?_, ?_, ?_, fun p hp => (k1 p hp).symm, fun p hp => (k2 p hp).symm, ?_, ?_, ?_, e1, rfl, h16⟩
  · have eB : fBD_begin (nI 8) (nI (8 * n)) v2 v3 ld ch co = some (nI (s.2.2.2.2.2 + 8), s.2.2.2.1, s.2.2.2.2.1, s.1, fun j => if j < 3 then (0 : Int32) else co j) := by
      unfold fBD_begin
      rw [q_fill14, e_b1, q_fill3, e_b1, show (0 : Int32) = nI 0 from rfl, q_begX ld hn 8 0 1000 (nI 0) (by omega) (by omega), e_b3, hsd]
      rfl
    have eE : fBD_end (nI (s1.2.2.2.2.2 + 8)) (nI (8 * n)) s1.2.2.2.1 s1.2.2.2.2.1 co1 = some (upd co1 2 (nI s1.2.2.2.2.2)) := by
      unfold fBD_end fRB_taken
      rw [e_b1, show nI (s1.2.2.2.2.2 + 8) - (8 : Int32) = nI s1.2.2.2.2.2 from by
        rw [show (8 : Int32) = nI 8 from rfl, pk_sub (by omega)]
        congr 1, e_ast 3 co1 2 _ 2 rfl (by omega) (by omega), e_b1]
    unfold fPI_readUnit
    rw [q_fill256, e_b1, eB, e_b5, eX, e_b27, eE, e_b1, e_lt, show va_cpy xpl1 sa (0 : Int32).toNatClampNeg (0 : Int32).toNatClampNeg (256 : Int32).toNatClampNeg = va_cpy xpl1 sa 0 0 256 from rfl, eA, e_b2]
  · have c1 := q_fillC_l 14 0 1000 mch (by omega) (by omega)
    have c2 := q_fillK_l 3 0 1000 mco (by omega) (by omega)
    have c3 := q_fillO 256 0 1000 ow mlv (by omega) (by omega)
    rw [nI_0] at c1 c2 c3 mE
    have fe2 : (fun j => if 0 ≤ j ∧ j < 14 then (512 : Int32) else mch j) = fun j => if j < 14 then (512 : Int32) else ch j := by
      rw [fe]
      funext j
      by_cases c : j < 14
      · rw [if_pos ⟨by omega, c⟩, if_pos c]
      · rw [if_neg (fun q => c q.2), if_neg c]
    have fv : s_it (fun t v => 2 * v + sb mld n t) 8 0 0 = s_v0 ld n := by
      unfold s_v0
      rw [hsb]
    rw [hsd] at eM
    dsimp only at eM
    unfold fMO_readPicture
    rw [c1, e_b2, c2, e_b2, mE, e_b4, c3, e_b3, fe2, fv, eM, e_b16]
  · unfold fMO_restore
    rw [nI_0] at eR
    rw [eR, e_b5]
    exact eT
  · intro p hp
    rw [hA p hp, hT p hp]
    exact t_fin_cong hvg (fun p hp => (hcp p hp).trans (k1 p hp).symm) p hp
  · intro p hp
    obtain ⟨_, _, _, _, _, c, _⟩ := hcov p hp
    exact c
  · intro p hp
    obtain ⟨o, ho, c1, c2, c3, _⟩ := hcov p hp
    exact ⟨o, by omega, c1, c2, c3⟩
  · intro j hj
    have c : j = 0 ∨ j = 1 ∨ j = 2 := by omega
    rcases c with rfl | rfl | rfl
    · rw [u_n (by omega), hx1.1, hm1.1]
    · rw [u_n (by omega), hx1.2, hm1.2.1]
    · rw [u_0, hm1.2.2]
