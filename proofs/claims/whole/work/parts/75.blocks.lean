/-! the four blocks, both sides -/
def mk (bt : Nat → Nat) : Nat → Nat
  | 0 => 0
  | B + 1 => mk bt B + bt B * 2 ^ B
theorem mk_cong {bt bt2 : Nat → Nat} : ∀ B, (∀ b, b < B → bt b = bt2 b) → mk bt B = mk bt2 B := by
  intro B
  induction B with
  | zero => intro _; rfl
  | succ B ih =>
    intro h
    show mk bt B + bt B * 2 ^ B = mk bt2 B + bt2 B * 2 ^ B
    rw [ih (fun b hb => h b (by omega)), h B (by omega)]
def cL (bt : Nat → Nat) (B : Nat) : Nat := if B % 2 = 1 then bt (B - 1) else 0
def cA (bt : Nat → Nat) (B : Nat) : Nat := if 2 ≤ B then bt (B - 2) else 0
theorem cLA {bt : Nat → Nat} (hb : ∀ b, bt b ≤ 1) (B : Nat) : cL bt B + cA bt B < 14 := by
  unfold cL cA
  have := hb (B - 1)
  have := hb (B - 2)
  split <;> split <;> omega
theorem b01 {bt : Nat → Nat} (hb : ∀ b, bt b ≤ 1) (b : Nat) : bt b = 0 ∨ bt b = 1 := by
  have := hb b
  omega
theorem ctxM {bt : Nat → Nat} (hb : ∀ b, bt b ≤ 1) {B : Nat} (hB : B < 4) : (if (nI B - nI B / (2 : Int32) * (2 : Int32)) = (1 : Int32) then some ((nI (mk bt B) >>> ((nI B - (1 : Int32)) &&& 31)) &&& (1 : Int32)) else some (0 : Int32)) = some (nI (cL bt B)) ∧ (if nI B ≤ (1 : Int32) then some (0 : Int32) else some ((nI (mk bt B) >>> ((nI B - (2 : Int32)) &&& 31)) &&& (1 : Int32))) = some (nI (cA bt B)) := by
  have c : B = 0 ∨ B = 1 ∨ B = 2 ∨ B = 3 := by omega
  unfold cL cA
  rcases c with rfl | rfl | rfl | rfl
  · exact ⟨rfl, rfl⟩
  · rw [show mk bt 1 = bt 0 by show 0 + bt 0 * 1 = bt 0; omega]
    show (if (nI 1 - nI 1 / (2 : Int32) * (2 : Int32)) = (1 : Int32) then some ((nI (bt 0) >>> ((nI 1 - (1 : Int32)) &&& 31)) &&& (1 : Int32)) else some (0 : Int32)) = some (nI (bt 0)) ∧ _
    rcases b01 hb 0 with h | h <;> rw [h] <;> exact ⟨rfl, rfl⟩
  · rw [show mk bt 2 = bt 0 + 2 * bt 1 by show 0 + bt 0 * 1 + bt 1 * 2 = bt 0 + 2 * bt 1; omega]
    show _ ∧ (if nI 2 ≤ (1 : Int32) then some (0 : Int32) else some ((nI (bt 0 + 2 * bt 1) >>> ((nI 2 - (2 : Int32)) &&& 31)) &&& (1 : Int32))) = some (nI (bt 0))
    rcases b01 hb 0 with h | h <;> rcases b01 hb 1 with h1 | h1 <;> rw [h, h1] <;> exact ⟨rfl, rfl⟩
  · rw [show mk bt 3 = bt 0 + 2 * bt 1 + 4 * bt 2 by show 0 + bt 0 * 1 + bt 1 * 2 + bt 2 * 4 = bt 0 + 2 * bt 1 + 4 * bt 2; omega]
    show (if (nI 3 - nI 3 / (2 : Int32) * (2 : Int32)) = (1 : Int32) then some ((nI (bt 0 + 2 * bt 1 + 4 * bt 2) >>> ((nI 3 - (1 : Int32)) &&& 31)) &&& (1 : Int32)) else some (0 : Int32)) = some (nI (bt 2)) ∧ (if nI 3 ≤ (1 : Int32) then some (0 : Int32) else some ((nI (bt 0 + 2 * bt 1 + 4 * bt 2) >>> ((nI 3 - (2 : Int32)) &&& 31)) &&& (1 : Int32))) = some (nI (bt 1))
    rcases b01 hb 0 with h | h <;> rcases b01 hb 1 with h1 | h1 <;> rcases b01 hb 2 with h2 | h2 <;> rw [h, h1, h2] <;> exact ⟨rfl, rfl⟩
theorem mk_next {bt : Nat → Nat} (hb : ∀ b, bt b ≤ 1) {B sp : Nat} (hB : B < 4) (hsp : sp = 0 ∨ sp = 1) : nI (mk bt B) ||| (nI sp <<< (nI B &&& 31)) = nI (mk bt B + sp * 2 ^ B) := by
  have c : B = 0 ∨ B = 1 ∨ B = 2 ∨ B = 3 := by omega
  rcases c with rfl | rfl | rfl | rfl
  · rw [show mk bt 0 = 0 from rfl]
    rcases hsp with h | h <;> rw [h] <;> rfl
  · rw [show mk bt 1 = bt 0 by show 0 + bt 0 * 1 = bt 0; omega]
    rcases hsp with h | h <;> rcases b01 hb 0 with h0 | h0 <;> rw [h, h0] <;> rfl
  · rw [show mk bt 2 = bt 0 + 2 * bt 1 by show 0 + bt 0 * 1 + bt 1 * 2 = bt 0 + 2 * bt 1; omega]
    rcases hsp with h | h <;> rcases b01 hb 0 with h0 | h0 <;> rcases b01 hb 1 with h1 | h1 <;> rw [h, h0, h1] <;> rfl
  · rw [show mk bt 3 = bt 0 + 2 * bt 1 + 4 * bt 2 by show 0 + bt 0 * 1 + bt 1 * 2 + bt 2 * 4 = bt 0 + 2 * bt 1 + 4 * bt 2; omega]
    rcases hsp with h | h <;> rcases b01 hb 0 with h0 | h0 <;> rcases b01 hb 1 with h1 | h1 <;> rcases b01 hb 2 with h2 | h2 <;> rw [h, h0, h1, h2] <;> rfl
theorem q_spl0 (lvs : Int32) (xsd : Nat → Int32) {u v : Int32} (h : fIP_inPicture u v = some 0) : fPI_splitAt lvs xsd u v = some 0 := by
  unfold fPI_splitAt
  rw [h, e_b1, if_pos rfl]
theorem q_spl1 (lvs : Int32) (xsd : Nat → Int32) {u v : Int32} {p c : Nat} (h : fIP_inPicture u v = some 1) (hp : fIP_placeOf u v = some (nI p)) (hp2 : p < 256) (hx : xsd p = nI (8 - 4 * c)) (hc : c = 0 ∨ c = 1) : fPI_splitAt lvs xsd u v = some (nI c) := by
  unfold fPI_splitAt
  rw [h, e_b1, if_neg (by decide), hp, e_b1, e_ald 256 xsd _ p rfl hp2 (by omega), e_b1, hx]
  rcases hc with h | h <;> rw [h] <;> rfl
theorem ctxX (lvs : Int32) {xsd : Nat → Int32} {bt : Nat → Nat} (hb : ∀ b, bt b ≤ 1) {B : Nat} (hB : B < 4) (hx : ∀ p, p < 256 → bk p < B → xsd p = nI (8 - 4 * bt (bk p))) : fPI_splitAt lvs xsd (nI (8 * (B % 2)) - (1 : Int32)) (nI (8 * (B / 2))) = some (nI (cL bt B)) ∧ fPI_splitAt lvs xsd (nI (8 * (B % 2))) (nI (8 * (B / 2)) - (1 : Int32)) = some (nI (cA bt B)) := by
  have c : B = 0 ∨ B = 1 ∨ B = 2 ∨ B = 3 := by omega
  rcases c with rfl | rfl | rfl | rfl
  · exact ⟨q_spl0 lvs xsd rfl, q_spl0 lvs xsd rfl⟩
  · exact ⟨q_spl1 lvs xsd (p := 7) rfl rfl (by omega) (hx 7 (by omega) (by decide)) (b01 hb 0), q_spl0 lvs xsd rfl⟩
  · exact ⟨q_spl0 lvs xsd rfl, q_spl1 lvs xsd (p := 112) rfl rfl (by omega) (hx 112 (by omega) (by decide)) (b01 hb 0)⟩
  · exact ⟨q_spl1 lvs xsd (p := 135) rfl rfl (by omega) (hx 135 (by omega) (by decide)) (b01 hb 2), q_spl1 lvs xsd (p := 120) rfl rfl (by omega) (hx 120 (by omega) (by decide)) (b01 hb 1)⟩
theorem LInv_cv {q e : Nat} {cv cv2 : Nat → Prop} {left top sides modes skips ow mlv xsd xmo xlv xpl xpd : Nat → Int32} (hc : ∀ p, p < 256 → (cv p ↔ cv2 p)) (h : LInv q e cv left top sides modes skips ow mlv xsd xmo xlv xpl xpd) : LInv q e cv2 left top sides modes skips ow mlv xsd xmo xlv xpl xpd := by
  obtain ⟨h1, h2, h3⟩ := h
  refine ⟨h1, h2, ?_⟩
  intro p hp
  rcases h3 p hp with ⟨a, b⟩ | ⟨a, b⟩
  · exact Or.inl ⟨(hc p hp).mp a, b⟩
  · exact Or.inr ⟨fun c => a ((hc p hp).mpr c), b⟩
def SpI (bt : Nat → Nat) (B : Nat) (mask : Int32) (xsd : Nat → Int32) : Prop := (∀ b, bt b ≤ 1) ∧ mask = nI (mk bt B) ∧ ∀ p, p < 256 → bk p < B → xsd p = nI (8 - 4 * bt (bk p))
theorem q_block (a1 a4 a5 a6 : Int32) {ld mld vals given : Nat → Int32} {n q B e b : Nat} {s : DS} {bt0 : Nat → Nat} {mask : Int32} (fx fy fs fm fk f l sm ps : Int32) (co xpl xpd xlv xmo xsd g cf bt rs rf un mco left top sides modes skips ow mlv gm : Nat → Int32) (hn : n ≤ 240) (hld : sb ld n = sb mld n) (hvg : ∀ i, i < 10 → vals i = given i) (hq : vals 0 = nI q) (hq2 : q ≤ 51) (hB : B < 4) (he : e ≤ 4 * B) (hs : DOK b s) (hb : b + 20000 < 2 ^ 30) (hx : XR s co) (hm : MR s mco) (hI : LInv q e (cov B 0) left top sides modes skips ow mlv xsd xmo xlv xpl xpd) (hS : SpI bt0 B mask xsd) : ∃ (s1 : DS) (e1 : Nat) (bt9 : Nat → Nat) (mask1 fx1 fy1 fs1 fm1 fk1 f1 l1 sm1 ps1 : Int32) (co1 xpl1 xpd1 xlv1 xmo1 xsd1 g1 cf1 bt1 rs1 rf1 un1 mco1 left1 top1 sides1 modes1 skips1 ow1 mlv1 gm1 : Nat → Int32), fPI_readUnit_B25 (nI (8 * n)) ld vals (nI B) (nI (s.2.2.2.2.2 + 8)) s.2.2.2.1 s.2.2.2.2.1 fx fy fs fm fk (nI e) f l sm ps s.1 co xpl xpd xlv xmo xsd g cf bt rs rf un = some (.inl (nI (B + 1), nI (s1.2.2.2.2.2 + 8), s1.2.2.2.1, s1.2.2.2.2.1, fx1, fy1, fs1, fm1, fk1, nI e1, f1, l1, sm1, ps1, s1.1, co1, xpl1, xpd1, xlv1, xmo1, xsd1, g1, cf1, bt1, rs1, rf1, un1)) ∧ fMO_readPicture_B116 a1 (nI n) a4 a5 a6 mld given mask (nI B) (nI s.2.2.2.2.2) s.2.2.2.1 s.2.2.2.2.1 (nI e) s.1 mco left top sides modes skips ow mlv gm = some (.inl (mask1, nI (B + 1), nI s1.2.2.2.2.2, s1.2.2.2.1, s1.2.2.2.2.1, nI e1, s1.1, mco1, left1, top1, sides1, modes1, skips1, ow1, mlv1, gm1)) ∧ DOK (b + 9000) s1 ∧ XR s1 co1 ∧ MR s1 mco1 ∧ e1 ≤ 4 * (B + 1) ∧ LInv q e1 (cov (B + 1) 0) left1 top1 sides1 modes1 skips1 ow1 mlv1 xsd1 xmo1 xlv1 xpl1 xpd1 ∧ SpI bt9 (B + 1) mask1 xsd1 := by
  obtain ⟨hb1, hmk, hxs⟩ := hS
  obtain ⟨cx1, cx2⟩ := ctxX (nI e) hb1 hB hxs
  obtain ⟨cm1, cm2⟩ := ctxM hb1 hB
  have c14 := cLA hb1 B
  obtain ⟨co1, ex, hx0, hx1⟩ := q_binX ld co (c := cL bt0 B + cA bt0 B) hn c14 hs (by omega) hx.1 hx.2
  obtain ⟨mco1, em, hm0, hm1, hm2⟩ := q_binM a1 a4 a5 a6 (nI e) mld mco (c := cL bt0 B + cA bt0 B) hn c14 hs (by omega) hm.1 hm.2.1 hm.2.2
  have hs1 := s_bin_ok ld n c14 hs
  have h01 := s_bin_01 ld n s (cL bt0 B + cA bt0 B)
  rw [← c_bin hld] at em hm0 hm1 hm2
  revert ex em hx0 hx1 hm0 hm1 hm2 hs1 h01
  generalize s_bin ld n s (cL bt0 B + cA bt0 B) = R
  intro ex hx0 hx1 em hm0 hm1 hm2 hs1 h01
  obtain ⟨sp, hsp, hR⟩ : ∃ sp : Nat, (sp = 0 ∨ sp = 1) ∧ R.1 = nI sp := by
    rcases h01 with h | h
    · exact ⟨0, Or.inl rfl, h⟩
    · exact ⟨1, Or.inr rfl, h⟩
  have e61 : (8 : Int32) * (nI B &&& (1 : Int32)) = nI (8 * (B % 2)) := by
    rw [show nI B &&& (1 : Int32) = nI (B % 2) from pk_andN (by omega) 1 (by decide), show (8 : Int32) = nI 8 from rfl, pk_mul]
  have e62 : (8 : Int32) * (nI B >>> ((1 : Int32) &&& 31)) = nI (8 * (B / 2)) := by
    rw [show nI B >>> ((1 : Int32) &&& 31) = nI (B / 2) from pk_shrN (by omega) _ 1 (by decide), show (8 : Int32) = nI 8 from rfl, pk_mul]
  have e71 : (if nI sp = (1 : Int32) then some (1 : Int32) else some (0 : Int32)) = some (nI sp) := by
    rcases hsp with h | h <;> rw [h] <;> rfl
  have e72 : (if nI sp = 0 then some (1 : Int32) else some (4 : Int32)) = some (nI (1 + 3 * sp)) := by
    rcases hsp with h | h <;> rw [h] <;> rfl
  have hI0 : LInv q e (cov B (pc sp 0)) left top sides modes skips ow mlv xsd xmo xlv xpl xpd := by
    rw [pc_at hsp (by omega)]
    exact hI
  obtain ⟨s1, fx1, fy1, fs1, fm1, fk1, f1, l1, sm1, ps1, co2, xpl1, xpd1, xlv1, xmo1, xsd1, g1, cf1, bt1, rs1, rf1, un1, mco2, left1, top1, sides1, modes1, skips1, ow1, mlv1, gm1, lX, lM, hs2, hx2, hm3, hI2, w1, w2⟩ := q_parts a1 a4 a5 a6 (nI e) hn hld hvg hq hq2 hB hsp (1 + 3 * sp) 0 e (b + 6) 1000 R.2 fx fy fs fm fk f l sm ps co1 xpl xpd xlv xmo xsd g cf bt rs rf un mco1 left top sides modes skips ow mlv gm (by omega) (by omega) (by omega) hs1 (by omega) ⟨hx0, hx1⟩ ⟨hm0, hm1, hm2⟩ hI0
  rw [pc_at hsp (by omega)] at w1 w2
  refine ⟨s1, e + (1 + 3 * sp), fun k => if k = B then sp else bt0 k, nI (mk bt0 B + sp * 2 ^ B), fx1, fy1, fs1, fm1, fk1, f1, l1, sm1, ps1, co2, xpl1, xpd1, xlv1, xmo1, xsd1, g1, cf1, bt1, rs1, rf1, un1, mco2, left1, top1, sides1, modes1, skips1, ow1, mlv1, gm1, ?_, ?_, hs2.mono (by omega), hx2, hm3, by omega, ?_, ?_⟩
  · unfold fPI_readUnit_B25
    rw [if_neg (show ¬ (4 : Int32) ≤ nI B from nI_ge (b := 4) hB (by omega)), e_lt, e_lt, e61, e62, cx1, e_b1, cx2, e_b1, nI_add, ex, e_b6, hR, e71, e_b1, e72, e_b1, show (0 : Int32) = nI 0 from rfl, lX, e_b26, e_lt, e_lt, nI_add, nI_1]
  · unfold fMO_readPicture_B116
    rw [if_neg (show ¬ (4 : Int32) ≤ nI B from nI_ge (b := 4) hB (by omega)), hmk, cm1, e_b1, cm2, e_b1, e_lt, nI_add, em, e_b6, e_lt, hR, mk_next hb1 hB hsp, show (0 : Int32) = nI 0 from rfl, lM, e_b15, e_lt, nI_1]
  · refine LInv_cv ?_ hI2
    intro p _
    have := pt_lt p
    unfold cov
    omega
  · refine ⟨?_, ?_, ?_⟩
    · intro k
      show (if k = B then sp else bt0 k) ≤ 1
      split
      · omega
      · exact hb1 k
    · show nI (mk bt0 B + sp * 2 ^ B) = nI (mk (fun k => if k = B then sp else bt0 k) B + (if B = B then sp else bt0 B) * 2 ^ B)
      rw [if_pos rfl, mk_cong (bt := bt0) (bt2 := fun k => if k = B then sp else bt0 k) B (fun k hk => by
        show bt0 k = if k = B then sp else bt0 k
        rw [if_neg (by omega)])]
    · intro p hp hk
      show xsd1 p = nI (8 - 4 * (if bk p = B then sp else bt0 (bk p)))
      have := pt_lt p
      by_cases c : bk p = B
      · rw [if_pos c]
        refine w2 p hp ?_ ?_
        · unfold cov
          omega
        · unfold cov
          omega
      · rw [if_neg c, w1 p hp (by unfold cov; omega)]
        exact hxs p hp (by omega)
