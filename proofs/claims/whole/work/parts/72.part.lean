/-! one leaf, both sides -/
theorem q_mlX (md sk sd lvs : Int32) {mo : Nat → Int32} {x y : Nat} {ml : Int32} (hx : x < 16) (hy : y < 16) (h : (x = 0 ∧ ml = 1) ∨ (0 < x ∧ mo (16 * y + x - 1) = ml)) : fPI_modeToTheLeft (nI x) (nI y) sd md sk lvs mo = some ml := by
  unfold fPI_modeToTheLeft
  rcases h with ⟨h0, h1⟩ | ⟨h0, h1⟩
  · rw [if_pos (show nI x = 0 by rw [h0]; rfl), h1]
  · rw [if_neg (nI_ne0 h0 (by omega))]
    have e : fLF_placeInPicture (nI x) (nI y) sd md sk (-1) 0 = some (nI (16 * y + x - 1)) := by
      unfold fLF_placeInPicture
      obtain ⟨x1, rfl⟩ : ∃ x1, x = x1 + 1 := ⟨x - 1, by omega⟩
      rw [pk_m1, Int32.add_zero]
      unfold fIP_placeOf
      rw [e_b1, show (16 : Int32) = nI 16 from rfl, pk_mul, nI_add]
      congr 2
      omega
    rw [e, e_b1, e_ald 256 mo _ (16 * y + x - 1) rfl (by omega) (by omega), e_b1, h1]
theorem q_mdX (ld co mo : Nat → Int32) (md sd lvs : Int32) {n b x y : Nat} {s : DS} {ml : Int32} (hn : n ≤ 240) (hx : x < 16) (hy : y < 16) (hml : (x = 0 ∧ ml = 1) ∨ (0 < x ∧ mo (16 * y + x - 1) = ml)) (hs : DOK b s) (hb : b + 100 < 2 ^ 30) (hxr : XR s co) : ∃ co1 : Nat → Int32, XR (s_md ld n ml s).2 co1 ∧ ∀ (T : Type) (K : Int32 → (Nat → Int32) → Int32 → Int32 → Int32 → (Nat → Int32) → Option T), ip_b6 (fBD_bin (nI (s.2.2.2.2.2 + 8)) (nI (8 * n)) s.2.2.2.1 s.2.2.2.2.1 ld s.1 co (3 : Int32)) (fun z130 z131 z132 z133 g134 g135 =>
ip_b4 ((if z130 = (1 : Int32) then
(ip_b1 (fPI_modeToTheLeft (nI x) (nI y) sd md (0 : Int32) lvs mo) (fun z144 =>
some (z144, z131, z133, g135)))
else
(ip_b4 (fBD_freeBits z131 (nI (8 * n)) z132 z133 ld g135 (3 : Int32)) (fun z140 z141 z142 g143 =>
some (z140, z141, z142, g143))))) (fun z136 z137 z138 g139 => K z132 g134 z136 z137 z138 g139)) = K (s_md ld n ml s).2.2.2.2.1 (s_md ld n ml s).2.1 (s_md ld n ml s).1 (nI ((s_md ld n ml s).2.2.2.2.2.2 + 8)) (s_md ld n ml s).2.2.2.2.2.1 co1 := by
  obtain ⟨co1, e1, h0, h1⟩ := q_binX ld co (c := 3) hn (by omega) hs (by omega) hxr.1 hxr.2
  have hs1 := s_bin_ok ld n (c := 3) (by omega) hs
  rw [show nI 3 = (3 : Int32) from rfl] at e1
  by_cases c : (s_bin ld n s 3).1 = 1
  · have em : s_md ld n ml s = (ml, (s_bin ld n s 3).2) := by
      unfold s_md
      rw [if_pos c]
    refine ⟨co1, ?_, ?_⟩
    · rw [em]
      exact ⟨h0, h1⟩
    · intro T K
      rw [e1, e_b6, if_pos c, q_mlX md 0 sd lvs hx hy hml, e_b1, e_b4, em]
  · have em : s_md ld n ml s = s_frs ld n 3 0 (s_bin ld n s 3).2 := by
      unfold s_md
      rw [if_neg c]
    obtain ⟨co2, e2, h2, h3⟩ := q_freeX ld co1 (N := 3) hn (by omega) hs1 (by omega) h0 h1
    rw [show nI 3 = (3 : Int32) from rfl] at e2
    obtain ⟨f1, _, _, f4, _⟩ := s_frs_c ld n 3 0 (s_bin ld n s 3).2
    refine ⟨co2, ?_, ?_⟩
    · rw [em]
      exact ⟨h2, h3⟩
    · intro T K
      rw [e1, e_b6, if_neg c, e2, e_b4, e_b4, em, f1, f4]
theorem q_partX (ld vals : Nat → Int32) (lvs fx fy fs fm fk f l sm ps : Int32) (co xpl xpd xlv xmo xsd g cf bt rs rf un : Nat → Int32) {n b q B P N sp m md x y : Nat} {lg ml : Int32} {s : DS} (hn : n ≤ 240) (hB : B < 4) (hP : P < N) (hN : N ≤ 4) (hsp : (sp = 0 ∧ m = 8 ∧ lg = 1 ∧ P = 0) ∨ (sp = 1 ∧ m = 4 ∧ lg = 0)) (hx : x = 8 * (B % 2) + 4 * (P % 2)) (hy : y = 8 * (B / 2) + 4 * (P / 2)) (hml : (x = 0 ∧ ml = 1) ∨ (0 < x ∧ xmo (16 * y + x - 1) = ml)) (hmq : ∃ k, ml = nI k ∧ k ≤ 7) (hs : DOK b s) (hb : b + 4000 < 2 ^ 30) (hxr : XR s co) (hq : vals 0 = nI q) (hq2 : q ≤ 51) (hv : ∀ p, p < 256 → ¬ xsd p = 0 → ¬ xpl p = -1) (hmd : (s_md ld n ml s).1 = nI md) (hmd7 : md ≤ 7) : ∃ (f1 l1 sm1 : Int32) (co1 g1 cf1 bt1 rs1 rf1 un1 : Nat → Int32), fPI_readUnit_B94 (nI (8 * n)) ld vals lvs (nI (8 * (B % 2))) (nI (8 * (B / 2))) (nI sp) (nI N) (nI P) (nI (s.2.2.2.2.2 + 8)) s.2.2.2.1 s.2.2.2.2.1 fx fy fs fm fk f l sm ps s.1 co xpl xpd xlv xmo xsd g cf bt rs rf un = some (.inl (nI (P + 1), nI ((s_lf ld n (vals 1) (vals 2) lg x y (s_md ld n ml s).2 g xlv).2.1.2.2.2.2.2 + 8), (s_lf ld n (vals 1) (vals 2) lg x y (s_md ld n ml s).2 g xlv).2.1.2.2.2.1, (s_lf ld n (vals 1) (vals 2) lg x y (s_md ld n ml s).2 g xlv).2.1.2.2.2.2.1, nI x, nI y, nI m, nI md, (s_lf ld n (vals 1) (vals 2) lg x y (s_md ld n ml s).2 g xlv).1, f1, l1, sm1, nI m, (s_lf ld n (vals 1) (vals 2) lg x y (s_md ld n ml s).2 g xlv).2.1.1, co1, d_put m (ixp x y) (fun yy xx => b_val (xth xsd) xpl (s_lf ld n (vals 1) (vals 2) lg x y (s_md ld n ml s).2 g xlv).2.2.2 x y m md q (s_lf ld n (vals 1) (vals 2) lg x y (s_md ld n ml s).2 g xlv).1 xx yy) xpl, d_put m (ixp x y) (fun yy xx => p_val m md (f_rw (xth xsd) xpl x y m md) xx yy) xpd, (s_lf ld n (vals 1) (vals 2) lg x y (s_md ld n ml s).2 g xlv).2.2.2, d_put m (ixp x y) (fun _ _ => nI md) xmo, d_put m (ixp x y) (fun _ _ => nI m) xsd, g1, cf1, bt1, rs1, rf1, un1)) ∧ XR (s_lf ld n (vals 1) (vals 2) lg x y (s_md ld n ml s).2 g xlv).2.1 co1 ∧ DOK (b + 2109) (s_lf ld n (vals 1) (vals 2) lg x y (s_md ld n ml s).2 g xlv).2.1 := by
  have ex : nI (8 * (B % 2)) + ((4 : Int32) * (nI P &&& (1 : Int32))) = nI x := by
    rw [show nI P &&& (1 : Int32) = nI (P % 2) from pk_andN (by omega) 1 (by decide), show (4 : Int32) = nI 4 from rfl, pk_mul, nI_add, hx]
  have ey : nI (8 * (B / 2)) + ((4 : Int32) * (nI P >>> ((1 : Int32) &&& 31))) = nI y := by
    rw [show nI P >>> ((1 : Int32) &&& 31) = nI (P / 2) from pk_shrN (by omega) _ 1 (by decide), show (4 : Int32) = nI 4 from rfl, pk_mul, nI_add, hy]
  have em : (if nI sp = 0 then some (8 : Int32) else some (4 : Int32)) = some (nI m) := by
    rcases hsp with ⟨h1, h2, _⟩ | ⟨h1, h2, _⟩
    · rw [h1, h2]; rfl
    · rw [h1, h2]; rfl
  have hsd : (nI m = 8 ∧ lg = 1 ∧ x ≤ 8 ∧ y ≤ 8) ∨ (nI m = 4 ∧ lg = 0 ∧ x ≤ 12 ∧ y ≤ 12) := by
    rcases hsp with ⟨_, h2, h3, h4⟩ | ⟨_, h2, h3⟩
    · exact Or.inl ⟨by rw [h2]; rfl, h3, by omega, by omega⟩
    · exact Or.inr ⟨by rw [h2]; rfl, h3, by omega, by omega⟩
  have hm : m = 4 ∨ m = 8 := by
    rcases hsp with ⟨_, h2, _⟩ | ⟨_, h2, _⟩
    · exact Or.inr h2
    · exact Or.inl h2
  have hx16 : x + m ≤ 16 := by
    rcases hsp with ⟨_, h2, _, h4⟩ | ⟨_, h2, _⟩ <;> omega
  have hy16 : y + m ≤ 16 := by
    rcases hsp with ⟨_, h2, _, h4⟩ | ⟨_, h2, _⟩ <;> omega
  obtain ⟨co1, hx1, k1⟩ := q_mdX ld co xmo fm (nI m) lvs (ml := ml) hn (by omega : x < 16) (by omega : y < 16) hml hs (by omega) hxr
  obtain ⟨hs1, _, _, _⟩ := s_md_ok ld n hs hmq
  obtain ⟨f1, l1, sm1, co2, e2, hx2, hs2⟩ := q_leafX ld co1 vals xlv g (nI md) f l sm (nI m) lg hn hsd hs1 (by omega) hx1
  obtain ⟨cf1, bt1, rs1, rf1, un1, e3⟩ := q_build (s_lf ld n (vals 1) (vals 2) lg x y (s_md ld n ml s).2 g xlv).1 lvs ps vals xpl xpd (s_lf ld n (vals 1) (vals 2) lg x y (s_md ld n ml s).2 g xlv).2.2.2 xmo xsd cf bt rs rf un hm hmd7 hx16 hy16 hq hq2 hv
  refine ⟨f1, l1, sm1, co2, (s_lf ld n (vals 1) (vals 2) lg x y (s_md ld n ml s).2 g xlv).2.2.1, cf1, bt1, rs1, rf1, un1, ?_, hx2, hs2.mono (by omega)⟩
  unfold fPI_readUnit_B94
  rw [if_neg (show ¬ nI N ≤ nI P from nI_ge hP (by omega)), em, e_b1, ex, ey]
  unfold fLF_moveTo
  rw [e_b4, k1, hmd, e2, e_b11, e3, e_b10, e_lt, nI_1]
