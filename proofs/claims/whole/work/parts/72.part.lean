/-! one leaf, both sides -/
theorem q_mlX (md sk sd lvs : Int32) {mo : Nat → Int32} {x y : Nat} {ml : Int32} (hx : x < 16) (hy : y < 16) (h : (x = 0 ∧ ml = 1) ∨ (0 < x ∧ mo (16 * y + x - 1) = ml)) : fPI_modeToTheLeft (nI x) (nI y) sd md sk lvs mo = some ml := by
  unfold fPI_modeToTheLeft
  rcases h with ⟨h0, h1⟩ | ⟨h0, h1⟩
  · rw [if_pos (show nI x = 0 by rw [h0]; rfl), h1]
  · rw [if_neg (nI_ne0 h0 (by omega))]
    have e : fLF_placeInPicture (nI x) (nI y) sd md sk (-1) 0 = some (nI (16 * y + x - 1)) := by
      unfold fLF_placeInPicture
      obtain ⟨x1, rfl⟩ : ∃ x1, x = x1 + 1 := ⟨x - 1, by omega⟩
      rw [pk_m1, Int32.add_zero]
      unfold fIP_placeOf
      rw [e_b1, show (16 : Int32) = nI 16 from rfl, pk_mul, nI_add]
      congr 2
      omega
    rw [e, e_b1, e_ald 256 mo _ (16 * y + x - 1) rfl (by omega) (by omega), e_b1, h1]
theorem q_mdX (ld co mo : Nat → Int32) (md sd lvs : Int32) {n b x y : Nat} {s : DS} {ml : Int32} (hn : n ≤ 240) (hx : x < 16) (hy : y < 16) (hml : (x = 0 ∧ ml = 1) ∨ (0 < x ∧ mo (16 * y + x - 1) = ml)) (hs : DOK b s) (hb : b + 100 < 2 ^ 30) (hxr : XR s co) : ∃ co1 : Nat → Int32, XR (s_md ld n ml s).2 co1 ∧ ∀ (T : Type) (K : Int32 → (Nat → Int32) → Int32 → Int32 → Int32 → (Nat → Int32) → Option T), ip_b6 (fBD_bin (nI (s.2.2.2.2.2 + 8)) (nI (8 * n)) s.2.2.2.1 s.2.2.2.2.1 ld s.1 co (3 : Int32)) (fun z130 z131 z132 z133 g134 g135 =>
ip_b4 ((if z130 = (1 : Int32) then
(ip_b1 (fPI_modeToTheLeft (nI x) (nI y) sd md (0 : Int32) lvs mo) (fun z144 =>
some (z144, z131, z133, g135)))
else
(ip_b4 (fBD_freeBits z131 (nI (8 * n)) z132 z133 ld g135 (3 : Int32)) (fun z140 z141 z142 g143 =>
some (z140, z141, z142, g143))))) (fun z136 z137 z138 g139 => K z132 g134 z136 z137 z138 g139)) = K (s_md ld n ml s).2.2.2.2.1 (s_md ld n ml s).2.1 (s_md ld n ml s).1 (nI ((s_md ld n ml s).2.2.2.2.2.2 + 8)) (s_md ld n ml s).2.2.2.2.2.1 co1 := by
  obtain ⟨co1, e1, h0, h1⟩ := q_binX ld co (c := 3) hn (by omega) hs (by omega) hxr.1 hxr.2
  have hs1 := s_bin_ok ld n (c := 3) (by omega) hs
  rw [show nI 3 = (3 : Int32) from rfl] at e1
  by_cases c : (s_bin ld n s 3).1 = 1
  · have em : s_md ld n ml s = (ml, (s_bin ld n s 3).2) := by
      unfold s_md
      rw [if_pos c]
    refine ⟨co1, ?_, ?_⟩
    · rw [em]
      exact ⟨h0, h1⟩
    · intro T K
      rw [e1, e_b6, if_pos c, q_mlX md 0 sd lvs hx hy hml, e_b1, e_b4, em]
  · have em : s_md ld n ml s = s_frs ld n 3 0 (s_bin ld n s 3).2 := by
      unfold s_md
      rw [if_neg c]
    obtain ⟨co2, e2, h2, h3⟩ := q_freeX ld co1 (N := 3) hn (by omega) hs1 (by omega) h0 h1
    rw [show nI 3 = (3 : Int32) from rfl] at e2
    obtain ⟨f1, _, _, f4, _⟩ := s_frs_c ld n 3 0 (s_bin ld n s 3).2
    refine ⟨co2, ?_, ?_⟩
    · rw [em]
      exact ⟨h2, h3⟩
    · intro T K
      rw [e1, e_b6, if_neg c, e2, e_b4, e_b4, em, f1, f4]
