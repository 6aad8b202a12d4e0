/-! a unit's bytes, both sides -/
theorem q_copyU (f : Nat → Int32) {c E : Nat} (hc : c ≤ 240) (hE : E ≤ c) (hst : E = c ∨ st f c E = true) : ∀ (k p zr ln fuel : Nat) (gX gM : Nat → Int32), p + k = E → k < fuel → (∀ r, p ≤ r → r < E → ¬ st f c r = true) → zr ≤ p → ln ≤ p → (∀ i, i < ln → gX i = gM i) → ∃ (zr1 ln1 : Nat) (gX1 gM1 : Nat → Int32), ip_lp4 (fFB_choose_B22 (nI c) f) fuel (nI zr) (nI p) (nI ln) gX = some (nI zr1, nI E, nI ln1, gX1) ∧ ip_lp4 (fMO_open_B62 f (nI E)) fuel (nI zr) (nI p) (nI ln) gM = some (nI zr1, nI E, nI ln1, gM1) ∧ ln1 ≤ E ∧ ∀ i, i < ln1 → gX1 i = gM1 i := by
  intro k
  induction k with
  | zero =>
    intro p zr ln fuel gX gM h hf hn hz hl ha
    obtain ⟨f0, rfl⟩ : ∃ f, fuel = f + 1 := ⟨fuel - 1, by omega⟩
    have e : p = E := by omega
    subst e
    refine ⟨zr, ln, gX, gM, l_ex4 ?_, l_ex4 ?_, hl, ha⟩
    · unfold fFB_choose_B22
      by_cases d : p = c
      · rw [if_pos (show nI c ≤ nI p by rw [d]; exact Int32.le_refl _)]
      · have s := hst.resolve_left d
        rw [if_neg (show ¬ nI c ≤ nI p from nI_ge (by omega) (by omega)), q_stX (nI ln) f hc (by omega), e_b1, if_pos s, if_neg (by decide)]
    · unfold fMO_open_B62
      rw [if_pos (Int32.le_refl _)]
  | succ k ih =>
    intro p zr ln fuel gX gM h hf hn hz hl ha
    obtain ⟨f0, rfl⟩ : ∃ f, fuel = f + 1 := ⟨fuel - 1, by omega⟩
    have hp : p < c := by omega
    have s := hn p (by omega) (by omega)
    have n0 : ¬ nI c ≤ nI p := nI_ge hp (by omega)
    have n1 : ¬ nI E ≤ nI p := nI_ge (by omega) (by omega)
    have lf : ip_ald 240 f (nI p) = some (f p) := e_ald 240 f _ p rfl (by omega) (by omega)
    have sX : ip_ast 240 gX (nI ln) (f p) = some (upd gX ln (f p)) := e_ast 240 gX _ _ ln rfl (by omega) (by omega)
    have sM : ip_ast 240 gM (nI ln) (f p) = some (upd gM ln (f p)) := e_ast 240 gM _ _ ln rfl (by omega) (by omega)
    have hn' : ∀ r, p + 1 ≤ r → r < E → ¬ st f c r = true := fun r h1 h2 => hn r (by omega) h2
    have ha' : ∀ i, i < ln + 1 → upd gX ln (f p) i = upd gM ln (f p) i := by
      intro i hi
      by_cases d : i = ln
      · subst d
        rw [u_0, u_0]
      · rw [u_n d, u_n d]
        exact ha i (by omega)
    by_cases z2 : zr < 2
    · have hz2 : nI zr < (2 : Int32) := nI_lt (b := 2) z2 (by omega)
      have stp : ∃ zr2, zr2 ≤ p + 1 ∧ fFB_choose_B22 (nI c) f (nI zr) (nI p) (nI ln) gX = some (.inl (nI zr2, nI (p + 1), nI (ln + 1), upd gX ln (f p))) ∧ fMO_open_B62 f (nI E) (nI zr) (nI p) (nI ln) gM = some (.inl (nI zr2, nI (p + 1), nI (ln + 1), upd gM ln (f p))) := by
        unfold fFB_choose_B22 fMO_open_B62
        rw [if_neg n0, q_stX (nI ln) f hc hp, e_b1, if_neg s, if_pos rfl, if_pos hz2, lf, e_b1, sX, e_b1, e_lt, e_b1, if_neg n1, if_pos hz2, e_b1, e_b1, if_pos rfl, e_b1, if_pos rfl, sM, e_b1, e_lt]
        by_cases b : f p = 0
        · refine ⟨zr + 1, by omega, ?_, ?_⟩
          · rw [if_pos b, e_b1, e_b3, e_lt, nI_1, nI_1, nI_1]
          · rw [if_pos b, e_b1, e_b2, e_lt, nI_1, nI_1, nI_1]
        · refine ⟨0, by omega, ?_, ?_⟩
          · rw [if_neg b, e_b1, e_b3, e_lt, nI_1, nI_1]
            rfl
          · rw [if_neg b, e_b1, e_b2, e_lt, nI_1, nI_1]
            rfl
      obtain ⟨zr2, hz3, eX, eM⟩ := stp
      obtain ⟨zr1, ln1, gX1, gM1, e1, e2, h1, h2⟩ := ih (p + 1) zr2 (ln + 1) f0 _ _ (by omega) (by omega) hn' (by omega) (by omega) ha'
      exact ⟨zr1, ln1, gX1, gM1, (l_in4 eX).trans e1, (l_in4 eM).trans e2, h1, h2⟩
    · have hz2 : ¬ nI zr < (2 : Int32) := nI_nlt (b := 2) (by omega) (by omega)
      by_cases t : f p = 3
      · have eX : fFB_choose_B22 (nI c) f (nI zr) (nI p) (nI ln) gX = some (.inl (nI 0, nI (p + 1), nI ln, gX)) := by
          unfold fFB_choose_B22
          rw [if_neg n0, q_stX (nI ln) f hc hp, e_b1, if_neg s, if_pos rfl, if_neg hz2, lf, e_b1, if_pos t, e_b3, e_lt, nI_1]
          rfl
        have eM : fMO_open_B62 f (nI E) (nI zr) (nI p) (nI ln) gM = some (.inl (nI 0, nI (p + 1), nI ln, gM)) := by
          unfold fMO_open_B62
          rw [if_neg n1, if_neg hz2, lf, e_b1, if_pos t, e_b1, e_b1, if_neg (show ¬ f p = 0 by rw [t]; decide), e_b1, if_neg (by decide), e_b2, e_lt, nI_1]
          rfl
        obtain ⟨zr1, ln1, gX1, gM1, e1, e2, h1, h2⟩ := ih (p + 1) 0 ln f0 gX gM (by omega) (by omega) hn' (by omega) (by omega) ha
        exact ⟨zr1, ln1, gX1, gM1, (l_in4 eX).trans e1, (l_in4 eM).trans e2, h1, h2⟩
      · have stp : ∃ zr2, zr2 ≤ p + 1 ∧ fFB_choose_B22 (nI c) f (nI zr) (nI p) (nI ln) gX = some (.inl (nI zr2, nI (p + 1), nI (ln + 1), upd gX ln (f p))) ∧ fMO_open_B62 f (nI E) (nI zr) (nI p) (nI ln) gM = some (.inl (nI zr2, nI (p + 1), nI (ln + 1), upd gM ln (f p))) := by
          unfold fFB_choose_B22 fMO_open_B62
          rw [if_neg n0, q_stX (nI ln) f hc hp, e_b1, if_neg s, if_pos rfl, if_neg hz2, lf, e_b1, if_neg t, e_b1, sX, e_b1, e_lt, e_b1, if_neg n1, if_neg hz2, e_b1, if_neg t, e_b1, e_b1, if_pos rfl, e_b1, if_pos rfl, sM, e_b1, e_lt]
          by_cases b : f p = 0
          · refine ⟨zr + 1, by omega, ?_, ?_⟩
            · rw [if_pos b, e_b1, e_b3, e_lt, nI_1, nI_1, nI_1]
            · rw [if_pos b, e_b1, e_b2, e_lt, nI_1, nI_1, nI_1]
          · refine ⟨0, by omega, ?_, ?_⟩
            · rw [if_neg b, e_b1, e_b3, e_lt, nI_1, nI_1]
              rfl
            · rw [if_neg b, e_b1, e_b2, e_lt, nI_1, nI_1]
              rfl
        obtain ⟨zr2, hz3, eX, eM⟩ := stp
        obtain ⟨zr1, ln1, gX1, gM1, e1, e2, h1, h2⟩ := ih (p + 1) zr2 (ln + 1) f0 _ _ (by omega) (by omega) hn' (by omega) (by omega) ha'
        exact ⟨zr1, ln1, gX1, gM1, (l_in4 eX).trans e1, (l_in4 eM).trans e2, h1, h2⟩
theorem q_open (len a2 a3 a4 a5 a6 a7 a8 a9 : Int32) (f gX gM : Nat → Int32) {c : Nat} (hc : c ≤ 240) (J : Int32) : ((∃ j, j < cn f c 0 ∧ J = nI j) ∧ ∃ (n : Nat) (gX1 gM1 : Nat → Int32), n ≤ 240 ∧ fFB_choose (nI c) len f gX J = some (1, nI n, gX1) ∧ fMO_open (nI c) a2 a3 a4 a5 a6 a7 a8 a9 f gM J = some (1, nI n, gM1) ∧ ∀ i, i < n → gX1 i = gM1 i) ∨ ((¬ ∃ j, j < cn f c 0 ∧ J = nI j) ∧ fFB_choose (nI c) len f gX J = some (0, 0, gX) ∧ fMO_open (nI c) a2 a3 a4 a5 a6 a7 a8 a9 f gM J = some (0, a2, gM)) := by
  have hcn := cn_le (f := f) (c := c) c 0 (by omega)
  by_cases neg : J < 0
  · refine Or.inr ⟨?_, ?_, ?_⟩
    · rintro ⟨j, h1, h2⟩
      rw [h2] at neg
      exact nI_pos (by omega) neg
    · have e := q_kthXn len f (J := J) hc neg c 0 0 1000 (by omega) (by omega) (by omega)
      rw [nI_0] at e
      unfold fFB_choose fFB_firstByteOf
      rw [e, e_b1, if_neg (by decide)]
    · unfold fMO_open
      rw [if_pos neg]
  · obtain ⟨j, hj, rfl⟩ := nI_of neg
    by_cases hu : j < cn f c 0
    · obtain ⟨g1, g2, g3⟩ := kth_facts j 0 (by omega) hu
      have s3 := st_le g2
      obtain ⟨h1, h2, h3, h4, h5, h6⟩ := nx_facts (f := f) (c := c) (c - (kth f c j 0 + 3)) (kth f c j 0 + 3) (by omega)
      obtain ⟨zr1, ln1, gX1, gM1, e1, e2, k1, k2⟩ := q_copyU f hc h2 h4 (nx f c (kth f c j 0 + 3) - (kth f c j 0 + 3)) (kth f c j 0 + 3) 0 0 1000 gX gM (by omega) (by omega) h3 (by omega) (by omega) (fun i hi => by omega)
      rw [nI_0] at e1 e2
      refine Or.inl ⟨⟨j, hu, rfl⟩, ln1, gX1, gM1, by omega, ?_, ?_, k2⟩
      · have e := q_kthX len f (J := j) hc (by omega) c 0 0 1000 (by omega) (by omega) (by omega) (by omega)
        rw [nI_0, Nat.sub_zero, if_pos hu] at e
        unfold fFB_choose fFB_firstByteOf
        rw [e, e_b1, if_pos (nI_pos' (by omega)), e1, e_b4]
      · have e := q_kthM a2 a3 a4 a5 a6 a7 a8 a9 f (J := j) hc (by omega) j 0 0 1000 (by omega) (by omega) hu (by omega)
        rw [nI_0] at e
        have e0 := q_stM a2 a3 a4 a5 a6 a7 a8 a9 f (p := 0) hc (by omega)
        rw [nI_0] at e0
        unfold fMO_open
        rw [if_neg (nI_pos (by omega)), q_unitsM a2 a3 a4 a5 a6 a7 a8 a9 f hc, e_b1, if_pos (nI_lt hu (by omega)), e0, e_b1, e, e_b2, show nI (kth f c j 0) + (3 : Int32) = nI (kth f c j 0 + 3) from nI_add _ 3, q_stM a2 a3 a4 a5 a6 a7 a8 a9 f hc s3, e_b1, e_lt, e2, e_b4]
    · refine Or.inr ⟨?_, ?_, ?_⟩
      · rintro ⟨j2, h1, h2⟩
        have := (nI_eq (by omega) (by omega)).mp h2
        omega
      · have e : ip_b1 (ip_lp2 (fFB_firstByteOf_B4 (nI c) len f (nI j)) 1000 (nI 0) (nI 0)) (fun X4 => ip_cs2 X4 (fun x3 x4 => some (-1 : Int32)) (fun q => some q)) = some (-1) := by
          have e := q_kthX len f (J := j) hc hj c 0 0 1000 (by omega) (by omega) (by omega) (by omega)
          rw [Nat.sub_zero, if_neg hu] at e
          exact e
        rw [nI_0] at e
        unfold fFB_choose fFB_firstByteOf
        rw [e, e_b1, if_neg (by decide)]
      · unfold fMO_open
        rw [if_neg (nI_pos (by omega)), q_unitsM a2 a3 a4 a5 a6 a7 a8 a9 f hc, e_b1, if_neg (show ¬ nI j < nI (cn f c 0) from nI_nlt (by omega) (by omega))]
