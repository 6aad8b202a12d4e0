/-! the answers, both sides -/
theorem a_units (xs xl ml ma mf mg mp mr mv mn : Int32) (f : Nat → Int32) {c : Nat} (hc : c ≤ 240) : ∃ a, fIP_units xs (nI c) xl f = some a ∧ fMO_units (nI c) ml ma mf mg mp mr mv mn f = some a := by
  refine ⟨nI (cn f c 0), ?_, q_unitsM ml ma mf mg mp mr mv mn f hc⟩
  unfold fIP_units
  rw [q_unitsX xl f hc, e_b1]
theorem a_payload (xs xl ml ma mf mg mp mr mv mn p q : Int32) (f ck md : Nat → Int32) {c : Nat} (hc : c ≤ 240) : ∃ (a xl1 ml1 : Int32) (ck1 md1 : Nat → Int32), fIP_payload xs (nI c) xl f ck p q = some (a, xl1, ck1) ∧ fMO_payload (nI c) ml ma mf mg mp mr mv mn f md p q = some (a, ml1, md1) := by
  unfold fIP_payload fMO_payload
  rcases q_open xl ml ma mf mg mp mr mv mn f ck md hc p with ⟨_, n, ck1, md1, hn, eX, eM, ha⟩ | ⟨_, eX, eM⟩
  · have d1 : ¬ (1 : Int32) = 0 := by decide
    rw [eX, e_b3, eM, e_b3, if_neg d1, if_neg d1]
    by_cases c1 : q = -1
    · subst c1
      have h1 : (-1 : Int32) < nI n := Int32.lt_of_lt_of_le (by decide) (nI_pos' (by omega))
      rw [if_pos rfl, if_neg (show ¬ (-1 : Int32) < -1 by decide), if_pos h1, if_pos rfl]
      exact ⟨nI n, nI n, nI n, ck1, md1, rfl, rfl⟩
    · rw [if_neg c1]
      by_cases c2 : q < 0
      · have h1 : q < -1 := by
          rw [Int32.lt_iff_toInt_lt] at c2 ⊢
          have e0 : (0 : Int32).toInt = 0 := rfl
          have e1 : (-1 : Int32).toInt = -1 := rfl
          have e2 : q.toInt ≠ -1 := fun h => c1 (Int32.toInt_inj.mp (h.trans e1.symm))
          omega
        rw [if_pos c2, if_pos h1]
        exact ⟨-1, nI n, nI n, ck1, md1, rfl, rfl⟩
      · obtain ⟨j, hj, rfl⟩ := nI_of c2
        have h1 : ¬ nI j < -1 := fun h => absurd (Int32.lt_trans h (by decide)) c2
        rw [if_neg c2, if_neg h1]
        by_cases c3 : n ≤ j
        · rw [if_pos ((nI_leI (by omega) hj).mpr c3), if_neg (nI_nlt c3 hj)]
          exact ⟨-1, nI n, nI n, ck1, md1, rfl, rfl⟩
        · rw [if_neg (nI_ge (by omega) (by omega)), if_pos (nI_lt (by omega) (by omega)), if_neg c1, e_ald 240 ck1 _ j rfl (by omega) (by omega), e_b1, e_ald 240 md1 _ j rfl (by omega) (by omega), e_b1]
          exact ⟨ck1 j, nI n, nI n, ck1, md1, rfl, by rw [ha j (by omega)]⟩
  · rw [eX, e_b3, eM, e_b3, if_pos rfl, if_pos rfl]
    exact ⟨-1, 0, ml, ck, md, rfl, rfl⟩
/-- one of a short row, if there is one -/
theorem a_row {st : Int32} {n : Nat} {N N1 : Int32} (d p : Int32) {u v : Nat → Int32} (hn : n < 2 ^ 31) (hN : N = nI n) (h1 : N1 = nI (n - 1)) (hp : 1 ≤ n) (h0 : st = 0 ∨ st = 1) (h : st = 1 → ∀ i, i < n → u i = v i) : ∃ a, (if st = 0 then some d else if p < 0 then some d else if N ≤ p then some d else ip_b1 (ip_ald n u p) (fun z => some z)) = some a ∧ (if st = 0 then some d else if p < 0 then some d else if N1 < p then some d else ip_b1 (ip_ald n v p) (fun z => some z)) = some a := by
  subst hN
  subst h1
  by_cases c0 : st = 0
  · rw [if_pos c0, if_pos c0]
    exact ⟨d, rfl, rfl⟩
  · have e := h (h0.resolve_left c0)
    rw [if_neg c0, if_neg c0]
    by_cases c1 : p < 0
    · rw [if_pos c1, if_pos c1]
      exact ⟨d, rfl, rfl⟩
    · rw [if_neg c1, if_neg c1]
      obtain ⟨j, hj, rfl⟩ := nI_of c1
      by_cases c2 : n ≤ j
      · rw [if_pos ((nI_leI hn hj).mpr c2), if_pos (nI_lt (by omega) hj)]
        exact ⟨d, rfl, rfl⟩
      · rw [if_neg (nI_ge (by omega) hn), if_neg (nI_nlt (by omega) (by omega)), e_ald n u _ j rfl (by omega) hn, e_b1, e_ald n v _ j rfl (by omega) hn, e_b1]
        exact ⟨u j, rfl, by rw [e j (by omega)]⟩
theorem a_param (xs xq ml ma mf mp mr mv mn p sz : Int32) {xt mg : Int32} {va gv : Nat → Int32} (e : xt = mg) (h0 : mg = 0 ∨ mg = 1) (h : mg = 1 → GivOK va gv) : ∃ a, fIP_parameter xs xt xq va p = some a ∧ fMO_parameter sz ml ma mf mg mp mr mv mn gv p = some a := by
  subst e
  unfold fIP_parameter fMO_parameter
  exact a_row (n := 10) (-100) p (by omega) rfl rfl (by omega) h0 (fun q => (h q).1)
theorem a_chance (r v sz ml ma mf mg mr mv mn p : Int32) {xs mp : Int32} {ch mch : Nat → Int32} (e : xs = mp) (h0 : mp = 0 ∨ mp = 1) (h : mp = 1 → ∀ j, j < 14 → ch j = mch j) : ∃ a, fIP_chance xs r v ch p = some a ∧ fMO_chance sz ml ma mf mg mp mr mv mn mch p = some a := by
  subst e
  unfold fIP_chance fMO_chance
  exact a_row (n := 14) (-1) p (by omega) rfl rfl (by omega) h0 h
theorem a_took (r v sz ml ma mf mg mr mv mn p : Int32) {xs mp : Int32} {co mco : Nat → Int32} (e : xs = mp) (h0 : mp = 0 ∨ mp = 1) (h : mp = 1 → ∀ j, j < 3 → co j = mco j) : ∃ a, fIP_took xs r v co p = some a ∧ fMO_took sz ml ma mf mg mp mr mv mn mco p = some a := by
  subst e
  unfold fIP_took fMO_took
  exact a_row (n := 3) (-1) p (by omega) rfl rfl (by omega) h0 h
/-- is the place in the picture? -/
theorem a_seen (sz ml ma mf mg mr mv mn p q : Int32) {mp : Int32} (h : mp = 1) : (fIP_inPicture p q = some 1 ∧ fMO_seen sz ml ma mf mg mp mr mv mn p q = some 1 ∧ ∃ i j, i < 16 ∧ j < 16 ∧ p = nI i ∧ q = nI j) ∨ (fIP_inPicture p q = some 0 ∧ fMO_seen sz ml ma mf mg mp mr mv mn p q = some 0) := by
  subst h
  have d1 : ¬ (1 : Int32) = 0 := by decide
  unfold fIP_inPicture fMO_seen
  rw [if_neg d1]
  by_cases c1 : p < 0
  · rw [if_pos c1, if_pos c1]
    exact Or.inr ⟨rfl, rfl⟩
  · rw [if_neg c1, if_neg c1]
    obtain ⟨i, hi, rfl⟩ := nI_of c1
    by_cases c2 : 16 ≤ i
    · rw [if_pos (show (16 : Int32) ≤ nI i from nI_le (a := 16) c2 hi), if_pos (show (15 : Int32) < nI i from nI_lt (a := 15) (by omega) hi)]
      exact Or.inr ⟨rfl, rfl⟩
    · rw [if_neg (show ¬ (16 : Int32) ≤ nI i from nI_ge (b := 16) (by omega) (by omega)), if_neg (show ¬ (15 : Int32) < nI i from nI_nlt (a := 15) (by omega) (by omega))]
      by_cases c3 : q < 0
      · rw [if_pos c3, if_pos c3]
        exact Or.inr ⟨rfl, rfl⟩
      · rw [if_neg c3, if_neg c3]
        obtain ⟨j, hj, rfl⟩ := nI_of c3
        by_cases c4 : 16 ≤ j
        · rw [if_pos (show (16 : Int32) ≤ nI j from nI_le (a := 16) c4 hj), if_pos (show (15 : Int32) < nI j from nI_lt (a := 15) (by omega) hj)]
          exact Or.inr ⟨rfl, rfl⟩
        · rw [if_neg (show ¬ (16 : Int32) ≤ nI j from nI_ge (b := 16) (by omega) (by omega)), if_neg (show ¬ (15 : Int32) < nI j from nI_nlt (a := 15) (by omega) (by omega))]
          exact Or.inl ⟨rfl, rfl, i, j, by omega, by omega, rfl, rfl⟩
theorem a_place (i j : Nat) : nI j * (16 : Int32) + nI i = nI (j * 16 + i) ∧ (16 : Int32) * nI j + nI i = nI (j * 16 + i) := by
  refine ⟨?_, ?_⟩
  · rw [show nI j * (16 : Int32) = nI (j * 16) from pk_mul j 16, nI_add]
  · rw [show (16 : Int32) * nI j = nI (16 * j) from pk_mul 16 j, nI_add, Nat.mul_comm]
theorem a_at (sz ml ma mf mg mr mv mn p q d : Int32) {xs mp : Int32} {u v : Nat → Int32} (e : xs = mp) (h0 : mp = 0 ∨ mp = 1) (h : mp = 1 → Eq2 u v) : ∃ a, ip_b1 (fIP_answerAt xs u p q d) (fun z => some z) = some a ∧ ip_b1 (fMO_seen sz ml ma mf mg mp mr mv mn p q) (fun z1 => if z1 = 0 then some d else ip_b1 (ip_ald 256 v ((16 : Int32) * q + p)) (fun z2 => some z2)) = some a := by
  subst e
  unfold fIP_answerAt
  rcases h0 with c0 | c0
  · refine ⟨d, by rw [if_pos c0, e_b1], ?_⟩
    unfold fMO_seen
    rw [if_pos c0, e_b1, if_pos rfl]
  · rw [if_neg (show ¬ xs = 0 from fun w => by rw [c0] at w; exact absurd w (by decide))]
    rcases a_seen sz ml ma mf mg mr mv mn p q c0 with ⟨e1, e2, i, j, hi, hj, rfl, rfl⟩ | ⟨e1, e2⟩
    · rw [e1, e_b1, if_neg (show ¬ (1 : Int32) = 0 by decide), e2, e_b1, if_neg (show ¬ (1 : Int32) = 0 by decide)]
      unfold fIP_placeOf
      rw [e_b1, e_ald 256 u _ (j * 16 + i) (a_place i j).1 (by omega) (by omega), e_b1, e_b1, e_ald 256 v _ (j * 16 + i) (a_place i j).2 (by omega) (by omega), e_b1]
      exact ⟨u (j * 16 + i), rfl, by rw [h c0 _ (by omega)]⟩
    · rw [e1, e_b1, if_pos rfl, e_b1, e2, e_b1, if_pos rfl]
      exact ⟨d, rfl, rfl⟩
theorem a_own (sz ml ma mf mg mr mv mn p q d : Int32) {xs mp : Int32} {u ow v : Nat → Int32} (e : xs = mp) (h0 : mp = 0 ∨ mp = 1) (h : mp = 1 → ∀ p, p < 256 → ∃ o, o < 16 ∧ ow p = nI o ∧ u p = v o) : ∃ a, ip_b1 (fIP_answerAt xs u p q d) (fun z => some z) = some a ∧ ip_b1 (fMO_seen sz ml ma mf mg mp mr mv mn p q) (fun z1 => if z1 = 0 then some d else ip_b1 (ip_ald 256 ow ((16 : Int32) * q + p)) (fun z2 => ip_b1 (ip_ald 16 v z2) (fun z3 => some z3))) = some a := by
  subst e
  unfold fIP_answerAt
  rcases h0 with c0 | c0
  · refine ⟨d, by rw [if_pos c0, e_b1], ?_⟩
    unfold fMO_seen
    rw [if_pos c0, e_b1, if_pos rfl]
  · rw [if_neg (show ¬ xs = 0 from fun w => by rw [c0] at w; exact absurd w (by decide))]
    rcases a_seen sz ml ma mf mg mr mv mn p q c0 with ⟨e1, e2, i, j, hi, hj, rfl, rfl⟩ | ⟨e1, e2⟩
    · rw [e1, e_b1, if_neg (show ¬ (1 : Int32) = 0 by decide), e2, e_b1, if_neg (show ¬ (1 : Int32) = 0 by decide)]
      unfold fIP_placeOf
      obtain ⟨o, ho, w1, w2⟩ := h c0 (j * 16 + i) (by omega)
      rw [e_b1, e_ald 256 u _ (j * 16 + i) (a_place i j).1 (by omega) (by omega), e_b1, e_b1, e_ald 256 ow _ (j * 16 + i) (a_place i j).2 (by omega) (by omega), e_b1, e_ald 16 v _ o w1 ho (by omega), e_b1]
      exact ⟨u (j * 16 + i), rfl, by rw [w2]⟩
    · rw [e1, e_b1, if_pos rfl, e_b1, e2, e_b1, if_pos rfl]
      exact ⟨d, rfl, rfl⟩
