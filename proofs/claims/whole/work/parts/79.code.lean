/-! codes of the parameters, both sides -/
theorem codX_bad (th : Int32) (ld : Nat → Int32) {n : Nat} {f : Int32} (hn : n ≤ 240) (hf : ¬ f = 0) : ∀ (k i fuel t : Nat), i + k = 7 → k < fuel → t + k < 2 ^ 28 → ∃ c t1, c ≤ 7 ∧ t1 ≤ t + k ∧ ip_lp3 (fPA_code_B2 (nI (8 * n)) th ld) fuel (nI i) (nI (t + 8)) f = some (nI c, nI (t1 + 8), f) := by
  intro k
  induction k with
  | zero =>
    intro i fuel t hi hfu ht
    obtain ⟨f0, rfl⟩ : ∃ f, fuel = f + 1 := ⟨fuel - 1, by omega⟩
    have e : i = 7 := by omega
    subst e
    refine ⟨7, t, by omega, by omega, l_ex3 ?_⟩
    unfold fPA_code_B2
    rw [if_pos (show (7 : Int32) ≤ nI 7 by decide)]
  | succ k ih =>
    intro i fuel t hi hfu ht
    obtain ⟨f0, rfl⟩ : ∃ f, fuel = f + 1 := ⟨fuel - 1, by omega⟩
    obtain ⟨v1, e1⟩ := numX_bad th ld (N := 1) (f := f) hn (by omega) hf 1 0 1000 t 0 (by omega) (by omega) (by omega)
    have e2 : fPA_number (nI (t + 8)) (nI (8 * n)) th f ld (1 : Int32) = some (v1, nI (t + 1 + 8), f) := by
      unfold fPA_number
      rw [nI_0] at e1
      rw [show ip_lp4 (fPA_number_B4 (nI (8 * n)) th ld (1 : Int32)) 1000 (0 : Int32) (0 : Int32) (nI (t + 8)) f = some (v1, nI 1, nI (t + 1 + 8), f) from e1, e_b4]
    by_cases c : v1 = 0
    · obtain ⟨c1, t1, w1, w2, e3⟩ := ih (i + 1) f0 (t + 1) (by omega) (by omega) (by omega)
      refine ⟨c1, t1, w1, by omega, (l_in3 ?_).trans e3⟩
      unfold fPA_code_B2
      rw [if_neg (show ¬ (7 : Int32) ≤ nI i from nI_ge (b := 7) (by omega) (by omega)), e2, e_b3, if_pos c, e_lt, nI_1]
    · refine ⟨i, t + 1, by omega, by omega, l_ex3 ?_⟩
      unfold fPA_code_B2
      rw [if_neg (show ¬ (7 : Int32) ≤ nI i from nI_ge (b := 7) (by omega) (by omega)), e2, e_b3, if_neg c]
theorem codM_bad (a1 a2 a5 a6 a7 a8 a9 : Int32) (ld : Nat → Int32) {z v a f : Int32} {fuel : Nat} (hf : ¬ f = 0) : ip_lp4 (fMO_code_B8 a1 a2 a5 a6 a7 a8 a9 ld) (fuel + 1) z v a f = some (z, v, a, f) := by
  refine l_ex4 ?_
  unfold fMO_code_B8
  by_cases c : v = 0
  · rw [if_pos c, if_neg hf]
  · rw [if_neg c]
theorem cod_good (th a1 a5 a6 a7 a8 a9 : Int32) {ld mld : Nat → Int32} {n : Nat} (hn : n ≤ 240) (h1 : 1 ≤ n) (hld : sb ld n = sb mld n) : ∀ (k i fuel t : Nat), i + k = 6 → k + 3 < fuel → t + k + 20 < 2 ^ 28 → ∃ (x4 pX x8 v9 aM fX fM : Int32) (t1 : Nat), ip_lp3 (fPA_code_B2 (nI (8 * n)) th ld) fuel (nI i) (nI (t + 8)) 0 = some (x4, pX, fX) ∧ ip_b3 (fMO_needed a1 (nI n) (nI t) 0 a5 a6 a7 a8 a9 mld (1 : Int32)) (fun z1 z2 z3 => ip_lp4 (fMO_code_B8 a1 (nI n) a5 a6 a7 a8 a9 mld) fuel (nI i) z1 z2 z3) = some (x8, v9, aM, fM) ∧ t1 ≤ t + k + 1 ∧ pX = nI (t1 + 8) ∧ ((∃ c, c ≤ 6 ∧ x4 = nI c ∧ x8 = nI c ∧ fX = 0 ∧ fM = 0 ∧ aM = nI t1) ∨ (x4 = nI 7 ∧ fX = 0 ∧ fM = -3) ∨ (fX = -4 ∧ fM = -4 ∧ ∃ c, c ≤ 7 ∧ x4 = nI c)) := by
  intro k
  induction k with
  | zero =>
    intro i fuel t hi hfu ht
    obtain ⟨f0, rfl⟩ : ∃ f, fuel = f + 3 := ⟨fuel - 3, by omega⟩
    have ei : i = 6 := by omega
    subst ei
    obtain ⟨vX, pX1, vM, aM1, f1, e1, e2, ⟨t1, ht1, hp1, ha1⟩, w2, w3, w4⟩ := q_num th a1 a5 a6 a7 a8 a9 (N := 1) (T := t) (pX := nI (t + 8)) (f := 0) (aM := nI t) hn h1 (by omega) hld (by omega) ⟨t, by omega, rfl, fun _ => rfl⟩
    have eN : (7 : Int32) ≤ nI 7 := by decide
    have nN : ¬ (7 : Int32) ≤ nI 6 := by decide
    rw [show nI 1 = (1 : Int32) from rfl] at e1 e2
    rw [e2, e_b3]
    rcases w4 rfl with f0' | f4
    · subst f0'
      obtain ⟨_, wv, j, hj, ej⟩ := w2 rfl
      by_cases c : j = 0
      · subst c
        refine ⟨nI 7, pX1, nI 7, vM, aM1, 0, -3, t1, ?_, ?_, by omega, hp1, Or.inr (Or.inl ⟨rfl, rfl, rfl⟩)⟩
        · refine (l_in3 (b1 := nI 7) (b2 := pX1) (b3 := 0) ?_).trans (l_ex3 ?_)
          · unfold fPA_code_B2
            rw [if_neg nN, e1, e_b3, if_pos (by rw [ej]; rfl), e_lt, nI_1]
          · unfold fPA_code_B2
            rw [if_pos eN]
        · refine (l_in4 (b1 := nI 7) (b2 := vM) (b3 := aM1) (b4 := -3) ?_).trans (codM_bad a1 (nI n) a5 a6 a7 a8 a9 mld (by decide))
          unfold fMO_code_B8
          rw [if_pos (by rw [← wv, ej]; rfl), if_pos rfl, e_lt, nI_1, if_pos (by rfl)]
      · have ej1 : vX = 1 := by
          rw [ej, show j = 1 by omega]
          rfl
        refine ⟨nI 6, pX1, nI 6, vM, aM1, 0, 0, t1, ?_, ?_, by omega, hp1, Or.inl ⟨6, by omega, rfl, rfl, rfl, rfl, ha1 rfl⟩⟩
        · refine l_ex3 ?_
          unfold fPA_code_B2
          rw [if_neg nN, e1, e_b3, if_neg (by rw [ej1]; decide)]
        · refine l_ex4 ?_
          unfold fMO_code_B8
          rw [if_neg (by rw [← wv, ej1]; decide)]
    · subst f4
      have em := codM_bad (z := nI 6) (v := vM) (a := aM1) (fuel := f0 + 2) a1 (nI n) a5 a6 a7 a8 a9 mld (f := -4) (by decide)
      by_cases c : vX = 0
      · refine ⟨nI 7, pX1, nI 6, vM, aM1, -4, -4, t1, ?_, em, by omega, hp1, Or.inr (Or.inr ⟨rfl, rfl, 7, by omega, rfl⟩)⟩
        refine (l_in3 (b1 := nI 7) (b2 := pX1) (b3 := -4) ?_).trans (l_ex3 ?_)
        · unfold fPA_code_B2
          rw [if_neg nN, e1, e_b3, if_pos c, e_lt, nI_1]
        · unfold fPA_code_B2
          rw [if_pos eN]
      · refine ⟨nI 6, pX1, nI 6, vM, aM1, -4, -4, t1, ?_, em, by omega, hp1, Or.inr (Or.inr ⟨rfl, rfl, 6, by omega, rfl⟩)⟩
        refine l_ex3 ?_
        unfold fPA_code_B2
        rw [if_neg nN, e1, e_b3, if_neg c]
  | succ k ih =>
    intro i fuel t hi hfu ht
    obtain ⟨f0, rfl⟩ : ∃ f, fuel = f + 1 := ⟨fuel - 1, by omega⟩
    have nN : ¬ (7 : Int32) ≤ nI i := nI_ge (b := 7) (by omega) (by omega)
    obtain ⟨vX, pX1, vM, aM1, f1, e1, e2, ⟨t1, ht1, hp1, ha1⟩, w2, w3, w4⟩ := q_num th a1 a5 a6 a7 a8 a9 (N := 1) (T := t) (pX := nI (t + 8)) (f := 0) (aM := nI t) hn h1 (by omega) hld (by omega) ⟨t, by omega, rfl, fun _ => rfl⟩
    rw [show nI 1 = (1 : Int32) from rfl] at e1 e2
    rw [e2, e_b3]
    rcases w4 rfl with f0' | f4
    · subst f0'
      obtain ⟨_, wv, j, hj, ej⟩ := w2 rfl
      by_cases c : j = 0
      · subst c
        obtain ⟨x4, pX, x8, v9, aM, fX, fM, t2, e3, e4, v1, v2, v3⟩ := ih (i + 1) f0 t1 (by omega) (by omega) (by omega)
        obtain ⟨_, _, vM2, aM2, f2, _, e5, _, _, _, _⟩ := q_num th a1 a5 a6 a7 a8 a9 (N := 1) (T := t1) (pX := nI (t1 + 8)) (f := 0) (aM := nI t1) hn h1 (by omega) hld (by omega) ⟨t1, by omega, rfl, fun _ => rfl⟩
        rw [show nI 1 = (1 : Int32) from rfl] at e5
        rw [e5, e_b3] at e4
        refine ⟨x4, pX, x8, v9, aM, fX, fM, t2, ?_, ?_, by omega, v2, v3⟩
        · refine (l_in3 ?_).trans e3
          unfold fPA_code_B2
          rw [if_neg nN, e1, e_b3, if_pos (by rw [ej]; rfl), e_lt, nI_1, hp1]
        · refine (l_in4 ?_).trans e4
          unfold fMO_code_B8
          rw [if_pos (by rw [← wv, ej]; rfl), if_pos rfl, e_lt, nI_1, if_neg (show ¬ nI (i + 1) = (7 : Int32) from fun q => by
            have := (nI_eq (b := 7) (by omega) (by omega)).mp q
            omega), ha1 rfl, e5, e_b3]
      · have ej1 : vX = 1 := by
          rw [ej, show j = 1 by omega]
          rfl
        refine ⟨nI i, pX1, nI i, vM, aM1, 0, 0, t1, ?_, ?_, by omega, hp1, Or.inl ⟨i, by omega, rfl, rfl, rfl, rfl, ha1 rfl⟩⟩
        · refine l_ex3 ?_
          unfold fPA_code_B2
          rw [if_neg nN, e1, e_b3, if_neg (by rw [ej1]; decide)]
        · refine l_ex4 ?_
          unfold fMO_code_B8
          rw [if_neg (by rw [← wv, ej1]; decide)]
    · subst f4
      have em := codM_bad (z := nI i) (v := vM) (a := aM1) (fuel := f0) a1 (nI n) a5 a6 a7 a8 a9 mld (f := -4) (by decide)
      by_cases c : vX = 0
      · obtain ⟨c1, t2, u1, u2, e3⟩ := codX_bad th ld (f := -4) hn (by decide) (k + 1) (i + 1) f0 t1 (by omega) (by omega) (by omega)
        refine ⟨nI c1, nI (t2 + 8), nI i, vM, aM1, -4, -4, t2, ?_, em, by omega, rfl, Or.inr (Or.inr ⟨rfl, rfl, c1, u1, rfl⟩)⟩
        refine (l_in3 ?_).trans e3
        unfold fPA_code_B2
        rw [if_neg nN, e1, e_b3, if_pos c, e_lt, nI_1, hp1]
      · refine ⟨nI i, pX1, nI i, vM, aM1, -4, -4, t1, ?_, em, by omega, hp1, Or.inr (Or.inr ⟨rfl, rfl, i, by omega, rfl⟩)⟩
        refine l_ex3 ?_
        unfold fPA_code_B2
        rw [if_neg nN, e1, e_b3, if_neg c]
