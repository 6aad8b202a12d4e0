/-! numbers of the parameters, both sides -/
def PRl (T : Nat) (pX fX aM : Int32) : Prop := ∃ t, t ≤ T ∧ pX = nI (t + 8) ∧ (fX = 0 → aM = nI t)
theorem q_atEnd {n t : Nat} (hn : n ≤ 240) (ht : t < 2 ^ 29) : fRB_atEnd (nI (t + 8)) (nI (8 * n)) = some (if 8 * n ≤ t + 8 then 1 else 0) := by
  unfold fRB_atEnd
  by_cases c : 8 * n ≤ t + 8
  · rw [if_pos c]
    first
    | rw [if_neg (show ¬ nI (t + 8) < nI (8 * n) from nI_nlt c (by omega))]
    | rw [if_pos (show nI (8 * n) ≤ nI (t + 8) from nI_le c (by omega))]
  · rw [if_neg c]
    first
    | rw [if_pos (show nI (t + 8) < nI (8 * n) from nI_lt (by omega) (by omega))]
    | rw [if_neg (show ¬ nI (8 * n) ≤ nI (t + 8) from nI_ge (by omega) (by omega))]
theorem sb_01 (ld : Nat → Int32) (n t : Nat) : ∃ k, k ≤ 1 ∧ sb ld n t = nI k := by
  unfold sb
  split
  · obtain ⟨k, hk, e⟩ := pk_andE (ld (1 + t / 8) >>> (((7 : Int32) - nI (t % 8)) &&& 31)) (m := 1) 1 (by decide)
    exact ⟨k, by omega, e⟩
  · exact ⟨0, by omega, rfl⟩
theorem numX1 (th : Int32) (ld : Nat → Int32) {n N i t : Nat} {v f : Int32} (hn : n ≤ 240) (hi : i < N) (hN : N ≤ 7) (ht : t < 2 ^ 29) : fPA_number_B4 (nI (8 * n)) th ld (nI N) v (nI i) (nI (t + 8)) f = some (.inl (2 * v + sb ld n t, nI (i + 1), nI (t + 1 + 8), if 8 * n ≤ t + 8 ∧ f = 0 then -4 else f)) := by
  unfold fPA_number_B4
  rw [if_neg (show ¬ nI N ≤ nI i from nI_ge hi (by omega)), q_atEnd hn ht, e_b1]
  have e : (if (if 8 * n ≤ t + 8 then (1 : Int32) else 0) = 0 then some f else ip_b1 (fPA_blame th f (-4 : Int32)) (fun z11 => some z11)) = some (if 8 * n ≤ t + 8 ∧ f = 0 then -4 else f) := by
    unfold fPA_blame
    by_cases c : 8 * n ≤ t + 8
    · rw [if_pos c, if_neg (by decide)]
      by_cases d : f = 0
      · rw [if_pos d, e_b1, if_pos ⟨c, d⟩]
      · rw [if_neg d, e_b1, if_neg (fun q => d q.2)]
    · rw [if_neg c, if_pos rfl, if_neg (fun q => c q.1)]
  rw [e, e_b1, q_next ld hn (by omega), e_b2, e_lt, e_lt, nI_1]
theorem numX_bad (th : Int32) (ld : Nat → Int32) {n N : Nat} {f : Int32} (hn : n ≤ 240) (hN : N ≤ 7) (hf : ¬ f = 0) : ∀ (k i fuel t : Nat) (v : Int32), i + k = N → k < fuel → t + k < 2 ^ 29 → ∃ v1, ip_lp4 (fPA_number_B4 (nI (8 * n)) th ld (nI N)) fuel v (nI i) (nI (t + 8)) f = some (v1, nI N, nI (t + k + 8), f) := by
  intro k
  induction k with
  | zero =>
    intro i fuel t v hi hfu ht
    obtain ⟨f0, rfl⟩ : ∃ f, fuel = f + 1 := ⟨fuel - 1, by omega⟩
    have e : i = N := by omega
    subst e
    refine ⟨v, l_ex4 ?_⟩
    unfold fPA_number_B4
    rw [if_pos (Int32.le_refl _)]
  | succ k ih =>
    intro i fuel t v hi hfu ht
    obtain ⟨f0, rfl⟩ : ∃ f, fuel = f + 1 := ⟨fuel - 1, by omega⟩
    obtain ⟨v1, e1⟩ := ih (i + 1) f0 (t + 1) (2 * v + sb ld n t) (by omega) (by omega) (by omega)
    refine ⟨v1, ?_⟩
    have e2 := numX1 th ld (v := v) (f := f) hn (by omega : i < N) hN (by omega : t < 2 ^ 29)
    rw [if_neg (fun q => hf q.2)] at e2
    rw [l_in4 e2, e1, show t + 1 + k + 8 = t + (k + 1) + 8 by omega]
theorem numM_bad (a1 a2 a5 a6 a7 a8 a9 : Int32) (ld : Nat → Int32) {p1 v i a f : Int32} {fuel : Nat} (hf : ¬ f = 0) : ip_lp4 (fMO_needed_B4 a1 a2 a5 a6 a7 a8 a9 ld p1) (fuel + 1) v i a f = some (v, i, a, f) := by
  refine l_ex4 ?_
  unfold fMO_needed_B4
  by_cases c : p1 ≤ i
  · rw [if_pos c]
  · rw [if_neg c, if_neg hf]
theorem num_good (th a1 a5 a6 a7 a8 a9 : Int32) {ld mld : Nat → Int32} {n N : Nat} (hn : n ≤ 240) (h1 : 1 ≤ n) (hN : N ≤ 7) (hld : sb ld n = sb mld n) : ∀ (k i fuel t j : Nat), i + k = N → k + 1 < fuel → t + k < 2 ^ 29 → j < 2 ^ i → ∃ vX vM iM aM f1 : Int32, ip_lp4 (fPA_number_B4 (nI (8 * n)) th ld (nI N)) fuel (nI j) (nI i) (nI (t + 8)) 0 = some (vX, nI N, nI (t + k + 8), f1) ∧ ip_lp4 (fMO_needed_B4 a1 (nI n) a5 a6 a7 a8 a9 mld (nI N)) fuel (nI j) (nI i) (nI t) 0 = some (vM, iM, aM, f1) ∧ (f1 = 0 → aM = nI (t + k) ∧ vX = vM ∧ ∃ j1, j1 < 2 ^ N ∧ vX = nI j1) ∧ (f1 = 0 ∨ f1 = -4) := by
  intro k
  induction k with
  | zero =>
    intro i fuel t j hi hfu ht hj
    obtain ⟨f0, rfl⟩ : ∃ f, fuel = f + 1 := ⟨fuel - 1, by omega⟩
    have e : i = N := by omega
    subst e
    refine ⟨nI j, nI j, nI i, nI t, 0, l_ex4 ?_, l_ex4 ?_, fun _ => ⟨rfl, rfl, j, hj, rfl⟩, Or.inl rfl⟩
    · unfold fPA_number_B4
      rw [if_pos (Int32.le_refl _)]
    · unfold fMO_needed_B4
      rw [if_pos (Int32.le_refl _)]
  | succ k ih =>
    intro i fuel t j hi hfu ht hj
    obtain ⟨f0, rfl⟩ : ∃ f, fuel = f + 1 := ⟨fuel - 1, by omega⟩
    have hiN : i < N := by omega
    have e2 := numX1 th ld (v := nI j) (f := 0) hn hiN hN (by omega : t < 2 ^ 29)
    by_cases c : 8 * n ≤ t + 8
    · rw [if_pos ⟨c, rfl⟩] at e2
      obtain ⟨v1, e3⟩ := numX_bad th ld (f := -4) hn hN (by decide) k (i + 1) f0 (t + 1) (2 * nI j + sb ld n t) (by omega) (by omega) (by omega)
      obtain ⟨f9, rfl⟩ : ∃ f, f0 = f + 1 := ⟨f0 - 1, by omega⟩
      refine ⟨v1, nI j, nI (i + 1), nI t, -4, ?_, ?_, fun q => absurd q (by decide), Or.inr rfl⟩
      · rw [l_in4 e2, e3, show t + 1 + k + 8 = t + (k + 1) + 8 by omega]
      · refine (l_in4 ?_).trans (numM_bad a1 (nI n) a5 a6 a7 a8 a9 mld (by decide))
        unfold fMO_needed_B4
        rw [if_neg (show ¬ nI N ≤ nI i from nI_ge hiN (by omega)), if_pos rfl, show nI t / (8 : Int32) = nI (t / 8) from pk_div (d := 8) (by omega) (by omega) (by omega), show (1 : Int32) + nI (t / 8) = nI (1 + t / 8) from nI_add 1 (t / 8), if_neg (show ¬ nI (1 + t / 8) < nI n from nI_nlt (by omega) (by omega)), e_b3, e_lt, nI_1]
    · rw [if_neg (fun q => c q.1)] at e2
      obtain ⟨b, hb, eb⟩ := sb_01 ld n t
      have ev : 2 * nI j + sb ld n t = nI (2 * j + b) := by
        rw [eb, show (2 : Int32) = nI 2 from rfl, pk_mul, nI_add]
      obtain ⟨vX, vM, iM, aM, f1, e3, e4, h3, h4⟩ := ih (i + 1) f0 (t + 1) (2 * j + b) (by omega) (by omega) (by omega) (by rw [Nat.pow_succ]; omega)
      refine ⟨vX, vM, iM, aM, f1, ?_, ?_, ?_, h4⟩
      · rw [l_in4 e2, ev, e3, show t + 1 + k + 8 = t + (k + 1) + 8 by omega]
      · refine (l_in4 ?_).trans e4
        unfold fMO_needed_B4
        rw [if_neg (show ¬ nI N ≤ nI i from nI_ge hiN (by omega)), if_pos rfl, show nI t / (8 : Int32) = nI (t / 8) from pk_div (d := 8) (by omega) (by omega) (by omega), show (1 : Int32) + nI (t / 8) = nI (1 + t / 8) from nI_add 1 (t / 8), if_pos (show nI (1 + t / 8) < nI n from nI_lt (by omega) (by omega)), q_bit a1 0 a5 a6 a7 a8 a9 mld hn (by omega), e_b2, e_lt, e_b3, e_lt, ← hld, ev, nI_1]
      · intro q
        obtain ⟨w1, w2, w3⟩ := h3 q
        exact ⟨by rw [w1]; congr 1; omega, w2, w3⟩
/-- a number of N bits, both sides -/
theorem q_num (th a1 a5 a6 a7 a8 a9 : Int32) {ld mld : Nat → Int32} {n N T : Nat} {pX f aM : Int32} (hn : n ≤ 240) (h1 : 1 ≤ n) (hN : N ≤ 7) (hld : sb ld n = sb mld n) (hT : T + 7 < 2 ^ 29) (h : PRl T pX f aM) : ∃ vX pX1 vM aM1 f1 : Int32, fPA_number pX (nI (8 * n)) th f ld (nI N) = some (vX, pX1, f1) ∧ fMO_needed a1 (nI n) aM f a5 a6 a7 a8 a9 mld (nI N) = some (vM, aM1, f1) ∧ PRl (T + N) pX1 f1 aM1 ∧ (f1 = 0 → f = 0 ∧ vX = vM ∧ ∃ j, j < 2 ^ N ∧ vX = nI j) ∧ (¬ f = 0 → f1 = f) ∧ (f = 0 → f1 = 0 ∨ f1 = -4) := by
  obtain ⟨t, ht, rfl, ha⟩ := h
  unfold fPA_number fMO_needed
  by_cases c : f = 0
  · subst c
    obtain ⟨vX, vM, iM, aM1, f1, e1, e2, w1, w2⟩ := num_good th a1 a5 a6 a7 a8 a9 hn h1 hN hld N 0 1000 t 0 (by omega) (by omega) (by omega) (by omega)
    rw [nI_0] at e1 e2
    rw [ha rfl]
    refine ⟨vX, nI (t + N + 8), vM, aM1, f1, ?_, ?_, ⟨t + N, by omega, rfl, fun q => (w1 q).1⟩, fun q => ⟨rfl, (w1 q).2⟩, fun q => absurd rfl q, fun _ => w2⟩
    · rw [e1, e_b4]
    · rw [e2, e_b4]
  · obtain ⟨vX, e1⟩ := numX_bad th ld (f := f) hn hN c N 0 1000 t 0 (by omega) (by omega) (by omega)
    rw [nI_0] at e1
    refine ⟨vX, nI (t + N + 8), 0, aM, f, ?_, ?_, ⟨t + N, by omega, rfl, fun q => absurd q c⟩, fun q => absurd q c, fun _ => rfl, fun q => absurd q c⟩
    · rw [e1, e_b4]
    · rw [numM_bad (fuel := 999) a1 (nI n) a5 a6 a7 a8 a9 mld c, e_b4]
