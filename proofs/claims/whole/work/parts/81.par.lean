/-! the parameters unit, both sides -/
def SR (T : Nat) (Q : (Nat → Int32) → Prop) (pX f aM : Int32) (gX gM : Nat → Int32) : Prop := PRl T pX f aM ∧ (f = 0 → (∀ i, i < 10 → gX i = gM i) ∧ Q gX)
def Q0 (g : Nat → Int32) : Prop := ∃ q, q ≤ 51 ∧ g 0 = nI q
def Q4 (g : Nat → Int32) : Prop := Q0 g ∧ ∃ c, c ≤ 3 ∧ g 4 = nI c
theorem Q0_upd {g : Nat → Int32} {d : Nat} {v : Int32} (hd : 0 < d) (h : Q0 g) : Q0 (upd g d v) := by
  obtain ⟨q, h1, h2⟩ := h
  exact ⟨q, h1, by rw [u_n (by omega)]; exact h2⟩
theorem Q4_upd {g : Nat → Int32} {d : Nat} {v : Int32} (hd : 4 < d) (h : Q4 g) : Q4 (upd g d v) := by
  obtain ⟨h0, c, h1, h2⟩ := h
  exact ⟨Q0_upd (by omega) h0, c, h1, by rw [u_n (by omega)]; exact h2⟩
theorem agree_upd {gX gM : Nat → Int32} {d : Nat} {v w : Int32} (h : ∀ i, i < 10 → gX i = gM i) (e : v = w) : ∀ i, i < 10 → upd gX d v i = upd gM d w i := by
  intro i hi
  by_cases c : i = d
  · subst c
    rw [u_0, u_0, e]
  · rw [u_n c, u_n c]
    exact h i hi
theorem SR_num (th a1 a5 a6 a7 a8 a9 : Int32) {ld mld : Nat → Int32} {n N T : Nat} {pX f aM : Int32} {gX gM : Nat → Int32} {Q Q1 : (Nat → Int32) → Prop} (d : Nat) (hn : n ≤ 240) (h1 : 1 ≤ n) (hN : N ≤ 7) (hld : sb ld n = sb mld n) (hT : T + 100 < 2 ^ 28) (hQ : ∀ g j, j < 2 ^ N → Q g → Q1 (upd g d (nI j))) (h : SR T Q pX f aM gX gM) : ∃ vX pX1 vM aM1 f1 : Int32, fPA_number pX (nI (8 * n)) th f ld (nI N) = some (vX, pX1, f1) ∧ fMO_needed a1 (nI n) aM f a5 a6 a7 a8 a9 mld (nI N) = some (vM, aM1, f1) ∧ SR (T + 20) Q1 pX1 f1 aM1 (upd gX d vX) (upd gM d vM) := by
  obtain ⟨vX, pX1, vM, aM1, f1, e1, e2, ⟨t, k1, k2, k3⟩, k4, k5, k6⟩ := q_num th a1 a5 a6 a7 a8 a9 hn h1 hN hld (by omega) h.1
  refine ⟨vX, pX1, vM, aM1, f1, e1, e2, ⟨t, by omega, k2, k3⟩, ?_⟩
  intro q
  obtain ⟨q1, q2, j, q3, q4⟩ := k4 q
  obtain ⟨r1, r2⟩ := h.2 q1
  refine ⟨agree_upd r1 q2, ?_⟩
  rw [q4]
  exact hQ gX j q3 r2
theorem offX1 (th : Int32) (ld : Nat → Int32) {n i : Nat} {pX f v p1 fz f1 : Int32} {g : Nat → Int32} (hi : i < 4) (e1 : fPA_signedCode pX (nI (8 * n)) th f ld = some (v, p1, fz)) (e2 : fPA_checked th fz v (-7) 7 = some (v, f1)) : fPA_readUnit_B85 (nI (8 * n)) th ld (nI i) pX f g = some (.inl (nI (i + 1), p1, f1, upd g (5 + i) v)) := by
  unfold fPA_readUnit_B85
  rw [if_neg (show ¬ (4 : Int32) ≤ nI i from nI_ge (b := 4) hi (by omega)), e1, e_b3, e2, e_b2, show (5 : Int32) = nI 5 from rfl, nI_add, e_ast 10 g _ _ (5 + i) rfl (by omega) (by omega), e_b1, e_lt, nI_1]
theorem offX_bad (th a1 a5 a6 a7 a8 a9 : Int32) {ld mld : Nat → Int32} {n : Nat} {f : Int32} (hn : n ≤ 240) (h1 : 1 ≤ n) (hld : sb ld n = sb mld n) (hf : ¬ f = 0) : ∀ (k i fuel T : Nat) (pX : Int32) (g : Nat → Int32), i + k = 4 → k < fuel → T + 20 * k + 100 < 2 ^ 28 → PRl T pX f 0 → ∃ (p1 : Int32) (g1 : Nat → Int32), ip_lp4 (fPA_readUnit_B85 (nI (8 * n)) th ld) fuel (nI i) pX f g = some (nI 4, p1, f, g1) ∧ PRl (T + 20 * k) p1 f 0 := by
  intro k
  induction k with
  | zero =>
    intro i fuel T pX g hi hfu hT h
    obtain ⟨f0, rfl⟩ : ∃ f, fuel = f + 1 := ⟨fuel - 1, by omega⟩
    have e : i = 4 := by omega
    subst e
    refine ⟨pX, g, l_ex4 ?_, h⟩
    unfold fPA_readUnit_B85
    rw [if_pos (show (4 : Int32) ≤ nI 4 by decide)]
  | succ k ih =>
    intro i fuel T pX g hi hfu hT h
    obtain ⟨f0, rfl⟩ : ∃ f, fuel = f + 1 := ⟨fuel - 1, by omega⟩
    obtain ⟨v, p1, fz, _, _, f1, e1, e2, _, k1, _, k3⟩ := q_sgn th a1 a5 a6 a7 a8 a9 hn h1 hld (by omega) h
    have ef := k3 hf
    subst ef
    obtain ⟨t, w1, w2, _⟩ := k1
    obtain ⟨p2, g2, e3, k4⟩ := ih (i + 1) f0 (T + 20) p1 (upd g (5 + i) v) (by omega) (by omega) (by omega) ⟨t, w1, w2, fun q => absurd q hf⟩
    refine ⟨p2, g2, (l_in4 (offX1 th ld (by omega) e1 e2)).trans e3, ?_⟩
    rw [show T + 20 * (k + 1) = T + 20 + 20 * k by omega]
    exact k4
theorem offM_bad (a1 a2 a5 a6 a7 a8 a9 : Int32) (ld g : Nat → Int32) {z a f : Int32} {fuel : Nat} (hf : ¬ f = 0) : ip_lp4 (fMO_readParameters_B80 a1 a2 a5 a6 a7 a8 a9 ld) (fuel + 1) z a f g = some (z, a, f, g) := by
  refine l_ex4 ?_
  unfold fMO_readParameters_B80
  by_cases c : (9 : Int32) ≤ z
  · rw [if_pos c]
  · rw [if_neg c, e_ald 10 g 4 4 rfl (by omega) (by omega), e_b1]
    by_cases d : g 4 = 0
    · rw [if_pos d]
    · rw [if_neg d, if_neg hf]
theorem off_good (th a1 a5 a6 a7 a8 a9 : Int32) {ld mld : Nat → Int32} {n : Nat} (hn : n ≤ 240) (h1 : 1 ≤ n) (hld : sb ld n = sb mld n) : ∀ (k i fuel T : Nat) (pX aM : Int32) (gX gM : Nat → Int32), i + k = 4 → k + 1 < fuel → T + 20 * k + 100 < 2 ^ 28 → SR T Q4 pX 0 aM gX gM → ¬ gX 4 = 0 → ∃ (p1 zM aM1 f1 : Int32) (gX1 gM1 : Nat → Int32), ip_lp4 (fPA_readUnit_B85 (nI (8 * n)) th ld) fuel (nI i) pX 0 gX = some (nI 4, p1, f1, gX1) ∧ ip_lp4 (fMO_readParameters_B80 a1 (nI n) a5 a6 a7 a8 a9 mld) fuel (nI (5 + i)) aM 0 gM = some (zM, aM1, f1, gM1) ∧ SR (T + 20 * k) Q4 p1 f1 aM1 gX1 gM1 := by
  intro k
  induction k with
  | zero =>
    intro i fuel T pX aM gX gM hi hfu hT h h4
    obtain ⟨f0, rfl⟩ : ∃ f, fuel = f + 1 := ⟨fuel - 1, by omega⟩
    have e : i = 4 := by omega
    subst e
    refine ⟨pX, nI 9, aM, 0, gX, gM, l_ex4 ?_, l_ex4 ?_, h⟩
    · unfold fPA_readUnit_B85
      rw [if_pos (show (4 : Int32) ≤ nI 4 by decide)]
    · unfold fMO_readParameters_B80
      rw [if_pos (show (9 : Int32) ≤ nI (5 + 4) by decide)]
  | succ k ih =>
    intro i fuel T pX aM gX gM hi hfu hT h h4
    obtain ⟨f0, rfl⟩ : ∃ f, fuel = f + 1 := ⟨fuel - 1, by omega⟩
    obtain ⟨r1, r2⟩ := h.2 rfl
    obtain ⟨v, p1, fz, w, aM1, f1, e1, e2, e3, ⟨t, k1, k1a, k1b⟩, k2, k3⟩ := q_sgn th a1 a5 a6 a7 a8 a9 hn h1 hld (by omega) h.1
    have sM : fMO_readParameters_B80 a1 (nI n) a5 a6 a7 a8 a9 mld (nI (5 + i)) aM 0 gM = some (.inl (nI (5 + (i + 1)), aM1, f1, upd gM (5 + i) w)) := by
      unfold fMO_readParameters_B80
      rw [if_neg (show ¬ (9 : Int32) ≤ nI (5 + i) from nI_ge (b := 9) (by omega) (by omega)), e_ald 10 gM 4 4 rfl (by omega) (by omega), e_b1, if_neg (show ¬ gM 4 = 0 by rw [← r1 4 (by omega)]; exact h4), if_pos rfl, e3, e_b3, e_ast 10 gM _ _ (5 + i) rfl (by omega) (by omega), e_b1, e_lt, nI_1, show 5 + i + 1 = 5 + (i + 1) by omega]
    have sX := offX1 th ld (g := gX) (by omega : i < 4) e1 e2
    by_cases c : f1 = 0
    · subst c
      obtain ⟨q1, q2⟩ := k2 rfl
      obtain ⟨p2, zM, aM2, f2, gX2, gM2, e5, e6, k6⟩ := ih (i + 1) f0 (T + 20) p1 aM1 (upd gX (5 + i) v) (upd gM (5 + i) w) (by omega) (by omega) (by omega) ⟨⟨t, k1, k1a, k1b⟩, fun _ => ⟨agree_upd r1 q2, Q4_upd (by omega) r2⟩⟩ (by rw [u_n (by omega)]; exact h4)
      refine ⟨p2, zM, aM2, f2, gX2, gM2, (l_in4 sX).trans e5, (l_in4 sM).trans e6, ?_⟩
      rw [show T + 20 * (k + 1) = T + 20 + 20 * k by omega]
      exact k6
    · obtain ⟨f9, rfl⟩ : ∃ f, f0 = f + 1 := ⟨f0 - 1, by omega⟩
      obtain ⟨p2, g2, e5, t2, k6, k7, _⟩ := offX_bad th a1 a5 a6 a7 a8 a9 hn h1 hld c k (i + 1) (f9 + 1) (T + 20) p1 (upd gX (5 + i) v) (by omega) (by omega) (by omega) ⟨t, k1, k1a, fun q => absurd q c⟩
      refine ⟨p2, _, aM1, f1, g2, _, (l_in4 sX).trans e5, (l_in4 sM).trans (offM_bad a1 (nI n) a5 a6 a7 a8 a9 mld _ c), ⟨t2, by omega, k7, fun q => absurd q c⟩, fun q => absurd q c⟩
