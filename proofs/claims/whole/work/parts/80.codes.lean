/-! a code and a signed code, both sides -/
theorem numXb (th : Int32) (ld : Nat → Int32) {n N t : Nat} {f : Int32} (hn : n ≤ 240) (hN : N ≤ 7) (hf : ¬ f = 0) (ht : t + 7 < 2 ^ 29) : ∃ v, fPA_number (nI (t + 8)) (nI (8 * n)) th f ld (nI N) = some (v, nI (t + N + 8), f) := by
  obtain ⟨v, e⟩ := numX_bad th ld (f := f) hn hN hf N 0 1000 t 0 (by omega) (by omega) (by omega)
  rw [nI_0] at e
  refine ⟨v, ?_⟩
  unfold fPA_number
  rw [e, e_b4]
theorem needb (a1 a2 a5 a6 a7 a8 a9 : Int32) (ld : Nat → Int32) {p1 a f : Int32} (hf : ¬ f = 0) : fMO_needed a1 a2 a f a5 a6 a7 a8 a9 ld p1 = some (0, a, f) := by
  unfold fMO_needed
  rw [numM_bad (fuel := 999) a1 a2 a5 a6 a7 a8 a9 ld hf, e_b4]
theorem codTb (th : Int32) (ld : Nat → Int32) {n c t : Nat} {f : Int32} (hn : n ≤ 240) (hc : c ≤ 7) (hf : ¬ f = 0) (ht : t + 7 < 2 ^ 29) : ∃ (v : Int32) (t2 : Nat), t2 ≤ t + 7 ∧ (if nI c = (7 : Int32) then (ip_b1 (fPA_blame th f (-3 : Int32)) (fun z14 => some ((0 : Int32), nI (t + 8), z14))) else (ip_b3 (fPA_number (nI (t + 8)) (nI (8 * n)) th f ld (nI c)) (fun z11 z12 z13 => some (((((1 : Int32) <<< (nI c &&& 31)) - (1 : Int32)) + z11), z12, z13)))) = some (v, nI (t2 + 8), f) := by
  by_cases h : nI c = (7 : Int32)
  · refine ⟨0, t, by omega, ?_⟩
    unfold fPA_blame
    rw [if_pos h, if_neg hf, e_b1]
  · obtain ⟨v, e⟩ := numXb th ld (N := c) hn hc hf ht
    refine ⟨(((1 : Int32) <<< (nI c &&& 31)) - (1 : Int32)) + v, t + c, by omega, ?_⟩
    rw [if_neg h, e, e_b3]
theorem q_code (th a1 a5 a6 a7 a8 a9 : Int32) {ld mld : Nat → Int32} {n T : Nat} {pX f aM : Int32} (hn : n ≤ 240) (h1 : 1 ≤ n) (hld : sb ld n = sb mld n) (hT : T + 100 < 2 ^ 28) (h : PRl T pX f aM) : ∃ vX pX1 vM aM1 f1 : Int32, fPA_code pX (nI (8 * n)) th f ld = some (vX, pX1, f1) ∧ fMO_code a1 (nI n) aM f a5 a6 a7 a8 a9 mld = some (vM, aM1, f1) ∧ PRl (T + 20) pX1 f1 aM1 ∧ (f1 = 0 → f = 0 ∧ vX = vM ∧ ∃ j, j < 128 ∧ vX = nI j) ∧ (¬ f = 0 → f1 = f) := by
  obtain ⟨t, ht, rfl, ha⟩ := h
  unfold fPA_code fMO_code
  by_cases c : f = 0
  · subst c
    rw [ha rfl]
    obtain ⟨x4, pX, x8, v9, aM1, fX, fM, t1, e1, e2, ht1, hp, hc⟩ := cod_good th a1 a5 a6 a7 a8 a9 hn h1 hld 6 0 1000 t (by omega) (by omega) (by omega)
    obtain ⟨z1, z2, z3, en⟩ : ∃ z1 z2 z3, fMO_needed a1 (nI n) (nI t) 0 a5 a6 a7 a8 a9 mld (1 : Int32) = some (z1, z2, z3) := by
      obtain ⟨_, _, vM, aM1, f1, _, e2, _⟩ := q_num th a1 a5 a6 a7 a8 a9 (N := 1) (T := t) (pX := nI (t + 8)) (f := 0) (aM := nI t) hn h1 (by omega) hld (by omega) ⟨t, by omega, rfl, fun _ => rfl⟩
      exact ⟨_, _, _, e2⟩
    rw [en, e_b3] at e2
    rw [nI_0] at e1 e2
    rw [e1, e_b3, en, e_b3, e2, e_b4, hp]
    rcases hc with ⟨cc, hcc, r1, r2, r3, r4, r5⟩ | ⟨r1, r2, r3⟩ | ⟨r1, r2, cc, hcc, r3⟩
    · subst r1 r2 r3 r4 r5
      obtain ⟨vX, pX1, vM, aM2, f1, e3, e4, w1, w2, w3, w4⟩ := q_num th a1 a5 a6 a7 a8 a9 (N := cc) (T := t1) (pX := nI (t1 + 8)) (f := 0) (aM := nI t1) hn h1 (by omega) hld (by omega) ⟨t1, by omega, rfl, fun _ => rfl⟩
      rw [if_neg (show ¬ nI cc = (7 : Int32) from fun q => by
        have := (nI_eq (b := 7) (by omega) (by omega)).mp q
        omega), e3, e_b3, e4, e_b3]
      refine ⟨_, pX1, _, aM2, f1, rfl, rfl, ?_, ?_, fun q => absurd rfl q⟩
      · obtain ⟨t2, q1, q2, q3⟩ := w1
        exact ⟨t2, by omega, q2, q3⟩
      · intro q
        obtain ⟨_, q2, j, q3, q4⟩ := w2 q
        refine ⟨rfl, by rw [q2], ?_⟩
        have hp2 : ((1 : Int32) <<< (nI cc &&& 31)) - (1 : Int32) = nI (2 ^ cc - 1) ∧ 2 ^ cc ≤ 64 := by
          have : cc = 0 ∨ cc = 1 ∨ cc = 2 ∨ cc = 3 ∨ cc = 4 ∨ cc = 5 ∨ cc = 6 := by omega
          rcases this with r | r | r | r | r | r | r <;> subst r <;> exact ⟨by decide, by decide⟩
        refine ⟨2 ^ cc - 1 + j, by omega, ?_⟩
        rw [hp2.1, q4, nI_add]
    · subst r1 r2 r3
      rw [if_pos (show nI 7 = (7 : Int32) from rfl), needb a1 (nI n) a5 a6 a7 a8 a9 mld (by decide), e_b3]
      unfold fPA_blame
      rw [if_pos rfl, e_b1]
      exact ⟨_, _, _, _, -3, rfl, rfl, ⟨t1, by omega, rfl, fun q => absurd q (by decide)⟩, fun q => absurd q (by decide), fun q => absurd rfl q⟩
    · subst r1 r2 r3
      obtain ⟨v, t2, q1, q2⟩ := codTb th ld (f := -4) (t := t1) hn hcc (by decide) (by omega)
      rw [q2, needb a1 (nI n) a5 a6 a7 a8 a9 mld (by decide), e_b3]
      exact ⟨_, _, _, _, -4, rfl, rfl, ⟨t2, by omega, rfl, fun q => absurd q (by decide)⟩, fun q => absurd q (by decide), fun q => absurd rfl q⟩
  · obtain ⟨cc, t1, u1, u2, e1⟩ := codX_bad th ld (f := f) hn c 7 0 1000 t (by omega) (by omega) (by omega)
    rw [nI_0] at e1
    obtain ⟨v, t2, q1, q2⟩ := codTb th ld (f := f) (t := t1) hn u1 c (by omega)
    rw [e1, e_b3, q2, needb a1 (nI n) a5 a6 a7 a8 a9 mld c, e_b3, codM_bad (fuel := 999) a1 (nI n) a5 a6 a7 a8 a9 mld c, e_b4, needb a1 (nI n) a5 a6 a7 a8 a9 mld c, e_b3]
    exact ⟨_, _, _, _, f, rfl, rfl, ⟨t2, by omega, rfl, fun q => absurd q c⟩, fun q => absurd q c, fun _ => rfl⟩
theorem sgn_eq : ∀ j, j < 128 → (if (nI j &&& (1 : Int32)) = (1 : Int32) then (nI j + (1 : Int32)) / (2 : Int32) else (-(nI j)) / (2 : Int32)) = (if (nI j - nI j / (2 : Int32) * (2 : Int32)) = (1 : Int32) then (nI j + (1 : Int32)) / (2 : Int32) else -(nI j / (2 : Int32))) := by decide
/-- is it in range? -/
theorem q_check (th a1 a2 a3 a5 a6 a7 a8 a9 v lo hi : Int32) (f : Int32) : ∃ f1, fPA_checked th f v lo hi = some (v, f1) ∧ (∀ w, (f = 0 → w = v) → fMO_within a1 a2 a3 f a5 a6 a7 a8 a9 w lo hi = some (w, f1)) ∧ (f1 = 0 → f = 0 ∧ lo ≤ v ∧ v ≤ hi) ∧ (¬ f = 0 → f1 = f) := by
  unfold fPA_checked fMO_within fPA_blame
  by_cases c : f = 0
  · subst c
    by_cases h1 : v < lo
    · refine ⟨-3, by rw [if_pos h1, if_pos rfl, e_b1, e_b1], ?_, fun q => absurd q (by decide), fun q => absurd rfl q⟩
      intro w hw
      rw [hw rfl, if_pos rfl, if_pos h1, e_b1]
    · by_cases h2 : v ≤ hi
      · refine ⟨0, by rw [if_neg h1, if_pos h2, e_b1], ?_, fun _ => ⟨rfl, Int32.not_lt.mp h1, h2⟩, fun q => absurd rfl q⟩
        intro w hw
        rw [hw rfl, if_pos rfl, if_neg h1, if_pos h2, e_b1]
      · refine ⟨-3, by rw [if_neg h1, if_neg h2, if_pos rfl, e_b1, e_b1], ?_, fun q => absurd q (by decide), fun q => absurd rfl q⟩
        intro w hw
        rw [hw rfl, if_pos rfl, if_neg h1, if_neg h2, e_b1]
  · refine ⟨f, ?_, ?_, fun q => absurd q c, fun _ => rfl⟩
    · by_cases h1 : v < lo
      · rw [if_pos h1, if_neg c, e_b1, e_b1]
      · by_cases h2 : v ≤ hi
        · rw [if_neg h1, if_pos h2, e_b1]
        · rw [if_neg h1, if_neg h2, if_neg c, e_b1, e_b1]
    · intro w _
      rw [if_neg c, e_b1]
theorem q_sgn (th a1 a5 a6 a7 a8 a9 : Int32) {ld mld : Nat → Int32} {n T : Nat} {pX f aM : Int32} (hn : n ≤ 240) (h1 : 1 ≤ n) (hld : sb ld n = sb mld n) (hT : T + 100 < 2 ^ 28) (h : PRl T pX f aM) : ∃ vX pX1 fz vM aM1 f1 : Int32, fPA_signedCode pX (nI (8 * n)) th f ld = some (vX, pX1, fz) ∧ fPA_checked th fz vX (-7) 7 = some (vX, f1) ∧ fMO_signedCode a1 (nI n) aM f a5 a6 a7 a8 a9 mld = some (vM, aM1, f1) ∧ PRl (T + 20) pX1 f1 aM1 ∧ (f1 = 0 → f = 0 ∧ vX = vM) ∧ (¬ f = 0 → f1 = f) := by
  obtain ⟨v, pX1, w, aM1, f1, e1, e2, k1, k2, k3⟩ := q_code th a1 a5 a6 a7 a8 a9 hn h1 hld hT h
  have eX : fPA_signedCode pX (nI (8 * n)) th f ld = some (if (v &&& (1 : Int32)) = (1 : Int32) then (v + (1 : Int32)) / (2 : Int32) else (-v) / (2 : Int32), pX1, f1) := by
    unfold fPA_signedCode
    rw [e1, e_b3]
    split <;> rfl
  have eq0 : f1 = 0 → (if (w - w / (2 : Int32) * (2 : Int32)) = (1 : Int32) then (w + (1 : Int32)) / (2 : Int32) else -(w / (2 : Int32))) = (if (v &&& (1 : Int32)) = (1 : Int32) then (v + (1 : Int32)) / (2 : Int32) else (-v) / (2 : Int32)) := by
    intro q
    obtain ⟨_, q2, j, q3, q4⟩ := k2 q
    rw [← q2, q4]
    exact (sgn_eq j q3).symm
  obtain ⟨f2, c1, c2, c3, c4⟩ := q_check th a1 (nI n) aM1 a5 a6 a7 a8 a9 (if (v &&& (1 : Int32)) = (1 : Int32) then (v + (1 : Int32)) / (2 : Int32) else (-v) / (2 : Int32)) (-7) 7 f1
  refine ⟨_, pX1, f1, (if (w - w / (2 : Int32) * (2 : Int32)) = (1 : Int32) then (w + (1 : Int32)) / (2 : Int32) else -(w / (2 : Int32))), aM1, f2, eX, c1, ?_, ?_, ?_, ?_⟩
  · unfold fMO_signedCode
    rw [e2, e_b3]
    have := c2 (if (w - w / (2 : Int32) * (2 : Int32)) = (1 : Int32) then (w + (1 : Int32)) / (2 : Int32) else -(w / (2 : Int32))) eq0
    by_cases d : (w - w / (2 : Int32) * (2 : Int32)) = (1 : Int32)
    · rw [if_pos d] at this
      rw [if_pos d, e_b1, this, e_b2, if_pos d]
    · rw [if_neg d] at this
      rw [if_neg d, e_b1, this, e_b2, if_neg d]
  · obtain ⟨t, q1, q2, q3⟩ := k1
    exact ⟨t, q1, q2, fun q => q3 (c3 q).1⟩
  · intro q
    have q1 := (c3 q).1
    exact ⟨(k2 q1).1, (eq0 q1).symm⟩
  · intro q
    rw [c4 (by rw [k3 q]; exact q), k3 q]
