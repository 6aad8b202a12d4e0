/-! the parameters unit, whole -/
theorem q_offs (th a1 a5 a6 a7 a8 a9 : Int32) {ld mld : Nat → Int32} {n T : Nat} {pX f aM : Int32} {gX gM : Nat → Int32} (hn : n ≤ 240) (h1 : 1 ≤ n) (hld : sb ld n = sb mld n) (hT : T + 300 < 2 ^ 28) (h : SR T Q4 pX f aM gX gM) : ∃ (p1 zM aM1 f1 : Int32) (gX1 gM1 : Nat → Int32), (if gX 4 = 0 then (some (pX, f, gX)) else (ip_b4 (ip_lp4 (fPA_readUnit_B85 (nI (8 * n)) th ld) 1000 (0 : Int32) pX f gX) (fun x32 x33 x34 y35 => some (x33, x34, y35)))) = some (p1, f1, gX1) ∧ ip_lp4 (fMO_readParameters_B80 a1 (nI n) a5 a6 a7 a8 a9 mld) 1000 (5 : Int32) aM f gM = some (zM, aM1, f1, gM1) ∧ SR (T + 80) Q4 p1 f1 aM1 gX1 gM1 := by
  have wk : SR T Q4 pX f aM gX gM → SR (T + 80) Q4 pX f aM gX gM := fun ⟨⟨t, k1, k2, k3⟩, k4⟩ => ⟨⟨t, by omega, k2, k3⟩, k4⟩
  by_cases c : f = 0
  · subst c
    obtain ⟨r1, r2⟩ := h.2 rfl
    by_cases d : gX 4 = 0
    · refine ⟨pX, 5, aM, 0, gX, gM, by rw [if_pos d], l_ex4 ?_, wk h⟩
      unfold fMO_readParameters_B80
      rw [if_neg (by decide), e_ald 10 gM 4 4 rfl (by omega) (by omega), e_b1, if_pos (show gM 4 = 0 by rw [← r1 4 (by omega)]; exact d)]
    · obtain ⟨p1, zM, aM1, f1, gX1, gM1, e1, e2, k⟩ := off_good th a1 a5 a6 a7 a8 a9 hn h1 hld 4 0 1000 T pX aM gX gM (by omega) (by omega) (by omega) h d
      rw [nI_0] at e1
      exact ⟨p1, zM, aM1, f1, gX1, gM1, by rw [if_neg d, e1, e_b4], e2, k⟩
  · by_cases d : gX 4 = 0
    · exact ⟨pX, 5, aM, f, gX, gM, by rw [if_pos d], offM_bad (fuel := 999) a1 (nI n) a5 a6 a7 a8 a9 mld gM c, wk h⟩
    · obtain ⟨t, k1, k2, k3⟩ := h.1
      obtain ⟨p1, g1, e1, t2, w1, w2, _⟩ := offX_bad th a1 a5 a6 a7 a8 a9 hn h1 hld c 4 0 1000 T pX gX (by omega) (by omega) (by omega) ⟨t, k1, k2, fun q => absurd q c⟩
      rw [nI_0] at e1
      exact ⟨p1, 5, aM, f, g1, gM, by rw [if_neg d, e1, e_b4], offM_bad (fuel := 999) a1 (nI n) a5 a6 a7 a8 a9 mld gM c, ⟨t2, by omega, w2, fun q => absurd q c⟩, fun q => absurd q c⟩
theorem q_bandn (th a1 a5 a6 a7 a8 a9 : Int32) {ld mld : Nat → Int32} {n T : Nat} {pX f aM : Int32} {gX gM : Nat → Int32} (hn : n ≤ 240) (h1 : 1 ≤ n) (hld : sb ld n = sb mld n) (hT : T + 300 < 2 ^ 28) (h : SR T Q4 pX f aM gX gM) : ∃ (p1 aM1 f1 : Int32) (gX1 gM1 : Nat → Int32), (if gX 4 = (3 : Int32) then (ip_b3 (fPA_number pX (nI (8 * n)) th f ld (3 : Int32)) (fun z47 z48 z49 => ip_b1 (ip_ast 10 gX (9 : Int32) z47) (fun g50 => some (z48, z49, g50)))) else (some (pX, f, gX))) = some (p1, f1, gX1) ∧ (if gM 4 = (3 : Int32) then (ip_b3 (fMO_needed a1 (nI n) aM f a5 a6 a7 a8 a9 mld (3 : Int32)) (fun z48 z49 z50 => ip_b1 (ip_ast 10 gM (9 : Int32) z48) (fun g51 => some (z49, z50, g51)))) else (some (aM, f, gM))) = some (aM1, f1, gM1) ∧ SR (T + 20) Q4 p1 f1 aM1 gX1 gM1 := by
  have wk : SR T Q4 pX f aM gX gM → SR (T + 20) Q4 pX f aM gX gM := fun ⟨⟨t, k1, k2, k3⟩, k4⟩ => ⟨⟨t, by omega, k2, k3⟩, k4⟩
  by_cases c : f = 0
  · subst c
    obtain ⟨r1, r2⟩ := h.2 rfl
    by_cases d : gX 4 = 3
    · obtain ⟨vX, pX1, vM, aM1, f1, e1, e2, k⟩ := SR_num th a1 a5 a6 a7 a8 a9 (N := 3) (Q1 := Q4) 9 hn h1 (by omega) hld (by omega) (fun g j _ hq => Q4_upd (by omega) hq) h
      rw [show nI 3 = (3 : Int32) from rfl] at e1 e2
      refine ⟨pX1, aM1, f1, _, _, ?_, ?_, k⟩
      · rw [if_pos d, e1, e_b3, e_ast 10 gX 9 _ 9 rfl (by omega) (by omega), e_b1]
      · rw [if_pos (show gM 4 = 3 by rw [← r1 4 (by omega)]; exact d), e2, e_b3, e_ast 10 gM 9 _ 9 rfl (by omega) (by omega), e_b1]
    · exact ⟨pX, aM, 0, gX, gM, by rw [if_neg d], by rw [if_neg (show ¬ gM 4 = 3 by rw [← r1 4 (by omega)]; exact d)], wk h⟩
  · obtain ⟨t, k1, k2, k3⟩ := h.1
    obtain ⟨p1, gX1, eX, t2, w1, w2⟩ : ∃ (p1 : Int32) (gX1 : Nat → Int32), (if gX 4 = (3 : Int32) then (ip_b3 (fPA_number pX (nI (8 * n)) th f ld (3 : Int32)) (fun z47 z48 z49 => ip_b1 (ip_ast 10 gX (9 : Int32) z47) (fun g50 => some (z48, z49, g50)))) else (some (pX, f, gX))) = some (p1, f, gX1) ∧ ∃ t2, t2 ≤ T + 20 ∧ p1 = nI (t2 + 8) := by
      by_cases d : gX 4 = 3
      · obtain ⟨v, e⟩ := numXb th ld (N := 3) (t := t) hn (by omega) c (by omega)
        rw [show nI 3 = (3 : Int32) from rfl] at e
        refine ⟨nI (t + 3 + 8), upd gX 9 v, ?_, t + 3, by omega, rfl⟩
        · rw [if_pos d, k2, e, e_b3, e_ast 10 gX 9 _ 9 rfl (by omega) (by omega), e_b1]
      · exact ⟨pX, gX, by rw [if_neg d], t, by omega, k2⟩
    obtain ⟨gM1, eM⟩ : ∃ gM1 : Nat → Int32, (if gM 4 = (3 : Int32) then (ip_b3 (fMO_needed a1 (nI n) aM f a5 a6 a7 a8 a9 mld (3 : Int32)) (fun z48 z49 z50 => ip_b1 (ip_ast 10 gM (9 : Int32) z48) (fun g51 => some (z49, z50, g51)))) else (some (aM, f, gM))) = some (aM, f, gM1) := by
      by_cases d : gM 4 = 3
      · refine ⟨upd gM 9 0, ?_⟩
        rw [if_pos d, needb a1 (nI n) a5 a6 a7 a8 a9 mld c, e_b3, e_ast 10 gM 9 _ 9 rfl (by omega) (by omega), e_b1]
      · exact ⟨gM, by rw [if_neg d]⟩
    exact ⟨p1, aM, f, gX1, gM1, eX, eM, ⟨t2, w1, w2, fun q => absurd q c⟩, fun q => absurd q c⟩
theorem q_keepM (g v : Nat → Int32) : ∃ h : Nat → Int32, ip_lp2 (fMO_readParameters_B142 0 g) 1000 (0 : Int32) v = some (nI 10, h) ∧ ∀ i, i < 10 → h i = g i := by
  refine ⟨s_it (fun x h => upd h x (g x)) 10 0 v, ?_, ?_⟩
  · rw [show ip_lp2 (fMO_readParameters_B142 0 g) 1000 (0 : Int32) v = ip_lp2 (fMO_readParameters_B142 0 g) 1000 (nI 0) v from rfl]
    refine lp_it _ (fun x h hx => ?_) (fun h => ?_) 10 0 1000 v (by omega) (by omega)
    · unfold fMO_readParameters_B142
      rw [if_neg (show ¬ (10 : Int32) ≤ nI x from nI_ge (b := 10) hx (by omega)), if_pos rfl, e_ald 10 g _ x rfl hx (by omega), e_b1, e_ast 10 h _ _ x rfl hx (by omega), e_b1, e_lt, nI_1]
    · unfold fMO_readParameters_B142
      rw [if_pos (show (10 : Int32) ≤ nI 10 by decide)]
  · intro i hi
    exact it_in (ix := fun x => x) 10 0 v i (by omega) (by omega) (fun x2 _ _ e => e)
theorem q_par (a1 m3 a6 a7 a8 a9 fz : Int32) {th : Int32} {ld mld : Nat → Int32} (vals com given wan : Nat → Int32) {n : Nat} (hn : n ≤ 240) (h1 : 1 ≤ n) (hld : ∀ i, i < n → ld i = mld i) (hth : th = 0 ∨ th = 1) : ∃ (f1 p1 th1 at1 : Int32) (vals1 com1 given1 wan1 : Nat → Int32), fPA_readUnit (nI 8) (nI (8 * n)) th fz ld vals com = some (f1, p1, th1, f1, vals1, com1) ∧ fMO_readParameters a1 (nI n) m3 0 th a6 a7 a8 a9 mld given wan = some (at1, f1, th1, given1, wan1) ∧ (th1 = 0 ∨ th1 = 1) ∧ (f1 = 0 → th1 = 1 ∧ (∀ i, i < 10 → vals1 i = given1 i) ∧ Q4 vals1) ∧ (¬ f1 = 0 → th1 = th ∧ vals1 = vals ∧ given1 = given) := by
  have hsb := sb_cong hld
  have c0 := q_fill10_l 0 10 0 1000 wan (by omega) (by omega)
  rw [nI_0] at c0
  obtain ⟨v, p1, w, b1, f1, x1, m1, k1, k2, k3⟩ := q_code th a1 th a6 a7 a8 a9 hn h1 hsb (T := 0) (pX := nI 8) (f := 0) (aM := 0) (by omega) ⟨0, by omega, rfl, fun _ => rfl⟩
  obtain ⟨f2, x2, m2, k4, k5⟩ := q_check th a1 (nI n) b1 th a6 a7 a8 a9 v 0 51 f1
  have m2' := m2 w (fun q => (k2 q).2.1.symm)
  have s2 : SR 20 Q0 p1 f2 b1 (upd (fun j => if j < 10 then (0 : Int32) else com j) 0 v) (upd (fun j => if 0 ≤ j ∧ j < 10 then (0 : Int32) else wan j) 0 w) := by
    obtain ⟨t, q1, q2, q3⟩ := k1
    refine ⟨⟨t, by omega, q2, fun q => q3 (k4 q).1⟩, ?_⟩
    intro q
    obtain ⟨r1, r2, r3⟩ := k4 q
    obtain ⟨_, r4, j, r5, r6⟩ := k2 r1
    refine ⟨agree_upd (fun i hi => ?_) r4, j, ?_, ?_⟩
    · show (if i < 10 then (0 : Int32) else com i) = if 0 ≤ i ∧ i < 10 then (0 : Int32) else wan i
      rw [if_pos hi, if_pos ⟨by omega, hi⟩]
    · rw [r6] at r3
      exact (nI_leI (b := 51) (by omega) (by omega)).mp r3
    · rw [u_0]
      exact r6
  obtain ⟨v3, p3, w3, b3, f3, x3, m3', s3⟩ := SR_num th a1 th a6 a7 a8 a9 (N := 1) (Q1 := Q0) 1 hn h1 (by omega) hsb (by omega) (fun g j _ hq => Q0_upd (by omega) hq) s2
  obtain ⟨v4, p4, w4, b4, f4, x4, m4, s4⟩ := SR_num th a1 th a6 a7 a8 a9 (N := 1) (Q1 := Q0) 2 hn h1 (by omega) hsb (by omega) (fun g j _ hq => Q0_upd (by omega) hq) s3
  obtain ⟨v5, p5, w5, b5, f5, x5, m5, s5⟩ := SR_num th a1 th a6 a7 a8 a9 (N := 1) (Q1 := Q0) 3 hn h1 (by omega) hsb (by omega) (fun g j _ hq => Q0_upd (by omega) hq) s4
  obtain ⟨v6, p6, w6, b6, f6, x6, m6, s6⟩ := SR_num th a1 th a6 a7 a8 a9 (N := 2) (Q1 := Q4) 4 hn h1 (by omega) hsb (by omega) (fun g j hj hq => ⟨Q0_upd (by omega) hq, j, by omega, u_0⟩) s5
  rw [show nI 1 = (1 : Int32) from rfl] at x3 m3' x4 m4 x5 m5
  rw [show nI 2 = (2 : Int32) from rfl] at x6 m6
  have lM : ip_lp4 (fMO_readParameters_B45 a1 (nI n) th a6 a7 a8 a9 mld) 1000 (1 : Int32) b1 f2 (upd (fun j => if 0 ≤ j ∧ j < 10 then (0 : Int32) else wan j) 0 w) = some (nI 4, b5, f5, upd (upd (upd (upd (fun j => if 0 ≤ j ∧ j < 10 then (0 : Int32) else wan j) 0 w) 1 w3) 2 w4) 3 w5) := by
    refine (l_in4 (b1 := nI 2) (b2 := b3) (b3 := f3) (b4 := upd (upd (fun j => if 0 ≤ j ∧ j < 10 then (0 : Int32) else wan j) 0 w) 1 w3) ?_).trans ((l_in4 (b1 := nI 3) (b2 := b4) (b3 := f4) (b4 := upd (upd (upd (fun j => if 0 ≤ j ∧ j < 10 then (0 : Int32) else wan j) 0 w) 1 w3) 2 w4) ?_).trans ((l_in4 (b1 := nI 4) (b2 := b5) (b3 := f5) (b4 := upd (upd (upd (upd (fun j => if 0 ≤ j ∧ j < 10 then (0 : Int32) else wan j) 0 w) 1 w3) 2 w4) 3 w5) ?_).trans (l_ex4 ?_)))
    · unfold fMO_readParameters_B45
      rw [if_neg (by decide), m3', e_b3, e_ast 10 _ 1 _ 1 rfl (by omega) (by omega), e_b1]
      rfl
    · unfold fMO_readParameters_B45
      rw [if_neg (by decide), m4, e_b3, e_ast 10 _ (nI 2) _ 2 rfl (by omega) (by omega), e_b1]
      rfl
    · unfold fMO_readParameters_B45
      rw [if_neg (by decide), m5, e_b3, e_ast 10 _ (nI 3) _ 3 rfl (by omega) (by omega), e_b1]
      rfl
    · unfold fMO_readParameters_B45
      rw [if_pos (by decide)]
  obtain ⟨p7, z7, b7, f7, gX7, gM7, x7, m7', s7⟩ := q_offs th a1 th a6 a7 a8 a9 hn h1 hsb (by omega) s6
  obtain ⟨p8, b8, f8, gX8, gM8, x8, m8, s8⟩ := q_bandn th a1 th a6 a7 a8 a9 hn h1 hsb (by omega) s7
  have eX : ∀ (z51 : Int32) (g52 : Nat → Int32), (if f8 = 0 then (ip_lt (va_cpy gX8 vals (0 : Int32).toNatClampNeg (0 : Int32).toNatClampNeg (10 : Int32).toNatClampNeg) (fun g53 => some ((1 : Int32), g53))) else (some (th, vals))) = some (z51, g52) → fPA_readUnit (nI 8) (nI (8 * n)) th fz ld vals com = some (f8, p8, z51, f8, g52, gX8) := by
    intro z51 g52 hz
    unfold fPA_readUnit
    rw [q_fill10, e_b1, x1, e_b3, x2, e_b2, e_ast 10 _ 0 _ 0 rfl (by omega) (by omega), e_b1, x3, e_b3, e_ast 10 _ 1 _ 1 rfl (by omega) (by omega), e_b1, x4, e_b3, e_ast 10 _ 2 _ 2 rfl (by omega) (by omega), e_b1, x5, e_b3, e_ast 10 _ 3 _ 3 rfl (by omega) (by omega), e_b1, x6, e_b3, e_ast 10 _ 4 _ 4 rfl (by omega) (by omega), e_b1, e_ald 10 _ 4 4 rfl (by omega) (by omega), e_b1, x7, e_b3, e_ald 10 _ 4 4 rfl (by omega) (by omega), e_b1, x8, e_b3, hz, e_b2]
  have eM : ∀ (x54 : Int32) (y55 : Nat → Int32) (z59 : Int32), ip_lp2 (fMO_readParameters_B142 f8 gM8) 1000 (0 : Int32) given = some (x54, y55) → (if th = 0 then (if f8 = 0 then (some (1 : Int32)) else (some (0 : Int32))) else (some (1 : Int32))) = some z59 → (z59 = 0 ∨ z59 = 1) → fMO_readParameters a1 (nI n) m3 0 th a6 a7 a8 a9 mld given wan = some (b8, f8, z59, y55, gM8) := by
    intro x54 y55 z59 h1 h2 h3
    unfold fMO_readParameters
    rw [show ip_lp2 fMO_readParameters_B7 1000 (0 : Int32) wan = some (nI 10, fun j => if 0 ≤ j ∧ j < 10 then (0 : Int32) else wan j) from c0, e_b2, m1, e_b3, m2', e_b2, e_ast 10 _ 0 _ 0 rfl (by omega) (by omega), e_b1, lM, e_b4, m6, e_b3, e_ast 10 _ 4 _ 4 rfl (by omega) (by omega), e_b1, m7', e_b4, e_ald 10 _ 4 4 rfl (by omega) (by omega), e_b1, m8, e_b3, h1, e_b2, h2, e_b1, e_zk h3]
  by_cases c : f8 = 0
  · obtain ⟨gv, eg, hg⟩ := q_keepM gM8 given
    obtain ⟨r1, r2⟩ := s8.2 c
    have z1 : (if th = 0 then (if f8 = 0 then (some (1 : Int32)) else (some (0 : Int32))) else (some (1 : Int32))) = some 1 := by
      rw [if_pos c]
      split <;> rfl
    have ag : ∀ i, i < 10 → va_cpy gX8 vals 0 0 10 i = gX8 i := fun i hi => sb_cpy0 hi
    refine ⟨f8, p8, 1, b8, va_cpy gX8 vals 0 0 10, gX8, gv, gM8, eX _ _ (by rw [if_pos c, e_lt]; rfl), eM _ _ _ (by rw [c]; exact eg) z1 (Or.inr rfl), Or.inr rfl, fun _ => ⟨rfl, ?_, ?_⟩, fun q => absurd c q⟩
    · intro i hi
      rw [ag i hi, hg i hi]
      exact r1 i hi
    · obtain ⟨⟨q, q1, q2⟩, cc, q3, q4⟩ := r2
      exact ⟨⟨q, q1, (ag 0 (by omega)).trans q2⟩, cc, q3, (ag 4 (by omega)).trans q4⟩
  · have z1 : (if th = 0 then (if f8 = 0 then (some (1 : Int32)) else (some (0 : Int32))) else (some (1 : Int32))) = some th := by
      rw [if_neg c]
      rcases hth with h | h <;> rw [h] <;> rfl
    refine ⟨f8, p8, th, b8, vals, gX8, given, gM8, eX _ _ (by rw [if_neg c]), eM 0 given th (l_ex2 ?_) z1 hth, hth, fun q => absurd q c, fun _ => ⟨rfl, rfl, rfl⟩⟩
    unfold fMO_readParameters_B142
    rw [if_neg (by decide), if_neg c]
