/-! fills; the levels of a leaf -/
theorem q_fill3_l (v : Int32) : ∀ (k i fuel : Nat) (f : Nat → Int32), i + k = 3 → k < fuel → ip_lp2 (fAR_fill3_B5 v) fuel (nI i) f = some (nI 3, fun j => if i ≤ j ∧ j < 3 then v else f j) := by
  intro k
  induction k with
  | zero =>
    intro i fuel f hi hf
    obtain ⟨g, rfl⟩ : ∃ f, fuel = f + 1 := ⟨fuel - 1, by omega⟩
    have e : i = 3 := by omega
    subst e
    unfold ip_lp2 ip_lp fAR_fill3_B5
    simp only []
    rw [if_pos (show (3 : Int32) ≤ nI 3 by decide)]
    simp only []
    congr 2
    funext j
    rw [if_neg (by omega)]
  | succ k ih =>
    intro i fuel f hi hf
    obtain ⟨g, rfl⟩ : ∃ f, fuel = f + 1 := ⟨fuel - 1, by omega⟩
    have h1 := ih (i + 1) g (upd f i v) (by omega) (by omega)
    have e : (fun j => if i ≤ j ∧ j < 3 then v else f j) = (fun j => if i + 1 ≤ j ∧ j < 3 then v else upd f i v j) := by
      funext j
      by_cases hj : j = i
      · subst hj
        rw [if_pos ⟨Nat.le_refl _, by omega⟩, if_neg (by omega), u_0]
      · rw [u_n hj]
        by_cases h2 : i ≤ j ∧ j < 3
        · rw [if_pos h2, if_pos ⟨by omega, h2.2⟩]
        · rw [if_neg h2, if_neg (by omega)]
    rw [e, ← h1]
    conv => lhs; unfold ip_lp2 ip_lp fAR_fill3_B5
    simp only []
    rw [if_neg (show ¬ (3 : Int32) ≤ nI i from nI_ge (b := 3) (by omega) (by omega)), ip_ast_n (by omega) (by omega)]
    simp only [e_b1, e_lt, nI_1]
    rfl
theorem q_fill3 (v : Int32) (f : Nat → Int32) : fAR_fill3 f v = some (fun j => if j < 3 then v else f j) := by
  unfold fAR_fill3
  rw [show ip_lp2 (fAR_fill3_B5 v) 1000 (0 : Int32) f = _ from q_fill3_l v 3 0 1000 f (by omega) (by omega)]
  show some (fun j => if 0 ≤ j ∧ j < 3 then v else f j) = _
  congr 1
  funext j
  by_cases h : j < 3
  · rw [if_pos (show 0 ≤ j ∧ j < 3 from ⟨by omega, h⟩), if_pos h]
  · rw [if_neg (show ¬ (0 ≤ j ∧ j < 3) from fun q => h q.2), if_neg h]
theorem q_fill10_l (v : Int32) : ∀ (k i fuel : Nat) (f : Nat → Int32), i + k = 10 → k < fuel → ip_lp2 (fAR_fill10_B5 v) fuel (nI i) f = some (nI 10, fun j => if i ≤ j ∧ j < 10 then v else f j) := by
  intro k
  induction k with
  | zero =>
    intro i fuel f hi hf
    obtain ⟨g, rfl⟩ : ∃ f, fuel = f + 1 := ⟨fuel - 1, by omega⟩
    have e : i = 10 := by omega
    subst e
    unfold ip_lp2 ip_lp fAR_fill10_B5
    simp only []
    rw [if_pos (show (10 : Int32) ≤ nI 10 by decide)]
    simp only []
    congr 2
    funext j
    rw [if_neg (by omega)]
  | succ k ih =>
    intro i fuel f hi hf
    obtain ⟨g, rfl⟩ : ∃ f, fuel = f + 1 := ⟨fuel - 1, by omega⟩
    have h1 := ih (i + 1) g (upd f i v) (by omega) (by omega)
    have e : (fun j => if i ≤ j ∧ j < 10 then v else f j) = (fun j => if i + 1 ≤ j ∧ j < 10 then v else upd f i v j) := by
      funext j
      by_cases hj : j = i
      · subst hj
        rw [if_pos ⟨Nat.le_refl _, by omega⟩, if_neg (by omega), u_0]
      · rw [u_n hj]
        by_cases h2 : i ≤ j ∧ j < 10
        · rw [if_pos h2, if_pos ⟨by omega, h2.2⟩]
        · rw [if_neg h2, if_neg (by omega)]
    rw [e, ← h1]
    conv => lhs; unfold ip_lp2 ip_lp fAR_fill10_B5
    simp only []
    rw [if_neg (show ¬ (10 : Int32) ≤ nI i from nI_ge (b := 10) (by omega) (by omega)), ip_ast_n (by omega) (by omega)]
    simp only [e_b1, e_lt, nI_1]
    rfl
theorem q_fill10 (v : Int32) (f : Nat → Int32) : fAR_fill10 f v = some (fun j => if j < 10 then v else f j) := by
  unfold fAR_fill10
  rw [show ip_lp2 (fAR_fill10_B5 v) 1000 (0 : Int32) f = _ from q_fill10_l v 10 0 1000 f (by omega) (by omega)]
  show some (fun j => if 0 ≤ j ∧ j < 10 then v else f j) = _
  congr 1
  funext j
  by_cases h : j < 10
  · rw [if_pos (show 0 ≤ j ∧ j < 10 from ⟨by omega, h⟩), if_pos h]
  · rw [if_neg (show ¬ (0 ≤ j ∧ j < 10) from fun q => h q.2), if_neg h]
theorem q_fill14_l (v : Int32) : ∀ (k i fuel : Nat) (f : Nat → Int32), i + k = 14 → k < fuel → ip_lp2 (fAR_fill14_B5 v) fuel (nI i) f = some (nI 14, fun j => if i ≤ j ∧ j < 14 then v else f j) := by
  intro k
  induction k with
  | zero =>
    intro i fuel f hi hf
    obtain ⟨g, rfl⟩ : ∃ f, fuel = f + 1 := ⟨fuel - 1, by omega⟩
    have e : i = 14 := by omega
    subst e
    unfold ip_lp2 ip_lp fAR_fill14_B5
    simp only []
    rw [if_pos (show (14 : Int32) ≤ nI 14 by decide)]
    simp only []
    congr 2
    funext j
    rw [if_neg (by omega)]
  | succ k ih =>
    intro i fuel f hi hf
    obtain ⟨g, rfl⟩ : ∃ f, fuel = f + 1 := ⟨fuel - 1, by omega⟩
    have h1 := ih (i + 1) g (upd f i v) (by omega) (by omega)
    have e : (fun j => if i ≤ j ∧ j < 14 then v else f j) = (fun j => if i + 1 ≤ j ∧ j < 14 then v else upd f i v j) := by
      funext j
      by_cases hj : j = i
      · subst hj
        rw [if_pos ⟨Nat.le_refl _, by omega⟩, if_neg (by omega), u_0]
      · rw [u_n hj]
        by_cases h2 : i ≤ j ∧ j < 14
        · rw [if_pos h2, if_pos ⟨by omega, h2.2⟩]
        · rw [if_neg h2, if_neg (by omega)]
    rw [e, ← h1]
    conv => lhs; unfold ip_lp2 ip_lp fAR_fill14_B5
    simp only []
    rw [if_neg (show ¬ (14 : Int32) ≤ nI i from nI_ge (b := 14) (by omega) (by omega)), ip_ast_n (by omega) (by omega)]
    simp only [e_b1, e_lt, nI_1]
    rfl
theorem q_fill14 (v : Int32) (f : Nat → Int32) : fAR_fill14 f v = some (fun j => if j < 14 then v else f j) := by
  unfold fAR_fill14
  rw [show ip_lp2 (fAR_fill14_B5 v) 1000 (0 : Int32) f = _ from q_fill14_l v 14 0 1000 f (by omega) (by omega)]
  show some (fun j => if 0 ≤ j ∧ j < 14 then v else f j) = _
  congr 1
  funext j
  by_cases h : j < 14
  · rw [if_pos (show 0 ≤ j ∧ j < 14 from ⟨by omega, h⟩), if_pos h]
  · rw [if_neg (show ¬ (0 ≤ j ∧ j < 14) from fun q => h q.2), if_neg h]
theorem q_fill16_l (v : Int32) : ∀ (k i fuel : Nat) (f : Nat → Int32), i + k = 16 → k < fuel → ip_lp2 (fAR_fill16_B5 v) fuel (nI i) f = some (nI 16, fun j => if i ≤ j ∧ j < 16 then v else f j) := by
  intro k
  induction k with
  | zero =>
    intro i fuel f hi hf
    obtain ⟨g, rfl⟩ : ∃ f, fuel = f + 1 := ⟨fuel - 1, by omega⟩
    have e : i = 16 := by omega
    subst e
    unfold ip_lp2 ip_lp fAR_fill16_B5
    simp only []
    rw [if_pos (show (16 : Int32) ≤ nI 16 by decide)]
    simp only []
    congr 2
    funext j
    rw [if_neg (by omega)]
  | succ k ih =>
    intro i fuel f hi hf
    obtain ⟨g, rfl⟩ : ∃ f, fuel = f + 1 := ⟨fuel - 1, by omega⟩
    have h1 := ih (i + 1) g (upd f i v) (by omega) (by omega)
    have e : (fun j => if i ≤ j ∧ j < 16 then v else f j) = (fun j => if i + 1 ≤ j ∧ j < 16 then v else upd f i v j) := by
      funext j
      by_cases hj : j = i
      · subst hj
        rw [if_pos ⟨Nat.le_refl _, by omega⟩, if_neg (by omega), u_0]
      · rw [u_n hj]
        by_cases h2 : i ≤ j ∧ j < 16
        · rw [if_pos h2, if_pos ⟨by omega, h2.2⟩]
        · rw [if_neg h2, if_neg (by omega)]
    rw [e, ← h1]
    conv => lhs; unfold ip_lp2 ip_lp fAR_fill16_B5
    simp only []
    rw [if_neg (show ¬ (16 : Int32) ≤ nI i from nI_ge (b := 16) (by omega) (by omega)), ip_ast_n (by omega) (by omega)]
    simp only [e_b1, e_lt, nI_1]
    rfl
theorem q_fill16 (v : Int32) (f : Nat → Int32) : fAR_fill16 f v = some (fun j => if j < 16 then v else f j) := by
  unfold fAR_fill16
  rw [show ip_lp2 (fAR_fill16_B5 v) 1000 (0 : Int32) f = _ from q_fill16_l v 16 0 1000 f (by omega) (by omega)]
  show some (fun j => if 0 ≤ j ∧ j < 16 then v else f j) = _
  congr 1
  funext j
  by_cases h : j < 16
  · rw [if_pos (show 0 ≤ j ∧ j < 16 from ⟨by omega, h⟩), if_pos h]
  · rw [if_neg (show ¬ (0 ≤ j ∧ j < 16) from fun q => h q.2), if_neg h]
theorem q_fill256_l (v : Int32) : ∀ (k i fuel : Nat) (f : Nat → Int32), i + k = 256 → k < fuel → ip_lp2 (fAR_fill256_B5 v) fuel (nI i) f = some (nI 256, fun j => if i ≤ j ∧ j < 256 then v else f j) := by
  intro k
  induction k with
  | zero =>
    intro i fuel f hi hf
    obtain ⟨g, rfl⟩ : ∃ f, fuel = f + 1 := ⟨fuel - 1, by omega⟩
    have e : i = 256 := by omega
    subst e
    unfold ip_lp2 ip_lp fAR_fill256_B5
    simp only []
    rw [if_pos (show (256 : Int32) ≤ nI 256 by decide)]
    simp only []
    congr 2
    funext j
    rw [if_neg (by omega)]
  | succ k ih =>
    intro i fuel f hi hf
    obtain ⟨g, rfl⟩ : ∃ f, fuel = f + 1 := ⟨fuel - 1, by omega⟩
    have h1 := ih (i + 1) g (upd f i v) (by omega) (by omega)
    have e : (fun j => if i ≤ j ∧ j < 256 then v else f j) = (fun j => if i + 1 ≤ j ∧ j < 256 then v else upd f i v j) := by
      funext j
      by_cases hj : j = i
      · subst hj
        rw [if_pos ⟨Nat.le_refl _, by omega⟩, if_neg (by omega), u_0]
      · rw [u_n hj]
        by_cases h2 : i ≤ j ∧ j < 256
        · rw [if_pos h2, if_pos ⟨by omega, h2.2⟩]
        · rw [if_neg h2, if_neg (by omega)]
    rw [e, ← h1]
    conv => lhs; unfold ip_lp2 ip_lp fAR_fill256_B5
    simp only []
    rw [if_neg (show ¬ (256 : Int32) ≤ nI i from nI_ge (b := 256) (by omega) (by omega)), ip_ast_n (by omega) (by omega)]
    simp only [e_b1, e_lt, nI_1]
    rfl
theorem q_fill256 (v : Int32) (f : Nat → Int32) : fAR_fill256 f v = some (fun j => if j < 256 then v else f j) := by
  unfold fAR_fill256
  rw [show ip_lp2 (fAR_fill256_B5 v) 1000 (0 : Int32) f = _ from q_fill256_l v 256 0 1000 f (by omega) (by omega)]
  show some (fun j => if 0 ≤ j ∧ j < 256 then v else f j) = _
  congr 1
  funext j
  by_cases h : j < 256
  · rw [if_pos (show 0 ≤ j ∧ j < 256 from ⟨by omega, h⟩), if_pos h]
  · rw [if_neg (show ¬ (0 ≤ j ∧ j < 256) from fun q => h q.2), if_neg h]
theorem q_fillC_l : ∀ (k i fuel : Nat) (f : Nat → Int32), i + k = 14 → k < fuel → ip_lp2 fMO_readPicture_B24 fuel (nI i) f = some (nI 14, fun j => if i ≤ j ∧ j < 14 then (512 : Int32) else f j) := by
  intro k
  induction k with
  | zero =>
    intro i fuel f hi hf
    obtain ⟨g, rfl⟩ : ∃ f, fuel = f + 1 := ⟨fuel - 1, by omega⟩
    have e : i = 14 := by omega
    subst e
    unfold ip_lp2 ip_lp fMO_readPicture_B24
    simp only []
    rw [if_pos (show (14 : Int32) ≤ nI 14 by decide)]
    simp only []
    congr 2
    funext j
    rw [if_neg (by omega)]
  | succ k ih =>
    intro i fuel f hi hf
    obtain ⟨g, rfl⟩ : ∃ f, fuel = f + 1 := ⟨fuel - 1, by omega⟩
    have h1 := ih (i + 1) g (upd f i (512 : Int32)) (by omega) (by omega)
    have e : (fun j => if i ≤ j ∧ j < 14 then (512 : Int32) else f j) = (fun j => if i + 1 ≤ j ∧ j < 14 then (512 : Int32) else upd f i (512 : Int32) j) := by
      funext j
      by_cases hj : j = i
      · subst hj
        rw [if_pos ⟨Nat.le_refl _, by omega⟩, if_neg (by omega), u_0]
      · rw [u_n hj]
        by_cases h2 : i ≤ j ∧ j < 14
        · rw [if_pos h2, if_pos ⟨by omega, h2.2⟩]
        · rw [if_neg h2, if_neg (by omega)]
    rw [e, ← h1]
    conv => lhs; unfold ip_lp2 ip_lp fMO_readPicture_B24
    simp only []
    rw [if_neg (show ¬ (14 : Int32) ≤ nI i from nI_ge (b := 14) (by omega) (by omega)), ip_ast_n (by omega) (by omega)]
    simp only [e_b1, e_lt, nI_1]
    rfl
theorem q_fillK_l : ∀ (k i fuel : Nat) (f : Nat → Int32), i + k = 3 → k < fuel → ip_lp2 fMO_readPicture_B47 fuel (nI i) f = some (nI 3, fun j => if i ≤ j ∧ j < 3 then (0 : Int32) else f j) := by
  intro k
  induction k with
  | zero =>
    intro i fuel f hi hf
    obtain ⟨g, rfl⟩ : ∃ f, fuel = f + 1 := ⟨fuel - 1, by omega⟩
    have e : i = 3 := by omega
    subst e
    unfold ip_lp2 ip_lp fMO_readPicture_B47
    simp only []
    rw [if_pos (show (3 : Int32) ≤ nI 3 by decide)]
    simp only []
    congr 2
    funext j
    rw [if_neg (by omega)]
  | succ k ih =>
    intro i fuel f hi hf
    obtain ⟨g, rfl⟩ : ∃ f, fuel = f + 1 := ⟨fuel - 1, by omega⟩
    have h1 := ih (i + 1) g (upd f i (0 : Int32)) (by omega) (by omega)
    have e : (fun j => if i ≤ j ∧ j < 3 then (0 : Int32) else f j) = (fun j => if i + 1 ≤ j ∧ j < 3 then (0 : Int32) else upd f i (0 : Int32) j) := by
      funext j
      by_cases hj : j = i
      · subst hj
        rw [if_pos ⟨Nat.le_refl _, by omega⟩, if_neg (by omega), u_0]
      · rw [u_n hj]
        by_cases h2 : i ≤ j ∧ j < 3
        · rw [if_pos h2, if_pos ⟨by omega, h2.2⟩]
        · rw [if_neg h2, if_neg (by omega)]
    rw [e, ← h1]
    conv => lhs; unfold ip_lp2 ip_lp fMO_readPicture_B47
    simp only []
    rw [if_neg (show ¬ (3 : Int32) ≤ nI i from nI_ge (b := 3) (by omega) (by omega)), ip_ast_n (by omega) (by omega)]
    simp only [e_b1, e_lt, nI_1]
    rfl
theorem q_fillO : ∀ (k i fuel : Nat) (f h : Nat → Int32), i + k = 256 → k < fuel → ip_lp3 fMO_readPicture_B85 fuel (nI i) f h = some (nI 256, (fun j => if i ≤ j ∧ j < 256 then (-1 : Int32) else f j), (fun j => if i ≤ j ∧ j < 256 then (0 : Int32) else h j)) := by
  intro k
  induction k with
  | zero =>
    intro i fuel f h hi hf
    obtain ⟨g, rfl⟩ : ∃ f, fuel = f + 1 := ⟨fuel - 1, by omega⟩
    have e : i = 256 := by omega
    subst e
    unfold ip_lp3 ip_lp fMO_readPicture_B85
    simp only []
    rw [if_pos (show (256 : Int32) ≤ nI 256 by decide)]
    simp only []
    congr 3
    · funext j
      rw [if_neg (by omega)]
    · funext j
      rw [if_neg (by omega)]
  | succ k ih =>
    intro i fuel f h hi hf
    obtain ⟨g, rfl⟩ : ∃ f, fuel = f + 1 := ⟨fuel - 1, by omega⟩
    have h1 := ih (i + 1) g (upd f i (-1)) (upd h i 0) (by omega) (by omega)
    have e : ∀ (v : Int32) (f : Nat → Int32), (fun j => if i ≤ j ∧ j < 256 then v else f j) = (fun j => if i + 1 ≤ j ∧ j < 256 then v else upd f i v j) := by
      intro v f
      funext j
      by_cases hj : j = i
      · subst hj
        rw [if_pos ⟨Nat.le_refl _, by omega⟩, if_neg (by omega), u_0]
      · rw [u_n hj]
        by_cases h2 : i ≤ j ∧ j < 256
        · rw [if_pos h2, if_pos ⟨by omega, h2.2⟩]
        · rw [if_neg h2, if_neg (by omega)]
    rw [e, e, ← h1]
    conv => lhs; unfold ip_lp3 ip_lp fMO_readPicture_B85
    simp only []
    rw [if_neg (show ¬ (256 : Int32) ≤ nI i from nI_ge (b := 256) (by omega) (by omega)), ip_ast_n (by omega) (by omega)]
    simp only [e_b1]
    rw [ip_ast_n (by omega) (by omega)]
    simp only [e_b1, e_lt, nI_1]
    rfl
theorem s_likely_01 (p : Int32) : s_likely p = 0 ∨ s_likely p = 1 := by
  unfold s_likely
  split
  · exact Or.inl rfl
  · exact Or.inr rfl
theorem s_bin_01 (ld : Nat → Int32) (n : Nat) (s : DS) (c : Nat) : (s_bin ld n s c).1 = 0 ∨ (s_bin ld n s c).1 = 1 := by
  show s_got _ _ _ = 0 ∨ s_got _ _ _ = 1
  unfold s_got
  split
  · exact s_likely_01 _
  · rcases s_likely_01 (s.1 c) with h | h
    · exact Or.inr (by rw [h]; rfl)
    · exact Or.inl (by rw [h]; rfl)
def s_zf (g : Nat → Int32) : Nat → Int32 := fun k => if k < 16 then 0 else g k
abbrev LvS : Type := DS × (Nat → Int32) × (Nat → Int32)
def s_gr (ld : Nat → Int32) (n : Nat) (hp cod lg : Int32) (j : Nat) (s : DS) (g : Nat → Int32) : DS × (Nat → Int32) :=
  if cod = 0 then (s, s_zf g) else if lg = 0 then s_grp ld n hp s g else
  if (s_bin ld n s (if j = 0 then 7 else 8)).1 = 1 then s_grp ld n hp (s_bin ld n s (if j = 0 then 7 else 8)).2 g else ((s_bin ld n s (if j = 0 then 7 else 8)).2, s_zf g)
def s_gj (ld : Nat → Int32) (n : Nat) (hp cod lg : Int32) (x y j : Nat) (a : LvS) : LvS := ((s_gr ld n hp cod lg j a.1 a.2.1).1, (s_gr ld n hp cod lg j a.1 a.2.1).2, blk a.2.2 (x + 4 * (j % 2)) (y + 4 * (j / 2)) (s_gr ld n hp cod lg j a.1 a.2.1).2)
theorem q_gjX (ld co vals : Nat → Int32) (md cod lg sk G f l sm : Int32) (sd : Int32) {n b x y j : Nat} {a : LvS} (hn : n ≤ 240) (hj : j < 4) (hG : nI j < G) (hx : x + 4 * (j % 2) ≤ 12) (hy : y + 4 * (j / 2) ≤ 12) (hs : DOK b a.1) (hb : b + 510 < 2 ^ 30) (hxr : XR a.1 co) : ∃ (f1 l1 sm1 : Int32) (co1 : Nat → Int32), fLR_readLeaf_B94 (nI (8 * n)) (nI x) (nI y) sd md ld vals lg cod sk G (nI j) (nI (a.1.2.2.2.2.2 + 8)) a.1.2.2.2.1 a.1.2.2.2.2.1 f l sm a.1.1 co a.2.2 a.2.1 = some (.inl (nI (j + 1), nI ((s_gj ld n (vals 1) cod lg x y j a).1.2.2.2.2.2 + 8), (s_gj ld n (vals 1) cod lg x y j a).1.2.2.2.1, (s_gj ld n (vals 1) cod lg x y j a).1.2.2.2.2.1, f1, l1, sm1, (s_gj ld n (vals 1) cod lg x y j a).1.1, co1, (s_gj ld n (vals 1) cod lg x y j a).2.2, (s_gj ld n (vals 1) cod lg x y j a).2.1)) ∧ XR (s_gj ld n (vals 1) cod lg x y j a).1 co1 ∧ DOK (b + 510) (s_gj ld n (vals 1) cod lg x y j a).1 := by
  have ec : (if nI j = 0 then some (7 : Int32) else some (8 : Int32)) = some (nI (if j = 0 then 7 else 8)) := by
    by_cases h : j = 0
    · subst h
      rfl
    · rw [if_neg (nI_ne0 (by omega) (by omega)), if_neg h]
      rfl
  have hc14 : (if j = 0 then 7 else 8) < 14 := by split <;> omega
  have key : ∀ (r : DS × (Nat → Int32)) (f1 l1 sm1 : Int32) (co1 : Nat → Int32), ip_b9 (some (nI (r.1.2.2.2.2.2 + 8), r.1.2.2.2.1, r.1.2.2.2.2.1, f1, l1, sm1, r.1.1, co1, r.2)) (fun z48 z49 z50 z51 z52 z53 g54 g55 g56 =>
      ip_b1 (fLF_placeInPicture (nI x) (nI y) sd md sk ((4 : Int32) * (nI j &&& (1 : Int32))) ((4 : Int32) * (nI j >>> ((1 : Int32) &&& 31)))) (fun z95 => ip_b1 (fLR_keepGroup z51 z52 z53 a.2.2 g56 z95) (fun g96 => ip_lt (nI j + (1 : Int32)) (fun z97 =>
      some (Sum.inl (z97, z48, z49, z50, z51, z52, z53, g54, g55, g96, g56) : (Int32 × Int32 × Int32 × Int32 × Int32 × Int32 × Int32 × (Nat → Int32) × (Nat → Int32) × (Nat → Int32) × (Nat → Int32)) ⊕ (Int32 × Int32 × Int32 × Int32 × Int32 × Int32 × Int32 × (Nat → Int32) × (Nat → Int32) × (Nat → Int32) × (Nat → Int32))))))) = some (.inl (nI (j + 1), nI (r.1.2.2.2.2.2 + 8), r.1.2.2.2.1, r.1.2.2.2.2.1, f1, l1, sm1, r.1.1, co1, blk a.2.2 (x + 4 * (j % 2)) (y + 4 * (j / 2)) r.2, r.2)) := by
    intro r f1 l1 sm1 co1
    simp only [e_b9]
    unfold fLF_placeInPicture fIP_placeOf
    simp only [e_b1, e_lt, nI_1]
    have ep : ((nI y + ((4 : Int32) * (nI j >>> ((1 : Int32) &&& 31)))) * (16 : Int32)) + (nI x + ((4 : Int32) * (nI j &&& (1 : Int32)))) = nI (16 * (y + 4 * (j / 2)) + (x + 4 * (j % 2))) := by
      rw [show nI j >>> ((1 : Int32) &&& 31) = nI (j / 2) from pk_shrN (by omega) _ 1 (by decide), show nI j &&& (1 : Int32) = nI (j % 2) from pk_andN (by omega) 1 (by decide), show (4 : Int32) = nI 4 from rfl, show (16 : Int32) = nI 16 from rfl, pk_mul, pk_mul, nI_add, nI_add, pk_mul, nI_add]
      congr 1
      omega
    rw [ep, q_keep _ _ _ _ _ hx hy]
    rfl
  unfold fLR_readLeaf_B94 s_gj s_gr
  rw [if_neg (Int32.not_le.mpr hG), ec]
  simp only [e_b1]
  by_cases h0 : cod = 0
  · rw [if_pos h0, if_pos h0, q_fill16]
    simp only [e_b1]
    refine ⟨f, l, sm, co, ?_, hxr, hs.mono (by omega)⟩
    exact key (a.1, s_zf a.2.1) f l sm co
  · rw [if_neg h0, if_neg h0]
    by_cases h1 : lg = 0
    · rw [if_pos h1, if_pos h1]
      obtain ⟨f1, l1, sm1, co1, k1, k2, k3⟩ := q_grpX ld co a.2.1 vals f l sm hn hs (by omega) hxr
      rw [k1]
      generalize s_grp ld n (vals 1) a.1 a.2.1 = r at k2 k3 ⊢
      exact ⟨f1, l1, sm1, co1, key r f1 l1 sm1 co1, k2, k3.mono (by omega)⟩
    · rw [if_neg h1, if_neg h1]
      obtain ⟨co1, g1, g2⟩ := q_binX ld co (c := if j = 0 then 7 else 8) hn hc14 hs (by omega) hxr.1 hxr.2
      have k0 := s_bin_ok ld n (c := if j = 0 then 7 else 8) hc14 hs
      rw [g1]
      simp only [e_b6]
      generalize s_bin ld n a.1 (if j = 0 then 7 else 8) = r1 at g1 g2 k0 ⊢
      by_cases h2 : r1.1 = 1
      · rw [if_pos h2, if_pos h2]
        obtain ⟨f1, l1, sm1, co2, k1, k2, k3⟩ := q_grpX ld co1 a.2.1 vals f l sm hn k0 (by omega) g2
        rw [k1]
        generalize s_grp ld n (vals 1) r1.2 a.2.1 = r at k2 k3 ⊢
        exact ⟨f1, l1, sm1, co2, key r f1 l1 sm1 co2, k2, k3.mono (by omega)⟩
      · rw [if_neg h2, if_neg h2, q_fill16]
        simp only [e_b1]
        exact ⟨f, l, sm, co1, key (r1.2, s_zf a.2.1) f l sm co1, g2, k0.mono (by omega)⟩
theorem blk_zero {lv g : Nat → Int32} {x y : Nat} (h : ∀ q, inb x y q → lv q = 0) : blk lv x y (s_zf g) = lv := by
  funext q
  by_cases hq : inb x y q
  · rw [blk_in hq, h q hq]
    unfold s_zf
    rw [if_pos (pos_of hq).1]
  · exact blk_out hq
theorem q_gjM (a1 a4 a5 a6 a9 : Int32) (ld co vals gm : Nat → Int32) (lg sd : Int32) {n b x y j G : Nat} {a : LvS} (hn : n ≤ 240) (hj : j < 4) (hG : (sd * sd) / (16 : Int32) = nI G) (hG2 : j < G) (hG3 : G ≤ 4) (hsd : sd = 4 ↔ lg = 0) (hx : x + 4 * (j % 2) ≤ 12) (hy : y + 4 * (j / 2) ≤ 12) (hs : DOK b a.1) (hb : b + 700 < 2 ^ 30) (hm : MR a.1 co) (hz : ∀ q, inb (x + 4 * (j % 2)) (y + 4 * (j / 2)) q → a.2.2 q = 0) : ∃ co1 gm1 : Nat → Int32, fMO_readLeaf_B203 a1 (nI n) a4 a5 a6 ld vals (nI x) (nI y) sd a9 (nI j) (nI a.1.2.2.2.2.2) a.1.2.2.2.1 a.1.2.2.2.2.1 a.1.1 co a.2.2 gm = some (.inl (nI (j + 1), nI (s_gj ld n (vals 1) 1 lg x y j a).1.2.2.2.2.2, (s_gj ld n (vals 1) 1 lg x y j a).1.2.2.2.1, (s_gj ld n (vals 1) 1 lg x y j a).1.2.2.2.2.1, (s_gj ld n (vals 1) 1 lg x y j a).1.1, co1, (s_gj ld n (vals 1) 1 lg x y j a).2.2, gm1)) ∧ MR (s_gj ld n (vals 1) 1 lg x y j a).1 co1 := by
  have ec : (if nI j = 0 then some (7 : Int32) else some (8 : Int32)) = some (nI (if j = 0 then 7 else 8)) := by
    by_cases h : j = 0
    · subst h
      rfl
    · rw [if_neg (nI_ne0 (by omega) (by omega)), if_neg h]
      rfl
  have hc14 : (if j = 0 then 7 else 8) < 14 := by split <;> omega
  have e1 : nI x + ((nI j - nI j / (2 : Int32) * (2 : Int32)) * (4 : Int32)) = nI (x + 4 * (j % 2)) := by
    rw [show nI j - nI j / (2 : Int32) * (2 : Int32) = nI (j % 2) from pk_rem (d := 2) (by omega) (by omega) (by omega), show (4 : Int32) = nI 4 from rfl, pk_mul, nI_add, Nat.mul_comm]
  have e2 : nI y + ((nI j / (2 : Int32)) * (4 : Int32)) = nI (y + 4 * (j / 2)) := by
    rw [show nI j / (2 : Int32) = nI (j / 2) from pk_div (d := 2) (by omega) (by omega) (by omega), show (4 : Int32) = nI 4 from rfl, pk_mul, nI_add, Nat.mul_comm]
  unfold fMO_readLeaf_B203 s_gj s_gr
  rw [hG, if_neg (nI_ge hG2 (by omega)), if_neg (show ¬ (1 : Int32) = 0 by decide), e1, e2]
  by_cases h1 : lg = 0
  · rw [if_pos (hsd.mpr h1), if_pos h1]
    simp only [e_b6]
    rw [if_neg (show ¬ (1 : Int32) = 0 by decide)]
    obtain ⟨co1, gm1, k1, k2⟩ := q_grpM a1 a4 a5 a6 a9 ld co a.2.1 gm vals a.2.2 hn hs (by omega) hm hx hy
    rw [k1]
    simp only [e_b7, e_lt, nI_1]
    exact ⟨co1, gm1, rfl, k2⟩
  · rw [if_neg (fun q => h1 (hsd.mp q)), if_neg h1, ec]
    simp only [e_b1]
    obtain ⟨co1, g1, g2⟩ := q_binM a1 a4 a5 a6 a9 ld co (c := if j = 0 then 7 else 8) hn hc14 hs (by omega) hm.1 hm.2.1 hm.2.2
    have k0 := s_bin_ok ld n (c := if j = 0 then 7 else 8) hc14 hs
    rw [g1]
    simp only [e_b6]
    generalize s_bin ld n a.1 (if j = 0 then 7 else 8) = r1 at g1 g2 k0 ⊢
    by_cases h2 : r1.1 = 1
    · rw [if_pos h2, if_pos h2]
      simp only [e_b6]
      rw [if_neg (show ¬ (1 : Int32) = 0 by decide)]
      obtain ⟨co2, gm1, k1, k2⟩ := q_grpM a1 a4 a5 a6 a9 ld co1 a.2.1 gm vals a.2.2 hn k0 (by omega) g2 hx hy
      rw [k1]
      simp only [e_b7, e_lt, nI_1]
      exact ⟨co2, gm1, rfl, k2⟩
    · rw [if_neg h2, if_neg h2]
      simp only [e_b6, ↓reduceIte, e_b7, e_lt, nI_1]
      rw [blk_zero hz]
      exact ⟨co1, gm, rfl, g2⟩

