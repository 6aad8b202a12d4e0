/-! what is read depends on the unit's bytes alone; levels inside and outside a leaf -/
theorem sb_cong {ld ld2 : Nat → Int32} {n : Nat} (h : ∀ i, i < n → ld i = ld2 i) : sb ld n = sb ld2 n := by
  funext t
  unfold sb
  by_cases c : 1 + t / 8 < n
  · rw [if_pos c, if_pos c, h _ c]
  · rw [if_neg c, if_neg c]
theorem c_nrm {ld ld2 : Nat → Int32} {n : Nat} (h : sb ld n = sb ld2 n) : s_nrm ld n = s_nrm ld2 n := by
  funext k
  induction k with
  | zero => rfl
  | succ k ih =>
    funext rg vl t
    show (if 256 ≤ rg then (rg, vl, t) else s_nrm ld n k (rg * 2) (2 * vl + sb ld n t) (t + 1)) = (if 256 ≤ rg then (rg, vl, t) else s_nrm ld2 n k (rg * 2) (2 * vl + sb ld2 n t) (t + 1))
    rw [ih, h]
theorem c_bin {ld ld2 : Nat → Int32} {n : Nat} (h : sb ld n = sb ld2 n) : s_bin ld n = s_bin ld2 n := by
  funext s c
  unfold s_bin
  rw [c_nrm h]
theorem c_fr {ld ld2 : Nat → Int32} {n : Nat} (h : sb ld n = sb ld2 n) : s_fr ld n = s_fr ld2 n := by
  funext s
  unfold s_fr
  rw [h]
theorem c_frs {ld ld2 : Nat → Int32} {n : Nat} (h : sb ld n = sb ld2 n) : s_frs ld n = s_frs ld2 n := by
  funext k
  induction k with
  | zero => rfl
  | succ k ih =>
    funext a s
    show s_frs ld n k (2 * a + (s_fr ld n s).1) (s_fr ld n s).2 = s_frs ld2 n k (2 * a + (s_fr ld2 n s).1) (s_fr ld2 n s).2
    rw [ih, c_fr h]
theorem c_cnt {ld ld2 : Nat → Int32} {n : Nat} (h : sb ld n = sb ld2 n) : s_cnt ld n = s_cnt ld2 n := by
  funext f
  induction f with
  | zero => rfl
  | succ f ih =>
    funext k s
    show (if (s_fr ld n s).1 = 1 then s_cnt ld n f (k + 1) (s_fr ld n s).2 else (k, (s_fr ld n s).2)) = (if (s_fr ld2 n s).1 = 1 then s_cnt ld2 n f (k + 1) (s_fr ld2 n s).2 else (k, (s_fr ld2 n s).2))
    rw [ih, c_fr h]
theorem c_size {ld ld2 : Nat → Int32} {n : Nat} (h : sb ld n = sb ld2 n) : s_size ld n = s_size ld2 n := by
  funext s
  unfold s_size
  rw [c_bin h, c_cnt h, c_frs h]
theorem c_g1 {ld ld2 : Nat → Int32} {n : Nat} (h : sb ld n = sb ld2 n) : s_g1 ld n = s_g1 ld2 n := by
  funext k a
  unfold s_g1
  rw [c_bin h, c_size h]
theorem c_g2 {ld ld2 : Nat → Int32} {n : Nat} (h : sb ld n = sb ld2 n) : s_g2 ld n = s_g2 ld2 n := by
  funext hid first sum k a
  unfold s_g2
  rw [c_fr h]
theorem c_grp {ld ld2 : Nat → Int32} {n : Nat} (h : sb ld n = sb ld2 n) : s_grp ld n = s_grp ld2 n := by
  funext hp s g
  unfold s_grp
  rw [c_g1 h, c_g2 h]
theorem c_gr {ld ld2 : Nat → Int32} {n : Nat} (h : sb ld n = sb ld2 n) : s_gr ld n = s_gr ld2 n := by
  funext hp cod lg j s g
  unfold s_gr
  rw [c_grp h, c_bin h]
theorem c_gj {ld ld2 : Nat → Int32} {n : Nat} (h : sb ld n = sb ld2 n) : s_gj ld n = s_gj ld2 n := by
  funext hp cod lg x y j a
  unfold s_gj
  rw [c_gr h]
theorem c_cd {ld ld2 : Nat → Int32} {n : Nat} (h : sb ld n = sb ld2 n) : s_cd ld n = s_cd ld2 n := by
  funext lg s
  unfold s_cd
  rw [c_bin h]
theorem c_sk {ld ld2 : Nat → Int32} {n : Nat} (h : sb ld n = sb ld2 n) : s_sk ld n = s_sk ld2 n := by
  funext sk lg s
  unfold s_sk
  rw [c_cd h, c_bin h]
theorem c_lf {ld ld2 : Nat → Int32} {n : Nat} (h : sb ld n = sb ld2 n) : s_lf ld n = s_lf ld2 n := by
  funext hp sk lg x y s g lv
  unfold s_lf
  rw [c_sk h, c_cd h, c_gj h]
theorem c_md {ld ld2 : Nat → Int32} {n : Nat} (h : sb ld n = sb ld2 n) : s_md ld n = s_md ld2 n := by
  funext ml s
  unfold s_md
  rw [c_bin h, c_frs h]
theorem lv_it (ld : Nat → Int32) (n : Nat) (hp cod lg : Int32) (x y : Nat) : ∀ (k j : Nat) (a b : LvS), a.1 = b.1 → a.2.1 = b.2.1 → (s_it (s_gj ld n hp cod lg x y) k j a).1 = (s_it (s_gj ld n hp cod lg x y) k j b).1 ∧ (s_it (s_gj ld n hp cod lg x y) k j a).2.1 = (s_it (s_gj ld n hp cod lg x y) k j b).2.1 ∧ ∀ q, (a.2.2 q = b.2.2 q ∨ ∃ j2, j ≤ j2 ∧ j2 < j + k ∧ inb (x + 4 * (j2 % 2)) (y + 4 * (j2 / 2)) q) → (s_it (s_gj ld n hp cod lg x y) k j a).2.2 q = (s_it (s_gj ld n hp cod lg x y) k j b).2.2 q := by
  intro k
  induction k with
  | zero =>
    intro j a b h1 h2
    refine ⟨h1, h2, ?_⟩
    intro q hq
    rcases hq with h | ⟨j2, h3, h4, _⟩
    · exact h
    · omega
  | succ k ih =>
    intro j a b h1 h2
    have e1 : (s_gj ld n hp cod lg x y j a).1 = (s_gj ld n hp cod lg x y j b).1 := by
      show (s_gr ld n hp cod lg j a.1 a.2.1).1 = (s_gr ld n hp cod lg j b.1 b.2.1).1
      rw [h1, h2]
    have e2 : (s_gj ld n hp cod lg x y j a).2.1 = (s_gj ld n hp cod lg x y j b).2.1 := by
      show (s_gr ld n hp cod lg j a.1 a.2.1).2 = (s_gr ld n hp cod lg j b.1 b.2.1).2
      rw [h1, h2]
    obtain ⟨r1, r2, r3⟩ := ih (j + 1) _ _ e1 e2
    refine ⟨r1, r2, ?_⟩
    intro q hq
    refine r3 q ?_
    have hin : inb (x + 4 * (j % 2)) (y + 4 * (j / 2)) q → (s_gj ld n hp cod lg x y j a).2.2 q = (s_gj ld n hp cod lg x y j b).2.2 q := by
      intro hi
      show blk a.2.2 (x + 4 * (j % 2)) (y + 4 * (j / 2)) (s_gr ld n hp cod lg j a.1 a.2.1).2 q = blk b.2.2 (x + 4 * (j % 2)) (y + 4 * (j / 2)) (s_gr ld n hp cod lg j b.1 b.2.1).2 q
      rw [blk_in hi, blk_in hi, h1, h2]
    rcases hq with h | ⟨j2, h3, h4, h5⟩
    · refine Or.inl ?_
      by_cases hi : inb (x + 4 * (j % 2)) (y + 4 * (j / 2)) q
      · exact hin hi
      · show blk a.2.2 (x + 4 * (j % 2)) (y + 4 * (j / 2)) (s_gr ld n hp cod lg j a.1 a.2.1).2 q = blk b.2.2 (x + 4 * (j % 2)) (y + 4 * (j / 2)) (s_gr ld n hp cod lg j b.1 b.2.1).2 q
        rw [blk_out hi, blk_out hi, h]
    · by_cases c : j2 = j
      · subst c
        exact Or.inl (hin h5)
      · exact Or.inr ⟨j2, by omega, by omega, h5⟩
theorem lv_out (ld : Nat → Int32) (n : Nat) (hp cod lg : Int32) (x y : Nat) : ∀ (k j : Nat) (a : LvS) (q : Nat), (∀ j2, j ≤ j2 → j2 < j + k → ¬ inb (x + 4 * (j2 % 2)) (y + 4 * (j2 / 2)) q) → (s_it (s_gj ld n hp cod lg x y) k j a).2.2 q = a.2.2 q := by
  intro k
  induction k with
  | zero => intro j a q _; rfl
  | succ k ih =>
    intro j a q h
    have e := ih (j + 1) (s_gj ld n hp cod lg x y j a) q (fun j2 h1 h2 => h j2 (by omega) (by omega))
    refine e.trans ?_
    show blk a.2.2 (x + 4 * (j % 2)) (y + 4 * (j / 2)) (s_gr ld n hp cod lg j a.1 a.2.1).2 q = a.2.2 q
    rw [blk_out (h j (by omega) (by omega))]
theorem lf_lv (ld : Nat → Int32) (n : Nat) (hp sk lg : Int32) (s : DS) (g lv lv2 : Nat → Int32) {x y m : Nat} (hsd : (m = 8 ∧ lg = 1) ∨ (m = 4 ∧ lg = 0)) : (s_lf ld n hp sk lg x y s g lv).1 = (s_lf ld n hp sk lg x y s g lv2).1 ∧ (s_lf ld n hp sk lg x y s g lv).2.1 = (s_lf ld n hp sk lg x y s g lv2).2.1 ∧ (∀ q, inR x y m q → (s_lf ld n hp sk lg x y s g lv).2.2.2 q = (s_lf ld n hp sk lg x y s g lv2).2.2.2 q) ∧ ∀ q, ¬ inR x y m q → (s_lf ld n hp sk lg x y s g lv).2.2.2 q = lv q := by
  obtain ⟨h1, h2, h3⟩ := lv_it ld n hp (s_cd ld n lg s).1 lg x y (if lg = 0 then 1 else 4) 0 ((s_sk ld n sk lg s).2, g, lv) ((s_sk ld n sk lg s).2, g, lv2) rfl rfl
  refine ⟨rfl, h1, ?_, ?_⟩
  · intro q hq
    refine h3 q (Or.inr ?_)
    unfold inR at hq
    unfold inb
    rcases hsd with ⟨rfl, rfl⟩ | ⟨rfl, rfl⟩
    · refine ⟨2 * ((q / 16 - y) / 4) + (q % 16 - x) / 4, by omega, ?_, ?_⟩
      · rw [if_neg (by decide)]
        omega
      · omega
    · refine ⟨0, by omega, ?_, ?_⟩
      · rw [if_pos rfl]
        omega
      · omega
  · intro q hq
    refine lv_out ld n hp (s_cd ld n lg s).1 lg x y (if lg = 0 then 1 else 4) 0 ((s_sk ld n sk lg s).2, g, lv) q ?_
    intro j2 _ hj hi
    apply hq
    unfold inb at hi
    unfold inR
    rcases hsd with ⟨rfl, rfl⟩ | ⟨rfl, rfl⟩
    · rw [if_neg (by decide)] at hj
      omega
    · rw [if_pos rfl] at hj
      omega
