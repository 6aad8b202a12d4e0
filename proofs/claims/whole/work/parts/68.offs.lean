/-! offsets added -/
theorem it_inv {A : Type} {F : Nat → A → A} {m : Nat} (I : Nat → A → Prop) (hs : ∀ k g, k < m → I k g → I (k + 1) (F k g)) : ∀ (n i : Nat) (g : A), i + n ≤ m → I i g → I (i + n) (s_it F n i g) := by
  intro n
  induction n with
  | zero => intro i g _ h; exact h
  | succ n ih =>
    intro i g hm h
    have := ih (i + 1) (F i g) (by omega) (hs i g (by omega) h)
    rw [show i + (n + 1) = i + 1 + n by omega]
    exact this
def o_sg (a b : Int32) : Int32 := if b ≤ a then (if a = b then 0 else 1) else -1
theorem q_cmp (a b : Int32) : fJI_compare a b = some (o_sg a b) := by
  unfold fJI_compare o_sg
  by_cases h : b ≤ a
  · rw [if_pos h, if_pos h]
    by_cases h2 : a = b
    · rw [if_pos h2, if_pos h2]
    · rw [if_neg h2, if_neg h2]
  · rw [if_neg h, if_neg h]
theorem q_sign {i j : Nat} (hi : i < 2 ^ 30) (hj : j < 2 ^ 30) : fMO_sign (nI i - nI j) = some (o_sg (nI i) (nI j)) := by
  have d := pk_sub_toInt hi hj
  unfold fMO_sign o_sg
  by_cases h : nI j ≤ nI i
  · rw [if_pos h]
    have hh := (nI_leI (by omega) (by omega)).mp h
    by_cases h2 : nI i = nI j
    · rw [if_pos h2]
      have e : nI i - nI j = 0 := by rw [h2, Int32.sub_self]
      rw [e]
      rfl
    · rw [if_neg h2, if_neg (show ¬ nI i - nI j ≤ 0 from fun q => by
        rw [Int32.le_iff_toInt_le, d] at q
        have q2 : (i : Int) - j ≤ 0 := q
        exact h2 (by rw [show i = j by omega]))]
  · rw [if_neg h]
    have hh : i < j := by
      have := mt (nI_leI (a := j) (b := i) (by omega) (by omega)).mpr h
      omega
    rw [if_pos (show nI i - nI j ≤ 0 by
      rw [Int32.le_iff_toInt_le, d]
      show (i : Int) - j ≤ 0
      omega), if_neg (show ¬ 0 ≤ nI i - nI j from fun q => by
      rw [Int32.le_iff_toInt_le, d] at q
      have q2 : (0 : Int) ≤ (i : Int) - j := q
      omega)]
def o_pick (x : Int32) : Int32 := if x = -2 then 3 else if x = -1 then 2 else if x = 0 then -1 else if x = 1 then 1 else if x = 2 then 0 else -1
def o_nb (s : Nat → Int32) (p w : Nat) : Int32 := o_pick (o_sg (s (p - w)) (s p) + o_sg (s (p + w)) (s p))
def o_band (v s : Nat → Int32) (p : Nat) : Int32 := ((s p >>> ((5 : Int32) &&& 31)) - v 9) &&& 7
def o_num (v s : Nat → Int32) (p : Nat) : Int32 :=
  if v 4 = 1 then (if p % 16 = 0 then -1 else if p % 16 = 15 then -1 else o_nb s p 1)
  else if v 4 = 2 then (if p / 16 = 0 then -1 else if p / 16 = 15 then -1 else o_nb s p 16)
  else if 4 ≤ o_band v s p then -1 else o_band v s p
def o_add (v : Nat → Int32) (x : Int32) : Int32 := if x < 0 then 0 else v (5 + x.toNatClampNeg)
def o_val (v s : Nat → Int32) (p : Nat) : Int32 := hold (s p + o_add v (o_num v s p)) 0 255
theorem o_pick_in (x : Int32) : o_pick x = -1 ∨ ∃ k, k < 4 ∧ o_pick x = nI k := by
  unfold o_pick
  split
  · exact Or.inr ⟨3, by omega, rfl⟩
  · split
    · exact Or.inr ⟨2, by omega, rfl⟩
    · split
      · exact Or.inl rfl
      · split
        · exact Or.inr ⟨1, by omega, rfl⟩
        · split
          · exact Or.inr ⟨0, by omega, rfl⟩
          · exact Or.inl rfl
theorem o_band_in (v s : Nat → Int32) (p : Nat) : ∃ k, k < 8 ∧ o_band v s p = nI k := pk_andE _ 3 (by decide)
theorem o_num_in (v s : Nat → Int32) (p : Nat) : o_num v s p = -1 ∨ ∃ k, k < 4 ∧ o_num v s p = nI k := by
  unfold o_num
  split
  · split
    · exact Or.inl rfl
    · split
      · exact Or.inl rfl
      · exact o_pick_in _
  · split
    · split
      · exact Or.inl rfl
      · split
        · exact Or.inl rfl
        · exact o_pick_in _
    · obtain ⟨k, hk, e⟩ := o_band_in v s p
      rw [e]
      by_cases h : k < 4
      · rw [if_neg (show ¬ (4 : Int32) ≤ nI k from nI_ge (b := 4) h (by omega))]
        exact Or.inr ⟨k, h, rfl⟩
      · rw [if_pos (show (4 : Int32) ≤ nI k from (nI_leI (a := 4) (by omega) (by omega)).mpr (by omega))]
        exact Or.inl rfl
theorem o_add_k (v : Nat → Int32) {k : Nat} (h : k < 4) : o_add v (nI k) = v (5 + k) := by
  unfold o_add
  rw [if_neg (nI_pos (by omega)), nI_clamp (by omega)]
theorem o_add_m (v : Nat → Int32) : o_add v (-1) = 0 := rfl
theorem q_nbX (s : Nat → Int32) {p w : Nat} (h1 : w ≤ p) (h2 : p + w < 256) : fFI_numberByNeighbours s (nI p) (nI w) = some (o_nb s p w) := by
  unfold fFI_numberByNeighbours o_nb
  rw [e_ald 256 s _ p rfl (by omega) (by omega), e_b1, pk_sub h1, e_ald 256 s _ (p - w) rfl (by omega) (by omega), e_b1, q_cmp, e_b1, nI_add, e_ald 256 s _ (p + w) rfl (by omega) (by omega), e_b1, q_cmp, e_b1, e_lt]
  generalize o_sg (s (p - w)) (s p) + o_sg (s (p + w)) (s p) = x
  unfold o_pick
  by_cases a1 : x = -2
  · rw [if_pos a1, if_pos a1]
  · rw [if_neg a1, if_neg a1]
    by_cases a2 : x = -1
    · rw [if_pos a2, if_pos a2]
    · rw [if_neg a2, if_neg a2]
      by_cases a3 : x = 0
      · rw [if_pos a3, if_pos a3]
      · rw [if_neg a3, if_neg a3]
        by_cases a4 : x = 1
        · rw [if_pos a4, if_pos a4]
        · rw [if_neg a4, if_neg a4]
          by_cases a5 : x = 2
          · rw [if_pos a5, if_pos a5]
          · rw [if_neg a5, if_neg a5]
theorem q_numX (v s : Nat → Int32) {x y : Nat} (hx : x < 16) (hy : y < 16) : fFI_offsetNumber v s (nI x) (nI y) = some (o_num v s (16 * y + x)) := by
  have ep : (nI y * (16 : Int32)) + nI x = nI (16 * y + x) := by
    rw [show (16 : Int32) = nI 16 from rfl, pk_mul, nI_add, Nat.mul_comm]
  have em : (16 * y + x) % 16 = x := by omega
  have ed : (16 * y + x) / 16 = y := by omega
  unfold fFI_offsetNumber fIP_placeOf o_num
  rw [e_b1, ep, e_ald 10 v 4 4 rfl (by omega) (by omega), e_b1, em, ed]
  have ends : ∀ z : Nat, z < 16 → ∀ (A : Option Int32), (if nI z ≤ 0 then some (-1 : Int32) else if (15 : Int32) ≤ nI z then some (-1 : Int32) else A) = if z = 0 then some (-1) else if z = 15 then some (-1) else A := by
    intro z hz A
    by_cases h0 : z = 0
    · rw [if_pos h0, h0, if_pos (show nI 0 ≤ 0 by decide)]
    · rw [if_neg h0, if_neg (nI_nle (by omega) (by omega))]
      by_cases h1 : z = 15
      · rw [if_pos h1, h1, if_pos (show (15 : Int32) ≤ nI 15 by decide)]
      · rw [if_neg h1, if_neg (show ¬ (15 : Int32) ≤ nI z from nI_ge (b := 15) (by omega) (by omega))]
  by_cases h1 : v 4 = 1
  · rw [if_pos h1, if_pos h1, ends x hx]
    by_cases a1 : x = 0
    · rw [if_pos a1, if_pos a1]
    · rw [if_neg a1, if_neg a1]
      by_cases a2 : x = 15
      · rw [if_pos a2, if_pos a2]
      · rw [if_neg a2, if_neg a2, show (1 : Int32) = nI 1 from rfl, q_nbX s (by omega) (by omega), e_b1]
  · rw [if_neg h1, if_neg h1]
    by_cases h2 : v 4 = 2
    · rw [if_pos h2, if_pos h2, ends y hy]
      by_cases a1 : y = 0
      · rw [if_pos a1, if_pos a1]
      · rw [if_neg a1, if_neg a1]
        by_cases a2 : y = 15
        · rw [if_pos a2, if_pos a2]
        · rw [if_neg a2, if_neg a2, show (16 : Int32) = nI 16 from rfl, q_nbX s (by omega) (by omega), e_b1]
    · rw [if_neg h2, if_neg h2, e_ald 256 s _ (16 * y + x) rfl (by omega) (by omega), e_b1, e_ald 10 v 9 9 rfl (by omega) (by omega), e_b1, e_lt]
      show (if (4 : Int32) ≤ o_band v s (16 * y + x) then some (-1 : Int32) else some (o_band v s (16 * y + x))) = _
      by_cases a1 : (4 : Int32) ≤ o_band v s (16 * y + x)
      · rw [if_pos a1, if_pos a1]
      · rw [if_neg a1, if_neg a1]
def o_step (v s : Nat → Int32) (p : Nat) (g : Nat → Int32) : Nat → Int32 := if o_num v s p < 0 then g else upd g p (o_val v s p)
theorem o_stepI {v s : Nat → Int32} {p : Nat} {g : Nat → Int32} (hs : RG s) (hp : p < 256) (h : ∀ q, q < 256 → g q = if q < p then o_val v s q else s q) : ∀ q, q < 256 → o_step v s p g q = if q < p + 1 then o_val v s q else s q := by
  intro q hq
  have hv : o_num v s p < 0 → o_val v s p = s p := by
    intro n
    unfold o_val o_add
    obtain ⟨k, e, hk⟩ := hs p hp
    rw [if_pos n, Int32.add_zero, e, hold_id hk]
  unfold o_step
  by_cases n : o_num v s p < 0
  · rw [if_pos n, h q hq]
    by_cases c : q < p
    · rw [if_pos c, if_pos (by omega)]
    · rw [if_neg c]
      by_cases d : q = p
      · subst d
        rw [if_pos (by omega), hv n]
      · rw [if_neg (by omega)]
  · rw [if_neg n]
    by_cases d : q = p
    · subst d
      rw [u_0, if_pos (by omega)]
    · rw [u_n d, h q hq]
      by_cases c : q < p
      · rw [if_pos c, if_pos (by omega)]
      · rw [if_neg c, if_neg (by omega)]
theorem q_addB26 (v s g : Nat → Int32) {x y : Nat} (hx : x < 16) (hy : y < 16) : fFI_addOffsets_B26 v s (nI y) (nI x) g = some (.inl (nI (x + 1), o_step v s (16 * y + x) g)) := by
  have ep : (nI y * (16 : Int32)) + nI x = nI (16 * y + x) := by
    rw [show (16 : Int32) = nI 16 from rfl, pk_mul, nI_add, Nat.mul_comm]
  unfold fFI_addOffsets_B26 o_step
  rw [if_neg (show ¬ (16 : Int32) ≤ nI x from nI_ge (b := 16) hx (by omega)), q_numX v s hx hy, e_b1]
  rcases o_num_in v s (16 * y + x) with e | ⟨k, hk, e⟩
  · rw [e, if_pos (show (-1 : Int32) < 0 by decide), if_pos (show (-1 : Int32) < 0 by decide), e_b1, e_lt, nI_1]
  · have eo : o_val v s (16 * y + x) = hold (s (16 * y + x) + v (5 + k)) 0 255 := by
      unfold o_val
      rw [e, o_add_k v hk]
    rw [eo, e, if_neg (nI_pos (by omega)), if_neg (nI_pos (by omega))]
    unfold fIP_placeOf
    rw [e_b1, ep, e_ald 256 s _ (16 * y + x) rfl (by omega) (by omega), e_b1, show (5 : Int32) = nI 5 from rfl, nI_add, e_ald 10 v _ (5 + k) rfl (by omega) (by omega), e_b1, q_bring _ (by decide), e_b1, e_ast 256 g _ _ (16 * y + x) rfl (by omega) (by omega), e_b1, e_b1, e_lt, nI_1]
theorem q_addX (v s b : Nat → Int32) (hs : RG s) : ∃ y g, fFI_addOffsets v s b = some (y, g) ∧ ∀ q, q < 256 → y q = o_val v (va_cpy s b 0 0 256) q := by
  have hc : ∀ q, q < 256 → va_cpy s b 0 0 256 q = s q := fun q hq => sb_cpy0 hq
  have hs2 : RG (va_cpy s b 0 0 256) := fun q hq => by rw [hc q hq]; exact hs q hq
  refine ⟨s_it (fun y g => s_it (fun x g => o_step v (va_cpy s b 0 0 256) (16 * y + x) g) 16 0 g) 16 0 s, va_cpy s b 0 0 256, ?_, ?_⟩
  · unfold fFI_addOffsets
    show ip_lt (va_cpy s b 0 0 256) _ = _
    rw [e_lt]
    generalize va_cpy s b 0 0 256 = t
    have l : ip_lp2 (fFI_addOffsets_B18 v t) 1000 (nI 0) s = some (nI 16, s_it (fun y g => s_it (fun x g => o_step v t (16 * y + x) g) 16 0 g) 16 0 s) := by
      refine lp_it _ (fun y g hy => ?_) (fun g => ?_) 16 0 1000 s (by omega) (by omega)
      · have l1 : ip_lp2 (fFI_addOffsets_B26 v t (nI y)) 1000 (nI 0) g = some (nI 16, s_it (fun x g => o_step v t (16 * y + x) g) 16 0 g) := by
          refine lp_it _ (fun x g hx => ?_) (fun g => ?_) 16 0 1000 g (by omega) (by omega)
          · exact q_addB26 v t g hx hy
          · unfold fFI_addOffsets_B26
            rw [if_pos (show (16 : Int32) ≤ nI 16 by decide)]
        unfold fFI_addOffsets_B18
        rw [if_neg (show ¬ (16 : Int32) ≤ nI y from nI_ge (b := 16) hy (by omega)), show (0 : Int32) = nI 0 from rfl, l1, e_b2, e_lt, nI_1]
      · unfold fFI_addOffsets_B18
        rw [if_pos (show (16 : Int32) ≤ nI 16 by decide)]
    rw [show (0 : Int32) = nI 0 from rfl, l, e_b2]
  · revert hs2 hc
    generalize va_cpy s b 0 0 256 = t
    intro hc hs2
    have i1 : ∀ y g, y < 16 → (∀ q, q < 256 → g q = if q < 16 * y then o_val v t q else t q) → (∀ q, q < 256 → s_it (fun x g => o_step v t (16 * y + x) g) 16 0 g q = if q < 16 * (y + 1) then o_val v t q else t q) := by
      intro y g hy h
      have := it_inv (m := 16) (F := fun x g => o_step v t (16 * y + x) g) (fun x g => ∀ q, q < 256 → g q = if q < 16 * y + x then o_val v t q else t q) (fun x g hx h => o_stepI hs2 (by omega) h) 16 0 g (by omega) h
      intro q hq
      rw [this q hq, show 16 * y + (0 + 16) = 16 * (y + 1) by omega]
    have i2 := it_inv (m := 16) (F := fun y g => s_it (fun x g => o_step v t (16 * y + x) g) 16 0 g) (fun y g => ∀ q, q < 256 → g q = if q < 16 * y then o_val v t q else t q) (fun y g hy h => i1 y g hy h) 16 0 s (by omega) (fun q hq => by rw [if_neg (by omega), hc q hq])
    intro q hq
    rw [i2 q hq, if_pos (by omega)]
theorem o_val_cong {v v2 s s2 : Nat → Int32} (hv : ∀ i, i < 10 → v i = v2 i) (hs : ∀ q, q < 256 → s q = s2 q) {p : Nat} (hp : p < 256) : o_val v s p = o_val v2 s2 p := by
  have hn : o_num v s p = o_num v2 s2 p := by
    have nb : ∀ w, p + w < 256 → o_nb s p w = o_nb s2 p w := by
      intro w hw
      unfold o_nb
      rw [hs p hp, hs (p - w) (by omega), hs (p + w) hw]
    have bd : o_band v s p = o_band v2 s2 p := by
      unfold o_band
      rw [hs p hp, hv 9 (by omega)]
    unfold o_num
    rw [hv 4 (by omega), bd]
    by_cases h1 : v2 4 = 1
    · rw [if_pos h1, if_pos h1]
      by_cases c : p % 16 = 15
      · rw [if_pos c, if_pos c]
      · rw [nb 1 (by omega)]
    · rw [if_neg h1, if_neg h1]
      by_cases h2 : v2 4 = 2
      · rw [if_pos h2, if_pos h2]
        by_cases c : p / 16 = 15
        · rw [if_pos c, if_pos c]
        · rw [nb 16 (by omega)]
      · rw [if_neg h2, if_neg h2]
  unfold o_val
  rw [hn, hs p hp]
  rcases o_num_in v2 s2 p with e | ⟨k, hk, e⟩
  · rw [e, o_add_m, o_add_m]
  · rw [e, o_add_k v hk, o_add_k v2 hk, hv (5 + k) (by omega)]
theorem q_offM (a1 a2 a3 a4 a5 a6 a7 a8 a9 : Int32) {v s : Nat → Int32} (hs : RG s) (h4 : v 4 = 1 ∨ v 4 = 2 ∨ v 4 = 3) {p : Nat} (hp : p < 256) : fMO_offset a1 a2 a3 a4 a5 a6 a7 a8 a9 v s (nI p) = some (o_add v (o_num v s p)) := by
  have pick : ∀ x : Int32, (if x = (2 : Int32) then ip_b1 (ip_ald 10 v (5 : Int32)) (fun z16 => some z16) else if x = (1 : Int32) then ip_b1 (ip_ald 10 v (6 : Int32)) (fun z15 => some z15) else if x = (-1 : Int32) then ip_b1 (ip_ald 10 v (7 : Int32)) (fun z14 => some z14) else if x = (-2 : Int32) then ip_b1 (ip_ald 10 v (8 : Int32)) (fun z13 => some z13) else some (0 : Int32)) = some (o_add v (o_pick x)) := by
    intro x
    rw [e_ald 10 v 5 5 rfl (by omega) (by omega), e_ald 10 v 6 6 rfl (by omega) (by omega), e_ald 10 v 7 7 rfl (by omega) (by omega), e_ald 10 v 8 8 rfl (by omega) (by omega), e_b1, e_b1, e_b1, e_b1]
    unfold o_pick
    by_cases a1 : x = 2
    · subst a1
      rfl
    · rw [if_neg a1, if_neg a1]
      by_cases a2 : x = 1
      · subst a2
        rfl
      · rw [if_neg a2, if_neg a2]
        by_cases a3 : x = -1
        · subst a3
          rfl
        · rw [if_neg a3, if_neg a3]
          by_cases a4 : x = -2
          · subst a4
            rfl
          · rw [if_neg a4, if_neg a4]
            by_cases a5 : x = 0
            · rw [if_pos a5]
              rfl
            · rw [if_neg a5]
              rfl
  have side : ∀ w, w ≤ p → p + w < 256 → (ip_b1 (ip_ald 256 s (nI p - nI w)) (fun z8 => ip_b1 (fMO_sign (z8 - s p)) (fun z9 => ip_b1 (ip_ald 256 s (nI p + nI w)) (fun z10 => ip_b1 (fMO_sign (z10 - s p)) (fun z11 => ip_lt (z9 + z11) (fun x => (if x = (2 : Int32) then ip_b1 (ip_ald 10 v (5 : Int32)) (fun z16 => some z16) else if x = (1 : Int32) then ip_b1 (ip_ald 10 v (6 : Int32)) (fun z15 => some z15) else if x = (-1 : Int32) then ip_b1 (ip_ald 10 v (7 : Int32)) (fun z14 => some z14) else if x = (-2 : Int32) then ip_b1 (ip_ald 10 v (8 : Int32)) (fun z13 => some z13) else some (0 : Int32)))))))) = some (o_add v (o_nb s p w)) := by
    intro w h1 h2
    obtain ⟨b, eb, hb⟩ := hs p hp
    obtain ⟨a, ea, ha⟩ := hs (p - w) (by omega)
    obtain ⟨c, ec, hc⟩ := hs (p + w) h2
    unfold o_nb
    rw [pk_sub h1, e_ald 256 s _ (p - w) rfl (by omega) (by omega), e_b1, nI_add, e_ald 256 s _ (p + w) rfl (by omega) (by omega), eb, ea, ec, q_sign (by omega) (by omega), e_b1, e_b1, q_sign (by omega) (by omega), e_b1, e_lt, pick]
  have ends : ∀ z : Nat, z < 16 → ∀ (A : Option Int32), (if nI z = 0 then some (0 : Int32) else if nI z = (15 : Int32) then some (0 : Int32) else A) = if z = 0 then some 0 else if z = 15 then some 0 else A := by
    intro z hz A
    by_cases h0 : z = 0
    · rw [if_pos h0, h0, if_pos (show nI 0 = 0 from rfl)]
    · rw [if_neg h0, if_neg (nI_ne0 (by omega) (by omega))]
      by_cases h1 : z = 15
      · rw [if_pos h1, h1, if_pos (show nI 15 = (15 : Int32) from rfl)]
      · rw [if_neg h1, if_neg (show ¬ nI z = (15 : Int32) from fun q => h1 ((nI_eq (b := 15) (by omega) (by omega)).mp q))]
  unfold fMO_offset o_num
  rw [e_ald 256 s _ p rfl (by omega) (by omega), e_b1, e_ald 10 v 4 4 rfl (by omega) (by omega), e_b1]
  rcases h4 with h | h | h
  · rw [h, if_neg (by decide), e_b1, if_neg (by decide), e_b1, if_pos rfl, e_b1, e_b1, if_pos rfl, e_b1, if_pos rfl, show nI p - nI p / (16 : Int32) * (16 : Int32) = nI (p % 16) from pk_rem (d := 16) (by omega) (by omega) (by omega), ends _ (by omega)]
    by_cases c0 : p % 16 = 0
    · rw [if_pos c0, if_pos c0]
      rfl
    · rw [if_neg c0, if_neg c0]
      by_cases c1 : p % 16 = 15
      · rw [if_pos c1, if_pos c1]
        rfl
      · rw [if_neg c1, if_neg c1]
        exact side 1 (by omega) (by omega)
  · rw [h, if_neg (by decide), e_b1, if_neg (by decide), e_b1, if_neg (by decide), e_b1, e_b1, if_neg (by decide), e_b1, if_neg (show ¬ (2 : Int32) = 1 by decide), if_pos rfl, show nI p / (16 : Int32) = nI (p / 16) from pk_div (d := 16) (by omega) (by omega) (by omega), ends _ (by omega)]
    by_cases c0 : p / 16 = 0
    · rw [if_pos c0, if_pos c0]
      rfl
    · rw [if_neg c0, if_neg c0]
      by_cases c1 : p / 16 = 15
      · rw [if_pos c1, if_pos c1]
        rfl
      · rw [if_neg c1, if_neg c1]
        exact side 16 (by omega) (by omega)
  · rw [h, if_neg (by decide), e_b1, if_pos rfl, e_ald 10 v 9 9 rfl (by omega) (by omega), e_b1, e_lt, if_neg (show ¬ (3 : Int32) = 1 by decide), if_neg (show ¬ (3 : Int32) = 2 by decide)]
    show (if (4 : Int32) ≤ o_band v s p then some (0 : Int32) else ip_b1 (ip_ald 10 v ((5 : Int32) + o_band v s p)) (fun z19 => some z19)) = _
    obtain ⟨k, hk, e⟩ := o_band_in v s p
    rw [e]
    by_cases c : k < 4
    · have cc : ¬ (4 : Int32) ≤ nI k := nI_ge (b := 4) c (by omega)
      rw [if_neg cc, if_neg cc, o_add_k v c, show (5 : Int32) = nI 5 from rfl, nI_add, e_ald 10 v _ (5 + k) rfl (by omega) (by omega), e_b1]
    · have cc : (4 : Int32) ≤ nI k := (nI_leI (a := 4) (by omega) (by omega)).mpr (by omega)
      rw [if_pos cc, if_pos cc, o_add_m]
theorem q_off0 (a1 a2 a3 a4 a5 a6 a7 a8 a9 : Int32) {v s : Nat → Int32} (h4 : v 4 = 0) {p : Nat} (hp : p < 256) : fMO_offset a1 a2 a3 a4 a5 a6 a7 a8 a9 v s (nI p) = some 0 := by
  unfold fMO_offset
  rw [e_ald 256 s _ p rfl (by omega) (by omega), e_b1, e_ald 10 v 4 4 rfl (by omega) (by omega), e_b1, h4, if_pos rfl]
/-- a copy of 256 values, one after another -/
theorem q_copyM (y : Nat → Int32) (g : Nat → Int32) : ∃ h : Nat → Int32, ip_lp2 (fMO_restore_B126 y) 1000 (0 : Int32) g = some (nI 256, h) ∧ ∀ q, q < 256 → h q = y q := by
  refine ⟨s_it (fun x g => upd g x (y x)) 256 0 g, ?_, ?_⟩
  · rw [show (0 : Int32) = nI 0 from rfl]
    refine lp_it _ (fun x g hx => ?_) (fun g => ?_) 256 0 1000 g (by omega) (by omega)
    · unfold fMO_restore_B126
      rw [if_neg (show ¬ (256 : Int32) ≤ nI x from nI_ge (b := 256) hx (by omega)), e_ald 256 y _ x rfl hx (by omega), e_b1, e_ast 256 g _ _ x rfl hx (by omega), e_b1, e_lt, nI_1]
    · unfold fMO_restore_B126
      rw [if_pos (show (256 : Int32) ≤ nI 256 by decide)]
  · intro q hq
    exact it_in (ix := fun x => x) 256 0 g q (by omega) (by omega) (fun x2 _ _ e => e)
theorem q_copyM2 (y : Nat → Int32) (g : Nat → Int32) : ∃ h : Nat → Int32, ip_lp2 (fMO_restore_B216 y) 1000 (0 : Int32) g = some (nI 256, h) ∧ ∀ q, q < 256 → h q = y q := q_copyM y g
theorem q_addM (a1 a2 a3 a4 a5 a6 a7 a8 a9 : Int32) {v s g : Nat → Int32} (hs : RG s) (h4 : v 4 = 0 ∨ v 4 = 1 ∨ v 4 = 2 ∨ v 4 = 3) : ∃ h : Nat → Int32, ip_lp2 (fMO_restore_B243 a1 a2 a3 a4 a5 a6 a7 a8 a9 v s) 1000 (0 : Int32) g = some (nI 256, h) ∧ ∀ q, q < 256 → h q = if v 4 = 0 then s q else o_val v s q := by
  have st : ∀ p, p < 256 → ip_b1 (fMO_offset a1 a2 a3 a4 a5 a6 a7 a8 a9 v s (nI p)) (fun z61 => fMO_held (s p + z61) 0 255) = some (if v 4 = 0 then s p else o_val v s p) := by
    intro p hp
    by_cases c : v 4 = 0
    · rw [if_pos c, q_off0 a1 a2 a3 a4 a5 a6 a7 a8 a9 c hp, e_b1, q_held, Int32.add_zero]
      obtain ⟨k, e, hk⟩ := hs p hp
      rw [e, hold_id hk]
    · rw [if_neg c, q_offM a1 a2 a3 a4 a5 a6 a7 a8 a9 hs (by rcases h4 with h | h; exact absurd h c; exact h) hp, e_b1, q_held]
      rfl
  refine ⟨s_it (fun x g => upd g x (if v 4 = 0 then s x else o_val v s x)) 256 0 g, ?_, ?_⟩
  · rw [show (0 : Int32) = nI 0 from rfl]
    refine lp_it _ (fun x g hx => ?_) (fun g => ?_) 256 0 1000 g (by omega) (by omega)
    · have e := st x hx
      unfold fMO_restore_B243
      rw [if_neg (show ¬ (256 : Int32) ≤ nI x from nI_ge (b := 256) hx (by omega)), e_ald 256 s _ x rfl hx (by omega), e_b1]
      revert e
      generalize fMO_offset a1 a2 a3 a4 a5 a6 a7 a8 a9 v s (nI x) = o
      intro e
      cases o with
      | none => cases e
      | some o =>
        rw [e_b1] at e
        rw [e_b1, e, e_b1, e_ast 256 g _ _ x rfl hx (by omega), e_b1, e_lt, nI_1]
        rfl
    · unfold fMO_restore_B243
      rw [if_pos (show (256 : Int32) ≤ nI 256 by decide)]
  · intro q hq
    exact it_in (ix := fun x => x) (v := fun x => if v 4 = 0 then s x else o_val v s x) 256 0 g q (by omega) (by omega) (fun x2 _ _ e => e)
