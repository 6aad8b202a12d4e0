/-! edges and offsets -/
def RG (s : Nat → Int32) : Prop := ∀ p, p < 256 → ∃ v, s p = nI v ∧ v ≤ 255
theorem hold_rg (x : Int32) : ∃ v, hold x 0 255 = nI v ∧ v ≤ 255 := by
  unfold hold
  by_cases h1 : 0 ≤ x
  · rw [if_pos h1]
    by_cases h2 : x ≤ 255
    · rw [if_pos h2]
      obtain ⟨j, h3, h4⟩ := nI_of2 (M := 255) (n := 255) (by decide) (Int32.not_lt.mpr h1) h2
      exact ⟨j, h4, h3⟩
    · rw [if_neg h2]
      exact ⟨255, rfl, by omega⟩
  · rw [if_neg h1]
    exact ⟨0, rfl, by omega⟩
theorem hold_id {v : Nat} (h : v ≤ 255) : hold (nI v) 0 255 = nI v := by
  unfold hold
  rw [if_pos (nI_pos' (by omega)), if_pos (show nI v ≤ (255 : Int32) from (nI_leI (b := 255) (by omega) (by omega)).mpr h)]
def t_abs (x : Int32) : Int32 := if 0 ≤ x then x else -x
theorem t_abs0 (x : Int32) : (if 0 ≤ x then x else 0 - x) = t_abs x := by
  unfold t_abs
  rw [Int32.zero_sub]
def t_d (s : Nat → Int32) (p w : Nat) : Int32 := (((9 * (s (p + w) - s p)) - (3 * (s (p + 2 * w) - s (p - w)))) + 8) >>> ((4 : Int32) &&& 31)
def t_edge (q : Nat) (s : Nat → Int32) (p w : Nat) : Nat → Int32 :=
  if nI q ≤ t_abs (s (p - w) - s p) + t_abs (s (p + 2 * w) - s (p + w)) then s
  else if 10 * nI (1 + q / 8) ≤ t_abs (t_d s p w) then s
  else upd (upd s p (hold (s p + hold (t_d s p w) (-nI (1 + q / 8)) (nI (1 + q / 8))) 0 255)) (p + w) (hold (s (p + w) - hold (t_d s p w) (-nI (1 + q / 8)) (nI (1 + q / 8))) 0 255)
theorem t_edge_rg {q p w : Nat} {s : Nat → Int32} (h : RG s) : RG (t_edge q s p w) := by
  unfold t_edge
  split
  · exact h
  · split
    · exact h
    · intro k hk
      by_cases e1 : k = p + w
      · subst e1
        rw [u_0]
        exact hold_rg _
      · rw [u_n e1]
        by_cases e2 : k = p
        · subst e2
          rw [u_0]
          exact hold_rg _
        · rw [u_n e2]
          exact h k hk
theorem neg_le {t : Nat} (h : t < 2 ^ 30) : -nI t ≤ nI t := by
  rw [Int32.le_iff_toInt_le, sb_negT (by omega), nI_toInt (by omega)]
  omega
theorem q_edgeX (s : Nat → Int32) {q p w : Nat} (hq : q ≤ 51) (hw : 1 ≤ w) (hp : w ≤ p) (hp2 : p + 2 * w < 256) : fFI_smoothEdge s (nI (p + w)) (nI w) (nI q) = some (t_edge q s p w) := by
  have e1 : nI (p + w) - ((2 : Int32) * nI w) = nI (p - w) := by
    rw [show (2 : Int32) = nI 2 from rfl, pk_mul, pk_sub (by omega)]
    congr 1
    omega
  have e2 : nI (p + w) - nI w = nI p := by
    rw [pk_sub (by omega)]
    congr 1
    omega
  have e3 : nI (p + w) + nI w = nI (p + 2 * w) := by
    rw [nI_add]
    congr 1
    omega
  have e4 : (1 : Int32) + (nI q / (8 : Int32)) = nI (1 + q / 8) := by
    rw [show nI q / (8 : Int32) = nI (q / 8) from pk_div (d := 8) (by omega) (by omega) (by omega), show (1 : Int32) = nI 1 from rfl, nI_add]
  unfold fFI_smoothEdge t_edge
  rw [e1, e2, e3, e4, ip_ald_n (by omega) (by omega), e_b1, ip_ald_n (by omega) (by omega), e_b1, ip_ald_n (by omega) (by omega), e_b1, ip_ald_n (by omega) (by omega), e_b1, e_lt, e_lt, e_lt, e_lt, t_abs0, t_abs0]
  by_cases h1 : nI q ≤ t_abs (s (p - w) - s p) + t_abs (s (p + 2 * w) - s (p + w))
  · rw [if_pos h1, if_pos h1]
  · rw [if_neg h1, if_neg h1, e_lt, t_abs0, show (((9 * (s (p + w) - s p)) - (3 * (s (p + 2 * w) - s (p - w)))) + 8) >>> ((4 : Int32) &&& 31) = t_d s p w from rfl]
    by_cases h2 : 10 * nI (1 + q / 8) ≤ t_abs (t_d s p w)
    · rw [if_pos h2, if_pos h2]
    · rw [if_neg h2, if_neg h2, q_bring _ (neg_le (by omega)), e_b1, q_bring _ (by decide), e_b1, ip_ast_n (by omega) (by omega), e_b1, q_bring _ (by decide), e_b1, ip_ast_n (by omega) (by omega), e_b1]
theorem q_edgeM (a1 a2 a3 a4 a5 a6 a7 a8 a9 : Int32) (s : Nat → Int32) {given : Nat → Int32} {q p w : Nat} (hg : given 0 = nI q) (hq : q ≤ 51) (hw : 1 ≤ w) (hp : w ≤ p) (hp2 : p + 2 * w < 256) : fMO_smoothEdge a1 a2 a3 a4 a5 a6 a7 a8 a9 given s (nI p) (nI w) = some (t_edge q s p w) := by
  have e1 : nI p - nI w = nI (p - w) := pk_sub hp
  have e3 : nI p + ((2 : Int32) * nI w) = nI (p + 2 * w) := by
    rw [show (2 : Int32) = nI 2 from rfl, pk_mul, nI_add]
  have e4 : (1 : Int32) + (nI q / (8 : Int32)) = nI (1 + q / 8) := by
    rw [show nI q / (8 : Int32) = nI (q / 8) from pk_div (d := 8) (by omega) (by omega) (by omega), show (1 : Int32) = nI 1 from rfl, nI_add]
  have hwo : ∀ x : Int32, fMO_without x = some (t_abs x) := by
    intro x
    unfold fMO_without t_abs
    split <;> rfl
  unfold fMO_smoothEdge t_edge
  rw [e1, nI_add, e3, ip_ald_n (by omega) (by omega), e_b1, ip_ald_n (by omega) (by omega), e_b1, ip_ald_n (by omega) (by omega), e_b1, ip_ald_n (by omega) (by omega), e_b1, e_lt, e_ald 10 given 0 0 rfl (by omega) (by omega), hg, e_b1, e_lt, e4, hwo, e_b1, hwo, e_b1, e_b1, show (((9 * (s (p + w) - s p)) - (3 * (s (p + 2 * w) - s (p - w)))) + 8) >>> ((4 : Int32) &&& 31) = t_d s p w from rfl]
  by_cases h1 : nI q ≤ t_abs (s (p - w) - s p) + t_abs (s (p + 2 * w) - s (p + w))
  · rw [if_pos h1, if_pos h1]
  · rw [if_neg h1, if_neg h1, hwo, e_b1]
    by_cases h2 : 10 * nI (1 + q / 8) ≤ t_abs (t_d s p w)
    · rw [if_neg (Int32.not_lt.mpr h2), if_pos h2]
    · rw [if_pos (Int32.not_le.mp h2), if_neg h2, q_held, e_b1, q_held, e_b1, ip_ast_n (by omega) (by omega), e_b1, e_b1, q_held, e_b1, ip_ast_n (by omega) (by omega), e_b1]
theorem s_it_add {A : Type} (f : Nat → A → A) : ∀ (a b i : Nat) (x : A), s_it f (a + b) i x = s_it f b (i + a) (s_it f a i x) := by
  intro a
  induction a with
  | zero => intro b i x; rw [Nat.zero_add]; rfl
  | succ a ih =>
    intro b i x
    rw [show a + 1 + b = (a + b) + 1 by omega]
    show s_it f (a + b) (i + 1) (f i x) = s_it f b (i + (a + 1)) (s_it f a (i + 1) (f i x))
    rw [ih b (i + 1) (f i x), show i + 1 + a = i + (a + 1) by omega]
theorem s_it_fun {A : Type} {f g : Nat → A → A} : ∀ (k i j : Nat) (x : A), (∀ d, d < k → f (i + d) = g (j + d)) → s_it f k i x = s_it g k j x := by
  intro k
  induction k with
  | zero => intro i j x _; rfl
  | succ k ih =>
    intro i j x h
    show s_it f k (i + 1) (f i x) = s_it g k (j + 1) (g j x)
    have h0 : f i = g j := h 0 (by omega)
    rw [h0]
    exact ih (i + 1) (j + 1) _ (fun d hd => by
      have := h (d + 1) (by omega)
      rw [show i + 1 + d = i + (d + 1) by omega, show j + 1 + d = j + (d + 1) by omega]
      exact this)
def t_all (q : Nat) (s : Nat → Int32) : Nat → Int32 := s_it (fun k s => t_edge q s (112 + k) 16) 16 0 (s_it (fun k s => t_edge q s (16 * k + 7) 1) 16 0 s)
theorem s_it_rg {f : Nat → (Nat → Int32) → (Nat → Int32)} (hf : ∀ k s, RG s → RG (f k s)) : ∀ (k i : Nat) (s : Nat → Int32), RG s → RG (s_it f k i s) := by
  intro k
  induction k with
  | zero => intro i s h; exact h
  | succ k ih => intro i s h; exact ih (i + 1) _ (hf i s h)
theorem t_all_rg {q : Nat} {s : Nat → Int32} (h : RG s) : RG (t_all q s) := s_it_rg (fun _ _ h => t_edge_rg h) 16 0 _ (s_it_rg (fun _ _ h => t_edge_rg h) 16 0 s h)
theorem q_edgesX (vals : Nat → Int32) (s : Nat → Int32) {q : Nat} (hv : vals 0 = nI q) (hq : q ≤ 51) : ip_b2 (ip_lp2 (fFI_apply_B9 vals) 1000 (0 : Int32) s) (fun x5 y6 => ip_b2 (ip_lp2 (fFI_apply_B37 vals) 1000 (0 : Int32) y6) (fun x13 y14 => some y14)) = some (t_all q s) := by
  have l1 : ip_lp2 (fFI_apply_B9 vals) 1000 (nI 0) s = some (nI 16, s_it (fun k s => t_edge q s (16 * k + 7) 1) 16 0 s) := by
    refine lp_it _ (fun k g hk => ?_) (fun g => ?_) 16 0 1000 s (by omega) (by omega)
    · have ep : (nI k * (16 : Int32)) + (8 : Int32) = nI (16 * k + 7 + 1) := by
        rw [show (16 : Int32) = nI 16 from rfl, pk_mul, show (8 : Int32) = nI 8 from rfl, nI_add]
        congr 1
        omega
      unfold fFI_apply_B9 fIP_placeOf
      rw [if_neg (show ¬ (16 : Int32) ≤ nI k from nI_ge (b := 16) hk (by omega)), e_b1, e_ald 10 vals 0 0 rfl (by omega) (by omega), hv, e_b1, ep, show (1 : Int32) = nI 1 from rfl, q_edgeX g hq (by omega) (by omega) (by omega), e_b1, e_lt, nI_add]
    · unfold fFI_apply_B9
      rw [if_pos (show (16 : Int32) ≤ nI 16 by decide)]
  have l2 : ∀ s, ip_lp2 (fFI_apply_B37 vals) 1000 (nI 0) s = some (nI 16, s_it (fun k s => t_edge q s (112 + k) 16) 16 0 s) := by
    intro s
    refine lp_it _ (fun k g hk => ?_) (fun g => ?_) 16 0 1000 s (by omega) (by omega)
    · have ep : ((8 : Int32) * (16 : Int32)) + nI k = nI (112 + k + 16) := by
        rw [show (8 : Int32) * (16 : Int32) = nI 128 from rfl, nI_add]
        congr 1
        omega
      unfold fFI_apply_B37 fIP_placeOf
      rw [if_neg (show ¬ (16 : Int32) ≤ nI k from nI_ge (b := 16) hk (by omega)), e_b1, e_ald 10 vals 0 0 rfl (by omega) (by omega), hv, e_b1, ep, show (16 : Int32) = nI 16 from rfl, q_edgeX g hq (by omega) (by omega) (by omega), e_b1, e_lt, nI_1]
    · unfold fFI_apply_B37
      rw [if_pos (show (16 : Int32) ≤ nI 16 by decide)]
  rw [show (0 : Int32) = nI 0 from rfl, l1, e_b2, l2, e_b2]
  rfl
theorem q_edgesM (a1 a2 a3 a4 a5 a6 a7 a8 a9 : Int32) (s : Nat → Int32) {given : Nat → Int32} {q : Nat} (hg : given 0 = nI q) (hq : q ≤ 51) : ∃ x : Int32, ip_lp2 (fMO_restore_B153 a1 a2 a3 a4 a5 a6 a7 a8 a9 given) 1000 (0 : Int32) s = some (x, if given 3 = 1 then t_all q s else s) := by
  by_cases h3 : given 3 = 1
  · rw [if_pos h3]
    refine ⟨nI 32, ?_⟩
    have l1 : ip_lp2 (fMO_restore_B153 a1 a2 a3 a4 a5 a6 a7 a8 a9 given) 1000 (nI 0) s = some (nI 32, s_it (fun k s => t_edge q s (if k < 16 then 16 * k + 7 else 96 + k) (if k < 16 then 1 else 16)) 32 0 s) := by
      refine lp_it _ (fun k g hk => ?_) (fun g => ?_) 32 0 1000 s (by omega) (by omega)
      · unfold fMO_restore_B153
        rw [if_neg (show ¬ (32 : Int32) ≤ nI k from nI_ge (b := 32) hk (by omega)), e_ald 10 given 3 3 rfl (by omega) (by omega), e_b1, if_pos h3]
        by_cases h : k < 16
        · have hc : ¬ (16 : Int32) ≤ nI k := nI_ge (b := 16) h (by omega)
          have ep : ((16 : Int32) * nI k) + (7 : Int32) = nI (16 * k + 7) := by
            rw [show (16 : Int32) = nI 16 from rfl, pk_mul, show (7 : Int32) = nI 7 from rfl, nI_add]
          rw [if_neg hc, e_b1, if_neg hc, e_b1, ep, show (1 : Int32) = nI 1 from rfl, q_edgeM a1 a2 a3 a4 a5 a6 a7 a8 a9 g hg hq (by omega) (by omega) (by omega), e_b1, e_lt, nI_add, if_pos h, if_pos h]
        · have hc : (16 : Int32) ≤ nI k := (nI_leI (a := 16) (by omega) (by omega)).mpr (by omega)
          have ep : ((112 : Int32) + nI k) - (16 : Int32) = nI (96 + k) := by
            rw [show (112 : Int32) = nI 112 from rfl, nI_add, show (16 : Int32) = nI 16 from rfl, pk_sub (by omega)]
            congr 1
            omega
          rw [if_pos hc, e_b1, if_pos hc, e_b1, ep, show (16 : Int32) = nI 16 from rfl, q_edgeM a1 a2 a3 a4 a5 a6 a7 a8 a9 g hg hq (by omega) (by omega) (by omega), e_b1, e_lt, nI_1, if_neg h, if_neg h]
      · unfold fMO_restore_B153
        rw [if_pos (show (32 : Int32) ≤ nI 32 by decide)]
    rw [show (0 : Int32) = nI 0 from rfl, l1, s_it_add _ 16 16 0 s]
    have e1 : s_it (fun k s => t_edge q s (if k < 16 then 16 * k + 7 else 96 + k) (if k < 16 then 1 else 16)) 16 0 s = s_it (fun k s => t_edge q s (16 * k + 7) 1) 16 0 s := s_it_fun 16 0 0 s (fun d hd => by
      show (fun s => t_edge q s (if 0 + d < 16 then 16 * (0 + d) + 7 else 96 + (0 + d)) (if 0 + d < 16 then 1 else 16)) = fun s => t_edge q s (16 * (0 + d) + 7) 1
      rw [if_pos (by omega), if_pos (by omega)])
    have e2 : ∀ s', s_it (fun k s => t_edge q s (if k < 16 then 16 * k + 7 else 96 + k) (if k < 16 then 1 else 16)) 16 (0 + 16) s' = s_it (fun k s => t_edge q s (112 + k) 16) 16 0 s' := fun s' => s_it_fun 16 16 0 s' (fun d hd => by
      show (fun s => t_edge q s (if 16 + d < 16 then 16 * (16 + d) + 7 else 96 + (16 + d)) (if 16 + d < 16 then 1 else 16)) = fun s => t_edge q s (112 + (0 + d)) 16
      rw [if_neg (by omega), if_neg (by omega), show 96 + (16 + d) = 112 + (0 + d) by omega])
    rw [e1, e2]
    rfl
  · rw [if_neg h3]
    refine ⟨0, ?_⟩
    refine l_ex2 (f := 999) ?_
    unfold fMO_restore_B153
    rw [if_neg (show ¬ (32 : Int32) ≤ 0 by decide), e_ald 10 given 3 3 rfl (by omega) (by omega), e_b1, if_neg h3]
