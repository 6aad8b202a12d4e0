/-! bytes fed, both sides -/
theorem by_eq (x : Int64) : x.toInt32 &&& (255 : Int32) = (x &&& (255 : Int64)).toInt32 := by
  rw [Int64.toInt32_and]
  rfl
def fd (v : Int64) (k : Nat) : Int32 := (((v.toUInt64 >>> (((8 : Int32) * nI k).toInt64.toUInt64 &&& Int64.toUInt64 63)).toInt64).toInt32 &&& (255 : Int32))
theorem q_feedX (st0 len : Int32) (f : Nat → Int32) (v : Int64) (w : Int32) {c : Nat} (hc : c ≤ 240) : ∃ (r : Int32) (c1 : Nat) (f1 : Nat → Int32), c1 ≤ 240 ∧ (r = 0 ∨ r = 1) ∧ fIP_feed st0 (nI c) len f v w = some (r, nI c1, f1) ∧ ∀ a2 a3 a4 a5 a6 a7 a8 a9, fMO_feed (nI c) a2 a3 a4 a5 a6 a7 a8 a9 f v w = some (r, nI c1, f1) := by
  unfold fIP_feed fFB_append fMO_feed
  by_cases h1 : w < 1
  · refine ⟨0, c, f, hc, Or.inl rfl, ?_, ?_⟩
    · rw [if_pos h1, e_b3, e_zk (Or.inl rfl)]
    · intros
      rw [if_pos h1]
  · by_cases h2 : (8 : Int32) < w
    · refine ⟨0, c, f, hc, Or.inl rfl, ?_, ?_⟩
      · rw [if_neg h1, if_pos h2, e_b3, e_zk (Or.inl rfl)]
      · intros
        rw [if_neg h1, if_pos h2]
    · obtain ⟨n, hn, rfl⟩ : ∃ n, n ≤ 8 ∧ w = nI n := nI_of2 (M := 8) (n := 8) (by decide) (fun q => h1 (Int32.lt_of_lt_of_le q (by decide))) (Int32.not_lt.mp h2)
      by_cases h3 : c + n ≤ 240
      · have e3 : nI c + nI n ≤ (240 : Int32) := by
          rw [nI_add]
          exact nI_le (b := 240) h3 (by omega)
        have lX : ∀ (k i fuel : Nat) (g : Nat → Int32), i + k = n → k < fuel → ip_lp2 (fFB_append_B28 (nI c) v (nI n)) fuel (nI i) g = some (nI n, s_it (fun i g => upd g (c + i) (fd v i)) k i g) := by
          intro k i fuel g hi hf
          refine lp_it _ (fun x g hx => ?_) (fun g => ?_) k i fuel g hi hf
          · unfold fFB_append_B28
            rw [if_neg (show ¬ nI n ≤ nI x from nI_ge hx (by omega)), nI_add, e_ast 240 g _ _ (c + x) rfl (by omega) (by omega), e_b1, e_lt, nI_1]
            rfl
          · unfold fFB_append_B28
            rw [if_pos (Int32.le_refl _)]
        have lM : ∀ (k i fuel : Nat) (g : Nat → Int32), i + k = n → k < fuel → ip_lp3 (fMO_feed_B28 v (nI n)) fuel (nI i) (nI (c + i)) g = some (nI n, nI (c + n), s_it (fun i g => upd g (c + i) (fd v i)) k i g) := by
          intro k
          induction k with
          | zero =>
            intro i fuel g hi hf
            obtain ⟨f0, rfl⟩ : ∃ f, fuel = f + 1 := ⟨fuel - 1, by omega⟩
            have e : i = n := by omega
            subst e
            refine l_ex3 ?_
            unfold fMO_feed_B28
            rw [if_pos (Int32.le_refl _)]
            rfl
          | succ k ih =>
            intro i fuel g hi hf
            obtain ⟨f0, rfl⟩ : ∃ f, fuel = f + 1 := ⟨fuel - 1, by omega⟩
            refine (l_in3 (b1 := nI (i + 1)) (b2 := nI (c + (i + 1))) (b3 := upd g (c + i) (fd v i)) ?_).trans (ih (i + 1) f0 _ (by omega) (by omega))
            unfold fMO_feed_B28
            rw [if_neg (show ¬ nI n ≤ nI i from nI_ge (by omega) (by omega)), e_ast 240 g _ _ (c + i) rfl (by omega) (by omega), e_b1, e_lt, e_lt, nI_1, nI_1, ← by_eq]
            rfl
        have e1 := lX n 0 1000 f (by omega) (by omega)
        have e2 := lM n 0 1000 f (by omega) (by omega)
        rw [nI_0] at e1 e2
        rw [Nat.add_zero] at e2
        refine ⟨1, c + n, s_it (fun i g => upd g (c + i) (fd v i)) n 0 f, h3, Or.inr rfl, ?_, ?_⟩
        · rw [if_neg h1, if_neg h2, if_pos e3, e1, e_b2, e_lt, e_b3, e_zk (Or.inr rfl), nI_add]
        · intros
          rw [if_neg h1, if_neg h2, if_pos e3, e2, e_b3]
      · have e3 : ¬ nI c + nI n ≤ (240 : Int32) := by
          rw [nI_add]
          exact nI_ge (a := 240) (by omega) (by omega)
        refine ⟨0, c, f, hc, Or.inl rfl, ?_, ?_⟩
        · rw [if_neg h1, if_neg h2, if_neg e3, e_b3, e_zk (Or.inl rfl)]
        · intros
          rw [if_neg h1, if_neg h2, if_neg e3]
