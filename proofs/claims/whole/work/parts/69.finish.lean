/-! from the plain samples to the last ones, both sides -/
def Eq2 (s t : Nat → Int32) : Prop := ∀ p, p < 256 → s p = t p
theorem t_edge_cong {q p w : Nat} {s t : Nat → Int32} (h : Eq2 s t) (hp : p + 2 * w < 256) : Eq2 (t_edge q s p w) (t_edge q t p w) := by
  have e1 := h p (by omega)
  have e2 := h (p - w) (by omega)
  have e3 := h (p + w) (by omega)
  have e4 := h (p + 2 * w) (by omega)
  have ed : t_d s p w = t_d t p w := by
    unfold t_d
    rw [e1, e2, e3, e4]
  intro k hk
  unfold t_edge
  rw [ed, e1, e2, e3, e4]
  split
  · exact h k hk
  · split
    · exact h k hk
    · by_cases a : k = p + w
      · subst a
        rw [u_0, u_0]
      · rw [u_n a, u_n a]
        by_cases b : k = p
        · subst b
          rw [u_0, u_0]
        · rw [u_n b, u_n b]
          exact h k hk
theorem s_it_eq2 {f : Nat → (Nat → Int32) → (Nat → Int32)} {m : Nat} (hf : ∀ k s t, k < m → Eq2 s t → Eq2 (f k s) (f k t)) : ∀ (k i : Nat) (s t : Nat → Int32), i + k ≤ m → Eq2 s t → Eq2 (s_it f k i s) (s_it f k i t) := by
  intro k
  induction k with
  | zero => intro i s t _ h; exact h
  | succ k ih => intro i s t hm h; exact ih (i + 1) _ _ (by omega) (hf i s t (by omega) h)
theorem t_all_cong {q : Nat} {s t : Nat → Int32} (h : Eq2 s t) : Eq2 (t_all q s) (t_all q t) := by
  have a := s_it_eq2 (f := fun k s => t_edge q s (16 * k + 7) 1) (m := 16) (fun k s t hk h => t_edge_cong (p := 16 * k + 7) (w := 1) h (by omega)) 16 0 s t (by omega) h
  unfold t_all
  revert a
  generalize s_it (fun k s => t_edge q s (16 * k + 7) 1) 16 0 s = s1
  generalize s_it (fun k s => t_edge q s (16 * k + 7) 1) 16 0 t = t1
  intro a
  exact s_it_eq2 (f := fun k s => t_edge q s (112 + k) 16) (m := 16) (fun k s t hk h => t_edge_cong (p := 112 + k) (w := 16) h (by omega)) 16 0 s1 t1 (by omega) a
def t_fin (v : Nat → Int32) (q : Nat) (s : Nat → Int32) (p : Nat) : Int32 := if v 4 = 0 then (if v 3 = 1 then t_all q s else s) p else o_val v (if v 3 = 1 then t_all q s else s) p
theorem t_sm_cong {v v2 : Nat → Int32} {q : Nat} {s t : Nat → Int32} (hv : v 3 = v2 3) (h : Eq2 s t) : Eq2 (if v 3 = 1 then t_all q s else s) (if v2 3 = 1 then t_all q t else t) := by
  rw [hv]
  by_cases c : v2 3 = 1
  · rw [if_pos c, if_pos c]
    exact t_all_cong h
  · rw [if_neg c, if_neg c]
    exact h
theorem t_sm_rg {v : Nat → Int32} {q : Nat} {s : Nat → Int32} (h : RG s) : RG (if v 3 = 1 then t_all q s else s) := by
  split
  · exact t_all_rg h
  · exact h
theorem RG.eq2 {s t : Nat → Int32} (h : Eq2 s t) (hs : RG s) : RG t := fun p hp => by rw [← h p hp]; exact hs p hp
theorem t_fin_cong {v v2 : Nat → Int32} {q : Nat} {s t : Nat → Int32} (hv : ∀ i, i < 10 → v i = v2 i) (h : Eq2 s t) : Eq2 (t_fin v q s) (t_fin v2 q t) := by
  intro p hp
  have hs := t_sm_cong (q := q) (hv 3 (by omega)) h
  unfold t_fin
  rw [hv 4 (by omega), hs p hp, o_val_cong hv hs hp]
theorem q_applyX (v s b : Nat → Int32) {q : Nat} (h0 : v 0 = nI q) (hq : q ≤ 51) (hs : RG s) : ∃ y b1, fFI_apply v s b = some (y, b1) ∧ Eq2 y (t_fin v q s) := by
  have hs2 := t_sm_rg (v := v) (q := q) hs
  have e1 : ((if v 3 = (1 : Int32) then (ip_b2 (ip_lp2 (fFI_apply_B9 v) 1000 (0 : Int32) s) (fun x5 y6 => ip_b2 (ip_lp2 (fFI_apply_B37 v) 1000 (0 : Int32) y6) (fun x13 y14 => some y14))) else (some s)) : Option (Nat → Int32)) = some (if v 3 = 1 then t_all q s else s) := by
    by_cases c : v 3 = 1
    · rw [if_pos c, if_pos c, q_edgesX v s h0 hq]
    · rw [if_neg c, if_neg c]
  unfold fFI_apply
  rw [e_ald 10 v 3 3 rfl (by omega) (by omega), e_b1, e1, e_b1, e_ald 10 v 4 4 rfl (by omega) (by omega), e_b1]
  revert hs2
  unfold t_fin
  generalize (if v 3 = 1 then t_all q s else s) = t
  intro hs2
  by_cases c : v 4 = 0
  · refine ⟨t, b, ?_, ?_⟩
    · rw [if_pos c]
    · intro p hp
      show t p = if v 4 = 0 then t p else o_val v t p
      rw [if_pos c]
  · obtain ⟨y, g, e, h⟩ := q_addX v t b hs2
    refine ⟨y, g, ?_, ?_⟩
    · rw [if_neg c, e, e_b2]
    · intro p hp
      show y p = if v 4 = 0 then t p else o_val v t p
      rw [if_neg c, h p hp]
      exact o_val_cong (fun _ _ => rfl) (fun k hk => sb_cpy0 hk) hp
/-- what follows the leaves in the reference's restore -/
theorem q_tailM (a1 a2 a3 a4 a5 a6 a7 a8 a9 : Int32) {v fs : Nat → Int32} (la ol gs rw_ raw : Nat → Int32) {q : Nat} (h0 : v 0 = nI q) (hq : q ≤ 51) (hs : RG fs) (h4 : v 4 = 0 ∨ v 4 = 1 ∨ v 4 = 2 ∨ v 4 = 3) : ∃ la1 ol1 : Nat → Int32, (ip_b2 (ip_lp2 (fMO_restore_B126 fs) 1000 (0 : Int32) la) (fun x35 y36 =>
ip_b2 (ip_lp2 (fMO_restore_B153 a1 a2 a3 a4 a5 a6 a7 a8 a9 v) 1000 (0 : Int32) y36) (fun x42 y43 =>
ip_b2 (ip_lp2 (fMO_restore_B216 y43) 1000 (0 : Int32) ol) (fun x51 y52 =>
ip_b2 (ip_lp2 (fMO_restore_B243 a1 a2 a3 a4 a5 a6 a7 a8 a9 v y52) 1000 (0 : Int32) y43) (fun x58 y59 =>
some (gs, fs, y59, y52, rw_, raw)))))) = some (gs, fs, la1, ol1, rw_, raw) ∧ Eq2 la1 (t_fin v q fs) := by
  obtain ⟨c1, e1, h1⟩ := q_copyM fs la
  obtain ⟨x2, e2⟩ := q_edgesM a1 a2 a3 a4 a5 a6 a7 a8 a9 c1 h0 hq
  have k1 : Eq2 c1 fs := h1
  have k2 := t_sm_cong (v := v) (v2 := v) (q := q) rfl k1
  have r1 : RG (if v 3 = 1 then t_all q c1 else c1) := t_sm_rg (RG.eq2 (fun p hp => (h1 p hp).symm) hs)
  rw [e1, e_b2, e2, e_b2]
  revert k2 r1
  unfold t_fin
  generalize (if v 3 = 1 then t_all q c1 else c1) = t
  generalize (if v 3 = 1 then t_all q fs else fs) = t2
  intro k2 r1
  obtain ⟨c3, e3, h3⟩ := q_copyM2 t ol
  have r3 : RG c3 := RG.eq2 (fun p hp => (h3 p hp).symm) r1
  obtain ⟨c4, e4, h5⟩ := q_addM a1 a2 a3 a4 a5 a6 a7 a8 a9 (g := t) r3 h4
  rw [e3, e_b2, e4, e_b2]
  refine ⟨c4, c3, rfl, ?_⟩
  intro p hp
  have k3 : Eq2 c3 t2 := fun p hp => (h3 p hp).trans (k2 p hp)
  show c4 p = if v 4 = 0 then t2 p else o_val v t2 p
  rw [h5 p hp, k3 p hp, o_val_cong (fun _ _ => rfl) k3 hp]
