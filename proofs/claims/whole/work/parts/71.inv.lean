/-! the picture's invariant: after e leaves -/
theorem f_op_cong {th th2 : Nat → Bool} {pl pl2 : Nat → Int32} (ht : ∀ p, p < 256 → th p = th2 p) (hp : ∀ p, p < 256 → th p = true → pl p = pl2 p) (x0 y0 m : Nat) : f_op th pl x0 y0 m = f_op th2 pl2 x0 y0 m := by
  funext k
  by_cases h : f_in x0 y0 m k
  · have hl := f_p_lt h
    by_cases c : th (f_p x0 y0 m k) = true
    · rw [f_op_val ⟨h, c⟩, f_op_val ⟨h, (ht _ hl) ▸ c⟩, hp _ hl c]
    · rw [f_op_none (fun q => c q.2), f_op_none (fun q => c ((ht _ hl).trans q.2))]
  · rw [f_op_none (fun q => h q.1), f_op_none (fun q => h q.1)]
theorem f_rw_cong {th th2 : Nat → Bool} {pl pl2 : Nat → Int32} (ht : ∀ p, p < 256 → th p = th2 p) (hp : ∀ p, p < 256 → th p = true → pl p = pl2 p) (x0 y0 m md : Nat) : f_rw th pl x0 y0 m md = f_rw th2 pl2 x0 y0 m md := by
  unfold f_rw
  rw [f_op_cong ht hp]
theorem r_half_cong {m : Nat} {co co2 : Nat → Nat → Int32} (h : ∀ x y, x < m → y < m → co x y = co2 x y) {x y : Nat} (hx : x < m) : r_half m co x y = r_half m co2 x y := by
  unfold r_half
  rw [s_it_cong (t := fun k => r_mat m k y * co x k) (t2 := fun k => r_mat m k y * co2 x k) m 0 64 (fun j _ hj => by
    show r_mat m j y * co x j = r_mat m j y * co2 x j
    rw [h x j hx (by omega)])]
theorem r_res_cong {m : Nat} {sk : Int32} {co co2 : Nat → Nat → Int32} (h : ∀ x y, x < m → y < m → co x y = co2 x y) {x y : Nat} (hx : x < m) (hy : y < m) : r_res m sk co x y = r_res m sk co2 x y := by
  unfold r_res
  rw [h x y hx hy, s_it_cong (t := fun k => r_mat m k x * r_half m co k y) (t2 := fun k => r_mat m k x * r_half m co2 k y) m 0 2048 (fun j _ hj => by
    show r_mat m j x * r_half m co j y = r_mat m j x * r_half m co2 j y
    rw [r_half_cong h (by omega)])]
theorem b_val_cong {th th2 : Nat → Bool} {pl pl2 lv lv2 : Nat → Int32} {x0 y0 m md q : Nat} {sk : Int32} (ht : ∀ p, p < 256 → th p = th2 p) (hp : ∀ p, p < 256 → th p = true → pl p = pl2 p) (hl : ∀ yy xx, yy < m → xx < m → lv (ixp x0 y0 yy xx) = lv2 (ixp x0 y0 yy xx)) {x y : Nat} (hx : x < m) (hy : y < m) : b_val th pl lv x0 y0 m md q sk x y = b_val th2 pl2 lv2 x0 y0 m md q sk x y := by
  unfold b_val
  rw [f_rw_cong ht hp, r_res_cong (co2 := fun x y => r_coef lv2 q m x0 y0 x y) (fun x y hx hy => by
    show r_coef lv q m x0 y0 x y = r_coef lv2 q m x0 y0 x y
    unfold r_coef
    have := hl y x hy hx
    unfold ixp at this
    rw [this]) hx hy]
theorem inR_ix {x y m p : Nat} (h : inR x y m p) : p / 16 - y < m ∧ p % 16 - x < m ∧ p = ixp x y (p / 16 - y) (p % 16 - x) := by
  unfold inR at h
  unfold ixp
  omega
theorem inR_of {x y m yy xx : Nat} (hx : x + m ≤ 16) (hyy : yy < m) (hxx : xx < m) : inR x y m (ixp x y yy xx) := by
  unfold inR ixp
  omega
theorem dp_in {x y m p : Nat} {v : Nat → Nat → Int32} {g : Nat → Int32} (hx : x + m ≤ 16) (h : inR x y m p) : d_put m (ixp x y) v g p = v (p / 16 - y) (p % 16 - x) := by
  obtain ⟨h1, h2, h3⟩ := inR_ix h
  have := d_put_in (m := m) (ix := ixp x y) (v := v) (g := g) h1 h2 (fun y2 x2 _ hx2 e => ixp_inj hx h2 hx2 e)
  rw [← h3] at this
  exact this
theorem dp_ix {x y m yy xx : Nat} {v : Nat → Nat → Int32} {g : Nat → Int32} (hx : x + m ≤ 16) (hyy : yy < m) (hxx : xx < m) : d_put m (ixp x y) v g (ixp x y yy xx) = v yy xx := d_put_in hyy hxx (fun y2 x2 _ hx2 e => ixp_inj hx hxx hx2 e)
theorem dp_out {x y m p : Nat} {v : Nat → Nat → Int32} {g : Nat → Int32} (hx : x + m ≤ 16) (h : ¬ inR x y m p) : d_put m (ixp x y) v g p = g p := d_put_out (fun yy xx hyy hxx e => h (by rw [e]; exact inR_of hx hyy hxx))
def thb (ow : Nat → Int32) (i : Nat) : Nat → Bool := fun p => decide (0 ≤ ow p ∧ ¬ nI i ≤ ow p)
theorem thb_t {ow : Nat → Int32} {i o p : Nat} (h : ow p = nI o) (ho : o < i) (hi : i ≤ 16) : thb ow i p = true := by
  unfold thb
  rw [h]
  exact decide_eq_true ⟨nI_pos' (by omega), nI_ge ho (by omega)⟩
theorem thb_f {ow : Nat → Int32} {i o p : Nat} (h : ow p = nI o) (ho : i ≤ o) (hi : o ≤ 16) : thb ow i p = false := by
  unfold thb
  rw [h]
  exact decide_eq_false (fun q => q.2 (nI_le ho (by omega)))
theorem thb_n {ow : Nat → Int32} {i p : Nat} (h : ow p = -1) : thb ow i p = false := by
  unfold thb
  rw [h]
  exact decide_eq_false (fun q => absurd q.1 (by decide))
def LfOK (q : Nat) (i : Nat) (left top sides modes skips ow mlv xpl xpd : Nat → Int32) : Prop :=
  ∃ x y m md : Nat, left i = nI x ∧ top i = nI y ∧ sides i = nI m ∧ modes i = nI md ∧ md ≤ 7 ∧ (m = 4 ∨ m = 8) ∧ x + m ≤ 16 ∧ y + m ≤ 16 ∧ (∀ p, p < 256 → (ow p = nI i ↔ inR x y m p)) ∧ ∀ yy xx, yy < m → xx < m → xpd (ixp x y yy xx) = p_val m md (f_rw (thb ow i) xpl x y m md) xx yy ∧ xpl (ixp x y yy xx) = b_val (thb ow i) xpl mlv x y m md q (skips i) xx yy
def LInv (q e : Nat) (cv : Nat → Prop) (left top sides modes skips ow mlv xsd xmo xlv xpl xpd : Nat → Int32) : Prop :=
  e ≤ 16 ∧ (∀ i, i < e → LfOK q i left top sides modes skips ow mlv xpl xpd) ∧ ∀ p, p < 256 → (cv p ∧ (∃ o, o < e ∧ ow p = nI o ∧ xsd p = sides o ∧ xmo p = modes o ∧ xlv p = mlv p ∧ ∃ v, xpl p = nI v ∧ v ≤ 255)) ∨ (¬ cv p ∧ ow p = -1 ∧ xsd p = 0 ∧ mlv p = 0)
theorem sides_ne {q i : Nat} {left top sides modes skips ow mlv xpl xpd : Nat → Int32} (h : LfOK q i left top sides modes skips ow mlv xpl xpd) : ¬ sides i = 0 := by
  obtain ⟨x, y, m, md, _, _, h3, _, _, hm, _⟩ := h
  rw [h3]
  exact nI_ne0 (by omega) (by omega)
theorem LInv_leaf {q e : Nat} {cv cv1 : Nat → Prop} {left top sides modes skips ow mlv mlv1 xsd xmo xlv xlv1 xpl xpd : Nat → Int32} (h : LInv q e cv left top sides modes skips ow mlv xsd xmo xlv xpl xpd) (he : e < 16) {x y m md : Nat} (sk : Int32) (hm : m = 4 ∨ m = 8) (hmd : md ≤ 7) (hx : x + m ≤ 16) (hy : y + m ≤ 16) (hr : ∀ p, p < 256 → inR x y m p → ¬ cv p) (hc : ∀ p, p < 256 → (cv1 p ↔ cv p ∨ inR x y m p)) (hl1 : ∀ p, inR x y m p → xlv1 p = mlv1 p) (hl2 : ∀ p, ¬ inR x y m p → mlv1 p = mlv p ∧ xlv1 p = xlv p) : LInv q (e + 1) cv1 (upd left e (nI x)) (upd top e (nI y)) (upd sides e (nI m)) (upd modes e (nI md)) (upd skips e sk) (own1 ow x y m (nI e)) mlv1 (d_put m (ixp x y) (fun _ _ => nI m) xsd) (d_put m (ixp x y) (fun _ _ => nI md) xmo) xlv1 (d_put m (ixp x y) (fun yy xx => b_val (xth xsd) xpl xlv1 x y m md q sk xx yy) xpl) (d_put m (ixp x y) (fun yy xx => p_val m md (f_rw (xth xsd) xpl x y m md) xx yy) xpd) := by
  obtain ⟨h16, hL, hP⟩ := h
  have hn : ∀ p, p < 256 → inR x y m p → ow p = -1 := by
    intro p hp hi
    rcases hP p hp with ⟨c, _⟩ | ⟨_, c, _⟩
    · exact absurd c (hr p hp hi)
    · exact c
  have nm1 : ∀ o, o < 2 ^ 31 → ¬ nI o = -1 := by
    intro o ho c
    have := nI_pos' ho
    rw [c] at this
    exact absurd this (by decide)
  have hpl : ∀ p, ¬ inR x y m p → d_put m (ixp x y) (fun yy xx => b_val (xth xsd) xpl xlv1 x y m md q sk xx yy) xpl p = xpl p := fun p hp => dp_out hx hp
  refine ⟨by omega, ?_, ?_⟩
  · intro i hi
    by_cases ci : i = e
    · subst ci
      have tht : ∀ p, p < 256 → xth xsd p = thb (own1 ow x y m (nI i)) i p := by
        intro p hp
        rcases hP p hp with ⟨c, o, ho, h1, h2, _⟩ | ⟨c, h1, h2, _⟩
        · have ni : ¬ inR x y m p := fun hi => hr p hp hi c
          rw [thb_t (o := o) (by rw [own1_out ni]; exact h1) ho (by omega)]
          unfold xth
          rw [h2]
          exact decide_eq_true (sides_ne (hL o ho))
        · have e1 : xth xsd p = false := by
            unfold xth
            rw [h2]
            exact decide_eq_false (fun q => q rfl)
          rw [e1]
          by_cases hi : inR x y m p
          · rw [thb_f (o := i) (own1_in hi) (Nat.le_refl _) (by omega)]
          · rw [thb_n (by rw [own1_out hi]; exact h1)]
      have plt : ∀ p, p < 256 → xth xsd p = true → xpl p = d_put m (ixp x y) (fun yy xx => b_val (xth xsd) xpl xlv1 x y m md q sk xx yy) xpl p := by
        intro p hp ht
        rw [hpl p]
        intro hi
        rw [tht p hp, thb_f (o := i) (own1_in hi) (Nat.le_refl _) (by omega)] at ht
        exact Bool.noConfusion ht
      refine ⟨x, y, m, md, u_0, u_0, u_0, u_0, hmd, hm, hx, hy, ?_, ?_⟩
      · intro p hp
        constructor
        · intro c
          by_cases hi : inR x y m p
          · exact hi
          · rw [own1_out hi] at c
            rcases hP p hp with ⟨_, o, ho, h1, _⟩ | ⟨_, h1, _⟩
            · rw [h1] at c
              have := (nI_eq (by omega) (by omega)).mp c
              omega
            · rw [h1] at c
              exact absurd c.symm (nm1 i (by omega))
        · intro hi
          exact own1_in hi
      · intro yy xx hyy hxx
        rw [dp_ix hx hyy hxx, dp_ix hx hyy hxx, u_0]
        refine ⟨?_, ?_⟩
        · show p_val m md (f_rw (xth xsd) xpl x y m md) xx yy = _
          rw [f_rw_cong tht plt]
        · exact b_val_cong tht plt (fun y2 x2 h1 h2 => hl1 _ (inR_of hx h1 h2)) hxx hyy
    · have hie : i < e := by omega
      obtain ⟨x', y', m', md', a1, a2, a3, a4, a5, a6, a7, a8, a9, a10⟩ := hL i hie
      have dis : ∀ p, p < 256 → inR x' y' m' p → ¬ inR x y m p := by
        intro p hp h1 h2
        have := (a9 p hp).mpr h1
        rw [hn p hp h2] at this
        exact nm1 i (by omega) this.symm
      have tht : ∀ p, p < 256 → thb ow i p = thb (own1 ow x y m (nI e)) i p := by
        intro p hp
        by_cases hi : inR x y m p
        · rw [thb_n (hn p hp hi), thb_f (o := e) (own1_in hi) (by omega) (by omega)]
        · unfold thb
          rw [own1_out hi]
      have plt : ∀ p, p < 256 → thb ow i p = true → xpl p = d_put m (ixp x y) (fun yy xx => b_val (xth xsd) xpl xlv1 x y m md q sk xx yy) xpl p := by
        intro p hp ht
        rw [hpl p]
        intro hi
        rw [thb_n (hn p hp hi)] at ht
        exact Bool.noConfusion ht
      refine ⟨x', y', m', md', by rw [u_n ci]; exact a1, by rw [u_n ci]; exact a2, by rw [u_n ci]; exact a3, by rw [u_n ci]; exact a4, a5, a6, a7, a8, ?_, ?_⟩
      · intro p hp
        by_cases hi : inR x y m p
        · rw [own1_in hi]
          constructor
          · intro c
            have := (nI_eq (by omega) (by omega)).mp c
            omega
          · intro c
            exact absurd hi (dis p hp c)
        · rw [own1_out hi]
          exact a9 p hp
      · intro yy xx hyy hxx
        have hin : inR x' y' m' (ixp x' y' yy xx) := inR_of a7 hyy hxx
        have hlt : ixp x' y' yy xx < 256 := ixp_lt a7 a8 hyy hxx
        have ni := dis _ hlt hin
        rw [dp_out hx ni, dp_out hx ni, u_n ci, (a10 yy xx hyy hxx).1, (a10 yy xx hyy hxx).2]
        refine ⟨?_, ?_⟩
        · rw [f_rw_cong tht plt]
        · exact b_val_cong tht plt (fun y2 x2 h1 h2 => ((hl2 _ (dis _ (ixp_lt a7 a8 h1 h2) (inR_of a7 h1 h2))).1).symm) hxx hyy
  · intro p hp
    by_cases hi : inR x y m p
    · refine Or.inl ⟨(hc p hp).mpr (Or.inr hi), e, by omega, own1_in hi, ?_, ?_, hl1 p hi, ?_⟩
      · rw [dp_in hx hi, u_0]
      · rw [dp_in hx hi, u_0]
      · rw [dp_in hx hi]
        exact hold_rg _
    · rcases hP p hp with ⟨c, o, ho, h1, h2, h3, h4, h5⟩ | ⟨c, h1, h2, h3⟩
      · refine Or.inl ⟨(hc p hp).mpr (Or.inl c), o, by omega, by rw [own1_out hi]; exact h1, ?_, ?_, ?_, ?_⟩
        · rw [dp_out hx hi, u_n (by omega)]
          exact h2
        · rw [dp_out hx hi, u_n (by omega)]
          exact h3
        · rw [(hl2 p hi).1, (hl2 p hi).2]
          exact h4
        · rw [hpl p hi]
          exact h5
      · refine Or.inr ⟨?_, by rw [own1_out hi]; exact h1, ?_, ?_⟩
        · intro c1
          rcases (hc p hp).mp c1 with c2 | c2
          · exact c c2
          · exact hi c2
        · rw [dp_out hx hi]
          exact h2
        · rw [(hl2 p hi).1]
          exact h3
