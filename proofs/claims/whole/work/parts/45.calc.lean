/-! loops by their states -/
theorem ip_lp_it {S T : Type} {B : S → Option (S ⊕ T)} {x : T} (sg : Nat → S) (N : Nat) (hs : ∀ i, i < N → B (sg i) = some (.inl (sg (i + 1)))) (hx : B (sg N) = some (.inr x)) : ∀ (d i fuel : Nat), i + d = N → d < fuel → ip_lp B fuel (sg i) = some x := by
  intro d
  induction d with
  | zero =>
    intro i fuel h hf
    obtain ⟨f, rfl⟩ : ∃ f, fuel = f + 1 := ⟨fuel - 1, by omega⟩
    have e : i = N := by omega
    subst e
    unfold ip_lp
    rw [hx]
  | succ d ih =>
    intro i fuel h hf
    obtain ⟨f, rfl⟩ : ∃ f, fuel = f + 1 := ⟨fuel - 1, by omega⟩
    unfold ip_lp
    rw [hs i (by omega)]
    exact ih (i + 1) f (by omega) (by omega)
theorem ip_lp_for {S T : Type} {B : S → Option (S ⊕ T)} (I : Nat → S → Prop) (J : T → Prop) (N : Nat) (hs : ∀ i s, i < N → I i s → ∃ t, B s = some (.inl t) ∧ I (i + 1) t) (hx : ∀ s, I N s → ∃ x, B s = some (.inr x) ∧ J x) : ∀ (d i fuel : Nat) (s : S), i + d = N → d < fuel → I i s → ∃ x, ip_lp B fuel s = some x ∧ J x := by
  intro d
  induction d with
  | zero =>
    intro i fuel s h hf hI
    obtain ⟨f, rfl⟩ : ∃ f, fuel = f + 1 := ⟨fuel - 1, by omega⟩
    have e : i = N := by omega
    subst e
    obtain ⟨x, h1, h2⟩ := hx s hI
    refine ⟨x, ?_, h2⟩
    unfold ip_lp
    rw [h1]
  | succ d ih =>
    intro i fuel s h hf hI
    obtain ⟨f, rfl⟩ : ∃ f, fuel = f + 1 := ⟨fuel - 1, by omega⟩
    obtain ⟨t, h1, h2⟩ := hs i s (by omega) hI
    obtain ⟨x, h3, h4⟩ := ih (i + 1) f t (by omega) (by omega) h2
    refine ⟨x, ?_, h4⟩
    unfold ip_lp
    rw [h1]
    exact h3
theorem ip_lp_rel {S T S2 T2 : Type} {B : S → Option (S ⊕ T)} {B2 : S2 → Option (S2 ⊕ T2)} (I : Nat → S → S2 → Prop) (J : T → T2 → Prop) (N : Nat) (hs : ∀ i s s2, i < N → I i s s2 → ∃ t t2, B s = some (.inl t) ∧ B2 s2 = some (.inl t2) ∧ I (i + 1) t t2) (hx : ∀ s s2, I N s s2 → ∃ x x2, B s = some (.inr x) ∧ B2 s2 = some (.inr x2) ∧ J x x2) : ∀ (d i fuel fuel2 : Nat) (s : S) (s2 : S2), i + d = N → d < fuel → d < fuel2 → I i s s2 → ∃ x x2, ip_lp B fuel s = some x ∧ ip_lp B2 fuel2 s2 = some x2 ∧ J x x2 := by
  intro d
  induction d with
  | zero =>
    intro i fuel fuel2 s s2 h hf hf2 hI
    obtain ⟨f, rfl⟩ : ∃ f, fuel = f + 1 := ⟨fuel - 1, by omega⟩
    obtain ⟨f2, rfl⟩ : ∃ f, fuel2 = f + 1 := ⟨fuel2 - 1, by omega⟩
    have e : i = N := by omega
    subst e
    obtain ⟨x, x2, h1, h2, h3⟩ := hx s s2 hI
    refine ⟨x, x2, ?_, ?_, h3⟩
    · unfold ip_lp
      rw [h1]
    · unfold ip_lp
      rw [h2]
  | succ d ih =>
    intro i fuel fuel2 s s2 h hf hf2 hI
    obtain ⟨f, rfl⟩ : ∃ f, fuel = f + 1 := ⟨fuel - 1, by omega⟩
    obtain ⟨f2, rfl⟩ : ∃ f, fuel2 = f + 1 := ⟨fuel2 - 1, by omega⟩
    obtain ⟨t, t2, h1, h2, h3⟩ := hs i s s2 (by omega) hI
    obtain ⟨x, x2, h4, h5, h6⟩ := ih (i + 1) f f2 t t2 (by omega) (by omega) (by omega) h3
    refine ⟨x, x2, ?_, ?_, h6⟩
    · unfold ip_lp
      rw [h1]
      exact h4
    · unfold ip_lp
      rw [h2]
      exact h5
/-! reads and writes at a known place -/
theorem ip_ald_n {n : Nat} {f : Nat → Int32} {j : Nat} (h : j < n) (hn : n < 2 ^ 31) : ip_ald n f (nI j) = some (f j) := by
  unfold ip_ald
  rw [if_neg (nI_in h hn), nI_clamp (by omega)]
theorem ip_ast_n {n : Nat} {f : Nat → Int32} {j : Nat} {x : Int32} (h : j < n) (hn : n < 2 ^ 31) : ip_ast n f (nI j) x = some (upd f j x) := by
  unfold ip_ast
  rw [if_neg (nI_in h hn), nI_clamp (by omega)]
theorem e_lt {A B : Type} (x : A) (k : A → Option B) : ip_lt x k = k x := rfl
theorem e_b1 {A1 B : Type} (a1 : A1) (k : A1 → Option B) : ip_b1 (some a1) k = k a1 := rfl
theorem e_b2 {A1 A2 B : Type} (a1 : A1) (a2 : A2) (k : A1 → A2 → Option B) : ip_b2 (some (a1, a2)) k = k a1 a2 := rfl
theorem e_b3 {A1 A2 A3 B : Type} (a1 : A1) (a2 : A2) (a3 : A3) (k : A1 → A2 → A3 → Option B) : ip_b3 (some (a1, a2, a3)) k = k a1 a2 a3 := rfl
theorem e_b4 {A1 A2 A3 A4 B : Type} (a1 : A1) (a2 : A2) (a3 : A3) (a4 : A4) (k : A1 → A2 → A3 → A4 → Option B) : ip_b4 (some (a1, a2, a3, a4)) k = k a1 a2 a3 a4 := rfl
theorem e_b5 {A1 A2 A3 A4 A5 B : Type} (a1 : A1) (a2 : A2) (a3 : A3) (a4 : A4) (a5 : A5) (k : A1 → A2 → A3 → A4 → A5 → Option B) : ip_b5 (some (a1, a2, a3, a4, a5)) k = k a1 a2 a3 a4 a5 := rfl
theorem e_b6 {A1 A2 A3 A4 A5 A6 B : Type} (a1 : A1) (a2 : A2) (a3 : A3) (a4 : A4) (a5 : A5) (a6 : A6) (k : A1 → A2 → A3 → A4 → A5 → A6 → Option B) : ip_b6 (some (a1, a2, a3, a4, a5, a6)) k = k a1 a2 a3 a4 a5 a6 := rfl
theorem e_b7 {A1 A2 A3 A4 A5 A6 A7 B : Type} (a1 : A1) (a2 : A2) (a3 : A3) (a4 : A4) (a5 : A5) (a6 : A6) (a7 : A7) (k : A1 → A2 → A3 → A4 → A5 → A6 → A7 → Option B) : ip_b7 (some (a1, a2, a3, a4, a5, a6, a7)) k = k a1 a2 a3 a4 a5 a6 a7 := rfl
theorem e_b8 {A1 A2 A3 A4 A5 A6 A7 A8 B : Type} (a1 : A1) (a2 : A2) (a3 : A3) (a4 : A4) (a5 : A5) (a6 : A6) (a7 : A7) (a8 : A8) (k : A1 → A2 → A3 → A4 → A5 → A6 → A7 → A8 → Option B) : ip_b8 (some (a1, a2, a3, a4, a5, a6, a7, a8)) k = k a1 a2 a3 a4 a5 a6 a7 a8 := rfl
theorem e_b9 {A1 A2 A3 A4 A5 A6 A7 A8 A9 B : Type} (a1 : A1) (a2 : A2) (a3 : A3) (a4 : A4) (a5 : A5) (a6 : A6) (a7 : A7) (a8 : A8) (a9 : A9) (k : A1 → A2 → A3 → A4 → A5 → A6 → A7 → A8 → A9 → Option B) : ip_b9 (some (a1, a2, a3, a4, a5, a6, a7, a8, a9)) k = k a1 a2 a3 a4 a5 a6 a7 a8 a9 := rfl
theorem e_b10 {A1 A2 A3 A4 A5 A6 A7 A8 A9 A10 B : Type} (a1 : A1) (a2 : A2) (a3 : A3) (a4 : A4) (a5 : A5) (a6 : A6) (a7 : A7) (a8 : A8) (a9 : A9) (a10 : A10) (k : A1 → A2 → A3 → A4 → A5 → A6 → A7 → A8 → A9 → A10 → Option B) : ip_b10 (some (a1, a2, a3, a4, a5, a6, a7, a8, a9, a10)) k = k a1 a2 a3 a4 a5 a6 a7 a8 a9 a10 := rfl
theorem e_b11 {A1 A2 A3 A4 A5 A6 A7 A8 A9 A10 A11 B : Type} (a1 : A1) (a2 : A2) (a3 : A3) (a4 : A4) (a5 : A5) (a6 : A6) (a7 : A7) (a8 : A8) (a9 : A9) (a10 : A10) (a11 : A11) (k : A1 → A2 → A3 → A4 → A5 → A6 → A7 → A8 → A9 → A10 → A11 → Option B) : ip_b11 (some (a1, a2, a3, a4, a5, a6, a7, a8, a9, a10, a11)) k = k a1 a2 a3 a4 a5 a6 a7 a8 a9 a10 a11 := rfl
theorem e_b14 {A1 A2 A3 A4 A5 A6 A7 A8 A9 A10 A11 A12 A13 A14 B : Type} (a1 : A1) (a2 : A2) (a3 : A3) (a4 : A4) (a5 : A5) (a6 : A6) (a7 : A7) (a8 : A8) (a9 : A9) (a10 : A10) (a11 : A11) (a12 : A12) (a13 : A13) (a14 : A14) (k : A1 → A2 → A3 → A4 → A5 → A6 → A7 → A8 → A9 → A10 → A11 → A12 → A13 → A14 → Option B) : ip_b14 (some (a1, a2, a3, a4, a5, a6, a7, a8, a9, a10, a11, a12, a13, a14)) k = k a1 a2 a3 a4 a5 a6 a7 a8 a9 a10 a11 a12 a13 a14 := rfl
theorem e_b15 {A1 A2 A3 A4 A5 A6 A7 A8 A9 A10 A11 A12 A13 A14 A15 B : Type} (a1 : A1) (a2 : A2) (a3 : A3) (a4 : A4) (a5 : A5) (a6 : A6) (a7 : A7) (a8 : A8) (a9 : A9) (a10 : A10) (a11 : A11) (a12 : A12) (a13 : A13) (a14 : A14) (a15 : A15) (k : A1 → A2 → A3 → A4 → A5 → A6 → A7 → A8 → A9 → A10 → A11 → A12 → A13 → A14 → A15 → Option B) : ip_b15 (some (a1, a2, a3, a4, a5, a6, a7, a8, a9, a10, a11, a12, a13, a14, a15)) k = k a1 a2 a3 a4 a5 a6 a7 a8 a9 a10 a11 a12 a13 a14 a15 := rfl
theorem e_b16 {A1 A2 A3 A4 A5 A6 A7 A8 A9 A10 A11 A12 A13 A14 A15 A16 B : Type} (a1 : A1) (a2 : A2) (a3 : A3) (a4 : A4) (a5 : A5) (a6 : A6) (a7 : A7) (a8 : A8) (a9 : A9) (a10 : A10) (a11 : A11) (a12 : A12) (a13 : A13) (a14 : A14) (a15 : A15) (a16 : A16) (k : A1 → A2 → A3 → A4 → A5 → A6 → A7 → A8 → A9 → A10 → A11 → A12 → A13 → A14 → A15 → A16 → Option B) : ip_b16 (some (a1, a2, a3, a4, a5, a6, a7, a8, a9, a10, a11, a12, a13, a14, a15, a16)) k = k a1 a2 a3 a4 a5 a6 a7 a8 a9 a10 a11 a12 a13 a14 a15 a16 := rfl
theorem e_b25 {A1 A2 A3 A4 A5 A6 A7 A8 A9 A10 A11 A12 A13 A14 A15 A16 A17 A18 A19 A20 A21 A22 A23 A24 A25 B : Type} (a1 : A1) (a2 : A2) (a3 : A3) (a4 : A4) (a5 : A5) (a6 : A6) (a7 : A7) (a8 : A8) (a9 : A9) (a10 : A10) (a11 : A11) (a12 : A12) (a13 : A13) (a14 : A14) (a15 : A15) (a16 : A16) (a17 : A17) (a18 : A18) (a19 : A19) (a20 : A20) (a21 : A21) (a22 : A22) (a23 : A23) (a24 : A24) (a25 : A25) (k : A1 → A2 → A3 → A4 → A5 → A6 → A7 → A8 → A9 → A10 → A11 → A12 → A13 → A14 → A15 → A16 → A17 → A18 → A19 → A20 → A21 → A22 → A23 → A24 → A25 → Option B) : ip_b25 (some (a1, a2, a3, a4, a5, a6, a7, a8, a9, a10, a11, a12, a13, a14, a15, a16, a17, a18, a19, a20, a21, a22, a23, a24, a25)) k = k a1 a2 a3 a4 a5 a6 a7 a8 a9 a10 a11 a12 a13 a14 a15 a16 a17 a18 a19 a20 a21 a22 a23 a24 a25 := rfl
theorem e_b26 {A1 A2 A3 A4 A5 A6 A7 A8 A9 A10 A11 A12 A13 A14 A15 A16 A17 A18 A19 A20 A21 A22 A23 A24 A25 A26 B : Type} (a1 : A1) (a2 : A2) (a3 : A3) (a4 : A4) (a5 : A5) (a6 : A6) (a7 : A7) (a8 : A8) (a9 : A9) (a10 : A10) (a11 : A11) (a12 : A12) (a13 : A13) (a14 : A14) (a15 : A15) (a16 : A16) (a17 : A17) (a18 : A18) (a19 : A19) (a20 : A20) (a21 : A21) (a22 : A22) (a23 : A23) (a24 : A24) (a25 : A25) (a26 : A26) (k : A1 → A2 → A3 → A4 → A5 → A6 → A7 → A8 → A9 → A10 → A11 → A12 → A13 → A14 → A15 → A16 → A17 → A18 → A19 → A20 → A21 → A22 → A23 → A24 → A25 → A26 → Option B) : ip_b26 (some (a1, a2, a3, a4, a5, a6, a7, a8, a9, a10, a11, a12, a13, a14, a15, a16, a17, a18, a19, a20, a21, a22, a23, a24, a25, a26)) k = k a1 a2 a3 a4 a5 a6 a7 a8 a9 a10 a11 a12 a13 a14 a15 a16 a17 a18 a19 a20 a21 a22 a23 a24 a25 a26 := rfl
theorem e_b27 {A1 A2 A3 A4 A5 A6 A7 A8 A9 A10 A11 A12 A13 A14 A15 A16 A17 A18 A19 A20 A21 A22 A23 A24 A25 A26 A27 B : Type} (a1 : A1) (a2 : A2) (a3 : A3) (a4 : A4) (a5 : A5) (a6 : A6) (a7 : A7) (a8 : A8) (a9 : A9) (a10 : A10) (a11 : A11) (a12 : A12) (a13 : A13) (a14 : A14) (a15 : A15) (a16 : A16) (a17 : A17) (a18 : A18) (a19 : A19) (a20 : A20) (a21 : A21) (a22 : A22) (a23 : A23) (a24 : A24) (a25 : A25) (a26 : A26) (a27 : A27) (k : A1 → A2 → A3 → A4 → A5 → A6 → A7 → A8 → A9 → A10 → A11 → A12 → A13 → A14 → A15 → A16 → A17 → A18 → A19 → A20 → A21 → A22 → A23 → A24 → A25 → A26 → A27 → Option B) : ip_b27 (some (a1, a2, a3, a4, a5, a6, a7, a8, a9, a10, a11, a12, a13, a14, a15, a16, a17, a18, a19, a20, a21, a22, a23, a24, a25, a26, a27)) k = k a1 a2 a3 a4 a5 a6 a7 a8 a9 a10 a11 a12 a13 a14 a15 a16 a17 a18 a19 a20 a21 a22 a23 a24 a25 a26 a27 := rfl
theorem e_b28 {A1 A2 A3 A4 A5 A6 A7 A8 A9 A10 A11 A12 A13 A14 A15 A16 A17 A18 A19 A20 A21 A22 A23 A24 A25 A26 A27 A28 B : Type} (a1 : A1) (a2 : A2) (a3 : A3) (a4 : A4) (a5 : A5) (a6 : A6) (a7 : A7) (a8 : A8) (a9 : A9) (a10 : A10) (a11 : A11) (a12 : A12) (a13 : A13) (a14 : A14) (a15 : A15) (a16 : A16) (a17 : A17) (a18 : A18) (a19 : A19) (a20 : A20) (a21 : A21) (a22 : A22) (a23 : A23) (a24 : A24) (a25 : A25) (a26 : A26) (a27 : A27) (a28 : A28) (k : A1 → A2 → A3 → A4 → A5 → A6 → A7 → A8 → A9 → A10 → A11 → A12 → A13 → A14 → A15 → A16 → A17 → A18 → A19 → A20 → A21 → A22 → A23 → A24 → A25 → A26 → A27 → A28 → Option B) : ip_b28 (some (a1, a2, a3, a4, a5, a6, a7, a8, a9, a10, a11, a12, a13, a14, a15, a16, a17, a18, a19, a20, a21, a22, a23, a24, a25, a26, a27, a28)) k = k a1 a2 a3 a4 a5 a6 a7 a8 a9 a10 a11 a12 a13 a14 a15 a16 a17 a18 a19 a20 a21 a22 a23 a24 a25 a26 a27 a28 := rfl
theorem e_b34 {A1 A2 A3 A4 A5 A6 A7 A8 A9 A10 A11 A12 A13 A14 A15 A16 A17 A18 A19 A20 A21 A22 A23 A24 A25 A26 A27 A28 A29 A30 A31 A32 A33 A34 B : Type} (a1 : A1) (a2 : A2) (a3 : A3) (a4 : A4) (a5 : A5) (a6 : A6) (a7 : A7) (a8 : A8) (a9 : A9) (a10 : A10) (a11 : A11) (a12 : A12) (a13 : A13) (a14 : A14) (a15 : A15) (a16 : A16) (a17 : A17) (a18 : A18) (a19 : A19) (a20 : A20) (a21 : A21) (a22 : A22) (a23 : A23) (a24 : A24) (a25 : A25) (a26 : A26) (a27 : A27) (a28 : A28) (a29 : A29) (a30 : A30) (a31 : A31) (a32 : A32) (a33 : A33) (a34 : A34) (k : A1 → A2 → A3 → A4 → A5 → A6 → A7 → A8 → A9 → A10 → A11 → A12 → A13 → A14 → A15 → A16 → A17 → A18 → A19 → A20 → A21 → A22 → A23 → A24 → A25 → A26 → A27 → A28 → A29 → A30 → A31 → A32 → A33 → A34 → Option B) : ip_b34 (some (a1, a2, a3, a4, a5, a6, a7, a8, a9, a10, a11, a12, a13, a14, a15, a16, a17, a18, a19, a20, a21, a22, a23, a24, a25, a26, a27, a28, a29, a30, a31, a32, a33, a34)) k = k a1 a2 a3 a4 a5 a6 a7 a8 a9 a10 a11 a12 a13 a14 a15 a16 a17 a18 a19 a20 a21 a22 a23 a24 a25 a26 a27 a28 a29 a30 a31 a32 a33 a34 := rfl
theorem e_b38 {A1 A2 A3 A4 A5 A6 A7 A8 A9 A10 A11 A12 A13 A14 A15 A16 A17 A18 A19 A20 A21 A22 A23 A24 A25 A26 A27 A28 A29 A30 A31 A32 A33 A34 A35 A36 A37 A38 B : Type} (a1 : A1) (a2 : A2) (a3 : A3) (a4 : A4) (a5 : A5) (a6 : A6) (a7 : A7) (a8 : A8) (a9 : A9) (a10 : A10) (a11 : A11) (a12 : A12) (a13 : A13) (a14 : A14) (a15 : A15) (a16 : A16) (a17 : A17) (a18 : A18) (a19 : A19) (a20 : A20) (a21 : A21) (a22 : A22) (a23 : A23) (a24 : A24) (a25 : A25) (a26 : A26) (a27 : A27) (a28 : A28) (a29 : A29) (a30 : A30) (a31 : A31) (a32 : A32) (a33 : A33) (a34 : A34) (a35 : A35) (a36 : A36) (a37 : A37) (a38 : A38) (k : A1 → A2 → A3 → A4 → A5 → A6 → A7 → A8 → A9 → A10 → A11 → A12 → A13 → A14 → A15 → A16 → A17 → A18 → A19 → A20 → A21 → A22 → A23 → A24 → A25 → A26 → A27 → A28 → A29 → A30 → A31 → A32 → A33 → A34 → A35 → A36 → A37 → A38 → Option B) : ip_b38 (some (a1, a2, a3, a4, a5, a6, a7, a8, a9, a10, a11, a12, a13, a14, a15, a16, a17, a18, a19, a20, a21, a22, a23, a24, a25, a26, a27, a28, a29, a30, a31, a32, a33, a34, a35, a36, a37, a38)) k = k a1 a2 a3 a4 a5 a6 a7 a8 a9 a10 a11 a12 a13 a14 a15 a16 a17 a18 a19 a20 a21 a22 a23 a24 a25 a26 a27 a28 a29 a30 a31 a32 a33 a34 a35 a36 a37 a38 := rfl
theorem e_zk {B : Type} {v : Int32} (h : v = 0 ∨ v = 1) (k : Option B) : ip_zk v k = k := if_pos h
theorem e_ald (n : Nat) (f : Nat → Int32) (i : Int32) (j : Nat) (hi : i = nI j) (h : j < n) (hn : n < 2 ^ 31) : ip_ald n f i = some (f j) := by
  subst hi
  exact ip_ald_n h hn
theorem e_ast (n : Nat) (f : Nat → Int32) (i : Int32) (x : Int32) (j : Nat) (hi : i = nI j) (h : j < n) (hn : n < 2 ^ 31) : ip_ast n f i x = some (upd f j x) := by
  subst hi
  exact ip_ast_n h hn
