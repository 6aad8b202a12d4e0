/-! one turn of a loop -/
theorem l_in1 {A1 T : Type} {B : A1 → Option ((A1) ⊕ T)} {f : Nat} {a1 b1 : A1} (h : B a1 = some (.inl b1)) : ip_lp1 B (f + 1) a1 = ip_lp1 B f b1 := by
  unfold ip_lp1
  conv => lhs; unfold ip_lp
  simp only [h]
theorem l_ex1 {A1 T : Type} {B : A1 → Option ((A1) ⊕ T)} {f : Nat} {a1 : A1} {x : T} (h : B a1 = some (.inr x)) : ip_lp1 B (f + 1) a1 = some x := by
  unfold ip_lp1 ip_lp
  simp only [h]
theorem l_in2 {A1 A2 T : Type} {B : A1 → A2 → Option ((A1 × A2) ⊕ T)} {f : Nat} {a1 b1 : A1} {a2 b2 : A2} (h : B a1 a2 = some (.inl (b1, b2))) : ip_lp2 B (f + 1) a1 a2 = ip_lp2 B f b1 b2 := by
  unfold ip_lp2
  conv => lhs; unfold ip_lp
  simp only [h]
theorem l_ex2 {A1 A2 T : Type} {B : A1 → A2 → Option ((A1 × A2) ⊕ T)} {f : Nat} {a1 : A1} {a2 : A2} {x : T} (h : B a1 a2 = some (.inr x)) : ip_lp2 B (f + 1) a1 a2 = some x := by
  unfold ip_lp2 ip_lp
  simp only [h]
theorem l_in3 {A1 A2 A3 T : Type} {B : A1 → A2 → A3 → Option ((A1 × A2 × A3) ⊕ T)} {f : Nat} {a1 b1 : A1} {a2 b2 : A2} {a3 b3 : A3} (h : B a1 a2 a3 = some (.inl (b1, b2, b3))) : ip_lp3 B (f + 1) a1 a2 a3 = ip_lp3 B f b1 b2 b3 := by
  unfold ip_lp3
  conv => lhs; unfold ip_lp
  simp only [h]
theorem l_ex3 {A1 A2 A3 T : Type} {B : A1 → A2 → A3 → Option ((A1 × A2 × A3) ⊕ T)} {f : Nat} {a1 : A1} {a2 : A2} {a3 : A3} {x : T} (h : B a1 a2 a3 = some (.inr x)) : ip_lp3 B (f + 1) a1 a2 a3 = some x := by
  unfold ip_lp3 ip_lp
  simp only [h]
theorem l_in4 {A1 A2 A3 A4 T : Type} {B : A1 → A2 → A3 → A4 → Option ((A1 × A2 × A3 × A4) ⊕ T)} {f : Nat} {a1 b1 : A1} {a2 b2 : A2} {a3 b3 : A3} {a4 b4 : A4} (h : B a1 a2 a3 a4 = some (.inl (b1, b2, b3, b4))) : ip_lp4 B (f + 1) a1 a2 a3 a4 = ip_lp4 B f b1 b2 b3 b4 := by
  unfold ip_lp4
  conv => lhs; unfold ip_lp
  simp only [h]
theorem l_ex4 {A1 A2 A3 A4 T : Type} {B : A1 → A2 → A3 → A4 → Option ((A1 × A2 × A3 × A4) ⊕ T)} {f : Nat} {a1 : A1} {a2 : A2} {a3 : A3} {a4 : A4} {x : T} (h : B a1 a2 a3 a4 = some (.inr x)) : ip_lp4 B (f + 1) a1 a2 a3 a4 = some x := by
  unfold ip_lp4 ip_lp
  simp only [h]
theorem l_in5 {A1 A2 A3 A4 A5 T : Type} {B : A1 → A2 → A3 → A4 → A5 → Option ((A1 × A2 × A3 × A4 × A5) ⊕ T)} {f : Nat} {a1 b1 : A1} {a2 b2 : A2} {a3 b3 : A3} {a4 b4 : A4} {a5 b5 : A5} (h : B a1 a2 a3 a4 a5 = some (.inl (b1, b2, b3, b4, b5))) : ip_lp5 B (f + 1) a1 a2 a3 a4 a5 = ip_lp5 B f b1 b2 b3 b4 b5 := by
  unfold ip_lp5
  conv => lhs; unfold ip_lp
  simp only [h]
theorem l_ex5 {A1 A2 A3 A4 A5 T : Type} {B : A1 → A2 → A3 → A4 → A5 → Option ((A1 × A2 × A3 × A4 × A5) ⊕ T)} {f : Nat} {a1 : A1} {a2 : A2} {a3 : A3} {a4 : A4} {a5 : A5} {x : T} (h : B a1 a2 a3 a4 a5 = some (.inr x)) : ip_lp5 B (f + 1) a1 a2 a3 a4 a5 = some x := by
  unfold ip_lp5 ip_lp
  simp only [h]
theorem l_in8 {A1 A2 A3 A4 A5 A6 A7 A8 T : Type} {B : A1 → A2 → A3 → A4 → A5 → A6 → A7 → A8 → Option ((A1 × A2 × A3 × A4 × A5 × A6 × A7 × A8) ⊕ T)} {f : Nat} {a1 b1 : A1} {a2 b2 : A2} {a3 b3 : A3} {a4 b4 : A4} {a5 b5 : A5} {a6 b6 : A6} {a7 b7 : A7} {a8 b8 : A8} (h : B a1 a2 a3 a4 a5 a6 a7 a8 = some (.inl (b1, b2, b3, b4, b5, b6, b7, b8))) : ip_lp8 B (f + 1) a1 a2 a3 a4 a5 a6 a7 a8 = ip_lp8 B f b1 b2 b3 b4 b5 b6 b7 b8 := by
  unfold ip_lp8
  conv => lhs; unfold ip_lp
  simp only [h]
theorem l_ex8 {A1 A2 A3 A4 A5 A6 A7 A8 T : Type} {B : A1 → A2 → A3 → A4 → A5 → A6 → A7 → A8 → Option ((A1 × A2 × A3 × A4 × A5 × A6 × A7 × A8) ⊕ T)} {f : Nat} {a1 : A1} {a2 : A2} {a3 : A3} {a4 : A4} {a5 : A5} {a6 : A6} {a7 : A7} {a8 : A8} {x : T} (h : B a1 a2 a3 a4 a5 a6 a7 a8 = some (.inr x)) : ip_lp8 B (f + 1) a1 a2 a3 a4 a5 a6 a7 a8 = some x := by
  unfold ip_lp8 ip_lp
  simp only [h]
theorem l_in10 {A1 A2 A3 A4 A5 A6 A7 A8 A9 A10 T : Type} {B : A1 → A2 → A3 → A4 → A5 → A6 → A7 → A8 → A9 → A10 → Option ((A1 × A2 × A3 × A4 × A5 × A6 × A7 × A8 × A9 × A10) ⊕ T)} {f : Nat} {a1 b1 : A1} {a2 b2 : A2} {a3 b3 : A3} {a4 b4 : A4} {a5 b5 : A5} {a6 b6 : A6} {a7 b7 : A7} {a8 b8 : A8} {a9 b9 : A9} {a10 b10 : A10} (h : B a1 a2 a3 a4 a5 a6 a7 a8 a9 a10 = some (.inl (b1, b2, b3, b4, b5, b6, b7, b8, b9, b10))) : ip_lp10 B (f + 1) a1 a2 a3 a4 a5 a6 a7 a8 a9 a10 = ip_lp10 B f b1 b2 b3 b4 b5 b6 b7 b8 b9 b10 := by
  unfold ip_lp10
  conv => lhs; unfold ip_lp
  simp only [h]
theorem l_ex10 {A1 A2 A3 A4 A5 A6 A7 A8 A9 A10 T : Type} {B : A1 → A2 → A3 → A4 → A5 → A6 → A7 → A8 → A9 → A10 → Option ((A1 × A2 × A3 × A4 × A5 × A6 × A7 × A8 × A9 × A10) ⊕ T)} {f : Nat} {a1 : A1} {a2 : A2} {a3 : A3} {a4 : A4} {a5 : A5} {a6 : A6} {a7 : A7} {a8 : A8} {a9 : A9} {a10 : A10} {x : T} (h : B a1 a2 a3 a4 a5 a6 a7 a8 a9 a10 = some (.inr x)) : ip_lp10 B (f + 1) a1 a2 a3 a4 a5 a6 a7 a8 a9 a10 = some x := by
  unfold ip_lp10 ip_lp
  simp only [h]
theorem l_in11 {A1 A2 A3 A4 A5 A6 A7 A8 A9 A10 A11 T : Type} {B : A1 → A2 → A3 → A4 → A5 → A6 → A7 → A8 → A9 → A10 → A11 → Option ((A1 × A2 × A3 × A4 × A5 × A6 × A7 × A8 × A9 × A10 × A11) ⊕ T)} {f : Nat} {a1 b1 : A1} {a2 b2 : A2} {a3 b3 : A3} {a4 b4 : A4} {a5 b5 : A5} {a6 b6 : A6} {a7 b7 : A7} {a8 b8 : A8} {a9 b9 : A9} {a10 b10 : A10} {a11 b11 : A11} (h : B a1 a2 a3 a4 a5 a6 a7 a8 a9 a10 a11 = some (.inl (b1, b2, b3, b4, b5, b6, b7, b8, b9, b10, b11))) : ip_lp11 B (f + 1) a1 a2 a3 a4 a5 a6 a7 a8 a9 a10 a11 = ip_lp11 B f b1 b2 b3 b4 b5 b6 b7 b8 b9 b10 b11 := by
  unfold ip_lp11
  conv => lhs; unfold ip_lp
  simp only [h]
theorem l_ex11 {A1 A2 A3 A4 A5 A6 A7 A8 A9 A10 A11 T : Type} {B : A1 → A2 → A3 → A4 → A5 → A6 → A7 → A8 → A9 → A10 → A11 → Option ((A1 × A2 × A3 × A4 × A5 × A6 × A7 × A8 × A9 × A10 × A11) ⊕ T)} {f : Nat} {a1 : A1} {a2 : A2} {a3 : A3} {a4 : A4} {a5 : A5} {a6 : A6} {a7 : A7} {a8 : A8} {a9 : A9} {a10 : A10} {a11 : A11} {x : T} (h : B a1 a2 a3 a4 a5 a6 a7 a8 a9 a10 a11 = some (.inr x)) : ip_lp11 B (f + 1) a1 a2 a3 a4 a5 a6 a7 a8 a9 a10 a11 = some x := by
  unfold ip_lp11 ip_lp
  simp only [h]
theorem l_in15 {A1 A2 A3 A4 A5 A6 A7 A8 A9 A10 A11 A12 A13 A14 A15 T : Type} {B : A1 → A2 → A3 → A4 → A5 → A6 → A7 → A8 → A9 → A10 → A11 → A12 → A13 → A14 → A15 → Option ((A1 × A2 × A3 × A4 × A5 × A6 × A7 × A8 × A9 × A10 × A11 × A12 × A13 × A14 × A15) ⊕ T)} {f : Nat} {a1 b1 : A1} {a2 b2 : A2} {a3 b3 : A3} {a4 b4 : A4} {a5 b5 : A5} {a6 b6 : A6} {a7 b7 : A7} {a8 b8 : A8} {a9 b9 : A9} {a10 b10 : A10} {a11 b11 : A11} {a12 b12 : A12} {a13 b13 : A13} {a14 b14 : A14} {a15 b15 : A15} (h : B a1 a2 a3 a4 a5 a6 a7 a8 a9 a10 a11 a12 a13 a14 a15 = some (.inl (b1, b2, b3, b4, b5, b6, b7, b8, b9, b10, b11, b12, b13, b14, b15))) : ip_lp15 B (f + 1) a1 a2 a3 a4 a5 a6 a7 a8 a9 a10 a11 a12 a13 a14 a15 = ip_lp15 B f b1 b2 b3 b4 b5 b6 b7 b8 b9 b10 b11 b12 b13 b14 b15 := by
  unfold ip_lp15
  conv => lhs; unfold ip_lp
  simp only [h]
theorem l_ex15 {A1 A2 A3 A4 A5 A6 A7 A8 A9 A10 A11 A12 A13 A14 A15 T : Type} {B : A1 → A2 → A3 → A4 → A5 → A6 → A7 → A8 → A9 → A10 → A11 → A12 → A13 → A14 → A15 → Option ((A1 × A2 × A3 × A4 × A5 × A6 × A7 × A8 × A9 × A10 × A11 × A12 × A13 × A14 × A15) ⊕ T)} {f : Nat} {a1 : A1} {a2 : A2} {a3 : A3} {a4 : A4} {a5 : A5} {a6 : A6} {a7 : A7} {a8 : A8} {a9 : A9} {a10 : A10} {a11 : A11} {a12 : A12} {a13 : A13} {a14 : A14} {a15 : A15} {x : T} (h : B a1 a2 a3 a4 a5 a6 a7 a8 a9 a10 a11 a12 a13 a14 a15 = some (.inr x)) : ip_lp15 B (f + 1) a1 a2 a3 a4 a5 a6 a7 a8 a9 a10 a11 a12 a13 a14 a15 = some x := by
  unfold ip_lp15 ip_lp
  simp only [h]
theorem l_in16 {A1 A2 A3 A4 A5 A6 A7 A8 A9 A10 A11 A12 A13 A14 A15 A16 T : Type} {B : A1 → A2 → A3 → A4 → A5 → A6 → A7 → A8 → A9 → A10 → A11 → A12 → A13 → A14 → A15 → A16 → Option ((A1 × A2 × A3 × A4 × A5 × A6 × A7 × A8 × A9 × A10 × A11 × A12 × A13 × A14 × A15 × A16) ⊕ T)} {f : Nat} {a1 b1 : A1} {a2 b2 : A2} {a3 b3 : A3} {a4 b4 : A4} {a5 b5 : A5} {a6 b6 : A6} {a7 b7 : A7} {a8 b8 : A8} {a9 b9 : A9} {a10 b10 : A10} {a11 b11 : A11} {a12 b12 : A12} {a13 b13 : A13} {a14 b14 : A14} {a15 b15 : A15} {a16 b16 : A16} (h : B a1 a2 a3 a4 a5 a6 a7 a8 a9 a10 a11 a12 a13 a14 a15 a16 = some (.inl (b1, b2, b3, b4, b5, b6, b7, b8, b9, b10, b11, b12, b13, b14, b15, b16))) : ip_lp16 B (f + 1) a1 a2 a3 a4 a5 a6 a7 a8 a9 a10 a11 a12 a13 a14 a15 a16 = ip_lp16 B f b1 b2 b3 b4 b5 b6 b7 b8 b9 b10 b11 b12 b13 b14 b15 b16 := by
  unfold ip_lp16
  conv => lhs; unfold ip_lp
  simp only [h]
theorem l_ex16 {A1 A2 A3 A4 A5 A6 A7 A8 A9 A10 A11 A12 A13 A14 A15 A16 T : Type} {B : A1 → A2 → A3 → A4 → A5 → A6 → A7 → A8 → A9 → A10 → A11 → A12 → A13 → A14 → A15 → A16 → Option ((A1 × A2 × A3 × A4 × A5 × A6 × A7 × A8 × A9 × A10 × A11 × A12 × A13 × A14 × A15 × A16) ⊕ T)} {f : Nat} {a1 : A1} {a2 : A2} {a3 : A3} {a4 : A4} {a5 : A5} {a6 : A6} {a7 : A7} {a8 : A8} {a9 : A9} {a10 : A10} {a11 : A11} {a12 : A12} {a13 : A13} {a14 : A14} {a15 : A15} {a16 : A16} {x : T} (h : B a1 a2 a3 a4 a5 a6 a7 a8 a9 a10 a11 a12 a13 a14 a15 a16 = some (.inr x)) : ip_lp16 B (f + 1) a1 a2 a3 a4 a5 a6 a7 a8 a9 a10 a11 a12 a13 a14 a15 a16 = some x := by
  unfold ip_lp16 ip_lp
  simp only [h]
theorem l_in26 {A1 A2 A3 A4 A5 A6 A7 A8 A9 A10 A11 A12 A13 A14 A15 A16 A17 A18 A19 A20 A21 A22 A23 A24 A25 A26 T : Type} {B : A1 → A2 → A3 → A4 → A5 → A6 → A7 → A8 → A9 → A10 → A11 → A12 → A13 → A14 → A15 → A16 → A17 → A18 → A19 → A20 → A21 → A22 → A23 → A24 → A25 → A26 → Option ((A1 × A2 × A3 × A4 × A5 × A6 × A7 × A8 × A9 × A10 × A11 × A12 × A13 × A14 × A15 × A16 × A17 × A18 × A19 × A20 × A21 × A22 × A23 × A24 × A25 × A26) ⊕ T)} {f : Nat} {a1 b1 : A1} {a2 b2 : A2} {a3 b3 : A3} {a4 b4 : A4} {a5 b5 : A5} {a6 b6 : A6} {a7 b7 : A7} {a8 b8 : A8} {a9 b9 : A9} {a10 b10 : A10} {a11 b11 : A11} {a12 b12 : A12} {a13 b13 : A13} {a14 b14 : A14} {a15 b15 : A15} {a16 b16 : A16} {a17 b17 : A17} {a18 b18 : A18} {a19 b19 : A19} {a20 b20 : A20} {a21 b21 : A21} {a22 b22 : A22} {a23 b23 : A23} {a24 b24 : A24} {a25 b25 : A25} {a26 b26 : A26} (h : B a1 a2 a3 a4 a5 a6 a7 a8 a9 a10 a11 a12 a13 a14 a15 a16 a17 a18 a19 a20 a21 a22 a23 a24 a25 a26 = some (.inl (b1, b2, b3, b4, b5, b6, b7, b8, b9, b10, b11, b12, b13, b14, b15, b16, b17, b18, b19, b20, b21, b22, b23, b24, b25, b26))) : ip_lp26 B (f + 1) a1 a2 a3 a4 a5 a6 a7 a8 a9 a10 a11 a12 a13 a14 a15 a16 a17 a18 a19 a20 a21 a22 a23 a24 a25 a26 = ip_lp26 B f b1 b2 b3 b4 b5 b6 b7 b8 b9 b10 b11 b12 b13 b14 b15 b16 b17 b18 b19 b20 b21 b22 b23 b24 b25 b26 := by
  unfold ip_lp26
  conv => lhs; unfold ip_lp
  simp only [h]
theorem l_ex26 {A1 A2 A3 A4 A5 A6 A7 A8 A9 A10 A11 A12 A13 A14 A15 A16 A17 A18 A19 A20 A21 A22 A23 A24 A25 A26 T : Type} {B : A1 → A2 → A3 → A4 → A5 → A6 → A7 → A8 → A9 → A10 → A11 → A12 → A13 → A14 → A15 → A16 → A17 → A18 → A19 → A20 → A21 → A22 → A23 → A24 → A25 → A26 → Option ((A1 × A2 × A3 × A4 × A5 × A6 × A7 × A8 × A9 × A10 × A11 × A12 × A13 × A14 × A15 × A16 × A17 × A18 × A19 × A20 × A21 × A22 × A23 × A24 × A25 × A26) ⊕ T)} {f : Nat} {a1 : A1} {a2 : A2} {a3 : A3} {a4 : A4} {a5 : A5} {a6 : A6} {a7 : A7} {a8 : A8} {a9 : A9} {a10 : A10} {a11 : A11} {a12 : A12} {a13 : A13} {a14 : A14} {a15 : A15} {a16 : A16} {a17 : A17} {a18 : A18} {a19 : A19} {a20 : A20} {a21 : A21} {a22 : A22} {a23 : A23} {a24 : A24} {a25 : A25} {a26 : A26} {x : T} (h : B a1 a2 a3 a4 a5 a6 a7 a8 a9 a10 a11 a12 a13 a14 a15 a16 a17 a18 a19 a20 a21 a22 a23 a24 a25 a26 = some (.inr x)) : ip_lp26 B (f + 1) a1 a2 a3 a4 a5 a6 a7 a8 a9 a10 a11 a12 a13 a14 a15 a16 a17 a18 a19 a20 a21 a22 a23 a24 a25 a26 = some x := by
  unfold ip_lp26 ip_lp
  simp only [h]
theorem l_in27 {A1 A2 A3 A4 A5 A6 A7 A8 A9 A10 A11 A12 A13 A14 A15 A16 A17 A18 A19 A20 A21 A22 A23 A24 A25 A26 A27 T : Type} {B : A1 → A2 → A3 → A4 → A5 → A6 → A7 → A8 → A9 → A10 → A11 → A12 → A13 → A14 → A15 → A16 → A17 → A18 → A19 → A20 → A21 → A22 → A23 → A24 → A25 → A26 → A27 → Option ((A1 × A2 × A3 × A4 × A5 × A6 × A7 × A8 × A9 × A10 × A11 × A12 × A13 × A14 × A15 × A16 × A17 × A18 × A19 × A20 × A21 × A22 × A23 × A24 × A25 × A26 × A27) ⊕ T)} {f : Nat} {a1 b1 : A1} {a2 b2 : A2} {a3 b3 : A3} {a4 b4 : A4} {a5 b5 : A5} {a6 b6 : A6} {a7 b7 : A7} {a8 b8 : A8} {a9 b9 : A9} {a10 b10 : A10} {a11 b11 : A11} {a12 b12 : A12} {a13 b13 : A13} {a14 b14 : A14} {a15 b15 : A15} {a16 b16 : A16} {a17 b17 : A17} {a18 b18 : A18} {a19 b19 : A19} {a20 b20 : A20} {a21 b21 : A21} {a22 b22 : A22} {a23 b23 : A23} {a24 b24 : A24} {a25 b25 : A25} {a26 b26 : A26} {a27 b27 : A27} (h : B a1 a2 a3 a4 a5 a6 a7 a8 a9 a10 a11 a12 a13 a14 a15 a16 a17 a18 a19 a20 a21 a22 a23 a24 a25 a26 a27 = some (.inl (b1, b2, b3, b4, b5, b6, b7, b8, b9, b10, b11, b12, b13, b14, b15, b16, b17, b18, b19, b20, b21, b22, b23, b24, b25, b26, b27))) : ip_lp27 B (f + 1) a1 a2 a3 a4 a5 a6 a7 a8 a9 a10 a11 a12 a13 a14 a15 a16 a17 a18 a19 a20 a21 a22 a23 a24 a25 a26 a27 = ip_lp27 B f b1 b2 b3 b4 b5 b6 b7 b8 b9 b10 b11 b12 b13 b14 b15 b16 b17 b18 b19 b20 b21 b22 b23 b24 b25 b26 b27 := by
  unfold ip_lp27
  conv => lhs; unfold ip_lp
  simp only [h]
theorem l_ex27 {A1 A2 A3 A4 A5 A6 A7 A8 A9 A10 A11 A12 A13 A14 A15 A16 A17 A18 A19 A20 A21 A22 A23 A24 A25 A26 A27 T : Type} {B : A1 → A2 → A3 → A4 → A5 → A6 → A7 → A8 → A9 → A10 → A11 → A12 → A13 → A14 → A15 → A16 → A17 → A18 → A19 → A20 → A21 → A22 → A23 → A24 → A25 → A26 → A27 → Option ((A1 × A2 × A3 × A4 × A5 × A6 × A7 × A8 × A9 × A10 × A11 × A12 × A13 × A14 × A15 × A16 × A17 × A18 × A19 × A20 × A21 × A22 × A23 × A24 × A25 × A26 × A27) ⊕ T)} {f : Nat} {a1 : A1} {a2 : A2} {a3 : A3} {a4 : A4} {a5 : A5} {a6 : A6} {a7 : A7} {a8 : A8} {a9 : A9} {a10 : A10} {a11 : A11} {a12 : A12} {a13 : A13} {a14 : A14} {a15 : A15} {a16 : A16} {a17 : A17} {a18 : A18} {a19 : A19} {a20 : A20} {a21 : A21} {a22 : A22} {a23 : A23} {a24 : A24} {a25 : A25} {a26 : A26} {a27 : A27} {x : T} (h : B a1 a2 a3 a4 a5 a6 a7 a8 a9 a10 a11 a12 a13 a14 a15 a16 a17 a18 a19 a20 a21 a22 a23 a24 a25 a26 a27 = some (.inr x)) : ip_lp27 B (f + 1) a1 a2 a3 a4 a5 a6 a7 a8 a9 a10 a11 a12 a13 a14 a15 a16 a17 a18 a19 a20 a21 a22 a23 a24 a25 a26 a27 = some x := by
  unfold ip_lp27 ip_lp
  simp only [h]
theorem l_in28 {A1 A2 A3 A4 A5 A6 A7 A8 A9 A10 A11 A12 A13 A14 A15 A16 A17 A18 A19 A20 A21 A22 A23 A24 A25 A26 A27 A28 T : Type} {B : A1 → A2 → A3 → A4 → A5 → A6 → A7 → A8 → A9 → A10 → A11 → A12 → A13 → A14 → A15 → A16 → A17 → A18 → A19 → A20 → A21 → A22 → A23 → A24 → A25 → A26 → A27 → A28 → Option ((A1 × A2 × A3 × A4 × A5 × A6 × A7 × A8 × A9 × A10 × A11 × A12 × A13 × A14 × A15 × A16 × A17 × A18 × A19 × A20 × A21 × A22 × A23 × A24 × A25 × A26 × A27 × A28) ⊕ T)} {f : Nat} {a1 b1 : A1} {a2 b2 : A2} {a3 b3 : A3} {a4 b4 : A4} {a5 b5 : A5} {a6 b6 : A6} {a7 b7 : A7} {a8 b8 : A8} {a9 b9 : A9} {a10 b10 : A10} {a11 b11 : A11} {a12 b12 : A12} {a13 b13 : A13} {a14 b14 : A14} {a15 b15 : A15} {a16 b16 : A16} {a17 b17 : A17} {a18 b18 : A18} {a19 b19 : A19} {a20 b20 : A20} {a21 b21 : A21} {a22 b22 : A22} {a23 b23 : A23} {a24 b24 : A24} {a25 b25 : A25} {a26 b26 : A26} {a27 b27 : A27} {a28 b28 : A28} (h : B a1 a2 a3 a4 a5 a6 a7 a8 a9 a10 a11 a12 a13 a14 a15 a16 a17 a18 a19 a20 a21 a22 a23 a24 a25 a26 a27 a28 = some (.inl (b1, b2, b3, b4, b5, b6, b7, b8, b9, b10, b11, b12, b13, b14, b15, b16, b17, b18, b19, b20, b21, b22, b23, b24, b25, b26, b27, b28))) : ip_lp28 B (f + 1) a1 a2 a3 a4 a5 a6 a7 a8 a9 a10 a11 a12 a13 a14 a15 a16 a17 a18 a19 a20 a21 a22 a23 a24 a25 a26 a27 a28 = ip_lp28 B f b1 b2 b3 b4 b5 b6 b7 b8 b9 b10 b11 b12 b13 b14 b15 b16 b17 b18 b19 b20 b21 b22 b23 b24 b25 b26 b27 b28 := by
  unfold ip_lp28
  conv => lhs; unfold ip_lp
  simp only [h]
theorem l_ex28 {A1 A2 A3 A4 A5 A6 A7 A8 A9 A10 A11 A12 A13 A14 A15 A16 A17 A18 A19 A20 A21 A22 A23 A24 A25 A26 A27 A28 T : Type} {B : A1 → A2 → A3 → A4 → A5 → A6 → A7 → A8 → A9 → A10 → A11 → A12 → A13 → A14 → A15 → A16 → A17 → A18 → A19 → A20 → A21 → A22 → A23 → A24 → A25 → A26 → A27 → A28 → Option ((A1 × A2 × A3 × A4 × A5 × A6 × A7 × A8 × A9 × A10 × A11 × A12 × A13 × A14 × A15 × A16 × A17 × A18 × A19 × A20 × A21 × A22 × A23 × A24 × A25 × A26 × A27 × A28) ⊕ T)} {f : Nat} {a1 : A1} {a2 : A2} {a3 : A3} {a4 : A4} {a5 : A5} {a6 : A6} {a7 : A7} {a8 : A8} {a9 : A9} {a10 : A10} {a11 : A11} {a12 : A12} {a13 : A13} {a14 : A14} {a15 : A15} {a16 : A16} {a17 : A17} {a18 : A18} {a19 : A19} {a20 : A20} {a21 : A21} {a22 : A22} {a23 : A23} {a24 : A24} {a25 : A25} {a26 : A26} {a27 : A27} {a28 : A28} {x : T} (h : B a1 a2 a3 a4 a5 a6 a7 a8 a9 a10 a11 a12 a13 a14 a15 a16 a17 a18 a19 a20 a21 a22 a23 a24 a25 a26 a27 a28 = some (.inr x)) : ip_lp28 B (f + 1) a1 a2 a3 a4 a5 a6 a7 a8 a9 a10 a11 a12 a13 a14 a15 a16 a17 a18 a19 a20 a21 a22 a23 a24 a25 a26 a27 a28 = some x := by
  unfold ip_lp28 ip_lp
  simp only [h]
theorem l_in38 {A1 A2 A3 A4 A5 A6 A7 A8 A9 A10 A11 A12 A13 A14 A15 A16 A17 A18 A19 A20 A21 A22 A23 A24 A25 A26 A27 A28 A29 A30 A31 A32 A33 A34 A35 A36 A37 A38 T : Type} {B : A1 → A2 → A3 → A4 → A5 → A6 → A7 → A8 → A9 → A10 → A11 → A12 → A13 → A14 → A15 → A16 → A17 → A18 → A19 → A20 → A21 → A22 → A23 → A24 → A25 → A26 → A27 → A28 → A29 → A30 → A31 → A32 → A33 → A34 → A35 → A36 → A37 → A38 → Option ((A1 × A2 × A3 × A4 × A5 × A6 × A7 × A8 × A9 × A10 × A11 × A12 × A13 × A14 × A15 × A16 × A17 × A18 × A19 × A20 × A21 × A22 × A23 × A24 × A25 × A26 × A27 × A28 × A29 × A30 × A31 × A32 × A33 × A34 × A35 × A36 × A37 × A38) ⊕ T)} {f : Nat} {a1 b1 : A1} {a2 b2 : A2} {a3 b3 : A3} {a4 b4 : A4} {a5 b5 : A5} {a6 b6 : A6} {a7 b7 : A7} {a8 b8 : A8} {a9 b9 : A9} {a10 b10 : A10} {a11 b11 : A11} {a12 b12 : A12} {a13 b13 : A13} {a14 b14 : A14} {a15 b15 : A15} {a16 b16 : A16} {a17 b17 : A17} {a18 b18 : A18} {a19 b19 : A19} {a20 b20 : A20} {a21 b21 : A21} {a22 b22 : A22} {a23 b23 : A23} {a24 b24 : A24} {a25 b25 : A25} {a26 b26 : A26} {a27 b27 : A27} {a28 b28 : A28} {a29 b29 : A29} {a30 b30 : A30} {a31 b31 : A31} {a32 b32 : A32} {a33 b33 : A33} {a34 b34 : A34} {a35 b35 : A35} {a36 b36 : A36} {a37 b37 : A37} {a38 b38 : A38} (h : B a1 a2 a3 a4 a5 a6 a7 a8 a9 a10 a11 a12 a13 a14 a15 a16 a17 a18 a19 a20 a21 a22 a23 a24 a25 a26 a27 a28 a29 a30 a31 a32 a33 a34 a35 a36 a37 a38 = some (.inl (b1, b2, b3, b4, b5, b6, b7, b8, b9, b10, b11, b12, b13, b14, b15, b16, b17, b18, b19, b20, b21, b22, b23, b24, b25, b26, b27, b28, b29, b30, b31, b32, b33, b34, b35, b36, b37, b38))) : ip_lp38 B (f + 1) a1 a2 a3 a4 a5 a6 a7 a8 a9 a10 a11 a12 a13 a14 a15 a16 a17 a18 a19 a20 a21 a22 a23 a24 a25 a26 a27 a28 a29 a30 a31 a32 a33 a34 a35 a36 a37 a38 = ip_lp38 B f b1 b2 b3 b4 b5 b6 b7 b8 b9 b10 b11 b12 b13 b14 b15 b16 b17 b18 b19 b20 b21 b22 b23 b24 b25 b26 b27 b28 b29 b30 b31 b32 b33 b34 b35 b36 b37 b38 := by
  unfold ip_lp38
  conv => lhs; unfold ip_lp
  simp only [h]
theorem l_ex38 {A1 A2 A3 A4 A5 A6 A7 A8 A9 A10 A11 A12 A13 A14 A15 A16 A17 A18 A19 A20 A21 A22 A23 A24 A25 A26 A27 A28 A29 A30 A31 A32 A33 A34 A35 A36 A37 A38 T : Type} {B : A1 → A2 → A3 → A4 → A5 → A6 → A7 → A8 → A9 → A10 → A11 → A12 → A13 → A14 → A15 → A16 → A17 → A18 → A19 → A20 → A21 → A22 → A23 → A24 → A25 → A26 → A27 → A28 → A29 → A30 → A31 → A32 → A33 → A34 → A35 → A36 → A37 → A38 → Option ((A1 × A2 × A3 × A4 × A5 × A6 × A7 × A8 × A9 × A10 × A11 × A12 × A13 × A14 × A15 × A16 × A17 × A18 × A19 × A20 × A21 × A22 × A23 × A24 × A25 × A26 × A27 × A28 × A29 × A30 × A31 × A32 × A33 × A34 × A35 × A36 × A37 × A38) ⊕ T)} {f : Nat} {a1 : A1} {a2 : A2} {a3 : A3} {a4 : A4} {a5 : A5} {a6 : A6} {a7 : A7} {a8 : A8} {a9 : A9} {a10 : A10} {a11 : A11} {a12 : A12} {a13 : A13} {a14 : A14} {a15 : A15} {a16 : A16} {a17 : A17} {a18 : A18} {a19 : A19} {a20 : A20} {a21 : A21} {a22 : A22} {a23 : A23} {a24 : A24} {a25 : A25} {a26 : A26} {a27 : A27} {a28 : A28} {a29 : A29} {a30 : A30} {a31 : A31} {a32 : A32} {a33 : A33} {a34 : A34} {a35 : A35} {a36 : A36} {a37 : A37} {a38 : A38} {x : T} (h : B a1 a2 a3 a4 a5 a6 a7 a8 a9 a10 a11 a12 a13 a14 a15 a16 a17 a18 a19 a20 a21 a22 a23 a24 a25 a26 a27 a28 a29 a30 a31 a32 a33 a34 a35 a36 a37 a38 = some (.inr x)) : ip_lp38 B (f + 1) a1 a2 a3 a4 a5 a6 a7 a8 a9 a10 a11 a12 a13 a14 a15 a16 a17 a18 a19 a20 a21 a22 a23 a24 a25 a26 a27 a28 a29 a30 a31 a32 a33 a34 a35 a36 a37 a38 = some x := by
  unfold ip_lp38 ip_lp
  simp only [h]
