def tb_order : Nat → Int32 := fun j => ([0, 4, 1, 8, 5, 2, 12, 9, 6, 3, 13, 10, 7, 14, 11, 15] : List Int32).getD j 0
def tb_scales : Nat → Int32 := fun j => ([40, 45, 51, 57, 64, 72] : List Int32).getD j 0
def tb_four : Nat → Int32 := fun j => ([29, 55, 74, 84, 74, 74, 0, -74, 84, -29, -74, 55, 55, -84, 74, -29] : List Int32).getD j 0
def tb_wave : Nat → Int32 := fun j => ([91, 89, 83, 75, 64, 50, 36, 18, 0, -18, -36, -50, -64, -75, -83, -89, -91, -89, -83, -75, -64, -50, -36, -18, 0, 18, 36, 50, 64, 75, 83, 89] : List Int32).getD j 0
def ip_TS (t0 t1 t2 t3 : Nat) : ip_TT := [("IntraPicture$LevelReader", "ORDER", t0, 16, tb_order), ("IntraPicture$Residuals", "SCALES", t1, 6, tb_scales), ("IntraPicture$Residuals", "MATRIX_4", t2, 16, tb_four), ("IntraPicture$Residuals", "WAVE", t3, 32, tb_wave)]
abbrev rmAR_fill3 : Room := { frames := 0, cells := 0, slots := 0, locals := 0 }
abbrev wAR_fill3 (ad : Nat → Nat) (cI : ClassId) (bF3 : Nat) (v_bF3 : Nat → Int32) : va_W := [(bF3, .inl (cI, 3, .inl v_bF3))]
def fAR_fill3_B5 (p2 : Int32) (z1 : Int32) (g2 : Nat → Int32) : Option ((Int32 × (Nat → Int32)) ⊕ (Int32 × (Nat → Int32))) :=
(if (3 : Int32) ≤ z1 then
(some (.inr (z1, g2)))
else
(ip_b1 (ip_ast 3 g2 z1 p2) (fun g5 =>
ip_lt (z1 + (1 : Int32)) (fun z6 =>
some (.inl (z6, g5))))))
def fAR_fill3 (v_bF3 : Nat → Int32) (p2 : Int32) : Option ((Nat → Int32)) :=
ip_b2 (ip_lp2 (fAR_fill3_B5 p2) 1000 (0 : Int32) v_bF3) (fun x3 y4 =>
some y4)
abbrev rmAR_fill10 : Room := { frames := 0, cells := 0, slots := 0, locals := 0 }
abbrev wAR_fill10 (ad : Nat → Nat) (cI : ClassId) (bF10 : Nat) (v_bF10 : Nat → Int32) : va_W := [(bF10, .inl (cI, 10, .inl v_bF10))]
def fAR_fill10_B5 (p2 : Int32) (z1 : Int32) (g2 : Nat → Int32) : Option ((Int32 × (Nat → Int32)) ⊕ (Int32 × (Nat → Int32))) :=
(if (10 : Int32) ≤ z1 then
(some (.inr (z1, g2)))
else
(ip_b1 (ip_ast 10 g2 z1 p2) (fun g5 =>
ip_lt (z1 + (1 : Int32)) (fun z6 =>
some (.inl (z6, g5))))))
def fAR_fill10 (v_bF10 : Nat → Int32) (p2 : Int32) : Option ((Nat → Int32)) :=
ip_b2 (ip_lp2 (fAR_fill10_B5 p2) 1000 (0 : Int32) v_bF10) (fun x3 y4 =>
some y4)
abbrev rmAR_fill14 : Room := { frames := 0, cells := 0, slots := 0, locals := 0 }
abbrev wAR_fill14 (ad : Nat → Nat) (cI : ClassId) (bF14 : Nat) (v_bF14 : Nat → Int32) : va_W := [(bF14, .inl (cI, 14, .inl v_bF14))]
def fAR_fill14_B5 (p2 : Int32) (z1 : Int32) (g2 : Nat → Int32) : Option ((Int32 × (Nat → Int32)) ⊕ (Int32 × (Nat → Int32))) :=
(if (14 : Int32) ≤ z1 then
(some (.inr (z1, g2)))
else
(ip_b1 (ip_ast 14 g2 z1 p2) (fun g5 =>
ip_lt (z1 + (1 : Int32)) (fun z6 =>
some (.inl (z6, g5))))))
def fAR_fill14 (v_bF14 : Nat → Int32) (p2 : Int32) : Option ((Nat → Int32)) :=
ip_b2 (ip_lp2 (fAR_fill14_B5 p2) 1000 (0 : Int32) v_bF14) (fun x3 y4 =>
some y4)
abbrev rmAR_fill16 : Room := { frames := 0, cells := 0, slots := 0, locals := 0 }
abbrev wAR_fill16 (ad : Nat → Nat) (cI : ClassId) (bF16 : Nat) (v_bF16 : Nat → Int32) : va_W := [(bF16, .inl (cI, 16, .inl v_bF16))]
def fAR_fill16_B5 (p2 : Int32) (z1 : Int32) (g2 : Nat → Int32) : Option ((Int32 × (Nat → Int32)) ⊕ (Int32 × (Nat → Int32))) :=
(if (16 : Int32) ≤ z1 then
(some (.inr (z1, g2)))
else
(ip_b1 (ip_ast 16 g2 z1 p2) (fun g5 =>
ip_lt (z1 + (1 : Int32)) (fun z6 =>
some (.inl (z6, g5))))))
def fAR_fill16 (v_bF16 : Nat → Int32) (p2 : Int32) : Option ((Nat → Int32)) :=
ip_b2 (ip_lp2 (fAR_fill16_B5 p2) 1000 (0 : Int32) v_bF16) (fun x3 y4 =>
some y4)
abbrev rmAR_fill256 : Room := { frames := 0, cells := 0, slots := 0, locals := 0 }
abbrev wAR_fill256 (ad : Nat → Nat) (cI : ClassId) (bF256 : Nat) (v_bF256 : Nat → Int32) : va_W := [(bF256, .inl (cI, 256, .inl v_bF256))]
def fAR_fill256_B5 (p2 : Int32) (z1 : Int32) (g2 : Nat → Int32) : Option ((Int32 × (Nat → Int32)) ⊕ (Int32 × (Nat → Int32))) :=
(if (256 : Int32) ≤ z1 then
(some (.inr (z1, g2)))
else
(ip_b1 (ip_ast 256 g2 z1 p2) (fun g5 =>
ip_lt (z1 + (1 : Int32)) (fun z6 =>
some (.inl (z6, g5))))))
def fAR_fill256 (v_bF256 : Nat → Int32) (p2 : Int32) : Option ((Nat → Int32)) :=
ip_b2 (ip_lp2 (fAR_fill256_B5 p2) 1000 (0 : Int32) v_bF256) (fun x3 y4 =>
some y4)
abbrev rmJI_compare : Room := { frames := 0, cells := 0, slots := 0, locals := 0 }
abbrev wJI_compare (ad : Nat → Nat) (cI : ClassId)  : va_W := []
def fJI_compare  (p1 : Int32) (p2 : Int32) : Option (Int32) :=
(if p2 ≤ p1 then
(if p1 = p2 then
(some (0 : Int32))
else
(some (1 : Int32)))
else
(some (-1 : Int32)))
abbrev rmFB_append : Room := { frames := 0, cells := 0, slots := 0, locals := 0 }
abbrev wFB_append (ad : Nat → Nat) (cI : ClassId) (v_FB_count : Int32) (v_FB_chosenLength : Int32) (v_aBytes : Nat → Int32) : va_W := [(ad 1, .inr (1, [.ref (ad 12), .ref (ad 13), .int v_FB_count, .int v_FB_chosenLength])), (ad 12, .inl (cI, 240, .inl v_aBytes))]
def fFB_append_B28 (v_FB_count : Int32) (p1 : Int64) (p2 : Int32) (z1 : Int32) (g2 : Nat → Int32) : Option ((Int32 × (Nat → Int32)) ⊕ (Int32 × (Nat → Int32))) :=
(if p2 ≤ z1 then
(some (.inr (z1, g2)))
else
(ip_b1 (ip_ast 240 g2 (v_FB_count + z1) (((p1.toUInt64 >>> (((8 : Int32) * z1).toInt64.toUInt64 &&& Int64.toUInt64 63)).toInt64).toInt32 &&& (255 : Int32))) (fun g5 =>
ip_lt (z1 + (1 : Int32)) (fun z6 =>
some (.inl (z6, g5))))))
def fFB_append (v_FB_count : Int32) (v_FB_chosenLength : Int32) (v_aBytes : Nat → Int32) (p1 : Int64) (p2 : Int32) : Option (Int32 × Int32 × (Nat → Int32)) :=
(if p2 < (1 : Int32) then
(some ((0 : Int32), v_FB_count, v_aBytes))
else
(if (8 : Int32) < p2 then
(some ((0 : Int32), v_FB_count, v_aBytes))
else
(if (v_FB_count + p2) ≤ (240 : Int32) then
(ip_b2 (ip_lp2 (fFB_append_B28 v_FB_count p1 p2) 1000 (0 : Int32) v_aBytes) (fun x3 y4 =>
ip_lt (v_FB_count + p2) (fun z7 =>
some ((1 : Int32), z7, y4))))
else
(some ((0 : Int32), v_FB_count, v_aBytes)))))
abbrev rmIP_feed : Room := { frames := 1, cells := 0, slots := 0, locals := 24 }
abbrev wIP_feed (ad : Nat → Nat) (cI : ClassId) (v_IP_pictureStands : Int32) (v_FB_count : Int32) (v_FB_chosenLength : Int32) (v_aBytes : Nat → Int32) : va_W := [(ad 0, .inr (0, [.ref (ad 1), .ref (ad 2), .ref (ad 3), .ref (ad 4), .ref (ad 6), .ref (ad 7), .int v_IP_pictureStands])), (ad 1, .inr (1, [.ref (ad 12), .ref (ad 13), .int v_FB_count, .int v_FB_chosenLength])), (ad 12, .inl (cI, 240, .inl v_aBytes))]
def fIP_feed (v_IP_pictureStands : Int32) (v_FB_count : Int32) (v_FB_chosenLength : Int32) (v_aBytes : Nat → Int32) (p1 : Int64) (p2 : Int32) : Option (Int32 × Int32 × (Nat → Int32)) :=
ip_b3 (fFB_append v_FB_count v_FB_chosenLength v_aBytes p1 p2) (fun z1 z2 g3 =>
ip_zk z1 (some (z1, z2, g3)))
abbrev rmIP_clear : Room := { frames := 0, cells := 0, slots := 0, locals := 0 }
abbrev wIP_clear (ad : Nat → Nat) (cI : ClassId) (v_IP_pictureStands : Int32) (v_FB_count : Int32) (v_FB_chosenLength : Int32) (v_PA_there : Int32) (v_PA_fault : Int32) : va_W := [(ad 0, .inr (0, [.ref (ad 1), .ref (ad 2), .ref (ad 3), .ref (ad 4), .ref (ad 6), .ref (ad 7), .int v_IP_pictureStands])), (ad 1, .inr (1, [.ref (ad 12), .ref (ad 13), .int v_FB_count, .int v_FB_chosenLength])), (ad 3, .inr (3, [.ref (ad 2), .ref (ad 14), .ref (ad 15), .int v_PA_there, .int v_PA_fault]))]
def fIP_clear (v_IP_pictureStands : Int32) (v_FB_count : Int32) (v_FB_chosenLength : Int32) (v_PA_there : Int32) (v_PA_fault : Int32)  : Option (Int32 × Int32 × Int32) :=
some ((0 : Int32), (0 : Int32), (0 : Int32))
abbrev rmFB_startsAt : Room := { frames := 0, cells := 0, slots := 0, locals := 0 }
abbrev wFB_startsAt (ad : Nat → Nat) (cI : ClassId) (v_FB_count : Int32) (v_FB_chosenLength : Int32) (v_aBytes : Nat → Int32) : va_W := [(ad 1, .inr (1, [.ref (ad 12), .ref (ad 13), .int v_FB_count, .int v_FB_chosenLength])), (ad 12, .inl (cI, 240, .inl v_aBytes))]
def fFB_startsAt (v_FB_count : Int32) (v_FB_chosenLength : Int32) (v_aBytes : Nat → Int32) (p1 : Int32) : Option (Int32) :=
(if v_FB_count < (p1 + (3 : Int32)) then
(some (0 : Int32))
else
(ip_b1 (ip_ald 240 v_aBytes p1) (fun z1 =>
(if z1 = 0 then
(ip_b1 (ip_ald 240 v_aBytes (p1 + (1 : Int32))) (fun z2 =>
(if z2 = 0 then
(ip_b1 (ip_ald 240 v_aBytes (p1 + (2 : Int32))) (fun z3 =>
(if z3 = (1 : Int32) then
(some (1 : Int32))
else
(some (0 : Int32)))))
else
(some (0 : Int32)))))
else
(some (0 : Int32))))))
abbrev rmFB_countStarts : Room := { frames := 1, cells := 0, slots := 0, locals := 21 }
abbrev wFB_countStarts (ad : Nat → Nat) (cI : ClassId) (v_FB_count : Int32) (v_FB_chosenLength : Int32) (v_aBytes : Nat → Int32) : va_W := [(ad 1, .inr (1, [.ref (ad 12), .ref (ad 13), .int v_FB_count, .int v_FB_chosenLength])), (ad 12, .inl (cI, 240, .inl v_aBytes))]
def fFB_countStarts_B4 (v_FB_count : Int32) (v_FB_chosenLength : Int32) (v_aBytes : Nat → Int32) (z1 : Int32) (z2 : Int32) : Option ((Int32 × Int32) ⊕ (Int32 × Int32)) :=
(if v_FB_count ≤ z2 then
(some (.inr (z1, z2)))
else
(ip_b1 (fFB_startsAt v_FB_count v_FB_chosenLength v_aBytes z2) (fun z5 =>
ip_b1 ((if z5 = 0 then
(some z1)
else
(ip_lt (z1 + (1 : Int32)) (fun z7 =>
some z7)))) (fun z6 =>
ip_lt (z2 + (1 : Int32)) (fun z8 =>
some (.inl (z6, z8)))))))
def fFB_countStarts (v_FB_count : Int32) (v_FB_chosenLength : Int32) (v_aBytes : Nat → Int32)  : Option (Int32) :=
ip_b2 (ip_lp2 (fFB_countStarts_B4 v_FB_count v_FB_chosenLength v_aBytes) 1000 (0 : Int32) (0 : Int32)) (fun x3 x4 =>
some x3)
abbrev rmIP_units : Room := { frames := 2, cells := 0, slots := 0, locals := 43 }
abbrev wIP_units (ad : Nat → Nat) (cI : ClassId) (v_IP_pictureStands : Int32) (v_FB_count : Int32) (v_FB_chosenLength : Int32) (v_aBytes : Nat → Int32) : va_W := [(ad 0, .inr (0, [.ref (ad 1), .ref (ad 2), .ref (ad 3), .ref (ad 4), .ref (ad 6), .ref (ad 7), .int v_IP_pictureStands])), (ad 1, .inr (1, [.ref (ad 12), .ref (ad 13), .int v_FB_count, .int v_FB_chosenLength])), (ad 12, .inl (cI, 240, .inl v_aBytes))]
def fIP_units (v_IP_pictureStands : Int32) (v_FB_count : Int32) (v_FB_chosenLength : Int32) (v_aBytes : Nat → Int32)  : Option (Int32) :=
ip_b1 (fFB_countStarts v_FB_count v_FB_chosenLength v_aBytes) (fun z1 =>
some z1)
abbrev rmFB_firstByteOf : Room := { frames := 1, cells := 0, slots := 0, locals := 21 }
abbrev wFB_firstByteOf (ad : Nat → Nat) (cI : ClassId) (v_FB_count : Int32) (v_FB_chosenLength : Int32) (v_aBytes : Nat → Int32) : va_W := [(ad 1, .inr (1, [.ref (ad 12), .ref (ad 13), .int v_FB_count, .int v_FB_chosenLength])), (ad 12, .inl (cI, 240, .inl v_aBytes))]
def fFB_firstByteOf_B4 (v_FB_count : Int32) (v_FB_chosenLength : Int32) (v_aBytes : Nat → Int32) (p1 : Int32) (z1 : Int32) (z2 : Int32) : Option ((Int32 × Int32) ⊕ ((Int32 × Int32) ⊕ (Int32))) :=
(if v_FB_count ≤ z2 then
(some (.inr (.inl (z1, z2))))
else
(ip_b1 (fFB_startsAt v_FB_count v_FB_chosenLength v_aBytes z2) (fun z5 =>
(if z5 = 0 then
(ip_lt (z2 + (1 : Int32)) (fun z6 =>
some (.inl (z1, z6))))
else
(if z1 = p1 then
(some (.inr (.inr (z2 + (3 : Int32)))))
else
(ip_lt (z1 + (1 : Int32)) (fun z7 =>
ip_lt (z2 + (1 : Int32)) (fun z8 =>
some (.inl (z7, z8))))))))))
def fFB_firstByteOf (v_FB_count : Int32) (v_FB_chosenLength : Int32) (v_aBytes : Nat → Int32) (p1 : Int32) : Option (Int32) :=
ip_b1 (ip_lp2 (fFB_firstByteOf_B4 v_FB_count v_FB_chosenLength v_aBytes p1) 1000 (0 : Int32) (0 : Int32)) (fun X4 =>
ip_cs2 X4 (fun x3 x4 =>
some (-1 : Int32)) (fun q => some q))
abbrev rmFB_choose : Room := { frames := 2, cells := 0, slots := 0, locals := 44 }
abbrev wFB_choose (ad : Nat → Nat) (cI : ClassId) (v_FB_count : Int32) (v_FB_chosenLength : Int32) (v_aBytes : Nat → Int32) (v_aChosen : Nat → Int32) : va_W := [(ad 1, .inr (1, [.ref (ad 12), .ref (ad 13), .int v_FB_count, .int v_FB_chosenLength])), (ad 12, .inl (cI, 240, .inl v_aBytes)), (ad 13, .inl (cI, 240, .inl v_aChosen))]
def fFB_choose_B22 (v_FB_count : Int32) (v_aBytes : Nat → Int32) (z2 : Int32) (z3 : Int32) (z4 : Int32) (g5 : Nat → Int32) : Option ((Int32 × Int32 × Int32 × (Nat → Int32)) ⊕ (Int32 × Int32 × Int32 × (Nat → Int32))) :=
(if v_FB_count ≤ z3 then
(some (.inr (z2, z3, z4, g5)))
else
(ip_b1 (fFB_startsAt v_FB_count z4 v_aBytes z3) (fun z10 =>
(if z10 = 0 then
(ip_b3 ((if z2 < (2 : Int32) then
(ip_b1 (ip_ald 240 v_aBytes z3) (fun z14 =>
ip_b1 (ip_ast 240 g5 z4 z14) (fun g15 =>
ip_lt (z4 + (1 : Int32)) (fun z16 =>
ip_b1 (ip_ald 240 v_aBytes z3) (fun z17 =>
ip_b1 ((if z17 = 0 then
(some (z2 + (1 : Int32)))
else
(some (0 : Int32)))) (fun z18 =>
some (z18, z16, g15)))))))
else
(ip_b1 (ip_ald 240 v_aBytes z3) (fun z19 =>
(if z19 = (3 : Int32) then
(some ((0 : Int32), z4, g5))
else
(ip_b1 (ip_ald 240 v_aBytes z3) (fun z20 =>
ip_b1 (ip_ast 240 g5 z4 z20) (fun g21 =>
ip_lt (z4 + (1 : Int32)) (fun z22 =>
ip_b1 (ip_ald 240 v_aBytes z3) (fun z23 =>
ip_b1 ((if z23 = 0 then
(some (z2 + (1 : Int32)))
else
(some (0 : Int32)))) (fun z24 =>
some (z24, z22, g21)))))))))))) (fun z11 z12 g13 =>
ip_lt (z3 + (1 : Int32)) (fun z25 =>
some (.inl (z11, z25, z12, g13)))))
else
(some (.inr (z2, z3, z4, g5)))))))
def fFB_choose (v_FB_count : Int32) (v_FB_chosenLength : Int32) (v_aBytes : Nat → Int32) (v_aChosen : Nat → Int32) (p1 : Int32) : Option (Int32 × Int32 × (Nat → Int32)) :=
ip_b1 (fFB_firstByteOf v_FB_count v_FB_chosenLength v_aBytes p1) (fun z1 =>
(if 0 ≤ z1 then
(ip_b4 (ip_lp4 (fFB_choose_B22 v_FB_count v_aBytes) 1000 (0 : Int32) z1 (0 : Int32) v_aChosen) (fun x6 x7 x8 y9 =>
some ((1 : Int32), x8, y9)))
else
(some ((0 : Int32), (0 : Int32), v_aChosen))))
abbrev rmIP_payload : Room := { frames := 3, cells := 0, slots := 0, locals := 68 }
abbrev wIP_payload (ad : Nat → Nat) (cI : ClassId) (v_IP_pictureStands : Int32) (v_FB_count : Int32) (v_FB_chosenLength : Int32) (v_aBytes : Nat → Int32) (v_aChosen : Nat → Int32) : va_W := [(ad 0, .inr (0, [.ref (ad 1), .ref (ad 2), .ref (ad 3), .ref (ad 4), .ref (ad 6), .ref (ad 7), .int v_IP_pictureStands])), (ad 1, .inr (1, [.ref (ad 12), .ref (ad 13), .int v_FB_count, .int v_FB_chosenLength])), (ad 12, .inl (cI, 240, .inl v_aBytes)), (ad 13, .inl (cI, 240, .inl v_aChosen))]
def fIP_payload (v_IP_pictureStands : Int32) (v_FB_count : Int32) (v_FB_chosenLength : Int32) (v_aBytes : Nat → Int32) (v_aChosen : Nat → Int32) (p1 : Int32) (p2 : Int32) : Option (Int32 × Int32 × (Nat → Int32)) :=
ip_b3 (fFB_choose v_FB_count v_FB_chosenLength v_aBytes v_aChosen p1) (fun z1 z2 g3 =>
(if z1 = 0 then
(some ((-1 : Int32), z2, g3))
else
(if p2 = (-1 : Int32) then
(some (z2, z2, g3))
else
(if p2 < 0 then
(some ((-1 : Int32), z2, g3))
else
(if z2 ≤ p2 then
(some ((-1 : Int32), z2, g3))
else
(ip_b1 (ip_ald 240 g3 p2) (fun z4 =>
some (z4, z2, g3))))))))
abbrev rmRB_rewind : Room := { frames := 0, cells := 0, slots := 0, locals := 0 }
abbrev wRB_rewind (ad : Nat → Nat) (cI : ClassId) (v_RB_place : Int32) (v_RB_end : Int32) : va_W := [(ad 2, .inr (2, [.ref (ad 13), .int v_RB_place, .int v_RB_end]))]
def fRB_rewind (v_RB_place : Int32) (v_RB_end : Int32) (p1 : Int32) : Option (Int32 × Int32) :=
ip_lt ((8 : Int32) * p1) (fun z1 =>
some ((8 : Int32), z1))
abbrev rmFB_chosenKind : Room := { frames := 0, cells := 0, slots := 0, locals := 0 }
abbrev wFB_chosenKind (ad : Nat → Nat) (cI : ClassId) (v_FB_count : Int32) (v_FB_chosenLength : Int32) (v_aChosen : Nat → Int32) : va_W := [(ad 1, .inr (1, [.ref (ad 12), .ref (ad 13), .int v_FB_count, .int v_FB_chosenLength])), (ad 13, .inl (cI, 240, .inl v_aChosen))]
def fFB_chosenKind (v_FB_count : Int32) (v_FB_chosenLength : Int32) (v_aChosen : Nat → Int32)  : Option (Int32) :=
(if v_FB_chosenLength ≤ 0 then
(some (-1 : Int32))
else
(ip_b1 (ip_ald 240 v_aChosen (0 : Int32)) (fun z1 =>
some z1)))
abbrev rmRB_atEnd : Room := { frames := 0, cells := 0, slots := 0, locals := 0 }
abbrev wRB_atEnd (ad : Nat → Nat) (cI : ClassId) (v_RB_place : Int32) (v_RB_end : Int32) : va_W := [(ad 2, .inr (2, [.ref (ad 13), .int v_RB_place, .int v_RB_end]))]
def fRB_atEnd (v_RB_place : Int32) (v_RB_end : Int32)  : Option (Int32) :=
(if v_RB_place < v_RB_end then
(some (0 : Int32))
else
(some (1 : Int32)))
abbrev rmPA_blame : Room := { frames := 0, cells := 0, slots := 0, locals := 0 }
abbrev wPA_blame (ad : Nat → Nat) (cI : ClassId) (v_PA_there : Int32) (v_PA_fault : Int32) : va_W := [(ad 3, .inr (3, [.ref (ad 2), .ref (ad 14), .ref (ad 15), .int v_PA_there, .int v_PA_fault]))]
def fPA_blame (v_PA_there : Int32) (v_PA_fault : Int32) (p1 : Int32) : Option (Int32) :=
(if v_PA_fault = 0 then
(some p1)
else
(some v_PA_fault))
abbrev rmRB_next : Room := { frames := 0, cells := 0, slots := 0, locals := 0 }
abbrev wRB_next (ad : Nat → Nat) (cI : ClassId) (v_RB_place : Int32) (v_RB_end : Int32) (v_aChosen : Nat → Int32) : va_W := [(ad 2, .inr (2, [.ref (ad 13), .int v_RB_place, .int v_RB_end])), (ad 13, .inl (cI, 240, .inl v_aChosen))]
def fRB_next (v_RB_place : Int32) (v_RB_end : Int32) (v_aChosen : Nat → Int32)  : Option (Int32 × Int32) :=
ip_b1 ((if v_RB_end ≤ v_RB_place then
(some (0 : Int32))
else
(ip_b1 (ip_ald 240 v_aChosen (v_RB_place >>> ((3 : Int32) &&& 31))) (fun z2 =>
some ((z2 >>> (((7 : Int32) - (v_RB_place &&& (7 : Int32))) &&& 31)) &&& (1 : Int32)))))) (fun z1 =>
ip_lt (v_RB_place + (1 : Int32)) (fun z3 =>
some (z1, z3)))
abbrev rmPA_number : Room := { frames := 1, cells := 0, slots := 0, locals := 21 }
abbrev wPA_number (ad : Nat → Nat) (cI : ClassId) (v_RB_place : Int32) (v_RB_end : Int32) (v_PA_there : Int32) (v_PA_fault : Int32) (v_aChosen : Nat → Int32) : va_W := [(ad 2, .inr (2, [.ref (ad 13), .int v_RB_place, .int v_RB_end])), (ad 3, .inr (3, [.ref (ad 2), .ref (ad 14), .ref (ad 15), .int v_PA_there, .int v_PA_fault])), (ad 13, .inl (cI, 240, .inl v_aChosen))]
def fPA_number_B4 (v_RB_end : Int32) (v_PA_there : Int32) (v_aChosen : Nat → Int32) (p1 : Int32) (z1 : Int32) (z2 : Int32) (z3 : Int32) (z4 : Int32) : Option ((Int32 × Int32 × Int32 × Int32) ⊕ (Int32 × Int32 × Int32 × Int32)) :=
(if p1 ≤ z2 then
(some (.inr (z1, z2, z3, z4)))
else
(ip_b1 (fRB_atEnd z3 v_RB_end) (fun z9 =>
ip_b1 ((if z9 = 0 then
(some z4)
else
(ip_b1 (fPA_blame v_PA_there z4 (-4 : Int32)) (fun z11 =>
some z11)))) (fun z10 =>
ip_b2 (fRB_next z3 v_RB_end v_aChosen) (fun z12 z13 =>
ip_lt (((2 : Int32) * z1) + z12) (fun z14 =>
ip_lt (z2 + (1 : Int32)) (fun z15 =>
some (.inl (z14, z15, z13, z10)))))))))
def fPA_number (v_RB_place : Int32) (v_RB_end : Int32) (v_PA_there : Int32) (v_PA_fault : Int32) (v_aChosen : Nat → Int32) (p1 : Int32) : Option (Int32 × Int32 × Int32) :=
ip_b4 (ip_lp4 (fPA_number_B4 v_RB_end v_PA_there v_aChosen p1) 1000 (0 : Int32) (0 : Int32) v_RB_place v_PA_fault) (fun x5 x6 x7 x8 =>
some (x5, x7, x8))
abbrev rmPA_code : Room := { frames := 2, cells := 0, slots := 0, locals := 44 }
abbrev wPA_code (ad : Nat → Nat) (cI : ClassId) (v_RB_place : Int32) (v_RB_end : Int32) (v_PA_there : Int32) (v_PA_fault : Int32) (v_aChosen : Nat → Int32) : va_W := [(ad 2, .inr (2, [.ref (ad 13), .int v_RB_place, .int v_RB_end])), (ad 3, .inr (3, [.ref (ad 2), .ref (ad 14), .ref (ad 15), .int v_PA_there, .int v_PA_fault])), (ad 13, .inl (cI, 240, .inl v_aChosen))]
def fPA_code_B2 (v_RB_end : Int32) (v_PA_there : Int32) (v_aChosen : Nat → Int32) (z1 : Int32) (z2 : Int32) (z3 : Int32) : Option ((Int32 × Int32 × Int32) ⊕ (Int32 × Int32 × Int32)) :=
(if (7 : Int32) ≤ z1 then
(some (.inr (z1, z2, z3)))
else
(ip_b3 (fPA_number z2 v_RB_end v_PA_there z3 v_aChosen (1 : Int32)) (fun z7 z8 z9 =>
(if z7 = 0 then
(ip_lt (z1 + (1 : Int32)) (fun z10 =>
some (.inl (z10, z8, z9))))
else
(some (.inr (z1, z8, z9)))))))
def fPA_code (v_RB_place : Int32) (v_RB_end : Int32) (v_PA_there : Int32) (v_PA_fault : Int32) (v_aChosen : Nat → Int32)  : Option (Int32 × Int32 × Int32) :=
ip_b3 (ip_lp3 (fPA_code_B2 v_RB_end v_PA_there v_aChosen) 1000 (0 : Int32) v_RB_place v_PA_fault) (fun x4 x5 x6 =>
(if x4 = (7 : Int32) then
(ip_b1 (fPA_blame v_PA_there x6 (-3 : Int32)) (fun z14 =>
some ((0 : Int32), x5, z14)))
else
(ip_b3 (fPA_number x5 v_RB_end v_PA_there x6 v_aChosen x4) (fun z11 z12 z13 =>
some (((((1 : Int32) <<< (x4 &&& 31)) - (1 : Int32)) + z11), z12, z13)))))
abbrev rmPA_checked : Room := { frames := 1, cells := 0, slots := 0, locals := 21 }
abbrev wPA_checked (ad : Nat → Nat) (cI : ClassId) (v_PA_there : Int32) (v_PA_fault : Int32) : va_W := [(ad 3, .inr (3, [.ref (ad 2), .ref (ad 14), .ref (ad 15), .int v_PA_there, .int v_PA_fault]))]
def fPA_checked (v_PA_there : Int32) (v_PA_fault : Int32) (p1 : Int32) (p2 : Int32) (p3 : Int32) : Option (Int32 × Int32) :=
ip_b1 ((if p1 < p2 then
(ip_b1 (fPA_blame v_PA_there v_PA_fault (-3 : Int32)) (fun z2 =>
some z2))
else
(if p1 ≤ p3 then
(some v_PA_fault)
else
(ip_b1 (fPA_blame v_PA_there v_PA_fault (-3 : Int32)) (fun z3 =>
some z3))))) (fun z1 =>
some (p1, z1))
abbrev rmPA_signedCode : Room := { frames := 3, cells := 0, slots := 0, locals := 65 }
abbrev wPA_signedCode (ad : Nat → Nat) (cI : ClassId) (v_RB_place : Int32) (v_RB_end : Int32) (v_PA_there : Int32) (v_PA_fault : Int32) (v_aChosen : Nat → Int32) : va_W := [(ad 2, .inr (2, [.ref (ad 13), .int v_RB_place, .int v_RB_end])), (ad 3, .inr (3, [.ref (ad 2), .ref (ad 14), .ref (ad 15), .int v_PA_there, .int v_PA_fault])), (ad 13, .inl (cI, 240, .inl v_aChosen))]
def fPA_signedCode (v_RB_place : Int32) (v_RB_end : Int32) (v_PA_there : Int32) (v_PA_fault : Int32) (v_aChosen : Nat → Int32)  : Option (Int32 × Int32 × Int32) :=
ip_b3 (fPA_code v_RB_place v_RB_end v_PA_there v_PA_fault v_aChosen) (fun z1 z2 z3 =>
(if (z1 &&& (1 : Int32)) = (1 : Int32) then
(some (((z1 + (1 : Int32)) / (2 : Int32)), z2, z3))
else
(some (((-z1) / (2 : Int32)), z2, z3))))
abbrev rmPA_readUnit : Room := { frames := 4, cells := 0, slots := 0, locals := 86 }
abbrev wPA_readUnit (ad : Nat → Nat) (cI : ClassId) (v_RB_place : Int32) (v_RB_end : Int32) (v_PA_there : Int32) (v_PA_fault : Int32) (v_aChosen : Nat → Int32) (v_aValues : Nat → Int32) (v_aComing : Nat → Int32) : va_W := [(ad 2, .inr (2, [.ref (ad 13), .int v_RB_place, .int v_RB_end])), (ad 3, .inr (3, [.ref (ad 2), .ref (ad 14), .ref (ad 15), .int v_PA_there, .int v_PA_fault])), (ad 13, .inl (cI, 240, .inl v_aChosen)), (ad 14, .inl (cI, 10, .inl v_aValues)), (ad 15, .inl (cI, 10, .inl v_aComing))]
def fPA_readUnit_B85 (v_RB_end : Int32) (v_PA_there : Int32) (v_aChosen : Nat → Int32) (z28 : Int32) (z29 : Int32) (z30 : Int32) (g31 : Nat → Int32) : Option ((Int32 × Int32 × Int32 × (Nat → Int32)) ⊕ (Int32 × Int32 × Int32 × (Nat → Int32))) :=
(if (4 : Int32) ≤ z28 then
(some (.inr (z28, z29, z30, g31)))
else
(ip_b3 (fPA_signedCode z29 v_RB_end v_PA_there z30 v_aChosen) (fun z36 z37 z38 =>
ip_b2 (fPA_checked v_PA_there z38 z36 (-7 : Int32) (7 : Int32)) (fun z39 z40 =>
ip_b1 (ip_ast 10 g31 ((5 : Int32) + z28) z39) (fun g41 =>
ip_lt (z28 + (1 : Int32)) (fun z42 =>
some (.inl (z42, z37, z40, g41))))))))
def fPA_readUnit (v_RB_place : Int32) (v_RB_end : Int32) (v_PA_there : Int32) (v_PA_fault : Int32) (v_aChosen : Nat → Int32) (v_aValues : Nat → Int32) (v_aComing : Nat → Int32)  : Option (Int32 × Int32 × Int32 × Int32 × (Nat → Int32) × (Nat → Int32)) :=
ip_b1 (fAR_fill10 v_aComing (0 : Int32)) (fun g1 =>
ip_b3 (fPA_code v_RB_place v_RB_end v_PA_there (0 : Int32) v_aChosen) (fun z2 z3 z4 =>
ip_b2 (fPA_checked v_PA_there z4 z2 (0 : Int32) (51 : Int32)) (fun z5 z6 =>
ip_b1 (ip_ast 10 g1 (0 : Int32) z5) (fun g7 =>
ip_b3 (fPA_number z3 v_RB_end v_PA_there z6 v_aChosen (1 : Int32)) (fun z8 z9 z10 =>
ip_b1 (ip_ast 10 g7 (1 : Int32) z8) (fun g11 =>
ip_b3 (fPA_number z9 v_RB_end v_PA_there z10 v_aChosen (1 : Int32)) (fun z12 z13 z14 =>
ip_b1 (ip_ast 10 g11 (2 : Int32) z12) (fun g15 =>
ip_b3 (fPA_number z13 v_RB_end v_PA_there z14 v_aChosen (1 : Int32)) (fun z16 z17 z18 =>
ip_b1 (ip_ast 10 g15 (3 : Int32) z16) (fun g19 =>
ip_b3 (fPA_number z17 v_RB_end v_PA_there z18 v_aChosen (2 : Int32)) (fun z20 z21 z22 =>
ip_b1 (ip_ast 10 g19 (4 : Int32) z20) (fun g23 =>
ip_b1 (ip_ald 10 g23 (4 : Int32)) (fun z24 =>
ip_b3 ((if z24 = 0 then
(some (z21, z22, g23))
else
(ip_b4 (ip_lp4 (fPA_readUnit_B85 v_RB_end v_PA_there v_aChosen) 1000 (0 : Int32) z21 z22 g23) (fun x32 x33 x34 y35 =>
some (x33, x34, y35))))) (fun z25 z26 g27 =>
ip_b1 (ip_ald 10 g27 (4 : Int32)) (fun z43 =>
ip_b3 ((if z43 = (3 : Int32) then
(ip_b3 (fPA_number z25 v_RB_end v_PA_there z26 v_aChosen (3 : Int32)) (fun z47 z48 z49 =>
ip_b1 (ip_ast 10 g27 (9 : Int32) z47) (fun g50 =>
some (z48, z49, g50))))
else
(some (z25, z26, g27)))) (fun z44 z45 g46 =>
ip_b2 ((if z45 = 0 then
(ip_lt (va_cpy g46 v_aValues (0 : Int32).toNatClampNeg (0 : Int32).toNatClampNeg (10 : Int32).toNatClampNeg) (fun g53 =>
some ((1 : Int32), g53)))
else
(some (v_PA_there, v_aValues)))) (fun z51 g52 =>
some (z45, z44, z51, z45, g52, g46))))))))))))))))))
abbrev rmBD_begin : Room := { frames := 1, cells := 0, slots := 0, locals := 23 }
abbrev wBD_begin (ad : Nat → Nat) (cI : ClassId) (v_RB_place : Int32) (v_RB_end : Int32) (v_BD_range : Int32) (v_BD_value : Int32) (v_aChosen : Nat → Int32) (v_aChances : Nat → Int32) (v_aCounts : Nat → Int32) : va_W := [(ad 2, .inr (2, [.ref (ad 13), .int v_RB_place, .int v_RB_end])), (ad 4, .inr (4, [.ref (ad 2), .ref (ad 16), .ref (ad 17), .int v_BD_range, .int v_BD_value])), (ad 13, .inl (cI, 240, .inl v_aChosen)), (ad 16, .inl (cI, 14, .inl v_aChances)), (ad 17, .inl (cI, 3, .inl v_aCounts))]
def fBD_begin_B32 (v_RB_end : Int32) (v_aChosen : Nat → Int32) (z3 : Int32) (z4 : Int32) (z5 : Int32) : Option ((Int32 × Int32 × Int32) ⊕ (Int32 × Int32 × Int32)) :=
(if (8 : Int32) ≤ z3 then
(some (.inr (z3, z4, z5)))
else
(ip_b2 (fRB_next z4 v_RB_end v_aChosen) (fun z9 z10 =>
ip_lt (((2 : Int32) * z5) + z9) (fun z11 =>
ip_lt (z3 + (1 : Int32)) (fun z12 =>
some (.inl (z12, z10, z11)))))))
def fBD_begin (v_RB_place : Int32) (v_RB_end : Int32) (v_BD_range : Int32) (v_BD_value : Int32) (v_aChosen : Nat → Int32) (v_aChances : Nat → Int32) (v_aCounts : Nat → Int32)  : Option (Int32 × Int32 × Int32 × (Nat → Int32) × (Nat → Int32)) :=
ip_b1 (fAR_fill14 v_aChances (512 : Int32)) (fun g1 =>
ip_b1 (fAR_fill3 v_aCounts (0 : Int32)) (fun g2 =>
ip_b3 (ip_lp3 (fBD_begin_B32 v_RB_end v_aChosen) 1000 (0 : Int32) v_RB_place (0 : Int32)) (fun x6 x7 x8 =>
some (x7, (510 : Int32), x8, g1, g2))))
abbrev rmIP_inPicture : Room := { frames := 0, cells := 0, slots := 0, locals := 0 }
abbrev wIP_inPicture (ad : Nat → Nat) (cI : ClassId)  : va_W := []
def fIP_inPicture  (p1 : Int32) (p2 : Int32) : Option (Int32) :=
(if p1 < 0 then
(some (0 : Int32))
else
(if (16 : Int32) ≤ p1 then
(some (0 : Int32))
else
(if p2 < 0 then
(some (0 : Int32))
else
(if (16 : Int32) ≤ p2 then
(some (0 : Int32))
else
(some (1 : Int32))))))
abbrev rmIP_placeOf : Room := { frames := 0, cells := 0, slots := 0, locals := 0 }
abbrev wIP_placeOf (ad : Nat → Nat) (cI : ClassId)  : va_W := []
def fIP_placeOf  (p1 : Int32) (p2 : Int32) : Option (Int32) :=
some ((p2 * (16 : Int32)) + p1)
abbrev rmPI_splitAt : Room := { frames := 1, cells := 0, slots := 0, locals := 21 }
abbrev wPI_splitAt (ad : Nat → Nat) (cI : ClassId) (v_PI_leaves : Int32) (v_aSides : Nat → Int32) : va_W := [(ad 6, .inr (6, [.ref (ad 18), .ref (ad 19), .ref (ad 20), .ref (ad 21), .ref (ad 22), .ref (ad 23)])), (ad 7, .inr (7, [.ref (ad 4), .ref (ad 14), .ref (ad 6), .ref (ad 5), .ref (ad 8), .ref (ad 9), .ref (ad 10), .ref (ad 11), .int v_PI_leaves])), (ad 23, .inl (cI, 256, .inl v_aSides))]
def fPI_splitAt (v_PI_leaves : Int32) (v_aSides : Nat → Int32) (p1 : Int32) (p2 : Int32) : Option (Int32) :=
ip_b1 (fIP_inPicture p1 p2) (fun z1 =>
(if z1 = 0 then
(some (0 : Int32))
else
(ip_b1 (fIP_placeOf p1 p2) (fun z2 =>
ip_b1 (ip_ald 256 v_aSides z2) (fun z3 =>
(if z3 = (4 : Int32) then
(some (1 : Int32))
else
(some (0 : Int32))))))))
abbrev rmBD_bin : Room := { frames := 1, cells := 0, slots := 0, locals := 21 }
abbrev wBD_bin (ad : Nat → Nat) (cI : ClassId) (v_RB_place : Int32) (v_RB_end : Int32) (v_BD_range : Int32) (v_BD_value : Int32) (v_aChosen : Nat → Int32) (v_aChances : Nat → Int32) (v_aCounts : Nat → Int32) : va_W := [(ad 2, .inr (2, [.ref (ad 13), .int v_RB_place, .int v_RB_end])), (ad 4, .inr (4, [.ref (ad 2), .ref (ad 16), .ref (ad 17), .int v_BD_range, .int v_BD_value])), (ad 13, .inl (cI, 240, .inl v_aChosen)), (ad 16, .inl (cI, 14, .inl v_aChances)), (ad 17, .inl (cI, 3, .inl v_aCounts))]
def fBD_bin_B134 (v_RB_end : Int32) (v_aChosen : Nat → Int32) (z14 : Int32) (z15 : Int32) (z16 : Int32) (z17 : Int32) : Option ((Int32 × Int32 × Int32 × Int32) ⊕ (Int32 × Int32 × Int32 × Int32)) :=
(if (6 : Int32) ≤ z14 then
(some (.inr (z14, z15, z16, z17)))
else
(if (256 : Int32) ≤ z16 then
(some (.inr (z14, z15, z16, z17)))
else
(ip_lt (z16 * (2 : Int32)) (fun z22 =>
ip_b2 (fRB_next z15 v_RB_end v_aChosen) (fun z23 z24 =>
ip_lt (((2 : Int32) * z17) + z23) (fun z25 =>
ip_lt (z14 + (1 : Int32)) (fun z26 =>
some (.inl (z26, z24, z22, z25)))))))))
def fBD_bin (v_RB_place : Int32) (v_RB_end : Int32) (v_BD_range : Int32) (v_BD_value : Int32) (v_aChosen : Nat → Int32) (v_aChances : Nat → Int32) (v_aCounts : Nat → Int32) (p1 : Int32) : Option (Int32 × Int32 × Int32 × Int32 × (Nat → Int32) × (Nat → Int32)) :=
ip_b1 (ip_ald 14 v_aChances p1) (fun z1 =>
ip_b1 ((if z1 < (512 : Int32) then
(some (0 : Int32))
else
(some (1 : Int32)))) (fun z2 =>
ip_b1 ((if z2 = (1 : Int32) then
(some ((1023 : Int32) - z1))
else
(some z1))) (fun z3 =>
ip_lt (z3 >>> ((5 : Int32) &&& 31)) (fun z4 =>
ip_lt ((((v_BD_range >>> ((5 : Int32) &&& 31)) * z4) >>> ((1 : Int32) &&& 31)) + (4 : Int32)) (fun z5 =>
ip_lt (v_BD_range - z5) (fun z6 =>
ip_b3 ((if v_BD_value < z6 then
(some (z2, z6, v_BD_value))
else
(ip_lt (v_BD_value - z6) (fun z10 =>
ip_lt ((1 : Int32) - z2) (fun z11 =>
some (z11, z5, z10)))))) (fun z7 z8 z9 =>
ip_b1 ((if z7 = (1 : Int32) then
(some (z1 + (((1023 : Int32) - z1) >>> ((4 : Int32) &&& 31))))
else
(some (z1 - (z1 >>> ((4 : Int32) &&& 31)))))) (fun z12 =>
ip_b1 (ip_ast 14 v_aChances p1 z12) (fun g13 =>
ip_b4 (ip_lp4 (fBD_bin_B134 v_RB_end v_aChosen) 1000 (0 : Int32) v_RB_place z8 z9) (fun x18 x19 x20 x21 =>
ip_b1 (ip_ald 3 v_aCounts (0 : Int32)) (fun z27 =>
ip_b1 (ip_ast 3 v_aCounts (0 : Int32) (z27 + (1 : Int32))) (fun g28 =>
some (z7, x19, x20, x21, g13, g28)))))))))))))
abbrev rmLF_moveTo : Room := { frames := 0, cells := 0, slots := 0, locals := 0 }
abbrev wLF_moveTo (ad : Nat → Nat) (cI : ClassId) (v_LF_x : Int32) (v_LF_y : Int32) (v_LF_side : Int32) (v_LF_mode : Int32) (v_LF_skip : Int32) : va_W := [(ad 5, .inr (5, [.int v_LF_x, .int v_LF_y, .int v_LF_side, .int v_LF_mode, .int v_LF_skip]))]
def fLF_moveTo (v_LF_x : Int32) (v_LF_y : Int32) (v_LF_side : Int32) (v_LF_mode : Int32) (v_LF_skip : Int32) (p1 : Int32) (p2 : Int32) (p3 : Int32) : Option (Int32 × Int32 × Int32 × Int32) :=
some (p1, p2, p3, (0 : Int32))
abbrev rmLF_placeInPicture : Room := { frames := 1, cells := 0, slots := 0, locals := 21 }
abbrev wLF_placeInPicture (ad : Nat → Nat) (cI : ClassId) (v_LF_x : Int32) (v_LF_y : Int32) (v_LF_side : Int32) (v_LF_mode : Int32) (v_LF_skip : Int32) : va_W := [(ad 5, .inr (5, [.int v_LF_x, .int v_LF_y, .int v_LF_side, .int v_LF_mode, .int v_LF_skip]))]
def fLF_placeInPicture (v_LF_x : Int32) (v_LF_y : Int32) (v_LF_side : Int32) (v_LF_mode : Int32) (v_LF_skip : Int32) (p1 : Int32) (p2 : Int32) : Option (Int32) :=
ip_b1 (fIP_placeOf (v_LF_x + p1) (v_LF_y + p2)) (fun z1 =>
some z1)
abbrev rmPI_modeToTheLeft : Room := { frames := 2, cells := 0, slots := 0, locals := 43 }
abbrev wPI_modeToTheLeft (ad : Nat → Nat) (cI : ClassId) (v_LF_x : Int32) (v_LF_y : Int32) (v_LF_side : Int32) (v_LF_mode : Int32) (v_LF_skip : Int32) (v_PI_leaves : Int32) (v_aModes : Nat → Int32) : va_W := [(ad 5, .inr (5, [.int v_LF_x, .int v_LF_y, .int v_LF_side, .int v_LF_mode, .int v_LF_skip])), (ad 6, .inr (6, [.ref (ad 18), .ref (ad 19), .ref (ad 20), .ref (ad 21), .ref (ad 22), .ref (ad 23)])), (ad 7, .inr (7, [.ref (ad 4), .ref (ad 14), .ref (ad 6), .ref (ad 5), .ref (ad 8), .ref (ad 9), .ref (ad 10), .ref (ad 11), .int v_PI_leaves])), (ad 22, .inl (cI, 256, .inl v_aModes))]
def fPI_modeToTheLeft (v_LF_x : Int32) (v_LF_y : Int32) (v_LF_side : Int32) (v_LF_mode : Int32) (v_LF_skip : Int32) (v_PI_leaves : Int32) (v_aModes : Nat → Int32)  : Option (Int32) :=
(if v_LF_x = 0 then
(some (1 : Int32))
else
(ip_b1 (fLF_placeInPicture v_LF_x v_LF_y v_LF_side v_LF_mode v_LF_skip (-1 : Int32) (0 : Int32)) (fun z1 =>
ip_b1 (ip_ald 256 v_aModes z1) (fun z2 =>
some z2))))
abbrev rmBD_freeBits : Room := { frames := 1, cells := 0, slots := 0, locals := 21 }
abbrev wBD_freeBits (ad : Nat → Nat) (cI : ClassId) (v_RB_place : Int32) (v_RB_end : Int32) (v_BD_range : Int32) (v_BD_value : Int32) (v_aChosen : Nat → Int32) (v_aCounts : Nat → Int32) : va_W := [(ad 2, .inr (2, [.ref (ad 13), .int v_RB_place, .int v_RB_end])), (ad 4, .inr (4, [.ref (ad 2), .ref (ad 16), .ref (ad 17), .int v_BD_range, .int v_BD_value])), (ad 13, .inl (cI, 240, .inl v_aChosen)), (ad 17, .inl (cI, 3, .inl v_aCounts))]
def fBD_freeBits_B4 (v_RB_end : Int32) (v_BD_range : Int32) (v_aChosen : Nat → Int32) (p1 : Int32) (z1 : Int32) (z2 : Int32) (z3 : Int32) (z4 : Int32) : Option ((Int32 × Int32 × Int32 × Int32) ⊕ (Int32 × Int32 × Int32 × Int32)) :=
(if p1 ≤ z2 then
(some (.inr (z1, z2, z3, z4)))
else
(ip_b2 (fRB_next z3 v_RB_end v_aChosen) (fun z9 z10 =>
ip_lt (((2 : Int32) * z4) + z9) (fun z11 =>
ip_b1 ((if z11 < v_BD_range then
(some (0 : Int32))
else
(some (1 : Int32)))) (fun z12 =>
ip_lt (z11 - (z12 * v_BD_range)) (fun z13 =>
ip_lt (((2 : Int32) * z1) + z12) (fun z14 =>
ip_lt (z2 + (1 : Int32)) (fun z15 =>
some (.inl (z14, z15, z10, z13))))))))))
def fBD_freeBits (v_RB_place : Int32) (v_RB_end : Int32) (v_BD_range : Int32) (v_BD_value : Int32) (v_aChosen : Nat → Int32) (v_aCounts : Nat → Int32) (p1 : Int32) : Option (Int32 × Int32 × Int32 × (Nat → Int32)) :=
ip_b4 (ip_lp4 (fBD_freeBits_B4 v_RB_end v_BD_range v_aChosen p1) 1000 (0 : Int32) (0 : Int32) v_RB_place v_BD_value) (fun x5 x6 x7 x8 =>
ip_b1 (ip_ald 3 v_aCounts (1 : Int32)) (fun z16 =>
ip_b1 (ip_ast 3 v_aCounts (1 : Int32) (z16 + p1)) (fun g17 =>
some (x5, x7, x8, g17))))
abbrev rmLR_notZeroBefore : Room := { frames := 0, cells := 0, slots := 0, locals := 0 }
abbrev wLR_notZeroBefore (ad : Nat → Nat) (cI : ClassId) (v_LR_first : Int32) (v_LR_last : Int32) (v_LR_sum : Int32) (v_aGroup : Nat → Int32) : va_W := [(ad 8, .inr (8, [.ref (ad 4), .ref (ad 21), .ref (ad 24), .int v_LR_first, .int v_LR_last, .int v_LR_sum])), (ad 24, .inl (cI, 16, .inl v_aGroup))]
def fLR_notZeroBefore (v_LR_first : Int32) (v_LR_last : Int32) (v_LR_sum : Int32) (v_aGroup : Nat → Int32) (p1 : Int32) : Option (Int32) :=
ip_b1 ((if (p1 &&& (3 : Int32)) ≤ 0 then
(some (0 : Int32))
else
(ip_b1 (ip_ald 16 v_aGroup (p1 - (1 : Int32))) (fun z2 =>
(if z2 = 0 then
(some (0 : Int32))
else
(some (1 : Int32))))))) (fun z1 =>
ip_b1 ((if p1 < (4 : Int32) then
(some (0 : Int32))
else
(ip_b1 (ip_ald 16 v_aGroup (p1 - (4 : Int32))) (fun z4 =>
(if z4 = 0 then
(some (0 : Int32))
else
(some (1 : Int32))))))) (fun z3 =>
some (z1 + z3)))
abbrev rmLR_readSize : Room := { frames := 2, cells := 0, slots := 0, locals := 48 }
abbrev wLR_readSize (ad : Nat → Nat) (cI : ClassId) (v_RB_place : Int32) (v_RB_end : Int32) (v_BD_range : Int32) (v_BD_value : Int32) (v_LR_first : Int32) (v_LR_last : Int32) (v_LR_sum : Int32) (v_aChosen : Nat → Int32) (v_aChances : Nat → Int32) (v_aCounts : Nat → Int32) : va_W := [(ad 2, .inr (2, [.ref (ad 13), .int v_RB_place, .int v_RB_end])), (ad 4, .inr (4, [.ref (ad 2), .ref (ad 16), .ref (ad 17), .int v_BD_range, .int v_BD_value])), (ad 8, .inr (8, [.ref (ad 4), .ref (ad 21), .ref (ad 24), .int v_LR_first, .int v_LR_last, .int v_LR_sum])), (ad 13, .inl (cI, 240, .inl v_aChosen)), (ad 16, .inl (cI, 14, .inl v_aChances)), (ad 17, .inl (cI, 3, .inl v_aCounts))]
def fLR_readSize_B30 (v_RB_end : Int32) (v_aChosen : Nat → Int32) (z9 : Int32) (z13 : Int32) (z14 : Int32) (z15 : Int32) (g16 : Nat → Int32) : Option ((Int32 × Int32 × Int32 × (Nat → Int32)) ⊕ (Int32 × Int32 × Int32 × (Nat → Int32))) :=
(if (6 : Int32) ≤ z13 then
(some (.inr (z13, z14, z15, g16)))
else
(ip_b4 (fBD_freeBits z14 v_RB_end z9 z15 v_aChosen g16 (1 : Int32)) (fun z21 z22 z23 g24 =>
(if z21 = (1 : Int32) then
(ip_lt (z13 + (1 : Int32)) (fun z25 =>
some (.inl (z25, z22, z23, g24))))
else
(some (.inr (z13, z22, z23, g24)))))))
def fLR_readSize (v_RB_place : Int32) (v_RB_end : Int32) (v_BD_range : Int32) (v_BD_value : Int32) (v_LR_first : Int32) (v_LR_last : Int32) (v_LR_sum : Int32) (v_aChosen : Nat → Int32) (v_aChances : Nat → Int32) (v_aCounts : Nat → Int32)  : Option (Int32 × Int32 × Int32 × Int32 × (Nat → Int32) × (Nat → Int32)) :=
ip_b6 (fBD_bin v_RB_place v_RB_end v_BD_range v_BD_value v_aChosen v_aChances v_aCounts (12 : Int32)) (fun z1 z2 z3 z4 g5 g6 =>
(if z1 = 0 then
(some ((1 : Int32), z2, z3, z4, g5, g6))
else
(ip_b6 (fBD_bin z2 v_RB_end z3 z4 v_aChosen g5 g6 (13 : Int32)) (fun z7 z8 z9 z10 g11 g12 =>
(if z7 = 0 then
(some ((2 : Int32), z8, z9, z10, g11, g12))
else
(ip_b4 (ip_lp4 (fLR_readSize_B30 v_RB_end v_aChosen z9) 1000 (0 : Int32) z8 z10 g12) (fun x17 x18 x19 y20 =>
ip_b4 (fBD_freeBits x18 v_RB_end z9 x19 v_aChosen y20 x17) (fun z26 z27 z28 g29 =>
some ((((2 : Int32) + ((1 : Int32) <<< (x17 &&& 31))) + z26), z27, z9, z28, g11, g29)))))))))
abbrev rmLR_readSizes : Room := { frames := 3, cells := 0, slots := 0, locals := 69 }
abbrev wLR_readSizes (ad : Nat → Nat) (cI : ClassId) (v_RB_place : Int32) (v_RB_end : Int32) (v_BD_range : Int32) (v_BD_value : Int32) (v_LR_first : Int32) (v_LR_last : Int32) (v_LR_sum : Int32) (v_aChosen : Nat → Int32) (v_aChances : Nat → Int32) (v_aCounts : Nat → Int32) (v_aGroup : Nat → Int32) : va_W := [(ad 2, .inr (2, [.ref (ad 13), .int v_RB_place, .int v_RB_end])), (ad 4, .inr (4, [.ref (ad 2), .ref (ad 16), .ref (ad 17), .int v_BD_range, .int v_BD_value])), (ad 8, .inr (8, [.ref (ad 4), .ref (ad 21), .ref (ad 24), .int v_LR_first, .int v_LR_last, .int v_LR_sum])), (ad 13, .inl (cI, 240, .inl v_aChosen)), (ad 16, .inl (cI, 14, .inl v_aChances)), (ad 17, .inl (cI, 3, .inl v_aCounts)), (ad 24, .inl (cI, 16, .inl v_aGroup))]
def fLR_readSizes_B17 (v_RB_end : Int32) (v_aChosen : Nat → Int32) (z1 : Int32) (z2 : Int32) (z3 : Int32) (z4 : Int32) (z5 : Int32) (z6 : Int32) (z7 : Int32) (g8 : Nat → Int32) (g9 : Nat → Int32) (g10 : Nat → Int32) : Option ((Int32 × Int32 × Int32 × Int32 × Int32 × Int32 × Int32 × (Nat → Int32) × (Nat → Int32) × (Nat → Int32)) ⊕ (Int32 × Int32 × Int32 × Int32 × Int32 × Int32 × Int32 × (Nat → Int32) × (Nat → Int32) × (Nat → Int32))) :=
(if (16 : Int32) ≤ z1 then
(some (.inr (z1, z2, z3, z4, z5, z6, z7, g8, g9, g10)))
else
(ip_b1 (ip_ald 16 tb_order z1) (fun z21 =>
ip_b1 (ip_ast 16 g10 z21 (0 : Int32)) (fun g22 =>
ip_b1 (fLR_notZeroBefore z5 z6 z7 g22 z21) (fun z23 =>
ip_b6 (fBD_bin z2 v_RB_end z3 z4 v_aChosen g8 g9 ((9 : Int32) + z23)) (fun z24 z25 z26 z27 g28 g29 =>
ip_b9 ((if z24 = (1 : Int32) then
(ip_b6 (fLR_readSize z25 v_RB_end z26 z27 z5 z6 z7 v_aChosen g28 g29) (fun z39 z40 z41 z42 g43 g44 =>
ip_b1 (ip_ast 16 g22 z21 z39) (fun g45 =>
ip_b1 (ip_ald 16 g45 z21) (fun z46 =>
ip_lt (z7 + z46) (fun z47 =>
ip_b1 ((if 0 ≤ z5 then
(some z5)
else
(some z1))) (fun z48 =>
some (z40, z41, z42, z48, z1, z47, g43, g44, g45)))))))
else
(some (z25, z26, z27, z5, z6, z7, g28, g29, g22)))) (fun z30 z31 z32 z33 z34 z35 g36 g37 g38 =>
ip_lt (z1 + (1 : Int32)) (fun z49 =>
some (.inl (z49, z30, z31, z32, z33, z34, z35, g36, g37, g38))))))))))
def fLR_readSizes (v_RB_place : Int32) (v_RB_end : Int32) (v_BD_range : Int32) (v_BD_value : Int32) (v_LR_first : Int32) (v_LR_last : Int32) (v_LR_sum : Int32) (v_aChosen : Nat → Int32) (v_aChances : Nat → Int32) (v_aCounts : Nat → Int32) (v_aGroup : Nat → Int32)  : Option (Int32 × Int32 × Int32 × Int32 × Int32 × Int32 × (Nat → Int32) × (Nat → Int32) × (Nat → Int32)) :=
ip_b10 (ip_lp10 (fLR_readSizes_B17 v_RB_end v_aChosen) 1000 (0 : Int32) v_RB_place v_BD_range v_BD_value (-1 : Int32) (-1 : Int32) (0 : Int32) v_aChances v_aCounts v_aGroup) (fun x11 x12 x13 x14 x15 x16 x17 y18 y19 y20 =>
some (x12, x13, x14, x15, x16, x17, y18, y19, y20))
abbrev rmLR_readSigns : Room := { frames := 2, cells := 0, slots := 0, locals := 45 }
abbrev wLR_readSigns (ad : Nat → Nat) (cI : ClassId) (v_RB_place : Int32) (v_RB_end : Int32) (v_BD_range : Int32) (v_BD_value : Int32) (v_LR_first : Int32) (v_LR_last : Int32) (v_LR_sum : Int32) (v_aChosen : Nat → Int32) (v_aCounts : Nat → Int32) (v_aGroup : Nat → Int32) : va_W := [(ad 2, .inr (2, [.ref (ad 13), .int v_RB_place, .int v_RB_end])), (ad 4, .inr (4, [.ref (ad 2), .ref (ad 16), .ref (ad 17), .int v_BD_range, .int v_BD_value])), (ad 8, .inr (8, [.ref (ad 4), .ref (ad 21), .ref (ad 24), .int v_LR_first, .int v_LR_last, .int v_LR_sum])), (ad 13, .inl (cI, 240, .inl v_aChosen)), (ad 17, .inl (cI, 3, .inl v_aCounts)), (ad 24, .inl (cI, 16, .inl v_aGroup))]
def fLR_readSigns_B2 (v_RB_end : Int32) (v_BD_range : Int32) (v_LR_first : Int32) (v_LR_sum : Int32) (v_aChosen : Nat → Int32) (p1 : Int32) (z1 : Int32) (z2 : Int32) (z3 : Int32) (g4 : Nat → Int32) (g5 : Nat → Int32) : Option ((Int32 × Int32 × Int32 × (Nat → Int32) × (Nat → Int32)) ⊕ (Int32 × Int32 × Int32 × (Nat → Int32) × (Nat → Int32))) :=
(if (16 : Int32) ≤ z1 then
(some (.inr (z1, z2, z3, g4, g5)))
else
(ip_b1 (ip_ald 16 tb_order z1) (fun z11 =>
ip_b1 (ip_ald 16 g5 z11) (fun z12 =>
ip_b4 ((if z12 = 0 then
(some (z2, z3, g4, g5))
else
(ip_b4 ((if p1 = 0 then
(ip_b4 (fBD_freeBits z2 v_RB_end v_BD_range z3 v_aChosen g4 (1 : Int32)) (fun z21 z22 z23 g24 =>
some (z21, z22, z23, g24)))
else
(if z1 = v_LR_first then
(some ((v_LR_sum &&& (1 : Int32)), z2, z3, g4))
else
(ip_b4 (fBD_freeBits z2 v_RB_end v_BD_range z3 v_aChosen g4 (1 : Int32)) (fun z25 z26 z27 g28 =>
some (z25, z26, z27, g28)))))) (fun z17 z18 z19 g20 =>
ip_b1 ((if z17 = (1 : Int32) then
(ip_b1 (ip_ald 16 g5 z11) (fun z31 =>
some (-z31)))
else
(ip_b1 (ip_ald 16 g5 z11) (fun z30 =>
some z30)))) (fun z29 =>
ip_b1 (ip_ast 16 g5 z11 z29) (fun g32 =>
some (z18, z19, g20, g32))))))) (fun z13 z14 g15 g16 =>
ip_lt (z1 + (1 : Int32)) (fun z33 =>
some (.inl (z33, z13, z14, g15, g16))))))))
def fLR_readSigns (v_RB_place : Int32) (v_RB_end : Int32) (v_BD_range : Int32) (v_BD_value : Int32) (v_LR_first : Int32) (v_LR_last : Int32) (v_LR_sum : Int32) (v_aChosen : Nat → Int32) (v_aCounts : Nat → Int32) (v_aGroup : Nat → Int32) (p1 : Int32) : Option (Int32 × Int32 × (Nat → Int32) × (Nat → Int32)) :=
ip_b5 (ip_lp5 (fLR_readSigns_B2 v_RB_end v_BD_range v_LR_first v_LR_sum v_aChosen p1) 1000 (0 : Int32) v_RB_place v_BD_value v_aCounts v_aGroup) (fun x6 x7 x8 y9 y10 =>
some (x7, x8, y9, y10))
abbrev rmLR_keepGroup : Room := { frames := 0, cells := 0, slots := 0, locals := 0 }
abbrev wLR_keepGroup (ad : Nat → Nat) (cI : ClassId) (v_LR_first : Int32) (v_LR_last : Int32) (v_LR_sum : Int32) (v_aLevels : Nat → Int32) (v_aGroup : Nat → Int32) : va_W := [(ad 8, .inr (8, [.ref (ad 4), .ref (ad 21), .ref (ad 24), .int v_LR_first, .int v_LR_last, .int v_LR_sum])), (ad 21, .inl (cI, 256, .inl v_aLevels)), (ad 24, .inl (cI, 16, .inl v_aGroup))]
def fLR_keepGroup_B2 (v_aGroup : Nat → Int32) (p1 : Int32) (z1 : Int32) (g2 : Nat → Int32) : Option ((Int32 × (Nat → Int32)) ⊕ (Int32 × (Nat → Int32))) :=
(if (16 : Int32) ≤ z1 then
(some (.inr (z1, g2)))
else
(ip_b1 (ip_ald 16 v_aGroup z1) (fun z5 =>
ip_b1 (ip_ast 256 g2 ((p1 + ((z1 >>> ((2 : Int32) &&& 31)) * (16 : Int32))) + (z1 &&& (3 : Int32))) z5) (fun g6 =>
ip_lt (z1 + (1 : Int32)) (fun z7 =>
some (.inl (z7, g6)))))))
def fLR_keepGroup (v_LR_first : Int32) (v_LR_last : Int32) (v_LR_sum : Int32) (v_aLevels : Nat → Int32) (v_aGroup : Nat → Int32) (p1 : Int32) : Option ((Nat → Int32)) :=
ip_b2 (ip_lp2 (fLR_keepGroup_B2 v_aGroup p1) 1000 (0 : Int32) v_aLevels) (fun x3 y4 =>
some y4)
abbrev rmLR_readLeaf : Room := { frames := 4, cells := 0, slots := 0, locals := 91 }
abbrev wLR_readLeaf (ad : Nat → Nat) (cI : ClassId) (v_RB_place : Int32) (v_RB_end : Int32) (v_BD_range : Int32) (v_BD_value : Int32) (v_LF_x : Int32) (v_LF_y : Int32) (v_LF_side : Int32) (v_LF_mode : Int32) (v_LF_skip : Int32) (v_LR_first : Int32) (v_LR_last : Int32) (v_LR_sum : Int32) (v_aChosen : Nat → Int32) (v_aValues : Nat → Int32) (v_aChances : Nat → Int32) (v_aCounts : Nat → Int32) (v_aLevels : Nat → Int32) (v_aGroup : Nat → Int32) : va_W := [(ad 2, .inr (2, [.ref (ad 13), .int v_RB_place, .int v_RB_end])), (ad 4, .inr (4, [.ref (ad 2), .ref (ad 16), .ref (ad 17), .int v_BD_range, .int v_BD_value])), (ad 5, .inr (5, [.int v_LF_x, .int v_LF_y, .int v_LF_side, .int v_LF_mode, .int v_LF_skip])), (ad 8, .inr (8, [.ref (ad 4), .ref (ad 21), .ref (ad 24), .int v_LR_first, .int v_LR_last, .int v_LR_sum])), (ad 13, .inl (cI, 240, .inl v_aChosen)), (ad 14, .inl (cI, 10, .inl v_aValues)), (ad 16, .inl (cI, 14, .inl v_aChances)), (ad 17, .inl (cI, 3, .inl v_aCounts)), (ad 21, .inl (cI, 256, .inl v_aLevels)), (ad 24, .inl (cI, 16, .inl v_aGroup))]
def fLR_readLeaf_B94 (v_RB_end : Int32) (v_LF_x : Int32) (v_LF_y : Int32) (v_LF_side : Int32) (v_LF_mode : Int32) (v_aChosen : Nat → Int32) (v_aValues : Nat → Int32) (z1 : Int32) (z9 : Int32) (z13 : Int32) (z24 : Int32) (z25 : Int32) (z26 : Int32) (z27 : Int32) (z28 : Int32) (z29 : Int32) (z30 : Int32) (z31 : Int32) (g32 : Nat → Int32) (g33 : Nat → Int32) (g34 : Nat → Int32) (g35 : Nat → Int32) : Option ((Int32 × Int32 × Int32 × Int32 × Int32 × Int32 × Int32 × (Nat → Int32) × (Nat → Int32) × (Nat → Int32) × (Nat → Int32)) ⊕ (Int32 × Int32 × Int32 × Int32 × Int32 × Int32 × Int32 × (Nat → Int32) × (Nat → Int32) × (Nat → Int32) × (Nat → Int32))) :=
(if z24 ≤ z25 then
(some (.inr (z25, z26, z27, z28, z29, z30, z31, g32, g33, g34, g35)))
else
(ip_b1 ((if z25 = 0 then
(some (7 : Int32))
else
(some (8 : Int32)))) (fun z47 =>
ip_b9 ((if z9 = 0 then
(ip_b1 (fAR_fill16 g35 (0 : Int32)) (fun g57 =>
some (z26, z27, z28, z29, z30, z31, g32, g33, g57)))
else
(if z1 = 0 then
(ip_b9 (fLR_readSizes z26 v_RB_end z27 z28 z29 z30 z31 v_aChosen g32 g33 g35) (fun z58 z59 z60 z61 z62 z63 g64 g65 g66 =>
ip_b1 (ip_ald 10 v_aValues (1 : Int32)) (fun z67 =>
ip_b1 ((if z67 = (1 : Int32) then
(if (z62 - z61) < (4 : Int32) then
(some (0 : Int32))
else
(some (1 : Int32)))
else
(some (0 : Int32)))) (fun z68 =>
ip_b4 (fLR_readSigns z58 v_RB_end z59 z60 z61 z62 z63 v_aChosen g65 g66 z68) (fun z69 z70 g71 g72 =>
some (z69, z59, z70, z61, z62, z63, g64, g71, g72))))))
else
(ip_b6 (fBD_bin z26 v_RB_end z27 z28 v_aChosen g32 g33 z47) (fun z73 z74 z75 z76 g77 g78 =>
(if z73 = (1 : Int32) then
(ip_b9 (fLR_readSizes z74 v_RB_end z75 z76 z29 z30 z31 v_aChosen g77 g78 g35) (fun z80 z81 z82 z83 z84 z85 g86 g87 g88 =>
ip_b1 (ip_ald 10 v_aValues (1 : Int32)) (fun z89 =>
ip_b1 ((if z89 = (1 : Int32) then
(if (z84 - z83) < (4 : Int32) then
(some (0 : Int32))
else
(some (1 : Int32)))
else
(some (0 : Int32)))) (fun z90 =>
ip_b4 (fLR_readSigns z80 v_RB_end z81 z82 z83 z84 z85 v_aChosen g87 g88 z90) (fun z91 z92 g93 g94 =>
some (z91, z81, z92, z83, z84, z85, g86, g93, g94))))))
else
(ip_b1 (fAR_fill16 g35 (0 : Int32)) (fun g79 =>
some (z74, z75, z76, z29, z30, z31, g77, g78, g79))))))))) (fun z48 z49 z50 z51 z52 z53 g54 g55 g56 =>
ip_b1 (fLF_placeInPicture v_LF_x v_LF_y v_LF_side v_LF_mode z13 ((4 : Int32) * (z25 &&& (1 : Int32))) ((4 : Int32) * (z25 >>> ((1 : Int32) &&& 31)))) (fun z95 =>
ip_b1 (fLR_keepGroup z51 z52 z53 g34 g56 z95) (fun g96 =>
ip_lt (z25 + (1 : Int32)) (fun z97 =>
some (.inl (z97, z48, z49, z50, z51, z52, z53, g54, g55, g96, g56)))))))))
def fLR_readLeaf (v_RB_place : Int32) (v_RB_end : Int32) (v_BD_range : Int32) (v_BD_value : Int32) (v_LF_x : Int32) (v_LF_y : Int32) (v_LF_side : Int32) (v_LF_mode : Int32) (v_LF_skip : Int32) (v_LR_first : Int32) (v_LR_last : Int32) (v_LR_sum : Int32) (v_aChosen : Nat → Int32) (v_aValues : Nat → Int32) (v_aChances : Nat → Int32) (v_aCounts : Nat → Int32) (v_aLevels : Nat → Int32) (v_aGroup : Nat → Int32)  : Option (Int32 × Int32 × Int32 × Int32 × Int32 × Int32 × Int32 × (Nat → Int32) × (Nat → Int32) × (Nat → Int32) × (Nat → Int32)) :=
ip_b1 ((if v_LF_side = (8 : Int32) then
(some (1 : Int32))
else
(some (0 : Int32)))) (fun z1 =>
ip_b1 ((if z1 = 0 then
(some (4 : Int32))
else
(some (5 : Int32)))) (fun z2 =>
ip_b6 (fBD_bin v_RB_place v_RB_end v_BD_range v_BD_value v_aChosen v_aChances v_aCounts z2) (fun z3 z4 z5 z6 g7 g8 =>
ip_b1 ((if z3 = (1 : Int32) then
(some (1 : Int32))
else
(some (0 : Int32)))) (fun z9 =>
ip_b6 ((if z9 = 0 then
(some (z4, z5, z6, v_LF_skip, g7, g8))
else
(if z1 = 0 then
(ip_b1 (ip_ald 10 v_aValues (2 : Int32)) (fun z16 =>
(if z16 = (1 : Int32) then
(ip_b6 (fBD_bin z4 v_RB_end z5 z6 v_aChosen g7 g8 (6 : Int32)) (fun z17 z18 z19 z20 g21 g22 =>
ip_b1 ((if z17 = (1 : Int32) then
(some (1 : Int32))
else
(some (0 : Int32)))) (fun z23 =>
ip_zk z23 (
some (z18, z19, z20, z23, g21, g22)))))
else
(some (z4, z5, z6, v_LF_skip, g7, g8)))))
else
(some (z4, z5, z6, v_LF_skip, g7, g8))))) (fun z10 z11 z12 z13 g14 g15 =>
ip_b1 ((if z1 = 0 then
(some (1 : Int32))
else
(some (4 : Int32)))) (fun z24 =>
ip_b11 (ip_lp11 (fLR_readLeaf_B94 v_RB_end v_LF_x v_LF_y v_LF_side v_LF_mode v_aChosen v_aValues z1 z9 z13 z24) 1000 (0 : Int32) z10 z11 z12 v_LR_first v_LR_last v_LR_sum g14 g15 v_aLevels v_aGroup) (fun x36 x37 x38 x39 x40 x41 x42 y43 y44 y45 y46 =>
some (x37, x38, x39, z13, x40, x41, x42, y43, y44, y45, y46))))))))
abbrev rmIP_bring : Room := { frames := 1, cells := 0, slots := 0, locals := 14 }
abbrev wIP_bring (ad : Nat → Nat) (cI : ClassId)  : va_W := []
def fIP_bring  (p1 : Int32) (p2 : Int32) (p3 : Int32) : Option (Int32) :=
ip_lt (if p1 < p3 then p1 else p3) (fun z1 =>
ip_lt (if p2 < z1 then z1 else p2) (fun z2 =>
some z2))
abbrev rmRS_scaleLevels : Room := { frames := 2, cells := 0, slots := 0, locals := 43 }
abbrev wRS_scaleLevels (ad : Nat → Nat) (cI : ClassId) (v_LF_x : Int32) (v_LF_y : Int32) (v_LF_side : Int32) (v_LF_mode : Int32) (v_LF_skip : Int32) (v_aLevels : Nat → Int32) (v_aCoef : Nat → Int32) : va_W := [(ad 5, .inr (5, [.int v_LF_x, .int v_LF_y, .int v_LF_side, .int v_LF_mode, .int v_LF_skip])), (ad 9, .inr (9, [.ref (ad 21), .ref (ad 25), .ref (ad 26), .ref (ad 27)])), (ad 21, .inl (cI, 256, .inl v_aLevels)), (ad 25, .inl (cI, 64, .inl v_aCoef))]
def fRS_scaleLevels_B36 (v_LF_x : Int32) (v_LF_y : Int32) (v_LF_side : Int32) (v_LF_mode : Int32) (v_LF_skip : Int32) (v_aLevels : Nat → Int32) (p2 : Int32) (z1 : Int32) (z2 : Int32) (z3 : Int32) (z7 : Int32) (g8 : Nat → Int32) : Option ((Int32 × (Nat → Int32)) ⊕ (Int32 × (Nat → Int32))) :=
(if v_LF_side ≤ z7 then
(some (.inr (z7, g8)))
else
(ip_b1 (fLF_placeInPicture v_LF_x v_LF_y v_LF_side v_LF_mode v_LF_skip z7 z3) (fun z11 =>
ip_b1 (ip_ald 256 v_aLevels z11) (fun z12 =>
ip_b1 (ip_ald 6 tb_scales (p2 - p2 / (6 : Int32) * (6 : Int32))) (fun z13 =>
ip_lt ((z12 * z13) <<< ((p2 / (6 : Int32)) &&& 31)) (fun z14 =>
ip_b1 (fIP_bring ((z14 + z2) >>> (z1 &&& 31)) (-32768 : Int32) (32767 : Int32)) (fun z15 =>
ip_b1 (ip_ast 64 g8 ((z3 * v_LF_side) + z7) z15) (fun g16 =>
ip_lt (z7 + (1 : Int32)) (fun z17 =>
some (.inl (z17, g16)))))))))))
def fRS_scaleLevels_B24 (v_LF_x : Int32) (v_LF_y : Int32) (v_LF_side : Int32) (v_LF_mode : Int32) (v_LF_skip : Int32) (v_aLevels : Nat → Int32) (p2 : Int32) (z1 : Int32) (z2 : Int32) (z3 : Int32) (g4 : Nat → Int32) : Option ((Int32 × (Nat → Int32)) ⊕ (Int32 × (Nat → Int32))) :=
(if v_LF_side ≤ z3 then
(some (.inr (z3, g4)))
else
(ip_b2 (ip_lp2 (fRS_scaleLevels_B36 v_LF_x v_LF_y v_LF_side v_LF_mode v_LF_skip v_aLevels p2 z1 z2 z3) 1000 (0 : Int32) g4) (fun x9 y10 =>
ip_lt (z3 + (1 : Int32)) (fun z18 =>
some (.inl (z18, y10))))))
def fRS_scaleLevels (v_LF_x : Int32) (v_LF_y : Int32) (v_LF_side : Int32) (v_LF_mode : Int32) (v_LF_skip : Int32) (v_aLevels : Nat → Int32) (v_aCoef : Nat → Int32) (p2 : Int32) : Option ((Nat → Int32)) :=
ip_b1 ((if v_LF_side = (4 : Int32) then
(some (1 : Int32))
else
(some (2 : Int32)))) (fun z1 =>
ip_lt ((1 : Int32) <<< ((z1 - (1 : Int32)) &&& 31)) (fun z2 =>
ip_b2 (ip_lp2 (fRS_scaleLevels_B24 v_LF_x v_LF_y v_LF_side v_LF_mode v_LF_skip v_aLevels p2 z1 z2) 1000 (0 : Int32) v_aCoef) (fun x5 y6 =>
some y6)))
abbrev rmRS_scaleWithoutMatrix : Room := { frames := 0, cells := 0, slots := 0, locals := 0 }
abbrev wRS_scaleWithoutMatrix (ad : Nat → Nat) (cI : ClassId) (v_aCoef : Nat → Int32) (v_aResult : Nat → Int32) : va_W := [(ad 9, .inr (9, [.ref (ad 21), .ref (ad 25), .ref (ad 26), .ref (ad 27)])), (ad 25, .inl (cI, 64, .inl v_aCoef)), (ad 27, .inl (cI, 64, .inl v_aResult))]
def fRS_scaleWithoutMatrix_B2 (v_aCoef : Nat → Int32) (p1 : Int32) (z1 : Int32) (g2 : Nat → Int32) : Option ((Int32 × (Nat → Int32)) ⊕ (Int32 × (Nat → Int32))) :=
(if (p1 * p1) ≤ z1 then
(some (.inr (z1, g2)))
else
(ip_b1 (ip_ald 64 v_aCoef z1) (fun z5 =>
ip_b1 (ip_ast 64 g2 z1 (((z5 * (128 : Int32)) + (2048 : Int32)) >>> ((12 : Int32) &&& 31))) (fun g6 =>
ip_lt (z1 + (1 : Int32)) (fun z7 =>
some (.inl (z7, g6)))))))
def fRS_scaleWithoutMatrix (v_aCoef : Nat → Int32) (v_aResult : Nat → Int32) (p1 : Int32) : Option ((Nat → Int32)) :=
ip_b2 (ip_lp2 (fRS_scaleWithoutMatrix_B2 v_aCoef p1) 1000 (0 : Int32) v_aResult) (fun x3 y4 =>
some y4)
abbrev rmRS_matrix : Room := { frames := 0, cells := 0, slots := 0, locals := 0 }
abbrev wRS_matrix (ad : Nat → Nat) (cI : ClassId)  : va_W := []
def fRS_matrix  (p1 : Int32) (p2 : Int32) (p3 : Int32) : Option (Int32) :=
(if p1 = (4 : Int32) then
(ip_b1 (ip_ald 16 tb_four (((4 : Int32) * p2) + p3)) (fun z2 =>
some z2))
else
(if p2 = 0 then
(some (64 : Int32))
else
(ip_b1 (ip_ald 32 tb_wave (((((2 : Int32) * p3) + (1 : Int32)) * p2) - ((((2 : Int32) * p3) + (1 : Int32)) * p2) / (32 : Int32) * (32 : Int32))) (fun z1 =>
some z1))))
abbrev rmRS_goThroughColumns : Room := { frames := 2, cells := 0, slots := 0, locals := 36 }
abbrev wRS_goThroughColumns (ad : Nat → Nat) (cI : ClassId) (v_aCoef : Nat → Int32) (v_aBetween : Nat → Int32) : va_W := [(ad 9, .inr (9, [.ref (ad 21), .ref (ad 25), .ref (ad 26), .ref (ad 27)])), (ad 25, .inl (cI, 64, .inl v_aCoef)), (ad 26, .inl (cI, 64, .inl v_aBetween))]
def fRS_goThroughColumns_B21 (v_aCoef : Nat → Int32) (p1 : Int32) (z1 : Int32) (z5 : Int32) (z9 : Int32) (z10 : Int32) : Option ((Int32 × Int32) ⊕ (Int32 × Int32)) :=
(if p1 ≤ z10 then
(some (.inr (z9, z10)))
else
(ip_b1 (fRS_matrix p1 z10 z1) (fun z13 =>
ip_b1 (ip_ald 64 v_aCoef ((z10 * p1) + z5)) (fun z14 =>
ip_lt (z9 + (z13 * z14)) (fun z15 =>
ip_lt (z10 + (1 : Int32)) (fun z16 =>
some (.inl (z15, z16))))))))
def fRS_goThroughColumns_B9 (v_aCoef : Nat → Int32) (p1 : Int32) (z1 : Int32) (z5 : Int32) (g6 : Nat → Int32) : Option ((Int32 × (Nat → Int32)) ⊕ (Int32 × (Nat → Int32))) :=
(if p1 ≤ z5 then
(some (.inr (z5, g6)))
else
(ip_b2 (ip_lp2 (fRS_goThroughColumns_B21 v_aCoef p1 z1 z5) 1000 (64 : Int32) (0 : Int32)) (fun x11 x12 =>
ip_b1 (fIP_bring (x11 >>> ((7 : Int32) &&& 31)) (-32768 : Int32) (32767 : Int32)) (fun z17 =>
ip_b1 (ip_ast 64 g6 ((z1 * p1) + z5) z17) (fun g18 =>
ip_lt (z5 + (1 : Int32)) (fun z19 =>
some (.inl (z19, g18))))))))
def fRS_goThroughColumns_B2 (v_aCoef : Nat → Int32) (p1 : Int32) (z1 : Int32) (g2 : Nat → Int32) : Option ((Int32 × (Nat → Int32)) ⊕ (Int32 × (Nat → Int32))) :=
(if p1 ≤ z1 then
(some (.inr (z1, g2)))
else
(ip_b2 (ip_lp2 (fRS_goThroughColumns_B9 v_aCoef p1 z1) 1000 (0 : Int32) g2) (fun x7 y8 =>
ip_lt (z1 + (1 : Int32)) (fun z20 =>
some (.inl (z20, y8))))))
def fRS_goThroughColumns (v_aCoef : Nat → Int32) (v_aBetween : Nat → Int32) (p1 : Int32) : Option ((Nat → Int32)) :=
ip_b2 (ip_lp2 (fRS_goThroughColumns_B2 v_aCoef p1) 1000 (0 : Int32) v_aBetween) (fun x3 y4 =>
some y4)
abbrev rmRS_goThroughRows : Room := { frames := 1, cells := 0, slots := 0, locals := 22 }
abbrev wRS_goThroughRows (ad : Nat → Nat) (cI : ClassId) (v_aBetween : Nat → Int32) (v_aResult : Nat → Int32) : va_W := [(ad 9, .inr (9, [.ref (ad 21), .ref (ad 25), .ref (ad 26), .ref (ad 27)])), (ad 26, .inl (cI, 64, .inl v_aBetween)), (ad 27, .inl (cI, 64, .inl v_aResult))]
def fRS_goThroughRows_B22 (v_aBetween : Nat → Int32) (p1 : Int32) (z1 : Int32) (z5 : Int32) (z9 : Int32) (z10 : Int32) : Option ((Int32 × Int32) ⊕ (Int32 × Int32)) :=
(if p1 ≤ z10 then
(some (.inr (z9, z10)))
else
(ip_b1 (fRS_matrix p1 z10 z5) (fun z13 =>
ip_b1 (ip_ald 64 v_aBetween ((z1 * p1) + z10)) (fun z14 =>
ip_lt (z9 + (z13 * z14)) (fun z15 =>
ip_lt (z10 + (1 : Int32)) (fun z16 =>
some (.inl (z15, z16))))))))
def fRS_goThroughRows_B9 (v_aBetween : Nat → Int32) (p1 : Int32) (z1 : Int32) (z5 : Int32) (g6 : Nat → Int32) : Option ((Int32 × (Nat → Int32)) ⊕ (Int32 × (Nat → Int32))) :=
(if p1 ≤ z5 then
(some (.inr (z5, g6)))
else
(ip_b2 (ip_lp2 (fRS_goThroughRows_B22 v_aBetween p1 z1 z5) 1000 (2048 : Int32) (0 : Int32)) (fun x11 x12 =>
ip_b1 (ip_ast 64 g6 ((z1 * p1) + z5) (x11 >>> ((12 : Int32) &&& 31))) (fun g17 =>
ip_lt (z5 + (1 : Int32)) (fun z18 =>
some (.inl (z18, g17)))))))
def fRS_goThroughRows_B2 (v_aBetween : Nat → Int32) (p1 : Int32) (z1 : Int32) (g2 : Nat → Int32) : Option ((Int32 × (Nat → Int32)) ⊕ (Int32 × (Nat → Int32))) :=
(if p1 ≤ z1 then
(some (.inr (z1, g2)))
else
(ip_b2 (ip_lp2 (fRS_goThroughRows_B9 v_aBetween p1 z1) 1000 (0 : Int32) g2) (fun x7 y8 =>
ip_lt (z1 + (1 : Int32)) (fun z19 =>
some (.inl (z19, y8))))))
def fRS_goThroughRows (v_aBetween : Nat → Int32) (v_aResult : Nat → Int32) (p1 : Int32) : Option ((Nat → Int32)) :=
ip_b2 (ip_lp2 (fRS_goThroughRows_B2 v_aBetween p1) 1000 (0 : Int32) v_aResult) (fun x3 y4 =>
some y4)
abbrev rmRS_compute : Room := { frames := 3, cells := 0, slots := 0, locals := 70 }
abbrev wRS_compute (ad : Nat → Nat) (cI : ClassId) (v_LF_x : Int32) (v_LF_y : Int32) (v_LF_side : Int32) (v_LF_mode : Int32) (v_LF_skip : Int32) (v_aLevels : Nat → Int32) (v_aCoef : Nat → Int32) (v_aBetween : Nat → Int32) (v_aResult : Nat → Int32) : va_W := [(ad 5, .inr (5, [.int v_LF_x, .int v_LF_y, .int v_LF_side, .int v_LF_mode, .int v_LF_skip])), (ad 9, .inr (9, [.ref (ad 21), .ref (ad 25), .ref (ad 26), .ref (ad 27)])), (ad 21, .inl (cI, 256, .inl v_aLevels)), (ad 25, .inl (cI, 64, .inl v_aCoef)), (ad 26, .inl (cI, 64, .inl v_aBetween)), (ad 27, .inl (cI, 64, .inl v_aResult))]
def fRS_compute (v_LF_x : Int32) (v_LF_y : Int32) (v_LF_side : Int32) (v_LF_mode : Int32) (v_LF_skip : Int32) (v_aLevels : Nat → Int32) (v_aCoef : Nat → Int32) (v_aBetween : Nat → Int32) (v_aResult : Nat → Int32) (p2 : Int32) : Option ((Nat → Int32) × (Nat → Int32) × (Nat → Int32)) :=
ip_b1 (fRS_scaleLevels v_LF_x v_LF_y v_LF_side v_LF_mode v_LF_skip v_aLevels v_aCoef p2) (fun g1 =>
(if v_LF_skip = 0 then
(ip_b1 (fRS_goThroughColumns g1 v_aBetween v_LF_side) (fun g2 =>
ip_b1 (fRS_goThroughRows g2 v_aResult v_LF_side) (fun g3 =>
some (g1, g2, g3))))
else
(ip_b1 (fRS_scaleWithoutMatrix g1 v_aResult v_LF_side) (fun g4 =>
some (g1, v_aBetween, g4)))))
abbrev rmPR_collect : Room := { frames := 1, cells := 0, slots := 0, locals := 21 }
abbrev wPR_collect (ad : Nat → Nat) (cI : ClassId) (v_LF_x : Int32) (v_LF_y : Int32) (v_LF_side : Int32) (v_LF_mode : Int32) (v_LF_skip : Int32) (v_PR_side : Int32) (v_aPlain : Nat → Int32) (v_aSides : Nat → Int32) (v_aRefs : Nat → Int32) : va_W := [(ad 5, .inr (5, [.int v_LF_x, .int v_LF_y, .int v_LF_side, .int v_LF_mode, .int v_LF_skip])), (ad 6, .inr (6, [.ref (ad 18), .ref (ad 19), .ref (ad 20), .ref (ad 21), .ref (ad 22), .ref (ad 23)])), (ad 10, .inr (10, [.ref (ad 6), .ref (ad 28), .ref (ad 29), .int v_PR_side])), (ad 19, .inl (cI, 256, .inl v_aPlain)), (ad 23, .inl (cI, 256, .inl v_aSides)), (ad 28, .inl (cI, 33, .inl v_aRefs))]
def fPR_collect_B2 (v_LF_x : Int32) (v_LF_y : Int32) (v_PR_side : Int32) (v_aPlain : Nat → Int32) (v_aSides : Nat → Int32) (z1 : Int32) (g2 : Nat → Int32) : Option ((Int32 × (Nat → Int32)) ⊕ (Int32 × (Nat → Int32))) :=
(if ((4 : Int32) * v_PR_side) < z1 then
(some (.inr (z1, g2)))
else
(ip_lt (if (-1 : Int32) < ((z1 - ((2 : Int32) * v_PR_side)) - (1 : Int32)) then ((z1 - ((2 : Int32) * v_PR_side)) - (1 : Int32)) else (-1 : Int32)) (fun z5 =>
ip_lt (v_LF_x + z5) (fun z6 =>
ip_lt (if (-1 : Int32) < ((((2 : Int32) * v_PR_side) - (1 : Int32)) - z1) then ((((2 : Int32) * v_PR_side) - (1 : Int32)) - z1) else (-1 : Int32)) (fun z7 =>
ip_lt (v_LF_y + z7) (fun z8 =>
ip_b1 (fIP_inPicture z6 z8) (fun z9 =>
ip_b1 ((if z9 = 0 then
(some (0 : Int32))
else
(ip_b1 (fIP_placeOf z6 z8) (fun z11 =>
ip_b1 (ip_ald 256 v_aSides z11) (fun z12 =>
(if z12 = 0 then
(some (0 : Int32))
else
(some (1 : Int32)))))))) (fun z10 =>
ip_b1 ((if z10 = 0 then
(some (-1 : Int32))
else
(ip_b1 (fIP_placeOf z6 z8) (fun z14 =>
ip_b1 (ip_ald 256 v_aPlain z14) (fun z15 =>
some z15))))) (fun z13 =>
ip_b1 (ip_ast 33 g2 z1 z13) (fun g16 =>
ip_lt (z1 + (1 : Int32)) (fun z17 =>
some (.inl (z17, g16)))))))))))))
def fPR_collect (v_LF_x : Int32) (v_LF_y : Int32) (v_LF_side : Int32) (v_LF_mode : Int32) (v_LF_skip : Int32) (v_PR_side : Int32) (v_aPlain : Nat → Int32) (v_aSides : Nat → Int32) (v_aRefs : Nat → Int32)  : Option ((Nat → Int32)) :=
ip_b2 (ip_lp2 (fPR_collect_B2 v_LF_x v_LF_y v_PR_side v_aPlain v_aSides) 1000 (0 : Int32) v_aRefs) (fun x3 y4 =>
some y4)
abbrev rmPR_fillGaps : Room := { frames := 0, cells := 0, slots := 0, locals := 0 }
abbrev wPR_fillGaps (ad : Nat → Nat) (cI : ClassId) (v_PR_side : Int32) (v_aRefs : Nat → Int32) : va_W := [(ad 10, .inr (10, [.ref (ad 6), .ref (ad 28), .ref (ad 29), .int v_PR_side])), (ad 28, .inl (cI, 33, .inl v_aRefs))]
def fPR_fillGaps_B11 (v_aRefs : Nat → Int32) (z2 : Int32) (z3 : Int32) : Option ((Int32 × Int32) ⊕ (Int32 × Int32)) :=
(if z3 < 0 then
(some (.inr (z2, z3)))
else
(ip_b1 (ip_ald 33 v_aRefs z3) (fun z6 =>
ip_b1 ((if z6 = (-1 : Int32) then
(some z2)
else
(ip_b1 (ip_ald 33 v_aRefs z3) (fun z8 =>
some z8)))) (fun z7 =>
ip_lt (z3 + (-1 : Int32)) (fun z9 =>
some (.inl (z7, z9)))))))
def fPR_fillGaps_B44 (v_PR_side : Int32) (z10 : Int32) (z11 : Int32) (g12 : Nat → Int32) : Option ((Int32 × Int32 × (Nat → Int32)) ⊕ (Int32 × Int32 × (Nat → Int32))) :=
(if ((4 : Int32) * v_PR_side) < z11 then
(some (.inr (z10, z11, g12)))
else
(ip_b1 (ip_ald 33 g12 z11) (fun z16 =>
ip_b1 ((if z16 = (-1 : Int32) then
(some z10)
else
(ip_b1 (ip_ald 33 g12 z11) (fun z18 =>
some z18)))) (fun z17 =>
ip_b1 (ip_ast 33 g12 z11 z17) (fun g19 =>
ip_lt (z11 + (1 : Int32)) (fun z20 =>
some (.inl (z17, z20, g19))))))))
def fPR_fillGaps (v_PR_side : Int32) (v_aRefs : Nat → Int32)  : Option ((Nat → Int32)) :=
ip_lt ((4 : Int32) * v_PR_side) (fun z1 =>
ip_b2 (ip_lp2 (fPR_fillGaps_B11 v_aRefs) 1000 (128 : Int32) z1) (fun x4 x5 =>
ip_b3 (ip_lp3 (fPR_fillGaps_B44 v_PR_side) 1000 x4 (0 : Int32) v_aRefs) (fun x13 x14 y15 =>
some y15)))
abbrev rmPR_smooth : Room := { frames := 1, cells := 0, slots := 0, locals := 40 }
abbrev wPR_smooth (ad : Nat → Nat) (cI : ClassId) (v_PR_side : Int32) (v_aRefs : Nat → Int32) (v_aUnsm : Nat → Int32) : va_W := [(ad 10, .inr (10, [.ref (ad 6), .ref (ad 28), .ref (ad 29), .int v_PR_side])), (ad 28, .inl (cI, 33, .inl v_aRefs)), (ad 29, .inl (cI, 33, .inl v_aUnsm))]
def fPR_smooth_B17 (v_PR_side : Int32) (g1 : Nat → Int32) (z2 : Int32) (g3 : Nat → Int32) : Option ((Int32 × (Nat → Int32)) ⊕ (Int32 × (Nat → Int32))) :=
(if ((4 : Int32) * v_PR_side) ≤ z2 then
(some (.inr (z2, g3)))
else
(ip_b1 (ip_ald 33 g1 (z2 - (1 : Int32))) (fun z6 =>
ip_b1 (ip_ald 33 g1 z2) (fun z7 =>
ip_b1 (ip_ald 33 g1 (z2 + (1 : Int32))) (fun z8 =>
ip_b1 (ip_ast 33 g3 z2 ((((z6 + ((2 : Int32) * z7)) + z8) + (2 : Int32)) >>> ((2 : Int32) &&& 31))) (fun g9 =>
ip_lt (z2 + (1 : Int32)) (fun z10 =>
some (.inl (z10, g9)))))))))
def fPR_smooth (v_PR_side : Int32) (v_aRefs : Nat → Int32) (v_aUnsm : Nat → Int32)  : Option ((Nat → Int32) × (Nat → Int32)) :=
ip_lt (va_cpy v_aRefs v_aUnsm (0 : Int32).toNatClampNeg (0 : Int32).toNatClampNeg (33 : Int32).toNatClampNeg) (fun g1 =>
ip_b2 (ip_lp2 (fPR_smooth_B17 v_PR_side g1) 1000 (1 : Int32) v_aRefs) (fun x4 y5 =>
some (y5, g1)))
abbrev rmPR_left : Room := { frames := 0, cells := 0, slots := 0, locals := 0 }
abbrev wPR_left (ad : Nat → Nat) (cI : ClassId) (v_PR_side : Int32) (v_aRefs : Nat → Int32) : va_W := [(ad 10, .inr (10, [.ref (ad 6), .ref (ad 28), .ref (ad 29), .int v_PR_side])), (ad 28, .inl (cI, 33, .inl v_aRefs))]
def fPR_left (v_PR_side : Int32) (v_aRefs : Nat → Int32) (p1 : Int32) : Option (Int32) :=
ip_b1 (ip_ald 33 v_aRefs ((((2 : Int32) * v_PR_side) - (1 : Int32)) - p1)) (fun z1 =>
some z1)
abbrev rmPR_above : Room := { frames := 0, cells := 0, slots := 0, locals := 0 }
abbrev wPR_above (ad : Nat → Nat) (cI : ClassId) (v_PR_side : Int32) (v_aRefs : Nat → Int32) : va_W := [(ad 10, .inr (10, [.ref (ad 6), .ref (ad 28), .ref (ad 29), .int v_PR_side])), (ad 28, .inl (cI, 33, .inl v_aRefs))]
def fPR_above (v_PR_side : Int32) (v_aRefs : Nat → Int32) (p1 : Int32) : Option (Int32) :=
ip_b1 (ip_ald 33 v_aRefs ((((2 : Int32) * v_PR_side) + (1 : Int32)) + p1)) (fun z1 =>
some z1)
abbrev rmPR_mean : Room := { frames := 1, cells := 0, slots := 0, locals := 21 }
abbrev wPR_mean (ad : Nat → Nat) (cI : ClassId) (v_PR_side : Int32) (v_aRefs : Nat → Int32) : va_W := [(ad 10, .inr (10, [.ref (ad 6), .ref (ad 28), .ref (ad 29), .int v_PR_side])), (ad 28, .inl (cI, 33, .inl v_aRefs))]
def fPR_mean_B7 (v_PR_side : Int32) (v_aRefs : Nat → Int32) (z1 : Int32) (z2 : Int32) : Option ((Int32 × Int32) ⊕ (Int32 × Int32)) :=
(if v_PR_side ≤ z2 then
(some (.inr (z1, z2)))
else
(ip_b1 (fPR_left v_PR_side v_aRefs z2) (fun z5 =>
ip_b1 (fPR_above v_PR_side v_aRefs z2) (fun z6 =>
ip_lt (z1 + (z5 + z6)) (fun z7 =>
ip_lt (z2 + (1 : Int32)) (fun z8 =>
some (.inl (z7, z8))))))))
def fPR_mean (v_PR_side : Int32) (v_aRefs : Nat → Int32)  : Option (Int32) :=
ip_b2 (ip_lp2 (fPR_mean_B7 v_PR_side v_aRefs) 1000 v_PR_side (0 : Int32)) (fun x3 x4 =>
ip_b1 (ip_div x3 ((2 : Int32) * v_PR_side)) (fun z9 =>
some z9))
abbrev rmPR_plane : Room := { frames := 1, cells := 0, slots := 0, locals := 21 }
abbrev wPR_plane (ad : Nat → Nat) (cI : ClassId) (v_PR_side : Int32) (v_aRefs : Nat → Int32) : va_W := [(ad 10, .inr (10, [.ref (ad 6), .ref (ad 28), .ref (ad 29), .int v_PR_side])), (ad 28, .inl (cI, 33, .inl v_aRefs))]
def fPR_plane (v_PR_side : Int32) (v_aRefs : Nat → Int32) (p1 : Int32) (p2 : Int32) : Option (Int32) :=
ip_b1 (fPR_left v_PR_side v_aRefs p2) (fun z1 =>
ip_b1 (fPR_above v_PR_side v_aRefs v_PR_side) (fun z2 =>
ip_lt ((((v_PR_side - (1 : Int32)) - p1) * z1) + ((p1 + (1 : Int32)) * z2)) (fun z3 =>
ip_b1 (fPR_above v_PR_side v_aRefs p1) (fun z4 =>
ip_b1 (fPR_left v_PR_side v_aRefs v_PR_side) (fun z5 =>
ip_lt ((((v_PR_side - (1 : Int32)) - p2) * z4) + ((p2 + (1 : Int32)) * z5)) (fun z6 =>
ip_b1 (ip_div ((z3 + z6) + v_PR_side) ((2 : Int32) * v_PR_side)) (fun z7 =>
some z7)))))))
abbrev rmPR_blend : Room := { frames := 0, cells := 0, slots := 0, locals := 0 }
abbrev wPR_blend (ad : Nat → Nat) (cI : ClassId)  : va_W := []
def fPR_blend  (p1 : Int32) (p2 : Int32) (p3 : Int32) : Option (Int32) :=
some ((((((32 : Int32) - p3) * p1) + (p3 * p2)) + (16 : Int32)) >>> ((5 : Int32) &&& 31))
abbrev rmPR_steep : Room := { frames := 1, cells := 0, slots := 0, locals := 22 }
abbrev wPR_steep (ad : Nat → Nat) (cI : ClassId) (v_PR_side : Int32) (v_aRefs : Nat → Int32) : va_W := [(ad 10, .inr (10, [.ref (ad 6), .ref (ad 28), .ref (ad 29), .int v_PR_side])), (ad 28, .inl (cI, 33, .inl v_aRefs))]
def fPR_steep (v_PR_side : Int32) (v_aRefs : Nat → Int32) (p1 : Int32) (p2 : Int32) : Option (Int32) :=
ip_lt (p1 + (p2 >>> ((5 : Int32) &&& 31))) (fun z1 =>
ip_b1 (fPR_above v_PR_side v_aRefs z1) (fun z2 =>
ip_b1 (fPR_above v_PR_side v_aRefs (z1 + (1 : Int32))) (fun z3 =>
ip_b1 (fPR_blend z2 z3 (p2 &&& (31 : Int32))) (fun z4 =>
some z4))))
abbrev rmPR_flat : Room := { frames := 1, cells := 0, slots := 0, locals := 22 }
abbrev wPR_flat (ad : Nat → Nat) (cI : ClassId) (v_PR_side : Int32) (v_aRefs : Nat → Int32) : va_W := [(ad 10, .inr (10, [.ref (ad 6), .ref (ad 28), .ref (ad 29), .int v_PR_side])), (ad 28, .inl (cI, 33, .inl v_aRefs))]
def fPR_flat (v_PR_side : Int32) (v_aRefs : Nat → Int32) (p1 : Int32) (p2 : Int32) : Option (Int32) :=
ip_lt (p1 + (p2 >>> ((5 : Int32) &&& 31))) (fun z1 =>
ip_b1 (fPR_left v_PR_side v_aRefs z1) (fun z2 =>
ip_b1 (fPR_left v_PR_side v_aRefs (z1 + (1 : Int32))) (fun z3 =>
ip_b1 (fPR_blend z2 z3 (p2 &&& (31 : Int32))) (fun z4 =>
some z4))))
abbrev rmPR_corner : Room := { frames := 0, cells := 0, slots := 0, locals := 0 }
abbrev wPR_corner (ad : Nat → Nat) (cI : ClassId) (v_PR_side : Int32) (v_aRefs : Nat → Int32) : va_W := [(ad 10, .inr (10, [.ref (ad 6), .ref (ad 28), .ref (ad 29), .int v_PR_side])), (ad 28, .inl (cI, 33, .inl v_aRefs))]
def fPR_corner (v_PR_side : Int32) (v_aRefs : Nat → Int32)  : Option (Int32) :=
ip_b1 (ip_ald 33 v_aRefs ((2 : Int32) * v_PR_side)) (fun z1 =>
some z1)
abbrev rmPR_diagonal : Room := { frames := 1, cells := 0, slots := 0, locals := 21 }
abbrev wPR_diagonal (ad : Nat → Nat) (cI : ClassId) (v_PR_side : Int32) (v_aRefs : Nat → Int32) : va_W := [(ad 10, .inr (10, [.ref (ad 6), .ref (ad 28), .ref (ad 29), .int v_PR_side])), (ad 28, .inl (cI, 33, .inl v_aRefs))]
def fPR_diagonal (v_PR_side : Int32) (v_aRefs : Nat → Int32) (p1 : Int32) (p2 : Int32) : Option (Int32) :=
(if p1 = p2 then
(ip_b1 (fPR_corner v_PR_side v_aRefs) (fun z3 =>
some z3))
else
(if p1 ≤ p2 then
(ip_b1 (fPR_left v_PR_side v_aRefs ((p2 - p1) - (1 : Int32))) (fun z1 =>
some z1))
else
(ip_b1 (fPR_above v_PR_side v_aRefs ((p1 - p2) - (1 : Int32))) (fun z2 =>
some z2))))
abbrev rmPR_predictAt : Room := { frames := 2, cells := 0, slots := 0, locals := 45 }
abbrev wPR_predictAt (ad : Nat → Nat) (cI : ClassId) (v_PR_side : Int32) (v_aRefs : Nat → Int32) : va_W := [(ad 10, .inr (10, [.ref (ad 6), .ref (ad 28), .ref (ad 29), .int v_PR_side])), (ad 28, .inl (cI, 33, .inl v_aRefs))]
def fPR_predictAt (v_PR_side : Int32) (v_aRefs : Nat → Int32) (p1 : Int32) (p2 : Int32) (p3 : Int32) : Option (Int32) :=
(if p1 = (0 : Int32) then
(ip_b1 (fPR_plane v_PR_side v_aRefs p2 p3) (fun z1 =>
some z1))
else
(if p1 = (1 : Int32) then
(ip_b1 (fPR_diagonal v_PR_side v_aRefs p2 p3) (fun z2 =>
some z2))
else
(if p1 = (2 : Int32) then
(ip_b1 (fPR_left v_PR_side v_aRefs p3) (fun z3 =>
some z3))
else
(if p1 = (3 : Int32) then
(ip_b1 (fPR_above v_PR_side v_aRefs p2) (fun z4 =>
some z4))
else
(if p1 = (4 : Int32) then
(ip_b1 (fPR_steep v_PR_side v_aRefs p2 ((13 : Int32) * (p3 + (1 : Int32)))) (fun z5 =>
some z5))
else
(if p1 = (5 : Int32) then
(ip_b1 (fPR_above v_PR_side v_aRefs ((p2 + p3) + (1 : Int32))) (fun z6 =>
some z6))
else
(if p1 = (6 : Int32) then
(ip_b1 (fPR_flat v_PR_side v_aRefs p3 ((26 : Int32) * (p2 + (1 : Int32)))) (fun z7 =>
some z7))
else
(ip_b1 (fPR_diagonal v_PR_side v_aRefs p2 p3) (fun z8 =>
some z8)))))))))
abbrev rmPR_predict : Room := { frames := 3, cells := 0, slots := 0, locals := 68 }
abbrev wPR_predict (ad : Nat → Nat) (cI : ClassId) (v_LF_x : Int32) (v_LF_y : Int32) (v_LF_side : Int32) (v_LF_mode : Int32) (v_LF_skip : Int32) (v_PR_side : Int32) (v_aPlain : Nat → Int32) (v_aPredicted : Nat → Int32) (v_aSides : Nat → Int32) (v_aRefs : Nat → Int32) (v_aUnsm : Nat → Int32) : va_W := [(ad 5, .inr (5, [.int v_LF_x, .int v_LF_y, .int v_LF_side, .int v_LF_mode, .int v_LF_skip])), (ad 6, .inr (6, [.ref (ad 18), .ref (ad 19), .ref (ad 20), .ref (ad 21), .ref (ad 22), .ref (ad 23)])), (ad 10, .inr (10, [.ref (ad 6), .ref (ad 28), .ref (ad 29), .int v_PR_side])), (ad 19, .inl (cI, 256, .inl v_aPlain)), (ad 20, .inl (cI, 256, .inl v_aPredicted)), (ad 23, .inl (cI, 256, .inl v_aSides)), (ad 28, .inl (cI, 33, .inl v_aRefs)), (ad 29, .inl (cI, 33, .inl v_aUnsm))]
def fPR_predict_B84 (v_LF_x : Int32) (v_LF_y : Int32) (v_LF_side : Int32) (v_LF_mode : Int32) (v_LF_skip : Int32) (g3 : Nat → Int32) (z11 : Int32) (z13 : Int32) (z17 : Int32) (g18 : Nat → Int32) : Option ((Int32 × (Nat → Int32)) ⊕ (Int32 × (Nat → Int32))) :=
(if v_LF_side ≤ z17 then
(some (.inr (z17, g18)))
else
(ip_b1 ((if v_LF_mode = (1 : Int32) then
(some z11)
else
(ip_b1 (fPR_predictAt v_LF_side g3 v_LF_mode z17 z13) (fun z22 =>
some z22)))) (fun z21 =>
ip_b1 (fLF_placeInPicture v_LF_x v_LF_y v_LF_side v_LF_mode v_LF_skip z17 z13) (fun z23 =>
ip_b1 (ip_ast 256 g18 z23 z21) (fun g24 =>
ip_lt (z17 + (1 : Int32)) (fun z25 =>
some (.inl (z25, g24))))))))
def fPR_predict_B73 (v_LF_x : Int32) (v_LF_y : Int32) (v_LF_side : Int32) (v_LF_mode : Int32) (v_LF_skip : Int32) (g3 : Nat → Int32) (z11 : Int32) (z13 : Int32) (g14 : Nat → Int32) : Option ((Int32 × (Nat → Int32)) ⊕ (Int32 × (Nat → Int32))) :=
(if v_LF_side ≤ z13 then
(some (.inr (z13, g14)))
else
(ip_b2 (ip_lp2 (fPR_predict_B84 v_LF_x v_LF_y v_LF_side v_LF_mode v_LF_skip g3 z11 z13) 1000 (0 : Int32) g14) (fun x19 y20 =>
ip_lt (z13 + (1 : Int32)) (fun z26 =>
some (.inl (z26, y20))))))
def fPR_predict (v_LF_x : Int32) (v_LF_y : Int32) (v_LF_side : Int32) (v_LF_mode : Int32) (v_LF_skip : Int32) (v_PR_side : Int32) (v_aPlain : Nat → Int32) (v_aPredicted : Nat → Int32) (v_aSides : Nat → Int32) (v_aRefs : Nat → Int32) (v_aUnsm : Nat → Int32)  : Option (Int32 × (Nat → Int32) × (Nat → Int32) × (Nat → Int32)) :=
ip_b1 (fPR_collect v_LF_x v_LF_y v_LF_side v_LF_mode v_LF_skip v_LF_side v_aPlain v_aSides v_aRefs) (fun g1 =>
ip_b1 (fPR_fillGaps v_LF_side g1) (fun g2 =>
ip_b2 ((if v_LF_side = (8 : Int32) then
(if v_LF_mode = 0 then
(ip_b2 (fPR_smooth v_LF_side g2 v_aUnsm) (fun g5 g6 =>
some (g5, g6)))
else
(if v_LF_mode = (5 : Int32) then
(ip_b2 (fPR_smooth v_LF_side g2 v_aUnsm) (fun g7 g8 =>
some (g7, g8)))
else
(if v_LF_mode = (7 : Int32) then
(ip_b2 (fPR_smooth v_LF_side g2 v_aUnsm) (fun g9 g10 =>
some (g9, g10)))
else
(some (g2, v_aUnsm)))))
else
(some (g2, v_aUnsm)))) (fun g3 g4 =>
ip_b1 ((if v_LF_mode = (1 : Int32) then
(ip_b1 (fPR_mean v_LF_side g3) (fun z12 =>
some z12))
else
(some (0 : Int32)))) (fun z11 =>
ip_b2 (ip_lp2 (fPR_predict_B73 v_LF_x v_LF_y v_LF_side v_LF_mode v_LF_skip g3 z11) 1000 (0 : Int32) v_aPredicted) (fun x15 y16 =>
some (v_LF_side, y16, g3, g4))))))
abbrev rmPI_buildLeaf : Room := { frames := 4, cells := 0, slots := 0, locals := 93 }
abbrev wPI_buildLeaf (ad : Nat → Nat) (cI : ClassId) (v_LF_x : Int32) (v_LF_y : Int32) (v_LF_side : Int32) (v_LF_mode : Int32) (v_LF_skip : Int32) (v_PI_leaves : Int32) (v_PR_side : Int32) (v_aValues : Nat → Int32) (v_aPlain : Nat → Int32) (v_aPredicted : Nat → Int32) (v_aLevels : Nat → Int32) (v_aModes : Nat → Int32) (v_aSides : Nat → Int32) (v_aCoef : Nat → Int32) (v_aBetween : Nat → Int32) (v_aResult : Nat → Int32) (v_aRefs : Nat → Int32) (v_aUnsm : Nat → Int32) : va_W := [(ad 5, .inr (5, [.int v_LF_x, .int v_LF_y, .int v_LF_side, .int v_LF_mode, .int v_LF_skip])), (ad 6, .inr (6, [.ref (ad 18), .ref (ad 19), .ref (ad 20), .ref (ad 21), .ref (ad 22), .ref (ad 23)])), (ad 7, .inr (7, [.ref (ad 4), .ref (ad 14), .ref (ad 6), .ref (ad 5), .ref (ad 8), .ref (ad 9), .ref (ad 10), .ref (ad 11), .int v_PI_leaves])), (ad 9, .inr (9, [.ref (ad 21), .ref (ad 25), .ref (ad 26), .ref (ad 27)])), (ad 10, .inr (10, [.ref (ad 6), .ref (ad 28), .ref (ad 29), .int v_PR_side])), (ad 14, .inl (cI, 10, .inl v_aValues)), (ad 19, .inl (cI, 256, .inl v_aPlain)), (ad 20, .inl (cI, 256, .inl v_aPredicted)), (ad 21, .inl (cI, 256, .inl v_aLevels)), (ad 22, .inl (cI, 256, .inl v_aModes)), (ad 23, .inl (cI, 256, .inl v_aSides)), (ad 25, .inl (cI, 64, .inl v_aCoef)), (ad 26, .inl (cI, 64, .inl v_aBetween)), (ad 27, .inl (cI, 64, .inl v_aResult)), (ad 28, .inl (cI, 33, .inl v_aRefs)), (ad 29, .inl (cI, 33, .inl v_aUnsm))]
def fPI_buildLeaf_B43 (v_LF_x : Int32) (v_LF_y : Int32) (v_LF_side : Int32) (v_LF_mode : Int32) (v_LF_skip : Int32) (g4 : Nat → Int32) (g6 : Nat → Int32) (z9 : Int32) (z17 : Int32) (g18 : Nat → Int32) (g19 : Nat → Int32) (g20 : Nat → Int32) : Option ((Int32 × (Nat → Int32) × (Nat → Int32) × (Nat → Int32)) ⊕ (Int32 × (Nat → Int32) × (Nat → Int32) × (Nat → Int32))) :=
(if v_LF_side ≤ z17 then
(some (.inr (z17, g18, g19, g20)))
else
(ip_b1 (fLF_placeInPicture v_LF_x v_LF_y v_LF_side v_LF_mode v_LF_skip z17 z9) (fun z25 =>
ip_b1 (ip_ald 64 g4 ((z9 * v_LF_side) + z17)) (fun z26 =>
ip_b1 (ip_ald 256 g6 z25) (fun z27 =>
ip_b1 (fIP_bring (z27 + z26) (0 : Int32) (255 : Int32)) (fun z28 =>
ip_b1 (ip_ast 256 g18 z25 z28) (fun g29 =>
ip_b1 (ip_ast 256 g19 z25 v_LF_mode) (fun g30 =>
ip_b1 (ip_ast 256 g20 z25 v_LF_side) (fun g31 =>
ip_lt (z17 + (1 : Int32)) (fun z32 =>
some (.inl (z32, g29, g30, g31))))))))))))
def fPI_buildLeaf_B30 (v_LF_x : Int32) (v_LF_y : Int32) (v_LF_side : Int32) (v_LF_mode : Int32) (v_LF_skip : Int32) (g4 : Nat → Int32) (g6 : Nat → Int32) (z9 : Int32) (g10 : Nat → Int32) (g11 : Nat → Int32) (g12 : Nat → Int32) : Option ((Int32 × (Nat → Int32) × (Nat → Int32) × (Nat → Int32)) ⊕ (Int32 × (Nat → Int32) × (Nat → Int32) × (Nat → Int32))) :=
(if v_LF_side ≤ z9 then
(some (.inr (z9, g10, g11, g12)))
else
(ip_b4 (ip_lp4 (fPI_buildLeaf_B43 v_LF_x v_LF_y v_LF_side v_LF_mode v_LF_skip g4 g6 z9) 1000 (0 : Int32) g10 g11 g12) (fun x21 y22 y23 y24 =>
ip_lt (z9 + (1 : Int32)) (fun z33 =>
some (.inl (z33, y22, y23, y24))))))
def fPI_buildLeaf (v_LF_x : Int32) (v_LF_y : Int32) (v_LF_side : Int32) (v_LF_mode : Int32) (v_LF_skip : Int32) (v_PI_leaves : Int32) (v_PR_side : Int32) (v_aValues : Nat → Int32) (v_aPlain : Nat → Int32) (v_aPredicted : Nat → Int32) (v_aLevels : Nat → Int32) (v_aModes : Nat → Int32) (v_aSides : Nat → Int32) (v_aCoef : Nat → Int32) (v_aBetween : Nat → Int32) (v_aResult : Nat → Int32) (v_aRefs : Nat → Int32) (v_aUnsm : Nat → Int32)  : Option (Int32 × (Nat → Int32) × (Nat → Int32) × (Nat → Int32) × (Nat → Int32) × (Nat → Int32) × (Nat → Int32) × (Nat → Int32) × (Nat → Int32) × (Nat → Int32)) :=
ip_b1 (ip_ald 10 v_aValues (0 : Int32)) (fun z1 =>
ip_b3 (fRS_compute v_LF_x v_LF_y v_LF_side v_LF_mode v_LF_skip v_aLevels v_aCoef v_aBetween v_aResult z1) (fun g2 g3 g4 =>
ip_b4 (fPR_predict v_LF_x v_LF_y v_LF_side v_LF_mode v_LF_skip v_PR_side v_aPlain v_aPredicted v_aSides v_aRefs v_aUnsm) (fun z5 g6 g7 g8 =>
ip_b4 (ip_lp4 (fPI_buildLeaf_B30 v_LF_x v_LF_y v_LF_side v_LF_mode v_LF_skip g4 g6) 1000 (0 : Int32) v_aPlain v_aModes v_aSides) (fun x13 y14 y15 y16 =>
some (z5, y14, g6, y15, y16, g2, g3, g4, g7, g8)))))
abbrev rmRB_taken : Room := { frames := 0, cells := 0, slots := 0, locals := 0 }
abbrev wRB_taken (ad : Nat → Nat) (cI : ClassId) (v_RB_place : Int32) (v_RB_end : Int32) : va_W := [(ad 2, .inr (2, [.ref (ad 13), .int v_RB_place, .int v_RB_end]))]
def fRB_taken (v_RB_place : Int32) (v_RB_end : Int32)  : Option (Int32) :=
some (v_RB_place - (8 : Int32))
abbrev rmBD_end : Room := { frames := 1, cells := 0, slots := 0, locals := 20 }
abbrev wBD_end (ad : Nat → Nat) (cI : ClassId) (v_RB_place : Int32) (v_RB_end : Int32) (v_BD_range : Int32) (v_BD_value : Int32) (v_aCounts : Nat → Int32) : va_W := [(ad 2, .inr (2, [.ref (ad 13), .int v_RB_place, .int v_RB_end])), (ad 4, .inr (4, [.ref (ad 2), .ref (ad 16), .ref (ad 17), .int v_BD_range, .int v_BD_value])), (ad 17, .inl (cI, 3, .inl v_aCounts))]
def fBD_end (v_RB_place : Int32) (v_RB_end : Int32) (v_BD_range : Int32) (v_BD_value : Int32) (v_aCounts : Nat → Int32)  : Option ((Nat → Int32)) :=
ip_b1 (fRB_taken v_RB_place v_RB_end) (fun z1 =>
ip_b1 (ip_ast 3 v_aCounts (2 : Int32) z1) (fun g2 =>
some g2))
abbrev rmFI_smoothEdge : Room := { frames := 2, cells := 0, slots := 0, locals := 36 }
abbrev wFI_smoothEdge (ad : Nat → Nat) (cI : ClassId) (v_aSamples : Nat → Int32) : va_W := [(ad 11, .inr (11, [.ref (ad 18), .ref (ad 30)])), (ad 18, .inl (cI, 256, .inl v_aSamples))]
def fFI_smoothEdge (v_aSamples : Nat → Int32) (p1 : Int32) (p2 : Int32) (p3 : Int32) : Option ((Nat → Int32)) :=
ip_b1 (ip_ald 256 v_aSamples (p1 - ((2 : Int32) * p2))) (fun z1 =>
ip_b1 (ip_ald 256 v_aSamples (p1 - p2)) (fun z2 =>
ip_b1 (ip_ald 256 v_aSamples p1) (fun z3 =>
ip_b1 (ip_ald 256 v_aSamples (p1 + p2)) (fun z4 =>
ip_lt ((1 : Int32) + (p3 / (8 : Int32))) (fun z5 =>
ip_lt (((((9 : Int32) * (z3 - z2)) - ((3 : Int32) * (z4 - z1))) + (8 : Int32)) >>> ((4 : Int32) &&& 31)) (fun z6 =>
ip_lt (if 0 ≤ (z1 - z2) then (z1 - z2) else 0 - (z1 - z2)) (fun z7 =>
ip_lt (if 0 ≤ (z4 - z3) then (z4 - z3) else 0 - (z4 - z3)) (fun z8 =>
(if p3 ≤ (z7 + z8) then
(some v_aSamples)
else
(ip_lt (if 0 ≤ z6 then z6 else 0 - z6) (fun z9 =>
(if ((10 : Int32) * z5) ≤ z9 then
(some v_aSamples)
else
(ip_b1 (fIP_bring z6 (-z5) z5) (fun z10 =>
ip_b1 (fIP_bring (z2 + z10) (0 : Int32) (255 : Int32)) (fun z11 =>
ip_b1 (ip_ast 256 v_aSamples (p1 - p2) z11) (fun g12 =>
ip_b1 (fIP_bring (z3 - z10) (0 : Int32) (255 : Int32)) (fun z13 =>
ip_b1 (ip_ast 256 g12 p1 z13) (fun g14 =>
some g14))))))))))))))))))
abbrev rmFI_numberByNeighbours : Room := { frames := 1, cells := 0, slots := 0, locals := 21 }
abbrev wFI_numberByNeighbours (ad : Nat → Nat) (cI : ClassId) (v_aBefore : Nat → Int32) : va_W := [(ad 11, .inr (11, [.ref (ad 18), .ref (ad 30)])), (ad 30, .inl (cI, 256, .inl v_aBefore))]
def fFI_numberByNeighbours (v_aBefore : Nat → Int32) (p1 : Int32) (p2 : Int32) : Option (Int32) :=
ip_b1 (ip_ald 256 v_aBefore p1) (fun z1 =>
ip_b1 (ip_ald 256 v_aBefore (p1 - p2)) (fun z2 =>
ip_b1 (fJI_compare z2 z1) (fun z3 =>
ip_b1 (ip_ald 256 v_aBefore (p1 + p2)) (fun z4 =>
ip_b1 (fJI_compare z4 z1) (fun z5 =>
ip_lt (z3 + z5) (fun z6 =>
(if z6 = (-2 : Int32) then
(some (3 : Int32))
else
(if z6 = (-1 : Int32) then
(some (2 : Int32))
else
(if z6 = (0 : Int32) then
(some (-1 : Int32))
else
(if z6 = (1 : Int32) then
(some (1 : Int32))
else
(if z6 = (2 : Int32) then
(some (0 : Int32))
else
(some (-1 : Int32)))))))))))))
abbrev rmFI_offsetNumber : Room := { frames := 2, cells := 0, slots := 0, locals := 45 }
abbrev wFI_offsetNumber (ad : Nat → Nat) (cI : ClassId) (v_aValues : Nat → Int32) (v_aBefore : Nat → Int32) : va_W := [(ad 11, .inr (11, [.ref (ad 18), .ref (ad 30)])), (ad 14, .inl (cI, 10, .inl v_aValues)), (ad 30, .inl (cI, 256, .inl v_aBefore))]
def fFI_offsetNumber (v_aValues : Nat → Int32) (v_aBefore : Nat → Int32) (p2 : Int32) (p3 : Int32) : Option (Int32) :=
ip_b1 (fIP_placeOf p2 p3) (fun z1 =>
ip_b1 (ip_ald 10 v_aValues (4 : Int32)) (fun z2 =>
(if z2 = (1 : Int32) then
(if p2 ≤ 0 then
(some (-1 : Int32))
else
(if (15 : Int32) ≤ p2 then
(some (-1 : Int32))
else
(ip_b1 (fFI_numberByNeighbours v_aBefore z1 (1 : Int32)) (fun z3 =>
some z3))))
else
(if z2 = (2 : Int32) then
(if p3 ≤ 0 then
(some (-1 : Int32))
else
(if (15 : Int32) ≤ p3 then
(some (-1 : Int32))
else
(ip_b1 (fFI_numberByNeighbours v_aBefore z1 (16 : Int32)) (fun z4 =>
some z4))))
else
(ip_b1 (ip_ald 256 v_aBefore z1) (fun z5 =>
ip_b1 (ip_ald 10 v_aValues (9 : Int32)) (fun z6 =>
ip_lt (((z5 >>> ((5 : Int32) &&& 31)) - z6) &&& (7 : Int32)) (fun z7 =>
(if (4 : Int32) ≤ z7 then
(some (-1 : Int32))
else
(some z7))))))))))
abbrev rmFI_addOffsets : Room := { frames := 3, cells := 0, slots := 0, locals := 70 }
abbrev wFI_addOffsets (ad : Nat → Nat) (cI : ClassId) (v_aValues : Nat → Int32) (v_aSamples : Nat → Int32) (v_aBefore : Nat → Int32) : va_W := [(ad 11, .inr (11, [.ref (ad 18), .ref (ad 30)])), (ad 14, .inl (cI, 10, .inl v_aValues)), (ad 18, .inl (cI, 256, .inl v_aSamples)), (ad 30, .inl (cI, 256, .inl v_aBefore))]
def fFI_addOffsets_B26 (v_aValues : Nat → Int32) (g1 : Nat → Int32) (z2 : Int32) (z6 : Int32) (g7 : Nat → Int32) : Option ((Int32 × (Nat → Int32)) ⊕ (Int32 × (Nat → Int32))) :=
(if (16 : Int32) ≤ z6 then
(some (.inr (z6, g7)))
else
(ip_b1 (fFI_offsetNumber v_aValues g1 z6 z2) (fun z10 =>
ip_b1 ((if z10 < 0 then
(some g7)
else
(ip_b1 (fIP_placeOf z6 z2) (fun z12 =>
ip_b1 (ip_ald 256 g1 z12) (fun z13 =>
ip_b1 (ip_ald 10 v_aValues ((5 : Int32) + z10)) (fun z14 =>
ip_b1 (fIP_bring (z13 + z14) (0 : Int32) (255 : Int32)) (fun z15 =>
ip_b1 (ip_ast 256 g7 z12 z15) (fun g16 =>
some g16)))))))) (fun g11 =>
ip_lt (z6 + (1 : Int32)) (fun z17 =>
some (.inl (z17, g11)))))))
def fFI_addOffsets_B18 (v_aValues : Nat → Int32) (g1 : Nat → Int32) (z2 : Int32) (g3 : Nat → Int32) : Option ((Int32 × (Nat → Int32)) ⊕ (Int32 × (Nat → Int32))) :=
(if (16 : Int32) ≤ z2 then
(some (.inr (z2, g3)))
else
(ip_b2 (ip_lp2 (fFI_addOffsets_B26 v_aValues g1 z2) 1000 (0 : Int32) g3) (fun x8 y9 =>
ip_lt (z2 + (1 : Int32)) (fun z18 =>
some (.inl (z18, y9))))))
def fFI_addOffsets (v_aValues : Nat → Int32) (v_aSamples : Nat → Int32) (v_aBefore : Nat → Int32)  : Option ((Nat → Int32) × (Nat → Int32)) :=
ip_lt (va_cpy v_aSamples v_aBefore (0 : Int32).toNatClampNeg (0 : Int32).toNatClampNeg (256 : Int32).toNatClampNeg) (fun g1 =>
ip_b2 (ip_lp2 (fFI_addOffsets_B18 v_aValues g1) 1000 (0 : Int32) v_aSamples) (fun x4 y5 =>
some (y5, g1)))
abbrev rmFI_apply : Room := { frames := 4, cells := 0, slots := 0, locals := 95 }
abbrev wFI_apply (ad : Nat → Nat) (cI : ClassId) (v_aValues : Nat → Int32) (v_aSamples : Nat → Int32) (v_aBefore : Nat → Int32) : va_W := [(ad 11, .inr (11, [.ref (ad 18), .ref (ad 30)])), (ad 14, .inl (cI, 10, .inl v_aValues)), (ad 18, .inl (cI, 256, .inl v_aSamples)), (ad 30, .inl (cI, 256, .inl v_aBefore))]
def fFI_apply_B9 (v_aValues : Nat → Int32) (z3 : Int32) (g4 : Nat → Int32) : Option ((Int32 × (Nat → Int32)) ⊕ (Int32 × (Nat → Int32))) :=
(if (16 : Int32) ≤ z3 then
(some (.inr (z3, g4)))
else
(ip_b1 (fIP_placeOf (8 : Int32) z3) (fun z7 =>
ip_b1 (ip_ald 10 v_aValues (0 : Int32)) (fun z8 =>
ip_b1 (fFI_smoothEdge g4 z7 (1 : Int32) z8) (fun g9 =>
ip_lt (z3 + (1 : Int32)) (fun z10 =>
some (.inl (z10, g9))))))))
def fFI_apply_B37 (v_aValues : Nat → Int32) (z11 : Int32) (g12 : Nat → Int32) : Option ((Int32 × (Nat → Int32)) ⊕ (Int32 × (Nat → Int32))) :=
(if (16 : Int32) ≤ z11 then
(some (.inr (z11, g12)))
else
(ip_b1 (fIP_placeOf z11 (8 : Int32)) (fun z15 =>
ip_b1 (ip_ald 10 v_aValues (0 : Int32)) (fun z16 =>
ip_b1 (fFI_smoothEdge g12 z15 (16 : Int32) z16) (fun g17 =>
ip_lt (z11 + (1 : Int32)) (fun z18 =>
some (.inl (z18, g17))))))))
def fFI_apply (v_aValues : Nat → Int32) (v_aSamples : Nat → Int32) (v_aBefore : Nat → Int32)  : Option ((Nat → Int32) × (Nat → Int32)) :=
ip_b1 (ip_ald 10 v_aValues (3 : Int32)) (fun z1 =>
ip_b1 ((if z1 = (1 : Int32) then
(ip_b2 (ip_lp2 (fFI_apply_B9 v_aValues) 1000 (0 : Int32) v_aSamples) (fun x5 y6 =>
ip_b2 (ip_lp2 (fFI_apply_B37 v_aValues) 1000 (0 : Int32) y6) (fun x13 y14 =>
some y14)))
else
(some v_aSamples))) (fun g2 =>
ip_b1 (ip_ald 10 v_aValues (4 : Int32)) (fun z19 =>
(if z19 = 0 then
(some (g2, v_aBefore))
else
(ip_b2 (fFI_addOffsets v_aValues g2 v_aBefore) (fun g20 g21 =>
some (g20, g21)))))))
abbrev rmPI_readUnit : Room := { frames := 5, cells := 0, slots := 0, locals := 118 }
abbrev wPI_readUnit (ad : Nat → Nat) (cI : ClassId) (v_RB_place : Int32) (v_RB_end : Int32) (v_BD_range : Int32) (v_BD_value : Int32) (v_LF_x : Int32) (v_LF_y : Int32) (v_LF_side : Int32) (v_LF_mode : Int32) (v_LF_skip : Int32) (v_PI_leaves : Int32) (v_LR_first : Int32) (v_LR_last : Int32) (v_LR_sum : Int32) (v_PR_side : Int32) (v_aChosen : Nat → Int32) (v_aValues : Nat → Int32) (v_aChances : Nat → Int32) (v_aCounts : Nat → Int32) (v_aSamples : Nat → Int32) (v_aPlain : Nat → Int32) (v_aPredicted : Nat → Int32) (v_aLevels : Nat → Int32) (v_aModes : Nat → Int32) (v_aSides : Nat → Int32) (v_aGroup : Nat → Int32) (v_aCoef : Nat → Int32) (v_aBetween : Nat → Int32) (v_aResult : Nat → Int32) (v_aRefs : Nat → Int32) (v_aUnsm : Nat → Int32) (v_aBefore : Nat → Int32) : va_W := [(ad 2, .inr (2, [.ref (ad 13), .int v_RB_place, .int v_RB_end])), (ad 4, .inr (4, [.ref (ad 2), .ref (ad 16), .ref (ad 17), .int v_BD_range, .int v_BD_value])), (ad 5, .inr (5, [.int v_LF_x, .int v_LF_y, .int v_LF_side, .int v_LF_mode, .int v_LF_skip])), (ad 6, .inr (6, [.ref (ad 18), .ref (ad 19), .ref (ad 20), .ref (ad 21), .ref (ad 22), .ref (ad 23)])), (ad 7, .inr (7, [.ref (ad 4), .ref (ad 14), .ref (ad 6), .ref (ad 5), .ref (ad 8), .ref (ad 9), .ref (ad 10), .ref (ad 11), .int v_PI_leaves])), (ad 8, .inr (8, [.ref (ad 4), .ref (ad 21), .ref (ad 24), .int v_LR_first, .int v_LR_last, .int v_LR_sum])), (ad 9, .inr (9, [.ref (ad 21), .ref (ad 25), .ref (ad 26), .ref (ad 27)])), (ad 10, .inr (10, [.ref (ad 6), .ref (ad 28), .ref (ad 29), .int v_PR_side])), (ad 11, .inr (11, [.ref (ad 18), .ref (ad 30)])), (ad 13, .inl (cI, 240, .inl v_aChosen)), (ad 14, .inl (cI, 10, .inl v_aValues)), (ad 16, .inl (cI, 14, .inl v_aChances)), (ad 17, .inl (cI, 3, .inl v_aCounts)), (ad 18, .inl (cI, 256, .inl v_aSamples)), (ad 19, .inl (cI, 256, .inl v_aPlain)), (ad 20, .inl (cI, 256, .inl v_aPredicted)), (ad 21, .inl (cI, 256, .inl v_aLevels)), (ad 22, .inl (cI, 256, .inl v_aModes)), (ad 23, .inl (cI, 256, .inl v_aSides)), (ad 24, .inl (cI, 16, .inl v_aGroup)), (ad 25, .inl (cI, 64, .inl v_aCoef)), (ad 26, .inl (cI, 64, .inl v_aBetween)), (ad 27, .inl (cI, 64, .inl v_aResult)), (ad 28, .inl (cI, 33, .inl v_aRefs)), (ad 29, .inl (cI, 33, .inl v_aUnsm)), (ad 30, .inl (cI, 256, .inl v_aBefore))]
def fPI_readUnit_B94 (v_RB_end : Int32) (v_aChosen : Nat → Int32) (v_aValues : Nat → Int32) (z16 : Int32) (z61 : Int32) (z62 : Int32) (z71 : Int32) (z72 : Int32) (z73 : Int32) (z74 : Int32) (z75 : Int32) (z76 : Int32) (z77 : Int32) (z78 : Int32) (z79 : Int32) (z80 : Int32) (z81 : Int32) (z82 : Int32) (z83 : Int32) (z84 : Int32) (z85 : Int32) (g86 : Nat → Int32) (g87 : Nat → Int32) (g88 : Nat → Int32) (g89 : Nat → Int32) (g90 : Nat → Int32) (g91 : Nat → Int32) (g92 : Nat → Int32) (g93 : Nat → Int32) (g94 : Nat → Int32) (g95 : Nat → Int32) (g96 : Nat → Int32) (g97 : Nat → Int32) (g98 : Nat → Int32) : Option ((Int32 × Int32 × Int32 × Int32 × Int32 × Int32 × Int32 × Int32 × Int32 × Int32 × Int32 × Int32 × Int32 × (Nat → Int32) × (Nat → Int32) × (Nat → Int32) × (Nat → Int32) × (Nat → Int32) × (Nat → Int32) × (Nat → Int32) × (Nat → Int32) × (Nat → Int32) × (Nat → Int32) × (Nat → Int32) × (Nat → Int32) × (Nat → Int32)) ⊕ (Int32 × Int32 × Int32 × Int32 × Int32 × Int32 × Int32 × Int32 × Int32 × Int32 × Int32 × Int32 × Int32 × (Nat → Int32) × (Nat → Int32) × (Nat → Int32) × (Nat → Int32) × (Nat → Int32) × (Nat → Int32) × (Nat → Int32) × (Nat → Int32) × (Nat → Int32) × (Nat → Int32) × (Nat → Int32) × (Nat → Int32) × (Nat → Int32))) :=
(if z72 ≤ z73 then
(some (.inr (z73, z74, z75, z76, z77, z78, z79, z80, z81, z82, z83, z84, z85, g86, g87, g88, g89, g90, g91, g92, g93, g94, g95, g96, g97, g98)))
else
(ip_b1 ((if z71 = 0 then
(some (8 : Int32))
else
(some (4 : Int32)))) (fun z125 =>
ip_b4 (fLF_moveTo z77 z78 z79 z80 z81 (z61 + ((4 : Int32) * (z73 &&& (1 : Int32)))) (z62 + ((4 : Int32) * (z73 >>> ((1 : Int32) &&& 31)))) z125) (fun z126 z127 z128 z129 =>
ip_b6 (fBD_bin z74 v_RB_end z75 z76 v_aChosen g86 g87 (3 : Int32)) (fun z130 z131 z132 z133 g134 g135 =>
ip_b4 ((if z130 = (1 : Int32) then
(ip_b1 (fPI_modeToTheLeft z126 z127 z128 z80 z129 z16 g91) (fun z144 =>
some (z144, z131, z133, g135)))
else
(ip_b4 (fBD_freeBits z131 v_RB_end z132 z133 v_aChosen g135 (3 : Int32)) (fun z140 z141 z142 g143 =>
some (z140, z141, z142, g143))))) (fun z136 z137 z138 g139 =>
ip_b11 (fLR_readLeaf z137 v_RB_end z132 z138 z126 z127 z128 z136 z129 z82 z83 z84 v_aChosen v_aValues g134 g139 g90 g93) (fun z145 z146 z147 z148 z149 z150 z151 g152 g153 g154 g155 =>
ip_b10 (fPI_buildLeaf z126 z127 z128 z136 z148 z16 z85 v_aValues g88 g89 g154 g91 g92 g94 g95 g96 g97 g98) (fun z156 g157 g158 g159 g160 g161 g162 g163 g164 g165 =>
ip_lt (z73 + (1 : Int32)) (fun z166 =>
some (.inl (z166, z145, z146, z147, z126, z127, z128, z136, z148, z149, z150, z151, z156, g152, g153, g157, g158, g154, g159, g160, g155, g161, g162, g163, g164, g165)))))))))))
def fPI_readUnit_B25 (v_RB_end : Int32) (v_aChosen : Nat → Int32) (v_aValues : Nat → Int32) (z7 : Int32) (z8 : Int32) (z9 : Int32) (z10 : Int32) (z11 : Int32) (z12 : Int32) (z13 : Int32) (z14 : Int32) (z15 : Int32) (z16 : Int32) (z17 : Int32) (z18 : Int32) (z19 : Int32) (z20 : Int32) (g21 : Nat → Int32) (g22 : Nat → Int32) (g23 : Nat → Int32) (g24 : Nat → Int32) (g25 : Nat → Int32) (g26 : Nat → Int32) (g27 : Nat → Int32) (g28 : Nat → Int32) (g29 : Nat → Int32) (g30 : Nat → Int32) (g31 : Nat → Int32) (g32 : Nat → Int32) (g33 : Nat → Int32) : Option ((Int32 × Int32 × Int32 × Int32 × Int32 × Int32 × Int32 × Int32 × Int32 × Int32 × Int32 × Int32 × Int32 × Int32 × (Nat → Int32) × (Nat → Int32) × (Nat → Int32) × (Nat → Int32) × (Nat → Int32) × (Nat → Int32) × (Nat → Int32) × (Nat → Int32) × (Nat → Int32) × (Nat → Int32) × (Nat → Int32) × (Nat → Int32) × (Nat → Int32)) ⊕ (Int32 × Int32 × Int32 × Int32 × Int32 × Int32 × Int32 × Int32 × Int32 × Int32 × Int32 × Int32 × Int32 × Int32 × (Nat → Int32) × (Nat → Int32) × (Nat → Int32) × (Nat → Int32) × (Nat → Int32) × (Nat → Int32) × (Nat → Int32) × (Nat → Int32) × (Nat → Int32) × (Nat → Int32) × (Nat → Int32) × (Nat → Int32) × (Nat → Int32))) :=
(if (4 : Int32) ≤ z7 then
(some (.inr (z7, z8, z9, z10, z11, z12, z13, z14, z15, z16, z17, z18, z19, z20, g21, g22, g23, g24, g25, g26, g27, g28, g29, g30, g31, g32, g33)))
else
(ip_lt ((8 : Int32) * (z7 &&& (1 : Int32))) (fun z61 =>
ip_lt ((8 : Int32) * (z7 >>> ((1 : Int32) &&& 31))) (fun z62 =>
ip_b1 (fPI_splitAt z16 g27 (z61 - (1 : Int32)) z62) (fun z63 =>
ip_b1 (fPI_splitAt z16 g27 z61 (z62 - (1 : Int32))) (fun z64 =>
ip_b6 (fBD_bin z8 v_RB_end z9 z10 v_aChosen g21 g22 (z63 + z64)) (fun z65 z66 z67 z68 g69 g70 =>
ip_b1 ((if z65 = (1 : Int32) then
(some (1 : Int32))
else
(some (0 : Int32)))) (fun z71 =>
ip_b1 ((if z71 = 0 then
(some (1 : Int32))
else
(some (4 : Int32)))) (fun z72 =>
ip_b26 (ip_lp26 (fPI_readUnit_B94 v_RB_end v_aChosen v_aValues z16 z61 z62 z71 z72) 1000 (0 : Int32) z66 z67 z68 z11 z12 z13 z14 z15 z17 z18 z19 z20 g69 g70 g23 g24 g25 g26 g27 g28 g29 g30 g31 g32 g33) (fun x99 x100 x101 x102 x103 x104 x105 x106 x107 x108 x109 x110 x111 y112 y113 y114 y115 y116 y117 y118 y119 y120 y121 y122 y123 y124 =>
ip_lt (z16 + z72) (fun z167 =>
ip_lt (z7 + (1 : Int32)) (fun z168 =>
some (.inl (z168, x100, x101, x102, x103, x104, x105, x106, x107, z167, x108, x109, x110, x111, y112, y113, y114, y115, y116, y117, y118, y119, y120, y121, y122, y123, y124))))))))))))))
def fPI_readUnit (v_RB_place : Int32) (v_RB_end : Int32) (v_BD_range : Int32) (v_BD_value : Int32) (v_LF_x : Int32) (v_LF_y : Int32) (v_LF_side : Int32) (v_LF_mode : Int32) (v_LF_skip : Int32) (v_PI_leaves : Int32) (v_LR_first : Int32) (v_LR_last : Int32) (v_LR_sum : Int32) (v_PR_side : Int32) (v_aChosen : Nat → Int32) (v_aValues : Nat → Int32) (v_aChances : Nat → Int32) (v_aCounts : Nat → Int32) (v_aSamples : Nat → Int32) (v_aPlain : Nat → Int32) (v_aPredicted : Nat → Int32) (v_aLevels : Nat → Int32) (v_aModes : Nat → Int32) (v_aSides : Nat → Int32) (v_aGroup : Nat → Int32) (v_aCoef : Nat → Int32) (v_aBetween : Nat → Int32) (v_aResult : Nat → Int32) (v_aRefs : Nat → Int32) (v_aUnsm : Nat → Int32) (v_aBefore : Nat → Int32)  : Option (Int32 × Int32 × Int32 × Int32 × Int32 × Int32 × Int32 × Int32 × Int32 × Int32 × Int32 × Int32 × Int32 × (Nat → Int32) × (Nat → Int32) × (Nat → Int32) × (Nat → Int32) × (Nat → Int32) × (Nat → Int32) × (Nat → Int32) × (Nat → Int32) × (Nat → Int32) × (Nat → Int32) × (Nat → Int32) × (Nat → Int32) × (Nat → Int32) × (Nat → Int32) × (Nat → Int32)) :=
ip_b1 (fAR_fill256 v_aSides (0 : Int32)) (fun g1 =>
ip_b5 (fBD_begin v_RB_place v_RB_end v_BD_range v_BD_value v_aChosen v_aChances v_aCounts) (fun z2 z3 z4 g5 g6 =>
ip_b27 (ip_lp27 (fPI_readUnit_B25 v_RB_end v_aChosen v_aValues) 1000 (0 : Int32) z2 z3 z4 v_LF_x v_LF_y v_LF_side v_LF_mode v_LF_skip (0 : Int32) v_LR_first v_LR_last v_LR_sum v_PR_side g5 g6 v_aPlain v_aPredicted v_aLevels v_aModes g1 v_aGroup v_aCoef v_aBetween v_aResult v_aRefs v_aUnsm) (fun x34 x35 x36 x37 x38 x39 x40 x41 x42 x43 x44 x45 x46 x47 y48 y49 y50 y51 y52 y53 y54 y55 y56 y57 y58 y59 y60 =>
ip_b1 (fBD_end x35 v_RB_end x36 x37 y49) (fun g169 =>
ip_lt (va_cpy y50 v_aSamples (0 : Int32).toNatClampNeg (0 : Int32).toNatClampNeg (256 : Int32).toNatClampNeg) (fun g170 =>
ip_b2 (fFI_apply v_aValues g170 v_aBefore) (fun g171 g172 =>
some (x35, x36, x37, x38, x39, x40, x41, x42, x43, x44, x45, x46, x47, y48, g169, g171, y50, y51, y52, y53, y54, y55, y56, y57, y58, y59, y60, g172)))))))
abbrev rmIP_decode : Room := { frames := 6, cells := 0, slots := 0, locals := 144 }
abbrev wIP_decode (ad : Nat → Nat) (cI : ClassId) (v_IP_pictureStands : Int32) (v_FB_count : Int32) (v_FB_chosenLength : Int32) (v_RB_place : Int32) (v_RB_end : Int32) (v_PA_there : Int32) (v_PA_fault : Int32) (v_BD_range : Int32) (v_BD_value : Int32) (v_LF_x : Int32) (v_LF_y : Int32) (v_LF_side : Int32) (v_LF_mode : Int32) (v_LF_skip : Int32) (v_PI_leaves : Int32) (v_LR_first : Int32) (v_LR_last : Int32) (v_LR_sum : Int32) (v_PR_side : Int32) (v_aBytes : Nat → Int32) (v_aChosen : Nat → Int32) (v_aValues : Nat → Int32) (v_aComing : Nat → Int32) (v_aChances : Nat → Int32) (v_aCounts : Nat → Int32) (v_aSamples : Nat → Int32) (v_aPlain : Nat → Int32) (v_aPredicted : Nat → Int32) (v_aLevels : Nat → Int32) (v_aModes : Nat → Int32) (v_aSides : Nat → Int32) (v_aGroup : Nat → Int32) (v_aCoef : Nat → Int32) (v_aBetween : Nat → Int32) (v_aResult : Nat → Int32) (v_aRefs : Nat → Int32) (v_aUnsm : Nat → Int32) (v_aBefore : Nat → Int32) : va_W := [(ad 0, .inr (0, [.ref (ad 1), .ref (ad 2), .ref (ad 3), .ref (ad 4), .ref (ad 6), .ref (ad 7), .int v_IP_pictureStands])), (ad 1, .inr (1, [.ref (ad 12), .ref (ad 13), .int v_FB_count, .int v_FB_chosenLength])), (ad 2, .inr (2, [.ref (ad 13), .int v_RB_place, .int v_RB_end])), (ad 3, .inr (3, [.ref (ad 2), .ref (ad 14), .ref (ad 15), .int v_PA_there, .int v_PA_fault])), (ad 4, .inr (4, [.ref (ad 2), .ref (ad 16), .ref (ad 17), .int v_BD_range, .int v_BD_value])), (ad 5, .inr (5, [.int v_LF_x, .int v_LF_y, .int v_LF_side, .int v_LF_mode, .int v_LF_skip])), (ad 6, .inr (6, [.ref (ad 18), .ref (ad 19), .ref (ad 20), .ref (ad 21), .ref (ad 22), .ref (ad 23)])), (ad 7, .inr (7, [.ref (ad 4), .ref (ad 14), .ref (ad 6), .ref (ad 5), .ref (ad 8), .ref (ad 9), .ref (ad 10), .ref (ad 11), .int v_PI_leaves])), (ad 8, .inr (8, [.ref (ad 4), .ref (ad 21), .ref (ad 24), .int v_LR_first, .int v_LR_last, .int v_LR_sum])), (ad 9, .inr (9, [.ref (ad 21), .ref (ad 25), .ref (ad 26), .ref (ad 27)])), (ad 10, .inr (10, [.ref (ad 6), .ref (ad 28), .ref (ad 29), .int v_PR_side])), (ad 11, .inr (11, [.ref (ad 18), .ref (ad 30)])), (ad 12, .inl (cI, 240, .inl v_aBytes)), (ad 13, .inl (cI, 240, .inl v_aChosen)), (ad 14, .inl (cI, 10, .inl v_aValues)), (ad 15, .inl (cI, 10, .inl v_aComing)), (ad 16, .inl (cI, 14, .inl v_aChances)), (ad 17, .inl (cI, 3, .inl v_aCounts)), (ad 18, .inl (cI, 256, .inl v_aSamples)), (ad 19, .inl (cI, 256, .inl v_aPlain)), (ad 20, .inl (cI, 256, .inl v_aPredicted)), (ad 21, .inl (cI, 256, .inl v_aLevels)), (ad 22, .inl (cI, 256, .inl v_aModes)), (ad 23, .inl (cI, 256, .inl v_aSides)), (ad 24, .inl (cI, 16, .inl v_aGroup)), (ad 25, .inl (cI, 64, .inl v_aCoef)), (ad 26, .inl (cI, 64, .inl v_aBetween)), (ad 27, .inl (cI, 64, .inl v_aResult)), (ad 28, .inl (cI, 33, .inl v_aRefs)), (ad 29, .inl (cI, 33, .inl v_aUnsm)), (ad 30, .inl (cI, 256, .inl v_aBefore))]
def fIP_decode_B28 (v_FB_count : Int32) (v_aBytes : Nat → Int32) (z1 : Int32) (z2 : Int32) (z3 : Int32) (z4 : Int32) (z5 : Int32) (z6 : Int32) (z7 : Int32) (z8 : Int32) (z9 : Int32) (z10 : Int32) (z11 : Int32) (z12 : Int32) (z13 : Int32) (z14 : Int32) (z15 : Int32) (z16 : Int32) (z17 : Int32) (z18 : Int32) (z19 : Int32) (z20 : Int32) (z21 : Int32) (g22 : Nat → Int32) (g23 : Nat → Int32) (g24 : Nat → Int32) (g25 : Nat → Int32) (g26 : Nat → Int32) (g27 : Nat → Int32) (g28 : Nat → Int32) (g29 : Nat → Int32) (g30 : Nat → Int32) (g31 : Nat → Int32) (g32 : Nat → Int32) (g33 : Nat → Int32) (g34 : Nat → Int32) (g35 : Nat → Int32) (g36 : Nat → Int32) (g37 : Nat → Int32) (g38 : Nat → Int32) (g39 : Nat → Int32) : Option ((Int32 × Int32 × Int32 × Int32 × Int32 × Int32 × Int32 × Int32 × Int32 × Int32 × Int32 × Int32 × Int32 × Int32 × Int32 × Int32 × Int32 × Int32 × Int32 × Int32 × (Nat → Int32) × (Nat → Int32) × (Nat → Int32) × (Nat → Int32) × (Nat → Int32) × (Nat → Int32) × (Nat → Int32) × (Nat → Int32) × (Nat → Int32) × (Nat → Int32) × (Nat → Int32) × (Nat → Int32) × (Nat → Int32) × (Nat → Int32) × (Nat → Int32) × (Nat → Int32) × (Nat → Int32) × (Nat → Int32)) ⊕ (Int32 × Int32 × Int32 × Int32 × Int32 × Int32 × Int32 × Int32 × Int32 × Int32 × Int32 × Int32 × Int32 × Int32 × Int32 × Int32 × Int32 × Int32 × Int32 × Int32 × (Nat → Int32) × (Nat → Int32) × (Nat → Int32) × (Nat → Int32) × (Nat → Int32) × (Nat → Int32) × (Nat → Int32) × (Nat → Int32) × (Nat → Int32) × (Nat → Int32) × (Nat → Int32) × (Nat → Int32) × (Nat → Int32) × (Nat → Int32) × (Nat → Int32) × (Nat → Int32) × (Nat → Int32) × (Nat → Int32))) :=
(if z1 ≤ z4 then
(some (.inr (z2, z3, z4, z5, z6, z7, z8, z9, z10, z11, z12, z13, z14, z15, z16, z17, z18, z19, z20, z21, g22, g23, g24, g25, g26, g27, g28, g29, g30, g31, g32, g33, g34, g35, g36, g37, g38, g39)))
else
(if z3 = 0 then
(ip_b3 (fFB_choose v_FB_count z5 v_aBytes g22 z4) (fun z78 z79 g80 =>
ip_b2 (fRB_rewind z6 z7 z79) (fun z81 z82 =>
ip_b1 (fFB_chosenKind v_FB_count z79 g80) (fun z83 =>
ip_b34 ((if z83 = (1 : Int32) then
(ip_b6 (fPA_readUnit z81 z82 z8 z9 g80 g23 g24) (fun z174 z175 z176 z177 g178 g179 =>
some (z2, z174, z175, z176, z177, z10, z11, z12, z13, z14, z15, z16, z17, z18, z19, z20, z21, g178, g179, g25, g26, g27, g28, g29, g30, g31, g32, g33, g34, g35, g36, g37, g38, g39)))
else
(if z83 = (2 : Int32) then
(if z8 = 0 then
(some (z2, (-2 : Int32), z81, z8, z9, z10, z11, z12, z13, z14, z15, z16, z17, z18, z19, z20, z21, g23, g24, g25, g26, g27, g28, g29, g30, g31, g32, g33, g34, g35, g36, g37, g38, g39))
else
(if z83 = (2 : Int32) then
(ip_b28 (fPI_readUnit z81 z82 z10 z11 z12 z13 z14 z15 z16 z17 z18 z19 z20 z21 g80 g23 g25 g26 g27 g28 g29 g30 g31 g32 g33 g34 g35 g36 g37 g38 g39) (fun z146 z147 z148 z149 z150 z151 z152 z153 z154 z155 z156 z157 z158 g159 g160 g161 g162 g163 g164 g165 g166 g167 g168 g169 g170 g171 g172 g173 =>
some ((1 : Int32), z3, z146, z8, z9, z147, z148, z149, z150, z151, z152, z153, z154, z155, z156, z157, z158, g23, g24, g159, g160, g161, g162, g163, g164, g165, g166, g167, g168, g169, g170, g171, g172, g173)))
else
(some (z2, z3, z81, z8, z9, z10, z11, z12, z13, z14, z15, z16, z17, z18, z19, z20, z21, g23, g24, g25, g26, g27, g28, g29, g30, g31, g32, g33, g34, g35, g36, g37, g38, g39))))
else
(if z83 = (2 : Int32) then
(ip_b28 (fPI_readUnit z81 z82 z10 z11 z12 z13 z14 z15 z16 z17 z18 z19 z20 z21 g80 g23 g25 g26 g27 g28 g29 g30 g31 g32 g33 g34 g35 g36 g37 g38 g39) (fun z118 z119 z120 z121 z122 z123 z124 z125 z126 z127 z128 z129 z130 g131 g132 g133 g134 g135 g136 g137 g138 g139 g140 g141 g142 g143 g144 g145 =>
some ((1 : Int32), z3, z118, z8, z9, z119, z120, z121, z122, z123, z124, z125, z126, z127, z128, z129, z130, g23, g24, g131, g132, g133, g134, g135, g136, g137, g138, g139, g140, g141, g142, g143, g144, g145)))
else
(some (z2, z3, z81, z8, z9, z10, z11, z12, z13, z14, z15, z16, z17, z18, z19, z20, z21, g23, g24, g25, g26, g27, g28, g29, g30, g31, g32, g33, g34, g35, g36, g37, g38, g39)))))) (fun z84 z85 z86 z87 z88 z89 z90 z91 z92 z93 z94 z95 z96 z97 z98 z99 z100 g101 g102 g103 g104 g105 g106 g107 g108 g109 g110 g111 g112 g113 g114 g115 g116 g117 =>
ip_lt (z4 + (1 : Int32)) (fun z180 =>
some (.inl (z84, z85, z180, z79, z86, z82, z87, z88, z89, z90, z91, z92, z93, z94, z95, z96, z97, z98, z99, z100, g80, g101, g102, g103, g104, g105, g106, g107, g108, g109, g110, g111, g112, g113, g114, g115, g116, g117))))))))
else
(some (.inr (z2, z3, z4, z5, z6, z7, z8, z9, z10, z11, z12, z13, z14, z15, z16, z17, z18, z19, z20, z21, g22, g23, g24, g25, g26, g27, g28, g29, g30, g31, g32, g33, g34, g35, g36, g37, g38, g39)))))
def fIP_decode (v_IP_pictureStands : Int32) (v_FB_count : Int32) (v_FB_chosenLength : Int32) (v_RB_place : Int32) (v_RB_end : Int32) (v_PA_there : Int32) (v_PA_fault : Int32) (v_BD_range : Int32) (v_BD_value : Int32) (v_LF_x : Int32) (v_LF_y : Int32) (v_LF_side : Int32) (v_LF_mode : Int32) (v_LF_skip : Int32) (v_PI_leaves : Int32) (v_LR_first : Int32) (v_LR_last : Int32) (v_LR_sum : Int32) (v_PR_side : Int32) (v_aBytes : Nat → Int32) (v_aChosen : Nat → Int32) (v_aValues : Nat → Int32) (v_aComing : Nat → Int32) (v_aChances : Nat → Int32) (v_aCounts : Nat → Int32) (v_aSamples : Nat → Int32) (v_aPlain : Nat → Int32) (v_aPredicted : Nat → Int32) (v_aLevels : Nat → Int32) (v_aModes : Nat → Int32) (v_aSides : Nat → Int32) (v_aGroup : Nat → Int32) (v_aCoef : Nat → Int32) (v_aBetween : Nat → Int32) (v_aResult : Nat → Int32) (v_aRefs : Nat → Int32) (v_aUnsm : Nat → Int32) (v_aBefore : Nat → Int32)  : Option (Int32 × Int32 × Int32 × Int32 × Int32 × Int32 × Int32 × Int32 × Int32 × Int32 × Int32 × Int32 × Int32 × Int32 × Int32 × Int32 × Int32 × Int32 × Int32 × (Nat → Int32) × (Nat → Int32) × (Nat → Int32) × (Nat → Int32) × (Nat → Int32) × (Nat → Int32) × (Nat → Int32) × (Nat → Int32) × (Nat → Int32) × (Nat → Int32) × (Nat → Int32) × (Nat → Int32) × (Nat → Int32) × (Nat → Int32) × (Nat → Int32) × (Nat → Int32) × (Nat → Int32) × (Nat → Int32)) :=
ip_b1 (fFB_countStarts v_FB_count v_FB_chosenLength v_aBytes) (fun z1 =>
ip_b38 (ip_lp38 (fIP_decode_B28 v_FB_count v_aBytes z1) 1000 (0 : Int32) (0 : Int32) (0 : Int32) v_FB_chosenLength v_RB_place v_RB_end (0 : Int32) v_PA_fault v_BD_range v_BD_value v_LF_x v_LF_y v_LF_side v_LF_mode v_LF_skip v_PI_leaves v_LR_first v_LR_last v_LR_sum v_PR_side v_aChosen v_aValues v_aComing v_aChances v_aCounts v_aSamples v_aPlain v_aPredicted v_aLevels v_aModes v_aSides v_aGroup v_aCoef v_aBetween v_aResult v_aRefs v_aUnsm v_aBefore) (fun x40 x41 x42 x43 x44 x45 x46 x47 x48 x49 x50 x51 x52 x53 x54 x55 x56 x57 x58 x59 y60 y61 y62 y63 y64 y65 y66 y67 y68 y69 y70 y71 y72 y73 y74 y75 y76 y77 =>
(if x41 = 0 then
(ip_zk x40 (
(if x40 = 0 then
(some ((-1 : Int32), x40, x43, x44, x45, x46, x47, x48, x49, x50, x51, x52, x53, x54, x55, x56, x57, x58, x59, y60, y61, y62, y63, y64, y65, y66, y67, y68, y69, y70, y71, y72, y73, y74, y75, y76, y77))
else
(some (x55, x40, x43, x44, x45, x46, x47, x48, x49, x50, x51, x52, x53, x54, x55, x56, x57, x58, x59, y60, y61, y62, y63, y64, y65, y66, y67, y68, y69, y70, y71, y72, y73, y74, y75, y76, y77)))))
else
(some (x41, (0 : Int32), x43, x44, x45, x46, x47, x48, x49, x50, x51, x52, x53, x54, x55, x56, x57, x58, x59, y60, y61, y62, y63, y64, y65, y66, y67, y68, y69, y70, y71, y72, y73, y74, y75, y76, y77)))))
abbrev rmIP_parameter : Room := { frames := 0, cells := 0, slots := 0, locals := 0 }
abbrev wIP_parameter (ad : Nat → Nat) (cI : ClassId) (v_IP_pictureStands : Int32) (v_PA_there : Int32) (v_PA_fault : Int32) (v_aValues : Nat → Int32) : va_W := [(ad 0, .inr (0, [.ref (ad 1), .ref (ad 2), .ref (ad 3), .ref (ad 4), .ref (ad 6), .ref (ad 7), .int v_IP_pictureStands])), (ad 3, .inr (3, [.ref (ad 2), .ref (ad 14), .ref (ad 15), .int v_PA_there, .int v_PA_fault])), (ad 14, .inl (cI, 10, .inl v_aValues))]
def fIP_parameter (v_IP_pictureStands : Int32) (v_PA_there : Int32) (v_PA_fault : Int32) (v_aValues : Nat → Int32) (p1 : Int32) : Option (Int32) :=
(if v_PA_there = 0 then
(some (-100 : Int32))
else
(if p1 < 0 then
(some (-100 : Int32))
else
(if (10 : Int32) ≤ p1 then
(some (-100 : Int32))
else
(ip_b1 (ip_ald 10 v_aValues p1) (fun z1 =>
some z1)))))
abbrev rmIP_answerAt : Room := { frames := 1, cells := 0, slots := 0, locals := 21 }
abbrev wIP_answerAt (ad : Nat → Nat) (cI : ClassId) (bRow : Nat) (v_IP_pictureStands : Int32) (v_bRow : Nat → Int32) : va_W := [(ad 0, .inr (0, [.ref (ad 1), .ref (ad 2), .ref (ad 3), .ref (ad 4), .ref (ad 6), .ref (ad 7), .int v_IP_pictureStands])), (bRow, .inl (cI, 256, .inl v_bRow))]
def fIP_answerAt (v_IP_pictureStands : Int32) (v_bRow : Nat → Int32) (p2 : Int32) (p3 : Int32) (p4 : Int32) : Option (Int32) :=
(if v_IP_pictureStands = 0 then
(some p4)
else
(ip_b1 (fIP_inPicture p2 p3) (fun z1 =>
(if z1 = 0 then
(some p4)
else
(ip_b1 (fIP_placeOf p2 p3) (fun z2 =>
ip_b1 (ip_ald 256 v_bRow z2) (fun z3 =>
some z3)))))))
abbrev rmIP_sample : Room := { frames := 2, cells := 0, slots := 0, locals := 45 }
abbrev wIP_sample (ad : Nat → Nat) (cI : ClassId) (v_IP_pictureStands : Int32) (v_aSamples : Nat → Int32) : va_W := [(ad 0, .inr (0, [.ref (ad 1), .ref (ad 2), .ref (ad 3), .ref (ad 4), .ref (ad 6), .ref (ad 7), .int v_IP_pictureStands])), (ad 6, .inr (6, [.ref (ad 18), .ref (ad 19), .ref (ad 20), .ref (ad 21), .ref (ad 22), .ref (ad 23)])), (ad 18, .inl (cI, 256, .inl v_aSamples))]
def fIP_sample (v_IP_pictureStands : Int32) (v_aSamples : Nat → Int32) (p1 : Int32) (p2 : Int32) : Option (Int32) :=
ip_b1 (fIP_answerAt v_IP_pictureStands v_aSamples p1 p2 (-1 : Int32)) (fun z1 =>
some z1)
abbrev rmIP_plain : Room := { frames := 2, cells := 0, slots := 0, locals := 45 }
abbrev wIP_plain (ad : Nat → Nat) (cI : ClassId) (v_IP_pictureStands : Int32) (v_aPlain : Nat → Int32) : va_W := [(ad 0, .inr (0, [.ref (ad 1), .ref (ad 2), .ref (ad 3), .ref (ad 4), .ref (ad 6), .ref (ad 7), .int v_IP_pictureStands])), (ad 6, .inr (6, [.ref (ad 18), .ref (ad 19), .ref (ad 20), .ref (ad 21), .ref (ad 22), .ref (ad 23)])), (ad 19, .inl (cI, 256, .inl v_aPlain))]
def fIP_plain (v_IP_pictureStands : Int32) (v_aPlain : Nat → Int32) (p1 : Int32) (p2 : Int32) : Option (Int32) :=
ip_b1 (fIP_answerAt v_IP_pictureStands v_aPlain p1 p2 (-1 : Int32)) (fun z1 =>
some z1)
abbrev rmIP_predicted : Room := { frames := 2, cells := 0, slots := 0, locals := 45 }
abbrev wIP_predicted (ad : Nat → Nat) (cI : ClassId) (v_IP_pictureStands : Int32) (v_aPredicted : Nat → Int32) : va_W := [(ad 0, .inr (0, [.ref (ad 1), .ref (ad 2), .ref (ad 3), .ref (ad 4), .ref (ad 6), .ref (ad 7), .int v_IP_pictureStands])), (ad 6, .inr (6, [.ref (ad 18), .ref (ad 19), .ref (ad 20), .ref (ad 21), .ref (ad 22), .ref (ad 23)])), (ad 20, .inl (cI, 256, .inl v_aPredicted))]
def fIP_predicted (v_IP_pictureStands : Int32) (v_aPredicted : Nat → Int32) (p1 : Int32) (p2 : Int32) : Option (Int32) :=
ip_b1 (fIP_answerAt v_IP_pictureStands v_aPredicted p1 p2 (-1 : Int32)) (fun z1 =>
some z1)
abbrev rmIP_level : Room := { frames := 2, cells := 0, slots := 0, locals := 45 }
abbrev wIP_level (ad : Nat → Nat) (cI : ClassId) (v_IP_pictureStands : Int32) (v_aLevels : Nat → Int32) : va_W := [(ad 0, .inr (0, [.ref (ad 1), .ref (ad 2), .ref (ad 3), .ref (ad 4), .ref (ad 6), .ref (ad 7), .int v_IP_pictureStands])), (ad 6, .inr (6, [.ref (ad 18), .ref (ad 19), .ref (ad 20), .ref (ad 21), .ref (ad 22), .ref (ad 23)])), (ad 21, .inl (cI, 256, .inl v_aLevels))]
def fIP_level (v_IP_pictureStands : Int32) (v_aLevels : Nat → Int32) (p1 : Int32) (p2 : Int32) : Option (Int32) :=
ip_b1 (fIP_answerAt v_IP_pictureStands v_aLevels p1 p2 (-1000 : Int32)) (fun z1 =>
some z1)
abbrev rmIP_mode : Room := { frames := 2, cells := 0, slots := 0, locals := 45 }
abbrev wIP_mode (ad : Nat → Nat) (cI : ClassId) (v_IP_pictureStands : Int32) (v_aModes : Nat → Int32) : va_W := [(ad 0, .inr (0, [.ref (ad 1), .ref (ad 2), .ref (ad 3), .ref (ad 4), .ref (ad 6), .ref (ad 7), .int v_IP_pictureStands])), (ad 6, .inr (6, [.ref (ad 18), .ref (ad 19), .ref (ad 20), .ref (ad 21), .ref (ad 22), .ref (ad 23)])), (ad 22, .inl (cI, 256, .inl v_aModes))]
def fIP_mode (v_IP_pictureStands : Int32) (v_aModes : Nat → Int32) (p1 : Int32) (p2 : Int32) : Option (Int32) :=
ip_b1 (fIP_answerAt v_IP_pictureStands v_aModes p1 p2 (-1 : Int32)) (fun z1 =>
some z1)
abbrev rmIP_side : Room := { frames := 2, cells := 0, slots := 0, locals := 45 }
abbrev wIP_side (ad : Nat → Nat) (cI : ClassId) (v_IP_pictureStands : Int32) (v_aSides : Nat → Int32) : va_W := [(ad 0, .inr (0, [.ref (ad 1), .ref (ad 2), .ref (ad 3), .ref (ad 4), .ref (ad 6), .ref (ad 7), .int v_IP_pictureStands])), (ad 6, .inr (6, [.ref (ad 18), .ref (ad 19), .ref (ad 20), .ref (ad 21), .ref (ad 22), .ref (ad 23)])), (ad 23, .inl (cI, 256, .inl v_aSides))]
def fIP_side (v_IP_pictureStands : Int32) (v_aSides : Nat → Int32) (p1 : Int32) (p2 : Int32) : Option (Int32) :=
ip_b1 (fIP_answerAt v_IP_pictureStands v_aSides p1 p2 (-1 : Int32)) (fun z1 =>
some z1)
abbrev rmIP_chance : Room := { frames := 0, cells := 0, slots := 0, locals := 0 }
abbrev wIP_chance (ad : Nat → Nat) (cI : ClassId) (v_IP_pictureStands : Int32) (v_BD_range : Int32) (v_BD_value : Int32) (v_aChances : Nat → Int32) : va_W := [(ad 0, .inr (0, [.ref (ad 1), .ref (ad 2), .ref (ad 3), .ref (ad 4), .ref (ad 6), .ref (ad 7), .int v_IP_pictureStands])), (ad 4, .inr (4, [.ref (ad 2), .ref (ad 16), .ref (ad 17), .int v_BD_range, .int v_BD_value])), (ad 16, .inl (cI, 14, .inl v_aChances))]
def fIP_chance (v_IP_pictureStands : Int32) (v_BD_range : Int32) (v_BD_value : Int32) (v_aChances : Nat → Int32) (p1 : Int32) : Option (Int32) :=
(if v_IP_pictureStands = 0 then
(some (-1 : Int32))
else
(if p1 < 0 then
(some (-1 : Int32))
else
(if (14 : Int32) ≤ p1 then
(some (-1 : Int32))
else
(ip_b1 (ip_ald 14 v_aChances p1) (fun z1 =>
some z1)))))
abbrev rmIP_took : Room := { frames := 0, cells := 0, slots := 0, locals := 0 }
abbrev wIP_took (ad : Nat → Nat) (cI : ClassId) (v_IP_pictureStands : Int32) (v_BD_range : Int32) (v_BD_value : Int32) (v_aCounts : Nat → Int32) : va_W := [(ad 0, .inr (0, [.ref (ad 1), .ref (ad 2), .ref (ad 3), .ref (ad 4), .ref (ad 6), .ref (ad 7), .int v_IP_pictureStands])), (ad 4, .inr (4, [.ref (ad 2), .ref (ad 16), .ref (ad 17), .int v_BD_range, .int v_BD_value])), (ad 17, .inl (cI, 3, .inl v_aCounts))]
def fIP_took (v_IP_pictureStands : Int32) (v_BD_range : Int32) (v_BD_value : Int32) (v_aCounts : Nat → Int32) (p1 : Int32) : Option (Int32) :=
(if v_IP_pictureStands = 0 then
(some (-1 : Int32))
else
(if p1 < 0 then
(some (-1 : Int32))
else
(if (3 : Int32) ≤ p1 then
(some (-1 : Int32))
else
(ip_b1 (ip_ald 3 v_aCounts p1) (fun z1 =>
some z1)))))
abbrev rmMO_held : Room := { frames := 0, cells := 0, slots := 0, locals := 0 }
abbrev wMO_held (ad : Nat → Nat) (cI cZ : ClassId)  : va_W := []
def fMO_held  (p1 : Int32) (p2 : Int32) (p3 : Int32) : Option (Int32) :=
(if p2 ≤ p1 then
(if p1 ≤ p3 then
(some p1)
else
(some p3))
else
(some p2))
abbrev rmMO_feed : Room := { frames := 0, cells := 0, slots := 0, locals := 0 }
abbrev wMO_feed (ad : Nat → Nat) (cI cZ : ClassId) (v_MO_size : Int32) (v_MO_loaded : Int32) (v_MO_at : Int32) (v_MO_fault : Int32) (v_MO_hasGiven : Int32) (v_MO_hasPicture : Int32) (v_MO_range : Int32) (v_MO_value : Int32) (v_MO_leaves : Int32) (v_mfed : Nat → Int32) : va_W := [(ad 0, .inr (12, [.ref (ad 1), .int v_MO_size, .ref (ad 2), .int v_MO_loaded, .int v_MO_at, .int v_MO_fault, .ref (ad 3), .ref (ad 4), .int v_MO_hasGiven, .int v_MO_hasPicture, .int v_MO_range, .int v_MO_value, .ref (ad 5), .ref (ad 6), .int v_MO_leaves, .ref (ad 7), .ref (ad 8), .ref (ad 9), .ref (ad 10), .ref (ad 11), .ref (ad 12), .ref (ad 13), .ref (ad 14), .ref (ad 15), .ref (ad 16), .ref (ad 17), .ref (ad 18), .ref (ad 19), .ref (ad 20), .ref (ad 21), .ref (ad 22), .ref (ad 23)])), (ad 1, .inl (cI, 240, .inl v_mfed))]
def fMO_feed_B28 (p1 : Int64) (p2 : Int32) (z1 : Int32) (z2 : Int32) (g3 : Nat → Int32) : Option ((Int32 × Int32 × (Nat → Int32)) ⊕ (Int32 × Int32 × (Nat → Int32))) :=
(if p2 ≤ z1 then
(some (.inr (z1, z2, g3)))
else
(ip_b1 (ip_ast 240 g3 z2 (((p1.toUInt64 >>> (((8 : Int32) * z1).toInt64.toUInt64 &&& Int64.toUInt64 63)).toInt64 &&& (255 : Int64)).toInt32)) (fun g7 =>
ip_lt (z2 + (1 : Int32)) (fun z8 =>
ip_lt (z1 + (1 : Int32)) (fun z9 =>
some (.inl (z9, z8, g7)))))))
def fMO_feed (v_MO_size : Int32) (v_MO_loaded : Int32) (v_MO_at : Int32) (v_MO_fault : Int32) (v_MO_hasGiven : Int32) (v_MO_hasPicture : Int32) (v_MO_range : Int32) (v_MO_value : Int32) (v_MO_leaves : Int32) (v_mfed : Nat → Int32) (p1 : Int64) (p2 : Int32) : Option (Int32 × Int32 × (Nat → Int32)) :=
(if p2 < (1 : Int32) then
(some ((0 : Int32), v_MO_size, v_mfed))
else
(if (8 : Int32) < p2 then
(some ((0 : Int32), v_MO_size, v_mfed))
else
(if (v_MO_size + p2) ≤ (240 : Int32) then
(ip_b3 (ip_lp3 (fMO_feed_B28 p1 p2) 1000 (0 : Int32) v_MO_size v_mfed) (fun x4 x5 y6 =>
some ((1 : Int32), x5, y6)))
else
(some ((0 : Int32), v_MO_size, v_mfed)))))
abbrev rmMO_clear : Room := { frames := 0, cells := 0, slots := 0, locals := 0 }
abbrev wMO_clear (ad : Nat → Nat) (cI cZ : ClassId) (v_MO_size : Int32) (v_MO_loaded : Int32) (v_MO_at : Int32) (v_MO_fault : Int32) (v_MO_hasGiven : Int32) (v_MO_hasPicture : Int32) (v_MO_range : Int32) (v_MO_value : Int32) (v_MO_leaves : Int32) : va_W := [(ad 0, .inr (12, [.ref (ad 1), .int v_MO_size, .ref (ad 2), .int v_MO_loaded, .int v_MO_at, .int v_MO_fault, .ref (ad 3), .ref (ad 4), .int v_MO_hasGiven, .int v_MO_hasPicture, .int v_MO_range, .int v_MO_value, .ref (ad 5), .ref (ad 6), .int v_MO_leaves, .ref (ad 7), .ref (ad 8), .ref (ad 9), .ref (ad 10), .ref (ad 11), .ref (ad 12), .ref (ad 13), .ref (ad 14), .ref (ad 15), .ref (ad 16), .ref (ad 17), .ref (ad 18), .ref (ad 19), .ref (ad 20), .ref (ad 21), .ref (ad 22), .ref (ad 23)]))]
def fMO_clear (v_MO_size : Int32) (v_MO_loaded : Int32) (v_MO_at : Int32) (v_MO_fault : Int32) (v_MO_hasGiven : Int32) (v_MO_hasPicture : Int32) (v_MO_range : Int32) (v_MO_value : Int32) (v_MO_leaves : Int32)  : Option (Int32 × Int32 × Int32) :=
some ((0 : Int32), (0 : Int32), (0 : Int32))
abbrev rmMO_start : Room := { frames := 0, cells := 0, slots := 0, locals := 0 }
abbrev wMO_start (ad : Nat → Nat) (cI cZ : ClassId) (v_MO_size : Int32) (v_MO_loaded : Int32) (v_MO_at : Int32) (v_MO_fault : Int32) (v_MO_hasGiven : Int32) (v_MO_hasPicture : Int32) (v_MO_range : Int32) (v_MO_value : Int32) (v_MO_leaves : Int32) (v_mfed : Nat → Int32) : va_W := [(ad 0, .inr (12, [.ref (ad 1), .int v_MO_size, .ref (ad 2), .int v_MO_loaded, .int v_MO_at, .int v_MO_fault, .ref (ad 3), .ref (ad 4), .int v_MO_hasGiven, .int v_MO_hasPicture, .int v_MO_range, .int v_MO_value, .ref (ad 5), .ref (ad 6), .int v_MO_leaves, .ref (ad 7), .ref (ad 8), .ref (ad 9), .ref (ad 10), .ref (ad 11), .ref (ad 12), .ref (ad 13), .ref (ad 14), .ref (ad 15), .ref (ad 16), .ref (ad 17), .ref (ad 18), .ref (ad 19), .ref (ad 20), .ref (ad 21), .ref (ad 22), .ref (ad 23)])), (ad 1, .inl (cI, 240, .inl v_mfed))]
def fMO_start_B2 (v_MO_size : Int32) (v_mfed : Nat → Int32) (z1 : Int32) : Option ((Int32) ⊕ (Int32)) :=
(if v_MO_size ≤ z1 then
(some (.inr z1))
else
(if v_MO_size ≤ (z1 + (2 : Int32)) then
(ip_lt (z1 + (1 : Int32)) (fun z3 =>
some (.inl z3)))
else
(ip_b1 (ip_ald 240 v_mfed z1) (fun z4 =>
(if z4 = 0 then
(ip_b1 (ip_ald 240 v_mfed (z1 + (1 : Int32))) (fun z6 =>
(if z6 = 0 then
(ip_b1 (ip_ald 240 v_mfed (z1 + (2 : Int32))) (fun z8 =>
(if z8 = (1 : Int32) then
(some (.inr z1))
else
(ip_lt (z1 + (1 : Int32)) (fun z9 =>
some (.inl z9))))))
else
(ip_lt (z1 + (1 : Int32)) (fun z7 =>
some (.inl z7))))))
else
(ip_lt (z1 + (1 : Int32)) (fun z5 =>
some (.inl z5))))))))
def fMO_start (v_MO_size : Int32) (v_MO_loaded : Int32) (v_MO_at : Int32) (v_MO_fault : Int32) (v_MO_hasGiven : Int32) (v_MO_hasPicture : Int32) (v_MO_range : Int32) (v_MO_value : Int32) (v_MO_leaves : Int32) (v_mfed : Nat → Int32) (p1 : Int32) : Option (Int32) :=
ip_b1 (ip_lp1 (fMO_start_B2 v_MO_size v_mfed) 1000 p1) (fun x2 =>
some x2)
abbrev rmMO_units : Room := { frames := 1, cells := 0, slots := 0, locals := 22 }
abbrev wMO_units (ad : Nat → Nat) (cI cZ : ClassId) (v_MO_size : Int32) (v_MO_loaded : Int32) (v_MO_at : Int32) (v_MO_fault : Int32) (v_MO_hasGiven : Int32) (v_MO_hasPicture : Int32) (v_MO_range : Int32) (v_MO_value : Int32) (v_MO_leaves : Int32) (v_mfed : Nat → Int32) : va_W := [(ad 0, .inr (12, [.ref (ad 1), .int v_MO_size, .ref (ad 2), .int v_MO_loaded, .int v_MO_at, .int v_MO_fault, .ref (ad 3), .ref (ad 4), .int v_MO_hasGiven, .int v_MO_hasPicture, .int v_MO_range, .int v_MO_value, .ref (ad 5), .ref (ad 6), .int v_MO_leaves, .ref (ad 7), .ref (ad 8), .ref (ad 9), .ref (ad 10), .ref (ad 11), .ref (ad 12), .ref (ad 13), .ref (ad 14), .ref (ad 15), .ref (ad 16), .ref (ad 17), .ref (ad 18), .ref (ad 19), .ref (ad 20), .ref (ad 21), .ref (ad 22), .ref (ad 23)])), (ad 1, .inl (cI, 240, .inl v_mfed))]
def fMO_units_B8 (v_MO_size : Int32) (v_MO_loaded : Int32) (v_MO_at : Int32) (v_MO_fault : Int32) (v_MO_hasGiven : Int32) (v_MO_hasPicture : Int32) (v_MO_range : Int32) (v_MO_value : Int32) (v_MO_leaves : Int32) (v_mfed : Nat → Int32) (z2 : Int32) (z3 : Int32) : Option ((Int32 × Int32) ⊕ (Int32 × Int32)) :=
(if v_MO_size ≤ z3 then
(some (.inr (z2, z3)))
else
(ip_lt (z2 + (1 : Int32)) (fun z6 =>
ip_b1 (fMO_start v_MO_size v_MO_loaded v_MO_at v_MO_fault v_MO_hasGiven v_MO_hasPicture v_MO_range v_MO_value v_MO_leaves v_mfed (z3 + (3 : Int32))) (fun z7 =>
some (.inl (z6, z7))))))
def fMO_units (v_MO_size : Int32) (v_MO_loaded : Int32) (v_MO_at : Int32) (v_MO_fault : Int32) (v_MO_hasGiven : Int32) (v_MO_hasPicture : Int32) (v_MO_range : Int32) (v_MO_value : Int32) (v_MO_leaves : Int32) (v_mfed : Nat → Int32)  : Option (Int32) :=
ip_b1 (fMO_start v_MO_size v_MO_loaded v_MO_at v_MO_fault v_MO_hasGiven v_MO_hasPicture v_MO_range v_MO_value v_MO_leaves v_mfed (0 : Int32)) (fun z1 =>
ip_b2 (ip_lp2 (fMO_units_B8 v_MO_size v_MO_loaded v_MO_at v_MO_fault v_MO_hasGiven v_MO_hasPicture v_MO_range v_MO_value v_MO_leaves v_mfed) 1000 (0 : Int32) z1) (fun x4 x5 =>
some x4))
abbrev rmMO_open : Room := { frames := 2, cells := 0, slots := 0, locals := 44 }
abbrev wMO_open (ad : Nat → Nat) (cI cZ : ClassId) (v_MO_size : Int32) (v_MO_loaded : Int32) (v_MO_at : Int32) (v_MO_fault : Int32) (v_MO_hasGiven : Int32) (v_MO_hasPicture : Int32) (v_MO_range : Int32) (v_MO_value : Int32) (v_MO_leaves : Int32) (v_mfed : Nat → Int32) (v_mload : Nat → Int32) : va_W := [(ad 0, .inr (12, [.ref (ad 1), .int v_MO_size, .ref (ad 2), .int v_MO_loaded, .int v_MO_at, .int v_MO_fault, .ref (ad 3), .ref (ad 4), .int v_MO_hasGiven, .int v_MO_hasPicture, .int v_MO_range, .int v_MO_value, .ref (ad 5), .ref (ad 6), .int v_MO_leaves, .ref (ad 7), .ref (ad 8), .ref (ad 9), .ref (ad 10), .ref (ad 11), .ref (ad 12), .ref (ad 13), .ref (ad 14), .ref (ad 15), .ref (ad 16), .ref (ad 17), .ref (ad 18), .ref (ad 19), .ref (ad 20), .ref (ad 21), .ref (ad 22), .ref (ad 23)])), (ad 1, .inl (cI, 240, .inl v_mfed)), (ad 2, .inl (cI, 240, .inl v_mload))]
def fMO_open_B22 (v_MO_size : Int32) (v_MO_loaded : Int32) (v_MO_at : Int32) (v_MO_fault : Int32) (v_MO_hasGiven : Int32) (v_MO_hasPicture : Int32) (v_MO_range : Int32) (v_MO_value : Int32) (v_MO_leaves : Int32) (v_mfed : Nat → Int32) (p1 : Int32) (z3 : Int32) (z4 : Int32) : Option ((Int32 × Int32) ⊕ (Int32 × Int32)) :=
(if p1 ≤ z4 then
(some (.inr (z3, z4)))
else
(ip_b1 (fMO_start v_MO_size v_MO_loaded v_MO_at v_MO_fault v_MO_hasGiven v_MO_hasPicture v_MO_range v_MO_value v_MO_leaves v_mfed (z3 + (3 : Int32))) (fun z7 =>
ip_lt (z4 + (1 : Int32)) (fun z8 =>
some (.inl (z7, z8))))))
def fMO_open_B62 (v_mfed : Nat → Int32) (z9 : Int32) (z11 : Int32) (z12 : Int32) (z13 : Int32) (g14 : Nat → Int32) : Option ((Int32 × Int32 × Int32 × (Nat → Int32)) ⊕ (Int32 × Int32 × Int32 × (Nat → Int32))) :=
(if z9 ≤ z12 then
(some (.inr (z11, z12, z13, g14)))
else
(ip_b1 ((if z11 < (2 : Int32) then
(some (0 : Int32))
else
(ip_b1 (ip_ald 240 v_mfed z12) (fun z20 =>
(if z20 = (3 : Int32) then
(some (1 : Int32))
else
(some (0 : Int32))))))) (fun z19 =>
ip_b1 (ip_ald 240 v_mfed z12) (fun z21 =>
ip_b1 ((if z21 = 0 then
(if z19 = 0 then
(some (z11 + (1 : Int32)))
else
(some (0 : Int32)))
else
(some (0 : Int32)))) (fun z22 =>
ip_b2 ((if z19 = 0 then
(ip_b1 (ip_ald 240 v_mfed z12) (fun z25 =>
ip_b1 (ip_ast 240 g14 z13 z25) (fun g26 =>
ip_lt (z13 + (1 : Int32)) (fun z27 =>
some (z27, g26)))))
else
(some (z13, g14)))) (fun z23 g24 =>
ip_lt (z12 + (1 : Int32)) (fun z28 =>
some (.inl (z22, z28, z23, g24)))))))))
def fMO_open (v_MO_size : Int32) (v_MO_loaded : Int32) (v_MO_at : Int32) (v_MO_fault : Int32) (v_MO_hasGiven : Int32) (v_MO_hasPicture : Int32) (v_MO_range : Int32) (v_MO_value : Int32) (v_MO_leaves : Int32) (v_mfed : Nat → Int32) (v_mload : Nat → Int32) (p1 : Int32) : Option (Int32 × Int32 × (Nat → Int32)) :=
(if p1 < 0 then
(some ((0 : Int32), v_MO_loaded, v_mload))
else
(ip_b1 (fMO_units v_MO_size v_MO_loaded v_MO_at v_MO_fault v_MO_hasGiven v_MO_hasPicture v_MO_range v_MO_value v_MO_leaves v_mfed) (fun z1 =>
(if p1 < z1 then
(ip_b1 (fMO_start v_MO_size v_MO_loaded v_MO_at v_MO_fault v_MO_hasGiven v_MO_hasPicture v_MO_range v_MO_value v_MO_leaves v_mfed (0 : Int32)) (fun z2 =>
ip_b2 (ip_lp2 (fMO_open_B22 v_MO_size v_MO_loaded v_MO_at v_MO_fault v_MO_hasGiven v_MO_hasPicture v_MO_range v_MO_value v_MO_leaves v_mfed p1) 1000 z2 (0 : Int32)) (fun x5 x6 =>
ip_b1 (fMO_start v_MO_size v_MO_loaded v_MO_at v_MO_fault v_MO_hasGiven v_MO_hasPicture v_MO_range v_MO_value v_MO_leaves v_mfed (x5 + (3 : Int32))) (fun z9 =>
ip_lt (x5 + (3 : Int32)) (fun z10 =>
ip_b4 (ip_lp4 (fMO_open_B62 v_mfed z9) 1000 (0 : Int32) z10 (0 : Int32) v_mload) (fun x15 x16 x17 y18 =>
some ((1 : Int32), x17, y18)))))))
else
(some ((0 : Int32), v_MO_loaded, v_mload))))))
abbrev rmMO_payload : Room := { frames := 3, cells := 0, slots := 0, locals := 70 }
abbrev wMO_payload (ad : Nat → Nat) (cI cZ : ClassId) (v_MO_size : Int32) (v_MO_loaded : Int32) (v_MO_at : Int32) (v_MO_fault : Int32) (v_MO_hasGiven : Int32) (v_MO_hasPicture : Int32) (v_MO_range : Int32) (v_MO_value : Int32) (v_MO_leaves : Int32) (v_mfed : Nat → Int32) (v_mload : Nat → Int32) : va_W := [(ad 0, .inr (12, [.ref (ad 1), .int v_MO_size, .ref (ad 2), .int v_MO_loaded, .int v_MO_at, .int v_MO_fault, .ref (ad 3), .ref (ad 4), .int v_MO_hasGiven, .int v_MO_hasPicture, .int v_MO_range, .int v_MO_value, .ref (ad 5), .ref (ad 6), .int v_MO_leaves, .ref (ad 7), .ref (ad 8), .ref (ad 9), .ref (ad 10), .ref (ad 11), .ref (ad 12), .ref (ad 13), .ref (ad 14), .ref (ad 15), .ref (ad 16), .ref (ad 17), .ref (ad 18), .ref (ad 19), .ref (ad 20), .ref (ad 21), .ref (ad 22), .ref (ad 23)])), (ad 1, .inl (cI, 240, .inl v_mfed)), (ad 2, .inl (cI, 240, .inl v_mload))]
def fMO_payload (v_MO_size : Int32) (v_MO_loaded : Int32) (v_MO_at : Int32) (v_MO_fault : Int32) (v_MO_hasGiven : Int32) (v_MO_hasPicture : Int32) (v_MO_range : Int32) (v_MO_value : Int32) (v_MO_leaves : Int32) (v_mfed : Nat → Int32) (v_mload : Nat → Int32) (p1 : Int32) (p2 : Int32) : Option (Int32 × Int32 × (Nat → Int32)) :=
ip_b3 (fMO_open v_MO_size v_MO_loaded v_MO_at v_MO_fault v_MO_hasGiven v_MO_hasPicture v_MO_range v_MO_value v_MO_leaves v_mfed v_mload p1) (fun z1 z2 g3 =>
(if z1 = 0 then
(some ((-1 : Int32), z2, g3))
else
(if p2 < (-1 : Int32) then
(some ((-1 : Int32), z2, g3))
else
(if p2 < z2 then
(if p2 = (-1 : Int32) then
(some (z2, z2, g3))
else
(ip_b1 (ip_ald 240 g3 p2) (fun z4 =>
some (z4, z2, g3))))
else
(some ((-1 : Int32), z2, g3))))))
abbrev rmMO_bit : Room := { frames := 0, cells := 0, slots := 0, locals := 0 }
abbrev wMO_bit (ad : Nat → Nat) (cI cZ : ClassId) (v_MO_size : Int32) (v_MO_loaded : Int32) (v_MO_at : Int32) (v_MO_fault : Int32) (v_MO_hasGiven : Int32) (v_MO_hasPicture : Int32) (v_MO_range : Int32) (v_MO_value : Int32) (v_MO_leaves : Int32) (v_mload : Nat → Int32) : va_W := [(ad 0, .inr (12, [.ref (ad 1), .int v_MO_size, .ref (ad 2), .int v_MO_loaded, .int v_MO_at, .int v_MO_fault, .ref (ad 3), .ref (ad 4), .int v_MO_hasGiven, .int v_MO_hasPicture, .int v_MO_range, .int v_MO_value, .ref (ad 5), .ref (ad 6), .int v_MO_leaves, .ref (ad 7), .ref (ad 8), .ref (ad 9), .ref (ad 10), .ref (ad 11), .ref (ad 12), .ref (ad 13), .ref (ad 14), .ref (ad 15), .ref (ad 16), .ref (ad 17), .ref (ad 18), .ref (ad 19), .ref (ad 20), .ref (ad 21), .ref (ad 22), .ref (ad 23)])), (ad 2, .inl (cI, 240, .inl v_mload))]
def fMO_bit (v_MO_size : Int32) (v_MO_loaded : Int32) (v_MO_at : Int32) (v_MO_fault : Int32) (v_MO_hasGiven : Int32) (v_MO_hasPicture : Int32) (v_MO_range : Int32) (v_MO_value : Int32) (v_MO_leaves : Int32) (v_mload : Nat → Int32)  : Option (Int32 × Int32) :=
ip_lt ((1 : Int32) + (v_MO_at / (8 : Int32))) (fun z1 =>
ip_b1 ((if v_MO_loaded ≤ z1 then
(some (0 : Int32))
else
(ip_b1 (ip_ald 240 v_mload z1) (fun z3 =>
some ((z3 >>> (((7 : Int32) - (v_MO_at - v_MO_at / (8 : Int32) * (8 : Int32))) &&& 31)) &&& (1 : Int32)))))) (fun z2 =>
ip_lt (v_MO_at + (1 : Int32)) (fun z4 =>
some (z2, z4))))
abbrev rmMO_needed : Room := { frames := 1, cells := 0, slots := 0, locals := 22 }
abbrev wMO_needed (ad : Nat → Nat) (cI cZ : ClassId) (v_MO_size : Int32) (v_MO_loaded : Int32) (v_MO_at : Int32) (v_MO_fault : Int32) (v_MO_hasGiven : Int32) (v_MO_hasPicture : Int32) (v_MO_range : Int32) (v_MO_value : Int32) (v_MO_leaves : Int32) (v_mload : Nat → Int32) : va_W := [(ad 0, .inr (12, [.ref (ad 1), .int v_MO_size, .ref (ad 2), .int v_MO_loaded, .int v_MO_at, .int v_MO_fault, .ref (ad 3), .ref (ad 4), .int v_MO_hasGiven, .int v_MO_hasPicture, .int v_MO_range, .int v_MO_value, .ref (ad 5), .ref (ad 6), .int v_MO_leaves, .ref (ad 7), .ref (ad 8), .ref (ad 9), .ref (ad 10), .ref (ad 11), .ref (ad 12), .ref (ad 13), .ref (ad 14), .ref (ad 15), .ref (ad 16), .ref (ad 17), .ref (ad 18), .ref (ad 19), .ref (ad 20), .ref (ad 21), .ref (ad 22), .ref (ad 23)])), (ad 2, .inl (cI, 240, .inl v_mload))]
def fMO_needed_B4 (v_MO_size : Int32) (v_MO_loaded : Int32) (v_MO_hasGiven : Int32) (v_MO_hasPicture : Int32) (v_MO_range : Int32) (v_MO_value : Int32) (v_MO_leaves : Int32) (v_mload : Nat → Int32) (p1 : Int32) (z1 : Int32) (z2 : Int32) (z3 : Int32) (z4 : Int32) : Option ((Int32 × Int32 × Int32 × Int32) ⊕ (Int32 × Int32 × Int32 × Int32)) :=
(if p1 ≤ z2 then
(some (.inr (z1, z2, z3, z4)))
else
(if z4 = 0 then
(ip_b3 ((if ((1 : Int32) + (z3 / (8 : Int32))) < v_MO_loaded then
(ip_b2 (fMO_bit v_MO_size v_MO_loaded z3 z4 v_MO_hasGiven v_MO_hasPicture v_MO_range v_MO_value v_MO_leaves v_mload) (fun z12 z13 =>
ip_lt (((2 : Int32) * z1) + z12) (fun z14 =>
some (z14, z13, z4))))
else
(some (z1, z3, (-4 : Int32))))) (fun z9 z10 z11 =>
ip_lt (z2 + (1 : Int32)) (fun z15 =>
some (.inl (z9, z15, z10, z11)))))
else
(some (.inr (z1, z2, z3, z4)))))
def fMO_needed (v_MO_size : Int32) (v_MO_loaded : Int32) (v_MO_at : Int32) (v_MO_fault : Int32) (v_MO_hasGiven : Int32) (v_MO_hasPicture : Int32) (v_MO_range : Int32) (v_MO_value : Int32) (v_MO_leaves : Int32) (v_mload : Nat → Int32) (p1 : Int32) : Option (Int32 × Int32 × Int32) :=
ip_b4 (ip_lp4 (fMO_needed_B4 v_MO_size v_MO_loaded v_MO_hasGiven v_MO_hasPicture v_MO_range v_MO_value v_MO_leaves v_mload p1) 1000 (0 : Int32) (0 : Int32) v_MO_at v_MO_fault) (fun x5 x6 x7 x8 =>
some (x5, x7, x8))
abbrev rmMO_code : Room := { frames := 2, cells := 0, slots := 0, locals := 45 }
abbrev wMO_code (ad : Nat → Nat) (cI cZ : ClassId) (v_MO_size : Int32) (v_MO_loaded : Int32) (v_MO_at : Int32) (v_MO_fault : Int32) (v_MO_hasGiven : Int32) (v_MO_hasPicture : Int32) (v_MO_range : Int32) (v_MO_value : Int32) (v_MO_leaves : Int32) (v_mload : Nat → Int32) : va_W := [(ad 0, .inr (12, [.ref (ad 1), .int v_MO_size, .ref (ad 2), .int v_MO_loaded, .int v_MO_at, .int v_MO_fault, .ref (ad 3), .ref (ad 4), .int v_MO_hasGiven, .int v_MO_hasPicture, .int v_MO_range, .int v_MO_value, .ref (ad 5), .ref (ad 6), .int v_MO_leaves, .ref (ad 7), .ref (ad 8), .ref (ad 9), .ref (ad 10), .ref (ad 11), .ref (ad 12), .ref (ad 13), .ref (ad 14), .ref (ad 15), .ref (ad 16), .ref (ad 17), .ref (ad 18), .ref (ad 19), .ref (ad 20), .ref (ad 21), .ref (ad 22), .ref (ad 23)])), (ad 2, .inl (cI, 240, .inl v_mload))]
def fMO_code_B8 (v_MO_size : Int32) (v_MO_loaded : Int32) (v_MO_hasGiven : Int32) (v_MO_hasPicture : Int32) (v_MO_range : Int32) (v_MO_value : Int32) (v_MO_leaves : Int32) (v_mload : Nat → Int32) (z4 : Int32) (z5 : Int32) (z6 : Int32) (z7 : Int32) : Option ((Int32 × Int32 × Int32 × Int32) ⊕ (Int32 × Int32 × Int32 × Int32)) :=
(if z5 = 0 then
(if z7 = 0 then
(ip_lt (z4 + (1 : Int32)) (fun z12 =>
(if z12 = (7 : Int32) then
(some (.inl (z12, z5, z6, (-3 : Int32))))
else
(ip_b3 (fMO_needed v_MO_size v_MO_loaded z6 z7 v_MO_hasGiven v_MO_hasPicture v_MO_range v_MO_value v_MO_leaves v_mload (1 : Int32)) (fun z13 z14 z15 =>
some (.inl (z12, z13, z14, z15)))))))
else
(some (.inr (z4, z5, z6, z7))))
else
(some (.inr (z4, z5, z6, z7))))
def fMO_code (v_MO_size : Int32) (v_MO_loaded : Int32) (v_MO_at : Int32) (v_MO_fault : Int32) (v_MO_hasGiven : Int32) (v_MO_hasPicture : Int32) (v_MO_range : Int32) (v_MO_value : Int32) (v_MO_leaves : Int32) (v_mload : Nat → Int32)  : Option (Int32 × Int32 × Int32) :=
ip_b3 (fMO_needed v_MO_size v_MO_loaded v_MO_at v_MO_fault v_MO_hasGiven v_MO_hasPicture v_MO_range v_MO_value v_MO_leaves v_mload (1 : Int32)) (fun z1 z2 z3 =>
ip_b4 (ip_lp4 (fMO_code_B8 v_MO_size v_MO_loaded v_MO_hasGiven v_MO_hasPicture v_MO_range v_MO_value v_MO_leaves v_mload) 1000 (0 : Int32) z1 z2 z3) (fun x8 x9 x10 x11 =>
ip_b3 (fMO_needed v_MO_size v_MO_loaded x10 x11 v_MO_hasGiven v_MO_hasPicture v_MO_range v_MO_value v_MO_leaves v_mload x8) (fun z16 z17 z18 =>
some (((((1 : Int32) <<< (x8 &&& 31)) - (1 : Int32)) + z16), z17, z18))))
abbrev rmMO_within : Room := { frames := 0, cells := 0, slots := 0, locals := 0 }
abbrev wMO_within (ad : Nat → Nat) (cI cZ : ClassId) (v_MO_size : Int32) (v_MO_loaded : Int32) (v_MO_at : Int32) (v_MO_fault : Int32) (v_MO_hasGiven : Int32) (v_MO_hasPicture : Int32) (v_MO_range : Int32) (v_MO_value : Int32) (v_MO_leaves : Int32) : va_W := [(ad 0, .inr (12, [.ref (ad 1), .int v_MO_size, .ref (ad 2), .int v_MO_loaded, .int v_MO_at, .int v_MO_fault, .ref (ad 3), .ref (ad 4), .int v_MO_hasGiven, .int v_MO_hasPicture, .int v_MO_range, .int v_MO_value, .ref (ad 5), .ref (ad 6), .int v_MO_leaves, .ref (ad 7), .ref (ad 8), .ref (ad 9), .ref (ad 10), .ref (ad 11), .ref (ad 12), .ref (ad 13), .ref (ad 14), .ref (ad 15), .ref (ad 16), .ref (ad 17), .ref (ad 18), .ref (ad 19), .ref (ad 20), .ref (ad 21), .ref (ad 22), .ref (ad 23)]))]
def fMO_within (v_MO_size : Int32) (v_MO_loaded : Int32) (v_MO_at : Int32) (v_MO_fault : Int32) (v_MO_hasGiven : Int32) (v_MO_hasPicture : Int32) (v_MO_range : Int32) (v_MO_value : Int32) (v_MO_leaves : Int32) (p1 : Int32) (p2 : Int32) (p3 : Int32) : Option (Int32 × Int32) :=
ip_b1 ((if v_MO_fault = 0 then
(if p1 < p2 then
(some (-3 : Int32))
else
(if p1 ≤ p3 then
(some v_MO_fault)
else
(some (-3 : Int32))))
else
(some v_MO_fault))) (fun z1 =>
some (p1, z1))
abbrev rmMO_signedCode : Room := { frames := 3, cells := 0, slots := 0, locals := 67 }
abbrev wMO_signedCode (ad : Nat → Nat) (cI cZ : ClassId) (v_MO_size : Int32) (v_MO_loaded : Int32) (v_MO_at : Int32) (v_MO_fault : Int32) (v_MO_hasGiven : Int32) (v_MO_hasPicture : Int32) (v_MO_range : Int32) (v_MO_value : Int32) (v_MO_leaves : Int32) (v_mload : Nat → Int32) : va_W := [(ad 0, .inr (12, [.ref (ad 1), .int v_MO_size, .ref (ad 2), .int v_MO_loaded, .int v_MO_at, .int v_MO_fault, .ref (ad 3), .ref (ad 4), .int v_MO_hasGiven, .int v_MO_hasPicture, .int v_MO_range, .int v_MO_value, .ref (ad 5), .ref (ad 6), .int v_MO_leaves, .ref (ad 7), .ref (ad 8), .ref (ad 9), .ref (ad 10), .ref (ad 11), .ref (ad 12), .ref (ad 13), .ref (ad 14), .ref (ad 15), .ref (ad 16), .ref (ad 17), .ref (ad 18), .ref (ad 19), .ref (ad 20), .ref (ad 21), .ref (ad 22), .ref (ad 23)])), (ad 2, .inl (cI, 240, .inl v_mload))]
def fMO_signedCode (v_MO_size : Int32) (v_MO_loaded : Int32) (v_MO_at : Int32) (v_MO_fault : Int32) (v_MO_hasGiven : Int32) (v_MO_hasPicture : Int32) (v_MO_range : Int32) (v_MO_value : Int32) (v_MO_leaves : Int32) (v_mload : Nat → Int32)  : Option (Int32 × Int32 × Int32) :=
ip_b3 (fMO_code v_MO_size v_MO_loaded v_MO_at v_MO_fault v_MO_hasGiven v_MO_hasPicture v_MO_range v_MO_value v_MO_leaves v_mload) (fun z1 z2 z3 =>
ip_b1 ((if (z1 - z1 / (2 : Int32) * (2 : Int32)) = (1 : Int32) then
(some ((z1 + (1 : Int32)) / (2 : Int32)))
else
(some (-(z1 / (2 : Int32)))))) (fun z4 =>
ip_b2 (fMO_within v_MO_size v_MO_loaded z2 z3 v_MO_hasGiven v_MO_hasPicture v_MO_range v_MO_value v_MO_leaves z4 (-7 : Int32) (7 : Int32)) (fun z5 z6 =>
some (z5, z2, z6))))
abbrev rmMO_readParameters : Room := { frames := 4, cells := 0, slots := 0, locals := 88 }
abbrev wMO_readParameters (ad : Nat → Nat) (cI cZ : ClassId) (v_MO_size : Int32) (v_MO_loaded : Int32) (v_MO_at : Int32) (v_MO_fault : Int32) (v_MO_hasGiven : Int32) (v_MO_hasPicture : Int32) (v_MO_range : Int32) (v_MO_value : Int32) (v_MO_leaves : Int32) (v_mload : Nat → Int32) (v_mgiven : Nat → Int32) (v_mwanted : Nat → Int32) : va_W := [(ad 0, .inr (12, [.ref (ad 1), .int v_MO_size, .ref (ad 2), .int v_MO_loaded, .int v_MO_at, .int v_MO_fault, .ref (ad 3), .ref (ad 4), .int v_MO_hasGiven, .int v_MO_hasPicture, .int v_MO_range, .int v_MO_value, .ref (ad 5), .ref (ad 6), .int v_MO_leaves, .ref (ad 7), .ref (ad 8), .ref (ad 9), .ref (ad 10), .ref (ad 11), .ref (ad 12), .ref (ad 13), .ref (ad 14), .ref (ad 15), .ref (ad 16), .ref (ad 17), .ref (ad 18), .ref (ad 19), .ref (ad 20), .ref (ad 21), .ref (ad 22), .ref (ad 23)])), (ad 2, .inl (cI, 240, .inl v_mload)), (ad 3, .inl (cI, 10, .inl v_mgiven)), (ad 4, .inl (cI, 10, .inl v_mwanted))]
def fMO_readParameters_B7 (z1 : Int32) (g2 : Nat → Int32) : Option ((Int32 × (Nat → Int32)) ⊕ (Int32 × (Nat → Int32))) :=
(if (10 : Int32) ≤ z1 then
(some (.inr (z1, g2)))
else
(ip_b1 (ip_ast 10 g2 z1 (0 : Int32)) (fun g5 =>
ip_lt (z1 + (1 : Int32)) (fun z6 =>
some (.inl (z6, g5))))))
def fMO_readParameters_B45 (v_MO_size : Int32) (v_MO_loaded : Int32) (v_MO_hasGiven : Int32) (v_MO_hasPicture : Int32) (v_MO_range : Int32) (v_MO_value : Int32) (v_MO_leaves : Int32) (v_mload : Nat → Int32) (z13 : Int32) (z14 : Int32) (z15 : Int32) (g16 : Nat → Int32) : Option ((Int32 × Int32 × Int32 × (Nat → Int32)) ⊕ (Int32 × Int32 × Int32 × (Nat → Int32))) :=
(if (4 : Int32) ≤ z13 then
(some (.inr (z13, z14, z15, g16)))
else
(ip_b3 (fMO_needed v_MO_size v_MO_loaded z14 z15 v_MO_hasGiven v_MO_hasPicture v_MO_range v_MO_value v_MO_leaves v_mload (1 : Int32)) (fun z21 z22 z23 =>
ip_b1 (ip_ast 10 g16 z13 z21) (fun g24 =>
ip_lt (z13 + (1 : Int32)) (fun z25 =>
some (.inl (z25, z22, z23, g24)))))))
def fMO_readParameters_B80 (v_MO_size : Int32) (v_MO_loaded : Int32) (v_MO_hasGiven : Int32) (v_MO_hasPicture : Int32) (v_MO_range : Int32) (v_MO_value : Int32) (v_MO_leaves : Int32) (v_mload : Nat → Int32) (z30 : Int32) (z31 : Int32) (z32 : Int32) (g33 : Nat → Int32) : Option ((Int32 × Int32 × Int32 × (Nat → Int32)) ⊕ (Int32 × Int32 × Int32 × (Nat → Int32))) :=
(if (9 : Int32) ≤ z30 then
(some (.inr (z30, z31, z32, g33)))
else
(ip_b1 (ip_ald 10 g33 (4 : Int32)) (fun z38 =>
(if z38 = 0 then
(some (.inr (z30, z31, z32, g33)))
else
(if z32 = 0 then
(ip_b3 (fMO_signedCode v_MO_size v_MO_loaded z31 z32 v_MO_hasGiven v_MO_hasPicture v_MO_range v_MO_value v_MO_leaves v_mload) (fun z39 z40 z41 =>
ip_b1 (ip_ast 10 g33 z30 z39) (fun g42 =>
ip_lt (z30 + (1 : Int32)) (fun z43 =>
some (.inl (z43, z40, z41, g42))))))
else
(some (.inr (z30, z31, z32, g33))))))))
def fMO_readParameters_B142 (z46 : Int32) (g47 : Nat → Int32) (z52 : Int32) (g53 : Nat → Int32) : Option ((Int32 × (Nat → Int32)) ⊕ (Int32 × (Nat → Int32))) :=
(if (10 : Int32) ≤ z52 then
(some (.inr (z52, g53)))
else
(if z46 = 0 then
(ip_b1 (ip_ald 10 g47 z52) (fun z56 =>
ip_b1 (ip_ast 10 g53 z52 z56) (fun g57 =>
ip_lt (z52 + (1 : Int32)) (fun z58 =>
some (.inl (z58, g57))))))
else
(some (.inr (z52, g53)))))
def fMO_readParameters (v_MO_size : Int32) (v_MO_loaded : Int32) (v_MO_at : Int32) (v_MO_fault : Int32) (v_MO_hasGiven : Int32) (v_MO_hasPicture : Int32) (v_MO_range : Int32) (v_MO_value : Int32) (v_MO_leaves : Int32) (v_mload : Nat → Int32) (v_mgiven : Nat → Int32) (v_mwanted : Nat → Int32)  : Option (Int32 × Int32 × Int32 × (Nat → Int32) × (Nat → Int32)) :=
ip_b2 (ip_lp2 fMO_readParameters_B7 1000 (0 : Int32) v_mwanted) (fun x3 y4 =>
ip_b3 (fMO_code v_MO_size v_MO_loaded (0 : Int32) v_MO_fault v_MO_hasGiven v_MO_hasPicture v_MO_range v_MO_value v_MO_leaves v_mload) (fun z7 z8 z9 =>
ip_b2 (fMO_within v_MO_size v_MO_loaded z8 z9 v_MO_hasGiven v_MO_hasPicture v_MO_range v_MO_value v_MO_leaves z7 (0 : Int32) (51 : Int32)) (fun z10 z11 =>
ip_b1 (ip_ast 10 y4 (0 : Int32) z10) (fun g12 =>
ip_b4 (ip_lp4 (fMO_readParameters_B45 v_MO_size v_MO_loaded v_MO_hasGiven v_MO_hasPicture v_MO_range v_MO_value v_MO_leaves v_mload) 1000 (1 : Int32) z8 z11 g12) (fun x17 x18 x19 y20 =>
ip_b3 (fMO_needed v_MO_size v_MO_loaded x18 x19 v_MO_hasGiven v_MO_hasPicture v_MO_range v_MO_value v_MO_leaves v_mload (2 : Int32)) (fun z26 z27 z28 =>
ip_b1 (ip_ast 10 y20 (4 : Int32) z26) (fun g29 =>
ip_b4 (ip_lp4 (fMO_readParameters_B80 v_MO_size v_MO_loaded v_MO_hasGiven v_MO_hasPicture v_MO_range v_MO_value v_MO_leaves v_mload) 1000 (5 : Int32) z27 z28 g29) (fun x34 x35 x36 y37 =>
ip_b1 (ip_ald 10 y37 (4 : Int32)) (fun z44 =>
ip_b3 ((if z44 = (3 : Int32) then
(ip_b3 (fMO_needed v_MO_size v_MO_loaded x35 x36 v_MO_hasGiven v_MO_hasPicture v_MO_range v_MO_value v_MO_leaves v_mload (3 : Int32)) (fun z48 z49 z50 =>
ip_b1 (ip_ast 10 y37 (9 : Int32) z48) (fun g51 =>
some (z49, z50, g51))))
else
(some (x35, x36, y37)))) (fun z45 z46 g47 =>
ip_b2 (ip_lp2 (fMO_readParameters_B142 z46 g47) 1000 (0 : Int32) v_mgiven) (fun x54 y55 =>
ip_b1 ((if v_MO_hasGiven = 0 then
(if z46 = 0 then
(some (1 : Int32))
else
(some (0 : Int32)))
else
(some (1 : Int32)))) (fun z59 =>
ip_zk z59 (
some (z45, z46, z59, y55, g47))))))))))))))
abbrev rmMO_shift : Room := { frames := 1, cells := 0, slots := 0, locals := 22 }
abbrev wMO_shift (ad : Nat → Nat) (cI cZ : ClassId) (v_MO_size : Int32) (v_MO_loaded : Int32) (v_MO_at : Int32) (v_MO_fault : Int32) (v_MO_hasGiven : Int32) (v_MO_hasPicture : Int32) (v_MO_range : Int32) (v_MO_value : Int32) (v_MO_leaves : Int32) (v_mload : Nat → Int32) (v_mcounts : Nat → Int32) : va_W := [(ad 0, .inr (12, [.ref (ad 1), .int v_MO_size, .ref (ad 2), .int v_MO_loaded, .int v_MO_at, .int v_MO_fault, .ref (ad 3), .ref (ad 4), .int v_MO_hasGiven, .int v_MO_hasPicture, .int v_MO_range, .int v_MO_value, .ref (ad 5), .ref (ad 6), .int v_MO_leaves, .ref (ad 7), .ref (ad 8), .ref (ad 9), .ref (ad 10), .ref (ad 11), .ref (ad 12), .ref (ad 13), .ref (ad 14), .ref (ad 15), .ref (ad 16), .ref (ad 17), .ref (ad 18), .ref (ad 19), .ref (ad 20), .ref (ad 21), .ref (ad 22), .ref (ad 23)])), (ad 2, .inl (cI, 240, .inl v_mload)), (ad 6, .inl (cI, 3, .inl v_mcounts))]
def fMO_shift (v_MO_size : Int32) (v_MO_loaded : Int32) (v_MO_at : Int32) (v_MO_fault : Int32) (v_MO_hasGiven : Int32) (v_MO_hasPicture : Int32) (v_MO_range : Int32) (v_MO_value : Int32) (v_MO_leaves : Int32) (v_mload : Nat → Int32) (v_mcounts : Nat → Int32)  : Option (Int32 × Int32 × (Nat → Int32)) :=
ip_b2 (fMO_bit v_MO_size v_MO_loaded v_MO_at v_MO_fault v_MO_hasGiven v_MO_hasPicture v_MO_range v_MO_value v_MO_leaves v_mload) (fun z1 z2 =>
ip_lt (((2 : Int32) * v_MO_value) + z1) (fun z3 =>
ip_b1 (ip_ald 3 v_mcounts (2 : Int32)) (fun z4 =>
ip_b1 (ip_ast 3 v_mcounts (2 : Int32) (z4 + (1 : Int32))) (fun g5 =>
some (z2, z3, g5)))))
abbrev rmMO_bin : Room := { frames := 2, cells := 0, slots := 0, locals := 42 }
abbrev wMO_bin (ad : Nat → Nat) (cI cZ : ClassId) (v_MO_size : Int32) (v_MO_loaded : Int32) (v_MO_at : Int32) (v_MO_fault : Int32) (v_MO_hasGiven : Int32) (v_MO_hasPicture : Int32) (v_MO_range : Int32) (v_MO_value : Int32) (v_MO_leaves : Int32) (v_mload : Nat → Int32) (v_mchances : Nat → Int32) (v_mcounts : Nat → Int32) : va_W := [(ad 0, .inr (12, [.ref (ad 1), .int v_MO_size, .ref (ad 2), .int v_MO_loaded, .int v_MO_at, .int v_MO_fault, .ref (ad 3), .ref (ad 4), .int v_MO_hasGiven, .int v_MO_hasPicture, .int v_MO_range, .int v_MO_value, .ref (ad 5), .ref (ad 6), .int v_MO_leaves, .ref (ad 7), .ref (ad 8), .ref (ad 9), .ref (ad 10), .ref (ad 11), .ref (ad 12), .ref (ad 13), .ref (ad 14), .ref (ad 15), .ref (ad 16), .ref (ad 17), .ref (ad 18), .ref (ad 19), .ref (ad 20), .ref (ad 21), .ref (ad 22), .ref (ad 23)])), (ad 2, .inl (cI, 240, .inl v_mload)), (ad 5, .inl (cI, 14, .inl v_mchances)), (ad 6, .inl (cI, 3, .inl v_mcounts))]
def fMO_bin_B140 (v_MO_size : Int32) (v_MO_loaded : Int32) (v_MO_fault : Int32) (v_MO_hasGiven : Int32) (v_MO_hasPicture : Int32) (v_MO_leaves : Int32) (v_mload : Nat → Int32) (z15 : Int32) (z16 : Int32) (z17 : Int32) (z18 : Int32) (g19 : Nat → Int32) : Option ((Int32 × Int32 × Int32 × Int32 × (Nat → Int32)) ⊕ (Int32 × Int32 × Int32 × Int32 × (Nat → Int32))) :=
(if (10 : Int32) ≤ z15 then
(some (.inr (z15, z16, z17, z18, g19)))
else
(if (256 : Int32) ≤ z17 then
(some (.inr (z15, z16, z17, z18, g19)))
else
(ip_lt (z17 * (2 : Int32)) (fun z25 =>
ip_b3 (fMO_shift v_MO_size v_MO_loaded z16 v_MO_fault v_MO_hasGiven v_MO_hasPicture z25 z18 v_MO_leaves v_mload g19) (fun z26 z27 g28 =>
ip_lt (z15 + (1 : Int32)) (fun z29 =>
some (.inl (z29, z26, z25, z27, g28))))))))
def fMO_bin (v_MO_size : Int32) (v_MO_loaded : Int32) (v_MO_at : Int32) (v_MO_fault : Int32) (v_MO_hasGiven : Int32) (v_MO_hasPicture : Int32) (v_MO_range : Int32) (v_MO_value : Int32) (v_MO_leaves : Int32) (v_mload : Nat → Int32) (v_mchances : Nat → Int32) (v_mcounts : Nat → Int32) (p1 : Int32) : Option (Int32 × Int32 × Int32 × Int32 × (Nat → Int32) × (Nat → Int32)) :=
ip_b1 (ip_ald 3 v_mcounts (0 : Int32)) (fun z1 =>
ip_b1 (ip_ast 3 v_mcounts (0 : Int32) (z1 + (1 : Int32))) (fun g2 =>
ip_b1 (ip_ald 14 v_mchances p1) (fun z3 =>
ip_b1 ((if z3 < (512 : Int32) then
(some (0 : Int32))
else
(some (1 : Int32)))) (fun z4 =>
ip_b1 ((if z4 = (1 : Int32) then
(some ((1023 : Int32) - z3))
else
(some z3))) (fun z5 =>
ip_lt ((((v_MO_range >>> ((5 : Int32) &&& 31)) * (z5 >>> ((5 : Int32) &&& 31))) >>> ((1 : Int32) &&& 31)) + (4 : Int32)) (fun z6 =>
ip_lt (v_MO_range - z6) (fun z7 =>
ip_b3 ((if v_MO_value < z7 then
(some (z4, z7, v_MO_value))
else
(ip_lt (v_MO_value - z7) (fun z11 =>
ip_lt ((1 : Int32) - z4) (fun z12 =>
some (z12, z6, z11)))))) (fun z8 z9 z10 =>
ip_b1 ((if z8 = (1 : Int32) then
(some (z3 + (((1023 : Int32) - z3) >>> ((4 : Int32) &&& 31))))
else
(some (z3 - (z3 >>> ((4 : Int32) &&& 31)))))) (fun z13 =>
ip_b1 (ip_ast 14 v_mchances p1 z13) (fun g14 =>
ip_b5 (ip_lp5 (fMO_bin_B140 v_MO_size v_MO_loaded v_MO_fault v_MO_hasGiven v_MO_hasPicture v_MO_leaves v_mload) 1000 (0 : Int32) v_MO_at z9 z10 g2) (fun x20 x21 x22 x23 y24 =>
some (z8, x21, x22, x23, g14, y24))))))))))))
abbrev rmMO_free : Room := { frames := 2, cells := 0, slots := 0, locals := 42 }
abbrev wMO_free (ad : Nat → Nat) (cI cZ : ClassId) (v_MO_size : Int32) (v_MO_loaded : Int32) (v_MO_at : Int32) (v_MO_fault : Int32) (v_MO_hasGiven : Int32) (v_MO_hasPicture : Int32) (v_MO_range : Int32) (v_MO_value : Int32) (v_MO_leaves : Int32) (v_mload : Nat → Int32) (v_mcounts : Nat → Int32) : va_W := [(ad 0, .inr (12, [.ref (ad 1), .int v_MO_size, .ref (ad 2), .int v_MO_loaded, .int v_MO_at, .int v_MO_fault, .ref (ad 3), .ref (ad 4), .int v_MO_hasGiven, .int v_MO_hasPicture, .int v_MO_range, .int v_MO_value, .ref (ad 5), .ref (ad 6), .int v_MO_leaves, .ref (ad 7), .ref (ad 8), .ref (ad 9), .ref (ad 10), .ref (ad 11), .ref (ad 12), .ref (ad 13), .ref (ad 14), .ref (ad 15), .ref (ad 16), .ref (ad 17), .ref (ad 18), .ref (ad 19), .ref (ad 20), .ref (ad 21), .ref (ad 22), .ref (ad 23)])), (ad 2, .inl (cI, 240, .inl v_mload)), (ad 6, .inl (cI, 3, .inl v_mcounts))]
def fMO_free (v_MO_size : Int32) (v_MO_loaded : Int32) (v_MO_at : Int32) (v_MO_fault : Int32) (v_MO_hasGiven : Int32) (v_MO_hasPicture : Int32) (v_MO_range : Int32) (v_MO_value : Int32) (v_MO_leaves : Int32) (v_mload : Nat → Int32) (v_mcounts : Nat → Int32)  : Option (Int32 × Int32 × Int32 × (Nat → Int32)) :=
ip_b1 (ip_ald 3 v_mcounts (1 : Int32)) (fun z1 =>
ip_b1 (ip_ast 3 v_mcounts (1 : Int32) (z1 + (1 : Int32))) (fun g2 =>
ip_b3 (fMO_shift v_MO_size v_MO_loaded v_MO_at v_MO_fault v_MO_hasGiven v_MO_hasPicture v_MO_range v_MO_value v_MO_leaves v_mload g2) (fun z3 z4 g5 =>
(if v_MO_range ≤ z4 then
(ip_lt (z4 - v_MO_range) (fun z6 =>
some ((1 : Int32), z3, z6, g5)))
else
(some ((0 : Int32), z3, z4, g5))))))
abbrev rmMO_frees : Room := { frames := 3, cells := 0, slots := 0, locals := 62 }
abbrev wMO_frees (ad : Nat → Nat) (cI cZ : ClassId) (v_MO_size : Int32) (v_MO_loaded : Int32) (v_MO_at : Int32) (v_MO_fault : Int32) (v_MO_hasGiven : Int32) (v_MO_hasPicture : Int32) (v_MO_range : Int32) (v_MO_value : Int32) (v_MO_leaves : Int32) (v_mload : Nat → Int32) (v_mcounts : Nat → Int32) : va_W := [(ad 0, .inr (12, [.ref (ad 1), .int v_MO_size, .ref (ad 2), .int v_MO_loaded, .int v_MO_at, .int v_MO_fault, .ref (ad 3), .ref (ad 4), .int v_MO_hasGiven, .int v_MO_hasPicture, .int v_MO_range, .int v_MO_value, .ref (ad 5), .ref (ad 6), .int v_MO_leaves, .ref (ad 7), .ref (ad 8), .ref (ad 9), .ref (ad 10), .ref (ad 11), .ref (ad 12), .ref (ad 13), .ref (ad 14), .ref (ad 15), .ref (ad 16), .ref (ad 17), .ref (ad 18), .ref (ad 19), .ref (ad 20), .ref (ad 21), .ref (ad 22), .ref (ad 23)])), (ad 2, .inl (cI, 240, .inl v_mload)), (ad 6, .inl (cI, 3, .inl v_mcounts))]
def fMO_frees_B4 (v_MO_size : Int32) (v_MO_loaded : Int32) (v_MO_fault : Int32) (v_MO_hasGiven : Int32) (v_MO_hasPicture : Int32) (v_MO_range : Int32) (v_MO_leaves : Int32) (v_mload : Nat → Int32) (p1 : Int32) (z1 : Int32) (z2 : Int32) (z3 : Int32) (z4 : Int32) (g5 : Nat → Int32) : Option ((Int32 × Int32 × Int32 × Int32 × (Nat → Int32)) ⊕ (Int32 × Int32 × Int32 × Int32 × (Nat → Int32))) :=
(if p1 ≤ z2 then
(some (.inr (z1, z2, z3, z4, g5)))
else
(ip_b4 (fMO_free v_MO_size v_MO_loaded z3 v_MO_fault v_MO_hasGiven v_MO_hasPicture v_MO_range z4 v_MO_leaves v_mload g5) (fun z11 z12 z13 g14 =>
ip_lt (((2 : Int32) * z1) + z11) (fun z15 =>
ip_lt (z2 + (1 : Int32)) (fun z16 =>
some (.inl (z15, z16, z12, z13, g14)))))))
def fMO_frees (v_MO_size : Int32) (v_MO_loaded : Int32) (v_MO_at : Int32) (v_MO_fault : Int32) (v_MO_hasGiven : Int32) (v_MO_hasPicture : Int32) (v_MO_range : Int32) (v_MO_value : Int32) (v_MO_leaves : Int32) (v_mload : Nat → Int32) (v_mcounts : Nat → Int32) (p1 : Int32) : Option (Int32 × Int32 × Int32 × (Nat → Int32)) :=
ip_b5 (ip_lp5 (fMO_frees_B4 v_MO_size v_MO_loaded v_MO_fault v_MO_hasGiven v_MO_hasPicture v_MO_range v_MO_leaves v_mload p1) 1000 (0 : Int32) (0 : Int32) v_MO_at v_MO_value v_mcounts) (fun x6 x7 x8 x9 y10 =>
some (x6, x8, x9, y10))
abbrev rmMO_place : Room := { frames := 0, cells := 0, slots := 0, locals := 0 }
abbrev wMO_place (ad : Nat → Nat) (cI cZ : ClassId)  : va_W := []
def fMO_place_B12 (p1 : Int32) (z2 : Int32) (z5 : Int32) (z6 : Int32) : Option ((Int32 × Int32) ⊕ ((Int32 × Int32) ⊕ (Int32))) :=
(if (4 : Int32) ≤ z6 then
(some (.inr (.inl (z5, z6))))
else
(if (z2 - z6) < 0 then
(ip_lt (z6 + (1 : Int32)) (fun z9 =>
some (.inl (z5, z9))))
else
(if (4 : Int32) ≤ (z2 - z6) then
(ip_lt (z6 + (1 : Int32)) (fun z10 =>
some (.inl (z5, z10))))
else
(if z5 = p1 then
(some (.inr (.inr (((4 : Int32) * (z2 - z6)) + z6))))
else
(ip_lt (z5 + (1 : Int32)) (fun z11 =>
ip_lt (z6 + (1 : Int32)) (fun z12 =>
some (.inl (z11, z12)))))))))
def fMO_place_B4 (p1 : Int32) (z1 : Int32) (z2 : Int32) : Option ((Int32 × Int32) ⊕ ((Int32 × Int32) ⊕ (Int32))) :=
(if (7 : Int32) ≤ z2 then
(some (.inr (.inl (z1, z2))))
else
(ip_b1 (ip_lp2 (fMO_place_B12 p1 z2) 1000 z1 (0 : Int32)) (fun X12 =>
ip_cs2 X12 (fun x7 x8 =>
ip_lt (z2 + (1 : Int32)) (fun z13 =>
some (.inl (x7, z13)))) (fun q => some (.inr (.inr q))))))
def fMO_place  (p1 : Int32) : Option (Int32) :=
ip_b1 (ip_lp2 (fMO_place_B4 p1) 1000 (0 : Int32) (0 : Int32)) (fun X4 =>
ip_cs2 X4 (fun x3 x4 =>
some (0 : Int32)) (fun q => some q))
abbrev rmMO_sizeOfLevel : Room := { frames := 4, cells := 0, slots := 0, locals := 85 }
abbrev wMO_sizeOfLevel (ad : Nat → Nat) (cI cZ : ClassId) (v_MO_size : Int32) (v_MO_loaded : Int32) (v_MO_at : Int32) (v_MO_fault : Int32) (v_MO_hasGiven : Int32) (v_MO_hasPicture : Int32) (v_MO_range : Int32) (v_MO_value : Int32) (v_MO_leaves : Int32) (v_mload : Nat → Int32) (v_mchances : Nat → Int32) (v_mcounts : Nat → Int32) : va_W := [(ad 0, .inr (12, [.ref (ad 1), .int v_MO_size, .ref (ad 2), .int v_MO_loaded, .int v_MO_at, .int v_MO_fault, .ref (ad 3), .ref (ad 4), .int v_MO_hasGiven, .int v_MO_hasPicture, .int v_MO_range, .int v_MO_value, .ref (ad 5), .ref (ad 6), .int v_MO_leaves, .ref (ad 7), .ref (ad 8), .ref (ad 9), .ref (ad 10), .ref (ad 11), .ref (ad 12), .ref (ad 13), .ref (ad 14), .ref (ad 15), .ref (ad 16), .ref (ad 17), .ref (ad 18), .ref (ad 19), .ref (ad 20), .ref (ad 21), .ref (ad 22), .ref (ad 23)])), (ad 2, .inl (cI, 240, .inl v_mload)), (ad 5, .inl (cI, 14, .inl v_mchances)), (ad 6, .inl (cI, 3, .inl v_mcounts))]
def fMO_sizeOfLevel_B24 (v_MO_size : Int32) (v_MO_loaded : Int32) (v_MO_fault : Int32) (v_MO_hasGiven : Int32) (v_MO_hasPicture : Int32) (v_MO_leaves : Int32) (v_mload : Nat → Int32) (z9 : Int32) (z13 : Int32) (z14 : Int32) (z15 : Int32) (g16 : Nat → Int32) : Option ((Int32 × Int32 × Int32 × (Nat → Int32)) ⊕ (Int32 × Int32 × Int32 × (Nat → Int32))) :=
(if (6 : Int32) ≤ z13 then
(some (.inr (z13, z14, z15, g16)))
else
(ip_b4 (fMO_free v_MO_size v_MO_loaded z14 v_MO_fault v_MO_hasGiven v_MO_hasPicture z9 z15 v_MO_leaves v_mload g16) (fun z21 z22 z23 g24 =>
(if z21 = (1 : Int32) then
(ip_lt (z13 + (1 : Int32)) (fun z25 =>
some (.inl (z25, z22, z23, g24))))
else
(some (.inr (z13, z22, z23, g24)))))))
def fMO_sizeOfLevel (v_MO_size : Int32) (v_MO_loaded : Int32) (v_MO_at : Int32) (v_MO_fault : Int32) (v_MO_hasGiven : Int32) (v_MO_hasPicture : Int32) (v_MO_range : Int32) (v_MO_value : Int32) (v_MO_leaves : Int32) (v_mload : Nat → Int32) (v_mchances : Nat → Int32) (v_mcounts : Nat → Int32)  : Option (Int32 × Int32 × Int32 × Int32 × (Nat → Int32) × (Nat → Int32)) :=
ip_b6 (fMO_bin v_MO_size v_MO_loaded v_MO_at v_MO_fault v_MO_hasGiven v_MO_hasPicture v_MO_range v_MO_value v_MO_leaves v_mload v_mchances v_mcounts (12 : Int32)) (fun z1 z2 z3 z4 g5 g6 =>
(if z1 = 0 then
(some ((1 : Int32), z2, z3, z4, g5, g6))
else
(ip_b6 (fMO_bin v_MO_size v_MO_loaded z2 v_MO_fault v_MO_hasGiven v_MO_hasPicture z3 z4 v_MO_leaves v_mload g5 g6 (13 : Int32)) (fun z7 z8 z9 z10 g11 g12 =>
(if z7 = 0 then
(some ((2 : Int32), z8, z9, z10, g11, g12))
else
(ip_b4 (ip_lp4 (fMO_sizeOfLevel_B24 v_MO_size v_MO_loaded v_MO_fault v_MO_hasGiven v_MO_hasPicture v_MO_leaves v_mload z9) 1000 (0 : Int32) z8 z10 g12) (fun x17 x18 x19 y20 =>
ip_b4 (fMO_frees v_MO_size v_MO_loaded x18 v_MO_fault v_MO_hasGiven v_MO_hasPicture z9 x19 v_MO_leaves v_mload y20 x17) (fun z26 z27 z28 g29 =>
some ((((2 : Int32) + ((1 : Int32) <<< (x17 &&& 31))) + z26), z27, z9, z28, g11, g29)))))))))
abbrev rmMO_readGroup : Room := { frames := 5, cells := 0, slots := 0, locals := 106 }
abbrev wMO_readGroup (ad : Nat → Nat) (cI cZ : ClassId) (v_MO_size : Int32) (v_MO_loaded : Int32) (v_MO_at : Int32) (v_MO_fault : Int32) (v_MO_hasGiven : Int32) (v_MO_hasPicture : Int32) (v_MO_range : Int32) (v_MO_value : Int32) (v_MO_leaves : Int32) (v_mload : Nat → Int32) (v_mgiven : Nat → Int32) (v_mchances : Nat → Int32) (v_mcounts : Nat → Int32) (v_mlevels : Nat → Int32) (v_mgroup : Nat → Int32) : va_W := [(ad 0, .inr (12, [.ref (ad 1), .int v_MO_size, .ref (ad 2), .int v_MO_loaded, .int v_MO_at, .int v_MO_fault, .ref (ad 3), .ref (ad 4), .int v_MO_hasGiven, .int v_MO_hasPicture, .int v_MO_range, .int v_MO_value, .ref (ad 5), .ref (ad 6), .int v_MO_leaves, .ref (ad 7), .ref (ad 8), .ref (ad 9), .ref (ad 10), .ref (ad 11), .ref (ad 12), .ref (ad 13), .ref (ad 14), .ref (ad 15), .ref (ad 16), .ref (ad 17), .ref (ad 18), .ref (ad 19), .ref (ad 20), .ref (ad 21), .ref (ad 22), .ref (ad 23)])), (ad 2, .inl (cI, 240, .inl v_mload)), (ad 3, .inl (cI, 10, .inl v_mgiven)), (ad 5, .inl (cI, 14, .inl v_mchances)), (ad 6, .inl (cI, 3, .inl v_mcounts)), (ad 13, .inl (cI, 256, .inl v_mlevels)), (ad 14, .inl (cI, 16, .inl v_mgroup))]
def fMO_readGroup_B11 (v_MO_size : Int32) (v_MO_loaded : Int32) (v_MO_fault : Int32) (v_MO_hasGiven : Int32) (v_MO_hasPicture : Int32) (v_MO_leaves : Int32) (v_mload : Nat → Int32) (z1 : Int32) (z2 : Int32) (z3 : Int32) (z4 : Int32) (z5 : Int32) (z6 : Int32) (z7 : Int32) (g8 : Nat → Int32) (g9 : Nat → Int32) (g10 : Nat → Int32) : Option ((Int32 × Int32 × Int32 × Int32 × Int32 × Int32 × Int32 × (Nat → Int32) × (Nat → Int32) × (Nat → Int32)) ⊕ (Int32 × Int32 × Int32 × Int32 × Int32 × Int32 × Int32 × (Nat → Int32) × (Nat → Int32) × (Nat → Int32))) :=
(if (16 : Int32) ≤ z4 then
(some (.inr (z1, z2, z3, z4, z5, z6, z7, g8, g9, g10)))
else
(ip_b1 (fMO_place z4) (fun z21 =>
ip_b1 ((if (z21 - z21 / (4 : Int32) * (4 : Int32)) ≤ 0 then
(some (0 : Int32))
else
(ip_b1 (ip_ald 16 g10 (z21 - (1 : Int32))) (fun z23 =>
(if z23 = 0 then
(some (0 : Int32))
else
(some (1 : Int32))))))) (fun z22 =>
ip_b1 ((if z21 ≤ (3 : Int32) then
(some (0 : Int32))
else
(ip_b1 (ip_ald 16 g10 (z21 - (4 : Int32))) (fun z25 =>
(if z25 = 0 then
(some (0 : Int32))
else
(some (1 : Int32))))))) (fun z24 =>
ip_lt (z22 + z24) (fun z26 =>
ip_b6 (fMO_bin v_MO_size v_MO_loaded z5 v_MO_fault v_MO_hasGiven v_MO_hasPicture z6 z7 v_MO_leaves v_mload g8 g9 ((9 : Int32) + z26)) (fun z27 z28 z29 z30 g31 g32 =>
ip_b6 ((if z27 = (1 : Int32) then
(ip_b6 (fMO_sizeOfLevel v_MO_size v_MO_loaded z28 v_MO_fault v_MO_hasGiven v_MO_hasPicture z29 z30 v_MO_leaves v_mload g31 g32) (fun z39 z40 z41 z42 g43 g44 =>
some (z39, z40, z41, z42, g43, g44)))
else
(some ((0 : Int32), z28, z29, z30, g31, g32)))) (fun z33 z34 z35 z36 g37 g38 =>
ip_b1 (ip_ast 16 g10 z21 z33) (fun g45 =>
ip_b1 (ip_ald 16 g45 z21) (fun z46 =>
ip_lt (z1 + z46) (fun z47 =>
ip_b1 (ip_ald 16 g45 z21) (fun z48 =>
ip_b2 ((if z48 = 0 then
(some (z2, z3))
else
(ip_b1 ((if 0 ≤ z2 then
(some z2)
else
(some z4))) (fun z51 =>
some (z51, z4))))) (fun z49 z50 =>
ip_lt (z4 + (1 : Int32)) (fun z52 =>
some (.inl (z47, z49, z50, z52, z34, z35, z36, g37, g38, g45))))))))))))))))
def fMO_readGroup_B176 (v_MO_size : Int32) (v_MO_loaded : Int32) (v_MO_fault : Int32) (v_MO_hasGiven : Int32) (v_MO_hasPicture : Int32) (v_MO_leaves : Int32) (v_mload : Nat → Int32) (p1 : Int32) (p2 : Int32) (x11 : Int32) (x12 : Int32) (x16 : Int32) (y20 : Nat → Int32) (z54 : Int32) (z55 : Int32) (z56 : Int32) (z57 : Int32) (g58 : Nat → Int32) (g59 : Nat → Int32) : Option ((Int32 × Int32 × Int32 × (Nat → Int32) × (Nat → Int32)) ⊕ (Int32 × Int32 × Int32 × (Nat → Int32) × (Nat → Int32))) :=
(if (16 : Int32) ≤ z55 then
(some (.inr (z55, z56, z57, g58, g59)))
else
(ip_b1 (fMO_place z55) (fun z65 =>
ip_b1 (ip_ald 16 y20 z65) (fun z66 =>
ip_b4 ((if z66 = 0 then
(some ((0 : Int32), z56, z57, g58))
else
(if z54 = 0 then
(ip_b4 (fMO_free v_MO_size v_MO_loaded z56 v_MO_fault v_MO_hasGiven v_MO_hasPicture x16 z57 v_MO_leaves v_mload g58) (fun z71 z72 z73 g74 =>
(if z71 = (1 : Int32) then
(some ((1 : Int32), z72, z73, g74))
else
(some ((0 : Int32), z72, z73, g74)))))
else
(if z55 = x12 then
(if (x11 - x11 / (2 : Int32) * (2 : Int32)) = (1 : Int32) then
(some ((1 : Int32), z56, z57, g58))
else
(some ((0 : Int32), z56, z57, g58)))
else
(ip_b4 (fMO_free v_MO_size v_MO_loaded z56 v_MO_fault v_MO_hasGiven v_MO_hasPicture x16 z57 v_MO_leaves v_mload g58) (fun z75 z76 z77 g78 =>
(if z75 = (1 : Int32) then
(some ((1 : Int32), z76, z77, g78))
else
(some ((0 : Int32), z76, z77, g78))))))))) (fun z67 z68 z69 g70 =>
ip_b1 ((if z67 = 0 then
(ip_b1 (ip_ald 16 y20 z65) (fun z80 =>
some z80))
else
(ip_b1 (ip_ald 16 y20 z65) (fun z81 =>
some (-z81))))) (fun z79 =>
ip_b1 (ip_ast 256 g59 ((((16 : Int32) * (p2 + (z65 / (4 : Int32)))) + p1) + (z65 - z65 / (4 : Int32) * (4 : Int32))) z79) (fun g82 =>
ip_lt (z55 + (1 : Int32)) (fun z83 =>
some (.inl (z83, z68, z69, g70, g82))))))))))
def fMO_readGroup (v_MO_size : Int32) (v_MO_loaded : Int32) (v_MO_at : Int32) (v_MO_fault : Int32) (v_MO_hasGiven : Int32) (v_MO_hasPicture : Int32) (v_MO_range : Int32) (v_MO_value : Int32) (v_MO_leaves : Int32) (v_mload : Nat → Int32) (v_mgiven : Nat → Int32) (v_mchances : Nat → Int32) (v_mcounts : Nat → Int32) (v_mlevels : Nat → Int32) (v_mgroup : Nat → Int32) (p1 : Int32) (p2 : Int32) : Option (Int32 × Int32 × Int32 × (Nat → Int32) × (Nat → Int32) × (Nat → Int32) × (Nat → Int32)) :=
ip_b10 (ip_lp10 (fMO_readGroup_B11 v_MO_size v_MO_loaded v_MO_fault v_MO_hasGiven v_MO_hasPicture v_MO_leaves v_mload) 1000 (0 : Int32) (-1 : Int32) (-1 : Int32) (0 : Int32) v_MO_at v_MO_range v_MO_value v_mchances v_mcounts v_mgroup) (fun x11 x12 x13 x14 x15 x16 x17 y18 y19 y20 =>
ip_b1 (ip_ald 10 v_mgiven (1 : Int32)) (fun z53 =>
ip_b1 ((if z53 = (1 : Int32) then
(if (x13 - x12) < (4 : Int32) then
(some (0 : Int32))
else
(some (1 : Int32)))
else
(some (0 : Int32)))) (fun z54 =>
ip_b5 (ip_lp5 (fMO_readGroup_B176 v_MO_size v_MO_loaded v_MO_fault v_MO_hasGiven v_MO_hasPicture v_MO_leaves v_mload p1 p2 x11 x12 x16 y20 z54) 1000 (0 : Int32) x15 x17 y19 v_mlevels) (fun x60 x61 x62 y63 y64 =>
some (x61, x16, x62, y18, y63, y64, y20)))))
abbrev rmMO_readLeaf : Room := { frames := 6, cells := 0, slots := 0, locals := 135 }
abbrev wMO_readLeaf (ad : Nat → Nat) (cI cZ : ClassId) (v_MO_size : Int32) (v_MO_loaded : Int32) (v_MO_at : Int32) (v_MO_fault : Int32) (v_MO_hasGiven : Int32) (v_MO_hasPicture : Int32) (v_MO_range : Int32) (v_MO_value : Int32) (v_MO_leaves : Int32) (v_mload : Nat → Int32) (v_mgiven : Nat → Int32) (v_mchances : Nat → Int32) (v_mcounts : Nat → Int32) (v_mleft : Nat → Int32) (v_mtop : Nat → Int32) (v_msides : Nat → Int32) (v_mmodes : Nat → Int32) (v_mskips : Nat → Int32) (v_mowner : Nat → Int32) (v_mlevels : Nat → Int32) (v_mgroup : Nat → Int32) : va_W := [(ad 0, .inr (12, [.ref (ad 1), .int v_MO_size, .ref (ad 2), .int v_MO_loaded, .int v_MO_at, .int v_MO_fault, .ref (ad 3), .ref (ad 4), .int v_MO_hasGiven, .int v_MO_hasPicture, .int v_MO_range, .int v_MO_value, .ref (ad 5), .ref (ad 6), .int v_MO_leaves, .ref (ad 7), .ref (ad 8), .ref (ad 9), .ref (ad 10), .ref (ad 11), .ref (ad 12), .ref (ad 13), .ref (ad 14), .ref (ad 15), .ref (ad 16), .ref (ad 17), .ref (ad 18), .ref (ad 19), .ref (ad 20), .ref (ad 21), .ref (ad 22), .ref (ad 23)])), (ad 2, .inl (cI, 240, .inl v_mload)), (ad 3, .inl (cI, 10, .inl v_mgiven)), (ad 5, .inl (cI, 14, .inl v_mchances)), (ad 6, .inl (cI, 3, .inl v_mcounts)), (ad 7, .inl (cI, 16, .inl v_mleft)), (ad 8, .inl (cI, 16, .inl v_mtop)), (ad 9, .inl (cI, 16, .inl v_msides)), (ad 10, .inl (cI, 16, .inl v_mmodes)), (ad 11, .inl (cZ, 16, .inl v_mskips)), (ad 12, .inl (cI, 256, .inl v_mowner)), (ad 13, .inl (cI, 256, .inl v_mlevels)), (ad 14, .inl (cI, 16, .inl v_mgroup))]
def fMO_readLeaf_B90 (v_MO_leaves : Int32) (p1 : Int32) (p2 : Int32) (p3 : Int32) (z23 : Int32) (g24 : Nat → Int32) : Option ((Int32 × (Nat → Int32)) ⊕ (Int32 × (Nat → Int32))) :=
(if (p3 * p3) ≤ z23 then
(some (.inr (z23, g24)))
else
(ip_b1 (ip_div z23 p3) (fun z27 =>
ip_b1 (ip_rem z23 p3) (fun z28 =>
ip_b1 (ip_ast 256 g24 ((((16 : Int32) * (p2 + z27)) + p1) + z28) v_MO_leaves) (fun g29 =>
ip_lt (z23 + (1 : Int32)) (fun z30 =>
some (.inl (z30, g29))))))))
def fMO_readLeaf_B203 (v_MO_size : Int32) (v_MO_loaded : Int32) (v_MO_fault : Int32) (v_MO_hasGiven : Int32) (v_MO_hasPicture : Int32) (v_mload : Nat → Int32) (v_mgiven : Nat → Int32) (p1 : Int32) (p2 : Int32) (p3 : Int32) (z31 : Int32) (z54 : Int32) (z55 : Int32) (z56 : Int32) (z57 : Int32) (g58 : Nat → Int32) (g59 : Nat → Int32) (g60 : Nat → Int32) (g61 : Nat → Int32) : Option ((Int32 × Int32 × Int32 × Int32 × (Nat → Int32) × (Nat → Int32) × (Nat → Int32) × (Nat → Int32)) ⊕ (Int32 × Int32 × Int32 × Int32 × (Nat → Int32) × (Nat → Int32) × (Nat → Int32) × (Nat → Int32))) :=
(if ((p3 * p3) / (16 : Int32)) ≤ z54 then
(some (.inr (z54, z55, z56, z57, g58, g59, g60, g61)))
else
(ip_b6 ((if p3 = (4 : Int32) then
(some ((1 : Int32), z55, z56, z57, g58, g59))
else
(ip_b1 ((if z54 = 0 then
(some (7 : Int32))
else
(some (8 : Int32)))) (fun z76 =>
ip_b6 (fMO_bin v_MO_size v_MO_loaded z55 v_MO_fault v_MO_hasGiven v_MO_hasPicture z56 z57 z31 v_mload g58 g59 z76) (fun z77 z78 z79 z80 g81 g82 =>
(if z77 = (1 : Int32) then
(some ((1 : Int32), z78, z79, z80, g81, g82))
else
(some ((0 : Int32), z78, z79, z80, g81, g82)))))))) (fun z70 z71 z72 z73 g74 g75 =>
ip_b7 ((if z70 = 0 then
(some (z71, z72, z73, g74, g75, g60, g61))
else
(ip_b7 (fMO_readGroup v_MO_size v_MO_loaded z71 v_MO_fault v_MO_hasGiven v_MO_hasPicture z72 z73 z31 v_mload v_mgiven g74 g75 g60 g61 (p1 + ((z54 - z54 / (2 : Int32) * (2 : Int32)) * (4 : Int32))) (p2 + ((z54 / (2 : Int32)) * (4 : Int32)))) (fun z90 z91 z92 g93 g94 g95 g96 =>
some (z90, z91, z92, g93, g94, g95, g96))))) (fun z83 z84 z85 g86 g87 g88 g89 =>
ip_lt (z54 + (1 : Int32)) (fun z97 =>
some (.inl (z97, z83, z84, z85, g86, g87, g88, g89)))))))
def fMO_readLeaf (v_MO_size : Int32) (v_MO_loaded : Int32) (v_MO_at : Int32) (v_MO_fault : Int32) (v_MO_hasGiven : Int32) (v_MO_hasPicture : Int32) (v_MO_range : Int32) (v_MO_value : Int32) (v_MO_leaves : Int32) (v_mload : Nat → Int32) (v_mgiven : Nat → Int32) (v_mchances : Nat → Int32) (v_mcounts : Nat → Int32) (v_mleft : Nat → Int32) (v_mtop : Nat → Int32) (v_msides : Nat → Int32) (v_mmodes : Nat → Int32) (v_mskips : Nat → Int32) (v_mowner : Nat → Int32) (v_mlevels : Nat → Int32) (v_mgroup : Nat → Int32) (p1 : Int32) (p2 : Int32) (p3 : Int32) : Option (Int32 × Int32 × Int32 × Int32 × (Nat → Int32) × (Nat → Int32) × (Nat → Int32) × (Nat → Int32) × (Nat → Int32) × (Nat → Int32) × (Nat → Int32) × (Nat → Int32) × (Nat → Int32) × (Nat → Int32)) :=
ip_b1 (ip_ast 16 v_mleft v_MO_leaves p1) (fun g1 =>
ip_b1 (ip_ast 16 v_mtop v_MO_leaves p2) (fun g2 =>
ip_b1 (ip_ast 16 v_msides v_MO_leaves p3) (fun g3 =>
ip_b6 (fMO_bin v_MO_size v_MO_loaded v_MO_at v_MO_fault v_MO_hasGiven v_MO_hasPicture v_MO_range v_MO_value v_MO_leaves v_mload v_mchances v_mcounts (3 : Int32)) (fun z4 z5 z6 z7 g8 g9 =>
ip_b4 ((if z4 = (1 : Int32) then
(ip_b1 ((if p1 = 0 then
(some (1 : Int32))
else
(ip_b1 (ip_ald 256 v_mowner ((((16 : Int32) * p2) + p1) - (1 : Int32))) (fun z20 =>
ip_b1 (ip_ald 16 v_mmodes z20) (fun z21 =>
some z21))))) (fun z19 =>
ip_b1 (ip_ast 16 v_mmodes v_MO_leaves z19) (fun g22 =>
some (z5, z7, g9, g22))))
else
(ip_b4 (fMO_frees v_MO_size v_MO_loaded z5 v_MO_fault v_MO_hasGiven v_MO_hasPicture z6 z7 v_MO_leaves v_mload g9 (3 : Int32)) (fun z14 z15 z16 g17 =>
ip_b1 (ip_ast 16 v_mmodes v_MO_leaves z14) (fun g18 =>
some (z15, z16, g17, g18)))))) (fun z10 z11 g12 g13 =>
ip_b2 (ip_lp2 (fMO_readLeaf_B90 v_MO_leaves p1 p2 p3) 1000 (0 : Int32) v_mowner) (fun x25 y26 =>
ip_lt (v_MO_leaves + (1 : Int32)) (fun z31 =>
ip_b1 (ip_zst 16 v_mskips v_MO_leaves (0 : Int32)) (fun g32 =>
ip_b1 ((if p3 = (4 : Int32) then
(some (4 : Int32))
else
(some (5 : Int32)))) (fun z33 =>
ip_b6 (fMO_bin v_MO_size v_MO_loaded z10 v_MO_fault v_MO_hasGiven v_MO_hasPicture z6 z11 z31 v_mload g8 g12 z33) (fun z34 z35 z36 z37 g38 g39 =>
(if z34 = 0 then
(some (z35, z36, z37, z31, g38, g39, g1, g2, g3, g13, g32, y26, v_mlevels, v_mgroup))
else
(ip_b6 ((if p3 = (4 : Int32) then
(ip_b1 (ip_ald 10 v_mgiven (2 : Int32)) (fun z46 =>
(if z46 = (1 : Int32) then
(ip_b6 (fMO_bin v_MO_size v_MO_loaded z35 v_MO_fault v_MO_hasGiven v_MO_hasPicture z36 z37 z31 v_mload g38 g39 (6 : Int32)) (fun z47 z48 z49 z50 g51 g52 =>
(if z47 = (1 : Int32) then
(some ((1 : Int32), z48, z49, z50, g51, g52))
else
(some ((0 : Int32), z48, z49, z50, g51, g52)))))
else
(some ((0 : Int32), z35, z36, z37, g38, g39)))))
else
(some ((0 : Int32), z35, z36, z37, g38, g39)))) (fun z40 z41 z42 z43 g44 g45 =>
ip_b1 (ip_zst 16 g32 v_MO_leaves z40) (fun g53 =>
ip_b8 (ip_lp8 (fMO_readLeaf_B203 v_MO_size v_MO_loaded v_MO_fault v_MO_hasGiven v_MO_hasPicture v_mload v_mgiven p1 p2 p3 z31) 1000 (0 : Int32) z41 z42 z43 g44 g45 v_mlevels v_mgroup) (fun x62 x63 x64 x65 y66 y67 y68 y69 =>
some (x63, x64, x65, z31, y66, y67, g1, g2, g3, g13, g53, y26, y68, y69))))))))))))))))
abbrev rmMO_readPicture : Room := { frames := 7, cells := 0, slots := 0, locals := 161 }
abbrev wMO_readPicture (ad : Nat → Nat) (cI cZ : ClassId) (v_MO_size : Int32) (v_MO_loaded : Int32) (v_MO_at : Int32) (v_MO_fault : Int32) (v_MO_hasGiven : Int32) (v_MO_hasPicture : Int32) (v_MO_range : Int32) (v_MO_value : Int32) (v_MO_leaves : Int32) (v_mload : Nat → Int32) (v_mgiven : Nat → Int32) (v_mchances : Nat → Int32) (v_mcounts : Nat → Int32) (v_mleft : Nat → Int32) (v_mtop : Nat → Int32) (v_msides : Nat → Int32) (v_mmodes : Nat → Int32) (v_mskips : Nat → Int32) (v_mowner : Nat → Int32) (v_mlevels : Nat → Int32) (v_mgroup : Nat → Int32) : va_W := [(ad 0, .inr (12, [.ref (ad 1), .int v_MO_size, .ref (ad 2), .int v_MO_loaded, .int v_MO_at, .int v_MO_fault, .ref (ad 3), .ref (ad 4), .int v_MO_hasGiven, .int v_MO_hasPicture, .int v_MO_range, .int v_MO_value, .ref (ad 5), .ref (ad 6), .int v_MO_leaves, .ref (ad 7), .ref (ad 8), .ref (ad 9), .ref (ad 10), .ref (ad 11), .ref (ad 12), .ref (ad 13), .ref (ad 14), .ref (ad 15), .ref (ad 16), .ref (ad 17), .ref (ad 18), .ref (ad 19), .ref (ad 20), .ref (ad 21), .ref (ad 22), .ref (ad 23)])), (ad 2, .inl (cI, 240, .inl v_mload)), (ad 3, .inl (cI, 10, .inl v_mgiven)), (ad 5, .inl (cI, 14, .inl v_mchances)), (ad 6, .inl (cI, 3, .inl v_mcounts)), (ad 7, .inl (cI, 16, .inl v_mleft)), (ad 8, .inl (cI, 16, .inl v_mtop)), (ad 9, .inl (cI, 16, .inl v_msides)), (ad 10, .inl (cI, 16, .inl v_mmodes)), (ad 11, .inl (cZ, 16, .inl v_mskips)), (ad 12, .inl (cI, 256, .inl v_mowner)), (ad 13, .inl (cI, 256, .inl v_mlevels)), (ad 14, .inl (cI, 16, .inl v_mgroup))]
def fMO_readPicture_B24 (z1 : Int32) (g2 : Nat → Int32) : Option ((Int32 × (Nat → Int32)) ⊕ (Int32 × (Nat → Int32))) :=
(if (14 : Int32) ≤ z1 then
(some (.inr (z1, g2)))
else
(ip_b1 (ip_ast 14 g2 z1 (512 : Int32)) (fun g5 =>
ip_lt (z1 + (1 : Int32)) (fun z6 =>
some (.inl (z6, g5))))))
def fMO_readPicture_B47 (z7 : Int32) (g8 : Nat → Int32) : Option ((Int32 × (Nat → Int32)) ⊕ (Int32 × (Nat → Int32))) :=
(if (3 : Int32) ≤ z7 then
(some (.inr (z7, g8)))
else
(ip_b1 (ip_ast 3 g8 z7 (0 : Int32)) (fun g11 =>
ip_lt (z7 + (1 : Int32)) (fun z12 =>
some (.inl (z12, g11))))))
def fMO_readPicture_B67 (v_MO_size : Int32) (v_MO_loaded : Int32) (v_MO_fault : Int32) (v_MO_hasGiven : Int32) (v_MO_hasPicture : Int32) (v_mload : Nat → Int32) (z13 : Int32) (z14 : Int32) (z15 : Int32) (g16 : Nat → Int32) : Option ((Int32 × Int32 × Int32 × (Nat → Int32)) ⊕ (Int32 × Int32 × Int32 × (Nat → Int32))) :=
(if (8 : Int32) ≤ z13 then
(some (.inr (z13, z14, z15, g16)))
else
(ip_b3 (fMO_shift v_MO_size v_MO_loaded z14 v_MO_fault v_MO_hasGiven v_MO_hasPicture (510 : Int32) z15 (0 : Int32) v_mload g16) (fun z21 z22 g23 =>
ip_lt (z13 + (1 : Int32)) (fun z24 =>
some (.inl (z24, z21, z22, g23))))))
def fMO_readPicture_B85 (z25 : Int32) (g26 : Nat → Int32) (g27 : Nat → Int32) : Option ((Int32 × (Nat → Int32) × (Nat → Int32)) ⊕ (Int32 × (Nat → Int32) × (Nat → Int32))) :=
(if (256 : Int32) ≤ z25 then
(some (.inr (z25, g26, g27)))
else
(ip_b1 (ip_ast 256 g26 z25 (-1 : Int32)) (fun g31 =>
ip_b1 (ip_ast 256 g27 z25 (0 : Int32)) (fun g32 =>
ip_lt (z25 + (1 : Int32)) (fun z33 =>
some (.inl (z33, g31, g32)))))))
def fMO_readPicture_B174 (v_MO_size : Int32) (v_MO_loaded : Int32) (v_MO_fault : Int32) (v_MO_hasGiven : Int32) (v_MO_hasPicture : Int32) (v_mload : Nat → Int32) (v_mgiven : Nat → Int32) (z35 : Int32) (z69 : Int32) (z76 : Int32) (z77 : Int32) (z78 : Int32) (z79 : Int32) (z80 : Int32) (g81 : Nat → Int32) (g82 : Nat → Int32) (g83 : Nat → Int32) (g84 : Nat → Int32) (g85 : Nat → Int32) (g86 : Nat → Int32) (g87 : Nat → Int32) (g88 : Nat → Int32) (g89 : Nat → Int32) (g90 : Nat → Int32) : Option ((Int32 × Int32 × Int32 × Int32 × Int32 × (Nat → Int32) × (Nat → Int32) × (Nat → Int32) × (Nat → Int32) × (Nat → Int32) × (Nat → Int32) × (Nat → Int32) × (Nat → Int32) × (Nat → Int32) × (Nat → Int32)) ⊕ (Int32 × Int32 × Int32 × Int32 × Int32 × (Nat → Int32) × (Nat → Int32) × (Nat → Int32) × (Nat → Int32) × (Nat → Int32) × (Nat → Int32) × (Nat → Int32) × (Nat → Int32) × (Nat → Int32) × (Nat → Int32))) :=
(if ((1 : Int32) + ((3 : Int32) * z69)) ≤ z76 then
(some (.inr (z76, z77, z78, z79, z80, g81, g82, g83, g84, g85, g86, g87, g88, g89, g90)))
else
(ip_b1 ((if z69 = (1 : Int32) then
(some (4 : Int32))
else
(some (8 : Int32)))) (fun z106 =>
ip_b14 (fMO_readLeaf v_MO_size v_MO_loaded z77 v_MO_fault v_MO_hasGiven v_MO_hasPicture z78 z79 z80 v_mload v_mgiven g81 g82 g83 g84 g85 g86 g87 g88 g89 g90 (((z35 - z35 / (2 : Int32) * (2 : Int32)) * (8 : Int32)) + ((z76 - z76 / (2 : Int32) * (2 : Int32)) * (4 : Int32))) (((z35 / (2 : Int32)) * (8 : Int32)) + ((z76 / (2 : Int32)) * (4 : Int32))) z106) (fun z107 z108 z109 z110 g111 g112 g113 g114 g115 g116 g117 g118 g119 g120 =>
ip_lt (z76 + (1 : Int32)) (fun z121 =>
some (.inl (z121, z107, z108, z109, z110, g111, g112, g113, g114, g115, g116, g117, g118, g119, g120)))))))
def fMO_readPicture_B116 (v_MO_size : Int32) (v_MO_loaded : Int32) (v_MO_fault : Int32) (v_MO_hasGiven : Int32) (v_MO_hasPicture : Int32) (v_mload : Nat → Int32) (v_mgiven : Nat → Int32) (z34 : Int32) (z35 : Int32) (z36 : Int32) (z37 : Int32) (z38 : Int32) (z39 : Int32) (g40 : Nat → Int32) (g41 : Nat → Int32) (g42 : Nat → Int32) (g43 : Nat → Int32) (g44 : Nat → Int32) (g45 : Nat → Int32) (g46 : Nat → Int32) (g47 : Nat → Int32) (g48 : Nat → Int32) (g49 : Nat → Int32) : Option ((Int32 × Int32 × Int32 × Int32 × Int32 × Int32 × (Nat → Int32) × (Nat → Int32) × (Nat → Int32) × (Nat → Int32) × (Nat → Int32) × (Nat → Int32) × (Nat → Int32) × (Nat → Int32) × (Nat → Int32) × (Nat → Int32)) ⊕ (Int32 × Int32 × Int32 × Int32 × Int32 × Int32 × (Nat → Int32) × (Nat → Int32) × (Nat → Int32) × (Nat → Int32) × (Nat → Int32) × (Nat → Int32) × (Nat → Int32) × (Nat → Int32) × (Nat → Int32) × (Nat → Int32))) :=
(if (4 : Int32) ≤ z35 then
(some (.inr (z34, z35, z36, z37, z38, z39, g40, g41, g42, g43, g44, g45, g46, g47, g48, g49)))
else
(ip_b1 ((if (z35 - z35 / (2 : Int32) * (2 : Int32)) = (1 : Int32) then
(some ((z34 >>> ((z35 - (1 : Int32)) &&& 31)) &&& (1 : Int32)))
else
(some (0 : Int32)))) (fun z66 =>
ip_b1 ((if z35 ≤ (1 : Int32) then
(some (0 : Int32))
else
(some ((z34 >>> ((z35 - (2 : Int32)) &&& 31)) &&& (1 : Int32))))) (fun z67 =>
ip_lt (z66 + z67) (fun z68 =>
ip_b6 (fMO_bin v_MO_size v_MO_loaded z36 v_MO_fault v_MO_hasGiven v_MO_hasPicture z37 z38 z39 v_mload g40 g41 z68) (fun z69 z70 z71 z72 g73 g74 =>
ip_lt (z34 ||| (z69 <<< (z35 &&& 31))) (fun z75 =>
ip_b15 (ip_lp15 (fMO_readPicture_B174 v_MO_size v_MO_loaded v_MO_fault v_MO_hasGiven v_MO_hasPicture v_mload v_mgiven z35 z69) 1000 (0 : Int32) z70 z71 z72 z39 g73 g74 g42 g43 g44 g45 g46 g47 g48 g49) (fun x91 x92 x93 x94 x95 y96 y97 y98 y99 y100 y101 y102 y103 y104 y105 =>
ip_lt (z35 + (1 : Int32)) (fun z122 =>
some (.inl (z75, z122, x92, x93, x94, x95, y96, y97, y98, y99, y100, y101, y102, y103, y104, y105)))))))))))
def fMO_readPicture (v_MO_size : Int32) (v_MO_loaded : Int32) (v_MO_at : Int32) (v_MO_fault : Int32) (v_MO_hasGiven : Int32) (v_MO_hasPicture : Int32) (v_MO_range : Int32) (v_MO_value : Int32) (v_MO_leaves : Int32) (v_mload : Nat → Int32) (v_mgiven : Nat → Int32) (v_mchances : Nat → Int32) (v_mcounts : Nat → Int32) (v_mleft : Nat → Int32) (v_mtop : Nat → Int32) (v_msides : Nat → Int32) (v_mmodes : Nat → Int32) (v_mskips : Nat → Int32) (v_mowner : Nat → Int32) (v_mlevels : Nat → Int32) (v_mgroup : Nat → Int32)  : Option (Int32 × Int32 × Int32 × Int32 × (Nat → Int32) × (Nat → Int32) × (Nat → Int32) × (Nat → Int32) × (Nat → Int32) × (Nat → Int32) × (Nat → Int32) × (Nat → Int32) × (Nat → Int32) × (Nat → Int32)) :=
ip_b2 (ip_lp2 fMO_readPicture_B24 1000 (0 : Int32) v_mchances) (fun x3 y4 =>
ip_b2 (ip_lp2 fMO_readPicture_B47 1000 (0 : Int32) v_mcounts) (fun x9 y10 =>
ip_b4 (ip_lp4 (fMO_readPicture_B67 v_MO_size v_MO_loaded v_MO_fault v_MO_hasGiven v_MO_hasPicture v_mload) 1000 (0 : Int32) (0 : Int32) (0 : Int32) y10) (fun x17 x18 x19 y20 =>
ip_b3 (ip_lp3 fMO_readPicture_B85 1000 (0 : Int32) v_mowner v_mlevels) (fun x28 y29 y30 =>
ip_b16 (ip_lp16 (fMO_readPicture_B116 v_MO_size v_MO_loaded v_MO_fault v_MO_hasGiven v_MO_hasPicture v_mload v_mgiven) 1000 (0 : Int32) (0 : Int32) x18 (510 : Int32) x19 (0 : Int32) y4 y20 v_mleft v_mtop v_msides v_mmodes v_mskips y29 y30 v_mgroup) (fun x50 x51 x52 x53 x54 x55 y56 y57 y58 y59 y60 y61 y62 y63 y64 y65 =>
some (x52, x53, x54, x55, y56, y57, y58, y59, y60, y61, y62, y63, y64, y65))))))
abbrev rmMO_reference : Room := { frames := 0, cells := 0, slots := 0, locals := 0 }
abbrev wMO_reference (ad : Nat → Nat) (cI cZ : ClassId) (v_MO_size : Int32) (v_MO_loaded : Int32) (v_MO_at : Int32) (v_MO_fault : Int32) (v_MO_hasGiven : Int32) (v_MO_hasPicture : Int32) (v_MO_range : Int32) (v_MO_value : Int32) (v_MO_leaves : Int32) (v_mleft : Nat → Int32) (v_mtop : Nat → Int32) (v_msides : Nat → Int32) (v_mowner : Nat → Int32) : va_W := [(ad 0, .inr (12, [.ref (ad 1), .int v_MO_size, .ref (ad 2), .int v_MO_loaded, .int v_MO_at, .int v_MO_fault, .ref (ad 3), .ref (ad 4), .int v_MO_hasGiven, .int v_MO_hasPicture, .int v_MO_range, .int v_MO_value, .ref (ad 5), .ref (ad 6), .int v_MO_leaves, .ref (ad 7), .ref (ad 8), .ref (ad 9), .ref (ad 10), .ref (ad 11), .ref (ad 12), .ref (ad 13), .ref (ad 14), .ref (ad 15), .ref (ad 16), .ref (ad 17), .ref (ad 18), .ref (ad 19), .ref (ad 20), .ref (ad 21), .ref (ad 22), .ref (ad 23)])), (ad 7, .inl (cI, 16, .inl v_mleft)), (ad 8, .inl (cI, 16, .inl v_mtop)), (ad 9, .inl (cI, 16, .inl v_msides)), (ad 12, .inl (cI, 256, .inl v_mowner))]
def fMO_reference (v_MO_size : Int32) (v_MO_loaded : Int32) (v_MO_at : Int32) (v_MO_fault : Int32) (v_MO_hasGiven : Int32) (v_MO_hasPicture : Int32) (v_MO_range : Int32) (v_MO_value : Int32) (v_MO_leaves : Int32) (v_mleft : Nat → Int32) (v_mtop : Nat → Int32) (v_msides : Nat → Int32) (v_mowner : Nat → Int32) (p1 : Int32) (p2 : Int32) : Option (Int32) :=
ip_b1 (ip_ald 16 v_msides p1) (fun z1 =>
ip_lt ((2 : Int32) * z1) (fun z2 =>
ip_b1 ((if z2 < p2 then
(ip_b1 (ip_ald 16 v_mleft p1) (fun z4 =>
some (((z4 + p2) - z2) - (1 : Int32))))
else
(ip_b1 (ip_ald 16 v_mleft p1) (fun z5 =>
some (z5 - (1 : Int32)))))) (fun z3 =>
ip_b1 ((if z2 ≤ p2 then
(ip_b1 (ip_ald 16 v_mtop p1) (fun z7 =>
some (z7 - (1 : Int32))))
else
(ip_b1 (ip_ald 16 v_mtop p1) (fun z8 =>
some (((z8 + z2) - (1 : Int32)) - p2))))) (fun z6 =>
(if z3 < 0 then
(some (-1 : Int32))
else
(if z6 < 0 then
(some (-1 : Int32))
else
(if (15 : Int32) < z3 then
(some (-1 : Int32))
else
(if z6 ≤ (15 : Int32) then
(ip_lt (((16 : Int32) * z6) + z3) (fun z9 =>
ip_b1 (ip_ald 256 v_mowner z9) (fun z10 =>
(if p1 ≤ z10 then
(some (-1 : Int32))
else
(some z9)))))
else
(some (-1 : Int32))))))))))
abbrev rmMO_references : Room := { frames := 1, cells := 0, slots := 0, locals := 26 }
abbrev wMO_references (ad : Nat → Nat) (cI cZ : ClassId) (v_MO_size : Int32) (v_MO_loaded : Int32) (v_MO_at : Int32) (v_MO_fault : Int32) (v_MO_hasGiven : Int32) (v_MO_hasPicture : Int32) (v_MO_range : Int32) (v_MO_value : Int32) (v_MO_leaves : Int32) (v_mleft : Nat → Int32) (v_mtop : Nat → Int32) (v_msides : Nat → Int32) (v_mmodes : Nat → Int32) (v_mowner : Nat → Int32) (v_mfirst : Nat → Int32) (v_mrow : Nat → Int32) (v_mraw : Nat → Int32) : va_W := [(ad 0, .inr (12, [.ref (ad 1), .int v_MO_size, .ref (ad 2), .int v_MO_loaded, .int v_MO_at, .int v_MO_fault, .ref (ad 3), .ref (ad 4), .int v_MO_hasGiven, .int v_MO_hasPicture, .int v_MO_range, .int v_MO_value, .ref (ad 5), .ref (ad 6), .int v_MO_leaves, .ref (ad 7), .ref (ad 8), .ref (ad 9), .ref (ad 10), .ref (ad 11), .ref (ad 12), .ref (ad 13), .ref (ad 14), .ref (ad 15), .ref (ad 16), .ref (ad 17), .ref (ad 18), .ref (ad 19), .ref (ad 20), .ref (ad 21), .ref (ad 22), .ref (ad 23)])), (ad 7, .inl (cI, 16, .inl v_mleft)), (ad 8, .inl (cI, 16, .inl v_mtop)), (ad 9, .inl (cI, 16, .inl v_msides)), (ad 10, .inl (cI, 16, .inl v_mmodes)), (ad 12, .inl (cI, 256, .inl v_mowner)), (ad 16, .inl (cI, 256, .inl v_mfirst)), (ad 19, .inl (cI, 33, .inl v_mrow)), (ad 20, .inl (cI, 33, .inl v_mraw))]
def fMO_references_B14 (v_MO_size : Int32) (v_MO_loaded : Int32) (v_MO_at : Int32) (v_MO_fault : Int32) (v_MO_hasGiven : Int32) (v_MO_hasPicture : Int32) (v_MO_range : Int32) (v_MO_value : Int32) (v_MO_leaves : Int32) (v_mleft : Nat → Int32) (v_mtop : Nat → Int32) (v_msides : Nat → Int32) (v_mowner : Nat → Int32) (p1 : Int32) (z3 : Int32) (z4 : Int32) : Option ((Int32 × Int32) ⊕ (Int32 × Int32)) :=
(if z4 < 0 then
(some (.inr (z3, z4)))
else
(ip_b1 (fMO_reference v_MO_size v_MO_loaded v_MO_at v_MO_fault v_MO_hasGiven v_MO_hasPicture v_MO_range v_MO_value v_MO_leaves v_mleft v_mtop v_msides v_mowner p1 z4) (fun z7 =>
ip_b1 ((if z7 < 0 then
(some z3)
else
(some z4))) (fun z8 =>
ip_lt (z4 + (-1 : Int32)) (fun z9 =>
some (.inl (z8, z9)))))))
def fMO_references_B68 (v_MO_size : Int32) (v_MO_loaded : Int32) (v_MO_at : Int32) (v_MO_fault : Int32) (v_MO_hasGiven : Int32) (v_MO_hasPicture : Int32) (v_MO_range : Int32) (v_MO_value : Int32) (v_MO_leaves : Int32) (v_mleft : Nat → Int32) (v_mtop : Nat → Int32) (v_msides : Nat → Int32) (v_mowner : Nat → Int32) (v_mfirst : Nat → Int32) (p1 : Int32) (z2 : Int32) (z13 : Int32) (z14 : Int32) (g15 : Nat → Int32) : Option ((Int32 × Int32 × (Nat → Int32)) ⊕ (Int32 × Int32 × (Nat → Int32))) :=
(if z2 < z14 then
(some (.inr (z13, z14, g15)))
else
(ip_b1 (fMO_reference v_MO_size v_MO_loaded v_MO_at v_MO_fault v_MO_hasGiven v_MO_hasPicture v_MO_range v_MO_value v_MO_leaves v_mleft v_mtop v_msides v_mowner p1 z14) (fun z19 =>
ip_b1 ((if z19 < 0 then
(some z13)
else
(ip_b1 (ip_ald 256 v_mfirst z19) (fun z21 =>
some z21)))) (fun z20 =>
ip_b1 (ip_ast 33 g15 z14 z20) (fun g22 =>
ip_lt (z14 + (1 : Int32)) (fun z23 =>
some (.inl (z20, z23, g22))))))))
def fMO_references_B168 (z2 : Int32) (y18 : Nat → Int32) (z25 : Int32) (z29 : Int32) (g30 : Nat → Int32) : Option ((Int32 × (Nat → Int32)) ⊕ (Int32 × (Nat → Int32))) :=
(if z2 < z29 then
(some (.inr (z29, g30)))
else
(ip_b1 ((if z25 = 0 then
(ip_b1 (ip_ald 33 y18 z29) (fun z34 =>
some z34))
else
(if z29 ≤ 0 then
(ip_b1 (ip_ald 33 y18 z29) (fun z35 =>
some z35))
else
(if z2 ≤ z29 then
(ip_b1 (ip_ald 33 y18 z29) (fun z36 =>
some z36))
else
(ip_b1 (ip_ald 33 y18 (z29 - (1 : Int32))) (fun z37 =>
ip_b1 (ip_ald 33 y18 z29) (fun z38 =>
ip_b1 (ip_ald 33 y18 (z29 + (1 : Int32))) (fun z39 =>
some ((((z37 + ((2 : Int32) * z38)) + z39) + (2 : Int32)) >>> ((2 : Int32) &&& 31)))))))))) (fun z33 =>
ip_b1 (ip_ast 33 g30 z29 z33) (fun g40 =>
ip_lt (z29 + (1 : Int32)) (fun z41 =>
some (.inl (z41, g40)))))))
def fMO_references (v_MO_size : Int32) (v_MO_loaded : Int32) (v_MO_at : Int32) (v_MO_fault : Int32) (v_MO_hasGiven : Int32) (v_MO_hasPicture : Int32) (v_MO_range : Int32) (v_MO_value : Int32) (v_MO_leaves : Int32) (v_mleft : Nat → Int32) (v_mtop : Nat → Int32) (v_msides : Nat → Int32) (v_mmodes : Nat → Int32) (v_mowner : Nat → Int32) (v_mfirst : Nat → Int32) (v_mrow : Nat → Int32) (v_mraw : Nat → Int32) (p1 : Int32) : Option ((Nat → Int32) × (Nat → Int32)) :=
ip_b1 (ip_ald 16 v_msides p1) (fun z1 =>
ip_lt ((4 : Int32) * z1) (fun z2 =>
ip_b2 (ip_lp2 (fMO_references_B14 v_MO_size v_MO_loaded v_MO_at v_MO_fault v_MO_hasGiven v_MO_hasPicture v_MO_range v_MO_value v_MO_leaves v_mleft v_mtop v_msides v_mowner p1) 1000 (-1 : Int32) z2) (fun x5 x6 =>
ip_b1 ((if 0 ≤ x5 then
(ip_b1 (fMO_reference v_MO_size v_MO_loaded v_MO_at v_MO_fault v_MO_hasGiven v_MO_hasPicture v_MO_range v_MO_value v_MO_leaves v_mleft v_mtop v_msides v_mowner p1 x5) (fun z11 =>
ip_b1 (ip_ald 256 v_mfirst z11) (fun z12 =>
some z12)))
else
(some (128 : Int32)))) (fun z10 =>
ip_b3 (ip_lp3 (fMO_references_B68 v_MO_size v_MO_loaded v_MO_at v_MO_fault v_MO_hasGiven v_MO_hasPicture v_MO_range v_MO_value v_MO_leaves v_mleft v_mtop v_msides v_mowner v_mfirst p1 z2) 1000 z10 (0 : Int32) v_mraw) (fun x16 x17 y18 =>
ip_b1 (ip_ald 16 v_msides p1) (fun z24 =>
ip_b1 ((if z24 = (8 : Int32) then
(ip_b1 (ip_ald 16 v_mmodes p1) (fun z26 =>
(if z26 = 0 then
(some (1 : Int32))
else
(ip_b1 (ip_ald 16 v_mmodes p1) (fun z27 =>
(if z27 = (5 : Int32) then
(some (1 : Int32))
else
(ip_b1 (ip_ald 16 v_mmodes p1) (fun z28 =>
(if z28 = (7 : Int32) then
(some (1 : Int32))
else
(some (0 : Int32)))))))))))
else
(some (0 : Int32)))) (fun z25 =>
ip_b2 (ip_lp2 (fMO_references_B168 z2 y18 z25) 1000 (0 : Int32) v_mrow) (fun x31 y32 =>
some (y32, y18)))))))))
abbrev rmMO_toLeft : Room := { frames := 0, cells := 0, slots := 0, locals := 0 }
abbrev wMO_toLeft (ad : Nat → Nat) (cI cZ : ClassId) (v_MO_size : Int32) (v_MO_loaded : Int32) (v_MO_at : Int32) (v_MO_fault : Int32) (v_MO_hasGiven : Int32) (v_MO_hasPicture : Int32) (v_MO_range : Int32) (v_MO_value : Int32) (v_MO_leaves : Int32) (v_msides : Nat → Int32) (v_mrow : Nat → Int32) : va_W := [(ad 0, .inr (12, [.ref (ad 1), .int v_MO_size, .ref (ad 2), .int v_MO_loaded, .int v_MO_at, .int v_MO_fault, .ref (ad 3), .ref (ad 4), .int v_MO_hasGiven, .int v_MO_hasPicture, .int v_MO_range, .int v_MO_value, .ref (ad 5), .ref (ad 6), .int v_MO_leaves, .ref (ad 7), .ref (ad 8), .ref (ad 9), .ref (ad 10), .ref (ad 11), .ref (ad 12), .ref (ad 13), .ref (ad 14), .ref (ad 15), .ref (ad 16), .ref (ad 17), .ref (ad 18), .ref (ad 19), .ref (ad 20), .ref (ad 21), .ref (ad 22), .ref (ad 23)])), (ad 9, .inl (cI, 16, .inl v_msides)), (ad 19, .inl (cI, 33, .inl v_mrow))]
def fMO_toLeft (v_MO_size : Int32) (v_MO_loaded : Int32) (v_MO_at : Int32) (v_MO_fault : Int32) (v_MO_hasGiven : Int32) (v_MO_hasPicture : Int32) (v_MO_range : Int32) (v_MO_value : Int32) (v_MO_leaves : Int32) (v_msides : Nat → Int32) (v_mrow : Nat → Int32) (p1 : Int32) (p2 : Int32) : Option (Int32) :=
ip_b1 (ip_ald 16 v_msides p1) (fun z1 =>
ip_b1 (ip_ald 33 v_mrow ((((2 : Int32) * z1) - (1 : Int32)) - p2)) (fun z2 =>
some z2))
abbrev rmMO_above : Room := { frames := 0, cells := 0, slots := 0, locals := 0 }
abbrev wMO_above (ad : Nat → Nat) (cI cZ : ClassId) (v_MO_size : Int32) (v_MO_loaded : Int32) (v_MO_at : Int32) (v_MO_fault : Int32) (v_MO_hasGiven : Int32) (v_MO_hasPicture : Int32) (v_MO_range : Int32) (v_MO_value : Int32) (v_MO_leaves : Int32) (v_msides : Nat → Int32) (v_mrow : Nat → Int32) : va_W := [(ad 0, .inr (12, [.ref (ad 1), .int v_MO_size, .ref (ad 2), .int v_MO_loaded, .int v_MO_at, .int v_MO_fault, .ref (ad 3), .ref (ad 4), .int v_MO_hasGiven, .int v_MO_hasPicture, .int v_MO_range, .int v_MO_value, .ref (ad 5), .ref (ad 6), .int v_MO_leaves, .ref (ad 7), .ref (ad 8), .ref (ad 9), .ref (ad 10), .ref (ad 11), .ref (ad 12), .ref (ad 13), .ref (ad 14), .ref (ad 15), .ref (ad 16), .ref (ad 17), .ref (ad 18), .ref (ad 19), .ref (ad 20), .ref (ad 21), .ref (ad 22), .ref (ad 23)])), (ad 9, .inl (cI, 16, .inl v_msides)), (ad 19, .inl (cI, 33, .inl v_mrow))]
def fMO_above (v_MO_size : Int32) (v_MO_loaded : Int32) (v_MO_at : Int32) (v_MO_fault : Int32) (v_MO_hasGiven : Int32) (v_MO_hasPicture : Int32) (v_MO_range : Int32) (v_MO_value : Int32) (v_MO_leaves : Int32) (v_msides : Nat → Int32) (v_mrow : Nat → Int32) (p1 : Int32) (p2 : Int32) : Option (Int32) :=
ip_b1 (ip_ald 16 v_msides p1) (fun z1 =>
ip_b1 (ip_ald 33 v_mrow ((((2 : Int32) * z1) + (1 : Int32)) + p2)) (fun z2 =>
some z2))
abbrev rmMO_mean : Room := { frames := 1, cells := 0, slots := 0, locals := 22 }
abbrev wMO_mean (ad : Nat → Nat) (cI cZ : ClassId) (v_MO_size : Int32) (v_MO_loaded : Int32) (v_MO_at : Int32) (v_MO_fault : Int32) (v_MO_hasGiven : Int32) (v_MO_hasPicture : Int32) (v_MO_range : Int32) (v_MO_value : Int32) (v_MO_leaves : Int32) (v_msides : Nat → Int32) (v_mrow : Nat → Int32) : va_W := [(ad 0, .inr (12, [.ref (ad 1), .int v_MO_size, .ref (ad 2), .int v_MO_loaded, .int v_MO_at, .int v_MO_fault, .ref (ad 3), .ref (ad 4), .int v_MO_hasGiven, .int v_MO_hasPicture, .int v_MO_range, .int v_MO_value, .ref (ad 5), .ref (ad 6), .int v_MO_leaves, .ref (ad 7), .ref (ad 8), .ref (ad 9), .ref (ad 10), .ref (ad 11), .ref (ad 12), .ref (ad 13), .ref (ad 14), .ref (ad 15), .ref (ad 16), .ref (ad 17), .ref (ad 18), .ref (ad 19), .ref (ad 20), .ref (ad 21), .ref (ad 22), .ref (ad 23)])), (ad 9, .inl (cI, 16, .inl v_msides)), (ad 19, .inl (cI, 33, .inl v_mrow))]
def fMO_mean_B12 (v_MO_size : Int32) (v_MO_loaded : Int32) (v_MO_at : Int32) (v_MO_fault : Int32) (v_MO_hasGiven : Int32) (v_MO_hasPicture : Int32) (v_MO_range : Int32) (v_MO_value : Int32) (v_MO_leaves : Int32) (v_msides : Nat → Int32) (v_mrow : Nat → Int32) (p1 : Int32) (z1 : Int32) (z2 : Int32) (z3 : Int32) : Option ((Int32 × Int32) ⊕ (Int32 × Int32)) :=
(if z1 ≤ z3 then
(some (.inr (z2, z3)))
else
(ip_b1 (fMO_toLeft v_MO_size v_MO_loaded v_MO_at v_MO_fault v_MO_hasGiven v_MO_hasPicture v_MO_range v_MO_value v_MO_leaves v_msides v_mrow p1 z3) (fun z6 =>
ip_b1 (fMO_above v_MO_size v_MO_loaded v_MO_at v_MO_fault v_MO_hasGiven v_MO_hasPicture v_MO_range v_MO_value v_MO_leaves v_msides v_mrow p1 z3) (fun z7 =>
ip_lt (z2 + (z6 + z7)) (fun z8 =>
ip_lt (z3 + (1 : Int32)) (fun z9 =>
some (.inl (z8, z9))))))))
def fMO_mean (v_MO_size : Int32) (v_MO_loaded : Int32) (v_MO_at : Int32) (v_MO_fault : Int32) (v_MO_hasGiven : Int32) (v_MO_hasPicture : Int32) (v_MO_range : Int32) (v_MO_value : Int32) (v_MO_leaves : Int32) (v_msides : Nat → Int32) (v_mrow : Nat → Int32) (p1 : Int32) : Option (Int32) :=
ip_b1 (ip_ald 16 v_msides p1) (fun z1 =>
ip_b2 (ip_lp2 (fMO_mean_B12 v_MO_size v_MO_loaded v_MO_at v_MO_fault v_MO_hasGiven v_MO_hasPicture v_MO_range v_MO_value v_MO_leaves v_msides v_mrow p1 z1) 1000 z1 (0 : Int32)) (fun x4 x5 =>
ip_b1 (ip_div x4 ((2 : Int32) * z1)) (fun z10 =>
some z10)))
abbrev rmMO_predict : Room := { frames := 2, cells := 0, slots := 0, locals := 46 }
abbrev wMO_predict (ad : Nat → Nat) (cI cZ : ClassId) (v_MO_size : Int32) (v_MO_loaded : Int32) (v_MO_at : Int32) (v_MO_fault : Int32) (v_MO_hasGiven : Int32) (v_MO_hasPicture : Int32) (v_MO_range : Int32) (v_MO_value : Int32) (v_MO_leaves : Int32) (v_msides : Nat → Int32) (v_mmodes : Nat → Int32) (v_mrow : Nat → Int32) : va_W := [(ad 0, .inr (12, [.ref (ad 1), .int v_MO_size, .ref (ad 2), .int v_MO_loaded, .int v_MO_at, .int v_MO_fault, .ref (ad 3), .ref (ad 4), .int v_MO_hasGiven, .int v_MO_hasPicture, .int v_MO_range, .int v_MO_value, .ref (ad 5), .ref (ad 6), .int v_MO_leaves, .ref (ad 7), .ref (ad 8), .ref (ad 9), .ref (ad 10), .ref (ad 11), .ref (ad 12), .ref (ad 13), .ref (ad 14), .ref (ad 15), .ref (ad 16), .ref (ad 17), .ref (ad 18), .ref (ad 19), .ref (ad 20), .ref (ad 21), .ref (ad 22), .ref (ad 23)])), (ad 9, .inl (cI, 16, .inl v_msides)), (ad 10, .inl (cI, 16, .inl v_mmodes)), (ad 19, .inl (cI, 33, .inl v_mrow))]
def fMO_predict (v_MO_size : Int32) (v_MO_loaded : Int32) (v_MO_at : Int32) (v_MO_fault : Int32) (v_MO_hasGiven : Int32) (v_MO_hasPicture : Int32) (v_MO_range : Int32) (v_MO_value : Int32) (v_MO_leaves : Int32) (v_msides : Nat → Int32) (v_mmodes : Nat → Int32) (v_mrow : Nat → Int32) (p1 : Int32) (p2 : Int32) (p3 : Int32) : Option (Int32) :=
ip_b1 (ip_ald 16 v_msides p1) (fun z1 =>
ip_lt ((13 : Int32) * (p3 + (1 : Int32))) (fun z2 =>
ip_lt ((26 : Int32) * (p2 + (1 : Int32))) (fun z3 =>
ip_b1 (ip_ald 16 v_mmodes p1) (fun z4 =>
(if z4 = (0 : Int32) then
(ip_b1 (fMO_toLeft v_MO_size v_MO_loaded v_MO_at v_MO_fault v_MO_hasGiven v_MO_hasPicture v_MO_range v_MO_value v_MO_leaves v_msides v_mrow p1 p3) (fun z5 =>
ip_b1 (fMO_above v_MO_size v_MO_loaded v_MO_at v_MO_fault v_MO_hasGiven v_MO_hasPicture v_MO_range v_MO_value v_MO_leaves v_msides v_mrow p1 z1) (fun z6 =>
ip_b1 (fMO_above v_MO_size v_MO_loaded v_MO_at v_MO_fault v_MO_hasGiven v_MO_hasPicture v_MO_range v_MO_value v_MO_leaves v_msides v_mrow p1 p2) (fun z7 =>
ip_b1 (fMO_toLeft v_MO_size v_MO_loaded v_MO_at v_MO_fault v_MO_hasGiven v_MO_hasPicture v_MO_range v_MO_value v_MO_leaves v_msides v_mrow p1 z1) (fun z8 =>
ip_b1 (ip_div (((((((z1 - (1 : Int32)) - p2) * z5) + ((p2 + (1 : Int32)) * z6)) + (((z1 - (1 : Int32)) - p3) * z7)) + ((p3 + (1 : Int32)) * z8)) + z1) ((2 : Int32) * z1)) (fun z9 =>
some z9))))))
else
(if z4 = (1 : Int32) then
(ip_b1 (fMO_mean v_MO_size v_MO_loaded v_MO_at v_MO_fault v_MO_hasGiven v_MO_hasPicture v_MO_range v_MO_value v_MO_leaves v_msides v_mrow p1) (fun z10 =>
some z10))
else
(if z4 = (2 : Int32) then
(ip_b1 (fMO_toLeft v_MO_size v_MO_loaded v_MO_at v_MO_fault v_MO_hasGiven v_MO_hasPicture v_MO_range v_MO_value v_MO_leaves v_msides v_mrow p1 p3) (fun z11 =>
some z11))
else
(if z4 = (3 : Int32) then
(ip_b1 (fMO_above v_MO_size v_MO_loaded v_MO_at v_MO_fault v_MO_hasGiven v_MO_hasPicture v_MO_range v_MO_value v_MO_leaves v_msides v_mrow p1 p2) (fun z12 =>
some z12))
else
(if z4 = (4 : Int32) then
(ip_b1 (fMO_above v_MO_size v_MO_loaded v_MO_at v_MO_fault v_MO_hasGiven v_MO_hasPicture v_MO_range v_MO_value v_MO_leaves v_msides v_mrow p1 (p2 + (z2 / (32 : Int32)))) (fun z13 =>
ip_b1 (fMO_above v_MO_size v_MO_loaded v_MO_at v_MO_fault v_MO_hasGiven v_MO_hasPicture v_MO_range v_MO_value v_MO_leaves v_msides v_mrow p1 ((p2 + (z2 / (32 : Int32))) + (1 : Int32))) (fun z14 =>
some ((((((32 : Int32) - (z2 - z2 / (32 : Int32) * (32 : Int32))) * z13) + ((z2 - z2 / (32 : Int32) * (32 : Int32)) * z14)) + (16 : Int32)) >>> ((5 : Int32) &&& 31)))))
else
(if z4 = (5 : Int32) then
(ip_b1 (fMO_above v_MO_size v_MO_loaded v_MO_at v_MO_fault v_MO_hasGiven v_MO_hasPicture v_MO_range v_MO_value v_MO_leaves v_msides v_mrow p1 ((p2 + p3) + (1 : Int32))) (fun z15 =>
some z15))
else
(if z4 = (6 : Int32) then
(ip_b1 (fMO_toLeft v_MO_size v_MO_loaded v_MO_at v_MO_fault v_MO_hasGiven v_MO_hasPicture v_MO_range v_MO_value v_MO_leaves v_msides v_mrow p1 (p3 + (z3 / (32 : Int32)))) (fun z16 =>
ip_b1 (fMO_toLeft v_MO_size v_MO_loaded v_MO_at v_MO_fault v_MO_hasGiven v_MO_hasPicture v_MO_range v_MO_value v_MO_leaves v_msides v_mrow p1 ((p3 + (z3 / (32 : Int32))) + (1 : Int32))) (fun z17 =>
some ((((((32 : Int32) - (z3 - z3 / (32 : Int32) * (32 : Int32))) * z16) + ((z3 - z3 / (32 : Int32) * (32 : Int32)) * z17)) + (16 : Int32)) >>> ((5 : Int32) &&& 31)))))
else
(ip_b1 (ip_ald 33 v_mrow ((((2 : Int32) * z1) + p2) - p3)) (fun z18 =>
some z18)))))))))))))
abbrev rmMO_coefficient : Room := { frames := 1, cells := 0, slots := 0, locals := 22 }
abbrev wMO_coefficient (ad : Nat → Nat) (cI cZ : ClassId) (v_MO_size : Int32) (v_MO_loaded : Int32) (v_MO_at : Int32) (v_MO_fault : Int32) (v_MO_hasGiven : Int32) (v_MO_hasPicture : Int32) (v_MO_range : Int32) (v_MO_value : Int32) (v_MO_leaves : Int32) (v_mgiven : Nat → Int32) (v_mleft : Nat → Int32) (v_mtop : Nat → Int32) (v_msides : Nat → Int32) (v_mlevels : Nat → Int32) (v_mscale : Nat → Int32) : va_W := [(ad 0, .inr (12, [.ref (ad 1), .int v_MO_size, .ref (ad 2), .int v_MO_loaded, .int v_MO_at, .int v_MO_fault, .ref (ad 3), .ref (ad 4), .int v_MO_hasGiven, .int v_MO_hasPicture, .int v_MO_range, .int v_MO_value, .ref (ad 5), .ref (ad 6), .int v_MO_leaves, .ref (ad 7), .ref (ad 8), .ref (ad 9), .ref (ad 10), .ref (ad 11), .ref (ad 12), .ref (ad 13), .ref (ad 14), .ref (ad 15), .ref (ad 16), .ref (ad 17), .ref (ad 18), .ref (ad 19), .ref (ad 20), .ref (ad 21), .ref (ad 22), .ref (ad 23)])), (ad 3, .inl (cI, 10, .inl v_mgiven)), (ad 7, .inl (cI, 16, .inl v_mleft)), (ad 8, .inl (cI, 16, .inl v_mtop)), (ad 9, .inl (cI, 16, .inl v_msides)), (ad 13, .inl (cI, 256, .inl v_mlevels)), (ad 23, .inl (cI, 6, .inl v_mscale))]
def fMO_coefficient (v_MO_size : Int32) (v_MO_loaded : Int32) (v_MO_at : Int32) (v_MO_fault : Int32) (v_MO_hasGiven : Int32) (v_MO_hasPicture : Int32) (v_MO_range : Int32) (v_MO_value : Int32) (v_MO_leaves : Int32) (v_mgiven : Nat → Int32) (v_mleft : Nat → Int32) (v_mtop : Nat → Int32) (v_msides : Nat → Int32) (v_mlevels : Nat → Int32) (v_mscale : Nat → Int32) (p1 : Int32) (p2 : Int32) (p3 : Int32) : Option (Int32) :=
ip_b1 (ip_ald 16 v_mtop p1) (fun z1 =>
ip_b1 (ip_ald 16 v_mleft p1) (fun z2 =>
ip_b1 (ip_ald 256 v_mlevels ((((16 : Int32) * (z1 + p3)) + z2) + p2)) (fun z3 =>
ip_b1 (ip_ald 10 v_mgiven (0 : Int32)) (fun z4 =>
ip_b1 (ip_ald 6 v_mscale (z4 - z4 / (6 : Int32) * (6 : Int32))) (fun z5 =>
ip_b1 (ip_ald 10 v_mgiven (0 : Int32)) (fun z6 =>
ip_lt ((z3 * z5) <<< ((z6 / (6 : Int32)) &&& 31)) (fun z7 =>
ip_b1 (ip_ald 16 v_msides p1) (fun z8 =>
ip_b1 ((if z8 = (4 : Int32) then
(some ((z7 + (1 : Int32)) >>> ((1 : Int32) &&& 31)))
else
(some ((z7 + (2 : Int32)) >>> ((2 : Int32) &&& 31))))) (fun z9 =>
ip_b1 (fMO_held z9 (-32768 : Int32) (32767 : Int32)) (fun z10 =>
some z10))))))))))
abbrev rmMO_matrix : Room := { frames := 0, cells := 0, slots := 0, locals := 0 }
abbrev wMO_matrix (ad : Nat → Nat) (cI cZ : ClassId) (v_MO_size : Int32) (v_MO_loaded : Int32) (v_MO_at : Int32) (v_MO_fault : Int32) (v_MO_hasGiven : Int32) (v_MO_hasPicture : Int32) (v_MO_range : Int32) (v_MO_value : Int32) (v_MO_leaves : Int32) (v_mfour : Nat → Int32) (v_mwave : Nat → Int32) : va_W := [(ad 0, .inr (12, [.ref (ad 1), .int v_MO_size, .ref (ad 2), .int v_MO_loaded, .int v_MO_at, .int v_MO_fault, .ref (ad 3), .ref (ad 4), .int v_MO_hasGiven, .int v_MO_hasPicture, .int v_MO_range, .int v_MO_value, .ref (ad 5), .ref (ad 6), .int v_MO_leaves, .ref (ad 7), .ref (ad 8), .ref (ad 9), .ref (ad 10), .ref (ad 11), .ref (ad 12), .ref (ad 13), .ref (ad 14), .ref (ad 15), .ref (ad 16), .ref (ad 17), .ref (ad 18), .ref (ad 19), .ref (ad 20), .ref (ad 21), .ref (ad 22), .ref (ad 23)])), (ad 21, .inl (cI, 16, .inl v_mfour)), (ad 22, .inl (cI, 9, .inl v_mwave))]
def fMO_matrix (v_MO_size : Int32) (v_MO_loaded : Int32) (v_MO_at : Int32) (v_MO_fault : Int32) (v_MO_hasGiven : Int32) (v_MO_hasPicture : Int32) (v_MO_range : Int32) (v_MO_value : Int32) (v_MO_leaves : Int32) (v_mfour : Nat → Int32) (v_mwave : Nat → Int32) (p1 : Int32) (p2 : Int32) (p3 : Int32) : Option (Int32) :=
(if p1 = (4 : Int32) then
(ip_b1 (ip_ald 16 v_mfour (((4 : Int32) * p2) + p3)) (fun z5 =>
some z5))
else
(if p2 = 0 then
(some (64 : Int32))
else
(ip_lt (((((2 : Int32) * p3) + (1 : Int32)) * p2) - ((((2 : Int32) * p3) + (1 : Int32)) * p2) / (32 : Int32) * (32 : Int32)) (fun z1 =>
ip_b1 ((if z1 ≤ (16 : Int32) then
(some z1)
else
(some ((32 : Int32) - z1)))) (fun z2 =>
(if z2 ≤ (8 : Int32) then
(ip_b1 (ip_ald 9 v_mwave z2) (fun z3 =>
some z3))
else
(ip_b1 (ip_ald 9 v_mwave ((16 : Int32) - z2)) (fun z4 =>
some (-z4)))))))))
abbrev rmMO_half : Room := { frames := 2, cells := 0, slots := 0, locals := 46 }
abbrev wMO_half (ad : Nat → Nat) (cI cZ : ClassId) (v_MO_size : Int32) (v_MO_loaded : Int32) (v_MO_at : Int32) (v_MO_fault : Int32) (v_MO_hasGiven : Int32) (v_MO_hasPicture : Int32) (v_MO_range : Int32) (v_MO_value : Int32) (v_MO_leaves : Int32) (v_mgiven : Nat → Int32) (v_mleft : Nat → Int32) (v_mtop : Nat → Int32) (v_msides : Nat → Int32) (v_mlevels : Nat → Int32) (v_mfour : Nat → Int32) (v_mwave : Nat → Int32) (v_mscale : Nat → Int32) : va_W := [(ad 0, .inr (12, [.ref (ad 1), .int v_MO_size, .ref (ad 2), .int v_MO_loaded, .int v_MO_at, .int v_MO_fault, .ref (ad 3), .ref (ad 4), .int v_MO_hasGiven, .int v_MO_hasPicture, .int v_MO_range, .int v_MO_value, .ref (ad 5), .ref (ad 6), .int v_MO_leaves, .ref (ad 7), .ref (ad 8), .ref (ad 9), .ref (ad 10), .ref (ad 11), .ref (ad 12), .ref (ad 13), .ref (ad 14), .ref (ad 15), .ref (ad 16), .ref (ad 17), .ref (ad 18), .ref (ad 19), .ref (ad 20), .ref (ad 21), .ref (ad 22), .ref (ad 23)])), (ad 3, .inl (cI, 10, .inl v_mgiven)), (ad 7, .inl (cI, 16, .inl v_mleft)), (ad 8, .inl (cI, 16, .inl v_mtop)), (ad 9, .inl (cI, 16, .inl v_msides)), (ad 13, .inl (cI, 256, .inl v_mlevels)), (ad 21, .inl (cI, 16, .inl v_mfour)), (ad 22, .inl (cI, 9, .inl v_mwave)), (ad 23, .inl (cI, 6, .inl v_mscale))]
def fMO_half_B15 (v_MO_size : Int32) (v_MO_loaded : Int32) (v_MO_at : Int32) (v_MO_fault : Int32) (v_MO_hasGiven : Int32) (v_MO_hasPicture : Int32) (v_MO_range : Int32) (v_MO_value : Int32) (v_MO_leaves : Int32) (v_mgiven : Nat → Int32) (v_mleft : Nat → Int32) (v_mtop : Nat → Int32) (v_msides : Nat → Int32) (v_mlevels : Nat → Int32) (v_mfour : Nat → Int32) (v_mwave : Nat → Int32) (v_mscale : Nat → Int32) (p1 : Int32) (p2 : Int32) (p3 : Int32) (z1 : Int32) (z2 : Int32) (z3 : Int32) : Option ((Int32 × Int32) ⊕ (Int32 × Int32)) :=
(if z1 ≤ z3 then
(some (.inr (z2, z3)))
else
(ip_b1 (fMO_matrix v_MO_size v_MO_loaded v_MO_at v_MO_fault v_MO_hasGiven v_MO_hasPicture v_MO_range v_MO_value v_MO_leaves v_mfour v_mwave z1 z3 p3) (fun z6 =>
ip_b1 (fMO_coefficient v_MO_size v_MO_loaded v_MO_at v_MO_fault v_MO_hasGiven v_MO_hasPicture v_MO_range v_MO_value v_MO_leaves v_mgiven v_mleft v_mtop v_msides v_mlevels v_mscale p1 p2 z3) (fun z7 =>
ip_lt (z2 + (z6 * z7)) (fun z8 =>
ip_lt (z3 + (1 : Int32)) (fun z9 =>
some (.inl (z8, z9))))))))
def fMO_half (v_MO_size : Int32) (v_MO_loaded : Int32) (v_MO_at : Int32) (v_MO_fault : Int32) (v_MO_hasGiven : Int32) (v_MO_hasPicture : Int32) (v_MO_range : Int32) (v_MO_value : Int32) (v_MO_leaves : Int32) (v_mgiven : Nat → Int32) (v_mleft : Nat → Int32) (v_mtop : Nat → Int32) (v_msides : Nat → Int32) (v_mlevels : Nat → Int32) (v_mfour : Nat → Int32) (v_mwave : Nat → Int32) (v_mscale : Nat → Int32) (p1 : Int32) (p2 : Int32) (p3 : Int32) : Option (Int32) :=
ip_b1 (ip_ald 16 v_msides p1) (fun z1 =>
ip_b2 (ip_lp2 (fMO_half_B15 v_MO_size v_MO_loaded v_MO_at v_MO_fault v_MO_hasGiven v_MO_hasPicture v_MO_range v_MO_value v_MO_leaves v_mgiven v_mleft v_mtop v_msides v_mlevels v_mfour v_mwave v_mscale p1 p2 p3 z1) 1000 (64 : Int32) (0 : Int32)) (fun x4 x5 =>
ip_b1 (fMO_held (x4 >>> ((7 : Int32) &&& 31)) (-32768 : Int32) (32767 : Int32)) (fun z10 =>
some z10)))
abbrev rmMO_residual : Room := { frames := 3, cells := 0, slots := 0, locals := 72 }
abbrev wMO_residual (ad : Nat → Nat) (cI cZ : ClassId) (v_MO_size : Int32) (v_MO_loaded : Int32) (v_MO_at : Int32) (v_MO_fault : Int32) (v_MO_hasGiven : Int32) (v_MO_hasPicture : Int32) (v_MO_range : Int32) (v_MO_value : Int32) (v_MO_leaves : Int32) (v_mgiven : Nat → Int32) (v_mleft : Nat → Int32) (v_mtop : Nat → Int32) (v_msides : Nat → Int32) (v_mskips : Nat → Int32) (v_mlevels : Nat → Int32) (v_mfour : Nat → Int32) (v_mwave : Nat → Int32) (v_mscale : Nat → Int32) : va_W := [(ad 0, .inr (12, [.ref (ad 1), .int v_MO_size, .ref (ad 2), .int v_MO_loaded, .int v_MO_at, .int v_MO_fault, .ref (ad 3), .ref (ad 4), .int v_MO_hasGiven, .int v_MO_hasPicture, .int v_MO_range, .int v_MO_value, .ref (ad 5), .ref (ad 6), .int v_MO_leaves, .ref (ad 7), .ref (ad 8), .ref (ad 9), .ref (ad 10), .ref (ad 11), .ref (ad 12), .ref (ad 13), .ref (ad 14), .ref (ad 15), .ref (ad 16), .ref (ad 17), .ref (ad 18), .ref (ad 19), .ref (ad 20), .ref (ad 21), .ref (ad 22), .ref (ad 23)])), (ad 3, .inl (cI, 10, .inl v_mgiven)), (ad 7, .inl (cI, 16, .inl v_mleft)), (ad 8, .inl (cI, 16, .inl v_mtop)), (ad 9, .inl (cI, 16, .inl v_msides)), (ad 11, .inl (cZ, 16, .inl v_mskips)), (ad 13, .inl (cI, 256, .inl v_mlevels)), (ad 21, .inl (cI, 16, .inl v_mfour)), (ad 22, .inl (cI, 9, .inl v_mwave)), (ad 23, .inl (cI, 6, .inl v_mscale))]
def fMO_residual_B36 (v_MO_size : Int32) (v_MO_loaded : Int32) (v_MO_at : Int32) (v_MO_fault : Int32) (v_MO_hasGiven : Int32) (v_MO_hasPicture : Int32) (v_MO_range : Int32) (v_MO_value : Int32) (v_MO_leaves : Int32) (v_mgiven : Nat → Int32) (v_mleft : Nat → Int32) (v_mtop : Nat → Int32) (v_msides : Nat → Int32) (v_mlevels : Nat → Int32) (v_mfour : Nat → Int32) (v_mwave : Nat → Int32) (v_mscale : Nat → Int32) (p1 : Int32) (p2 : Int32) (p3 : Int32) (z2 : Int32) (z3 : Int32) : Option ((Int32 × Int32) ⊕ (Int32 × Int32)) :=
ip_b1 (ip_ald 16 v_msides p1) (fun z6 =>
(if z6 ≤ z3 then
(some (.inr (z2, z3)))
else
(ip_b1 (ip_ald 16 v_msides p1) (fun z7 =>
ip_b1 (fMO_matrix v_MO_size v_MO_loaded v_MO_at v_MO_fault v_MO_hasGiven v_MO_hasPicture v_MO_range v_MO_value v_MO_leaves v_mfour v_mwave z7 z3 p2) (fun z8 =>
ip_b1 (fMO_half v_MO_size v_MO_loaded v_MO_at v_MO_fault v_MO_hasGiven v_MO_hasPicture v_MO_range v_MO_value v_MO_leaves v_mgiven v_mleft v_mtop v_msides v_mlevels v_mfour v_mwave v_mscale p1 z3 p3) (fun z9 =>
ip_lt (z2 + (z8 * z9)) (fun z10 =>
ip_lt (z3 + (1 : Int32)) (fun z11 =>
some (.inl (z10, z11))))))))))
def fMO_residual (v_MO_size : Int32) (v_MO_loaded : Int32) (v_MO_at : Int32) (v_MO_fault : Int32) (v_MO_hasGiven : Int32) (v_MO_hasPicture : Int32) (v_MO_range : Int32) (v_MO_value : Int32) (v_MO_leaves : Int32) (v_mgiven : Nat → Int32) (v_mleft : Nat → Int32) (v_mtop : Nat → Int32) (v_msides : Nat → Int32) (v_mskips : Nat → Int32) (v_mlevels : Nat → Int32) (v_mfour : Nat → Int32) (v_mwave : Nat → Int32) (v_mscale : Nat → Int32) (p1 : Int32) (p2 : Int32) (p3 : Int32) : Option (Int32) :=
ip_b1 (ip_ald 16 v_mskips p1) (fun z1 =>
(if z1 = 0 then
(ip_b2 (ip_lp2 (fMO_residual_B36 v_MO_size v_MO_loaded v_MO_at v_MO_fault v_MO_hasGiven v_MO_hasPicture v_MO_range v_MO_value v_MO_leaves v_mgiven v_mleft v_mtop v_msides v_mlevels v_mfour v_mwave v_mscale p1 p2 p3) 1000 (2048 : Int32) (0 : Int32)) (fun x4 x5 =>
some (x4 >>> ((12 : Int32) &&& 31))))
else
(ip_b1 (fMO_coefficient v_MO_size v_MO_loaded v_MO_at v_MO_fault v_MO_hasGiven v_MO_hasPicture v_MO_range v_MO_value v_MO_leaves v_mgiven v_mleft v_mtop v_msides v_mlevels v_mscale p1 p2 p3) (fun z12 =>
some (((z12 * (128 : Int32)) + (2048 : Int32)) >>> ((12 : Int32) &&& 31))))))
abbrev rmMO_without : Room := { frames := 0, cells := 0, slots := 0, locals := 0 }
abbrev wMO_without (ad : Nat → Nat) (cI cZ : ClassId)  : va_W := []
def fMO_without  (p1 : Int32) : Option (Int32) :=
(if 0 ≤ p1 then
(some p1)
else
(some (-p1)))
abbrev rmMO_smoothEdge : Room := { frames := 1, cells := 0, slots := 0, locals := 22 }
abbrev wMO_smoothEdge (ad : Nat → Nat) (cI cZ : ClassId) (v_MO_size : Int32) (v_MO_loaded : Int32) (v_MO_at : Int32) (v_MO_fault : Int32) (v_MO_hasGiven : Int32) (v_MO_hasPicture : Int32) (v_MO_range : Int32) (v_MO_value : Int32) (v_MO_leaves : Int32) (v_mgiven : Nat → Int32) (v_mlast : Nat → Int32) : va_W := [(ad 0, .inr (12, [.ref (ad 1), .int v_MO_size, .ref (ad 2), .int v_MO_loaded, .int v_MO_at, .int v_MO_fault, .ref (ad 3), .ref (ad 4), .int v_MO_hasGiven, .int v_MO_hasPicture, .int v_MO_range, .int v_MO_value, .ref (ad 5), .ref (ad 6), .int v_MO_leaves, .ref (ad 7), .ref (ad 8), .ref (ad 9), .ref (ad 10), .ref (ad 11), .ref (ad 12), .ref (ad 13), .ref (ad 14), .ref (ad 15), .ref (ad 16), .ref (ad 17), .ref (ad 18), .ref (ad 19), .ref (ad 20), .ref (ad 21), .ref (ad 22), .ref (ad 23)])), (ad 3, .inl (cI, 10, .inl v_mgiven)), (ad 17, .inl (cI, 256, .inl v_mlast))]
def fMO_smoothEdge (v_MO_size : Int32) (v_MO_loaded : Int32) (v_MO_at : Int32) (v_MO_fault : Int32) (v_MO_hasGiven : Int32) (v_MO_hasPicture : Int32) (v_MO_range : Int32) (v_MO_value : Int32) (v_MO_leaves : Int32) (v_mgiven : Nat → Int32) (v_mlast : Nat → Int32) (p1 : Int32) (p2 : Int32) : Option ((Nat → Int32)) :=
ip_b1 (ip_ald 256 v_mlast p1) (fun z1 =>
ip_b1 (ip_ald 256 v_mlast (p1 - p2)) (fun z2 =>
ip_b1 (ip_ald 256 v_mlast (p1 + p2)) (fun z3 =>
ip_b1 (ip_ald 256 v_mlast (p1 + ((2 : Int32) * p2))) (fun z4 =>
ip_lt (((((9 : Int32) * (z3 - z1)) - ((3 : Int32) * (z4 - z2))) + (8 : Int32)) >>> ((4 : Int32) &&& 31)) (fun z5 =>
ip_b1 (ip_ald 10 v_mgiven (0 : Int32)) (fun z6 =>
ip_lt ((1 : Int32) + (z6 / (8 : Int32))) (fun z7 =>
ip_b1 (fMO_without (z2 - z1)) (fun z8 =>
ip_b1 (fMO_without (z4 - z3)) (fun z9 =>
ip_b1 (ip_ald 10 v_mgiven (0 : Int32)) (fun z10 =>
(if z10 ≤ (z8 + z9) then
(some v_mlast)
else
(ip_b1 (fMO_without z5) (fun z11 =>
(if z11 < ((10 : Int32) * z7) then
(ip_b1 (fMO_held z5 (-z7) z7) (fun z12 =>
ip_b1 (fMO_held (z1 + z12) (0 : Int32) (255 : Int32)) (fun z13 =>
ip_b1 (ip_ast 256 v_mlast p1 z13) (fun g14 =>
ip_b1 (fMO_held z5 (-z7) z7) (fun z15 =>
ip_b1 (fMO_held (z3 - z15) (0 : Int32) (255 : Int32)) (fun z16 =>
ip_b1 (ip_ast 256 g14 (p1 + p2) z16) (fun g17 =>
some g17)))))))
else
(some v_mlast)))))))))))))))
abbrev rmMO_sign : Room := { frames := 0, cells := 0, slots := 0, locals := 0 }
abbrev wMO_sign (ad : Nat → Nat) (cI cZ : ClassId)  : va_W := []
def fMO_sign  (p1 : Int32) : Option (Int32) :=
(if p1 ≤ 0 then
(if 0 ≤ p1 then
(some (0 : Int32))
else
(some (-1 : Int32)))
else
(some (1 : Int32)))
abbrev rmMO_offset : Room := { frames := 1, cells := 0, slots := 0, locals := 20 }
abbrev wMO_offset (ad : Nat → Nat) (cI cZ : ClassId) (v_MO_size : Int32) (v_MO_loaded : Int32) (v_MO_at : Int32) (v_MO_fault : Int32) (v_MO_hasGiven : Int32) (v_MO_hasPicture : Int32) (v_MO_range : Int32) (v_MO_value : Int32) (v_MO_leaves : Int32) (v_mgiven : Nat → Int32) (v_mold : Nat → Int32) : va_W := [(ad 0, .inr (12, [.ref (ad 1), .int v_MO_size, .ref (ad 2), .int v_MO_loaded, .int v_MO_at, .int v_MO_fault, .ref (ad 3), .ref (ad 4), .int v_MO_hasGiven, .int v_MO_hasPicture, .int v_MO_range, .int v_MO_value, .ref (ad 5), .ref (ad 6), .int v_MO_leaves, .ref (ad 7), .ref (ad 8), .ref (ad 9), .ref (ad 10), .ref (ad 11), .ref (ad 12), .ref (ad 13), .ref (ad 14), .ref (ad 15), .ref (ad 16), .ref (ad 17), .ref (ad 18), .ref (ad 19), .ref (ad 20), .ref (ad 21), .ref (ad 22), .ref (ad 23)])), (ad 3, .inl (cI, 10, .inl v_mgiven)), (ad 18, .inl (cI, 256, .inl v_mold))]
def fMO_offset (v_MO_size : Int32) (v_MO_loaded : Int32) (v_MO_at : Int32) (v_MO_fault : Int32) (v_MO_hasGiven : Int32) (v_MO_hasPicture : Int32) (v_MO_range : Int32) (v_MO_value : Int32) (v_MO_leaves : Int32) (v_mgiven : Nat → Int32) (v_mold : Nat → Int32) (p1 : Int32) : Option (Int32) :=
ip_b1 (ip_ald 256 v_mold p1) (fun z1 =>
ip_b1 (ip_ald 10 v_mgiven (4 : Int32)) (fun z2 =>
(if z2 = 0 then
(some (0 : Int32))
else
(ip_b1 (ip_ald 10 v_mgiven (4 : Int32)) (fun z3 =>
(if z3 = (3 : Int32) then
(ip_b1 (ip_ald 10 v_mgiven (9 : Int32)) (fun z17 =>
ip_lt (((z1 >>> ((5 : Int32) &&& 31)) - z17) &&& (7 : Int32)) (fun z18 =>
(if (4 : Int32) ≤ z18 then
(some (0 : Int32))
else
(ip_b1 (ip_ald 10 v_mgiven ((5 : Int32) + z18)) (fun z19 =>
some z19))))))
else
(ip_b1 (ip_ald 10 v_mgiven (4 : Int32)) (fun z4 =>
ip_b1 ((if z4 = (1 : Int32) then
(some (p1 - p1 / (16 : Int32) * (16 : Int32)))
else
(some (p1 / (16 : Int32))))) (fun z5 =>
ip_b1 (ip_ald 10 v_mgiven (4 : Int32)) (fun z6 =>
ip_b1 ((if z6 = (1 : Int32) then
(some (1 : Int32))
else
(some (16 : Int32)))) (fun z7 =>
(if z5 = 0 then
(some (0 : Int32))
else
(if z5 = (15 : Int32) then
(some (0 : Int32))
else
(ip_b1 (ip_ald 256 v_mold (p1 - z7)) (fun z8 =>
ip_b1 (fMO_sign (z8 - z1)) (fun z9 =>
ip_b1 (ip_ald 256 v_mold (p1 + z7)) (fun z10 =>
ip_b1 (fMO_sign (z10 - z1)) (fun z11 =>
ip_lt (z9 + z11) (fun z12 =>
(if z12 = (2 : Int32) then
(ip_b1 (ip_ald 10 v_mgiven (5 : Int32)) (fun z16 =>
some z16))
else
(if z12 = (1 : Int32) then
(ip_b1 (ip_ald 10 v_mgiven (6 : Int32)) (fun z15 =>
some z15))
else
(if z12 = (-1 : Int32) then
(ip_b1 (ip_ald 10 v_mgiven (7 : Int32)) (fun z14 =>
some z14))
else
(if z12 = (-2 : Int32) then
(ip_b1 (ip_ald 10 v_mgiven (8 : Int32)) (fun z13 =>
some z13))
else
(some (0 : Int32)))))))))))))))))))))))))
abbrev rmMO_restore : Room := { frames := 4, cells := 0, slots := 0, locals := 97 }
abbrev wMO_restore (ad : Nat → Nat) (cI cZ : ClassId) (v_MO_size : Int32) (v_MO_loaded : Int32) (v_MO_at : Int32) (v_MO_fault : Int32) (v_MO_hasGiven : Int32) (v_MO_hasPicture : Int32) (v_MO_range : Int32) (v_MO_value : Int32) (v_MO_leaves : Int32) (v_mgiven : Nat → Int32) (v_mleft : Nat → Int32) (v_mtop : Nat → Int32) (v_msides : Nat → Int32) (v_mmodes : Nat → Int32) (v_mskips : Nat → Int32) (v_mowner : Nat → Int32) (v_mlevels : Nat → Int32) (v_mguess : Nat → Int32) (v_mfirst : Nat → Int32) (v_mlast : Nat → Int32) (v_mold : Nat → Int32) (v_mrow : Nat → Int32) (v_mraw : Nat → Int32) (v_mfour : Nat → Int32) (v_mwave : Nat → Int32) (v_mscale : Nat → Int32) : va_W := [(ad 0, .inr (12, [.ref (ad 1), .int v_MO_size, .ref (ad 2), .int v_MO_loaded, .int v_MO_at, .int v_MO_fault, .ref (ad 3), .ref (ad 4), .int v_MO_hasGiven, .int v_MO_hasPicture, .int v_MO_range, .int v_MO_value, .ref (ad 5), .ref (ad 6), .int v_MO_leaves, .ref (ad 7), .ref (ad 8), .ref (ad 9), .ref (ad 10), .ref (ad 11), .ref (ad 12), .ref (ad 13), .ref (ad 14), .ref (ad 15), .ref (ad 16), .ref (ad 17), .ref (ad 18), .ref (ad 19), .ref (ad 20), .ref (ad 21), .ref (ad 22), .ref (ad 23)])), (ad 3, .inl (cI, 10, .inl v_mgiven)), (ad 7, .inl (cI, 16, .inl v_mleft)), (ad 8, .inl (cI, 16, .inl v_mtop)), (ad 9, .inl (cI, 16, .inl v_msides)), (ad 10, .inl (cI, 16, .inl v_mmodes)), (ad 11, .inl (cZ, 16, .inl v_mskips)), (ad 12, .inl (cI, 256, .inl v_mowner)), (ad 13, .inl (cI, 256, .inl v_mlevels)), (ad 15, .inl (cI, 256, .inl v_mguess)), (ad 16, .inl (cI, 256, .inl v_mfirst)), (ad 17, .inl (cI, 256, .inl v_mlast)), (ad 18, .inl (cI, 256, .inl v_mold)), (ad 19, .inl (cI, 33, .inl v_mrow)), (ad 20, .inl (cI, 33, .inl v_mraw)), (ad 21, .inl (cI, 16, .inl v_mfour)), (ad 22, .inl (cI, 9, .inl v_mwave)), (ad 23, .inl (cI, 6, .inl v_mscale))]
def fMO_restore_B24 (v_MO_size : Int32) (v_MO_loaded : Int32) (v_MO_at : Int32) (v_MO_fault : Int32) (v_MO_hasGiven : Int32) (v_MO_hasPicture : Int32) (v_MO_range : Int32) (v_MO_value : Int32) (v_MO_leaves : Int32) (v_mgiven : Nat → Int32) (v_mleft : Nat → Int32) (v_mtop : Nat → Int32) (v_msides : Nat → Int32) (v_mmodes : Nat → Int32) (v_mskips : Nat → Int32) (v_mlevels : Nat → Int32) (v_mfour : Nat → Int32) (v_mwave : Nat → Int32) (v_mscale : Nat → Int32) (z1 : Int32) (g11 : Nat → Int32) (z13 : Int32) (z14 : Int32) (g15 : Nat → Int32) (g16 : Nat → Int32) : Option ((Int32 × (Nat → Int32) × (Nat → Int32)) ⊕ (Int32 × (Nat → Int32) × (Nat → Int32))) :=
(if (z13 * z13) ≤ z14 then
(some (.inr (z14, g15, g16)))
else
(ip_b1 (ip_rem z14 z13) (fun z20 =>
ip_b1 (ip_div z14 z13) (fun z21 =>
ip_b1 (ip_ald 16 v_mtop z1) (fun z22 =>
ip_b1 (ip_ald 16 v_mleft z1) (fun z23 =>
ip_lt ((((16 : Int32) * (z22 + z21)) + z23) + z20) (fun z24 =>
ip_b1 (fMO_predict v_MO_size v_MO_loaded v_MO_at v_MO_fault v_MO_hasGiven v_MO_hasPicture v_MO_range v_MO_value v_MO_leaves v_msides v_mmodes g11 z1 z20 z21) (fun z25 =>
ip_b1 (ip_ast 256 g15 z24 z25) (fun g26 =>
ip_b1 (ip_ald 256 g26 z24) (fun z27 =>
ip_b1 (fMO_residual v_MO_size v_MO_loaded v_MO_at v_MO_fault v_MO_hasGiven v_MO_hasPicture v_MO_range v_MO_value v_MO_leaves v_mgiven v_mleft v_mtop v_msides v_mskips v_mlevels v_mfour v_mwave v_mscale z1 z20 z21) (fun z28 =>
ip_b1 (fMO_held (z27 + z28) (0 : Int32) (255 : Int32)) (fun z29 =>
ip_b1 (ip_ast 256 g16 z24 z29) (fun g30 =>
ip_lt (z14 + (1 : Int32)) (fun z31 =>
some (.inl (z31, g26, g30))))))))))))))))
def fMO_restore_B2 (v_MO_size : Int32) (v_MO_loaded : Int32) (v_MO_at : Int32) (v_MO_fault : Int32) (v_MO_hasGiven : Int32) (v_MO_hasPicture : Int32) (v_MO_range : Int32) (v_MO_value : Int32) (v_MO_leaves : Int32) (v_mgiven : Nat → Int32) (v_mleft : Nat → Int32) (v_mtop : Nat → Int32) (v_msides : Nat → Int32) (v_mmodes : Nat → Int32) (v_mskips : Nat → Int32) (v_mowner : Nat → Int32) (v_mlevels : Nat → Int32) (v_mfour : Nat → Int32) (v_mwave : Nat → Int32) (v_mscale : Nat → Int32) (z1 : Int32) (g2 : Nat → Int32) (g3 : Nat → Int32) (g4 : Nat → Int32) (g5 : Nat → Int32) : Option ((Int32 × (Nat → Int32) × (Nat → Int32) × (Nat → Int32) × (Nat → Int32)) ⊕ (Int32 × (Nat → Int32) × (Nat → Int32) × (Nat → Int32) × (Nat → Int32))) :=
(if v_MO_leaves ≤ z1 then
(some (.inr (z1, g2, g3, g4, g5)))
else
(ip_b2 (fMO_references v_MO_size v_MO_loaded v_MO_at v_MO_fault v_MO_hasGiven v_MO_hasPicture v_MO_range v_MO_value v_MO_leaves v_mleft v_mtop v_msides v_mmodes v_mowner g3 g4 g5 z1) (fun g11 g12 =>
ip_b1 (ip_ald 16 v_msides z1) (fun z13 =>
ip_b3 (ip_lp3 (fMO_restore_B24 v_MO_size v_MO_loaded v_MO_at v_MO_fault v_MO_hasGiven v_MO_hasPicture v_MO_range v_MO_value v_MO_leaves v_mgiven v_mleft v_mtop v_msides v_mmodes v_mskips v_mlevels v_mfour v_mwave v_mscale z1 g11 z13) 1000 (0 : Int32) g2 g3) (fun x17 y18 y19 =>
ip_lt (z1 + (1 : Int32)) (fun z32 =>
some (.inl (z32, y18, y19, g11, g12))))))))
def fMO_restore_B126 (y8 : Nat → Int32) (z33 : Int32) (g34 : Nat → Int32) : Option ((Int32 × (Nat → Int32)) ⊕ (Int32 × (Nat → Int32))) :=
(if (256 : Int32) ≤ z33 then
(some (.inr (z33, g34)))
else
(ip_b1 (ip_ald 256 y8 z33) (fun z37 =>
ip_b1 (ip_ast 256 g34 z33 z37) (fun g38 =>
ip_lt (z33 + (1 : Int32)) (fun z39 =>
some (.inl (z39, g38)))))))
def fMO_restore_B153 (v_MO_size : Int32) (v_MO_loaded : Int32) (v_MO_at : Int32) (v_MO_fault : Int32) (v_MO_hasGiven : Int32) (v_MO_hasPicture : Int32) (v_MO_range : Int32) (v_MO_value : Int32) (v_MO_leaves : Int32) (v_mgiven : Nat → Int32) (z40 : Int32) (g41 : Nat → Int32) : Option ((Int32 × (Nat → Int32)) ⊕ (Int32 × (Nat → Int32))) :=
(if (32 : Int32) ≤ z40 then
(some (.inr (z40, g41)))
else
(ip_b1 (ip_ald 10 v_mgiven (3 : Int32)) (fun z44 =>
(if z44 = (1 : Int32) then
(ip_b1 ((if (16 : Int32) ≤ z40 then
(some (((112 : Int32) + z40) - (16 : Int32)))
else
(some (((16 : Int32) * z40) + (7 : Int32))))) (fun z45 =>
ip_b1 ((if (16 : Int32) ≤ z40 then
(some (16 : Int32))
else
(some (1 : Int32)))) (fun z46 =>
ip_b1 (fMO_smoothEdge v_MO_size v_MO_loaded v_MO_at v_MO_fault v_MO_hasGiven v_MO_hasPicture v_MO_range v_MO_value v_MO_leaves v_mgiven g41 z45 z46) (fun g47 =>
ip_lt (z40 + (1 : Int32)) (fun z48 =>
some (.inl (z48, g47)))))))
else
(some (.inr (z40, g41)))))))
def fMO_restore_B216 (y43 : Nat → Int32) (z49 : Int32) (g50 : Nat → Int32) : Option ((Int32 × (Nat → Int32)) ⊕ (Int32 × (Nat → Int32))) :=
(if (256 : Int32) ≤ z49 then
(some (.inr (z49, g50)))
else
(ip_b1 (ip_ald 256 y43 z49) (fun z53 =>
ip_b1 (ip_ast 256 g50 z49 z53) (fun g54 =>
ip_lt (z49 + (1 : Int32)) (fun z55 =>
some (.inl (z55, g54)))))))
def fMO_restore_B243 (v_MO_size : Int32) (v_MO_loaded : Int32) (v_MO_at : Int32) (v_MO_fault : Int32) (v_MO_hasGiven : Int32) (v_MO_hasPicture : Int32) (v_MO_range : Int32) (v_MO_value : Int32) (v_MO_leaves : Int32) (v_mgiven : Nat → Int32) (y52 : Nat → Int32) (z56 : Int32) (g57 : Nat → Int32) : Option ((Int32 × (Nat → Int32)) ⊕ (Int32 × (Nat → Int32))) :=
(if (256 : Int32) ≤ z56 then
(some (.inr (z56, g57)))
else
(ip_b1 (ip_ald 256 y52 z56) (fun z60 =>
ip_b1 (fMO_offset v_MO_size v_MO_loaded v_MO_at v_MO_fault v_MO_hasGiven v_MO_hasPicture v_MO_range v_MO_value v_MO_leaves v_mgiven y52 z56) (fun z61 =>
ip_b1 (fMO_held (z60 + z61) (0 : Int32) (255 : Int32)) (fun z62 =>
ip_b1 (ip_ast 256 g57 z56 z62) (fun g63 =>
ip_lt (z56 + (1 : Int32)) (fun z64 =>
some (.inl (z64, g63)))))))))
def fMO_restore (v_MO_size : Int32) (v_MO_loaded : Int32) (v_MO_at : Int32) (v_MO_fault : Int32) (v_MO_hasGiven : Int32) (v_MO_hasPicture : Int32) (v_MO_range : Int32) (v_MO_value : Int32) (v_MO_leaves : Int32) (v_mgiven : Nat → Int32) (v_mleft : Nat → Int32) (v_mtop : Nat → Int32) (v_msides : Nat → Int32) (v_mmodes : Nat → Int32) (v_mskips : Nat → Int32) (v_mowner : Nat → Int32) (v_mlevels : Nat → Int32) (v_mguess : Nat → Int32) (v_mfirst : Nat → Int32) (v_mlast : Nat → Int32) (v_mold : Nat → Int32) (v_mrow : Nat → Int32) (v_mraw : Nat → Int32) (v_mfour : Nat → Int32) (v_mwave : Nat → Int32) (v_mscale : Nat → Int32)  : Option ((Nat → Int32) × (Nat → Int32) × (Nat → Int32) × (Nat → Int32) × (Nat → Int32) × (Nat → Int32)) :=
ip_b5 (ip_lp5 (fMO_restore_B2 v_MO_size v_MO_loaded v_MO_at v_MO_fault v_MO_hasGiven v_MO_hasPicture v_MO_range v_MO_value v_MO_leaves v_mgiven v_mleft v_mtop v_msides v_mmodes v_mskips v_mowner v_mlevels v_mfour v_mwave v_mscale) 1000 (0 : Int32) v_mguess v_mfirst v_mrow v_mraw) (fun x6 y7 y8 y9 y10 =>
ip_b2 (ip_lp2 (fMO_restore_B126 y8) 1000 (0 : Int32) v_mlast) (fun x35 y36 =>
ip_b2 (ip_lp2 (fMO_restore_B153 v_MO_size v_MO_loaded v_MO_at v_MO_fault v_MO_hasGiven v_MO_hasPicture v_MO_range v_MO_value v_MO_leaves v_mgiven) 1000 (0 : Int32) y36) (fun x42 y43 =>
ip_b2 (ip_lp2 (fMO_restore_B216 y43) 1000 (0 : Int32) v_mold) (fun x51 y52 =>
ip_b2 (ip_lp2 (fMO_restore_B243 v_MO_size v_MO_loaded v_MO_at v_MO_fault v_MO_hasGiven v_MO_hasPicture v_MO_range v_MO_value v_MO_leaves v_mgiven y52) 1000 (0 : Int32) y43) (fun x58 y59 =>
some (y7, y8, y59, y52, y9, y10))))))
abbrev rmMO_decode : Room := { frames := 8, cells := 0, slots := 0, locals := 186 }
abbrev wMO_decode (ad : Nat → Nat) (cI cZ : ClassId) (v_MO_size : Int32) (v_MO_loaded : Int32) (v_MO_at : Int32) (v_MO_fault : Int32) (v_MO_hasGiven : Int32) (v_MO_hasPicture : Int32) (v_MO_range : Int32) (v_MO_value : Int32) (v_MO_leaves : Int32) (v_mfed : Nat → Int32) (v_mload : Nat → Int32) (v_mgiven : Nat → Int32) (v_mwanted : Nat → Int32) (v_mchances : Nat → Int32) (v_mcounts : Nat → Int32) (v_mleft : Nat → Int32) (v_mtop : Nat → Int32) (v_msides : Nat → Int32) (v_mmodes : Nat → Int32) (v_mskips : Nat → Int32) (v_mowner : Nat → Int32) (v_mlevels : Nat → Int32) (v_mgroup : Nat → Int32) (v_mguess : Nat → Int32) (v_mfirst : Nat → Int32) (v_mlast : Nat → Int32) (v_mold : Nat → Int32) (v_mrow : Nat → Int32) (v_mraw : Nat → Int32) (v_mfour : Nat → Int32) (v_mwave : Nat → Int32) (v_mscale : Nat → Int32) : va_W := [(ad 0, .inr (12, [.ref (ad 1), .int v_MO_size, .ref (ad 2), .int v_MO_loaded, .int v_MO_at, .int v_MO_fault, .ref (ad 3), .ref (ad 4), .int v_MO_hasGiven, .int v_MO_hasPicture, .int v_MO_range, .int v_MO_value, .ref (ad 5), .ref (ad 6), .int v_MO_leaves, .ref (ad 7), .ref (ad 8), .ref (ad 9), .ref (ad 10), .ref (ad 11), .ref (ad 12), .ref (ad 13), .ref (ad 14), .ref (ad 15), .ref (ad 16), .ref (ad 17), .ref (ad 18), .ref (ad 19), .ref (ad 20), .ref (ad 21), .ref (ad 22), .ref (ad 23)])), (ad 1, .inl (cI, 240, .inl v_mfed)), (ad 2, .inl (cI, 240, .inl v_mload)), (ad 3, .inl (cI, 10, .inl v_mgiven)), (ad 4, .inl (cI, 10, .inl v_mwanted)), (ad 5, .inl (cI, 14, .inl v_mchances)), (ad 6, .inl (cI, 3, .inl v_mcounts)), (ad 7, .inl (cI, 16, .inl v_mleft)), (ad 8, .inl (cI, 16, .inl v_mtop)), (ad 9, .inl (cI, 16, .inl v_msides)), (ad 10, .inl (cI, 16, .inl v_mmodes)), (ad 11, .inl (cZ, 16, .inl v_mskips)), (ad 12, .inl (cI, 256, .inl v_mowner)), (ad 13, .inl (cI, 256, .inl v_mlevels)), (ad 14, .inl (cI, 16, .inl v_mgroup)), (ad 15, .inl (cI, 256, .inl v_mguess)), (ad 16, .inl (cI, 256, .inl v_mfirst)), (ad 17, .inl (cI, 256, .inl v_mlast)), (ad 18, .inl (cI, 256, .inl v_mold)), (ad 19, .inl (cI, 33, .inl v_mrow)), (ad 20, .inl (cI, 33, .inl v_mraw)), (ad 21, .inl (cI, 16, .inl v_mfour)), (ad 22, .inl (cI, 9, .inl v_mwave)), (ad 23, .inl (cI, 6, .inl v_mscale))]
def fMO_decode_B22 (v_MO_size : Int32) (v_mfed : Nat → Int32) (v_mfour : Nat → Int32) (v_mwave : Nat → Int32) (v_mscale : Nat → Int32) (z1 : Int32) (z2 : Int32) (z3 : Int32) (z4 : Int32) (z5 : Int32) (z6 : Int32) (z7 : Int32) (z8 : Int32) (z9 : Int32) (z10 : Int32) (g11 : Nat → Int32) (g12 : Nat → Int32) (g13 : Nat → Int32) (g14 : Nat → Int32) (g15 : Nat → Int32) (g16 : Nat → Int32) (g17 : Nat → Int32) (g18 : Nat → Int32) (g19 : Nat → Int32) (g20 : Nat → Int32) (g21 : Nat → Int32) (g22 : Nat → Int32) (g23 : Nat → Int32) (g24 : Nat → Int32) (g25 : Nat → Int32) (g26 : Nat → Int32) (g27 : Nat → Int32) (g28 : Nat → Int32) (g29 : Nat → Int32) : Option ((Int32 × Int32 × Int32 × Int32 × Int32 × Int32 × Int32 × Int32 × Int32 × (Nat → Int32) × (Nat → Int32) × (Nat → Int32) × (Nat → Int32) × (Nat → Int32) × (Nat → Int32) × (Nat → Int32) × (Nat → Int32) × (Nat → Int32) × (Nat → Int32) × (Nat → Int32) × (Nat → Int32) × (Nat → Int32) × (Nat → Int32) × (Nat → Int32) × (Nat → Int32) × (Nat → Int32) × (Nat → Int32) × (Nat → Int32)) ⊕ (Int32 × Int32 × Int32 × Int32 × Int32 × Int32 × Int32 × Int32 × Int32 × (Nat → Int32) × (Nat → Int32) × (Nat → Int32) × (Nat → Int32) × (Nat → Int32) × (Nat → Int32) × (Nat → Int32) × (Nat → Int32) × (Nat → Int32) × (Nat → Int32) × (Nat → Int32) × (Nat → Int32) × (Nat → Int32) × (Nat → Int32) × (Nat → Int32) × (Nat → Int32) × (Nat → Int32) × (Nat → Int32) × (Nat → Int32))) :=
(if z1 ≤ z2 then
(some (.inr (z2, z3, z4, z5, z6, z7, z8, z9, z10, g11, g12, g13, g14, g15, g16, g17, g18, g19, g20, g21, g22, g23, g24, g25, g26, g27, g28, g29)))
else
(if z5 = 0 then
(ip_b3 (fMO_open v_MO_size z3 z4 z5 z6 z7 z8 z9 z10 v_mfed g11 z2) (fun z58 z59 g60 =>
ip_b1 ((if z59 ≤ 0 then
(some (-1 : Int32))
else
(ip_b1 (ip_ald 240 g60 (0 : Int32)) (fun z62 =>
some z62)))) (fun z61 =>
ip_b25 ((if z61 = (1 : Int32) then
(ip_b5 (fMO_readParameters v_MO_size z59 z4 z5 z6 z7 z8 z9 z10 g60 g12 g13) (fun z128 z129 z130 g131 g132 =>
some (z128, z129, z130, z7, z8, z9, z10, g131, g132, g14, g15, g16, g17, g18, g19, g20, g21, g22, g23, g24, g25, g26, g27, g28, g29)))
else
(if z61 = (2 : Int32) then
(if z6 = 0 then
(some (z4, (-2 : Int32), z6, z7, z8, z9, z10, g12, g13, g14, g15, g16, g17, g18, g19, g20, g21, g22, g23, g24, g25, g26, g27, g28, g29))
else
(if z61 = (2 : Int32) then
(ip_zk z58 (
ip_b14 (fMO_readPicture v_MO_size z59 z4 z5 z6 z58 z8 z9 z10 g60 g12 g14 g15 g16 g17 g18 g19 g20 g21 g22 g23) (fun z108 z109 z110 z111 g112 g113 g114 g115 g116 g117 g118 g119 g120 g121 =>
ip_b6 (fMO_restore v_MO_size z59 z108 z5 z6 z58 z109 z110 z111 g12 g114 g115 g116 g117 g118 g119 g120 g24 g25 g26 g27 g28 g29 v_mfour v_mwave v_mscale) (fun g122 g123 g124 g125 g126 g127 =>
some (z108, z5, z6, z58, z109, z110, z111, g12, g13, g112, g113, g114, g115, g116, g117, g118, g119, g120, g121, g122, g123, g124, g125, g126, g127)))))
else
(some (z4, z5, z6, z7, z8, z9, z10, g12, g13, g14, g15, g16, g17, g18, g19, g20, g21, g22, g23, g24, g25, g26, g27, g28, g29))))
else
(if z61 = (2 : Int32) then
(ip_zk z58 (
ip_b14 (fMO_readPicture v_MO_size z59 z4 z5 z6 z58 z8 z9 z10 g60 g12 g14 g15 g16 g17 g18 g19 g20 g21 g22 g23) (fun z88 z89 z90 z91 g92 g93 g94 g95 g96 g97 g98 g99 g100 g101 =>
ip_b6 (fMO_restore v_MO_size z59 z88 z5 z6 z58 z89 z90 z91 g12 g94 g95 g96 g97 g98 g99 g100 g24 g25 g26 g27 g28 g29 v_mfour v_mwave v_mscale) (fun g102 g103 g104 g105 g106 g107 =>
some (z88, z5, z6, z58, z89, z90, z91, g12, g13, g92, g93, g94, g95, g96, g97, g98, g99, g100, g101, g102, g103, g104, g105, g106, g107)))))
else
(some (z4, z5, z6, z7, z8, z9, z10, g12, g13, g14, g15, g16, g17, g18, g19, g20, g21, g22, g23, g24, g25, g26, g27, g28, g29)))))) (fun z63 z64 z65 z66 z67 z68 z69 g70 g71 g72 g73 g74 g75 g76 g77 g78 g79 g80 g81 g82 g83 g84 g85 g86 g87 =>
ip_lt (z2 + (1 : Int32)) (fun z133 =>
some (.inl (z133, z59, z63, z64, z65, z66, z67, z68, z69, g60, g70, g71, g72, g73, g74, g75, g76, g77, g78, g79, g80, g81, g82, g83, g84, g85, g86, g87)))))))
else
(some (.inr (z2, z3, z4, z5, z6, z7, z8, z9, z10, g11, g12, g13, g14, g15, g16, g17, g18, g19, g20, g21, g22, g23, g24, g25, g26, g27, g28, g29)))))
def fMO_decode (v_MO_size : Int32) (v_MO_loaded : Int32) (v_MO_at : Int32) (v_MO_fault : Int32) (v_MO_hasGiven : Int32) (v_MO_hasPicture : Int32) (v_MO_range : Int32) (v_MO_value : Int32) (v_MO_leaves : Int32) (v_mfed : Nat → Int32) (v_mload : Nat → Int32) (v_mgiven : Nat → Int32) (v_mwanted : Nat → Int32) (v_mchances : Nat → Int32) (v_mcounts : Nat → Int32) (v_mleft : Nat → Int32) (v_mtop : Nat → Int32) (v_msides : Nat → Int32) (v_mmodes : Nat → Int32) (v_mskips : Nat → Int32) (v_mowner : Nat → Int32) (v_mlevels : Nat → Int32) (v_mgroup : Nat → Int32) (v_mguess : Nat → Int32) (v_mfirst : Nat → Int32) (v_mlast : Nat → Int32) (v_mold : Nat → Int32) (v_mrow : Nat → Int32) (v_mraw : Nat → Int32) (v_mfour : Nat → Int32) (v_mwave : Nat → Int32) (v_mscale : Nat → Int32)  : Option (Int32 × Int32 × Int32 × Int32 × Int32 × Int32 × Int32 × Int32 × Int32 × (Nat → Int32) × (Nat → Int32) × (Nat → Int32) × (Nat → Int32) × (Nat → Int32) × (Nat → Int32) × (Nat → Int32) × (Nat → Int32) × (Nat → Int32) × (Nat → Int32) × (Nat → Int32) × (Nat → Int32) × (Nat → Int32) × (Nat → Int32) × (Nat → Int32) × (Nat → Int32) × (Nat → Int32) × (Nat → Int32) × (Nat → Int32)) :=
ip_b1 (fMO_units v_MO_size v_MO_loaded v_MO_at (0 : Int32) (0 : Int32) (0 : Int32) v_MO_range v_MO_value v_MO_leaves v_mfed) (fun z1 =>
ip_b28 (ip_lp28 (fMO_decode_B22 v_MO_size v_mfed v_mfour v_mwave v_mscale z1) 1000 (0 : Int32) v_MO_loaded v_MO_at (0 : Int32) (0 : Int32) (0 : Int32) v_MO_range v_MO_value v_MO_leaves v_mload v_mgiven v_mwanted v_mchances v_mcounts v_mleft v_mtop v_msides v_mmodes v_mskips v_mowner v_mlevels v_mgroup v_mguess v_mfirst v_mlast v_mold v_mrow v_mraw) (fun x30 x31 x32 x33 x34 x35 x36 x37 x38 y39 y40 y41 y42 y43 y44 y45 y46 y47 y48 y49 y50 y51 y52 y53 y54 y55 y56 y57 =>
ip_b1 ((if x35 = 0 then
(some (0 : Int32))
else
(if x33 = 0 then
(some (1 : Int32))
else
(some (0 : Int32))))) (fun z134 =>
ip_zk z134 (
(if 0 ≤ x33 then
(if z134 = 0 then
(some ((-1 : Int32), x31, x32, x33, x34, z134, x36, x37, x38, y39, y40, y41, y42, y43, y44, y45, y46, y47, y48, y49, y50, y51, y52, y53, y54, y55, y56, y57))
else
(some (x38, x31, x32, x33, x34, z134, x36, x37, x38, y39, y40, y41, y42, y43, y44, y45, y46, y47, y48, y49, y50, y51, y52, y53, y54, y55, y56, y57)))
else
(some (x33, x31, x32, x33, x34, z134, x36, x37, x38, y39, y40, y41, y42, y43, y44, y45, y46, y47, y48, y49, y50, y51, y52, y53, y54, y55, y56, y57)))))))
abbrev rmMO_parameter : Room := { frames := 0, cells := 0, slots := 0, locals := 0 }
abbrev wMO_parameter (ad : Nat → Nat) (cI cZ : ClassId) (v_MO_size : Int32) (v_MO_loaded : Int32) (v_MO_at : Int32) (v_MO_fault : Int32) (v_MO_hasGiven : Int32) (v_MO_hasPicture : Int32) (v_MO_range : Int32) (v_MO_value : Int32) (v_MO_leaves : Int32) (v_mgiven : Nat → Int32) : va_W := [(ad 0, .inr (12, [.ref (ad 1), .int v_MO_size, .ref (ad 2), .int v_MO_loaded, .int v_MO_at, .int v_MO_fault, .ref (ad 3), .ref (ad 4), .int v_MO_hasGiven, .int v_MO_hasPicture, .int v_MO_range, .int v_MO_value, .ref (ad 5), .ref (ad 6), .int v_MO_leaves, .ref (ad 7), .ref (ad 8), .ref (ad 9), .ref (ad 10), .ref (ad 11), .ref (ad 12), .ref (ad 13), .ref (ad 14), .ref (ad 15), .ref (ad 16), .ref (ad 17), .ref (ad 18), .ref (ad 19), .ref (ad 20), .ref (ad 21), .ref (ad 22), .ref (ad 23)])), (ad 3, .inl (cI, 10, .inl v_mgiven))]
def fMO_parameter (v_MO_size : Int32) (v_MO_loaded : Int32) (v_MO_at : Int32) (v_MO_fault : Int32) (v_MO_hasGiven : Int32) (v_MO_hasPicture : Int32) (v_MO_range : Int32) (v_MO_value : Int32) (v_MO_leaves : Int32) (v_mgiven : Nat → Int32) (p1 : Int32) : Option (Int32) :=
(if v_MO_hasGiven = 0 then
(some (-100 : Int32))
else
(if p1 < 0 then
(some (-100 : Int32))
else
(if (9 : Int32) < p1 then
(some (-100 : Int32))
else
(ip_b1 (ip_ald 10 v_mgiven p1) (fun z1 =>
some z1)))))
abbrev rmMO_seen : Room := { frames := 0, cells := 0, slots := 0, locals := 0 }
abbrev wMO_seen (ad : Nat → Nat) (cI cZ : ClassId) (v_MO_size : Int32) (v_MO_loaded : Int32) (v_MO_at : Int32) (v_MO_fault : Int32) (v_MO_hasGiven : Int32) (v_MO_hasPicture : Int32) (v_MO_range : Int32) (v_MO_value : Int32) (v_MO_leaves : Int32) : va_W := [(ad 0, .inr (12, [.ref (ad 1), .int v_MO_size, .ref (ad 2), .int v_MO_loaded, .int v_MO_at, .int v_MO_fault, .ref (ad 3), .ref (ad 4), .int v_MO_hasGiven, .int v_MO_hasPicture, .int v_MO_range, .int v_MO_value, .ref (ad 5), .ref (ad 6), .int v_MO_leaves, .ref (ad 7), .ref (ad 8), .ref (ad 9), .ref (ad 10), .ref (ad 11), .ref (ad 12), .ref (ad 13), .ref (ad 14), .ref (ad 15), .ref (ad 16), .ref (ad 17), .ref (ad 18), .ref (ad 19), .ref (ad 20), .ref (ad 21), .ref (ad 22), .ref (ad 23)]))]
def fMO_seen (v_MO_size : Int32) (v_MO_loaded : Int32) (v_MO_at : Int32) (v_MO_fault : Int32) (v_MO_hasGiven : Int32) (v_MO_hasPicture : Int32) (v_MO_range : Int32) (v_MO_value : Int32) (v_MO_leaves : Int32) (p1 : Int32) (p2 : Int32) : Option (Int32) :=
(if v_MO_hasPicture = 0 then
(some (0 : Int32))
else
(if p1 < 0 then
(some (0 : Int32))
else
(if (15 : Int32) < p1 then
(some (0 : Int32))
else
(if p2 < 0 then
(some (0 : Int32))
else
(if (15 : Int32) < p2 then
(some (0 : Int32))
else
(some (1 : Int32)))))))
abbrev rmMO_sample : Room := { frames := 1, cells := 0, slots := 0, locals := 22 }
abbrev wMO_sample (ad : Nat → Nat) (cI cZ : ClassId) (v_MO_size : Int32) (v_MO_loaded : Int32) (v_MO_at : Int32) (v_MO_fault : Int32) (v_MO_hasGiven : Int32) (v_MO_hasPicture : Int32) (v_MO_range : Int32) (v_MO_value : Int32) (v_MO_leaves : Int32) (v_mlast : Nat → Int32) : va_W := [(ad 0, .inr (12, [.ref (ad 1), .int v_MO_size, .ref (ad 2), .int v_MO_loaded, .int v_MO_at, .int v_MO_fault, .ref (ad 3), .ref (ad 4), .int v_MO_hasGiven, .int v_MO_hasPicture, .int v_MO_range, .int v_MO_value, .ref (ad 5), .ref (ad 6), .int v_MO_leaves, .ref (ad 7), .ref (ad 8), .ref (ad 9), .ref (ad 10), .ref (ad 11), .ref (ad 12), .ref (ad 13), .ref (ad 14), .ref (ad 15), .ref (ad 16), .ref (ad 17), .ref (ad 18), .ref (ad 19), .ref (ad 20), .ref (ad 21), .ref (ad 22), .ref (ad 23)])), (ad 17, .inl (cI, 256, .inl v_mlast))]
def fMO_sample (v_MO_size : Int32) (v_MO_loaded : Int32) (v_MO_at : Int32) (v_MO_fault : Int32) (v_MO_hasGiven : Int32) (v_MO_hasPicture : Int32) (v_MO_range : Int32) (v_MO_value : Int32) (v_MO_leaves : Int32) (v_mlast : Nat → Int32) (p1 : Int32) (p2 : Int32) : Option (Int32) :=
ip_b1 (fMO_seen v_MO_size v_MO_loaded v_MO_at v_MO_fault v_MO_hasGiven v_MO_hasPicture v_MO_range v_MO_value v_MO_leaves p1 p2) (fun z1 =>
(if z1 = 0 then
(some (-1 : Int32))
else
(ip_b1 (ip_ald 256 v_mlast (((16 : Int32) * p2) + p1)) (fun z2 =>
some z2))))
abbrev rmMO_plain : Room := { frames := 1, cells := 0, slots := 0, locals := 22 }
abbrev wMO_plain (ad : Nat → Nat) (cI cZ : ClassId) (v_MO_size : Int32) (v_MO_loaded : Int32) (v_MO_at : Int32) (v_MO_fault : Int32) (v_MO_hasGiven : Int32) (v_MO_hasPicture : Int32) (v_MO_range : Int32) (v_MO_value : Int32) (v_MO_leaves : Int32) (v_mfirst : Nat → Int32) : va_W := [(ad 0, .inr (12, [.ref (ad 1), .int v_MO_size, .ref (ad 2), .int v_MO_loaded, .int v_MO_at, .int v_MO_fault, .ref (ad 3), .ref (ad 4), .int v_MO_hasGiven, .int v_MO_hasPicture, .int v_MO_range, .int v_MO_value, .ref (ad 5), .ref (ad 6), .int v_MO_leaves, .ref (ad 7), .ref (ad 8), .ref (ad 9), .ref (ad 10), .ref (ad 11), .ref (ad 12), .ref (ad 13), .ref (ad 14), .ref (ad 15), .ref (ad 16), .ref (ad 17), .ref (ad 18), .ref (ad 19), .ref (ad 20), .ref (ad 21), .ref (ad 22), .ref (ad 23)])), (ad 16, .inl (cI, 256, .inl v_mfirst))]
def fMO_plain (v_MO_size : Int32) (v_MO_loaded : Int32) (v_MO_at : Int32) (v_MO_fault : Int32) (v_MO_hasGiven : Int32) (v_MO_hasPicture : Int32) (v_MO_range : Int32) (v_MO_value : Int32) (v_MO_leaves : Int32) (v_mfirst : Nat → Int32) (p1 : Int32) (p2 : Int32) : Option (Int32) :=
ip_b1 (fMO_seen v_MO_size v_MO_loaded v_MO_at v_MO_fault v_MO_hasGiven v_MO_hasPicture v_MO_range v_MO_value v_MO_leaves p1 p2) (fun z1 =>
(if z1 = 0 then
(some (-1 : Int32))
else
(ip_b1 (ip_ald 256 v_mfirst (((16 : Int32) * p2) + p1)) (fun z2 =>
some z2))))
abbrev rmMO_predicted : Room := { frames := 1, cells := 0, slots := 0, locals := 22 }
abbrev wMO_predicted (ad : Nat → Nat) (cI cZ : ClassId) (v_MO_size : Int32) (v_MO_loaded : Int32) (v_MO_at : Int32) (v_MO_fault : Int32) (v_MO_hasGiven : Int32) (v_MO_hasPicture : Int32) (v_MO_range : Int32) (v_MO_value : Int32) (v_MO_leaves : Int32) (v_mguess : Nat → Int32) : va_W := [(ad 0, .inr (12, [.ref (ad 1), .int v_MO_size, .ref (ad 2), .int v_MO_loaded, .int v_MO_at, .int v_MO_fault, .ref (ad 3), .ref (ad 4), .int v_MO_hasGiven, .int v_MO_hasPicture, .int v_MO_range, .int v_MO_value, .ref (ad 5), .ref (ad 6), .int v_MO_leaves, .ref (ad 7), .ref (ad 8), .ref (ad 9), .ref (ad 10), .ref (ad 11), .ref (ad 12), .ref (ad 13), .ref (ad 14), .ref (ad 15), .ref (ad 16), .ref (ad 17), .ref (ad 18), .ref (ad 19), .ref (ad 20), .ref (ad 21), .ref (ad 22), .ref (ad 23)])), (ad 15, .inl (cI, 256, .inl v_mguess))]
def fMO_predicted (v_MO_size : Int32) (v_MO_loaded : Int32) (v_MO_at : Int32) (v_MO_fault : Int32) (v_MO_hasGiven : Int32) (v_MO_hasPicture : Int32) (v_MO_range : Int32) (v_MO_value : Int32) (v_MO_leaves : Int32) (v_mguess : Nat → Int32) (p1 : Int32) (p2 : Int32) : Option (Int32) :=
ip_b1 (fMO_seen v_MO_size v_MO_loaded v_MO_at v_MO_fault v_MO_hasGiven v_MO_hasPicture v_MO_range v_MO_value v_MO_leaves p1 p2) (fun z1 =>
(if z1 = 0 then
(some (-1 : Int32))
else
(ip_b1 (ip_ald 256 v_mguess (((16 : Int32) * p2) + p1)) (fun z2 =>
some z2))))
abbrev rmMO_level : Room := { frames := 1, cells := 0, slots := 0, locals := 22 }
abbrev wMO_level (ad : Nat → Nat) (cI cZ : ClassId) (v_MO_size : Int32) (v_MO_loaded : Int32) (v_MO_at : Int32) (v_MO_fault : Int32) (v_MO_hasGiven : Int32) (v_MO_hasPicture : Int32) (v_MO_range : Int32) (v_MO_value : Int32) (v_MO_leaves : Int32) (v_mlevels : Nat → Int32) : va_W := [(ad 0, .inr (12, [.ref (ad 1), .int v_MO_size, .ref (ad 2), .int v_MO_loaded, .int v_MO_at, .int v_MO_fault, .ref (ad 3), .ref (ad 4), .int v_MO_hasGiven, .int v_MO_hasPicture, .int v_MO_range, .int v_MO_value, .ref (ad 5), .ref (ad 6), .int v_MO_leaves, .ref (ad 7), .ref (ad 8), .ref (ad 9), .ref (ad 10), .ref (ad 11), .ref (ad 12), .ref (ad 13), .ref (ad 14), .ref (ad 15), .ref (ad 16), .ref (ad 17), .ref (ad 18), .ref (ad 19), .ref (ad 20), .ref (ad 21), .ref (ad 22), .ref (ad 23)])), (ad 13, .inl (cI, 256, .inl v_mlevels))]
def fMO_level (v_MO_size : Int32) (v_MO_loaded : Int32) (v_MO_at : Int32) (v_MO_fault : Int32) (v_MO_hasGiven : Int32) (v_MO_hasPicture : Int32) (v_MO_range : Int32) (v_MO_value : Int32) (v_MO_leaves : Int32) (v_mlevels : Nat → Int32) (p1 : Int32) (p2 : Int32) : Option (Int32) :=
ip_b1 (fMO_seen v_MO_size v_MO_loaded v_MO_at v_MO_fault v_MO_hasGiven v_MO_hasPicture v_MO_range v_MO_value v_MO_leaves p1 p2) (fun z1 =>
(if z1 = 0 then
(some (-1000 : Int32))
else
(ip_b1 (ip_ald 256 v_mlevels (((16 : Int32) * p2) + p1)) (fun z2 =>
some z2))))
abbrev rmMO_mode : Room := { frames := 1, cells := 0, slots := 0, locals := 22 }
abbrev wMO_mode (ad : Nat → Nat) (cI cZ : ClassId) (v_MO_size : Int32) (v_MO_loaded : Int32) (v_MO_at : Int32) (v_MO_fault : Int32) (v_MO_hasGiven : Int32) (v_MO_hasPicture : Int32) (v_MO_range : Int32) (v_MO_value : Int32) (v_MO_leaves : Int32) (v_mmodes : Nat → Int32) (v_mowner : Nat → Int32) : va_W := [(ad 0, .inr (12, [.ref (ad 1), .int v_MO_size, .ref (ad 2), .int v_MO_loaded, .int v_MO_at, .int v_MO_fault, .ref (ad 3), .ref (ad 4), .int v_MO_hasGiven, .int v_MO_hasPicture, .int v_MO_range, .int v_MO_value, .ref (ad 5), .ref (ad 6), .int v_MO_leaves, .ref (ad 7), .ref (ad 8), .ref (ad 9), .ref (ad 10), .ref (ad 11), .ref (ad 12), .ref (ad 13), .ref (ad 14), .ref (ad 15), .ref (ad 16), .ref (ad 17), .ref (ad 18), .ref (ad 19), .ref (ad 20), .ref (ad 21), .ref (ad 22), .ref (ad 23)])), (ad 10, .inl (cI, 16, .inl v_mmodes)), (ad 12, .inl (cI, 256, .inl v_mowner))]
def fMO_mode (v_MO_size : Int32) (v_MO_loaded : Int32) (v_MO_at : Int32) (v_MO_fault : Int32) (v_MO_hasGiven : Int32) (v_MO_hasPicture : Int32) (v_MO_range : Int32) (v_MO_value : Int32) (v_MO_leaves : Int32) (v_mmodes : Nat → Int32) (v_mowner : Nat → Int32) (p1 : Int32) (p2 : Int32) : Option (Int32) :=
ip_b1 (fMO_seen v_MO_size v_MO_loaded v_MO_at v_MO_fault v_MO_hasGiven v_MO_hasPicture v_MO_range v_MO_value v_MO_leaves p1 p2) (fun z1 =>
(if z1 = 0 then
(some (-1 : Int32))
else
(ip_b1 (ip_ald 256 v_mowner (((16 : Int32) * p2) + p1)) (fun z2 =>
ip_b1 (ip_ald 16 v_mmodes z2) (fun z3 =>
some z3)))))
abbrev rmMO_side : Room := { frames := 1, cells := 0, slots := 0, locals := 22 }
abbrev wMO_side (ad : Nat → Nat) (cI cZ : ClassId) (v_MO_size : Int32) (v_MO_loaded : Int32) (v_MO_at : Int32) (v_MO_fault : Int32) (v_MO_hasGiven : Int32) (v_MO_hasPicture : Int32) (v_MO_range : Int32) (v_MO_value : Int32) (v_MO_leaves : Int32) (v_msides : Nat → Int32) (v_mowner : Nat → Int32) : va_W := [(ad 0, .inr (12, [.ref (ad 1), .int v_MO_size, .ref (ad 2), .int v_MO_loaded, .int v_MO_at, .int v_MO_fault, .ref (ad 3), .ref (ad 4), .int v_MO_hasGiven, .int v_MO_hasPicture, .int v_MO_range, .int v_MO_value, .ref (ad 5), .ref (ad 6), .int v_MO_leaves, .ref (ad 7), .ref (ad 8), .ref (ad 9), .ref (ad 10), .ref (ad 11), .ref (ad 12), .ref (ad 13), .ref (ad 14), .ref (ad 15), .ref (ad 16), .ref (ad 17), .ref (ad 18), .ref (ad 19), .ref (ad 20), .ref (ad 21), .ref (ad 22), .ref (ad 23)])), (ad 9, .inl (cI, 16, .inl v_msides)), (ad 12, .inl (cI, 256, .inl v_mowner))]
def fMO_side (v_MO_size : Int32) (v_MO_loaded : Int32) (v_MO_at : Int32) (v_MO_fault : Int32) (v_MO_hasGiven : Int32) (v_MO_hasPicture : Int32) (v_MO_range : Int32) (v_MO_value : Int32) (v_MO_leaves : Int32) (v_msides : Nat → Int32) (v_mowner : Nat → Int32) (p1 : Int32) (p2 : Int32) : Option (Int32) :=
ip_b1 (fMO_seen v_MO_size v_MO_loaded v_MO_at v_MO_fault v_MO_hasGiven v_MO_hasPicture v_MO_range v_MO_value v_MO_leaves p1 p2) (fun z1 =>
(if z1 = 0 then
(some (-1 : Int32))
else
(ip_b1 (ip_ald 256 v_mowner (((16 : Int32) * p2) + p1)) (fun z2 =>
ip_b1 (ip_ald 16 v_msides z2) (fun z3 =>
some z3)))))
abbrev rmMO_chance : Room := { frames := 0, cells := 0, slots := 0, locals := 0 }
abbrev wMO_chance (ad : Nat → Nat) (cI cZ : ClassId) (v_MO_size : Int32) (v_MO_loaded : Int32) (v_MO_at : Int32) (v_MO_fault : Int32) (v_MO_hasGiven : Int32) (v_MO_hasPicture : Int32) (v_MO_range : Int32) (v_MO_value : Int32) (v_MO_leaves : Int32) (v_mchances : Nat → Int32) : va_W := [(ad 0, .inr (12, [.ref (ad 1), .int v_MO_size, .ref (ad 2), .int v_MO_loaded, .int v_MO_at, .int v_MO_fault, .ref (ad 3), .ref (ad 4), .int v_MO_hasGiven, .int v_MO_hasPicture, .int v_MO_range, .int v_MO_value, .ref (ad 5), .ref (ad 6), .int v_MO_leaves, .ref (ad 7), .ref (ad 8), .ref (ad 9), .ref (ad 10), .ref (ad 11), .ref (ad 12), .ref (ad 13), .ref (ad 14), .ref (ad 15), .ref (ad 16), .ref (ad 17), .ref (ad 18), .ref (ad 19), .ref (ad 20), .ref (ad 21), .ref (ad 22), .ref (ad 23)])), (ad 5, .inl (cI, 14, .inl v_mchances))]
def fMO_chance (v_MO_size : Int32) (v_MO_loaded : Int32) (v_MO_at : Int32) (v_MO_fault : Int32) (v_MO_hasGiven : Int32) (v_MO_hasPicture : Int32) (v_MO_range : Int32) (v_MO_value : Int32) (v_MO_leaves : Int32) (v_mchances : Nat → Int32) (p1 : Int32) : Option (Int32) :=
(if v_MO_hasPicture = 0 then
(some (-1 : Int32))
else
(if p1 < 0 then
(some (-1 : Int32))
else
(if (13 : Int32) < p1 then
(some (-1 : Int32))
else
(ip_b1 (ip_ald 14 v_mchances p1) (fun z1 =>
some z1)))))
abbrev rmMO_took : Room := { frames := 0, cells := 0, slots := 0, locals := 0 }
abbrev wMO_took (ad : Nat → Nat) (cI cZ : ClassId) (v_MO_size : Int32) (v_MO_loaded : Int32) (v_MO_at : Int32) (v_MO_fault : Int32) (v_MO_hasGiven : Int32) (v_MO_hasPicture : Int32) (v_MO_range : Int32) (v_MO_value : Int32) (v_MO_leaves : Int32) (v_mcounts : Nat → Int32) : va_W := [(ad 0, .inr (12, [.ref (ad 1), .int v_MO_size, .ref (ad 2), .int v_MO_loaded, .int v_MO_at, .int v_MO_fault, .ref (ad 3), .ref (ad 4), .int v_MO_hasGiven, .int v_MO_hasPicture, .int v_MO_range, .int v_MO_value, .ref (ad 5), .ref (ad 6), .int v_MO_leaves, .ref (ad 7), .ref (ad 8), .ref (ad 9), .ref (ad 10), .ref (ad 11), .ref (ad 12), .ref (ad 13), .ref (ad 14), .ref (ad 15), .ref (ad 16), .ref (ad 17), .ref (ad 18), .ref (ad 19), .ref (ad 20), .ref (ad 21), .ref (ad 22), .ref (ad 23)])), (ad 6, .inl (cI, 3, .inl v_mcounts))]
def fMO_took (v_MO_size : Int32) (v_MO_loaded : Int32) (v_MO_at : Int32) (v_MO_fault : Int32) (v_MO_hasGiven : Int32) (v_MO_hasPicture : Int32) (v_MO_range : Int32) (v_MO_value : Int32) (v_MO_leaves : Int32) (v_mcounts : Nat → Int32) (p1 : Int32) : Option (Int32) :=
(if v_MO_hasPicture = 0 then
(some (-1 : Int32))
else
(if p1 < 0 then
(some (-1 : Int32))
else
(if (2 : Int32) < p1 then
(some (-1 : Int32))
else
(ip_b1 (ip_ald 3 v_mcounts p1) (fun z1 =>
some z1)))))
