noncomputable def X6_next_b28 (z : ZI) (y0 : Int) : Option (Int × ZI) :=
  some (y0, z)
noncomputable def F_X6_next (z : ZI) : Option (Int × ZI) :=
  if (z 30 2) ≤ (z 30 3) then (X6_next_b28 z 0) else (Zgd (IJ (z 30 3) 60) (X6_next_b28 z (jand (z 32 (z 30 3)) 255)))
noncomputable def X6_sound_b14 (z : ZI) (y0 : Int) : Option (Int × ZI) :=
  Zgd (y0 = 0 ∨ y0 = 1) (some (y0, z))
noncomputable def F_X6_sound (z : ZI) : Option (Int × ZI) :=
  if (z 30 4) = (-9) then (X6_sound_b14 z 1) else (X6_sound_b14 z 0)
noncomputable def F_X6_failHere (z : ZI) : Option (Int × ZI) :=
  Zl (Zup z 30 4 (z 30 3)) fun z1_ => some (0, z1_)
noncomputable def F_X6_held (z : ZI) (x0 : Int) : Option (Int × ZI) :=
  some (jl2i (max (-1000000000) (min 1000000000 x0)), z)
noncomputable def X6_divided_b13 (z : ZI) (y0 : Int) : Option (Int × ZI) :=
  some (y0, z)
noncomputable def F_X6_divided (z : ZI) (x0 : Int) (x2 : Int) : Option (Int × ZI) :=
  if (jcmp x2 0) = 0 then (X6_divided_b13 z 0) else (Zgd (¬ x2 = 0) (Zgd (InL (x0.tdiv x2)) (X6_divided_b13 z (x0.tdiv x2))))
noncomputable def X6_isDigit_b17 (z : ZI) (y0 : Int) : Option (Int × ZI) :=
  Zgd (y0 = 0 ∨ y0 = 1) (some (y0, z))
noncomputable def X6_isDigit_b16 (z : ZI) : Option (Int × ZI) :=
  X6_isDigit_b17 z 0
noncomputable def F_X6_isDigit (z : ZI) (x0 : Int) : Option (Int × ZI) :=
  if x0 < 48 then (X6_isDigit_b16 z ) else (if 57 < x0 then (X6_isDigit_b16 z ) else (X6_isDigit_b17 z 1))
noncomputable def X6_compared_b58 (z : ZI) (y0 : Int) : Option (Int × ZI) :=
  some (y0, z)
noncomputable def X6_compared_b48 (z : ZI) (y0 : Int) : Option (Int × ZI) :=
  if y0 = 0 then (X6_compared_b58 z 0) else (X6_compared_b58 z 1)
noncomputable def F_X6_compared (z : ZI) (x0 : Int) (x1 : Int) (x2 : Int) : Option (Int × ZI) :=
  if x0 = 60 then (if x2 ≤ x1 then (X6_compared_b48 z 0) else (X6_compared_b48 z 1)) else (if x0 = 61 then (if x1 = x2 then (X6_compared_b48 z 1) else (X6_compared_b48 z 0)) else (if x1 ≤ x2 then (X6_compared_b48 z 0) else (X6_compared_b48 z 1)))
noncomputable def J0_isLatin1_aae02_b18 (z : ZI) (y0 : Int) : Option (Int × ZI) :=
  Zgd (y0 = 0 ∨ y0 = 1) (some (y0, z))
noncomputable def J0_isLatin1_aae02_b17 (z : ZI) : Option (Int × ZI) :=
  J0_isLatin1_aae02_b18 z 0
noncomputable def F_J0_isLatin1_aae02 (z : ZI) : Option (Int × ZI) :=
  J0_isLatin1_aae02_b18 z 1
noncomputable def J0_coder_7d493_b14 (z : ZI) (y0 : Int) : Option (Int × ZI) :=
  Zgd (y0 = 0 ∨ y0 = 1) (some (y0, z))
noncomputable def F_J0_coder_7d493 (z : ZI) : Option (Int × ZI) :=
  J0_coder_7d493_b14 z 0
noncomputable def F_J0_length_8abf5 (z : ZI) : Option (Int × ZI) :=
  Yb (F_J0_coder_7d493 z) fun r3_ z1_ => some (jshr 8 r3_, z1_)
noncomputable def J1_canEncode_9a6ad_b16 (z : ZI) (y0 : Int) : Option (Int × ZI) :=
  Zgd (y0 = 0 ∨ y0 = 1) (some (y0, z))
noncomputable def J1_canEncode_9a6ad_b15 (z : ZI) : Option (Int × ZI) :=
  J1_canEncode_9a6ad_b16 z 0
noncomputable def F_J1_canEncode_9a6ad (z : ZI) (x0 : Int) : Option (Int × ZI) :=
  if x0 < 0 then (J1_canEncode_9a6ad_b15 z ) else (if 255 < x0 then (J1_canEncode_9a6ad_b15 z ) else (J1_canEncode_9a6ad_b16 z 1))
noncomputable def J1_indexOfChar_4cfef_L7b (k7 : ZI → Int → Int → Int → Option (Int × ZI)) (z : ZI) (x3 : Int) (x4 : Int) (x5 : Int) : Option (Int × ZI) :=
  if x3 ≤ x5 then (some ((-1), z)) else (Zgd (IJ x5 8) (if (Ylet x5) = x4 then (some (x5, z)) else (Zgd (InR (x5 + 1)) (k7 z x3 x4 (x5 + 1)))))
noncomputable def J1_indexOfChar_4cfef_L7 : Nat → ZI → Int → Int → Int → Option (Int × ZI)
  | 0, _, _, _, _ => none
  | n + 1, z, x3, x4, x5 => J1_indexOfChar_4cfef_L7b (J1_indexOfChar_4cfef_L7 n) z x3 x4 x5
noncomputable def F_J1_indexOfChar_4cfef (z : ZI) (x1 : Int) (x2 : Int) (x3 : Int) : Option (Int × ZI) :=
  J1_indexOfChar_4cfef_L7 Zfuel z x3 (ji2b x1) x2
noncomputable def F_J1_indexOf_4cfef (z : ZI) (x1 : Int) (x2 : Int) (x3 : Int) : Option (Int × ZI) :=
  Yb (F_J1_canEncode_9a6ad z x1) fun r3_ z1_ => if r3_ = 0 then (some ((-1), z1_)) else (if (max x2 0) < (min x3 8) then (Yb (F_J1_indexOfChar_4cfef z1_ x1 (max x2 0) (min x3 8)) fun r8_ z6_ => some (r8_, z6_)) else (some ((-1), z1_)))
noncomputable def J0_indexOf_7cf53_b36 (z : ZI) (y0 : Int) : Option (Int × ZI) :=
  some (y0, z)
noncomputable def F_J0_indexOf_7cf53 (z : ZI) (x1 : Int) (x2 : Int) : Option (Int × ZI) :=
  Yb (F_J0_isLatin1_aae02 z) fun r3_ z1_ => if r3_ = 0 then (Yb (F_J0_length_8abf5 z1_) fun r7_ z5_ => none) else (Yb (F_J0_length_8abf5 z1_) fun r10_ z8_ => Yb (F_J1_indexOf_4cfef z8_ x1 x2 r10_) fun r13_ z11_ => J0_indexOf_7cf53_b36 z11_ r13_)
noncomputable def F_J0_indexOf_0f7a4 (z : ZI) (x1 : Int) : Option (Int × ZI) :=
  Yb (F_J0_indexOf_7cf53 z x1 0) fun r3_ z1_ => some (r3_, z1_)
noncomputable def X6_readNumber_b48 (z : ZI) (x1 : Int) : Option (Int × ZI) :=
  some (x1, z)
noncomputable def X6_readNumber_L4b (k4 : ZI → Int → Int → Option (Int × ZI)) (z : ZI) (x1 : Int) (x2 : Int) : Option (Int × ZI) :=
  if 4 ≤ x2 then (X6_readNumber_b48 z x1) else (Yb (F_X6_next z) fun r4_ z2_ => Yb (F_X6_isDigit z2_ r4_) fun r7_ z5_ => if r7_ = 0 then (X6_readNumber_b48 z5_ x1) else (Zgd (InR (10 * x1)) (Yb (F_X6_next z5_) fun r12_ z10_ => Zgd (InR ((10 * x1) + r12_)) (Zgd (InR (((10 * x1) + r12_) - 48)) (Zgd (InR ((z10_ 30 3) + 1)) (Zl (Zup z10_ 30 3 ((z10_ 30 3) + 1)) fun z16_ => Zgd (InR (x2 + 1)) (k4 z16_ (((10 * x1) + r12_) - 48) (x2 + 1))))))))
noncomputable def X6_readNumber_L4 : Nat → ZI → Int → Int → Option (Int × ZI)
  | 0, _, _, _ => none
  | n + 1, z, x1, x2 => X6_readNumber_L4b (X6_readNumber_L4 n) z x1 x2
noncomputable def F_X6_readNumber (z : ZI) : Option (Int × ZI) :=
  X6_readNumber_L4 Zfuel z 0 0
noncomputable def X6_readBracket_b77 (rs : ZI → Int → Option (Int × ZI)) (z : ZI) (x2 : Int) : Option (Int × ZI) :=
  Yb (F_X6_sound z) fun r3_ z1_ => if r3_ = 0 then (some (0, z1_)) else (Yb (F_X6_next z1_) fun r7_ z5_ => if r7_ = 41 then (Zgd (InR ((z5_ 30 3) + 1)) (Zl (Zup z5_ 30 3 ((z5_ 30 3) + 1)) fun z10_ => some (x2, z10_))) else (Yb (F_X6_failHere z5_) fun r13_ z11_ => some (r13_, z11_)))
noncomputable def X6_readBracket_b56 (rs : ZI → Int → Option (Int × ZI)) (z : ZI) (x1 : Int) (x2 : Int) (x3 : Int) : Option (Int × ZI) :=
  Zgd (InR ((z 30 3) + 1)) (Zl (Zup z 30 3 ((z 30 3) + 1)) fun z2_ => Yb (rs z2_ x1) fun r5_ z3_ => Yb (F_X6_compared z3_ x3 x2 r5_) fun r8_ z6_ => X6_readBracket_b77 rs z6_ r8_)
noncomputable def F_X6_readBracket (rs : ZI → Int → Option (Int × ZI)) (z : ZI) (x1 : Int) : Option (Int × ZI) :=
  if x1 ≤ 5 then (Zgd (InR ((z 30 3) + 1)) (Zl (Zup z 30 3 ((z 30 3) + 1)) fun z3_ => Yb (rs z3_ x1) fun r6_ z4_ => Yb (F_X6_next z4_) fun r9_ z7_ => Yb (F_X6_sound z7_) fun r12_ z10_ => if r12_ = 0 then (X6_readBracket_b77 rs z10_ r6_) else (if r9_ = 60 then (X6_readBracket_b56 rs z10_ x1 r6_ r9_) else (if r9_ = 61 then (X6_readBracket_b56 rs z10_ x1 r6_ r9_) else (if r9_ = 62 then (X6_readBracket_b56 rs z10_ x1 r6_ r9_) else (X6_readBracket_b77 rs z10_ r6_)))))) else (Yb (F_X6_failHere z) fun r19_ z17_ => some (r19_, z17_))
noncomputable def X6_readUnit_b52 (rs : ZI → Int → Option (Int × ZI)) (z : ZI) : Option (Int × ZI) :=
  Yb (F_X6_failHere z) fun r3_ z1_ => some (r3_, z1_)
noncomputable def F_X6_readUnit (rs : ZI → Int → Option (Int × ZI)) (z : ZI) (x1 : Int) : Option (Int × ZI) :=
  Yb (F_X6_next z) fun r3_ z1_ => if r3_ = 40 then (Zgd (InR (x1 + 1)) (Yb (F_X6_readBracket rs z1_ (x1 + 1)) fun r23_ z21_ => some (r23_, z21_))) else (Yb (F_X6_isDigit z1_ r3_) fun r7_ z5_ => if r7_ = 0 then (Yb (F_J0_indexOf_0f7a4 z5_ (ji2c r3_)) fun r11_ z9_ => if r11_ < 0 then (X6_readUnit_b52 rs z9_ ) else (if r11_ < 8 then (Zgd (InR ((z9_ 30 3) + 1)) (Zl (Zup z9_ 30 3 ((z9_ 30 3) + 1)) fun z15_ => Zgd (IJ r11_ 8) (some (z15_ 31 r11_, z15_)))) else (X6_readUnit_b52 rs z9_ ))) else (Yb (F_X6_readNumber z5_) fun r19_ z17_ => some (r19_, z17_)))
noncomputable def X6_readTerm_b94 (rs : ZI → Int → Option (Int × ZI)) (z : ZI) (x2 : Int) : Option (Int × ZI) :=
  some (x2, z)
noncomputable def X6_readTerm_b84 (rs : ZI → Int → Option (Int × ZI)) (k8 : ZI → Int → Int → Int → Option (Int × ZI)) (z : ZI) (x1 : Int) (x3 : Int) (y0 : Int) : Option (Int × ZI) :=
  Yb (F_X6_held z y0) fun r3_ z1_ => Zgd (InR (x3 + 1)) (k8 z1_ x1 r3_ (x3 + 1))
noncomputable def X6_readTerm_b44 (rs : ZI → Int → Option (Int × ZI)) (k8 : ZI → Int → Int → Int → Option (Int × ZI)) (z : ZI) (x1 : Int) (x2 : Int) (x3 : Int) (x4 : Int) : Option (Int × ZI) :=
  Zgd (InR ((z 30 3) + 1)) (Zl (Zup z 30 3 ((z 30 3) + 1)) fun z2_ => Yb (F_X6_readUnit rs z2_ x1) fun r5_ z3_ => if x4 = 42 then (Zgd (InL (x2 * r5_)) (X6_readTerm_b84 rs k8 z3_ x1 x3 (x2 * r5_))) else (Yb (F_X6_divided z3_ x2 r5_) fun r9_ z7_ => X6_readTerm_b84 rs k8 z7_ x1 x3 r9_))
noncomputable def X6_readTerm_b41 (rs : ZI → Int → Option (Int × ZI)) (z : ZI) (x2 : Int) : Option (Int × ZI) :=
  X6_readTerm_b94 rs z x2
noncomputable def X6_readTerm_L8b (rs : ZI → Int → Option (Int × ZI)) (k8 : ZI → Int → Int → Int → Option (Int × ZI)) (z : ZI) (x1 : Int) (x2 : Int) (x3 : Int) : Option (Int × ZI) :=
  if 60 ≤ x3 then (X6_readTerm_b94 rs z x2) else (Yb (F_X6_sound z) fun r4_ z2_ => if r4_ = 0 then (X6_readTerm_b94 rs z2_ x2) else (Yb (F_X6_next z2_) fun r8_ z6_ => if r8_ = 42 then (X6_readTerm_b44 rs k8 z6_ x1 x2 x3 r8_) else (if r8_ = 47 then (X6_readTerm_b44 rs k8 z6_ x1 x2 x3 r8_) else (X6_readTerm_b41 rs z6_ x2))))
noncomputable def X6_readTerm_L8 (rs : ZI → Int → Option (Int × ZI)) : Nat → ZI → Int → Int → Int → Option (Int × ZI)
  | 0, _, _, _, _ => none
  | n + 1, z, x1, x2, x3 => X6_readTerm_L8b rs (X6_readTerm_L8 rs n) z x1 x2 x3
noncomputable def F_X6_readTerm (rs : ZI → Int → Option (Int × ZI)) (z : ZI) (x1 : Int) : Option (Int × ZI) :=
  Yb (F_X6_readUnit rs z x1) fun r3_ z1_ => X6_readTerm_L8 rs Zfuel z1_ x1 r3_ 0
noncomputable def X6_readSum_b92 (rs : ZI → Int → Option (Int × ZI)) (z : ZI) (x2 : Int) : Option (Int × ZI) :=
  some (x2, z)
noncomputable def X6_readSum_b82 (rs : ZI → Int → Option (Int × ZI)) (k8 : ZI → Int → Int → Int → Option (Int × ZI)) (z : ZI) (x1 : Int) (x3 : Int) (y0 : Int) : Option (Int × ZI) :=
  Yb (F_X6_held z y0) fun r3_ z1_ => Zgd (InR (x3 + 1)) (k8 z1_ x1 r3_ (x3 + 1))
noncomputable def X6_readSum_b44 (rs : ZI → Int → Option (Int × ZI)) (k8 : ZI → Int → Int → Int → Option (Int × ZI)) (z : ZI) (x1 : Int) (x2 : Int) (x3 : Int) (x4 : Int) : Option (Int × ZI) :=
  Zgd (InR ((z 30 3) + 1)) (Zl (Zup z 30 3 ((z 30 3) + 1)) fun z2_ => Yb (F_X6_readTerm rs z2_ x1) fun r5_ z3_ => if x4 = 43 then (Zgd (InL (x2 + r5_)) (X6_readSum_b82 rs k8 z3_ x1 x3 (x2 + r5_))) else (Zgd (InL (x2 - r5_)) (X6_readSum_b82 rs k8 z3_ x1 x3 (x2 - r5_))))
noncomputable def X6_readSum_b41 (rs : ZI → Int → Option (Int × ZI)) (z : ZI) (x2 : Int) : Option (Int × ZI) :=
  X6_readSum_b92 rs z x2
noncomputable def X6_readSum_L8b (rs : ZI → Int → Option (Int × ZI)) (k8 : ZI → Int → Int → Int → Option (Int × ZI)) (z : ZI) (x1 : Int) (x2 : Int) (x3 : Int) : Option (Int × ZI) :=
  if 60 ≤ x3 then (X6_readSum_b92 rs z x2) else (Yb (F_X6_sound z) fun r4_ z2_ => if r4_ = 0 then (X6_readSum_b92 rs z2_ x2) else (Yb (F_X6_next z2_) fun r8_ z6_ => if r8_ = 43 then (X6_readSum_b44 rs k8 z6_ x1 x2 x3 r8_) else (if r8_ = 45 then (X6_readSum_b44 rs k8 z6_ x1 x2 x3 r8_) else (X6_readSum_b41 rs z6_ x2))))
noncomputable def X6_readSum_L8 (rs : ZI → Int → Option (Int × ZI)) : Nat → ZI → Int → Int → Int → Option (Int × ZI)
  | 0, _, _, _, _ => none
  | n + 1, z, x1, x2, x3 => X6_readSum_L8b rs (X6_readSum_L8 rs n) z x1 x2 x3
noncomputable def F_X6_readSum (rs : ZI → Int → Option (Int × ZI)) (z : ZI) (x1 : Int) : Option (Int × ZI) :=
  Yb (F_X6_readTerm rs z x1) fun r3_ z1_ => X6_readSum_L8 rs Zfuel z1_ x1 r3_ 0
/-- readSum, so many brackets deep at the most -/
noncomputable def Zrs : Nat → ZI → Int → Option (Int × ZI)
  | 0, _, _ => none
  | n + 1, z, x => F_X6_readSum (Zrs n) z x
noncomputable def F_X0_close (z : ZI) (x1 : Int) (x2 : Int) : Option (Unit × ZI) :=
  Zgd (IJ x1 40) (Zl (Zup z 36 x1 x2) fun z2_ => some ((), z2_))
noncomputable def X0_has_b17 (z : ZI) (y0 : Int) : Option (Int × ZI) :=
  Zgd (y0 = 0 ∨ y0 = 1) (some (y0, z))
noncomputable def X0_has_b16 (z : ZI) : Option (Int × ZI) :=
  X0_has_b17 z 0
noncomputable def F_X0_has (z : ZI) (x1 : Int) : Option (Int × ZI) :=
  if x1 < 0 then (X0_has_b16 z ) else (if (z 33 0) ≤ x1 then (X0_has_b16 z ) else (X0_has_b17 z 1))
noncomputable def F_X0_houseOf (z : ZI) (x1 : Int) : Option (Int × ZI) :=
  Zgd (IJ x1 40) (some (z 34 x1, z))
noncomputable def X0_isEnded_b16 (z : ZI) (y0 : Int) : Option (Int × ZI) :=
  Zgd (y0 = 0 ∨ y0 = 1) (some (y0, z))
noncomputable def F_X0_isEnded (z : ZI) (x1 : Int) : Option (Int × ZI) :=
  Zgd (IJ x1 40) (if (z 36 x1) = (-9) then (X0_isEnded_b16 z 0) else (X0_isEnded_b16 z 1))
noncomputable def X0_isGoodOn_b36 (z : ZI) (y0 : Int) : Option (Int × ZI) :=
  Zgd (y0 = 0 ∨ y0 = 1) (some (y0, z))
noncomputable def X0_isGoodOn_b35 (z : ZI) : Option (Int × ZI) :=
  X0_isGoodOn_b36 z 0
noncomputable def X0_isGoodOn_b31 (z : ZI) : Option (Int × ZI) :=
  X0_isGoodOn_b36 z 1
noncomputable def F_X0_isGoodOn (z : ZI) (x1 : Int) (x2 : Int) : Option (Int × ZI) :=
  Zgd (IJ x1 40) (if x2 < (z 35 x1) then (X0_isGoodOn_b35 z ) else (Zgd (IJ x1 40) (if (z 36 x1) = (-9) then (X0_isGoodOn_b31 z ) else (Zgd (IJ x1 40) (if (z 36 x1) ≤ x2 then (X0_isGoodOn_b35 z ) else (X0_isGoodOn_b31 z ))))))
noncomputable def F_X0_madeOn (z : ZI) (x1 : Int) : Option (Int × ZI) :=
  Zgd (IJ x1 40) (some (z 35 x1, z))
noncomputable def F_X0_make (z : ZI) (x1 : Int) (x2 : Int) : Option (Int × ZI) :=
  Zgd (IJ (z 33 0) 40) (Zl (Zup z 34 (z 33 0) x1) fun z2_ => Zgd (IJ (z2_ 33 0) 40) (Zl (Zup z2_ 35 (z2_ 33 0) x2) fun z4_ => Zgd (IJ (z4_ 33 0) 40) (Zl (Zup z4_ 36 (z4_ 33 0) (-9)) fun z6_ => Zgd (InR ((z6_ 33 0) + 1)) (Zl (Zup z6_ 33 0 ((z6_ 33 0) + 1)) fun z8_ => some (z6_ 33 0, z8_)))))
noncomputable def X0_notEnded_b26 (k4 : ZI → Int → Int → Option (Int × ZI)) (z : ZI) (x1 : Int) (x2 : Int) : Option (Int × ZI) :=
  Zgd (InR (x2 + 1)) (k4 z x1 (x2 + 1))
noncomputable def X0_notEnded_L4b (k4 : ZI → Int → Int → Option (Int × ZI)) (z : ZI) (x1 : Int) (x2 : Int) : Option (Int × ZI) :=
  if (z 33 0) ≤ x2 then (some (x1, z)) else (Zgd (IJ x2 40) (if (z 36 x2) = (-9) then (Zgd (InR (x1 + 1)) (X0_notEnded_b26 k4 z (x1 + 1) x2)) else (X0_notEnded_b26 k4 z x1 x2)))
noncomputable def X0_notEnded_L4 : Nat → ZI → Int → Int → Option (Int × ZI)
  | 0, _, _, _ => none
  | n + 1, z, x1, x2 => X0_notEnded_L4b (X0_notEnded_L4 n) z x1 x2
noncomputable def F_X0_notEnded (z : ZI) : Option (Int × ZI) :=
  X0_notEnded_L4 Zfuel z 0 0
noncomputable def X10_checkTwoCards_b27 (z : ZI) : Option (Int × ZI) :=
  some ((-1), z)
noncomputable def X10_checkTwoCards_b57 (z : ZI) (y0 : Int) : Option (Int × ZI) :=
  some (y0, z)
noncomputable def X10_checkTwoCards_b51 (z : ZI) : Option (Int × ZI) :=
  X10_checkTwoCards_b57 z (-3)
noncomputable def F_X10_checkTwoCards (z : ZI) (x1 : Int) (x2 : Int) : Option (Int × ZI) :=
  Yb (F_X0_has z x1) fun r3_ z1_ => if r3_ = 0 then (X10_checkTwoCards_b27 z1_ ) else (Yb (F_X0_has z1_ x2) fun r7_ z5_ => if r7_ = 0 then (X10_checkTwoCards_b27 z5_ ) else (if x1 = x2 then (X10_checkTwoCards_b27 z5_ ) else (Yb (F_X0_isEnded z5_ x1) fun r12_ z10_ => if r12_ = 0 then (Yb (F_X0_isEnded z10_ x2) fun r16_ z14_ => if r16_ = 0 then (X10_checkTwoCards_b57 z14_ 0) else (X10_checkTwoCards_b51 z14_ )) else (X10_checkTwoCards_b51 z10_ ))))
noncomputable def X10_refuse_b26 (z : ZI) (x1 : Int) : Option (Int × ZI) :=
  some (x1, z)
noncomputable def F_X10_refuse (z : ZI) (x1 : Int) : Option (Int × ZI) :=
  Zgd (InR (-x1)) (if (-x1) ≤ 0 then (X10_refuse_b26 z x1) else (if 7 ≤ (-x1) then (X10_refuse_b26 z x1) else (Zgd (IJ (-x1) 7) (Zgd (InR ((z 1 (-x1)) + 1)) (Zgd (IJ (-x1) 7) (Zl (Zup z 1 (-x1) ((z 1 (-x1)) + 1)) fun z7_ => X10_refuse_b26 z7_ x1))))))
noncomputable def X3_stateOn_b65 (z : ZI) : Option (Int × ZI) :=
  some (0, z)
noncomputable def X3_stateOn_L23b (k23 : ZI → Int → Int → Int → Option (Int × ZI)) (z : ZI) (x2 : Int) (x3 : Int) (x4 : Int) : Option (Int × ZI) :=
  if 150 ≤ x4 then (X3_stateOn_b65 z ) else (if x3 < 0 then (X3_stateOn_b65 z ) else (Zgd (IJ x3 150) (if x2 < (z 20 x3) then (Zgd (IJ x3 150) (Zgd (InR (x4 + 1)) (k23 z x2 (z 22 x3) (x4 + 1)))) else (Zgd (IJ x3 150) (some (z 21 x3, z))))))
noncomputable def X3_stateOn_L23 : Nat → ZI → Int → Int → Int → Option (Int × ZI)
  | 0, _, _, _, _ => none
  | n + 1, z, x2, x3, x4 => X3_stateOn_L23b (X3_stateOn_L23 n) z x2 x3 x4
noncomputable def F_X3_stateOn (z : ZI) (x1 : Int) (x2 : Int) : Option (Int × ZI) :=
  Zgd (IJ x1 60) (if (z 18 x1) ≤ x2 then (Zgd (IJ x1 60) (X3_stateOn_L23 Zfuel z x2 (z 19 x1) 0)) else (some ((-9), z)))
noncomputable def X3_isHere_b21 (z : ZI) (y0 : Int) : Option (Int × ZI) :=
  Zgd (y0 = 0 ∨ y0 = 1) (some (y0, z))
noncomputable def X3_isHere_b16 (z : ZI) : Option (Int × ZI) :=
  X3_isHere_b21 z 1
noncomputable def F_X3_isHere (z : ZI) (x1 : Int) (x2 : Int) : Option (Int × ZI) :=
  Yb (F_X3_stateOn z x1 x2) fun r3_ z1_ => if r3_ = 0 then (X3_isHere_b16 z1_ ) else (if r3_ = 2 then (X3_isHere_b16 z1_ ) else (X3_isHere_b21 z1_ 0))
noncomputable def X3_hereInHouse_b38 (k5 : ZI → Int → Int → Int → Int → Option (Int × ZI)) (z : ZI) (x1 : Int) (x2 : Int) (x3 : Int) (x4 : Int) : Option (Int × ZI) :=
  Zgd (InR (x4 + 1)) (k5 z x1 x2 x3 (x4 + 1))
noncomputable def X3_hereInHouse_L5b (k5 : ZI → Int → Int → Int → Int → Option (Int × ZI)) (z : ZI) (x1 : Int) (x2 : Int) (x3 : Int) (x4 : Int) : Option (Int × ZI) :=
  if (z 11 4) ≤ x4 then (some (x3, z)) else (Zgd (IJ x4 60) (if (z 15 x4) = x1 then (Yb (F_X3_isHere z x4 x2) fun r6_ z4_ => if r6_ = 0 then (X3_hereInHouse_b38 k5 z4_ x1 x2 x3 x4) else (Zgd (InR (x3 + 1)) (X3_hereInHouse_b38 k5 z4_ x1 x2 (x3 + 1) x4))) else (X3_hereInHouse_b38 k5 z x1 x2 x3 x4)))
noncomputable def X3_hereInHouse_L5 : Nat → ZI → Int → Int → Int → Int → Option (Int × ZI)
  | 0, _, _, _, _, _ => none
  | n + 1, z, x1, x2, x3, x4 => X3_hereInHouse_L5b (X3_hereInHouse_L5 n) z x1 x2 x3 x4
noncomputable def F_X3_hereInHouse (z : ZI) (x1 : Int) (x2 : Int) : Option (Int × ZI) :=
  X3_hereInHouse_L5 Zfuel z x1 x2 0 0
noncomputable def X3_matches_b40 (z : ZI) (y0 : Int) : Option (Int × ZI) :=
  Zgd (y0 = 0 ∨ y0 = 1) (some (y0, z))
noncomputable def X3_matches_b39 (z : ZI) : Option (Int × ZI) :=
  X3_matches_b40 z 0
noncomputable def F_X3_matches (z : ZI) (x1 : Int) (x2 : Int) : Option (Int × ZI) :=
  Zgd (IJ x1 60) (Zgd (IJ x2 60) (if (z 17 x1) = (z 17 x2) then (Zgd (IJ x1 60) (Zgd (IJ x2 60) (Zgd (InR ((z 16 x1) - (z 16 x2))) (Zgd (InR (-((z 16 x1) - (z 16 x2)))) (if 3 < (jabs ((z 16 x1) - (z 16 x2))) then (X3_matches_b39 z ) else (X3_matches_b40 z 1)))))) else (X3_matches_b39 z )))
noncomputable def X3_takeMatch_b75 (k3 : ZI → Int → Int → Int → Int → Option (Int × ZI)) (z : ZI) (x1 : Int) (x2 : Int) (x3 : Int) (x4 : Int) : Option (Int × ZI) :=
  Zgd (InR (x4 + 1)) (k3 z x1 x2 x3 (x4 + 1))
noncomputable def X3_takeMatch_b65 (z : ZI) (x4 : Int) : Option (Int × ZI) :=
  Zgd (IJ x4 60) (Zl (Zup z 23 x4 1) fun z2_ => some (1, z2_))
noncomputable def X3_takeMatch_b38 (k3 : ZI → Int → Int → Int → Int → Option (Int × ZI)) (z : ZI) (x1 : Int) (x2 : Int) (x3 : Int) (x4 : Int) (y0 : Int) : Option (Int × ZI) :=
  if y0 = 0 then (X3_takeMatch_b75 k3 z x1 x2 x3 x4) else (Yb (F_X3_matches z x1 x4) fun r4_ z2_ => if r4_ = 0 then (X3_takeMatch_b75 k3 z2_ x1 x2 x3 x4) else (Yb (F_X3_isHere z2_ x4 x3) fun r8_ z6_ => if r8_ = 0 then (X3_takeMatch_b75 k3 z6_ x1 x2 x3 x4) else (X3_takeMatch_b65 z6_ x4)))
noncomputable def X3_takeMatch_b37 (k3 : ZI → Int → Int → Int → Int → Option (Int × ZI)) (z : ZI) (x1 : Int) (x2 : Int) (x3 : Int) (x4 : Int) : Option (Int × ZI) :=
  X3_takeMatch_b38 k3 z x1 x2 x3 x4 0
noncomputable def X3_takeMatch_L3b (k3 : ZI → Int → Int → Int → Int → Option (Int × ZI)) (z : ZI) (x1 : Int) (x2 : Int) (x3 : Int) (x4 : Int) : Option (Int × ZI) :=
  if (z 11 4) ≤ x4 then (some (0, z)) else (Zgd (IJ x4 60) (if (z 15 x4) = x2 then (Zgd (IJ x4 60) (if (z 23 x4) = 0 then (X3_takeMatch_b38 k3 z x1 x2 x3 x4 1) else (X3_takeMatch_b37 k3 z x1 x2 x3 x4))) else (X3_takeMatch_b37 k3 z x1 x2 x3 x4)))
noncomputable def X3_takeMatch_L3 : Nat → ZI → Int → Int → Int → Int → Option (Int × ZI)
  | 0, _, _, _, _, _ => none
  | n + 1, z, x1, x2, x3, x4 => X3_takeMatch_L3b (X3_takeMatch_L3 n) z x1 x2 x3 x4
noncomputable def F_X3_takeMatch (z : ZI) (x1 : Int) (x2 : Int) (x3 : Int) : Option (Int × ZI) :=
  X3_takeMatch_L3 Zfuel z x1 x2 x3 0
noncomputable def X3_pairUp_b76 (k32 : ZI → Int → Int → Int → Int → Int → Option (Int × ZI)) (z : ZI) (x1 : Int) (x2 : Int) (x3 : Int) (x4 : Int) (x5 : Int) : Option (Int × ZI) :=
  Zgd (InR (x5 + 1)) (k32 z x1 x2 x3 x4 (x5 + 1))
noncomputable def X3_pairUp_L32b (k32 : ZI → Int → Int → Int → Int → Int → Option (Int × ZI)) (z : ZI) (x1 : Int) (x2 : Int) (x3 : Int) (x4 : Int) (x5 : Int) : Option (Int × ZI) :=
  if (z 11 4) ≤ x5 then (some (x4, z)) else (Zgd (IJ x5 60) (if (z 15 x5) = x1 then (Yb (F_X3_isHere z x5 x3) fun r6_ z4_ => if r6_ = 0 then (X3_pairUp_b76 k32 z4_ x1 x2 x3 x4 x5) else (Yb (F_X3_takeMatch z4_ x5 x2 x3) fun r10_ z8_ => if r10_ = 0 then (X3_pairUp_b76 k32 z8_ x1 x2 x3 x4 x5) else (Zgd (InR (x4 + 1)) (X3_pairUp_b76 k32 z8_ x1 x2 x3 (x4 + 1) x5)))) else (X3_pairUp_b76 k32 z x1 x2 x3 x4 x5)))
noncomputable def X3_pairUp_L32 : Nat → ZI → Int → Int → Int → Int → Int → Option (Int × ZI)
  | 0, _, _, _, _, _, _ => none
  | n + 1, z, x1, x2, x3, x4, x5 => X3_pairUp_L32b (X3_pairUp_L32 n) z x1 x2 x3 x4 x5
noncomputable def X3_pairUp_b26 (z : ZI) (x1 : Int) (x2 : Int) (x3 : Int) : Option (Int × ZI) :=
  X3_pairUp_L32 Zfuel z x1 x2 x3 0 0
noncomputable def X3_pairUp_L3b (k3 : ZI → Int → Int → Int → Int → Option (Int × ZI)) (z : ZI) (x1 : Int) (x2 : Int) (x3 : Int) (x4 : Int) : Option (Int × ZI) :=
  if (z 11 4) ≤ x4 then (X3_pairUp_b26 z x1 x2 x3) else (Zgd (IJ x4 60) (Zl (Zup z 23 x4 0) fun z3_ => Zgd (InR (x4 + 1)) (k3 z3_ x1 x2 x3 (x4 + 1))))
noncomputable def X3_pairUp_L3 : Nat → ZI → Int → Int → Int → Int → Option (Int × ZI)
  | 0, _, _, _, _, _ => none
  | n + 1, z, x1, x2, x3, x4 => X3_pairUp_L3b (X3_pairUp_L3 n) z x1 x2 x3 x4
noncomputable def F_X3_pairUp (z : ZI) (x1 : Int) (x2 : Int) (x3 : Int) : Option (Int × ZI) :=
  X3_pairUp_L3 Zfuel z x1 x2 x3 0
noncomputable def F_X4_apart (z : ZI) (x0 : Int) (x1 : Int) : Option (Int × ZI) :=
  Zgd (InR ((x0.tmod 12) - (x1.tmod 12))) (Zgd (InR (-((x0.tmod 12) - (x1.tmod 12)))) (Zgd (InR ((x0.tdiv 12) - (x1.tdiv 12))) (Zgd (InR (-((x0.tdiv 12) - (x1.tdiv 12)))) (Zgd (InR ((jabs ((x0.tmod 12) - (x1.tmod 12))) + (jabs ((x0.tdiv 12) - (x1.tdiv 12))))) (some ((jabs ((x0.tmod 12) - (x1.tmod 12))) + (jabs ((x0.tdiv 12) - (x1.tdiv 12))), z))))))
noncomputable def X3_likeness_b89 (z : ZI) (y0 : Int) : Option (Int × ZI) :=
  some (y0, z)
noncomputable def X3_likeness_b79 (z : ZI) (x4 : Int) : Option (Int × ZI) :=
  if x4 ≤ 0 then (X3_likeness_b89 z 0) else (X3_likeness_b89 z 1)
noncomputable def X3_likeness_b57 (z : ZI) (x4 : Int) (x5 : Int) (y0 : Int) : Option (Int × ZI) :=
  if x4 < 2 then (X3_likeness_b79 z x4) else (if x4 = x5 then (if y0 = 0 then (X3_likeness_b79 z x4) else (some (2, z))) else (X3_likeness_b79 z x4))
noncomputable def F_X3_likeness (z : ZI) (x1 : Int) (x2 : Int) (x3 : Int) : Option (Int × ZI) :=
  if x1 = x2 then (some (2, z)) else (Yb (F_X3_pairUp z x1 x2 x3) fun r4_ z2_ => Yb (F_X3_hereInHouse z2_ x1 x3) fun r7_ z5_ => Yb (F_X3_hereInHouse z5_ x2 x3) fun r10_ z8_ => Zgd (IJ x1 30) (Zgd (IJ x2 30) (Yb (F_X4_apart z8_ (z8_ 12 x1) (z8_ 12 x2)) fun r15_ z13_ => if 3 < r15_ then (X3_likeness_b57 z13_ r4_ (min r7_ r10_) 0) else (X3_likeness_b57 z13_ r4_ (min r7_ r10_) 1))))
noncomputable def F_X10_alike (z : ZI) (x1 : Int) (x2 : Int) : Option (Int × ZI) :=
  Yb (F_X10_checkTwoCards z x1 x2) fun r3_ z1_ => if r3_ = 0 then (Yb (F_X0_houseOf z1_ x1) fun r7_ z5_ => Yb (F_X0_houseOf z5_ x2) fun r10_ z8_ => Yb (F_X3_likeness z8_ r7_ r10_ (z8_ 0 0)) fun r13_ z11_ => some (r13_, z11_)) else (Yb (F_X10_refuse z1_ r3_) fun r16_ z14_ => some (r16_, z14_))
noncomputable def F_X9_shiftOf (z : ZI) (x0 : Int) : Option (Int × ZI) :=
  Zgd (InR (3 - x0)) (Zgd (InR (3 * (3 - x0))) (some (3 * (3 - x0), z)))
noncomputable def F_X9_beginIn (z : ZI) (x0 : Int) (x1 : Int) : Option (Int × ZI) :=
  Yb (F_X9_shiftOf z x1) fun r3_ z1_ => Zgd (InR (6 + (jand (jshr x0 r3_) 7))) (some (6 + (jand (jshr x0 r3_) 7), z1_))
noncomputable def F_X9_bestBegin (z : ZI) (x1 : Int) : Option (Int × ZI) :=
  Yb (F_X9_beginIn z (z 41 15) x1) fun r3_ z1_ => some (r3_, z1_)
noncomputable def X9_bestSum_b29 (z : ZI) (y0 : Int) : Option (Int × ZI) :=
  some (y0, z)
noncomputable def F_X9_bestSum (z : ZI) : Option (Int × ZI) :=
  Zgd (0 ≤ z 200 52) (if (z 200 52) ≤ (z 41 15) then (X9_bestSum_b29 z 0) else (Zgd (IJ (z 41 15) (z 200 52)) (X9_bestSum_b29 z ((z 52 (z 41 15)).tmod 1000))))
noncomputable def X9_bestUnserved_b29 (z : ZI) (y0 : Int) : Option (Int × ZI) :=
  some (y0, z)
noncomputable def F_X9_bestUnserved (z : ZI) : Option (Int × ZI) :=
  Zgd (0 ≤ z 200 52) (if (z 200 52) ≤ (z 41 15) then (X9_bestUnserved_b29 z 0) else (Zgd (IJ (z 41 15) (z 200 52)) (X9_bestUnserved_b29 z ((z 52 (z 41 15)).tdiv 1000))))
noncomputable def J7_fill_53178_L5b (a0 n0 : Nat) (k5 : ZI → Int → Int → Int → Option (Unit × ZI)) (z : ZI) (x1 : Int) (x2 : Int) (x3 : Int) : Option (Unit × ZI) :=
  if x3 ≤ x2 then (some ((), z)) else (Zgd (IJ x2 (n0 : Int)) (Zl (Zup z a0 x2 x1) fun z3_ => Zgd (InR (x2 + 1)) (k5 z3_ x1 (x2 + 1) x3)))
noncomputable def J7_fill_53178_L5 (a0 n0 : Nat) : Nat → ZI → Int → Int → Int → Option (Unit × ZI)
  | 0, _, _, _, _ => none
  | n + 1, z, x1, x2, x3 => J7_fill_53178_L5b a0 n0 (J7_fill_53178_L5 a0 n0 n) z x1 x2 x3
noncomputable def F_J7_fill_53178 (a0 n0 : Nat) (z : ZI) (x1 : Int) : Option (Unit × ZI) :=
  J7_fill_53178_L5 a0 n0 Zfuel z x1 0 (n0 : Int)
noncomputable def J7_fill_531784_L5b (a0 n0 : Nat) (k5 : ZI → Int → Int → Int → Option (Unit × ZI)) (z : ZI) (x1 : Int) (x2 : Int) (x3 : Int) : Option (Unit × ZI) :=
  if x3 ≤ x2 then (some ((), z)) else (Zgd (IJ x2 (z 200 a0)) (Zl (Zup z a0 x2 x1) fun z3_ => Zgd (InR (x2 + 1)) (k5 z3_ x1 (x2 + 1) x3)))
noncomputable def J7_fill_531784_L5 (a0 n0 : Nat) : Nat → ZI → Int → Int → Int → Option (Unit × ZI)
  | 0, _, _, _, _ => none
  | n + 1, z, x1, x2, x3 => J7_fill_531784_L5b a0 n0 (J7_fill_531784_L5 a0 n0 n) z x1 x2 x3
noncomputable def F_J7_fill_531784 (a0 n0 : Nat) (z : ZI) (x1 : Int) : Option (Unit × ZI) :=
  Zgd (0 ≤ z 200 a0) (J7_fill_531784_L5 a0 n0 Zfuel z x1 0 (z 200 a0))
noncomputable def X9_earliest_b30 (a0 n0 : Nat) (z : ZI) (x1 : Int) : Option (Int × ZI) :=
  some (x1, z)
noncomputable def X9_earliest_L5b (a0 n0 : Nat) (k5 : ZI → Int → Int → Option (Int × ZI)) (z : ZI) (x1 : Int) (x2 : Int) : Option (Int × ZI) :=
  if 4 ≤ x2 then (X9_earliest_b30 a0 n0 z x1) else (if (n0 : Int) ≤ x2 then (X9_earliest_b30 a0 n0 z x1) else (Zgd (IJ x2 (n0 : Int)) (Zgd (InR (x2 + 1)) (k5 z (min x1 (z a0 x2)) (x2 + 1)))))
noncomputable def X9_earliest_L5 (a0 n0 : Nat) : Nat → ZI → Int → Int → Option (Int × ZI)
  | 0, _, _, _ => none
  | n + 1, z, x1, x2 => X9_earliest_L5b a0 n0 (X9_earliest_L5 a0 n0 n) z x1 x2
noncomputable def F_X9_earliest (a0 n0 : Nat) (z : ZI) : Option (Int × ZI) :=
  X9_earliest_L5 a0 n0 Zfuel z 24 0
noncomputable def X9_spendHour_b101 (a3 n3 : Nat) (z : ZI) (x2 : Int) (x4 : Int) : Option (Int × ZI) :=
  Zgd (InR (x2 - x4)) (some (x2 - x4, z))
noncomputable def X9_spendHour_b95 (a3 n3 : Nat) (k6 : ZI → Int → Int → Int → Int → Option (Int × ZI)) (z : ZI) (x1 : Int) (x2 : Int) (x4 : Int) (x5 : Int) : Option (Int × ZI) :=
  Zgd (InR (x5 + 1)) (k6 z x1 x2 x4 (x5 + 1))
noncomputable def X9_spendHour_b84 (a3 n3 : Nat) (z : ZI) (x2 : Int) (x4 : Int) : Option (Int × ZI) :=
  X9_spendHour_b101 a3 n3 z x2 x4
noncomputable def X9_spendHour_L6b (a3 n3 : Nat) (k6 : ZI → Int → Int → Int → Int → Option (Int × ZI)) (z : ZI) (x1 : Int) (x2 : Int) (x4 : Int) (x5 : Int) : Option (Int × ZI) :=
  if (z 41 5) ≤ x5 then (X9_spendHour_b101 a3 n3 z x2 x4) else (Zgd (IJ x5 30) (if (z 49 x5) = 0 then (X9_spendHour_b95 a3 n3 k6 z x1 x2 x4 x5) else (Zgd (IJ x5 30) (Zgd (IJ (z 47 x5) (n3 : Int)) (if (z a3 (z 47 x5)) ≤ x1 then (Zgd (IJ x5 30) (Zgd (IJ x5 30) (Zgd (InR ((z 49 x5) - (min (z 49 x5) x4))) (Zgd (IJ x5 30) (Zl (Zup z 49 x5 ((z 49 x5) - (min (z 49 x5) x4))) fun z11_ => Zgd (InR (x4 - (min (z 49 x5) x4))) (Zgd (IJ x5 30) (if (z11_ 49 x5) ≤ 0 then (Zgd (IJ x5 30) (Zl (Zup z11_ 50 x5 x1) fun z16_ => X9_spendHour_b95 a3 n3 k6 z16_ x1 x2 (x4 - (min (z 49 x5) x4)) x5)) else (X9_spendHour_b84 a3 n3 z11_ x2 (x4 - (min (z 49 x5) x4)))))))))) else (X9_spendHour_b95 a3 n3 k6 z x1 x2 x4 x5))))))
noncomputable def X9_spendHour_L6 (a3 n3 : Nat) : Nat → ZI → Int → Int → Int → Int → Option (Int × ZI)
  | 0, _, _, _, _, _ => none
  | n + 1, z, x1, x2, x4, x5 => X9_spendHour_L6b a3 n3 (X9_spendHour_L6 a3 n3 n) z x1 x2 x4 x5
noncomputable def F_X9_spendHour (a3 n3 : Nat) (z : ZI) (x1 : Int) (x2 : Int) : Option (Int × ZI) :=
  X9_spendHour_L6 a3 n3 Zfuel z x1 x2 x2 0
noncomputable def X9_spendDay_b121 (a2 n2 : Nat) (z : ZI) : Option (Unit × ZI) :=
  some ((), z)
noncomputable def X9_spendDay_L67b (a2 n2 : Nat) (k67 : ZI → Int → Int → Int → Int → Option (Unit × ZI)) (z : ZI) (x1 : Int) (x3 : Int) (x4 : Int) (x5 : Int) : Option (Unit × ZI) :=
  if 24 ≤ x5 then (X9_spendDay_b121 a2 n2 z ) else (if x4 ≤ 0 then (X9_spendDay_b121 a2 n2 z ) else (if x3 ≤ 0 then (X9_spendDay_b121 a2 n2 z ) else (Zgd (IJ x1 6) (Yb (F_X9_spendHour a2 n2 z x5 (min x4 (z 43 x1))) fun r7_ z5_ => Zgd (InR (x4 - r7_)) (Zgd (InR (x3 - r7_)) (Zgd (InR (x5 + 1)) (k67 z5_ x1 (x3 - r7_) (x4 - r7_) (x5 + 1))))))))
noncomputable def X9_spendDay_L67 (a2 n2 : Nat) : Nat → ZI → Int → Int → Int → Int → Option (Unit × ZI)
  | 0, _, _, _, _, _ => none
  | n + 1, z, x1, x3, x4, x5 => X9_spendDay_L67b a2 n2 (X9_spendDay_L67 a2 n2 n) z x1 x3 x4 x5
noncomputable def X9_spendDay_b53 (a2 n2 : Nat) (z : ZI) (x1 : Int) (x3 : Int) : Option (Unit × ZI) :=
  Zgd (IJ x1 6) (Yb (F_X9_earliest a2 n2 z) fun r4_ z2_ => X9_spendDay_L67 a2 n2 Zfuel z2_ x1 x3 (z 44 x1) r4_)
noncomputable def X9_spendDay_L5b (a2 n2 : Nat) (k5 : ZI → Int → Int → Int → Option (Unit × ZI)) (z : ZI) (x1 : Int) (x3 : Int) (x4 : Int) : Option (Unit × ZI) :=
  if (z 41 5) ≤ x4 then (X9_spendDay_b53 a2 n2 z x1 x3) else (Zgd (IJ x4 30) (Zgd (IJ x4 30) (Zl (Zup z 49 x4 (z 48 x4)) fun z4_ => Zgd (IJ x4 30) (Zl (Zup z4_ 50 x4 (-9)) fun z6_ => Zgd (IJ x4 30) (Zgd (InR (x3 + (z6_ 48 x4))) (Zgd (InR (x4 + 1)) (k5 z6_ x1 (x3 + (z6_ 48 x4)) (x4 + 1))))))))
noncomputable def X9_spendDay_L5 (a2 n2 : Nat) : Nat → ZI → Int → Int → Int → Option (Unit × ZI)
  | 0, _, _, _, _ => none
  | n + 1, z, x1, x3, x4 => X9_spendDay_L5b a2 n2 (X9_spendDay_L5 a2 n2 n) z x1 x3 x4
noncomputable def F_X9_spendDay (a2 n2 : Nat) (z : ZI) (x1 : Int) : Option (Unit × ZI) :=
  X9_spendDay_L5 a2 n2 Zfuel z x1 0 0
noncomputable def X9_lineCost_b73 (k38 : ZI → Int → Int → Option (Int × ZI)) (z : ZI) (x4 : Int) (y0 : Int) (y1 : Int) : Option (Int × ZI) :=
  Zgd (InR (y0 + y1)) (Zgd (InR (x4 + 1)) (k38 z (y0 + y1) (x4 + 1)))
noncomputable def X9_lineCost_L38b (k38 : ZI → Int → Int → Option (Int × ZI)) (z : ZI) (x3 : Int) (x4 : Int) : Option (Int × ZI) :=
  if (z 41 5) ≤ x4 then (some (x3, z)) else (Zgd (IJ x4 30) (if (z 50 x4) = (-9) then (X9_lineCost_b73 k38 z x4 x3 1000) else (Zgd (IJ x4 30) (X9_lineCost_b73 k38 z x4 x3 (z 50 x4)))))
noncomputable def X9_lineCost_L38 : Nat → ZI → Int → Int → Option (Int × ZI)
  | 0, _, _, _ => none
  | n + 1, z, x3, x4 => X9_lineCost_L38b (X9_lineCost_L38 n) z x3 x4
noncomputable def X9_lineCost_b24 (z : ZI) (x1 : Int) : Option (Int × ZI) :=
  Yb (F_X9_spendDay 51 4 z x1) fun _ z1_ => X9_lineCost_L38 Zfuel z1_ 0 0
noncomputable def X9_lineCost_L2b (k2 : ZI → Int → Int → Int → Option (Int × ZI)) (z : ZI) (x1 : Int) (x2 : Int) (x3 : Int) : Option (Int × ZI) :=
  if 4 ≤ x3 then (X9_lineCost_b24 z x1) else (Yb (F_X9_beginIn z x2 x3) fun r4_ z2_ => Zgd (IJ x3 4) (Zl (Zup z2_ 51 x3 r4_) fun z6_ => Zgd (InR (x3 + 1)) (k2 z6_ x1 x2 (x3 + 1))))
noncomputable def X9_lineCost_L2 : Nat → ZI → Int → Int → Int → Option (Int × ZI)
  | 0, _, _, _, _ => none
  | n + 1, z, x1, x2, x3 => X9_lineCost_L2b (X9_lineCost_L2 n) z x1 x2 x3
noncomputable def F_X9_lineCost (z : ZI) (x1 : Int) (x2 : Int) : Option (Int × ZI) :=
  X9_lineCost_L2 Zfuel z x1 x2 0
noncomputable def X9_addLine_b71 (k35 : ZI → Int → Int → Int → Option (Unit × ZI)) (z : ZI) (x1 : Int) (x2 : Int) (x3 : Int) (y1 : Int) (y2 : Int) : Option (Unit × ZI) :=
  Zgd (IJ y1 (z 200 53)) (Zl (Zup z 53 y1 y2) fun z2_ => Zgd (IJ x3 (z2_ 200 52)) (Zgd (IJ x3 (z2_ 200 53)) (Zgd (InR ((z2_ 52 x3) + (z2_ 53 x3))) (Zgd (IJ x3 (z2_ 200 52)) (Zl (Zup z2_ 52 x3 ((z2_ 52 x3) + (z2_ 53 x3))) fun z7_ => Zgd (InR (x3 + 1)) (k35 z7_ x1 x2 (x3 + 1)))))))
noncomputable def X9_addLine_L35b (k35 : ZI → Int → Int → Int → Option (Unit × ZI)) (z : ZI) (x1 : Int) (x2 : Int) (x3 : Int) : Option (Unit × ZI) :=
  if 4096 ≤ x3 then (some ((), z)) else (if (jand x3 x2) = x3 then (Yb (F_X9_lineCost z x1 x3) fun r6_ z4_ => X9_addLine_b71 k35 z4_ x1 x2 x3 x3 r6_) else (Zgd (IJ (jand x3 x2) (z 200 53)) (X9_addLine_b71 k35 z x1 x2 x3 x3 (z 53 (jand x3 x2)))))
noncomputable def X9_addLine_L35 : Nat → ZI → Int → Int → Int → Option (Unit × ZI)
  | 0, _, _, _, _ => none
  | n + 1, z, x1, x2, x3 => X9_addLine_L35b (X9_addLine_L35 n) z x1 x2 x3
noncomputable def X9_addLine_b33 (z : ZI) (x1 : Int) (x2 : Int) : Option (Unit × ZI) :=
  X9_addLine_L35 Zfuel z x1 x2 0
noncomputable def X9_addLine_L4b (k4 : ZI → Int → Int → Int → Option (Unit × ZI)) (z : ZI) (x1 : Int) (x2 : Int) (x3 : Int) : Option (Unit × ZI) :=
  if (z 41 5) ≤ x3 then (X9_addLine_b33 z x1 x2) else (Zgd (IJ x3 30) (Yb (F_X9_shiftOf z (z 47 x3)) fun r5_ z3_ => Zgd (InR (x3 + 1)) (k4 z3_ x1 (jor x2 (jshl 7 r5_)) (x3 + 1))))
noncomputable def X9_addLine_L4 : Nat → ZI → Int → Int → Int → Option (Unit × ZI)
  | 0, _, _, _, _ => none
  | n + 1, z, x1, x2, x3 => X9_addLine_L4b (X9_addLine_L4 n) z x1 x2 x3
noncomputable def F_X9_addLine (z : ZI) (x1 : Int) : Option (Unit × ZI) :=
  X9_addLine_L4 Zfuel z x1 0 0
noncomputable def F_X3_blockOf (z : ZI) (x1 : Int) : Option (Int × ZI) :=
  Zgd (IJ x1 30) (some (z 13 x1, z))
noncomputable def X9_addThoseWithoutLine_b93 (k2 : ZI → Int → Int → Option (Unit × ZI)) (z : ZI) (x2 : Int) (x3 : Int) : Option (Unit × ZI) :=
  Zgd (InR (x3 + 1)) (k2 z x2 (x3 + 1))
noncomputable def X9_addThoseWithoutLine_b85 (k2 : ZI → Int → Int → Option (Unit × ZI)) (k51 : ZI → Int → Int → Int → Int → Int → Option (Unit × ZI)) (z : ZI) (x2 : Int) (x3 : Int) (x4 : Int) (x5 : Int) (x6 : Int) (y1 : Int) (y2 : Int) (y3 : Int) : Option (Unit × ZI) :=
  Zgd (InR (y2 + y3)) (Zgd (IJ y1 (z 200 52)) (Zl (Zup z 52 y1 (y2 + y3)) fun z3_ => Zgd (InR (x6 + 1)) (k51 z3_ x2 x3 x4 x5 (x6 + 1))))
noncomputable def X9_addThoseWithoutLine_L51b (k2 : ZI → Int → Int → Option (Unit × ZI)) (k51 : ZI → Int → Int → Int → Int → Int → Option (Unit × ZI)) (z : ZI) (x2 : Int) (x3 : Int) (x4 : Int) (x5 : Int) (x6 : Int) : Option (Unit × ZI) :=
  if 4096 ≤ x6 then (X9_addThoseWithoutLine_b93 k2 z x2 x3) else (Zgd (IJ x6 (z 200 52)) (if x4 = 0 then (Yb (F_X9_beginIn z x6 x5) fun r6_ z4_ => X9_addThoseWithoutLine_b85 k2 k51 z4_ x2 x3 x4 x5 x6 x6 (z 52 x6) r6_) else (X9_addThoseWithoutLine_b85 k2 k51 z x2 x3 x4 x5 x6 x6 (z 52 x6) 1000)))
noncomputable def X9_addThoseWithoutLine_L51 (k2 : ZI → Int → Int → Option (Unit × ZI)) : Nat → ZI → Int → Int → Int → Int → Int → Option (Unit × ZI)
  | 0, _, _, _, _, _, _ => none
  | n + 1, z, x2, x3, x4, x5, x6 => X9_addThoseWithoutLine_L51b k2 (X9_addThoseWithoutLine_L51 k2 n) z x2 x3 x4 x5 x6
noncomputable def X9_addThoseWithoutLine_b41 (k2 : ZI → Int → Int → Option (Unit × ZI)) (z : ZI) (x2 : Int) (x3 : Int) (x4 : Int) : Option (Unit × ZI) :=
  Yb (F_X3_blockOf z x3) fun r3_ z1_ => X9_addThoseWithoutLine_L51 k2 Zfuel z1_ x2 x3 x4 r3_ 0
noncomputable def X9_addThoseWithoutLine_b24 (k2 : ZI → Int → Int → Option (Unit × ZI)) (z : ZI) (x2 : Int) (x3 : Int) (y0 : Int) : Option (Unit × ZI) :=
  if y0 = 0 then (X9_addThoseWithoutLine_b41 k2 z x2 x3 y0) else (if (z 41 0) ≤ 0 then (X9_addThoseWithoutLine_b41 k2 z x2 x3 y0) else (X9_addThoseWithoutLine_b93 k2 z x2 x3))
noncomputable def X9_addThoseWithoutLine_L2b (k2 : ZI → Int → Int → Option (Unit × ZI)) (z : ZI) (x2 : Int) (x3 : Int) : Option (Unit × ZI) :=
  if (z 11 0) ≤ x3 then (some ((), z)) else (Yb (F_X3_hereInHouse z x3 x2) fun r4_ z2_ => if r4_ ≤ 0 then (X9_addThoseWithoutLine_b24 k2 z2_ x2 x3 0) else (X9_addThoseWithoutLine_b24 k2 z2_ x2 x3 1))
noncomputable def X9_addThoseWithoutLine_L2 : Nat → ZI → Int → Int → Option (Unit × ZI)
  | 0, _, _, _ => none
  | n + 1, z, x2, x3 => X9_addThoseWithoutLine_L2b (X9_addThoseWithoutLine_L2 n) z x2 x3
noncomputable def F_X9_addThoseWithoutLine (z : ZI) (x2 : Int) : Option (Unit × ZI) :=
  X9_addThoseWithoutLine_L2 Zfuel z x2 0
noncomputable def F_X3_cellOf (z : ZI) (x1 : Int) : Option (Int × ZI) :=
  Zgd (IJ x1 30) (some (z 12 x1, z))
noncomputable def X9_nearest_b48 (k8 : ZI → Int → Int → Int → Int → Option (Int × ZI)) (z : ZI) (x1 : Int) (x2 : Int) (x3 : Int) (x4 : Int) : Option (Int × ZI) :=
  Zgd (InR (x4 + 1)) (k8 z x1 x2 x3 (x4 + 1))
noncomputable def X9_nearest_b42 (k8 : ZI → Int → Int → Int → Int → Option (Int × ZI)) (z : ZI) (x1 : Int) (x4 : Int) (x5 : Int) : Option (Int × ZI) :=
  X9_nearest_b48 k8 z x1 x4 x5 x4
noncomputable def X9_nearest_L8b (k8 : ZI → Int → Int → Int → Int → Option (Int × ZI)) (z : ZI) (x1 : Int) (x2 : Int) (x3 : Int) (x4 : Int) : Option (Int × ZI) :=
  if (z 41 0) ≤ x4 then (some (x2, z)) else (Zgd (IJ x4 6) (Yb (F_X4_apart z x1 (z 42 x4)) fun r5_ z3_ => if x2 = (-9) then (X9_nearest_b42 k8 z3_ x1 x4 r5_) else (if x3 ≤ r5_ then (X9_nearest_b48 k8 z3_ x1 x2 x3 x4) else (X9_nearest_b42 k8 z3_ x1 x4 r5_))))
noncomputable def X9_nearest_L8 : Nat → ZI → Int → Int → Int → Int → Option (Int × ZI)
  | 0, _, _, _, _, _ => none
  | n + 1, z, x1, x2, x3, x4 => X9_nearest_L8b (X9_nearest_L8 n) z x1 x2 x3 x4
noncomputable def F_X9_nearest (z : ZI) (x1 : Int) : Option (Int × ZI) :=
  X9_nearest_L8 Zfuel z x1 (-9) 0 0
noncomputable def X9_lineUp_b97 (k8 : ZI → Int → Int → Int → Option (Unit × ZI)) (z : ZI) (x2 : Int) (x3 : Int) (x4 : Int) : Option (Unit × ZI) :=
  Zgd (InR (x4 + 1)) (k8 z x2 x3 (x4 + 1))
noncomputable def X9_lineUp_L8b (k8 : ZI → Int → Int → Int → Option (Unit × ZI)) (z : ZI) (x2 : Int) (x3 : Int) (x4 : Int) : Option (Unit × ZI) :=
  if (z 11 0) ≤ x4 then (some ((), z)) else (Yb (F_X3_cellOf z x4) fun r4_ z2_ => Yb (F_X9_nearest z2_ r4_) fun r7_ z5_ => if r7_ = x2 then (Yb (F_X3_hereInHouse z5_ x4 x3) fun r11_ z9_ => Zgd (InR (5 * r11_)) (if (5 * r11_) ≤ 0 then (X9_lineUp_b97 k8 z9_ x2 x3 x4) else (Zgd (IJ (z9_ 41 5) 30) (Zl (Zup z9_ 46 (z9_ 41 5) x4) fun z15_ => Yb (F_X3_blockOf z15_ x4) fun r18_ z16_ => Zgd (IJ (z15_ 41 5) 30) (Zl (Zup z16_ 47 (z15_ 41 5) r18_) fun z20_ => Zgd (IJ (z20_ 41 5) 30) (Zl (Zup z20_ 48 (z20_ 41 5) (5 * r11_)) fun z22_ => Zgd (InR ((z22_ 41 5) + 1)) (Zl (Zup z22_ 41 5 ((z22_ 41 5) + 1)) fun z24_ => X9_lineUp_b97 k8 z24_ x2 x3 x4))))))) else (X9_lineUp_b97 k8 z5_ x2 x3 x4))
noncomputable def X9_lineUp_L8 : Nat → ZI → Int → Int → Int → Option (Unit × ZI)
  | 0, _, _, _, _ => none
  | n + 1, z, x2, x3, x4 => X9_lineUp_L8b (X9_lineUp_L8 n) z x2 x3 x4
noncomputable def F_X9_lineUp (z : ZI) (x2 : Int) (x3 : Int) : Option (Unit × ZI) :=
  Zl (Zup z 41 5 0) fun z1_ => X9_lineUp_L8 Zfuel z1_ x2 x3 0
noncomputable def X9_findBest_b113 (k83 : ZI → Int → Option (Unit × ZI)) (z : ZI) (x3 : Int) : Option (Unit × ZI) :=
  Zgd (InR (x3 + 1)) (k83 z (x3 + 1))
noncomputable def X9_findBest_L83b (k83 : ZI → Int → Option (Unit × ZI)) (z : ZI) (x3 : Int) : Option (Unit × ZI) :=
  if 4096 ≤ x3 then (Zl (Zup z 41 14 1) fun z2_ => some ((), z2_)) else (Zgd (IJ x3 (z 200 52)) (Zgd (IJ (z 41 15) (z 200 52)) (if (z 52 (z 41 15)) ≤ (z 52 x3) then (X9_findBest_b113 k83 z x3) else (Zl (Zup z 41 15 x3) fun z6_ => X9_findBest_b113 k83 z6_ x3))))
noncomputable def X9_findBest_L83 : Nat → ZI → Int → Option (Unit × ZI)
  | 0, _, _ => none
  | n + 1, z, x3 => X9_findBest_L83b (X9_findBest_L83 n) z x3
noncomputable def X9_findBest_b76 (z : ZI) : Option (Unit × ZI) :=
  Zl (Zup z 41 15 0) fun z1_ => X9_findBest_L83 Zfuel z1_ 1
noncomputable def X9_findBest_L50b (k50 : ZI → Int → Int → Option (Unit × ZI)) (z : ZI) (x2 : Int) (x3 : Int) : Option (Unit × ZI) :=
  if (z 41 0) ≤ x3 then (X9_findBest_b76 z ) else (Yb (F_X9_lineUp z x3 x2) fun _ z2_ => Yb (F_X9_addLine z2_ x3) fun _ z5_ => Zgd (InR (x3 + 1)) (k50 z5_ x2 (x3 + 1)))
noncomputable def X9_findBest_L50 : Nat → ZI → Int → Int → Option (Unit × ZI)
  | 0, _, _, _ => none
  | n + 1, z, x2, x3 => X9_findBest_L50b (X9_findBest_L50 n) z x2 x3
noncomputable def X9_findBest_b34 (z : ZI) (x2 : Int) : Option (Unit × ZI) :=
  Yb (F_J7_fill_531784 52 0 z 0) fun _ z1_ => Yb (F_X9_addThoseWithoutLine z1_ x2) fun _ z4_ => X9_findBest_L50 Zfuel z4_ x2 0
noncomputable def F_X9_findBest (z : ZI) (x2 : Int) : Option (Unit × ZI) :=
  if (z 41 14) = 0 then (Zgd (0 ≤ z 200 52) (if (z 200 52) = 0 then none else (X9_findBest_b34 z x2))) else (some ((), z))
noncomputable def X10_best_b9 (z : ZI) : Option (Int × ZI) :=
  Yb (F_X10_refuse z (-2)) fun r3_ z1_ => some (r3_, z1_)
noncomputable def X10_best_b67 (z : ZI) (y0 : Int) : Option (Int × ZI) :=
  some (y0, z)
noncomputable def F_X10_best (z : ZI) (x1 : Int) : Option (Int × ZI) :=
  if x1 < 0 then (X10_best_b9 z ) else (if x1 ≤ 5 then (Yb (F_X9_findBest z (z 0 0)) fun _ z3_ => if x1 = 5 then (Yb (F_X9_bestSum z3_) fun r16_ z14_ => some (r16_, z14_)) else (if x1 = 4 then (Yb (F_X9_bestUnserved z3_) fun r13_ z11_ => X10_best_b67 z11_ r13_) else (Yb (F_X9_bestBegin z3_ x1) fun r10_ z8_ => X10_best_b67 z8_ r10_))) else (X10_best_b9 z ))
noncomputable def X10_checkRange_b19 (z : ZI) (y0 : Int) : Option (Int × ZI) :=
  some (y0, z)
noncomputable def F_X10_checkRange (z : ZI) (x0 : Int) (x1 : Int) (x2 : Int) : Option (Int × ZI) :=
  if x1 ≤ x0 then (if x0 ≤ x2 then (X10_checkRange_b19 z 0) else (X10_checkRange_b19 z (-6))) else (some ((-4), z))
noncomputable def X10_isBlock_b14 (z : ZI) (y0 : Int) : Option (Int × ZI) :=
  Zgd (y0 = 0 ∨ y0 = 1) (some (y0, z))
noncomputable def X10_isBlock_b13 (z : ZI) : Option (Int × ZI) :=
  X10_isBlock_b14 z 0
noncomputable def F_X10_isBlock (z : ZI) (x0 : Int) : Option (Int × ZI) :=
  if x0 < 0 then (X10_isBlock_b13 z ) else (if 4 ≤ x0 then (X10_isBlock_b13 z ) else (X10_isBlock_b14 z 1))
noncomputable def F_X9_begin (z : ZI) (x1 : Int) (x2 : Int) : Option (Int × ZI) :=
  Zgd (IJ x1 4) (Zgd (IJ x1 4) (Zl (Zup z 45 x1 x2) fun z3_ => some (z 45 x1, z3_)))
noncomputable def X10_block_b42 (z : ZI) (y0 : Int) : Option (Int × ZI) :=
  some (y0, z)
noncomputable def F_X10_block (z : ZI) (x1 : Int) (x2 : Int) : Option (Int × ZI) :=
  Yb (F_X10_isBlock z x1) fun r3_ z1_ => if r3_ = 0 then (Yb (F_X10_refuse z1_ (-1)) fun r17_ z15_ => some (r17_, z15_)) else (Yb (F_X10_checkRange z1_ x2 4 20) fun r7_ z5_ => if r7_ = 0 then (Yb (F_X9_begin z5_ x1 x2) fun r14_ z12_ => X10_block_b42 z12_ r14_) else (Yb (F_X10_refuse z5_ r7_) fun r11_ z9_ => X10_block_b42 z9_ r11_))
noncomputable def X3_hasHouse_b17 (z : ZI) (y0 : Int) : Option (Int × ZI) :=
  Zgd (y0 = 0 ∨ y0 = 1) (some (y0, z))
noncomputable def X3_hasHouse_b16 (z : ZI) : Option (Int × ZI) :=
  X3_hasHouse_b17 z 0
noncomputable def F_X3_hasHouse (z : ZI) (x1 : Int) : Option (Int × ZI) :=
  if x1 < 0 then (X3_hasHouse_b16 z ) else (if (z 11 0) ≤ x1 then (X3_hasHouse_b16 z ) else (X3_hasHouse_b17 z 1))
noncomputable def F_X10_card (z : ZI) (x1 : Int) : Option (Int × ZI) :=
  Yb (F_X3_hasHouse z x1) fun r3_ z1_ => if r3_ = 0 then (Yb (F_X10_refuse z1_ (-1)) fun r14_ z12_ => some (r14_, z12_)) else (if (z1_ 33 0) < 40 then (Yb (F_X0_make z1_ x1 (z1_ 0 0)) fun r8_ z6_ => some (r8_, z6_)) else (Yb (F_X10_refuse z1_ (-6)) fun r11_ z9_ => some (r11_, z9_)))
noncomputable def F_X1_note (z : ZI) (x1 : Int) (x2 : Int) (x3 : Int) (x4 : Int) : Option (Int × ZI) :=
  Zgd (IJ (z 63 0) 40) (Zl (Zup z 64 (z 63 0) x1) fun z2_ => Zgd (IJ (z2_ 63 0) 40) (Zl (Zup z2_ 65 (z2_ 63 0) x2) fun z4_ => Zgd (IJ (z4_ 63 0) 40) (Zl (Zup z4_ 66 (z4_ 63 0) x3) fun z6_ => Zgd (IJ (z6_ 63 0) 40) (Zl (Zup z6_ 67 (z6_ 63 0) x4) fun z8_ => Zgd (InR ((z8_ 63 0) + 1)) (Zl (Zup z8_ 63 0 ((z8_ 63 0) + 1)) fun z10_ => some (z10_ 63 0, z10_))))))
noncomputable def X10_count_b22 (z : ZI) : Option (Int × ZI) :=
  Yb (F_X10_refuse z (-4)) fun r3_ z1_ => some (r3_, z1_)
noncomputable def X10_count_b56 (z : ZI) : Option (Int × ZI) :=
  Yb (F_X10_refuse z (-6)) fun r3_ z1_ => some (r3_, z1_)
noncomputable def F_X10_count (z : ZI) (x1 : Int) (x2 : Int) (x3 : Int) : Option (Int × ZI) :=
  Yb (F_X10_isBlock z x1) fun r3_ z1_ => if r3_ = 0 then (Yb (F_X10_refuse z1_ (-1)) fun r15_ z13_ => some (r15_, z13_)) else (if x2 < 0 then (X10_count_b22 z1_ ) else (if (-1) ≤ x3 then (if (z1_ 0 0) < x2 then (X10_count_b56 z1_ ) else (if 9999 < x3 then (X10_count_b56 z1_ ) else (if (z1_ 63 0) < 40 then (Yb (F_X1_note z1_ x1 x2 x3 (z1_ 0 0)) fun r12_ z10_ => some (r12_, z10_)) else (X10_count_b56 z1_ )))) else (X10_count_b22 z1_ )))
noncomputable def X1_known_b125 (z : ZI) (y0 : Int) : Option (Int × ZI) :=
  some (y0, z)
noncomputable def X1_known_b106 (z : ZI) (x4 : Int) : Option (Int × ZI) :=
  if x4 = (-9) then (X1_known_b125 z (-9)) else (Zgd (IJ x4 40) (X1_known_b125 z (z 66 x4)))
noncomputable def X1_known_b100 (k7 : ZI → Int → Int → Int → Int → Int → Option (Int × ZI)) (z : ZI) (x1 : Int) (x2 : Int) (x3 : Int) (x4 : Int) (x5 : Int) : Option (Int × ZI) :=
  Zgd (InR (x5 + 1)) (k7 z x1 x2 x3 x4 (x5 + 1))
noncomputable def X1_known_b96 (k7 : ZI → Int → Int → Int → Int → Int → Option (Int × ZI)) (z : ZI) (x1 : Int) (x2 : Int) (x3 : Int) (x5 : Int) : Option (Int × ZI) :=
  X1_known_b100 k7 z x1 x2 x3 x5 x5
noncomputable def X1_known_b65 (k7 : ZI → Int → Int → Int → Int → Int → Option (Int × ZI)) (z : ZI) (x1 : Int) (x2 : Int) (x3 : Int) (x4 : Int) (x5 : Int) (y0 : Int) : Option (Int × ZI) :=
  if y0 = 0 then (X1_known_b100 k7 z x1 x2 x3 x4 x5) else (if x4 = (-9) then (X1_known_b96 k7 z x1 x2 x3 x5) else (Zgd (IJ x5 40) (Zgd (IJ x4 40) (if (z 65 x5) < (z 65 x4) then (X1_known_b100 k7 z x1 x2 x3 x4 x5) else (X1_known_b96 k7 z x1 x2 x3 x5)))))
noncomputable def X1_known_b64 (k7 : ZI → Int → Int → Int → Int → Int → Option (Int × ZI)) (z : ZI) (x1 : Int) (x2 : Int) (x3 : Int) (x4 : Int) (x5 : Int) : Option (Int × ZI) :=
  X1_known_b65 k7 z x1 x2 x3 x4 x5 0
noncomputable def X1_known_L7b (k7 : ZI → Int → Int → Int → Int → Int → Option (Int × ZI)) (z : ZI) (x1 : Int) (x2 : Int) (x3 : Int) (x4 : Int) (x5 : Int) : Option (Int × ZI) :=
  if (z 63 0) ≤ x5 then (X1_known_b106 z x4) else (Zgd (IJ x5 40) (if (z 64 x5) = x1 then (Zgd (IJ x5 40) (if x2 < (z 65 x5) then (X1_known_b64 k7 z x1 x2 x3 x4 x5) else (Zgd (IJ x5 40) (if x3 < (z 67 x5) then (X1_known_b64 k7 z x1 x2 x3 x4 x5) else (Zgd (IJ x5 40) (if (z 66 x5) = (-1) then (X1_known_b64 k7 z x1 x2 x3 x4 x5) else (X1_known_b65 k7 z x1 x2 x3 x4 x5 1))))))) else (X1_known_b64 k7 z x1 x2 x3 x4 x5)))
noncomputable def X1_known_L7 : Nat → ZI → Int → Int → Int → Int → Int → Option (Int × ZI)
  | 0, _, _, _, _, _, _ => none
  | n + 1, z, x1, x2, x3, x4, x5 => X1_known_L7b (X1_known_L7 n) z x1 x2 x3 x4 x5
noncomputable def F_X1_known (z : ZI) (x1 : Int) (x2 : Int) (x3 : Int) : Option (Int × ZI) :=
  X1_known_L7 Zfuel z x1 x2 x3 (-9) 0
noncomputable def X10_counted_b21 (z : ZI) : Option (Int × ZI) :=
  Yb (F_X10_refuse z (-4)) fun r3_ z1_ => some (r3_, z1_)
noncomputable def X10_counted_b42 (z : ZI) : Option (Int × ZI) :=
  Yb (F_X10_refuse z (-6)) fun r3_ z1_ => some (r3_, z1_)
noncomputable def F_X10_counted (z : ZI) (x1 : Int) (x2 : Int) (x3 : Int) : Option (Int × ZI) :=
  Yb (F_X10_isBlock z x1) fun r3_ z1_ => if r3_ = 0 then (Yb (F_X10_refuse z1_ (-1)) fun r14_ z12_ => some (r14_, z12_)) else (if x2 < 0 then (X10_counted_b21 z1_ ) else (if 0 ≤ x3 then (if 999 < x2 then (X10_counted_b42 z1_ ) else (if x3 ≤ 999 then (Yb (F_X1_known z1_ x1 x2 x3) fun r11_ z9_ => some (r11_, z9_)) else (X10_counted_b42 z1_ ))) else (X10_counted_b21 z1_ )))
noncomputable def F_X10_days (z : ZI) (x1 : Int) : Option (Int × ZI) :=
  Zgd (InR (999 - (z 0 0))) (Yb (F_X10_checkRange z x1 1 (999 - (z 0 0))) fun r4_ z2_ => if r4_ = 0 then (Zgd (InR ((z2_ 0 0) + x1)) (Zl (Zup z2_ 0 0 ((z2_ 0 0) + x1)) fun z7_ => some (z7_ 0 0, z7_))) else (Yb (F_X10_refuse z2_ r4_) fun r10_ z8_ => some (r10_, z8_)))
noncomputable def X10_isCell_b16 (z : ZI) (y0 : Int) : Option (Int × ZI) :=
  Zgd (y0 = 0 ∨ y0 = 1) (some (y0, z))
noncomputable def X10_isCell_b15 (z : ZI) : Option (Int × ZI) :=
  X10_isCell_b16 z 0
noncomputable def F_X10_isCell (z : ZI) (x0 : Int) : Option (Int × ZI) :=
  if x0 < 0 then (X10_isCell_b15 z ) else (if 144 ≤ x0 then (X10_isCell_b15 z ) else (X10_isCell_b16 z 1))
noncomputable def X4_beside_b93 (z : ZI) (y0 : Int) : Option (Int × ZI) :=
  some (y0, z)
noncomputable def X4_beside_b79 (z : ZI) (y0 : Int) : Option (Int × ZI) :=
  some (y0, z)
noncomputable def X4_beside_b66 (z : ZI) (y0 : Int) : Option (Int × ZI) :=
  some (y0, z)
noncomputable def X4_beside_b50 (z : ZI) (y0 : Int) : Option (Int × ZI) :=
  some (y0, z)
noncomputable def F_X4_beside (z : ZI) (x0 : Int) (x1 : Int) : Option (Int × ZI) :=
  if x1 = 0 then (if 11 ≤ (x0.tmod 12) then (X4_beside_b50 z (-9)) else (Zgd (InR (x0 + 1)) (X4_beside_b50 z (x0 + 1)))) else if x1 = 1 then (if 11 ≤ (x0.tdiv 12) then (X4_beside_b66 z (-9)) else (Zgd (InR (x0 + 12)) (X4_beside_b66 z (x0 + 12)))) else if x1 = 2 then (if (x0.tmod 12) ≤ 0 then (X4_beside_b79 z (-9)) else (Zgd (InR (x0 - 1)) (X4_beside_b79 z (x0 - 1)))) else (if (x0.tdiv 12) ≤ 0 then (X4_beside_b93 z (-9)) else (Zgd (InR (x0 - 12)) (X4_beside_b93 z (x0 - 12))))
noncomputable def X4_lowestBeside_b74 (k23 : ZI → Int → Int → Int → Int → Int → Option (Int × ZI)) (z : ZI) (x1 : Int) (x2 : Int) (x3 : Int) (x5 : Int) (x6 : Int) : Option (Int × ZI) :=
  Zgd (InR (x6 + 1)) (k23 z x1 x2 x3 x5 (x6 + 1))
noncomputable def X4_lowestBeside_L23b (k23 : ZI → Int → Int → Int → Int → Int → Option (Int × ZI)) (z : ZI) (x1 : Int) (x2 : Int) (x3 : Int) (x5 : Int) (x6 : Int) : Option (Int × ZI) :=
  if x5 ≤ x6 then (some (x2, z)) else (Zgd (IJ x6 4) (Yb (F_X4_beside z x1 (Ysides x6)) fun r5_ z3_ => if r5_ = (-9) then (X4_lowestBeside_b74 k23 z3_ x1 x2 x3 x5 x6) else (Zgd (IJ r5_ 144) (if x3 ≤ (z3_ 3 r5_) then (X4_lowestBeside_b74 k23 z3_ x1 x2 x3 x5 x6) else (Zgd (IJ r5_ 144) (X4_lowestBeside_b74 k23 z3_ x1 r5_ (z3_ 3 r5_) x5 x6))))))
noncomputable def X4_lowestBeside_L23 : Nat → ZI → Int → Int → Int → Int → Int → Option (Int × ZI)
  | 0, _, _, _, _, _, _ => none
  | n + 1, z, x1, x2, x3, x5, x6 => X4_lowestBeside_L23b (X4_lowestBeside_L23 n) z x1 x2 x3 x5 x6
noncomputable def F_X4_lowestBeside (z : ZI) (x1 : Int) : Option (Int × ZI) :=
  Zgd (IJ x1 144) (X4_lowestBeside_L23 Zfuel z x1 (-9) (z 3 x1) 4 0)
noncomputable def X10_down_b23 (z : ZI) (y0 : Int) : Option (Int × ZI) :=
  some (y0, z)
noncomputable def F_X10_down (z : ZI) (x1 : Int) : Option (Int × ZI) :=
  Yb (F_X10_isCell z x1) fun r3_ z1_ => if r3_ = 0 then (Yb (F_X10_refuse z1_ (-1)) fun r7_ z5_ => X10_down_b23 z5_ r7_) else (Yb (F_X4_lowestBeside z1_ x1) fun r10_ z8_ => X10_down_b23 z8_ r10_)
noncomputable def F_X4_addDrain (z : ZI) (x1 : Int) : Option (Int × ZI) :=
  Zgd (IJ x1 144) (Zl (Zup z 5 x1 (z 2 4)) fun z2_ => Zgd (InR ((z2_ 2 4) + 1)) (Zl (Zup z2_ 2 4 ((z2_ 2 4) + 1)) fun z4_ => some (z2_ 2 4, z4_)))
noncomputable def X4_isDrain_b16 (z : ZI) (y0 : Int) : Option (Int × ZI) :=
  Zgd (y0 = 0 ∨ y0 = 1) (some (y0, z))
noncomputable def F_X4_isDrain (z : ZI) (x1 : Int) : Option (Int × ZI) :=
  Zgd (IJ x1 144) (if (z 5 x1) = (-9) then (X4_isDrain_b16 z 0) else (X4_isDrain_b16 z 1))
noncomputable def F_X10_drain (z : ZI) (x1 : Int) : Option (Int × ZI) :=
  Yb (F_X10_isCell z x1) fun r3_ z1_ => if r3_ = 0 then (Yb (F_X10_refuse z1_ (-1)) fun r21_ z19_ => some (r21_, z19_)) else (Yb (F_X4_isDrain z1_ x1) fun r7_ z5_ => if r7_ = 0 then (if (z5_ 2 4) < 10 then (Yb (F_X4_addDrain z5_ x1) fun r12_ z10_ => some (r12_, z10_)) else (Yb (F_X10_refuse z5_ (-6)) fun r15_ z13_ => some (r15_, z13_))) else (Yb (F_X10_refuse z5_ (-3)) fun r18_ z16_ => some (r18_, z16_)))
noncomputable def F_J6_bitCount_0f7a4 (z : ZI) (x0 : Int) : Option (Int × ZI) :=
  Zgd (InR (x0 - (jand (jushr x0 1) 1431655765))) (Zgd (InR ((jand (x0 - (jand (jushr x0 1) 1431655765)) 858993459) + (jand (jushr (x0 - (jand (jushr x0 1) 1431655765)) 2) 858993459))) (Zgd (InR (((jand (x0 - (jand (jushr x0 1) 1431655765)) 858993459) + (jand (jushr (x0 - (jand (jushr x0 1) 1431655765)) 2) 858993459)) + (jushr ((jand (x0 - (jand (jushr x0 1) 1431655765)) 858993459) + (jand (jushr (x0 - (jand (jushr x0 1) 1431655765)) 2) 858993459)) 4))) (Zgd (InR ((jand (((jand (x0 - (jand (jushr x0 1) 1431655765)) 858993459) + (jand (jushr (x0 - (jand (jushr x0 1) 1431655765)) 2) 858993459)) + (jushr ((jand (x0 - (jand (jushr x0 1) 1431655765)) 858993459) + (jand (jushr (x0 - (jand (jushr x0 1) 1431655765)) 2) 858993459)) 4)) 252645135) + (jushr (jand (((jand (x0 - (jand (jushr x0 1) 1431655765)) 858993459) + (jand (jushr (x0 - (jand (jushr x0 1) 1431655765)) 2) 858993459)) + (jushr ((jand (x0 - (jand (jushr x0 1) 1431655765)) 858993459) + (jand (jushr (x0 - (jand (jushr x0 1) 1431655765)) 2) 858993459)) 4)) 252645135) 8))) (Zgd (InR (((jand (((jand (x0 - (jand (jushr x0 1) 1431655765)) 858993459) + (jand (jushr (x0 - (jand (jushr x0 1) 1431655765)) 2) 858993459)) + (jushr ((jand (x0 - (jand (jushr x0 1) 1431655765)) 858993459) + (jand (jushr (x0 - (jand (jushr x0 1) 1431655765)) 2) 858993459)) 4)) 252645135) + (jushr (jand (((jand (x0 - (jand (jushr x0 1) 1431655765)) 858993459) + (jand (jushr (x0 - (jand (jushr x0 1) 1431655765)) 2) 858993459)) + (jushr ((jand (x0 - (jand (jushr x0 1) 1431655765)) 858993459) + (jand (jushr (x0 - (jand (jushr x0 1) 1431655765)) 2) 858993459)) 4)) 252645135) 8)) + (jushr ((jand (((jand (x0 - (jand (jushr x0 1) 1431655765)) 858993459) + (jand (jushr (x0 - (jand (jushr x0 1) 1431655765)) 2) 858993459)) + (jushr ((jand (x0 - (jand (jushr x0 1) 1431655765)) 858993459) + (jand (jushr (x0 - (jand (jushr x0 1) 1431655765)) 2) 858993459)) 4)) 252645135) + (jushr (jand (((jand (x0 - (jand (jushr x0 1) 1431655765)) 858993459) + (jand (jushr (x0 - (jand (jushr x0 1) 1431655765)) 2) 858993459)) + (jushr ((jand (x0 - (jand (jushr x0 1) 1431655765)) 858993459) + (jand (jushr (x0 - (jand (jushr x0 1) 1431655765)) 2) 858993459)) 4)) 252645135) 8)) 16))) (some (jand (((jand (((jand (x0 - (jand (jushr x0 1) 1431655765)) 858993459) + (jand (jushr (x0 - (jand (jushr x0 1) 1431655765)) 2) 858993459)) + (jushr ((jand (x0 - (jand (jushr x0 1) 1431655765)) 858993459) + (jand (jushr (x0 - (jand (jushr x0 1) 1431655765)) 2) 858993459)) 4)) 252645135) + (jushr (jand (((jand (x0 - (jand (jushr x0 1) 1431655765)) 858993459) + (jand (jushr (x0 - (jand (jushr x0 1) 1431655765)) 2) 858993459)) + (jushr ((jand (x0 - (jand (jushr x0 1) 1431655765)) 858993459) + (jand (jushr (x0 - (jand (jushr x0 1) 1431655765)) 2) 858993459)) 4)) 252645135) 8)) + (jushr ((jand (((jand (x0 - (jand (jushr x0 1) 1431655765)) 858993459) + (jand (jushr (x0 - (jand (jushr x0 1) 1431655765)) 2) 858993459)) + (jushr ((jand (x0 - (jand (jushr x0 1) 1431655765)) 858993459) + (jand (jushr (x0 - (jand (jushr x0 1) 1431655765)) 2) 858993459)) 4)) 252645135) + (jushr (jand (((jand (x0 - (jand (jushr x0 1) 1431655765)) 858993459) + (jand (jushr (x0 - (jand (jushr x0 1) 1431655765)) 2) 858993459)) + (jushr ((jand (x0 - (jand (jushr x0 1) 1431655765)) 858993459) + (jand (jushr (x0 - (jand (jushr x0 1) 1431655765)) 2) 858993459)) 4)) 252645135) 8)) 16)) 63, z))))))
noncomputable def F_X4_isFoul (z : ZI) (x1 : Int) : Option (Int × ZI) :=
  Zgd (IJ x1 144) (Zgd (z 10 x1 = 0 ∨ z 10 x1 = 1) (some (z 10 x1, z)))
noncomputable def X4_level_L100b (k100 : ZI → Int → Option (Unit × ZI)) (z : ZI) (x1 : Int) : Option (Unit × ZI) :=
  if 144 ≤ x1 then (Zl (Zup z 2 8 1) fun z2_ => some ((), z2_)) else (Zgd (IJ x1 144) (Zgd (IJ (z 3 x1) 100) (Zgd (InR ((z 8 (z 3 x1)) + 1)) (Zgd (IJ (z 3 x1) 100) (Zl (Zup z 8 (z 3 x1) ((z 8 (z 3 x1)) + 1)) fun z7_ => Zgd (IJ (z 8 (z 3 x1)) 144) (Zl (Zup z7_ 7 (z 8 (z 3 x1)) x1) fun z9_ => Zgd (InR (x1 + 1)) (k100 z9_ (x1 + 1))))))))
noncomputable def X4_level_L100 : Nat → ZI → Int → Option (Unit × ZI)
  | 0, _, _ => none
  | n + 1, z, x1 => X4_level_L100b (X4_level_L100 n) z x1
noncomputable def X4_level_b98 (z : ZI) : Option (Unit × ZI) :=
  X4_level_L100 Zfuel z 0
noncomputable def X4_level_L71b (k71 : ZI → Int → Option (Unit × ZI)) (z : ZI) (x1 : Int) : Option (Unit × ZI) :=
  if x1 < 0 then (X4_level_b98 z ) else (Zgd (IJ x1 100) (Zgd (InR (x1 + 1)) (Zgd (IJ (x1 + 1) 100) (Zgd (InR ((z 8 x1) + (z 8 (x1 + 1)))) (Zgd (IJ x1 100) (Zl (Zup z 8 x1 ((z 8 x1) + (z 8 (x1 + 1)))) fun z7_ => Zgd (InR (x1 + (-1))) (k71 z7_ (x1 + (-1)))))))))
noncomputable def X4_level_L71 : Nat → ZI → Int → Option (Unit × ZI)
  | 0, _, _ => none
  | n + 1, z, x1 => X4_level_L71b (X4_level_L71 n) z x1
noncomputable def X4_level_b68 (z : ZI) : Option (Unit × ZI) :=
  X4_level_L71 Zfuel z 98
noncomputable def X4_level_b62 (k18 : ZI → Int → Option (Unit × ZI)) (z : ZI) (x1 : Int) : Option (Unit × ZI) :=
  Zgd (InR (x1 + 1)) (k18 z (x1 + 1))
noncomputable def X4_level_L18b (k18 : ZI → Int → Option (Unit × ZI)) (z : ZI) (x1 : Int) : Option (Unit × ZI) :=
  if 144 ≤ x1 then (X4_level_b68 z ) else (Yb (F_X4_lowestBeside z x1) fun r4_ z2_ => Zgd (IJ x1 144) (Zl (Zup z2_ 6 x1 r4_) fun z6_ => Zgd (IJ x1 144) (if (z6_ 3 x1) ≤ 0 then (X4_level_b62 k18 z6_ x1) else (Zgd (IJ x1 144) (Zgd (InR ((z6_ 3 x1) - 1)) (Zgd (IJ ((z6_ 3 x1) - 1) 100) (Zgd (InR ((z6_ 8 ((z6_ 3 x1) - 1)) + 1)) (Zgd (IJ ((z6_ 3 x1) - 1) 100) (Zl (Zup z6_ 8 ((z6_ 3 x1) - 1) ((z6_ 8 ((z6_ 3 x1) - 1)) + 1)) fun z14_ => X4_level_b62 k18 z14_ x1)))))))))
noncomputable def X4_level_L18 : Nat → ZI → Int → Option (Unit × ZI)
  | 0, _, _ => none
  | n + 1, z, x1 => X4_level_L18b (X4_level_L18 n) z x1
noncomputable def F_X4_level (z : ZI) : Option (Unit × ZI) :=
  if (z 2 8) = 0 then (Yb (F_J7_fill_53178 8 100 z 0) fun _ z2_ => X4_level_L18 Zfuel z2_ 0) else (some ((), z))
noncomputable def X4_pass_b81 (z : ZI) : Option (Unit × ZI) :=
  some ((), z)
noncomputable def X4_pass_b80 (z : ZI) (y1 : Int) (y2 : Int) : Option (Unit × ZI) :=
  Zgd (y2 = 0 ∨ y2 = 1) (Zgd (IJ y1 144) (Zl (Zup z 10 y1 y2) fun z2_ => X4_pass_b81 z2_ ))
noncomputable def X4_pass_b75 (z : ZI) (y1 : Int) : Option (Unit × ZI) :=
  X4_pass_b80 z y1 1
noncomputable def X4_pass_b31 (z : ZI) (x1 : Int) (x2 : Int) : Option (Unit × ZI) :=
  if x2 = (-9) then (X4_pass_b81 z ) else (Zgd (IJ x2 144) (Zgd (IJ x1 144) (Zgd (InR ((z 9 x2) + (z 9 x1))) (Zgd (IJ x2 144) (Zl (Zup z 9 x2 ((z 9 x2) + (z 9 x1))) fun z6_ => Zgd (IJ x2 144) (if (z6_ 10 x2) = 0 then (Zgd (IJ x1 144) (if (z6_ 10 x1) = 0 then (X4_pass_b80 z6_ x2 0) else (X4_pass_b75 z6_ x2))) else (X4_pass_b75 z6_ x2)))))))
noncomputable def F_X4_pass (z : ZI) (x1 : Int) (x2 : Int) : Option (Unit × ZI) :=
  Zgd (IJ x1 144) (if (z 4 x1) ≤ 0 then (X4_pass_b31 z x1 x2) else (Zgd (IJ x1 144) (Zgd (IJ x1 144) (if (z 9 x1) < (z 4 x1) then (X4_pass_b31 z x1 x2) else (Zgd (IJ x1 144) (Zl (Zup z 10 x1 1) fun z7_ => X4_pass_b31 z7_ x1 x2))))))
noncomputable def X4_pour_b102 (k35 : ZI → Int → Int → Option (Unit × ZI)) (z : ZI) (x2 : Int) (x3 : Int) : Option (Unit × ZI) :=
  Zgd (InR (x3 + 1)) (k35 z x2 (x3 + 1))
noncomputable def X4_pour_b82 (k35 : ZI → Int → Int → Option (Unit × ZI)) (z : ZI) (x2 : Int) (x3 : Int) (x4 : Int) (y0 : Int) : Option (Unit × ZI) :=
  if y0 = 0 then (Zgd (IJ x4 144) (Yb (F_X4_pass z x4 (z 6 x4)) fun _ z3_ => X4_pour_b102 k35 z3_ x2 x3)) else (X4_pour_b102 k35 z x2 x3)
noncomputable def X4_pour_b81 (k35 : ZI → Int → Int → Option (Unit × ZI)) (z : ZI) (x2 : Int) (x3 : Int) (x4 : Int) : Option (Unit × ZI) :=
  X4_pour_b82 k35 z x2 x3 x4 0
noncomputable def X4_pour_L35b (k35 : ZI → Int → Int → Option (Unit × ZI)) (z : ZI) (x2 : Int) (x3 : Int) : Option (Unit × ZI) :=
  if 144 ≤ x3 then (some ((), z)) else (Zgd (IJ x3 144) (Zgd (IJ (z 7 x3) 144) (if (z 5 (z 7 x3)) = (-9) then (X4_pour_b81 k35 z x2 x3 (z 7 x3)) else (Zgd (IJ (z 7 x3) 144) (if (jand (jshr x2 (z 5 (z 7 x3))) 1) = 1 then (X4_pour_b82 k35 z x2 x3 (z 7 x3) 1) else (X4_pour_b81 k35 z x2 x3 (z 7 x3)))))))
noncomputable def X4_pour_L35 : Nat → ZI → Int → Int → Option (Unit × ZI)
  | 0, _, _, _ => none
  | n + 1, z, x2, x3 => X4_pour_L35b (X4_pour_L35 n) z x2 x3
noncomputable def X4_pour_b33 (z : ZI) (x2 : Int) : Option (Unit × ZI) :=
  X4_pour_L35 Zfuel z x2 0
noncomputable def X4_pour_L6b (k6 : ZI → Int → Int → Int → Option (Unit × ZI)) (z : ZI) (x1 : Int) (x2 : Int) (x3 : Int) : Option (Unit × ZI) :=
  if 144 ≤ x3 then (X4_pour_b33 z x2) else (Zgd (IJ x3 144) (Zl (Zup z 9 x3 x1) fun z3_ => Zgd (IJ x3 144) (Zl (Zup z3_ 10 x3 0) fun z5_ => Zgd (InR (x3 + 1)) (k6 z5_ x1 x2 (x3 + 1)))))
noncomputable def X4_pour_L6 : Nat → ZI → Int → Int → Int → Option (Unit × ZI)
  | 0, _, _, _, _ => none
  | n + 1, z, x1, x2, x3 => X4_pour_L6b (X4_pour_L6 n) z x1 x2 x3
noncomputable def F_X4_pour (z : ZI) (x1 : Int) (x2 : Int) : Option (Unit × ZI) :=
  Yb (F_X4_level z) fun _ z1_ => X4_pour_L6 Zfuel z1_ x1 x2 0
noncomputable def X9_foulOnes_b44 (k12 : ZI → Int → Int → Option (Int × ZI)) (z : ZI) (x4 : Int) (x5 : Int) : Option (Int × ZI) :=
  Zgd (InR (x5 + 1)) (k12 z x4 (x5 + 1))
noncomputable def X9_foulOnes_L12b (k12 : ZI → Int → Int → Option (Int × ZI)) (z : ZI) (x4 : Int) (x5 : Int) : Option (Int × ZI) :=
  if (z 41 0) ≤ x5 then (some (x4, z)) else (Zgd (IJ x5 6) (Yb (F_X4_isFoul z (z 42 x5)) fun r5_ z3_ => if r5_ = 0 then (X9_foulOnes_b44 k12 z3_ x4 x5) else (X9_foulOnes_b44 k12 z3_ (jor x4 (jshl 1 x5)) x5)))
noncomputable def X9_foulOnes_L12 : Nat → ZI → Int → Int → Option (Int × ZI)
  | 0, _, _, _ => none
  | n + 1, z, x4, x5 => X9_foulOnes_L12b (X9_foulOnes_L12 n) z x4 x5
noncomputable def F_X9_foulOnes (z : ZI) (x2 : Int) (x3 : Int) : Option (Int × ZI) :=
  Yb (F_X4_pour z x2 x3) fun _ z1_ => X9_foulOnes_L12 Zfuel z1_ 0 0
noncomputable def X9_fewestDrains_b73 (k25 : ZI → Int → Int → Int → Option (Int × ZI)) (z : ZI) (x2 : Int) (x3 : Int) (x4 : Int) : Option (Int × ZI) :=
  Zgd (InR (x4 + 1)) (k25 z x2 x3 (x4 + 1))
noncomputable def X9_fewestDrains_b67 (k25 : ZI → Int → Int → Int → Option (Int × ZI)) (k37 : ZI → Int → Int → Int → Int → Option (Int × ZI)) (z : ZI) (x2 : Int) (x3 : Int) (x4 : Int) (x5 : Int) : Option (Int × ZI) :=
  Zgd (InR (x5 + 1)) (k37 z x2 x3 x4 (x5 + 1))
noncomputable def X9_fewestDrains_L37b (k25 : ZI → Int → Int → Int → Option (Int × ZI)) (k37 : ZI → Int → Int → Int → Int → Option (Int × ZI)) (z : ZI) (x2 : Int) (x3 : Int) (x4 : Int) (x5 : Int) : Option (Int × ZI) :=
  if x3 ≤ x5 then (X9_fewestDrains_b73 k25 z x2 x3 x4) else (Yb (F_J6_bitCount_0f7a4 z x5) fun r4_ z2_ => if r4_ = x4 then (Yb (F_X9_foulOnes z2_ x2 x5) fun r8_ z6_ => if r8_ = 0 then (some (x5, z6_)) else (X9_fewestDrains_b67 k25 k37 z6_ x2 x3 x4 x5)) else (X9_fewestDrains_b67 k25 k37 z2_ x2 x3 x4 x5))
noncomputable def X9_fewestDrains_L37 (k25 : ZI → Int → Int → Int → Option (Int × ZI)) : Nat → ZI → Int → Int → Int → Int → Option (Int × ZI)
  | 0, _, _, _, _, _ => none
  | n + 1, z, x2, x3, x4, x5 => X9_fewestDrains_L37b k25 (X9_fewestDrains_L37 k25 n) z x2 x3 x4 x5
noncomputable def X9_fewestDrains_L25b (k25 : ZI → Int → Int → Int → Option (Int × ZI)) (z : ZI) (x2 : Int) (x3 : Int) (x4 : Int) : Option (Int × ZI) :=
  if (z 2 4) < x4 then (some ((-9), z)) else (X9_fewestDrains_L37 k25 Zfuel z x2 x3 x4 0)
noncomputable def X9_fewestDrains_L25 : Nat → ZI → Int → Int → Int → Option (Int × ZI)
  | 0, _, _, _, _ => none
  | n + 1, z, x2, x3, x4 => X9_fewestDrains_L25b (X9_fewestDrains_L25 n) z x2 x3 x4
noncomputable def F_X9_fewestDrains (z : ZI) (x2 : Int) : Option (Int × ZI) :=
  Zgd (InR ((jshl 1 (z 2 4)) - 1)) (Yb (F_X9_foulOnes z x2 ((jshl 1 (z 2 4)) - 1)) fun r4_ z2_ => if r4_ = 0 then (X9_fewestDrains_L25 Zfuel z2_ x2 (jshl 1 (z 2 4)) 0) else (some ((-9), z2_)))
noncomputable def X10_drains_b33 (z : ZI) (y0 : Int) : Option (Int × ZI) :=
  some (y0, z)
noncomputable def F_X10_drains (z : ZI) (x1 : Int) : Option (Int × ZI) :=
  Yb (F_X10_checkRange z x1 1 999) fun r3_ z1_ => if r3_ = 0 then (Yb (F_X9_fewestDrains z1_ x1) fun r10_ z8_ => X10_drains_b33 z8_ r10_) else (Yb (F_X10_refuse z1_ r3_) fun r7_ z5_ => X10_drains_b33 z5_ r7_)
noncomputable def X3_isOfHouse_b15 (z : ZI) (y0 : Int) : Option (Int × ZI) :=
  Zgd (y0 = 0 ∨ y0 = 1) (some (y0, z))
noncomputable def F_X3_isOfHouse (z : ZI) (x1 : Int) (x2 : Int) : Option (Int × ZI) :=
  Zgd (IJ x1 60) (if (z 15 x1) = x2 then (X3_isOfHouse_b15 z 1) else (X3_isOfHouse_b15 z 0))
noncomputable def F_X6_clearLetters (z : ZI) : Option (Unit × ZI) :=
  Yb (F_J7_fill_53178 31 8 z 0) fun _ z1_ => some ((), z1_)
noncomputable def F_X3_ageOn (z : ZI) (x1 : Int) (x2 : Int) : Option (Int × ZI) :=
  Zgd (IJ x1 60) (Zgd (InR (x2 - (z 16 x1))) (some (x2 - (z 16 x1), z)))
noncomputable def X7_addToLetters_b86 (z : ZI) : Option (Unit × ZI) :=
  some ((), z)
noncomputable def X7_addToLetters_b63 (z : ZI) (x2 : Int) (x3 : Int) : Option (Unit × ZI) :=
  Yb (F_X3_stateOn z x2 x3) fun r3_ z1_ => if r3_ = 2 then (Zgd (IJ 3 8) (Zgd (InR ((z1_ 31 3) + 1)) (Zgd (IJ 3 8) (Zl (Zup z1_ 31 3 ((z1_ 31 3) + 1)) fun z8_ => X7_addToLetters_b86 z8_ )))) else (X7_addToLetters_b86 z1_ )
noncomputable def X7_addToLetters_b42 (z : ZI) (x2 : Int) (x3 : Int) (x4 : Int) : Option (Unit × ZI) :=
  if x4 ≤ 21900 then (X7_addToLetters_b63 z x2 x3) else (Zgd (IJ 2 8) (Zgd (InR ((z 31 2) + 1)) (Zgd (IJ 2 8) (Zl (Zup z 31 2 ((z 31 2) + 1)) fun z5_ => X7_addToLetters_b63 z5_ x2 x3))))
noncomputable def F_X7_addToLetters (z : ZI) (x2 : Int) (x3 : Int) : Option (Unit × ZI) :=
  Yb (F_X3_ageOn z x2 x3) fun r3_ z1_ => Zgd (IJ 0 8) (Zgd (InR ((z1_ 31 0) + 1)) (Zgd (IJ 0 8) (Zl (Zup z1_ 31 0 ((z1_ 31 0) + 1)) fun z7_ => if 1825 ≤ r3_ then (X7_addToLetters_b42 z7_ x2 x3 r3_) else (Zgd (IJ 1 8) (Zgd (InR ((z7_ 31 1) + 1)) (Zgd (IJ 1 8) (Zl (Zup z7_ 31 1 ((z7_ 31 1) + 1)) fun z12_ => X7_addToLetters_b42 z12_ x2 x3 r3_)))))))
noncomputable def X7_inForce_b74 (k6 : ZI → Int → Int → Int → Int → Option (Int × ZI)) (z : ZI) (x1 : Int) (x2 : Int) (x3 : Int) (x4 : Int) : Option (Int × ZI) :=
  Zgd (InR (x4 + 1)) (k6 z x1 x2 x3 (x4 + 1))
noncomputable def X7_inForce_b71 (k6 : ZI → Int → Int → Int → Int → Option (Int × ZI)) (z : ZI) (x1 : Int) (x2 : Int) (x4 : Int) : Option (Int × ZI) :=
  X7_inForce_b74 k6 z x1 x2 x4 x4
noncomputable def X7_inForce_b42 (k6 : ZI → Int → Int → Int → Int → Option (Int × ZI)) (z : ZI) (x1 : Int) (x2 : Int) (x3 : Int) (x4 : Int) (y0 : Int) : Option (Int × ZI) :=
  if y0 = 0 then (X7_inForce_b74 k6 z x1 x2 x3 x4) else (if x3 = (-9) then (X7_inForce_b71 k6 z x1 x2 x4) else (Zgd (IJ x4 30) (Zgd (IJ x3 30) (if (z 29 x4) < (z 29 x3) then (X7_inForce_b74 k6 z x1 x2 x3 x4) else (X7_inForce_b71 k6 z x1 x2 x4)))))
noncomputable def X7_inForce_b41 (k6 : ZI → Int → Int → Int → Int → Option (Int × ZI)) (z : ZI) (x1 : Int) (x2 : Int) (x3 : Int) (x4 : Int) : Option (Int × ZI) :=
  X7_inForce_b42 k6 z x1 x2 x3 x4 0
noncomputable def X7_inForce_L6b (k6 : ZI → Int → Int → Int → Int → Option (Int × ZI)) (z : ZI) (x1 : Int) (x2 : Int) (x3 : Int) (x4 : Int) : Option (Int × ZI) :=
  if (z 24 2) ≤ x4 then (some (x3, z)) else (Zgd (IJ x4 30) (if (z 28 x4) = x1 then (Zgd (IJ x4 30) (if x2 < (z 29 x4) then (X7_inForce_b41 k6 z x1 x2 x3 x4) else (X7_inForce_b42 k6 z x1 x2 x3 x4 1))) else (X7_inForce_b41 k6 z x1 x2 x3 x4)))
noncomputable def X7_inForce_L6 : Nat → ZI → Int → Int → Int → Int → Option (Int × ZI)
  | 0, _, _, _, _, _ => none
  | n + 1, z, x1, x2, x3, x4 => X7_inForce_L6b (X7_inForce_L6 n) z x1 x2 x3 x4
noncomputable def F_X7_inForce (z : ZI) (x1 : Int) (x2 : Int) : Option (Int × ZI) :=
  X7_inForce_L6 Zfuel z x1 x2 (-9) 0
noncomputable def X6_read_b60 (a1 n1 : Nat) (z : ZI) (x4 : Int) : Option (Int × ZI) :=
  some (x4, z)
noncomputable def F_X6_read (a1 n1 : Nat) (z : ZI) (x2 : Int) (x3 : Int) : Option (Int × ZI) :=
  Zgd (YcpOk z a1 n1 60 x2 0 x3) (Zl (Zcp z a1 32 x2 0 x3) fun z1_ => Zl (Zup z1_ 30 2 x3) fun z3_ => Zl (Zup z3_ 30 3 0) fun z4_ => Zl (Zup z4_ 30 4 (-9)) fun z5_ => Yb (Zrs 6 z5_ 0) fun r8_ z6_ => Yb (F_X6_sound z6_) fun r11_ z9_ => if r11_ = 0 then (X6_read_b60 a1 n1 z9_ r8_) else (if (z9_ 30 2) ≤ (z9_ 30 3) then (X6_read_b60 a1 n1 z9_ r8_) else (Zl (Zup z9_ 30 4 (z9_ 30 3)) fun z14_ => X6_read_b60 a1 n1 z14_ r8_)))
noncomputable def F_X7_worth (z : ZI) (x1 : Int) : Option (Int × ZI) :=
  Zgd (InR (x1 * 60)) (Zgd (IJ x1 30) (Yb (F_X6_read 26 1800 z (x1 * 60) (z 27 x1)) fun r5_ z3_ => some (r5_, z3_)))
noncomputable def X7_drawOf_b70 (z : ZI) (x3 : Int) (x4 : Int) (x5 : Int) : Option (Int × ZI) :=
  Zgd (InR (x3 - x4)) (Zgd (IJ 4 8) (Zl (Zup z 31 4 (x3 - x4)) fun z3_ => Yb (F_X7_worth z3_ x5) fun r6_ z4_ => some (max 0 (min 9999 r6_), z4_)))
noncomputable def X7_drawOf_b64 (k27 : ZI → Int → Int → Int → Int → Int → Option (Int × ZI)) (z : ZI) (x2 : Int) (x3 : Int) (x4 : Int) (x5 : Int) (x6 : Int) : Option (Int × ZI) :=
  Zgd (InR (x6 + 1)) (k27 z x2 x3 x4 x5 (x6 + 1))
noncomputable def X7_drawOf_L27b (k27 : ZI → Int → Int → Int → Int → Int → Option (Int × ZI)) (z : ZI) (x2 : Int) (x3 : Int) (x4 : Int) (x5 : Int) (x6 : Int) : Option (Int × ZI) :=
  if (z 11 4) ≤ x6 then (X7_drawOf_b70 z x3 x4 x5) else (Yb (F_X3_isOfHouse z x6 x2) fun r4_ z2_ => if r4_ = 0 then (X7_drawOf_b64 k27 z2_ x2 x3 x4 x5 x6) else (Yb (F_X3_isHere z2_ x6 x3) fun r8_ z6_ => if r8_ = 0 then (X7_drawOf_b64 k27 z6_ x2 x3 x4 x5 x6) else (Yb (F_X7_addToLetters z6_ x6 x3) fun _ z10_ => X7_drawOf_b64 k27 z10_ x2 x3 x4 x5 x6)))
noncomputable def X7_drawOf_L27 : Nat → ZI → Int → Int → Int → Int → Int → Option (Int × ZI)
  | 0, _, _, _, _, _, _ => none
  | n + 1, z, x2, x3, x4, x5, x6 => X7_drawOf_L27b (X7_drawOf_L27 n) z x2 x3 x4 x5 x6
noncomputable def F_X7_drawOf (z : ZI) (x2 : Int) (x3 : Int) (x4 : Int) : Option (Int × ZI) :=
  Yb (F_X7_inForce z 0 x3) fun r3_ z1_ => if r3_ = (-9) then (some (0, z1_)) else (Yb (F_X6_clearLetters z1_) fun _ z5_ => X7_drawOf_L27 Zfuel z5_ x2 x3 x4 r3_ 0)
noncomputable def X10_draw_b80 (z : ZI) (y0 : Int) : Option (Int × ZI) :=
  some (y0, z)
noncomputable def F_X10_draw (z : ZI) (x1 : Int) (x2 : Int) : Option (Int × ZI) :=
  Yb (F_X0_has z x1) fun r3_ z1_ => if r3_ = 0 then (Yb (F_X10_refuse z1_ (-1)) fun r27_ z25_ => some (r27_, z25_)) else (Yb (F_X10_checkRange z1_ x2 0 999) fun r7_ z5_ => if r7_ = 0 then (Yb (F_X0_isGoodOn z5_ x1 x2) fun r11_ z9_ => if r11_ = 0 then (X10_draw_b80 z9_ 0) else (Yb (F_X0_houseOf z9_ x1) fun r15_ z13_ => Yb (F_X0_madeOn z13_ x1) fun r18_ z16_ => Yb (F_X7_drawOf z16_ r15_ x2 r18_) fun r21_ z19_ => X10_draw_b80 z19_ r21_)) else (Yb (F_X10_refuse z5_ r7_) fun r24_ z22_ => some (r24_, z22_)))
noncomputable def F_X10_end (z : ZI) (x1 : Int) : Option (Int × ZI) :=
  Yb (F_X0_has z x1) fun r3_ z1_ => if r3_ = 0 then (Yb (F_X10_refuse z1_ (-1)) fun r17_ z15_ => some (r17_, z15_)) else (Yb (F_X0_isEnded z1_ x1) fun r7_ z5_ => if r7_ = 0 then (Yb (F_X0_close z5_ x1 (z5_ 0 0)) fun _ z9_ => some (1, z9_)) else (Yb (F_X10_refuse z5_ (-3)) fun r14_ z12_ => some (r14_, z12_)))
noncomputable def X7_takeBytes_L3b (k3 : ZI → Int → Int → Int → Option (Int × ZI)) (z : ZI) (x1 : Int) (x2 : Int) (x4 : Int) : Option (Int × ZI) :=
  if x1 ≤ x4 then (some (z 24 1, z)) else (Zgd (InR (8 * x4)) (Zgd (-128 ≤ (ji2b (jl2i (jushrL x2 (8 * x4)))) ∧ (ji2b (jl2i (jushrL x2 (8 * x4)))) ≤ 127) (Zgd (IJ (z 24 1) 60) (Zl (Zup z 25 (z 24 1) (ji2b (jl2i (jushrL x2 (8 * x4))))) fun z4_ => Zgd (InR ((z4_ 24 1) + 1)) (Zl (Zup z4_ 24 1 ((z4_ 24 1) + 1)) fun z7_ => Zgd (InR (x4 + 1)) (k3 z7_ x1 x2 (x4 + 1)))))))
noncomputable def X7_takeBytes_L3 : Nat → ZI → Int → Int → Int → Option (Int × ZI)
  | 0, _, _, _, _ => none
  | n + 1, z, x1, x2, x4 => X7_takeBytes_L3b (X7_takeBytes_L3 n) z x1 x2 x4
noncomputable def F_X7_takeBytes (z : ZI) (x1 : Int) (x2 : Int) : Option (Int × ZI) :=
  X7_takeBytes_L3 Zfuel z x1 x2 0
noncomputable def X10_feed_b32 (z : ZI) : Option (Int × ZI) :=
  Yb (F_X10_refuse z (-6)) fun r3_ z1_ => some (r3_, z1_)
noncomputable def F_X10_feed (z : ZI) (x1 : Int) (x2 : Int) : Option (Int × ZI) :=
  if 1 ≤ x1 then (if 8 < x1 then (X10_feed_b32 z ) else (Zgd (InR ((z 24 1) + x1)) (if ((z 24 1) + x1) ≤ 60 then (Yb (F_X7_takeBytes z x1 x2) fun r7_ z5_ => some (r7_, z5_)) else (X10_feed_b32 z )))) else (Yb (F_X10_refuse z (-4)) fun r10_ z8_ => some (r10_, z8_))
noncomputable def F_X4_comesTo (z : ZI) (x1 : Int) (x2 : Int) : Option (Int × ZI) :=
  Yb (F_X4_pour z x2 0) fun _ z1_ => Zgd (IJ x1 144) (some (z1_ 9 x1, z1_))
noncomputable def X10_flow_b43 (z : ZI) (y0 : Int) : Option (Int × ZI) :=
  some (y0, z)
noncomputable def F_X10_flow (z : ZI) (x1 : Int) (x2 : Int) : Option (Int × ZI) :=
  Yb (F_X10_isCell z x1) fun r3_ z1_ => if r3_ = 0 then (Yb (F_X10_refuse z1_ (-1)) fun r17_ z15_ => some (r17_, z15_)) else (Yb (F_X10_checkRange z1_ x2 1 999) fun r7_ z5_ => if r7_ = 0 then (Yb (F_X4_comesTo z5_ x1 x2) fun r14_ z12_ => X10_flow_b43 z12_ r14_) else (Yb (F_X10_refuse z5_ r7_) fun r11_ z9_ => X10_flow_b43 z9_ r11_))
noncomputable def X10_isSetOf_b16 (z : ZI) (y0 : Int) : Option (Int × ZI) :=
  Zgd (y0 = 0 ∨ y0 = 1) (some (y0, z))
noncomputable def X10_isSetOf_b15 (z : ZI) : Option (Int × ZI) :=
  X10_isSetOf_b16 z 0
noncomputable def F_X10_isSetOf (z : ZI) (x0 : Int) (x1 : Int) : Option (Int × ZI) :=
  if x0 < 0 then (X10_isSetOf_b15 z ) else (if (jshl 1 x1) ≤ x0 then (X10_isSetOf_b15 z ) else (X10_isSetOf_b16 z 1))
noncomputable def X10_foul_b54 (z : ZI) (y0 : Int) : Option (Int × ZI) :=
  some (y0, z)
noncomputable def F_X10_foul (z : ZI) (x1 : Int) (x2 : Int) : Option (Int × ZI) :=
  Yb (F_X10_checkRange z x1 1 999) fun r3_ z1_ => if r3_ = 0 then (Yb (F_X10_isSetOf z1_ x2 (z1_ 2 4)) fun r7_ z5_ => if r7_ = 0 then (Yb (F_X10_refuse z5_ (-1)) fun r11_ z9_ => X10_foul_b54 z9_ r11_) else (Yb (F_X9_foulOnes z5_ x1 x2) fun r14_ z12_ => X10_foul_b54 z12_ r14_)) else (Yb (F_X10_refuse z1_ r3_) fun r17_ z15_ => some (r17_, z15_))
noncomputable def X3_hasPerson_b17 (z : ZI) (y0 : Int) : Option (Int × ZI) :=
  Zgd (y0 = 0 ∨ y0 = 1) (some (y0, z))
noncomputable def X3_hasPerson_b16 (z : ZI) : Option (Int × ZI) :=
  X3_hasPerson_b17 z 0
noncomputable def F_X3_hasPerson (z : ZI) (x1 : Int) : Option (Int × ZI) :=
  if x1 < 0 then (X3_hasPerson_b16 z ) else (if (z 11 4) ≤ x1 then (X3_hasPerson_b16 z ) else (X3_hasPerson_b17 z 1))
noncomputable def F_X3_tell (z : ZI) (x1 : Int) (x2 : Int) (x3 : Int) : Option (Int × ZI) :=
  Zgd (IJ (z 11 10) 150) (Zl (Zup z 20 (z 11 10) x3) fun z2_ => Zgd (IJ (z2_ 11 10) 150) (Zl (Zup z2_ 21 (z2_ 11 10) x2) fun z4_ => Zgd (IJ x1 60) (Zgd (IJ (z4_ 11 10) 150) (Zl (Zup z4_ 22 (z4_ 11 10) (z4_ 19 x1)) fun z7_ => Zgd (IJ x1 60) (Zl (Zup z7_ 19 x1 (z7_ 11 10)) fun z9_ => Zgd (InR ((z9_ 11 10) + 1)) (Zl (Zup z9_ 11 10 ((z9_ 11 10) + 1)) fun z11_ => some (z11_ 11 10, z11_)))))))
noncomputable def X5_placeOf_L2b (k2 : ZI → Int → Int → Option (Int × ZI)) (z : ZI) (x1 : Int) (x2 : Int) : Option (Int × ZI) :=
  if (z 59 0) ≤ x2 then (some ((-9), z)) else (Zgd (IJ x2 60) (if (z 60 x2) = x1 then (some (x2, z)) else (Zgd (InR (x2 + 1)) (k2 z x1 (x2 + 1)))))
noncomputable def X5_placeOf_L2 : Nat → ZI → Int → Int → Option (Int × ZI)
  | 0, _, _, _ => none
  | n + 1, z, x1, x2 => X5_placeOf_L2b (X5_placeOf_L2 n) z x1 x2
noncomputable def F_X5_placeOf (z : ZI) (x1 : Int) : Option (Int × ZI) :=
  X5_placeOf_L2 Zfuel z x1 0
noncomputable def X5_quit_b45 (z : ZI) : Option (Unit × ZI) :=
  Zgd (InR ((z 59 0) - 1)) (Zl (Zup z 59 0 ((z 59 0) - 1)) fun z2_ => some ((), z2_))
noncomputable def X5_quit_L15b (k15 : ZI → Int → Option (Unit × ZI)) (z : ZI) (x3 : Int) : Option (Unit × ZI) :=
  Zgd (InR ((z 59 0) - 1)) (if ((z 59 0) - 1) ≤ x3 then (X5_quit_b45 z ) else (Zgd (InR (x3 + 1)) (Zgd (IJ (x3 + 1) 60) (Zgd (IJ x3 60) (Zl (Zup z 60 x3 (z 60 (x3 + 1))) fun z6_ => Zgd (InR (x3 + 1)) (k15 z6_ (x3 + 1)))))))
noncomputable def X5_quit_L15 : Nat → ZI → Int → Option (Unit × ZI)
  | 0, _, _ => none
  | n + 1, z, x3 => X5_quit_L15b (X5_quit_L15 n) z x3
noncomputable def F_X5_quit (z : ZI) (x1 : Int) : Option (Unit × ZI) :=
  Yb (F_X5_placeOf z x1) fun r3_ z1_ => if r3_ = (-9) then (some ((), z1_)) else (X5_quit_L15 Zfuel z1_ r3_)
noncomputable def X5_place_b55 (z : ZI) (x1 : Int) (x2 : Int) (x3 : Int) : Option (Unit × ZI) :=
  Zgd (IJ x3 60) (Zl (Zup z 61 x3 x1) fun z2_ => Zgd (IJ x3 60) (Zl (Zup z2_ 62 x3 x2) fun z4_ => Zgd (InR ((z4_ 59 2) + 1)) (Zl (Zup z4_ 59 2 ((z4_ 59 2) + 1)) fun z6_ => some ((), z6_))))
noncomputable def X5_place_L5b (k5 : ZI → Int → Int → Int → Option (Unit × ZI)) (z : ZI) (x1 : Int) (x2 : Int) (x3 : Int) : Option (Unit × ZI) :=
  if x3 ≤ 0 then (X5_place_b55 z x1 x2 x3) else (Zgd (InR (x3 - 1)) (Zgd (IJ (x3 - 1) 60) (if x2 ≤ (z 62 (x3 - 1)) then (X5_place_b55 z x1 x2 x3) else (Zgd (InR (x3 - 1)) (Zgd (IJ (x3 - 1) 60) (Zgd (IJ x3 60) (Zl (Zup z 61 x3 (z 61 (x3 - 1))) fun z8_ => Zgd (InR (x3 - 1)) (Zgd (IJ (x3 - 1) 60) (Zgd (IJ x3 60) (Zl (Zup z8_ 62 x3 (z8_ 62 (x3 - 1))) fun z12_ => Zgd (InR (x3 + (-1))) (k5 z12_ x1 x2 (x3 + (-1)))))))))))))
noncomputable def X5_place_L5 : Nat → ZI → Int → Int → Int → Option (Unit × ZI)
  | 0, _, _, _, _ => none
  | n + 1, z, x1, x2, x3 => X5_place_L5b (X5_place_L5 n) z x1 x2 x3
noncomputable def F_X5_place (z : ZI) (x1 : Int) (x2 : Int) : Option (Unit × ZI) :=
  X5_place_L5 Zfuel z x1 x2 (z 59 2)
noncomputable def X7_pointsOf_b67 (z : ZI) (x2 : Int) (x3 : Int) (x4 : Int) (y1 : Int) (y2 : Int) : Option (Int × ZI) :=
  Zgd (IJ y1 8) (Zl (Zup z 31 y1 y2) fun z2_ => Yb (F_X3_ageOn z2_ x2 x3) fun r5_ z3_ => Zgd (IJ 5 8) (Zl (Zup z3_ 31 5 (r5_.tdiv 365)) fun z7_ => Zgd (IJ x2 60) (Zgd (IJ 6 8) (Zl (Zup z7_ 31 6 (z7_ 17 x2)) fun z10_ => Zgd (IJ x2 60) (Zgd (InR (x3 - (z10_ 18 x2))) (Zgd (IJ 7 8) (Zl (Zup z10_ 31 7 (x3 - (z10_ 18 x2))) fun z14_ => Yb (F_X7_worth z14_ x4) fun r17_ z15_ => some (r17_, z15_))))))))
noncomputable def F_X7_pointsOf (z : ZI) (x2 : Int) (x3 : Int) : Option (Int × ZI) :=
  Yb (F_X7_inForce z 1 x3) fun r3_ z1_ => if r3_ = (-9) then (some (0, z1_)) else (Yb (F_X6_clearLetters z1_) fun _ z5_ => Zgd (IJ x2 60) (Yb (F_X3_hereInHouse z5_ (z5_ 15 x2) x3) fun r11_ z9_ => Zgd (IJ 0 8) (Zl (Zup z9_ 31 0 r11_) fun z13_ => Yb (F_X3_stateOn z13_ x2 x3) fun r16_ z14_ => if r16_ = 2 then (X7_pointsOf_b67 z14_ x2 x3 r3_ 3 1) else (X7_pointsOf_b67 z14_ x2 x3 r3_ 3 0))))
noncomputable def X5_rank_b50 (k8 : ZI → Int → Int → Option (Int × ZI)) (z : ZI) (x3 : Int) (x4 : Int) : Option (Int × ZI) :=
  Zgd (InR (x4 + 1)) (k8 z x3 (x4 + 1))
noncomputable def X5_rank_L8b (k8 : ZI → Int → Int → Option (Int × ZI)) (z : ZI) (x3 : Int) (x4 : Int) : Option (Int × ZI) :=
  if (z 59 0) ≤ x4 then (some (z 59 2, z)) else (Zgd (IJ x4 60) (Yb (F_X3_isHere z (z 60 x4) x3) fun r5_ z3_ => if r5_ = 0 then (X5_rank_b50 k8 z3_ x3 x4) else (Yb (F_X7_pointsOf z3_ (z 60 x4) x3) fun r9_ z7_ => Yb (F_X5_place z7_ (z 60 x4) r9_) fun _ z10_ => X5_rank_b50 k8 z10_ x3 x4)))
noncomputable def X5_rank_L8 : Nat → ZI → Int → Int → Option (Int × ZI)
  | 0, _, _, _ => none
  | n + 1, z, x3, x4 => X5_rank_L8b (X5_rank_L8 n) z x3 x4
noncomputable def F_X5_rank (z : ZI) (x3 : Int) : Option (Int × ZI) :=
  Zl (Zup z 59 2 0) fun z1_ => X5_rank_L8 Zfuel z1_ x3 0
noncomputable def X5_rankedAt_b23 (z : ZI) (y0 : Int) : Option (Int × ZI) :=
  some (y0, z)
noncomputable def X5_rankedAt_b21 (z : ZI) : Option (Int × ZI) :=
  X5_rankedAt_b23 z (-9)
noncomputable def F_X5_rankedAt (z : ZI) (x1 : Int) : Option (Int × ZI) :=
  if x1 < 0 then (X5_rankedAt_b21 z ) else (if (z 59 2) ≤ x1 then (X5_rankedAt_b21 z ) else (Zgd (IJ x1 60) (X5_rankedAt_b23 z (z 61 x1))))
noncomputable def F_X9_forgetBest (z : ZI) : Option (Unit × ZI) :=
  Zl (Zup z 41 14 0) fun z1_ => some ((), z1_)
noncomputable def X10_goes_b126 (z : ZI) (x3 : Int) : Option (Int × ZI) :=
  Yb (F_X9_forgetBest z) fun _ z1_ => some (x3, z1_)
noncomputable def X10_goes_b120 (k67 : ZI → Int → Int → Option (Int × ZI)) (z : ZI) (x3 : Int) (x4 : Int) : Option (Int × ZI) :=
  Zgd (InR (x4 + 1)) (k67 z x3 (x4 + 1))
noncomputable def X10_goes_L67b (k67 : ZI → Int → Int → Option (Int × ZI)) (z : ZI) (x3 : Int) (x4 : Int) : Option (Int × ZI) :=
  if x3 ≤ x4 then (X10_goes_b126 z x3) else (Yb (F_X5_rankedAt z x4) fun r4_ z2_ => Yb (F_X3_hasPerson z2_ r4_) fun r7_ z5_ => if r7_ = 0 then (X10_goes_b120 k67 z5_ x3 x4) else (Yb (F_X3_tell z5_ r4_ 3 (z5_ 0 0)) fun r11_ z9_ => Yb (F_X5_quit z9_ r4_) fun _ z12_ => X10_goes_b120 k67 z12_ x3 x4))
noncomputable def X10_goes_L67 : Nat → ZI → Int → Int → Option (Int × ZI)
  | 0, _, _, _ => none
  | n + 1, z, x3, x4 => X10_goes_L67b (X10_goes_L67 n) z x3 x4
noncomputable def F_X10_goes (z : ZI) (x1 : Int) : Option (Int × ZI) :=
  Yb (F_X10_checkRange z x1 0 60) fun r3_ z1_ => if r3_ = 0 then (Yb (F_X5_rank z1_ (z1_ 0 0)) fun r7_ z5_ => Zgd (InR ((z5_ 11 10) + (min x1 r7_))) (if ((z5_ 11 10) + (min x1 r7_)) ≤ 150 then (X10_goes_L67 Zfuel z5_ (min x1 r7_) 0) else (Yb (F_X10_refuse z5_ (-6)) fun r12_ z10_ => some (r12_, z10_)))) else (Yb (F_X10_refuse z1_ r3_) fun r15_ z13_ => some (r15_, z13_))
noncomputable def F_X8_note (z : ZI) (x1 : Int) (x2 : Int) (x3 : Int) : Option (Int × ZI) :=
  Zgd (IJ (z 37 0) 60) (Zl (Zup z 38 (z 37 0) x1) fun z2_ => Zgd (IJ (z2_ 37 0) 60) (Zl (Zup z2_ 39 (z2_ 37 0) x2) fun z4_ => Zgd (IJ (z4_ 37 0) 60) (Zl (Zup z4_ 40 (z4_ 37 0) x3) fun z6_ => Zgd (InR ((z6_ 37 0) + 1)) (Zl (Zup z6_ 37 0 ((z6_ 37 0) + 1)) fun z8_ => some (z8_ 37 0, z8_)))))
noncomputable def X10_handed_b44 (z : ZI) : Option (Int × ZI) :=
  Yb (F_X10_refuse z (-4)) fun r3_ z1_ => some (r3_, z1_)
noncomputable def X10_handed_b77 (z : ZI) : Option (Int × ZI) :=
  Yb (F_X10_refuse z (-6)) fun r3_ z1_ => some (r3_, z1_)
noncomputable def F_X10_handed (z : ZI) (x1 : Int) (x2 : Int) (x3 : Int) : Option (Int × ZI) :=
  Yb (F_X0_has z x1) fun r3_ z1_ => if r3_ = 0 then (Yb (F_X10_refuse z1_ (-1)) fun r22_ z20_ => some (r22_, z20_)) else (Yb (F_X0_isEnded z1_ x1) fun r7_ z5_ => if r7_ = 0 then (if x2 < 1 then (X10_handed_b44 z5_ ) else (if 0 ≤ x3 then (if 9999 < x2 then (X10_handed_b77 z5_ ) else (if 9999 < x3 then (X10_handed_b77 z5_ ) else (if (z5_ 37 0) < 60 then (Yb (F_X8_note z5_ (z5_ 0 0) x2 x3) fun r16_ z14_ => some (r16_, z14_)) else (X10_handed_b77 z5_ )))) else (X10_handed_b44 z5_ ))) else (Yb (F_X10_refuse z5_ (-3)) fun r19_ z17_ => some (r19_, z17_)))
noncomputable def F_X4_raise (z : ZI) (x1 : Int) (x2 : Int) : Option (Int × ZI) :=
  Zgd (IJ x1 144) (Zgd (IJ x1 144) (Zl (Zup z 3 x1 x2) fun z3_ => Zl (Zup z3_ 2 8 0) fun z4_ => some (z 3 x1, z4_)))
noncomputable def F_X10_height (z : ZI) (x1 : Int) (x2 : Int) : Option (Int × ZI) :=
  Yb (F_X10_isCell z x1) fun r3_ z1_ => if r3_ = 0 then (Yb (F_X10_refuse z1_ (-1)) fun r17_ z15_ => some (r17_, z15_)) else (Yb (F_X10_checkRange z1_ x2 0 99) fun r7_ z5_ => if r7_ = 0 then (Yb (F_X4_raise z5_ x1 x2) fun r11_ z9_ => some (r11_, z9_)) else (Yb (F_X10_refuse z5_ r7_) fun r14_ z12_ => some (r14_, z12_)))
noncomputable def X10_here_b47 (z : ZI) (y0 : Int) : Option (Int × ZI) :=
  some (y0, z)
noncomputable def F_X10_here (z : ZI) (x1 : Int) (x2 : Int) : Option (Int × ZI) :=
  Yb (F_X3_hasHouse z x1) fun r3_ z1_ => if r3_ = 0 then (Yb (F_X10_refuse z1_ (-1)) fun r17_ z15_ => some (r17_, z15_)) else (Yb (F_X10_checkRange z1_ x2 0 999) fun r7_ z5_ => if r7_ = 0 then (Yb (F_X3_hereInHouse z5_ x1 x2) fun r14_ z12_ => X10_here_b47 z12_ r14_) else (Yb (F_X10_refuse z5_ r7_) fun r11_ z9_ => X10_here_b47 z9_ r11_))
noncomputable def F_X3_addHouse (z : ZI) (x1 : Int) (x2 : Int) : Option (Int × ZI) :=
  Zgd (IJ (z 11 0) 30) (Zl (Zup z 12 (z 11 0) x1) fun z2_ => Zgd (IJ (z2_ 11 0) 30) (Zl (Zup z2_ 13 (z2_ 11 0) x2) fun z4_ => Zgd (IJ x1 144) (Zl (Zup z4_ 14 x1 (z4_ 11 0)) fun z6_ => Zgd (InR ((z6_ 11 0) + 1)) (Zl (Zup z6_ 11 0 ((z6_ 11 0) + 1)) fun z8_ => some (z6_ 11 0, z8_)))))
noncomputable def F_X3_houseAt (z : ZI) (x1 : Int) : Option (Int × ZI) :=
  Zgd (IJ x1 144) (some (z 14 x1, z))
noncomputable def X10_house_b14 (z : ZI) : Option (Int × ZI) :=
  Yb (F_X10_refuse z (-1)) fun r3_ z1_ => some (r3_, z1_)
noncomputable def F_X10_house (z : ZI) (x1 : Int) (x2 : Int) : Option (Int × ZI) :=
  Yb (F_X10_isCell z x1) fun r3_ z1_ => if r3_ = 0 then (X10_house_b14 z1_ ) else (Yb (F_X10_isBlock z1_ x2) fun r7_ z5_ => if r7_ = 0 then (X10_house_b14 z5_ ) else (Yb (F_X3_houseAt z5_ x1) fun r11_ z9_ => if r11_ = (-9) then (if (z9_ 11 0) < 30 then (Yb (F_X9_forgetBest z9_) fun _ z14_ => Yb (F_X3_addHouse z14_ x1 x2) fun r19_ z17_ => some (r19_, z17_)) else (Yb (F_X10_refuse z9_ (-6)) fun r22_ z20_ => some (r22_, z20_))) else (Yb (F_X10_refuse z9_ (-3)) fun r25_ z23_ => some (r25_, z23_))))
noncomputable def X10_isWind_b14 (z : ZI) (y0 : Int) : Option (Int × ZI) :=
  Zgd (y0 = 0 ∨ y0 = 1) (some (y0, z))
noncomputable def X10_isWind_b13 (z : ZI) : Option (Int × ZI) :=
  X10_isWind_b14 z 0
noncomputable def F_X10_isWind (z : ZI) (x0 : Int) : Option (Int × ZI) :=
  if x0 < 0 then (X10_isWind_b13 z ) else (if 4 ≤ x0 then (X10_isWind_b13 z ) else (X10_isWind_b14 z 1))
noncomputable def F_X2_addLane (z : ZI) (x1 : Int) : Option (Int × ZI) :=
  Zgd (IJ x1 30) (Zl (Zup z 55 x1 (z 54 0)) fun z2_ => Zgd (InR ((z2_ 54 0) + 1)) (Zl (Zup z2_ 54 0 ((z2_ 54 0) + 1)) fun z4_ => some (z2_ 54 0, z4_)))
noncomputable def X2_isLane_b16 (z : ZI) (y0 : Int) : Option (Int × ZI) :=
  Zgd (y0 = 0 ∨ y0 = 1) (some (y0, z))
noncomputable def F_X2_isLane (z : ZI) (x1 : Int) : Option (Int × ZI) :=
  Zgd (IJ x1 30) (if (z 55 x1) = (-9) then (X2_isLane_b16 z 0) else (X2_isLane_b16 z 1))
noncomputable def F_X10_lane (z : ZI) (x1 : Int) : Option (Int × ZI) :=
  Yb (F_X3_hasHouse z x1) fun r3_ z1_ => if r3_ = 0 then (Yb (F_X10_refuse z1_ (-1)) fun r21_ z19_ => some (r21_, z19_)) else (Yb (F_X2_isLane z1_ x1) fun r7_ z5_ => if r7_ = 0 then (if (z5_ 54 0) < 8 then (Yb (F_X2_addLane z5_ x1) fun r12_ z10_ => some (r12_, z10_)) else (Yb (F_X10_refuse z5_ (-6)) fun r15_ z13_ => some (r15_, z13_))) else (Yb (F_X10_refuse z5_ (-3)) fun r18_ z16_ => some (r18_, z16_)))
noncomputable def X2_isCleared_b30 (z : ZI) (y0 : Int) : Option (Int × ZI) :=
  Zgd (y0 = 0 ∨ y0 = 1) (some (y0, z))
noncomputable def X2_isCleared_b29 (z : ZI) : Option (Int × ZI) :=
  X2_isCleared_b30 z 0
noncomputable def F_X2_isCleared (z : ZI) (x1 : Int) (x2 : Int) : Option (Int × ZI) :=
  Zgd (IJ x1 30) (if (z 55 x1) = (-9) then (X2_isCleared_b29 z ) else (Zgd (IJ x1 30) (if (jand (jshr x2 (z 55 x1)) 1) = 1 then (X2_isCleared_b30 z 1) else (X2_isCleared_b29 z ))))
noncomputable def X2_nextHouse_b54 (z : ZI) (y0 : Int) : Option (Int × ZI) :=
  some (y0, z)
noncomputable def X2_nextHouse_b47 (z : ZI) : Option (Int × ZI) :=
  X2_nextHouse_b54 z (-9)
noncomputable def F_X2_nextHouse (z : ZI) (x2 : Int) (x3 : Int) (x4 : Int) : Option (Int × ZI) :=
  Yb (F_X3_cellOf z x2) fun r3_ z1_ => Yb (F_X4_beside z1_ r3_ x3) fun r6_ z4_ => if r6_ = (-9) then (some ((-9), z4_)) else (Yb (F_X3_houseAt z4_ r6_) fun r10_ z8_ => if r10_ = (-9) then (X2_nextHouse_b47 z8_ ) else (Yb (F_X2_isCleared z8_ r10_ x4) fun r14_ z12_ => if r14_ = 0 then (X2_nextHouse_b54 z12_ r10_) else (X2_nextHouse_b47 z12_ )))
noncomputable def X2_burnFrom_b116 (z : ZI) (x4 : Int) : Option (Int × ZI) :=
  some (x4, z)
noncomputable def X2_burnFrom_b110 (k20 : ZI → Int → Int → Int → Option (Int × ZI)) (z : ZI) (x3 : Int) (x4 : Int) (x5 : Int) : Option (Int × ZI) :=
  Zgd (InR (x5 + 1)) (k20 z x3 x4 (x5 + 1))
noncomputable def X2_burnFrom_b104 (k20 : ZI → Int → Int → Int → Option (Int × ZI)) (k37 : ZI → Int → Int → Int → Int → Option (Int × ZI)) (z : ZI) (x3 : Int) (x4 : Int) (x5 : Int) (x6 : Int) : Option (Int × ZI) :=
  Zgd (InR (x6 + 1)) (k37 z x3 x4 x5 (x6 + 1))
noncomputable def X2_burnFrom_L37b (k20 : ZI → Int → Int → Int → Option (Int × ZI)) (k37 : ZI → Int → Int → Int → Int → Option (Int × ZI)) (z : ZI) (x3 : Int) (x4 : Int) (x5 : Int) (x6 : Int) : Option (Int × ZI) :=
  if 4 ≤ x6 then (X2_burnFrom_b110 k20 z x3 x4 x5) else (Zgd (IJ x5 30) (Yb (F_X2_nextHouse z (z 58 x5) x6 x3) fun r5_ z3_ => if r5_ = (-9) then (X2_burnFrom_b104 k20 k37 z3_ x3 x4 x5 x6) else (Zgd (IJ r5_ 30) (if (z3_ 57 r5_) = 0 then (if 30 ≤ x4 then (X2_burnFrom_b104 k20 k37 z3_ x3 x4 x5 x6) else (Zgd (IJ r5_ 30) (Zl (Zup z3_ 57 r5_ 1) fun z11_ => Zgd (IJ x4 30) (Zl (Zup z11_ 58 x4 r5_) fun z13_ => Zgd (InR (x4 + 1)) (X2_burnFrom_b104 k20 k37 z13_ x3 (x4 + 1) x5 x6))))) else (X2_burnFrom_b104 k20 k37 z3_ x3 x4 x5 x6)))))
noncomputable def X2_burnFrom_L37 (k20 : ZI → Int → Int → Int → Option (Int × ZI)) : Nat → ZI → Int → Int → Int → Int → Option (Int × ZI)
  | 0, _, _, _, _, _ => none
  | n + 1, z, x3, x4, x5, x6 => X2_burnFrom_L37b k20 (X2_burnFrom_L37 k20 n) z x3 x4 x5 x6
noncomputable def X2_burnFrom_L20b (k20 : ZI → Int → Int → Int → Option (Int × ZI)) (z : ZI) (x3 : Int) (x4 : Int) (x5 : Int) : Option (Int × ZI) :=
  if x4 ≤ x5 then (X2_burnFrom_b116 z x4) else (if 30 ≤ x5 then (X2_burnFrom_b116 z x4) else (X2_burnFrom_L37 k20 Zfuel z x3 x4 x5 0))
noncomputable def X2_burnFrom_L20 : Nat → ZI → Int → Int → Int → Option (Int × ZI)
  | 0, _, _, _, _ => none
  | n + 1, z, x3, x4, x5 => X2_burnFrom_L20b (X2_burnFrom_L20 n) z x3 x4 x5
noncomputable def F_X2_burnFrom (z : ZI) (x2 : Int) (x3 : Int) : Option (Int × ZI) :=
  Zgd (IJ 0 30) (Zl (Zup z 58 0 x2) fun z2_ => Zgd (IJ x2 30) (Zl (Zup z2_ 57 x2 1) fun z4_ => X2_burnFrom_L20 Zfuel z4_ x3 1 0))
noncomputable def X2_holds_b68 (k35 : ZI → Int → Int → Int → Option (Int × ZI)) (z : ZI) (x2 : Int) (x3 : Int) (x4 : Int) : Option (Int × ZI) :=
  Zgd (InR (x4 + 1)) (k35 z x2 x3 (x4 + 1))
noncomputable def X2_holds_L35b (k35 : ZI → Int → Int → Int → Option (Int × ZI)) (z : ZI) (x2 : Int) (x3 : Int) (x4 : Int) : Option (Int × ZI) :=
  if (z 11 0) ≤ x4 then (some (1, z)) else (Zgd (IJ x4 30) (if (z 57 x4) = 0 then (Yb (F_X2_burnFrom z x4 x3) fun r6_ z4_ => if r6_ ≤ x2 then (X2_holds_b68 k35 z4_ x2 x3 x4) else (some (0, z4_))) else (X2_holds_b68 k35 z x2 x3 x4)))
noncomputable def X2_holds_L35 : Nat → ZI → Int → Int → Int → Option (Int × ZI)
  | 0, _, _, _, _ => none
  | n + 1, z, x2, x3, x4 => X2_holds_L35b (X2_holds_L35 n) z x2 x3 x4
noncomputable def X2_holds_b32 (z : ZI) (x2 : Int) (x3 : Int) : Option (Int × ZI) :=
  X2_holds_L35 Zfuel z x2 x3 0
noncomputable def X2_holds_L3b (k3 : ZI → Int → Int → Int → Option (Int × ZI)) (z : ZI) (x2 : Int) (x3 : Int) (x4 : Int) : Option (Int × ZI) :=
  if (z 11 0) ≤ x4 then (X2_holds_b32 z x2 x3) else (Yb (F_X2_isCleared z x4 x3) fun r4_ z2_ => Zgd (r4_ = 0 ∨ r4_ = 1) (Zgd (IJ x4 30) (Zl (Zup z2_ 57 x4 r4_) fun z6_ => Zgd (InR (x4 + 1)) (k3 z6_ x2 x3 (x4 + 1)))))
noncomputable def X2_holds_L3 : Nat → ZI → Int → Int → Int → Option (Int × ZI)
  | 0, _, _, _, _ => none
  | n + 1, z, x2, x3, x4 => X2_holds_L3b (X2_holds_L3 n) z x2 x3 x4
noncomputable def F_X2_holds (z : ZI) (x2 : Int) (x3 : Int) : Option (Int × ZI) :=
  X2_holds_L3 Zfuel z x2 x3 0
noncomputable def X2_fewestLanes_b73 (k25 : ZI → Int → Int → Int → Option (Int × ZI)) (z : ZI) (x2 : Int) (x3 : Int) (x4 : Int) : Option (Int × ZI) :=
  Zgd (InR (x4 + 1)) (k25 z x2 x3 (x4 + 1))
noncomputable def X2_fewestLanes_b67 (k25 : ZI → Int → Int → Int → Option (Int × ZI)) (k37 : ZI → Int → Int → Int → Int → Option (Int × ZI)) (z : ZI) (x2 : Int) (x3 : Int) (x4 : Int) (x5 : Int) : Option (Int × ZI) :=
  Zgd (InR (x5 + 1)) (k37 z x2 x3 x4 (x5 + 1))
noncomputable def X2_fewestLanes_L37b (k25 : ZI → Int → Int → Int → Option (Int × ZI)) (k37 : ZI → Int → Int → Int → Int → Option (Int × ZI)) (z : ZI) (x2 : Int) (x3 : Int) (x4 : Int) (x5 : Int) : Option (Int × ZI) :=
  if x3 ≤ x5 then (X2_fewestLanes_b73 k25 z x2 x3 x4) else (Yb (F_J6_bitCount_0f7a4 z x5) fun r4_ z2_ => if r4_ = x4 then (Yb (F_X2_holds z2_ x2 x5) fun r8_ z6_ => if r8_ = 0 then (X2_fewestLanes_b67 k25 k37 z6_ x2 x3 x4 x5) else (some (x5, z6_))) else (X2_fewestLanes_b67 k25 k37 z2_ x2 x3 x4 x5))
noncomputable def X2_fewestLanes_L37 (k25 : ZI → Int → Int → Int → Option (Int × ZI)) : Nat → ZI → Int → Int → Int → Int → Option (Int × ZI)
  | 0, _, _, _, _, _ => none
  | n + 1, z, x2, x3, x4, x5 => X2_fewestLanes_L37b k25 (X2_fewestLanes_L37 k25 n) z x2 x3 x4 x5
noncomputable def X2_fewestLanes_L25b (k25 : ZI → Int → Int → Int → Option (Int × ZI)) (z : ZI) (x2 : Int) (x3 : Int) (x4 : Int) : Option (Int × ZI) :=
  if (z 54 0) < x4 then (some ((-9), z)) else (X2_fewestLanes_L37 k25 Zfuel z x2 x3 x4 0)
noncomputable def X2_fewestLanes_L25 : Nat → ZI → Int → Int → Int → Option (Int × ZI)
  | 0, _, _, _, _ => none
  | n + 1, z, x2, x3, x4 => X2_fewestLanes_L25b (X2_fewestLanes_L25 n) z x2 x3 x4
noncomputable def F_X2_fewestLanes (z : ZI) (x2 : Int) : Option (Int × ZI) :=
  Zgd (InR ((jshl 1 (z 54 0)) - 1)) (Yb (F_X2_holds z x2 ((jshl 1 (z 54 0)) - 1)) fun r4_ z2_ => if r4_ = 0 then (some ((-9), z2_)) else (X2_fewestLanes_L25 Zfuel z2_ x2 (jshl 1 (z 54 0)) 0))
noncomputable def X10_lanes_b46 (z : ZI) (y0 : Int) : Option (Int × ZI) :=
  some (y0, z)
noncomputable def F_X10_lanes (z : ZI) (x1 : Int) (x2 : Int) : Option (Int × ZI) :=
  Yb (F_X10_isWind z x1) fun r3_ z1_ => if r3_ = 0 then (Yb (F_X10_refuse z1_ (-2)) fun r17_ z15_ => some (r17_, z15_)) else (Yb (F_X10_checkRange z1_ x2 1 30) fun r7_ z5_ => if r7_ = 0 then (Yb (F_X2_fewestLanes z5_ x2) fun r14_ z12_ => X10_lanes_b46 z12_ r14_) else (Yb (F_X10_refuse z5_ r7_) fun r11_ z9_ => X10_lanes_b46 z9_ r11_))
noncomputable def X4_addLatrine_b26 (z : ZI) : Option (Int × ZI) :=
  Zgd (InR ((z 2 2) + 1)) (Zl (Zup z 2 2 ((z 2 2) + 1)) fun z2_ => some (z 2 2, z2_))
noncomputable def X4_addLatrine_b19 (z : ZI) (x1 : Int) (x2 : Int) : Option (Int × ZI) :=
  Zgd (IJ x1 144) (Zl (Zup z 4 x1 x2) fun z2_ => X4_addLatrine_b26 z2_ )
noncomputable def F_X4_addLatrine (z : ZI) (x1 : Int) (x2 : Int) : Option (Int × ZI) :=
  Zgd (IJ x1 144) (if (z 4 x1) = 0 then (X4_addLatrine_b19 z x1 x2) else (Zgd (IJ x1 144) (if (z 4 x1) ≤ x2 then (X4_addLatrine_b26 z ) else (X4_addLatrine_b19 z x1 x2))))
noncomputable def X10_latrine_b43 (z : ZI) : Option (Int × ZI) :=
  Yb (F_X10_refuse z (-6)) fun r3_ z1_ => some (r3_, z1_)
noncomputable def F_X10_latrine (z : ZI) (x1 : Int) (x2 : Int) : Option (Int × ZI) :=
  Yb (F_X10_isCell z x1) fun r3_ z1_ => if r3_ = 0 then (Yb (F_X10_refuse z1_ (-1)) fun r16_ z14_ => some (r16_, z14_)) else (if 1 ≤ x2 then (if 99999 < x2 then (X10_latrine_b43 z1_ ) else (if (z1_ 2 2) < 14 then (Yb (F_X4_addLatrine z1_ x1 x2) fun r10_ z8_ => some (r10_, z8_)) else (X10_latrine_b43 z1_ ))) else (Yb (F_X10_refuse z1_ (-4)) fun r13_ z11_ => some (r13_, z11_)))
noncomputable def F_X10_list (z : ZI) (x1 : Int) (x2 : Int) : Option (Int × ZI) :=
  Yb (F_X10_checkRange z x1 0 999) fun r3_ z1_ => if r3_ = 0 then (Yb (F_X5_rank z1_ x1) fun r7_ z5_ => Yb (F_X5_rankedAt z5_ x2) fun r10_ z8_ => some (r10_, z8_)) else (Yb (F_X10_refuse z1_ r3_) fun r13_ z11_ => some (r13_, z11_))
noncomputable def X2_stepMinutes_b21 (z : ZI) (y0 : Int) : Option (Int × ZI) :=
  some (y0, z)
noncomputable def F_X2_stepMinutes (z : ZI) (x0 : Int) (x1 : Int) : Option (Int × ZI) :=
  if x0 = x1 then (some (1, z)) else (Zgd (InR (x1 + 2)) (if x0 = ((x1 + 2).tmod 4) then (X2_stepMinutes_b21 z 4) else (X2_stepMinutes_b21 z 2)))
noncomputable def X2_spread_b85 (k6 : ZI → Int → Int → Int → Int → Int → Option (Int × ZI)) (z : ZI) (x2 : Int) (x3 : Int) (x4 : Int) (x5 : Int) (x6 : Int) : Option (Int × ZI) :=
  Zgd (InR (x6 + 1)) (k6 z x2 x3 x4 x5 (x6 + 1))
noncomputable def X2_spread_b73 (k6 : ZI → Int → Int → Int → Int → Int → Option (Int × ZI)) (z : ZI) (x2 : Int) (x3 : Int) (x4 : Int) (x6 : Int) (x7 : Int) (x8 : Int) : Option (Int × ZI) :=
  Zgd (IJ x7 30) (Zl (Zup z 56 x7 x8) fun z2_ => X2_spread_b85 k6 z2_ x2 x3 x4 1 x6)
noncomputable def X2_spread_L6b (k6 : ZI → Int → Int → Int → Int → Int → Option (Int × ZI)) (z : ZI) (x2 : Int) (x3 : Int) (x4 : Int) (x5 : Int) (x6 : Int) : Option (Int × ZI) :=
  if 4 ≤ x6 then (Zgd (x5 = 0 ∨ x5 = 1) (some (x5, z))) else (Yb (F_X2_nextHouse z x2 x6 x4) fun r5_ z3_ => if r5_ = (-9) then (X2_spread_b85 k6 z3_ x2 x3 x4 x5 x6) else (Zgd (IJ x2 30) (Yb (F_X2_stepMinutes z3_ x6 x3) fun r10_ z8_ => Zgd (InR ((z3_ 56 x2) + r10_)) (Zgd (IJ r5_ 30) (if (z8_ 56 r5_) = (-9) then (X2_spread_b73 k6 z8_ x2 x3 x4 x6 r5_ ((z3_ 56 x2) + r10_)) else (Zgd (IJ r5_ 30) (if (z8_ 56 r5_) ≤ ((z3_ 56 x2) + r10_) then (X2_spread_b85 k6 z8_ x2 x3 x4 x5 x6) else (X2_spread_b73 k6 z8_ x2 x3 x4 x6 r5_ ((z3_ 56 x2) + r10_)))))))))
noncomputable def X2_spread_L6 : Nat → ZI → Int → Int → Int → Int → Int → Option (Int × ZI)
  | 0, _, _, _, _, _, _ => none
  | n + 1, z, x2, x3, x4, x5, x6 => X2_spread_L6b (X2_spread_L6 n) z x2 x3 x4 x5 x6
noncomputable def F_X2_spread (z : ZI) (x2 : Int) (x3 : Int) (x4 : Int) : Option (Int × ZI) :=
  X2_spread_L6 Zfuel z x2 x3 x4 0 0
noncomputable def X2_minutesTo_b20 (z : ZI) : Option (Int × ZI) :=
  some ((-9), z)
noncomputable def X2_minutesTo_b115 (z : ZI) (x3 : Int) : Option (Int × ZI) :=
  Zgd (IJ x3 30) (some (z 56 x3, z))
noncomputable def X2_minutesTo_b109 (k45 : ZI → Int → Int → Int → Int → Int → Option (Int × ZI)) (z : ZI) (x3 : Int) (x4 : Int) (x5 : Int) (x6 : Int) (x7 : Int) : Option (Int × ZI) :=
  Zgd (InR (x7 + 1)) (k45 z x3 x4 x5 x6 (x7 + 1))
noncomputable def X2_minutesTo_b103 (k45 : ZI → Int → Int → Int → Int → Int → Option (Int × ZI)) (k65 : ZI → Int → Int → Int → Int → Int → Int → Option (Int × ZI)) (z : ZI) (x3 : Int) (x4 : Int) (x5 : Int) (x6 : Int) (x7 : Int) (x8 : Int) : Option (Int × ZI) :=
  Zgd (InR (x8 + 1)) (k65 z x3 x4 x5 x6 x7 (x8 + 1))
noncomputable def X2_minutesTo_L65b (k45 : ZI → Int → Int → Int → Int → Int → Option (Int × ZI)) (k65 : ZI → Int → Int → Int → Int → Int → Int → Option (Int × ZI)) (z : ZI) (x3 : Int) (x4 : Int) (x5 : Int) (x6 : Int) (x7 : Int) (x8 : Int) : Option (Int × ZI) :=
  if (z 11 0) ≤ x8 then (X2_minutesTo_b109 k45 z x3 x4 x5 x6 x7) else (Zgd (IJ x8 30) (if (z 56 x8) = (-9) then (X2_minutesTo_b103 k45 k65 z x3 x4 x5 x6 x7 x8) else (Yb (F_X2_spread z x8 x4 x5) fun r6_ z4_ => if r6_ = 0 then (X2_minutesTo_b103 k45 k65 z4_ x3 x4 x5 x6 x7 x8) else (X2_minutesTo_b103 k45 k65 z4_ x3 x4 x5 1 x7 x8))))
noncomputable def X2_minutesTo_L65 (k45 : ZI → Int → Int → Int → Int → Int → Option (Int × ZI)) : Nat → ZI → Int → Int → Int → Int → Int → Int → Option (Int × ZI)
  | 0, _, _, _, _, _, _, _ => none
  | n + 1, z, x3, x4, x5, x6, x7, x8 => X2_minutesTo_L65b k45 (X2_minutesTo_L65 k45 n) z x3 x4 x5 x6 x7 x8
noncomputable def X2_minutesTo_L45b (k45 : ZI → Int → Int → Int → Int → Int → Option (Int × ZI)) (z : ZI) (x3 : Int) (x4 : Int) (x5 : Int) (x6 : Int) (x7 : Int) : Option (Int × ZI) :=
  if (z 11 0) ≤ x7 then (X2_minutesTo_b115 z x3) else (if x6 = 0 then (X2_minutesTo_b115 z x3) else (X2_minutesTo_L65 k45 Zfuel z x3 x4 x5 0 x7 0))
noncomputable def X2_minutesTo_L45 : Nat → ZI → Int → Int → Int → Int → Int → Option (Int × ZI)
  | 0, _, _, _, _, _, _ => none
  | n + 1, z, x3, x4, x5, x6, x7 => X2_minutesTo_L45b (X2_minutesTo_L45 n) z x3 x4 x5 x6 x7
noncomputable def F_X2_minutesTo (z : ZI) (x2 : Int) (x3 : Int) (x4 : Int) (x5 : Int) : Option (Int × ZI) :=
  Yb (F_X2_isCleared z x2 x5) fun r3_ z1_ => if r3_ = 0 then (Yb (F_X2_isCleared z1_ x3 x5) fun r7_ z5_ => if r7_ = 0 then (Yb (F_J7_fill_53178 56 30 z5_ (-9)) fun _ z9_ => Zgd (IJ x2 30) (Zl (Zup z9_ 56 x2 0) fun z13_ => X2_minutesTo_L45 Zfuel z13_ x3 x4 x5 1 0)) else (X2_minutesTo_b20 z5_ )) else (X2_minutesTo_b20 z1_ )
noncomputable def X10_minutes_b37 (z : ZI) : Option (Int × ZI) :=
  Yb (F_X10_refuse z (-1)) fun r3_ z1_ => some (r3_, z1_)
noncomputable def F_X10_minutes (z : ZI) (x1 : Int) (x2 : Int) (x3 : Int) (x4 : Int) : Option (Int × ZI) :=
  Yb (F_X3_hasHouse z x1) fun r3_ z1_ => if r3_ = 0 then (X10_minutes_b37 z1_ ) else (Yb (F_X3_hasHouse z1_ x2) fun r7_ z5_ => if r7_ = 0 then (X10_minutes_b37 z5_ ) else (Yb (F_X10_isSetOf z5_ x4 (z5_ 54 0)) fun r11_ z9_ => if r11_ = 0 then (X10_minutes_b37 z9_ ) else (Yb (F_X10_isWind z9_ x3) fun r15_ z13_ => if r15_ = 0 then (Yb (F_X10_refuse z13_ (-2)) fun r22_ z20_ => some (r22_, z20_)) else (Yb (F_X2_minutesTo z13_ x1 x2 x3 x4) fun r19_ z17_ => some (r19_, z17_)))))
noncomputable def F_X10_refuseBeyond (z : ZI) (x1 : Int) : Option (Int × ZI) :=
  Yb (F_X10_refuse z x1) fun r3_ z1_ => Zgd (InR (1000000000 - r3_)) (some (1000000000 - r3_, z1_))
noncomputable def X3_hereInBlock_b43 (k5 : ZI → Int → Int → Int → Int → Option (Int × ZI)) (z : ZI) (x1 : Int) (x2 : Int) (x3 : Int) (x4 : Int) : Option (Int × ZI) :=
  Zgd (InR (x4 + 1)) (k5 z x1 x2 x3 (x4 + 1))
noncomputable def X3_hereInBlock_L5b (k5 : ZI → Int → Int → Int → Int → Option (Int × ZI)) (z : ZI) (x1 : Int) (x2 : Int) (x3 : Int) (x4 : Int) : Option (Int × ZI) :=
  if (z 11 4) ≤ x4 then (some (x3, z)) else (Zgd (IJ x4 60) (Zgd (IJ (z 15 x4) 30) (if (z 13 (z 15 x4)) = x1 then (Yb (F_X3_isHere z x4 x2) fun r7_ z5_ => if r7_ = 0 then (X3_hereInBlock_b43 k5 z5_ x1 x2 x3 x4) else (Zgd (InR (x3 + 1)) (X3_hereInBlock_b43 k5 z5_ x1 x2 (x3 + 1) x4))) else (X3_hereInBlock_b43 k5 z x1 x2 x3 x4))))
noncomputable def X3_hereInBlock_L5 : Nat → ZI → Int → Int → Int → Int → Option (Int × ZI)
  | 0, _, _, _, _, _ => none
  | n + 1, z, x1, x2, x3, x4 => X3_hereInBlock_L5b (X3_hereInBlock_L5 n) z x1 x2 x3 x4
noncomputable def F_X3_hereInBlock (z : ZI) (x1 : Int) (x2 : Int) : Option (Int × ZI) :=
  X3_hereInBlock_L5 Zfuel z x1 x2 0 0
noncomputable def X10_off_b75 (z : ZI) (y0 : Int) : Option (Int × ZI) :=
  some (y0, z)
noncomputable def F_X10_off (z : ZI) (x1 : Int) (x2 : Int) : Option (Int × ZI) :=
  Yb (F_X10_isBlock z x1) fun r3_ z1_ => if r3_ = 0 then (Yb (F_X10_refuseBeyond z1_ (-1)) fun r25_ z23_ => some (r25_, z23_)) else (Yb (F_X10_checkRange z1_ x2 0 999) fun r7_ z5_ => if r7_ = 0 then (Yb (F_X1_known z5_ x1 x2 (z5_ 0 0)) fun r11_ z9_ => if r11_ = (-9) then (Yb (F_X10_refuseBeyond z9_ (-3)) fun r19_ z17_ => X10_off_b75 z17_ r19_) else (Yb (F_X3_hereInBlock z9_ x1 x2) fun r15_ z13_ => Zgd (InR (r11_ - r15_)) (X10_off_b75 z13_ (r11_ - r15_)))) else (Yb (F_X10_refuseBeyond z5_ r7_) fun r22_ z20_ => some (r22_, z20_)))
noncomputable def F_X10_pairs (z : ZI) (x1 : Int) (x2 : Int) : Option (Int × ZI) :=
  Yb (F_X10_checkTwoCards z x1 x2) fun r3_ z1_ => if r3_ = 0 then (Yb (F_X0_houseOf z1_ x1) fun r7_ z5_ => Yb (F_X0_houseOf z5_ x2) fun r10_ z8_ => Yb (F_X3_pairUp z8_ r7_ r10_ (z8_ 0 0)) fun r13_ z11_ => some (r13_, z11_)) else (Yb (F_X10_refuse z1_ r3_) fun r16_ z14_ => some (r16_, z14_))
noncomputable def F_X3_addPerson (z : ZI) (x1 : Int) (x2 : Int) (x3 : Int) (x4 : Int) : Option (Int × ZI) :=
  Zgd (IJ (z 11 4) 60) (Zl (Zup z 15 (z 11 4) x1) fun z2_ => Zgd (IJ (z2_ 11 4) 60) (Zl (Zup z2_ 16 (z2_ 11 4) x2) fun z4_ => Zgd (IJ (z4_ 11 4) 60) (Zl (Zup z4_ 17 (z4_ 11 4) x3) fun z6_ => Zgd (IJ (z6_ 11 4) 60) (Zl (Zup z6_ 18 (z6_ 11 4) x4) fun z8_ => Zgd (IJ (z8_ 11 4) 60) (Zl (Zup z8_ 19 (z8_ 11 4) (-9)) fun z10_ => Zgd (InR ((z10_ 11 4) + 1)) (Zl (Zup z10_ 11 4 ((z10_ 11 4) + 1)) fun z12_ => some (z10_ 11 4, z12_)))))))
noncomputable def X10_person_b27 (z : ZI) : Option (Int × ZI) :=
  Yb (F_X10_refuse z (-2)) fun r3_ z1_ => some (r3_, z1_)
noncomputable def X10_person_b67 (z : ZI) : Option (Int × ZI) :=
  Yb (F_X10_refuse z (-6)) fun r3_ z1_ => some (r3_, z1_)
noncomputable def F_X10_person (z : ZI) (x1 : Int) (x2 : Int) (x3 : Int) : Option (Int × ZI) :=
  Yb (F_X3_hasHouse z x1) fun r3_ z1_ => if r3_ = 0 then (Yb (F_X10_refuse z1_ (-1)) fun r21_ z19_ => some (r21_, z19_)) else (if x3 < 0 then (X10_person_b27 z1_ ) else (if x3 < 6 then (if (-36500) ≤ x2 then (if (z1_ 0 0) < x2 then (X10_person_b67 z1_ ) else (if (z1_ 11 4) < 60 then (Yb (F_X9_forgetBest z1_) fun _ z10_ => Yb (F_X3_addPerson z10_ x1 x2 x3 (z10_ 0 0)) fun r15_ z13_ => some (r15_, z13_)) else (X10_person_b67 z1_ ))) else (Yb (F_X10_refuse z1_ (-4)) fun r18_ z16_ => some (r18_, z16_))) else (X10_person_b27 z1_ )))
noncomputable def X10_points_b51 (z : ZI) (y0 : Int) : Option (Int × ZI) :=
  some (y0, z)
noncomputable def F_X10_points (z : ZI) (x1 : Int) (x2 : Int) : Option (Int × ZI) :=
  Yb (F_X3_hasPerson z x1) fun r3_ z1_ => if r3_ = 0 then (Yb (F_X10_refuseBeyond z1_ (-1)) fun r17_ z15_ => some (r17_, z15_)) else (Yb (F_X10_checkRange z1_ x2 0 999) fun r7_ z5_ => if r7_ = 0 then (Yb (F_X7_pointsOf z5_ x1 x2) fun r14_ z12_ => X10_points_b51 z12_ r14_) else (Yb (F_X10_refuseBeyond z5_ r7_) fun r11_ z9_ => X10_points_b51 z9_ r11_))
noncomputable def X5_asks_b15 (z : ZI) (y0 : Int) : Option (Int × ZI) :=
  Zgd (y0 = 0 ∨ y0 = 1) (some (y0, z))
noncomputable def F_X5_asks (z : ZI) (x1 : Int) : Option (Int × ZI) :=
  Yb (F_X5_placeOf z x1) fun r3_ z1_ => if r3_ = (-9) then (X5_asks_b15 z1_ 0) else (X5_asks_b15 z1_ 1)
noncomputable def X5_join_b29 (z : ZI) : Option (Unit × ZI) :=
  some ((), z)
noncomputable def F_X5_join (z : ZI) (x1 : Int) : Option (Unit × ZI) :=
  if 60 ≤ (z 59 0) then (X5_join_b29 z ) else (Zgd (IJ (z 59 0) 60) (Zl (Zup z 60 (z 59 0) x1) fun z3_ => Zgd (InR ((z3_ 59 0) + 1)) (Zl (Zup z3_ 59 0 ((z3_ 59 0) + 1)) fun z5_ => X5_join_b29 z5_ )))
noncomputable def X10_queue_b54 (z : ZI) : Option (Int × ZI) :=
  some (1, z)
noncomputable def F_X10_queue (z : ZI) (x1 : Int) (x2 : Int) : Option (Int × ZI) :=
  Yb (F_X3_hasPerson z x1) fun r3_ z1_ => if r3_ = 0 then (Yb (F_X10_refuse z1_ (-1)) fun r18_ z16_ => some (r18_, z16_)) else (Yb (F_X5_asks z1_ x1) fun r7_ z5_ => if r7_ = x2 then (some (0, z5_)) else (if x2 = 0 then (Yb (F_X5_quit z5_ x1) fun _ z10_ => X10_queue_b54 z10_ ) else (Yb (F_X5_join z5_ x1) fun _ z13_ => X10_queue_b54 z13_ )))
noncomputable def F_X7_makeOfTape (z : ZI) (x1 : Int) (x2 : Int) : Option (Int × ZI) :=
  Zl (Zup z 24 1 0) fun z1_ => Yb (F_X6_read 25 60 z1_ 0 (z 24 1)) fun r4_ z2_ => Yb (F_X6_sound z2_) fun r7_ z5_ => if r7_ = 0 then (Zgd (InR ((-20) - (z5_ 30 4))) (some ((-20) - (z5_ 30 4), z5_))) else (Zgd (InR ((z5_ 24 2) * 60)) (Zgd (YcpOk z5_ 25 60 1800 0 ((z5_ 24 2) * 60) (z 24 1)) (Zl (Zcp z5_ 25 26 0 ((z5_ 24 2) * 60) (z 24 1)) fun z10_ => Zgd (IJ (z10_ 24 2) 30) (Zl (Zup z10_ 27 (z10_ 24 2) (z 24 1)) fun z13_ => Zgd (IJ (z13_ 24 2) 30) (Zl (Zup z13_ 28 (z13_ 24 2) x1) fun z15_ => Zgd (IJ (z15_ 24 2) 30) (Zl (Zup z15_ 29 (z15_ 24 2) x2) fun z17_ => Zgd (InR ((z17_ 24 2) + 1)) (Zl (Zup z17_ 24 2 ((z17_ 24 2) + 1)) fun z19_ => some (z19_ 24 2, z19_))))))))
noncomputable def X10_rule_b9 (z : ZI) : Option (Int × ZI) :=
  Yb (F_X10_refuse z (-2)) fun r3_ z1_ => some (r3_, z1_)
noncomputable def X10_rule_b50 (z : ZI) : Option (Int × ZI) :=
  Yb (F_X10_refuse z (-6)) fun r3_ z1_ => some (r3_, z1_)
noncomputable def F_X10_rule (z : ZI) (x1 : Int) (x2 : Int) : Option (Int × ZI) :=
  if x1 < 0 then (X10_rule_b9 z ) else (if x1 < 2 then (if (z 0 0) ≤ x2 then (if 999 < x2 then (X10_rule_b50 z ) else (if (z 24 2) < 30 then (Yb (F_X7_makeOfTape z x1 x2) fun r8_ z6_ => some (r8_, z6_)) else (X10_rule_b50 z ))) else (Yb (F_X10_refuse z (-4)) fun r11_ z9_ => some (r11_, z9_))) else (X10_rule_b9 z ))
noncomputable def X9_hourOf_L62b (k62 : ZI → Int → Int → Option (Int × ZI)) (z : ZI) (x2 : Int) (x5 : Int) : Option (Int × ZI) :=
  if (z 41 5) ≤ x5 then (some ((-9), z)) else (Zgd (IJ x5 30) (if (z 46 x5) = x2 then (Zgd (IJ x5 30) (some (z 50 x5, z))) else (Zgd (InR (x5 + 1)) (k62 z x2 (x5 + 1)))))
noncomputable def X9_hourOf_L62 : Nat → ZI → Int → Int → Option (Int × ZI)
  | 0, _, _, _ => none
  | n + 1, z, x2, x5 => X9_hourOf_L62b (X9_hourOf_L62 n) z x2 x5
noncomputable def F_X9_hourOf (z : ZI) (x2 : Int) (x3 : Int) : Option (Int × ZI) :=
  Yb (F_X3_hereInHouse z x2 x3) fun r3_ z1_ => if r3_ = 0 then (Yb (F_X3_blockOf z1_ x2) fun r20_ z18_ => Zgd (IJ r20_ 4) (some (z18_ 45 r20_, z18_))) else (Yb (F_X3_cellOf z1_ x2) fun r7_ z5_ => Yb (F_X9_nearest z5_ r7_) fun r10_ z8_ => if r10_ = (-9) then (some ((-9), z8_)) else (Yb (F_X9_lineUp z8_ r10_ x3) fun _ z12_ => Yb (F_X9_spendDay 45 4 z12_ r10_) fun _ z15_ => X9_hourOf_L62 Zfuel z15_ x2 0))
noncomputable def X10_served_b35 (z : ZI) (y0 : Int) : Option (Int × ZI) :=
  some (y0, z)
noncomputable def F_X10_served (z : ZI) (x1 : Int) : Option (Int × ZI) :=
  Yb (F_X3_hasHouse z x1) fun r3_ z1_ => if r3_ = 0 then (Yb (F_X10_refuse z1_ (-1)) fun r7_ z5_ => X10_served_b35 z5_ r7_) else (Yb (F_X9_hourOf z1_ x1 (z1_ 0 0)) fun r10_ z8_ => X10_served_b35 z8_ r10_)
noncomputable def F_X8_dayOf (z : ZI) (x1 : Int) : Option (Int × ZI) :=
  Zgd (IJ x1 60) (some (z 38 x1, z))
noncomputable def X8_lets_b37 (z : ZI) (y0 : Int) : Option (Int × ZI) :=
  Zgd (y0 = 0 ∨ y0 = 1) (some (y0, z))
noncomputable def F_X8_lets (z : ZI) (x1 : Int) (x2 : Int) : Option (Int × ZI) :=
  Zgd (IJ x1 60) (Zgd (InR (1000 - x2)) (Zgd (InR ((z 39 x1) * (1000 - x2))) (Zgd (IJ x1 60) (Zgd (InR ((((z 39 x1) * (1000 - x2)).tdiv 1000) - (z 40 x1))) (Zgd (InR (-((((z 39 x1) * (1000 - x2)).tdiv 1000) - (z 40 x1)))) (if 1 < (jabs ((((z 39 x1) * (1000 - x2)).tdiv 1000) - (z 40 x1))) then (X8_lets_b37 z 0) else (X8_lets_b37 z 1)))))))
noncomputable def X8_firstNotTrue_L2b (k2 : ZI → Int → Option (Int × ZI)) (z : ZI) (x1 : Int) : Option (Int × ZI) :=
  if (z 37 0) ≤ x1 then (some ((-9), z)) else (Yb (F_X8_lets z x1 0) fun r4_ z2_ => if r4_ = 0 then (some (x1, z2_)) else (Zgd (InR (x1 + 1)) (k2 z2_ (x1 + 1))))
noncomputable def X8_firstNotTrue_L2 : Nat → ZI → Int → Option (Int × ZI)
  | 0, _, _ => none
  | n + 1, z, x1 => X8_firstNotTrue_L2b (X8_firstNotTrue_L2 n) z x1
noncomputable def F_X8_firstNotTrue (z : ZI) : Option (Int × ZI) :=
  X8_firstNotTrue_L2 Zfuel z 0
noncomputable def X8_letsAllFrom_b31 (k2 : ZI → Int → Int → Int → Option (Int × ZI)) (z : ZI) (x1 : Int) (x2 : Int) (x3 : Int) : Option (Int × ZI) :=
  Zgd (InR (x3 + 1)) (k2 z x1 x2 (x3 + 1))
noncomputable def X8_letsAllFrom_L2b (k2 : ZI → Int → Int → Int → Option (Int × ZI)) (z : ZI) (x1 : Int) (x2 : Int) (x3 : Int) : Option (Int × ZI) :=
  if (z 37 0) ≤ x3 then (some (1, z)) else (Zgd (IJ x3 60) (if (z 38 x3) < x1 then (X8_letsAllFrom_b31 k2 z x1 x2 x3) else (Yb (F_X8_lets z x3 x2) fun r6_ z4_ => if r6_ = 0 then (some (0, z4_)) else (X8_letsAllFrom_b31 k2 z4_ x1 x2 x3))))
noncomputable def X8_letsAllFrom_L2 : Nat → ZI → Int → Int → Int → Option (Int × ZI)
  | 0, _, _, _, _ => none
  | n + 1, z, x1, x2, x3 => X8_letsAllFrom_L2b (X8_letsAllFrom_L2 n) z x1 x2 x3
noncomputable def F_X8_letsAllFrom (z : ZI) (x1 : Int) (x2 : Int) : Option (Int × ZI) :=
  X8_letsAllFrom_L2 Zfuel z x1 x2 0
noncomputable def X8_leastLean_L2b (k2 : ZI → Int → Int → Option (Int × ZI)) (z : ZI) (x1 : Int) (x2 : Int) : Option (Int × ZI) :=
  if 300 < x2 then (some ((-9), z)) else (Zgd (IJ x1 60) (Yb (F_X8_letsAllFrom z (z 38 x1) x2) fun r5_ z3_ => if r5_ = 0 then (Zgd (InR (x2 + 1)) (k2 z3_ x1 (x2 + 1))) else (some (x2, z3_))))
noncomputable def X8_leastLean_L2 : Nat → ZI → Int → Int → Option (Int × ZI)
  | 0, _, _, _ => none
  | n + 1, z, x1, x2 => X8_leastLean_L2b (X8_leastLean_L2 n) z x1 x2
noncomputable def F_X8_leastLean (z : ZI) (x1 : Int) : Option (Int × ZI) :=
  X8_leastLean_L2 Zfuel z x1 0
noncomputable def X10_since_b44 (z : ZI) (y0 : Int) : Option (Int × ZI) :=
  some (y0, z)
noncomputable def X10_since_b79 (z : ZI) (y0 : Int) : Option (Int × ZI) :=
  some (y0, z)
noncomputable def X10_since_b16 (z : ZI) (x1 : Int) : Option (Int × ZI) :=
  Yb (F_X8_firstNotTrue z) fun r3_ z1_ => if r3_ = (-9) then (if x1 = 0 then (Zgd (InR ((z1_ 0 0) + 1)) (X10_since_b44 z1_ ((z1_ 0 0) + 1))) else (X10_since_b44 z1_ 0)) else (Yb (F_X8_leastLean z1_ r3_) fun r7_ z5_ => if r7_ = (-9) then (some ((-9), z5_)) else (if x1 = 0 then (Yb (F_X8_dayOf z5_ r3_) fun r12_ z10_ => X10_since_b79 z10_ r12_) else (X10_since_b79 z5_ r7_)))
noncomputable def F_X10_since (z : ZI) (x1 : Int) : Option (Int × ZI) :=
  if x1 = 0 then (X10_since_b16 z x1) else (if x1 = 1 then (X10_since_b16 z x1) else (Yb (F_X10_refuse z (-2)) fun r5_ z3_ => some (r5_, z3_)))
noncomputable def X10_state_b26 (z : ZI) : Option (Int × ZI) :=
  Yb (F_X10_refuse z (-2)) fun r3_ z1_ => some (r3_, z1_)
noncomputable def F_X10_state (z : ZI) (x1 : Int) (x2 : Int) : Option (Int × ZI) :=
  Yb (F_X3_hasPerson z x1) fun r3_ z1_ => if r3_ = 0 then (Yb (F_X10_refuse z1_ (-1)) fun r26_ z24_ => some (r26_, z24_)) else (if x2 < 0 then (X10_state_b26 z1_ ) else (if x2 < 5 then (Yb (F_X3_stateOn z1_ x1 (z1_ 0 0)) fun r9_ z7_ => if r9_ = 4 then (Yb (F_X10_refuse z7_ (-3)) fun r23_ z21_ => some (r23_, z21_)) else (if (z7_ 11 10) < 150 then (Yb (F_X9_forgetBest z7_) fun _ z12_ => Yb (F_X3_tell z12_ x1 x2 (z12_ 0 0)) fun r17_ z15_ => some (r17_, z15_)) else (Yb (F_X10_refuse z7_ (-6)) fun r20_ z18_ => some (r20_, z18_)))) else (X10_state_b26 z1_ )))
noncomputable def X10_stateOf_b47 (z : ZI) (y0 : Int) : Option (Int × ZI) :=
  some (y0, z)
noncomputable def F_X10_stateOf (z : ZI) (x1 : Int) (x2 : Int) : Option (Int × ZI) :=
  Yb (F_X3_hasPerson z x1) fun r3_ z1_ => if r3_ = 0 then (Yb (F_X10_refuse z1_ (-1)) fun r17_ z15_ => some (r17_, z15_)) else (Yb (F_X10_checkRange z1_ x2 0 999) fun r7_ z5_ => if r7_ = 0 then (Yb (F_X3_stateOn z5_ x1 x2) fun r14_ z12_ => X10_stateOf_b47 z12_ r14_) else (Yb (F_X10_refuse z5_ r7_) fun r11_ z9_ => X10_stateOf_b47 z9_ r11_))
noncomputable def X3_hereInAll_b24 (k4 : ZI → Int → Int → Int → Option (Int × ZI)) (z : ZI) (x1 : Int) (x2 : Int) (x3 : Int) : Option (Int × ZI) :=
  Zgd (InR (x3 + 1)) (k4 z x1 x2 (x3 + 1))
noncomputable def X3_hereInAll_L4b (k4 : ZI → Int → Int → Int → Option (Int × ZI)) (z : ZI) (x1 : Int) (x2 : Int) (x3 : Int) : Option (Int × ZI) :=
  if (z 11 4) ≤ x3 then (some (x2, z)) else (Yb (F_X3_isHere z x3 x1) fun r4_ z2_ => if r4_ = 0 then (X3_hereInAll_b24 k4 z2_ x1 x2 x3) else (Zgd (InR (x2 + 1)) (X3_hereInAll_b24 k4 z2_ x1 (x2 + 1) x3)))
noncomputable def X3_hereInAll_L4 : Nat → ZI → Int → Int → Int → Option (Int × ZI)
  | 0, _, _, _, _ => none
  | n + 1, z, x1, x2, x3 => X3_hereInAll_L4b (X3_hereInAll_L4 n) z x1 x2 x3
noncomputable def F_X3_hereInAll (z : ZI) (x1 : Int) : Option (Int × ZI) :=
  X3_hereInAll_L4 Zfuel z x1 0 0
noncomputable def X10_total_b179 (z : ZI) (y0 : Int) : Option (Int × ZI) :=
  some (y0, z)
noncomputable def X10_total_b177 (z : ZI) : Option (Int × ZI) :=
  X10_total_b179 z (-9)
noncomputable def F_X10_total (z : ZI) (x1 : Int) : Option (Int × ZI) :=
  if x1 = 0 then (some (z 0 0, z)) else if x1 = 1 then (some (z 11 0, z)) else if x1 = 2 then (some (z 11 4, z)) else if x1 = 3 then (Yb (F_X3_hereInAll z (z 0 0)) fun r7_ z5_ => some (r7_, z5_)) else if x1 = 4 then (Yb (F_X0_notEnded z) fun r11_ z9_ => some (r11_, z9_)) else if x1 = 5 then (some (z 37 0, z)) else if x1 = 6 then (some (z 41 0, z)) else if x1 = 7 then (some (z 2 2, z)) else if x1 = 8 then (some (z 59 0, z)) else if x1 = 9 then (some (z 24 1, z)) else if x1 = 10 then (some (z 24 2, z)) else (if (w32 (x1 - 10)) < 1 then (X10_total_b177 z ) else (if 7 ≤ (w32 (x1 - 10)) then (X10_total_b177 z ) else (Zgd (IJ (w32 (x1 - 10)) 7) (X10_total_b179 z (z 1 (w32 (x1 - 10)))))))
noncomputable def F_X9_dig (z : ZI) (x1 : Int) (x2 : Int) (x3 : Int) : Option (Int × ZI) :=
  Zgd (IJ (z 41 0) 6) (Zl (Zup z 42 (z 41 0) x1) fun z2_ => Zgd (IJ (z2_ 41 0) 6) (Zl (Zup z2_ 43 (z2_ 41 0) x2) fun z4_ => Zgd (IJ (z4_ 41 0) 6) (Zl (Zup z4_ 44 (z4_ 41 0) x3) fun z6_ => Zl (Zup z6_ 41 14 0) fun z7_ => Zgd (InR ((z7_ 41 0) + 1)) (Zl (Zup z7_ 41 0 ((z7_ 41 0) + 1)) fun z9_ => some (z7_ 41 0, z9_)))))
noncomputable def X10_well_b23 (z : ZI) : Option (Int × ZI) :=
  Yb (F_X10_refuse z (-4)) fun r3_ z1_ => some (r3_, z1_)
noncomputable def X10_well_b55 (z : ZI) : Option (Int × ZI) :=
  Yb (F_X10_refuse z (-6)) fun r3_ z1_ => some (r3_, z1_)
noncomputable def F_X10_well (z : ZI) (x1 : Int) (x2 : Int) (x3 : Int) : Option (Int × ZI) :=
  Yb (F_X10_isCell z x1) fun r3_ z1_ => if r3_ = 0 then (Yb (F_X10_refuse z1_ (-1)) fun r15_ z13_ => some (r15_, z13_)) else (if x2 < 1 then (X10_well_b23 z1_ ) else (if 1 ≤ x3 then (if 99 < x2 then (X10_well_b55 z1_ ) else (if 9999 < x3 then (X10_well_b55 z1_ ) else (if (z1_ 41 0) < 6 then (Yb (F_X9_dig z1_ x1 x2 x3) fun r12_ z10_ => some (r12_, z10_)) else (X10_well_b55 z1_ )))) else (X10_well_b23 z1_ )))
noncomputable def X11_away_b10 (z : ZI) (y0 : Int) : Option (Int × ZI) :=
  some (y0, z)
noncomputable def F_X11_away (z : ZI) (x0 : Int) : Option (Int × ZI) :=
  if 0 ≤ x0 then (X11_away_b10 z x0) else (Zgd (InR (-x0)) (X11_away_b10 z (-x0)))
noncomputable def F_X11_far (z : ZI) (x0 : Int) (x1 : Int) : Option (Int × ZI) :=
  Zgd (InR ((x0.tmod 12) - (x1.tmod 12))) (Yb (F_X11_away z ((x0.tmod 12) - (x1.tmod 12))) fun r4_ z2_ => Zgd (InR ((x0.tdiv 12) - (x1.tdiv 12))) (Yb (F_X11_away z2_ ((x0.tdiv 12) - (x1.tdiv 12))) fun r8_ z6_ => Zgd (InR (r4_ + r8_)) (some (r4_ + r8_, z6_))))
noncomputable def X11_stateOn_b60 (k18 : ZI → Int → Int → Int → Int → Option (Int × ZI)) (z : ZI) (x1 : Int) (x2 : Int) (x4 : Int) (y0 : Int) : Option (Int × ZI) :=
  Zgd (InR (x4 + 1)) (k18 z x1 x2 y0 (x4 + 1))
noncomputable def X11_stateOn_b59 (k18 : ZI → Int → Int → Int → Int → Option (Int × ZI)) (z : ZI) (x1 : Int) (x2 : Int) (x3 : Int) (x4 : Int) : Option (Int × ZI) :=
  X11_stateOn_b60 k18 z x1 x2 x4 x3
noncomputable def X11_stateOn_L18b (k18 : ZI → Int → Int → Int → Int → Option (Int × ZI)) (z : ZI) (x1 : Int) (x2 : Int) (x3 : Int) (x4 : Int) : Option (Int × ZI) :=
  if (z 68 14) ≤ x4 then (some (x3, z)) else (Zgd (IJ x4 150) (if (z 77 x4) = x1 then (Zgd (IJ x4 150) (if x2 < (z 79 x4) then (X11_stateOn_b59 k18 z x1 x2 x3 x4) else (Zgd (IJ x4 150) (X11_stateOn_b60 k18 z x1 x2 x4 (z 78 x4))))) else (X11_stateOn_b59 k18 z x1 x2 x3 x4)))
noncomputable def X11_stateOn_L18 : Nat → ZI → Int → Int → Int → Int → Option (Int × ZI)
  | 0, _, _, _, _, _ => none
  | n + 1, z, x1, x2, x3, x4 => X11_stateOn_L18b (X11_stateOn_L18 n) z x1 x2 x3 x4
noncomputable def F_X11_stateOn (z : ZI) (x1 : Int) (x2 : Int) : Option (Int × ZI) :=
  Zgd (IJ x1 60) (if (z 76 x1) ≤ x2 then (X11_stateOn_L18 Zfuel z x1 x2 0 0) else (some ((-9), z)))
noncomputable def X11_isHere_b21 (z : ZI) (y0 : Int) : Option (Int × ZI) :=
  Zgd (y0 = 0 ∨ y0 = 1) (some (y0, z))
noncomputable def X11_isHere_b16 (z : ZI) : Option (Int × ZI) :=
  X11_isHere_b21 z 1
noncomputable def F_X11_isHere (z : ZI) (x1 : Int) (x2 : Int) : Option (Int × ZI) :=
  Yb (F_X11_stateOn z x1 x2) fun r3_ z1_ => if r3_ = 0 then (X11_isHere_b16 z1_ ) else (if r3_ = 2 then (X11_isHere_b16 z1_ ) else (X11_isHere_b21 z1_ 0))
noncomputable def X11_hereOf_b41 (k5 : ZI → Int → Int → Int → Int → Option (Int × ZI)) (z : ZI) (x1 : Int) (x2 : Int) (x4 : Int) (y0 : Int) (y1 : Int) : Option (Int × ZI) :=
  Zgd (InR (y0 + y1)) (Zgd (InR (x4 + 1)) (k5 z x1 x2 (y0 + y1) (x4 + 1)))
noncomputable def X11_hereOf_b40 (k5 : ZI → Int → Int → Int → Int → Option (Int × ZI)) (z : ZI) (x1 : Int) (x2 : Int) (x4 : Int) (y0 : Int) : Option (Int × ZI) :=
  X11_hereOf_b41 k5 z x1 x2 x4 y0 0
noncomputable def X11_hereOf_L5b (k5 : ZI → Int → Int → Int → Int → Option (Int × ZI)) (z : ZI) (x1 : Int) (x2 : Int) (x3 : Int) (x4 : Int) : Option (Int × ZI) :=
  if (z 68 13) ≤ x4 then (some (x3, z)) else (Zgd (IJ x4 60) (if (z 73 x4) = x1 then (Yb (F_X11_isHere z x4 x2) fun r6_ z4_ => if r6_ = 0 then (X11_hereOf_b40 k5 z4_ x1 x2 x4 x3) else (X11_hereOf_b41 k5 z4_ x1 x2 x4 x3 1)) else (X11_hereOf_b40 k5 z x1 x2 x4 x3)))
noncomputable def X11_hereOf_L5 : Nat → ZI → Int → Int → Int → Int → Option (Int × ZI)
  | 0, _, _, _, _, _ => none
  | n + 1, z, x1, x2, x3, x4 => X11_hereOf_L5b (X11_hereOf_L5 n) z x1 x2 x3 x4
noncomputable def F_X11_hereOf (z : ZI) (x1 : Int) (x2 : Int) : Option (Int × ZI) :=
  X11_hereOf_L5 Zfuel z x1 x2 0 0
noncomputable def F_X11_no (z : ZI) (x1 : Int) : Option (Int × ZI) :=
  Zgd (InR (-x1)) (Zgd (IJ (-x1) 7) (Zgd (InR ((z 69 (-x1)) + 1)) (Zgd (IJ (-x1) 7) (Zl (Zup z 69 (-x1) ((z 69 (-x1)) + 1)) fun z5_ => some (x1, z5_)))))
noncomputable def X11_isCard_b17 (z : ZI) (y0 : Int) : Option (Int × ZI) :=
  Zgd (y0 = 0 ∨ y0 = 1) (some (y0, z))
noncomputable def X11_isCard_b16 (z : ZI) : Option (Int × ZI) :=
  X11_isCard_b17 z 0
noncomputable def F_X11_isCard (z : ZI) (x1 : Int) : Option (Int × ZI) :=
  if x1 < 0 then (X11_isCard_b16 z ) else (if (z 68 34) ≤ x1 then (X11_isCard_b16 z ) else (X11_isCard_b17 z 1))
noncomputable def X11_notTwo_b49 (z : ZI) (y0 : Int) : Option (Int × ZI) :=
  some (y0, z)
noncomputable def X11_notTwo_b21 (z : ZI) : Option (Int × ZI) :=
  X11_notTwo_b49 z (-1)
noncomputable def X11_notTwo_b43 (z : ZI) : Option (Int × ZI) :=
  X11_notTwo_b49 z (-3)
noncomputable def F_X11_notTwo (z : ZI) (x1 : Int) (x2 : Int) : Option (Int × ZI) :=
  Yb (F_X11_isCard z x1) fun r3_ z1_ => if r3_ = 0 then (X11_notTwo_b21 z1_ ) else (Yb (F_X11_isCard z1_ x2) fun r7_ z5_ => if r7_ = 0 then (X11_notTwo_b21 z5_ ) else (if x1 = x2 then (X11_notTwo_b21 z5_ ) else (Zgd (IJ x1 40) (if 0 ≤ (z5_ 90 x1) then (X11_notTwo_b43 z5_ ) else (Zgd (IJ x2 40) (if (z5_ 90 x2) < 0 then (X11_notTwo_b49 z5_ 0) else (X11_notTwo_b43 z5_ )))))))
noncomputable def X11_isIn_b18 (z : ZI) (y0 : Int) : Option (Int × ZI) :=
  Zgd (y0 = 0 ∨ y0 = 1) (some (y0, z))
noncomputable def X11_isIn_b17 (z : ZI) : Option (Int × ZI) :=
  X11_isIn_b18 z 0
noncomputable def F_X11_isIn (z : ZI) (x0 : Int) (x2 : Int) (x4 : Int) : Option (Int × ZI) :=
  if (jcmp x0 x2) < 0 then (X11_isIn_b17 z ) else (if 0 < (jcmp x0 x4) then (X11_isIn_b17 z ) else (X11_isIn_b18 z 1))
noncomputable def X11_pairsOf_b199 (k31 : ZI → Int → Int → Int → Int → Option (Int × ZI)) (z : ZI) (x1 : Int) (x2 : Int) (x3 : Int) (x4 : Int) : Option (Int × ZI) :=
  Zgd (InR (x4 + 1)) (k31 z x1 x2 x3 (x4 + 1))
noncomputable def X11_pairsOf_b193 (k31 : ZI → Int → Int → Int → Int → Option (Int × ZI)) (k78 : ZI → Int → Int → Int → Int → Int → Int → Option (Int × ZI)) (z : ZI) (x1 : Int) (x2 : Int) (x3 : Int) (x4 : Int) (x5 : Int) (x6 : Int) : Option (Int × ZI) :=
  Zgd (InR (x6 + 1)) (k78 z x1 x2 x3 x4 x5 (x6 + 1))
noncomputable def X11_pairsOf_L78b (k31 : ZI → Int → Int → Int → Int → Option (Int × ZI)) (k78 : ZI → Int → Int → Int → Int → Int → Int → Option (Int × ZI)) (z : ZI) (x1 : Int) (x2 : Int) (x3 : Int) (x4 : Int) (x5 : Int) (x6 : Int) : Option (Int × ZI) :=
  if (z 68 13) ≤ x6 then (X11_pairsOf_b199 k31 z x1 x2 x3 x4) else (if x5 = 0 then (Zgd (IJ x6 60) (Zgd (IJ x2 40) (if (z 73 x6) = (z 88 x2) then (Yb (F_X11_isHere z x6 (z 68 11)) fun r8_ z6_ => if r8_ = 0 then (X11_pairsOf_b193 k31 k78 z6_ x1 x2 x3 x4 x5 x6) else (Zgd (IJ x6 60) (if (z6_ 94 x6) = 0 then (X11_pairsOf_b193 k31 k78 z6_ x1 x2 x3 x4 x5 x6) else (Zgd (IJ x4 60) (Zgd (IJ x6 60) (Zgd (InR ((z6_ 74 x4) - (z6_ 74 x6))) (Yb (F_X11_isIn z6_ ((z6_ 74 x4) - (z6_ 74 x6)) (-3) 3) fun r17_ z15_ => if r17_ = 0 then (X11_pairsOf_b193 k31 k78 z15_ x1 x2 x3 x4 x5 x6) else (Zgd (IJ x4 60) (Zgd (IJ x6 60) (if (z15_ 75 x4) = (z15_ 75 x6) then (Zgd (IJ x6 60) (Zl (Zup z15_ 94 x6 0) fun z23_ => Zgd (InR (x3 + 1)) (X11_pairsOf_b193 k31 k78 z23_ x1 x2 (x3 + 1) x4 1 x6))) else (X11_pairsOf_b193 k31 k78 z15_ x1 x2 x3 x4 x5 x6))))))))))) else (X11_pairsOf_b193 k31 k78 z x1 x2 x3 x4 x5 x6)))) else (X11_pairsOf_b199 k31 z x1 x2 x3 x4))
noncomputable def X11_pairsOf_L78 (k31 : ZI → Int → Int → Int → Int → Option (Int × ZI)) : Nat → ZI → Int → Int → Int → Int → Int → Int → Option (Int × ZI)
  | 0, _, _, _, _, _, _, _ => none
  | n + 1, z, x1, x2, x3, x4, x5, x6 => X11_pairsOf_L78b k31 (X11_pairsOf_L78 k31 n) z x1 x2 x3 x4 x5 x6
noncomputable def X11_pairsOf_L31b (k31 : ZI → Int → Int → Int → Int → Option (Int × ZI)) (z : ZI) (x1 : Int) (x2 : Int) (x3 : Int) (x4 : Int) : Option (Int × ZI) :=
  if (z 68 13) ≤ x4 then (some (x3, z)) else (Zgd (IJ x4 60) (Zgd (IJ x1 40) (if (z 73 x4) = (z 88 x1) then (Yb (F_X11_isHere z x4 (z 68 11)) fun r7_ z5_ => if r7_ = 0 then (X11_pairsOf_b199 k31 z5_ x1 x2 x3 x4) else (X11_pairsOf_L78 k31 Zfuel z5_ x1 x2 x3 x4 0 0)) else (X11_pairsOf_b199 k31 z x1 x2 x3 x4))))
noncomputable def X11_pairsOf_L31 : Nat → ZI → Int → Int → Int → Int → Option (Int × ZI)
  | 0, _, _, _, _, _ => none
  | n + 1, z, x1, x2, x3, x4 => X11_pairsOf_L31b (X11_pairsOf_L31 n) z x1 x2 x3 x4
noncomputable def X11_pairsOf_b28 (z : ZI) (x1 : Int) (x2 : Int) (x3 : Int) : Option (Int × ZI) :=
  X11_pairsOf_L31 Zfuel z x1 x2 x3 0
noncomputable def X11_pairsOf_L5b (k5 : ZI → Int → Int → Int → Int → Option (Int × ZI)) (z : ZI) (x1 : Int) (x2 : Int) (x3 : Int) (x4 : Int) : Option (Int × ZI) :=
  if (z 68 13) ≤ x4 then (X11_pairsOf_b28 z x1 x2 x3) else (Zgd (IJ x4 60) (Zl (Zup z 94 x4 1) fun z3_ => Zgd (InR (x4 + 1)) (k5 z3_ x1 x2 x3 (x4 + 1))))
noncomputable def X11_pairsOf_L5 : Nat → ZI → Int → Int → Int → Int → Option (Int × ZI)
  | 0, _, _, _, _, _ => none
  | n + 1, z, x1, x2, x3, x4 => X11_pairsOf_L5b (X11_pairsOf_L5 n) z x1 x2 x3 x4
noncomputable def F_X11_pairsOf (z : ZI) (x1 : Int) (x2 : Int) : Option (Int × ZI) :=
  X11_pairsOf_L5 Zfuel z x1 x2 0 0
noncomputable def X11_alike_b134 (z : ZI) (y0 : Int) : Option (Int × ZI) :=
  some (y0, z)
noncomputable def X11_alike_b124 (z : ZI) (x6 : Int) : Option (Int × ZI) :=
  if x6 ≤ 0 then (X11_alike_b134 z 0) else (X11_alike_b134 z 1)
noncomputable def X11_alike_b96 (z : ZI) (x4 : Int) (x5 : Int) (x6 : Int) (y0 : Int) (y1 : Int) : Option (Int × ZI) :=
  if y0 = y1 then (Zgd (IJ x4 30) (Zgd (IJ x5 30) (Yb (F_X11_far z (z 71 x4) (z 71 x5)) fun r6_ z4_ => if 3 < r6_ then (X11_alike_b124 z4_ x6) else (X11_alike_b134 z4_ 2)))) else (X11_alike_b124 z x6)
noncomputable def F_X11_alike (z : ZI) (x1 : Int) (x2 : Int) : Option (Int × ZI) :=
  Yb (F_X11_notTwo z x1 x2) fun r3_ z1_ => if r3_ = 0 then (Zgd (IJ x1 40) (Zgd (IJ x2 40) (if (z1_ 88 x1) = (z1_ 88 x2) then (some (2, z1_)) else (Yb (F_X11_pairsOf z1_ x1 x2) fun r10_ z8_ => Yb (F_X11_hereOf z8_ (z1_ 88 x1) (z8_ 68 11)) fun r13_ z11_ => Yb (F_X11_hereOf z11_ (z1_ 88 x2) (z11_ 68 11)) fun r16_ z14_ => if r10_ < 2 then (X11_alike_b124 z14_ r10_) else (if r16_ ≤ r13_ then (X11_alike_b96 z14_ (z1_ 88 x1) (z1_ 88 x2) r10_ r10_ r16_) else (X11_alike_b96 z14_ (z1_ 88 x1) (z1_ 88 x2) r10_ r10_ r13_)))))) else (Yb (F_X11_no z1_ r3_) fun r21_ z19_ => some (r21_, z19_))
noncomputable def F_X11_becomes (z : ZI) (x1 : Int) (x2 : Int) : Option (Unit × ZI) :=
  Zgd (IJ (z 68 14) 150) (Zl (Zup z 77 (z 68 14) x1) fun z2_ => Zgd (IJ (z2_ 68 14) 150) (Zl (Zup z2_ 78 (z2_ 68 14) x2) fun z4_ => Zgd (IJ (z4_ 68 14) 150) (Zl (Zup z4_ 79 (z4_ 68 14) (z4_ 68 11)) fun z6_ => Zgd (InR ((z6_ 68 14) + 1)) (Zl (Zup z6_ 68 14 ((z6_ 68 14) + 1)) fun z8_ => some ((), z8_)))))
noncomputable def X11_beside_b33 (z : ZI) (y0 : Int) : Option (Int × ZI) :=
  some (y0, z)
noncomputable def X11_beside_b60 (z : ZI) (y0 : Int) : Option (Int × ZI) :=
  some (y0, z)
noncomputable def X11_beside_b86 (z : ZI) (y0 : Int) : Option (Int × ZI) :=
  some (y0, z)
noncomputable def X11_beside_b107 (z : ZI) (y0 : Int) : Option (Int × ZI) :=
  some (y0, z)
noncomputable def F_X11_beside (z : ZI) (x1 : Int) (x2 : Int) : Option (Int × ZI) :=
  Zgd (IJ x1 30) (if x2 = 0 then (if 11 ≤ ((z 71 x1).tmod 12) then (X11_beside_b33 z (-9)) else (Zgd (InR ((z 71 x1) + 1)) (Zgd (IJ ((z 71 x1) + 1) 144) (X11_beside_b33 z (z 118 ((z 71 x1) + 1)))))) else (if x2 = 1 then (if 132 ≤ (z 71 x1) then (X11_beside_b60 z (-9)) else (Zgd (InR ((z 71 x1) + 12)) (Zgd (IJ ((z 71 x1) + 12) 144) (X11_beside_b60 z (z 118 ((z 71 x1) + 12)))))) else (if x2 = 2 then (if ((z 71 x1).tmod 12) ≤ 0 then (X11_beside_b86 z (-9)) else (Zgd (InR ((z 71 x1) - 1)) (Zgd (IJ ((z 71 x1) - 1) 144) (X11_beside_b86 z (z 118 ((z 71 x1) - 1)))))) else (if (z 71 x1) < 12 then (X11_beside_b107 z (-9)) else (Zgd (InR ((z 71 x1) - 12)) (Zgd (IJ ((z 71 x1) - 12) 144) (X11_beside_b107 z (z 118 ((z 71 x1) - 12)))))))))
noncomputable def X11_drawsAt_b231 (a2 n2 : Nat) (z : ZI) : Option (Unit × ZI) :=
  some ((), z)
noncomputable def X11_drawsAt_b225 (a2 n2 : Nat) (k39 : ZI → Int → Int → Int → Int → Int → Option (Unit × ZI)) (z : ZI) (x1 : Int) (x3 : Int) (x4 : Int) (x5 : Int) (x6 : Int) : Option (Unit × ZI) :=
  Zgd (InR (x6 + 1)) (k39 z x1 x3 x4 x5 (x6 + 1))
noncomputable def X11_drawsAt_b219 (a2 n2 : Nat) (k39 : ZI → Int → Int → Int → Int → Int → Option (Unit × ZI)) (k81 : ZI → Int → Int → Int → Int → Int → Int → Int → Option (Unit × ZI)) (z : ZI) (x1 : Int) (x3 : Int) (x4 : Int) (x5 : Int) (x6 : Int) (x7 : Int) (x8 : Int) : Option (Unit × ZI) :=
  Zgd (InR (x8 + 1)) (k81 z x1 x3 x4 x5 x6 x7 (x8 + 1))
noncomputable def X11_drawsAt_b171 (a2 n2 : Nat) (k39 : ZI → Int → Int → Int → Int → Int → Option (Unit × ZI)) (k81 : ZI → Int → Int → Int → Int → Int → Int → Int → Option (Unit × ZI)) (z : ZI) (x1 : Int) (x3 : Int) (x4 : Int) (x5 : Int) (x6 : Int) (x7 : Int) (x8 : Int) (x9 : Int) (x10 : Int) (y0 : Int) : Option (Unit × ZI) :=
  Zgd (IJ x9 30) (Zgd (InR ((z 101 x9) + y0)) (Zgd (IJ x9 30) (Zl (Zup z 101 x9 ((z 101 x9) + y0)) fun z4_ => Zgd (InR (x7 - y0)) (Zgd (InR (x3 - y0)) (if x10 ≤ y0 then (Zgd (IJ x9 30) (Zl (Zup z4_ 102 x9 x6) fun z9_ => Zgd (InR (x5 + (-1))) (X11_drawsAt_b219 a2 n2 k39 k81 z9_ x1 (x3 - y0) x4 (x5 + (-1)) x6 (x7 - y0) x8))) else (X11_drawsAt_b219 a2 n2 k39 k81 z4_ x1 (x3 - y0) x4 x5 x6 (x7 - y0) x8))))))
noncomputable def X11_drawsAt_L81b (a2 n2 : Nat) (k39 : ZI → Int → Int → Int → Int → Int → Option (Unit × ZI)) (k81 : ZI → Int → Int → Int → Int → Int → Int → Int → Option (Unit × ZI)) (z : ZI) (x1 : Int) (x3 : Int) (x4 : Int) (x5 : Int) (x6 : Int) (x7 : Int) (x8 : Int) : Option (Unit × ZI) :=
  Zgd (IJ x1 6) (if (z 106 x1) ≤ x8 then (X11_drawsAt_b225 a2 n2 k39 z x1 x3 x4 x5 x6) else (if x7 ≤ 0 then (X11_drawsAt_b225 a2 n2 k39 z x1 x3 x4 x5 x6) else (Zgd (IJ x8 30) (Zgd (IJ (z 105 x8) 30) (Zgd (IJ (z 72 (z 105 x8)) (n2 : Int)) (if x6 < (z a2 (z 72 (z 105 x8))) then (X11_drawsAt_b219 a2 n2 k39 k81 z x1 x3 x4 x5 x6 x7 x8) else (Zgd (IJ (z 105 x8) 30) (Zgd (IJ (z 105 x8) 30) (if (z 101 (z 105 x8)) = (z 99 (z 105 x8)) then (X11_drawsAt_b219 a2 n2 k39 k81 z x1 x3 x4 x5 x6 x7 x8) else (Zgd (IJ (z 105 x8) 30) (Zgd (IJ (z 105 x8) 30) (Zgd (InR ((z 99 (z 105 x8)) - (z 101 (z 105 x8)))) (if x7 ≤ ((z 99 (z 105 x8)) - (z 101 (z 105 x8))) then (X11_drawsAt_b171 a2 n2 k39 k81 z x1 x3 x4 x5 x6 x7 x8 (z 105 x8) ((z 99 (z 105 x8)) - (z 101 (z 105 x8))) x7) else (X11_drawsAt_b171 a2 n2 k39 k81 z x1 x3 x4 x5 x6 x7 x8 (z 105 x8) ((z 99 (z 105 x8)) - (z 101 (z 105 x8))) ((z 99 (z 105 x8)) - (z 101 (z 105 x8)))))))))))))))))
noncomputable def X11_drawsAt_L81 (a2 n2 : Nat) (k39 : ZI → Int → Int → Int → Int → Int → Option (Unit × ZI)) : Nat → ZI → Int → Int → Int → Int → Int → Int → Int → Option (Unit × ZI)
  | 0, _, _, _, _, _, _, _, _ => none
  | n + 1, z, x1, x3, x4, x5, x6, x7, x8 => X11_drawsAt_L81b a2 n2 k39 (X11_drawsAt_L81 a2 n2 k39 n) z x1 x3 x4 x5 x6 x7 x8
noncomputable def X11_drawsAt_b75 (a2 n2 : Nat) (k39 : ZI → Int → Int → Int → Int → Int → Option (Unit × ZI)) (z : ZI) (x1 : Int) (x3 : Int) (x4 : Int) (x5 : Int) (x6 : Int) (y0 : Int) : Option (Unit × ZI) :=
  X11_drawsAt_L81 a2 n2 k39 Zfuel z x1 x3 x4 x5 x6 y0 x4
noncomputable def X11_drawsAt_L39b (a2 n2 : Nat) (k39 : ZI → Int → Int → Int → Int → Int → Option (Unit × ZI)) (z : ZI) (x1 : Int) (x3 : Int) (x4 : Int) (x5 : Int) (x6 : Int) : Option (Unit × ZI) :=
  if 24 ≤ x6 then (X11_drawsAt_b231 a2 n2 z ) else (if x3 ≤ 0 then (X11_drawsAt_b231 a2 n2 z ) else (if x5 ≤ 0 then (X11_drawsAt_b231 a2 n2 z ) else (Zgd (IJ x1 6) (if x3 ≤ (z 96 x1) then (X11_drawsAt_b75 a2 n2 k39 z x1 x3 x4 x5 x6 x3) else (Zgd (IJ x1 6) (X11_drawsAt_b75 a2 n2 k39 z x1 x3 x4 x5 x6 (z 96 x1)))))))
noncomputable def X11_drawsAt_L39 (a2 n2 : Nat) : Nat → ZI → Int → Int → Int → Int → Int → Option (Unit × ZI)
  | 0, _, _, _, _, _, _ => none
  | n + 1, z, x1, x3, x4, x5, x6 => X11_drawsAt_L39b a2 n2 (X11_drawsAt_L39 a2 n2 n) z x1 x3 x4 x5 x6
noncomputable def X11_drawsAt_b23 (a2 n2 : Nat) (z : ZI) (x1 : Int) (x3 : Int) (y0 : Int) : Option (Unit × ZI) :=
  Zgd (IJ x1 6) (Zgd (InR ((z 106 x1) - y0)) (X11_drawsAt_L39 a2 n2 Zfuel z x1 x3 y0 ((z 106 x1) - y0) 4))
noncomputable def F_X11_drawsAt (a2 n2 : Nat) (z : ZI) (x1 : Int) : Option (Unit × ZI) :=
  Zgd (IJ x1 6) (if x1 = 0 then (X11_drawsAt_b23 a2 n2 z x1 (z 97 x1) 0) else (Zgd (InR (x1 - 1)) (Zgd (IJ (x1 - 1) 6) (X11_drawsAt_b23 a2 n2 z x1 (z 97 x1) (z 106 (x1 - 1))))))
noncomputable def X11_draws_L53b (a1 n1 : Nat) (k53 : ZI → Int → Option (Unit × ZI)) (z : ZI) (x2 : Int) : Option (Unit × ZI) :=
  if (z 68 47) ≤ x2 then (some ((), z)) else (Yb (F_X11_drawsAt a1 n1 z x2) fun _ z2_ => Zgd (InR (x2 + 1)) (k53 z2_ (x2 + 1)))
noncomputable def X11_draws_L53 (a1 n1 : Nat) : Nat → ZI → Int → Option (Unit × ZI)
  | 0, _, _ => none
  | n + 1, z, x2 => X11_draws_L53b a1 n1 (X11_draws_L53 a1 n1 n) z x2
noncomputable def X11_draws_b51 (a1 n1 : Nat) (z : ZI) : Option (Unit × ZI) :=
  X11_draws_L53 a1 n1 Zfuel z 0
noncomputable def X11_draws_b44 (a1 n1 : Nat) (k2 : ZI → Int → Option (Unit × ZI)) (z : ZI) (x2 : Int) (y1 : Int) (y2 : Int) : Option (Unit × ZI) :=
  Zgd (IJ y1 30) (Zl (Zup z 102 y1 y2) fun z2_ => Zgd (InR (x2 + 1)) (k2 z2_ (x2 + 1)))
noncomputable def X11_draws_L2b (a1 n1 : Nat) (k2 : ZI → Int → Option (Unit × ZI)) (z : ZI) (x2 : Int) : Option (Unit × ZI) :=
  if (z 68 12) ≤ x2 then (X11_draws_b51 a1 n1 z ) else (Zgd (IJ x2 30) (Zl (Zup z 101 x2 0) fun z3_ => Zgd (IJ x2 30) (if (z3_ 99 x2) = 0 then (Zgd (IJ x2 30) (Zgd (IJ (z3_ 72 x2) (n1 : Int)) (X11_draws_b44 a1 n1 k2 z3_ x2 x2 (z3_ a1 (z3_ 72 x2))))) else (X11_draws_b44 a1 n1 k2 z3_ x2 x2 (-9)))))
noncomputable def X11_draws_L2 (a1 n1 : Nat) : Nat → ZI → Int → Option (Unit × ZI)
  | 0, _, _ => none
  | n + 1, z, x2 => X11_draws_L2b a1 n1 (X11_draws_L2 a1 n1 n) z x2
noncomputable def F_X11_draws (a1 n1 : Nat) (z : ZI) : Option (Unit × ZI) :=
  X11_draws_L2 a1 n1 Zfuel z 0
noncomputable def X11_findDrawers_b60 (k4 : ZI → Int → Int → Option (Unit × ZI)) (z : ZI) (x1 : Int) (x2 : Int) : Option (Unit × ZI) :=
  Zgd (IJ x2 6) (Zl (Zup z 106 x2 x1) fun z2_ => Zgd (InR (x2 + 1)) (k4 z2_ x1 (x2 + 1)))
noncomputable def X11_findDrawers_b54 (k4 : ZI → Int → Int → Option (Unit × ZI)) (k14 : ZI → Int → Int → Int → Option (Unit × ZI)) (z : ZI) (x1 : Int) (x2 : Int) (x3 : Int) : Option (Unit × ZI) :=
  Zgd (InR (x3 + 1)) (k14 z x1 x2 (x3 + 1))
noncomputable def X11_findDrawers_L14b (k4 : ZI → Int → Int → Option (Unit × ZI)) (k14 : ZI → Int → Int → Int → Option (Unit × ZI)) (z : ZI) (x1 : Int) (x2 : Int) (x3 : Int) : Option (Unit × ZI) :=
  if (z 68 12) ≤ x3 then (X11_findDrawers_b60 k4 z x1 x2) else (Zgd (IJ x3 30) (if (z 100 x3) = x2 then (Zgd (IJ x3 30) (if (z 99 x3) = 0 then (X11_findDrawers_b54 k4 k14 z x1 x2 x3) else (Zgd (IJ x1 30) (Zl (Zup z 105 x1 x3) fun z7_ => Zgd (InR (x1 + 1)) (X11_findDrawers_b54 k4 k14 z7_ (x1 + 1) x2 x3))))) else (X11_findDrawers_b54 k4 k14 z x1 x2 x3)))
noncomputable def X11_findDrawers_L14 (k4 : ZI → Int → Int → Option (Unit × ZI)) : Nat → ZI → Int → Int → Int → Option (Unit × ZI)
  | 0, _, _, _, _ => none
  | n + 1, z, x1, x2, x3 => X11_findDrawers_L14b k4 (X11_findDrawers_L14 k4 n) z x1 x2 x3
noncomputable def X11_findDrawers_L4b (k4 : ZI → Int → Int → Option (Unit × ZI)) (z : ZI) (x1 : Int) (x2 : Int) : Option (Unit × ZI) :=
  if (z 68 47) ≤ x2 then (some ((), z)) else (X11_findDrawers_L14 k4 Zfuel z x1 x2 0)
noncomputable def X11_findDrawers_L4 : Nat → ZI → Int → Int → Option (Unit × ZI)
  | 0, _, _, _ => none
  | n + 1, z, x1, x2 => X11_findDrawers_L4b (X11_findDrawers_L4 n) z x1 x2
noncomputable def F_X11_findDrawers (z : ZI) : Option (Unit × ZI) :=
  X11_findDrawers_L4 Zfuel z 0 0
noncomputable def X11_findNeeds_b105 (k2 : ZI → Int → Option (Unit × ZI)) (z : ZI) (x1 : Int) : Option (Unit × ZI) :=
  Zgd (InR (x1 + 1)) (k2 z (x1 + 1))
noncomputable def X11_findNeeds_b99 (k2 : ZI → Int → Option (Unit × ZI)) (k37 : ZI → Int → Int → Option (Unit × ZI)) (z : ZI) (x1 : Int) (x2 : Int) : Option (Unit × ZI) :=
  Zgd (InR (x2 + 1)) (k37 z x1 (x2 + 1))
noncomputable def X11_findNeeds_b92 (k2 : ZI → Int → Option (Unit × ZI)) (k37 : ZI → Int → Int → Option (Unit × ZI)) (z : ZI) (x1 : Int) (x2 : Int) : Option (Unit × ZI) :=
  Zgd (IJ x1 30) (Zl (Zup z 100 x1 x2) fun z2_ => X11_findNeeds_b99 k2 k37 z2_ x1 x2)
noncomputable def X11_findNeeds_L37b (k2 : ZI → Int → Option (Unit × ZI)) (k37 : ZI → Int → Int → Option (Unit × ZI)) (z : ZI) (x1 : Int) (x2 : Int) : Option (Unit × ZI) :=
  if (z 68 47) ≤ x2 then (X11_findNeeds_b105 k2 z x1) else (Zgd (IJ x1 30) (if (z 100 x1) < 0 then (X11_findNeeds_b92 k2 k37 z x1 x2) else (Zgd (IJ x1 30) (Zgd (IJ x2 6) (Yb (F_X11_far z (z 71 x1) (z 95 x2)) fun r8_ z6_ => Zgd (IJ x1 30) (Zgd (IJ x1 30) (Zgd (IJ (z6_ 100 x1) 6) (Yb (F_X11_far z6_ (z6_ 71 x1) (z6_ 95 (z6_ 100 x1))) fun r14_ z12_ => if r14_ ≤ r8_ then (X11_findNeeds_b99 k2 k37 z12_ x1 x2) else (X11_findNeeds_b92 k2 k37 z12_ x1 x2)))))))))
noncomputable def X11_findNeeds_L37 (k2 : ZI → Int → Option (Unit × ZI)) : Nat → ZI → Int → Int → Option (Unit × ZI)
  | 0, _, _, _ => none
  | n + 1, z, x1, x2 => X11_findNeeds_L37b k2 (X11_findNeeds_L37 k2 n) z x1 x2
noncomputable def X11_findNeeds_L2b (k2 : ZI → Int → Option (Unit × ZI)) (z : ZI) (x1 : Int) : Option (Unit × ZI) :=
  if (z 68 12) ≤ x1 then (some ((), z)) else (Yb (F_X11_hereOf z x1 (z 68 11)) fun r4_ z2_ => Zgd (InR (5 * r4_)) (Zgd (IJ x1 30) (Zl (Zup z2_ 99 x1 (5 * r4_)) fun z7_ => Zgd (IJ x1 30) (Zl (Zup z7_ 100 x1 (-9)) fun z9_ => X11_findNeeds_L37 k2 Zfuel z9_ x1 0))))
noncomputable def X11_findNeeds_L2 : Nat → ZI → Int → Option (Unit × ZI)
  | 0, _, _ => none
  | n + 1, z, x1 => X11_findNeeds_L2b (X11_findNeeds_L2 n) z x1
noncomputable def F_X11_findNeeds (z : ZI) : Option (Unit × ZI) :=
  X11_findNeeds_L2 Zfuel z 0
noncomputable def X11_isAsFound_b200 (k142 : ZI → Int → Int → Int → Option (Int × ZI)) (z : ZI) (x2 : Int) (x3 : Int) (x4 : Int) (y0 : Int) : Option (Int × ZI) :=
  Zgd (IJ x2 110) (Zl (Zup z 107 x2 x4) fun z2_ => Zgd (InR (x2 + 1)) (Zgd (InR (x3 + 1)) (k142 z2_ y0 (x2 + 1) (x3 + 1))))
noncomputable def X11_isAsFound_b199 (k142 : ZI → Int → Int → Int → Option (Int × ZI)) (z : ZI) (x2 : Int) (x3 : Int) (x4 : Int) : Option (Int × ZI) :=
  X11_isAsFound_b200 k142 z x2 x3 x4 0
noncomputable def X11_isAsFound_b178 (k142 : ZI → Int → Int → Int → Option (Int × ZI)) (z : ZI) (x1 : Int) (x2 : Int) (x3 : Int) (y0 : Int) : Option (Int × ZI) :=
  if x1 = 0 then (X11_isAsFound_b199 k142 z x2 x3 y0) else (Zgd (IJ x2 110) (if (z 107 x2) = y0 then (X11_isAsFound_b200 k142 z x2 x3 y0 1) else (X11_isAsFound_b199 k142 z x2 x3 y0)))
noncomputable def X11_isAsFound_L142b (k142 : ZI → Int → Int → Int → Option (Int × ZI)) (z : ZI) (x1 : Int) (x2 : Int) (x3 : Int) : Option (Int × ZI) :=
  if 6 ≤ x3 then (Zl (Zup z 68 53 1) fun z2_ => Zgd (x1 = 0 ∨ x1 = 1) (some (x1, z2_))) else (if (z 68 47) ≤ x3 then (X11_isAsFound_b178 k142 z x1 x2 x3 (-9)) else (Zgd (IJ x3 6) (Zgd (InR (10000 * (z 96 x3))) (Zgd (IJ x3 6) (Zgd (InR ((10000 * (z 96 x3)) + (z 97 x3))) (X11_isAsFound_b178 k142 z x1 x2 x3 ((10000 * (z 96 x3)) + (z 97 x3))))))))
noncomputable def X11_isAsFound_L142 : Nat → ZI → Int → Int → Int → Option (Int × ZI)
  | 0, _, _, _, _ => none
  | n + 1, z, x1, x2, x3 => X11_isAsFound_L142b (X11_isAsFound_L142 n) z x1 x2 x3
noncomputable def X11_isAsFound_b140 (z : ZI) (x1 : Int) (x2 : Int) : Option (Int × ZI) :=
  X11_isAsFound_L142 Zfuel z x1 x2 0
noncomputable def X11_isAsFound_b112 (k9 : ZI → Int → Int → Int → Option (Int × ZI)) (z : ZI) (x2 : Int) (x3 : Int) (x4 : Int) (x5 : Int) (y0 : Int) : Option (Int × ZI) :=
  Zgd (IJ x2 110) (Zl (Zup z 107 x2 x4) fun z2_ => Zgd (InR (x2 + 1)) (Zgd (IJ (x2 + 1) 110) (Zl (Zup z2_ 107 (x2 + 1) x5) fun z5_ => Zgd (InR (x2 + 2)) (Zgd (InR (x3 + 1)) (k9 z5_ y0 (x2 + 2) (x3 + 1))))))
noncomputable def X11_isAsFound_b111 (k9 : ZI → Int → Int → Int → Option (Int × ZI)) (z : ZI) (x2 : Int) (x3 : Int) (x4 : Int) (x5 : Int) : Option (Int × ZI) :=
  X11_isAsFound_b112 k9 z x2 x3 x4 x5 0
noncomputable def X11_isAsFound_b77 (k9 : ZI → Int → Int → Int → Option (Int × ZI)) (z : ZI) (x1 : Int) (x2 : Int) (x3 : Int) (x4 : Int) (y0 : Int) : Option (Int × ZI) :=
  if x1 = 0 then (X11_isAsFound_b111 k9 z x2 x3 x4 y0) else (Zgd (IJ x2 110) (if (z 107 x2) = x4 then (Zgd (InR (x2 + 1)) (Zgd (IJ (x2 + 1) 110) (if (z 107 (x2 + 1)) = y0 then (X11_isAsFound_b112 k9 z x2 x3 x4 y0 1) else (X11_isAsFound_b111 k9 z x2 x3 x4 y0)))) else (X11_isAsFound_b111 k9 z x2 x3 x4 y0)))
noncomputable def X11_isAsFound_b56 (k9 : ZI → Int → Int → Int → Option (Int × ZI)) (z : ZI) (x1 : Int) (x2 : Int) (x3 : Int) (y0 : Int) : Option (Int × ZI) :=
  if (z 68 12) ≤ x3 then (X11_isAsFound_b77 k9 z x1 x2 x3 y0 (-9)) else (Zgd (IJ x3 30) (X11_isAsFound_b77 k9 z x1 x2 x3 y0 (z 99 x3)))
noncomputable def X11_isAsFound_L9b (k9 : ZI → Int → Int → Int → Option (Int × ZI)) (z : ZI) (x1 : Int) (x2 : Int) (x3 : Int) : Option (Int × ZI) :=
  if 30 ≤ x3 then (X11_isAsFound_b140 z x1 x2) else (if (z 68 12) ≤ x3 then (X11_isAsFound_b56 k9 z x1 x2 x3 (-9)) else (Zgd (IJ x3 30) (Zgd (InR ((z 99 x3) * 8)) (Zgd (IJ x3 30) (Zgd (InR (((z 99 x3) * 8) + (z 100 x3))) (Zgd (InR ((((z 99 x3) * 8) + (z 100 x3)) + 2)) (Zgd (InR (((((z 99 x3) * 8) + (z 100 x3)) + 2) * 8)) (Zgd (IJ x3 30) (Zgd (InR ((((((z 99 x3) * 8) + (z 100 x3)) + 2) * 8) + (z 72 x3))) (X11_isAsFound_b56 k9 z x1 x2 x3 ((((((z 99 x3) * 8) + (z 100 x3)) + 2) * 8) + (z 72 x3))))))))))))
noncomputable def X11_isAsFound_L9 : Nat → ZI → Int → Int → Int → Option (Int × ZI)
  | 0, _, _, _, _ => none
  | n + 1, z, x1, x2, x3 => X11_isAsFound_L9b (X11_isAsFound_L9 n) z x1 x2 x3
noncomputable def F_X11_isAsFound (z : ZI) : Option (Int × ZI) :=
  X11_isAsFound_L9 Zfuel z (z 68 53) 0 0
noncomputable def X11_isEmpty_L2b (k2 : ZI → Int → Int → Option (Int × ZI)) (z : ZI) (x1 : Int) (x2 : Int) : Option (Int × ZI) :=
  if (z 68 12) ≤ x2 then (some (1, z)) else (Zgd (IJ x2 30) (if (z 72 x2) = x1 then (some (0, z)) else (Zgd (InR (x2 + 1)) (k2 z x1 (x2 + 1)))))
noncomputable def X11_isEmpty_L2 : Nat → ZI → Int → Int → Option (Int × ZI)
  | 0, _, _, _ => none
  | n + 1, z, x1, x2 => X11_isEmpty_L2b (X11_isEmpty_L2 n) z x1 x2
noncomputable def F_X11_isEmpty (z : ZI) (x1 : Int) : Option (Int × ZI) :=
  X11_isEmpty_L2 Zfuel z x1 0
noncomputable def X11_findBest_b260 (k68 : ZI → Int → Int → Option (Unit × ZI)) (z : ZI) (x1 : Int) (x2 : Int) : Option (Unit × ZI) :=
  Zgd (InR (x2 + 1)) (k68 z x1 (x2 + 1))
noncomputable def X11_findBest_L234b (k68 : ZI → Int → Int → Option (Unit × ZI)) (k234 : ZI → Int → Int → Int → Option (Unit × ZI)) (z : ZI) (x1 : Int) (x2 : Int) (x5 : Int) : Option (Unit × ZI) :=
  if 4 ≤ x5 then (X11_findBest_b260 k68 z x1 x2) else (Zgd (IJ x5 4) (Zgd (IJ x5 4) (Zl (Zup z 104 x5 (z 103 x5)) fun z4_ => Zgd (InR (x5 + 1)) (k234 z4_ x1 x2 (x5 + 1)))))
noncomputable def X11_findBest_L234 (k68 : ZI → Int → Int → Option (Unit × ZI)) : Nat → ZI → Int → Int → Int → Option (Unit × ZI)
  | 0, _, _, _, _ => none
  | n + 1, z, x1, x2, x5 => X11_findBest_L234b k68 (X11_findBest_L234 k68 n) z x1 x2 x5
noncomputable def X11_findBest_b220 (k68 : ZI → Int → Int → Option (Unit × ZI)) (z : ZI) (x1 : Int) (x2 : Int) (x3 : Int) (x4 : Int) : Option (Unit × ZI) :=
  Zl (Zup z 68 48 x3) fun z1_ => Zl (Zup z1_ 68 49 x4) fun z2_ => X11_findBest_L234 k68 Zfuel z2_ x1 x2 0
noncomputable def X11_findBest_b192 (k68 : ZI → Int → Int → Option (Unit × ZI)) (z : ZI) (x1 : Int) (x2 : Int) (x3 : Int) (x4 : Int) : Option (Unit × ZI) :=
  if (z 68 48) < x3 then (X11_findBest_b260 k68 z x1 x2) else (if x3 = (z 68 48) then (if x4 < (z 68 49) then (X11_findBest_b220 k68 z x1 x2 x3 x4) else (X11_findBest_b260 k68 z x1 x2)) else (X11_findBest_b220 k68 z x1 x2 x3 x4))
noncomputable def X11_findBest_b183 (k68 : ZI → Int → Int → Option (Unit × ZI)) (k133 : ZI → Int → Int → Int → Int → Int → Option (Unit × ZI)) (z : ZI) (x1 : Int) (x2 : Int) (x3 : Int) (x5 : Int) (y0 : Int) (y1 : Int) : Option (Unit × ZI) :=
  Zgd (InR (y0 + y1)) (Zgd (InR (x5 + 1)) (k133 z x1 x2 x3 (y0 + y1) (x5 + 1)))
noncomputable def X11_findBest_b158 (k68 : ZI → Int → Int → Option (Unit × ZI)) (k133 : ZI → Int → Int → Int → Int → Int → Option (Unit × ZI)) (z : ZI) (x1 : Int) (x2 : Int) (x4 : Int) (x5 : Int) (y0 : Int) (y1 : Int) : Option (Unit × ZI) :=
  Zgd (InR (y0 + y1)) (Zgd (IJ x5 30) (if 0 ≤ (z 102 x5) then (Zgd (IJ x5 30) (X11_findBest_b183 k68 k133 z x1 x2 (y0 + y1) x5 x4 (z 102 x5))) else (X11_findBest_b183 k68 k133 z x1 x2 (y0 + y1) x5 x4 0)))
noncomputable def X11_findBest_L133b (k68 : ZI → Int → Int → Option (Unit × ZI)) (k133 : ZI → Int → Int → Int → Int → Int → Option (Unit × ZI)) (z : ZI) (x1 : Int) (x2 : Int) (x3 : Int) (x4 : Int) (x5 : Int) : Option (Unit × ZI) :=
  if (z 68 12) ≤ x5 then (X11_findBest_b192 k68 z x1 x2 x3 x4) else (Zgd (IJ x5 30) (if 0 ≤ (z 102 x5) then (X11_findBest_b158 k68 k133 z x1 x2 x4 x5 x3 0) else (X11_findBest_b158 k68 k133 z x1 x2 x4 x5 x3 1)))
noncomputable def X11_findBest_L133 (k68 : ZI → Int → Int → Option (Unit × ZI)) : Nat → ZI → Int → Int → Int → Int → Int → Option (Unit × ZI)
  | 0, _, _, _, _, _, _ => none
  | n + 1, z, x1, x2, x3, x4, x5 => X11_findBest_L133b k68 (X11_findBest_L133 k68 n) z x1 x2 x3 x4 x5
noncomputable def X11_findBest_b117 (k68 : ZI → Int → Int → Option (Unit × ZI)) (z : ZI) (x1 : Int) (x2 : Int) : Option (Unit × ZI) :=
  Yb (F_X11_draws 103 4 z) fun _ z1_ => X11_findBest_L133 k68 Zfuel z1_ x1 x2 0 0 0
noncomputable def X11_findBest_L86b (k68 : ZI → Int → Int → Option (Unit × ZI)) (k86 : ZI → Int → Int → Int → Option (Unit × ZI)) (z : ZI) (x1 : Int) (x2 : Int) (x3 : Int) : Option (Unit × ZI) :=
  if 4 ≤ x3 then (X11_findBest_b117 k68 z x1 x2) else (Zgd (InR (3 * x3)) (Zgd (InR (9 - (3 * x3))) (Zgd (InR (6 + (jand (jshr x2 (9 - (3 * x3))) 7))) (Zgd (IJ x3 4) (Zl (Zup z 103 x3 (6 + (jand (jshr x2 (9 - (3 * x3))) 7))) fun z6_ => Zgd (InR (x3 + 1)) (k86 z6_ x1 x2 (x3 + 1)))))))
noncomputable def X11_findBest_L86 (k68 : ZI → Int → Int → Option (Unit × ZI)) : Nat → ZI → Int → Int → Int → Option (Unit × ZI)
  | 0, _, _, _, _ => none
  | n + 1, z, x1, x2, x3 => X11_findBest_L86b k68 (X11_findBest_L86 k68 n) z x1 x2 x3
noncomputable def X11_findBest_L68b (k68 : ZI → Int → Int → Option (Unit × ZI)) (z : ZI) (x1 : Int) (x2 : Int) : Option (Unit × ZI) :=
  if 4096 ≤ x2 then (some ((), z)) else (if (jand x2 x1) = 0 then (X11_findBest_L86 k68 Zfuel z x1 x2 0) else (X11_findBest_b260 k68 z x1 x2))
noncomputable def X11_findBest_L68 : Nat → ZI → Int → Int → Option (Unit × ZI)
  | 0, _, _, _ => none
  | n + 1, z, x1, x2 => X11_findBest_L68b (X11_findBest_L68 n) z x1 x2
noncomputable def X11_findBest_b66 (z : ZI) (x1 : Int) : Option (Unit × ZI) :=
  X11_findBest_L68 Zfuel z x1 0
noncomputable def X11_findBest_b58 (k31 : ZI → Int → Int → Option (Unit × ZI)) (z : ZI) (x2 : Int) (y0 : Int) (y1 : Int) : Option (Unit × ZI) :=
  Zgd (InR (x2 + 1)) (k31 z (jor y0 y1) (x2 + 1))
noncomputable def X11_findBest_L31b (k31 : ZI → Int → Int → Option (Unit × ZI)) (z : ZI) (x1 : Int) (x2 : Int) : Option (Unit × ZI) :=
  if 4 ≤ x2 then (X11_findBest_b66 z x1) else (Yb (F_X11_isEmpty z x2) fun r4_ z2_ => if r4_ = 0 then (X11_findBest_b58 k31 z2_ x2 x1 0) else (Zgd (InR (3 * x2)) (Zgd (InR (9 - (3 * x2))) (X11_findBest_b58 k31 z2_ x2 x1 (jshl 7 (9 - (3 * x2)))))))
noncomputable def X11_findBest_L31 : Nat → ZI → Int → Int → Option (Unit × ZI)
  | 0, _, _, _ => none
  | n + 1, z, x1, x2 => X11_findBest_L31b (X11_findBest_L31 n) z x1 x2
noncomputable def F_X11_findBest (z : ZI) : Option (Unit × ZI) :=
  Yb (F_X11_findNeeds z) fun _ z1_ => Yb (F_X11_isAsFound z1_) fun r6_ z4_ => if r6_ = 0 then (Yb (F_X11_findDrawers z4_) fun _ z8_ => Zl (Zup z8_ 68 48 31) fun z11_ => Zl (Zup z11_ 68 49 0) fun z12_ => X11_findBest_L31 Zfuel z12_ 0 0) else (some ((), z4_))
noncomputable def X11_best_b53 (z : ZI) (y0 : Int) : Option (Int × ZI) :=
  some (y0, z)
noncomputable def F_X11_best (z : ZI) (x1 : Int) : Option (Int × ZI) :=
  Yb (F_X11_isIn z x1 0 5) fun r3_ z1_ => if r3_ = 0 then (Yb (F_X11_no z1_ (-2)) fun r13_ z11_ => some (r13_, z11_)) else (Yb (F_X11_findBest z1_) fun _ z5_ => if 4 ≤ x1 then (if x1 = 4 then (X11_best_b53 z5_ (z5_ 68 48)) else (X11_best_b53 z5_ (z5_ 68 49))) else (Zgd (IJ x1 4) (X11_best_b53 z5_ (z5_ 104 x1))))
noncomputable def X11_bits_L4b (k4 : ZI → Int → Int → Int → Option (Int × ZI)) (z : ZI) (x0 : Int) (x1 : Int) (x2 : Int) : Option (Int × ZI) :=
  if 31 ≤ x2 then (some (x1, z)) else (Zgd (InR (x1 + (jand (jshr x0 x2) 1))) (Zgd (InR (x2 + 1)) (k4 z x0 (x1 + (jand (jshr x0 x2) 1)) (x2 + 1))))
noncomputable def X11_bits_L4 : Nat → ZI → Int → Int → Int → Option (Int × ZI)
  | 0, _, _, _, _ => none
  | n + 1, z, x0, x1, x2 => X11_bits_L4b (X11_bits_L4 n) z x0 x1 x2
noncomputable def F_X11_bits (z : ZI) (x0 : Int) : Option (Int × ZI) :=
  X11_bits_L4 Zfuel z x0 0 0
noncomputable def X11_out_b24 (z : ZI) (y0 : Int) : Option (Int × ZI) :=
  some (y0, z)
noncomputable def F_X11_out (z : ZI) (x0 : Int) (x2 : Int) (x4 : Int) : Option (Int × ZI) :=
  if 0 ≤ (jcmp x0 x2) then (if (jcmp x0 x4) ≤ 0 then (X11_out_b24 z 0) else (X11_out_b24 z (-6))) else (X11_out_b24 z (-4))
noncomputable def F_X11_block (z : ZI) (x1 : Int) (x2 : Int) : Option (Int × ZI) :=
  Yb (F_X11_isIn z x1 0 3) fun r3_ z1_ => if r3_ = 0 then (Yb (F_X11_no z1_ (-1)) fun r17_ z15_ => some (r17_, z15_)) else (Yb (F_X11_out z1_ x2 4 20) fun r7_ z5_ => if r7_ = 0 then (Zgd (IJ x1 4) (Zgd (IJ x1 4) (Zl (Zup z5_ 98 x1 x2) fun z11_ => some (z5_ 98 x1, z11_)))) else (Yb (F_X11_no z5_ r7_) fun r14_ z12_ => some (r14_, z12_)))
noncomputable def X11_isHouse_b17 (z : ZI) (y0 : Int) : Option (Int × ZI) :=
  Zgd (y0 = 0 ∨ y0 = 1) (some (y0, z))
noncomputable def X11_isHouse_b16 (z : ZI) : Option (Int × ZI) :=
  X11_isHouse_b17 z 0
noncomputable def F_X11_isHouse (z : ZI) (x1 : Int) : Option (Int × ZI) :=
  if x1 < 0 then (X11_isHouse_b16 z ) else (if (z 68 12) ≤ x1 then (X11_isHouse_b16 z ) else (X11_isHouse_b17 z 1))
noncomputable def F_X11_card (z : ZI) (x1 : Int) : Option (Int × ZI) :=
  Yb (F_X11_isHouse z x1) fun r3_ z1_ => if r3_ = 0 then (Yb (F_X11_no z1_ (-1)) fun r20_ z18_ => some (r20_, z18_)) else (if (z1_ 68 34) = 40 then (Yb (F_X11_no z1_ (-6)) fun r17_ z15_ => some (r17_, z15_)) else (Zgd (IJ (z1_ 68 34) 40) (Zl (Zup z1_ 88 (z1_ 68 34) x1) fun z7_ => Zgd (IJ (z7_ 68 34) 40) (Zl (Zup z7_ 89 (z7_ 68 34) (z7_ 68 11)) fun z9_ => Zgd (IJ (z9_ 68 34) 40) (Zl (Zup z9_ 90 (z9_ 68 34) (-1)) fun z11_ => Zgd (InR ((z11_ 68 34) + 1)) (Zl (Zup z11_ 68 34 ((z11_ 68 34) + 1)) fun z13_ => Zgd (InR ((z13_ 68 34) - 1)) (some ((z13_ 68 34) - 1, z13_))))))))
noncomputable def X11_clears_b122 (k89 : ZI → Int → Option (Unit × ZI)) (z : ZI) (x2 : Int) (y1 : Int) (y2 : Int) : Option (Unit × ZI) :=
  Zgd (IJ y1 144) (Zl (Zup z 118 y1 y2) fun z2_ => Zgd (InR (x2 + 1)) (k89 z2_ (x2 + 1)))
noncomputable def X11_clears_L89b (k89 : ZI → Int → Option (Unit × ZI)) (z : ZI) (x2 : Int) : Option (Unit × ZI) :=
  if (z 68 12) ≤ x2 then (some ((), z)) else (Zgd (IJ x2 30) (Zgd (IJ x2 30) (if (z 121 x2) = 0 then (X11_clears_b122 k89 z x2 (z 71 x2) x2) else (X11_clears_b122 k89 z x2 (z 71 x2) (-9)))))
noncomputable def X11_clears_L89 : Nat → ZI → Int → Option (Unit × ZI)
  | 0, _, _ => none
  | n + 1, z, x2 => X11_clears_L89b (X11_clears_L89 n) z x2
noncomputable def X11_clears_b87 (z : ZI) : Option (Unit × ZI) :=
  X11_clears_L89 Zfuel z 0
noncomputable def X11_clears_L66b (k66 : ZI → Int → Option (Unit × ZI)) (z : ZI) (x2 : Int) : Option (Unit × ZI) :=
  if 144 ≤ x2 then (X11_clears_b87 z ) else (Zgd (IJ x2 144) (Zl (Zup z 118 x2 (-9)) fun z3_ => Zgd (InR (x2 + 1)) (k66 z3_ (x2 + 1))))
noncomputable def X11_clears_L66 : Nat → ZI → Int → Option (Unit × ZI)
  | 0, _, _ => none
  | n + 1, z, x2 => X11_clears_L66b (X11_clears_L66 n) z x2
noncomputable def X11_clears_b64 (z : ZI) : Option (Unit × ZI) :=
  X11_clears_L66 Zfuel z 0
noncomputable def X11_clears_b57 (k25 : ZI → Int → Int → Option (Unit × ZI)) (z : ZI) (x1 : Int) (x2 : Int) (y1 : Int) (y2 : Int) : Option (Unit × ZI) :=
  Zgd (y2 = 0 ∨ y2 = 1) (Zgd (IJ y1 30) (Zl (Zup z 121 y1 y2) fun z2_ => Zgd (InR (x2 + 1)) (k25 z2_ x1 (x2 + 1))))
noncomputable def X11_clears_L25b (k25 : ZI → Int → Int → Option (Unit × ZI)) (z : ZI) (x1 : Int) (x2 : Int) : Option (Unit × ZI) :=
  if (z 68 70) ≤ x2 then (X11_clears_b64 z ) else (Zgd (IJ x2 8) (if (jand (jshr x1 x2) 1) = 1 then (X11_clears_b57 k25 z x1 x2 (z 116 x2) 1) else (X11_clears_b57 k25 z x1 x2 (z 116 x2) 0)))
noncomputable def X11_clears_L25 : Nat → ZI → Int → Int → Option (Unit × ZI)
  | 0, _, _, _ => none
  | n + 1, z, x1, x2 => X11_clears_L25b (X11_clears_L25 n) z x1 x2
noncomputable def X11_clears_b23 (z : ZI) (x1 : Int) : Option (Unit × ZI) :=
  X11_clears_L25 Zfuel z x1 0
noncomputable def X11_clears_L2b (k2 : ZI → Int → Int → Option (Unit × ZI)) (z : ZI) (x1 : Int) (x2 : Int) : Option (Unit × ZI) :=
  if (z 68 12) ≤ x2 then (X11_clears_b23 z x1) else (Zgd (IJ x2 30) (Zl (Zup z 121 x2 0) fun z3_ => Zgd (InR (x2 + 1)) (k2 z3_ x1 (x2 + 1))))
noncomputable def X11_clears_L2 : Nat → ZI → Int → Int → Option (Unit × ZI)
  | 0, _, _, _ => none
  | n + 1, z, x1, x2 => X11_clears_L2b (X11_clears_L2 n) z x1 x2
noncomputable def F_X11_clears (z : ZI) (x1 : Int) : Option (Unit × ZI) :=
  X11_clears_L2 Zfuel z x1 0
noncomputable def X11_count_b62 (z : ZI) (x1 : Int) (x2 : Int) (x3 : Int) (y0 : Int) : Option (Int × ZI) :=
  if y0 = 0 then (Zgd (IJ (z 68 79) 40) (Zl (Zup z 125 (z 68 79) x1) fun z3_ => Zgd (IJ (z3_ 68 79) 40) (Zl (Zup z3_ 126 (z3_ 68 79) x2) fun z5_ => Zgd (IJ (z5_ 68 79) 40) (Zl (Zup z5_ 127 (z5_ 68 79) x3) fun z7_ => Zgd (IJ (z7_ 68 79) 40) (Zl (Zup z7_ 128 (z7_ 68 79) (z7_ 68 11)) fun z9_ => Zgd (InR ((z9_ 68 79) + 1)) (Zl (Zup z9_ 68 79 ((z9_ 68 79) + 1)) fun z11_ => some (z11_ 68 79, z11_))))))) else (Yb (F_X11_no z y0) fun r14_ z12_ => some (r14_, z12_))
noncomputable def X11_count_b27 (z : ZI) (x1 : Int) (x2 : Int) (x3 : Int) : Option (Int × ZI) :=
  X11_count_b62 z x1 x2 x3 (-4)
noncomputable def X11_count_b56 (z : ZI) (x1 : Int) (x2 : Int) (x3 : Int) : Option (Int × ZI) :=
  X11_count_b62 z x1 x2 x3 (-6)
noncomputable def F_X11_count (z : ZI) (x1 : Int) (x2 : Int) (x3 : Int) : Option (Int × ZI) :=
  Yb (F_X11_isIn z x1 0 3) fun r3_ z1_ => if r3_ = 0 then (Yb (F_X11_no z1_ (-1)) fun r12_ z10_ => some (r12_, z10_)) else (if x2 < 0 then (X11_count_b27 z1_ x1 x2 x3) else (if (-1) ≤ x3 then (if (z1_ 68 11) < x2 then (X11_count_b56 z1_ x1 x2 x3) else (if 9999 < x3 then (X11_count_b56 z1_ x1 x2 x3) else (if (z1_ 68 79) = 40 then (X11_count_b56 z1_ x1 x2 x3) else (X11_count_b62 z1_ x1 x2 x3 0)))) else (X11_count_b27 z1_ x1 x2 x3)))
noncomputable def X11_countOf_b111 (z : ZI) (y0 : Int) : Option (Int × ZI) :=
  some (y0, z)
noncomputable def X11_countOf_b94 (z : ZI) (x4 : Int) : Option (Int × ZI) :=
  if 0 ≤ x4 then (Zgd (IJ x4 40) (X11_countOf_b111 z (z 127 x4))) else (X11_countOf_b111 z (-9))
noncomputable def X11_countOf_b88 (k7 : ZI → Int → Int → Int → Int → Int → Option (Int × ZI)) (z : ZI) (x1 : Int) (x2 : Int) (x3 : Int) (x4 : Int) (x5 : Int) : Option (Int × ZI) :=
  Zgd (InR (x5 + 1)) (k7 z x1 x2 x3 x4 (x5 + 1))
noncomputable def X11_countOf_b84 (k7 : ZI → Int → Int → Int → Int → Int → Option (Int × ZI)) (z : ZI) (x1 : Int) (x2 : Int) (x3 : Int) (x5 : Int) : Option (Int × ZI) :=
  X11_countOf_b88 k7 z x1 x2 x3 x5 x5
noncomputable def X11_countOf_L7b (k7 : ZI → Int → Int → Int → Int → Int → Option (Int × ZI)) (z : ZI) (x1 : Int) (x2 : Int) (x3 : Int) (x4 : Int) (x5 : Int) : Option (Int × ZI) :=
  if (z 68 79) ≤ x5 then (X11_countOf_b94 z x4) else (Zgd (IJ x5 40) (if (z 125 x5) = x1 then (Zgd (IJ x5 40) (if x2 < (z 126 x5) then (X11_countOf_b88 k7 z x1 x2 x3 x4 x5) else (Zgd (IJ x5 40) (if x3 < (z 128 x5) then (X11_countOf_b88 k7 z x1 x2 x3 x4 x5) else (Zgd (IJ x5 40) (if 0 ≤ (z 127 x5) then (if x4 < 0 then (X11_countOf_b84 k7 z x1 x2 x3 x5) else (Zgd (IJ x5 40) (Zgd (IJ x4 40) (if (z 126 x5) < (z 126 x4) then (X11_countOf_b88 k7 z x1 x2 x3 x4 x5) else (X11_countOf_b84 k7 z x1 x2 x3 x5))))) else (X11_countOf_b88 k7 z x1 x2 x3 x4 x5))))))) else (X11_countOf_b88 k7 z x1 x2 x3 x4 x5)))
noncomputable def X11_countOf_L7 : Nat → ZI → Int → Int → Int → Int → Int → Option (Int × ZI)
  | 0, _, _, _, _, _, _ => none
  | n + 1, z, x1, x2, x3, x4, x5 => X11_countOf_L7b (X11_countOf_L7 n) z x1 x2 x3 x4 x5
noncomputable def F_X11_countOf (z : ZI) (x1 : Int) (x2 : Int) (x3 : Int) : Option (Int × ZI) :=
  X11_countOf_L7 Zfuel z x1 x2 x3 (-9) 0
noncomputable def X11_counted_b74 (z : ZI) (y0 : Int) : Option (Int × ZI) :=
  some (y0, z)
noncomputable def X11_counted_b51 (z : ZI) (x1 : Int) (x2 : Int) (x3 : Int) (y0 : Int) : Option (Int × ZI) :=
  if y0 = 0 then (Yb (F_X11_countOf z x1 x2 x3) fun r4_ z2_ => X11_counted_b74 z2_ r4_) else (Yb (F_X11_no z y0) fun r7_ z5_ => X11_counted_b74 z5_ r7_)
noncomputable def X11_counted_b26 (z : ZI) (x1 : Int) (x2 : Int) (x3 : Int) : Option (Int × ZI) :=
  X11_counted_b51 z x1 x2 x3 (-4)
noncomputable def X11_counted_b45 (z : ZI) (x1 : Int) (x2 : Int) (x3 : Int) : Option (Int × ZI) :=
  X11_counted_b51 z x1 x2 x3 (-6)
noncomputable def F_X11_counted (z : ZI) (x1 : Int) (x2 : Int) (x3 : Int) : Option (Int × ZI) :=
  Yb (F_X11_isIn z x1 0 3) fun r3_ z1_ => if r3_ = 0 then (Yb (F_X11_no z1_ (-1)) fun r11_ z9_ => some (r11_, z9_)) else (if x2 < 0 then (X11_counted_b26 z1_ x1 x2 x3) else (if 0 ≤ x3 then (if 999 < x2 then (X11_counted_b45 z1_ x1 x2 x3) else (if x3 ≤ 999 then (X11_counted_b51 z1_ x1 x2 x3 0) else (X11_counted_b45 z1_ x1 x2 x3))) else (X11_counted_b26 z1_ x1 x2 x3)))
noncomputable def F_X11_days (z : ZI) (x1 : Int) : Option (Int × ZI) :=
  Zgd (InR (999 - (z 68 11))) (Yb (F_X11_out z x1 1 (999 - (z 68 11))) fun r4_ z2_ => if r4_ = 0 then (Zgd (InR ((z2_ 68 11) + x1)) (Zl (Zup z2_ 68 11 ((z2_ 68 11) + x1)) fun z7_ => some (z7_ 68 11, z7_))) else (Yb (F_X11_no z2_ r4_) fun r10_ z8_ => some (r10_, z8_)))
noncomputable def X11_lowerOf_b59 (z : ZI) (y0 : Int) : Option (Int × ZI) :=
  some (y0, z)
noncomputable def X11_lowerOf_b58 (z : ZI) (x1 : Int) : Option (Int × ZI) :=
  X11_lowerOf_b59 z x1
noncomputable def X11_lowerOf_b54 (z : ZI) (x3 : Int) : Option (Int × ZI) :=
  X11_lowerOf_b59 z x3
noncomputable def F_X11_lowerOf (z : ZI) (x1 : Int) (x2 : Int) (x3 : Int) : Option (Int × ZI) :=
  Zgd (IJ x3 144) (Zgd (IJ x2 144) (if (z 70 x2) ≤ (z 70 x3) then (X11_lowerOf_b58 z x1) else (if x1 < 0 then (X11_lowerOf_b54 z x3) else (Zgd (IJ x3 144) (Zgd (IJ x1 144) (if (z 70 x3) < (z 70 x1) then (X11_lowerOf_b54 z x3) else (Zgd (IJ x3 144) (Zgd (IJ x1 144) (if (z 70 x3) = (z 70 x1) then (if x1 ≤ x3 then (X11_lowerOf_b58 z x1) else (X11_lowerOf_b54 z x3)) else (X11_lowerOf_b58 z x1))))))))))
noncomputable def X11_downOf_b74 (z : ZI) (x2 : Int) : Option (Int × ZI) :=
  some (x2, z)
noncomputable def X11_downOf_b56 (z : ZI) (x1 : Int) (x2 : Int) : Option (Int × ZI) :=
  if 132 ≤ x1 then (X11_downOf_b74 z x2) else (Zgd (InR (x1 + 12)) (Yb (F_X11_lowerOf z x2 x1 (x1 + 12)) fun r5_ z3_ => X11_downOf_b74 z3_ r5_))
noncomputable def X11_downOf_b37 (z : ZI) (x1 : Int) (x2 : Int) : Option (Int × ZI) :=
  if 11 ≤ (x1.tmod 12) then (X11_downOf_b56 z x1 x2) else (Zgd (InR (x1 + 1)) (Yb (F_X11_lowerOf z x2 x1 (x1 + 1)) fun r5_ z3_ => X11_downOf_b56 z3_ x1 r5_))
noncomputable def X11_downOf_b20 (z : ZI) (x1 : Int) (x2 : Int) : Option (Int × ZI) :=
  if (x1.tmod 12) ≤ 0 then (X11_downOf_b37 z x1 x2) else (Zgd (InR (x1 - 1)) (Yb (F_X11_lowerOf z x2 x1 (x1 - 1)) fun r5_ z3_ => X11_downOf_b37 z3_ x1 r5_))
noncomputable def F_X11_downOf (z : ZI) (x1 : Int) : Option (Int × ZI) :=
  if x1 < 12 then (X11_downOf_b20 z x1 (-9)) else (Zgd (InR (x1 - 12)) (Yb (F_X11_lowerOf z (-9) x1 (x1 - 12)) fun r5_ z3_ => X11_downOf_b20 z3_ x1 r5_))
noncomputable def X11_isCell_b16 (z : ZI) (y0 : Int) : Option (Int × ZI) :=
  Zgd (y0 = 0 ∨ y0 = 1) (some (y0, z))
noncomputable def X11_isCell_b15 (z : ZI) : Option (Int × ZI) :=
  X11_isCell_b16 z 0
noncomputable def F_X11_isCell (z : ZI) (x0 : Int) : Option (Int × ZI) :=
  if x0 < 0 then (X11_isCell_b15 z ) else (if 144 ≤ x0 then (X11_isCell_b15 z ) else (X11_isCell_b16 z 1))
noncomputable def X11_down_b20 (z : ZI) (y0 : Int) : Option (Int × ZI) :=
  some (y0, z)
noncomputable def F_X11_down (z : ZI) (x1 : Int) : Option (Int × ZI) :=
  Yb (F_X11_isCell z x1) fun r3_ z1_ => if r3_ = 0 then (Yb (F_X11_no z1_ (-1)) fun r7_ z5_ => X11_down_b20 z5_ r7_) else (Yb (F_X11_downOf z1_ x1) fun r10_ z8_ => X11_down_b20 z8_ r10_)
noncomputable def X11_drain_b46 (z : ZI) (x1 : Int) : Option (Int × ZI) :=
  if (z 68 62) = 10 then (Yb (F_X11_no z (-6)) fun r9_ z7_ => some (r9_, z7_)) else (Zgd (IJ (z 68 62) 10) (Zl (Zup z 110 (z 68 62) x1) fun z3_ => Zgd (InR ((z3_ 68 62) + 1)) (Zl (Zup z3_ 68 62 ((z3_ 68 62) + 1)) fun z5_ => Zgd (InR ((z5_ 68 62) - 1)) (some ((z5_ 68 62) - 1, z5_)))))
noncomputable def X11_drain_b33 (z : ZI) : Option (Int × ZI) :=
  Yb (F_X11_no z (-3)) fun r3_ z1_ => some (r3_, z1_)
noncomputable def X11_drain_L15b (k15 : ZI → Int → Int → Option (Int × ZI)) (z : ZI) (x1 : Int) (x2 : Int) : Option (Int × ZI) :=
  if (z 68 62) ≤ x2 then (X11_drain_b46 z x1) else (Zgd (IJ x2 10) (if (z 110 x2) = x1 then (X11_drain_b33 z ) else (Zgd (InR (x2 + 1)) (k15 z x1 (x2 + 1)))))
noncomputable def X11_drain_L15 : Nat → ZI → Int → Int → Option (Int × ZI)
  | 0, _, _, _ => none
  | n + 1, z, x1, x2 => X11_drain_L15b (X11_drain_L15 n) z x1 x2
noncomputable def F_X11_drain (z : ZI) (x1 : Int) : Option (Int × ZI) :=
  Yb (F_X11_isCell z x1) fun r3_ z1_ => if r3_ = 0 then (Yb (F_X11_no z1_ (-1)) fun r7_ z5_ => some (r7_, z5_)) else (X11_drain_L15 Zfuel z1_ x1 0)
noncomputable def X11_findDown_b70 (k4 : ZI → Int → Int → Option (Unit × ZI)) (z : ZI) (x1 : Int) (x2 : Int) (x3 : Int) : Option (Unit × ZI) :=
  Zgd (IJ x3 144) (Zl (Zup z 115 x3 x2) fun z2_ => Zgd (InR (x1 + 1)) (Zgd (InR (x2 + 1)) (k4 z2_ (x1 + 1) (x2 + 1))))
noncomputable def X11_findDown_L24b (k4 : ZI → Int → Int → Option (Unit × ZI)) (k24 : ZI → Int → Int → Int → Option (Unit × ZI)) (z : ZI) (x1 : Int) (x2 : Int) (x3 : Int) : Option (Unit × ZI) :=
  if x3 ≤ 0 then (X11_findDown_b70 k4 z x1 x2 x3) else (Zgd (InR (x3 - 1)) (Zgd (IJ (x3 - 1) 144) (Zgd (IJ (z 115 (x3 - 1)) 144) (Zgd (IJ x2 144) (if (z 70 x2) ≤ (z 70 (z 115 (x3 - 1))) then (X11_findDown_b70 k4 z x1 x2 x3) else (Zgd (InR (x3 - 1)) (Zgd (IJ (x3 - 1) 144) (Zgd (IJ x3 144) (Zl (Zup z 115 x3 (z 115 (x3 - 1))) fun z10_ => Zgd (InR (x3 + (-1))) (k24 z10_ x1 x2 (x3 + (-1))))))))))))
noncomputable def X11_findDown_L24 (k4 : ZI → Int → Int → Option (Unit × ZI)) : Nat → ZI → Int → Int → Int → Option (Unit × ZI)
  | 0, _, _, _, _ => none
  | n + 1, z, x1, x2, x3 => X11_findDown_L24b k4 (X11_findDown_L24 k4 n) z x1 x2 x3
noncomputable def X11_findDown_L4b (k4 : ZI → Int → Int → Option (Unit × ZI)) (z : ZI) (x1 : Int) (x2 : Int) : Option (Unit × ZI) :=
  if 144 ≤ x2 then (some ((), z)) else (Yb (F_X11_downOf z x2) fun r4_ z2_ => Zgd (IJ x2 144) (Zl (Zup z2_ 112 x2 r4_) fun z6_ => X11_findDown_L24 k4 Zfuel z6_ x1 x2 x1))
noncomputable def X11_findDown_L4 : Nat → ZI → Int → Int → Option (Unit × ZI)
  | 0, _, _, _ => none
  | n + 1, z, x1, x2 => X11_findDown_L4b (X11_findDown_L4 n) z x1 x2
noncomputable def F_X11_findDown (z : ZI) : Option (Unit × ZI) :=
  X11_findDown_L4 Zfuel z 0 0
noncomputable def X11_rains_b143 (k86 : ZI → Int → Option (Unit × ZI)) (z : ZI) (x3 : Int) : Option (Unit × ZI) :=
  Zgd (InR (x3 + 1)) (k86 z (x3 + 1))
noncomputable def X11_rains_L86b (k86 : ZI → Int → Option (Unit × ZI)) (z : ZI) (x3 : Int) : Option (Unit × ZI) :=
  if 144 ≤ x3 then (some ((), z)) else (Zgd (IJ x3 144) (Zgd (IJ (z 115 x3) 144) (if (z 112 (z 115 x3)) < 0 then (X11_rains_b143 k86 z x3) else (Zgd (IJ (z 115 x3) 144) (if (z 113 (z 115 x3)) = 0 then (Zgd (IJ (z 115 x3) 144) (Zgd (IJ (z 112 (z 115 x3)) 144) (Zgd (IJ (z 115 x3) 144) (Zgd (InR ((z 111 (z 112 (z 115 x3))) + (z 111 (z 115 x3)))) (Zgd (IJ (z 112 (z 115 x3)) 144) (Zl (Zup z 111 (z 112 (z 115 x3)) ((z 111 (z 112 (z 115 x3))) + (z 111 (z 115 x3)))) fun z12_ => X11_rains_b143 k86 z12_ x3)))))) else (X11_rains_b143 k86 z x3))))))
noncomputable def X11_rains_L86 : Nat → ZI → Int → Option (Unit × ZI)
  | 0, _, _ => none
  | n + 1, z, x3 => X11_rains_L86b (X11_rains_L86 n) z x3
noncomputable def X11_rains_b84 (z : ZI) : Option (Unit × ZI) :=
  X11_rains_L86 Zfuel z 0
noncomputable def X11_rains_b77 (k31 : ZI → Int → Int → Option (Unit × ZI)) (z : ZI) (x2 : Int) (x3 : Int) (y1 : Int) (y2 : Int) : Option (Unit × ZI) :=
  Zgd (y2 = 0 ∨ y2 = 1) (Zgd (IJ y1 144) (Zl (Zup z 113 y1 y2) fun z2_ => Zgd (InR (x3 + 1)) (k31 z2_ x2 (x3 + 1))))
noncomputable def X11_rains_b72 (k31 : ZI → Int → Int → Option (Unit × ZI)) (z : ZI) (x2 : Int) (x3 : Int) (y1 : Int) : Option (Unit × ZI) :=
  X11_rains_b77 k31 z x2 x3 y1 1
noncomputable def X11_rains_L31b (k31 : ZI → Int → Int → Option (Unit × ZI)) (z : ZI) (x2 : Int) (x3 : Int) : Option (Unit × ZI) :=
  if (z 68 62) ≤ x3 then (X11_rains_b84 z ) else (Zgd (IJ x3 10) (Zgd (IJ x3 10) (Zgd (IJ (z 110 x3) 144) (if (z 113 (z 110 x3)) = 0 then (if (jand (jshr x2 x3) 1) = 1 then (X11_rains_b72 k31 z x2 x3 (z 110 x3)) else (X11_rains_b77 k31 z x2 x3 (z 110 x3) 0)) else (X11_rains_b72 k31 z x2 x3 (z 110 x3))))))
noncomputable def X11_rains_L31 : Nat → ZI → Int → Int → Option (Unit × ZI)
  | 0, _, _, _ => none
  | n + 1, z, x2, x3 => X11_rains_L31b (X11_rains_L31 n) z x2 x3
noncomputable def X11_rains_b29 (z : ZI) (x2 : Int) : Option (Unit × ZI) :=
  X11_rains_L31 Zfuel z x2 0
noncomputable def X11_rains_L2b (k2 : ZI → Int → Int → Int → Option (Unit × ZI)) (z : ZI) (x1 : Int) (x2 : Int) (x3 : Int) : Option (Unit × ZI) :=
  if 144 ≤ x3 then (X11_rains_b29 z x2) else (Zgd (IJ x3 144) (Zl (Zup z 113 x3 0) fun z3_ => Zgd (IJ x3 144) (Zl (Zup z3_ 111 x3 x1) fun z5_ => Zgd (InR (x3 + 1)) (k2 z5_ x1 x2 (x3 + 1)))))
noncomputable def X11_rains_L2 : Nat → ZI → Int → Int → Int → Option (Unit × ZI)
  | 0, _, _, _, _ => none
  | n + 1, z, x1, x2, x3 => X11_rains_L2b (X11_rains_L2 n) z x1 x2 x3
noncomputable def F_X11_rains (z : ZI) (x1 : Int) (x2 : Int) : Option (Unit × ZI) :=
  X11_rains_L2 Zfuel z x1 x2 0
noncomputable def X11_foulWells_b159 (k126 : ZI → Int → Int → Option (Int × ZI)) (z : ZI) (x4 : Int) (y0 : Int) (y1 : Int) : Option (Int × ZI) :=
  Zgd (InR (x4 + 1)) (k126 z (jor y0 y1) (x4 + 1))
noncomputable def X11_foulWells_L126b (k126 : ZI → Int → Int → Option (Int × ZI)) (z : ZI) (x3 : Int) (x4 : Int) : Option (Int × ZI) :=
  if (z 68 47) ≤ x4 then (some (x3, z)) else (Zgd (IJ x4 6) (Zgd (IJ (z 95 x4) 144) (if (z 114 (z 95 x4)) = 0 then (X11_foulWells_b159 k126 z x4 x3 0) else (X11_foulWells_b159 k126 z x4 x3 (jshl 1 x4)))))
noncomputable def X11_foulWells_L126 : Nat → ZI → Int → Int → Option (Int × ZI)
  | 0, _, _, _ => none
  | n + 1, z, x3, x4 => X11_foulWells_L126b (X11_foulWells_L126 n) z x3 x4
noncomputable def X11_foulWells_b121 (z : ZI) : Option (Int × ZI) :=
  X11_foulWells_L126 Zfuel z 0 0
noncomputable def X11_foulWells_b115 (k30 : ZI → Int → Option (Int × ZI)) (z : ZI) (x3 : Int) : Option (Int × ZI) :=
  Zgd (InR (x3 + 1)) (k30 z (x3 + 1))
noncomputable def X11_foulWells_b110 (k30 : ZI → Int → Option (Int × ZI)) (k75 : ZI → Int → Int → Option (Int × ZI)) (z : ZI) (x3 : Int) (y0 : Int) : Option (Int × ZI) :=
  k75 z x3 y0
noncomputable def X11_foulWells_L75b (k30 : ZI → Int → Option (Int × ZI)) (k75 : ZI → Int → Int → Option (Int × ZI)) (z : ZI) (x3 : Int) (x4 : Int) : Option (Int × ZI) :=
  if x4 < 0 then (X11_foulWells_b115 k30 z x3) else (Zgd (IJ x4 144) (Zl (Zup z 114 x4 1) fun z3_ => Zgd (IJ x4 144) (if (z3_ 113 x4) = 0 then (Zgd (IJ x4 144) (X11_foulWells_b110 k30 k75 z3_ x3 (z3_ 112 x4))) else (X11_foulWells_b110 k30 k75 z3_ x3 (-9)))))
noncomputable def X11_foulWells_L75 (k30 : ZI → Int → Option (Int × ZI)) : Nat → ZI → Int → Int → Option (Int × ZI)
  | 0, _, _, _ => none
  | n + 1, z, x3, x4 => X11_foulWells_L75b k30 (X11_foulWells_L75 k30 n) z x3 x4
noncomputable def X11_foulWells_L30b (k30 : ZI → Int → Option (Int × ZI)) (z : ZI) (x3 : Int) : Option (Int × ZI) :=
  if (z 68 61) ≤ x3 then (X11_foulWells_b121 z ) else (Zgd (IJ x3 14) (Zgd (IJ (z 108 x3) 144) (if (z 113 (z 108 x3)) = 0 then (Zgd (IJ (z 108 x3) 144) (Zgd (IJ x3 14) (if (z 109 x3) ≤ (z 111 (z 108 x3)) then (X11_foulWells_L75 k30 Zfuel z x3 (z 108 x3)) else (X11_foulWells_b115 k30 z x3)))) else (X11_foulWells_b115 k30 z x3))))
noncomputable def X11_foulWells_L30 : Nat → ZI → Int → Option (Int × ZI)
  | 0, _, _ => none
  | n + 1, z, x3 => X11_foulWells_L30b (X11_foulWells_L30 n) z x3
noncomputable def X11_foulWells_b28 (z : ZI) : Option (Int × ZI) :=
  X11_foulWells_L30 Zfuel z 0
noncomputable def X11_foulWells_L8b (k8 : ZI → Int → Option (Int × ZI)) (z : ZI) (x3 : Int) : Option (Int × ZI) :=
  if 144 ≤ x3 then (X11_foulWells_b28 z ) else (Zgd (IJ x3 144) (Zl (Zup z 114 x3 0) fun z3_ => Zgd (InR (x3 + 1)) (k8 z3_ (x3 + 1))))
noncomputable def X11_foulWells_L8 : Nat → ZI → Int → Option (Int × ZI)
  | 0, _, _ => none
  | n + 1, z, x3 => X11_foulWells_L8b (X11_foulWells_L8 n) z x3
noncomputable def F_X11_foulWells (z : ZI) (x1 : Int) (x2 : Int) : Option (Int × ZI) :=
  Yb (F_X11_rains z x1 x2) fun _ z1_ => X11_foulWells_L8 Zfuel z1_ 0
noncomputable def X11_drains_b70 (k30 : ZI → Int → Int → Int → Option (Int × ZI)) (z : ZI) (x1 : Int) (x3 : Int) (x4 : Int) : Option (Int × ZI) :=
  Zgd (InR (x4 + 1)) (k30 z x1 x3 (x4 + 1))
noncomputable def X11_drains_b57 (k30 : ZI → Int → Int → Int → Option (Int × ZI)) (z : ZI) (x1 : Int) (x3 : Int) (x4 : Int) : Option (Int × ZI) :=
  Yb (F_X11_foulWells z x1 x4) fun r3_ z1_ => if r3_ = 0 then (X11_drains_b70 k30 z1_ x1 x4 x4) else (X11_drains_b70 k30 z1_ x1 x3 x4)
noncomputable def X11_drains_L30b (k30 : ZI → Int → Int → Int → Option (Int × ZI)) (z : ZI) (x1 : Int) (x3 : Int) (x4 : Int) : Option (Int × ZI) :=
  if (jshl 1 (z 68 62)) ≤ x4 then (some (x3, z)) else (if x3 < 0 then (X11_drains_b57 k30 z x1 x3 x4) else (Yb (F_X11_bits z x4) fun r5_ z3_ => Yb (F_X11_bits z3_ x3) fun r8_ z6_ => if r8_ ≤ r5_ then (X11_drains_b70 k30 z6_ x1 x3 x4) else (X11_drains_b57 k30 z6_ x1 x3 x4)))
noncomputable def X11_drains_L30 : Nat → ZI → Int → Int → Int → Option (Int × ZI)
  | 0, _, _, _, _ => none
  | n + 1, z, x1, x3, x4 => X11_drains_L30b (X11_drains_L30 n) z x1 x3 x4
noncomputable def F_X11_drains (z : ZI) (x1 : Int) : Option (Int × ZI) :=
  Yb (F_X11_out z x1 1 999) fun r3_ z1_ => if r3_ = 0 then (Yb (F_X11_findDown z1_) fun _ z5_ => X11_drains_L30 Zfuel z5_ x1 (-9) 0) else (Yb (F_X11_no z1_ r3_) fun r10_ z8_ => some (r10_, z8_))
noncomputable def X11_forceOf_b60 (k6 : ZI → Int → Int → Int → Int → Option (Int × ZI)) (z : ZI) (x1 : Int) (x2 : Int) (x3 : Int) (x4 : Int) : Option (Int × ZI) :=
  Zgd (InR (x4 + 1)) (k6 z x1 x2 x3 (x4 + 1))
noncomputable def X11_forceOf_b57 (k6 : ZI → Int → Int → Int → Int → Option (Int × ZI)) (z : ZI) (x1 : Int) (x2 : Int) (x4 : Int) : Option (Int × ZI) :=
  X11_forceOf_b60 k6 z x1 x2 x4 x4
noncomputable def X11_forceOf_L6b (k6 : ZI → Int → Int → Int → Int → Option (Int × ZI)) (z : ZI) (x1 : Int) (x2 : Int) (x3 : Int) (x4 : Int) : Option (Int × ZI) :=
  if (z 68 22) ≤ x4 then (some (x3, z)) else (Zgd (IJ x4 30) (if (z 83 x4) = x1 then (Zgd (IJ x4 30) (if x2 < (z 84 x4) then (X11_forceOf_b60 k6 z x1 x2 x3 x4) else (if x3 < 0 then (X11_forceOf_b57 k6 z x1 x2 x4) else (Zgd (IJ x4 30) (Zgd (IJ x3 30) (if (z 84 x4) < (z 84 x3) then (X11_forceOf_b60 k6 z x1 x2 x3 x4) else (X11_forceOf_b57 k6 z x1 x2 x4))))))) else (X11_forceOf_b60 k6 z x1 x2 x3 x4)))
noncomputable def X11_forceOf_L6 : Nat → ZI → Int → Int → Int → Int → Option (Int × ZI)
  | 0, _, _, _, _, _ => none
  | n + 1, z, x1, x2, x3, x4 => X11_forceOf_L6b (X11_forceOf_L6 n) z x1 x2 x3 x4
noncomputable def F_X11_forceOf (z : ZI) (x1 : Int) (x2 : Int) : Option (Int × ZI) :=
  X11_forceOf_L6 Zfuel z x1 x2 (-9) 0
noncomputable def X11_noFacts_L2b (k2 : ZI → Int → Option (Unit × ZI)) (z : ZI) (x1 : Int) : Option (Unit × ZI) :=
  if 128 ≤ x1 then (some ((), z)) else (Zgd (IJ x1 128) (Zl (Zup z 85 x1 0) fun z3_ => Zgd (InR (x1 + 1)) (k2 z3_ (x1 + 1))))
noncomputable def X11_noFacts_L2 : Nat → ZI → Int → Option (Unit × ZI)
  | 0, _, _ => none
  | n + 1, z, x1 => X11_noFacts_L2b (X11_noFacts_L2 n) z x1
noncomputable def F_X11_noFacts (z : ZI) : Option (Unit × ZI) :=
  X11_noFacts_L2 Zfuel z 0
noncomputable def X11_isDigit_b17 (z : ZI) (y0 : Int) : Option (Int × ZI) :=
  Zgd (y0 = 0 ∨ y0 = 1) (some (y0, z))
noncomputable def X11_isDigit_b16 (z : ZI) : Option (Int × ZI) :=
  X11_isDigit_b17 z 0
noncomputable def F_X11_isDigit (z : ZI) (x0 : Int) : Option (Int × ZI) :=
  if x0 < 48 then (X11_isDigit_b16 z ) else (if 57 < x0 then (X11_isDigit_b16 z ) else (X11_isDigit_b17 z 1))
noncomputable def X11_isLetter_b53 (z : ZI) (y0 : Int) : Option (Int × ZI) :=
  Zgd (y0 = 0 ∨ y0 = 1) (some (y0, z))
noncomputable def X11_isLetter_b48 (z : ZI) : Option (Int × ZI) :=
  X11_isLetter_b53 z 1
noncomputable def F_X11_isLetter (z : ZI) (x0 : Int) : Option (Int × ZI) :=
  if x0 = 110 then (X11_isLetter_b48 z ) else (if x0 = 107 then (X11_isLetter_b48 z ) else (if x0 = 111 then (X11_isLetter_b48 z ) else (if x0 = 115 then (X11_isLetter_b48 z ) else (if x0 = 100 then (X11_isLetter_b48 z ) else (if x0 = 97 then (X11_isLetter_b48 z ) else (if x0 = 116 then (X11_isLetter_b48 z ) else (if x0 = 99 then (X11_isLetter_b48 z ) else (X11_isLetter_b53 z 0))))))))
noncomputable def X11_rank_b43 (z : ZI) (y0 : Int) : Option (Int × ZI) :=
  some (y0, z)
noncomputable def X11_rank_b22 (z : ZI) : Option (Int × ZI) :=
  X11_rank_b43 z 3
noncomputable def X11_rank_b38 (z : ZI) : Option (Int × ZI) :=
  X11_rank_b43 z 2
noncomputable def F_X11_rank (z : ZI) (x0 : Int) : Option (Int × ZI) :=
  if x0 = 40 then (X11_rank_b43 z 0) else (if x0 = 42 then (X11_rank_b22 z ) else (if x0 = 47 then (X11_rank_b22 z ) else (if x0 = 43 then (X11_rank_b38 z ) else (if x0 = 45 then (X11_rank_b38 z ) else (X11_rank_b43 z 1)))))
noncomputable def X11_held_b29 (z : ZI) (y0 : Int) : Option (Int × ZI) :=
  some (y0, z)
noncomputable def F_X11_held (z : ZI) (x0 : Int) : Option (Int × ZI) :=
  if 0 ≤ (jcmp x0 (-1000000000)) then (if (jcmp x0 1000000000) ≤ 0 then (X11_held_b29 z x0) else (X11_held_b29 z 1000000000)) else (X11_held_b29 z (-1000000000))
noncomputable def X11_works_b206 (z : ZI) : Option (Unit × ZI) :=
  some ((), z)
noncomputable def X11_works_b185 (k0 : ZI → Int → Option (Unit × ZI)) (z : ZI) (x1 : Int) (y0 : Int) : Option (Unit × ZI) :=
  Zgd (InR ((z 68 27) - 1)) (Yb (F_X11_held z y0) fun r4_ z2_ => Zgd (IJ ((z 68 27) - 1) 70) (Zl (Zup z2_ (87 + 1000) ((z 68 27) - 1) r4_) fun z6_ => k0 z6_ x1))
noncomputable def X11_works_b184 (k0 : ZI → Int → Option (Unit × ZI)) (z : ZI) (x1 : Int) : Option (Unit × ZI) :=
  X11_works_b185 k0 z x1 0
noncomputable def X11_works_b180 (k0 : ZI → Int → Option (Unit × ZI)) (z : ZI) (x1 : Int) : Option (Unit × ZI) :=
  X11_works_b185 k0 z x1 1
noncomputable def X11_works_L0b (k0 : ZI → Int → Option (Unit × ZI)) (z : ZI) (x1 : Int) : Option (Unit × ZI) :=
  if (z 68 26) ≤ 0 then (X11_works_b206 z ) else (Zgd (InR ((z 68 26) - 1)) (Zgd (IJ ((z 68 26) - 1) 70) (Yb (F_X11_rank z (z 86 ((z 68 26) - 1))) fun r6_ z4_ => if r6_ < x1 then (X11_works_b206 z4_ ) else (Zgd (InR ((z4_ 68 26) - 1)) (Zl (Zup z4_ 68 26 ((z4_ 68 26) - 1)) fun z9_ => Zgd (IJ (z9_ 68 26) 70) (Zgd (InR ((z9_ 68 27) - 1)) (Zl (Zup z9_ 68 27 ((z9_ 68 27) - 1)) fun z12_ => Zgd (InR ((z12_ 68 27) - 1)) (Zgd (IJ ((z12_ 68 27) - 1) 70) (Zgd (IJ (z12_ 68 27) 70) (if (z9_ 86 (z9_ 68 26)) = 43 then (Zgd (InL ((z12_ (87 + 1000) ((z12_ 68 27) - 1)) + (z12_ (87 + 1000) (z12_ 68 27)))) (X11_works_b185 k0 z12_ x1 ((z12_ (87 + 1000) ((z12_ 68 27) - 1)) + (z12_ (87 + 1000) (z12_ 68 27))))) else (if (z9_ 86 (z9_ 68 26)) = 45 then (Zgd (InL ((z12_ (87 + 1000) ((z12_ 68 27) - 1)) - (z12_ (87 + 1000) (z12_ 68 27)))) (X11_works_b185 k0 z12_ x1 ((z12_ (87 + 1000) ((z12_ 68 27) - 1)) - (z12_ (87 + 1000) (z12_ 68 27))))) else (if (z9_ 86 (z9_ 68 26)) = 42 then (Zgd (InL ((z12_ (87 + 1000) ((z12_ 68 27) - 1)) * (z12_ (87 + 1000) (z12_ 68 27)))) (X11_works_b185 k0 z12_ x1 ((z12_ (87 + 1000) ((z12_ 68 27) - 1)) * (z12_ (87 + 1000) (z12_ 68 27))))) else (if (z9_ 86 (z9_ 68 26)) = 47 then (if (jcmp (z12_ (87 + 1000) (z12_ 68 27)) 0) = 0 then (X11_works_b185 k0 z12_ x1 0) else (Zgd (¬ z12_ (87 + 1000) (z12_ 68 27) = 0) (Zgd (InL ((z12_ (87 + 1000) ((z12_ 68 27) - 1)).tdiv (z12_ (87 + 1000) (z12_ 68 27)))) (X11_works_b185 k0 z12_ x1 ((z12_ (87 + 1000) ((z12_ 68 27) - 1)).tdiv (z12_ (87 + 1000) (z12_ 68 27))))))) else (if (z9_ 86 (z9_ 68 26)) = 60 then (if 0 ≤ (jcmp (z12_ (87 + 1000) ((z12_ 68 27) - 1)) (z12_ (87 + 1000) (z12_ 68 27))) then (X11_works_b184 k0 z12_ x1) else (X11_works_b180 k0 z12_ x1)) else (if (z9_ 86 (z9_ 68 26)) = 62 then (if (jcmp (z12_ (87 + 1000) ((z12_ 68 27) - 1)) (z12_ (87 + 1000) (z12_ 68 27))) ≤ 0 then (X11_works_b184 k0 z12_ x1) else (X11_works_b180 k0 z12_ x1)) else (if (jcmp (z12_ (87 + 1000) ((z12_ 68 27) - 1)) (z12_ (87 + 1000) (z12_ 68 27))) = 0 then (X11_works_b180 k0 z12_ x1) else (X11_works_b184 k0 z12_ x1)))))))))))))))))
noncomputable def X11_works_L0 : Nat → ZI → Int → Option (Unit × ZI)
  | 0, _, _ => none
  | n + 1, z, x1 => X11_works_L0b (X11_works_L0 n) z x1
noncomputable def F_X11_works (z : ZI) (x1 : Int) : Option (Unit × ZI) :=
  X11_works_L0 Zfuel z x1
noncomputable def X11_worth_b230 (z : ZI) : Option (Int × ZI) :=
  Yb (F_X11_works z 1) fun _ z1_ => Zgd (IJ 0 70) (some (jl2i (z1_ (87 + 1000) 0), z1_))
noncomputable def X11_worth_b227 (k12 : ZI → Int → Int → Option (Int × ZI)) (z : ZI) (x1 : Int) (x2 : Int) : Option (Int × ZI) :=
  k12 z x1 x2
noncomputable def X11_worth_b145 (k12 : ZI → Int → Int → Option (Int × ZI)) (z : ZI) (x1 : Int) (x2 : Int) (x4 : Int) : Option (Int × ZI) :=
  Zgd (IJ (z 68 27) 70) (Zl (Zup z (87 + 1000) (z 68 27) x4) fun z2_ => Zgd (InR ((z2_ 68 27) + 1)) (Zl (Zup z2_ 68 27 ((z2_ 68 27) + 1)) fun z4_ => X11_worth_b227 k12 z4_ x1 x2))
noncomputable def X11_worth_L87b (k12 : ZI → Int → Int → Option (Int × ZI)) (k87 : ZI → Int → Int → Int → Option (Int × ZI)) (z : ZI) (x1 : Int) (x2 : Int) (x4 : Int) : Option (Int × ZI) :=
  Zgd (IJ x1 30) (if (z 82 x1) ≤ x2 then (X11_worth_b145 k12 z x1 x2 x4) else (Zgd (InR (60 * x1)) (Zgd (InR ((60 * x1) + x2)) (Zgd (IJ ((60 * x1) + x2) 1800) (Yb (F_X11_isDigit z (z 81 ((60 * x1) + x2))) fun r8_ z6_ => if r8_ = 0 then (X11_worth_b145 k12 z6_ x1 x2 x4) else (Zgd (InL (10 * x4)) (Zgd (InR (60 * x1)) (Zgd (InR ((60 * x1) + x2)) (Zgd (IJ ((60 * x1) + x2) 1800) (Zgd (InL ((10 * x4) + (z6_ 81 ((60 * x1) + x2)))) (Zgd (InL (((10 * x4) + (z6_ 81 ((60 * x1) + x2))) - 48)) (Zgd (InR (x2 + 1)) (k87 z6_ x1 (x2 + 1) (((10 * x4) + (z6_ 81 ((60 * x1) + x2))) - 48))))))))))))))
noncomputable def X11_worth_L87 (k12 : ZI → Int → Int → Option (Int × ZI)) : Nat → ZI → Int → Int → Int → Option (Int × ZI)
  | 0, _, _, _, _ => none
  | n + 1, z, x1, x2, x4 => X11_worth_L87b k12 (X11_worth_L87 k12 n) z x1 x2 x4
noncomputable def X11_worth_b207 (k12 : ZI → Int → Int → Option (Int × ZI)) (z : ZI) (x1 : Int) (x2 : Int) (x3 : Int) : Option (Int × ZI) :=
  Zgd (IJ (z 68 26) 70) (Zl (Zup z 86 (z 68 26) x3) fun z2_ => Zgd (InR ((z2_ 68 26) + 1)) (Zl (Zup z2_ 68 26 ((z2_ 68 26) + 1)) fun z4_ => X11_worth_b227 k12 z4_ x1 x2))
noncomputable def X11_worth_L12b (k12 : ZI → Int → Int → Option (Int × ZI)) (z : ZI) (x1 : Int) (x2 : Int) : Option (Int × ZI) :=
  Zgd (IJ x1 30) (if (z 82 x1) ≤ x2 then (X11_worth_b230 z ) else (Zgd (InR (60 * x1)) (Zgd (InR ((60 * x1) + x2)) (Zgd (IJ ((60 * x1) + x2) 1800) (Zgd (InR (x2 + 1)) (Yb (F_X11_isLetter z (z 81 ((60 * x1) + x2))) fun r9_ z7_ => if r9_ = 0 then (Yb (F_X11_isDigit z7_ (z 81 ((60 * x1) + x2))) fun r13_ z11_ => if r13_ = 0 then (if (z 81 ((60 * x1) + x2)) = 41 then (Yb (F_X11_works z11_ 1) fun _ z23_ => Zgd (InR ((z23_ 68 26) - 1)) (Zl (Zup z23_ 68 26 ((z23_ 68 26) - 1)) fun z27_ => X11_worth_b227 k12 z27_ x1 (x2 + 1))) else (if (z 81 ((60 * x1) + x2)) = 40 then (X11_worth_b207 k12 z11_ x1 (x2 + 1) (z 81 ((60 * x1) + x2))) else (Yb (F_X11_rank z11_ (z 81 ((60 * x1) + x2))) fun r19_ z17_ => Yb (F_X11_works z17_ r19_) fun _ z20_ => X11_worth_b207 k12 z20_ x1 (x2 + 1) (z 81 ((60 * x1) + x2))))) else (Zgd (InR ((z 81 ((60 * x1) + x2)) - 48)) (X11_worth_L87 k12 Zfuel z11_ x1 (x2 + 1) ((z 81 ((60 * x1) + x2)) - 48)))) else (Zgd (IJ (z 81 ((60 * x1) + x2)) 128) (Zgd (IJ (z7_ 68 27) 70) (Zl (Zup z7_ (87 + 1000) (z7_ 68 27) (z7_ 85 (z 81 ((60 * x1) + x2)))) fun z31_ => Zgd (InR ((z31_ 68 27) + 1)) (Zl (Zup z31_ 68 27 ((z31_ 68 27) + 1)) fun z33_ => X11_worth_b227 k12 z33_ x1 (x2 + 1)))))))))))
noncomputable def X11_worth_L12 : Nat → ZI → Int → Int → Option (Int × ZI)
  | 0, _, _, _ => none
  | n + 1, z, x1, x2 => X11_worth_L12b (X11_worth_L12 n) z x1 x2
noncomputable def F_X11_worth (z : ZI) (x1 : Int) : Option (Int × ZI) :=
  Zl (Zup z 68 26 0) fun z1_ => Zl (Zup z1_ 68 27 0) fun z2_ => X11_worth_L12 Zfuel z2_ x1 0
noncomputable def X11_drawOf_b29 (z : ZI) : Option (Int × ZI) :=
  some (0, z)
noncomputable def X11_drawOf_b239 (z : ZI) (y0 : Int) : Option (Int × ZI) :=
  some (y0, z)
noncomputable def X11_drawOf_b192 (z : ZI) (x1 : Int) (x2 : Int) (x3 : Int) : Option (Int × ZI) :=
  Zgd (IJ x1 40) (Zgd (InR (x2 - (z 89 x1))) (Zgd (IJ 100 128) (Zl (Zup z 85 100 (x2 - (z 89 x1))) fun z4_ => Yb (F_X11_worth z4_ x3) fun r7_ z5_ => if 0 ≤ r7_ then (if r7_ ≤ 9999 then (X11_drawOf_b239 z5_ r7_) else (X11_drawOf_b239 z5_ 9999)) else (X11_drawOf_b239 z5_ 0))))
noncomputable def X11_drawOf_b186 (k51 : ZI → Int → Int → Int → Int → Option (Int × ZI)) (z : ZI) (x1 : Int) (x2 : Int) (x3 : Int) (x4 : Int) : Option (Int × ZI) :=
  Zgd (InR (x4 + 1)) (k51 z x1 x2 x3 (x4 + 1))
noncomputable def X11_drawOf_b184 (k51 : ZI → Int → Int → Int → Int → Option (Int × ZI)) (z : ZI) (x1 : Int) (x2 : Int) (x3 : Int) (x4 : Int) (y1 : Int) (y2 : Int) (y3 : Int) : Option (Int × ZI) :=
  Zgd (InR (y2 + y3)) (Zgd (IJ y1 128) (Zl (Zup z 85 y1 (y2 + y3)) fun z3_ => X11_drawOf_b186 k51 z3_ x1 x2 x3 x4))
noncomputable def X11_drawOf_b158 (k51 : ZI → Int → Int → Int → Int → Option (Int × ZI)) (z : ZI) (x1 : Int) (x2 : Int) (x3 : Int) (x4 : Int) (y1 : Int) (y2 : Int) (y3 : Int) : Option (Int × ZI) :=
  Zgd (InR (y2 + y3)) (Zgd (IJ y1 128) (Zl (Zup z 85 y1 (y2 + y3)) fun z3_ => Zgd (IJ 115 128) (Yb (F_X11_stateOn z3_ x4 x2) fun r7_ z5_ => if r7_ = 2 then (X11_drawOf_b184 k51 z5_ x1 x2 x3 x4 115 (z3_ 85 115) 1) else (X11_drawOf_b184 k51 z5_ x1 x2 x3 x4 115 (z3_ 85 115) 0))))
noncomputable def X11_drawOf_b128 (k51 : ZI → Int → Int → Int → Int → Option (Int × ZI)) (z : ZI) (x1 : Int) (x2 : Int) (x3 : Int) (x4 : Int) (y1 : Int) (y2 : Int) (y3 : Int) : Option (Int × ZI) :=
  Zgd (InR (y2 + y3)) (Zgd (IJ y1 128) (Zl (Zup z 85 y1 (y2 + y3)) fun z3_ => Zgd (IJ 111 128) (Zgd (IJ x4 60) (Zgd (InR (x2 - (z3_ 74 x4))) (if (x2 - (z3_ 74 x4)) ≤ 21900 then (X11_drawOf_b158 k51 z3_ x1 x2 x3 x4 111 (z3_ 85 111) 0) else (X11_drawOf_b158 k51 z3_ x1 x2 x3 x4 111 (z3_ 85 111) 1))))))
noncomputable def X11_drawOf_L51b (k51 : ZI → Int → Int → Int → Int → Option (Int × ZI)) (z : ZI) (x1 : Int) (x2 : Int) (x3 : Int) (x4 : Int) : Option (Int × ZI) :=
  if (z 68 13) ≤ x4 then (X11_drawOf_b192 z x1 x2 x3) else (Zgd (IJ x4 60) (Zgd (IJ x1 40) (if (z 73 x4) = (z 88 x1) then (Yb (F_X11_isHere z x4 x2) fun r7_ z5_ => if r7_ = 0 then (X11_drawOf_b186 k51 z5_ x1 x2 x3 x4) else (Zgd (IJ 110 128) (Zgd (InR ((z5_ 85 110) + 1)) (Zgd (IJ 110 128) (Zl (Zup z5_ 85 110 ((z5_ 85 110) + 1)) fun z12_ => Zgd (IJ 107 128) (Zgd (IJ x4 60) (Zgd (InR (x2 - (z12_ 74 x4))) (if 1825 ≤ (x2 - (z12_ 74 x4)) then (X11_drawOf_b128 k51 z12_ x1 x2 x3 x4 107 (z12_ 85 107) 0) else (X11_drawOf_b128 k51 z12_ x1 x2 x3 x4 107 (z12_ 85 107) 1))))))))) else (X11_drawOf_b186 k51 z x1 x2 x3 x4))))
noncomputable def X11_drawOf_L51 : Nat → ZI → Int → Int → Int → Int → Option (Int × ZI)
  | 0, _, _, _, _, _ => none
  | n + 1, z, x1, x2, x3, x4 => X11_drawOf_L51b (X11_drawOf_L51 n) z x1 x2 x3 x4
noncomputable def X11_drawOf_b31 (z : ZI) (x1 : Int) (x2 : Int) : Option (Int × ZI) :=
  Yb (F_X11_forceOf z 0 x2) fun r3_ z1_ => if 0 ≤ r3_ then (Yb (F_X11_noFacts z1_) fun _ z5_ => X11_drawOf_L51 Zfuel z5_ x1 x2 r3_ 0) else (some (0, z1_))
noncomputable def F_X11_drawOf (z : ZI) (x1 : Int) (x2 : Int) : Option (Int × ZI) :=
  Zgd (IJ x1 40) (if x2 < (z 89 x1) then (X11_drawOf_b29 z ) else (Zgd (IJ x1 40) (if (z 90 x1) < 0 then (X11_drawOf_b31 z x1 x2) else (Zgd (IJ x1 40) (if x2 < (z 90 x1) then (X11_drawOf_b31 z x1 x2) else (X11_drawOf_b29 z ))))))
noncomputable def X11_draw_b42 (z : ZI) (y0 : Int) : Option (Int × ZI) :=
  some (y0, z)
noncomputable def F_X11_draw (z : ZI) (x1 : Int) (x2 : Int) : Option (Int × ZI) :=
  Yb (F_X11_isCard z x1) fun r3_ z1_ => if r3_ = 0 then (Yb (F_X11_no z1_ (-1)) fun r17_ z15_ => some (r17_, z15_)) else (Yb (F_X11_out z1_ x2 0 999) fun r7_ z5_ => if r7_ = 0 then (Yb (F_X11_drawOf z5_ x1 x2) fun r11_ z9_ => X11_draw_b42 z9_ r11_) else (Yb (F_X11_no z5_ r7_) fun r14_ z12_ => X11_draw_b42 z12_ r14_))
noncomputable def F_X11_end (z : ZI) (x1 : Int) : Option (Int × ZI) :=
  Yb (F_X11_isCard z x1) fun r3_ z1_ => if r3_ = 0 then (Yb (F_X11_no z1_ (-1)) fun r14_ z12_ => some (r14_, z12_)) else (Zgd (IJ x1 40) (if (z1_ 90 x1) < 0 then (Zgd (IJ x1 40) (Zl (Zup z1_ 90 x1 (z1_ 68 11)) fun z8_ => some (1, z8_))) else (Yb (F_X11_no z1_ (-3)) fun r11_ z9_ => some (r11_, z9_))))
noncomputable def X11_feed_L46b (k46 : ZI → Int → Int → Int → Option (Int × ZI)) (z : ZI) (x1 : Int) (x2 : Int) (x5 : Int) : Option (Int × ZI) :=
  if x1 ≤ x5 then (some (z 68 21, z)) else (Zgd (InR (8 * x5)) (Zgd (IJ (z 68 21) 60) (Zl (Zup z 80 (z 68 21) (jl2i (jandL (jshrL x2 (8 * x5)) 255))) fun z4_ => Zgd (InR ((z4_ 68 21) + 1)) (Zl (Zup z4_ 68 21 ((z4_ 68 21) + 1)) fun z6_ => Zgd (InR (x5 + 1)) (k46 z6_ x1 x2 (x5 + 1))))))
noncomputable def X11_feed_L46 : Nat → ZI → Int → Int → Int → Option (Int × ZI)
  | 0, _, _, _, _ => none
  | n + 1, z, x1, x2, x5 => X11_feed_L46b (X11_feed_L46 n) z x1 x2 x5
noncomputable def X11_feed_b31 (z : ZI) (x1 : Int) (x2 : Int) (x4 : Int) : Option (Int × ZI) :=
  if x4 = 0 then (X11_feed_L46 Zfuel z x1 x2 0) else (Yb (F_X11_no z x4) fun r4_ z2_ => some (r4_, z2_))
noncomputable def F_X11_feed (z : ZI) (x1 : Int) (x2 : Int) : Option (Int × ZI) :=
  Yb (F_X11_out z x1 1 8) fun r3_ z1_ => if r3_ = 0 then (Zgd (InR ((z1_ 68 21) + x1)) (if ((z1_ 68 21) + x1) ≤ 60 then (X11_feed_b31 z1_ x1 x2 r3_) else (X11_feed_b31 z1_ x1 x2 (-6)))) else (X11_feed_b31 z1_ x1 x2 r3_)
noncomputable def X11_pointsOf_b85 (z : ZI) (x1 : Int) (x2 : Int) (x3 : Int) (y1 : Int) (y2 : Int) : Option (Int × ZI) :=
  Zgd (IJ y1 128) (Zl (Zup z 85 y1 y2) fun z2_ => Zgd (IJ x1 60) (Yb (F_X11_hereOf z2_ (z2_ 73 x1) x2) fun r6_ z4_ => Zgd (IJ 110 128) (Zl (Zup z4_ 85 110 r6_) fun z8_ => Yb (F_X11_worth z8_ x3) fun r11_ z9_ => some (r11_, z9_))))
noncomputable def F_X11_pointsOf (z : ZI) (x1 : Int) (x2 : Int) : Option (Int × ZI) :=
  Yb (F_X11_forceOf z 1 x2) fun r3_ z1_ => if 0 ≤ r3_ then (Yb (F_X11_noFacts z1_) fun _ z5_ => Zgd (IJ x1 60) (Zgd (InR (x2 - (z5_ 74 x1))) (Zgd (IJ 97 128) (Zl (Zup z5_ 85 97 ((x2 - (z5_ 74 x1)).tdiv 365)) fun z11_ => Zgd (IJ x1 60) (Zgd (IJ 116 128) (Zl (Zup z11_ 85 116 (z11_ 75 x1)) fun z14_ => Zgd (IJ x1 60) (Zgd (InR (x2 - (z14_ 76 x1))) (Zgd (IJ 99 128) (Zl (Zup z14_ 85 99 (x2 - (z14_ 76 x1))) fun z18_ => Yb (F_X11_stateOn z18_ x1 x2) fun r21_ z19_ => if r21_ = 2 then (X11_pointsOf_b85 z19_ x1 x2 r3_ 115 1) else (X11_pointsOf_b85 z19_ x1 x2 r3_ 115 0)))))))))) else (some (0, z1_))
noncomputable def X11_findList_b127 (k4 : ZI → Int → Int → Int → Option (Int × ZI)) (z : ZI) (x1 : Int) (x2 : Int) (x3 : Int) : Option (Int × ZI) :=
  Zgd (InR (x3 + 1)) (k4 z x1 x2 (x3 + 1))
noncomputable def X11_findList_b102 (k4 : ZI → Int → Int → Int → Option (Int × ZI)) (z : ZI) (x1 : Int) (x2 : Int) (x3 : Int) (x4 : Int) (x5 : Int) : Option (Int × ZI) :=
  Zgd (IJ x5 60) (Zl (Zup z 124 x5 x4) fun z2_ => Zgd (IJ x3 60) (Zgd (IJ x5 60) (Zl (Zup z2_ 123 x5 (z2_ 122 x3)) fun z5_ => Zgd (InR (x2 + 1)) (X11_findList_b127 k4 z5_ x1 (x2 + 1) x3))))
noncomputable def X11_findList_L45b (k4 : ZI → Int → Int → Int → Option (Int × ZI)) (k45 : ZI → Int → Int → Int → Int → Int → Option (Int × ZI)) (z : ZI) (x1 : Int) (x2 : Int) (x3 : Int) (x4 : Int) (x5 : Int) : Option (Int × ZI) :=
  if x5 ≤ 0 then (X11_findList_b102 k4 z x1 x2 x3 x4 x5) else (Zgd (InR (x5 - 1)) (Zgd (IJ (x5 - 1) 60) (if x4 ≤ (z 124 (x5 - 1)) then (X11_findList_b102 k4 z x1 x2 x3 x4 x5) else (Zgd (InR (x5 - 1)) (Zgd (IJ (x5 - 1) 60) (Zgd (IJ x5 60) (Zl (Zup z 124 x5 (z 124 (x5 - 1))) fun z8_ => Zgd (InR (x5 - 1)) (Zgd (IJ (x5 - 1) 60) (Zgd (IJ x5 60) (Zl (Zup z8_ 123 x5 (z8_ 123 (x5 - 1))) fun z12_ => Zgd (InR (x5 + (-1))) (k45 z12_ x1 x2 x3 x4 (x5 + (-1)))))))))))))
noncomputable def X11_findList_L45 (k4 : ZI → Int → Int → Int → Option (Int × ZI)) : Nat → ZI → Int → Int → Int → Int → Int → Option (Int × ZI)
  | 0, _, _, _, _, _, _ => none
  | n + 1, z, x1, x2, x3, x4, x5 => X11_findList_L45b k4 (X11_findList_L45 k4 n) z x1 x2 x3 x4 x5
noncomputable def X11_findList_L4b (k4 : ZI → Int → Int → Int → Option (Int × ZI)) (z : ZI) (x1 : Int) (x2 : Int) (x3 : Int) : Option (Int × ZI) :=
  if (z 68 78) ≤ x3 then (some (x2, z)) else (Zgd (IJ x3 60) (Yb (F_X11_isHere z (z 122 x3) x1) fun r5_ z3_ => if r5_ = 0 then (X11_findList_b127 k4 z3_ x1 x2 x3) else (Zgd (IJ x3 60) (Yb (F_X11_pointsOf z3_ (z3_ 122 x3) x1) fun r10_ z8_ => X11_findList_L45 k4 Zfuel z8_ x1 x2 x3 r10_ x2))))
noncomputable def X11_findList_L4 : Nat → ZI → Int → Int → Int → Option (Int × ZI)
  | 0, _, _, _, _ => none
  | n + 1, z, x1, x2, x3 => X11_findList_L4b (X11_findList_L4 n) z x1 x2 x3
noncomputable def F_X11_findList (z : ZI) (x1 : Int) : Option (Int × ZI) :=
  X11_findList_L4 Zfuel z x1 0 0
noncomputable def F_X11_flow (z : ZI) (x1 : Int) (x2 : Int) : Option (Int × ZI) :=
  Yb (F_X11_isCell z x1) fun r3_ z1_ => if r3_ = 0 then (Yb (F_X11_no z1_ (-1)) fun r21_ z19_ => some (r21_, z19_)) else (Yb (F_X11_out z1_ x2 1 999) fun r7_ z5_ => if r7_ = 0 then (Yb (F_X11_findDown z5_) fun _ z9_ => Yb (F_X11_rains z9_ x2 0) fun _ z12_ => Zgd (IJ x1 144) (some (z12_ 111 x1, z12_))) else (Yb (F_X11_no z5_ r7_) fun r18_ z16_ => some (r18_, z16_)))
noncomputable def X11_foul_b34 (z : ZI) (x1 : Int) (x2 : Int) (x3 : Int) : Option (Int × ZI) :=
  if x3 = 0 then (Yb (F_X11_findDown z) fun _ z2_ => Yb (F_X11_foulWells z2_ x1 x2) fun r7_ z5_ => some (r7_, z5_)) else (Yb (F_X11_no z x3) fun r10_ z8_ => some (r10_, z8_))
noncomputable def F_X11_foul (z : ZI) (x1 : Int) (x2 : Int) : Option (Int × ZI) :=
  Yb (F_X11_out z x1 1 999) fun r3_ z1_ => if r3_ = 0 then (Zgd (InR ((jshl 1 (z1_ 68 62)) - 1)) (Yb (F_X11_isIn z1_ x2 0 ((jshl 1 (z1_ 68 62)) - 1)) fun r8_ z6_ => if r8_ = 0 then (X11_foul_b34 z6_ x1 x2 (-1)) else (X11_foul_b34 z6_ x1 x2 r3_))) else (X11_foul_b34 z1_ x1 x2 r3_)
noncomputable def X11_placeOf_b28 (k5 : ZI → Int → Int → Int → Option (Int × ZI)) (z : ZI) (x1 : Int) (x3 : Int) (y0 : Int) : Option (Int × ZI) :=
  Zgd (InR (x3 + 1)) (k5 z x1 y0 (x3 + 1))
noncomputable def X11_placeOf_L5b (k5 : ZI → Int → Int → Int → Option (Int × ZI)) (z : ZI) (x1 : Int) (x2 : Int) (x3 : Int) : Option (Int × ZI) :=
  if (z 68 78) ≤ x3 then (some (x2, z)) else (Zgd (IJ x3 60) (if (z 122 x3) = x1 then (X11_placeOf_b28 k5 z x1 x3 x3) else (X11_placeOf_b28 k5 z x1 x3 x2)))
noncomputable def X11_placeOf_L5 : Nat → ZI → Int → Int → Int → Option (Int × ZI)
  | 0, _, _, _, _ => none
  | n + 1, z, x1, x2, x3 => X11_placeOf_L5b (X11_placeOf_L5 n) z x1 x2 x3
noncomputable def F_X11_placeOf (z : ZI) (x1 : Int) : Option (Int × ZI) :=
  X11_placeOf_L5 Zfuel z x1 (-9) 0
noncomputable def X11_leaves_b36 (z : ZI) : Option (Unit × ZI) :=
  Zgd (InR ((z 68 78) - 1)) (Zl (Zup z 68 78 ((z 68 78) - 1)) fun z2_ => some ((), z2_))
noncomputable def X11_leaves_L6b (k6 : ZI → Int → Option (Unit × ZI)) (z : ZI) (x2 : Int) : Option (Unit × ZI) :=
  Zgd (InR ((z 68 78) - 1)) (if ((z 68 78) - 1) ≤ x2 then (X11_leaves_b36 z ) else (Zgd (InR (x2 + 1)) (Zgd (IJ (x2 + 1) 60) (Zgd (IJ x2 60) (Zl (Zup z 122 x2 (z 122 (x2 + 1))) fun z6_ => Zgd (InR (x2 + 1)) (k6 z6_ (x2 + 1)))))))
noncomputable def X11_leaves_L6 : Nat → ZI → Int → Option (Unit × ZI)
  | 0, _, _ => none
  | n + 1, z, x2 => X11_leaves_L6b (X11_leaves_L6 n) z x2
noncomputable def F_X11_leaves (z : ZI) (x1 : Int) : Option (Unit × ZI) :=
  Yb (F_X11_placeOf z x1) fun r3_ z1_ => X11_leaves_L6 Zfuel z1_ r3_
noncomputable def X11_goes_L64b (k64 : ZI → Int → Int → Option (Int × ZI)) (z : ZI) (x4 : Int) (x5 : Int) : Option (Int × ZI) :=
  if x4 ≤ x5 then (some (x4, z)) else (Zgd (IJ x5 60) (Yb (F_X11_becomes z (z 123 x5) 3) fun _ z3_ => Zgd (IJ x5 60) (Yb (F_X11_leaves z3_ (z3_ 123 x5)) fun _ z7_ => Zgd (InR (x5 + 1)) (k64 z7_ x4 (x5 + 1)))))
noncomputable def X11_goes_L64 : Nat → ZI → Int → Int → Option (Int × ZI)
  | 0, _, _, _ => none
  | n + 1, z, x4, x5 => X11_goes_L64b (X11_goes_L64 n) z x4 x5
noncomputable def X11_goes_b39 (z : ZI) (y0 : Int) : Option (Int × ZI) :=
  Zgd (InR ((z 68 14) + y0)) (if ((z 68 14) + y0) ≤ 150 then (X11_goes_L64 Zfuel z y0 0) else (Yb (F_X11_no z (-6)) fun r5_ z3_ => some (r5_, z3_)))
noncomputable def F_X11_goes (z : ZI) (x1 : Int) : Option (Int × ZI) :=
  Yb (F_X11_out z x1 0 60) fun r3_ z1_ => if r3_ = 0 then (Yb (F_X11_findList z1_ (z1_ 68 11)) fun r7_ z5_ => if r7_ ≤ x1 then (X11_goes_b39 z5_ r7_) else (X11_goes_b39 z5_ x1)) else (Yb (F_X11_no z1_ r3_) fun r11_ z9_ => some (r11_, z9_))
noncomputable def X11_handed_b73 (z : ZI) (x2 : Int) (x3 : Int) (y0 : Int) : Option (Int × ZI) :=
  if y0 = 0 then (Zgd (IJ (z 68 35) 60) (Zl (Zup z 91 (z 68 35) (z 68 11)) fun z3_ => Zgd (IJ (z3_ 68 35) 60) (Zl (Zup z3_ 92 (z3_ 68 35) x2) fun z5_ => Zgd (IJ (z5_ 68 35) 60) (Zl (Zup z5_ 93 (z5_ 68 35) x3) fun z7_ => Zgd (InR ((z7_ 68 35) + 1)) (Zl (Zup z7_ 68 35 ((z7_ 68 35) + 1)) fun z9_ => some (z9_ 68 35, z9_)))))) else (Yb (F_X11_no z y0) fun r12_ z10_ => some (r12_, z10_))
noncomputable def X11_handed_b39 (z : ZI) (x2 : Int) (x3 : Int) : Option (Int × ZI) :=
  X11_handed_b73 z x2 x3 (-4)
noncomputable def X11_handed_b67 (z : ZI) (x2 : Int) (x3 : Int) : Option (Int × ZI) :=
  X11_handed_b73 z x2 x3 (-6)
noncomputable def F_X11_handed (z : ZI) (x1 : Int) (x2 : Int) (x3 : Int) : Option (Int × ZI) :=
  Yb (F_X11_isCard z x1) fun r3_ z1_ => if r3_ = 0 then (Yb (F_X11_no z1_ (-1)) fun r17_ z15_ => some (r17_, z15_)) else (Zgd (IJ x1 40) (if (z1_ 90 x1) < 0 then (if x2 < 1 then (X11_handed_b39 z1_ x2 x3) else (if 0 ≤ x3 then (if 9999 < x2 then (X11_handed_b67 z1_ x2 x3) else (if 9999 < x3 then (X11_handed_b67 z1_ x2 x3) else (if (z1_ 68 35) = 60 then (X11_handed_b67 z1_ x2 x3) else (X11_handed_b73 z1_ x2 x3 0)))) else (X11_handed_b39 z1_ x2 x3))) else (Yb (F_X11_no z1_ (-3)) fun r14_ z12_ => some (r14_, z12_))))
noncomputable def F_X11_height (z : ZI) (x1 : Int) (x2 : Int) : Option (Int × ZI) :=
  Yb (F_X11_isCell z x1) fun r3_ z1_ => if r3_ = 0 then (Yb (F_X11_no z1_ (-1)) fun r17_ z15_ => some (r17_, z15_)) else (Yb (F_X11_out z1_ x2 0 99) fun r7_ z5_ => if r7_ = 0 then (Zgd (IJ x1 144) (Zgd (IJ x1 144) (Zl (Zup z5_ 70 x1 x2) fun z11_ => some (z5_ 70 x1, z11_)))) else (Yb (F_X11_no z5_ r7_) fun r14_ z12_ => some (r14_, z12_)))
noncomputable def X11_here_b42 (z : ZI) (y0 : Int) : Option (Int × ZI) :=
  some (y0, z)
noncomputable def F_X11_here (z : ZI) (x1 : Int) (x2 : Int) : Option (Int × ZI) :=
  Yb (F_X11_isHouse z x1) fun r3_ z1_ => if r3_ = 0 then (Yb (F_X11_no z1_ (-1)) fun r17_ z15_ => some (r17_, z15_)) else (Yb (F_X11_out z1_ x2 0 999) fun r7_ z5_ => if r7_ = 0 then (Yb (F_X11_hereOf z5_ x1 x2) fun r11_ z9_ => X11_here_b42 z9_ r11_) else (Yb (F_X11_no z5_ r7_) fun r14_ z12_ => X11_here_b42 z12_ r14_))
noncomputable def X11_holdsFire_b243 (k213 : ZI → Int → Int → Int → Option (Int × ZI)) (z : ZI) (x2 : Int) (x5 : Int) (y0 : Int) : Option (Int × ZI) :=
  Zgd (InR (x5 + 1)) (k213 z x2 y0 (x5 + 1))
noncomputable def X11_holdsFire_b242 (k213 : ZI → Int → Int → Int → Option (Int × ZI)) (z : ZI) (x2 : Int) (x5 : Int) : Option (Int × ZI) :=
  X11_holdsFire_b243 k213 z x2 x5 0
noncomputable def X11_holdsFire_L213b (k213 : ZI → Int → Int → Int → Option (Int × ZI)) (z : ZI) (x2 : Int) (x4 : Int) (x5 : Int) : Option (Int × ZI) :=
  if (z 68 12) ≤ x5 then (Zgd (x4 = 0 ∨ x4 = 1) (some (x4, z))) else (if x4 = 0 then (X11_holdsFire_b242 k213 z x2 x5) else (Zgd (IJ x5 30) (if x2 < (z 120 x5) then (X11_holdsFire_b242 k213 z x2 x5) else (X11_holdsFire_b243 k213 z x2 x5 1))))
noncomputable def X11_holdsFire_L213 : Nat → ZI → Int → Int → Int → Option (Int × ZI)
  | 0, _, _, _, _ => none
  | n + 1, z, x2, x4, x5 => X11_holdsFire_L213b (X11_holdsFire_L213 n) z x2 x4 x5
noncomputable def X11_holdsFire_b207 (z : ZI) (x2 : Int) : Option (Int × ZI) :=
  X11_holdsFire_L213 Zfuel z x2 1 0
noncomputable def X11_holdsFire_b199 (k162 : ZI → Int → Int → Option (Int × ZI)) (z : ZI) (x2 : Int) (x4 : Int) (y1 : Int) (y2 : Int) (y3 : Int) : Option (Int × ZI) :=
  Zgd (InR (y2 + y3)) (Zgd (IJ y1 30) (Zl (Zup z 120 y1 (y2 + y3)) fun z3_ => Zgd (InR (x4 + 1)) (k162 z3_ x2 (x4 + 1))))
noncomputable def X11_holdsFire_L162b (k162 : ZI → Int → Int → Option (Int × ZI)) (z : ZI) (x2 : Int) (x4 : Int) : Option (Int × ZI) :=
  if (z 68 12) ≤ x4 then (X11_holdsFire_b207 z x2) else (Zgd (IJ x4 30) (Zgd (IJ (z 119 x4) 30) (Zgd (IJ x4 30) (if (z 121 x4) = 0 then (X11_holdsFire_b199 k162 z x2 x4 (z 119 x4) (z 120 (z 119 x4)) 1) else (X11_holdsFire_b199 k162 z x2 x4 (z 119 x4) (z 120 (z 119 x4)) 0)))))
noncomputable def X11_holdsFire_L162 : Nat → ZI → Int → Int → Option (Int × ZI)
  | 0, _, _, _ => none
  | n + 1, z, x2, x4 => X11_holdsFire_L162b (X11_holdsFire_L162 n) z x2 x4
noncomputable def X11_holdsFire_b159 (z : ZI) (x2 : Int) : Option (Int × ZI) :=
  X11_holdsFire_L162 Zfuel z x2 0
noncomputable def X11_holdsFire_L136b (k136 : ZI → Int → Int → Option (Int × ZI)) (z : ZI) (x2 : Int) (x4 : Int) : Option (Int × ZI) :=
  if (z 68 12) ≤ x4 then (X11_holdsFire_b159 z x2) else (Zgd (IJ x4 30) (Zl (Zup z 120 x4 0) fun z3_ => Zgd (InR (x4 + 1)) (k136 z3_ x2 (x4 + 1))))
noncomputable def X11_holdsFire_L136 : Nat → ZI → Int → Int → Option (Int × ZI)
  | 0, _, _, _ => none
  | n + 1, z, x2, x4 => X11_holdsFire_L136b (X11_holdsFire_L136 n) z x2 x4
noncomputable def X11_holdsFire_b133 (z : ZI) (x2 : Int) : Option (Int × ZI) :=
  X11_holdsFire_L136 Zfuel z x2 0
noncomputable def X11_holdsFire_b130 (k30 : ZI → Int → Int → Option (Int × ZI)) (z : ZI) (x2 : Int) (x3 : Int) : Option (Int × ZI) :=
  k30 z x2 x3
noncomputable def X11_holdsFire_b124 (k30 : ZI → Int → Int → Option (Int × ZI)) (k39 : ZI → Int → Int → Int → Option (Int × ZI)) (z : ZI) (x2 : Int) (x3 : Int) (x4 : Int) : Option (Int × ZI) :=
  Zgd (InR (x4 + 1)) (k39 z x2 x3 (x4 + 1))
noncomputable def X11_holdsFire_b118 (k30 : ZI → Int → Int → Option (Int × ZI)) (k39 : ZI → Int → Int → Int → Option (Int × ZI)) (k51 : ZI → Int → Int → Int → Int → Option (Int × ZI)) (z : ZI) (x2 : Int) (x3 : Int) (x4 : Int) (x5 : Int) : Option (Int × ZI) :=
  Zgd (InR (x5 + 1)) (k51 z x2 x3 x4 (x5 + 1))
noncomputable def X11_holdsFire_L51b (k30 : ZI → Int → Int → Option (Int × ZI)) (k39 : ZI → Int → Int → Int → Option (Int × ZI)) (k51 : ZI → Int → Int → Int → Int → Option (Int × ZI)) (z : ZI) (x2 : Int) (x3 : Int) (x4 : Int) (x5 : Int) : Option (Int × ZI) :=
  if 4 ≤ x5 then (X11_holdsFire_b124 k30 k39 z x2 x3 x4) else (Zgd (IJ x4 30) (if (z 121 x4) = 0 then (Yb (F_X11_beside z x4 x5) fun r6_ z4_ => if r6_ < 0 then (X11_holdsFire_b118 k30 k39 k51 z4_ x2 x3 x4 x5) else (Zgd (IJ r6_ 30) (Zgd (IJ x4 30) (if (z4_ 119 x4) < (z4_ 119 r6_) then (Zgd (IJ x4 30) (Zgd (IJ r6_ 30) (Zl (Zup z4_ 119 r6_ (z4_ 119 x4)) fun z13_ => X11_holdsFire_b118 k30 k39 k51 z13_ x2 1 x4 x5))) else (X11_holdsFire_b118 k30 k39 k51 z4_ x2 x3 x4 x5))))) else (X11_holdsFire_b124 k30 k39 z x2 x3 x4)))
noncomputable def X11_holdsFire_L51 (k30 : ZI → Int → Int → Option (Int × ZI)) (k39 : ZI → Int → Int → Int → Option (Int × ZI)) : Nat → ZI → Int → Int → Int → Int → Option (Int × ZI)
  | 0, _, _, _, _, _ => none
  | n + 1, z, x2, x3, x4, x5 => X11_holdsFire_L51b k30 k39 (X11_holdsFire_L51 k30 k39 n) z x2 x3 x4 x5
noncomputable def X11_holdsFire_L39b (k30 : ZI → Int → Int → Option (Int × ZI)) (k39 : ZI → Int → Int → Int → Option (Int × ZI)) (z : ZI) (x2 : Int) (x3 : Int) (x4 : Int) : Option (Int × ZI) :=
  if (z 68 12) ≤ x4 then (X11_holdsFire_b130 k30 z x2 x3) else (X11_holdsFire_L51 k30 k39 Zfuel z x2 x3 x4 0)
noncomputable def X11_holdsFire_L39 (k30 : ZI → Int → Int → Option (Int × ZI)) : Nat → ZI → Int → Int → Int → Option (Int × ZI)
  | 0, _, _, _, _ => none
  | n + 1, z, x2, x3, x4 => X11_holdsFire_L39b k30 (X11_holdsFire_L39 k30 n) z x2 x3 x4
noncomputable def X11_holdsFire_L30b (k30 : ZI → Int → Int → Option (Int × ZI)) (z : ZI) (x2 : Int) (x3 : Int) : Option (Int × ZI) :=
  if x3 = 0 then (X11_holdsFire_b133 z x2) else (X11_holdsFire_L39 k30 Zfuel z x2 0 0)
noncomputable def X11_holdsFire_L30 : Nat → ZI → Int → Int → Option (Int × ZI)
  | 0, _, _, _ => none
  | n + 1, z, x2, x3 => X11_holdsFire_L30b (X11_holdsFire_L30 n) z x2 x3
noncomputable def X11_holdsFire_b28 (z : ZI) (x2 : Int) : Option (Int × ZI) :=
  X11_holdsFire_L30 Zfuel z x2 1
noncomputable def X11_holdsFire_L7b (k7 : ZI → Int → Int → Option (Int × ZI)) (z : ZI) (x2 : Int) (x3 : Int) : Option (Int × ZI) :=
  if (z 68 12) ≤ x3 then (X11_holdsFire_b28 z x2) else (Zgd (IJ x3 30) (Zl (Zup z 119 x3 x3) fun z3_ => Zgd (InR (x3 + 1)) (k7 z3_ x2 (x3 + 1))))
noncomputable def X11_holdsFire_L7 : Nat → ZI → Int → Int → Option (Int × ZI)
  | 0, _, _, _ => none
  | n + 1, z, x2, x3 => X11_holdsFire_L7b (X11_holdsFire_L7 n) z x2 x3
noncomputable def F_X11_holdsFire (z : ZI) (x1 : Int) (x2 : Int) : Option (Int × ZI) :=
  Yb (F_X11_clears z x1) fun _ z1_ => X11_holdsFire_L7 Zfuel z1_ x2 0
noncomputable def X11_houseAt_L2b (k2 : ZI → Int → Int → Option (Int × ZI)) (z : ZI) (x1 : Int) (x2 : Int) : Option (Int × ZI) :=
  if (z 68 12) ≤ x2 then (some ((-9), z)) else (Zgd (IJ x2 30) (if (z 71 x2) = x1 then (some (x2, z)) else (Zgd (InR (x2 + 1)) (k2 z x1 (x2 + 1)))))
noncomputable def X11_houseAt_L2 : Nat → ZI → Int → Int → Option (Int × ZI)
  | 0, _, _, _ => none
  | n + 1, z, x1, x2 => X11_houseAt_L2b (X11_houseAt_L2 n) z x1 x2
noncomputable def F_X11_houseAt (z : ZI) (x1 : Int) : Option (Int × ZI) :=
  X11_houseAt_L2 Zfuel z x1 0
noncomputable def X11_house_b19 (z : ZI) : Option (Int × ZI) :=
  Yb (F_X11_no z (-1)) fun r3_ z1_ => some (r3_, z1_)
noncomputable def F_X11_house (z : ZI) (x1 : Int) (x2 : Int) : Option (Int × ZI) :=
  Yb (F_X11_isCell z x1) fun r3_ z1_ => if r3_ = 0 then (X11_house_b19 z1_ ) else (Yb (F_X11_isIn z1_ x2 0 3) fun r7_ z5_ => if r7_ = 0 then (X11_house_b19 z5_ ) else (Yb (F_X11_houseAt z5_ x1) fun r11_ z9_ => if r11_ < 0 then (if (z9_ 68 12) = 30 then (Yb (F_X11_no z9_ (-6)) fun r23_ z21_ => some (r23_, z21_)) else (Zgd (IJ (z9_ 68 12) 30) (Zl (Zup z9_ 71 (z9_ 68 12) x1) fun z15_ => Zgd (IJ (z15_ 68 12) 30) (Zl (Zup z15_ 72 (z15_ 68 12) x2) fun z17_ => Zgd (InR ((z17_ 68 12) + 1)) (Zl (Zup z17_ 68 12 ((z17_ 68 12) + 1)) fun z19_ => Zgd (InR ((z19_ 68 12) - 1)) (some ((z19_ 68 12) - 1, z19_))))))) else (Yb (F_X11_no z9_ (-3)) fun r26_ z24_ => some (r26_, z24_))))
noncomputable def X11_isCompare_b23 (z : ZI) (y0 : Int) : Option (Int × ZI) :=
  Zgd (y0 = 0 ∨ y0 = 1) (some (y0, z))
noncomputable def X11_isCompare_b18 (z : ZI) : Option (Int × ZI) :=
  X11_isCompare_b23 z 1
noncomputable def F_X11_isCompare (z : ZI) (x0 : Int) : Option (Int × ZI) :=
  if x0 = 60 then (X11_isCompare_b18 z ) else (if x0 = 61 then (X11_isCompare_b18 z ) else (if x0 = 62 then (X11_isCompare_b18 z ) else (X11_isCompare_b23 z 0)))
noncomputable def X11_isPerson_b17 (z : ZI) (y0 : Int) : Option (Int × ZI) :=
  Zgd (y0 = 0 ∨ y0 = 1) (some (y0, z))
noncomputable def X11_isPerson_b16 (z : ZI) : Option (Int × ZI) :=
  X11_isPerson_b17 z 0
noncomputable def F_X11_isPerson (z : ZI) (x1 : Int) : Option (Int × ZI) :=
  if x1 < 0 then (X11_isPerson_b16 z ) else (if (z 68 13) ≤ x1 then (X11_isPerson_b16 z ) else (X11_isPerson_b17 z 1))
noncomputable def X11_lane_b47 (z : ZI) (x1 : Int) : Option (Int × ZI) :=
  if (z 68 70) = 8 then (Yb (F_X11_no z (-6)) fun r9_ z7_ => some (r9_, z7_)) else (Zgd (IJ (z 68 70) 8) (Zl (Zup z 116 (z 68 70) x1) fun z3_ => Zgd (InR ((z3_ 68 70) + 1)) (Zl (Zup z3_ 68 70 ((z3_ 68 70) + 1)) fun z5_ => Zgd (InR ((z5_ 68 70) - 1)) (some ((z5_ 68 70) - 1, z5_)))))
noncomputable def X11_lane_b34 (z : ZI) : Option (Int × ZI) :=
  Yb (F_X11_no z (-3)) fun r3_ z1_ => some (r3_, z1_)
noncomputable def X11_lane_L16b (k16 : ZI → Int → Int → Option (Int × ZI)) (z : ZI) (x1 : Int) (x2 : Int) : Option (Int × ZI) :=
  if (z 68 70) ≤ x2 then (X11_lane_b47 z x1) else (Zgd (IJ x2 8) (if (z 116 x2) = x1 then (X11_lane_b34 z ) else (Zgd (InR (x2 + 1)) (k16 z x1 (x2 + 1)))))
noncomputable def X11_lane_L16 : Nat → ZI → Int → Int → Option (Int × ZI)
  | 0, _, _, _ => none
  | n + 1, z, x1, x2 => X11_lane_L16b (X11_lane_L16 n) z x1 x2
noncomputable def F_X11_lane (z : ZI) (x1 : Int) : Option (Int × ZI) :=
  Yb (F_X11_isHouse z x1) fun r3_ z1_ => if r3_ = 0 then (Yb (F_X11_no z1_ (-1)) fun r7_ z5_ => some (r7_, z5_)) else (X11_lane_L16 Zfuel z1_ x1 0)
noncomputable def X11_lanes_b89 (k46 : ZI → Int → Int → Int → Option (Int × ZI)) (z : ZI) (x2 : Int) (x4 : Int) (x5 : Int) : Option (Int × ZI) :=
  Zgd (InR (x5 + 1)) (k46 z x2 x4 (x5 + 1))
noncomputable def X11_lanes_b75 (k46 : ZI → Int → Int → Int → Option (Int × ZI)) (z : ZI) (x2 : Int) (x4 : Int) (x5 : Int) : Option (Int × ZI) :=
  Yb (F_X11_holdsFire z x5 x2) fun r3_ z1_ => if r3_ = 0 then (X11_lanes_b89 k46 z1_ x2 x4 x5) else (X11_lanes_b89 k46 z1_ x2 x5 x5)
noncomputable def X11_lanes_L46b (k46 : ZI → Int → Int → Int → Option (Int × ZI)) (z : ZI) (x2 : Int) (x4 : Int) (x5 : Int) : Option (Int × ZI) :=
  if (jshl 1 (z 68 70)) ≤ x5 then (some (x4, z)) else (if x4 < 0 then (X11_lanes_b75 k46 z x2 x4 x5) else (Yb (F_X11_bits z x5) fun r5_ z3_ => Yb (F_X11_bits z3_ x4) fun r8_ z6_ => if r8_ ≤ r5_ then (X11_lanes_b89 k46 z6_ x2 x4 x5) else (X11_lanes_b75 k46 z6_ x2 x4 x5)))
noncomputable def X11_lanes_L46 : Nat → ZI → Int → Int → Int → Option (Int × ZI)
  | 0, _, _, _, _ => none
  | n + 1, z, x2, x4, x5 => X11_lanes_L46b (X11_lanes_L46 n) z x2 x4 x5
noncomputable def F_X11_lanes (z : ZI) (x1 : Int) (x2 : Int) : Option (Int × ZI) :=
  Yb (F_X11_isIn z x1 0 3) fun r3_ z1_ => if r3_ = 0 then (Yb (F_X11_no z1_ (-2)) fun r14_ z12_ => some (r14_, z12_)) else (Yb (F_X11_out z1_ x2 1 30) fun r7_ z5_ => if r7_ = 0 then (X11_lanes_L46 Zfuel z5_ x2 (-9) 0) else (Yb (F_X11_no z5_ r7_) fun r11_ z9_ => some (r11_, z9_)))
noncomputable def X11_latrine_b39 (z : ZI) (x1 : Int) (x2 : Int) (x3 : Int) : Option (Int × ZI) :=
  if x3 = 0 then (Zgd (IJ (z 68 61) 14) (Zl (Zup z 108 (z 68 61) x1) fun z3_ => Zgd (IJ (z3_ 68 61) 14) (Zl (Zup z3_ 109 (z3_ 68 61) x2) fun z5_ => Zgd (InR ((z5_ 68 61) + 1)) (Zl (Zup z5_ 68 61 ((z5_ 68 61) + 1)) fun z7_ => Zgd (InR ((z7_ 68 61) - 1)) (some ((z7_ 68 61) - 1, z7_)))))) else (Yb (F_X11_no z x3) fun r11_ z9_ => some (r11_, z9_))
noncomputable def F_X11_latrine (z : ZI) (x1 : Int) (x2 : Int) : Option (Int × ZI) :=
  Yb (F_X11_isCell z x1) fun r3_ z1_ => if r3_ = 0 then (Yb (F_X11_no z1_ (-1)) fun r12_ z10_ => some (r12_, z10_)) else (Yb (F_X11_out z1_ x2 1 99999) fun r7_ z5_ => if r7_ = 0 then (if (z5_ 68 61) = 14 then (X11_latrine_b39 z5_ x1 x2 (-6)) else (X11_latrine_b39 z5_ x1 x2 r7_)) else (X11_latrine_b39 z5_ x1 x2 r7_))
noncomputable def F_X11_lets (z : ZI) (x1 : Int) (x2 : Int) : Option (Int × ZI) :=
  Zgd (IJ x1 60) (Zgd (InR (1000 - x2)) (Zgd (InR ((z 92 x1) * (1000 - x2))) (Zgd (IJ x1 60) (Zgd (InR ((((z 92 x1) * (1000 - x2)).tdiv 1000) - (z 93 x1))) (Yb (F_X11_isIn z ((((z 92 x1) * (1000 - x2)).tdiv 1000) - (z 93 x1)) (-1) 1) fun r8_ z6_ => Zgd (r8_ = 0 ∨ r8_ = 1) (some (r8_, z6_)))))))
noncomputable def X11_leaned_b98 (k40 : ZI → Int → Int → Option (Int × ZI)) (z : ZI) (x1 : Int) (x2 : Int) (x3 : Int) : Option (Int × ZI) :=
  if x3 = 0 then (Zgd (InR (x2 + 1)) (k40 z x1 (x2 + 1))) else (some (x2, z))
noncomputable def X11_leaned_b91 (k40 : ZI → Int → Int → Option (Int × ZI)) (k52 : ZI → Int → Int → Int → Int → Option (Int × ZI)) (z : ZI) (x1 : Int) (x2 : Int) (x4 : Int) (y0 : Int) : Option (Int × ZI) :=
  Zgd (InR (x4 + 1)) (k52 z x1 x2 y0 (x4 + 1))
noncomputable def X11_leaned_b90 (k40 : ZI → Int → Int → Option (Int × ZI)) (k52 : ZI → Int → Int → Int → Int → Option (Int × ZI)) (z : ZI) (x1 : Int) (x2 : Int) (x4 : Int) : Option (Int × ZI) :=
  X11_leaned_b91 k40 k52 z x1 x2 x4 0
noncomputable def X11_leaned_b86 (k40 : ZI → Int → Int → Option (Int × ZI)) (k52 : ZI → Int → Int → Int → Int → Option (Int × ZI)) (z : ZI) (x1 : Int) (x2 : Int) (x4 : Int) : Option (Int × ZI) :=
  X11_leaned_b91 k40 k52 z x1 x2 x4 1
noncomputable def X11_leaned_L52b (k40 : ZI → Int → Int → Option (Int × ZI)) (k52 : ZI → Int → Int → Int → Int → Option (Int × ZI)) (z : ZI) (x1 : Int) (x2 : Int) (x3 : Int) (x4 : Int) : Option (Int × ZI) :=
  if (z 68 35) ≤ x4 then (X11_leaned_b98 k40 z x1 x2 x3) else (if x3 = 0 then (X11_leaned_b90 k40 k52 z x1 x2 x4) else (Zgd (IJ x4 60) (if (z 91 x4) < x1 then (X11_leaned_b86 k40 k52 z x1 x2 x4) else (Yb (F_X11_lets z x4 x2) fun r7_ z5_ => if r7_ = 0 then (X11_leaned_b90 k40 k52 z5_ x1 x2 x4) else (X11_leaned_b86 k40 k52 z5_ x1 x2 x4)))))
noncomputable def X11_leaned_L52 (k40 : ZI → Int → Int → Option (Int × ZI)) : Nat → ZI → Int → Int → Int → Int → Option (Int × ZI)
  | 0, _, _, _, _, _ => none
  | n + 1, z, x1, x2, x3, x4 => X11_leaned_L52b k40 (X11_leaned_L52 k40 n) z x1 x2 x3 x4
noncomputable def X11_leaned_L40b (k40 : ZI → Int → Int → Option (Int × ZI)) (z : ZI) (x1 : Int) (x2 : Int) : Option (Int × ZI) :=
  if 300 < x2 then (some ((-9), z)) else (X11_leaned_L52 k40 Zfuel z x1 x2 1 0)
noncomputable def X11_leaned_L40 : Nat → ZI → Int → Int → Option (Int × ZI)
  | 0, _, _, _ => none
  | n + 1, z, x1, x2 => X11_leaned_L40b (X11_leaned_L40 n) z x1 x2
noncomputable def X11_leaned_b38 (z : ZI) (x1 : Int) : Option (Int × ZI) :=
  X11_leaned_L40 Zfuel z x1 0
noncomputable def X11_leaned_b32 (k2 : ZI → Int → Int → Option (Int × ZI)) (z : ZI) (x1 : Int) (x2 : Int) : Option (Int × ZI) :=
  Zgd (InR (x2 + 1)) (k2 z x1 (x2 + 1))
noncomputable def X11_leaned_L2b (k2 : ZI → Int → Int → Option (Int × ZI)) (z : ZI) (x1 : Int) (x2 : Int) : Option (Int × ZI) :=
  if (z 68 35) ≤ x2 then (X11_leaned_b38 z x1) else (Zgd (IJ x2 60) (if x1 ≤ (z 91 x2) then (X11_leaned_b32 k2 z x1 x2) else (Yb (F_X11_lets z x2 0) fun r6_ z4_ => if r6_ = 0 then (some ((-9), z4_)) else (X11_leaned_b32 k2 z4_ x1 x2))))
noncomputable def X11_leaned_L2 : Nat → ZI → Int → Int → Option (Int × ZI)
  | 0, _, _, _ => none
  | n + 1, z, x1, x2 => X11_leaned_L2b (X11_leaned_L2 n) z x1 x2
noncomputable def F_X11_leaned (z : ZI) (x1 : Int) : Option (Int × ZI) :=
  X11_leaned_L2 Zfuel z x1 0
noncomputable def X11_list_b48 (z : ZI) (y0 : Int) : Option (Int × ZI) :=
  some (y0, z)
noncomputable def F_X11_list (z : ZI) (x1 : Int) (x2 : Int) : Option (Int × ZI) :=
  Yb (F_X11_out z x1 0 999) fun r3_ z1_ => if r3_ = 0 then (Yb (F_X11_findList z1_ x1) fun r7_ z5_ => Zgd (InR (r7_ - 1)) (Yb (F_X11_isIn z5_ x2 0 (r7_ - 1)) fun r11_ z9_ => if r11_ = 0 then (X11_list_b48 z9_ (-9)) else (Zgd (IJ x2 60) (X11_list_b48 z9_ (z9_ 123 x2))))) else (Yb (F_X11_no z1_ r3_) fun r16_ z14_ => some (r16_, z14_))
noncomputable def F_X11_lower (z : ZI) (x1 : Int) : Option (Int × ZI) :=
  Zgd (InR (-x1)) (Zgd (IJ (-x1) 7) (Zgd (InR ((z 69 (-x1)) + 1)) (Zgd (IJ (-x1) 7) (Zl (Zup z 69 (-x1) ((z 69 (-x1)) + 1)) fun z5_ => Zgd (InR (1000000000 - x1)) (some (1000000000 - x1, z5_))))))
noncomputable def X11_minutes_b35 (z : ZI) : Option (Int × ZI) :=
  Yb (F_X11_no z (-1)) fun r3_ z1_ => some (r3_, z1_)
noncomputable def X11_minutes_b84 (z : ZI) : Option (Int × ZI) :=
  some ((-9), z)
noncomputable def X11_minutes_b285 (z : ZI) (y0 : Int) : Option (Int × ZI) :=
  some (y0, z)
noncomputable def X11_minutes_b262 (z : ZI) (x2 : Int) : Option (Int × ZI) :=
  Zgd (IJ x2 30) (if (z 117 x2) < 1000000 then (Zgd (IJ x2 30) (X11_minutes_b285 z (z 117 x2))) else (X11_minutes_b285 z (-9)))
noncomputable def X11_minutes_b259 (k128 : ZI → Int → Int → Int → Option (Int × ZI)) (z : ZI) (x2 : Int) (x3 : Int) (x5 : Int) : Option (Int × ZI) :=
  k128 z x2 x3 x5
noncomputable def X11_minutes_b253 (k128 : ZI → Int → Int → Int → Option (Int × ZI)) (k139 : ZI → Int → Int → Int → Int → Option (Int × ZI)) (z : ZI) (x2 : Int) (x3 : Int) (x5 : Int) (x6 : Int) : Option (Int × ZI) :=
  Zgd (InR (x6 + 1)) (k139 z x2 x3 x5 (x6 + 1))
noncomputable def X11_minutes_b247 (k128 : ZI → Int → Int → Int → Option (Int × ZI)) (k139 : ZI → Int → Int → Int → Int → Option (Int × ZI)) (k151 : ZI → Int → Int → Int → Int → Int → Option (Int × ZI)) (z : ZI) (x2 : Int) (x3 : Int) (x5 : Int) (x6 : Int) (x7 : Int) : Option (Int × ZI) :=
  Zgd (InR (x7 + 1)) (k151 z x2 x3 x5 x6 (x7 + 1))
noncomputable def X11_minutes_b212 (k128 : ZI → Int → Int → Int → Option (Int × ZI)) (k139 : ZI → Int → Int → Int → Int → Option (Int × ZI)) (k151 : ZI → Int → Int → Int → Int → Int → Option (Int × ZI)) (z : ZI) (x2 : Int) (x3 : Int) (x5 : Int) (x6 : Int) (x7 : Int) (x8 : Int) (y0 : Int) (y1 : Int) : Option (Int × ZI) :=
  Zgd (InR (y0 + y1)) (if x8 < 0 then (X11_minutes_b247 k128 k139 k151 z x2 x3 x5 x6 x7) else (Zgd (IJ x8 30) (if (y0 + y1) < (z 117 x8) then (Zgd (IJ x8 30) (Zl (Zup z 117 x8 (y0 + y1)) fun z6_ => X11_minutes_b247 k128 k139 k151 z6_ x2 x3 1 x6 x7)) else (X11_minutes_b247 k128 k139 k151 z x2 x3 x5 x6 x7))))
noncomputable def X11_minutes_L151b (k128 : ZI → Int → Int → Int → Option (Int × ZI)) (k139 : ZI → Int → Int → Int → Int → Option (Int × ZI)) (k151 : ZI → Int → Int → Int → Int → Int → Option (Int × ZI)) (z : ZI) (x2 : Int) (x3 : Int) (x5 : Int) (x6 : Int) (x7 : Int) : Option (Int × ZI) :=
  if 4 ≤ x7 then (X11_minutes_b253 k128 k139 z x2 x3 x5 x6) else (Zgd (IJ x6 30) (if 1000000 ≤ (z 117 x6) then (X11_minutes_b253 k128 k139 z x2 x3 x5 x6) else (Yb (F_X11_beside z x6 x7) fun r6_ z4_ => Zgd (IJ x6 30) (if x7 = x3 then (X11_minutes_b212 k128 k139 k151 z4_ x2 x3 x5 x6 x7 r6_ (z4_ 117 x6) 1) else (Zgd (InR (x7 + 2)) (if ((x7 + 2).tmod 4) = x3 then (X11_minutes_b212 k128 k139 k151 z4_ x2 x3 x5 x6 x7 r6_ (z4_ 117 x6) 4) else (X11_minutes_b212 k128 k139 k151 z4_ x2 x3 x5 x6 x7 r6_ (z4_ 117 x6) 2)))))))
noncomputable def X11_minutes_L151 (k128 : ZI → Int → Int → Int → Option (Int × ZI)) (k139 : ZI → Int → Int → Int → Int → Option (Int × ZI)) : Nat → ZI → Int → Int → Int → Int → Int → Option (Int × ZI)
  | 0, _, _, _, _, _, _ => none
  | n + 1, z, x2, x3, x5, x6, x7 => X11_minutes_L151b k128 k139 (X11_minutes_L151 k128 k139 n) z x2 x3 x5 x6 x7
noncomputable def X11_minutes_L139b (k128 : ZI → Int → Int → Int → Option (Int × ZI)) (k139 : ZI → Int → Int → Int → Int → Option (Int × ZI)) (z : ZI) (x2 : Int) (x3 : Int) (x5 : Int) (x6 : Int) : Option (Int × ZI) :=
  if (z 68 12) ≤ x6 then (X11_minutes_b259 k128 z x2 x3 x5) else (X11_minutes_L151 k128 k139 Zfuel z x2 x3 x5 x6 0)
noncomputable def X11_minutes_L139 (k128 : ZI → Int → Int → Int → Option (Int × ZI)) : Nat → ZI → Int → Int → Int → Int → Option (Int × ZI)
  | 0, _, _, _, _, _ => none
  | n + 1, z, x2, x3, x5, x6 => X11_minutes_L139b k128 (X11_minutes_L139 k128 n) z x2 x3 x5 x6
noncomputable def X11_minutes_L128b (k128 : ZI → Int → Int → Int → Option (Int × ZI)) (z : ZI) (x2 : Int) (x3 : Int) (x5 : Int) : Option (Int × ZI) :=
  if x5 = 0 then (X11_minutes_b262 z x2) else (X11_minutes_L139 k128 Zfuel z x2 x3 0 0)
noncomputable def X11_minutes_L128 : Nat → ZI → Int → Int → Int → Option (Int × ZI)
  | 0, _, _, _, _ => none
  | n + 1, z, x2, x3, x5 => X11_minutes_L128b (X11_minutes_L128 n) z x2 x3 x5
noncomputable def X11_minutes_b125 (z : ZI) (x2 : Int) (x3 : Int) : Option (Int × ZI) :=
  X11_minutes_L128 Zfuel z x2 x3 1
noncomputable def X11_minutes_b118 (k90 : ZI → Int → Int → Int → Int → Option (Int × ZI)) (z : ZI) (x1 : Int) (x2 : Int) (x3 : Int) (x5 : Int) (y1 : Int) (y2 : Int) : Option (Int × ZI) :=
  Zgd (IJ y1 30) (Zl (Zup z 117 y1 y2) fun z2_ => Zgd (InR (x5 + 1)) (k90 z2_ x1 x2 x3 (x5 + 1)))
noncomputable def X11_minutes_L90b (k90 : ZI → Int → Int → Int → Int → Option (Int × ZI)) (z : ZI) (x1 : Int) (x2 : Int) (x3 : Int) (x5 : Int) : Option (Int × ZI) :=
  if (z 68 12) ≤ x5 then (X11_minutes_b125 z x2 x3) else (if x5 = x1 then (X11_minutes_b118 k90 z x1 x2 x3 x5 x5 0) else (X11_minutes_b118 k90 z x1 x2 x3 x5 x5 1000000))
noncomputable def X11_minutes_L90 : Nat → ZI → Int → Int → Int → Int → Option (Int × ZI)
  | 0, _, _, _, _, _ => none
  | n + 1, z, x1, x2, x3, x5 => X11_minutes_L90b (X11_minutes_L90 n) z x1 x2 x3 x5
noncomputable def F_X11_minutes (z : ZI) (x1 : Int) (x2 : Int) (x3 : Int) (x4 : Int) : Option (Int × ZI) :=
  Yb (F_X11_isHouse z x1) fun r3_ z1_ => if r3_ = 0 then (X11_minutes_b35 z1_ ) else (Yb (F_X11_isHouse z1_ x2) fun r7_ z5_ => if r7_ = 0 then (X11_minutes_b35 z5_ ) else (Zgd (InR ((jshl 1 (z5_ 68 70)) - 1)) (Yb (F_X11_isIn z5_ x4 0 ((jshl 1 (z5_ 68 70)) - 1)) fun r12_ z10_ => if r12_ = 0 then (X11_minutes_b35 z10_ ) else (Yb (F_X11_isIn z10_ x3 0 3) fun r16_ z14_ => if r16_ = 0 then (Yb (F_X11_no z14_ (-2)) fun r27_ z25_ => some (r27_, z25_)) else (Yb (F_X11_clears z14_ x4) fun _ z18_ => Zgd (IJ x1 30) (if (z18_ 121 x1) = 0 then (Zgd (IJ x2 30) (if (z18_ 121 x2) = 0 then (X11_minutes_L90 Zfuel z18_ x1 x2 x3 0) else (X11_minutes_b84 z18_ ))) else (X11_minutes_b84 z18_ )))))))
noncomputable def X11_off_b107 (k65 : ZI → Int → Int → Int → Int → Option (Int × ZI)) (z : ZI) (x1 : Int) (x2 : Int) (x5 : Int) (y0 : Int) (y1 : Int) : Option (Int × ZI) :=
  Zgd (InR (y0 - y1)) (Zgd (InR (x5 + 1)) (k65 z x1 x2 (y0 - y1) (x5 + 1)))
noncomputable def X11_off_b106 (k65 : ZI → Int → Int → Int → Int → Option (Int × ZI)) (z : ZI) (x1 : Int) (x2 : Int) (x5 : Int) (y0 : Int) : Option (Int × ZI) :=
  X11_off_b107 k65 z x1 x2 x5 y0 0
noncomputable def X11_off_L65b (k65 : ZI → Int → Int → Int → Int → Option (Int × ZI)) (z : ZI) (x1 : Int) (x2 : Int) (x4 : Int) (x5 : Int) : Option (Int × ZI) :=
  if (z 68 13) ≤ x5 then (some (x4, z)) else (Zgd (IJ x5 60) (Zgd (IJ (z 73 x5) 30) (if (z 72 (z 73 x5)) = x1 then (Yb (F_X11_isHere z x5 x2) fun r7_ z5_ => if r7_ = 0 then (X11_off_b106 k65 z5_ x1 x2 x5 x4) else (X11_off_b107 k65 z5_ x1 x2 x5 x4 1)) else (X11_off_b106 k65 z x1 x2 x5 x4))))
noncomputable def X11_off_L65 : Nat → ZI → Int → Int → Int → Int → Option (Int × ZI)
  | 0, _, _, _, _, _ => none
  | n + 1, z, x1, x2, x4, x5 => X11_off_L65b (X11_off_L65 n) z x1 x2 x4 x5
noncomputable def F_X11_off (z : ZI) (x1 : Int) (x2 : Int) : Option (Int × ZI) :=
  Yb (F_X11_isIn z x1 0 3) fun r3_ z1_ => if r3_ = 0 then (Yb (F_X11_lower z1_ (-1)) fun r21_ z19_ => some (r21_, z19_)) else (Yb (F_X11_out z1_ x2 0 999) fun r7_ z5_ => if r7_ = 0 then (Yb (F_X11_countOf z5_ x1 x2 (z5_ 68 11)) fun r11_ z9_ => if 0 ≤ r11_ then (X11_off_L65 Zfuel z9_ x1 x2 r11_ 0) else (Yb (F_X11_lower z9_ (-3)) fun r15_ z13_ => some (r15_, z13_))) else (Yb (F_X11_lower z5_ r7_) fun r18_ z16_ => some (r18_, z16_)))
noncomputable def X11_pairs_b25 (z : ZI) (y0 : Int) : Option (Int × ZI) :=
  some (y0, z)
noncomputable def F_X11_pairs (z : ZI) (x1 : Int) (x2 : Int) : Option (Int × ZI) :=
  Yb (F_X11_notTwo z x1 x2) fun r3_ z1_ => if r3_ = 0 then (Yb (F_X11_pairsOf z1_ x1 x2) fun r7_ z5_ => X11_pairs_b25 z5_ r7_) else (Yb (F_X11_no z1_ r3_) fun r10_ z8_ => X11_pairs_b25 z8_ r10_)
noncomputable def X11_sign_b24 (z : ZI) (y0 : Int) : Option (Int × ZI) :=
  some (y0, z)
noncomputable def F_X11_sign (z : ZI) : Option (Int × ZI) :=
  if (z 68 21) ≤ (z 68 23) then (X11_sign_b24 z (-1)) else (Zgd (IJ (z 68 23) 60) (X11_sign_b24 z (z 80 (z 68 23))))
noncomputable def X11_parses_b216 (k9 : ZI → Int → Int → Option (Int × ZI)) (z : ZI) (x1 : Int) (x2 : Int) : Option (Int × ZI) :=
  Zgd (InR ((z 68 23) + 1)) (Zl (Zup z 68 23 ((z 68 23) + 1)) fun z2_ => k9 z2_ x1 x2)
noncomputable def X11_parses_b190 (k9 : ZI → Int → Int → Option (Int × ZI)) (z : ZI) (x1 : Int) (x2 : Int) (x3 : Int) : Option (Int × ZI) :=
  if x3 = 43 then (X11_parses_b216 k9 z x1 x2) else (if x3 = 45 then (X11_parses_b216 k9 z x1 x2) else (if x3 = 42 then (X11_parses_b216 k9 z x1 x2) else (if x3 = 47 then (X11_parses_b216 k9 z x1 x2) else (some (0, z)))))
noncomputable def X11_parses_b162 (k9 : ZI → Int → Int → Option (Int × ZI)) (z : ZI) (x1 : Int) (x2 : Int) (x3 : Int) : Option (Int × ZI) :=
  Yb (F_X11_isCompare z x3) fun r3_ z1_ => if r3_ = 0 then (X11_parses_b190 k9 z1_ x1 x2 x3) else (if x1 ≤ 0 then (X11_parses_b190 k9 z1_ x1 x2 x3) else (if (jand (jshr x2 x1) 1) = 0 then (X11_parses_b216 k9 z1_ x1 (jor x2 (jshl 1 x1))) else (X11_parses_b190 k9 z1_ x1 x2 x3)))
noncomputable def X11_parses_b146 (k9 : ZI → Int → Int → Option (Int × ZI)) (z : ZI) (x1 : Int) (x2 : Int) : Option (Int × ZI) :=
  Yb (F_X11_sign z) fun r3_ z1_ => if r3_ = (-1) then (if x1 = 0 then (some (1, z1_)) else (X11_parses_b162 k9 z1_ x1 x2 r3_)) else (X11_parses_b162 k9 z1_ x1 x2 r3_)
noncomputable def X11_parses_L117b (k9 : ZI → Int → Int → Option (Int × ZI)) (k117 : ZI → Int → Int → Option (Int × ZI)) (z : ZI) (x1 : Int) (x2 : Int) : Option (Int × ZI) :=
  Yb (F_X11_sign z) fun r3_ z1_ => if r3_ = 41 then (if x1 ≤ 0 then (X11_parses_b146 k9 z1_ x1 x2) else (Zgd (InR ((z1_ 68 23) + 1)) (Zl (Zup z1_ 68 23 ((z1_ 68 23) + 1)) fun z7_ => Zgd (InR (x1 + (-1))) (k117 z7_ (x1 + (-1)) x2)))) else (X11_parses_b146 k9 z1_ x1 x2)
noncomputable def X11_parses_L117 (k9 : ZI → Int → Int → Option (Int × ZI)) : Nat → ZI → Int → Int → Option (Int × ZI)
  | 0, _, _, _ => none
  | n + 1, z, x1, x2 => X11_parses_L117b k9 (X11_parses_L117 k9 n) z x1 x2
noncomputable def X11_parses_L86b (k9 : ZI → Int → Int → Option (Int × ZI)) (k86 : ZI → Int → Int → Int → Option (Int × ZI)) (z : ZI) (x1 : Int) (x2 : Int) (x3 : Int) : Option (Int × ZI) :=
  if 4 ≤ x3 then (X11_parses_L117 k9 Zfuel z x1 x2) else (Yb (F_X11_sign z) fun r4_ z2_ => Yb (F_X11_isDigit z2_ r4_) fun r7_ z5_ => if r7_ = 0 then (X11_parses_L117 k9 Zfuel z5_ x1 x2) else (Zgd (InR ((z5_ 68 23) + 1)) (Zl (Zup z5_ 68 23 ((z5_ 68 23) + 1)) fun z10_ => Zgd (InR (x3 + 1)) (k86 z10_ x1 x2 (x3 + 1)))))
noncomputable def X11_parses_L86 (k9 : ZI → Int → Int → Option (Int × ZI)) : Nat → ZI → Int → Int → Int → Option (Int × ZI)
  | 0, _, _, _, _ => none
  | n + 1, z, x1, x2, x3 => X11_parses_L86b k9 (X11_parses_L86 k9 n) z x1 x2 x3
noncomputable def X11_parses_L9b (k9 : ZI → Int → Int → Option (Int × ZI)) (z : ZI) (x1 : Int) (x2 : Int) : Option (Int × ZI) :=
  Yb (F_X11_sign z) fun r3_ z1_ => if r3_ = 40 then (if x1 = 5 then (some (0, z1_)) else (Zgd (InR (x1 + 1)) (Zgd (InR ((z1_ 68 23) + 1)) (Zl (Zup z1_ 68 23 ((z1_ 68 23) + 1)) fun z24_ => k9 z24_ (x1 + 1) (jand x2 (jxor (jshl 1 (x1 + 1)) (-1))))))) else (Yb (F_X11_sign z1_) fun r7_ z5_ => Yb (F_X11_isLetter z5_ r7_) fun r10_ z8_ => if r10_ = 0 then (Yb (F_X11_sign z8_) fun r14_ z12_ => Yb (F_X11_isDigit z12_ r14_) fun r17_ z15_ => if r17_ = 0 then (some (0, z15_)) else (X11_parses_L86 k9 Zfuel z15_ x1 x2 0)) else (Zgd (InR ((z8_ 68 23) + 1)) (Zl (Zup z8_ 68 23 ((z8_ 68 23) + 1)) fun z20_ => X11_parses_L117 k9 Zfuel z20_ x1 x2)))
noncomputable def X11_parses_L9 : Nat → ZI → Int → Int → Option (Int × ZI)
  | 0, _, _, _ => none
  | n + 1, z, x1, x2 => X11_parses_L9b (X11_parses_L9 n) z x1 x2
noncomputable def F_X11_parses (z : ZI) : Option (Int × ZI) :=
  Zl (Zup z 68 23 0) fun z1_ => X11_parses_L9 Zfuel z1_ 0 0
noncomputable def X11_person_b66 (z : ZI) (x1 : Int) (x2 : Int) (x3 : Int) (x4 : Int) : Option (Int × ZI) :=
  if x4 = 0 then (Zgd (IJ (z 68 13) 60) (Zl (Zup z 73 (z 68 13) x1) fun z3_ => Zgd (IJ (z3_ 68 13) 60) (Zl (Zup z3_ 74 (z3_ 68 13) x2) fun z5_ => Zgd (IJ (z5_ 68 13) 60) (Zl (Zup z5_ 75 (z5_ 68 13) x3) fun z7_ => Zgd (IJ (z7_ 68 13) 60) (Zl (Zup z7_ 76 (z7_ 68 13) (z7_ 68 11)) fun z9_ => Zgd (InR ((z9_ 68 13) + 1)) (Zl (Zup z9_ 68 13 ((z9_ 68 13) + 1)) fun z11_ => Zgd (InR ((z11_ 68 13) - 1)) (some ((z11_ 68 13) - 1, z11_)))))))) else (Yb (F_X11_no z x4) fun r15_ z13_ => some (r15_, z13_))
noncomputable def F_X11_person (z : ZI) (x1 : Int) (x2 : Int) (x3 : Int) : Option (Int × ZI) :=
  Yb (F_X11_isHouse z x1) fun r3_ z1_ => if r3_ = 0 then (Yb (F_X11_no z1_ (-1)) fun r19_ z17_ => some (r19_, z17_)) else (Yb (F_X11_isIn z1_ x3 0 5) fun r7_ z5_ => if r7_ = 0 then (Yb (F_X11_no z5_ (-2)) fun r16_ z14_ => some (r16_, z14_)) else (Yb (F_X11_out z5_ x2 (-36500) (z5_ 68 11)) fun r11_ z9_ => if r11_ = 0 then (if (z9_ 68 13) = 60 then (X11_person_b66 z9_ x1 x2 x3 (-6)) else (X11_person_b66 z9_ x1 x2 x3 r11_)) else (X11_person_b66 z9_ x1 x2 x3 r11_)))
noncomputable def X11_points_b42 (z : ZI) (y0 : Int) : Option (Int × ZI) :=
  some (y0, z)
noncomputable def F_X11_points (z : ZI) (x1 : Int) (x2 : Int) : Option (Int × ZI) :=
  Yb (F_X11_isPerson z x1) fun r3_ z1_ => if r3_ = 0 then (Yb (F_X11_lower z1_ (-1)) fun r17_ z15_ => some (r17_, z15_)) else (Yb (F_X11_out z1_ x2 0 999) fun r7_ z5_ => if r7_ = 0 then (Yb (F_X11_pointsOf z5_ x1 x2) fun r11_ z9_ => X11_points_b42 z9_ r11_) else (Yb (F_X11_lower z5_ r7_) fun r14_ z12_ => X11_points_b42 z12_ r14_))
noncomputable def X11_queue_b65 (z : ZI) : Option (Int × ZI) :=
  some (1, z)
noncomputable def X11_queue_b27 (z : ZI) (x1 : Int) (x2 : Int) (y0 : Int) : Option (Int × ZI) :=
  if y0 = x2 then (some (0, z)) else (if x2 = 0 then (Yb (F_X11_leaves z x1) fun _ z3_ => X11_queue_b65 z3_ ) else (Zgd (IJ (z 68 78) 60) (Zl (Zup z 122 (z 68 78) x1) fun z7_ => Zgd (InR ((z7_ 68 78) + 1)) (Zl (Zup z7_ 68 78 ((z7_ 68 78) + 1)) fun z9_ => X11_queue_b65 z9_ ))))
noncomputable def F_X11_queue (z : ZI) (x1 : Int) (x2 : Int) : Option (Int × ZI) :=
  Yb (F_X11_isPerson z x1) fun r3_ z1_ => if r3_ = 0 then (Yb (F_X11_no z1_ (-1)) fun r11_ z9_ => some (r11_, z9_)) else (Yb (F_X11_placeOf z1_ x1) fun r7_ z5_ => if r7_ < 0 then (X11_queue_b27 z5_ x1 x2 0) else (X11_queue_b27 z5_ x1 x2 1))
noncomputable def X11_rule_b131 (z : ZI) (x1 : Int) (x2 : Int) (x5 : Int) : Option (Int × ZI) :=
  Zgd (IJ (z 68 22) 30) (Zl (Zup z 82 (z 68 22) x5) fun z2_ => Zgd (IJ (z2_ 68 22) 30) (Zl (Zup z2_ 83 (z2_ 68 22) x1) fun z4_ => Zgd (IJ (z4_ 68 22) 30) (Zl (Zup z4_ 84 (z4_ 68 22) x2) fun z6_ => Zgd (InR ((z6_ 68 22) + 1)) (Zl (Zup z6_ 68 22 ((z6_ 68 22) + 1)) fun z8_ => some (z8_ 68 22, z8_)))))
noncomputable def X11_rule_L96b (k96 : ZI → Int → Int → Int → Int → Option (Int × ZI)) (z : ZI) (x1 : Int) (x2 : Int) (x5 : Int) (x6 : Int) : Option (Int × ZI) :=
  if x5 ≤ x6 then (X11_rule_b131 z x1 x2 x5) else (Zgd (InR (60 * (z 68 22))) (Zgd (InR ((60 * (z 68 22)) + x6)) (Zgd (IJ x6 60) (Zgd (IJ ((60 * (z 68 22)) + x6) 1800) (Zl (Zup z 81 ((60 * (z 68 22)) + x6) (z 80 x6)) fun z6_ => Zgd (InR (x6 + 1)) (k96 z6_ x1 x2 x5 (x6 + 1)))))))
noncomputable def X11_rule_L96 : Nat → ZI → Int → Int → Int → Int → Option (Int × ZI)
  | 0, _, _, _, _, _ => none
  | n + 1, z, x1, x2, x5, x6 => X11_rule_L96b (X11_rule_L96 n) z x1 x2 x5 x6
noncomputable def X11_rule_b52 (z : ZI) (x1 : Int) (x2 : Int) (y0 : Int) : Option (Int × ZI) :=
  if y0 = 0 then (Yb (F_X11_parses z) fun r4_ z2_ => Zl (Zup z2_ 68 21 0) fun z5_ => if r4_ = 0 then (Zgd (InR ((-20) - (z5_ 68 23))) (some ((-20) - (z5_ 68 23), z5_))) else (X11_rule_L96 Zfuel z5_ x1 x2 (z2_ 68 21) 0)) else (Yb (F_X11_no z y0) fun r10_ z8_ => some (r10_, z8_))
noncomputable def X11_rule_b46 (z : ZI) (x1 : Int) (x2 : Int) : Option (Int × ZI) :=
  X11_rule_b52 z x1 x2 (-6)
noncomputable def F_X11_rule (z : ZI) (x1 : Int) (x2 : Int) : Option (Int × ZI) :=
  Yb (F_X11_isIn z x1 0 1) fun r3_ z1_ => if r3_ = 0 then (Yb (F_X11_no z1_ (-2)) fun r10_ z8_ => some (r10_, z8_)) else (if (z1_ 68 11) ≤ x2 then (if 999 < x2 then (X11_rule_b46 z1_ x1 x2) else (if (z1_ 68 22) = 30 then (X11_rule_b46 z1_ x1 x2) else (X11_rule_b52 z1_ x1 x2 0))) else (X11_rule_b52 z1_ x1 x2 (-4)))
noncomputable def F_X11_served (z : ZI) (x1 : Int) : Option (Int × ZI) :=
  Yb (F_X11_isHouse z x1) fun r3_ z1_ => if r3_ = 0 then (Yb (F_X11_no z1_ (-1)) fun r17_ z15_ => some (r17_, z15_)) else (Yb (F_X11_findNeeds z1_) fun _ z5_ => Yb (F_X11_findDrawers z5_) fun _ z8_ => Yb (F_X11_draws 98 4 z8_) fun _ z11_ => Zgd (IJ x1 30) (some (z11_ 102 x1, z11_)))
noncomputable def X11_since_b47 (z : ZI) (y0 : Int) : Option (Int × ZI) :=
  some (y0, z)
noncomputable def X11_since_b38 (z : ZI) (x1 : Int) (x2 : Int) (x3 : Int) : Option (Int × ZI) :=
  if x1 = 0 then (X11_since_b47 z x2) else (X11_since_b47 z x3)
noncomputable def X11_since_L24b (k24 : ZI → Int → Int → Option (Int × ZI)) (z : ZI) (x1 : Int) (x2 : Int) : Option (Int × ZI) :=
  if x2 < 0 then (some ((-9), z)) else (Yb (F_X11_leaned z x2) fun r4_ z2_ => if r4_ < 0 then (Zgd (InR (x2 + (-1))) (k24 z2_ x1 (x2 + (-1)))) else (X11_since_b38 z2_ x1 x2 r4_))
noncomputable def X11_since_L24 : Nat → ZI → Int → Int → Option (Int × ZI)
  | 0, _, _, _ => none
  | n + 1, z, x1, x2 => X11_since_L24b (X11_since_L24 n) z x1 x2
noncomputable def F_X11_since (z : ZI) (x1 : Int) : Option (Int × ZI) :=
  Yb (F_X11_isIn z x1 0 1) fun r3_ z1_ => if r3_ = 0 then (Yb (F_X11_no z1_ (-2)) fun r8_ z6_ => some (r8_, z6_)) else (Zgd (InR ((z1_ 68 11) + 1)) (X11_since_L24 Zfuel z1_ x1 ((z1_ 68 11) + 1)))
noncomputable def X11_state_b85 (z : ZI) (x1 : Int) (x2 : Int) (x3 : Int) : Option (Int × ZI) :=
  if x3 = 0 then (if (z 68 14) = 150 then (Yb (F_X11_no z (-6)) fun r8_ z6_ => some (r8_, z6_)) else (Yb (F_X11_becomes z x1 x2) fun _ z3_ => some (z3_ 68 14, z3_))) else (Yb (F_X11_no z (-3)) fun r11_ z9_ => some (r11_, z9_))
noncomputable def X11_state_b78 (k38 : ZI → Int → Int → Int → Int → Option (Int × ZI)) (z : ZI) (x1 : Int) (x2 : Int) (x4 : Int) (y0 : Int) : Option (Int × ZI) :=
  Zgd (InR (x4 + 1)) (k38 z x1 x2 y0 (x4 + 1))
noncomputable def X11_state_b73 (k38 : ZI → Int → Int → Int → Int → Option (Int × ZI)) (z : ZI) (x1 : Int) (x2 : Int) (x4 : Int) : Option (Int × ZI) :=
  X11_state_b78 k38 z x1 x2 x4 1
noncomputable def X11_state_b77 (k38 : ZI → Int → Int → Int → Int → Option (Int × ZI)) (z : ZI) (x1 : Int) (x2 : Int) (x4 : Int) : Option (Int × ZI) :=
  X11_state_b78 k38 z x1 x2 x4 0
noncomputable def X11_state_L38b (k38 : ZI → Int → Int → Int → Int → Option (Int × ZI)) (z : ZI) (x1 : Int) (x2 : Int) (x3 : Int) (x4 : Int) : Option (Int × ZI) :=
  if (z 68 14) ≤ x4 then (X11_state_b85 z x1 x2 x3) else (if x3 = 0 then (Zgd (IJ x4 150) (if (z 77 x4) = x1 then (Zgd (IJ x4 150) (if (z 78 x4) = 4 then (X11_state_b73 k38 z x1 x2 x4) else (X11_state_b77 k38 z x1 x2 x4))) else (X11_state_b77 k38 z x1 x2 x4))) else (X11_state_b73 k38 z x1 x2 x4))
noncomputable def X11_state_L38 : Nat → ZI → Int → Int → Int → Int → Option (Int × ZI)
  | 0, _, _, _, _, _ => none
  | n + 1, z, x1, x2, x3, x4 => X11_state_L38b (X11_state_L38 n) z x1 x2 x3 x4
noncomputable def F_X11_state (z : ZI) (x1 : Int) (x2 : Int) : Option (Int × ZI) :=
  Yb (F_X11_isPerson z x1) fun r3_ z1_ => if r3_ = 0 then (Yb (F_X11_no z1_ (-1)) fun r14_ z12_ => some (r14_, z12_)) else (Yb (F_X11_isIn z1_ x2 0 4) fun r7_ z5_ => if r7_ = 0 then (Yb (F_X11_no z5_ (-2)) fun r11_ z9_ => some (r11_, z9_)) else (X11_state_L38 Zfuel z5_ x1 x2 0 0))
noncomputable def X11_stateOf_b42 (z : ZI) (y0 : Int) : Option (Int × ZI) :=
  some (y0, z)
noncomputable def F_X11_stateOf (z : ZI) (x1 : Int) (x2 : Int) : Option (Int × ZI) :=
  Yb (F_X11_isPerson z x1) fun r3_ z1_ => if r3_ = 0 then (Yb (F_X11_no z1_ (-1)) fun r17_ z15_ => some (r17_, z15_)) else (Yb (F_X11_out z1_ x2 0 999) fun r7_ z5_ => if r7_ = 0 then (Yb (F_X11_stateOn z5_ x1 x2) fun r11_ z9_ => X11_stateOf_b42 z9_ r11_) else (Yb (F_X11_no z5_ r7_) fun r14_ z12_ => X11_stateOf_b42 z12_ r14_))
noncomputable def X11_total_b162 (k139 : ZI → Int → Int → Option (Int × ZI)) (z : ZI) (x3 : Int) (y0 : Int) (y1 : Int) : Option (Int × ZI) :=
  Zgd (InR (y0 + y1)) (Zgd (InR (x3 + 1)) (k139 z (y0 + y1) (x3 + 1)))
noncomputable def X11_total_L139b (k139 : ZI → Int → Int → Option (Int × ZI)) (z : ZI) (x2 : Int) (x3 : Int) : Option (Int × ZI) :=
  if (z 68 34) ≤ x3 then (some (x2, z)) else (Zgd (IJ x3 40) (if 0 ≤ (z 90 x3) then (X11_total_b162 k139 z x3 x2 0) else (X11_total_b162 k139 z x3 x2 1)))
noncomputable def X11_total_L139 : Nat → ZI → Int → Int → Option (Int × ZI)
  | 0, _, _, _ => none
  | n + 1, z, x2, x3 => X11_total_L139b (X11_total_L139 n) z x2 x3
noncomputable def X11_total_b127 (k101 : ZI → Int → Int → Option (Int × ZI)) (z : ZI) (x3 : Int) (y0 : Int) (y1 : Int) : Option (Int × ZI) :=
  Zgd (InR (y0 + y1)) (Zgd (InR (x3 + 1)) (k101 z (y0 + y1) (x3 + 1)))
noncomputable def X11_total_L101b (k101 : ZI → Int → Int → Option (Int × ZI)) (z : ZI) (x2 : Int) (x3 : Int) : Option (Int × ZI) :=
  if (z 68 13) ≤ x3 then (some (x2, z)) else (Yb (F_X11_isHere z x3 (z 68 11)) fun r4_ z2_ => if r4_ = 0 then (X11_total_b127 k101 z2_ x3 x2 0) else (X11_total_b127 k101 z2_ x3 x2 1))
noncomputable def X11_total_L101 : Nat → ZI → Int → Int → Option (Int × ZI)
  | 0, _, _, _ => none
  | n + 1, z, x2, x3 => X11_total_L101b (X11_total_L101 n) z x2 x3
noncomputable def F_X11_total (z : ZI) (x1 : Int) : Option (Int × ZI) :=
  Yb (F_X11_isIn z x1 11 16) fun r3_ z1_ => if r3_ = 0 then (if x1 = 0 then (some (z1_ 68 11, z1_)) else if x1 = 1 then (some (z1_ 68 12, z1_)) else if x1 = 2 then (some (z1_ 68 13, z1_)) else if x1 = 3 then (X11_total_L101 Zfuel z1_ 0 0) else if x1 = 4 then (X11_total_L139 Zfuel z1_ 0 0) else if x1 = 5 then (some (z1_ 68 35, z1_)) else if x1 = 6 then (some (z1_ 68 47, z1_)) else if x1 = 7 then (some (z1_ 68 61, z1_)) else if x1 = 8 then (some (z1_ 68 78, z1_)) else if x1 = 9 then (some (z1_ 68 21, z1_)) else if x1 = 10 then (some (z1_ 68 22, z1_)) else (some ((-9), z1_))) else (Zgd (InR (x1 - 10)) (Zgd (IJ (x1 - 10) 7) (some (z1_ 69 (x1 - 10), z1_))))
noncomputable def X11_well_b56 (z : ZI) (x1 : Int) (x2 : Int) (x3 : Int) (y0 : Int) : Option (Int × ZI) :=
  if y0 = 0 then (Zgd (IJ (z 68 47) 6) (Zl (Zup z 95 (z 68 47) x1) fun z3_ => Zgd (IJ (z3_ 68 47) 6) (Zl (Zup z3_ 96 (z3_ 68 47) x2) fun z5_ => Zgd (IJ (z5_ 68 47) 6) (Zl (Zup z5_ 97 (z5_ 68 47) x3) fun z7_ => Zgd (InR ((z7_ 68 47) + 1)) (Zl (Zup z7_ 68 47 ((z7_ 68 47) + 1)) fun z9_ => Zgd (InR ((z9_ 68 47) - 1)) (some ((z9_ 68 47) - 1, z9_))))))) else (Yb (F_X11_no z y0) fun r13_ z11_ => some (r13_, z11_))
noncomputable def X11_well_b23 (z : ZI) (x1 : Int) (x2 : Int) (x3 : Int) : Option (Int × ZI) :=
  X11_well_b56 z x1 x2 x3 (-4)
noncomputable def X11_well_b50 (z : ZI) (x1 : Int) (x2 : Int) (x3 : Int) : Option (Int × ZI) :=
  X11_well_b56 z x1 x2 x3 (-6)
noncomputable def F_X11_well (z : ZI) (x1 : Int) (x2 : Int) (x3 : Int) : Option (Int × ZI) :=
  Yb (F_X11_isCell z x1) fun r3_ z1_ => if r3_ = 0 then (Yb (F_X11_no z1_ (-1)) fun r12_ z10_ => some (r12_, z10_)) else (if x2 < 1 then (X11_well_b23 z1_ x1 x2 x3) else (if 1 ≤ x3 then (if 99 < x2 then (X11_well_b50 z1_ x1 x2 x3) else (if 9999 < x3 then (X11_well_b50 z1_ x1 x2 x3) else (if (z1_ 68 47) = 6 then (X11_well_b50 z1_ x1 x2 x3) else (X11_well_b56 z1_ x1 x2 x3 0)))) else (X11_well_b23 z1_ x1 x2 x3)))
