-- J7_fill_53178
def HJ7_fill_53178_5  (k5 : Nat → Nat → Int32 → Int32 → Int32 → aI → aJ → Option (RT Unit)) (e0 : Nat) (ne0 : Nat) (x1 : Int32) (x2 : Int32) (x3 : Int32) (I : aI) (J : aJ) : Option (RT Unit) := if x3 ≤ x2 then some ((), I, J) else gd (inb x2 ne0) (k5 e0 ne0 x1 (x2 + 1) x3 (pI I e0 (Int32.toNatClampNeg x2) x1) J)
def LJ7_fill_53178_5   : Nat → Nat → Nat → Int32 → Int32 → Int32 → aI → aJ → Option (RT Unit)
  | 0, _, _, _, _, _, _, _ => none
  | n + 1, e0, ne0, x1, x2, x3, I, J => HJ7_fill_53178_5   (LJ7_fill_53178_5   n) e0 ne0 x1 x2 x3 I J
def fJ7_fill_53178 (e0 n0 : Nat) (x1 : Int32) (I : aI) (J : aJ) : Option (RT Unit) := LJ7_fill_53178_5   128 e0 n0 x1 0 (nI n0) I J
-- X0_begin
def fX0_begin (e0 : Nat) (x1 : Int32) (I : aI) (J : aJ) : Option (RT Unit) := bnd (fJ7_fill_53178  (e0 + 1) 6 0 (pI (pI (pI I e0 0 x1) e0 1 0) e0 2 0) J) fun r1 I1 J1 => some ((), I1, J1)
-- X0_copy
def fX0_copy (e0 : Nat) (e1 : Nat) (I : aI) (J : aJ) : Option (RT Unit) := some ((), (uI (pI (pI (pI I e0 0 (I e1 0)) e0 1 ((pI I e0 0 (I e1 0)) e1 1)) e0 2 ((pI (pI I e0 0 (I e1 0)) e0 1 ((pI I e0 0 (I e1 0)) e1 1)) e1 2)) (e0 + 1) (va_cpy ((pI (pI (pI I e0 0 (I e1 0)) e0 1 ((pI I e0 0 (I e1 0)) e1 1)) e0 2 ((pI (pI I e0 0 (I e1 0)) e0 1 ((pI I e0 0 (I e1 0)) e1 1)) e1 2)) (e1 + 1)) ((pI (pI (pI I e0 0 (I e1 0)) e0 1 ((pI I e0 0 (I e1 0)) e1 1)) e0 2 ((pI (pI I e0 0 (I e1 0)) e0 1 ((pI I e0 0 (I e1 0)) e1 1)) e1 2)) (e0 + 1)) (Int32.toNatClampNeg 0) (Int32.toNatClampNeg 0) (Int32.toNatClampNeg 6))), J)
-- X7_hasBit
def BX7_hasBit_13   (s0 : Int32) (I : aI) (J : aJ) : Option (RT Int32) := gd (decide (s0 = 0 ∨ s0 = 1)) (some (s0, I, J))
def fX7_hasBit (x0 : Int32) (x1 : Int32) (I : aI) (J : aJ) : Option (RT Int32) := if ((x0 >>> (x1 &&& 31)) &&& 1) = 0 then BX7_hasBit_13   0 I J else BX7_hasBit_13   1 I J
-- X0_countedBy
def BX0_countedBy_27  (k4 : Nat → Int32 → Int32 → Int32 → aI → aJ → Option (RT Int32)) (e0 : Nat) (x1 : Int32) (x2 : Int32) (x3 : Int32) (I : aI) (J : aJ) : Option (RT Int32) := k4 e0 x1 x2 (x3 + 1) I J
def HX0_countedBy_4  (k4 : Nat → Int32 → Int32 → Int32 → aI → aJ → Option (RT Int32)) (e0 : Nat) (x1 : Int32) (x2 : Int32) (x3 : Int32) (I : aI) (J : aJ) : Option (RT Int32) := if 6 ≤ x3 then some (x2, I, J) else bnd (fX7_hasBit  x1 x3 I J) fun r2 I2 J2 => if r2 = 0 then gd (inb x3 6) (BX0_countedBy_27  k4 e0 x1 (x2 + (I2 (e0 + 1) (Int32.toNatClampNeg x3))) x3 I2 J2) else BX0_countedBy_27  k4 e0 x1 x2 x3 I2 J2
def LX0_countedBy_4   : Nat → Nat → Int32 → Int32 → Int32 → aI → aJ → Option (RT Int32)
  | 0, _, _, _, _, _, _ => none
  | n + 1, e0, x1, x2, x3, I, J => HX0_countedBy_4   (LX0_countedBy_4   n) e0 x1 x2 x3 I J
def fX0_countedBy (e0 : Nat) (x1 : Int32) (I : aI) (J : aJ) : Option (RT Int32) := LX0_countedBy_4   128 e0 x1 0 0 I J
-- X0_countedByAll
def fX0_countedByAll (e0 : Nat) (I : aI) (J : aJ) : Option (RT Int32) := bnd (fX0_countedBy  e0 0 I J) fun r1 I1 J1 => some (r1, I1, J1)
-- X0_countedByUnserved
def fX0_countedByUnserved (e0 : Nat) (I : aI) (J : aJ) : Option (RT Int32) := bnd (fX0_countedBy  e0 (I e0 2) I J) fun r1 I1 J1 => some (r1, I1, J1)
-- X0_forgo
def fX0_forgo (e0 : Nat) (x1 : Int32) (I : aI) (J : aJ) : Option (RT Unit) := gd (inb x1 6) (some ((), (pI (pI I (e0 + 1) (Int32.toNatClampNeg x1) 0) e0 2 (((pI I (e0 + 1) (Int32.toNatClampNeg x1) 0) e0 2) &&& ((1 <<< (x1 &&& 31)) ^^^ (-1)))), J))
-- X0_isServed
def fX0_isServed (e0 : Nat) (x1 : Int32) (I : aI) (J : aJ) : Option (RT Int32) := bnd (fX7_hasBit  (I e0 2) x1 I J) fun r1 I1 J1 => gd (decide (r1 = 0 ∨ r1 = 1)) (some (r1, I1, J1))
-- X1_countedAfter
def BX1_countedAfter_67   (s0 : Int32) (I : aI) (J : aJ) : Option (RT Int32) := some (s0, I, J)
def BX1_countedAfter_53   (x2 : Int32) (s0 : Int32) (I : aI) (J : aJ) : Option (RT Int32) := if s0 = 0 then BX1_countedAfter_67   x2 I J else BX1_countedAfter_67   (x2 + 1) I J
def BX1_countedAfter_52   (x2 : Int32) (I : aI) (J : aJ) : Option (RT Int32) := BX1_countedAfter_53   x2 0 I J
def BX1_countedAfter_48   (x2 : Int32) (I : aI) (J : aJ) : Option (RT Int32) := BX1_countedAfter_53   x2 1 I J
def BX1_countedAfter_19   (s0 : Int32) (I : aI) (J : aJ) : Option (RT Int32) := some (s0, I, J)
def fX1_countedAfter (e0 : Nat) (x1 : Int32) (x2 : Int32) (x3 : Int32) (x4 : Int32) (I : aI) (J : aJ) : Option (RT Int32) := if x3 = 0 then gd (inb x1 6) (if (I (e0 + 2) (Int32.toNatClampNeg x1)) = 3 then BX1_countedAfter_19   0 I J else BX1_countedAfter_19   x2 I J) else gd (inb x1 6) (if x4 < (I (e0 + 3) (Int32.toNatClampNeg x1)) then BX1_countedAfter_52   x2 I J else if (I (e0 + 2) (Int32.toNatClampNeg x1)) = 2 then if (x4 - x4 / 2 * 2) = 0 then BX1_countedAfter_52   x2 I J else BX1_countedAfter_48   x2 I J else BX1_countedAfter_48   x2 I J)
-- X1_needs
def fX1_needs (e0 : Nat) (x1 : Int32) (I : aI) (J : aJ) : Option (RT Int32) := gd (inb x1 6) (gd (inb (I (e0 + 2) (Int32.toNatClampNeg x1)) 5) (some ((ndF (Int32.toNatClampNeg (I (e0 + 2) (Int32.toNatClampNeg x1)))), I, J)))
-- X0_meet
def BX0_meet_65    (I : aI) (J : aJ) : Option (RT Unit) := some ((), I, J)
def BX0_meet_31   (e0 : Nat) (x1 : Int32) (e2 : Nat) (s0 : Int32) (s1 : Int32) (s2 : Int32) (t3 : Nat) (s4 : Int32) (t5 : Nat) (I : aI) (J : aJ) : Option (RT Unit) := bnd (fX1_countedAfter  t3 s2 s1 s0 (I e0 1) I J) fun r3 I3 J3 => gd (inb s4 6) (gd (inb x1 6) (bnd (fX1_needs  e2 x1 (pI I3 t5 (Int32.toNatClampNeg s4) r3) J3) fun r6 I6 J6 => if ((pI I3 t5 (Int32.toNatClampNeg s4) r3) (e0 + 1) (Int32.toNatClampNeg x1)) < r6 then BX0_meet_65    I6 J6 else BX0_meet_65    (pI I6 e0 2 ((I6 e0 2) ||| (1 <<< (x1 &&& 31)))) J6))
def fX0_meet (e0 : Nat) (x1 : Int32) (e2 : Nat) (I : aI) (J : aJ) : Option (RT Unit) := gd (inb x1 6) (if (I (e2 + 1) (Int32.toNatClampNeg x1)) = (I e0 0) then BX0_meet_31   e0 x1 e2 1 (I (e0 + 1) (Int32.toNatClampNeg x1)) x1 e2 x1 (e0 + 1) I J else BX0_meet_31   e0 x1 e2 0 (I (e0 + 1) (Int32.toNatClampNeg x1)) x1 e2 x1 (e0 + 1) I J)
-- J6_bitCount_0f7a4
def fJ6_bitCount_0f7a4 (x0 : Int32) (I : aI) (J : aJ) : Option (RT Int32) := some (((((((((x0 - (((x0.toUInt32 >>> (Int32.toUInt32 1 &&& Int32.toUInt32 31)).toInt32) &&& 1431655765)) &&& 858993459) + ((((x0 - (((x0.toUInt32 >>> (Int32.toUInt32 1 &&& Int32.toUInt32 31)).toInt32) &&& 1431655765)).toUInt32 >>> (Int32.toUInt32 2 &&& Int32.toUInt32 31)).toInt32) &&& 858993459)) + (((((x0 - (((x0.toUInt32 >>> (Int32.toUInt32 1 &&& Int32.toUInt32 31)).toInt32) &&& 1431655765)) &&& 858993459) + ((((x0 - (((x0.toUInt32 >>> (Int32.toUInt32 1 &&& Int32.toUInt32 31)).toInt32) &&& 1431655765)).toUInt32 >>> (Int32.toUInt32 2 &&& Int32.toUInt32 31)).toInt32) &&& 858993459)).toUInt32 >>> (Int32.toUInt32 4 &&& Int32.toUInt32 31)).toInt32)) &&& 252645135) + (((((((x0 - (((x0.toUInt32 >>> (Int32.toUInt32 1 &&& Int32.toUInt32 31)).toInt32) &&& 1431655765)) &&& 858993459) + ((((x0 - (((x0.toUInt32 >>> (Int32.toUInt32 1 &&& Int32.toUInt32 31)).toInt32) &&& 1431655765)).toUInt32 >>> (Int32.toUInt32 2 &&& Int32.toUInt32 31)).toInt32) &&& 858993459)) + (((((x0 - (((x0.toUInt32 >>> (Int32.toUInt32 1 &&& Int32.toUInt32 31)).toInt32) &&& 1431655765)) &&& 858993459) + ((((x0 - (((x0.toUInt32 >>> (Int32.toUInt32 1 &&& Int32.toUInt32 31)).toInt32) &&& 1431655765)).toUInt32 >>> (Int32.toUInt32 2 &&& Int32.toUInt32 31)).toInt32) &&& 858993459)).toUInt32 >>> (Int32.toUInt32 4 &&& Int32.toUInt32 31)).toInt32)) &&& 252645135).toUInt32 >>> (Int32.toUInt32 8 &&& Int32.toUInt32 31)).toInt32)) + ((((((((x0 - (((x0.toUInt32 >>> (Int32.toUInt32 1 &&& Int32.toUInt32 31)).toInt32) &&& 1431655765)) &&& 858993459) + ((((x0 - (((x0.toUInt32 >>> (Int32.toUInt32 1 &&& Int32.toUInt32 31)).toInt32) &&& 1431655765)).toUInt32 >>> (Int32.toUInt32 2 &&& Int32.toUInt32 31)).toInt32) &&& 858993459)) + (((((x0 - (((x0.toUInt32 >>> (Int32.toUInt32 1 &&& Int32.toUInt32 31)).toInt32) &&& 1431655765)) &&& 858993459) + ((((x0 - (((x0.toUInt32 >>> (Int32.toUInt32 1 &&& Int32.toUInt32 31)).toInt32) &&& 1431655765)).toUInt32 >>> (Int32.toUInt32 2 &&& Int32.toUInt32 31)).toInt32) &&& 858993459)).toUInt32 >>> (Int32.toUInt32 4 &&& Int32.toUInt32 31)).toInt32)) &&& 252645135) + (((((((x0 - (((x0.toUInt32 >>> (Int32.toUInt32 1 &&& Int32.toUInt32 31)).toInt32) &&& 1431655765)) &&& 858993459) + ((((x0 - (((x0.toUInt32 >>> (Int32.toUInt32 1 &&& Int32.toUInt32 31)).toInt32) &&& 1431655765)).toUInt32 >>> (Int32.toUInt32 2 &&& Int32.toUInt32 31)).toInt32) &&& 858993459)) + (((((x0 - (((x0.toUInt32 >>> (Int32.toUInt32 1 &&& Int32.toUInt32 31)).toInt32) &&& 1431655765)) &&& 858993459) + ((((x0 - (((x0.toUInt32 >>> (Int32.toUInt32 1 &&& Int32.toUInt32 31)).toInt32) &&& 1431655765)).toUInt32 >>> (Int32.toUInt32 2 &&& Int32.toUInt32 31)).toInt32) &&& 858993459)).toUInt32 >>> (Int32.toUInt32 4 &&& Int32.toUInt32 31)).toInt32)) &&& 252645135).toUInt32 >>> (Int32.toUInt32 8 &&& Int32.toUInt32 31)).toInt32)).toUInt32 >>> (Int32.toUInt32 16 &&& Int32.toUInt32 31)).toInt32)) &&& 63), I, J)
-- X0_servedNumber
def fX0_servedNumber (e0 : Nat) (I : aI) (J : aJ) : Option (RT Int32) := bnd (fJ6_bitCount_0f7a4  (I e0 2) I J) fun r1 I1 J1 => some (r1, I1, J1)
-- X0_pass
def BX0_pass_48  (k23 : Nat → Nat → Int32 → Int32 → aI → aJ → Option (RT Int32)) (e0 : Nat) (e2 : Nat) (x3 : Int32) (x4 : Int32) (I : aI) (J : aJ) : Option (RT Int32) := k23 e0 e2 x3 (x4 + 1) I J
def HX0_pass_23  (k23 : Nat → Nat → Int32 → Int32 → aI → aJ → Option (RT Int32)) (e0 : Nat) (e2 : Nat) (x3 : Int32) (x4 : Int32) (I : aI) (J : aJ) : Option (RT Int32) := if (I e2 0) ≤ x4 then bnd (fX0_servedNumber  e0 I J) fun r3 I3 J3 => some ((r3 - x3), I3, J3) else bnd (fX0_isServed  e0 x4 I J) fun r4 I4 J4 => if r4 = 0 then bnd (fX0_meet  e0 x4 e2 I4 J4) fun r6 I6 J6 => BX0_pass_48  k23 e0 e2 x3 x4 I6 J6 else BX0_pass_48  k23 e0 e2 x3 x4 I4 J4
def LX0_pass_23   : Nat → Nat → Nat → Int32 → Int32 → aI → aJ → Option (RT Int32)
  | 0, _, _, _, _, _, _ => none
  | n + 1, e0, e2, x3, x4, I, J => HX0_pass_23   (LX0_pass_23   n) e0 e2 x3 x4 I J
def fX0_pass (e0 : Nat) (x1 : Int32) (e2 : Nat) (I : aI) (J : aJ) : Option (RT Int32) := bnd (fX0_servedNumber  e0 I J) fun r1 I1 J1 => LX0_pass_23   128 e0 e2 r1 0 (pI (pI I1 e0 0 x1) e0 1 (((pI I1 e0 0 x1) e0 1) + 1)) J1
-- X1_copy
def fX1_copy (e0 : Nat) (e1 : Nat) (I : aI) (J : aJ) : Option (RT Unit) := some ((), (uI (uI (uI (uI (pI I e0 0 (I e1 0)) (e0 + 1) (va_cpy ((pI I e0 0 (I e1 0)) (e1 + 1)) ((pI I e0 0 (I e1 0)) (e0 + 1)) (Int32.toNatClampNeg 0) (Int32.toNatClampNeg 0) (Int32.toNatClampNeg 6))) (e0 + 2) (va_cpy ((uI (pI I e0 0 (I e1 0)) (e0 + 1) (va_cpy ((pI I e0 0 (I e1 0)) (e1 + 1)) ((pI I e0 0 (I e1 0)) (e0 + 1)) (Int32.toNatClampNeg 0) (Int32.toNatClampNeg 0) (Int32.toNatClampNeg 6))) (e1 + 2)) ((uI (pI I e0 0 (I e1 0)) (e0 + 1) (va_cpy ((pI I e0 0 (I e1 0)) (e1 + 1)) ((pI I e0 0 (I e1 0)) (e0 + 1)) (Int32.toNatClampNeg 0) (Int32.toNatClampNeg 0) (Int32.toNatClampNeg 6))) (e0 + 2)) (Int32.toNatClampNeg 0) (Int32.toNatClampNeg 0) (Int32.toNatClampNeg 6))) (e0 + 3) (va_cpy ((uI (uI (pI I e0 0 (I e1 0)) (e0 + 1) (va_cpy ((pI I e0 0 (I e1 0)) (e1 + 1)) ((pI I e0 0 (I e1 0)) (e0 + 1)) (Int32.toNatClampNeg 0) (Int32.toNatClampNeg 0) (Int32.toNatClampNeg 6))) (e0 + 2) (va_cpy ((uI (pI I e0 0 (I e1 0)) (e0 + 1) (va_cpy ((pI I e0 0 (I e1 0)) (e1 + 1)) ((pI I e0 0 (I e1 0)) (e0 + 1)) (Int32.toNatClampNeg 0) (Int32.toNatClampNeg 0) (Int32.toNatClampNeg 6))) (e1 + 2)) ((uI (pI I e0 0 (I e1 0)) (e0 + 1) (va_cpy ((pI I e0 0 (I e1 0)) (e1 + 1)) ((pI I e0 0 (I e1 0)) (e0 + 1)) (Int32.toNatClampNeg 0) (Int32.toNatClampNeg 0) (Int32.toNatClampNeg 6))) (e0 + 2)) (Int32.toNatClampNeg 0) (Int32.toNatClampNeg 0) (Int32.toNatClampNeg 6))) (e1 + 3)) ((uI (uI (pI I e0 0 (I e1 0)) (e0 + 1) (va_cpy ((pI I e0 0 (I e1 0)) (e1 + 1)) ((pI I e0 0 (I e1 0)) (e0 + 1)) (Int32.toNatClampNeg 0) (Int32.toNatClampNeg 0) (Int32.toNatClampNeg 6))) (e0 + 2) (va_cpy ((uI (pI I e0 0 (I e1 0)) (e0 + 1) (va_cpy ((pI I e0 0 (I e1 0)) (e1 + 1)) ((pI I e0 0 (I e1 0)) (e0 + 1)) (Int32.toNatClampNeg 0) (Int32.toNatClampNeg 0) (Int32.toNatClampNeg 6))) (e1 + 2)) ((uI (pI I e0 0 (I e1 0)) (e0 + 1) (va_cpy ((pI I e0 0 (I e1 0)) (e1 + 1)) ((pI I e0 0 (I e1 0)) (e0 + 1)) (Int32.toNatClampNeg 0) (Int32.toNatClampNeg 0) (Int32.toNatClampNeg 6))) (e0 + 2)) (Int32.toNatClampNeg 0) (Int32.toNatClampNeg 0) (Int32.toNatClampNeg 6))) (e0 + 3)) (Int32.toNatClampNeg 0) (Int32.toNatClampNeg 0) (Int32.toNatClampNeg 6))) (e0 + 4) (va_cpy ((uI (uI (uI (pI I e0 0 (I e1 0)) (e0 + 1) (va_cpy ((pI I e0 0 (I e1 0)) (e1 + 1)) ((pI I e0 0 (I e1 0)) (e0 + 1)) (Int32.toNatClampNeg 0) (Int32.toNatClampNeg 0) (Int32.toNatClampNeg 6))) (e0 + 2) (va_cpy ((uI (pI I e0 0 (I e1 0)) (e0 + 1) (va_cpy ((pI I e0 0 (I e1 0)) (e1 + 1)) ((pI I e0 0 (I e1 0)) (e0 + 1)) (Int32.toNatClampNeg 0) (Int32.toNatClampNeg 0) (Int32.toNatClampNeg 6))) (e1 + 2)) ((uI (pI I e0 0 (I e1 0)) (e0 + 1) (va_cpy ((pI I e0 0 (I e1 0)) (e1 + 1)) ((pI I e0 0 (I e1 0)) (e0 + 1)) (Int32.toNatClampNeg 0) (Int32.toNatClampNeg 0) (Int32.toNatClampNeg 6))) (e0 + 2)) (Int32.toNatClampNeg 0) (Int32.toNatClampNeg 0) (Int32.toNatClampNeg 6))) (e0 + 3) (va_cpy ((uI (uI (pI I e0 0 (I e1 0)) (e0 + 1) (va_cpy ((pI I e0 0 (I e1 0)) (e1 + 1)) ((pI I e0 0 (I e1 0)) (e0 + 1)) (Int32.toNatClampNeg 0) (Int32.toNatClampNeg 0) (Int32.toNatClampNeg 6))) (e0 + 2) (va_cpy ((uI (pI I e0 0 (I e1 0)) (e0 + 1) (va_cpy ((pI I e0 0 (I e1 0)) (e1 + 1)) ((pI I e0 0 (I e1 0)) (e0 + 1)) (Int32.toNatClampNeg 0) (Int32.toNatClampNeg 0) (Int32.toNatClampNeg 6))) (e1 + 2)) ((uI (pI I e0 0 (I e1 0)) (e0 + 1) (va_cpy ((pI I e0 0 (I e1 0)) (e1 + 1)) ((pI I e0 0 (I e1 0)) (e0 + 1)) (Int32.toNatClampNeg 0) (Int32.toNatClampNeg 0) (Int32.toNatClampNeg 6))) (e0 + 2)) (Int32.toNatClampNeg 0) (Int32.toNatClampNeg 0) (Int32.toNatClampNeg 6))) (e1 + 3)) ((uI (uI (pI I e0 0 (I e1 0)) (e0 + 1) (va_cpy ((pI I e0 0 (I e1 0)) (e1 + 1)) ((pI I e0 0 (I e1 0)) (e0 + 1)) (Int32.toNatClampNeg 0) (Int32.toNatClampNeg 0) (Int32.toNatClampNeg 6))) (e0 + 2) (va_cpy ((uI (pI I e0 0 (I e1 0)) (e0 + 1) (va_cpy ((pI I e0 0 (I e1 0)) (e1 + 1)) ((pI I e0 0 (I e1 0)) (e0 + 1)) (Int32.toNatClampNeg 0) (Int32.toNatClampNeg 0) (Int32.toNatClampNeg 6))) (e1 + 2)) ((uI (pI I e0 0 (I e1 0)) (e0 + 1) (va_cpy ((pI I e0 0 (I e1 0)) (e1 + 1)) ((pI I e0 0 (I e1 0)) (e0 + 1)) (Int32.toNatClampNeg 0) (Int32.toNatClampNeg 0) (Int32.toNatClampNeg 6))) (e0 + 2)) (Int32.toNatClampNeg 0) (Int32.toNatClampNeg 0) (Int32.toNatClampNeg 6))) (e0 + 3)) (Int32.toNatClampNeg 0) (Int32.toNatClampNeg 0) (Int32.toNatClampNeg 6))) (e1 + 4)) ((uI (uI (uI (pI I e0 0 (I e1 0)) (e0 + 1) (va_cpy ((pI I e0 0 (I e1 0)) (e1 + 1)) ((pI I e0 0 (I e1 0)) (e0 + 1)) (Int32.toNatClampNeg 0) (Int32.toNatClampNeg 0) (Int32.toNatClampNeg 6))) (e0 + 2) (va_cpy ((uI (pI I e0 0 (I e1 0)) (e0 + 1) (va_cpy ((pI I e0 0 (I e1 0)) (e1 + 1)) ((pI I e0 0 (I e1 0)) (e0 + 1)) (Int32.toNatClampNeg 0) (Int32.toNatClampNeg 0) (Int32.toNatClampNeg 6))) (e1 + 2)) ((uI (pI I e0 0 (I e1 0)) (e0 + 1) (va_cpy ((pI I e0 0 (I e1 0)) (e1 + 1)) ((pI I e0 0 (I e1 0)) (e0 + 1)) (Int32.toNatClampNeg 0) (Int32.toNatClampNeg 0) (Int32.toNatClampNeg 6))) (e0 + 2)) (Int32.toNatClampNeg 0) (Int32.toNatClampNeg 0) (Int32.toNatClampNeg 6))) (e0 + 3) (va_cpy ((uI (uI (pI I e0 0 (I e1 0)) (e0 + 1) (va_cpy ((pI I e0 0 (I e1 0)) (e1 + 1)) ((pI I e0 0 (I e1 0)) (e0 + 1)) (Int32.toNatClampNeg 0) (Int32.toNatClampNeg 0) (Int32.toNatClampNeg 6))) (e0 + 2) (va_cpy ((uI (pI I e0 0 (I e1 0)) (e0 + 1) (va_cpy ((pI I e0 0 (I e1 0)) (e1 + 1)) ((pI I e0 0 (I e1 0)) (e0 + 1)) (Int32.toNatClampNeg 0) (Int32.toNatClampNeg 0) (Int32.toNatClampNeg 6))) (e1 + 2)) ((uI (pI I e0 0 (I e1 0)) (e0 + 1) (va_cpy ((pI I e0 0 (I e1 0)) (e1 + 1)) ((pI I e0 0 (I e1 0)) (e0 + 1)) (Int32.toNatClampNeg 0) (Int32.toNatClampNeg 0) (Int32.toNatClampNeg 6))) (e0 + 2)) (Int32.toNatClampNeg 0) (Int32.toNatClampNeg 0) (Int32.toNatClampNeg 6))) (e1 + 3)) ((uI (uI (pI I e0 0 (I e1 0)) (e0 + 1) (va_cpy ((pI I e0 0 (I e1 0)) (e1 + 1)) ((pI I e0 0 (I e1 0)) (e0 + 1)) (Int32.toNatClampNeg 0) (Int32.toNatClampNeg 0) (Int32.toNatClampNeg 6))) (e0 + 2) (va_cpy ((uI (pI I e0 0 (I e1 0)) (e0 + 1) (va_cpy ((pI I e0 0 (I e1 0)) (e1 + 1)) ((pI I e0 0 (I e1 0)) (e0 + 1)) (Int32.toNatClampNeg 0) (Int32.toNatClampNeg 0) (Int32.toNatClampNeg 6))) (e1 + 2)) ((uI (pI I e0 0 (I e1 0)) (e0 + 1) (va_cpy ((pI I e0 0 (I e1 0)) (e1 + 1)) ((pI I e0 0 (I e1 0)) (e0 + 1)) (Int32.toNatClampNeg 0) (Int32.toNatClampNeg 0) (Int32.toNatClampNeg 6))) (e0 + 2)) (Int32.toNatClampNeg 0) (Int32.toNatClampNeg 0) (Int32.toNatClampNeg 6))) (e0 + 3)) (Int32.toNatClampNeg 0) (Int32.toNatClampNeg 0) (Int32.toNatClampNeg 6))) (e0 + 4)) (Int32.toNatClampNeg 0) (Int32.toNatClampNeg 0) (Int32.toNatClampNeg 6))), J)
-- X1_isOfKind
def BX1_isOfKind_34   (s0 : Int32) (I : aI) (J : aJ) : Option (RT Int32) := gd (decide (s0 = 0 ∨ s0 = 1)) (some (s0, I, J))
def BX1_isOfKind_29    (I : aI) (J : aJ) : Option (RT Int32) := BX1_isOfKind_34   1 I J
def BX1_isOfKind_33    (I : aI) (J : aJ) : Option (RT Int32) := BX1_isOfKind_34   0 I J
def fX1_isOfKind (e0 : Nat) (x1 : Int32) (x2 : Int32) (I : aI) (J : aJ) : Option (RT Int32) := if x2 = 0 then BX1_isOfKind_29    I J else gd (inb x1 6) (if (I (e0 + 2) (Int32.toNatClampNeg x1)) = x2 then BX1_isOfKind_29    I J else if x2 = 1 then if (I (e0 + 2) (Int32.toNatClampNeg x1)) = 4 then BX1_isOfKind_29    I J else BX1_isOfKind_33    I J else BX1_isOfKind_33    I J)
-- X3_personStart
def fX3_personStart (x1 : Int32) (I : aI) (J : aJ) : Option (RT Int32) := some (((I 1 4) + (5 * x1)), I, J)
-- J0_isLatin1_aae02
def BJ0_isLatin1_aae02_18   (s0 : Int32) (I : aI) (J : aJ) : Option (RT Int32) := gd (decide (s0 = 0 ∨ s0 = 1)) (some (s0, I, J))
def BJ0_isLatin1_aae02_17    (I : aI) (J : aJ) : Option (RT Int32) := BJ0_isLatin1_aae02_18   0 I J
def fJ0_isLatin1_aae02  (I : aI) (J : aJ) : Option (RT Int32) := if (1 : Int32) = 0 then BJ0_isLatin1_aae02_17    I J else if (0 : Int32) = 0 then BJ0_isLatin1_aae02_18   1 I J else BJ0_isLatin1_aae02_17    I J
-- J0_coder_7d493
def BJ0_coder_7d493_14   (s0 : Int32) (I : aI) (J : aJ) : Option (RT Int32) := gd (decide (s0 = 0 ∨ s0 = 1)) (some (s0, I, J))
def fJ0_coder_7d493  (I : aI) (J : aJ) : Option (RT Int32) := if (1 : Int32) = 0 then BJ0_coder_7d493_14   1 I J else BJ0_coder_7d493_14   0 I J
-- J0_length_8abf5
def fJ0_length_8abf5  (I : aI) (J : aJ) : Option (RT Int32) := bnd (fJ0_coder_7d493   I J) fun r1 I1 J1 => some ((5 >>> (r1 &&& 31)), I1, J1)
-- J1_canEncode_9a6ad
def BJ1_canEncode_9a6ad_16   (s0 : Int32) (I : aI) (J : aJ) : Option (RT Int32) := gd (decide (s0 = 0 ∨ s0 = 1)) (some (s0, I, J))
def BJ1_canEncode_9a6ad_15    (I : aI) (J : aJ) : Option (RT Int32) := BJ1_canEncode_9a6ad_16   0 I J
def fJ1_canEncode_9a6ad (x0 : Int32) (I : aI) (J : aJ) : Option (RT Int32) := if x0 < 0 then BJ1_canEncode_9a6ad_15    I J else if 255 < x0 then BJ1_canEncode_9a6ad_15    I J else BJ1_canEncode_9a6ad_16   1 I J
-- J1_indexOfChar_4cfef
def HJ1_indexOfChar_4cfef_7  (k7 : Int32 → Int32 → Int32 → aI → aJ → Option (RT Int32)) (x3 : Int32) (x4 : Int32) (x5 : Int32) (I : aI) (J : aJ) : Option (RT Int32) := if x3 ≤ x5 then some ((-1), I, J) else gd (inb x5 5) (if (ltF (Int32.toNatClampNeg x5)) = x4 then some (x5, I, J) else k7 x3 x4 (x5 + 1) I J)
def LJ1_indexOfChar_4cfef_7   : Nat → Int32 → Int32 → Int32 → aI → aJ → Option (RT Int32)
  | 0, _, _, _, _, _ => none
  | n + 1, x3, x4, x5, I, J => HJ1_indexOfChar_4cfef_7   (LJ1_indexOfChar_4cfef_7   n) x3 x4 x5 I J
def fJ1_indexOfChar_4cfef (x1 : Int32) (x2 : Int32) (x3 : Int32) (I : aI) (J : aJ) : Option (RT Int32) := LJ1_indexOfChar_4cfef_7   128 x3 ((Int32.toInt8 x1).toInt32) x2 I J
-- J1_indexOf_4cfef
def fJ1_indexOf_4cfef (x1 : Int32) (x2 : Int32) (x3 : Int32) (I : aI) (J : aJ) : Option (RT Int32) := bnd (fJ1_canEncode_9a6ad  x1 I J) fun r1 I1 J1 => if r1 = 0 then some ((-1), I1, J1) else if (if x2 < 0 then 0 else x2) < (if 5 < x3 then 5 else x3) then bnd (fJ1_indexOfChar_4cfef  x1 (if x2 < 0 then 0 else x2) (if 5 < x3 then 5 else x3) I1 J1) fun r4 I4 J4 => some (r4, I4, J4) else some ((-1), I1, J1)
-- J0_indexOf_7cf53
def fJ0_indexOf_7cf53 (x1 : Int32) (x2 : Int32) (I : aI) (J : aJ) : Option (RT Int32) := bnd (fJ0_isLatin1_aae02   I J) fun r1 I1 J1 => if r1 = 0 then none else bnd (fJ0_length_8abf5   I1 J1) fun r3 I3 J3 => bnd (fJ1_indexOf_4cfef  x1 x2 r3 I3 J3) fun r4 I4 J4 => some (r4, I4, J4)
-- J0_indexOf_0f7a4
def fJ0_indexOf_0f7a4 (x1 : Int32) (I : aI) (J : aJ) : Option (RT Int32) := bnd (fJ0_indexOf_7cf53  x1 0 I J) fun r1 I1 J1 => some (r1, I1, J1)
-- X3_kindAt
def BX3_kindAt_28   (s0 : Int32) (I : aI) (J : aJ) : Option (RT Int32) := some (s0, I, J)
def BX3_kindAt_27    (I : aI) (J : aJ) : Option (RT Int32) := BX3_kindAt_28   (-1) I J
def fX3_kindAt (x1 : Int32) (I : aI) (J : aJ) : Option (RT Int32) := if x1 < 0 then BX3_kindAt_27    I J else if (I 1 1) ≤ x1 then BX3_kindAt_27    I J else gd (inb x1 60) (bnd (fJ0_indexOf_0f7a4  ((Int32.toUInt32 (I 2 (Int32.toNatClampNeg x1)) % 65536).toInt32) I J) fun r4 I4 J4 => BX3_kindAt_28   r4 I4 J4)
-- X3_digitAt
def BX3_digitAt_25   (s0 : Int32) (I : aI) (J : aJ) : Option (RT Int32) := some (s0, I, J)
def BX3_digitAt_24    (I : aI) (J : aJ) : Option (RT Int32) := BX3_digitAt_25   0 I J
def fX3_digitAt (x1 : Int32) (I : aI) (J : aJ) : Option (RT Int32) := if x1 < 0 then BX3_digitAt_24    I J else if (I 1 1) ≤ x1 then BX3_digitAt_24    I J else gd (inb x1 60) (BX3_digitAt_25   ((I 2 (Int32.toNatClampNeg x1)) - 48) I J)
-- X1_settle
def HX1_settle_10  (k10 : Nat → Int32 → aI → aJ → Option (RT Unit)) (e0 : Nat) (x2 : Int32) (I : aI) (J : aJ) : Option (RT Unit) := if (I e0 0) ≤ x2 then some ((), I, J) else bnd (fX3_personStart  x2 I J) fun r2 I2 J2 => bnd (fX3_kindAt  r2 I2 J2) fun r3 I3 J3 => gd (inb x2 6) (bnd (fX3_digitAt  (r2 + 1) (pI I3 (e0 + 2) (Int32.toNatClampNeg x2) r3) J3) fun r5 I5 J5 => bnd (fX3_digitAt  (r2 + 2) (pI I5 (e0 + 1) (Int32.toNatClampNeg x2) r5) J5) fun r6 I6 J6 => bnd (fX3_digitAt  (r2 + 3) (pI I6 (e0 + 3) (Int32.toNatClampNeg x2) r6) J6) fun r7 I7 J7 => k10 e0 (x2 + 1) (pI I7 (e0 + 4) (Int32.toNatClampNeg x2) r7) J7)
def LX1_settle_10   : Nat → Nat → Int32 → aI → aJ → Option (RT Unit)
  | 0, _, _, _, _ => none
  | n + 1, e0, x2, I, J => HX1_settle_10   (LX1_settle_10   n) e0 x2 I J
def fX1_settle (e0 : Nat) (I : aI) (J : aJ) : Option (RT Unit) := LX1_settle_10   128 e0 0 (pI I e0 0 (I 1 3)) J
-- X1_whoLivesAt
def BX1_whoLivesAt_28  (k4 : Nat → Int32 → Int32 → Int32 → aI → aJ → Option (RT Int32)) (e0 : Nat) (x1 : Int32) (x2 : Int32) (x3 : Int32) (I : aI) (J : aJ) : Option (RT Int32) := k4 e0 x1 x2 (x3 + 1) I J
def HX1_whoLivesAt_4  (k4 : Nat → Int32 → Int32 → Int32 → aI → aJ → Option (RT Int32)) (e0 : Nat) (x1 : Int32) (x2 : Int32) (x3 : Int32) (I : aI) (J : aJ) : Option (RT Int32) := if (I e0 0) ≤ x3 then some (x2, I, J) else gd (inb x3 6) (if (I (e0 + 1) (Int32.toNatClampNeg x3)) = x1 then BX1_whoLivesAt_28  k4 e0 x1 (x2 ||| (1 <<< (x3 &&& 31))) x3 I J else BX1_whoLivesAt_28  k4 e0 x1 x2 x3 I J)
def LX1_whoLivesAt_4   : Nat → Nat → Int32 → Int32 → Int32 → aI → aJ → Option (RT Int32)
  | 0, _, _, _, _, _, _ => none
  | n + 1, e0, x1, x2, x3, I, J => HX1_whoLivesAt_4   (LX1_whoLivesAt_4   n) e0 x1 x2 x3 I J
def fX1_whoLivesAt (e0 : Nat) (x1 : Int32) (I : aI) (J : aJ) : Option (RT Int32) := LX1_whoLivesAt_4   128 e0 x1 0 0 I J
-- X2_copy
def HX2_copy_10  (k10 : Nat → Nat → Int32 → aI → aJ → Option (RT Unit)) (e0 : Nat) (e1 : Nat) (x2 : Int32) (I : aI) (J : aJ) : Option (RT Unit) := if 6 ≤ x2 then some ((), I, J) else gd (inb x2 6) (k10 e0 e1 (x2 + 1) (pI (pI I (e0 + 1) (Int32.toNatClampNeg x2) (I (e1 + 1) (Int32.toNatClampNeg x2))) (e0 + 2) (Int32.toNatClampNeg x2) (vp_nar .boolean ((pI I (e0 + 1) (Int32.toNatClampNeg x2) (I (e1 + 1) (Int32.toNatClampNeg x2))) (e1 + 2) (Int32.toNatClampNeg x2)))) J)
def LX2_copy_10   : Nat → Nat → Nat → Int32 → aI → aJ → Option (RT Unit)
  | 0, _, _, _, _, _ => none
  | n + 1, e0, e1, x2, I, J => HX2_copy_10   (LX2_copy_10   n) e0 e1 x2 I J
def fX2_copy (e0 : Nat) (e1 : Nat) (I : aI) (J : aJ) : Option (RT Unit) := LX2_copy_10   128 e0 e1 0 (pI I e0 0 (I e1 0)) J
-- X7_isWithin
def BX7_isWithin_15   (s0 : Int32) (I : aI) (J : aJ) : Option (RT Int32) := gd (decide (s0 = 0 ∨ s0 = 1)) (some (s0, I, J))
def BX7_isWithin_14    (I : aI) (J : aJ) : Option (RT Int32) := BX7_isWithin_15   0 I J
def fX7_isWithin (x0 : Int32) (x1 : Int32) (x2 : Int32) (I : aI) (J : aJ) : Option (RT Int32) := if x0 < x1 then BX7_isWithin_14    I J else if x2 < x0 then BX7_isWithin_14    I J else BX7_isWithin_15   1 I J
-- X3_isCornerAt
def fX3_isCornerAt (x1 : Int32) (I : aI) (J : aJ) : Option (RT Int32) := bnd (fX3_digitAt  x1 I J) fun r1 I1 J1 => bnd (fX3_digitAt  0 I1 J1) fun r2 I2 J2 => bnd (fX7_isWithin  r1 0 (r2 - 1) I2 J2) fun r3 I3 J3 => gd (decide (r3 = 0 ∨ r3 = 1)) (some (r3, I3, J3))
-- X3_takesHead
def BX3_takesHead_62   (s0 : Int32) (I : aI) (J : aJ) : Option (RT Int32) := gd (decide (s0 = 0 ∨ s0 = 1)) (some (s0, I, J))
def fX3_takesHead (x1 : Int32) (I : aI) (J : aJ) : Option (RT Int32) := if x1 = 0 then bnd (fX3_digitAt  0 I J) fun r2 I2 J2 => bnd (fX7_isWithin  r2 2 6 I2 J2) fun r3 I3 J3 => gd (decide (r3 = 0 ∨ r3 = 1)) (some (r3, I3, J3)) else if x1 = 1 then bnd (fX3_isCornerAt  1 I J) fun r6 I6 J6 => gd (decide (r6 = 0 ∨ r6 = 1)) (some (r6, I6, J6)) else gd (inb x1 60) (if (I 2 (Int32.toNatClampNeg x1)) = 59 then BX3_takesHead_62   1 I J else BX3_takesHead_62   0 I J)
-- X3_takesRoads
def BX3_takesRoads_107   (s0 : Int32) (I : aI) (J : aJ) : Option (RT Int32) := gd (decide (s0 = 0 ∨ s0 = 1)) (some (s0, I, J))
def BX3_takesRoads_106    (I : aI) (J : aJ) : Option (RT Int32) := BX3_takesRoads_107   0 I J
def BX3_takesRoads_51   (s0 : Int32) (I : aI) (J : aJ) : Option (RT Int32) := gd (decide (s0 = 0 ∨ s0 = 1)) (some (s0, I, J))
def BX3_takesRoads_50    (I : aI) (J : aJ) : Option (RT Int32) := BX3_takesRoads_51   0 I J
def fX3_takesRoads (x1 : Int32) (I : aI) (J : aJ) : Option (RT Int32) := if ((x1 - 3) - (x1 - 3) / 3 * 3) = 0 then bnd (fX3_isCornerAt  x1 I J) fun r12 I12 J12 => gd (decide (r12 = 0 ∨ r12 = 1)) (some (r12, I12, J12)) else if ((x1 - 3) - (x1 - 3) / 3 * 3) = 1 then bnd (fX3_isCornerAt  x1 I J) fun r7 I7 J7 => if r7 = 0 then BX3_takesRoads_50    I7 J7 else gd (inb x1 60) (gd (inb (x1 - 1) 60) (if (I7 2 (Int32.toNatClampNeg x1)) = (I7 2 (Int32.toNatClampNeg (x1 - 1))) then BX3_takesRoads_50    I7 J7 else BX3_takesRoads_51   1 I7 J7)) else gd (inb x1 60) (if ((pI I 1 2 ((I 1 2) + 1)) 2 (Int32.toNatClampNeg x1)) = 59 then some (1, (pI (pI I 1 2 ((I 1 2) + 1)) 1 4 (x1 + 1)), J) else if ((pI I 1 2 ((I 1 2) + 1)) 2 (Int32.toNatClampNeg x1)) = 44 then if 8 ≤ ((pI I 1 2 ((I 1 2) + 1)) 1 2) then BX3_takesRoads_106    (pI I 1 2 ((I 1 2) + 1)) J else BX3_takesRoads_107   1 (pI I 1 2 ((I 1 2) + 1)) J else BX3_takesRoads_106    (pI I 1 2 ((I 1 2) + 1)) J)
-- X3_isDigitAt
def fX3_isDigitAt (x1 : Int32) (I : aI) (J : aJ) : Option (RT Int32) := bnd (fX3_digitAt  x1 I J) fun r1 I1 J1 => bnd (fX7_isWithin  r1 0 9 I1 J1) fun r2 I2 J2 => gd (decide (r2 = 0 ∨ r2 = 1)) (some (r2, I2, J2))
-- X3_takesPeople
def BX3_takesPeople_54   (s0 : Int32) (I : aI) (J : aJ) : Option (RT Int32) := gd (decide (s0 = 0 ∨ s0 = 1)) (some (s0, I, J))
def BX3_takesPeople_108   (s0 : Int32) (I : aI) (J : aJ) : Option (RT Int32) := gd (decide (s0 = 0 ∨ s0 = 1)) (some (s0, I, J))
def BX3_takesPeople_107    (I : aI) (J : aJ) : Option (RT Int32) := BX3_takesPeople_108   0 I J
def fX3_takesPeople (x1 : Int32) (I : aI) (J : aJ) : Option (RT Int32) := if ((x1 - (I 1 4)) - (x1 - (I 1 4)) / 5 * 5) = 0 then bnd (fX3_kindAt  x1 I J) fun r2 I2 J2 => if r2 = (-1) then BX3_takesPeople_54   0 I2 J2 else BX3_takesPeople_54   1 I2 J2 else if ((x1 - (I 1 4)) - (x1 - (I 1 4)) / 5 * 5) = 1 then bnd (fX3_isCornerAt  x1 I J) fun r5 I5 J5 => gd (decide (r5 = 0 ∨ r5 = 1)) (some (r5, I5, J5)) else if ((x1 - (I 1 4)) - (x1 - (I 1 4)) / 5 * 5) = 2 then bnd (fX3_isDigitAt  x1 I J) fun r8 I8 J8 => gd (decide (r8 = 0 ∨ r8 = 1)) (some (r8, I8, J8)) else if ((x1 - (I 1 4)) - (x1 - (I 1 4)) / 5 * 5) = 3 then bnd (fX3_isDigitAt  x1 (pI I 1 3 ((I 1 3) + 1)) J) fun r11 I11 J11 => gd (decide (r11 = 0 ∨ r11 = 1)) (some (r11, I11, J11)) else gd (inb x1 60) (if (I 2 (Int32.toNatClampNeg x1)) = 44 then if 6 ≤ (I 1 3) then BX3_takesPeople_107    I J else BX3_takesPeople_108   1 I J else BX3_takesPeople_107    I J)
-- X3_takes
def BX3_takes_32   (s0 : Int32) (I : aI) (J : aJ) : Option (RT Int32) := gd (decide (s0 = 0 ∨ s0 = 1)) (some (s0, I, J))
def fX3_takes (x1 : Int32) (I : aI) (J : aJ) : Option (RT Int32) := if 3 ≤ x1 then if (I 1 4) = (-1) then bnd (fX3_takesRoads  x1 I J) fun r4 I4 J4 => BX3_takes_32   r4 I4 J4 else bnd (fX3_takesPeople  x1 I J) fun r3 I3 J3 => BX3_takes_32   r3 I3 J3 else bnd (fX3_takesHead  x1 I J) fun r5 I5 J5 => gd (decide (r5 = 0 ∨ r5 = 1)) (some (r5, I5, J5))
-- X3_firstFault
def HX3_firstFault_17  (k17 : Int32 → aI → aJ → Option (RT Int32)) (x1 : Int32) (I : aI) (J : aJ) : Option (RT Int32) := if (I 1 1) ≤ x1 then some ((I 1 1), I, J) else bnd (fX3_takes  x1 I J) fun r2 I2 J2 => if r2 = 0 then some (x1, I2, J2) else k17 (x1 + 1) I2 J2
def LX3_firstFault_17   : Nat → Int32 → aI → aJ → Option (RT Int32)
  | 0, _, _, _ => none
  | n + 1, x1, I, J => HX3_firstFault_17   (LX3_firstFault_17   n) x1 I J
def fX3_firstFault  (I : aI) (J : aJ) : Option (RT Int32) := LX3_firstFault_17   128 0 (pI (pI (pI I 1 2 0) 1 3 0) 1 4 (-1)) J
-- X3_isSuburb
def BX3_isSuburb_41   (s0 : Int32) (I : aI) (J : aJ) : Option (RT Int32) := gd (decide (s0 = 0 ∨ s0 = 1)) (some (s0, I, J))
def BX3_isSuburb_40    (I : aI) (J : aJ) : Option (RT Int32) := BX3_isSuburb_41   0 I J
def fX3_isSuburb  (I : aI) (J : aJ) : Option (RT Int32) := bnd (fX3_firstFault   I J) fun r1 I1 J1 => if r1 = (I1 1 1) then if (I1 1 3) < 2 then BX3_isSuburb_40    I1 J1 else bnd (fX3_personStart  (I1 1 3) I1 J1) fun r4 I4 J4 => if (I1 1 1) = (r4 - 1) then BX3_isSuburb_41   1 I4 J4 else BX3_isSuburb_40    I4 J4 else BX3_isSuburb_40    I1 J1
-- X3_roadStart
def fX3_roadStart (x1 : Int32) (I : aI) (J : aJ) : Option (RT Int32) := some ((3 + (3 * x1)), I, J)
-- X4_judge
def BX4_judge_68    (I : aI) (J : aJ) : Option (RT Unit) := some ((), I, J)
def BX4_judge_44   (x2 : Int32) (x3 : Int32) (I : aI) (J : aJ) : Option (RT Unit) := BX4_judge_68    (uI (pI (pI I 44 1 x2) 44 2 x3) 45 (va_cpy ((pI (pI I 44 1 x2) 44 2 x3) 46) ((pI (pI I 44 1 x2) 44 2 x3) 45) (Int32.toNatClampNeg 0) (Int32.toNatClampNeg 0) (Int32.toNatClampNeg 5))) J
def fX4_judge (e1 : Nat) (I : aI) (J : aJ) : Option (RT Unit) := bnd (fX0_servedNumber  e1 I J) fun r1 I1 J1 => bnd (fX0_servedNumber  (47 + 1 + 2 * Int32.toNatClampNeg 0) I1 J1) fun r2 I2 J2 => bnd (fX0_countedByUnserved  e1 I2 J2) fun r3 I3 J3 => if (I3 44 1) < (r1 - r2) then BX4_judge_44   (r1 - r2) r3 I3 J3 else if (r1 - r2) = (I3 44 1) then if r3 ≤ (I3 44 2) then BX4_judge_68    I3 J3 else BX4_judge_44   (r1 - r2) r3 I3 J3 else BX4_judge_68    I3 J3
-- X4_extend
def BX4_extend_11 (fX : Nat → Int32 → Int32 → aI → aJ → Option (RT Unit))  (x3 : Int32) (I : aI) (J : aJ) : Option (RT Unit) := gd (inb x3 6) (bnd (fX4_judge  (47 + 1 + 2 * Int32.toNatClampNeg x3) I J) fun r6 I6 J6 => some ((), I6, J6))
def BX4_extend_105 (fX : Nat → Int32 → Int32 → aI → aJ → Option (RT Unit)) (k43 : Nat → Int32 → Int32 → Nat → Nat → Int32 → aI → aJ → Option (RT Unit)) (e2 : Nat) (x3 : Int32) (x4 : Int32) (e5 : Nat) (e6 : Nat) (x7 : Int32) (I : aI) (J : aJ) : Option (RT Unit) := k43 e2 x3 x4 e5 e6 (x7 + 1) I J
def HX4_extend_43 (fX : Nat → Int32 → Int32 → aI → aJ → Option (RT Unit)) (k43 : Nat → Int32 → Int32 → Nat → Nat → Int32 → aI → aJ → Option (RT Unit)) (e2 : Nat) (x3 : Int32) (x4 : Int32) (e5 : Nat) (e6 : Nat) (x7 : Int32) (I : aI) (J : aJ) : Option (RT Unit) := if (I 3 0) ≤ x7 then some ((), I, J) else gd (inb (I e5 0) 6) (bnd (fX7_hasBit  (I 6 (Int32.toNatClampNeg (I e5 0))) x7 I J) fun r9 I9 J9 => if r9 = 0 then BX4_extend_105 fX k43 e2 x3 x4 e5 e6 x7 I9 J9 else gd (inb x3 5) (bnd (fX0_copy  e6 e5 (pI I9 46 (Int32.toNatClampNeg x3) x7) J9) fun r12 I12 J12 => bnd (fX0_pass  e6 x7 e2 I12 J12) fun r13 I13 J13 => bnd (fX  e2 (x3 + 1) x4 I13 J13) fun r14 I14 J14 => BX4_extend_105 fX k43 e2 x3 x4 e5 e6 x7 I14 J14))
def LX4_extend_43 (fX : Nat → Int32 → Int32 → aI → aJ → Option (RT Unit))  : Nat → Nat → Int32 → Int32 → Nat → Nat → Int32 → aI → aJ → Option (RT Unit)
  | 0, _, _, _, _, _, _, _, _ => none
  | n + 1, e2, x3, x4, e5, e6, x7, I, J => HX4_extend_43 fX  (LX4_extend_43 fX  n) e2 x3 x4 e5 e6 x7 I J
def gX4_extend (fX : Nat → Int32 → Int32 → aI → aJ → Option (RT Unit)) (e2 : Nat) (x3 : Int32) (x4 : Int32) (I : aI) (J : aJ) : Option (RT Unit) := if x4 ≤ x3 then BX4_extend_11 fX  x3 I J else if x3 < 5 then gd (inb x3 6) (gd (inb (x3 + 1) 6) (LX4_extend_43 fX  128 e2 x3 x4 (47 + 1 + 2 * Int32.toNatClampNeg x3) (47 + 1 + 2 * Int32.toNatClampNeg (x3 + 1)) 0 I J)) else BX4_extend_11 fX  x3 I J
def fX4_extend : Nat → Nat → Int32 → Int32 → aI → aJ → Option (RT Unit)
  | 0, _, _, _, _, _ => none
  | n + 1, e2, x3, x4, I, J => gX4_extend (fX4_extend n) e2 x3 x4 I J
-- X4_run
def fX4_run (e2 : Nat) (e3 : Nat) (x4 : Int32) (I : aI) (J : aJ) : Option (RT Unit) := bnd (fX0_copy  (47 + 1 + 2 * Int32.toNatClampNeg 0) e3 (pI (pI I 44 1 (-1)) 44 2 (-1)) J) fun r1 I1 J1 => bnd (fX4_extend 7 e2 0 x4 I1 J1) fun r2 I2 J2 => some ((), I2, J2)
-- X5_sharedPart
def BX5_sharedPart_49   (x2 : Int64) (I : aI) (J : aJ) : Option (RT Int64) := some ((if 1 < x2 then x2 else 1), I, J)
def HX5_sharedPart_16  (k16 : Int64 → Int64 → Int32 → aI → aJ → Option (RT Int64)) (x2 : Int64) (x4 : Int64) (x6 : Int32) (I : aI) (J : aJ) : Option (RT Int64) := if 100 ≤ x6 then BX5_sharedPart_49   x2 I J else if (lg_cmp x4 0) = 0 then BX5_sharedPart_49   x2 I J else gd (decide (¬ x4 = 0)) (k16 x4 (x2 - x2 / x4 * x4) (x6 + 1) I J)
def LX5_sharedPart_16   : Nat → Int64 → Int64 → Int32 → aI → aJ → Option (RT Int64)
  | 0, _, _, _, _, _ => none
  | n + 1, x2, x4, x6, I, J => HX5_sharedPart_16   (LX5_sharedPart_16   n) x2 x4 x6 I J
def fX5_sharedPart (x1 : Int32) (I : aI) (J : aJ) : Option (RT Int64) := gd (inb x1 6) (LX5_sharedPart_16   128 (J 60 0) (J 61 (Int32.toNatClampNeg x1)) 0 I J)
-- X5_above
def fX5_above (x1 : Int32) (I : aI) (J : aJ) : Option (RT Int32) := gd (inb x1 6) (bnd (fX5_sharedPart  x1 I J) fun r2 I2 J2 => gd (decide (¬ r2 = 0)) (some ((Int64.toInt32 ((J 61 (Int32.toNatClampNeg x1)) / r2)), I2, J2)))
-- X5_below
def fX5_below (x1 : Int32) (I : aI) (J : aJ) : Option (RT Int32) := bnd (fX5_sharedPart  x1 I J) fun r1 I1 J1 => gd (decide (¬ r1 = 0)) (some ((Int64.toInt32 ((J 60 0) / r1)), I1, J1))
-- X5_partPerRoad
def BX5_partPerRoad_28   (s0 : Int64) (I : aI) (J : aJ) : Option (RT Int64) := some (s0, I, J)
def fX5_partPerRoad (x2 : Int32) (I : aI) (J : aJ) : Option (RT Int64) := gd (inb x2 6) (if (I 7 (Int32.toNatClampNeg x2)) ≤ 0 then BX5_partPerRoad_28   0 I J else gd (decide (¬ (Int32.toInt64 (I 7 (Int32.toNatClampNeg x2))) = 0)) (BX5_partPerRoad_28   ((J 61 (Int32.toNatClampNeg x2)) * (840 / (Int32.toInt64 (I 7 (Int32.toNatClampNeg x2))))) I J))
-- J7_fill_d0a16
def HJ7_fill_d0a16_6  (k6 : Nat → Nat → Int64 → Int32 → Int32 → aI → aJ → Option (RT Unit)) (e0 : Nat) (ne0 : Nat) (x1 : Int64) (x3 : Int32) (x4 : Int32) (I : aI) (J : aJ) : Option (RT Unit) := if x4 ≤ x3 then some ((), I, J) else gd (inb x3 ne0) (k6 e0 ne0 x1 (x3 + 1) x4 I (pJ J e0 (Int32.toNatClampNeg x3) x1))
def LJ7_fill_d0a16_6   : Nat → Nat → Nat → Int64 → Int32 → Int32 → aI → aJ → Option (RT Unit)
  | 0, _, _, _, _, _, _, _ => none
  | n + 1, e0, ne0, x1, x3, x4, I, J => HJ7_fill_d0a16_6   (LJ7_fill_d0a16_6   n) e0 ne0 x1 x3 x4 I J
def fJ7_fill_d0a16 (e0 n0 : Nat) (x1 : Int64) (I : aI) (J : aJ) : Option (RT Unit) := LJ7_fill_d0a16_6   128 e0 n0 x1 0 (nI n0) I J
-- X5_scatter
def HX5_scatter_47  (k47 : Int32 → aI → aJ → Option (RT Unit)) (x2 : Int32) (I : aI) (J : aJ) : Option (RT Unit) := if (I 3 1) ≤ x2 then gd (cpb 0 0 (I 3 0) 6 6) (some ((), I, (uJ J 61 (va_cpy (J 62) (J 61) (Int32.toNatClampNeg 0) (Int32.toNatClampNeg 0) (Int32.toNatClampNeg (I 3 0)))))) else gd (inb x2 8) (gd (inb (I 5 (Int32.toNatClampNeg x2)) 6) (bnd (fX5_partPerRoad  (I 4 (Int32.toNatClampNeg x2)) I J) fun r8 I8 J8 => gd (inb (I 4 (Int32.toNatClampNeg x2)) 6) (bnd (fX5_partPerRoad  (I 5 (Int32.toNatClampNeg x2)) I8 (pJ J8 62 (Int32.toNatClampNeg (I 5 (Int32.toNatClampNeg x2))) ((J 62 (Int32.toNatClampNeg (I 5 (Int32.toNatClampNeg x2)))) + r8))) fun r10 I10 J10 => k47 (x2 + 1) I10 (pJ J10 62 (Int32.toNatClampNeg (I 4 (Int32.toNatClampNeg x2))) (((pJ J8 62 (Int32.toNatClampNeg (I 5 (Int32.toNatClampNeg x2))) ((J 62 (Int32.toNatClampNeg (I 5 (Int32.toNatClampNeg x2)))) + r8)) 62 (Int32.toNatClampNeg (I 4 (Int32.toNatClampNeg x2)))) + r10)))))
def LX5_scatter_47   : Nat → Int32 → aI → aJ → Option (RT Unit)
  | 0, _, _, _ => none
  | n + 1, x2, I, J => HX5_scatter_47   (LX5_scatter_47   n) x2 I J
def BX5_scatter_38  (k2 : Int32 → aI → aJ → Option (RT Unit)) (x2 : Int32) (s0 : Int64) (s1 : Int32) (I : aI) (J : aJ) : Option (RT Unit) := gd (inb s1 6) (k2 (x2 + 1) I (pJ J 62 (Int32.toNatClampNeg s1) s0))
def HX5_scatter_2  (k2 : Int32 → aI → aJ → Option (RT Unit)) (x2 : Int32) (I : aI) (J : aJ) : Option (RT Unit) := if (I 3 0) ≤ x2 then LX5_scatter_47   128 0 I J else gd (inb x2 6) (if (I 7 (Int32.toNatClampNeg x2)) = 0 then BX5_scatter_38  k2 x2 ((J 61 (Int32.toNatClampNeg x2)) * 840) x2 I J else BX5_scatter_38  k2 x2 0 x2 I J)
def LX5_scatter_2   : Nat → Int32 → aI → aJ → Option (RT Unit)
  | 0, _, _, _ => none
  | n + 1, x2, I, J => HX5_scatter_2   (LX5_scatter_2   n) x2 I J
def fX5_scatter  (I : aI) (J : aJ) : Option (RT Unit) := LX5_scatter_2   128 0 I J
-- X5_run
def HX5_run_23  (k23 : Int32 → Int32 → aI → aJ → Option (RT Unit)) (x3 : Int32) (x4 : Int32) (I : aI) (J : aJ) : Option (RT Unit) := if x3 ≤ x4 then some ((), I, J) else bnd (fX5_scatter   I J) fun r4 I4 J4 => k23 x3 (x4 + 1) I4 (pJ J4 60 0 ((J4 60 0) * 840))
def LX5_run_23   : Nat → Int32 → Int32 → aI → aJ → Option (RT Unit)
  | 0, _, _, _, _ => none
  | n + 1, x3, x4, I, J => HX5_run_23   (LX5_run_23   n) x3 x4 I J
def fX5_run (x2 : Int32) (x3 : Int32) (I : aI) (J : aJ) : Option (RT Unit) := bnd (fJ7_fill_d0a16  61 6 0 I J) fun r1 I1 J1 => gd (inb x2 6) (LX5_run_23   128 x3 0 I1 (pJ (pJ J1 61 (Int32.toNatClampNeg x2) 1) 60 0 1))
-- X6_alongRoad
def BX6_alongRoad_37   (s0 : Int32) (I : aI) (J : aJ) : Option (RT Int32) := some (s0, I, J)
def fX6_alongRoad (x1 : Int32) (x2 : Int32) (I : aI) (J : aJ) : Option (RT Int32) := gd (inb x1 8) (if (I 4 (Int32.toNatClampNeg x1)) = x2 then some ((I 5 (Int32.toNatClampNeg x1)), I, J) else if (I 5 (Int32.toNatClampNeg x1)) = x2 then BX6_alongRoad_37   (I 4 (Int32.toNatClampNeg x1)) I J else BX6_alongRoad_37   x2 I J)
-- X6_layRoad
def fX6_layRoad (x1 : Int32) (x2 : Int32) (x3 : Int32) (I : aI) (J : aJ) : Option (RT Unit) := gd (inb x1 8) (gd (inb x2 6) (gd (inb x3 6) (some ((), (pI (pI (pI (pI (pI (pI I 4 (Int32.toNatClampNeg x1) x2) 5 (Int32.toNatClampNeg x1) x3) 6 (Int32.toNatClampNeg x2) (((pI (pI I 4 (Int32.toNatClampNeg x1) x2) 5 (Int32.toNatClampNeg x1) x3) 6 (Int32.toNatClampNeg x2)) ||| (1 <<< (x3 &&& 31)))) 6 (Int32.toNatClampNeg x3) (((pI (pI (pI I 4 (Int32.toNatClampNeg x1) x2) 5 (Int32.toNatClampNeg x1) x3) 6 (Int32.toNatClampNeg x2) (((pI (pI I 4 (Int32.toNatClampNeg x1) x2) 5 (Int32.toNatClampNeg x1) x3) 6 (Int32.toNatClampNeg x2)) ||| (1 <<< (x3 &&& 31)))) 6 (Int32.toNatClampNeg x3)) ||| (1 <<< (x2 &&& 31)))) 7 (Int32.toNatClampNeg x2) (((pI (pI (pI (pI I 4 (Int32.toNatClampNeg x1) x2) 5 (Int32.toNatClampNeg x1) x3) 6 (Int32.toNatClampNeg x2) (((pI (pI I 4 (Int32.toNatClampNeg x1) x2) 5 (Int32.toNatClampNeg x1) x3) 6 (Int32.toNatClampNeg x2)) ||| (1 <<< (x3 &&& 31)))) 6 (Int32.toNatClampNeg x3) (((pI (pI (pI I 4 (Int32.toNatClampNeg x1) x2) 5 (Int32.toNatClampNeg x1) x3) 6 (Int32.toNatClampNeg x2) (((pI (pI I 4 (Int32.toNatClampNeg x1) x2) 5 (Int32.toNatClampNeg x1) x3) 6 (Int32.toNatClampNeg x2)) ||| (1 <<< (x3 &&& 31)))) 6 (Int32.toNatClampNeg x3)) ||| (1 <<< (x2 &&& 31)))) 7 (Int32.toNatClampNeg x2)) + 1)) 7 (Int32.toNatClampNeg x3) (((pI (pI (pI (pI (pI I 4 (Int32.toNatClampNeg x1) x2) 5 (Int32.toNatClampNeg x1) x3) 6 (Int32.toNatClampNeg x2) (((pI (pI I 4 (Int32.toNatClampNeg x1) x2) 5 (Int32.toNatClampNeg x1) x3) 6 (Int32.toNatClampNeg x2)) ||| (1 <<< (x3 &&& 31)))) 6 (Int32.toNatClampNeg x3) (((pI (pI (pI I 4 (Int32.toNatClampNeg x1) x2) 5 (Int32.toNatClampNeg x1) x3) 6 (Int32.toNatClampNeg x2) (((pI (pI I 4 (Int32.toNatClampNeg x1) x2) 5 (Int32.toNatClampNeg x1) x3) 6 (Int32.toNatClampNeg x2)) ||| (1 <<< (x3 &&& 31)))) 6 (Int32.toNatClampNeg x3)) ||| (1 <<< (x2 &&& 31)))) 7 (Int32.toNatClampNeg x2) (((pI (pI (pI (pI I 4 (Int32.toNatClampNeg x1) x2) 5 (Int32.toNatClampNeg x1) x3) 6 (Int32.toNatClampNeg x2) (((pI (pI I 4 (Int32.toNatClampNeg x1) x2) 5 (Int32.toNatClampNeg x1) x3) 6 (Int32.toNatClampNeg x2)) ||| (1 <<< (x3 &&& 31)))) 6 (Int32.toNatClampNeg x3) (((pI (pI (pI I 4 (Int32.toNatClampNeg x1) x2) 5 (Int32.toNatClampNeg x1) x3) 6 (Int32.toNatClampNeg x2) (((pI (pI I 4 (Int32.toNatClampNeg x1) x2) 5 (Int32.toNatClampNeg x1) x3) 6 (Int32.toNatClampNeg x2)) ||| (1 <<< (x3 &&& 31)))) 6 (Int32.toNatClampNeg x3)) ||| (1 <<< (x2 &&& 31)))) 7 (Int32.toNatClampNeg x2)) + 1)) 7 (Int32.toNatClampNeg x3)) + 1)), J))))
-- X6_spread
def BX6_spread_29  (k4 : Int32 → Int32 → Int32 → aI → aJ → Option (RT Int32)) (x1 : Int32) (x2 : Int32) (x3 : Int32) (I : aI) (J : aJ) : Option (RT Int32) := k4 x1 x2 (x3 + 1) I J
def HX6_spread_4  (k4 : Int32 → Int32 → Int32 → aI → aJ → Option (RT Int32)) (x1 : Int32) (x2 : Int32) (x3 : Int32) (I : aI) (J : aJ) : Option (RT Int32) := if (I 3 0) ≤ x3 then some (x2, I, J) else bnd (fX7_hasBit  x1 x3 I J) fun r2 I2 J2 => if r2 = 0 then BX6_spread_29  k4 x1 x2 x3 I2 J2 else gd (inb x3 6) (BX6_spread_29  k4 x1 (x2 ||| (I2 6 (Int32.toNatClampNeg x3))) x3 I2 J2)
def LX6_spread_4   : Nat → Int32 → Int32 → Int32 → aI → aJ → Option (RT Int32)
  | 0, _, _, _, _, _ => none
  | n + 1, x1, x2, x3, I, J => HX6_spread_4   (LX6_spread_4   n) x1 x2 x3 I J
def fX6_spread (x1 : Int32) (I : aI) (J : aJ) : Option (RT Int32) := LX6_spread_4   128 x1 0 0 I J
-- X6_measureSteps
def BX6_measureSteps_76  (k25 : Int32 → Int32 → Int32 → aI → aJ → Option (RT Unit)) (k47 : Int32 → Int32 → Int32 → Int32 → Int32 → aI → aJ → Option (RT Unit)) (x1 : Int32) (x2 : Int32) (x3 : Int32) (x4 : Int32) (x5 : Int32) (I : aI) (J : aJ) : Option (RT Unit) := k47 x1 x2 x3 x4 (x5 + 1) I J
def HX6_measureSteps_47  (k25 : Int32 → Int32 → Int32 → aI → aJ → Option (RT Unit)) (k47 : Int32 → Int32 → Int32 → Int32 → Int32 → aI → aJ → Option (RT Unit)) (x1 : Int32) (x2 : Int32) (x3 : Int32) (x4 : Int32) (x5 : Int32) (I : aI) (J : aJ) : Option (RT Unit) := if (I 3 0) ≤ x5 then k25 x1 (x2 ||| x4) (x3 + 1) I J else bnd (fX7_hasBit  x4 x5 I J) fun r6 I6 J6 => if r6 = 0 then BX6_measureSteps_76  k25 k47 x1 x2 x3 x4 x5 I6 J6 else gd (inb x1 6) (gd (inb x5 6) (BX6_measureSteps_76  k25 k47 x1 x2 x3 x4 x5 (pI I6 (8 + 1 + Int32.toNatClampNeg x1) (Int32.toNatClampNeg x5) x3) J6))
def LX6_measureSteps_47  (k25 : Int32 → Int32 → Int32 → aI → aJ → Option (RT Unit)) : Nat → Int32 → Int32 → Int32 → Int32 → Int32 → aI → aJ → Option (RT Unit)
  | 0, _, _, _, _, _, _, _ => none
  | n + 1, x1, x2, x3, x4, x5, I, J => HX6_measureSteps_47  k25 (LX6_measureSteps_47  k25 n) x1 x2 x3 x4 x5 I J
def HX6_measureSteps_25  (k25 : Int32 → Int32 → Int32 → aI → aJ → Option (RT Unit)) (x1 : Int32) (x2 : Int32) (x3 : Int32) (I : aI) (J : aJ) : Option (RT Unit) := if (I 3 0) ≤ x3 then some ((), I, J) else bnd (fX6_spread  x2 I J) fun r4 I4 J4 => LX6_measureSteps_47  k25 128 x1 x2 x3 (r4 &&& (x2 ^^^ (-1))) 0 I4 J4
def LX6_measureSteps_25   : Nat → Int32 → Int32 → Int32 → aI → aJ → Option (RT Unit)
  | 0, _, _, _, _, _ => none
  | n + 1, x1, x2, x3, I, J => HX6_measureSteps_25   (LX6_measureSteps_25   n) x1 x2 x3 I J
def fX6_measureSteps (x1 : Int32) (I : aI) (J : aJ) : Option (RT Unit) := gd (inb x1 6) (bnd (fJ7_fill_53178  (8 + 1 + Int32.toNatClampNeg x1) 6 (-1) I J) fun r2 I2 J2 => LX6_measureSteps_25   128 x1 (1 <<< (x1 &&& 31)) 1 (pI I2 (8 + 1 + Int32.toNatClampNeg x1) (Int32.toNatClampNeg x1) 0) J2)
-- X6_canAnswer
def BX6_canAnswer_51  (k3 : Int32 → Int32 → Int32 → Int32 → aI → aJ → Option (RT Int32)) (x1 : Int32) (x2 : Int32) (x3 : Int32) (x4 : Int32) (I : aI) (J : aJ) : Option (RT Int32) := k3 x1 x2 x3 (x4 + 1) I J
def HX6_canAnswer_3  (k3 : Int32 → Int32 → Int32 → Int32 → aI → aJ → Option (RT Int32)) (x1 : Int32) (x2 : Int32) (x3 : Int32) (x4 : Int32) (I : aI) (J : aJ) : Option (RT Int32) := if (I 3 0) ≤ x4 then some (0, I, J) else gd (inb x1 6) (gd (inb x4 6) (gd (inb x2 6) (bnd (fX7_hasBit  (I 6 (Int32.toNatClampNeg x2)) x4 I J) fun r5 I5 J5 => if r5 = 0 then BX6_canAnswer_51  k3 x1 x2 x3 x4 I5 J5 else if (I (15 + 1 + Int32.toNatClampNeg x1) (Int32.toNatClampNeg x4)) = (-1) then BX6_canAnswer_51  k3 x1 x2 x3 x4 I5 J5 else if x3 ≤ (I (15 + 1 + Int32.toNatClampNeg x1) (Int32.toNatClampNeg x4)) then BX6_canAnswer_51  k3 x1 x2 x3 x4 I5 J5 else some (1, I5, J5))))
def LX6_canAnswer_3   : Nat → Int32 → Int32 → Int32 → Int32 → aI → aJ → Option (RT Int32)
  | 0, _, _, _, _, _, _ => none
  | n + 1, x1, x2, x3, x4, I, J => HX6_canAnswer_3   (LX6_canAnswer_3   n) x1 x2 x3 x4 I J
def fX6_canAnswer (x1 : Int32) (x2 : Int32) (x3 : Int32) (I : aI) (J : aJ) : Option (RT Int32) := LX6_canAnswer_3   128 x1 x2 x3 0 I J
-- X6_isCaught
def BX6_isCaught_39  (k3 : Int32 → Int32 → Int32 → Int32 → aI → aJ → Option (RT Int32)) (x1 : Int32) (x2 : Int32) (x3 : Int32) (x4 : Int32) (I : aI) (J : aJ) : Option (RT Int32) := k3 x1 x2 x3 (x4 + 1) I J
def HX6_isCaught_3  (k3 : Int32 → Int32 → Int32 → Int32 → aI → aJ → Option (RT Int32)) (x1 : Int32) (x2 : Int32) (x3 : Int32) (x4 : Int32) (I : aI) (J : aJ) : Option (RT Int32) := if (I 3 0) ≤ x4 then some (1, I, J) else gd (inb x1 6) (bnd (fX7_hasBit  (I 6 (Int32.toNatClampNeg x1)) x4 I J) fun r3 I3 J3 => if r3 = 0 then BX6_isCaught_39  k3 x1 x2 x3 x4 I3 J3 else bnd (fX6_canAnswer  x4 x2 x3 I3 J3) fun r5 I5 J5 => if r5 = 0 then some (0, I5, J5) else BX6_isCaught_39  k3 x1 x2 x3 x4 I5 J5)
def LX6_isCaught_3   : Nat → Int32 → Int32 → Int32 → Int32 → aI → aJ → Option (RT Int32)
  | 0, _, _, _, _, _, _ => none
  | n + 1, x1, x2, x3, x4, I, J => HX6_isCaught_3   (LX6_isCaught_3   n) x1 x2 x3 x4 I J
def fX6_isCaught (x1 : Int32) (x2 : Int32) (x3 : Int32) (I : aI) (J : aJ) : Option (RT Int32) := LX6_isCaught_3   128 x1 x2 x3 0 I J
-- X6_findCatches
def BX6_findCatches_60  (k4 : Int32 → Int32 → Int32 → aI → aJ → Option (RT Int32)) (k15 : Int32 → Int32 → Int32 → Int32 → aI → aJ → Option (RT Int32)) (x1 : Int32) (x2 : Int32) (x3 : Int32) (x4 : Int32) (I : aI) (J : aJ) : Option (RT Int32) := k15 x1 x2 x3 (x4 + 1) I J
def HX6_findCatches_15  (k4 : Int32 → Int32 → Int32 → aI → aJ → Option (RT Int32)) (k15 : Int32 → Int32 → Int32 → Int32 → aI → aJ → Option (RT Int32)) (x1 : Int32) (x2 : Int32) (x3 : Int32) (x4 : Int32) (I : aI) (J : aJ) : Option (RT Int32) := if (I 3 0) ≤ x4 then k4 x1 x2 (x3 + 1) I J else gd (inb x3 6) (gd (inb x4 6) (if (I (15 + 1 + Int32.toNatClampNeg x3) (Int32.toNatClampNeg x4)) = (-1) then bnd (fX6_isCaught  x3 x4 x1 I J) fun r7 I7 J7 => if r7 = 0 then BX6_findCatches_60  k4 k15 x1 x2 x3 x4 I7 J7 else BX6_findCatches_60  k4 k15 x1 1 x3 x4 (pI I7 (15 + 1 + Int32.toNatClampNeg x3) (Int32.toNatClampNeg x4) x1) J7 else BX6_findCatches_60  k4 k15 x1 x2 x3 x4 I J))
def LX6_findCatches_15  (k4 : Int32 → Int32 → Int32 → aI → aJ → Option (RT Int32)) : Nat → Int32 → Int32 → Int32 → Int32 → aI → aJ → Option (RT Int32)
  | 0, _, _, _, _, _, _ => none
  | n + 1, x1, x2, x3, x4, I, J => HX6_findCatches_15  k4 (LX6_findCatches_15  k4 n) x1 x2 x3 x4 I J
def HX6_findCatches_4  (k4 : Int32 → Int32 → Int32 → aI → aJ → Option (RT Int32)) (x1 : Int32) (x2 : Int32) (x3 : Int32) (I : aI) (J : aJ) : Option (RT Int32) := if (I 3 0) ≤ x3 then gd (decide (x2 = 0 ∨ x2 = 1)) (some (x2, I, J)) else LX6_findCatches_15  k4 128 x1 x2 x3 0 I J
def LX6_findCatches_4   : Nat → Int32 → Int32 → Int32 → aI → aJ → Option (RT Int32)
  | 0, _, _, _, _, _ => none
  | n + 1, x1, x2, x3, I, J => HX6_findCatches_4   (LX6_findCatches_4   n) x1 x2 x3 I J
def fX6_findCatches (x1 : Int32) (I : aI) (J : aJ) : Option (RT Int32) := LX6_findCatches_4   128 x1 0 0 I J
-- X6_measureCatches
def BX6_measureCatches_61    (I : aI) (J : aJ) : Option (RT Unit) := some ((), I, J)
def HX6_measureCatches_39  (k39 : Int32 → Int32 → aI → aJ → Option (RT Unit)) (x1 : Int32) (x2 : Int32) (I : aI) (J : aJ) : Option (RT Unit) := if 40 < x2 then BX6_measureCatches_61    I J else if x1 = 0 then BX6_measureCatches_61    I J else bnd (fX6_findCatches  x2 I J) fun r6 I6 J6 => k39 r6 (x2 + 1) I6 J6
def LX6_measureCatches_39   : Nat → Int32 → Int32 → aI → aJ → Option (RT Unit)
  | 0, _, _, _, _ => none
  | n + 1, x1, x2, I, J => HX6_measureCatches_39   (LX6_measureCatches_39   n) x1 x2 I J
def HX6_measureCatches_2  (k2 : Int32 → aI → aJ → Option (RT Unit)) (x1 : Int32) (I : aI) (J : aJ) : Option (RT Unit) := if (I 3 0) ≤ x1 then LX6_measureCatches_39   128 1 1 I J else gd (inb x1 6) (bnd (fJ7_fill_53178  (15 + 1 + Int32.toNatClampNeg x1) 6 (-1) I J) fun r3 I3 J3 => k2 (x1 + 1) (pI I3 (15 + 1 + Int32.toNatClampNeg x1) (Int32.toNatClampNeg x1) 0) J3)
def LX6_measureCatches_2   : Nat → Int32 → aI → aJ → Option (RT Unit)
  | 0, _, _, _ => none
  | n + 1, x1, I, J => HX6_measureCatches_2   (LX6_measureCatches_2   n) x1 I J
def fX6_measureCatches  (I : aI) (J : aJ) : Option (RT Unit) := LX6_measureCatches_2   128 0 I J
-- X6_build
def HX6_build_90  (k90 : Int32 → aI → aJ → Option (RT Unit)) (x2 : Int32) (I : aI) (J : aJ) : Option (RT Unit) := if (I 3 0) ≤ x2 then bnd (fX6_measureCatches   I J) fun r10 I10 J10 => some ((), I10, J10) else bnd (fX6_measureSteps  x2 I J) fun r11 I11 J11 => k90 (x2 + 1) I11 J11
def LX6_build_90   : Nat → Int32 → aI → aJ → Option (RT Unit)
  | 0, _, _, _ => none
  | n + 1, x2, I, J => HX6_build_90   (LX6_build_90   n) x2 I J
def HX6_build_51  (k51 : Int32 → aI → aJ → Option (RT Unit)) (x2 : Int32) (I : aI) (J : aJ) : Option (RT Unit) := if (I 3 1) ≤ x2 then LX6_build_90   128 0 I J else bnd (fX3_roadStart  x2 I J) fun r5 I5 J5 => bnd (fX3_digitAt  r5 I5 J5) fun r6 I6 J6 => bnd (fX3_digitAt  (r5 + 1) I6 J6) fun r7 I7 J7 => bnd (fX6_layRoad  x2 r6 r7 I7 J7) fun r8 I8 J8 => k51 (x2 + 1) I8 J8
def LX6_build_51   : Nat → Int32 → aI → aJ → Option (RT Unit)
  | 0, _, _, _ => none
  | n + 1, x2, I, J => HX6_build_51   (LX6_build_51   n) x2 I J
def HX6_build_19  (k19 : Int32 → aI → aJ → Option (RT Unit)) (x2 : Int32) (I : aI) (J : aJ) : Option (RT Unit) := if (I 3 0) ≤ x2 then LX6_build_51   128 0 I J else gd (inb x2 6) (k19 (x2 + 1) (pI (pI I 6 (Int32.toNatClampNeg x2) (1 <<< (x2 &&& 31))) 7 (Int32.toNatClampNeg x2) 0) J)
def LX6_build_19   : Nat → Int32 → aI → aJ → Option (RT Unit)
  | 0, _, _, _ => none
  | n + 1, x2, I, J => HX6_build_19   (LX6_build_19   n) x2 I J
def fX6_build  (I : aI) (J : aJ) : Option (RT Unit) := bnd (fX3_digitAt  0 I J) fun r1 I1 J1 => LX6_build_19   128 0 (pI (pI I1 3 0 r1) 3 1 ((pI I1 3 0 r1) 1 2)) J1
-- X7_isPerson
def fX7_isPerson (x1 : Int32) (I : aI) (J : aJ) : Option (RT Int32) := bnd (fX7_isWithin  x1 0 ((I 22 0) - 1) I J) fun r1 I1 J1 => gd (decide (r1 = 0 ∨ r1 = 1)) (some (r1, I1, J1))
-- X7_as
def BX7_as_40   (s0 : Int32) (I : aI) (J : aJ) : Option (RT Int32) := some (s0, I, J)
def fX7_as (x1 : Int32) (x2 : Int32) (I : aI) (J : aJ) : Option (RT Int32) := bnd (fX7_isPerson  x1 I J) fun r1 I1 J1 => if r1 = 0 then some ((-101), I1, J1) else bnd (fX7_isWithin  x2 0 4 I1 J1) fun r3 I3 J3 => if r3 = 0 then some ((-102), I3, J3) else bnd (fX1_isOfKind  22 x1 x2 I3 J3) fun r5 I5 J5 => if r5 = 0 then BX7_as_40   (-1) I5 J5 else BX7_as_40   x1 I5 J5
-- X7_hasSuburb
def BX7_hasSuburb_12   (s0 : Int32) (I : aI) (J : aJ) : Option (RT Int32) := gd (decide (s0 = 0 ∨ s0 = 1)) (some (s0, I, J))
def fX7_hasSuburb  (I : aI) (J : aJ) : Option (RT Int32) := if (I 0 12) ≤ 0 then BX7_hasSuburb_12   0 I J else BX7_hasSuburb_12   1 I J
-- X7_earshot
def BX7_earshot_68  (k15 : Int32 → Int32 → Int32 → Int32 → aI → aJ → Option (RT Int32)) (x1 : Int32) (x2 : Int32) (x3 : Int32) (x4 : Int32) (I : aI) (J : aJ) : Option (RT Int32) := k15 x1 x2 x3 (x4 + 1) I J
def HX7_earshot_15  (k15 : Int32 → Int32 → Int32 → Int32 → aI → aJ → Option (RT Int32)) (x1 : Int32) (x2 : Int32) (x3 : Int32) (x4 : Int32) (I : aI) (J : aJ) : Option (RT Int32) := if (I 3 0) ≤ x4 then some (x2, I, J) else gd (inb x3 6) (gd (inb x4 6) (if (I (8 + 1 + Int32.toNatClampNeg x3) (Int32.toNatClampNeg x4)) = (-1) then BX7_earshot_68  k15 x1 x2 x3 x4 I J else gd (inb x1 6) (if (I 26 (Int32.toNatClampNeg x1)) < (I (8 + 1 + Int32.toNatClampNeg x3) (Int32.toNatClampNeg x4)) then BX7_earshot_68  k15 x1 x2 x3 x4 I J else BX7_earshot_68  k15 x1 (x2 ||| (1 <<< (x4 &&& 31))) x3 x4 I J)))
def LX7_earshot_15   : Nat → Int32 → Int32 → Int32 → Int32 → aI → aJ → Option (RT Int32)
  | 0, _, _, _, _, _, _ => none
  | n + 1, x1, x2, x3, x4, I, J => HX7_earshot_15   (LX7_earshot_15   n) x1 x2 x3 x4 I J
def fX7_earshot (x1 : Int32) (I : aI) (J : aJ) : Option (RT Int32) := gd (inb x1 6) (LX7_earshot_15   128 x1 0 (I 23 (Int32.toNatClampNeg x1)) 0 I J)
-- X7_possibleCorners
def BX7_possibleCorners_59  (k14 : Int32 → Int32 → aI → aJ → Option (RT Int32)) (x2 : Int32) (s0 : Int32) (s1 : Int32) (I : aI) (J : aJ) : Option (RT Int32) := k14 (s1 &&& s0) (x2 + 1) I J
def HX7_possibleCorners_14  (k14 : Int32 → Int32 → aI → aJ → Option (RT Int32)) (x1 : Int32) (x2 : Int32) (I : aI) (J : aJ) : Option (RT Int32) := if (I 38 0) ≤ x2 then some (x1, I, J) else gd (inb x2 6) (bnd (fX7_earshot  (I 39 (Int32.toNatClampNeg x2)) I J) fun r3 I3 J3 => if (I3 40 (Int32.toNatClampNeg x2)) = 0 then BX7_possibleCorners_59  k14 x2 (r3 ^^^ (-1)) x1 I3 J3 else BX7_possibleCorners_59  k14 x2 r3 x1 I3 J3)
def LX7_possibleCorners_14   : Nat → Int32 → Int32 → aI → aJ → Option (RT Int32)
  | 0, _, _, _, _ => none
  | n + 1, x1, x2, I, J => HX7_possibleCorners_14   (LX7_possibleCorners_14   n) x1 x2 I J
def fX7_possibleCorners  (I : aI) (J : aJ) : Option (RT Int32) := LX7_possibleCorners_14   128 ((1 <<< ((I 3 0) &&& 31)) - 1) 0 I J
-- X7_bestWitness
def BX7_bestWitness_71  (k21 : Int32 → Int32 → Int32 → Int32 → Int32 → aI → aJ → Option (RT Int32)) (x1 : Int32) (x2 : Int32) (x3 : Int32) (x4 : Int32) (x5 : Int32) (I : aI) (J : aJ) : Option (RT Int32) := k21 x1 x2 x3 x4 (x5 + 1) I J
def HX7_bestWitness_21  (k21 : Int32 → Int32 → Int32 → Int32 → Int32 → aI → aJ → Option (RT Int32)) (x1 : Int32) (x2 : Int32) (x3 : Int32) (x4 : Int32) (x5 : Int32) (I : aI) (J : aJ) : Option (RT Int32) := if (I 22 0) ≤ x5 then some (x3, I, J) else bnd (fX7_earshot  x5 I J) fun r4 I4 J4 => bnd (fJ6_bitCount_0f7a4  (x1 &&& r4) I4 J4) fun r5 I5 J5 => if x4 ≤ (if r5 < (x2 - r5) then (x2 - r5) else r5) then BX7_bestWitness_71  k21 x1 x2 x3 x4 x5 I5 J5 else BX7_bestWitness_71  k21 x1 x2 x5 (if r5 < (x2 - r5) then (x2 - r5) else r5) x5 I5 J5
def LX7_bestWitness_21   : Nat → Int32 → Int32 → Int32 → Int32 → Int32 → aI → aJ → Option (RT Int32)
  | 0, _, _, _, _, _, _, _ => none
  | n + 1, x1, x2, x3, x4, x5, I, J => HX7_bestWitness_21   (LX7_bestWitness_21   n) x1 x2 x3 x4 x5 I J
def fX7_bestWitness (x1 : Int32) (I : aI) (J : aJ) : Option (RT Int32) := bnd (fJ6_bitCount_0f7a4  x1 I J) fun r1 I1 J1 => if r1 = 0 then some ((-1), I1, J1) else LX7_bestWitness_21   128 x1 r1 (-1) (r1 + 1) 0 I1 J1
-- X7_ask
def BX7_ask_20   (s0 : Int32) (I : aI) (J : aJ) : Option (RT Int32) := some (s0, I, J)
def fX7_ask  (I : aI) (J : aJ) : Option (RT Int32) := bnd (fX7_hasSuburb   I J) fun r1 I1 J1 => if r1 = 0 then BX7_ask_20   (-103) I1 J1 else bnd (fX7_possibleCorners   I1 J1) fun r3 I3 J3 => bnd (fX7_bestWitness  r3 I3 J3) fun r4 I4 J4 => BX7_ask_20   r4 I4 J4
-- X7_blank
def fX7_blank  (I : aI) (J : aJ) : Option (RT Int32) := some ((I 1 1), (pI I 1 1 0), J)
-- X7_call
def BX7_call_41    (I : aI) (J : aJ) : Option (RT Int32) := some ((-102), I, J)
def fX7_call (x1 : Int32) (x2 : Int32) (x3 : Int32) (x4 : Int32) (I : aI) (J : aJ) : Option (RT Int32) := bnd (fX7_isPerson  x1 I J) fun r1 I1 J1 => if r1 = 0 then some ((-101), I1, J1) else bnd (fX7_isWithin  x2 0 4 I1 J1) fun r3 I3 J3 => if r3 = 0 then BX7_call_41    I3 J3 else bnd (fX7_isWithin  x3 0 9 I3 J3) fun r5 I5 J5 => if r5 = 0 then BX7_call_41    I5 J5 else bnd (fX7_isWithin  x4 0 9 I5 J5) fun r7 I7 J7 => if r7 = 0 then BX7_call_41    I7 J7 else gd (inb x1 6) (bnd (fX0_forgo  32 x1 (pI (pI (pI I7 24 (Int32.toNatClampNeg x1) x2) 25 (Int32.toNatClampNeg x1) x3) 26 (Int32.toNatClampNeg x1) x4) J7) fun r10 I10 J10 => some ((I7 24 (Int32.toNatClampNeg x1)), I10, J10))
-- X7_isCorner
def fX7_isCorner (x1 : Int32) (I : aI) (J : aJ) : Option (RT Int32) := bnd (fX7_isWithin  x1 0 ((I 3 0) - 1) I J) fun r1 I1 J1 => gd (decide (r1 = 0 ∨ r1 = 1)) (some (r1, I1, J1))
-- X7_corner
def fX7_corner (x1 : Int32) (x2 : Int32) (I : aI) (J : aJ) : Option (RT Int32) := bnd (fX7_isCorner  x1 I J) fun r1 I1 J1 => if r1 = 0 then some ((-101), I1, J1) else bnd (fX7_isWithin  x2 0 3 I1 J1) fun r3 I3 J3 => if r3 = 0 then some ((-102), I3, J3) else if x2 = 0 then gd (inb x1 6) (some (((I3 6 (Int32.toNatClampNeg x1)) &&& ((1 <<< (x1 &&& 31)) ^^^ (-1))), I3, J3)) else if x2 = 1 then bnd (fX1_whoLivesAt  22 x1 I3 J3) fun r8 I8 J8 => some (r8, I8, J8) else if x2 = 2 then gd (inb x1 6) (gd (inb (I3 32 0) 6) (some ((I3 (8 + 1 + Int32.toNatClampNeg x1) (Int32.toNatClampNeg (I3 32 0))), I3, J3))) else gd (inb (I3 32 0) 6) (gd (inb x1 6) (some ((I3 (15 + 1 + Int32.toNatClampNeg (I3 32 0)) (Int32.toNatClampNeg x1)), I3, J3)))
-- X7_hearsVan
def fX7_hearsVan (x1 : Int32) (I : aI) (J : aJ) : Option (RT Int32) := bnd (fX7_earshot  x1 I J) fun r1 I1 J1 => bnd (fX7_hasBit  r1 (I1 32 0) I1 J1) fun r2 I2 J2 => gd (decide (r2 = 0 ∨ r2 = 1)) (some (r2, I2, J2))
-- X7_hearersNumber
def BX7_hearersNumber_29  (k4 : Int32 → Int32 → aI → aJ → Option (RT Int32)) (x2 : Int32) (s0 : Int32) (s1 : Int32) (I : aI) (J : aJ) : Option (RT Int32) := k4 (s1 + s0) (x2 + 1) I J
def HX7_hearersNumber_4  (k4 : Int32 → Int32 → aI → aJ → Option (RT Int32)) (x1 : Int32) (x2 : Int32) (I : aI) (J : aJ) : Option (RT Int32) := if (I 22 0) ≤ x2 then some (x1, I, J) else bnd (fX7_hearsVan  x2 I J) fun r2 I2 J2 => if r2 = 0 then BX7_hearersNumber_29  k4 x2 0 x1 I2 J2 else BX7_hearersNumber_29  k4 x2 1 x1 I2 J2
def LX7_hearersNumber_4   : Nat → Int32 → Int32 → aI → aJ → Option (RT Int32)
  | 0, _, _, _, _ => none
  | n + 1, x1, x2, I, J => HX7_hearersNumber_4   (LX7_hearersNumber_4   n) x1 x2 I J
def fX7_hearersNumber  (I : aI) (J : aJ) : Option (RT Int32) := LX7_hearersNumber_4   128 0 0 I J
-- X7_count
def fX7_count (x1 : Int32) (I : aI) (J : aJ) : Option (RT Int32) := if x1 = 0 then some ((I 3 0), I, J) else if x1 = 1 then some ((I 3 1), I, J) else if x1 = 2 then some ((I 22 0), I, J) else if x1 = 3 then some ((I 32 0), I, J) else if x1 = 4 then some ((I 32 1), I, J) else if x1 = 5 then bnd (fX0_servedNumber  32 I J) fun r7 I7 J7 => some (r7, I7, J7) else if x1 = 6 then bnd (fX0_countedByAll  32 I J) fun r9 I9 J9 => some (r9, I9, J9) else if x1 = 7 then bnd (fX7_hearersNumber   I J) fun r11 I11 J11 => some (r11, I11, J11) else if x1 = 8 then some ((I 38 0), I, J) else if x1 = 9 then some ((I 1 1), I, J) else if x1 = 10 then some ((I 0 12), I, J) else if x1 = 11 then some ((I 0 13), I, J) else some ((-102), I, J)
-- X7_soonest
def BX7_soonest_83  (k59 : Int32 → Int32 → Int32 → Int32 → aI → aJ → Option (RT Int32)) (x1 : Int32) (x2 : Int32) (x4 : Int32) (s0 : Int32) (s1 : Int32) (s2 : Int32) (I : aI) (J : aJ) : Option (RT Int32) := bnd (fX1_countedAfter  22 s2 s1 s0 ((I 32 1) + x4) I J) fun r9 I9 J9 => bnd (fX1_needs  22 x1 I9 J9) fun r10 I10 J10 => if r9 < r10 then k59 x1 x2 r9 (x4 + 1) I10 J10 else some (x4, I10, J10)
def HX7_soonest_59  (k59 : Int32 → Int32 → Int32 → Int32 → aI → aJ → Option (RT Int32)) (x1 : Int32) (x2 : Int32) (x3 : Int32) (x4 : Int32) (I : aI) (J : aJ) : Option (RT Int32) := if 40 < x4 then some ((-1), I, J) else if x4 < x2 then BX7_soonest_83  k59 x1 x2 x4 0 x3 x1 I J else BX7_soonest_83  k59 x1 x2 x4 1 x3 x1 I J
def LX7_soonest_59   : Nat → Int32 → Int32 → Int32 → Int32 → aI → aJ → Option (RT Int32)
  | 0, _, _, _, _, _, _ => none
  | n + 1, x1, x2, x3, x4, I, J => HX7_soonest_59   (LX7_soonest_59   n) x1 x2 x3 x4 I J
def fX7_soonest (x1 : Int32) (I : aI) (J : aJ) : Option (RT Int32) := bnd (fX0_isServed  32 x1 I J) fun r1 I1 J1 => if r1 = 0 then gd (inb (I1 32 0) 6) (gd (inb x1 6) (gd (inb (I1 23 (Int32.toNatClampNeg x1)) 6) (if (I1 (8 + 1 + Int32.toNatClampNeg (I1 32 0)) (Int32.toNatClampNeg (I1 23 (Int32.toNatClampNeg x1)))) = (-1) then some ((-1), I1, J1) else LX7_soonest_59   128 x1 (I1 (8 + 1 + Int32.toNatClampNeg (I1 32 0)) (Int32.toNatClampNeg (I1 23 (Int32.toNatClampNeg x1)))) (I1 33 (Int32.toNatClampNeg x1)) 1 I1 J1))) else some (0, I1, J1)
-- X7_person
def BX7_person_128   (s0 : Int32) (I : aI) (J : aJ) : Option (RT Int32) := some (s0, I, J)
def BX7_person_161   (s0 : Int32) (I : aI) (J : aJ) : Option (RT Int32) := some (s0, I, J)
def fX7_person (x1 : Int32) (x2 : Int32) (I : aI) (J : aJ) : Option (RT Int32) := bnd (fX7_isPerson  x1 I J) fun r1 I1 J1 => if r1 = 0 then some ((-101), I1, J1) else bnd (fX7_isWithin  x2 0 8 I1 J1) fun r3 I3 J3 => if r3 = 0 then some ((-102), I3, J3) else if x2 = 0 then gd (inb x1 6) (some ((I3 24 (Int32.toNatClampNeg x1)), I3, J3)) else if x2 = 1 then gd (inb x1 6) (some ((I3 23 (Int32.toNatClampNeg x1)), I3, J3)) else if x2 = 2 then gd (inb x1 6) (some ((I3 25 (Int32.toNatClampNeg x1)), I3, J3)) else if x2 = 3 then gd (inb x1 6) (some ((I3 26 (Int32.toNatClampNeg x1)), I3, J3)) else if x2 = 4 then bnd (fX0_isServed  32 x1 I3 J3) fun r14 I14 J14 => if r14 = 0 then BX7_person_128   0 I14 J14 else BX7_person_128   1 I14 J14 else if x2 = 5 then gd (inb x1 6) (some ((I3 33 (Int32.toNatClampNeg x1)), I3, J3)) else if x2 = 6 then bnd (fX1_needs  22 x1 I3 J3) fun r19 I19 J19 => some (r19, I19, J19) else if x2 = 7 then bnd (fX7_hearsVan  x1 I3 J3) fun r21 I21 J21 => if r21 = 0 then BX7_person_161   0 I21 J21 else BX7_person_161   1 I21 J21 else bnd (fX7_soonest  x1 I3 J3) fun r23 I23 J23 => some (r23, I23, J23)
-- X7_mix
def fX7_mix (x0 : Int64) (x2 : Int64) (I : aI) (J : aJ) : Option (RT Int64) := some (((31 * x0) + x2), I, J)
-- X7_odds
def BX7_odds_29    (I : aI) (J : aJ) : Option (RT Int32) := some ((-102), I, J)
def BX7_odds_90   (s0 : Int32) (I : aI) (J : aJ) : Option (RT Int32) := some (s0, I, J)
def fX7_odds (x1 : Int32) (x2 : Int32) (x3 : Int32) (I : aI) (J : aJ) : Option (RT Int32) := bnd (fX7_isPerson  x1 I J) fun r1 I1 J1 => if r1 = 0 then some ((-101), I1, J1) else bnd (fX7_isWithin  x2 1 4 I1 J1) fun r3 I3 J3 => if r3 = 0 then BX7_odds_29    I3 J3 else bnd (fX7_isWithin  x3 0 1 I3 J3) fun r5 I5 J5 => if r5 = 0 then BX7_odds_29    I5 J5 else bnd (fX5_run  (I5 32 0) x2 I5 J5) fun r7 I7 J7 => if x3 = 0 then gd (inb x1 6) (bnd (fX5_above  (I7 23 (Int32.toNatClampNeg x1)) I7 J7) fun r12 I12 J12 => BX7_odds_90   r12 I12 J12) else gd (inb x1 6) (bnd (fX5_below  (I7 23 (Int32.toNatClampNeg x1)) I7 J7) fun r10 I10 J10 => BX7_odds_90   r10 I10 J10)
-- X7_digestOfPeople
def HX7_digestOfPeople_20  (k5 : Int64 → Int32 → aI → aJ → Option (RT Int64)) (k20 : Int64 → Int32 → Int32 → aI → aJ → Option (RT Int64)) (x3 : Int64) (x5 : Int32) (x6 : Int32) (I : aI) (J : aJ) : Option (RT Int64) := if 9 ≤ x6 then bnd (fX7_odds  x5 2 0 I J) fun r3 I3 J3 => bnd (fX7_mix  x3 (Int32.toInt64 r3) I3 J3) fun r4 I4 J4 => bnd (fX7_odds  x5 2 1 I4 J4) fun r5 I5 J5 => bnd (fX7_mix  r4 (Int32.toInt64 r5) I5 J5) fun r6 I6 J6 => k5 r6 (x5 + 1) I6 J6 else bnd (fX7_person  x5 x6 I J) fun r7 I7 J7 => bnd (fX7_mix  x3 (Int32.toInt64 r7) I7 J7) fun r8 I8 J8 => k20 r8 x5 (x6 + 1) I8 J8
def LX7_digestOfPeople_20  (k5 : Int64 → Int32 → aI → aJ → Option (RT Int64)) : Nat → Int64 → Int32 → Int32 → aI → aJ → Option (RT Int64)
  | 0, _, _, _, _, _ => none
  | n + 1, x3, x5, x6, I, J => HX7_digestOfPeople_20  k5 (LX7_digestOfPeople_20  k5 n) x3 x5 x6 I J
def HX7_digestOfPeople_5  (k5 : Int64 → Int32 → aI → aJ → Option (RT Int64)) (x3 : Int64) (x5 : Int32) (I : aI) (J : aJ) : Option (RT Int64) := if (I 22 0) ≤ x5 then some (x3, I, J) else LX7_digestOfPeople_20  k5 128 x3 x5 0 I J
def LX7_digestOfPeople_5   : Nat → Int64 → Int32 → aI → aJ → Option (RT Int64)
  | 0, _, _, _, _ => none
  | n + 1, x3, x5, I, J => HX7_digestOfPeople_5   (LX7_digestOfPeople_5   n) x3 x5 I J
def fX7_digestOfPeople (x1 : Int64) (I : aI) (J : aJ) : Option (RT Int64) := LX7_digestOfPeople_5   128 x1 0 I J
-- X7_road
def BX7_road_57   (s0 : Int32) (I : aI) (J : aJ) : Option (RT Int32) := some (s0, I, J)
def fX7_road (x1 : Int32) (x2 : Int32) (I : aI) (J : aJ) : Option (RT Int32) := bnd (fX7_isWithin  x1 0 ((I 3 1) - 1) I J) fun r1 I1 J1 => if r1 = 0 then some ((-101), I1, J1) else bnd (fX7_isWithin  x2 0 1 I1 J1) fun r3 I3 J3 => if r3 = 0 then some ((-102), I3, J3) else if x2 = 0 then gd (inb x1 8) (BX7_road_57   (I3 4 (Int32.toNatClampNeg x1)) I3 J3) else gd (inb x1 8) (BX7_road_57   (I3 5 (Int32.toNatClampNeg x1)) I3 J3)
-- X7_digestOfStreets
def HX7_digestOfStreets_70  (k55 : Int64 → Int32 → aI → aJ → Option (RT Int64)) (k70 : Int64 → Int32 → Int32 → aI → aJ → Option (RT Int64)) (x3 : Int64) (x5 : Int32) (x6 : Int32) (I : aI) (J : aJ) : Option (RT Int64) := if 4 ≤ x6 then k55 x3 (x5 + 1) I J else bnd (fX7_corner  x5 x6 I J) fun r4 I4 J4 => bnd (fX7_mix  x3 (Int32.toInt64 r4) I4 J4) fun r5 I5 J5 => k70 r5 x5 (x6 + 1) I5 J5
def LX7_digestOfStreets_70  (k55 : Int64 → Int32 → aI → aJ → Option (RT Int64)) : Nat → Int64 → Int32 → Int32 → aI → aJ → Option (RT Int64)
  | 0, _, _, _, _, _ => none
  | n + 1, x3, x5, x6, I, J => HX7_digestOfStreets_70  k55 (LX7_digestOfStreets_70  k55 n) x3 x5 x6 I J
def HX7_digestOfStreets_55  (k55 : Int64 → Int32 → aI → aJ → Option (RT Int64)) (x3 : Int64) (x5 : Int32) (I : aI) (J : aJ) : Option (RT Int64) := if (I 3 0) ≤ x5 then some (x3, I, J) else LX7_digestOfStreets_70  k55 128 x3 x5 0 I J
def LX7_digestOfStreets_55   : Nat → Int64 → Int32 → aI → aJ → Option (RT Int64)
  | 0, _, _, _, _ => none
  | n + 1, x3, x5, I, J => HX7_digestOfStreets_55   (LX7_digestOfStreets_55   n) x3 x5 I J
def HX7_digestOfStreets_20  (k5 : Int64 → Int32 → aI → aJ → Option (RT Int64)) (k20 : Int64 → Int32 → Int32 → aI → aJ → Option (RT Int64)) (x3 : Int64) (x5 : Int32) (x6 : Int32) (I : aI) (J : aJ) : Option (RT Int64) := if 2 ≤ x6 then k5 x3 (x5 + 1) I J else bnd (fX7_road  x5 x6 I J) fun r7 I7 J7 => bnd (fX7_mix  x3 (Int32.toInt64 r7) I7 J7) fun r8 I8 J8 => k20 r8 x5 (x6 + 1) I8 J8
def LX7_digestOfStreets_20  (k5 : Int64 → Int32 → aI → aJ → Option (RT Int64)) : Nat → Int64 → Int32 → Int32 → aI → aJ → Option (RT Int64)
  | 0, _, _, _, _, _ => none
  | n + 1, x3, x5, x6, I, J => HX7_digestOfStreets_20  k5 (LX7_digestOfStreets_20  k5 n) x3 x5 x6 I J
def HX7_digestOfStreets_5  (k5 : Int64 → Int32 → aI → aJ → Option (RT Int64)) (x3 : Int64) (x5 : Int32) (I : aI) (J : aJ) : Option (RT Int64) := if (I 3 1) ≤ x5 then LX7_digestOfStreets_55   128 x3 0 I J else LX7_digestOfStreets_20  k5 128 x3 x5 0 I J
def LX7_digestOfStreets_5   : Nat → Int64 → Int32 → aI → aJ → Option (RT Int64)
  | 0, _, _, _, _ => none
  | n + 1, x3, x5, I, J => HX7_digestOfStreets_5   (LX7_digestOfStreets_5   n) x3 x5 I J
def fX7_digestOfStreets (x1 : Int64) (I : aI) (J : aJ) : Option (RT Int64) := LX7_digestOfStreets_5   128 x1 0 I J
-- X7_places
def BX7_places_16   (s0 : Int32) (I : aI) (J : aJ) : Option (RT Int32) := some (s0, I, J)
def fX7_places  (I : aI) (J : aJ) : Option (RT Int32) := bnd (fX7_hasSuburb   I J) fun r1 I1 J1 => if r1 = 0 then BX7_places_16   (-103) I1 J1 else bnd (fX7_possibleCorners   I1 J1) fun r3 I3 J3 => BX7_places_16   r3 I3 J3
-- X7_digest
def HX7_digest_75  (k75 : Int64 → Int32 → aI → aJ → Option (RT Int64)) (x1 : Int64) (x3 : Int32) (I : aI) (J : aJ) : Option (RT Int64) := if 12 ≤ x3 then some (x1, I, J) else bnd (fX7_count  x3 I J) fun r13 I13 J13 => bnd (fX7_mix  x1 (Int32.toInt64 r13) I13 J13) fun r14 I14 J14 => k75 r14 (x3 + 1) I14 J14
def LX7_digest_75   : Nat → Int64 → Int32 → aI → aJ → Option (RT Int64)
  | 0, _, _, _, _ => none
  | n + 1, x1, x3, I, J => HX7_digest_75   (LX7_digest_75   n) x1 x3 I J
def HX7_digest_41  (k41 : Int64 → Int32 → aI → aJ → Option (RT Int64)) (x1 : Int64) (x3 : Int32) (I : aI) (J : aJ) : Option (RT Int64) := if (I 1 1) ≤ x3 then LX7_digest_75   128 x1 0 I J else gd (inb x3 60) (bnd (fX7_mix  x1 (Int32.toInt64 (I 2 (Int32.toNatClampNeg x3))) I J) fun r11 I11 J11 => k41 r11 (x3 + 1) I11 J11)
def LX7_digest_41   : Nat → Int64 → Int32 → aI → aJ → Option (RT Int64)
  | 0, _, _, _, _ => none
  | n + 1, x1, x3, I, J => HX7_digest_41   (LX7_digest_41   n) x1 x3 I J
def BX7_digest_39   (x1 : Int64) (I : aI) (J : aJ) : Option (RT Int64) := LX7_digest_41   128 x1 0 I J
def fX7_digest  (I : aI) (J : aJ) : Option (RT Int64) := bnd (fX7_digestOfPeople  1237 I J) fun r1 I1 J1 => bnd (fX7_digestOfStreets  r1 I1 J1) fun r2 I2 J2 => bnd (fX7_hasSuburb   I2 J2) fun r3 I3 J3 => if r3 = 0 then BX7_digest_39   r2 I3 J3 else bnd (fX7_places   I3 J3) fun r5 I5 J5 => bnd (fX7_mix  r2 (Int32.toInt64 r5) I5 J5) fun r6 I6 J6 => bnd (fX7_ask   I6 J6) fun r7 I7 J7 => bnd (fX7_mix  r6 (Int32.toInt64 r7) I7 J7) fun r8 I8 J8 => BX7_digest_39   r8 I8 J8
-- X7_drift
def BX7_drift_87   (x3 : Int64) (I : aI) (J : aJ) : Option (RT Int32) := some ((Int64.toInt32 x3), I, J)
def HX7_drift_6  (k6 : Int32 → Int64 → Int32 → aI → aJ → Option (RT Int32)) (x1 : Int32) (x3 : Int64) (x5 : Int32) (I : aI) (J : aJ) : Option (RT Int32) := if x1 ≤ x5 then BX7_drift_87   x3 I J else if (I 3 1) ≤ 0 then BX7_drift_87   x3 I J else gd (decide (¬ (Int32.toInt64 (I 3 1)) = 0)) (bnd (fX6_alongRoad  (Int64.toInt32 (((((1103515245 * x3) + 12345) &&& 2147483647) / 65536) - ((((1103515245 * x3) + 12345) &&& 2147483647) / 65536) / (Int32.toInt64 (I 3 1)) * (Int32.toInt64 (I 3 1)))) (I 36 0) I J) fun r4 I4 J4 => bnd (fX0_pass  36 r4 22 I4 J4) fun r5 I5 J5 => k6 x1 (((1103515245 * x3) + 12345) &&& 2147483647) (x5 + 1) I5 J5)
def LX7_drift_6   : Nat → Int32 → Int64 → Int32 → aI → aJ → Option (RT Int32)
  | 0, _, _, _, _, _ => none
  | n + 1, x1, x3, x5, I, J => HX7_drift_6   (LX7_drift_6   n) x1 x3 x5 I J
def fX7_drift (x1 : Int32) (x2 : Int32) (I : aI) (J : aJ) : Option (RT Int32) := LX7_drift_6   128 x1 (Int32.toInt64 x2) 0 I J
-- X7_evenings
def BX7_evenings_23    (I : aI) (J : aJ) : Option (RT Int32) := some ((-102), I, J)
def BX7_evenings_92   (s0 : Int32) (I : aI) (J : aJ) : Option (RT Int32) := some (s0, I, J)
def fX7_evenings (x1 : Int32) (x2 : Int32) (x3 : Int32) (I : aI) (J : aJ) : Option (RT Int32) := bnd (fX7_isWithin  x1 1 60 I J) fun r1 I1 J1 => if r1 = 0 then BX7_evenings_23    I1 J1 else if x2 < 0 then BX7_evenings_23    I1 J1 else bnd (fX7_isWithin  x3 0 2 I1 J1) fun r4 I4 J4 => if r4 = 0 then BX7_evenings_23    I4 J4 else bnd (fX7_hasSuburb   I4 J4) fun r6 I6 J6 => if r6 = 0 then some ((-103), I6, J6) else bnd (fX0_copy  36 32 I6 J6) fun r8 I8 J8 => bnd (fX7_drift  x1 x2 I8 J8) fun r9 I9 J9 => if x3 = 2 then some (r9, I9, J9) else if x3 = 0 then bnd (fX0_servedNumber  36 I9 J9) fun r12 I12 J12 => bnd (fX0_servedNumber  32 I12 J12) fun r13 I13 J13 => BX7_evenings_92   (r12 - r13) I13 J13 else BX7_evenings_92   (I9 36 0) I9 J9
-- X7_far
def BX7_far_16    (I : aI) (J : aJ) : Option (RT Int32) := some ((-101), I, J)
def fX7_far (x1 : Int32) (x2 : Int32) (I : aI) (J : aJ) : Option (RT Int32) := bnd (fX7_isCorner  x1 I J) fun r1 I1 J1 => if r1 = 0 then BX7_far_16    I1 J1 else bnd (fX7_isCorner  x2 I1 J1) fun r3 I3 J3 => if r3 = 0 then BX7_far_16    I3 J3 else gd (inb x1 6) (gd (inb x2 6) (some ((I3 (8 + 1 + Int32.toNatClampNeg x1) (Int32.toNatClampNeg x2)), I3, J3)))
-- X7_fault
def fX7_fault  (I : aI) (J : aJ) : Option (RT Int32) := bnd (fX3_firstFault   I J) fun r1 I1 J1 => some (r1, I1, J1)
-- X7_forget
def fX7_forget  (I : aI) (J : aJ) : Option (RT Int32) := some ((I 38 0), (pI I 38 0 0), J)
-- X7_go
def fX7_go (x1 : Int32) (I : aI) (J : aJ) : Option (RT Int32) := bnd (fX7_isCorner  x1 I J) fun r1 I1 J1 => if r1 = 0 then some ((-101), I1, J1) else gd (inb (I1 32 0) 6) (bnd (fX7_hasBit  (I1 6 (Int32.toNatClampNeg (I1 32 0))) x1 I1 J1) fun r4 I4 J4 => if r4 = 0 then some ((-103), I4, J4) else if ((I4 32 1) + 1) < 1000 then bnd (fX0_pass  32 x1 22 I4 J4) fun r7 I7 J7 => some (r7, I7, J7) else some ((-104), I4, J4))
-- X7_image
def fX7_image  (I : aI) (J : aJ) : Option (RT Int32) := bnd (fX7_hasSuburb   I J) fun r1 I1 J1 => if r1 = 0 then some ((-103), I1, J1) else bnd (fX1_copy  27 22 I1 J1) fun r3 I3 J3 => bnd (fX0_copy  34 32 I3 J3) fun r4 I4 J4 => bnd (fX2_copy  41 38 I4 J4) fun r5 I5 J5 => some (((pI I5 0 11 1) 32 1), (pI I5 0 11 1), J5)
-- X7_letter
def fX7_letter (x1 : Int32) (I : aI) (J : aJ) : Option (RT Int32) := bnd (fX7_isWithin  x1 1 126 I J) fun r1 I1 J1 => if r1 = 0 then some ((-102), I1, J1) else if (I1 1 1) < 60 then gd (inb (I1 1 1) 60) (some (((pI (pI I1 2 (Int32.toNatClampNeg (I1 1 1)) x1) 1 1 (((pI I1 2 (Int32.toNatClampNeg (I1 1 1)) x1) 1 1) + 1)) 1 1), (pI (pI I1 2 (Int32.toNatClampNeg (I1 1 1)) x1) 1 1 (((pI I1 2 (Int32.toNatClampNeg (I1 1 1)) x1) 1 1) + 1)), J1)) else some ((-104), I1, J1)
-- X7_restore
def fX7_restore  (I : aI) (J : aJ) : Option (RT Int32) := if (I 0 11) = 0 then some ((-103), I, J) else bnd (fX1_copy  22 27 I J) fun r2 I2 J2 => bnd (fX0_copy  32 34 I2 J2) fun r3 I3 J3 => bnd (fX2_copy  38 41 I3 J3) fun r4 I4 J4 => some ((I4 32 1), I4, J4)
-- X7_round
def BX7_round_31    (I : aI) (J : aJ) : Option (RT Int32) := some ((-102), I, J)
def BX7_round_50    (I : aI) (J : aJ) : Option (RT Int32) := some ((-103), I, J)
def BX7_round_135   (s0 : Int32) (I : aI) (J : aJ) : Option (RT Int32) := some (s0, I, J)
def BX7_round_113   (s0 : Int32) (I : aI) (J : aJ) : Option (RT Int32) := some (s0, I, J)
def BX7_round_34   (x1 : Int32) (x2 : Int32) (x3 : Int32) (I : aI) (J : aJ) : Option (RT Int32) := bnd (fX7_hasSuburb   I J) fun r7 I7 J7 => if r7 = 0 then BX7_round_50    I7 J7 else if (I7 0 13) < 20 then bnd (fX4_run  22 32 x1 (pI I7 0 13 ((I7 0 13) + 1)) J7) fun r10 I10 J10 => if x3 = 0 then if x2 = 0 then BX7_round_135   (I10 44 1) I10 J10 else BX7_round_135   (I10 44 2) I10 J10 else if x1 ≤ (x2 - 10) then BX7_round_113   (-1) I10 J10 else gd (inb (x2 - 10) 5) (BX7_round_113   (I10 45 (Int32.toNatClampNeg (x2 - 10))) I10 J10) else BX7_round_50    I7 J7
def fX7_round (x1 : Int32) (x2 : Int32) (I : aI) (J : aJ) : Option (RT Int32) := bnd (fX7_isWithin  x2 10 14 I J) fun r1 I1 J1 => bnd (fX7_isWithin  x1 1 5 I1 J1) fun r2 I2 J2 => if r2 = 0 then BX7_round_31    I2 J2 else bnd (fX7_isWithin  x2 0 1 I2 J2) fun r4 I4 J4 => if r4 = 0 then if r1 = 0 then BX7_round_31    I4 J4 else BX7_round_34   x1 x2 r1 I4 J4 else BX7_round_34   x1 x2 r1 I4 J4
-- X7_see
def fX7_see (x1 : Int32) (x2 : Int32) (I : aI) (J : aJ) : Option (RT Int32) := bnd (fX7_isPerson  x1 I J) fun r1 I1 J1 => if r1 = 0 then some ((-101), I1, J1) else if (I1 38 0) < 6 then gd (inb (I1 38 0) 6) (gd (inb ((pI I1 39 (Int32.toNatClampNeg (I1 38 0)) x1) 38 0) 6) (some (((pI (pI (pI I1 39 (Int32.toNatClampNeg (I1 38 0)) x1) 40 (Int32.toNatClampNeg ((pI I1 39 (Int32.toNatClampNeg (I1 38 0)) x1) 38 0)) (vp_nar .boolean x2)) 38 0 (((pI (pI I1 39 (Int32.toNatClampNeg (I1 38 0)) x1) 40 (Int32.toNatClampNeg ((pI I1 39 (Int32.toNatClampNeg (I1 38 0)) x1) 38 0)) (vp_nar .boolean x2)) 38 0) + 1)) 38 0), (pI (pI (pI I1 39 (Int32.toNatClampNeg (I1 38 0)) x1) 40 (Int32.toNatClampNeg ((pI I1 39 (Int32.toNatClampNeg (I1 38 0)) x1) 38 0)) (vp_nar .boolean x2)) 38 0 (((pI (pI I1 39 (Int32.toNatClampNeg (I1 38 0)) x1) 40 (Int32.toNatClampNeg ((pI I1 39 (Int32.toNatClampNeg (I1 38 0)) x1) 38 0)) (vp_nar .boolean x2)) 38 0) + 1)), J1))) else some ((-104), I1, J1)
-- X7_stand
def fX7_stand (x1 : Int32) (I : aI) (J : aJ) : Option (RT Int32) := bnd (fX7_isCorner  x1 I J) fun r1 I1 J1 => if r1 = 0 then some ((-101), I1, J1) else some ((I1 32 0), (pI I1 32 0 x1), J1)
-- X7_suburb
def fX7_suburb  (I : aI) (J : aJ) : Option (RT Int32) := bnd (fX3_isSuburb   I J) fun r1 I1 J1 => if r1 = 0 then some ((-103), I1, J1) else bnd (fX6_build   I1 J1) fun r3 I3 J3 => bnd (fX1_settle  22 I3 J3) fun r4 I4 J4 => bnd (fX3_digitAt  1 I4 J4) fun r5 I5 J5 => bnd (fX0_begin  32 r5 I5 J5) fun r6 I6 J6 => some (((pI (pI (pI (pI I6 38 0 0) 0 11 0) 0 12 (((pI (pI I6 38 0 0) 0 11 0) 0 12) + 1)) 1 1 0) 22 0), (pI (pI (pI (pI I6 38 0 0) 0 11 0) 0 12 (((pI (pI I6 38 0 0) 0 11 0) 0 12) + 1)) 1 1 0), J6)
