-- X8_in
def BX8_in_18   (s0 : Int32) (I : aI) (J : aJ) : Option (RT Int32) := gd (decide (s0 = 0 ∨ s0 = 1)) (some (s0, I, J))
def BX8_in_17    (I : aI) (J : aJ) : Option (RT Int32) := BX8_in_18   0 I J
def fX8_in (x0 : Int64) (x2 : Int64) (x4 : Int64) (I : aI) (J : aJ) : Option (RT Int32) := if (lg_cmp x0 x2) < 0 then BX8_in_17    I J else if 0 < (lg_cmp x0 x4) then BX8_in_17    I J else BX8_in_18   1 I J
-- X8_isPerson
def fX8_isPerson (x1 : Int32) (I : aI) (J : aJ) : Option (RT Int32) := bnd (fX8_in  (Int32.toInt64 x1) 0 (Int32.toInt64 ((I 0 5) - 1)) I J) fun r1 I1 J1 => gd (decide (r1 = 0 ∨ r1 = 1)) (some (r1, I1, J1))
-- X8_as
def BX8_as_70   (s0 : Int32) (I : aI) (J : aJ) : Option (RT Int32) := some (s0, I, J)
def BX8_as_60   (x1 : Int32) (s0 : Int32) (I : aI) (J : aJ) : Option (RT Int32) := if s0 = 0 then BX8_as_70   (-1) I J else BX8_as_70   x1 I J
def BX8_as_55   (x1 : Int32) (I : aI) (J : aJ) : Option (RT Int32) := BX8_as_60   x1 1 I J
def BX8_as_59   (x1 : Int32) (I : aI) (J : aJ) : Option (RT Int32) := BX8_as_60   x1 0 I J
def fX8_as (x1 : Int32) (x2 : Int32) (I : aI) (J : aJ) : Option (RT Int32) := bnd (fX8_isPerson  x1 I J) fun r1 I1 J1 => if r1 = 0 then some ((-101), I1, J1) else bnd (fX8_in  (Int32.toInt64 x2) 0 4 I1 J1) fun r3 I3 J3 => if r3 = 0 then some ((-102), I3, J3) else if x2 = 0 then BX8_as_55   x1 I3 J3 else gd (inb x1 6) (if x2 = (I3 4 (Int32.toNatClampNeg x1)) then BX8_as_55   x1 I3 J3 else if x2 = 1 then if (I3 4 (Int32.toNatClampNeg x1)) = 4 then BX8_as_55   x1 I3 J3 else BX8_as_59   x1 I3 J3 else BX8_as_59   x1 I3 J3)
-- X8_lacks
def BX8_lacks_12   (s0 : Int32) (I : aI) (J : aJ) : Option (RT Int32) := gd (decide (s0 = 0 ∨ s0 = 1)) (some (s0, I, J))
def fX8_lacks  (I : aI) (J : aJ) : Option (RT Int32) := if (I 0 5) = 0 then BX8_lacks_12   1 I J else BX8_lacks_12   0 I J
-- X8_hearsAt
def BX8_hearsAt_30   (s0 : Int32) (I : aI) (J : aJ) : Option (RT Int32) := some (s0, I, J)
def fX8_hearsAt (x1 : Int32) (x2 : Int32) (I : aI) (J : aJ) : Option (RT Int32) := gd (inb x1 6) (gd (inb ((6 * (I 5 (Int32.toNatClampNeg x1))) + x2) 36) (if (I 7 (Int32.toNatClampNeg x1)) < (I 10 (Int32.toNatClampNeg ((6 * (I 5 (Int32.toNatClampNeg x1))) + x2))) then BX8_hearsAt_30   0 I J else BX8_hearsAt_30   1 I J))
-- X8_placesOf
def BX8_placesOf_80  (k4 : Int32 → Int32 → aI → aJ → Option (RT Int32)) (x2 : Int32) (s0 : Int32) (s1 : Int32) (I : aI) (J : aJ) : Option (RT Int32) := k4 (s1 ||| s0) (x2 + 1) I J
def BX8_placesOf_61  (k4 : Int32 → Int32 → aI → aJ → Option (RT Int32)) (k17 : Int32 → Int32 → Int32 → Int32 → aI → aJ → Option (RT Int32)) (x1 : Int32) (x2 : Int32) (x4 : Int32) (s0 : Int32) (I : aI) (J : aJ) : Option (RT Int32) := k17 x1 x2 s0 (x4 + 2) I J
def BX8_placesOf_60  (k4 : Int32 → Int32 → aI → aJ → Option (RT Int32)) (k17 : Int32 → Int32 → Int32 → Int32 → aI → aJ → Option (RT Int32)) (x1 : Int32) (x2 : Int32) (x4 : Int32) (I : aI) (J : aJ) : Option (RT Int32) := BX8_placesOf_61  k4 k17 x1 x2 x4 0 I J
def HX8_placesOf_17  (k4 : Int32 → Int32 → aI → aJ → Option (RT Int32)) (k17 : Int32 → Int32 → Int32 → Int32 → aI → aJ → Option (RT Int32)) (x1 : Int32) (x2 : Int32) (x3 : Int32) (x4 : Int32) (I : aI) (J : aJ) : Option (RT Int32) := if (2 * (I 0 27)) ≤ x4 then if x3 = 0 then BX8_placesOf_80  k4 x2 0 x1 I J else BX8_placesOf_80  k4 x2 (1 <<< (x2 &&& 31)) x1 I J else if x3 = 0 then BX8_placesOf_60  k4 k17 x1 x2 x4 I J else gd (inb x4 12) (bnd (fX8_hearsAt  (I 19 (Int32.toNatClampNeg x4)) x2 I J) fun r6 I6 J6 => gd (inb (x4 + 1) 12) (if r6 = (I6 19 (Int32.toNatClampNeg (x4 + 1))) then BX8_placesOf_61  k4 k17 x1 x2 x4 1 I6 J6 else BX8_placesOf_60  k4 k17 x1 x2 x4 I6 J6))
def LX8_placesOf_17  (k4 : Int32 → Int32 → aI → aJ → Option (RT Int32)) : Nat → Int32 → Int32 → Int32 → Int32 → aI → aJ → Option (RT Int32)
  | 0, _, _, _, _, _, _ => none
  | n + 1, x1, x2, x3, x4, I, J => HX8_placesOf_17  k4 (LX8_placesOf_17  k4 n) x1 x2 x3 x4 I J
def HX8_placesOf_4  (k4 : Int32 → Int32 → aI → aJ → Option (RT Int32)) (x1 : Int32) (x2 : Int32) (I : aI) (J : aJ) : Option (RT Int32) := if (I 0 3) ≤ x2 then some (x1, I, J) else LX8_placesOf_17  k4 128 x1 x2 1 0 I J
def LX8_placesOf_4   : Nat → Int32 → Int32 → aI → aJ → Option (RT Int32)
  | 0, _, _, _, _ => none
  | n + 1, x1, x2, I, J => HX8_placesOf_4   (LX8_placesOf_4   n) x1 x2 I J
def fX8_placesOf  (I : aI) (J : aJ) : Option (RT Int32) := LX8_placesOf_4   128 0 0 I J
-- X8_askOf
def BX8_askOf_140   (x2 : Int32) (I : aI) (J : aJ) : Option (RT Int32) := some (x2, I, J)
def BX8_askOf_133  (k13 : Int32 → Int32 → Int32 → Int32 → aI → aJ → Option (RT Int32)) (x1 : Int32) (x2 : Int32) (x4 : Int32) (s0 : Int32) (I : aI) (J : aJ) : Option (RT Int32) := k13 x1 x2 s0 (x4 + 1) I J
def BX8_askOf_120  (k13 : Int32 → Int32 → Int32 → Int32 → aI → aJ → Option (RT Int32)) (x1 : Int32) (x3 : Int32) (x4 : Int32) (x7 : Int32) (s0 : Int32) (I : aI) (J : aJ) : Option (RT Int32) := if x3 ≤ x7 then BX8_askOf_133  k13 x1 s0 x4 x3 I J else BX8_askOf_133  k13 x1 s0 x4 x7 I J
def BX8_askOf_106  (k13 : Int32 → Int32 → Int32 → Int32 → aI → aJ → Option (RT Int32)) (x1 : Int32) (x2 : Int32) (x3 : Int32) (x4 : Int32) (s0 : Int32) (I : aI) (J : aJ) : Option (RT Int32) := if x3 ≤ s0 then BX8_askOf_120  k13 x1 x3 x4 s0 x2 I J else BX8_askOf_120  k13 x1 x3 x4 s0 x4 I J
def HX8_askOf_35  (k13 : Int32 → Int32 → Int32 → Int32 → aI → aJ → Option (RT Int32)) (k35 : Int32 → Int32 → Int32 → Int32 → Int32 → Int32 → Int32 → aI → aJ → Option (RT Int32)) (x1 : Int32) (x2 : Int32) (x3 : Int32) (x4 : Int32) (x5 : Int32) (x6 : Int32) (x7 : Int32) (I : aI) (J : aJ) : Option (RT Int32) := if (I 0 3) ≤ x7 then if x5 ≤ x6 then BX8_askOf_106  k13 x1 x2 x3 x4 x6 I J else BX8_askOf_106  k13 x1 x2 x3 x4 x5 I J else bnd (fX8_hearsAt  x4 x7 I J) fun r6 I6 J6 => bnd (fX8_hearsAt  x4 x7 I6 J6) fun r7 I7 J7 => k35 x1 x2 x3 x4 (x5 + (((x1 >>> (x7 &&& 31)) &&& 1) * r6)) (x6 + (((x1 >>> (x7 &&& 31)) &&& 1) * (1 - r7))) (x7 + 1) I7 J7
def LX8_askOf_35  (k13 : Int32 → Int32 → Int32 → Int32 → aI → aJ → Option (RT Int32)) : Nat → Int32 → Int32 → Int32 → Int32 → Int32 → Int32 → Int32 → aI → aJ → Option (RT Int32)
  | 0, _, _, _, _, _, _, _, _, _ => none
  | n + 1, x1, x2, x3, x4, x5, x6, x7, I, J => HX8_askOf_35  k13 (LX8_askOf_35  k13 n) x1 x2 x3 x4 x5 x6 x7 I J
def HX8_askOf_13  (k13 : Int32 → Int32 → Int32 → Int32 → aI → aJ → Option (RT Int32)) (x1 : Int32) (x2 : Int32) (x3 : Int32) (x4 : Int32) (I : aI) (J : aJ) : Option (RT Int32) := if (I 0 5) ≤ x4 then BX8_askOf_140   x2 I J else if x1 = 0 then BX8_askOf_140   x2 I J else LX8_askOf_35  k13 128 x1 x2 x3 x4 0 0 0 I J
def LX8_askOf_13   : Nat → Int32 → Int32 → Int32 → Int32 → aI → aJ → Option (RT Int32)
  | 0, _, _, _, _, _, _ => none
  | n + 1, x1, x2, x3, x4, I, J => HX8_askOf_13   (LX8_askOf_13   n) x1 x2 x3 x4 I J
def fX8_askOf  (I : aI) (J : aJ) : Option (RT Int32) := bnd (fX8_placesOf   I J) fun r1 I1 J1 => LX8_askOf_13   128 r1 (-1) 7 0 I1 J1
-- X8_ask
def BX8_ask_16   (s0 : Int32) (I : aI) (J : aJ) : Option (RT Int32) := some (s0, I, J)
def fX8_ask  (I : aI) (J : aJ) : Option (RT Int32) := bnd (fX8_lacks   I J) fun r1 I1 J1 => if r1 = 0 then bnd (fX8_askOf   I1 J1) fun r3 I3 J3 => BX8_ask_16   r3 I3 J3 else BX8_ask_16   (-103) I1 J1
-- X8_copy
def HX8_copy_2  (k2 : Nat → Nat → Nat → Nat → Int32 → aI → aJ → Option (RT Unit)) (e0 : Nat) (ne0 : Nat) (e1 : Nat) (ne1 : Nat) (x2 : Int32) (I : aI) (J : aJ) : Option (RT Unit) := if (nI ne0) ≤ x2 then some ((), I, J) else gd (inb x2 ne0) (gd (inb x2 ne1) (k2 e0 ne0 e1 ne1 (x2 + 1) (pI I e1 (Int32.toNatClampNeg x2) (I e0 (Int32.toNatClampNeg x2))) J))
def LX8_copy_2   : Nat → Nat → Nat → Nat → Nat → Int32 → aI → aJ → Option (RT Unit)
  | 0, _, _, _, _, _, _, _ => none
  | n + 1, e0, ne0, e1, ne1, x2, I, J => HX8_copy_2   (LX8_copy_2   n) e0 ne0 e1 ne1 x2 I J
def fX8_copy (e0 n0 : Nat) (e1 n1 : Nat) (I : aI) (J : aJ) : Option (RT Unit) := LX8_copy_2   128 e0 n0 e1 n1 0 I J
-- X8_begin
def fX8_begin  (I : aI) (J : aJ) : Option (RT Unit) := bnd (fX8_copy  8 6 11 6 I J) fun r1 I1 J1 => bnd (fX8_copy  9 6 12 6 I1 J1) fun r2 I2 J2 => some ((), I2, J2)
-- X8_blank
def fX8_blank  (I : aI) (J : aJ) : Option (RT Int32) := some ((I 0 1), (pI I 0 1 0), J)
-- X8_call
def BX8_call_48    (I : aI) (J : aJ) : Option (RT Int32) := some ((-102), I, J)
def fX8_call (x1 : Int32) (x2 : Int32) (x3 : Int32) (x4 : Int32) (I : aI) (J : aJ) : Option (RT Int32) := bnd (fX8_isPerson  x1 I J) fun r1 I1 J1 => if r1 = 0 then some ((-101), I1, J1) else bnd (fX8_in  (Int32.toInt64 x2) 0 4 I1 J1) fun r3 I3 J3 => if r3 = 0 then BX8_call_48    I3 J3 else bnd (fX8_in  (Int32.toInt64 x3) 0 9 I3 J3) fun r5 I5 J5 => if r5 = 0 then BX8_call_48    I5 J5 else bnd (fX8_in  (Int32.toInt64 x4) 0 9 I5 J5) fun r7 I7 J7 => if r7 = 0 then BX8_call_48    I7 J7 else gd (inb x1 6) (some ((I7 4 (Int32.toNatClampNeg x1)), (pI (pI (pI (pI (pI I7 4 (Int32.toNatClampNeg x1) x2) 6 (Int32.toNatClampNeg x1) x3) 7 (Int32.toNatClampNeg x1) x4) 8 (Int32.toNatClampNeg x1) 0) 9 (Int32.toNatClampNeg x1) 0), J7))
-- X8_isNext
def BX8_isNext_20   (s0 : Int32) (I : aI) (J : aJ) : Option (RT Int32) := gd (decide (s0 = 0 ∨ s0 = 1)) (some (s0, I, J))
def fX8_isNext (x1 : Int32) (x2 : Int32) (I : aI) (J : aJ) : Option (RT Int32) := gd (inb ((6 * x1) + x2) 36) (if 2 ≤ (I 10 (Int32.toNatClampNeg ((6 * x1) + x2))) then BX8_isNext_20   0 I J else BX8_isNext_20   1 I J)
-- X8_canCatch
def BX8_canCatch_49  (k5 : Int32 → Int32 → Int32 → Int32 → aI → aJ → Option (RT Int32)) (x1 : Int32) (x2 : Int32) (x4 : Int32) (s0 : Int32) (I : aI) (J : aJ) : Option (RT Int32) := k5 x1 x2 s0 (x4 + 1) I J
def BX8_canCatch_44  (k5 : Int32 → Int32 → Int32 → Int32 → aI → aJ → Option (RT Int32)) (x1 : Int32) (x2 : Int32) (x4 : Int32) (I : aI) (J : aJ) : Option (RT Int32) := BX8_canCatch_49  k5 x1 x2 x4 1 I J
def BX8_canCatch_48  (k5 : Int32 → Int32 → Int32 → Int32 → aI → aJ → Option (RT Int32)) (x1 : Int32) (x2 : Int32) (x4 : Int32) (I : aI) (J : aJ) : Option (RT Int32) := BX8_canCatch_49  k5 x1 x2 x4 0 I J
def HX8_canCatch_5  (k5 : Int32 → Int32 → Int32 → Int32 → aI → aJ → Option (RT Int32)) (x1 : Int32) (x2 : Int32) (x3 : Int32) (x4 : Int32) (I : aI) (J : aJ) : Option (RT Int32) := if (I 0 3) ≤ x4 then gd (decide (x3 = 0 ∨ x3 = 1)) (some (x3, I, J)) else if x3 = 0 then bnd (fX8_isNext  x2 x4 I J) fun r4 I4 J4 => if r4 = 0 then BX8_canCatch_48  k5 x1 x2 x4 I4 J4 else gd (inb ((6 * x1) + x4) 36) (if (I4 15 (Int32.toNatClampNeg ((6 * x1) + x4))) = 1 then BX8_canCatch_44  k5 x1 x2 x4 I4 J4 else BX8_canCatch_48  k5 x1 x2 x4 I4 J4) else BX8_canCatch_44  k5 x1 x2 x4 I J
def LX8_canCatch_5   : Nat → Int32 → Int32 → Int32 → Int32 → aI → aJ → Option (RT Int32)
  | 0, _, _, _, _, _, _ => none
  | n + 1, x1, x2, x3, x4, I, J => HX8_canCatch_5   (LX8_canCatch_5   n) x1 x2 x3 x4 I J
def fX8_canCatch (x1 : Int32) (x2 : Int32) (I : aI) (J : aJ) : Option (RT Int32) := LX8_canCatch_5   128 x1 x2 0 0 I J
-- X8_isSure
def BX8_isSure_43  (k5 : Int32 → Int32 → Int32 → Int32 → aI → aJ → Option (RT Int32)) (x1 : Int32) (x2 : Int32) (x4 : Int32) (s0 : Int32) (I : aI) (J : aJ) : Option (RT Int32) := k5 x1 x2 s0 (x4 + 1) I J
def BX8_isSure_42  (k5 : Int32 → Int32 → Int32 → Int32 → aI → aJ → Option (RT Int32)) (x1 : Int32) (x2 : Int32) (x4 : Int32) (I : aI) (J : aJ) : Option (RT Int32) := BX8_isSure_43  k5 x1 x2 x4 0 I J
def BX8_isSure_38  (k5 : Int32 → Int32 → Int32 → Int32 → aI → aJ → Option (RT Int32)) (x1 : Int32) (x2 : Int32) (x4 : Int32) (I : aI) (J : aJ) : Option (RT Int32) := BX8_isSure_43  k5 x1 x2 x4 1 I J
def HX8_isSure_5  (k5 : Int32 → Int32 → Int32 → Int32 → aI → aJ → Option (RT Int32)) (x1 : Int32) (x2 : Int32) (x3 : Int32) (x4 : Int32) (I : aI) (J : aJ) : Option (RT Int32) := if (I 0 3) ≤ x4 then gd (decide (x3 = 0 ∨ x3 = 1)) (some (x3, I, J)) else if x3 = 0 then BX8_isSure_42  k5 x1 x2 x4 I J else bnd (fX8_isNext  x1 x4 I J) fun r4 I4 J4 => if r4 = 0 then BX8_isSure_38  k5 x1 x2 x4 I4 J4 else bnd (fX8_canCatch  x4 x2 I4 J4) fun r6 I6 J6 => if r6 = 0 then BX8_isSure_42  k5 x1 x2 x4 I6 J6 else BX8_isSure_38  k5 x1 x2 x4 I6 J6
def LX8_isSure_5   : Nat → Int32 → Int32 → Int32 → Int32 → aI → aJ → Option (RT Int32)
  | 0, _, _, _, _, _, _ => none
  | n + 1, x1, x2, x3, x4, I, J => HX8_isSure_5   (LX8_isSure_5   n) x1 x2 x3 x4 I J
def fX8_isSure (x1 : Int32) (x2 : Int32) (I : aI) (J : aJ) : Option (RT Int32) := LX8_isSure_5   128 x1 x2 1 0 I J
-- X8_catchOf
def BX8_catchOf_141  (k38 : Int32 → Int32 → aI → aJ → Option (RT Int32)) (k66 : Int32 → Int32 → Int32 → aI → aJ → Option (RT Int32)) (x1 : Int32) (x2 : Int32) (x3 : Int32) (s0 : Int32) (s1 : Int32) (I : aI) (J : aJ) : Option (RT Int32) := gd (inb s1 36) (k66 x1 x2 (x3 + 1) (pI I 16 (Int32.toNatClampNeg s1) s0) J)
def BX8_catchOf_136  (k38 : Int32 → Int32 → aI → aJ → Option (RT Int32)) (k66 : Int32 → Int32 → Int32 → aI → aJ → Option (RT Int32)) (x1 : Int32) (x2 : Int32) (x3 : Int32) (s0 : Int32) (I : aI) (J : aJ) : Option (RT Int32) := BX8_catchOf_141  k38 k66 x1 x2 x3 1 s0 I J
def BX8_catchOf_140  (k38 : Int32 → Int32 → aI → aJ → Option (RT Int32)) (k66 : Int32 → Int32 → Int32 → aI → aJ → Option (RT Int32)) (x1 : Int32) (x2 : Int32) (x3 : Int32) (s0 : Int32) (I : aI) (J : aJ) : Option (RT Int32) := BX8_catchOf_141  k38 k66 x1 x2 x3 0 s0 I J
def BX8_catchOf_99  (k38 : Int32 → Int32 → aI → aJ → Option (RT Int32)) (k66 : Int32 → Int32 → Int32 → aI → aJ → Option (RT Int32)) (x1 : Int32) (x2 : Int32) (x3 : Int32) (s0 : Int32) (I : aI) (J : aJ) : Option (RT Int32) := gd (inb x3 36) (if (I 15 (Int32.toNatClampNeg x3)) = 1 then BX8_catchOf_136  k38 k66 x1 x2 x3 x3 I J else if s0 = 0 then BX8_catchOf_140  k38 k66 x1 x2 x3 x3 I J else bnd (fX8_isSure  (x3 / 6) (x3 - x3 / 6 * 6) I J) fun r13 I13 J13 => if r13 = 0 then BX8_catchOf_140  k38 k66 x1 x2 x3 x3 I13 J13 else BX8_catchOf_136  k38 k66 x1 x2 x3 x3 I13 J13)
def BX8_catchOf_98  (k38 : Int32 → Int32 → aI → aJ → Option (RT Int32)) (k66 : Int32 → Int32 → Int32 → aI → aJ → Option (RT Int32)) (x1 : Int32) (x2 : Int32) (x3 : Int32) (I : aI) (J : aJ) : Option (RT Int32) := BX8_catchOf_99  k38 k66 x1 x2 x3 0 I J
def HX8_catchOf_66  (k38 : Int32 → Int32 → aI → aJ → Option (RT Int32)) (k66 : Int32 → Int32 → Int32 → aI → aJ → Option (RT Int32)) (x1 : Int32) (x2 : Int32) (x3 : Int32) (I : aI) (J : aJ) : Option (RT Int32) := if 36 ≤ x3 then bnd (fX8_copy  16 36 15 36 I J) fun r7 I7 J7 => k38 x1 (x2 + 1) I7 J7 else if (I 0 3) ≤ (x3 / 6) then BX8_catchOf_98  k38 k66 x1 x2 x3 I J else if (I 0 3) ≤ (x3 - x3 / 6 * 6) then BX8_catchOf_98  k38 k66 x1 x2 x3 I J else BX8_catchOf_99  k38 k66 x1 x2 x3 1 I J
def LX8_catchOf_66  (k38 : Int32 → Int32 → aI → aJ → Option (RT Int32)) : Nat → Int32 → Int32 → Int32 → aI → aJ → Option (RT Int32)
  | 0, _, _, _, _, _ => none
  | n + 1, x1, x2, x3, I, J => HX8_catchOf_66  k38 (LX8_catchOf_66  k38 n) x1 x2 x3 I J
def HX8_catchOf_38  (k38 : Int32 → Int32 → aI → aJ → Option (RT Int32)) (x1 : Int32) (x2 : Int32) (I : aI) (J : aJ) : Option (RT Int32) := if 41 ≤ x2 then some ((-1), I, J) else gd (inb ((6 * (I 0 6)) + x1) 36) (if (I 15 (Int32.toNatClampNeg ((6 * (I 0 6)) + x1))) = 1 then some (x2, I, J) else LX8_catchOf_66  k38 128 x1 x2 0 I J)
def LX8_catchOf_38   : Nat → Int32 → Int32 → aI → aJ → Option (RT Int32)
  | 0, _, _, _, _ => none
  | n + 1, x1, x2, I, J => HX8_catchOf_38   (LX8_catchOf_38   n) x1 x2 I J
def BX8_catchOf_29  (k2 : Int32 → Int32 → aI → aJ → Option (RT Int32)) (x1 : Int32) (x2 : Int32) (s0 : Int32) (s1 : Int32) (I : aI) (J : aJ) : Option (RT Int32) := gd (inb s1 36) (k2 x1 (x2 + 1) (pI I 15 (Int32.toNatClampNeg s1) s0) J)
def HX8_catchOf_2  (k2 : Int32 → Int32 → aI → aJ → Option (RT Int32)) (x1 : Int32) (x2 : Int32) (I : aI) (J : aJ) : Option (RT Int32) := if 36 ≤ x2 then LX8_catchOf_38   128 x1 0 I J else if (x2 / 6) = (x2 - x2 / 6 * 6) then BX8_catchOf_29  k2 x1 x2 1 x2 I J else BX8_catchOf_29  k2 x1 x2 0 x2 I J
def LX8_catchOf_2   : Nat → Int32 → Int32 → aI → aJ → Option (RT Int32)
  | 0, _, _, _, _ => none
  | n + 1, x1, x2, I, J => HX8_catchOf_2   (LX8_catchOf_2   n) x1 x2 I J
def fX8_catchOf (x1 : Int32) (I : aI) (J : aJ) : Option (RT Int32) := LX8_catchOf_2   128 x1 0 I J
-- X8_isCorner
def fX8_isCorner (x1 : Int32) (I : aI) (J : aJ) : Option (RT Int32) := bnd (fX8_in  (Int32.toInt64 x1) 0 (Int32.toInt64 ((I 0 3) - 1)) I J) fun r1 I1 J1 => gd (decide (r1 = 0 ∨ r1 = 1)) (some (r1, I1, J1))
-- X8_nextTo
def BX8_nextTo_35  (k4 : Int32 → Int32 → Int32 → aI → aJ → Option (RT Int32)) (x1 : Int32) (x3 : Int32) (s0 : Int32) (s1 : Int32) (I : aI) (J : aJ) : Option (RT Int32) := k4 x1 (s1 ||| s0) (x3 + 1) I J
def HX8_nextTo_4  (k4 : Int32 → Int32 → Int32 → aI → aJ → Option (RT Int32)) (x1 : Int32) (x2 : Int32) (x3 : Int32) (I : aI) (J : aJ) : Option (RT Int32) := if (I 0 3) ≤ x3 then some (x2, I, J) else gd (inb ((6 * x1) + x3) 36) (if (I 10 (Int32.toNatClampNeg ((6 * x1) + x3))) = 1 then BX8_nextTo_35  k4 x1 x3 (1 <<< (x3 &&& 31)) x2 I J else BX8_nextTo_35  k4 x1 x3 0 x2 I J)
def LX8_nextTo_4   : Nat → Int32 → Int32 → Int32 → aI → aJ → Option (RT Int32)
  | 0, _, _, _, _, _ => none
  | n + 1, x1, x2, x3, I, J => HX8_nextTo_4   (LX8_nextTo_4   n) x1 x2 x3 I J
def fX8_nextTo (x1 : Int32) (I : aI) (J : aJ) : Option (RT Int32) := LX8_nextTo_4   128 x1 0 0 I J
-- X8_whoAt
def BX8_whoAt_30  (k4 : Int32 → Int32 → Int32 → aI → aJ → Option (RT Int32)) (x1 : Int32) (x3 : Int32) (s0 : Int32) (s1 : Int32) (I : aI) (J : aJ) : Option (RT Int32) := k4 x1 (s1 ||| s0) (x3 + 1) I J
def HX8_whoAt_4  (k4 : Int32 → Int32 → Int32 → aI → aJ → Option (RT Int32)) (x1 : Int32) (x2 : Int32) (x3 : Int32) (I : aI) (J : aJ) : Option (RT Int32) := if (I 0 5) ≤ x3 then some (x2, I, J) else gd (inb x3 6) (if (I 5 (Int32.toNatClampNeg x3)) = x1 then BX8_whoAt_30  k4 x1 x3 (1 <<< (x3 &&& 31)) x2 I J else BX8_whoAt_30  k4 x1 x3 0 x2 I J)
def LX8_whoAt_4   : Nat → Int32 → Int32 → Int32 → aI → aJ → Option (RT Int32)
  | 0, _, _, _, _, _ => none
  | n + 1, x1, x2, x3, I, J => HX8_whoAt_4   (LX8_whoAt_4   n) x1 x2 x3 I J
def fX8_whoAt (x1 : Int32) (I : aI) (J : aJ) : Option (RT Int32) := LX8_whoAt_4   128 x1 0 0 I J
-- X8_farOf
def BX8_farOf_31   (s0 : Int32) (I : aI) (J : aJ) : Option (RT Int32) := some (s0, I, J)
def fX8_farOf (x1 : Int32) (x2 : Int32) (I : aI) (J : aJ) : Option (RT Int32) := gd (inb ((6 * x1) + x2) 36) (if (I 10 (Int32.toNatClampNeg ((6 * x1) + x2))) = 99 then BX8_farOf_31   (-1) I J else BX8_farOf_31   (I 10 (Int32.toNatClampNeg ((6 * x1) + x2))) I J)
-- X8_tellCorner
def fX8_tellCorner (x1 : Int32) (x2 : Int32) (I : aI) (J : aJ) : Option (RT Int32) := if x2 = 0 then bnd (fX8_nextTo  x1 I J) fun r2 I2 J2 => some (r2, I2, J2) else if x2 = 1 then bnd (fX8_whoAt  x1 I J) fun r4 I4 J4 => some (r4, I4, J4) else if x2 = 2 then bnd (fX8_farOf  x1 (I 0 6) I J) fun r6 I6 J6 => some (r6, I6, J6) else if x2 = 3 then bnd (fX8_catchOf  x1 I J) fun r8 I8 J8 => some (r8, I8, J8) else some ((-102), I, J)
-- X8_corner
def BX8_corner_19   (s0 : Int32) (I : aI) (J : aJ) : Option (RT Int32) := some (s0, I, J)
def fX8_corner (x1 : Int32) (x2 : Int32) (I : aI) (J : aJ) : Option (RT Int32) := bnd (fX8_isCorner  x1 I J) fun r1 I1 J1 => if r1 = 0 then BX8_corner_19   (-101) I1 J1 else bnd (fX8_tellCorner  x1 x2 I1 J1) fun r3 I3 J3 => BX8_corner_19   r3 I3 J3
-- X8_sumOf
def HX8_sumOf_4  (k4 : Nat → Nat → Int32 → Int32 → aI → aJ → Option (RT Int32)) (e1 : Nat) (ne1 : Nat) (x2 : Int32) (x3 : Int32) (I : aI) (J : aJ) : Option (RT Int32) := if (I 0 5) ≤ x3 then some (x2, I, J) else gd (inb x3 ne1) (k4 e1 ne1 (x2 + (I e1 (Int32.toNatClampNeg x3))) (x3 + 1) I J)
def LX8_sumOf_4   : Nat → Nat → Nat → Int32 → Int32 → aI → aJ → Option (RT Int32)
  | 0, _, _, _, _, _, _ => none
  | n + 1, e1, ne1, x2, x3, I, J => HX8_sumOf_4   (LX8_sumOf_4   n) e1 ne1 x2 x3 I J
def fX8_sumOf (e1 n1 : Nat) (I : aI) (J : aJ) : Option (RT Int32) := LX8_sumOf_4   128 e1 n1 0 0 I J
-- X8_hears
def BX8_hears_33   (s0 : Int32) (I : aI) (J : aJ) : Option (RT Int32) := some (s0, I, J)
def fX8_hears (x1 : Int32) (I : aI) (J : aJ) : Option (RT Int32) := gd (inb x1 6) (gd (inb ((6 * (I 5 (Int32.toNatClampNeg x1))) + (I 0 6)) 36) (if (I 7 (Int32.toNatClampNeg x1)) < (I 10 (Int32.toNatClampNeg ((6 * (I 5 (Int32.toNatClampNeg x1))) + (I 0 6)))) then BX8_hears_33   0 I J else BX8_hears_33   1 I J))
-- X8_hearing
def HX8_hearing_4  (k4 : Int32 → Int32 → aI → aJ → Option (RT Int32)) (x1 : Int32) (x2 : Int32) (I : aI) (J : aJ) : Option (RT Int32) := if (I 0 5) ≤ x2 then some (x1, I, J) else bnd (fX8_hears  x2 I J) fun r2 I2 J2 => k4 (x1 + r2) (x2 + 1) I2 J2
def LX8_hearing_4   : Nat → Int32 → Int32 → aI → aJ → Option (RT Int32)
  | 0, _, _, _, _ => none
  | n + 1, x1, x2, I, J => HX8_hearing_4   (LX8_hearing_4   n) x1 x2 I J
def fX8_hearing  (I : aI) (J : aJ) : Option (RT Int32) := LX8_hearing_4   128 0 0 I J
-- X8_countOf
def fX8_countOf (x1 : Int32) (I : aI) (J : aJ) : Option (RT Int32) := if x1 = 0 then some ((I 0 3), I, J) else if x1 = 1 then some ((I 0 4), I, J) else if x1 = 2 then some ((I 0 5), I, J) else if x1 = 3 then some ((I 0 6), I, J) else if x1 = 4 then some ((I 0 7), I, J) else if x1 = 5 then bnd (fX8_sumOf  9 6 I J) fun r7 I7 J7 => some (r7, I7, J7) else if x1 = 6 then bnd (fX8_sumOf  8 6 I J) fun r9 I9 J9 => some (r9, I9, J9) else if x1 = 7 then bnd (fX8_hearing   I J) fun r11 I11 J11 => some (r11, I11, J11) else if x1 = 8 then some ((I 0 27), I, J) else if x1 = 9 then some ((I 0 1), I, J) else if x1 = 10 then some ((I 0 8), I, J) else if x1 = 11 then some ((I 0 24), I, J) else some ((-102), I, J)
-- X8_count
def fX8_count (x1 : Int32) (I : aI) (J : aJ) : Option (RT Int32) := bnd (fX8_countOf  x1 I J) fun r1 I1 J1 => some (r1, I1, J1)
-- X8_needs
def BX8_needs_24   (s0 : Int32) (I : aI) (J : aJ) : Option (RT Int32) := some (s0, I, J)
def BX8_needs_19    (I : aI) (J : aJ) : Option (RT Int32) := BX8_needs_24   2 I J
def fX8_needs (x0 : Int32) (I : aI) (J : aJ) : Option (RT Int32) := if x0 = 4 then BX8_needs_24   3 I J else if x0 = 1 then BX8_needs_19    I J else if x0 = 3 then BX8_needs_19    I J else BX8_needs_24   1 I J
-- X8_isTime
def BX8_isTime_32   (s0 : Int32) (I : aI) (J : aJ) : Option (RT Int32) := gd (decide (s0 = 0 ∨ s0 = 1)) (some (s0, I, J))
def BX8_isTime_31    (I : aI) (J : aJ) : Option (RT Int32) := BX8_isTime_32   0 I J
def BX8_isTime_27    (I : aI) (J : aJ) : Option (RT Int32) := BX8_isTime_32   1 I J
def fX8_isTime (x1 : Int32) (x2 : Int32) (I : aI) (J : aJ) : Option (RT Int32) := gd (inb x1 6) (if x2 < (I 6 (Int32.toNatClampNeg x1)) then BX8_isTime_31    I J else if (I 4 (Int32.toNatClampNeg x1)) = 2 then if (x2 - x2 / 2 * 2) = 1 then BX8_isTime_27    I J else BX8_isTime_31    I J else BX8_isTime_27    I J)
-- X8_soonOf
def BX8_soonOf_224  (k56 : Int32 → Int32 → aI → aJ → Option (RT Int32)) (k85 : Int32 → Int32 → Int32 → aI → aJ → Option (RT Int32)) (x1 : Int32) (x2 : Int32) (x3 : Int32) (I : aI) (J : aJ) : Option (RT Int32) := k85 x1 x2 (x3 + 1) I J
def BX8_soonOf_218  (k56 : Int32 → Int32 → aI → aJ → Option (RT Int32)) (k85 : Int32 → Int32 → Int32 → aI → aJ → Option (RT Int32)) (k98 : Int32 → Int32 → Int32 → Int32 → aI → aJ → Option (RT Int32)) (x1 : Int32) (x2 : Int32) (x3 : Int32) (x4 : Int32) (I : aI) (J : aJ) : Option (RT Int32) := k98 x1 x2 x3 (x4 + 1) I J
def BX8_soonOf_187  (k56 : Int32 → Int32 → aI → aJ → Option (RT Int32)) (k85 : Int32 → Int32 → Int32 → aI → aJ → Option (RT Int32)) (k98 : Int32 → Int32 → Int32 → Int32 → aI → aJ → Option (RT Int32)) (x1 : Int32) (x2 : Int32) (x3 : Int32) (x4 : Int32) (s0 : Int32) (I : aI) (J : aJ) : Option (RT Int32) := gd (inb x1 6) (bnd (fX8_needs  (I 4 (Int32.toNatClampNeg x1)) I J) fun r22 I22 J22 => if s0 < r22 then gd (inb ((4 * x4) + s0) 24) (BX8_soonOf_218  k56 k85 k98 x1 x2 x3 x4 (pI I22 14 (Int32.toNatClampNeg ((4 * x4) + s0)) 1) J22) else some (x2, I22, J22))
def HX8_soonOf_98  (k56 : Int32 → Int32 → aI → aJ → Option (RT Int32)) (k85 : Int32 → Int32 → Int32 → aI → aJ → Option (RT Int32)) (k98 : Int32 → Int32 → Int32 → Int32 → aI → aJ → Option (RT Int32)) (x1 : Int32) (x2 : Int32) (x3 : Int32) (x4 : Int32) (I : aI) (J : aJ) : Option (RT Int32) := if (I 0 3) ≤ x4 then BX8_soonOf_224  k56 k85 x1 x2 x3 I J else gd (inb x3 24) (if (I 13 (Int32.toNatClampNeg x3)) = 1 then bnd (fX8_isNext  (x3 / 4) x4 I J) fun r14 I14 J14 => if r14 = 0 then BX8_soonOf_218  k56 k85 k98 x1 x2 x3 x4 I14 J14 else gd (inb x1 6) (if x4 = (I14 5 (Int32.toNatClampNeg x1)) then bnd (fX8_isTime  x1 ((I14 0 7) + x2) I14 J14) fun r18 I18 J18 => if r18 = 0 then BX8_soonOf_187  k56 k85 k98 x1 x2 x3 x4 (x3 - x3 / 4 * 4) I18 J18 else BX8_soonOf_187  k56 k85 k98 x1 x2 x3 x4 ((x3 - x3 / 4 * 4) + 1) I18 J18 else if (I14 4 (Int32.toNatClampNeg x1)) = 3 then BX8_soonOf_187  k56 k85 k98 x1 x2 x3 x4 0 I14 J14 else BX8_soonOf_187  k56 k85 k98 x1 x2 x3 x4 (x3 - x3 / 4 * 4) I14 J14) else BX8_soonOf_224  k56 k85 x1 x2 x3 I J)
def LX8_soonOf_98  (k56 : Int32 → Int32 → aI → aJ → Option (RT Int32)) (k85 : Int32 → Int32 → Int32 → aI → aJ → Option (RT Int32)) : Nat → Int32 → Int32 → Int32 → Int32 → aI → aJ → Option (RT Int32)
  | 0, _, _, _, _, _, _ => none
  | n + 1, x1, x2, x3, x4, I, J => HX8_soonOf_98  k56 k85 (LX8_soonOf_98  k56 k85 n) x1 x2 x3 x4 I J
def HX8_soonOf_85  (k56 : Int32 → Int32 → aI → aJ → Option (RT Int32)) (k85 : Int32 → Int32 → Int32 → aI → aJ → Option (RT Int32)) (x1 : Int32) (x2 : Int32) (x3 : Int32) (I : aI) (J : aJ) : Option (RT Int32) := if (4 * (I 0 3)) ≤ x3 then bnd (fX8_copy  14 24 13 24 I J) fun r10 I10 J10 => k56 x1 (x2 + 1) I10 J10 else LX8_soonOf_98  k56 k85 128 x1 x2 x3 0 I J
def LX8_soonOf_85  (k56 : Int32 → Int32 → aI → aJ → Option (RT Int32)) : Nat → Int32 → Int32 → Int32 → aI → aJ → Option (RT Int32)
  | 0, _, _, _, _, _ => none
  | n + 1, x1, x2, x3, I, J => HX8_soonOf_85  k56 (LX8_soonOf_85  k56 n) x1 x2 x3 I J
def HX8_soonOf_64  (k56 : Int32 → Int32 → aI → aJ → Option (RT Int32)) (k64 : Int32 → Int32 → Int32 → aI → aJ → Option (RT Int32)) (x1 : Int32) (x2 : Int32) (x3 : Int32) (I : aI) (J : aJ) : Option (RT Int32) := if 24 ≤ x3 then LX8_soonOf_85  k56 128 x1 x2 0 I J else gd (inb x3 24) (k64 x1 x2 (x3 + 1) (pI I 14 (Int32.toNatClampNeg x3) 0) J)
def LX8_soonOf_64  (k56 : Int32 → Int32 → aI → aJ → Option (RT Int32)) : Nat → Int32 → Int32 → Int32 → aI → aJ → Option (RT Int32)
  | 0, _, _, _, _, _ => none
  | n + 1, x1, x2, x3, I, J => HX8_soonOf_64  k56 (LX8_soonOf_64  k56 n) x1 x2 x3 I J
def HX8_soonOf_56  (k56 : Int32 → Int32 → aI → aJ → Option (RT Int32)) (x1 : Int32) (x2 : Int32) (I : aI) (J : aJ) : Option (RT Int32) := if 41 ≤ x2 then some ((-1), I, J) else LX8_soonOf_64  k56 128 x1 x2 0 I J
def LX8_soonOf_56   : Nat → Int32 → Int32 → aI → aJ → Option (RT Int32)
  | 0, _, _, _, _ => none
  | n + 1, x1, x2, I, J => HX8_soonOf_56   (LX8_soonOf_56   n) x1 x2 I J
def BX8_soonOf_47  (k14 : Int32 → Int32 → aI → aJ → Option (RT Int32)) (x1 : Int32) (x2 : Int32) (s0 : Int32) (s1 : Int32) (I : aI) (J : aJ) : Option (RT Int32) := gd (inb s1 24) (k14 x1 (x2 + 1) (pI I 13 (Int32.toNatClampNeg s1) s0) J)
def HX8_soonOf_14  (k14 : Int32 → Int32 → aI → aJ → Option (RT Int32)) (x1 : Int32) (x2 : Int32) (I : aI) (J : aJ) : Option (RT Int32) := if 24 ≤ x2 then LX8_soonOf_56   128 x1 1 I J else gd (inb x1 6) (if x2 = ((4 * (I 0 6)) + (I 8 (Int32.toNatClampNeg x1))) then BX8_soonOf_47  k14 x1 x2 1 x2 I J else BX8_soonOf_47  k14 x1 x2 0 x2 I J)
def LX8_soonOf_14   : Nat → Int32 → Int32 → aI → aJ → Option (RT Int32)
  | 0, _, _, _, _ => none
  | n + 1, x1, x2, I, J => HX8_soonOf_14   (LX8_soonOf_14   n) x1 x2 I J
def fX8_soonOf (x1 : Int32) (I : aI) (J : aJ) : Option (RT Int32) := gd (inb x1 6) (if (I 9 (Int32.toNatClampNeg x1)) = 1 then some (0, I, J) else LX8_soonOf_14   128 x1 0 I J)
-- X8_tellPerson
def fX8_tellPerson (x1 : Int32) (x2 : Int32) (I : aI) (J : aJ) : Option (RT Int32) := if x2 = 0 then gd (inb x1 6) (some ((I 4 (Int32.toNatClampNeg x1)), I, J)) else if x2 = 1 then gd (inb x1 6) (some ((I 5 (Int32.toNatClampNeg x1)), I, J)) else if x2 = 2 then gd (inb x1 6) (some ((I 6 (Int32.toNatClampNeg x1)), I, J)) else if x2 = 3 then gd (inb x1 6) (some ((I 7 (Int32.toNatClampNeg x1)), I, J)) else if x2 = 4 then gd (inb x1 6) (some ((I 9 (Int32.toNatClampNeg x1)), I, J)) else if x2 = 5 then gd (inb x1 6) (some ((I 8 (Int32.toNatClampNeg x1)), I, J)) else if x2 = 6 then gd (inb x1 6) (bnd (fX8_needs  (I 4 (Int32.toNatClampNeg x1)) I J) fun r15 I15 J15 => some (r15, I15, J15)) else if x2 = 7 then bnd (fX8_hears  x1 I J) fun r17 I17 J17 => some (r17, I17, J17) else if x2 = 8 then bnd (fX8_soonOf  x1 I J) fun r19 I19 J19 => some (r19, I19, J19) else some ((-102), I, J)
-- X8_say
def fX8_say (x1 : Int64) (I : aI) (J : aJ) : Option (RT Unit) := some ((), I, (pJ J 0 40 ((31 * (J 0 40)) + x1)))
-- X8_roadsAt
def BX8_roadsAt_38  (k4 : Int32 → Int32 → Int32 → aI → aJ → Option (RT Int32)) (x1 : Int32) (x3 : Int32) (s0 : Int32) (s1 : Int32) (I : aI) (J : aJ) : Option (RT Int32) := k4 x1 (s1 + s0) (x3 + 1) I J
def BX8_roadsAt_33  (k4 : Int32 → Int32 → Int32 → aI → aJ → Option (RT Int32)) (x1 : Int32) (x3 : Int32) (s0 : Int32) (I : aI) (J : aJ) : Option (RT Int32) := BX8_roadsAt_38  k4 x1 x3 1 s0 I J
def HX8_roadsAt_4  (k4 : Int32 → Int32 → Int32 → aI → aJ → Option (RT Int32)) (x1 : Int32) (x2 : Int32) (x3 : Int32) (I : aI) (J : aJ) : Option (RT Int32) := if (I 0 4) ≤ x3 then some (x2, I, J) else gd (inb x3 8) (if (I 2 (Int32.toNatClampNeg x3)) = x1 then BX8_roadsAt_33  k4 x1 x3 x2 I J else if (I 3 (Int32.toNatClampNeg x3)) = x1 then BX8_roadsAt_33  k4 x1 x3 x2 I J else BX8_roadsAt_38  k4 x1 x3 0 x2 I J)
def LX8_roadsAt_4   : Nat → Int32 → Int32 → Int32 → aI → aJ → Option (RT Int32)
  | 0, _, _, _, _, _ => none
  | n + 1, x1, x2, x3, I, J => HX8_roadsAt_4   (LX8_roadsAt_4   n) x1 x2 x3 I J
def fX8_roadsAt (x1 : Int32) (I : aI) (J : aJ) : Option (RT Int32) := LX8_roadsAt_4   128 x1 0 0 I J
-- X8_stray
def HX8_stray_144  (k144 : Int32 → aI → aJ → Option (RT Unit)) (x1 : Int32) (I : aI) (J : aJ) : Option (RT Unit) := if 6 ≤ x1 then some ((), I, J) else gd (inb x1 6) (k144 (x1 + 1) I (pJ J 17 (Int32.toNatClampNeg x1) (J 18 (Int32.toNatClampNeg x1))))
def LX8_stray_144   : Nat → Int32 → aI → aJ → Option (RT Unit)
  | 0, _, _, _ => none
  | n + 1, x1, I, J => HX8_stray_144   (LX8_stray_144   n) x1 I J
def BX8_stray_130  (k23 : Int32 → aI → aJ → Option (RT Unit)) (k66 : Int32 → Int32 → Int32 → aI → aJ → Option (RT Unit)) (x1 : Int32) (x2 : Int32) (x3 : Int32) (I : aI) (J : aJ) : Option (RT Unit) := k66 x1 x2 (x3 + 1) I J
def BX8_stray_94  (k23 : Int32 → aI → aJ → Option (RT Unit)) (k66 : Int32 → Int32 → Int32 → aI → aJ → Option (RT Unit)) (x1 : Int32) (x2 : Int32) (x3 : Int32) (I : aI) (J : aJ) : Option (RT Unit) := gd (inb x3 8) (gd (inb (((I 2 (Int32.toNatClampNeg x3)) + (I 3 (Int32.toNatClampNeg x3))) - x1) 6) (gd (decide (¬ x2 = 0)) (gd (inb x1 6) (BX8_stray_130  k23 k66 x1 x2 x3 I (pJ J 18 (Int32.toNatClampNeg (((I 2 (Int32.toNatClampNeg x3)) + (I 3 (Int32.toNatClampNeg x3))) - x1)) ((J 18 (Int32.toNatClampNeg (((I 2 (Int32.toNatClampNeg x3)) + (I 3 (Int32.toNatClampNeg x3))) - x1))) + ((Int32.toInt64 (840 / x2)) * (J 17 (Int32.toNatClampNeg x1)))))))))
def HX8_stray_66  (k23 : Int32 → aI → aJ → Option (RT Unit)) (k66 : Int32 → Int32 → Int32 → aI → aJ → Option (RT Unit)) (x1 : Int32) (x2 : Int32) (x3 : Int32) (I : aI) (J : aJ) : Option (RT Unit) := if (I 0 4) ≤ x3 then k23 (x1 + 1) I J else gd (inb x3 8) (if (I 2 (Int32.toNatClampNeg x3)) = x1 then BX8_stray_94  k23 k66 x1 x2 x3 I J else if (I 3 (Int32.toNatClampNeg x3)) = x1 then BX8_stray_94  k23 k66 x1 x2 x3 I J else BX8_stray_130  k23 k66 x1 x2 x3 I J)
def LX8_stray_66  (k23 : Int32 → aI → aJ → Option (RT Unit)) : Nat → Int32 → Int32 → Int32 → aI → aJ → Option (RT Unit)
  | 0, _, _, _, _, _ => none
  | n + 1, x1, x2, x3, I, J => HX8_stray_66  k23 (LX8_stray_66  k23 n) x1 x2 x3 I J
def BX8_stray_62  (k23 : Int32 → aI → aJ → Option (RT Unit)) (x1 : Int32) (x2 : Int32) (s0 : Int64) (s1 : Int64) (s2 : Int32) (I : aI) (J : aJ) : Option (RT Unit) := gd (inb s2 6) (LX8_stray_66  k23 128 x1 x2 0 I (pJ J 18 (Int32.toNatClampNeg s2) (s1 + s0)))
def HX8_stray_23  (k23 : Int32 → aI → aJ → Option (RT Unit)) (x1 : Int32) (I : aI) (J : aJ) : Option (RT Unit) := if (I 0 3) ≤ x1 then LX8_stray_144   128 0 I J else bnd (fX8_roadsAt  x1 I J) fun r4 I4 J4 => gd (inb x1 6) (if r4 = 0 then BX8_stray_62  k23 x1 r4 (840 * (J4 17 (Int32.toNatClampNeg x1))) (J4 18 (Int32.toNatClampNeg x1)) x1 I4 J4 else BX8_stray_62  k23 x1 r4 0 (J4 18 (Int32.toNatClampNeg x1)) x1 I4 J4)
def LX8_stray_23   : Nat → Int32 → aI → aJ → Option (RT Unit)
  | 0, _, _, _ => none
  | n + 1, x1, I, J => HX8_stray_23   (LX8_stray_23   n) x1 I J
def HX8_stray_2  (k2 : Int32 → aI → aJ → Option (RT Unit)) (x1 : Int32) (I : aI) (J : aJ) : Option (RT Unit) := if 6 ≤ x1 then LX8_stray_23   128 0 I J else gd (inb x1 6) (k2 (x1 + 1) I (pJ J 18 (Int32.toNatClampNeg x1) 0))
def LX8_stray_2   : Nat → Int32 → aI → aJ → Option (RT Unit)
  | 0, _, _, _ => none
  | n + 1, x1, I, J => HX8_stray_2   (LX8_stray_2   n) x1 I J
def fX8_stray  (I : aI) (J : aJ) : Option (RT Unit) := LX8_stray_2   128 0 I J
-- X8_oddsOf
def BX8_oddsOf_130   (s0 : Int64) (I : aI) (J : aJ) : Option (RT Int32) := some ((Int64.toInt32 s0), I, J)
def HX8_oddsOf_88  (k88 : Int32 → Int64 → Int64 → Int64 → Int64 → aI → aJ → Option (RT Int32)) (x3 : Int32) (x4 : Int64) (x6 : Int64) (x8 : Int64) (x10 : Int64) (I : aI) (J : aJ) : Option (RT Int32) := if (lg_cmp x10 0) ≤ 0 then if x3 = 0 then gd (decide (¬ x8 = 0)) (BX8_oddsOf_130   (x6 / x8) I J) else gd (decide (¬ x8 = 0)) (BX8_oddsOf_130   (x4 / x8) I J) else gd (decide (¬ x10 = 0)) (k88 x3 x4 x6 x10 (x8 - x8 / x10 * x10) I J)
def LX8_oddsOf_88   : Nat → Int32 → Int64 → Int64 → Int64 → Int64 → aI → aJ → Option (RT Int32)
  | 0, _, _, _, _, _, _, _ => none
  | n + 1, x3, x4, x6, x8, x10, I, J => HX8_oddsOf_88   (LX8_oddsOf_88   n) x3 x4 x6 x8 x10 I J
def HX8_oddsOf_43  (k43 : Int32 → Int32 → Int32 → Int64 → Int32 → aI → aJ → Option (RT Int32)) (x1 : Int32) (x2 : Int32) (x3 : Int32) (x4 : Int64) (x6 : Int32) (I : aI) (J : aJ) : Option (RT Int32) := if x2 ≤ x6 then gd (inb x1 6) (gd (inb (I 5 (Int32.toNatClampNeg x1)) 6) (LX8_oddsOf_88   128 x3 x4 (J 17 (Int32.toNatClampNeg (I 5 (Int32.toNatClampNeg x1)))) x4 (J 17 (Int32.toNatClampNeg (I 5 (Int32.toNatClampNeg x1)))) I J)) else bnd (fX8_stray   I J) fun r6 I6 J6 => k43 x1 x2 x3 (x4 * 840) (x6 + 1) I6 J6
def LX8_oddsOf_43   : Nat → Int32 → Int32 → Int32 → Int64 → Int32 → aI → aJ → Option (RT Int32)
  | 0, _, _, _, _, _, _, _ => none
  | n + 1, x1, x2, x3, x4, x6, I, J => HX8_oddsOf_43   (LX8_oddsOf_43   n) x1 x2 x3 x4 x6 I J
def BX8_oddsOf_33  (k6 : Int32 → Int32 → Int32 → Int64 → Int32 → aI → aJ → Option (RT Int32)) (x1 : Int32) (x2 : Int32) (x3 : Int32) (x4 : Int64) (x6 : Int32) (s0 : Int64) (s1 : Int32) (I : aI) (J : aJ) : Option (RT Int32) := gd (inb s1 6) (k6 x1 x2 x3 x4 (x6 + 1) I (pJ J 17 (Int32.toNatClampNeg s1) s0))
def HX8_oddsOf_6  (k6 : Int32 → Int32 → Int32 → Int64 → Int32 → aI → aJ → Option (RT Int32)) (x1 : Int32) (x2 : Int32) (x3 : Int32) (x4 : Int64) (x6 : Int32) (I : aI) (J : aJ) : Option (RT Int32) := if 6 ≤ x6 then LX8_oddsOf_43   128 x1 x2 x3 x4 0 I J else if x6 = (I 0 6) then BX8_oddsOf_33  k6 x1 x2 x3 x4 x6 1 x6 I J else BX8_oddsOf_33  k6 x1 x2 x3 x4 x6 0 x6 I J
def LX8_oddsOf_6   : Nat → Int32 → Int32 → Int32 → Int64 → Int32 → aI → aJ → Option (RT Int32)
  | 0, _, _, _, _, _, _, _ => none
  | n + 1, x1, x2, x3, x4, x6, I, J => HX8_oddsOf_6   (LX8_oddsOf_6   n) x1 x2 x3 x4 x6 I J
def fX8_oddsOf (x1 : Int32) (x2 : Int32) (x3 : Int32) (I : aI) (J : aJ) : Option (RT Int32) := LX8_oddsOf_6   128 x1 x2 x3 1 0 I J
-- X8_sayThings
def HX8_sayThings_50  (k40 : Int32 → aI → aJ → Option (RT Unit)) (k50 : Int32 → Int32 → aI → aJ → Option (RT Unit)) (x1 : Int32) (x2 : Int32) (I : aI) (J : aJ) : Option (RT Unit) := if 4 ≤ x2 then k40 (x1 + 1) I J else bnd (fX8_tellCorner  x1 x2 I J) fun r7 I7 J7 => bnd (fX8_say  (Int32.toInt64 r7) I7 J7) fun r8 I8 J8 => k50 x1 (x2 + 1) I8 J8
def LX8_sayThings_50  (k40 : Int32 → aI → aJ → Option (RT Unit)) : Nat → Int32 → Int32 → aI → aJ → Option (RT Unit)
  | 0, _, _, _, _ => none
  | n + 1, x1, x2, I, J => HX8_sayThings_50  k40 (LX8_sayThings_50  k40 n) x1 x2 I J
def HX8_sayThings_40  (k40 : Int32 → aI → aJ → Option (RT Unit)) (x1 : Int32) (I : aI) (J : aJ) : Option (RT Unit) := if (I 0 3) ≤ x1 then some ((), I, J) else LX8_sayThings_50  k40 128 x1 0 I J
def LX8_sayThings_40   : Nat → Int32 → aI → aJ → Option (RT Unit)
  | 0, _, _, _ => none
  | n + 1, x1, I, J => HX8_sayThings_40   (LX8_sayThings_40   n) x1 I J
def HX8_sayThings_2  (k2 : Int32 → aI → aJ → Option (RT Unit)) (x1 : Int32) (I : aI) (J : aJ) : Option (RT Unit) := if (I 0 4) ≤ x1 then LX8_sayThings_40   128 0 I J else gd (inb x1 8) (bnd (fX8_say  (Int32.toInt64 (I 2 (Int32.toNatClampNeg x1))) I J) fun r3 I3 J3 => bnd (fX8_say  (Int32.toInt64 (I3 3 (Int32.toNatClampNeg x1))) I3 J3) fun r4 I4 J4 => k2 (x1 + 1) I4 J4)
def LX8_sayThings_2   : Nat → Int32 → aI → aJ → Option (RT Unit)
  | 0, _, _, _ => none
  | n + 1, x1, I, J => HX8_sayThings_2   (LX8_sayThings_2   n) x1 I J
def fX8_sayThings  (I : aI) (J : aJ) : Option (RT Unit) := LX8_sayThings_2   128 0 I J
-- X8_digest
def HX8_digest_130  (k130 : Int32 → aI → aJ → Option (RT Int64)) (x1 : Int32) (I : aI) (J : aJ) : Option (RT Int64) := if 12 ≤ x1 then some ((J 0 40), I, J) else bnd (fX8_countOf  x1 I J) fun r13 I13 J13 => bnd (fX8_say  (Int32.toInt64 r13) I13 J13) fun r14 I14 J14 => k130 (x1 + 1) I14 J14
def LX8_digest_130   : Nat → Int32 → aI → aJ → Option (RT Int64)
  | 0, _, _, _ => none
  | n + 1, x1, I, J => HX8_digest_130   (LX8_digest_130   n) x1 I J
def HX8_digest_103  (k103 : Int32 → aI → aJ → Option (RT Int64)) (x1 : Int32) (I : aI) (J : aJ) : Option (RT Int64) := if (I 0 1) ≤ x1 then LX8_digest_130   128 0 I J else gd (inb x1 60) (bnd (fX8_say  (Int32.toInt64 (I 1 (Int32.toNatClampNeg x1))) I J) fun r11 I11 J11 => k103 (x1 + 1) I11 J11)
def LX8_digest_103   : Nat → Int32 → aI → aJ → Option (RT Int64)
  | 0, _, _, _ => none
  | n + 1, x1, I, J => HX8_digest_103   (LX8_digest_103   n) x1 I J
def BX8_digest_101    (I : aI) (J : aJ) : Option (RT Int64) := LX8_digest_103   128 0 I J
def HX8_digest_19  (k9 : Int32 → aI → aJ → Option (RT Int64)) (k19 : Int32 → Int32 → aI → aJ → Option (RT Int64)) (x1 : Int32) (x2 : Int32) (I : aI) (J : aJ) : Option (RT Int64) := if 9 ≤ x2 then bnd (fX8_oddsOf  x1 2 0 I J) fun r16 I16 J16 => bnd (fX8_say  (Int32.toInt64 r16) I16 J16) fun r17 I17 J17 => bnd (fX8_oddsOf  x1 2 1 I17 J17) fun r18 I18 J18 => bnd (fX8_say  (Int32.toInt64 r18) I18 J18) fun r19 I19 J19 => k9 (x1 + 1) I19 J19 else bnd (fX8_tellPerson  x1 x2 I J) fun r20 I20 J20 => bnd (fX8_say  (Int32.toInt64 r20) I20 J20) fun r21 I21 J21 => k19 x1 (x2 + 1) I21 J21
def LX8_digest_19  (k9 : Int32 → aI → aJ → Option (RT Int64)) : Nat → Int32 → Int32 → aI → aJ → Option (RT Int64)
  | 0, _, _, _, _ => none
  | n + 1, x1, x2, I, J => HX8_digest_19  k9 (LX8_digest_19  k9 n) x1 x2 I J
def HX8_digest_9  (k9 : Int32 → aI → aJ → Option (RT Int64)) (x1 : Int32) (I : aI) (J : aJ) : Option (RT Int64) := if (I 0 5) ≤ x1 then bnd (fX8_sayThings   I J) fun r2 I2 J2 => bnd (fX8_lacks   I2 J2) fun r3 I3 J3 => if r3 = 0 then bnd (fX8_placesOf   I3 J3) fun r5 I5 J5 => bnd (fX8_say  (Int32.toInt64 r5) I5 J5) fun r6 I6 J6 => bnd (fX8_askOf   I6 J6) fun r7 I7 J7 => bnd (fX8_say  (Int32.toInt64 r7) I7 J7) fun r8 I8 J8 => BX8_digest_101    I8 J8 else BX8_digest_101    I3 J3 else LX8_digest_19  k9 128 x1 0 I J
def LX8_digest_9   : Nat → Int32 → aI → aJ → Option (RT Int64)
  | 0, _, _, _ => none
  | n + 1, x1, I, J => HX8_digest_9   (LX8_digest_9   n) x1 I J
def fX8_digest  (I : aI) (J : aJ) : Option (RT Int64) := LX8_digest_9   128 0 I (pJ J 0 40 1237)
-- X8_draw
def fX8_draw (x1 : Int32) (I : aI) (J : aJ) : Option (RT Int32) := gd (decide (¬ x1 = 0)) (some (((((pI I 0 29 (Int64.toInt32 (((1103515245 * (Int32.toInt64 (I 0 29))) + 12345) &&& 2147483647))) 0 29) / 65536) - (((pI I 0 29 (Int64.toInt32 (((1103515245 * (Int32.toInt64 (I 0 29))) + 12345) &&& 2147483647))) 0 29) / 65536) / x1 * x1), (pI I 0 29 (Int64.toInt32 (((1103515245 * (Int32.toInt64 (I 0 29))) + 12345) &&& 2147483647))), J))
-- X8_goThen
def BX8_goThen_140  (k5 : Int32 → Int32 → Int32 → Int32 → aI → aJ → Option (RT Int32)) (x1 : Int32) (x2 : Int32) (x3 : Int32) (x4 : Int32) (I : aI) (J : aJ) : Option (RT Int32) := k5 x1 x2 x3 (x4 + 1) I J
def BX8_goThen_129  (k5 : Int32 → Int32 → Int32 → Int32 → aI → aJ → Option (RT Int32)) (x1 : Int32) (x2 : Int32) (x3 : Int32) (x4 : Int32) (s0 : Int32) (s1 : Int32) (I : aI) (J : aJ) : Option (RT Int32) := gd (inb s1 6) (gd (inb x4 6) (BX8_goThen_140  k5 x1 x2 (x3 + ((pI I 12 (Int32.toNatClampNeg s1) s0) 12 (Int32.toNatClampNeg x4))) x4 (pI I 12 (Int32.toNatClampNeg s1) s0) J))
def BX8_goThen_63  (k5 : Int32 → Int32 → Int32 → Int32 → aI → aJ → Option (RT Int32)) (x1 : Int32) (x2 : Int32) (x3 : Int32) (x4 : Int32) (s0 : Int32) (s1 : Int32) (I : aI) (J : aJ) : Option (RT Int32) := gd (inb s1 6) (BX8_goThen_140  k5 x1 x2 x3 x4 (pI I 11 (Int32.toNatClampNeg s1) s0) J)
def BX8_goThen_56  (k5 : Int32 → Int32 → Int32 → Int32 → aI → aJ → Option (RT Int32)) (x1 : Int32) (x2 : Int32) (x3 : Int32) (x4 : Int32) (s0 : Int32) (I : aI) (J : aJ) : Option (RT Int32) := gd (inb x4 6) (BX8_goThen_63  k5 x1 x2 x3 x4 (I 11 (Int32.toNatClampNeg x4)) s0 I J)
def HX8_goThen_5  (k5 : Int32 → Int32 → Int32 → Int32 → aI → aJ → Option (RT Int32)) (x1 : Int32) (x2 : Int32) (x3 : Int32) (x4 : Int32) (I : aI) (J : aJ) : Option (RT Int32) := if (I 0 5) ≤ x4 then some (x3, I, J) else gd (inb x4 6) (if (I 5 (Int32.toNatClampNeg x4)) = x1 then if (I 12 (Int32.toNatClampNeg x4)) = 0 then bnd (fX8_isTime  x4 x2 I J) fun r5 I5 J5 => if r5 = 0 then BX8_goThen_140  k5 x1 x2 x3 x4 I5 J5 else bnd (fX8_needs  ((pI I5 11 (Int32.toNatClampNeg x4) ((I5 11 (Int32.toNatClampNeg x4)) + 1)) 4 (Int32.toNatClampNeg x4)) (pI I5 11 (Int32.toNatClampNeg x4) ((I5 11 (Int32.toNatClampNeg x4)) + 1)) J5) fun r7 I7 J7 => if ((pI I5 11 (Int32.toNatClampNeg x4) ((I5 11 (Int32.toNatClampNeg x4)) + 1)) 11 (Int32.toNatClampNeg x4)) < r7 then BX8_goThen_129  k5 x1 x2 x3 x4 0 x4 I7 J7 else BX8_goThen_129  k5 x1 x2 x3 x4 1 x4 I7 J7 else BX8_goThen_140  k5 x1 x2 x3 x4 I J else if (I 4 (Int32.toNatClampNeg x4)) = 3 then if (I 12 (Int32.toNatClampNeg x4)) = 0 then BX8_goThen_63  k5 x1 x2 x3 x4 0 x4 I J else BX8_goThen_56  k5 x1 x2 x3 x4 x4 I J else BX8_goThen_56  k5 x1 x2 x3 x4 x4 I J)
def LX8_goThen_5   : Nat → Int32 → Int32 → Int32 → Int32 → aI → aJ → Option (RT Int32)
  | 0, _, _, _, _, _, _ => none
  | n + 1, x1, x2, x3, x4, I, J => HX8_goThen_5   (LX8_goThen_5   n) x1 x2 x3 x4 I J
def fX8_goThen (x1 : Int32) (x2 : Int32) (I : aI) (J : aJ) : Option (RT Int32) := LX8_goThen_5   128 x1 x2 0 0 I J
-- X8_evenings
def BX8_evenings_28    (I : aI) (J : aJ) : Option (RT Int32) := some ((-102), I, J)
def BX8_evenings_173   (s0 : Int32) (I : aI) (J : aJ) : Option (RT Int32) := some (s0, I, J)
def BX8_evenings_124  (k62 : Int32 → Int32 → Int32 → Int32 → Int32 → aI → aJ → Option (RT Int32)) (x1 : Int32) (x3 : Int32) (x5 : Int32) (x6 : Int32) (s0 : Int32) (I : aI) (J : aJ) : Option (RT Int32) := bnd (fX8_goThen  s0 ((I 0 7) + x6) I J) fun r16 I16 J16 => k62 x1 x3 s0 (x5 + r16) (x6 + 1) I16 J16
def HX8_evenings_62  (k62 : Int32 → Int32 → Int32 → Int32 → Int32 → aI → aJ → Option (RT Int32)) (x1 : Int32) (x3 : Int32) (x4 : Int32) (x5 : Int32) (x6 : Int32) (I : aI) (J : aJ) : Option (RT Int32) := if x1 < x6 then if x3 = 0 then BX8_evenings_173   x5 I J else if x3 = 1 then BX8_evenings_173   x4 I J else BX8_evenings_173   (I 0 29) I J else bnd (fX8_draw  (I 0 4) I J) fun r12 I12 J12 => gd (inb r12 8) (if (I12 2 (Int32.toNatClampNeg r12)) = x4 then BX8_evenings_124  k62 x1 x3 x5 x6 (I12 3 (Int32.toNatClampNeg r12)) I12 J12 else if (I12 3 (Int32.toNatClampNeg r12)) = x4 then BX8_evenings_124  k62 x1 x3 x5 x6 (I12 2 (Int32.toNatClampNeg r12)) I12 J12 else BX8_evenings_124  k62 x1 x3 x5 x6 x4 I12 J12)
def LX8_evenings_62   : Nat → Int32 → Int32 → Int32 → Int32 → Int32 → aI → aJ → Option (RT Int32)
  | 0, _, _, _, _, _, _, _ => none
  | n + 1, x1, x3, x4, x5, x6, I, J => HX8_evenings_62   (LX8_evenings_62   n) x1 x3 x4 x5 x6 I J
def fX8_evenings (x1 : Int32) (x2 : Int32) (x3 : Int32) (I : aI) (J : aJ) : Option (RT Int32) := bnd (fX8_in  (Int32.toInt64 x1) 1 60 I J) fun r1 I1 J1 => if r1 = 0 then BX8_evenings_28    I1 J1 else if x2 < 0 then BX8_evenings_28    I1 J1 else bnd (fX8_in  (Int32.toInt64 x3) 0 2 I1 J1) fun r4 I4 J4 => if r4 = 0 then BX8_evenings_28    I4 J4 else bnd (fX8_lacks   I4 J4) fun r6 I6 J6 => if r6 = 0 then bnd (fX8_begin   (pI I6 0 29 x2) J6) fun r8 I8 J8 => LX8_evenings_62   128 x1 x3 (I8 0 6) 0 1 I8 J8 else some ((-103), I6, J6)
-- X8_far
def BX8_far_27   (s0 : Int32) (I : aI) (J : aJ) : Option (RT Int32) := some (s0, I, J)
def BX8_far_25    (I : aI) (J : aJ) : Option (RT Int32) := BX8_far_27   (-101) I J
def fX8_far (x1 : Int32) (x2 : Int32) (I : aI) (J : aJ) : Option (RT Int32) := bnd (fX8_isCorner  x1 I J) fun r1 I1 J1 => if r1 = 0 then BX8_far_25    I1 J1 else bnd (fX8_isCorner  x2 I1 J1) fun r3 I3 J3 => if r3 = 0 then BX8_far_25    I3 J3 else bnd (fX8_farOf  x1 x2 I3 J3) fun r5 I5 J5 => BX8_far_27   r5 I5 J5
-- X8_isCornerLetter
def fX8_isCornerLetter (x1 : Int32) (I : aI) (J : aJ) : Option (RT Int32) := bnd (fX8_in  (Int32.toInt64 x1) 48 (Int32.toInt64 ((I 1 (Int32.toNatClampNeg 0)) - 1)) I J) fun r1 I1 J1 => gd (decide (r1 = 0 ∨ r1 = 1)) (some (r1, I1, J1))
-- X8_isRoadLetter
def BX8_isRoadLetter_71   (s0 : Int32) (I : aI) (J : aJ) : Option (RT Int32) := gd (decide (s0 = 0 ∨ s0 = 1)) (some (s0, I, J))
def BX8_isRoadLetter_70    (I : aI) (J : aJ) : Option (RT Int32) := BX8_isRoadLetter_71   0 I J
def BX8_isRoadLetter_102   (s0 : Int32) (I : aI) (J : aJ) : Option (RT Int32) := gd (decide (s0 = 0 ∨ s0 = 1)) (some (s0, I, J))
def BX8_isRoadLetter_101    (I : aI) (J : aJ) : Option (RT Int32) := BX8_isRoadLetter_102   0 I J
def fX8_isRoadLetter (x1 : Int32) (I : aI) (J : aJ) : Option (RT Int32) := gd (inb x1 60) (if ((x1 - 3) - (x1 - 3) / 3 * 3) = 0 then bnd (fX8_isCornerLetter  (I 1 (Int32.toNatClampNeg x1)) I J) fun r3 I3 J3 => gd (decide (r3 = 0 ∨ r3 = 1)) (some (r3, I3, J3)) else if ((x1 - 3) - (x1 - 3) / 3 * 3) = 1 then bnd (fX8_isCornerLetter  (I 1 (Int32.toNatClampNeg x1)) I J) fun r6 I6 J6 => if r6 = 0 then BX8_isRoadLetter_70    I6 J6 else gd (inb (x1 - 1) 60) (if (I 1 (Int32.toNatClampNeg x1)) = (I6 1 (Int32.toNatClampNeg (x1 - 1))) then BX8_isRoadLetter_70    I6 J6 else BX8_isRoadLetter_71   1 I6 J6) else if (I 1 (Int32.toNatClampNeg x1)) = 59 then some (1, (pI I 0 2 x1), J) else if (I 1 (Int32.toNatClampNeg x1)) = 44 then if 23 ≤ (x1 - 3) then BX8_isRoadLetter_101    I J else BX8_isRoadLetter_102   1 I J else BX8_isRoadLetter_101    I J)
-- X8_kindBy
def fX8_kindBy (x0 : Int32) (I : aI) (J : aJ) : Option (RT Int32) := if x0 = 99 then some (2, I, J) else if x0 = 100 then some (4, I, J) else if x0 = 104 then some (3, I, J) else if x0 = 112 then some (0, I, J) else if x0 = 116 then some (1, I, J) else some ((-1), I, J)
-- X8_isPersonLetter
def BX8_isPersonLetter_65   (s0 : Int32) (I : aI) (J : aJ) : Option (RT Int32) := gd (decide (s0 = 0 ∨ s0 = 1)) (some (s0, I, J))
def BX8_isPersonLetter_89   (s0 : Int32) (I : aI) (J : aJ) : Option (RT Int32) := gd (decide (s0 = 0 ∨ s0 = 1)) (some (s0, I, J))
def BX8_isPersonLetter_88    (I : aI) (J : aJ) : Option (RT Int32) := BX8_isPersonLetter_89   0 I J
def fX8_isPersonLetter (x1 : Int32) (I : aI) (J : aJ) : Option (RT Int32) := gd (inb x1 60) (if (((x1 - (I 0 2)) - 1) - ((x1 - (I 0 2)) - 1) / 5 * 5) = 0 then bnd (fX8_kindBy  (I 1 (Int32.toNatClampNeg x1)) I J) fun r3 I3 J3 => if r3 = (-1) then BX8_isPersonLetter_65   0 I3 J3 else BX8_isPersonLetter_65   1 I3 J3 else if (((x1 - (I 0 2)) - 1) - ((x1 - (I 0 2)) - 1) / 5 * 5) = 1 then bnd (fX8_isCornerLetter  (I 1 (Int32.toNatClampNeg x1)) I J) fun r6 I6 J6 => gd (decide (r6 = 0 ∨ r6 = 1)) (some (r6, I6, J6)) else if (((x1 - (I 0 2)) - 1) - ((x1 - (I 0 2)) - 1) / 5 * 5) = 2 then bnd (fX8_in  (Int32.toInt64 (I 1 (Int32.toNatClampNeg x1))) 48 57 I J) fun r9 I9 J9 => gd (decide (r9 = 0 ∨ r9 = 1)) (some (r9, I9, J9)) else if (((x1 - (I 0 2)) - 1) - ((x1 - (I 0 2)) - 1) / 5 * 5) = 3 then bnd (fX8_in  (Int32.toInt64 (I 1 (Int32.toNatClampNeg x1))) 48 57 I J) fun r12 I12 J12 => gd (decide (r12 = 0 ∨ r12 = 1)) (some (r12, I12, J12)) else if (((x1 - (I 0 2)) - 1) - ((x1 - (I 0 2)) - 1) / 5 * 5) = 4 then if (I 1 (Int32.toNatClampNeg x1)) = 44 then if 29 ≤ ((x1 - (I 0 2)) - 1) then BX8_isPersonLetter_88    I J else BX8_isPersonLetter_89   1 I J else BX8_isPersonLetter_88    I J else bnd (fX8_in  (Int32.toInt64 (I 1 (Int32.toNatClampNeg x1))) 48 57 I J) fun r17 I17 J17 => gd (decide (r17 = 0 ∨ r17 = 1)) (some (r17, I17, J17)))
-- X8_isGood
def BX8_isGood_83   (s0 : Int32) (I : aI) (J : aJ) : Option (RT Int32) := gd (decide (s0 = 0 ∨ s0 = 1)) (some (s0, I, J))
def BX8_isGood_62   (s0 : Int32) (I : aI) (J : aJ) : Option (RT Int32) := gd (decide (s0 = 0 ∨ s0 = 1)) (some (s0, I, J))
def fX8_isGood (x1 : Int32) (I : aI) (J : aJ) : Option (RT Int32) := if 3 ≤ x1 then if (I 0 2) = 0 then bnd (fX8_isRoadLetter  x1 I J) fun r4 I4 J4 => BX8_isGood_83   r4 I4 J4 else bnd (fX8_isPersonLetter  x1 I J) fun r3 I3 J3 => BX8_isGood_83   r3 I3 J3 else if x1 = 0 then bnd (fX8_in  (Int32.toInt64 (I 1 (Int32.toNatClampNeg 0))) 50 54 I J) fun r9 I9 J9 => BX8_isGood_62   r9 I9 J9 else if x1 = 1 then bnd (fX8_isCornerLetter  (I 1 (Int32.toNatClampNeg 1)) I J) fun r8 I8 J8 => BX8_isGood_62   r8 I8 J8 else if (I 1 (Int32.toNatClampNeg 2)) = 59 then BX8_isGood_62   1 I J else BX8_isGood_62   0 I J
-- X8_faultOf
def BX8_faultOf_29   (x1 : Int32) (I : aI) (J : aJ) : Option (RT Int32) := some (x1, I, J)
def HX8_faultOf_7  (k7 : Int32 → aI → aJ → Option (RT Int32)) (x1 : Int32) (I : aI) (J : aJ) : Option (RT Int32) := if (I 0 1) ≤ x1 then BX8_faultOf_29   x1 I J else bnd (fX8_isGood  x1 I J) fun r2 I2 J2 => if r2 = 0 then BX8_faultOf_29   x1 I2 J2 else k7 (x1 + 1) I2 J2
def LX8_faultOf_7   : Nat → Int32 → aI → aJ → Option (RT Int32)
  | 0, _, _, _ => none
  | n + 1, x1, I, J => HX8_faultOf_7   (LX8_faultOf_7   n) x1 I J
def fX8_faultOf  (I : aI) (J : aJ) : Option (RT Int32) := LX8_faultOf_7   128 0 (pI I 0 2 0) J
-- X8_fault
def fX8_fault  (I : aI) (J : aJ) : Option (RT Int32) := bnd (fX8_faultOf   I J) fun r1 I1 J1 => some (r1, I1, J1)
-- X8_figure
def HX8_figure_7  (k7 : Int32 → Int32 → Int32 → aI → aJ → Option (RT Int32)) (x1 : Int32) (x3 : Int32) (x4 : Int32) (I : aI) (J : aJ) : Option (RT Int32) := if x1 ≤ x4 then some ((x3 - x3 / 6 * 6), I, J) else k7 x1 (x3 / 6) (x4 + 1) I J
def LX8_figure_7   : Nat → Int32 → Int32 → Int32 → aI → aJ → Option (RT Int32)
  | 0, _, _, _, _, _ => none
  | n + 1, x1, x3, x4, I, J => HX8_figure_7   (LX8_figure_7   n) x1 x3 x4 I J
def fX8_figure (x0 : Int32) (x1 : Int32) (x2 : Int32) (I : aI) (J : aJ) : Option (RT Int32) := LX8_figure_7   128 x1 x0 (x2 + 1) I J
-- X8_forget
def fX8_forget  (I : aI) (J : aJ) : Option (RT Int32) := some ((I 0 27), (pI I 0 27 0), J)
-- X8_go
def fX8_go (x1 : Int32) (I : aI) (J : aJ) : Option (RT Int32) := bnd (fX8_isCorner  x1 I J) fun r1 I1 J1 => if r1 = 0 then some ((-101), I1, J1) else bnd (fX8_isNext  (I1 0 6) x1 I1 J1) fun r3 I3 J3 => if r3 = 0 then some ((-103), I3, J3) else if (I3 0 7) = 999 then some ((-104), I3, J3) else bnd (fX8_begin   (pI (pI I3 0 7 ((I3 0 7) + 1)) 0 6 x1) J3) fun r6 I6 J6 => bnd (fX8_goThen  (I6 0 6) (I6 0 7) I6 J6) fun r7 I7 J7 => bnd (fX8_copy  11 6 8 6 I7 J7) fun r8 I8 J8 => bnd (fX8_copy  12 6 9 6 I8 J8) fun r9 I9 J9 => some (r7, I9, J9)
-- X8_image
def fX8_image  (I : aI) (J : aJ) : Option (RT Int32) := bnd (fX8_lacks   I J) fun r1 I1 J1 => if r1 = 0 then bnd (fX8_copy  4 6 20 6 I1 J1) fun r3 I3 J3 => bnd (fX8_copy  6 6 21 6 I3 J3) fun r4 I4 J4 => bnd (fX8_copy  7 6 22 6 I4 J4) fun r5 I5 J5 => bnd (fX8_copy  8 6 23 6 I5 J5) fun r6 I6 J6 => bnd (fX8_copy  9 6 24 6 I6 J6) fun r7 I7 J7 => bnd (fX8_copy  19 12 25 12 I7 J7) fun r8 I8 J8 => some (((pI (pI (pI (pI I8 0 31 (I8 0 6)) 0 32 ((pI I8 0 31 (I8 0 6)) 0 7)) 0 33 ((pI (pI I8 0 31 (I8 0 6)) 0 32 ((pI I8 0 31 (I8 0 6)) 0 7)) 0 27)) 0 30 ((pI (pI (pI I8 0 31 (I8 0 6)) 0 32 ((pI I8 0 31 (I8 0 6)) 0 7)) 0 33 ((pI (pI I8 0 31 (I8 0 6)) 0 32 ((pI I8 0 31 (I8 0 6)) 0 7)) 0 27)) 0 8)) 0 7), (pI (pI (pI (pI I8 0 31 (I8 0 6)) 0 32 ((pI I8 0 31 (I8 0 6)) 0 7)) 0 33 ((pI (pI I8 0 31 (I8 0 6)) 0 32 ((pI I8 0 31 (I8 0 6)) 0 7)) 0 27)) 0 30 ((pI (pI (pI I8 0 31 (I8 0 6)) 0 32 ((pI I8 0 31 (I8 0 6)) 0 7)) 0 33 ((pI (pI I8 0 31 (I8 0 6)) 0 32 ((pI I8 0 31 (I8 0 6)) 0 7)) 0 27)) 0 8)), J8) else some ((-103), I1, J1)
-- X8_layFars
def BX8_layFars_178  (k39 : Int32 → aI → aJ → Option (RT Unit)) (k47 : Int32 → Int32 → aI → aJ → Option (RT Unit)) (k57 : Int32 → Int32 → Int32 → aI → aJ → Option (RT Unit)) (x1 : Int32) (x2 : Int32) (x3 : Int32) (s0 : Int32) (s1 : Int32) (I : aI) (J : aJ) : Option (RT Unit) := gd (inb s1 36) (k57 x1 x2 (x3 + 1) (pI I 10 (Int32.toNatClampNeg s1) s0) J)
def BX8_layFars_133  (k39 : Int32 → aI → aJ → Option (RT Unit)) (k47 : Int32 → Int32 → aI → aJ → Option (RT Unit)) (k57 : Int32 → Int32 → Int32 → aI → aJ → Option (RT Unit)) (x1 : Int32) (x2 : Int32) (x3 : Int32) (x4 : Int32) (x5 : Int32) (s0 : Int32) (s1 : Int32) (I : aI) (J : aJ) : Option (RT Unit) := gd (inb s1 36) (gd (inb x4 36) (gd (inb x5 36) (if ((pI I 10 (Int32.toNatClampNeg s1) s0) 10 (Int32.toNatClampNeg x5)) ≤ (((pI I 10 (Int32.toNatClampNeg s1) s0) 10 (Int32.toNatClampNeg x4)) + 1) then BX8_layFars_178  k39 k47 k57 x1 x2 x3 ((pI I 10 (Int32.toNatClampNeg s1) s0) 10 (Int32.toNatClampNeg x5)) x5 (pI I 10 (Int32.toNatClampNeg s1) s0) J else BX8_layFars_178  k39 k47 k57 x1 x2 x3 (((pI I 10 (Int32.toNatClampNeg s1) s0) 10 (Int32.toNatClampNeg x4)) + 1) x5 (pI I 10 (Int32.toNatClampNeg s1) s0) J)))
def HX8_layFars_57  (k39 : Int32 → aI → aJ → Option (RT Unit)) (k47 : Int32 → Int32 → aI → aJ → Option (RT Unit)) (k57 : Int32 → Int32 → Int32 → aI → aJ → Option (RT Unit)) (x1 : Int32) (x2 : Int32) (x3 : Int32) (I : aI) (J : aJ) : Option (RT Unit) := if 6 ≤ x3 then k47 x1 (x2 + 1) I J else gd (inb x2 8) (gd (inb ((6 * (I 3 (Int32.toNatClampNeg x2))) + x3) 36) (gd (inb ((6 * (I 2 (Int32.toNatClampNeg x2))) + x3) 36) (if (I 10 (Int32.toNatClampNeg ((6 * (I 2 (Int32.toNatClampNeg x2))) + x3))) ≤ ((I 10 (Int32.toNatClampNeg ((6 * (I 3 (Int32.toNatClampNeg x2))) + x3))) + 1) then BX8_layFars_133  k39 k47 k57 x1 x2 x3 ((6 * (I 2 (Int32.toNatClampNeg x2))) + x3) ((6 * (I 3 (Int32.toNatClampNeg x2))) + x3) (I 10 (Int32.toNatClampNeg ((6 * (I 2 (Int32.toNatClampNeg x2))) + x3))) ((6 * (I 2 (Int32.toNatClampNeg x2))) + x3) I J else BX8_layFars_133  k39 k47 k57 x1 x2 x3 ((6 * (I 2 (Int32.toNatClampNeg x2))) + x3) ((6 * (I 3 (Int32.toNatClampNeg x2))) + x3) ((I 10 (Int32.toNatClampNeg ((6 * (I 3 (Int32.toNatClampNeg x2))) + x3))) + 1) ((6 * (I 2 (Int32.toNatClampNeg x2))) + x3) I J)))
def LX8_layFars_57  (k39 : Int32 → aI → aJ → Option (RT Unit)) (k47 : Int32 → Int32 → aI → aJ → Option (RT Unit)) : Nat → Int32 → Int32 → Int32 → aI → aJ → Option (RT Unit)
  | 0, _, _, _, _, _ => none
  | n + 1, x1, x2, x3, I, J => HX8_layFars_57  k39 k47 (LX8_layFars_57  k39 k47 n) x1 x2 x3 I J
def HX8_layFars_47  (k39 : Int32 → aI → aJ → Option (RT Unit)) (k47 : Int32 → Int32 → aI → aJ → Option (RT Unit)) (x1 : Int32) (x2 : Int32) (I : aI) (J : aJ) : Option (RT Unit) := if (I 0 4) ≤ x2 then k39 (x1 + 1) I J else LX8_layFars_57  k39 k47 128 x1 x2 0 I J
def LX8_layFars_47  (k39 : Int32 → aI → aJ → Option (RT Unit)) : Nat → Int32 → Int32 → aI → aJ → Option (RT Unit)
  | 0, _, _, _, _ => none
  | n + 1, x1, x2, I, J => HX8_layFars_47  k39 (LX8_layFars_47  k39 n) x1 x2 I J
def HX8_layFars_39  (k39 : Int32 → aI → aJ → Option (RT Unit)) (x1 : Int32) (I : aI) (J : aJ) : Option (RT Unit) := if 6 ≤ x1 then some ((), I, J) else LX8_layFars_47  k39 128 x1 0 I J
def LX8_layFars_39   : Nat → Int32 → aI → aJ → Option (RT Unit)
  | 0, _, _, _ => none
  | n + 1, x1, I, J => HX8_layFars_39   (LX8_layFars_39   n) x1 I J
def BX8_layFars_30  (k2 : Int32 → aI → aJ → Option (RT Unit)) (x1 : Int32) (s0 : Int32) (s1 : Int32) (I : aI) (J : aJ) : Option (RT Unit) := gd (inb s1 36) (k2 (x1 + 1) (pI I 10 (Int32.toNatClampNeg s1) s0) J)
def HX8_layFars_2  (k2 : Int32 → aI → aJ → Option (RT Unit)) (x1 : Int32) (I : aI) (J : aJ) : Option (RT Unit) := if 36 ≤ x1 then LX8_layFars_39   128 0 I J else if (x1 / 6) = (x1 - x1 / 6 * 6) then BX8_layFars_30  k2 x1 0 x1 I J else BX8_layFars_30  k2 x1 99 x1 I J
def LX8_layFars_2   : Nat → Int32 → aI → aJ → Option (RT Unit)
  | 0, _, _, _ => none
  | n + 1, x1, I, J => HX8_layFars_2   (LX8_layFars_2   n) x1 I J
def fX8_layFars  (I : aI) (J : aJ) : Option (RT Unit) := LX8_layFars_2   128 0 I J
-- X8_letter
def fX8_letter (x1 : Int32) (I : aI) (J : aJ) : Option (RT Int32) := bnd (fX8_in  (Int32.toInt64 x1) 1 126 I J) fun r1 I1 J1 => if r1 = 0 then some ((-102), I1, J1) else if (I1 0 1) = 60 then some ((-104), I1, J1) else gd (inb (I1 0 1) 60) (some (((pI (pI I1 1 (Int32.toNatClampNeg (I1 0 1)) x1) 0 1 (((pI I1 1 (Int32.toNatClampNeg (I1 0 1)) x1) 0 1) + 1)) 0 1), (pI (pI I1 1 (Int32.toNatClampNeg (I1 0 1)) x1) 0 1 (((pI I1 1 (Int32.toNatClampNeg (I1 0 1)) x1) 0 1) + 1)), J1))
-- X8_odds
def BX8_odds_45   (s0 : Int32) (I : aI) (J : aJ) : Option (RT Int32) := some (s0, I, J)
def BX8_odds_43    (I : aI) (J : aJ) : Option (RT Int32) := BX8_odds_45   (-102) I J
def fX8_odds (x1 : Int32) (x2 : Int32) (x3 : Int32) (I : aI) (J : aJ) : Option (RT Int32) := bnd (fX8_isPerson  x1 I J) fun r1 I1 J1 => if r1 = 0 then some ((-101), I1, J1) else bnd (fX8_in  (Int32.toInt64 x2) 1 4 I1 J1) fun r3 I3 J3 => if r3 = 0 then BX8_odds_43    I3 J3 else bnd (fX8_in  (Int32.toInt64 x3) 0 1 I3 J3) fun r5 I5 J5 => if r5 = 0 then BX8_odds_43    I5 J5 else bnd (fX8_oddsOf  x1 x2 x3 I5 J5) fun r7 I7 J7 => BX8_odds_45   r7 I7 J7
-- X8_person
def BX8_person_19   (s0 : Int32) (I : aI) (J : aJ) : Option (RT Int32) := some (s0, I, J)
def fX8_person (x1 : Int32) (x2 : Int32) (I : aI) (J : aJ) : Option (RT Int32) := bnd (fX8_isPerson  x1 I J) fun r1 I1 J1 => if r1 = 0 then BX8_person_19   (-101) I1 J1 else bnd (fX8_tellPerson  x1 x2 I1 J1) fun r3 I3 J3 => BX8_person_19   r3 I3 J3
-- X8_places
def BX8_places_16   (s0 : Int32) (I : aI) (J : aJ) : Option (RT Int32) := some (s0, I, J)
def fX8_places  (I : aI) (J : aJ) : Option (RT Int32) := bnd (fX8_lacks   I J) fun r1 I1 J1 => if r1 = 0 then bnd (fX8_placesOf   I1 J1) fun r3 I3 J3 => BX8_places_16   r3 I3 J3 else BX8_places_16   (-103) I1 J1
-- X8_restore
def fX8_restore  (I : aI) (J : aJ) : Option (RT Int32) := if (I 0 30) = (I 0 8) then bnd (fX8_copy  20 6 4 6 I J) fun r2 I2 J2 => bnd (fX8_copy  21 6 6 6 I2 J2) fun r3 I3 J3 => bnd (fX8_copy  22 6 7 6 I3 J3) fun r4 I4 J4 => bnd (fX8_copy  23 6 8 6 I4 J4) fun r5 I5 J5 => bnd (fX8_copy  24 6 9 6 I5 J5) fun r6 I6 J6 => bnd (fX8_copy  25 12 19 12 I6 J6) fun r7 I7 J7 => some (((pI (pI (pI I7 0 6 (I7 0 31)) 0 7 ((pI I7 0 6 (I7 0 31)) 0 32)) 0 27 ((pI (pI I7 0 6 (I7 0 31)) 0 7 ((pI I7 0 6 (I7 0 31)) 0 32)) 0 33)) 0 7), (pI (pI (pI I7 0 6 (I7 0 31)) 0 7 ((pI I7 0 6 (I7 0 31)) 0 32)) 0 27 ((pI (pI I7 0 6 (I7 0 31)) 0 7 ((pI I7 0 6 (I7 0 31)) 0 32)) 0 33)), J7) else some ((-103), I, J)
-- X8_road
def BX8_road_51   (s0 : Int32) (I : aI) (J : aJ) : Option (RT Int32) := some (s0, I, J)
def fX8_road (x1 : Int32) (x2 : Int32) (I : aI) (J : aJ) : Option (RT Int32) := bnd (fX8_in  (Int32.toInt64 x1) 0 (Int32.toInt64 ((I 0 4) - 1)) I J) fun r1 I1 J1 => if r1 = 0 then some ((-101), I1, J1) else bnd (fX8_in  (Int32.toInt64 x2) 0 1 I1 J1) fun r3 I3 J3 => if r3 = 0 then some ((-102), I3, J3) else if x2 = 0 then gd (inb x1 8) (BX8_road_51   (I3 2 (Int32.toNatClampNeg x1)) I3 J3) else gd (inb x1 8) (BX8_road_51   (I3 3 (Int32.toNatClampNeg x1)) I3 J3)
-- X8_worthOf
def BX8_worthOf_118  (k86 : Int32 → Int32 → aI → aJ → Option (RT Int32)) (x5 : Int32) (s0 : Int32) (s1 : Int32) (I : aI) (J : aJ) : Option (RT Int32) := k86 (s1 + s0) (x5 + 1) I J
def HX8_worthOf_86  (k86 : Int32 → Int32 → aI → aJ → Option (RT Int32)) (x4 : Int32) (x5 : Int32) (I : aI) (J : aJ) : Option (RT Int32) := if (I 0 5) ≤ x5 then some (x4, I, J) else gd (inb x5 6) (if (I 12 (Int32.toNatClampNeg x5)) = 0 then BX8_worthOf_118  k86 x5 (I 11 (Int32.toNatClampNeg x5)) x4 I J else BX8_worthOf_118  k86 x5 0 x4 I J)
def LX8_worthOf_86   : Nat → Int32 → Int32 → aI → aJ → Option (RT Int32)
  | 0, _, _, _, _ => none
  | n + 1, x4, x5, I, J => HX8_worthOf_86   (LX8_worthOf_86   n) x4 x5 I J
def BX8_worthOf_49    (I : aI) (J : aJ) : Option (RT Int32) := some ((-1), I, J)
def HX8_worthOf_15  (k15 : Int32 → Int32 → Int32 → Int32 → Int32 → aI → aJ → Option (RT Int32)) (x1 : Int32) (x2 : Int32) (x3 : Int32) (x4 : Int32) (x5 : Int32) (I : aI) (J : aJ) : Option (RT Int32) := if x2 ≤ x5 then LX8_worthOf_86   128 x4 0 I J else bnd (fX8_figure  x1 x2 x5 I J) fun r3 I3 J3 => if (I3 0 3) ≤ r3 then BX8_worthOf_49    I3 J3 else bnd (fX8_isNext  x3 r3 I3 J3) fun r5 I5 J5 => if r5 = 0 then BX8_worthOf_49    I5 J5 else bnd (fX8_goThen  r3 (((I5 0 7) + x5) + 1) I5 J5) fun r7 I7 J7 => k15 x1 x2 r3 (x4 + (100 * r7)) (x5 + 1) I7 J7
def LX8_worthOf_15   : Nat → Int32 → Int32 → Int32 → Int32 → Int32 → aI → aJ → Option (RT Int32)
  | 0, _, _, _, _, _, _, _ => none
  | n + 1, x1, x2, x3, x4, x5, I, J => HX8_worthOf_15   (LX8_worthOf_15   n) x1 x2 x3 x4 x5 I J
def fX8_worthOf (x1 : Int32) (x2 : Int32) (I : aI) (J : aJ) : Option (RT Int32) := bnd (fX8_begin   I J) fun r1 I1 J1 => LX8_worthOf_15   128 x1 x2 (I1 0 6) 0 0 I1 J1
-- X8_roundOf
def BX8_roundOf_129   (s0 : Int32) (I : aI) (J : aJ) : Option (RT Int32) := some (s0, I, J)
def BX8_roundOf_106   (s0 : Int32) (I : aI) (J : aJ) : Option (RT Int32) := some (s0, I, J)
def BX8_roundOf_76  (k31 : Int32 → Int32 → Int32 → Int32 → Int32 → Int32 → aI → aJ → Option (RT Int32)) (x1 : Int32) (x2 : Int32) (x3 : Int32) (x4 : Int32) (x6 : Int32) (s0 : Int32) (I : aI) (J : aJ) : Option (RT Int32) := k31 x1 x2 x3 x4 s0 (x6 + 1) I J
def BX8_roundOf_60  (k31 : Int32 → Int32 → Int32 → Int32 → Int32 → Int32 → aI → aJ → Option (RT Int32)) (x1 : Int32) (x2 : Int32) (x3 : Int32) (x5 : Int32) (x6 : Int32) (x7 : Int32) (s0 : Int32) (I : aI) (J : aJ) : Option (RT Int32) := if x7 ≤ x5 then BX8_roundOf_76  k31 x1 x2 x3 s0 x6 x5 I J else BX8_roundOf_76  k31 x1 x2 x3 s0 x6 x7 I J
def HX8_roundOf_31  (k31 : Int32 → Int32 → Int32 → Int32 → Int32 → Int32 → aI → aJ → Option (RT Int32)) (x1 : Int32) (x2 : Int32) (x3 : Int32) (x4 : Int32) (x5 : Int32) (x6 : Int32) (I : aI) (J : aJ) : Option (RT Int32) := if x3 ≤ x6 then if 2 ≤ x2 then if x1 ≤ (x2 - 10) then BX8_roundOf_129   (-1) I J else bnd (fX8_figure  x4 x1 (x2 - 10) I J) fun r5 I5 J5 => BX8_roundOf_129   r5 I5 J5 else if x2 = 0 then BX8_roundOf_106   (x5 / 100) I J else BX8_roundOf_106   (x5 - x5 / 100 * 100) I J else bnd (fX8_worthOf  x6 x1 I J) fun r7 I7 J7 => if r7 ≤ x5 then BX8_roundOf_60  k31 x1 x2 x3 x5 x6 r7 x4 I7 J7 else BX8_roundOf_60  k31 x1 x2 x3 x5 x6 r7 x6 I7 J7
def LX8_roundOf_31   : Nat → Int32 → Int32 → Int32 → Int32 → Int32 → Int32 → aI → aJ → Option (RT Int32)
  | 0, _, _, _, _, _, _, _, _ => none
  | n + 1, x1, x2, x3, x4, x5, x6, I, J => HX8_roundOf_31   (LX8_roundOf_31   n) x1 x2 x3 x4 x5 x6 I J
def HX8_roundOf_5  (k5 : Int32 → Int32 → Int32 → Int32 → aI → aJ → Option (RT Int32)) (x1 : Int32) (x2 : Int32) (x3 : Int32) (x4 : Int32) (I : aI) (J : aJ) : Option (RT Int32) := if x1 ≤ x4 then LX8_roundOf_31   8000 x1 x2 x3 0 (-1) 0 I J else k5 x1 x2 (x3 * 6) (x4 + 1) I J
def LX8_roundOf_5   : Nat → Int32 → Int32 → Int32 → Int32 → aI → aJ → Option (RT Int32)
  | 0, _, _, _, _, _, _ => none
  | n + 1, x1, x2, x3, x4, I, J => HX8_roundOf_5   (LX8_roundOf_5   n) x1 x2 x3 x4 I J
def fX8_roundOf (x1 : Int32) (x2 : Int32) (I : aI) (J : aJ) : Option (RT Int32) := LX8_roundOf_5   8000 x1 x2 1 0 I J
-- X8_round
def BX8_round_36    (I : aI) (J : aJ) : Option (RT Int32) := some ((-102), I, J)
def BX8_round_55    (I : aI) (J : aJ) : Option (RT Int32) := some ((-103), I, J)
def BX8_round_39   (x1 : Int32) (x2 : Int32) (I : aI) (J : aJ) : Option (RT Int32) := bnd (fX8_lacks   I J) fun r7 I7 J7 => if r7 = 0 then if (I7 0 24) = 20 then BX8_round_55    I7 J7 else bnd (fX8_roundOf  x1 x2 (pI I7 0 24 ((I7 0 24) + 1)) J7) fun r10 I10 J10 => some (r10, I10, J10) else BX8_round_55    I7 J7
def fX8_round (x1 : Int32) (x2 : Int32) (I : aI) (J : aJ) : Option (RT Int32) := bnd (fX8_in  (Int32.toInt64 x1) 1 5 I J) fun r1 I1 J1 => if r1 = 0 then BX8_round_36    I1 J1 else bnd (fX8_in  (Int32.toInt64 x2) 0 1 I1 J1) fun r3 I3 J3 => if r3 = 0 then bnd (fX8_in  (Int32.toInt64 x2) 10 14 I3 J3) fun r5 I5 J5 => if r5 = 0 then BX8_round_36    I5 J5 else BX8_round_39   x1 x2 I5 J5 else BX8_round_39   x1 x2 I3 J3
-- X8_see
def BX8_see_56   (s0 : Int32) (s1 : Int32) (I : aI) (J : aJ) : Option (RT Int32) := gd (inb s1 12) (some (((pI (pI I 19 (Int32.toNatClampNeg s1) s0) 0 27 (((pI I 19 (Int32.toNatClampNeg s1) s0) 0 27) + 1)) 0 27), (pI (pI I 19 (Int32.toNatClampNeg s1) s0) 0 27 (((pI I 19 (Int32.toNatClampNeg s1) s0) 0 27) + 1)), J))
def fX8_see (x1 : Int32) (x2 : Int32) (I : aI) (J : aJ) : Option (RT Int32) := bnd (fX8_isPerson  x1 I J) fun r1 I1 J1 => if r1 = 0 then some ((-101), I1, J1) else if (I1 0 27) = 6 then some ((-104), I1, J1) else gd (inb (2 * (I1 0 27)) 12) (if x2 = 0 then BX8_see_56   0 ((2 * ((pI I1 19 (Int32.toNatClampNeg (2 * (I1 0 27))) x1) 0 27)) + 1) (pI I1 19 (Int32.toNatClampNeg (2 * (I1 0 27))) x1) J1 else BX8_see_56   1 ((2 * ((pI I1 19 (Int32.toNatClampNeg (2 * (I1 0 27))) x1) 0 27)) + 1) (pI I1 19 (Int32.toNatClampNeg (2 * (I1 0 27))) x1) J1)
-- X8_stand
def fX8_stand (x1 : Int32) (I : aI) (J : aJ) : Option (RT Int32) := bnd (fX8_isCorner  x1 I J) fun r1 I1 J1 => if r1 = 0 then some ((-101), I1, J1) else some ((I1 0 6), (pI I1 0 6 x1), J1)
-- X8_suburb
def BX8_suburb_46    (I : aI) (J : aJ) : Option (RT Int32) := some ((-103), I, J)
def HX8_suburb_158  (k158 : Int32 → aI → aJ → Option (RT Int32)) (x1 : Int32) (I : aI) (J : aJ) : Option (RT Int32) := if (I 0 5) ≤ x1 then bnd (fX8_layFars   I J) fun r11 I11 J11 => some (((pI (pI (pI (pI I11 0 7 0) 0 27 0) 0 8 (((pI (pI I11 0 7 0) 0 27 0) 0 8) + 1)) 0 1 0) 0 5), (pI (pI (pI (pI I11 0 7 0) 0 27 0) 0 8 (((pI (pI I11 0 7 0) 0 27 0) 0 8) + 1)) 0 1 0), J11) else gd (inb (((I 0 2) + 1) + (5 * x1)) 60) (bnd (fX8_kindBy  (I 1 (Int32.toNatClampNeg (((I 0 2) + 1) + (5 * x1)))) I J) fun r13 I13 J13 => gd (inb x1 6) (gd (inb ((((I 0 2) + 1) + (5 * x1)) + 1) 60) (gd (inb ((((I 0 2) + 1) + (5 * x1)) + 2) 60) (gd (inb ((((I 0 2) + 1) + (5 * x1)) + 3) 60) (k158 (x1 + 1) (pI (pI (pI (pI (pI (pI I13 4 (Int32.toNatClampNeg x1) r13) 5 (Int32.toNatClampNeg x1) (((pI I13 4 (Int32.toNatClampNeg x1) r13) 1 (Int32.toNatClampNeg ((((I 0 2) + 1) + (5 * x1)) + 1))) - 48)) 6 (Int32.toNatClampNeg x1) (((pI (pI I13 4 (Int32.toNatClampNeg x1) r13) 5 (Int32.toNatClampNeg x1) (((pI I13 4 (Int32.toNatClampNeg x1) r13) 1 (Int32.toNatClampNeg ((((I 0 2) + 1) + (5 * x1)) + 1))) - 48)) 1 (Int32.toNatClampNeg ((((I 0 2) + 1) + (5 * x1)) + 2))) - 48)) 7 (Int32.toNatClampNeg x1) (((pI (pI (pI I13 4 (Int32.toNatClampNeg x1) r13) 5 (Int32.toNatClampNeg x1) (((pI I13 4 (Int32.toNatClampNeg x1) r13) 1 (Int32.toNatClampNeg ((((I 0 2) + 1) + (5 * x1)) + 1))) - 48)) 6 (Int32.toNatClampNeg x1) (((pI (pI I13 4 (Int32.toNatClampNeg x1) r13) 5 (Int32.toNatClampNeg x1) (((pI I13 4 (Int32.toNatClampNeg x1) r13) 1 (Int32.toNatClampNeg ((((I 0 2) + 1) + (5 * x1)) + 1))) - 48)) 1 (Int32.toNatClampNeg ((((I 0 2) + 1) + (5 * x1)) + 2))) - 48)) 1 (Int32.toNatClampNeg ((((I 0 2) + 1) + (5 * x1)) + 3))) - 48)) 8 (Int32.toNatClampNeg x1) 0) 9 (Int32.toNatClampNeg x1) 0) J13)))))
def LX8_suburb_158   : Nat → Int32 → aI → aJ → Option (RT Int32)
  | 0, _, _, _ => none
  | n + 1, x1, I, J => HX8_suburb_158   (LX8_suburb_158   n) x1 I J
def HX8_suburb_104  (k104 : Int32 → aI → aJ → Option (RT Int32)) (x1 : Int32) (I : aI) (J : aJ) : Option (RT Int32) := if (I 0 4) ≤ x1 then LX8_suburb_158   128 0 I J else gd (inb (3 + (3 * x1)) 60) (gd (inb x1 8) (gd (inb (4 + (3 * x1)) 60) (k104 (x1 + 1) (pI (pI I 2 (Int32.toNatClampNeg x1) ((I 1 (Int32.toNatClampNeg (3 + (3 * x1)))) - 48)) 3 (Int32.toNatClampNeg x1) (((pI I 2 (Int32.toNatClampNeg x1) ((I 1 (Int32.toNatClampNeg (3 + (3 * x1)))) - 48)) 1 (Int32.toNatClampNeg (4 + (3 * x1)))) - 48)) J)))
def LX8_suburb_104   : Nat → Int32 → aI → aJ → Option (RT Int32)
  | 0, _, _, _ => none
  | n + 1, x1, I, J => HX8_suburb_104   (LX8_suburb_104   n) x1 I J
def fX8_suburb  (I : aI) (J : aJ) : Option (RT Int32) := bnd (fX8_faultOf   I J) fun r1 I1 J1 => if r1 < (I1 0 1) then BX8_suburb_46    I1 J1 else if (I1 0 2) = 0 then BX8_suburb_46    I1 J1 else if (I1 0 1) < ((I1 0 2) + 10) then BX8_suburb_46    I1 J1 else if (((I1 0 1) - (I1 0 2)) - ((I1 0 1) - (I1 0 2)) / 5 * 5) = 0 then LX8_suburb_104   128 0 (pI (pI (pI (pI I1 0 3 ((I1 1 (Int32.toNatClampNeg 0)) - 48)) 0 6 (((pI I1 0 3 ((I1 1 (Int32.toNatClampNeg 0)) - 48)) 1 (Int32.toNatClampNeg 1)) - 48)) 0 4 ((((pI (pI I1 0 3 ((I1 1 (Int32.toNatClampNeg 0)) - 48)) 0 6 (((pI I1 0 3 ((I1 1 (Int32.toNatClampNeg 0)) - 48)) 1 (Int32.toNatClampNeg 1)) - 48)) 0 2) - 2) / 3)) 0 5 ((((pI (pI (pI I1 0 3 ((I1 1 (Int32.toNatClampNeg 0)) - 48)) 0 6 (((pI I1 0 3 ((I1 1 (Int32.toNatClampNeg 0)) - 48)) 1 (Int32.toNatClampNeg 1)) - 48)) 0 4 ((((pI (pI I1 0 3 ((I1 1 (Int32.toNatClampNeg 0)) - 48)) 0 6 (((pI I1 0 3 ((I1 1 (Int32.toNatClampNeg 0)) - 48)) 1 (Int32.toNatClampNeg 1)) - 48)) 0 2) - 2) / 3)) 0 1) - ((pI (pI (pI I1 0 3 ((I1 1 (Int32.toNatClampNeg 0)) - 48)) 0 6 (((pI I1 0 3 ((I1 1 (Int32.toNatClampNeg 0)) - 48)) 1 (Int32.toNatClampNeg 1)) - 48)) 0 4 ((((pI (pI I1 0 3 ((I1 1 (Int32.toNatClampNeg 0)) - 48)) 0 6 (((pI I1 0 3 ((I1 1 (Int32.toNatClampNeg 0)) - 48)) 1 (Int32.toNatClampNeg 1)) - 48)) 0 2) - 2) / 3)) 0 2)) / 5)) J1 else BX8_suburb_46    I1 J1
