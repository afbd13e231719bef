-- FamilyNames$Books.areYears
def X0_areYears (x0 : Int32) (x1 : Int32) (σ : St) : Option Int32 :=
  if x0 < 1500 then some 0 else (if x1 < x0 then some 0 else (if 1899 < x1 then some 0 else some 1))
-- FamilyNames$Books.hasPlace
def X0_hasPlace (x1 : Int32) (σ : St) : Option Int32 :=
  if x1 < 0 then some 0 else (if (gI σ 27 2) ≤ x1 then some 0 else some 1)
-- FamilyNames$Books.has
def X0_has (x1 : Int32) (σ : St) : Option Int32 :=
  if x1 < 0 then some 0 else (if (gI σ 27 7) ≤ x1 then some 0 else some 1)
-- FamilyNames$Books.appendPlace
def X0_appendPlace (x1 : Int32) (x2 : Int32) (σ : St) : Option (Int32 × St) :=
  if (gI σ 27 2) < 8 then (chk (gI σ 27 2) 8 (bnd (sI σ 28 (gI σ 27 2).toNatClampNeg x1) fun σ1 => chk (gI σ1 27 2) 8 (bnd (sI σ1 29 (gI σ1 27 2).toNatClampNeg x2) fun σ2 => bnd (sI σ2 27 2 ((gI σ2 27 2) + 1)) fun σ3 => some (((gI σ3 27 2) - 1), σ3)))) else (some ((-3), σ))
-- FamilyNames$Books.append
def X0_append (x1 : Int32) (x2 : Int32) (x3 : Int32) (σ : St) : Option (Int32 × St) :=
  if (gI σ 27 7) < 8 then (chk (gI σ 27 7) 8 (bnd (sI σ 30 (gI σ 27 7).toNatClampNeg x1) fun σ1 => chk (gI σ1 27 7) 8 (bnd (sI σ1 31 (gI σ1 27 7).toNatClampNeg x2) fun σ2 => chk (gI σ2 27 7) 8 (bnd (sI σ2 32 (gI σ2 27 7).toNatClampNeg x3) fun σ3 => bnd (sI σ3 27 7 ((gI σ3 27 7) + 1)) fun σ4 => some (((gI σ4 27 7) - 1), σ4))))) else (some ((-3), σ))
-- FamilyNames$Books.howFar
def X0_howFar (x1 : Int32) (x2 : Int32) (σ : St) : Option Int32 :=
  chk x1 8 (chk x2 8 ((J9_abs_0f7a4 ((gI σ 28 x1.toNatClampNeg) - (gI σ 28 x2.toNatClampNeg)) σ).bind fun v1 => chk x1 8 (chk x2 8 ((J9_abs_0f7a4 ((gI σ 29 x1.toNatClampNeg) - (gI σ 29 x2.toNatClampNeg)) σ).bind fun v2 => some (v1 + v2)))))
-- FamilyNames$Books.yearsOf
def X0_yearsOf (x1 : Int32) (σ : St) : Option Int32 :=
  chk x1 8 (chk x1 8 (some (((gI σ 32 x1.toNatClampNeg) - (gI σ 31 x1.toNatClampNeg)) + 1)))
-- FamilyNames$Books.hasYear
def X0_hasYear (x1 : Int32) (x2 : Int32) (σ : St) : Option Int32 :=
  chk x1 8 (if x2 < (gI σ 31 x1.toNatClampNeg) then some 0 else (chk x1 8 (if (gI σ 32 x1.toNatClampNeg) < x2 then some 0 else some 1)))
-- FamilyNames$Books.isHole
def X0_isHole (x1 : Int32) (x2 : Int32) (σ : St) : Option Int32 :=
  chk x1 8 (chk x1 8 (if (((gJ σ 33 x1.toNatClampNeg) >>> ((x2 - (gI σ 31 x1.toNatClampNeg)).toInt64 &&& 63)) &&& 1) = 1 then some 1 else some 0))
-- FamilyNames$Books.setHole
def X0_setHole (x1 : Int32) (x2 : Int32) (x3 : Int32) (σ : St) : Option St :=
  chk x1 8 (bnd ((1 : Int64) <<< ((x2 - (gI σ 31 x1.toNatClampNeg)).toInt64 &&& 63)) fun x4_1 => if x3 = 0 then (chk x1 8 (chk x1 8 (bnd (sJ σ 33 x1.toNatClampNeg ((gJ σ 33 x1.toNatClampNeg) &&& (x4_1 ^^^ (-1)))) fun σ2 => some σ2))) else (chk x1 8 (chk x1 8 (bnd (sJ σ 33 x1.toNatClampNeg ((gJ σ 33 x1.toNatClampNeg) ||| x4_1)) fun σ3 => some σ3))))
-- FamilyNames$Books.latestReadable
def X0_latestReadable_L7 (σ : St) : Nat → Int32 → Int32 → Option Int32
  | 0, _, _ => none
  | n + 1, x1, x2 => chk x1 8 (if x2 < (gI σ 31 x1.toNatClampNeg) then (some (-4)) else ((X0_isHole x1 x2 σ).bind fun v2 => if v2 = 0 then some x2 else (X0_latestReadable_L7 σ n x1 (x2 + (-1)))))
def X0_latestReadable (x1 : Int32) (σ : St) : Option Int32 :=
  chk x1 8 (bnd (gI σ 32 x1.toNatClampNeg) fun x2_1 => X0_latestReadable_L7 σ FU x1 x2_1)
-- FamilyNames$Books.readableYearsOf
def X0_readableYearsOf_L27 (σ : St) : Nat → Int32 → Int32 → Int32 → Int32 → Option Int32
  | 0, _, _, _, _ => none
  | n + 1, x1, x4, x5, x6 => if x5 < x6 then some x4 else ((X0_isHole x1 x6 σ).bind fun v3 => if v3 = 0 then (X0_readableYearsOf_L27 σ n x1 (x4 + 1) x5 (x6 + 1)) else (X0_readableYearsOf_L27 σ n x1 x4 x5 (x6 + 1)))
def X0_readableYearsOf (x1 : Int32) (x2 : Int32) (x3 : Int32) (σ : St) : Option Int32 :=
  chk x1 8 ((J9_min_7cf53 x3 (gI σ 32 x1.toNatClampNeg) σ).bind fun v1 => chk x1 8 ((J9_max_7cf53 x2 (gI σ 31 x1.toNatClampNeg) σ).bind fun v2 => X0_readableYearsOf_L27 σ FU x1 (0 : Int32) v1 v2))
-- FamilyNames$Books.readableYears
def X0_readableYears_L6 (σ : St) : Nat → Int32 → Int32 → Int32 → Int32 → Int32 → Option Int32
  | 0, _, _, _, _, _ => none
  | n + 1, x1, x2, x3, x4, x5 => if (gI σ 27 7) ≤ x5 then some x4 else (chk x5 8 (if (gI σ 30 x5.toNatClampNeg) = x1 then ((X0_readableYearsOf x5 x2 x3 σ).bind fun v1 => bnd (x4 + v1) fun x4_2 => X0_readableYears_L6 σ n x1 x2 x3 x4_2 (x5 + 1)) else (X0_readableYears_L6 σ n x1 x2 x3 x4 (x5 + 1))))
def X0_readableYears (x1 : Int32) (x2 : Int32) (x3 : Int32) (σ : St) : Option Int32 :=
  X0_readableYears_L6 σ FU x1 x2 x3 (0 : Int32) (0 : Int32)
-- java/lang/Integer.numberOfTrailingZeros
def J6_numberOfTrailingZeros_0f7a4_B62 (σ : St) (x0 : Int32) (x1 : Int32) : Option Int32 :=
  if x0 ≤ 4 then (some (x1 + ((x0.toUInt32 >>> ((1 : Int32).toUInt32 &&& Int32.toUInt32 31)).toInt32))) else (bnd ((x0.toUInt32 >>> ((2 : Int32).toUInt32 &&& Int32.toUInt32 31)).toInt32) fun x0_2 => some ((x1 + 2) + ((x0_2.toUInt32 >>> ((1 : Int32).toUInt32 &&& Int32.toUInt32 31)).toInt32)))
def J6_numberOfTrailingZeros_0f7a4_B34 (σ : St) (x0 : Int32) (x1 : Int32) : Option Int32 :=
  if x0 ≤ 256 then (if x0 ≤ 16 then (J6_numberOfTrailingZeros_0f7a4_B62 σ x0 x1) else (bnd ((x0.toUInt32 >>> ((4 : Int32).toUInt32 &&& Int32.toUInt32 31)).toInt32) fun x0_3 => J6_numberOfTrailingZeros_0f7a4_B62 σ x0_3 (x1 + 4))) else (bnd ((x0.toUInt32 >>> ((8 : Int32).toUInt32 &&& Int32.toUInt32 31)).toInt32) fun x0_4 => if x0_4 ≤ 16 then (J6_numberOfTrailingZeros_0f7a4_B62 σ x0_4 (x1 + 8)) else (bnd ((x0_4.toUInt32 >>> ((4 : Int32).toUInt32 &&& Int32.toUInt32 31)).toInt32) fun x0_5 => J6_numberOfTrailingZeros_0f7a4_B62 σ x0_5 ((x1 + 8) + 4)))
def J6_numberOfTrailingZeros_0f7a4 (x0 : Int32) (σ : St) : Option Int32 :=
  bnd ((x0 ^^^ (-1)) &&& (x0 - 1)) fun x0_1 => if 0 < x0_1 then (if x0_1 ≤ 65536 then (J6_numberOfTrailingZeros_0f7a4_B34 σ x0_1 (1 : Int32)) else (bnd ((x0_1.toUInt32 >>> ((16 : Int32).toUInt32 &&& Int32.toUInt32 31)).toInt32) fun x0_6 => J6_numberOfTrailingZeros_0f7a4_B34 σ x0_6 (17 : Int32))) else (some (x0_1 &&& 32))
-- FamilyNames$Covering.suffices
def X1_suffices_B54 (kq31 : Int32 → Int32 → Int32 → Int32 → Int32 → Option Int32) (rc : Int32 → Int32 → Int32 → Option Int32) (σ : St) (x1 : Int32) (x2 : Int32) (x3 : Int32) (x4 : Int32) (x5 : Int32) (s0 : Int32) : Option Int32 :=
  if s0 = 0 then (kq31 x1 x2 x3 x4 (x5 + 1)) else (chk x5 16 ((rc x1 (x2 &&& ((gI σ 20 x5.toNatClampNeg) ^^^ (-1))) (x3 - 1)).bind fun v3 => if v3 = 0 then (kq31 x1 x2 x3 x4 (x5 + 1)) else some 1))
def X1_suffices_L31 (rc : Int32 → Int32 → Int32 → Option Int32) (σ : St) : Nat → Int32 → Int32 → Int32 → Int32 → Int32 → Option Int32
  | 0, _, _, _, _, _ => none
  | n + 1, x1, x2, x3, x4, x5 => if 16 ≤ x5 then some 0 else (if ((x4 >>> (x5 &&& 31)) &&& 1) = 1 then (X1_suffices_B54 (X1_suffices_L31 rc σ n) rc σ x1 x2 x3 x4 x5 (1 : Int32)) else (X1_suffices_B54 (X1_suffices_L31 rc σ n) rc σ x1 x2 x3 x4 x5 (0 : Int32)))
def X1_suffices_E (rc : Int32 → Int32 → Int32 → Option Int32) (σ : St) (x1 : Int32) (x2 : Int32) (x3 : Int32) : Option Int32 :=
  if x2 = 0 then (if x2 = 0 then some 1 else some 0) else (if 0 < x3 then ((J6_numberOfTrailingZeros_0f7a4 x2 σ).bind fun v1 => chk v1 16 (bnd ((gI σ 20 v1.toNatClampNeg) &&& x1) fun x4_2 => X1_suffices_L31 rc σ FU x1 x2 x3 x4_2 (0 : Int32))) else (if x2 = 0 then some 1 else some 0))
def X1_suffices_F (σ : St) : Nat → Int32 → Int32 → Int32 → Option Int32
  | 0, _, _, _ => none
  | n + 1, a, b, c => X1_suffices_E (X1_suffices_F σ n) σ a b c
def X1_suffices (x1 x2 x3 : Int32) (σ : St) : Option Int32 := X1_suffices_F σ 40 x1 x2 x3
-- FamilyNames$Covering.fewest
def X1_fewest_L49 (σ : St) : Nat → Int32 → Int32 → Int32 → Int32 → Option Int32
  | 0, _, _, _, _ => none
  | n + 1, x2, x3, x4, x5 => if x5 < 0 then some x4 else ((X1_suffices (x4 &&& (((1 : Int32) <<< (x5 &&& 31)) ^^^ (-1))) x2 x3 σ).bind fun v3 => if v3 = 0 then (X1_fewest_L49 σ n x2 x3 x4 (x5 + (-1))) else (bnd (x4 &&& (((1 : Int32) <<< (x5 &&& 31)) ^^^ (-1))) fun x4_4 => X1_fewest_L49 σ n x2 x3 x4_4 (x5 + (-1))))
def X1_fewest_L20 (σ : St) : Nat → Int32 → Int32 → Int32 → Option Int32
  | 0, _, _, _ => none
  | n + 1, x1, x2, x3 => if x1 ≤ x3 then (bnd (x1 - 1) fun x5_2 => X1_fewest_L49 σ FU x2 x3 x2 x5_2) else ((X1_suffices x2 x2 x3 σ).bind fun v5 => if v5 = 0 then (X1_fewest_L20 σ n x1 x2 (x3 + 1)) else (bnd (x1 - 1) fun x5_6 => X1_fewest_L49 σ FU x2 x3 x2 x5_6))
def X1_fewest (x1 : Int32) (σ : St) : Option Int32 :=
  if x1 ≤ 0 then some 0 else (if x1 ≤ 16 then (bnd (((1 : Int32) <<< (x1 &&& 31)) - 1) fun x2_1 => X1_fewest_L20 σ FU x1 x2_1 (1 : Int32)) else some 0)
-- FamilyNames$Extinction.greatestDivisor
def X2_greatestDivisor_L9 (σ : St) : Nat → Int64 → Int64 → Int32 → Option Int64
  | 0, _, _, _ => none
  | n + 1, x4, x6, x8 => if 100 ≤ x8 then some x4 else (if x6 = 0 then some x4 else (chkzl x6 (bnd (x4 - x4 / x6 * x6) fun x9_1 => X2_greatestDivisor_L9 σ n x6 x9_1 (x8 + 1))))
def X2_greatestDivisor (x0 : Int64) (x2 : Int64) (σ : St) : Option Int64 :=
  X2_greatestDivisor_L9 σ FU x0 x2 (0 : Int32)
-- FamilyNames$Extinction.power
def X2_power_L5 (σ : St) : Nat → Int64 → Int32 → Int64 → Int32 → Option Int64
  | 0, _, _, _, _ => none
  | n + 1, x0, x2, x3, x5 => if x2 ≤ x5 then some x3 else (bnd (x3 * x0) fun x3_1 => X2_power_L5 σ n x0 x2 x3_1 (x5 + 1))
def X2_power (x0 : Int64) (x2 : Int32) (σ : St) : Option Int64 :=
  X2_power_L5 σ FU x0 x2 (1 : Int64) (0 : Int32)
-- FamilyNames$Extinction.addGeneration
def X2_addGeneration_B105 (t1 : Nat) (x6 : Int64) (x8 : Int64) (s0 : Int64) (σ : St) : Option St :=
  bnd (sJ σ 49 0 s0) fun σ4 => if x8 ≤ 0 then (bnd (sJ σ4 49 1 1) fun σ5 => some σ5) else (chkzl x8 (bnd (sJ σ4 49 1 (x6 / x8)) fun σ6 => some σ6))
def X2_addGeneration_L8 (t1 : Nat) : Nat → Int64 → Int64 → Int32 → St → Option St
  | 0, _, _, _, _ => none
  | n + 1, x2, x4, x6, σ => if 4 ≤ x6 then ((X2_power (gJ σ 49 1) 3 σ).bind fun v1 => bnd (x2 * v1) fun x6_2 => (X2_greatestDivisor x4 x6_2 σ).bind fun v3 => if v3 ≤ 0 then (X2_addGeneration_B105 t1 x6_2 v3 (0 : Int64) σ) else (chkzl v3 (X2_addGeneration_B105 t1 x6_2 v3 (x4 / v3) σ))) else (chk (4 + x6) 8 (bnd (gI σ (6 + t1) (4 + x6).toNatClampNeg) fun x7_7 => bnd (x2 + x7_7.toInt64) fun x2_8 => (X2_power (gJ σ 49 0) x6 σ).bind fun v9 => (X2_power (gJ σ 49 1) (3 - x6) σ).bind fun v10 => bnd (x4 + ((x7_7.toInt64 * v9) * v10)) fun x4_11 => X2_addGeneration_L8 t1 n x2_8 x4_11 (x6 + 1) σ))
def X2_addGeneration (t1 : Nat) (σ : St) : Option St :=
  X2_addGeneration_L8 t1 FU (0 : Int64) (0 : Int64) (0 : Int32) σ
-- FamilyNames$Extinction.follow
def X2_follow_L12 (t1 : Nat) : Nat → Int32 → Int32 → St → Option St
  | 0, _, _, _ => none
  | n + 1, x2, x3, σ => if x2 ≤ x3 then (some σ) else ((X2_addGeneration t1 σ).bind fun σ3 => X2_follow_L12 t1 n x2 (x3 + 1) σ3)
def X2_follow (t1 : Nat) (x2 : Int32) (σ : St) : Option St :=
  bnd (sJ σ 49 0 0) fun σ1 => bnd (sJ σ1 49 1 1) fun σ2 => X2_follow_L12 t1 FU x2 (0 : Int32) σ2
-- FamilyNames$Lines.isKind
def X3_isKind (x0 : Int32) (σ : St) : Option Int32 :=
  if x0 < 0 then some 0 else (if 4 < x0 then some 0 else some 1)
-- FamilyNames$Lines.has
def X3_has (x1 : Int32) (σ : St) : Option Int32 :=
  if x1 < 0 then some 0 else (if (gI σ 34 10) ≤ x1 then some 0 else some 1)
-- FamilyNames$Lines.append
def X3_append (x1 : Int32) (x2 : Int32) (x3 : Int32) (x4 : Int32) (x5 : Int32) (σ : St) : Option (Int32 × St) :=
  if (gI σ 34 10) < 40 then (chk (gI σ 34 10) 40 (bnd (sI σ 35 (gI σ 34 10).toNatClampNeg x1) fun σ1 => chk (gI σ1 34 10) 40 (bnd (sI σ1 36 (gI σ1 34 10).toNatClampNeg x2) fun σ2 => chk (gI σ2 34 10) 40 (bnd (sI σ2 37 (gI σ2 34 10).toNatClampNeg x4) fun σ3 => chk (gI σ3 34 10) 40 (bnd (sI σ3 38 (gI σ3 34 10).toNatClampNeg x5) fun σ4 => chk (gI σ4 34 10) 40 (bnd (sI σ4 42 (gI σ4 34 10).toNatClampNeg x3) fun σ5 => chk (gI σ5 34 10) 40 (bnd (sI σ5 39 (gI σ5 34 10).toNatClampNeg x3) fun σ6 => chk (gI σ6 34 10) 40 (bnd (sI σ6 40 (gI σ6 34 10).toNatClampNeg 1) fun σ7 => chk (gI σ7 34 10) 40 (bnd (sI σ7 41 (gI σ7 34 10).toNatClampNeg (-4)) fun σ8 => bnd (sI σ8 34 10 ((gI σ8 34 10) + 1)) fun σ9 => some (((gI σ9 34 10) - 1), σ9)))))))))) else (some ((-3), σ))
-- FamilyNames$Lines.reread
def X3_reread (x1 : Int32) (x2 : Int32) (x3 : Int32) (σ : St) : Option (Int32 × St) :=
  if (gI σ 34 14) < 60 then (chk (gI σ 34 14) 60 (bnd (sI σ 43 (gI σ 34 14).toNatClampNeg x1) fun σ1 => chk (gI σ1 34 14) 60 (bnd (sI σ1 44 (gI σ1 34 14).toNatClampNeg x3) fun σ2 => chk (gI σ2 34 14) 60 (bnd (sI σ2 45 (gI σ2 34 14).toNatClampNeg x2) fun σ3 => bnd (sI σ3 34 14 ((gI σ3 34 14) + 1)) fun σ4 => chk x1 40 (bnd (sI σ4 39 x1.toNatClampNeg x2) fun σ5 => chk x1 40 (chk x1 40 (bnd (sI σ5 40 x1.toNatClampNeg ((gI σ5 40 x1.toNatClampNeg) + 1)) fun σ6 => chk x1 40 (some ((gI σ6 40 x1.toNatClampNeg), σ6))))))))) else (some ((-3), σ))
-- FamilyNames$Lines.knownOn
def X3_knownOn_L23 (σ : St) : Nat → Int32 → Int32 → Int32 → Int32 → Option Int32
  | 0, _, _, _, _ => none
  | n + 1, x1, x2, x3, x4 => if (gI σ 34 14) ≤ x4 then some x3 else (chk x4 60 (if (gI σ 43 x4.toNatClampNeg) = x1 then (chk x4 60 (if x2 < (gI σ 44 x4.toNatClampNeg) then (X3_knownOn_L23 σ n x1 x2 x3 (x4 + 1)) else (chk x4 60 (bnd (gI σ 45 x4.toNatClampNeg) fun x3_2 => X3_knownOn_L23 σ n x1 x2 x3_2 (x4 + 1))))) else (X3_knownOn_L23 σ n x1 x2 x3 (x4 + 1))))
def X3_knownOn (x1 : Int32) (x2 : Int32) (σ : St) : Option Int32 :=
  chk x1 40 (if (gI σ 38 x1.toNatClampNeg) ≤ x2 then (chk x1 40 (bnd (gI σ 42 x1.toNatClampNeg) fun x3_1 => X3_knownOn_L23 σ FU x1 x2 x3_1 (0 : Int32))) else (some (-4)))
-- FamilyNames$Lines.areIn
def X3_areIn_L2 (σ : St) : Nat → Int32 → Int32 → Int32 → Option Int32
  | 0, _, _, _ => none
  | n + 1, x1, x2, x3 => if (gI σ 34 10) ≤ x3 then some 0 else (chk x3 40 (if (gI σ 35 x3.toNatClampNeg) = x1 then (chk x3 40 (if (gI σ 36 x3.toNatClampNeg) = x2 then some 1 else (X3_areIn_L2 σ n x1 x2 (x3 + 1)))) else (X3_areIn_L2 σ n x1 x2 (x3 + 1))))
def X3_areIn (x1 : Int32) (x2 : Int32) (σ : St) : Option Int32 :=
  X3_areIn_L2 σ FU x1 x2 (0 : Int32)
-- FamilyNames$Lines.howManyIn
def X3_howManyIn_L4 (σ : St) : Nat → Int32 → Int32 → Int32 → Option Int32
  | 0, _, _, _ => none
  | n + 1, x1, x2, x3 => if (gI σ 34 10) ≤ x3 then some x2 else (chk x3 40 (if (gI σ 35 x3.toNatClampNeg) = x1 then (X3_howManyIn_L4 σ n x1 (x2 + 1) (x3 + 1)) else (X3_howManyIn_L4 σ n x1 x2 (x3 + 1))))
def X3_howManyIn (x1 : Int32) (σ : St) : Option Int32 :=
  X3_howManyIn_L4 σ FU x1 (0 : Int32) (0 : Int32)
-- FamilyNames$Lines.nameOfLine
def X3_nameOfLine (x1 : Int32) (σ : St) : Option Int32 :=
  chk x1 40 (chk (gI σ 39 x1.toNatClampNeg) 16 (some (gI σ 21 (gI σ 39 x1.toNatClampNeg).toNatClampNeg)))
-- java/lang/Integer.bitCount
def J6_bitCount_0f7a4 (x0 : Int32) (σ : St) : Option Int32 :=
  bnd (x0 - (((x0.toUInt32 >>> ((1 : Int32).toUInt32 &&& Int32.toUInt32 31)).toInt32) &&& 1431655765)) fun x0_1 => bnd ((x0_1 &&& 858993459) + (((x0_1.toUInt32 >>> ((2 : Int32).toUInt32 &&& Int32.toUInt32 31)).toInt32) &&& 858993459)) fun x0_2 => bnd ((x0_2 + ((x0_2.toUInt32 >>> ((4 : Int32).toUInt32 &&& Int32.toUInt32 31)).toInt32)) &&& 252645135) fun x0_3 => bnd (x0_3 + ((x0_3.toUInt32 >>> ((8 : Int32).toUInt32 &&& Int32.toUInt32 31)).toInt32)) fun x0_4 => bnd (x0_4 + ((x0_4.toUInt32 >>> ((16 : Int32).toUInt32 &&& Int32.toUInt32 31)).toInt32)) fun x0_5 => some (x0_5 &&& 63)
-- FamilyNames$Lines.howManyNames
def X3_howManyNames_L4 (σ : St) : Nat → Int32 → Int32 → Option Int32
  | 0, _, _ => none
  | n + 1, x1, x2 => if (gI σ 34 10) ≤ x2 then ((J6_bitCount_0f7a4 x1 σ).bind fun v1 => some v1) else ((X3_nameOfLine x2 σ).bind fun v2 => bnd (x1 ||| ((1 : Int32) <<< (v2 &&& 31))) fun x1_3 => X3_howManyNames_L4 σ n x1_3 (x2 + 1))
def X3_howManyNames  (σ : St) : Option Int32 :=
  X3_howManyNames_L4 σ FU (0 : Int32) (0 : Int32)
-- FamilyNames$Lines.isAt
def X3_isAt (x1 : Int32) (x2 : Int32) (x3 : Int32) (σ : St) : Option Int32 :=
  chk x1 40 (chk (gI σ 35 x1.toNatClampNeg) 8 (if (gI σ 30 (gI σ 35 x1.toNatClampNeg).toNatClampNeg) = x3 then ((X3_nameOfLine x1 σ).bind fun v1 => if v1 = x2 then some 1 else some 0) else some 0))
-- FamilyNames$Lines.worth
def X3_worth_L6 (σ : St) : Nat → Int32 → Int32 → Int32 → Int32 → Int32 → Int32 → Option Int32
  | 0, _, _, _, _, _, _ => none
  | n + 1, x1, x2, x3, x4, x5, x6 => if (gI σ 34 10) ≤ x6 then some x5 else (chk x6 40 (if (gI σ 36 x6.toNatClampNeg) < x3 then (X3_worth_L6 σ n x1 x2 x3 x4 x5 (x6 + 1)) else (chk x6 40 (if x4 < (gI σ 36 x6.toNatClampNeg) then (X3_worth_L6 σ n x1 x2 x3 x4 x5 (x6 + 1)) else ((X3_isAt x6 x1 x2 σ).bind fun v1 => if v1 = 0 then (X3_worth_L6 σ n x1 x2 x3 x4 x5 (x6 + 1)) else (chk x6 40 (chk (gI σ 37 x6.toNatClampNeg) 5 (bnd (x5 + (tWorth (gI σ 37 x6.toNatClampNeg).toNatClampNeg)) fun x5_2 => X3_worth_L6 σ n x1 x2 x3 x4 x5_2 (x6 + 1)))))))))
def X3_worth (x1 : Int32) (x2 : Int32) (x3 : Int32) (x4 : Int32) (σ : St) : Option Int32 :=
  X3_worth_L6 σ FU x1 x2 x3 x4 (0 : Int32) (0 : Int32)
-- FamilyNames$Lines.firstYear
def X3_firstYear_B37 (kq6 : Int32 → Int32 → Int32 → Int32 → Option Int32) (σ : St) (x1 : Int32) (x2 : Int32) (x3 : Int32) (x4 : Int32) (s0 : Int32) : Option Int32 :=
  if s0 = 0 then (kq6 x1 x2 x3 (x4 + 1)) else (chk x4 40 (if (gI σ 37 x4.toNatClampNeg) = 3 then (kq6 x1 x2 x3 (x4 + 1)) else ((X3_isAt x4 x1 x2 σ).bind fun v1 => if v1 = 0 then (kq6 x1 x2 x3 (x4 + 1)) else (chk x4 40 (bnd (gI σ 36 x4.toNatClampNeg) fun x3_2 => kq6 x1 x2 x3_2 (x4 + 1))))))
def X3_firstYear_L6 (σ : St) : Nat → Int32 → Int32 → Int32 → Int32 → Option Int32
  | 0, _, _, _, _ => none
  | n + 1, x1, x2, x3, x4 => if (gI σ 34 10) ≤ x4 then some x3 else (if x3 = (-4) then (X3_firstYear_B37 (X3_firstYear_L6 σ n) σ x1 x2 x3 x4 (1 : Int32)) else (chk x4 40 (if x3 ≤ (gI σ 36 x4.toNatClampNeg) then (X3_firstYear_B37 (X3_firstYear_L6 σ n) σ x1 x2 x3 x4 (0 : Int32)) else (X3_firstYear_B37 (X3_firstYear_L6 σ n) σ x1 x2 x3 x4 (1 : Int32)))))
def X3_firstYear (x1 : Int32) (x2 : Int32) (σ : St) : Option Int32 :=
  X3_firstYear_L6 σ FU x1 x2 (-4 : Int32) (0 : Int32)
-- FamilyNames$Lines.mayBeFather
def X3_mayBeFather (x1 : Int32) (x2 : Int32) (σ : St) : Option Int32 :=
  chk x2 40 (chk x1 40 (if ((gI σ 36 x1.toNatClampNeg) - 15) < (gI σ 36 x2.toNatClampNeg) then some 0 else some 1))
-- FamilyNames$Lines.stepsUp
def X3_stepsUp_L5 (σ : St) : Nat → Int32 → Int32 → Int32 → Option Int32
  | 0, _, _, _ => none
  | n + 1, x2, x3, x4 => if 40 ≤ x4 then (some (-4)) else (if x3 = (-4) then (some (-4)) else (if x3 = x2 then some x4 else (chk x3 40 (bnd (gI σ 41 x3.toNatClampNeg) fun x3_1 => X3_stepsUp_L5 σ n x2 x3_1 (x4 + 1)))))
def X3_stepsUp (x1 : Int32) (x2 : Int32) (σ : St) : Option Int32 :=
  X3_stepsUp_L5 σ FU x2 x1 (0 : Int32)
-- FamilyNames$Lines.stepsBetween
def X3_stepsBetween_L5 (σ : St) : Nat → Int32 → Int32 → Int32 → Option Int32
  | 0, _, _, _ => none
  | n + 1, x2, x3, x4 => if 40 ≤ x4 then (some (-4)) else (if x3 = (-4) then (some (-4)) else ((X3_stepsUp x2 x3 σ).bind fun v1 => if v1 = (-4) then (chk x3 40 (bnd (gI σ 41 x3.toNatClampNeg) fun x3_2 => X3_stepsBetween_L5 σ n x2 x3_2 (x4 + 1))) else (some (x4 + v1))))
def X3_stepsBetween (x1 : Int32) (x2 : Int32) (σ : St) : Option Int32 :=
  X3_stepsBetween_L5 σ FU x2 x1 (0 : Int32)
-- FamilyNames$Lines.descendants
def X3_descendants_L4 (σ : St) : Nat → Int32 → Int32 → Int32 → Option Int32
  | 0, _, _, _ => none
  | n + 1, x1, x2, x3 => if (gI σ 34 10) ≤ x3 then some x2 else (if x3 = x1 then (X3_descendants_L4 σ n x1 x2 (x3 + 1)) else ((X3_stepsUp x3 x1 σ).bind fun v1 => if v1 = (-4) then (X3_descendants_L4 σ n x1 x2 (x3 + 1)) else (X3_descendants_L4 σ n x1 (x2 + 1) (x3 + 1))))
def X3_descendants (x1 : Int32) (σ : St) : Option Int32 :=
  X3_descendants_L4 σ FU x1 (0 : Int32) (0 : Int32)
-- FamilyNames$Lines.renamedDescendants
def X3_renamedDescendants_L4 (σ : St) : Nat → Int32 → Int32 → Int32 → Option Int32
  | 0, _, _, _ => none
  | n + 1, x1, x2, x3 => if (gI σ 34 10) ≤ x3 then some x2 else ((X3_nameOfLine x3 σ).bind fun v1 => (X3_nameOfLine x1 σ).bind fun v2 => if v1 = v2 then (X3_renamedDescendants_L4 σ n x1 x2 (x3 + 1)) else ((X3_stepsUp x3 x1 σ).bind fun v3 => if v3 = (-4) then (X3_renamedDescendants_L4 σ n x1 x2 (x3 + 1)) else (X3_renamedDescendants_L4 σ n x1 (x2 + 1) (x3 + 1))))
def X3_renamedDescendants (x1 : Int32) (σ : St) : Option Int32 :=
  X3_renamedDescendants_L4 σ FU x1 (0 : Int32) (0 : Int32)
-- FamilyNames$Lines.longestDescent
def X3_longestDescent_L4 (σ : St) : Nat → Int32 → Int32 → Int32 → Option Int32
  | 0, _, _, _ => none
  | n + 1, x1, x2, x3 => if (gI σ 34 10) ≤ x3 then some x2 else ((X3_stepsUp x3 x1 σ).bind fun v1 => (J9_max_7cf53 x2 v1 σ).bind fun v2 => X3_longestDescent_L4 σ n x1 v2 (x3 + 1))
def X3_longestDescent (x1 : Int32) (σ : St) : Option Int32 :=
  X3_longestDescent_L4 σ FU x1 (0 : Int32) (0 : Int32)
-- FamilyNames$Origins.gather
def X4_gather_L7 : Nat → Int32 → Int32 → St → Option St
  | 0, _, _, _ => none
  | n + 1, x1, x2, σ => if (gI σ 27 2) ≤ x2 then (some σ) else ((X3_firstYear x1 x2 σ).bind fun v2 => chk x2 8 (bnd (sI σ 47 x2.toNatClampNeg v2) fun σ3 => chk x2 8 (if (gI σ3 47 x2.toNatClampNeg) = (-4) then (X4_gather_L7 n x1 (x2 + 1) σ3) else (bnd (sI σ3 46 4 ((gI σ3 46 4) ||| ((1 : Int32) <<< (x2 &&& 31)))) fun σ4 => X4_gather_L7 n x1 (x2 + 1) σ4))))
def X4_gather (x1 : Int32) (σ : St) : Option St :=
  bnd (sI σ 46 4 0) fun σ1 => X4_gather_L7 FU x1 (0 : Int32) σ1
-- FamilyNames$Origins.isPresent
def X4_isPresent (x1 : Int32) (σ : St) : Option Int32 :=
  if (((gI σ 46 4) >>> (x1 &&& 31)) &&& 1) = 1 then some 1 else some 0
-- FamilyNames.divideUp
def X10_divideUp (x0 : Int32) (x1 : Int32) (σ : St) : Option Int32 :=
  if 0 < x1 then (chkz x1 (some (((x0 + x1) - 1) / x1))) else some 0
-- FamilyNames$Origins.reachOf
def X4_reachOf_L7 (σ : St) : Nat → Int32 → Int32 → Int32 → Int32 → Option Int32
  | 0, _, _, _, _ => none
  | n + 1, x1, x2, x3, x4 => if (gI σ 27 2) ≤ x4 then some x3 else ((X0_howFar x1 x4 σ).bind fun v2 => (X10_divideUp (v2 * 10) x2 σ).bind fun v3 => (X4_isPresent x4 σ).bind fun v4 => if v4 = 0 then (X4_reachOf_L7 σ n x1 x2 x3 (x4 + 1)) else (chk x1 8 (chk x4 8 (if (gI σ 47 x4.toNatClampNeg) < ((gI σ 47 x1.toNatClampNeg) + v3) then (X4_reachOf_L7 σ n x1 x2 x3 (x4 + 1)) else (bnd (x3 ||| ((1 : Int32) <<< (x4 &&& 31))) fun x3_5 => X4_reachOf_L7 σ n x1 x2 x3_5 (x4 + 1))))))
def X4_reachOf (x1 : Int32) (x2 : Int32) (σ : St) : Option Int32 :=
  bnd ((1 : Int32) <<< (x1 &&& 31)) fun x3_1 => X4_reachOf_L7 σ FU x1 x2 x3_1 (0 : Int32)
-- FamilyNames$Origins.spread
def X4_spread_L2 : Nat → Int32 → Int32 → St → Option St
  | 0, _, _, _ => none
  | n + 1, x1, x2, σ => if (gI σ 27 2) ≤ x2 then (some σ) else ((X4_isPresent x2 σ).bind fun v1 => if v1 = 0 then (chk x2 8 (bnd (sI σ 48 x2.toNatClampNeg 0) fun σ2 => X4_spread_L2 n x1 (x2 + 1) σ2)) else ((X4_reachOf x2 x1 σ).bind fun v3 => chk x2 8 (bnd (sI σ 48 x2.toNatClampNeg v3) fun σ4 => X4_spread_L2 n x1 (x2 + 1) σ4)))
def X4_spread (x1 : Int32) (σ : St) : Option St :=
  X4_spread_L2 FU x1 (0 : Int32) σ
-- FamilyNames$Origins.letsAllCome
def X4_letsAllCome_L4 (σ : St) : Nat → Int32 → Int32 → Int32 → Option Int32
  | 0, _, _, _ => none
  | n + 1, x1, x2, x3 => if (gI σ 27 2) ≤ x3 then (if x2 = (gI σ 46 4) then some 1 else some 0) else (if ((x1 >>> (x3 &&& 31)) &&& 1) = 1 then (chk x3 8 (bnd (x2 ||| (gI σ 48 x3.toNatClampNeg)) fun x2_1 => X4_letsAllCome_L4 σ n x1 x2_1 (x3 + 1))) else (X4_letsAllCome_L4 σ n x1 x2 (x3 + 1)))
def X4_letsAllCome (x1 : Int32) (σ : St) : Option Int32 :=
  X4_letsAllCome_L4 σ FU x1 (0 : Int32) (0 : Int32)
-- FamilyNames$Origins.hasSingleStart
def X4_hasSingleStart_L2 (σ : St) : Nat → Int32 → Option Int32
  | 0, _ => none
  | n + 1, x1 => if (gI σ 27 2) ≤ x1 then some 0 else ((X4_isPresent x1 σ).bind fun v1 => if v1 = 0 then (X4_hasSingleStart_L2 σ n (x1 + 1)) else (chk x1 8 (if (gI σ 48 x1.toNatClampNeg) = (gI σ 46 4) then some 1 else (X4_hasSingleStart_L2 σ n (x1 + 1)))))
def X4_hasSingleStart  (σ : St) : Option Int32 :=
  X4_hasSingleStart_L2 σ FU (0 : Int32)
-- FamilyNames$Origins.search
def X4_search_B81 (kq28 : Int32 → Int32 → St → Option St) (x1 : Int32) (x2 : Int32) (x3 : Int32) (s0 : Int32) (σ : St) : Option St :=
  bnd (sI σ 46 6 s0) fun σ7 => if x1 ≤ x3 then (bnd (sI σ7 46 5 (gI σ7 46 5)) fun σ8 => kq28 x3 (x2 + 1) σ8) else (bnd (sI σ7 46 5 x2) fun σ9 => kq28 x3 (x2 + 1) σ9)
def X4_search_L28 : Nat → Int32 → Int32 → St → Option St
  | 0, _, _, _ => none
  | n + 1, x1, x2, σ => if (gI σ 46 4) < x2 then (some σ) else ((J6_bitCount_0f7a4 x2 σ).bind fun v5 => if (x2 &&& ((gI σ 46 4) ^^^ (-1))) = 0 then (if x1 < v5 then (X4_search_L28 n x1 (x2 + 1) σ) else ((X4_letsAllCome x2 σ).bind fun v6 => if v6 = 0 then (X4_search_L28 n x1 (x2 + 1) σ) else (if x1 ≤ v5 then (X4_search_B81 (X4_search_L28 n) x1 x2 v5 ((gI σ 46 6) &&& x2) σ) else (X4_search_B81 (X4_search_L28 n) x1 x2 v5 x2 σ)))) else (X4_search_L28 n x1 (x2 + 1) σ))
def X4_search  (σ : St) : Option St :=
  bnd (sI σ 46 5 (gI σ 46 4)) fun σ1 => bnd (sI σ1 46 6 (gI σ1 46 4)) fun σ2 => (J6_bitCount_0f7a4 (gI σ2 46 4) σ2).bind fun v3 => bnd (v3 + 1) fun x1_4 => X4_search_L28 FU x1_4 (0 : Int32) σ2
-- java/util/Arrays.fill
def J7_fill_53178_L5 (q : Nat) (ln : Nat) : Nat → Int32 → Int32 → Int32 → St → Option St
  | 0, _, _, _, _ => none
  | n + 1, x1, x2, x3, σ => if x3 ≤ x2 then (some σ) else (chk x2 ln (bnd (sI σ q x2.toNatClampNeg x1) fun σ2 => J7_fill_53178_L5 q ln n x1 (x2 + 1) x3 σ2))
def J7_fill_53178 (q : Nat) (ln : Nat) (x1 : Int32) (σ : St) : Option St :=
  bnd (Int32.ofNat ln) fun x3_1 => J7_fill_53178_L5 q ln FU x1 (0 : Int32) x3_1 σ
-- FamilyNames$Rules.forget
def X5_forget (r : Nat) (σ : St) : Option St :=
  bnd (sIf σ (6 + r) (va_cpy tFirst (gI σ (6 + r)) 0 0 8)) fun σ1 => (J7_fill_53178 (16 + r) 729 (-1) σ1).bind fun σ2 => bnd (sI σ2 (4 + r) 6 0) fun σ3 => bnd (sI σ3 (4 + r) 7 0) fun σ4 => some σ4
-- FamilyNames$Rules.isChanged
def X5_isChanged_L2 (r : Nat) (σ : St) : Nat → Int32 → Int32 → Option Int32
  | 0, _, _ => none
  | n + 1, x1, x2 => if (gI σ (4 + r) 6) ≤ x2 then some 0 else (chk x2 12 (if (gI σ (8 + r) x2.toNatClampNeg) = x1 then some 1 else (X5_isChanged_L2 r σ n x1 (x2 + 1))))
def X5_isChanged (r : Nat) (x1 : Int32) (σ : St) : Option Int32 :=
  X5_isChanged_L2 r σ FU x1 (0 : Int32)
-- FamilyNames$Rules.appendChange
def X5_appendChange (r : Nat) (x1 : Int32) (x2 : Int32) (x3 : Int32) (x4 : Int32) (σ : St) : Option St :=
  if 12 ≤ (gI σ (4 + r) 6) then (some σ) else (chk (gI σ (4 + r) 6) 12 (bnd (sI σ (8 + r) (gI σ (4 + r) 6).toNatClampNeg x1) fun σ1 => chk (gI σ1 (4 + r) 6) 12 (bnd (sI σ1 (10 + r) (gI σ1 (4 + r) 6).toNatClampNeg x2) fun σ2 => chk (gI σ2 (4 + r) 6) 12 (bnd (sI σ2 (12 + r) (gI σ2 (4 + r) 6).toNatClampNeg x3) fun σ3 => chk (gI σ3 (4 + r) 6) 12 (bnd (sI σ3 (14 + r) (gI σ3 (4 + r) 6).toNatClampNeg x4) fun σ4 => bnd (sI σ4 (4 + r) 6 ((gI σ4 (4 + r) 6) + 1)) fun σ5 => some σ5)))))
-- FamilyNames$Rules.isLike
def X5_isLike (r : Nat) (x1 : Int32) (x2 : Int32) (σ : St) : Option Int32 :=
  chk ((x1 * 27) + x2) 729 (if (gI σ (16 + r) ((x1 * 27) + x2).toNatClampNeg) = (-1) then some 0 else some 1)
-- FamilyNames$Rules.appendLike
def X5_appendLike (r : Nat) (x1 : Int32) (x2 : Int32) (x3 : Int32) (σ : St) : Option St :=
  chk ((x1 * 27) + x2) 729 (bnd (sI σ (16 + r) ((x1 * 27) + x2).toNatClampNeg x3) fun σ1 => chk ((x2 * 27) + x1) 729 (bnd (sI σ1 (16 + r) ((x2 * 27) + x1).toNatClampNeg x3) fun σ2 => bnd (sI σ2 (4 + r) 7 ((gI σ2 (4 + r) 7) + 1)) fun σ3 => some σ3))
-- FamilyNames$Rules.swapCost
def X5_swapCost (r : Nat) (x1 : Int32) (x2 : Int32) (σ : St) : Option Int32 :=
  if x1 = x2 then some 0 else ((X5_isLike r x1 x2 σ).bind fun v1 => if v1 = 0 then (some (gI σ (6 + r) 1)) else (chk ((x1 * 27) + x2) 729 (some (gI σ (16 + r) ((x1 * 27) + x2).toNatClampNeg))))
-- FamilyNames$Rules.standsAt
def X5_standsAt (r : Nat) (x1 : Int32) (x2 : Int64) (x4 : Int32) (σ : St) : Option Int32 :=
  chk x1 12 (bnd (((1 : Int64) <<< ((5 * (gI σ (10 + r) x1.toNatClampNeg)).toInt64 &&& 63)) - 1) fun x5_1 => chk x1 12 (chk x1 12 (if ((x2 >>> ((5 * (x4 - (gI σ (10 + r) x1.toNatClampNeg))).toInt64 &&& 63)) &&& x5_1) = ((gI σ (8 + r) x1.toNatClampNeg).toInt64) then some 1 else some 0)))
-- FamilyNames$Rules.changeAt
def X5_changeAt_B45 (kq7 : Int64 → Int32 → Int32 → Int32 → Option Int32) (r : Nat) (σ : St) (x1 : Int64) (x3 : Int32) (x4 : Int32) (x5 : Int32) (s0 : Int32) : Option Int32 :=
  if s0 = 0 then (kq7 x1 x3 x4 (x5 + 1)) else (chk x5 12 (if x3 < (gI σ (10 + r) x5.toNatClampNeg) then (kq7 x1 x3 x4 (x5 + 1)) else ((X5_standsAt r x5 x1 x3 σ).bind fun v1 => if v1 = 0 then (kq7 x1 x3 x4 (x5 + 1)) else (kq7 x1 x3 x5 (x5 + 1)))))
def X5_changeAt_L7 (r : Nat) (σ : St) : Nat → Int64 → Int32 → Int32 → Int32 → Option Int32
  | 0, _, _, _, _ => none
  | n + 1, x1, x3, x4, x5 => if (gI σ (4 + r) 6) ≤ x5 then some x4 else (if x4 = (-4) then (X5_changeAt_B45 (X5_changeAt_L7 r σ n) r σ x1 x3 x4 x5 (1 : Int32)) else (chk x5 12 (chk x4 12 (if (gI σ (10 + r) x5.toNatClampNeg) ≤ (gI σ (10 + r) x4.toNatClampNeg) then (X5_changeAt_B45 (X5_changeAt_L7 r σ n) r σ x1 x3 x4 x5 (0 : Int32)) else (X5_changeAt_B45 (X5_changeAt_L7 r σ n) r σ x1 x3 x4 x5 (1 : Int32))))))
def X5_changeAt (r : Nat) (x1 : Int64) (x3 : Int32) (σ : St) : Option Int32 :=
  X5_changeAt_L7 r σ FU x1 x3 (-4 : Int32) (0 : Int32)
-- FamilyNames$Sheet.isLane
def X6_isLane (x0 : Int32) (σ : St) : Option Int32 :=
  if x0 < 0 then some 0 else (if 2 < x0 then some 0 else some 1)
-- FamilyNames$Sheet.renew
def X6_renew (r : Nat) (x1 : Int32) (x2 : Int32) (σ : St) : Option St :=
  (J7_fill_53178 (55 + r) 64 0 σ).bind fun σ1 => bnd (sI σ1 (51 + r) 1 x1) fun σ2 => bnd (sI σ2 (51 + r) 2 x2) fun σ3 => some σ3
-- FamilyNames$Sheet.faultAt
def X6_faultAt (r : Nat) (x1 : Int32) (x2 : Int32) (σ : St) : Option Int32 :=
  if (gI σ (51 + r) 2) = (-4) then some 1 else (if x1 = (gI σ (51 + r) 1) then (if x2 < 0 then some 2 else (if x2 < (gI σ (51 + r) 2) then some 0 else some 2)) else some 3)
-- FamilyNames$Sheet.put
def X6_put (r : Nat) (x1 : Int32) (x2 : Int32) (σ : St) : Option St :=
  if x1 < 0 then (some σ) else (if (gI σ (51 + r) 2) ≤ x1 then (some σ) else (if (gI σ (51 + r) 1) = 0 then (chk x1 64 (bnd (sI σ (55 + r) x1.toNatClampNeg x2.toInt8.toInt32) fun σ3 => some σ3)) else (if (gI σ (51 + r) 1) = 1 then (chk x1 64 (bnd (sI σ (55 + r) x1.toNatClampNeg x2.toInt16.toInt32) fun σ2 => some σ2)) else (chk x1 64 (bnd (sI σ (55 + r) x1.toNatClampNeg x2) fun σ1 => some σ1)))))
-- FamilyNames$Sheet.cellAt
def X6_cellAt (r : Nat) (x1 : Int32) (σ : St) : Option Int32 :=
  if x1 < 0 then (some (-1)) else (if (gI σ (51 + r) 2) ≤ x1 then (some (-1)) else (chk x1 64 (some (gI σ (55 + r) x1.toNatClampNeg))))
-- FamilyNames$Tape.append
def X7_append_L18 : Nat → Int64 → Int32 → St → Option (Int32 × St)
  | 0, _, _, _ => none
  | n + 1, x1, x3, σ => if x3 < 0 then (some (1, σ)) else (chk (gI σ 1 1) 200 (bnd (sI σ 2 (gI σ 1 1).toNatClampNeg (vp_nar .byte (((x1 >>> (x3.toInt64 &&& 63)).toInt32).toInt8.toInt32))) fun σ1 => bnd (sI σ1 1 1 ((gI σ1 1 1) + 1)) fun σ2 => X7_append_L18 n x1 (x3 + (-8)) σ2))
def X7_append (x1 : Int64) (σ : St) : Option (Int32 × St) :=
  if ((gI σ 1 1) + 8) ≤ 200 then (X7_append_L18 FU x1 (56 : Int32) σ) else (some (0, σ))
-- FamilyNames$Tape.byteAt
def X7_byteAt (x1 : Int32) (σ : St) : Option Int32 :=
  if x1 < 0 then some 0 else (if x1 < (gI σ 1 1) then (chk x1 200 (some (gI σ 2 x1.toNatClampNeg))) else some 0)
-- FamilyNames$TextReader.kindOf
def X8_kindOf_B14 (σ : St) (x0 : Int32) : Option Int32 :=
  if x0 < 48 then (if x0 = 59 then some 3 else some 4) else (if 57 < x0 then (if x0 = 59 then some 3 else some 4) else some 2)
def X8_kindOf (x0 : Int32) (σ : St) : Option Int32 :=
  if x0 < 97 then (X8_kindOf_B14 σ x0) else (if 122 < x0 then (X8_kindOf_B14 σ x0) else some 1)
-- FamilyNames$TextReader.readToken
def X8_readToken_B245 (σ : St) : Option St :=
  bnd (sI σ 3 6 ((gI σ 3 3) - (gI σ 3 5))) fun σ5 => if (gI σ5 3 4) = 2 then (if (gI σ5 3 6) ≤ 2 then (some σ5) else (bnd (sI σ5 3 4 4) fun σ6 => some σ6)) else (some σ5)
def X8_readToken_L140 : Nat → Int32 → St → Option St
  | 0, _, _ => none
  | n + 1, x1, σ => if x1 = 0 then (X8_readToken_B245 σ) else (if (gI σ 1 1) ≤ (gI σ 3 3) then (X8_readToken_B245 σ) else ((X7_byteAt (gI σ 3 3) σ).bind fun v7 => (X8_kindOf v7 σ).bind fun v8 => if v8 = (gI σ 3 4) then ((X7_byteAt (gI σ 3 3) σ).bind fun v9 => if (gI σ 3 4) = 1 then (bnd (sI σ 3 7 (((((gI σ 3 7) * 32) + v9) - 97) + 1)) fun σ12 => bnd (sI σ12 3 3 ((gI σ12 3 3) + 1)) fun σ13 => X8_readToken_L140 n x1 σ13) else (bnd (sI σ 3 7 ((((gI σ 3 7) * 10) + v9) - 48)) fun σ10 => bnd (sI σ10 3 3 ((gI σ10 3 3) + 1)) fun σ11 => X8_readToken_L140 n x1 σ11)) else (X8_readToken_B245 σ)))
def X8_readToken_B118 (σ : St) : Option St :=
  if (gI σ 3 4) = 1 then (X8_readToken_L140 FU (1 : Int32) σ) else (if (gI σ 3 4) = 2 then (X8_readToken_L140 FU (1 : Int32) σ) else (X8_readToken_L140 FU (0 : Int32) σ))
def X8_readToken_B89 (s0 : Int32) (σ : St) : Option St :=
  bnd (sI σ 3 4 s0) fun σ3 => if (gI σ3 3 4) = 3 then (bnd (sI σ3 3 3 ((gI σ3 3 3) + 1)) fun σ4 => X8_readToken_B118 σ4) else (if (gI σ3 3 4) = 4 then (bnd (sI σ3 3 3 ((gI σ3 3 3) + 1)) fun σ14 => X8_readToken_B118 σ14) else (X8_readToken_B118 σ3))
def X8_readToken_B43 (σ : St) : Option St :=
  bnd (sI σ 3 5 (gI σ 3 3)) fun σ1 => bnd (sI σ1 3 7 0) fun σ2 => if (gI σ2 1 1) ≤ (gI σ2 3 3) then (X8_readToken_B89 (0 : Int32) σ2) else ((X7_byteAt (gI σ2 3 3) σ2).bind fun v15 => (X8_kindOf v15 σ2).bind fun v16 => X8_readToken_B89 v16 σ2)
def X8_readToken_L0 : Nat → St → Option St
  | 0, _ => none
  | n + 1, σ => if (gI σ 1 1) ≤ (gI σ 3 3) then (X8_readToken_B43 σ) else ((X7_byteAt (gI σ 3 3) σ).bind fun v17 => if v17 = 32 then (bnd (sI σ 3 3 ((gI σ 3 3) + 1)) fun σ18 => X8_readToken_L0 n σ18) else (X8_readToken_B43 σ))
def X8_readToken  (σ : St) : Option St :=
  X8_readToken_L0 FU σ
-- FamilyNames$TextReader.isWord
def X8_isWord_L23 (t1 : Nat) (σ : St) : Nat → Int32 → Option Int32
  | 0, _ => none
  | n + 1, x2 => if (gI σ 3 6) ≤ x2 then some 1 else ((X7_byteAt ((gI σ 3 5) + x2) σ).bind fun v2 => (J0_charAt_5068e t1 x2 σ).bind fun v3 => if v2 = v3 then (X8_isWord_L23 t1 σ n (x2 + 1)) else some 0)
def X8_isWord (t1 : Nat) (σ : St) : Option Int32 :=
  if (gI σ 3 4) = 1 then ((J0_length_8abf5 t1 σ).bind fun v1 => if (gI σ 3 6) = v1 then (X8_isWord_L23 t1 σ FU (0 : Int32)) else some 0) else some 0
-- FamilyNames$TextReader.refuse
def X8_refuse (x1 : Int32) (σ : St) : Option (Int32 × St) :=
  bnd (sI σ 3 8 x1) fun σ1 => bnd (sI σ1 3 9 (gI σ1 3 5)) fun σ2 => some (0, σ2)
-- FamilyNames$TextReader.takeToken
def X8_takeToken (x1 : Int32) (σ : St) : Option (Int32 × St) :=
  (X8_readToken σ).bind fun σ1 => if (gI σ1 3 4) = 4 then ((X8_refuse 1 σ1).bind fun r3 => chkB r3.1 (some (r3.1, r3.2))) else (if (gI σ1 3 4) = x1 then (some (1, σ1)) else ((X8_refuse 2 σ1).bind fun r2 => if r2.1 = 0 then (some (0, r2.2)) else (some (1, r2.2))))
-- FamilyNames$TextReader.takeName
def X8_takeName (x1 : Int32) (σ : St) : Option (Int32 × St) :=
  (X8_takeToken 1 σ).bind fun r1 => if r1.1 = 0 then (some (0, r1.2)) else (if (gI r1.2 3 6) ≤ x1 then (some (1, r1.2)) else ((X8_refuse 2 r1.2).bind fun r2 => if r2.1 = 0 then (some (0, r2.2)) else (some (1, r2.2))))
-- FamilyNames$TextReader.takeChange
def X8_takeChange_B98 (x2 : Int32) (x3 : Int32) (x4 : Int32) (s0 : Int32) (σ : St) : Option (Int32 × St) :=
  (X8_takeToken 3 σ).bind fun r7 => if r7.1 = 0 then (some (0, r7.2)) else (chkN (gR r7.2 3 1) 2 ((X5_appendChange (gR r7.2 3 1) x2 x3 x4 s0 r7.2).bind fun σ9 => some (1, σ9)))
def X8_takeChange_B72 (x1 : Int32) (x2 : Int32) (x3 : Int32) (σ : St) : Option (Int32 × St) :=
  if x1 = 0 then (if x1 = 0 then (X8_takeChange_B98 x2 x3 (0 : Int32) (0 : Int32) σ) else (X8_takeChange_B98 x2 x3 (0 : Int32) (gI σ 3 6) σ)) else (bnd (gI σ 3 7) fun x4_10 => if x1 = 0 then (X8_takeChange_B98 x2 x3 x4_10 (0 : Int32) σ) else (X8_takeChange_B98 x2 x3 x4_10 (gI σ 3 6) σ))
def X8_takeChange (x1 : Int32) (σ : St) : Option (Int32 × St) :=
  chkN (gR σ 3 1) 2 (if (gI σ (4 + gR σ 3 1) 6) = 12 then ((X8_refuse 5 σ).bind fun r14 => chkB r14.1 (some (r14.1, r14.2))) else ((X8_takeName 3 σ).bind fun r2 => if r2.1 = 0 then (some (0, r2.2)) else (chkN (gR r2.2 3 1) 2 ((X5_isChanged (gR r2.2 3 1) (gI r2.2 3 7) r2.2).bind fun v4 => if v4 = 0 then (bnd (gI r2.2 3 7) fun x2_5 => bnd (gI r2.2 3 6) fun x3_6 => if x1 = 0 then (X8_takeChange_B72 x1 x2_5 x3_6 r2.2) else ((X8_takeName 2 r2.2).bind fun r11 => if r11.1 = 0 then (some (0, r11.2)) else (X8_takeChange_B72 x1 x2_5 x3_6 r11.2))) else ((X8_refuse 4 r2.2).bind fun r12 => chkB r12.1 (some (r12.1, r12.2)))))))
-- FamilyNames$TextReader.takeBetween
def X8_takeBetween_B24 (σ : St) : Option (Int32 × St) :=
  (X8_refuse 3 σ).bind fun r2 => if r2.1 = 0 then (some (0, r2.2)) else (some (1, r2.2))
def X8_takeBetween (x1 : Int32) (x2 : Int32) (σ : St) : Option (Int32 × St) :=
  (X8_takeToken 2 σ).bind fun r1 => if r1.1 = 0 then (some (0, r1.2)) else (if (gI r1.2 3 7) < x1 then (X8_takeBetween_B24 r1.2) else (if (gI r1.2 3 7) ≤ x2 then (some (1, r1.2)) else (X8_takeBetween_B24 r1.2)))
-- FamilyNames$TextReader.takeLike
def X8_takeLike  (σ : St) : Option (Int32 × St) :=
  (X8_takeName 1 σ).bind fun r1 => if r1.1 = 0 then (some (0, r1.2)) else (bnd (gI r1.2 3 7) fun x1_2 => (X8_takeName 1 r1.2).bind fun r3 => if r3.1 = 0 then (some (0, r3.2)) else (bnd (gI r3.2 3 7) fun x2_4 => if x1_2 = x2_4 then ((X8_refuse 3 r3.2).bind fun r14 => chkB r14.1 (some (r14.1, r14.2))) else (chkN (gR r3.2 3 1) 2 ((X5_isLike (gR r3.2 3 1) x1_2 x2_4 r3.2).bind fun v6 => if v6 = 0 then ((X8_takeBetween 0 20 r3.2).bind fun r7 => if r7.1 = 0 then (some (0, r7.2)) else (chkN (gR r7.2 3 1) 2 ((X5_appendLike (gR r7.2 3 1) x1_2 x2_4 (gI r7.2 3 7) r7.2).bind fun σ9 => (X8_takeToken 3 σ9).bind fun r10 => chkB r10.1 (some (r10.1, r10.2))))) else ((X8_refuse 4 r3.2).bind fun r12 => chkB r12.1 (some (r12.1, r12.2)))))))
-- FamilyNames$TextReader.tellOnce
def X8_tellOnce (x1 : Int32) (σ : St) : Option (Int32 × St) :=
  if (((gI σ 3 2) >>> (x1 &&& 31)) &&& 1) = 1 then ((X8_refuse 4 σ).bind fun r2 => chkB r2.1 (some (r2.1, r2.2))) else (bnd (sI σ 3 2 ((gI σ 3 2) ||| ((1 : Int32) <<< (x1 &&& 31)))) fun σ1 => some (1, σ1))
-- FamilyNames$TextReader.takeNumber
def X8_takeNumber (x1 : Int32) (x2 : Int32) (σ : St) : Option (Int32 × St) :=
  (X8_tellOnce x1 σ).bind fun r1 => if r1.1 = 0 then (some (0, r1.2)) else ((X8_takeBetween x2 20 r1.2).bind fun r2 => if r2.1 = 0 then (some (0, r2.2)) else (chkN (gR r2.2 3 1) 2 (chk x1 8 (bnd (sI r2.2 (6 + (gR r2.2 3 1)) x1.toNatClampNeg (gI r2.2 3 7)) fun σ4 => (X8_takeToken 3 σ4).bind fun r5 => chkB r5.1 (some (r5.1, r5.2))))))
-- FamilyNames$TextReader.takeSons
def X8_takeSons_B69 (kq14 : Int32 → Int32 → St → Option (Int32 × St)) (x1 : Int32) (x2 : Int32) (σ : St) : Option (Int32 × St) :=
  chkN (gR σ 3 1) 2 (chk (4 + x2) 8 (bnd (sI σ (6 + (gR σ 3 1)) (4 + x2).toNatClampNeg (gI σ 3 7)) fun σ9 => kq14 x1 (x2 + 1) σ9))
def X8_takeSons_B48 (kq14 : Int32 → Int32 → St → Option (Int32 × St)) (x1 : Int32) (x2 : Int32) (s0 : Int32) (σ : St) : Option (Int32 × St) :=
  if 9 < x1 then ((X8_refuse 3 σ).bind fun r6 => chkB r6.1 (some (r6.1, r6.2))) else (if s0 = 0 then (X8_takeSons_B69 kq14 x1 x2 σ) else (if x1 = 0 then ((X8_refuse 3 σ).bind fun r10 => chkB r10.1 (some (r10.1, r10.2))) else (X8_takeSons_B69 kq14 x1 x2 σ)))
def X8_takeSons_L14 : Nat → Int32 → Int32 → St → Option (Int32 × St)
  | 0, _, _, _ => none
  | n + 1, x1, x2, σ => if 4 ≤ x2 then ((X8_takeToken 3 σ).bind fun r2 => chkB r2.1 (some (r2.1, r2.2))) else ((X8_takeBetween 0 9 σ).bind fun r4 => if r4.1 = 0 then (some (0, r4.2)) else (bnd (x1 + (gI r4.2 3 7)) fun x1_5 => if x2 = 3 then (X8_takeSons_B48 (X8_takeSons_L14 n) x1_5 x2 (1 : Int32) r4.2) else (X8_takeSons_B48 (X8_takeSons_L14 n) x1_5 x2 (0 : Int32) r4.2)))
def X8_takeSons  (σ : St) : Option (Int32 × St) :=
  (X8_tellOnce 4 σ).bind fun r1 => if r1.1 = 0 then (some (0, r1.2)) else (X8_takeSons_L14 FU (0 : Int32) (0 : Int32) r1.2)
-- FamilyNames$TextReader.takeLine
def X8_takeLine_B32 (σ : St) : Option (Int32 × St) :=
  (X8_isWord 0 σ).bind fun v2 => (X8_takeChange v2 σ).bind fun r3 => chkB r3.1 (some (r3.1, r3.2))
def X8_takeLine  (σ : St) : Option (Int32 × St) :=
  if (gI σ 3 4) = 4 then ((X8_refuse 1 σ).bind fun r26 => chkB r26.1 (some (r26.1, r26.2))) else ((X8_isWord 0 σ).bind fun v1 => if v1 = 0 then ((X8_isWord 1 σ).bind fun v5 => if v5 = 0 then ((X8_isWord 2 σ).bind fun v6 => if v6 = 0 then ((X8_isWord 3 σ).bind fun v7 => if v7 = 0 then ((X8_isWord 4 σ).bind fun v8 => if v8 = 0 then ((X8_isWord 5 σ).bind fun v9 => if v9 = 0 then ((X8_isWord 6 σ).bind fun v10 => if v10 = 0 then ((X8_isWord 7 σ).bind fun v11 => if v11 = 0 then ((X8_refuse 2 σ).bind fun r12 => chkB r12.1 (some (r12.1, r12.2))) else ((X8_takeSons σ).bind fun r14 => chkB r14.1 (some (r14.1, r14.2)))) else ((X8_takeNumber 3 1 σ).bind fun r16 => chkB r16.1 (some (r16.1, r16.2)))) else ((X8_takeNumber 2 0 σ).bind fun r18 => chkB r18.1 (some (r18.1, r18.2)))) else ((X8_takeNumber 1 0 σ).bind fun r20 => chkB r20.1 (some (r20.1, r20.2)))) else ((X8_takeNumber 0 0 σ).bind fun r22 => chkB r22.1 (some (r22.1, r22.2)))) else ((X8_takeLike σ).bind fun r24 => chkB r24.1 (some (r24.1, r24.2)))) else (X8_takeLine_B32 σ)) else (X8_takeLine_B32 σ))
-- FamilyNames$TextReader.readInto
def X8_readInto_L36 (t1 : Nat) : Nat → Int32 → Int32 → St → Option (Int32 × St)
  | 0, _, _, _ => none
  | n + 1, x2, x3, σ => if 200 < x3 then (some (x2, σ)) else ((X8_readToken σ).bind fun σ8 => if (gI σ8 3 4) = 0 then (some (x2, σ8)) else ((X8_takeLine σ8).bind fun r9 => if r9.1 = 0 then (some (x2, r9.2)) else (X8_readInto_L36 t1 n (x2 + 1) (x3 + 1) r9.2)))
def X8_readInto (t1 : Nat) (σ : St) : Option (Int32 × St) :=
  bnd (sR σ 3 1 t1) fun σ1 => chkN (gR σ1 3 1) 2 ((X5_forget (gR σ1 3 1) σ1).bind fun σ3 => bnd (sI σ3 3 2 0) fun σ4 => bnd (sI σ4 3 3 0) fun σ5 => bnd (sI σ5 3 8 0) fun σ6 => bnd (sI σ6 3 9 0) fun σ7 => X8_readInto_L36 t1 FU (0 : Int32) (0 : Int32) σ7)
-- FamilyNames$Words.isWord
def X9_isWord_L21 (σ : St) : Nat → Int64 → Int32 → Option Int32
  | 0, _, _ => none
  | n + 1, x2, x4 => if 10 ≤ x4 then some 1 else (if x2 ≤ 0 then some 1 else (bnd (x2 &&& 31) fun x5_1 => if x5_1 < 1 then some 0 else (if x5_1 ≤ 26 then (bnd (x2 >>> ((5 : Int32).toInt64 &&& 63)) fun x2_2 => X9_isWord_L21 σ n x2_2 (x4 + 1)) else some 0)))
def X9_isWord (x0 : Int64) (σ : St) : Option Int32 :=
  if x0 ≤ 0 then some 0 else (if x0 < 1125899906842624 then (X9_isWord_L21 σ FU x0 (0 : Int32)) else some 0)
-- FamilyNames$Words.has
def X9_has (x1 : Int32) (σ : St) : Option Int32 :=
  if x1 < 0 then some 0 else (if (gI σ 18 1) ≤ x1 then some 0 else some 1)
-- FamilyNames$Words.holds
def X9_holds_L2 (σ : St) : Nat → Int64 → Int32 → Option Int32
  | 0, _, _ => none
  | n + 1, x1, x3 => if (gI σ 18 1) ≤ x3 then some 0 else (chk x3 16 (if (gJ σ 19 x3.toNatClampNeg) = x1 then some 1 else (X9_holds_L2 σ n x1 (x3 + 1))))
def X9_holds (x1 : Int64) (σ : St) : Option Int32 :=
  X9_holds_L2 σ FU x1 (0 : Int32)
-- FamilyNames$Words.nameMembers
def X9_nameMembers_L2 : Nat → Int32 → Int32 → Int32 → St → Option St
  | 0, _, _, _, _ => none
  | n + 1, x1, x2, x3, σ => if (gI σ 18 1) ≤ x3 then (some σ) else (if ((x1 >>> (x3 &&& 31)) &&& 1) = 1 then (chk x3 16 (bnd (sI σ 21 x3.toNatClampNeg x2) fun σ1 => X9_nameMembers_L2 n x1 x2 (x3 + 1) σ1)) else (X9_nameMembers_L2 n x1 x2 (x3 + 1) σ))
def X9_nameMembers (x1 : Int32) (x2 : Int32) (σ : St) : Option St :=
  X9_nameMembers_L2 FU x1 x2 (0 : Int32) σ
-- FamilyNames$Words.reachedFrom
def X9_reachedFrom_L28 (kq9 : Int32 → Int32 → Int32 → Option Int32) (σ : St) : Nat → Int32 → Int32 → Int32 → Int32 → Option Int32
  | 0, _, _, _, _ => none
  | n + 1, x2, x3, x4, x5 => if (gI σ 18 1) ≤ x5 then (kq9 x2 x3 (x4 + 1)) else (if ((x2 >>> (x5 &&& 31)) &&& 1) = 1 then (chk x5 16 (bnd (x2 ||| (gI σ 20 x5.toNatClampNeg)) fun x2_2 => X9_reachedFrom_L28 kq9 σ n x2_2 x3 x4 (x5 + 1))) else (X9_reachedFrom_L28 kq9 σ n x2 x3 x4 (x5 + 1)))
def X9_reachedFrom_L9 (σ : St) : Nat → Int32 → Int32 → Int32 → Option Int32
  | 0, _, _, _ => none
  | n + 1, x2, x3, x4 => if (gI σ 18 1) ≤ x4 then some x2 else (if x2 = x3 then some x2 else (X9_reachedFrom_L28 (X9_reachedFrom_L9 σ n) σ FU x2 x2 x4 (0 : Int32)))
def X9_reachedFrom (x1 : Int32) (σ : St) : Option Int32 :=
  bnd ((1 : Int32) <<< (x1 &&& 31)) fun x2_1 => X9_reachedFrom_L9 σ FU x2_1 (0 : Int32) (0 : Int32)
-- FamilyNames$Words.nameAll
def X9_nameAll_L4 : Nat → Int32 → Int32 → St → Option St
  | 0, _, _, _ => none
  | n + 1, x1, x2, σ => if (gI σ 18 1) ≤ x2 then (some σ) else (if ((x1 >>> (x2 &&& 31)) &&& 1) = 0 then ((X9_reachedFrom x2 σ).bind fun v1 => bnd (x1 ||| v1) fun x1_2 => (X9_nameMembers v1 x2 σ).bind fun σ3 => X9_nameAll_L4 n x1_2 (x2 + 1) σ3) else (X9_nameAll_L4 n x1 (x2 + 1) σ))
def X9_nameAll  (σ : St) : Option St :=
  X9_nameAll_L4 FU (0 : Int32) (0 : Int32) σ
-- FamilyNames$Words.appendSounds
def X9_appendSounds_L7 : Nat → Int32 → Int32 → Int32 → St → Option St
  | 0, _, _, _, _ => none
  | n + 1, x1, x2, x4, σ => if x4 < 0 then (some σ) else (chk x1 16 (if 20 ≤ (gI σ 22 x1.toNatClampNeg) then (X9_appendSounds_L7 n x1 x2 (x4 + (-5)) σ) else (chk x1 16 (chk ((x1 * 20) + (gI σ 22 x1.toNatClampNeg)) 320 (bnd (sI σ 23 ((x1 * 20) + (gI σ 22 x1.toNatClampNeg)).toNatClampNeg ((x2 >>> (x4 &&& 31)) &&& 31)) fun σ2 => chk x1 16 (chk x1 16 (bnd (sI σ2 22 x1.toNatClampNeg ((gI σ2 22 x1.toNatClampNeg) + 1)) fun σ3 => X9_appendSounds_L7 n x1 x2 (x4 + (-5)) σ3)))))))
def X9_appendSounds (x1 : Int32) (x2 : Int32) (x3 : Int32) (σ : St) : Option St :=
  bnd (5 * (x3 - 1)) fun x4_1 => X9_appendSounds_L7 FU x1 x2 x4_1 σ
-- FamilyNames$Words.hear
def X9_hear_L40 : Nat → Int32 → Int32 → Int32 → St → Option St
  | 0, _, _, _, _ => none
  | n + 1, x1, x2, x3, σ => if 10 ≤ x3 then (some σ) else (if x2 ≤ 0 then (some σ) else (chkN (gR σ 18 5) 2 (chk x1 16 ((X5_changeAt (gR σ 18 5) (gJ σ 19 x1.toNatClampNeg) x2 σ).bind fun v4 => if v4 = (-4) then (chk x1 16 ((X9_appendSounds x1 ((((gJ σ 19 x1.toNatClampNeg) >>> ((5 * (x2 - 1)).toInt64 &&& 63)) &&& 31).toInt32) 1 σ).bind fun σ10 => X9_hear_L40 n x1 (x2 + (-1)) (x3 + 1) σ10)) else (chkN (gR σ 18 5) 2 (chk v4 12 (chkN (gR σ 18 5) 2 (chk v4 12 ((X9_appendSounds x1 (gI σ (12 + (gR σ 18 5)) v4.toNatClampNeg) (gI σ (14 + (gR σ 18 5)) v4.toNatClampNeg) σ).bind fun σ7 => chkN (gR σ7 18 5) 2 (chk v4 12 (bnd (x2 - (gI σ7 (10 + (gR σ7 18 5)) v4.toNatClampNeg)) fun x2_9 => X9_hear_L40 n x1 x2_9 (x3 + 1) σ7)))))))))))
def X9_hear_L9 : Nat → Int32 → Int32 → Int64 → St → Option St
  | 0, _, _, _, _ => none
  | n + 1, x1, x2, x3, σ => if x3 ≤ 0 then (chk x1 16 (bnd (sI σ 22 x1.toNatClampNeg 0) fun σ2 => X9_hear_L40 FU x1 x2 (0 : Int32) σ2)) else (if 10 ≤ x2 then (chk x1 16 (bnd (sI σ 22 x1.toNatClampNeg 0) fun σ11 => X9_hear_L40 FU x1 x2 (0 : Int32) σ11)) else (bnd (x3 >>> ((5 : Int32).toInt64 &&& 63)) fun x3_12 => X9_hear_L9 n x1 (x2 + 1) x3_12 σ))
def X9_hear (x1 : Int32) (σ : St) : Option St :=
  chk x1 16 (bnd (gJ σ 19 x1.toNatClampNeg) fun x3_1 => X9_hear_L9 FU x1 (0 : Int32) x3_1 σ)
-- FamilyNames$Words.measure
def X9_measure_L94 (kq48 : Int32 → Int32 → Int32 → Int32 → Int32 → St → Option (Int32 × St)) : Nat → Int32 → Int32 → Int32 → Int32 → Int32 → Int32 → Int32 → Int32 → St → Option (Int32 × St)
  | 0, _, _, _, _, _, _, _, _, _ => none
  | n + 1, x1, x2, x3, x4, x5, x6, x7, x8, σ => if x4 ≤ x8 then (kq48 x1 x2 x3 x4 (x5 + 1) σ) else (chkN (gR σ 18 5) 2 (chk ((x2 * 20) + x8) 320 ((X5_swapCost (gR σ 18 5) x7 (gI σ 23 ((x2 * 20) + x8).toNatClampNeg) σ).bind fun v8 => bnd (x6 + v8) fun x9_9 => chk (x8 + 1) 21 (bnd (gI σ 26 (x8 + 1).toNatClampNeg) fun x6_10 => chk x8 21 ((J9_min_7cf53 x6_10 (gI σ 26 x8.toNatClampNeg) σ).bind fun v11 => (J9_min_7cf53 x9_9 (v11 + x3) σ).bind fun v12 => chk (x8 + 1) 21 (bnd (sI σ 26 (x8 + 1).toNatClampNeg v12) fun σ13 => X9_measure_L94 kq48 n x1 x2 x3 x4 x5 x6_10 x7 (x8 + 1) σ13))))))
def X9_measure_L48 : Nat → Int32 → Int32 → Int32 → Int32 → Int32 → St → Option (Int32 × St)
  | 0, _, _, _, _, _, _ => none
  | n + 1, x1, x2, x3, x4, x5, σ => chk x1 16 (if (gI σ 22 x1.toNatClampNeg) ≤ x5 then (chk x4 21 (some ((gI σ 26 x4.toNatClampNeg), σ))) else (bnd (gI σ 26 0) fun x6_4 => bnd (sI σ 26 0 ((gI σ 26 0) + x3)) fun σ5 => chk ((x1 * 20) + x5) 320 (bnd (gI σ5 23 ((x1 * 20) + x5).toNatClampNeg) fun x7_6 => X9_measure_L94 (X9_measure_L48 n) FU x1 x2 x3 x4 x5 x6_4 x7_6 (0 : Int32) σ5)))
def X9_measure_L21 : Nat → Int32 → Int32 → Int32 → Int32 → Int32 → St → Option (Int32 × St)
  | 0, _, _, _, _, _, _ => none
  | n + 1, x1, x2, x3, x4, x5, σ => if x4 < x5 then (X9_measure_L48 FU x1 x2 x3 x4 (0 : Int32) σ) else (chk x5 21 (bnd (sI σ 26 x5.toNatClampNeg (x5 * x3)) fun σ14 => X9_measure_L21 n x1 x2 x3 x4 (x5 + 1) σ14))
def X9_measure (x1 : Int32) (x2 : Int32) (σ : St) : Option (Int32 × St) :=
  chkN (gR σ 18 5) 2 (bnd (gI σ (6 + (gR σ 18 5)) 0) fun x3_2 => chk x2 16 (bnd (gI σ 22 x2.toNatClampNeg) fun x4_3 => X9_measure_L21 FU x1 x2 x3_2 x4_3 (0 : Int32) σ))
-- FamilyNames$Words.settle
def X9_settle_L16 : Nat → Int32 → Int32 → St → Option St
  | 0, _, _, _ => none
  | n + 1, x1, x2, σ => if x1 ≤ x2 then (some σ) else ((X9_measure x1 x2 σ).bind fun r3 => chk ((x1 * 16) + x2) 256 (bnd (sI r3.2 24 ((x1 * 16) + x2).toNatClampNeg r3.1) fun σ4 => chk ((x2 * 16) + x1) 256 (bnd (sI σ4 24 ((x2 * 16) + x1).toNatClampNeg r3.1) fun σ5 => chkN (gR σ5 18 5) 2 (if (gI σ5 (6 + (gR σ5 18 5)) 2) < r3.1 then (X9_settle_L16 n x1 (x2 + 1) σ5) else (chk x1 16 (chk x1 16 (bnd (sI σ5 20 x1.toNatClampNeg ((gI σ5 20 x1.toNatClampNeg) ||| ((1 : Int32) <<< (x2 &&& 31)))) fun σ7 => chk x2 16 (chk x2 16 (bnd (sI σ7 20 x2.toNatClampNeg ((gI σ7 20 x2.toNatClampNeg) ||| ((1 : Int32) <<< (x1 &&& 31)))) fun σ8 => X9_settle_L16 n x1 (x2 + 1) σ8)))))))))
def X9_settle (x1 : Int32) (σ : St) : Option St :=
  (X9_hear x1 σ).bind fun σ1 => chk x1 16 (bnd (sI σ1 20 x1.toNatClampNeg ((1 : Int32) <<< (x1 &&& 31))) fun σ2 => X9_settle_L16 FU x1 (0 : Int32) σ2)
-- FamilyNames$Words.append
def X9_append (x1 : Int64) (σ : St) : Option (Int32 × St) :=
  if (gI σ 18 1) < 16 then (chk (gI σ 18 1) 16 (bnd (sJ σ 19 (gI σ 18 1).toNatClampNeg x1) fun σ1 => bnd (sI σ1 18 1 ((gI σ1 18 1) + 1)) fun σ2 => (X9_settle ((gI σ2 18 1) - 1) σ2).bind fun σ3 => (X9_nameAll σ3).bind fun σ4 => some (((gI σ4 18 1) - 1), σ4))) else (some ((-3), σ))
-- FamilyNames$Words.follow
def X9_follow_L7 (t1 : Nat) : Nat → Int32 → St → Option St
  | 0, _, _ => none
  | n + 1, x2, σ => if (gI σ 18 1) ≤ x2 then ((X9_nameAll σ).bind fun σ2 => some σ2) else ((X9_settle x2 σ).bind fun σ3 => X9_follow_L7 t1 n (x2 + 1) σ3)
def X9_follow (t1 : Nat) (σ : St) : Option St :=
  bnd (sR σ 18 5 t1) fun σ1 => X9_follow_L7 t1 FU (0 : Int32) σ1
-- FamilyNames$Words.soundOf
def X9_soundOf_L5 (σ : St) : Nat → Int32 → Int64 → Int32 → Option Int64
  | 0, _, _, _ => none
  | n + 1, x1, x2, x4 => chk x1 16 (if (gI σ 22 x1.toNatClampNeg) ≤ x4 then some x2 else (chk ((x1 * 20) + x4) 320 (bnd (((x2 <<< ((5 : Int32).toInt64 &&& 63)) ||| ((gI σ 23 ((x1 * 20) + x4).toNatClampNeg).toInt64)) &&& 1152921504606846975) fun x2_1 => X9_soundOf_L5 σ n x1 x2_1 (x4 + 1))))
def X9_soundOf (x1 : Int32) (σ : St) : Option Int64 :=
  X9_soundOf_L5 σ FU x1 (0 : Int64) (0 : Int32)
-- FamilyNames$Words.apartOf
def X9_apartOf (x1 : Int32) (x2 : Int32) (σ : St) : Option Int32 :=
  chk ((x1 * 16) + x2) 256 (some (gI σ 24 ((x1 * 16) + x2).toNatClampNeg))
-- FamilyNames$Words.howManyNames
def X9_howManyNames_L4 (σ : St) : Nat → Int32 → Int32 → Option Int32
  | 0, _, _ => none
  | n + 1, x1, x2 => if (gI σ 18 1) ≤ x2 then some x1 else (chk x2 16 (if (gI σ 21 x2.toNatClampNeg) = x2 then (X9_howManyNames_L4 σ n (x1 + 1) (x2 + 1)) else (X9_howManyNames_L4 σ n x1 (x2 + 1))))
def X9_howManyNames  (σ : St) : Option Int32 :=
  X9_howManyNames_L4 σ FU (0 : Int32) (0 : Int32)
-- FamilyNames$Words.costOver
def X9_costOver (x1 : Int32) (x2 : Int32) (σ : St) : Option Int32 :=
  chk x2 16 (chk ((x1 * 16) + x2) 256 (some (((gI σ 25 x2.toNatClampNeg) + ((gI σ 24 ((x1 * 16) + x2).toNatClampNeg) * 32)) + 1)))
-- FamilyNames$Words.cheapestStep
def X9_cheapestStep_L5 (σ : St) : Nat → Int32 → Int32 → Int32 → Option Int32
  | 0, _, _, _ => none
  | n + 1, x1, x2, x3 => if (gI σ 18 1) ≤ x3 then some x2 else (if x3 = x1 then (X9_cheapestStep_L5 σ n x1 x2 (x3 + 1)) else (chk x1 16 (if (((gI σ 20 x1.toNatClampNeg) >>> (x3 &&& 31)) &&& 1) = 1 then ((X9_costOver x1 x3 σ).bind fun v1 => (J9_min_7cf53 x2 v1 σ).bind fun v2 => X9_cheapestStep_L5 σ n x1 v2 (x3 + 1)) else (X9_cheapestStep_L5 σ n x1 x2 (x3 + 1)))))
def X9_cheapestStep (x1 : Int32) (σ : St) : Option Int32 :=
  X9_cheapestStep_L5 σ FU x1 (1048576 : Int32) (0 : Int32)
-- FamilyNames$Words.walkTo
def X9_walkTo_L35 (kq20 : Int32 → Int32 → St → Option St) : Nat → Int32 → Int32 → Int32 → St → Option St
  | 0, _, _, _, _ => none
  | n + 1, x2, x3, x4, σ => if (gI σ 18 1) ≤ x4 then (kq20 x2 (x3 + 1) σ) else ((X9_cheapestStep x4 σ).bind fun v3 => chk x4 16 (if (gI σ 25 x4.toNatClampNeg) ≤ v3 then (X9_walkTo_L35 kq20 n x2 x3 (x4 + 1) σ) else (chk x4 16 (bnd (sI σ 25 x4.toNatClampNeg v3) fun σ4 => X9_walkTo_L35 kq20 n (1 : Int32) x3 (x4 + 1) σ4))))
def X9_walkTo_L20 : Nat → Int32 → Int32 → St → Option St
  | 0, _, _, _ => none
  | n + 1, x2, x3, σ => if 16 ≤ x3 then (some σ) else (if x2 = 0 then (some σ) else (X9_walkTo_L35 (X9_walkTo_L20 n) FU (0 : Int32) x3 (0 : Int32) σ))
def X9_walkTo (x1 : Int32) (σ : St) : Option St :=
  (J7_fill_53178 25 16 1048576 σ).bind fun σ1 => chk x1 16 (bnd (sI σ1 25 x1.toNatClampNeg 0) fun σ2 => X9_walkTo_L20 FU (1 : Int32) (0 : Int32) σ2)
-- FamilyNames$Words.chainLength
def X9_chainLength (x1 : Int32) (σ : St) : Option Int32 :=
  chk x1 16 (some (((gI σ 25 x1.toNatClampNeg) - (gI σ 25 x1.toNatClampNeg) / 32 * 32) + 1))
-- FamilyNames$Words.chainSum
def X9_chainSum (x1 : Int32) (σ : St) : Option Int32 :=
  chk x1 16 (some ((gI σ 25 x1.toNatClampNeg) / 32))
-- FamilyNames$Words.nextOnChain
def X9_nextOnChain_L2 (σ : St) : Nat → Int32 → Int32 → Option Int32
  | 0, _, _ => none
  | n + 1, x1, x2 => if (gI σ 18 1) ≤ x2 then some x1 else (if x2 = x1 then (X9_nextOnChain_L2 σ n x1 (x2 + 1)) else (chk x1 16 (if (((gI σ 20 x1.toNatClampNeg) >>> (x2 &&& 31)) &&& 1) = 1 then ((X9_costOver x1 x2 σ).bind fun v1 => chk x1 16 (if v1 = (gI σ 25 x1.toNatClampNeg) then some x2 else (X9_nextOnChain_L2 σ n x1 (x2 + 1)))) else (X9_nextOnChain_L2 σ n x1 (x2 + 1)))))
def X9_nextOnChain (x1 : Int32) (σ : St) : Option Int32 :=
  X9_nextOnChain_L2 σ FU x1 (0 : Int32)
-- FamilyNames$Words.chainMember
def X9_chainMember_L17 (σ : St) : Nat → Int32 → Int32 → Int32 → Option Int32
  | 0, _, _, _ => none
  | n + 1, x2, x3, x4 => if x2 ≤ x4 then some x3 else ((X9_nextOnChain x3 σ).bind fun v2 => X9_chainMember_L17 σ n x2 v2 (x4 + 1))
def X9_chainMember (x1 : Int32) (x2 : Int32) (σ : St) : Option Int32 :=
  (X9_chainLength x1 σ).bind fun v1 => if x2 < v1 then (X9_chainMember_L17 σ FU x2 x1 (0 : Int32)) else (some (-4))
-- FamilyNames.spelling
def X10_spelling (x1 : Int64) (σ : St) : Option (Int32 × St) :=
  (X9_isWord x1 σ).bind fun v1 => if v1 = 0 then (some ((-1), σ)) else ((X9_holds x1 σ).bind fun v2 => if v2 = 0 then ((X9_append x1 σ).bind fun r3 => some (r3.1, r3.2)) else (some ((-1), σ)))
-- FamilyNames.letters
def X10_letters (x1 : Int32) (σ : St) : Option Int64 :=
  (X9_has x1 σ).bind fun v1 => if v1 = 0 then (some (-1)) else (chk x1 16 (some (gJ σ 19 x1.toNatClampNeg)))
-- FamilyNames.feed
def X10_feed (x1 : Int64) (σ : St) : Option (Int32 × St) :=
  (X7_append x1 σ).bind fun r1 => if r1.1 = 0 then (some ((-3), r1.2)) else (some ((gI r1.2 1 1), r1.2))
-- FamilyNames.end
def X10_end (x1 : Int32) (σ : St) : Option (Int32 × St) :=
  if x1 < 0 then (some ((-1), σ)) else (if x1 ≤ (gI σ 1 1) then (bnd (gI σ 1 1) fun x2_1 => bnd (sI σ 1 1 x1) fun σ2 => some (x2_1, σ2)) else (some ((-1), σ)))
-- FamilyNames.rules
def X10_rules  (σ : St) : Option (Int32 × St) :=
  chkN (gR σ 0 9) 2 ((X8_readInto (gR σ 0 9) σ).bind fun r2 => bnd (sI r2.2 1 1 0) fun σ3 => bnd (sI σ3 0 10 (gI σ3 3 8)) fun σ4 => if (gI σ4 0 10) = 0 then (chkN (gR σ4 0 8) 2 (chkN (gR σ4 0 9) 2 (bnd (sR σ4 0 8 (gR σ4 0 9)) fun σ7 => bnd (sR σ7 0 9 (gR σ4 0 8)) fun σ8 => chkN (gR σ8 0 8) 2 ((X9_follow (gR σ8 0 8) σ8).bind fun σ10 => some (r2.1, σ10))))) else (some (((-10) - (gI σ4 3 9)), σ4)))
-- FamilyNames.fault
def X10_fault  (σ : St) : Option Int32 :=
  some (gI σ 0 10)
-- FamilyNames.rule
def X10_rule (x1 : Int32) (σ : St) : Option Int32 :=
  if x1 < 0 then (some (-1)) else (if x1 ≤ 9 then (if 8 ≤ x1 then (if x1 = 8 then (chkN (gR σ 0 8) 2 (some (gI σ (4 + gR σ 0 8) 6))) else (chkN (gR σ 0 8) 2 (some (gI σ (4 + gR σ 0 8) 7)))) else (chkN (gR σ 0 8) 2 (chk x1 8 (some (gI σ (6 + (gR σ 0 8)) x1.toNatClampNeg))))) else (some (-1)))
-- FamilyNames.sound
def X10_sound (x1 : Int32) (σ : St) : Option Int64 :=
  (X9_has x1 σ).bind fun v1 => if v1 = 0 then (some (-1)) else ((X9_soundOf x1 σ).bind fun v2 => some v2)
-- FamilyNames.sounds
def X10_sounds (x1 : Int32) (σ : St) : Option Int32 :=
  (X9_has x1 σ).bind fun v1 => if v1 = 0 then (some (-1)) else (chk x1 16 (some (gI σ 22 x1.toNatClampNeg)))
-- FamilyNames.apart
def X10_apart (x1 : Int32) (x2 : Int32) (σ : St) : Option Int32 :=
  (X9_has x1 σ).bind fun v1 => if v1 = 0 then (some (-1)) else ((X9_has x2 σ).bind fun v2 => if v2 = 0 then (some (-1)) else ((X9_apartOf x1 x2 σ).bind fun v3 => some v3))
-- FamilyNames.name
def X10_name (x1 : Int32) (σ : St) : Option Int32 :=
  (X9_has x1 σ).bind fun v1 => if v1 = 0 then (some (-1)) else (chk x1 16 (some (gI σ 21 x1.toNatClampNeg)))
-- FamilyNames.chain
def X10_chain_B57 (x1 : Int32) (x2 : Int32) (x3 : Int32) (x4 : Int32) (σ : St) : Option (Int32 × St) :=
  chk x1 16 (chk x2 16 (if (gI σ 21 x1.toNatClampNeg) = (gI σ 21 x2.toNatClampNeg) then ((X9_walkTo x2 σ).bind fun σ3 => if x4 = 0 then (if x3 = 0 then ((X9_chainLength x1 σ3).bind fun v5 => some (v5, σ3)) else ((X9_chainSum x1 σ3).bind fun v4 => some (v4, σ3))) else ((X9_chainMember x1 (x3 - 10) σ3).bind fun v6 => some (v6, σ3))) else (some ((-4), σ))))
def X10_chain_B17 (x1 : Int32) (x2 : Int32) (x3 : Int32) (s0 : Int32) (σ : St) : Option (Int32 × St) :=
  (X9_has x1 σ).bind fun v1 => if v1 = 0 then (some ((-1), σ)) else ((X9_has x2 σ).bind fun v2 => if v2 = 0 then (some ((-1), σ)) else (if x3 = 0 then (X10_chain_B57 x1 x2 x3 s0 σ) else (if x3 = 1 then (X10_chain_B57 x1 x2 x3 s0 σ) else (if s0 = 0 then (some ((-1), σ)) else (X10_chain_B57 x1 x2 x3 s0 σ)))))
def X10_chain (x1 : Int32) (x2 : Int32) (x3 : Int32) (σ : St) : Option (Int32 × St) :=
  if x3 < 10 then (X10_chain_B17 x1 x2 x3 (0 : Int32) σ) else (if 26 ≤ x3 then (X10_chain_B17 x1 x2 x3 (0 : Int32) σ) else (X10_chain_B17 x1 x2 x3 (1 : Int32) σ))
-- FamilyNames.standing
def X10_standing (x1 : Int32) (σ : St) : Option Int32 :=
  if x1 < 0 then (some (-1)) else (if x1 ≤ 2 then (if x1 = 2 then ((X9_howManyNames σ).bind fun v3 => some v3) else ((X1_fewest (gI σ 18 1) σ).bind fun v1 => if x1 = 0 then ((J6_bitCount_0f7a4 v1 σ).bind fun v2 => some v2) else some v1)) else (some (-1)))
-- FamilyNames.place
def X10_place (x1 : Int32) (x2 : Int32) (σ : St) : Option (Int32 × St) :=
  if x1 < 0 then (some ((-1), σ)) else (if 99 < x1 then (some ((-1), σ)) else (if x2 < 0 then (some ((-1), σ)) else (if x2 ≤ 99 then ((X0_appendPlace x1 x2 σ).bind fun r1 => some (r1.1, r1.2)) else (some ((-1), σ)))))
-- FamilyNames.book
def X10_book (x1 : Int32) (x2 : Int32) (x3 : Int32) (σ : St) : Option (Int32 × St) :=
  (X0_hasPlace x1 σ).bind fun v1 => if v1 = 0 then (some ((-1), σ)) else ((X0_areYears x2 x3 σ).bind fun v2 => if v2 = 0 then (some ((-1), σ)) else (if (x3 - x2) < 64 then ((X0_append x1 x2 x3 σ).bind fun r3 => some (r3.1, r3.2)) else (some ((-1), σ))))
-- FamilyNames.hole
def X10_hole (x1 : Int32) (x2 : Int32) (x3 : Int32) (σ : St) : Option (Int32 × St) :=
  (X0_has x1 σ).bind fun v1 => if v1 = 0 then (some ((-1), σ)) else ((X0_hasYear x1 x2 σ).bind fun v2 => if v2 = 0 then (some ((-1), σ)) else ((X3_areIn x1 x2 σ).bind fun v3 => if v3 = 0 then ((X0_isHole x1 x2 σ).bind fun v4 => (X0_setHole x1 x2 x3 σ).bind fun σ5 => if v4 = 0 then (some (0, σ5)) else (some (1, σ5))) else (some ((-2), σ))))
-- java/lang/Long.bitCount
def J13_bitCount_95d88 (x0 : Int64) (σ : St) : Option Int32 :=
  bnd (x0 - (((x0.toUInt64 >>> ((1 : Int32).toInt64.toUInt64 &&& Int64.toUInt64 63)).toInt64) &&& 6148914691236517205)) fun x0_1 => bnd ((x0_1 &&& 3689348814741910323) + (((x0_1.toUInt64 >>> ((2 : Int32).toInt64.toUInt64 &&& Int64.toUInt64 63)).toInt64) &&& 3689348814741910323)) fun x0_2 => bnd ((x0_2 + ((x0_2.toUInt64 >>> ((4 : Int32).toInt64.toUInt64 &&& Int64.toUInt64 63)).toInt64)) &&& 1085102592571150095) fun x0_3 => bnd (x0_3 + ((x0_3.toUInt64 >>> ((8 : Int32).toInt64.toUInt64 &&& Int64.toUInt64 63)).toInt64)) fun x0_4 => bnd (x0_4 + ((x0_4.toUInt64 >>> ((16 : Int32).toInt64.toUInt64 &&& Int64.toUInt64 63)).toInt64)) fun x0_5 => bnd (x0_5 + ((x0_5.toUInt64 >>> ((32 : Int32).toInt64.toUInt64 &&& Int64.toUInt64 63)).toInt64)) fun x0_6 => some (x0_6.toInt32 &&& 127)
-- FamilyNames.bookOf
def X10_bookOf (x1 : Int32) (x2 : Int32) (σ : St) : Option Int32 :=
  (X0_has x1 σ).bind fun v1 => if v1 = 0 then (some (-1)) else (swk x2 0 [chk x1 8 (some (gI σ 30 x1.toNatClampNeg)), chk x1 8 (some (gI σ 31 x1.toNatClampNeg)), chk x1 8 (some (gI σ 32 x1.toNatClampNeg)), chk x1 8 ((J13_bitCount_95d88 (gJ σ 33 x1.toNatClampNeg) σ).bind fun v2 => some v2), (X3_howManyIn x1 σ).bind fun v3 => some v3, (X0_latestReadable x1 σ).bind fun v4 => some v4] (some (-1)))
-- FamilyNames.line
def X10_line (x1 : Int32) (x2 : Int32) (x3 : Int32) (x4 : Int32) (σ : St) : Option (Int32 × St) :=
  (X0_has x1 σ).bind fun v1 => if v1 = 0 then (some ((-1), σ)) else ((X0_hasYear x1 x2 σ).bind fun v2 => if v2 = 0 then (some ((-1), σ)) else ((X9_has x3 σ).bind fun v3 => if v3 = 0 then (some ((-1), σ)) else ((X3_isKind x4 σ).bind fun v4 => if v4 = 0 then (some ((-1), σ)) else ((X0_isHole x1 x2 σ).bind fun v5 => if v5 = 0 then ((X3_append x1 x2 x3 x4 (gI σ 0 12) σ).bind fun r6 => some (r6.1, r6.2)) else (some ((-2), σ))))))
-- FamilyNames.day
def X10_day (x1 : Int32) (σ : St) : Option (Int32 × St) :=
  if x1 < (gI σ 0 12) then (some ((-1), σ)) else (if x1 ≤ 999 then (bnd (gI σ 0 12) fun x2_1 => bnd (sI σ 0 12 x1) fun σ2 => some (x2_1, σ2)) else (some ((-1), σ)))
-- FamilyNames.again
def X10_again (x1 : Int32) (x2 : Int32) (σ : St) : Option (Int32 × St) :=
  (X3_has x1 σ).bind fun v1 => if v1 = 0 then (some ((-1), σ)) else ((X9_has x2 σ).bind fun v2 => if v2 = 0 then (some ((-1), σ)) else (chk x1 40 (if (gI σ 39 x1.toNatClampNeg) = x2 then (some ((-2), σ)) else ((X3_reread x1 x2 (gI σ 0 12) σ).bind fun r3 => some (r3.1, r3.2)))))
-- FamilyNames.lineOf
def X10_lineOf (x1 : Int32) (x2 : Int32) (σ : St) : Option Int32 :=
  (X3_has x1 σ).bind fun v1 => if v1 = 0 then (some (-1)) else (swk x2 0 [chk x1 40 (some (gI σ 35 x1.toNatClampNeg)), chk x1 40 (some (gI σ 36 x1.toNatClampNeg)), chk x1 40 (some (gI σ 39 x1.toNatClampNeg)), chk x1 40 (some (gI σ 37 x1.toNatClampNeg)), (X3_nameOfLine x1 σ).bind fun v2 => some v2, chk x1 40 (some (gI σ 41 x1.toNatClampNeg)), chk x1 40 (some (gI σ 40 x1.toNatClampNeg)), chk x1 40 (some (gI σ 38 x1.toNatClampNeg))] (some (-1)))
-- FamilyNames.known
def X10_known (x1 : Int32) (x2 : Int32) (σ : St) : Option Int32 :=
  (X3_has x1 σ).bind fun v1 => if v1 = 0 then (some (-1)) else (if x2 < 0 then (some (-1)) else (if 999 < x2 then (some (-1)) else ((X3_knownOn x1 x2 σ).bind fun v2 => some v2)))
-- FamilyNames.bearers
def X10_bearers_B16 (σ : St) (x1 : Int32) (x2 : Int32) (x3 : Int32) (x4 : Int32) (x5 : Int32) (s0 : Int32) : Option Int32 :=
  (X9_has x1 σ).bind fun v1 => if v1 = 0 then (some (-1)) else ((X0_hasPlace x2 σ).bind fun v2 => if v2 = 0 then (some (-1)) else ((X0_areYears x3 x4 σ).bind fun v3 => if v3 = 0 then (some (-1)) else (if s0 = 0 then (some (-1)) else ((X0_readableYears x2 x3 x4 σ).bind fun v4 => if x5 = 2 then some v4 else (chk x1 16 ((X3_worth (gI σ 21 x1.toNatClampNeg) x2 x3 x4 σ).bind fun v5 => if x5 = 0 then (some (v5 / 2)) else ((J9_max_7cf53 ((x4 - x3) + 1) v4 σ).bind fun v6 => if v4 = 0 then (some (-4)) else ((X10_divideUp (v5 * v6) (2 * v4) σ).bind fun v7 => some v7))))))))
def X10_bearers (x1 : Int32) (x2 : Int32) (x3 : Int32) (x4 : Int32) (x5 : Int32) (σ : St) : Option Int32 :=
  if x5 < 0 then (X10_bearers_B16 σ x1 x2 x3 x4 x5 (0 : Int32)) else (if 2 < x5 then (X10_bearers_B16 σ x1 x2 x3 x4 x5 (0 : Int32)) else (X10_bearers_B16 σ x1 x2 x3 x4 x5 (1 : Int32)))
-- FamilyNames.first
def X10_first (x1 : Int32) (x2 : Int32) (σ : St) : Option Int32 :=
  (X9_has x1 σ).bind fun v1 => if v1 = 0 then (some (-1)) else ((X0_hasPlace x2 σ).bind fun v2 => if v2 = 0 then (some (-1)) else (chk x1 16 ((X3_firstYear (gI σ 21 x1.toNatClampNeg) x2 σ).bind fun v3 => some v3)))
-- FamilyNames.starts
def X10_starts (x1 : Int32) (x2 : Int32) (σ : St) : Option (Int32 × St) :=
  (X9_has x1 σ).bind fun v1 => if v1 = 0 then (some ((-1), σ)) else (if x2 < 0 then (some ((-1), σ)) else (if x2 ≤ 3 then (chk x1 16 ((X4_gather (gI σ 21 x1.toNatClampNeg) σ).bind fun σ2 => if x2 = 2 then (some ((gI σ2 46 4), σ2)) else (chkN (gR σ2 0 8) 2 ((X4_spread (gI σ2 (6 + (gR σ2 0 8)) 3) σ2).bind fun σ4 => (X4_search σ4).bind fun σ5 => if x2 = 3 then (some ((gI σ5 46 6), σ5)) else (if x2 = 0 then ((J6_bitCount_0f7a4 (gI σ5 46 5) σ5).bind fun v6 => some (v6, σ5)) else (some ((gI σ5 46 5), σ5))))))) else (some ((-1), σ))))
-- FamilyNames.judge
def X10_judge (x1 : Int32) (x2 : Int32) (σ : St) : Option (Int32 × St) :=
  (X9_has x1 σ).bind fun v1 => if v1 = 0 then (some ((-1), σ)) else (if x2 < 0 then (some ((-1), σ)) else (if x2 < ((1 : Int32) <<< ((gI σ 27 2) &&& 31)) then (chk x1 16 ((X4_gather (gI σ 21 x1.toNatClampNeg) σ).bind fun σ2 => if (x2 &&& ((gI σ2 46 4) ^^^ (-1))) = 0 then (chkN (gR σ2 0 8) 2 ((X4_spread (gI σ2 (6 + (gR σ2 0 8)) 3) σ2).bind fun σ4 => (X4_letsAllCome x2 σ4).bind fun v5 => if v5 = 0 then (some (0, σ4)) else (some (1, σ4)))) else (some ((-2), σ2)))) else (some ((-1), σ))))
-- FamilyNames.pace
def X10_pace_L31 : Nat → Int32 → St → Option (Int32 × St)
  | 0, _, _ => none
  | n + 1, x2, σ => if 20 < x2 then (some ((-4), σ)) else ((X4_spread x2 σ).bind fun σ3 => (X4_hasSingleStart σ3).bind fun v4 => if v4 = 0 then (X10_pace_L31 n (x2 + 1) σ3) else (some (x2, σ3)))
def X10_pace (x1 : Int32) (σ : St) : Option (Int32 × St) :=
  (X9_has x1 σ).bind fun v1 => if v1 = 0 then (some ((-1), σ)) else (chk x1 16 ((X4_gather (gI σ 21 x1.toNatClampNeg) σ).bind fun σ2 => X10_pace_L31 FU (1 : Int32) σ2))
-- FamilyNames.dies
def X10_dies (x1 : Int32) (x2 : Int32) (σ : St) : Option (Int64 × St) :=
  if x1 < 1 then (some ((-1), σ)) else (if 3 < x1 then (some ((-1), σ)) else (if x2 < 0 then (some ((-1), σ)) else (if x2 ≤ 1 then (chkN (gR σ 0 8) 2 ((X2_follow (gR σ 0 8) x1 σ).bind fun σ2 => if x2 = 0 then (some ((gJ σ2 49 0), σ2)) else (some ((gJ σ2 49 1), σ2)))) else (some ((-1), σ)))))
-- FamilyNames.father
def X10_father_B52 (x1 : Int32) (x2 : Int32) (σ : St) : Option (Int32 × St) :=
  chk x1 40 (bnd (gI σ 41 x1.toNatClampNeg) fun x3_2 => chk x1 40 (bnd (sI σ 41 x1.toNatClampNeg x2) fun σ3 => some (x3_2, σ3)))
def X10_father_B31 (x1 : Int32) (x2 : Int32) (σ : St) : Option (Int32 × St) :=
  if x2 = (-4) then (X10_father_B52 x1 x2 σ) else ((X3_mayBeFather x1 x2 σ).bind fun v4 => if v4 = 0 then (some ((-6), σ)) else (X10_father_B52 x1 x2 σ))
def X10_father (x1 : Int32) (x2 : Int32) (σ : St) : Option (Int32 × St) :=
  (X3_has x1 σ).bind fun v1 => if v1 = 0 then (some ((-5), σ)) else (if x2 = (-4) then (X10_father_B31 x1 x2 σ) else ((X3_has x2 σ).bind fun v5 => if v5 = 0 then (some ((-5), σ)) else (X10_father_B31 x1 x2 σ)))
-- FamilyNames.kin
def X10_kin (x1 : Int32) (x2 : Int32) (σ : St) : Option Int32 :=
  (X3_has x1 σ).bind fun v1 => if v1 = 0 then (some (-1)) else ((X3_has x2 σ).bind fun v2 => if v2 = 0 then (some (-1)) else ((X3_stepsBetween x1 x2 σ).bind fun v3 => some v3))
-- FamilyNames.related
def X10_related_B48 (σ : St) (x1 : Int32) (x2 : Int32) (s0 : Int32) : Option Int32 :=
  (X3_stepsBetween x1 x2 σ).bind fun v5 => if v5 = (-4) then (some (s0 + 0)) else (some (s0 + 2))
def X10_related (x1 : Int32) (x2 : Int32) (σ : St) : Option Int32 :=
  (X3_has x1 σ).bind fun v1 => if v1 = 0 then (some (-1)) else ((X3_has x2 σ).bind fun v2 => if v2 = 0 then (some (-1)) else ((X3_nameOfLine x1 σ).bind fun v3 => (X3_nameOfLine x2 σ).bind fun v4 => if v3 = v4 then (X10_related_B48 σ x1 x2 (1 : Int32)) else (X10_related_B48 σ x1 x2 (0 : Int32))))
-- FamilyNames.issue
def X10_issue (x1 : Int32) (x2 : Int32) (σ : St) : Option Int32 :=
  (X3_has x1 σ).bind fun v1 => if v1 = 0 then (some (-1)) else (swk x2 0 [(X3_descendants x1 σ).bind fun v2 => some v2, (X3_renamedDescendants x1 σ).bind fun v3 => some v3, (X3_longestDescent x1 σ).bind fun v4 => some v4] (some (-1)))
-- FamilyNames.isSheet
def X10_isSheet (x0 : Int32) (σ : St) : Option Int32 :=
  if x0 < 0 then some 0 else (if 4 ≤ x0 then some 0 else some 1)
-- FamilyNames.sheet
def X10_sheet (x1 : Int32) (x2 : Int32) (x3 : Int32) (σ : St) : Option (Int32 × St) :=
  (X10_isSheet x1 σ).bind fun v1 => if v1 = 0 then (some ((-1), σ)) else ((X6_isLane x2 σ).bind fun v2 => if v2 = 0 then (some ((-1), σ)) else (if x3 ≤ 64 then (if 0 ≤ x3 then (chk x1 4 ((X6_renew (x1.toNatClampNeg) x2 x3 σ).bind fun σ4 => some (1, σ4))) else (some ((-14), σ))) else (some ((-1), σ))))
-- FamilyNames.lay
def X10_lay (x1 : Int32) (x2 : Int32) (x3 : Int32) (σ : St) : Option (Int32 × St) :=
  (X10_isSheet x1 σ).bind fun v1 => if v1 = 0 then (some ((-1), σ)) else (chk x1 4 (chk x1 4 ((X6_faultAt (x1.toNatClampNeg) (gI σ (51 + x1.toNatClampNeg) 1) x2 σ).bind fun v4 => if v4 = 0 then (chk x1 4 ((X6_put (x1.toNatClampNeg) x2 x3 σ).bind fun σ6 => some (1, σ6))) else (some (((-10) - v4), σ)))))
-- FamilyNames.isFilled
def X10_isFilled (x1 : Int32) (t2 : Nat) (x3 : Int32) (σ : St) : Option Int32 :=
  chk x1 8 ((X0_isHole x1 ((gI σ 31 x1.toNatClampNeg) + x3) σ).bind fun v1 => if v1 = 0 then ((X6_cellAt t2 x3 σ).bind fun v2 => (X9_has v2 σ).bind fun v3 => if v3 = 0 then some 0 else some 1) else some 0)
-- FamilyNames.copyYears
def X10_copyYears_L3 (t2 : Nat) : Nat → Int32 → Int32 → Int32 → St → Option St
  | 0, _, _, _, _ => none
  | n + 1, x1, x3, x4, σ => if x3 ≤ x4 then (some σ) else ((X10_isFilled x1 t2 x4 σ).bind fun v1 => if v1 = 0 then (X10_copyYears_L3 t2 n x1 x3 (x4 + 1) σ) else (chk x1 8 ((X6_cellAt t2 x4 σ).bind fun v2 => (X3_append x1 ((gI σ 31 x1.toNatClampNeg) + x4) v2 0 (gI σ 0 12) σ).bind fun r3 => X10_copyYears_L3 t2 n x1 x3 (x4 + 1) r3.2)))
def X10_copyYears (x1 : Int32) (t2 : Nat) (x3 : Int32) (σ : St) : Option St :=
  X10_copyYears_L3 t2 FU x1 x3 (0 : Int32) σ
-- FamilyNames.filledYears
def X10_filledYears_L6 (t2 : Nat) (σ : St) : Nat → Int32 → Int32 → Int32 → Int32 → Option Int32
  | 0, _, _, _, _ => none
  | n + 1, x1, x3, x4, x5 => if x3 ≤ x5 then some x4 else ((X10_isFilled x1 t2 x5 σ).bind fun v1 => if v1 = 0 then (X10_filledYears_L6 t2 σ n x1 x3 x4 (x5 + 1)) else (X10_filledYears_L6 t2 σ n x1 x3 (x4 + 1) (x5 + 1)))
def X10_filledYears (x1 : Int32) (t2 : Nat) (x3 : Int32) (σ : St) : Option Int32 :=
  X10_filledYears_L6 t2 σ FU x1 x3 (0 : Int32) (0 : Int32)
-- FamilyNames.loseYears
def X10_loseYears_L12 : Nat → Int32 → Int32 → St → Option St
  | 0, _, _, _ => none
  | n + 1, x1, x3, σ => chk x1 8 (if (gI σ 32 x1.toNatClampNeg) < x3 then (some σ) else ((X3_areIn x1 x3 σ).bind fun v2 => if v2 = 0 then ((X0_setHole x1 x3 1 σ).bind fun σ3 => X10_loseYears_L12 n x1 (x3 + 1) σ3) else (X10_loseYears_L12 n x1 (x3 + 1) σ)))
def X10_loseYears (x1 : Int32) (x2 : Int32) (σ : St) : Option St :=
  chk x1 8 (bnd ((gI σ 31 x1.toNatClampNeg) + x2) fun x3_1 => X10_loseYears_L12 FU x1 x3_1 σ)
-- FamilyNames.wholeYears
def X10_wholeYears_L13 (t2 : Nat) (σ : St) : Nat → Int32 → Int32 → Int32 → Int32 → Option Int32
  | 0, _, _, _, _ => none
  | n + 1, x1, x3, x4, x5 => if x4 ≤ x5 then some x4 else (chk x1 8 ((X0_isHole x1 ((gI σ 31 x1.toNatClampNeg) + x5) σ).bind fun v2 => if v2 = 0 then ((X6_faultAt t2 x3 x5 σ).bind fun v3 => if v3 = 0 then (X10_wholeYears_L13 t2 σ n x1 x3 x4 (x5 + 1)) else some x5) else (X10_wholeYears_L13 t2 σ n x1 x3 x4 (x5 + 1))))
def X10_wholeYears (x1 : Int32) (t2 : Nat) (x3 : Int32) (σ : St) : Option Int32 :=
  (X0_yearsOf x1 σ).bind fun v1 => X10_wholeYears_L13 t2 σ FU x1 x3 v1 (0 : Int32)
-- FamilyNames.wrongCell
def X10_wrongCell_B37 (kq3 : Int32 → Int32 → Int32 → Option Int32) (t2 : Nat) (σ : St) (x1 : Int32) (x3 : Int32) (x4 : Int32) (s0 : Int32) : Option Int32 :=
  if s0 = 0 then (kq3 x1 x3 (x4 + 1)) else ((X6_cellAt t2 x4 σ).bind fun v2 => if v2 = (-1) then (kq3 x1 x3 (x4 + 1)) else ((X6_cellAt t2 x4 σ).bind fun v3 => (X9_has v3 σ).bind fun v4 => if v4 = 0 then some x4 else (kq3 x1 x3 (x4 + 1))))
def X10_wrongCell_L3 (t2 : Nat) (σ : St) : Nat → Int32 → Int32 → Int32 → Option Int32
  | 0, _, _, _ => none
  | n + 1, x1, x3, x4 => if x3 ≤ x4 then (some (-4)) else (chk x1 8 ((X0_isHole x1 ((gI σ 31 x1.toNatClampNeg) + x4) σ).bind fun v1 => if v1 = 0 then (X10_wrongCell_B37 (X10_wrongCell_L3 t2 σ n) t2 σ x1 x3 x4 (1 : Int32)) else (X10_wrongCell_B37 (X10_wrongCell_L3 t2 σ n) t2 σ x1 x3 x4 (0 : Int32))))
def X10_wrongCell (x1 : Int32) (t2 : Nat) (x3 : Int32) (σ : St) : Option Int32 :=
  X10_wrongCell_L3 t2 σ FU x1 x3 (0 : Int32)
-- FamilyNames.read
def X10_read_B133 (x1 : Int32) (x2 : Int32) (x3 : Int32) (x4 : Int32) (x6 : Int32) (s0 : Int32) (σ : St) : Option (Int32 × St) :=
  if s0 = 0 then (bnd (sI σ 0 11 0) fun σ13 => (X10_loseYears x1 x4 σ13).bind fun σ14 => some (x6, σ14)) else (chk x2 4 ((X6_faultAt (x2.toNatClampNeg) x3 x4 σ).bind fun v16 => bnd (sI σ 0 11 v16) fun σ17 => (X10_loseYears x1 x4 σ17).bind fun σ18 => some (x6, σ18)))
def X10_read (x1 : Int32) (x2 : Int32) (x3 : Int32) (σ : St) : Option (Int32 × St) :=
  (X0_has x1 σ).bind fun v1 => if v1 = 0 then (some ((-1), σ)) else ((X10_isSheet x2 σ).bind fun v2 => if v2 = 0 then (some ((-1), σ)) else ((X6_isLane x3 σ).bind fun v3 => if v3 = 0 then (some ((-1), σ)) else (chk x2 4 ((X10_wholeYears x1 (x2.toNatClampNeg) x3 σ).bind fun v5 => chk x2 4 ((X10_wrongCell x1 (x2.toNatClampNeg) v5 σ).bind fun v7 => if v7 = (-4) then (chk x2 4 ((X10_filledYears x1 (x2.toNatClampNeg) v5 σ).bind fun v9 => if ((gI σ 34 10) + v9) ≤ 40 then (chk x2 4 ((X10_copyYears x1 (x2.toNatClampNeg) v5 σ).bind fun σ11 => (X0_yearsOf x1 σ11).bind fun v12 => if v12 ≤ v5 then (X10_read_B133 x1 x2 x3 v5 v9 (0 : Int32) σ11) else (X10_read_B133 x1 x2 x3 v5 v9 (1 : Int32) σ11))) else (some ((-3), σ)))) else (some (((-20) - v7), σ)))))))
-- FamilyNames.torn
def X10_torn  (σ : St) : Option Int32 :=
  some (gI σ 0 11)
-- FamilyNames.count
def X10_count (x1 : Int32) (σ : St) : Option Int32 :=
  swk x1 0 [some (gI σ 18 1), some (gI σ 27 2), some (gI σ 27 7), some (gI σ 34 10), some (gI σ 34 14), some (gI σ 0 12), (X3_howManyNames σ).bind fun v1 => some v1, some (gI σ 1 1), chk (0 : Int32) 4 (some (gI σ (51 + (0 : Int32).toNatClampNeg) 2))] (some (-1))
