-- FamilyNamesModel.in
def X11_in (x0 : Int64) (x2 : Int64) (x4 : Int64) (σ : St) : Option Int32 :=
  if x0 < x2 then some 0 else (if x4 < x0 then some 0 else some 1)
-- FamilyNamesModel.isSpelling
def X11_isSpelling (x1 : Int32) (σ : St) : Option Int32 :=
  (X11_in x1.toInt64 0 (((gI σ 0 0) - 1).toInt64) σ).bind fun v1 => chkB v1 (some v1)
-- FamilyNamesModel.spelling
def X11_spelling_L218 : Nat → Int32 → Int32 → St → Option (Int32 × St)
  | 0, _, _, _ => none
  | n + 1, x3, x7, σ => if x3 ≤ x7 then (bnd (sI σ 0 0 ((gI σ 0 0) + 1)) fun σ2 => some (((gI σ2 0 0) - 1), σ2)) else (chk ((x3 - 1) - x7) 10 (chk ((10 * (gI σ 0 0)) + x7) 160 (bnd (sI σ 2 ((10 * (gI σ 0 0)) + x7).toNatClampNeg (gI σ 3 ((x3 - 1) - x7).toNatClampNeg)) fun σ3 => X11_spelling_L218 n x3 (x7 + 1) σ3)))
def X11_spelling_B186 (x3 : Int32) (x6 : Int32) (σ : St) : Option (Int32 × St) :=
  if x6 = 0 then (some ((-1), σ)) else (if (gI σ 0 0) = 16 then (some ((-3), σ)) else (chk (gI σ 0 0) 16 (bnd (sI σ 1 (gI σ 0 0).toNatClampNeg x3) fun σ1 => X11_spelling_L218 FU x3 (0 : Int32) σ1)))
def X11_spelling_B168 (kq82 : Int32 → Int32 → Int32 → St → Option (Int32 × St)) (x3 : Int32) (x7 : Int32) (x8 : Int32) (σ : St) : Option (Int32 × St) :=
  if x8 = 0 then (kq82 x3 (1 : Int32) (x7 + 1) σ) else (kq82 x3 (0 : Int32) (x7 + 1) σ)
def X11_spelling_L117 (kq82 : Int32 → Int32 → Int32 → St → Option (Int32 × St)) : Nat → Int32 → Int32 → Int32 → Int32 → St → Option (Int32 × St)
  | 0, _, _, _, _, _ => none
  | n + 1, x3, x7, x8, x9, σ => if x3 ≤ x9 then (X11_spelling_B168 kq82 x3 x7 x8 σ) else (if x8 = 0 then (X11_spelling_B168 kq82 x3 x7 x8 σ) else (chk ((10 * x7) + x9) 160 (chk ((x3 - 1) - x9) 10 (if (gI σ 2 ((10 * x7) + x9).toNatClampNeg) = (gI σ 3 ((x3 - 1) - x9).toNatClampNeg) then (X11_spelling_L117 kq82 n x3 x7 (1 : Int32) (x9 + 1) σ) else (X11_spelling_L117 kq82 n x3 x7 (0 : Int32) (x9 + 1) σ)))))
def X11_spelling_L82 : Nat → Int32 → Int32 → Int32 → St → Option (Int32 × St)
  | 0, _, _, _, _ => none
  | n + 1, x3, x6, x7, σ => if (gI σ 0 0) ≤ x7 then (X11_spelling_B186 x3 x6 σ) else (if x6 = 0 then (X11_spelling_B186 x3 x6 σ) else (chk x7 16 (if (gI σ 1 x7.toNatClampNeg) = x3 then (X11_spelling_L117 (X11_spelling_L82 n) FU x3 x7 (1 : Int32) (0 : Int32) σ) else (X11_spelling_L117 (X11_spelling_L82 n) FU x3 x7 (0 : Int32) (0 : Int32) σ))))
def X11_spelling_L26 : Nat → Int32 → Int64 → Int32 → St → Option (Int32 × St)
  | 0, _, _, _, _ => none
  | n + 1, x3, x4, x6, σ => if x6 = 0 then (X11_spelling_L82 FU x3 x6 (0 : Int32) σ) else (if x4 ≤ 0 then (X11_spelling_L82 FU x3 x6 (0 : Int32) σ) else (chk x3 10 (bnd (sI σ 3 x3.toNatClampNeg ((x4 &&& 31).toInt32)) fun σ4 => chk x3 10 ((X11_in ((gI σ4 3 x3.toNatClampNeg).toInt64) 1 26 σ4).bind fun v5 => bnd (x4 >>> ((5 : Int32).toInt64 &&& 63)) fun x4_6 => X11_spelling_L26 n (x3 + 1) x4_6 v5 σ4))))
def X11_spelling (x1 : Int64) (σ : St) : Option (Int32 × St) :=
  if x1 ≤ 0 then (X11_spelling_L26 FU (0 : Int32) x1 (0 : Int32) σ) else (if 1125899906842624 ≤ x1 then (X11_spelling_L26 FU (0 : Int32) x1 (0 : Int32) σ) else (X11_spelling_L26 FU (0 : Int32) x1 (1 : Int32) σ))
-- FamilyNamesModel.letters
def X11_letters_L17 (σ : St) : Nat → Int32 → Int64 → Int32 → Option Int64
  | 0, _, _, _ => none
  | n + 1, x1, x2, x4 => chk x1 16 (if (gI σ 1 x1.toNatClampNeg) ≤ x4 then some x2 else (chk ((10 * x1) + x4) 160 (bnd ((x2 <<< ((5 : Int32).toInt64 &&& 63)) ||| ((gI σ 2 ((10 * x1) + x4).toNatClampNeg).toInt64)) fun x2_2 => X11_letters_L17 σ n x1 x2_2 (x4 + 1))))
def X11_letters (x1 : Int32) (σ : St) : Option Int64 :=
  (X11_isSpelling x1 σ).bind fun v1 => if v1 = 0 then (some (-1)) else (X11_letters_L17 σ FU x1 (0 : Int64) (0 : Int32))
-- FamilyNamesModel.feed
def X11_feed_L19 : Nat → Int64 → Int32 → St → Option (Int32 × St)
  | 0, _, _, _ => none
  | n + 1, x1, x3, σ => if x3 < 0 then (some ((gI σ 0 5), σ)) else (chk (gI σ 0 5) 200 (bnd (sI σ 4 (gI σ 0 5).toNatClampNeg (((x1 >>> (x3.toInt64 &&& 63)).toInt32) &&& 255)) fun σ1 => bnd (sI σ1 0 5 ((gI σ1 0 5) + 1)) fun σ2 => X11_feed_L19 n x1 (x3 + (-8)) σ2))
def X11_feed (x1 : Int64) (σ : St) : Option (Int32 × St) :=
  if ((gI σ 0 5) + 8) ≤ 200 then (X11_feed_L19 FU x1 (56 : Int32) σ) else (some ((-3), σ))
-- FamilyNamesModel.end
def X11_end (x1 : Int32) (σ : St) : Option (Int32 × St) :=
  (X11_in x1.toInt64 0 ((gI σ 0 5).toInt64) σ).bind fun v1 => if v1 = 0 then (some ((-1), σ)) else (bnd (gI σ 0 5) fun x2_2 => bnd (sI σ 0 5 x1) fun σ3 => some (x2_2, σ3))
-- FamilyNamesModel.byteAt
def X11_byteAt (x1 : Int32) (σ : St) : Option Int32 :=
  if (gI σ 0 5) ≤ x1 then (some (-4)) else (chk x1 200 (some (gI σ 4 x1.toNatClampNeg)))
-- FamilyNamesModel.fails
def X11_fails (x1 : Int32) (σ : St) : Option St :=
  if (gI σ 0 7) = 0 then (bnd (sI σ 0 7 x1) fun σ1 => bnd (sI σ1 0 8 (gI σ1 0 10)) fun σ2 => some σ2) else (some σ)
-- FamilyNamesModel.next
def X11_next_L140 : Nat → St → Option St
  | 0, _ => none
  | n + 1, σ => (X11_byteAt (gI σ 0 9) σ).bind fun v10 => (X11_in v10.toInt64 48 57 σ).bind fun v11 => if v11 = 0 then (bnd (sI σ 0 11 2) fun σ12 => if ((gI σ12 0 9) - (gI σ12 0 10)) ≤ 2 then (some σ12) else ((X11_fails 1 σ12).bind fun σ13 => some σ13)) else (if 2 ≤ ((gI σ 0 9) - (gI σ 0 10)) then (bnd (sI σ 0 12 (gI σ 0 12)) fun σ14 => bnd (sI σ14 0 9 ((gI σ14 0 9) + 1)) fun σ15 => X11_next_L140 n σ15) else ((X11_byteAt (gI σ 0 9) σ).bind fun v16 => bnd (sI σ 0 12 (((10 * (gI σ 0 12)) + v16) - 48)) fun σ17 => bnd (sI σ17 0 9 ((gI σ17 0 9) + 1)) fun σ18 => X11_next_L140 n σ18))
def X11_next_L84 : Nat → St → Option St
  | 0, _ => none
  | n + 1, σ => (X11_byteAt (gI σ 0 9) σ).bind fun v19 => (X11_in v19.toInt64 97 122 σ).bind fun v20 => if v20 = 0 then (bnd (sI σ 0 11 1) fun σ21 => some σ21) else (bnd (sI σ 0 9 ((gI σ 0 9) + 1)) fun σ22 => X11_next_L84 n σ22)
def X11_next_L8 : Nat → St → Option St
  | 0, _ => none
  | n + 1, σ => (X11_byteAt (gI σ 0 9) σ).bind fun v1 => if v1 = 32 then (bnd (sI σ 0 9 ((gI σ 0 9) + 1)) fun σ24 => X11_next_L8 n σ24) else (bnd (sI σ 0 10 (gI σ 0 9)) fun σ2 => (X11_byteAt (gI σ2 0 9) σ2).bind fun v3 => bnd (sI σ2 0 12 0) fun σ4 => if v3 = (-4) then (bnd (sI σ4 0 11 0) fun σ23 => some σ23) else ((X11_in v3.toInt64 97 122 σ4).bind fun v5 => if v5 = 0 then ((X11_in v3.toInt64 48 57 σ4).bind fun v6 => if v6 = 0 then (bnd (sI σ4 0 11 3) fun σ7 => bnd (sI σ7 0 9 ((gI σ7 0 9) + 1)) fun σ8 => if v3 = 59 then (some σ8) else ((X11_fails 1 σ8).bind fun σ9 => some σ9)) else (X11_next_L140 FU σ4)) else (X11_next_L84 FU σ4)))
def X11_next  (σ : St) : Option St :=
  if (gI σ 0 7) ≤ 0 then (X11_next_L8 FU σ) else (some σ)
-- FamilyNamesModel.lineAt
def X11_lineAt_L51 (kq2 : Int32 → Option Int32) (σ : St) : Nat → Int32 → Int32 → Int32 → Option Int32
  | 0, _, _, _ => none
  | n + 1, x1, x2, x3 => if x2 = 0 then (if x2 = 0 then (kq2 (x1 + 1)) else some x1) else (if ((gI σ 0 9) - (gI σ 0 10)) ≤ x3 then (if x2 = 0 then (kq2 (x1 + 1)) else some x1) else ((X11_byteAt ((gI σ 0 10) + x3) σ).bind fun v1 => chk x1 9 (chk ((gI σ 5 x1.toNatClampNeg) + x3) 33 (if v1 = (gI σ 6 ((gI σ 5 x1.toNatClampNeg) + x3).toNatClampNeg) then (X11_lineAt_L51 kq2 σ n x1 (1 : Int32) (x3 + 1)) else (X11_lineAt_L51 kq2 σ n x1 (0 : Int32) (x3 + 1))))))
def X11_lineAt_L2 (σ : St) : Nat → Int32 → Option Int32
  | 0, _ => none
  | n + 1, x1 => if 8 ≤ x1 then (some (-4)) else (if (gI σ 0 11) = 1 then (chk (x1 + 1) 9 (chk x1 9 (if ((gI σ 0 9) - (gI σ 0 10)) = ((gI σ 5 (x1 + 1).toNatClampNeg) - (gI σ 5 x1.toNatClampNeg)) then (X11_lineAt_L51 (X11_lineAt_L2 σ n) σ FU x1 (1 : Int32) (0 : Int32)) else (X11_lineAt_L51 (X11_lineAt_L2 σ n) σ FU x1 (0 : Int32) (0 : Int32))))) else (X11_lineAt_L51 (X11_lineAt_L2 σ n) σ FU x1 (0 : Int32) (0 : Int32)))
def X11_lineAt  (σ : St) : Option Int32 :=
  X11_lineAt_L2 σ FU (0 : Int32)
-- FamilyNamesModel.wantName
def X11_wantName (x1 : Int32) (σ : St) : Option St :=
  if (gI σ 0 7) = 0 then (if (gI σ 0 11) = 1 then (if ((gI σ 0 9) - (gI σ 0 10)) ≤ x1 then (some σ) else ((X11_fails 2 σ).bind fun σ2 => some σ2)) else ((X11_fails 2 σ).bind fun σ1 => some σ1)) else (some σ)
-- FamilyNamesModel.letter
def X11_letter (x1 : Int32) (σ : St) : Option Int32 :=
  if (gI σ 0 9) ≤ ((gI σ 0 10) + x1) then some 0 else ((X11_byteAt ((gI σ 0 10) + x1) σ).bind fun v1 => some ((v1 - 97) + 1))
-- FamilyNamesModel.number
def X11_number_B20 (x1 : Int32) (x2 : Int32) (σ : St) : Option (Int32 × St) :=
  if (gI σ 0 7) = 0 then ((X11_in ((gI σ 0 12).toInt64) x1.toInt64 x2.toInt64 σ).bind fun v1 => if v1 = 0 then ((X11_fails 3 σ).bind fun σ2 => some ((gI σ2 0 12), σ2)) else (some ((gI σ 0 12), σ))) else (some ((gI σ 0 12), σ))
def X11_number (x1 : Int32) (x2 : Int32) (σ : St) : Option (Int32 × St) :=
  if (gI σ 0 7) = 0 then (if (gI σ 0 11) = 2 then (X11_number_B20 x1 x2 σ) else ((X11_fails 2 σ).bind fun σ3 => X11_number_B20 x1 x2 σ3)) else (X11_number_B20 x1 x2 σ)
-- FamilyNamesModel.readSay
def X11_readSay_B222 (σ : St) : Option St :=
  (X11_next σ).bind fun σ8 => bnd (sI σ8 0 25 ((gI σ8 0 25) + 1)) fun σ9 => some σ9
def X11_readSay_L113 : Nat → Int32 → Int32 → St → Option St
  | 0, _, _, _ => none
  | n + 1, x1, x2, σ => if 3 ≤ x2 then (chk (2 * (gI σ 0 25)) 24 (bnd (sI σ 15 (2 * (gI σ 0 25)).toNatClampNeg 0) fun σ3 => chk ((2 * (gI σ3 0 25)) + 1) 24 (bnd (sI σ3 15 ((2 * (gI σ3 0 25)) + 1).toNatClampNeg 0) fun σ4 => (X11_next σ4).bind fun σ5 => if x1 = 0 then ((X11_wantName 2 σ5).bind fun σ7 => if (gI σ7 0 7) = 0 then ((X11_letter 0 σ7).bind fun v10 => chk (2 * (gI σ7 0 25)) 24 (bnd (sI σ7 15 (2 * (gI σ7 0 25)).toNatClampNeg v10) fun σ11 => (X11_letter 1 σ11).bind fun v12 => chk ((2 * (gI σ11 0 25)) + 1) 24 (bnd (sI σ11 15 ((2 * (gI σ11 0 25)) + 1).toNatClampNeg v12) fun σ13 => X11_readSay_B222 σ13))) else (X11_readSay_B222 σ7)) else (bnd (sI σ5 0 25 ((gI σ5 0 25) + 1)) fun σ6 => some σ6)))) else ((X11_letter x2 σ).bind fun v14 => chk ((3 * (gI σ 0 25)) + x2) 36 (bnd (sI σ 14 ((3 * (gI σ 0 25)) + x2).toNatClampNeg v14) fun σ15 => X11_readSay_L113 n x1 (x2 + 1) σ15))
def X11_readSay_L25 : Nat → Int32 → Int32 → St → Option St
  | 0, _, _, _ => none
  | n + 1, x1, x2, σ => if (gI σ 0 25) ≤ x2 then (if (gI σ 0 7) ≤ 0 then (X11_readSay_L113 FU x1 (0 : Int32) σ) else (some σ)) else (if (gI σ 0 7) = 0 then (chk (3 * x2) 36 ((X11_letter 0 σ).bind fun v16 => if (gI σ 14 (3 * x2).toNatClampNeg) = v16 then (chk ((3 * x2) + 1) 36 ((X11_letter 1 σ).bind fun v17 => if (gI σ 14 ((3 * x2) + 1).toNatClampNeg) = v17 then (chk ((3 * x2) + 2) 36 ((X11_letter 2 σ).bind fun v18 => if (gI σ 14 ((3 * x2) + 2).toNatClampNeg) = v18 then ((X11_fails 4 σ).bind fun σ19 => X11_readSay_L25 n x1 (x2 + 1) σ19) else (X11_readSay_L25 n x1 (x2 + 1) σ))) else (X11_readSay_L25 n x1 (x2 + 1) σ))) else (X11_readSay_L25 n x1 (x2 + 1) σ))) else (if (gI σ 0 7) ≤ 0 then (X11_readSay_L113 FU x1 (0 : Int32) σ) else (some σ)))
def X11_readSay_B14 (x1 : Int32) (σ : St) : Option St :=
  (X11_next σ).bind fun σ1 => (X11_wantName 3 σ1).bind fun σ2 => X11_readSay_L25 FU x1 (0 : Int32) σ2
def X11_readSay (x1 : Int32) (σ : St) : Option St :=
  if (gI σ 0 25) = 12 then ((X11_fails 5 σ).bind fun σ20 => X11_readSay_B14 x1 σ20) else (X11_readSay_B14 x1 σ)
-- FamilyNamesModel.readLike
def X11_readLike_B137 (x1 : Int32) (x2 : Int32) (σ : St) : Option St :=
  (X11_next σ).bind fun σ5 => (X11_number 0 20 σ5).bind fun r6 => (X11_next r6.2).bind fun σ7 => if (gI σ7 0 7) = 0 then (chk (gI σ7 0 28) 40 (bnd (sI σ7 16 (gI σ7 0 28).toNatClampNeg x1) fun σ8 => chk (gI σ8 0 28) 40 (bnd (sI σ8 17 (gI σ8 0 28).toNatClampNeg x2) fun σ9 => chk (gI σ9 0 28) 40 (bnd (sI σ9 18 (gI σ9 0 28).toNatClampNeg r6.1) fun σ10 => bnd (sI σ10 0 28 ((gI σ10 0 28) + 1)) fun σ11 => some σ11)))) else (some σ7)
def X11_readLike_B106 (kq71 : Int32 → Int32 → Int32 → St → Option St) (x1 : Int32) (x2 : Int32) (x3 : Int32) (σ : St) : Option St :=
  chk x3 40 (if (gI σ 16 x3.toNatClampNeg) = x2 then (chk x3 40 (if (gI σ 17 x3.toNatClampNeg) = x1 then ((X11_fails 4 σ).bind fun σ12 => kq71 x1 x2 (x3 + 1) σ12) else (kq71 x1 x2 (x3 + 1) σ))) else (kq71 x1 x2 (x3 + 1) σ))
def X11_readLike_L71 : Nat → Int32 → Int32 → Int32 → St → Option St
  | 0, _, _, _, _ => none
  | n + 1, x1, x2, x3, σ => if (gI σ 0 28) ≤ x3 then (X11_readLike_B137 x1 x2 σ) else (if (gI σ 0 7) = 0 then (chk x3 40 (if (gI σ 16 x3.toNatClampNeg) = x1 then (chk x3 40 (if (gI σ 17 x3.toNatClampNeg) = x2 then ((X11_fails 4 σ).bind fun σ13 => X11_readLike_L71 n x1 x2 (x3 + 1) σ13) else (X11_readLike_B106 (X11_readLike_L71 n) x1 x2 x3 σ))) else (X11_readLike_B106 (X11_readLike_L71 n) x1 x2 x3 σ))) else (X11_readLike_B137 x1 x2 σ))
def X11_readLike_B51 (x1 : Int32) (s0 : Int32) (σ : St) : Option St :=
  if (gI σ 0 7) = 0 then (if x1 = s0 then ((X11_fails 3 σ).bind fun σ14 => X11_readLike_L71 FU x1 s0 (0 : Int32) σ14) else (X11_readLike_L71 FU x1 s0 (0 : Int32) σ)) else (X11_readLike_L71 FU x1 s0 (0 : Int32) σ)
def X11_readLike_B25 (s0 : Int32) (σ : St) : Option St :=
  (X11_next σ).bind fun σ3 => (X11_wantName 1 σ3).bind fun σ4 => if (gI σ4 0 7) = 0 then ((X11_letter 0 σ4).bind fun v15 => X11_readLike_B51 s0 v15 σ4) else (X11_readLike_B51 s0 (0 : Int32) σ4)
def X11_readLike  (σ : St) : Option St :=
  (X11_next σ).bind fun σ1 => (X11_wantName 1 σ1).bind fun σ2 => if (gI σ2 0 7) = 0 then ((X11_letter 0 σ2).bind fun v16 => X11_readLike_B25 v16 σ2) else (X11_readLike_B25 (0 : Int32) σ2)
-- FamilyNamesModel.readSons
def X11_readSons_B63 (kq8 : Int32 → Int32 → St → Option St) (x1 : Int32) (x2 : Int32) (x3 : Int32) (σ : St) : Option St :=
  chk (4 + x2) 8 (bnd (sI σ 13 (4 + x2).toNatClampNeg x3) fun σ4 => (X11_next σ4).bind fun σ5 => kq8 x1 (x2 + 1) σ5)
def X11_readSons_B34 (kq8 : Int32 → Int32 → St → Option St) (x2 : Int32) (x3 : Int32) (s0 : Int32) (s1 : Int32) (σ : St) : Option St :=
  bnd (s1 + s0) fun x1_3 => if (gI σ 0 7) = 0 then (if 9 < x1_3 then ((X11_fails 3 σ).bind fun σ6 => X11_readSons_B63 kq8 x1_3 x2 x3 σ6) else (if x2 = 3 then (if x1_3 = 0 then ((X11_fails 3 σ).bind fun σ7 => X11_readSons_B63 kq8 x1_3 x2 x3 σ7) else (X11_readSons_B63 kq8 x1_3 x2 x3 σ)) else (X11_readSons_B63 kq8 x1_3 x2 x3 σ))) else (X11_readSons_B63 kq8 x1_3 x2 x3 σ)
def X11_readSons_L8 : Nat → Int32 → Int32 → St → Option St
  | 0, _, _, _ => none
  | n + 1, x1, x2, σ => if 4 ≤ x2 then (some σ) else ((X11_number 0 9 σ).bind fun r2 => if (gI r2.2 0 7) = 0 then (X11_readSons_B34 (X11_readSons_L8 n) x2 r2.1 r2.1 x1 r2.2) else (X11_readSons_B34 (X11_readSons_L8 n) x2 r2.1 (0 : Int32) x1 r2.2))
def X11_readSons  (σ : St) : Option St :=
  (X11_next σ).bind fun σ1 => X11_readSons_L8 FU (0 : Int32) (0 : Int32) σ1
-- FamilyNamesModel.readLine
def X11_readLine_B141 (σ : St) : Option St :=
  if (gI σ 0 7) = 0 then (if (gI σ 0 11) = 3 then ((X11_next σ).bind fun σ8 => some σ8) else ((X11_fails 2 σ).bind fun σ9 => (X11_next σ9).bind fun σ10 => some σ10)) else ((X11_next σ).bind fun σ7 => some σ7)
def X11_readLine_B131 (s0 : Int32) (s2 : Int32) (σ : St) : Option St :=
  (X11_number s0 20 σ).bind fun r4 => chk s2 8 (bnd (sI r4.2 13 s2.toNatClampNeg r4.1) fun σ5 => (X11_next σ5).bind fun σ6 => X11_readLine_B141 σ6)
def X11_readLine_B41 (x1 : Int32) (σ : St) : Option St :=
  if (gI σ 0 7) ≤ 0 then (bnd (sI σ 0 32 ((gI σ 0 32) ||| ((1 : Int32) <<< (x1 &&& 31)))) fun σ2 => if 2 ≤ x1 then (if x1 = 2 then ((X11_readLike σ2).bind fun σ12 => X11_readLine_B141 σ12) else (if x1 = 7 then ((X11_readSons σ2).bind fun σ11 => X11_readLine_B141 σ11) else ((X11_next σ2).bind fun σ3 => if x1 = 6 then (X11_readLine_B131 (1 : Int32) (x1 - 3) σ3) else (X11_readLine_B131 (0 : Int32) (x1 - 3) σ3)))) else (if x1 = 1 then ((X11_readSay 1 σ2).bind fun σ14 => X11_readLine_B141 σ14) else ((X11_readSay 0 σ2).bind fun σ13 => X11_readLine_B141 σ13))) else (some σ)
def X11_readLine  (σ : St) : Option St :=
  (X11_lineAt σ).bind fun v1 => if v1 = (-4) then ((X11_fails 2 σ).bind fun σ16 => X11_readLine_B41 v1 σ16) else (if v1 < 3 then (X11_readLine_B41 v1 σ) else (if (((gI σ 0 32) >>> (v1 &&& 31)) &&& 1) = 1 then ((X11_fails 4 σ).bind fun σ15 => X11_readLine_B41 v1 σ15) else (X11_readLine_B41 v1 σ)))
-- FamilyNamesModel.rules
def X11_rules_L236 : Nat → Int32 → St → Option (Int32 × St)
  | 0, _, _ => none
  | n + 1, x1, σ => if 40 ≤ x1 then (some ((gI σ 0 23), σ)) else (chk x1 40 (chk x1 40 (bnd (sI σ 10 x1.toNatClampNeg (gI σ 16 x1.toNatClampNeg)) fun σ12 => chk x1 40 (chk x1 40 (bnd (sI σ12 11 x1.toNatClampNeg (gI σ12 17 x1.toNatClampNeg)) fun σ13 => chk x1 40 (chk x1 40 (bnd (sI σ13 12 x1.toNatClampNeg (gI σ13 18 x1.toNatClampNeg)) fun σ14 => X11_rules_L236 n (x1 + 1) σ14)))))))
def X11_rules_L210 : Nat → Int32 → St → Option (Int32 × St)
  | 0, _, _ => none
  | n + 1, x1, σ => if 24 ≤ x1 then (X11_rules_L236 FU (0 : Int32) σ) else (chk x1 24 (chk x1 24 (bnd (sI σ 9 x1.toNatClampNeg (gI σ 15 x1.toNatClampNeg)) fun σ15 => X11_rules_L210 n (x1 + 1) σ15)))
def X11_rules_L184 : Nat → Int32 → St → Option (Int32 × St)
  | 0, _, _ => none
  | n + 1, x1, σ => if 36 ≤ x1 then (X11_rules_L210 FU (0 : Int32) σ) else (chk x1 36 (chk x1 36 (bnd (sI σ 8 x1.toNatClampNeg (gI σ 14 x1.toNatClampNeg)) fun σ16 => X11_rules_L184 n (x1 + 1) σ16)))
def X11_rules_L158 : Nat → Int32 → St → Option (Int32 × St)
  | 0, _, _ => none
  | n + 1, x1, σ => if 8 ≤ x1 then (X11_rules_L184 FU (0 : Int32) σ) else (chk x1 8 (chk x1 8 (bnd (sI σ 7 x1.toNatClampNeg (gI σ 13 x1.toNatClampNeg)) fun σ17 => X11_rules_L158 n (x1 + 1) σ17)))
def X11_rules_B112 (σ : St) : Option (Int32 × St) :=
  bnd (sI σ 0 5 0) fun σ8 => bnd (sI σ8 0 6 (gI σ8 0 7)) fun σ9 => if (gI σ9 0 7) ≤ 0 then (bnd (sI σ9 0 16 (gI σ9 0 25)) fun σ10 => bnd (sI σ10 0 19 (gI σ10 0 28)) fun σ11 => X11_rules_L158 FU (0 : Int32) σ11) else (some (((-10) - (gI σ9 0 8)), σ9))
def X11_rules_L81 : Nat → St → Option (Int32 × St)
  | 0, _ => none
  | n + 1, σ => if (gI σ 0 7) = 0 then (if (gI σ 0 11) = 0 then (X11_rules_B112 σ) else ((X11_readLine σ).bind fun σ18 => bnd (sI σ18 0 23 ((gI σ18 0 23) + 1)) fun σ19 => X11_rules_L81 n σ19)) else (X11_rules_B112 σ)
def X11_rules_L32 : Nat → Int32 → St → Option (Int32 × St)
  | 0, _, _ => none
  | n + 1, x1, σ => if 8 ≤ x1 then ((X11_next σ).bind fun σ7 => X11_rules_L81 FU σ7) else (if x1 = 0 then (chk x1 8 (bnd (sI σ 13 x1.toNatClampNeg 3) fun σ23 => X11_rules_L32 n (x1 + 1) σ23)) else (if 3 ≤ x1 then (if x1 = 3 then (chk x1 8 (bnd (sI σ 13 x1.toNatClampNeg 5) fun σ21 => X11_rules_L32 n (x1 + 1) σ21)) else (chk x1 8 (bnd (sI σ 13 x1.toNatClampNeg 1) fun σ20 => X11_rules_L32 n (x1 + 1) σ20))) else (chk x1 8 (bnd (sI σ 13 x1.toNatClampNeg 4) fun σ22 => X11_rules_L32 n (x1 + 1) σ22))))
def X11_rules  (σ : St) : Option (Int32 × St) :=
  bnd (sI σ 0 7 0) fun σ1 => bnd (sI σ1 0 9 0) fun σ2 => bnd (sI σ2 0 25 0) fun σ3 => bnd (sI σ3 0 28 0) fun σ4 => bnd (sI σ4 0 32 0) fun σ5 => bnd (sI σ5 0 23 0) fun σ6 => X11_rules_L32 FU (0 : Int32) σ6
-- FamilyNamesModel.fault
def X11_fault  (σ : St) : Option Int32 :=
  some (gI σ 0 6)
-- FamilyNamesModel.rule
def X11_rule (x1 : Int32) (σ : St) : Option Int32 :=
  (X11_in x1.toInt64 0 7 σ).bind fun v1 => if v1 = 0 then (if x1 = 8 then (some (gI σ 0 16)) else (if x1 = 9 then (some (gI σ 0 19)) else (some (-1)))) else (chk x1 8 (some (gI σ 7 x1.toNatClampNeg)))
-- FamilyNamesModel.saidAt
def X11_saidAt_L27 (kq9 : Int32 → Int32 → Int32 → Int32 → Int32 → Option Int32) (σ : St) : Nat → Int32 → Int32 → Int32 → Int32 → Int32 → Int32 → Int32 → Int32 → Option Int32
  | 0, _, _, _, _, _, _, _, _ => none
  | n + 1, x1, x2, x3, x4, x5, x6, x7, x8 => if 3 ≤ x8 then (if x7 = 0 then (kq9 x1 x2 x3 x4 (x5 + 1)) else (if x6 ≤ x4 then (kq9 x1 x2 x3 x4 (x5 + 1)) else (kq9 x1 x2 x5 x6 (x5 + 1)))) else (chk ((3 * x5) + x8) 36 (bnd (gI σ 8 ((3 * x5) + x8).toNatClampNeg) fun x9_1 => if x9_1 ≤ 0 then (X11_saidAt_L27 kq9 σ n x1 x2 x3 x4 x5 x6 x7 (x8 + 1)) else (if x7 = 0 then (X11_saidAt_L27 kq9 σ n x1 x2 x3 x4 x5 (x6 + 1) (0 : Int32) (x8 + 1)) else (chk x1 16 (if (gI σ 1 x1.toNatClampNeg) ≤ (x2 + x8) then (X11_saidAt_L27 kq9 σ n x1 x2 x3 x4 x5 (x6 + 1) (0 : Int32) (x8 + 1)) else (chk (((10 * x1) + x2) + x8) 160 (if (gI σ 2 (((10 * x1) + x2) + x8).toNatClampNeg) = x9_1 then (X11_saidAt_L27 kq9 σ n x1 x2 x3 x4 x5 (x6 + 1) (1 : Int32) (x8 + 1)) else (X11_saidAt_L27 kq9 σ n x1 x2 x3 x4 x5 (x6 + 1) (0 : Int32) (x8 + 1)))))))))
def X11_saidAt_L9 (σ : St) : Nat → Int32 → Int32 → Int32 → Int32 → Int32 → Option Int32
  | 0, _, _, _, _, _ => none
  | n + 1, x1, x2, x3, x4, x5 => if (gI σ 0 16) ≤ x5 then some x3 else (X11_saidAt_L27 (X11_saidAt_L9 σ n) σ FU x1 x2 x3 x4 x5 (0 : Int32) (1 : Int32) (0 : Int32))
def X11_saidAt (x1 : Int32) (x2 : Int32) (σ : St) : Option Int32 :=
  X11_saidAt_L9 σ FU x1 x2 (-4 : Int32) (0 : Int32) (0 : Int32)
-- FamilyNamesModel.saidSize
def X11_saidSize_B19 (σ : St) (x1 : Int32) (s0 : Int32) (s1 : Int32) : Option Int32 :=
  chk ((3 * x1) + 2) 36 (if (gI σ 8 ((3 * x1) + 2).toNatClampNeg) ≤ 0 then (some ((s1 + s0) + 0)) else (some ((s1 + s0) + 1)))
def X11_saidSize (x1 : Int32) (σ : St) : Option Int32 :=
  chk ((3 * x1) + 1) 36 (if (gI σ 8 ((3 * x1) + 1).toNatClampNeg) ≤ 0 then (X11_saidSize_B19 σ x1 (0 : Int32) (1 : Int32)) else (X11_saidSize_B19 σ x1 (1 : Int32) (1 : Int32)))
-- FamilyNamesModel.laySound
def X11_laySound_L63 (kq4 : Int32 → Int32 → Int32 → St → Option St) : Nat → Int32 → Int32 → Int32 → Int32 → Int32 → St → Option St
  | 0, _, _, _, _, _, _ => none
  | n + 1, x1, x2, x3, x4, x5, σ => if 2 ≤ x5 then ((X11_saidSize x4 σ).bind fun v3 => bnd (x3 + v3) fun x3_4 => kq4 x1 x2 x3_4 σ) else (chk ((2 * x4) + x5) 24 (if (gI σ 9 ((2 * x4) + x5).toNatClampNeg) ≤ 0 then (X11_laySound_L63 kq4 n x1 x2 x3 x4 (x5 + 1) σ) else (chk ((2 * x4) + x5) 24 (chk ((20 * x1) + x2) 320 (bnd (sI σ 20 ((20 * x1) + x2).toNatClampNeg (gI σ 9 ((2 * x4) + x5).toNatClampNeg)) fun σ5 => X11_laySound_L63 kq4 n x1 (x2 + 1) x3 x4 (x5 + 1) σ5)))))
def X11_laySound_L4 : Nat → Int32 → Int32 → Int32 → St → Option St
  | 0, _, _, _, _ => none
  | n + 1, x1, x2, x3, σ => chk x1 16 (if (gI σ 1 x1.toNatClampNeg) ≤ x3 then (chk x1 16 (bnd (sI σ 19 x1.toNatClampNeg x2) fun σ1 => some σ1)) else ((X11_saidAt x1 x3 σ).bind fun v2 => if v2 = (-4) then (chk ((10 * x1) + x3) 160 (chk ((20 * x1) + x2) 320 (bnd (sI σ 20 ((20 * x1) + x2).toNatClampNeg (gI σ 2 ((10 * x1) + x3).toNatClampNeg)) fun σ6 => X11_laySound_L4 n x1 (x2 + 1) (x3 + 1) σ6))) else (X11_laySound_L63 (X11_laySound_L4 n) FU x1 x2 x3 v2 (0 : Int32) σ)))
def X11_laySound (x1 : Int32) (σ : St) : Option St :=
  X11_laySound_L4 FU x1 (0 : Int32) (0 : Int32) σ
-- FamilyNamesModel.changed
def X11_changed_B37 (kq9 : Int32 → Int32 → Int32 → Option Int32) (σ : St) (x1 : Int32) (x2 : Int32) (x3 : Int32) : Option Int32 :=
  chk x3 40 (if (gI σ 10 x3.toNatClampNeg) = x2 then (chk x3 40 (if (gI σ 11 x3.toNatClampNeg) = x1 then (chk x3 40 (some (gI σ 12 x3.toNatClampNeg))) else (kq9 x1 x2 (x3 + 1)))) else (kq9 x1 x2 (x3 + 1)))
def X11_changed_L9 (σ : St) : Nat → Int32 → Int32 → Int32 → Option Int32
  | 0, _, _, _ => none
  | n + 1, x1, x2, x3 => if (gI σ 0 19) ≤ x3 then (some (gI σ 7 1)) else (chk x3 40 (if (gI σ 10 x3.toNatClampNeg) = x1 then (chk x3 40 (if (gI σ 11 x3.toNatClampNeg) = x2 then (chk x3 40 (some (gI σ 12 x3.toNatClampNeg))) else (X11_changed_B37 (X11_changed_L9 σ n) σ x1 x2 x3))) else (X11_changed_B37 (X11_changed_L9 σ n) σ x1 x2 x3)))
def X11_changed (x1 : Int32) (x2 : Int32) (σ : St) : Option Int32 :=
  if x1 = x2 then some 0 else (X11_changed_L9 σ FU x1 x2 (0 : Int32))
-- FamilyNamesModel.less
def X11_less (x0 : Int32) (x1 : Int32) (σ : St) : Option Int32 :=
  if x1 ≤ x0 then some x1 else some x0
-- FamilyNamesModel.farOf
def X11_farOf_B54 (kq27 : Int32 → Int32 → Int32 → Int32 → Int32 → Int32 → St → Option (Int32 × St)) (x1 : Int32) (x2 : Int32) (x3 : Int32) (x4 : Int32) (x5 : Int32) (x6 : Int32) (x7 : Int32) (σ : St) : Option (Int32 × St) :=
  chk x7 441 (bnd (sI σ 23 x7.toNatClampNeg ((gI σ 7 0) * (x5 + x6))) fun σ4 => kq27 x1 x2 x3 x4 x5 (x6 + 1) σ4)
def X11_farOf_L27 (kq18 : Int32 → Int32 → Int32 → Int32 → Int32 → St → Option (Int32 × St)) : Nat → Int32 → Int32 → Int32 → Int32 → Int32 → Int32 → St → Option (Int32 × St)
  | 0, _, _, _, _, _, _, _ => none
  | n + 1, x1, x2, x3, x4, x5, x6, σ => if x4 < x6 then (kq18 x1 x2 x3 x4 (x5 + 1) σ) else (bnd ((21 * x5) + x6) fun x7_3 => if x5 = 0 then (X11_farOf_B54 (X11_farOf_L27 kq18 n) x1 x2 x3 x4 x5 x6 x7_3 σ) else (if x6 = 0 then (X11_farOf_B54 (X11_farOf_L27 kq18 n) x1 x2 x3 x4 x5 x6 x7_3 σ) else (chk (x7_3 - 22) 441 (chk (((20 * x1) + x5) - 1) 320 (chk (((20 * x2) + x6) - 1) 320 ((X11_changed (gI σ 20 (((20 * x1) + x5) - 1).toNatClampNeg) (gI σ 20 (((20 * x2) + x6) - 1).toNatClampNeg) σ).bind fun v5 => bnd ((gI σ 23 (x7_3 - 22).toNatClampNeg) + v5) fun x8_6 => chk (x7_3 - 21) 441 (chk (x7_3 - 1) 441 ((X11_less (gI σ 23 (x7_3 - 21).toNatClampNeg) (gI σ 23 (x7_3 - 1).toNatClampNeg) σ).bind fun v7 => (X11_less x8_6 ((gI σ 7 0) + v7) σ).bind fun v8 => chk x7_3 441 (bnd (sI σ 23 x7_3.toNatClampNeg v8) fun σ9 => X11_farOf_L27 kq18 n x1 x2 x3 x4 x5 (x6 + 1) σ9)))))))))
def X11_farOf_L18 : Nat → Int32 → Int32 → Int32 → Int32 → Int32 → St → Option (Int32 × St)
  | 0, _, _, _, _, _, _ => none
  | n + 1, x1, x2, x3, x4, x5, σ => if x3 < x5 then (chk ((21 * x3) + x4) 441 (some ((gI σ 23 ((21 * x3) + x4).toNatClampNeg), σ))) else (X11_farOf_L27 (X11_farOf_L18 n) FU x1 x2 x3 x4 x5 (0 : Int32) σ)
def X11_farOf (x1 : Int32) (x2 : Int32) (σ : St) : Option (Int32 × St) :=
  chk x1 16 (bnd (gI σ 19 x1.toNatClampNeg) fun x3_1 => chk x2 16 (bnd (gI σ 19 x2.toNatClampNeg) fun x4_2 => X11_farOf_L18 FU x1 x2 x3_1 x4_2 (0 : Int32) σ))
-- FamilyNamesModel.layNames
def X11_layNames_L106 (kq96 : Int32 → Int32 → St → Option St) : Nat → Int32 → Int32 → Int32 → St → Option St
  | 0, _, _, _, _ => none
  | n + 1, x1, x2, x3, σ => if (gI σ 0 0) ≤ x3 then (kq96 x1 (x2 + 1) σ) else (chk x3 16 (chk x2 16 (if (gI σ 22 x2.toNatClampNeg) ≤ (gI σ 22 x3.toNatClampNeg) then (X11_layNames_L106 kq96 n x1 x2 (x3 + 1) σ) else (chk ((16 * x2) + x3) 256 (if (gI σ 7 2) < (gI σ 21 ((16 * x2) + x3).toNatClampNeg) then (X11_layNames_L106 kq96 n x1 x2 (x3 + 1) σ) else (chk x3 16 (chk x2 16 (bnd (sI σ 22 x2.toNatClampNeg (gI σ 22 x3.toNatClampNeg)) fun σ1 => X11_layNames_L106 kq96 n (1 : Int32) x2 (x3 + 1) σ1))))))))
def X11_layNames_L96 (kq88 : Int32 → St → Option St) : Nat → Int32 → Int32 → St → Option St
  | 0, _, _, _ => none
  | n + 1, x1, x2, σ => if (gI σ 0 0) ≤ x2 then (kq88 x1 σ) else (X11_layNames_L106 (X11_layNames_L96 kq88 n) FU x1 x2 (0 : Int32) σ)
def X11_layNames_L88 : Nat → Int32 → St → Option St
  | 0, _, _ => none
  | n + 1, x1, σ => if x1 = 0 then (some σ) else (X11_layNames_L96 (X11_layNames_L88 n) FU (0 : Int32) (0 : Int32) σ)
def X11_layNames_L40 (kq30 : Int32 → St → Option St) : Nat → Int32 → Int32 → St → Option St
  | 0, _, _, _ => none
  | n + 1, x1, x2, σ => if (gI σ 0 0) ≤ x2 then (kq30 (x1 + 1) σ) else (if x1 = x2 then (chk ((16 * x1) + x2) 256 (bnd (sI σ 21 ((16 * x1) + x2).toNatClampNeg 0) fun σ4 => X11_layNames_L40 kq30 n x1 (x2 + 1) σ4)) else ((X11_farOf x1 x2 σ).bind fun r2 => chk ((16 * x1) + x2) 256 (bnd (sI r2.2 21 ((16 * x1) + x2).toNatClampNeg r2.1) fun σ3 => X11_layNames_L40 kq30 n x1 (x2 + 1) σ3)))
def X11_layNames_L30 : Nat → Int32 → St → Option St
  | 0, _, _ => none
  | n + 1, x1, σ => if (gI σ 0 0) ≤ x1 then (X11_layNames_L88 FU (1 : Int32) σ) else (X11_layNames_L40 (X11_layNames_L30 n) FU x1 (0 : Int32) σ)
def X11_layNames_L2 : Nat → Int32 → St → Option St
  | 0, _, _ => none
  | n + 1, x1, σ => if (gI σ 0 0) ≤ x1 then (X11_layNames_L30 FU (0 : Int32) σ) else ((X11_laySound x1 σ).bind fun σ5 => chk x1 16 (bnd (sI σ5 22 x1.toNatClampNeg x1) fun σ6 => X11_layNames_L2 n (x1 + 1) σ6))
def X11_layNames  (σ : St) : Option St :=
  X11_layNames_L2 FU (0 : Int32) σ
-- FamilyNamesModel.sound
def X11_sound_L45 : Nat → Int32 → Int64 → Int32 → Int32 → St → Option (Int64 × St)
  | 0, _, _, _, _, _ => none
  | n + 1, x1, x2, x4, x5, σ => if x4 ≤ x5 then (some (x2, σ)) else (chk ((20 * x1) + x5) 320 (bnd ((x2 <<< ((5 : Int32).toInt64 &&& 63)) ||| ((gI σ 20 ((20 * x1) + x5).toNatClampNeg).toInt64)) fun x2_4 => X11_sound_L45 n x1 x2_4 x4 (x5 + 1) σ))
def X11_sound (x1 : Int32) (σ : St) : Option (Int64 × St) :=
  (X11_isSpelling x1 σ).bind fun v1 => if v1 = 0 then (some ((-1), σ)) else ((X11_laySound x1 σ).bind fun σ2 => chk x1 16 (bnd (gI σ2 19 x1.toNatClampNeg) fun x4_3 => if x4_3 ≤ 12 then (X11_sound_L45 FU x1 (0 : Int64) x4_3 (0 : Int32) σ2) else (bnd (x4_3 - 12) fun x5_5 => X11_sound_L45 FU x1 (0 : Int64) x4_3 x5_5 σ2)))
-- FamilyNamesModel.sounds
def X11_sounds (x1 : Int32) (σ : St) : Option (Int32 × St) :=
  (X11_isSpelling x1 σ).bind fun v1 => if v1 = 0 then (some ((-1), σ)) else ((X11_laySound x1 σ).bind fun σ2 => chk x1 16 (some ((gI σ2 19 x1.toNatClampNeg), σ2)))
-- FamilyNamesModel.apart
def X11_apart (x1 : Int32) (x2 : Int32) (σ : St) : Option (Int32 × St) :=
  (X11_isSpelling x1 σ).bind fun v1 => if v1 = 0 then (some ((-1), σ)) else ((X11_isSpelling x2 σ).bind fun v2 => if v2 = 0 then (some ((-1), σ)) else ((X11_layNames σ).bind fun σ3 => chk ((16 * x1) + x2) 256 (some ((gI σ3 21 ((16 * x1) + x2).toNatClampNeg), σ3))))
-- FamilyNamesModel.name
def X11_name (x1 : Int32) (σ : St) : Option (Int32 × St) :=
  (X11_isSpelling x1 σ).bind fun v1 => if v1 = 0 then (some ((-1), σ)) else ((X11_layNames σ).bind fun σ2 => chk x1 16 (some ((gI σ2 22 x1.toNatClampNeg), σ2)))
-- FamilyNamesModel.layChains
def X11_layChains_B178 (kq73 : Int32 → Int32 → Int32 → St → Option St) (x3 : Int32) (x4 : Int32) (x6 : Int32) (σ : St) : Option St :=
  chk x3 16 (bnd (sI σ 24 x3.toNatClampNeg x6) fun σ3 => chk x4 16 (chk x3 16 (bnd (sI σ3 25 x3.toNatClampNeg ((gI σ3 25 x4.toNatClampNeg) + 1)) fun σ4 => kq73 (1 : Int32) x3 (x4 + 1) σ4)))
def X11_layChains_L73 (kq62 : Int32 → Int32 → St → Option St) : Nat → Int32 → Int32 → Int32 → St → Option St
  | 0, _, _, _, _ => none
  | n + 1, x2, x3, x4, σ => if (gI σ 0 0) ≤ x4 then (kq62 x2 (x3 + 1) σ) else (chk ((16 * x3) + x4) 256 (bnd (gI σ 21 ((16 * x3) + x4).toNatClampNeg) fun x5_1 => if x3 = x4 then (X11_layChains_L73 kq62 n x2 x3 (x4 + 1) σ) else (if (gI σ 7 2) < x5_1 then (X11_layChains_L73 kq62 n x2 x3 (x4 + 1) σ) else (chk x4 16 (if 1000000 ≤ (gI σ 24 x4.toNatClampNeg) then (X11_layChains_L73 kq62 n x2 x3 (x4 + 1) σ) else (chk x4 16 (bnd ((gI σ 24 x4.toNatClampNeg) + x5_1) fun x6_2 => chk x3 16 (if x6_2 < (gI σ 24 x3.toNatClampNeg) then (X11_layChains_B178 (X11_layChains_L73 kq62 n) x3 x4 x6_2 σ) else (chk x3 16 (if x6_2 = (gI σ 24 x3.toNatClampNeg) then (chk x4 16 (chk x3 16 (if (gI σ 25 x3.toNatClampNeg) ≤ ((gI σ 25 x4.toNatClampNeg) + 1) then (X11_layChains_L73 kq62 n x2 x3 (x4 + 1) σ) else (X11_layChains_B178 (X11_layChains_L73 kq62 n) x3 x4 x6_2 σ)))) else (X11_layChains_L73 kq62 n x2 x3 (x4 + 1) σ)))))))))))
def X11_layChains_L62 (kq54 : Int32 → St → Option St) : Nat → Int32 → Int32 → St → Option St
  | 0, _, _, _ => none
  | n + 1, x2, x3, σ => if (gI σ 0 0) ≤ x3 then (kq54 x2 σ) else (X11_layChains_L73 (X11_layChains_L62 kq54 n) FU x2 x3 (0 : Int32) σ)
def X11_layChains_L54 : Nat → Int32 → St → Option St
  | 0, _, _ => none
  | n + 1, x2, σ => if x2 = 0 then (some σ) else (X11_layChains_L62 (X11_layChains_L54 n) FU (0 : Int32) (0 : Int32) σ)
def X11_layChains_B27 (kq2 : Int32 → Int32 → St → Option St) (x1 : Int32) (x2 : Int32) (s0 : Int32) (s1 : Int32) (σ : St) : Option St :=
  chk s1 16 (bnd (sI σ 24 s1.toNatClampNeg s0) fun σ5 => if x2 = x1 then (chk x2 16 (bnd (sI σ5 25 x2.toNatClampNeg 1) fun σ7 => kq2 x1 (x2 + 1) σ7)) else (chk x2 16 (bnd (sI σ5 25 x2.toNatClampNeg 1000000) fun σ6 => kq2 x1 (x2 + 1) σ6)))
def X11_layChains_L2 : Nat → Int32 → Int32 → St → Option St
  | 0, _, _, _ => none
  | n + 1, x1, x2, σ => if (gI σ 0 0) ≤ x2 then (X11_layChains_L54 FU (1 : Int32) σ) else (if x2 = x1 then (X11_layChains_B27 (X11_layChains_L2 n) x1 x2 (0 : Int32) x2 σ) else (X11_layChains_B27 (X11_layChains_L2 n) x1 x2 (1000000 : Int32) x2 σ))
def X11_layChains (x1 : Int32) (σ : St) : Option St :=
  X11_layChains_L2 FU x1 (0 : Int32) σ
-- FamilyNamesModel.goesOn
def X11_goesOn (x1 : Int32) (x2 : Int32) (σ : St) : Option Int32 :=
  chk ((16 * x1) + x2) 256 (bnd (gI σ 21 ((16 * x1) + x2).toNatClampNeg) fun x3_1 => if x1 = x2 then some 0 else (if (gI σ 7 2) < x3_1 then some 0 else (chk x2 16 (chk x1 16 (if ((gI σ 24 x2.toNatClampNeg) + x3_1) = (gI σ 24 x1.toNatClampNeg) then (chk x2 16 (chk x1 16 (if ((gI σ 25 x2.toNatClampNeg) + 1) = (gI σ 25 x1.toNatClampNeg) then some 1 else some 0))) else some 0)))))
-- FamilyNamesModel.chain
def X11_chain_L124 (kq115 : Int32 → Int32 → Int32 → St → Option (Int32 × St)) : Nat → Int32 → Int32 → Int32 → Int32 → St → Option (Int32 × St)
  | 0, _, _, _, _, _ => none
  | n + 1, x3, x4, x5, x6, σ => (X11_goesOn x4 x6 σ).bind fun v6 => if v6 = 0 then (X11_chain_L124 kq115 n x3 x4 x5 (x6 + 1) σ) else (kq115 x3 x6 (x5 + 1) σ)
def X11_chain_L115 : Nat → Int32 → Int32 → Int32 → St → Option (Int32 × St)
  | 0, _, _, _, _ => none
  | n + 1, x3, x4, x5, σ => if x3 ≤ x5 then (some (x4, σ)) else (X11_chain_L124 (X11_chain_L115 n) FU x3 x4 x5 (0 : Int32) σ)
def X11_chain_B42 (x1 : Int32) (x2 : Int32) (x3 : Int32) (σ : St) : Option (Int32 × St) :=
  (X11_layNames σ).bind fun σ4 => (X11_layChains x2 σ4).bind fun σ5 => chk x1 16 (if (gI σ5 24 x1.toNatClampNeg) = 1000000 then (some ((-4), σ5)) else (if 10 ≤ x3 then (chk x1 16 (if (x3 - 10) < (gI σ5 25 x1.toNatClampNeg) then (X11_chain_L115 FU x3 x1 (10 : Int32) σ5) else (some ((-4), σ5)))) else (if x3 = 0 then (chk x1 16 (some ((gI σ5 25 x1.toNatClampNeg), σ5))) else (chk x1 16 (some ((gI σ5 24 x1.toNatClampNeg), σ5))))))
def X11_chain (x1 : Int32) (x2 : Int32) (x3 : Int32) (σ : St) : Option (Int32 × St) :=
  (X11_isSpelling x1 σ).bind fun v1 => if v1 = 0 then (some ((-1), σ)) else ((X11_isSpelling x2 σ).bind fun v2 => if v2 = 0 then (some ((-1), σ)) else ((X11_in x3.toInt64 0 1 σ).bind fun v3 => if v3 = 0 then ((X11_in x3.toInt64 10 25 σ).bind fun v7 => if v7 = 0 then (some ((-1), σ)) else (X11_chain_B42 x1 x2 x3 σ)) else (X11_chain_B42 x1 x2 x3 σ)))
-- FamilyNamesModel.sizeOf
def X11_sizeOf_L4 (σ : St) : Nat → Int32 → Int32 → Int32 → Option Int32
  | 0, _, _, _ => none
  | n + 1, x0, x1, x2 => if 16 ≤ x2 then some x1 else (bnd (x1 + ((x0 >>> (x2 &&& 31)) &&& 1)) fun x1_1 => X11_sizeOf_L4 σ n x0 x1_1 (x2 + 1))
def X11_sizeOf (x0 : Int32) (σ : St) : Option Int32 :=
  X11_sizeOf_L4 σ FU x0 (0 : Int32) (0 : Int32)
-- FamilyNamesModel.firstAsFew
def X11_firstAsFew_L13 (kq2 : Int32 → Int32 → Int32 → Option Int32) (σ : St) : Nat → Int32 → Int32 → Int32 → Int32 → Int32 → Option Int32
  | 0, _, _, _, _, _ => none
  | n + 1, x1, x2, x3, x4, x5 => if (gI σ 0 0) ≤ x5 then (if x4 = x2 then ((X11_sizeOf x3 σ).bind fun v1 => if v1 = x1 then some x3 else (kq2 x1 x2 (x3 + 1))) else (kq2 x1 x2 (x3 + 1))) else (if ((x3 >>> (x5 &&& 31)) &&& 1) = 1 then (chk x5 16 (bnd (x4 ||| (gI σ 26 x5.toNatClampNeg)) fun x4_3 => X11_firstAsFew_L13 kq2 σ n x1 x2 x3 x4_3 (x5 + 1))) else (bnd (x4 ||| 0) fun x4_2 => X11_firstAsFew_L13 kq2 σ n x1 x2 x3 x4_2 (x5 + 1)))
def X11_firstAsFew_L2 (σ : St) : Nat → Int32 → Int32 → Int32 → Option Int32
  | 0, _, _, _ => none
  | n + 1, x1, x2, x3 => if x2 < x3 then some x2 else (X11_firstAsFew_L13 (X11_firstAsFew_L2 σ n) σ FU x1 x2 x3 (0 : Int32) (0 : Int32))
def X11_firstAsFew (x1 : Int32) (x2 : Int32) (σ : St) : Option Int32 :=
  X11_firstAsFew_L2 σ FU x1 x2 (0 : Int32)
-- FamilyNamesModel.standing
def X11_standing_B226 (x1 : Int32) (x2 : Int32) (x3 : Int32) (x4 : Int32) (σ : St) : Option (Int32 × St) :=
  if x1 = 0 then ((X11_sizeOf x4 σ).bind fun v6 => some (v6, σ)) else (if x1 = 1 then ((X11_sizeOf x4 σ).bind fun v4 => (X11_firstAsFew v4 x3 σ).bind fun v5 => some (v5, σ)) else (some (x2, σ)))
def X11_standing_L155 (kq138 : Int32 → Int32 → Int32 → Int32 → Int32 → St → Option (Int32 × St)) : Nat → Int32 → Int32 → Int32 → Int32 → Int32 → Int32 → Int32 → St → Option (Int32 × St)
  | 0, _, _, _, _, _, _, _, _ => none
  | n + 1, x1, x2, x3, x4, x5, x6, x7, σ => if (gI σ 0 0) ≤ x7 then (if x6 = x3 then ((X11_sizeOf x5 σ).bind fun v7 => (X11_sizeOf x4 σ).bind fun v8 => if v8 ≤ v7 then (kq138 x1 x2 x3 x4 (x5 + 1) σ) else (kq138 x1 x2 x3 x5 (x5 + 1) σ)) else (kq138 x1 x2 x3 x4 (x5 + 1) σ)) else (if ((x5 >>> (x7 &&& 31)) &&& 1) = 1 then (chk x7 16 (bnd (x6 ||| (gI σ 26 x7.toNatClampNeg)) fun x6_10 => X11_standing_L155 kq138 n x1 x2 x3 x4 x5 x6_10 (x7 + 1) σ)) else (bnd (x6 ||| 0) fun x6_9 => X11_standing_L155 kq138 n x1 x2 x3 x4 x5 x6_9 (x7 + 1) σ))
def X11_standing_L138 : Nat → Int32 → Int32 → Int32 → Int32 → Int32 → St → Option (Int32 × St)
  | 0, _, _, _, _, _, _ => none
  | n + 1, x1, x2, x3, x4, x5, σ => if x3 < x5 then (X11_standing_B226 x1 x2 x3 x4 σ) else (if 2 ≤ x1 then (X11_standing_B226 x1 x2 x3 x4 σ) else (X11_standing_L155 (X11_standing_L138 n) FU x1 x2 x3 x4 x5 (0 : Int32) (0 : Int32) σ))
def X11_standing_L58 (kq22 : Int32 → Int32 → Int32 → St → Option (Int32 × St)) : Nat → Int32 → Int32 → Int32 → Int32 → St → Option (Int32 × St)
  | 0, _, _, _, _, _ => none
  | n + 1, x1, x2, x3, x4, σ => if (gI σ 0 0) ≤ x4 then (kq22 x1 x2 (x3 + 1) σ) else (chk x3 16 (if x3 = x4 then (chk x3 16 (bnd (sI σ 26 x3.toNatClampNeg ((gI σ 26 x3.toNatClampNeg) ||| ((1 : Int32) <<< (x4 &&& 31)))) fun σ13 => X11_standing_L58 kq22 n x1 x2 x3 (x4 + 1) σ13)) else (chk ((16 * x3) + x4) 256 (if (gI σ 7 2) < (gI σ 21 ((16 * x3) + x4).toNatClampNeg) then (chk x3 16 (bnd (sI σ 26 x3.toNatClampNeg ((gI σ 26 x3.toNatClampNeg) ||| 0)) fun σ14 => X11_standing_L58 kq22 n x1 x2 x3 (x4 + 1) σ14)) else (chk x3 16 (bnd (sI σ 26 x3.toNatClampNeg ((gI σ 26 x3.toNatClampNeg) ||| ((1 : Int32) <<< (x4 &&& 31)))) fun σ15 => X11_standing_L58 kq22 n x1 x2 x3 (x4 + 1) σ15))))))
def X11_standing_L22 : Nat → Int32 → Int32 → Int32 → St → Option (Int32 × St)
  | 0, _, _, _, _ => none
  | n + 1, x1, x2, x3, σ => if (gI σ 0 0) ≤ x3 then (bnd (((1 : Int32) <<< ((gI σ 0 0) &&& 31)) - 1) fun x3_3 => X11_standing_L138 FU x1 x2 x3_3 x3_3 (0 : Int32) σ) else (chk x3 16 (if (gI σ 22 x3.toNatClampNeg) = x3 then (bnd (x2 + 1) fun x2_16 => chk x3 16 (bnd (sI σ 26 x3.toNatClampNeg 0) fun σ17 => X11_standing_L58 (X11_standing_L22 n) FU x1 x2_16 x3 (0 : Int32) σ17)) else (bnd (x2 + 0) fun x2_11 => chk x3 16 (bnd (sI σ 26 x3.toNatClampNeg 0) fun σ12 => X11_standing_L58 (X11_standing_L22 n) FU x1 x2_11 x3 (0 : Int32) σ12))))
def X11_standing (x1 : Int32) (σ : St) : Option (Int32 × St) :=
  (X11_in x1.toInt64 0 2 σ).bind fun v1 => if v1 = 0 then (some ((-1), σ)) else ((X11_layNames σ).bind fun σ2 => X11_standing_L22 FU x1 (0 : Int32) (0 : Int32) σ2)
-- FamilyNamesModel.isPlace
def X11_isPlace (x1 : Int32) (σ : St) : Option Int32 :=
  (X11_in x1.toInt64 0 (((gI σ 0 41) - 1).toInt64) σ).bind fun v1 => chkB v1 (some v1)
-- FamilyNamesModel.isBook
def X11_isBook (x1 : Int32) (σ : St) : Option Int32 :=
  (X11_in x1.toInt64 0 (((gI σ 0 44) - 1).toInt64) σ).bind fun v1 => chkB v1 (some v1)
-- FamilyNamesModel.isLine
def X11_isLine (x1 : Int32) (σ : St) : Option Int32 :=
  (X11_in x1.toInt64 0 (((gI σ 0 49) - 1).toInt64) σ).bind fun v1 => chkB v1 (some v1)
-- FamilyNamesModel.place
def X11_place (x1 : Int32) (x2 : Int32) (σ : St) : Option (Int32 × St) :=
  (X11_in x1.toInt64 0 99 σ).bind fun v1 => if v1 = 0 then (some ((-1), σ)) else ((X11_in x2.toInt64 0 99 σ).bind fun v2 => if v2 = 0 then (some ((-1), σ)) else (if (gI σ 0 41) = 8 then (some ((-3), σ)) else (chk (gI σ 0 41) 8 (bnd (sI σ 27 (gI σ 0 41).toNatClampNeg x1) fun σ3 => chk (gI σ3 0 41) 8 (bnd (sI σ3 28 (gI σ3 0 41).toNatClampNeg x2) fun σ4 => bnd (sI σ4 0 41 ((gI σ4 0 41) + 1)) fun σ5 => some (((gI σ5 0 41) - 1), σ5))))))
-- FamilyNamesModel.book
def X11_book (x1 : Int32) (x2 : Int32) (x3 : Int32) (σ : St) : Option (Int32 × St) :=
  (X11_isPlace x1 σ).bind fun v1 => if v1 = 0 then (some ((-1), σ)) else ((X11_in x2.toInt64 1500 1899 σ).bind fun v2 => if v2 = 0 then (some ((-1), σ)) else ((X11_in x3.toInt64 x2.toInt64 1899 σ).bind fun v3 => if v3 = 0 then (some ((-1), σ)) else (if (x3 - x2) < 64 then (if (gI σ 0 44) = 8 then (some ((-3), σ)) else (chk (gI σ 0 44) 8 (bnd (sI σ 29 (gI σ 0 44).toNatClampNeg x1) fun σ4 => chk (gI σ4 0 44) 8 (bnd (sI σ4 30 (gI σ4 0 44).toNatClampNeg x2) fun σ5 => chk (gI σ5 0 44) 8 (bnd (sI σ5 31 (gI σ5 0 44).toNatClampNeg x3) fun σ6 => chk (gI σ6 0 44) 8 (bnd (sJ σ6 32 (gI σ6 0 44).toNatClampNeg 0) fun σ7 => bnd (sI σ7 0 44 ((gI σ7 0 44) + 1)) fun σ8 => some (((gI σ8 0 44) - 1), σ8))))))) else (some ((-1), σ)))))
-- FamilyNamesModel.linesOf
def X11_linesOf_L4 (σ : St) : Nat → Int32 → Int32 → Int32 → Option Int32
  | 0, _, _, _ => none
  | n + 1, x1, x2, x3 => if (gI σ 0 49) ≤ x3 then some x2 else (chk x3 40 (if (gI σ 33 x3.toNatClampNeg) = x1 then (bnd (x2 + 1) fun x2_2 => X11_linesOf_L4 σ n x1 x2_2 (x3 + 1)) else (bnd (x2 + 0) fun x2_1 => X11_linesOf_L4 σ n x1 x2_1 (x3 + 1))))
def X11_linesOf (x1 : Int32) (σ : St) : Option Int32 :=
  X11_linesOf_L4 σ FU x1 (0 : Int32) (0 : Int32)
-- FamilyNamesModel.isHole
def X11_isHole (x1 : Int32) (x2 : Int32) (σ : St) : Option Int32 :=
  chk x1 8 (chk x1 8 (if (((gJ σ 32 x1.toNatClampNeg) >>> ((x2 - (gI σ 30 x1.toNatClampNeg)).toInt64 &&& 63)) &&& 1) = 1 then some 1 else some 0))
-- FamilyNamesModel.hasLine
def X11_hasLine_L5 (σ : St) : Nat → Int32 → Int32 → Int32 → Int32 → Option Int32
  | 0, _, _, _, _ => none
  | n + 1, x1, x2, x3, x4 => if (gI σ 0 49) ≤ x4 then (chkB x3 (some x3)) else (if x3 = 0 then (chk x4 40 (if (gI σ 33 x4.toNatClampNeg) = x1 then (chk x4 40 (if (gI σ 34 x4.toNatClampNeg) = x2 then (X11_hasLine_L5 σ n x1 x2 (1 : Int32) (x4 + 1)) else (X11_hasLine_L5 σ n x1 x2 (0 : Int32) (x4 + 1)))) else (X11_hasLine_L5 σ n x1 x2 (0 : Int32) (x4 + 1)))) else (X11_hasLine_L5 σ n x1 x2 (1 : Int32) (x4 + 1)))
def X11_hasLine (x1 : Int32) (x2 : Int32) (σ : St) : Option Int32 :=
  X11_hasLine_L5 σ FU x1 x2 (0 : Int32) (0 : Int32)
-- FamilyNamesModel.hole
def X11_hole_B72 (x1 : Int32) (x2 : Int32) (x4 : Int32) (s0 : Int32) (s1 : Int32) (σ : St) : Option (Int32 × St) :=
  if s1 = s0 then (some (x4, σ)) else (chk x1 8 (chk x1 8 (chk x1 8 (bnd (sJ σ 32 x1.toNatClampNeg ((gJ σ 32 x1.toNatClampNeg) ^^^ ((1 : Int64) <<< ((x2 - (gI σ 30 x1.toNatClampNeg)).toInt64 &&& 63)))) fun σ5 => some (x4, σ5)))))
def X11_hole (x1 : Int32) (x2 : Int32) (x3 : Int32) (σ : St) : Option (Int32 × St) :=
  (X11_isBook x1 σ).bind fun v1 => if v1 = 0 then (some ((-1), σ)) else (chk x1 8 (chk x1 8 ((X11_in x2.toInt64 ((gI σ 30 x1.toNatClampNeg).toInt64) ((gI σ 31 x1.toNatClampNeg).toInt64) σ).bind fun v2 => if v2 = 0 then (some ((-1), σ)) else ((X11_hasLine x1 x2 σ).bind fun v3 => if v3 = 0 then ((X11_isHole x1 x2 σ).bind fun v4 => if v4 = 0 then (if (0 : Int32) = 1 then (X11_hole_B72 x1 x2 (0 : Int32) (1 : Int32) x3 σ) else (X11_hole_B72 x1 x2 (0 : Int32) (0 : Int32) x3 σ)) else (if (1 : Int32) = 1 then (X11_hole_B72 x1 x2 (1 : Int32) (1 : Int32) x3 σ) else (X11_hole_B72 x1 x2 (1 : Int32) (0 : Int32) x3 σ))) else (some ((-2), σ))))))
-- FamilyNamesModel.bookOf
def X11_bookOf_B51 (kq24 : Int32 → Int32 → Int32 → Int32 → Int32 → Option Int32) (σ : St) (x1 : Int32) (x2 : Int32) (x4 : Int32) (x5 : Int32) (s0 : Int32) (s1 : Int32) : Option Int32 :=
  bnd (s1 + s0) fun x3_5 => (X11_isHole x1 x5 σ).bind fun v6 => if v6 = 0 then (kq24 x1 x2 x3_5 x5 (x5 + 1)) else (kq24 x1 x2 x3_5 x4 (x5 + 1))
def X11_bookOf_L24 (σ : St) : Nat → Int32 → Int32 → Int32 → Int32 → Int32 → Option Int32
  | 0, _, _, _, _, _ => none
  | n + 1, x1, x2, x3, x4, x5 => chk x1 8 (if (gI σ 31 x1.toNatClampNeg) < x5 then (swk x2 0 [chk x1 8 (some (gI σ 29 x1.toNatClampNeg)), chk x1 8 (some (gI σ 30 x1.toNatClampNeg)), chk x1 8 (some (gI σ 31 x1.toNatClampNeg)), some x3, (X11_linesOf x1 σ).bind fun v3 => some v3, some x4] (some (-1))) else ((X11_isHole x1 x5 σ).bind fun v4 => if v4 = 0 then (X11_bookOf_B51 (X11_bookOf_L24 σ n) σ x1 x2 x4 x5 (0 : Int32) x3) else (X11_bookOf_B51 (X11_bookOf_L24 σ n) σ x1 x2 x4 x5 (1 : Int32) x3)))
def X11_bookOf (x1 : Int32) (x2 : Int32) (σ : St) : Option Int32 :=
  (X11_isBook x1 σ).bind fun v1 => if v1 = 0 then (some (-1)) else (chk x1 8 (bnd (gI σ 30 x1.toNatClampNeg) fun x5_2 => X11_bookOf_L24 σ FU x1 x2 (0 : Int32) (-4 : Int32) x5_2))
-- FamilyNamesModel.addLine
def X11_addLine (x1 : Int32) (x2 : Int32) (x3 : Int32) (x4 : Int32) (σ : St) : Option St :=
  chk (gI σ 0 49) 40 (bnd (sI σ 33 (gI σ 0 49).toNatClampNeg x1) fun σ1 => chk (gI σ1 0 49) 40 (bnd (sI σ1 34 (gI σ1 0 49).toNatClampNeg x2) fun σ2 => chk (gI σ2 0 49) 40 (bnd (sI σ2 35 (gI σ2 0 49).toNatClampNeg x4) fun σ3 => chk (gI σ3 0 49) 40 (bnd (sI σ3 36 (gI σ3 0 49).toNatClampNeg x3) fun σ4 => chk (gI σ4 0 49) 40 (bnd (sI σ4 37 (gI σ4 0 49).toNatClampNeg x3) fun σ5 => chk (gI σ5 0 49) 40 (bnd (sI σ5 38 (gI σ5 0 49).toNatClampNeg (gI σ5 0 62)) fun σ6 => chk (gI σ6 0 49) 40 (bnd (sI σ6 39 (gI σ6 0 49).toNatClampNeg 1) fun σ7 => chk (gI σ7 0 49) 40 (bnd (sI σ7 40 (gI σ7 0 49).toNatClampNeg (-4)) fun σ8 => bnd (sI σ8 0 49 ((gI σ8 0 49) + 1)) fun σ9 => some σ9))))))))
-- FamilyNamesModel.line
def X11_line (x1 : Int32) (x2 : Int32) (x3 : Int32) (x4 : Int32) (σ : St) : Option (Int32 × St) :=
  (X11_isBook x1 σ).bind fun v1 => if v1 = 0 then (some ((-1), σ)) else (chk x1 8 (chk x1 8 ((X11_in x2.toInt64 ((gI σ 30 x1.toNatClampNeg).toInt64) ((gI σ 31 x1.toNatClampNeg).toInt64) σ).bind fun v2 => if v2 = 0 then (some ((-1), σ)) else ((X11_isSpelling x3 σ).bind fun v3 => if v3 = 0 then (some ((-1), σ)) else ((X11_in x4.toInt64 0 4 σ).bind fun v4 => if v4 = 0 then (some ((-1), σ)) else ((X11_isHole x1 x2 σ).bind fun v5 => if v5 = 0 then (if (gI σ 0 49) = 40 then (some ((-3), σ)) else ((X11_addLine x1 x2 x3 x4 σ).bind fun σ6 => some (((gI σ6 0 49) - 1), σ6))) else (some ((-2), σ))))))))
-- FamilyNamesModel.day
def X11_day (x1 : Int32) (σ : St) : Option (Int32 × St) :=
  (X11_in x1.toInt64 ((gI σ 0 62).toInt64) 999 σ).bind fun v1 => if v1 = 0 then (some ((-1), σ)) else (bnd (gI σ 0 62) fun x2_2 => bnd (sI σ 0 62 x1) fun σ3 => some (x2_2, σ3))
-- FamilyNamesModel.again
def X11_again (x1 : Int32) (x2 : Int32) (σ : St) : Option (Int32 × St) :=
  (X11_isLine x1 σ).bind fun v1 => if v1 = 0 then (some ((-1), σ)) else ((X11_isSpelling x2 σ).bind fun v2 => if v2 = 0 then (some ((-1), σ)) else (chk x1 40 (if (gI σ 37 x1.toNatClampNeg) = x2 then (some ((-2), σ)) else (if (gI σ 0 58) = 60 then (some ((-3), σ)) else (chk (gI σ 0 58) 60 (bnd (sI σ 41 (gI σ 0 58).toNatClampNeg x1) fun σ3 => chk (gI σ3 0 58) 60 (bnd (sI σ3 42 (gI σ3 0 58).toNatClampNeg x2) fun σ4 => chk (gI σ4 0 58) 60 (bnd (sI σ4 43 (gI σ4 0 58).toNatClampNeg (gI σ4 0 62)) fun σ5 => bnd (sI σ5 0 58 ((gI σ5 0 58) + 1)) fun σ6 => chk x1 40 (bnd (sI σ6 37 x1.toNatClampNeg x2) fun σ7 => chk x1 40 (chk x1 40 (bnd (sI σ7 39 x1.toNatClampNeg ((gI σ7 39 x1.toNatClampNeg) + 1)) fun σ8 => chk x1 40 (some ((gI σ8 39 x1.toNatClampNeg), σ8)))))))))))))
-- FamilyNamesModel.lineOf
def X11_lineOf (x1 : Int32) (x2 : Int32) (σ : St) : Option (Int32 × St) :=
  (X11_isLine x1 σ).bind fun v1 => if v1 = 0 then (some ((-1), σ)) else (swk x2 0 [chk x1 40 (some ((gI σ 33 x1.toNatClampNeg), σ)), chk x1 40 (some ((gI σ 34 x1.toNatClampNeg), σ)), chk x1 40 (some ((gI σ 37 x1.toNatClampNeg), σ)), chk x1 40 (some ((gI σ 35 x1.toNatClampNeg), σ)), chk x1 40 ((X11_name (gI σ 37 x1.toNatClampNeg) σ).bind fun r2 => some (r2.1, r2.2)), chk x1 40 (some ((gI σ 40 x1.toNatClampNeg), σ)), chk x1 40 (some ((gI σ 39 x1.toNatClampNeg), σ)), chk x1 40 (some ((gI σ 38 x1.toNatClampNeg), σ))] (some ((-1), σ)))
-- FamilyNamesModel.known
def X11_known_L45 (σ : St) : Nat → Int32 → Int32 → Int32 → Int32 → Option Int32
  | 0, _, _, _, _ => none
  | n + 1, x1, x2, x3, x4 => if (gI σ 0 58) ≤ x4 then some x3 else (chk x4 60 (if (gI σ 41 x4.toNatClampNeg) = x1 then (chk x4 60 (if x2 < (gI σ 43 x4.toNatClampNeg) then (X11_known_L45 σ n x1 x2 x3 (x4 + 1)) else (chk x4 60 (bnd (gI σ 42 x4.toNatClampNeg) fun x3_4 => X11_known_L45 σ n x1 x2 x3_4 (x4 + 1))))) else (X11_known_L45 σ n x1 x2 x3 (x4 + 1))))
def X11_known (x1 : Int32) (x2 : Int32) (σ : St) : Option Int32 :=
  (X11_isLine x1 σ).bind fun v1 => if v1 = 0 then (some (-1)) else ((X11_in x2.toInt64 0 999 σ).bind fun v2 => if v2 = 0 then (some (-1)) else (chk x1 40 (if (gI σ 38 x1.toNatClampNeg) ≤ x2 then (chk x1 40 (bnd (gI σ 36 x1.toNatClampNeg) fun x3_3 => X11_known_L45 σ FU x1 x2 x3_3 (0 : Int32))) else (some (-4)))))
-- FamilyNamesModel.worthOf
def X11_worthOf (x0 : Int32) (σ : St) : Option Int32 :=
  if x0 = 0 then some 2 else (if x0 = 2 then some 2 else (if x0 = 3 then some 0 else some 1))
-- FamilyNamesModel.bearers
def X11_bearers_B287 (x5 : Int32) (x6 : Int32) (x7 : Int32) (s0 : Int32) (σ : St) : Option (Int32 × St) :=
  if x5 = 0 then (some ((x6 / 2), σ)) else (if x5 = 2 then (some (x7, σ)) else (if x7 = 0 then (some ((-4), σ)) else (chkz (2 * x7) (some (((((x6 * s0) + (2 * x7)) - 1) / (2 * x7)), σ)))))
def X11_bearers_L195 (kq177 : Int32 → Int32 → Int32 → Int32 → Int32 → Int32 → Int32 → St → Option (Int32 × St)) : Nat → Int32 → Int32 → Int32 → Int32 → Int32 → Int32 → Int32 → Int32 → St → Option (Int32 × St)
  | 0, _, _, _, _, _, _, _, _, _ => none
  | n + 1, x2, x3, x4, x5, x6, x7, x8, x9, σ => chk x8 8 (if (gI σ 31 x8.toNatClampNeg) < x9 then (kq177 x2 x3 x4 x5 x6 x7 (x8 + 1) σ) else (chk x8 8 (if (gI σ 29 x8.toNatClampNeg) = x2 then ((X11_in x9.toInt64 x3.toInt64 x4.toInt64 σ).bind fun v9 => if v9 = 0 then (bnd (x7 + 0) fun x7_10 => X11_bearers_L195 kq177 n x2 x3 x4 x5 x6 x7_10 x8 (x9 + 1) σ) else ((X11_isHole x8 x9 σ).bind fun v11 => if v11 = 0 then (bnd (x7 + 1) fun x7_13 => X11_bearers_L195 kq177 n x2 x3 x4 x5 x6 x7_13 x8 (x9 + 1) σ) else (bnd (x7 + 0) fun x7_12 => X11_bearers_L195 kq177 n x2 x3 x4 x5 x6 x7_12 x8 (x9 + 1) σ))) else (bnd (x7 + 0) fun x7_8 => X11_bearers_L195 kq177 n x2 x3 x4 x5 x6 x7_8 x8 (x9 + 1) σ))))
def X11_bearers_L177 : Nat → Int32 → Int32 → Int32 → Int32 → Int32 → Int32 → Int32 → St → Option (Int32 × St)
  | 0, _, _, _, _, _, _, _, _ => none
  | n + 1, x2, x3, x4, x5, x6, x7, x8, σ => if (gI σ 0 44) ≤ x8 then (if ((x4 - x3) + 1) ≤ x7 then (X11_bearers_B287 x5 x6 x7 x7 σ) else (X11_bearers_B287 x5 x6 x7 ((x4 - x3) + 1) σ)) else (chk x8 8 (bnd (gI σ 30 x8.toNatClampNeg) fun x9_7 => X11_bearers_L195 (X11_bearers_L177 n) FU x2 x3 x4 x5 x6 x7 x8 x9_7 σ))
def X11_bearers_B142 (kq72 : Int32 → Int32 → Int32 → Int32 → Int32 → Int32 → Int32 → Int32 → St → Option (Int32 × St)) (x1 : Int32) (x2 : Int32) (x3 : Int32) (x4 : Int32) (x5 : Int32) (x6 : Int32) (x7 : Int32) (x8 : Int32) (s0 : Int32) (σ : St) : Option (Int32 × St) :=
  if s0 = 0 then (bnd (x6 + 0) fun x6_14 => kq72 x1 x2 x3 x4 x5 x6_14 x7 (x8 + 1) σ) else (chk x8 40 ((X11_worthOf (gI σ 35 x8.toNatClampNeg) σ).bind fun v15 => bnd (x6 + v15) fun x6_16 => kq72 x1 x2 x3 x4 x5 x6_16 x7 (x8 + 1) σ))
def X11_bearers_L72 : Nat → Int32 → Int32 → Int32 → Int32 → Int32 → Int32 → Int32 → Int32 → St → Option (Int32 × St)
  | 0, _, _, _, _, _, _, _, _, _ => none
  | n + 1, x1, x2, x3, x4, x5, x6, x7, x8, σ => if (gI σ 0 49) ≤ x8 then (X11_bearers_L177 FU x2 x3 x4 x5 x6 x7 (0 : Int32) σ) else (chk x8 40 (chk (gI σ 33 x8.toNatClampNeg) 8 (if (gI σ 29 (gI σ 33 x8.toNatClampNeg).toNatClampNeg) = x2 then (chk x8 40 ((X11_in ((gI σ 34 x8.toNatClampNeg).toInt64) x3.toInt64 x4.toInt64 σ).bind fun v17 => if v17 = 0 then (X11_bearers_B142 (X11_bearers_L72 n) x1 x2 x3 x4 x5 x6 x7 x8 (0 : Int32) σ) else (chk x8 40 (chk (gI σ 37 x8.toNatClampNeg) 16 (chk x1 16 (if (gI σ 22 (gI σ 37 x8.toNatClampNeg).toNatClampNeg) = (gI σ 22 x1.toNatClampNeg) then (X11_bearers_B142 (X11_bearers_L72 n) x1 x2 x3 x4 x5 x6 x7 x8 (1 : Int32) σ) else (X11_bearers_B142 (X11_bearers_L72 n) x1 x2 x3 x4 x5 x6 x7 x8 (0 : Int32) σ))))))) else (X11_bearers_B142 (X11_bearers_L72 n) x1 x2 x3 x4 x5 x6 x7 x8 (0 : Int32) σ))))
def X11_bearers (x1 : Int32) (x2 : Int32) (x3 : Int32) (x4 : Int32) (x5 : Int32) (σ : St) : Option (Int32 × St) :=
  (X11_isSpelling x1 σ).bind fun v1 => if v1 = 0 then (some ((-1), σ)) else ((X11_isPlace x2 σ).bind fun v2 => if v2 = 0 then (some ((-1), σ)) else ((X11_in x3.toInt64 1500 1899 σ).bind fun v3 => if v3 = 0 then (some ((-1), σ)) else ((X11_in x4.toInt64 x3.toInt64 1899 σ).bind fun v4 => if v4 = 0 then (some ((-1), σ)) else ((X11_in x5.toInt64 0 2 σ).bind fun v5 => if v5 = 0 then (some ((-1), σ)) else ((X11_layNames σ).bind fun σ6 => X11_bearers_L72 FU x1 x2 x3 x4 x5 (0 : Int32) (0 : Int32) (0 : Int32) σ6)))))
-- FamilyNamesModel.layFirsts
def X11_layFirsts_L24 : Nat → Int32 → Int32 → St → Option St
  | 0, _, _, _ => none
  | n + 1, x1, x2, σ => if (gI σ 0 49) ≤ x2 then (some σ) else (chk x2 40 (chk (gI σ 33 x2.toNatClampNeg) 8 (bnd (gI σ 29 (gI σ 33 x2.toNatClampNeg).toNatClampNeg) fun x3_1 => chk x2 40 (if (gI σ 35 x2.toNatClampNeg) = 3 then (X11_layFirsts_L24 n x1 (x2 + 1) σ) else (chk x2 40 (chk (gI σ 37 x2.toNatClampNeg) 16 (chk x1 16 (if (gI σ 22 (gI σ 37 x2.toNatClampNeg).toNatClampNeg) = (gI σ 22 x1.toNatClampNeg) then (chk x3_1 8 (if (gI σ 44 x3_1.toNatClampNeg) = (-4) then (chk x2 40 (chk x3_1 8 (bnd (sI σ 44 x3_1.toNatClampNeg (gI σ 34 x2.toNatClampNeg)) fun σ2 => X11_layFirsts_L24 n x1 (x2 + 1) σ2))) else (chk x2 40 (chk x3_1 8 (if (gI σ 44 x3_1.toNatClampNeg) ≤ (gI σ 34 x2.toNatClampNeg) then (chk x3_1 8 (chk x3_1 8 (bnd (sI σ 44 x3_1.toNatClampNeg (gI σ 44 x3_1.toNatClampNeg)) fun σ3 => X11_layFirsts_L24 n x1 (x2 + 1) σ3))) else (chk x2 40 (chk x3_1 8 (bnd (sI σ 44 x3_1.toNatClampNeg (gI σ 34 x2.toNatClampNeg)) fun σ4 => X11_layFirsts_L24 n x1 (x2 + 1) σ4)))))))) else (X11_layFirsts_L24 n x1 (x2 + 1) σ)))))))))
def X11_layFirsts_L2 : Nat → Int32 → Int32 → St → Option St
  | 0, _, _, _ => none
  | n + 1, x1, x2, σ => if 8 ≤ x2 then (X11_layFirsts_L24 FU x1 (0 : Int32) σ) else (chk x2 8 (bnd (sI σ 44 x2.toNatClampNeg (-4)) fun σ5 => X11_layFirsts_L2 n x1 (x2 + 1) σ5))
def X11_layFirsts (x1 : Int32) (σ : St) : Option St :=
  X11_layFirsts_L2 FU x1 (0 : Int32) σ
-- FamilyNamesModel.first
def X11_first (x1 : Int32) (x2 : Int32) (σ : St) : Option (Int32 × St) :=
  (X11_isSpelling x1 σ).bind fun v1 => if v1 = 0 then (some ((-1), σ)) else ((X11_isPlace x2 σ).bind fun v2 => if v2 = 0 then (some ((-1), σ)) else ((X11_layNames σ).bind fun σ3 => (X11_layFirsts x1 σ3).bind fun σ4 => chk x2 8 (some ((gI σ4 44 x2.toNatClampNeg), σ4))))
-- FamilyNamesModel.lets
def X11_lets_B56 (σ : St) (x1 : Int32) (x2 : Int32) (x3 : Int32) (s0 : Int32) (s1 : Int32) : Option Int32 :=
  bnd (s1 + s0) fun x6_3 => chk x1 8 (chkz x3 (chk x2 8 (if (gI σ 44 x2.toNatClampNeg) < ((gI σ 44 x1.toNatClampNeg) + ((((10 * x6_3) + x3) - 1) / x3)) then some 0 else some 1)))
def X11_lets (x1 : Int32) (x2 : Int32) (x3 : Int32) (σ : St) : Option Int32 :=
  chk x1 8 (chk x2 8 (bnd ((gI σ 27 x1.toNatClampNeg) - (gI σ 27 x2.toNatClampNeg)) fun x4_1 => chk x1 8 (chk x2 8 (bnd ((gI σ 28 x1.toNatClampNeg) - (gI σ 28 x2.toNatClampNeg)) fun x5_2 => if 0 ≤ x4_1 then (if 0 ≤ x5_2 then (X11_lets_B56 σ x1 x2 x3 x5_2 x4_1) else (X11_lets_B56 σ x1 x2 x3 (-x5_2) x4_1)) else (if 0 ≤ x5_2 then (X11_lets_B56 σ x1 x2 x3 x5_2 (-x4_1)) else (X11_lets_B56 σ x1 x2 x3 (-x5_2) (-x4_1)))))))
-- FamilyNamesModel.withFirst
def X11_withFirst_L4 (σ : St) : Nat → Int32 → Int32 → Option Int32
  | 0, _, _ => none
  | n + 1, x1, x2 => if (gI σ 0 41) ≤ x2 then some x1 else (chk x2 8 (if (gI σ 44 x2.toNatClampNeg) = (-4) then (bnd (x1 ||| 0) fun x1_2 => X11_withFirst_L4 σ n x1_2 (x2 + 1)) else (bnd (x1 ||| ((1 : Int32) <<< (x2 &&& 31))) fun x1_1 => X11_withFirst_L4 σ n x1_1 (x2 + 1))))
def X11_withFirst  (σ : St) : Option Int32 :=
  X11_withFirst_L4 σ FU (0 : Int32) (0 : Int32)
-- FamilyNamesModel.doLet
def X11_doLet_B95 (kq5 : Int32 → Int32 → Int32 → Int32 → Option Int32) (σ : St) (x1 : Int32) (x2 : Int32) (x3 : Int32) (x4 : Int32) (x5 : Int32) : Option Int32 :=
  if x3 = 0 then (kq5 x1 x2 (0 : Int32) (x4 + 1)) else (if x5 = 0 then (kq5 x1 x2 (0 : Int32) (x4 + 1)) else (kq5 x1 x2 (1 : Int32) (x4 + 1)))
def X11_doLet_L46 (kq5 : Int32 → Int32 → Int32 → Int32 → Option Int32) (σ : St) : Nat → Int32 → Int32 → Int32 → Int32 → Int32 → Int32 → Option Int32
  | 0, _, _, _, _, _, _ => none
  | n + 1, x1, x2, x3, x4, x5, x6 => if (gI σ 0 41) ≤ x6 then (X11_doLet_B95 kq5 σ x1 x2 x3 x4 x5) else (if x5 = 0 then (if ((x1 >>> (x6 &&& 31)) &&& 1) = 1 then ((X11_lets x6 x4 x2 σ).bind fun v2 => if v2 = 0 then (X11_doLet_L46 kq5 σ n x1 x2 x3 x4 (0 : Int32) (x6 + 1)) else (X11_doLet_L46 kq5 σ n x1 x2 x3 x4 (1 : Int32) (x6 + 1))) else (X11_doLet_L46 kq5 σ n x1 x2 x3 x4 (0 : Int32) (x6 + 1))) else (X11_doLet_B95 kq5 σ x1 x2 x3 x4 x5))
def X11_doLet_L5 (σ : St) : Nat → Int32 → Int32 → Int32 → Int32 → Option Int32
  | 0, _, _, _, _ => none
  | n + 1, x1, x2, x3, x4 => if (gI σ 0 41) ≤ x4 then (chkB x3 (some x3)) else (chk x4 8 (if (gI σ 44 x4.toNatClampNeg) = (-4) then (X11_doLet_L46 (X11_doLet_L5 σ n) σ FU x1 x2 x3 x4 (1 : Int32) (0 : Int32)) else (if ((x1 >>> (x4 &&& 31)) &&& 1) = 1 then (X11_doLet_L46 (X11_doLet_L5 σ n) σ FU x1 x2 x3 x4 (1 : Int32) (0 : Int32)) else (X11_doLet_L46 (X11_doLet_L5 σ n) σ FU x1 x2 x3 x4 (0 : Int32) (0 : Int32)))))
def X11_doLet (x1 : Int32) (x2 : Int32) (σ : St) : Option Int32 :=
  X11_doLet_L5 σ FU x1 x2 (1 : Int32) (0 : Int32)
-- FamilyNamesModel.starts
def X11_starts_L60 (kq45 : Int32 → Int32 → Int32 → Int32 → Int32 → St → Option (Int32 × St)) : Nat → Int32 → Int32 → Int32 → Int32 → Int32 → Int32 → Int32 → St → Option (Int32 × St)
  | 0, _, _, _, _, _, _, _, _ => none
  | n + 1, x2, x3, x4, x5, x6, x7, x8, σ => if x8 < 0 then (if x7 ≤ 0 then (kq45 x2 x3 x4 x5 (x6 + 1) σ) else (if x2 = 0 then (some (x6, σ)) else (if x2 = 1 then (some (x4, σ)) else (if x2 = 2 then (some (x3, σ)) else (some (x5, σ)))))) else (if (x8 &&& (x3 ^^^ (-1))) = 0 then ((X11_sizeOf x8 σ).bind fun v7 => if v7 = x6 then ((X11_doLet x8 (gI σ 7 3) σ).bind fun v8 => if v8 = 0 then (X11_starts_L60 kq45 n x2 x3 x4 x5 x6 x7 (x8 + (-1)) σ) else (bnd (x5 &&& x8) fun x5_9 => X11_starts_L60 kq45 n x2 x3 x8 x5_9 x6 (x7 + 1) (x8 + (-1)) σ)) else (X11_starts_L60 kq45 n x2 x3 x4 x5 x6 x7 (x8 + (-1)) σ)) else (X11_starts_L60 kq45 n x2 x3 x4 x5 x6 x7 (x8 + (-1)) σ))
def X11_starts_L45 : Nat → Int32 → Int32 → Int32 → Int32 → Int32 → St → Option (Int32 × St)
  | 0, _, _, _, _, _, _ => none
  | n + 1, x2, x3, x4, x5, x6, σ => (X11_sizeOf x3 σ).bind fun v6 => if v6 < x6 then (some ((-1), σ)) else (X11_starts_L60 (X11_starts_L45 n) FU x2 x3 x4 x5 x6 (0 : Int32) x3 σ)
def X11_starts (x1 : Int32) (x2 : Int32) (σ : St) : Option (Int32 × St) :=
  (X11_isSpelling x1 σ).bind fun v1 => if v1 = 0 then (some ((-1), σ)) else ((X11_in x2.toInt64 0 3 σ).bind fun v2 => if v2 = 0 then (some ((-1), σ)) else ((X11_layNames σ).bind fun σ3 => (X11_layFirsts x1 σ3).bind fun σ4 => (X11_withFirst σ4).bind fun v5 => X11_starts_L45 FU x2 v5 v5 v5 (0 : Int32) σ4))
-- FamilyNamesModel.judge
def X11_judge (x1 : Int32) (x2 : Int32) (σ : St) : Option (Int32 × St) :=
  (X11_isSpelling x1 σ).bind fun v1 => if v1 = 0 then (some ((-1), σ)) else ((X11_in x2.toInt64 0 ((((1 : Int32) <<< ((gI σ 0 41) &&& 31)) - 1).toInt64) σ).bind fun v2 => if v2 = 0 then (some ((-1), σ)) else ((X11_layNames σ).bind fun σ3 => (X11_layFirsts x1 σ3).bind fun σ4 => (X11_withFirst σ4).bind fun v5 => if (x2 &&& (v5 ^^^ (-1))) = 0 then ((X11_doLet x2 (gI σ4 7 3) σ4).bind fun v6 => if v6 = 0 then (some (0, σ4)) else (some (1, σ4))) else (some ((-2), σ4))))
-- FamilyNamesModel.pace
def X11_pace_L29 (kq21 : Int32 → St → Option (Int32 × St)) : Nat → Int32 → Int32 → St → Option (Int32 × St)
  | 0, _, _, _ => none
  | n + 1, x2, x3, σ => if (gI σ 0 41) ≤ x3 then (kq21 (x2 + 1) σ) else (chk x3 8 (if (gI σ 44 x3.toNatClampNeg) = (-4) then (X11_pace_L29 kq21 n x2 (x3 + 1) σ) else ((X11_doLet ((1 : Int32) <<< (x3 &&& 31)) x2 σ).bind fun v4 => if v4 = 0 then (X11_pace_L29 kq21 n x2 (x3 + 1) σ) else (some (x2, σ)))))
def X11_pace_L21 : Nat → Int32 → St → Option (Int32 × St)
  | 0, _, _ => none
  | n + 1, x2, σ => if 20 < x2 then (some ((-4), σ)) else (X11_pace_L29 (X11_pace_L21 n) FU x2 (0 : Int32) σ)
def X11_pace (x1 : Int32) (σ : St) : Option (Int32 × St) :=
  (X11_isSpelling x1 σ).bind fun v1 => if v1 = 0 then (some ((-1), σ)) else ((X11_layNames σ).bind fun σ2 => (X11_layFirsts x1 σ2).bind fun σ3 => X11_pace_L21 FU (1 : Int32) σ3)
-- FamilyNamesModel.dies
def X11_dies_L179 (σ : St) : Nat → Int32 → Int64 → Int64 → Int64 → Int64 → Option Int64
  | 0, _, _, _, _, _ => none
  | n + 1, x2, x5, x7, x9, x11 => if x11 = 0 then (if x2 = 0 then (chkzl x9 (some (x5 / x9))) else (chkzl x9 (some (x7 / x9)))) else (chkzl x11 (bnd (x9 - x9 / x11 * x11) fun x13_5 => X11_dies_L179 σ n x2 x5 x7 x11 x13_5))
def X11_dies_L72 (σ : St) : Nat → Int32 → Int32 → Int64 → Int64 → Int64 → Int32 → Option Int64
  | 0, _, _, _, _, _, _ => none
  | n + 1, x1, x2, x3, x5, x7, x9 => if x1 ≤ x9 then (X11_dies_L179 σ FU x2 x5 x7 x5 x7) else (bnd ((((((((gI σ 7 4).toInt64) * x7) * x7) * x7) + (((((gI σ 7 5).toInt64) * x5) * x7) * x7)) + (((((gI σ 7 6).toInt64) * x5) * x5) * x7)) + (((((gI σ 7 7).toInt64) * x5) * x5) * x5)) fun x10_6 => bnd (((x3 * x7) * x7) * x7) fun x7_7 => X11_dies_L72 σ n x1 x2 x3 x10_6 x7_7 (x9 + 1))
def X11_dies (x1 : Int32) (x2 : Int32) (σ : St) : Option Int64 :=
  (X11_in x1.toInt64 1 3 σ).bind fun v1 => if v1 = 0 then (some (-1)) else ((X11_in x2.toInt64 0 1 σ).bind fun v2 => if v2 = 0 then (some (-1)) else (bnd (((((gI σ 7 4) + (gI σ 7 5)) + (gI σ 7 6)) + (gI σ 7 7)).toInt64) fun x3_3 => bnd ((gI σ 7 4).toInt64) fun x5_4 => X11_dies_L72 σ FU x1 x2 x3_3 x5_4 x3_3 (1 : Int32)))
-- FamilyNamesModel.father
def X11_father_B52 (x1 : Int32) (x2 : Int32) (σ : St) : Option (Int32 × St) :=
  chk x1 40 (bnd (gI σ 40 x1.toNatClampNeg) fun x3_3 => chk x1 40 (bnd (sI σ 40 x1.toNatClampNeg x2) fun σ4 => some (x3_3, σ4)))
def X11_father_B25 (x1 : Int32) (x2 : Int32) (σ : St) : Option (Int32 × St) :=
  if x2 = (-4) then (X11_father_B52 x1 x2 σ) else (chk x2 40 (chk x1 40 (if ((gI σ 34 x2.toNatClampNeg) + 15) ≤ (gI σ 34 x1.toNatClampNeg) then (X11_father_B52 x1 x2 σ) else (some ((-6), σ)))))
def X11_father (x1 : Int32) (x2 : Int32) (σ : St) : Option (Int32 × St) :=
  (X11_isLine x1 σ).bind fun v1 => if v1 = 0 then (some ((-5), σ)) else ((X11_isLine x2 σ).bind fun v2 => if v2 = 0 then (if x2 = (-4) then (X11_father_B25 x1 x2 σ) else (some ((-5), σ))) else (X11_father_B25 x1 x2 σ))
-- FamilyNamesModel.stepsTo
def X11_stepsTo_L5 (σ : St) : Nat → Int32 → Int32 → Int32 → Option Int32
  | 0, _, _, _ => none
  | n + 1, x2, x3, x4 => if x4 = (-4) then (if x4 = (-4) then (some (-4)) else some x3) else (if x4 = x2 then (if x4 = (-4) then (some (-4)) else some x3) else (chk x4 40 (bnd (gI σ 40 x4.toNatClampNeg) fun x4_1 => X11_stepsTo_L5 σ n x2 (x3 + 1) x4_1)))
def X11_stepsTo (x1 : Int32) (x2 : Int32) (σ : St) : Option Int32 :=
  X11_stepsTo_L5 σ FU x2 (0 : Int32) x1
-- FamilyNamesModel.kinOf
def X11_kinOf_L6 (σ : St) : Nat → Int32 → Int32 → Int32 → Int32 → Option Int32
  | 0, _, _, _, _ => none
  | n + 1, x1, x2, x3, x4 => if (gI σ 0 49) ≤ x4 then some x3 else ((X11_stepsTo x1 x4 σ).bind fun v1 => (X11_stepsTo x2 x4 σ).bind fun v2 => if v1 = (-4) then (X11_kinOf_L6 σ n x1 x2 x3 (x4 + 1)) else (if v2 = (-4) then (X11_kinOf_L6 σ n x1 x2 x3 (x4 + 1)) else (if x3 = (-4) then (bnd (v1 + v2) fun x3_3 => X11_kinOf_L6 σ n x1 x2 x3_3 (x4 + 1)) else (if x3 ≤ (v1 + v2) then (X11_kinOf_L6 σ n x1 x2 x3 (x4 + 1)) else (bnd (v1 + v2) fun x3_4 => X11_kinOf_L6 σ n x1 x2 x3_4 (x4 + 1))))))
def X11_kinOf (x1 : Int32) (x2 : Int32) (σ : St) : Option Int32 :=
  X11_kinOf_L6 σ FU x1 x2 (-4 : Int32) (0 : Int32)
-- FamilyNamesModel.kin
def X11_kin (x1 : Int32) (x2 : Int32) (σ : St) : Option Int32 :=
  (X11_isLine x1 σ).bind fun v1 => if v1 = 0 then (some (-1)) else ((X11_isLine x2 σ).bind fun v2 => if v2 = 0 then (some (-1)) else ((X11_kinOf x1 x2 σ).bind fun v3 => some v3))
-- FamilyNamesModel.related
def X11_related_B52 (x1 : Int32) (x2 : Int32) (s0 : Int32) (σ : St) : Option (Int32 × St) :=
  (X11_kinOf x1 x2 σ).bind fun v4 => if v4 = (-4) then (some ((s0 + 0), σ)) else (some ((s0 + 2), σ))
def X11_related (x1 : Int32) (x2 : Int32) (σ : St) : Option (Int32 × St) :=
  (X11_isLine x1 σ).bind fun v1 => if v1 = 0 then (some ((-1), σ)) else ((X11_isLine x2 σ).bind fun v2 => if v2 = 0 then (some ((-1), σ)) else ((X11_layNames σ).bind fun σ3 => chk x1 40 (chk (gI σ3 37 x1.toNatClampNeg) 16 (chk x2 40 (chk (gI σ3 37 x2.toNatClampNeg) 16 (if (gI σ3 22 (gI σ3 37 x1.toNatClampNeg).toNatClampNeg) = (gI σ3 22 (gI σ3 37 x2.toNatClampNeg).toNatClampNeg) then (X11_related_B52 x1 x2 (1 : Int32) σ3) else (X11_related_B52 x1 x2 (0 : Int32) σ3)))))))
-- FamilyNamesModel.issue
def X11_issue_B109 (kq37 : Int32 → Int32 → Int32 → Int32 → Int32 → Int32 → St → Option (Int32 × St)) (x1 : Int32) (x2 : Int32) (x3 : Int32) (x5 : Int32) (x6 : Int32) (x7 : Int32) (s0 : Int32) (s1 : Int32) (σ : St) : Option (Int32 × St) :=
  bnd (s1 + s0) fun x4_5 => if x7 ≤ x5 then (kq37 x1 x2 x3 x4_5 x5 (x6 + 1) σ) else (kq37 x1 x2 x3 x4_5 x7 (x6 + 1) σ)
def X11_issue_B64 (kq37 : Int32 → Int32 → Int32 → Int32 → Int32 → Int32 → St → Option (Int32 × St)) (x1 : Int32) (x2 : Int32) (x3 : Int32) (x4 : Int32) (x5 : Int32) (x6 : Int32) (s0 : Int32) (σ : St) : Option (Int32 × St) :=
  if s0 = (-4) then (kq37 x1 x2 x3 x4 x5 (x6 + 1) σ) else (chk x6 40 (chk (gI σ 37 x6.toNatClampNeg) 16 (chk x1 40 (chk (gI σ 37 x1.toNatClampNeg) 16 (if (gI σ 22 (gI σ 37 x6.toNatClampNeg).toNatClampNeg) = (gI σ 22 (gI σ 37 x1.toNatClampNeg).toNatClampNeg) then (X11_issue_B109 kq37 x1 x2 (x3 + 1) x5 x6 s0 (0 : Int32) x4 σ) else (X11_issue_B109 kq37 x1 x2 (x3 + 1) x5 x6 s0 (1 : Int32) x4 σ))))))
def X11_issue_L37 : Nat → Int32 → Int32 → Int32 → Int32 → Int32 → Int32 → St → Option (Int32 × St)
  | 0, _, _, _, _, _, _, _ => none
  | n + 1, x1, x2, x3, x4, x5, x6, σ => if (gI σ 0 49) ≤ x6 then (if x2 = 0 then (some (x3, σ)) else (if x2 = 1 then (some (x4, σ)) else (some (x5, σ)))) else (if x6 = x1 then (X11_issue_B64 (X11_issue_L37 n) x1 x2 x3 x4 x5 x6 (-4 : Int32) σ) else ((X11_stepsTo x6 x1 σ).bind fun v4 => X11_issue_B64 (X11_issue_L37 n) x1 x2 x3 x4 x5 x6 v4 σ))
def X11_issue (x1 : Int32) (x2 : Int32) (σ : St) : Option (Int32 × St) :=
  (X11_isLine x1 σ).bind fun v1 => if v1 = 0 then (some ((-1), σ)) else ((X11_in x2.toInt64 0 2 σ).bind fun v2 => if v2 = 0 then (some ((-1), σ)) else ((X11_layNames σ).bind fun σ3 => X11_issue_L37 FU x1 x2 (0 : Int32) (0 : Int32) (0 : Int32) (0 : Int32) σ3))
-- FamilyNamesModel.sheet
def X11_sheet_L56 : Nat → Int32 → Int32 → St → Option (Int32 × St)
  | 0, _, _, _ => none
  | n + 1, x1, x4, σ => if 64 ≤ x4 then (some (1, σ)) else (chk ((64 * x1) + x4) 256 (bnd (sI σ 47 ((64 * x1) + x4).toNatClampNeg 0) fun σ5 => X11_sheet_L56 n x1 (x4 + 1) σ5))
def X11_sheet (x1 : Int32) (x2 : Int32) (x3 : Int32) (σ : St) : Option (Int32 × St) :=
  (X11_in x1.toInt64 0 3 σ).bind fun v1 => if v1 = 0 then (some ((-1), σ)) else ((X11_in x2.toInt64 0 2 σ).bind fun v2 => if v2 = 0 then (some ((-1), σ)) else (if x3 ≤ 64 then (if 0 ≤ x3 then (chk x1 4 (bnd (sI σ 45 x1.toNatClampNeg x2) fun σ3 => chk x1 4 (bnd (sI σ3 46 x1.toNatClampNeg x3) fun σ4 => X11_sheet_L56 FU x1 (0 : Int32) σ4))) else (some ((-14), σ))) else (some ((-1), σ))))
-- FamilyNamesModel.lay
def X11_lay (x1 : Int32) (x2 : Int32) (x3 : Int32) (σ : St) : Option (Int32 × St) :=
  (X11_in x1.toInt64 0 3 σ).bind fun v1 => if v1 = 0 then (some ((-1), σ)) else (chk x1 4 (if (gI σ 45 x1.toNatClampNeg) = (-4) then (some ((-11), σ)) else (chk x1 4 ((X11_in x2.toInt64 0 (((gI σ 46 x1.toNatClampNeg) - 1).toInt64) σ).bind fun v2 => if v2 = 0 then (some ((-12), σ)) else (chk x1 4 (if (gI σ 45 x1.toNatClampNeg) = 0 then (chk ((64 * x1) + x2) 256 (bnd (sI σ 47 ((64 * x1) + x2).toNatClampNeg ((x3 <<< ((24 : Int32) &&& 31)) >>> ((24 : Int32) &&& 31))) fun σ5 => some (1, σ5))) else (chk x1 4 (if (gI σ 45 x1.toNatClampNeg) = 1 then (chk ((64 * x1) + x2) 256 (bnd (sI σ 47 ((64 * x1) + x2).toNatClampNeg ((x3 <<< ((16 : Int32) &&& 31)) >>> ((16 : Int32) &&& 31))) fun σ4 => some (1, σ4))) else (chk ((64 * x1) + x2) 256 (bnd (sI σ 47 ((64 * x1) + x2).toNatClampNeg x3) fun σ3 => some (1, σ3)))))))))))
-- FamilyNamesModel.faultAt
def X11_faultAt (x1 : Int32) (x2 : Int32) (x3 : Int32) (σ : St) : Option Int32 :=
  chk x1 4 (if (gI σ 45 x1.toNatClampNeg) = (-4) then some 1 else (chk x1 4 (if (gI σ 45 x1.toNatClampNeg) = x2 then (chk x1 4 (if x3 < (gI σ 46 x1.toNatClampNeg) then some 0 else some 2)) else some 3)))
-- FamilyNamesModel.read
def X11_read_L260 : Nat → Int32 → Int32 → Int32 → Int32 → Int32 → St → Option (Int32 × St)
  | 0, _, _, _, _, _, _ => none
  | n + 1, x1, x4, x6, x7, x8, σ => if x4 ≤ x8 then (bnd (sI σ 0 67 x6) fun σ5 => some (x7, σ5)) else (chk x1 8 ((X11_hasLine x1 ((gI σ 30 x1.toNatClampNeg) + x8) σ).bind fun v6 => if v6 = 0 then (chk x1 8 (chk x1 8 (bnd (sJ σ 32 x1.toNatClampNeg ((gJ σ 32 x1.toNatClampNeg) ||| ((1 : Int64) <<< (x8.toInt64 &&& 63)))) fun σ7 => X11_read_L260 n x1 x4 x6 x7 (x8 + 1) σ7))) else (X11_read_L260 n x1 x4 x6 x7 (x8 + 1) σ)))
def X11_read_L183 : Nat → Int32 → Int32 → Int32 → Int32 → Int32 → Int32 → Int32 → St → Option (Int32 × St)
  | 0, _, _, _, _, _, _, _, _ => none
  | n + 1, x1, x2, x4, x5, x6, x7, x8, σ => if x5 ≤ x8 then (X11_read_L260 FU x1 x4 x6 x7 x5 σ) else (chk x1 8 ((X11_isHole x1 ((gI σ 30 x1.toNatClampNeg) + x8) σ).bind fun v8 => if v8 = 0 then (chk ((64 * x2) + x8) 256 (if (gI σ 47 ((64 * x2) + x8).toNatClampNeg) = (-1) then (X11_read_L183 n x1 x2 x4 x5 x6 x7 (x8 + 1) σ) else (chk x1 8 (chk ((64 * x2) + x8) 256 ((X11_addLine x1 ((gI σ 30 x1.toNatClampNeg) + x8) (gI σ 47 ((64 * x2) + x8).toNatClampNeg) 0 σ).bind fun σ9 => X11_read_L183 n x1 x2 x4 x5 x6 x7 (x8 + 1) σ9))))) else (X11_read_L183 n x1 x2 x4 x5 x6 x7 (x8 + 1) σ)))
def X11_read_B165 (x1 : Int32) (x2 : Int32) (x4 : Int32) (x5 : Int32) (x6 : Int32) (x7 : Int32) (σ : St) : Option (Int32 × St) :=
  if ((gI σ 0 49) + x7) ≤ 40 then (X11_read_L183 FU x1 x2 x4 x5 x6 x7 (0 : Int32) σ) else (some ((-3), σ))
def X11_read_L64 : Nat → Int32 → Int32 → Int32 → Int32 → Int32 → Int32 → Int32 → Int32 → St → Option (Int32 × St)
  | 0, _, _, _, _, _, _, _, _, _ => none
  | n + 1, x1, x2, x3, x4, x5, x6, x7, x8, σ => if x4 ≤ x8 then (X11_read_B165 x1 x2 x4 x5 x6 x7 σ) else (if x6 = 0 then (chk x1 8 ((X11_isHole x1 ((gI σ 30 x1.toNatClampNeg) + x8) σ).bind fun v10 => if v10 = 0 then ((X11_faultAt x2 x3 x8 σ).bind fun v11 => if v11 ≤ 0 then (chk ((64 * x2) + x8) 256 (if (gI σ 47 ((64 * x2) + x8).toNatClampNeg) = (-1) then (X11_read_L64 n x1 x2 x3 x4 x5 v11 x7 (x8 + 1) σ) else (chk ((64 * x2) + x8) 256 ((X11_isSpelling (gI σ 47 ((64 * x2) + x8).toNatClampNeg) σ).bind fun v12 => if v12 = 0 then (some (((-20) - x8), σ)) else (X11_read_L64 n x1 x2 x3 x4 x5 v11 (x7 + 1) (x8 + 1) σ))))) else (X11_read_L64 n x1 x2 x3 x4 x8 v11 x7 (x8 + 1) σ)) else (X11_read_L64 n x1 x2 x3 x4 x5 x6 x7 (x8 + 1) σ))) else (X11_read_B165 x1 x2 x4 x5 x6 x7 σ))
def X11_read (x1 : Int32) (x2 : Int32) (x3 : Int32) (σ : St) : Option (Int32 × St) :=
  (X11_isBook x1 σ).bind fun v1 => if v1 = 0 then (some ((-1), σ)) else ((X11_in x2.toInt64 0 3 σ).bind fun v2 => if v2 = 0 then (some ((-1), σ)) else ((X11_in x3.toInt64 0 2 σ).bind fun v3 => if v3 = 0 then (some ((-1), σ)) else (chk x1 8 (chk x1 8 (bnd (((gI σ 31 x1.toNatClampNeg) - (gI σ 30 x1.toNatClampNeg)) + 1) fun x4_4 => X11_read_L64 FU x1 x2 x3 x4_4 x4_4 (0 : Int32) (0 : Int32) (0 : Int32) σ)))))
-- FamilyNamesModel.torn
def X11_torn  (σ : St) : Option Int32 :=
  some (gI σ 0 67)
-- FamilyNamesModel.count
def X11_count_B44 (x1 : Int32) (x2 : Int32) (σ : St) : Option (Int32 × St) :=
  swk x1 0 [some ((gI σ 0 0), σ), some ((gI σ 0 41), σ), some ((gI σ 0 44), σ), some ((gI σ 0 49), σ), some ((gI σ 0 58), σ), some ((gI σ 0 62), σ), (X11_sizeOf x2 σ).bind fun v1 => some (v1, σ), some ((gI σ 0 5), σ), if (gI σ 45 0) = (-4) then (some ((-4), σ)) else (some ((gI σ 46 0), σ))] (some ((-1), σ))
def X11_count_L14 : Nat → Int32 → Int32 → Int32 → St → Option (Int32 × St)
  | 0, _, _, _, _ => none
  | n + 1, x1, x2, x3, σ => if (gI σ 0 49) ≤ x3 then (X11_count_B44 x1 x2 σ) else (chk x3 40 (chk (gI σ 37 x3.toNatClampNeg) 16 (bnd (x2 ||| ((1 : Int32) <<< ((gI σ 22 (gI σ 37 x3.toNatClampNeg).toNatClampNeg) &&& 31))) fun x2_3 => X11_count_L14 n x1 x2_3 (x3 + 1) σ)))
def X11_count (x1 : Int32) (σ : St) : Option (Int32 × St) :=
  if x1 = 6 then ((X11_layNames σ).bind fun σ2 => X11_count_L14 FU x1 (0 : Int32) (0 : Int32) σ2) else (X11_count_B44 x1 (0 : Int32) σ)
