/-! The methods of both classes as functions, by program out of the listing (wip/whole/gen/gen.py). -/
def ad0 : List Nat := [37]
def ad1 : List Nat := [116, 119, 122, 125, 128, 131, 134, 137, 140, 143]
def ad2 : List Nat := [32]
def ad3 : List Nat := [50, 61, 72, 83, 94, 105]
def ad4 : List Nat := [6]
def ad5 : List Nat := [26]
def ad6 : List Nat := [2, 4, 15, 17, 20, 22, 27, 29, 33, 35]
def ad7 : List Nat := [14, 19]
def ad8 : List Nat := [39]
def ad9 : List Nat := [11]
def ad10 : List Nat := [24]
def ad11 : List Nat := [0]
def ad12 : List Nat := [146]
def f6_length  (a0 : Nat) (S : St) : Option (Int32 × St) :=
  some (S.1 a0 1, S)
def f6_orderAt  (a0 : Nat) (x1 : Int32) (S : St) : Option (Int32 × St) :=
  if x1 < 0 then
    some ((-1), S)
  else
  if (S.1 a0 1) ≤ x1 then
    some ((-1), S)
  else
  if (nI 12) ≤ x1 then
    some ((-1), S)
  else
  ckI x1 12 <|
  some (S.1 (a0 + 1) x1.toNatClampNeg, S)
def f6_isClosed  (a0 : Nat) (S : St) : Option (Int32 × St) :=
  if (S.1 a0 1) ≤ 0 then
    some (nI 0, S)
  else
  bnd (f6_orderAt a0 ((S.1 a0 1) - (nI 1)) S) fun q2 S3 =>
  if q2 = 0 then
    some (nI 1, S3)
  else
  some (nI 0, S3)
def f6_holds_h2 (N : Nat) (a0 : Nat) (x1 : Int32)  : Nat → Int32 → St → Option (Int32 × St)
  | 0, _, _ => none
  | n + 1, x2, S =>
    if (S.1 a0 1) ≤ x2 then
      some (nI 0, S)
    else
    bnd (f6_orderAt a0 x2 S) fun q2 S3 =>
    if q2 = x1 then
      some (nI 1, S3)
    else
    f6_holds_h2 N a0 x1 n (x2 + nI 1) S3
def f6_holds (N : Nat) (a0 : Nat) (x1 : Int32) (S : St) : Option (Int32 × St) :=
  f6_holds_h2 N a0 x1 N (nI 0) S
def f6_push  (a0 : Nat) (x1 : Int32) (S : St) : Option (Int32 × St) :=
  if (S.1 a0 1) < (nI 12) then
    ckI (S.1 a0 1) 12 <|
    lt (wI S (a0 + 1) ((S.1 a0 1).toNatClampNeg) x1) fun S2 =>
    lt (wI S2 a0 1 ((S2.1 a0 1) + (nI 1))) fun S3 =>
    some (nI 1, S3)
  else
  some (nI 0, S)
def f6_cut  (a0 : Nat) (x1 : Int32) (S : St) : Option (Unit × St) :=
  if x1 < 0 then
    some ((), S)
  else
  if (S.1 a0 1) ≤ x1 then
    some ((), S)
  else
  lt (wI S a0 1 x1) fun S3 =>
  some ((), S3)
def f6_beEmpty  (a0 : Nat) (S : St) : Option (Unit × St) :=
  lt (wI S a0 1 (nI 0)) fun S1 =>
  some ((), S1)
def f6_become  (a0 : Nat) (a1 : Nat) (S : St) : Option (Unit × St) :=
  ckC (nI 0) (nI 0) (nI 12) 12 12 <|
  lt (cpI S (a1 + 1) ((nI 0).toNatClampNeg) (a0 + 1) ((nI 0).toNatClampNeg) ((nI 12).toNatClampNeg)) fun S1 =>
  lt (wI S1 a0 1 (S1.1 a1 1)) fun S2 =>
  some ((), S2)
def f10_length   (S : St) : Option (Int32 × St) :=
  some (S.1 24 1, S)
def f10_numberAt  (x1 : Int32) (S : St) : Option (Int32 × St) :=
  if x1 < 0 then
    some ((-1), S)
  else
  if (S.1 24 1) ≤ x1 then
    some ((-1), S)
  else
  if (nI 8) ≤ x1 then
    some ((-1), S)
  else
  ckI x1 8 <|
  some (S.1 25 x1.toNatClampNeg, S)
def f10_push  (x1 : Int32) (S : St) : Option (Int32 × St) :=
  if (S.1 24 1) < (nI 8) then
    ckI (S.1 24 1) 8 <|
    lt (wI S 25 ((S.1 24 1).toNatClampNeg) x1) fun S2 =>
    lt (wI S2 24 1 ((S2.1 24 1) + (nI 1))) fun S3 =>
    some (nI 1, S3)
  else
  some (nI 0, S)
def f10_beEmpty   (S : St) : Option (Unit × St) :=
  lt (wI S 24 1 (nI 0)) fun S1 =>
  some ((), S1)
def f0_kindOf  (x0 : Int32) (S : St) : Option (Int32 × St) :=
  sw x0 [
      (nI 0, some (nI 1, S)),
      (nI 1, some (nI 2, S)),
      (nI 2, some (nI 2, S)),
      (nI 3, some (nI 3, S)),
      (nI 4, some (nI 4, S)),
      (nI 5, some (nI 2, S)),
      (nI 6, some (nI 5, S)),
      (nI 7, some (nI 5, S))]
    (some (nI 6, S))
def f0_above  (x0 : Int32) (S : St) : Option (Int32 × St) :=
  sw x0 [
      (nI 1, some (nI 0, S)),
      (nI 2, some (nI 0, S)),
      (nI 3, some (nI 2, S)),
      (nI 4, some (nI 2, S)),
      (nI 5, some (nI 0, S)),
      (nI 6, some (nI 5, S))]
    (some ((-1), S))
def f0_isUnder_h4 (N : Nat) (x1 : Int32)  : Nat → Int32 → Int32 → St → Option (Int32 × St)
  | 0, _, _, _ => none
  | n + 1, x2, x3, S =>
    if (nI 7) ≤ x3 then
      some (nI 0, S)
    else
    if x2 < 0 then
      some (nI 0, S)
    else
    if x2 = x1 then
      some (nI 1, S)
    else
    bnd (f0_above x2 S) fun q4 S5 =>
    f0_isUnder_h4 N x1 n q4 (x3 + nI 1) S5
def f0_isUnder (N : Nat) (x0 : Int32) (x1 : Int32) (S : St) : Option (Int32 × St) :=
  f0_isUnder_h4 N x1 N x0 (nI 0) S
def f0_began   (S : St) : Option (Int32 × St) :=
  some (S.1 37 1, S)
def f0_keptAt  (x1 : Int32) (S : St) : Option (Int32 × St) :=
  if x1 < 0 then
    some ((-1), S)
  else
  if (S.1 37 1) ≤ x1 then
    some ((-1), S)
  else
  if (nI 24) ≤ x1 then
    some ((-1), S)
  else
  ckI x1 24 <|
  some (S.1 38 x1.toNatClampNeg, S)
def f0_beEmpty   (S : St) : Option (Unit × St) :=
  lt (wI S 37 1 (nI 0)) fun S1 =>
  some ((), S1)
def f0_ownBody  (x0 : Int32) (x1 : Int32) (S : St) : Option (Int32 × St) :=
  sw x0 [
      (nI 1, if x1 = (nI 2) then
        some (nI 20, S)
      else
      some (nI 0, S)),
      (nI 2, if x1 = 0 then
        some (nI 30, S)
      else
      some (nI 0, S)),
      (nI 3, if x1 = (nI 1) then
        some (nI 40, S)
      else
      some (nI 0, S)),
      (nI 4, if x1 = (nI 3) then
        some (nI 50, S)
      else
      some (nI 0, S)),
      (nI 5, if x1 = (nI 2) then
        some (nI 60, S)
      else
      some (nI 0, S)),
      (nI 6, if x1 = 0 then
        some (nI 70, S)
      else
      if x1 = (nI 2) then
        some (nI 71, S)
      else
      some (nI 0, S))]
    (some (nI 0, S))
def f0_bodyOf_j40 (N : Nat) (x1 : Int32)   (S : St) : Option (Int32 × St) :=
  sw x1 [
      (nI 0, some (nI 1, S)),
      (nI 1, some (nI 10, S)),
      (nI 2, some (nI 11, S))]
    (some (nI 2, S))
def f0_bodyOf_h4 (N : Nat) (x1 : Int32)  : Nat → Int32 → Int32 → St → Option (Int32 × St)
  | 0, _, _, _ => none
  | n + 1, x2, x3, S =>
    if (nI 7) ≤ x3 then
      f0_bodyOf_j40 N x1 S
    else
    if x2 ≤ 0 then
      f0_bodyOf_j40 N x1 S
    else
    bnd (f0_ownBody x2 x1 S) fun q3 S4 =>
    if q3 ≤ 0 then
      bnd (f0_above x2 S4) fun q6 S7 =>
      f0_bodyOf_h4 N x1 n q6 (x3 + nI 1) S7
    else
    some (q3, S4)
def f0_bodyOf (N : Nat) (x0 : Int32) (x1 : Int32) (S : St) : Option (Int32 × St) :=
  f0_bodyOf_h4 N x1 N x0 (nI 0) S
def f0_own (N : Nat) (pv : Int32 → Int32 → Int32 → Int32 → St → Option (Int32 × St)) (x1 : Int32) (x2 : Int32) (x3 : Int32) (S : St) : Option (Int32 × St) :=
  bnd (pv (S.1 37 2) x1 x2 x3 S) fun q1 S2 =>
  some (q1, S2)
def f0_perform_ (N : Nat) (pv : Int32 → Int32 → Int32 → Int32 → St → Option (Int32 × St)) (x1 : Int32) (x2 : Int32) (x3 : Int32) (S : St) : Option (Int32 × St) :=
  sw x1 [
      (nI 1, some (x2 + (S.1 37 3), S)),
      (nI 2, bnd (f0_own N pv (nI 1) x2 x3 S) fun q1 S2 =>
      bnd (f0_own N pv (nI 2) (nI 1) x3 S2) fun q3 S4 =>
      some (q1 - q3, S4)),
      (nI 10, bnd (f0_own N pv (nI 0) x2 x3 S) fun q5 S6 =>
      some (q5 * (S6.1 37 4), S6)),
      (nI 11, some (x2 ^^^ (S.1 37 3), S)),
      (nI 20, bnd (f0_above (nI 1) S) fun q7 S8 =>
      bnd (pv q7 (nI 2) x2 x3 S8) fun q9 S10 =>
      some (-q9, S10)),
      (nI 30, bnd (f0_above (nI 2) S) fun q11 S12 =>
      bnd (pv q11 (nI 0) x2 x3 S12) fun q13 S14 =>
      some (q13 + (nI 1), S14)),
      (nI 40, bnd (f0_above (nI 3) S) fun q15 S16 =>
      bnd (pv q15 (nI 1) x2 x3 S16) fun q17 S18 =>
      bnd (f0_own N pv (nI 0) (nI 2) x3 S18) fun q19 S20 =>
      some (q17 + q19, S20)),
      (nI 50, bnd (f0_above (nI 4) S) fun q21 S22 =>
      bnd (pv q21 (nI 3) x2 x3 S22) fun q23 S24 =>
      some (q23 ^^^ (nI 6), S24)),
      (nI 60, bnd (f0_above (nI 5) S) fun q25 S26 =>
      bnd (pv q25 (nI 2) x2 x3 S26) fun q27 S28 =>
      some (q27 * (nI 3), S28)),
      (nI 70, bnd (f0_above (nI 6) S) fun q29 S30 =>
      bnd (pv q29 (nI 0) (x2 + (nI 1)) x3 S30) fun q31 S32 =>
      some (q31, S32)),
      (nI 71, bnd (f0_above (nI 6) S) fun q33 S34 =>
      bnd (pv q33 (nI 2) x2 x3 S34) fun q35 S36 =>
      bnd (f0_own N pv (nI 1) (nI 1) x3 S36) fun q37 S38 =>
      some (q35 - q37, S38))]
    (some (nI 0, S))
def f0_from_j39 (N : Nat) (pv : Int32 → Int32 → Int32 → Int32 → St → Option (Int32 × St)) (x3 : Int32) (x4 : Int32) (x5 : Int32)   (S : St) : Option (Int32 × St) :=
  lt (wI S 37 1 ((S.1 37 1) + (nI 1))) fun S1 =>
  bnd (f0_perform_ N pv x5 x3 (x4 + (nI 1)) S1) fun q2 S3 =>
  some (q2, S3)
def f0_from_b (N : Nat) (pv : Int32 → Int32 → Int32 → Int32 → St → Option (Int32 × St)) (x1 : Int32) (x2 : Int32) (x3 : Int32) (x4 : Int32) (S : St) : Option (Int32 × St) :=
  if x4 ≤ (nI 20) then
    bnd (f0_bodyOf N x1 x2 S) fun q2 S3 =>
    if (nI 24) ≤ (S3.1 37 1) then
      f0_from_j39 N pv x3 x4 q2 S3
    else
    ckI (S3.1 37 1) 24 <|
    lt (wI S3 38 ((S3.1 37 1).toNatClampNeg) q2) fun S5 =>
    f0_from_j39 N pv x3 x4 q2 S5
  else
  some (nI 0, S)
def f0_from (N : Nat) : Nat → Int32 → Int32 → Int32 → Int32 → St → Option (Int32 × St)
  | 0, _, _, _, _, _ => none
  | n + 1, x1, x2, x3, x4, S => f0_from_b N (f0_from N n) x1 x2 x3 x4 S
def f0_perform (N : Nat) (x1 : Int32) (x2 : Int32) (x3 : Int32) (x4 : Int32) (S : St) : Option (Int32 × St) :=
  bnd (f0_kindOf x1 S) fun q1 S2 =>
  lt (wI S2 37 2 q1) fun S3 =>
  lt (wI S3 37 3 x1) fun S4 =>
  lt (wI S4 37 4 x2) fun S5 =>
  bnd (f0_from N 12 (S5.1 37 2) x3 x4 (nI 0) S5) fun q6 S7 =>
  some (q6, S7)
def f8_isShelf  (x1 : Int32) (S : St) : Option (Int32 × St) :=
  if x1 < 0 then
    some (nI 0, S)
  else
  if (nI 6) ≤ x1 then
    some (nI 0, S)
  else
  some (nI 1, S)
def f8_sort  (x1 : Int32) (S : St) : Option (Int32 × St) :=
  bnd (f8_isShelf x1 S) fun q1 S2 =>
  if q1 = 0 then
    some (nI 6, S2)
  else
  ckI x1 6 <|
  some (S2.1 40 x1.toNatClampNeg, S2)
def f8_holdsNothing  (x1 : Int32) (S : St) : Option (Int32 × St) :=
  bnd (f8_sort x1 S) fun q1 S2 =>
  if q1 = (nI 6) then
    some (nI 1, S2)
  else
  some (nI 0, S2)
def f8_holdsRow  (x1 : Int32) (S : St) : Option (Int32 × St) :=
  bnd (f8_sort x1 S) fun q1 S2 =>
  if (nI 4) < q1 then
    some (nI 0, S2)
  else
  some (nI 1, S2)
def f8_holdsBooleans  (x1 : Int32) (S : St) : Option (Int32 × St) :=
  bnd (f8_sort x1 S) fun q1 S2 =>
  if q1 = (nI 4) then
    some (nI 1, S2)
  else
  some (nI 0, S2)
def f8_heldOrder  (x1 : Int32) (S : St) : Option (Int32 × St) :=
  bnd (f8_isShelf x1 S) fun q1 S2 =>
  if q1 = 0 then
    some (nI 0, S2)
  else
  ckI x1 6 <|
  some (S2.1 41 x1.toNatClampNeg, S2)
def f8_length  (x1 : Int32) (S : St) : Option (Int32 × St) :=
  bnd (f8_isShelf x1 S) fun q1 S2 =>
  if q1 = 0 then
    some (nI 0, S2)
  else
  ckI x1 6 <|
  some (S2.1 42 x1.toNatClampNeg, S2)
def f8_become  (x1 : Int32) (x2 : Int32) (x3 : Int32) (x4 : Int32) (S : St) : Option (Unit × St) :=
  bnd (f8_isShelf x1 S) fun q1 S2 =>
  if q1 = 0 then
    some ((), S2)
  else
  ckI x1 6 <|
  lt (wI S2 40 x1.toNatClampNeg x2) fun S4 =>
  ckI x1 6 <|
  lt (wI S4 41 x1.toNatClampNeg x3) fun S5 =>
  ckI x1 6 <|
  lt (wI S5 42 x1.toNatClampNeg x4) fun S6 =>
  ckI x1 6 <|
  bnd (some ((), fiL S6 (44 + x1.toNatClampNeg) 60 (lN 0))) fun u9 S8 =>
  some ((), S8)
def f8_holdNothing  (x1 : Int32) (S : St) : Option (Unit × St) :=
  bnd (f8_become x1 (nI 6) (nI 0) (nI 0) S) fun q1 S2 =>
  some ((), S2)
def f8_holdOrder  (x1 : Int32) (x2 : Int32) (S : St) : Option (Unit × St) :=
  bnd (f8_become x1 (nI 5) x2 (nI 0) S) fun q1 S2 =>
  some ((), S2)
def f8_holdRow  (x1 : Int32) (x2 : Int32) (x3 : Int32) (S : St) : Option (Unit × St) :=
  bnd (f8_become x1 x2 (nI 0) x3 S) fun q1 S2 =>
  some ((), S2)
def f8_get  (x1 : Int32) (x2 : Int32) (S : St) : Option (Int64 × St) :=
  bnd (f8_isShelf x1 S) fun q1 S2 =>
  if q1 = 0 then
    some (lN 0, S2)
  else
  if x2 < 0 then
    some (lN 0, S2)
  else
  ckI x1 6 <|
  if (S2.1 42 x1.toNatClampNeg) ≤ x2 then
    some (lN 0, S2)
  else
  if (nI 60) ≤ x2 then
    some (lN 0, S2)
  else
  ckI x1 6 <|
  ckI x2 60 <|
  some (S2.2 (44 + x1.toNatClampNeg) x2.toNatClampNeg, S2)
def f8_held  (l0 : Int64) (x2 : Int32) (S : St) : Option (Int64 × St) :=
  sw x2 [
      (nI 0, some (l0.toInt32.toInt8.toInt32.toInt64, S)),
      (nI 1, some (l0.toInt32.toInt16.toInt32.toInt64, S)),
      (nI 2, some (l0.toInt32.toInt64, S)),
      (nI 3, some (l0, S))]
    (if (cmpL l0 (lN 0)) = 0 then
      some (lN 0, S)
    else
    some (lN 1, S))
def f8_set  (x1 : Int32) (x2 : Int32) (l3 : Int64) (S : St) : Option (Unit × St) :=
  bnd (f8_isShelf x1 S) fun q1 S2 =>
  if q1 = 0 then
    some ((), S2)
  else
  if x2 < 0 then
    some ((), S2)
  else
  ckI x1 6 <|
  if (S2.1 42 x1.toNatClampNeg) ≤ x2 then
    some ((), S2)
  else
  if (nI 60) ≤ x2 then
    some ((), S2)
  else
  ckI x1 6 <|
  ckI x1 6 <|
  bnd (f8_held l3 (S2.1 40 x1.toNatClampNeg) S2) fun q8 S9 =>
  ckI x2 60 <|
  lt (wL S9 (44 + x1.toNatClampNeg) x2.toNatClampNeg q8) fun S10 =>
  some ((), S10)
def f8_copy  (x1 : Int32) (x2 : Int32) (x3 : Int32) (x4 : Int32) (x5 : Int32) (S : St) : Option (Unit × St) :=
  bnd (f8_isShelf x1 S) fun q1 S2 =>
  if q1 = 0 then
    some ((), S2)
  else
  bnd (f8_isShelf x3 S2) fun q4 S5 =>
  if q4 = 0 then
    some ((), S5)
  else
  if x2 < 0 then
    some ((), S5)
  else
  if x4 < 0 then
    some ((), S5)
  else
  if 0 ≤ x5 then
    if ((nI 60) - x2) < x5 then
      some ((), S5)
    else
    if ((nI 60) - x4) < x5 then
      some ((), S5)
    else
    ckI x1 6 <|
    ckI x3 6 <|
    ckC x2 x4 x5 60 60 <|
    lt (cpL S5 (44 + x1.toNatClampNeg) x2.toNatClampNeg (44 + x3.toNatClampNeg) x4.toNatClampNeg x5.toNatClampNeg) fun S14 =>
    some ((), S14)
  else
  some ((), S5)
def f3_sortByBits_h12 (N : Nat) (a0 : Nat) (x2 : Int32) (k4 : Int32 → Int32 → St → Option (Unit × St)) : Nat → Int32 → Int32 → St → Option (Unit × St)
  | 0, _, _, _ => none
  | n + 1, x1, x3, S =>
    if (S.1 a0 0) ≤ x3 then
      k4 x1 (x2 + nI 1) S
    else
    if (nI 12) ≤ x3 then
      k4 x1 (x2 + nI 1) S
    else
    ckI x3 12 <|
    if (S.1 (a0 + 1) x3.toNatClampNeg) = x2 then
      if (nI 12) ≤ x1 then
        f3_sortByBits_h12 N a0 x2 k4 n x1 (x3 + nI 1) S
      else
      ckI x1 12 <|
      lt (wI S (a0 + 3) x1.toNatClampNeg x3) fun S5 =>
      f3_sortByBits_h12 N a0 x2 k4 n (x1 + nI 1) (x3 + nI 1) S5
    else
    f3_sortByBits_h12 N a0 x2 k4 n x1 (x3 + nI 1) S
def f3_sortByBits_h4 (N : Nat) (a0 : Nat)  : Nat → Int32 → Int32 → St → Option (Unit × St)
  | 0, _, _, _ => none
  | n + 1, x1, x2, S =>
    if (nI 6) < x2 then
      some ((), S)
    else
    f3_sortByBits_h12 N a0 x2 (f3_sortByBits_h4 N a0 n) N x1 (nI 0) S
def f3_sortByBits (N : Nat) (a0 : Nat) (S : St) : Option (Unit × St) :=
  f3_sortByBits_h4 N a0 N (nI 0) (nI 1) S
def f3_bitsOf  (a0 : Nat) (x1 : Int32) (S : St) : Option (Int32 × St) :=
  if x1 < 0 then
    some (nI 0, S)
  else
  if (S.1 a0 0) ≤ x1 then
    some (nI 0, S)
  else
  if (nI 12) ≤ x1 then
    some (nI 0, S)
  else
  ckI x1 12 <|
  some (S.1 (a0 + 1) x1.toNatClampNeg, S)
def f3_giveCodes_h15 (N : Nat) (a0 : Nat)  : Nat → Int32 → Int32 → Int32 → St → Option (Unit × St)
  | 0, _, _, _, _ => none
  | n + 1, x1, x2, x3, S =>
    if (S.1 a0 0) ≤ x3 then
      some ((), S)
    else
    if (nI 12) ≤ x3 then
      some ((), S)
    else
    ckI x3 12 <|
    lt (S.1 (a0 + 3) x3.toNatClampNeg) fun v3 =>
    bnd (f3_bitsOf a0 v3 S) fun q4 S5 =>
    lt (shlI x1 (q4 - x2)) fun v6 =>
    bnd (f3_bitsOf a0 v3 S5) fun q7 S8 =>
    if v3 < 0 then
      f3_giveCodes_h15 N a0 n (v6 + nI 1) q7 (x3 + nI 1) S8
    else
    if (nI 12) ≤ v3 then
      f3_giveCodes_h15 N a0 n (v6 + nI 1) q7 (x3 + nI 1) S8
    else
    ckI v3 12 <|
    lt (wI S8 (a0 + 2) v3.toNatClampNeg v6) fun S11 =>
    f3_giveCodes_h15 N a0 n (v6 + nI 1) q7 (x3 + nI 1) S11
def f3_giveCodes (N : Nat) (a0 : Nat) (S : St) : Option (Unit × St) :=
  ckI (nI 0) 12 <|
  bnd (f3_bitsOf a0 (S.1 (a0 + 3) (nI 0).toNatClampNeg) S) fun q1 S2 =>
  f3_giveCodes_h15 N a0 N (nI 0) q1 (nI 0) S2
def f3_fewestFor  (a0 : Nat) (x1 : Int32) (S : St) : Option (Int32 × St) :=
  if x1 < 0 then
    some (nI 1000, S)
  else
  if (nI 15) ≤ x1 then
    some (nI 1000, S)
  else
  ckI x1 15 <|
  some (S.1 (a0 + 10) x1.toNatClampNeg, S)
def f3_countFewest_h45 (N : Nat) (a0 : Nat) (x1 : Int32) (k11 : Int32 → St → Option (Unit × St)) : Nat → Int32 → St → Option (Unit × St)
  | 0, _, _ => none
  | n + 1, x2, S =>
    if (S.1 a0 0) ≤ x2 then
      k11 (x1 + nI 1) S
    else
    ckI x1 15 <|
    bnd (f3_bitsOf a0 x2 S) fun q2 S3 =>
    bnd (f3_fewestFor a0 (x1 - q2) S3) fun q4 S5 =>
    ckI x1 15 <|
    lt (wI S5 (a0 + 10) x1.toNatClampNeg (minI (S.1 (a0 + 10) x1.toNatClampNeg) ((nI 1) + q4))) fun S6 =>
    f3_countFewest_h45 N a0 x1 k11 n (x2 + nI 1) S6
def f3_countFewest_j42 (N : Nat) (a0 : Nat) (x1 : Int32) (k11 : Int32 → St → Option (Unit × St)) (xs0 : Int32) (xs1 : Int32) (S : St) : Option (Unit × St) :=
  ckI xs1 15 <|
  lt (wI S (a0 + 10) xs1.toNatClampNeg xs0) fun S1 =>
  f3_countFewest_h45 N a0 x1 k11 N (nI 1) S1
def f3_countFewest_h11 (N : Nat) (a0 : Nat)  : Nat → Int32 → St → Option (Unit × St)
  | 0, _, _ => none
  | n + 1, x1, S =>
    if (nI 15) ≤ x1 then
      some ((), S)
    else
    ckI (nI 0) 12 <|
    if (S.1 (a0 + 1) (nI 0).toNatClampNeg) = x1 then
      f3_countFewest_j42 N a0 x1 (f3_countFewest_h11 N a0 n) (nI 1) x1 S
    else
    f3_countFewest_j42 N a0 x1 (f3_countFewest_h11 N a0 n) (nI 1000) x1 S
def f3_countFewest (N : Nat) (a0 : Nat) (S : St) : Option (Unit × St) :=
  ckI (nI 0) 15 <|
  lt (wI S (a0 + 10) ((nI 0).toNatClampNeg) (nI 1000)) fun S1 =>
  f3_countFewest_h11 N a0 N (nI 1) S1
def f3_settle (N : Nat) (a0 : Nat) (S : St) : Option (Unit × St) :=
  bnd (f3_sortByBits N a0 S) fun q1 S2 =>
  bnd (f3_giveCodes N a0 S2) fun q3 S4 =>
  bnd (f3_countFewest N a0 S4) fun q5 S6 =>
  some ((), S6)
def f3_beMadeOf_h11 (N : Nat) (a0 : Nat)  : Nat → Int32 → Int32 → St → Option (Unit × St)
  | 0, _, _, _ => none
  | n + 1, x2, x3, S =>
    if x3 < 0 then
      bnd (f3_settle N a0 S) fun q2 S3 =>
      some ((), S3)
    else
    ckI x3 12 <|
    lt (wI S (a0 + 1) x3.toNatClampNeg (remI x2 (nI 10))) fun S4 =>
    lt (x2 / (nI 10)) fun v5 =>
    f3_beMadeOf_h11 N a0 n v5 (x3 + (-1)) S4
def f3_beMadeOf (N : Nat) (a0 : Nat) (x1 : Int32) (S : St) : Option (Unit × St) :=
  lt (wI S a0 0 (nI 8)) fun S1 =>
  f3_beMadeOf_h11 N a0 N x1 (nI 7) S1
def f3_beLike_h42 (N : Nat) (a0 : Nat) (a1 : Nat)  : Nat → Int32 → St → Option (Unit × St)
  | 0, _, _ => none
  | n + 1, x2, S =>
    if (nI 4) ≤ x2 then
      some ((), S)
    else
    ckI x2 4 <|
    ckI x2 4 <|
    ckC (nI 0) (nI 0) (nI 4) 4 4 <|
    lt (cpI S (a1 + 5 + x2.toNatClampNeg) ((nI 0).toNatClampNeg) (a0 + 5 + x2.toNatClampNeg) ((nI 0).toNatClampNeg) ((nI 4).toNatClampNeg)) fun S4 =>
    f3_beLike_h42 N a0 a1 n (x2 + nI 1) S4
def f3_beLike (N : Nat) (a0 : Nat) (a1 : Nat) (S : St) : Option (Unit × St) :=
  lt (wI S a0 0 (S.1 a1 0)) fun S1 =>
  ckC (nI 0) (nI 0) (nI 12) 12 12 <|
  lt (cpI S1 (a1 + 1) ((nI 0).toNatClampNeg) (a0 + 1) ((nI 0).toNatClampNeg) ((nI 12).toNatClampNeg)) fun S2 =>
  ckC (nI 0) (nI 0) (nI 4) 4 4 <|
  lt (cpI S2 (a1 + 9) ((nI 0).toNatClampNeg) (a0 + 9) ((nI 0).toNatClampNeg) ((nI 4).toNatClampNeg)) fun S3 =>
  f3_beLike_h42 N a0 a1 N (nI 0) S3
def f3_sum_h4 (N : Nat) (a0 : Nat)  : Nat → Int32 → Int32 → St → Option (Int32 × St)
  | 0, _, _, _ => none
  | n + 1, x1, x2, S =>
    if (S.1 a0 0) ≤ x2 then
      some (x1, S)
    else
    bnd (f3_bitsOf a0 x2 S) fun q2 S3 =>
    lt (x1 + (shrI (nI 64) q2)) fun v4 =>
    f3_sum_h4 N a0 n v4 (x2 + nI 1) S3
def f3_sum (N : Nat) (a0 : Nat) (S : St) : Option (Int32 × St) :=
  f3_sum_h4 N a0 N (nI 0) (nI 0) S
def f3_beHelped_j77 (N : Nat) (a0 : Nat)   (S : St) : Option (Unit × St) :=
  bnd (f3_settle N a0 S) fun q1 S2 =>
  some ((), S2)
def f3_beHelped_h7 (N : Nat) (a0 : Nat) (a2 : Nat)  : Nat → Int32 → St → Option (Unit × St)
  | 0, _, _ => none
  | n + 1, x3, S =>
    if (S.1 a0 0) ≤ x3 then
      f3_beHelped_j77 N a0 S
    else
    if (nI 12) ≤ x3 then
      f3_beHelped_j77 N a0 S
    else
    bnd (f6_holds N a2 x3 S) fun q3 S4 =>
    if q3 = 0 then
      f3_beHelped_h7 N a0 a2 n (x3 + nI 1) S4
    else
    ckI x3 12 <|
    if (S4.1 (a0 + 1) x3.toNatClampNeg) ≤ (nI 1) then
      f3_beHelped_h7 N a0 a2 n (x3 + nI 1) S4
    else
    bnd (f3_sum N a0 S4) fun q7 S8 =>
    ckI x3 12 <|
    if (nI 64) < (q7 + (shrI (nI 64) (S8.1 (a0 + 1) x3.toNatClampNeg))) then
      f3_beHelped_h7 N a0 a2 n (x3 + nI 1) S8
    else
    ckI x3 12 <|
    ckI x3 12 <|
    lt (wI S8 (a0 + 1) x3.toNatClampNeg ((S8.1 (a0 + 1) x3.toNatClampNeg) - (nI 1))) fun S10 =>
    f3_beHelped_h7 N a0 a2 n (x3 + nI 1) S10
def f3_beHelped (N : Nat) (a0 : Nat) (a1 : Nat) (a2 : Nat) (S : St) : Option (Unit × St) :=
  bnd (f3_beLike N a0 a1 S) fun q1 S2 =>
  f3_beHelped_h7 N a0 a2 N (nI 0) S2
def f3_beTaught_j68 (N : Nat) (a0 : Nat) (x3 : Int32) (x4 : Int32) (x5 : Int32) (x6 : Int32)   (S : St) : Option (Unit × St) :=
  ckI x6 4 <|
  lt (wI S (a0 + 9) x6.toNatClampNeg ((x4 - x3) + (nI 1))) fun S1 =>
  ckI (S1.1 a0 0) 12 <|
  lt (wI S1 (a0 + 1) ((S1.1 a0 0).toNatClampNeg) x5) fun S2 =>
  lt (wI S2 a0 0 ((S2.1 a0 0) + (nI 1))) fun S3 =>
  bnd (f3_settle N a0 S3) fun q4 S5 =>
  some ((), S5)
def f3_beTaught_h29 (N : Nat) (a0 : Nat) (a2 : Nat) (x3 : Int32) (x4 : Int32) (x5 : Int32) (x6 : Int32)  : Nat → Int32 → St → Option (Unit × St)
  | 0, _, _ => none
  | n + 1, x7, S =>
    if (x4 - x3) < x7 then
      f3_beTaught_j68 N a0 x3 x4 x5 x6 S
    else
    if (nI 4) ≤ x7 then
      f3_beTaught_j68 N a0 x3 x4 x5 x6 S
    else
    ckI x6 4 <|
    bnd (f6_orderAt a2 (x3 + x7) S) fun q4 S5 =>
    ckI x7 4 <|
    lt (wI S5 (a0 + 5 + x6.toNatClampNeg) x7.toNatClampNeg q4) fun S6 =>
    f3_beTaught_h29 N a0 a2 x3 x4 x5 x6 n (x7 + nI 1) S6
def f3_beTaught (N : Nat) (a0 : Nat) (a1 : Nat) (a2 : Nat) (x3 : Int32) (x4 : Int32) (x5 : Int32) (S : St) : Option (Unit × St) :=
  bnd (f3_beLike N a0 a1 S) fun q1 S2 =>
  lt ((S2.1 a0 0) - (nI 8)) fun v3 =>
  if v3 < 0 then
    some ((), S2)
  else
  if v3 < (nI 4) then
    f3_beTaught_h29 N a0 a2 x3 x4 x5 v3 N (nI 0) S2
  else
  some ((), S2)
def f3_howManyOrders  (a0 : Nat) (S : St) : Option (Int32 × St) :=
  some (S.1 a0 0, S)
def f3_has  (a0 : Nat) (x1 : Int32) (S : St) : Option (Int32 × St) :=
  if x1 < 0 then
    some (nI 0, S)
  else
  if (S.1 a0 0) ≤ x1 then
    some (nI 0, S)
  else
  some (nI 1, S)
def f3_codeOf  (a0 : Nat) (x1 : Int32) (S : St) : Option (Int32 × St) :=
  if x1 < 0 then
    some (nI 0, S)
  else
  if (S.1 a0 0) ≤ x1 then
    some (nI 0, S)
  else
  if (nI 12) ≤ x1 then
    some (nI 0, S)
  else
  ckI x1 12 <|
  some (S.1 (a0 + 2) x1.toNatClampNeg, S)
def f3_orderWith_h2 (N : Nat) (a0 : Nat) (x1 : Int32) (x2 : Int32)  : Nat → Int32 → St → Option (Int32 × St)
  | 0, _, _ => none
  | n + 1, x3, S =>
    if (S.1 a0 0) ≤ x3 then
      some ((-1), S)
    else
    bnd (f3_bitsOf a0 x3 S) fun q2 S3 =>
    if q2 = x2 then
      bnd (f3_codeOf a0 x3 S3) fun q5 S6 =>
      if q5 = x1 then
        some (x3, S6)
      else
      f3_orderWith_h2 N a0 x1 x2 n (x3 + nI 1) S6
    else
    f3_orderWith_h2 N a0 x1 x2 n (x3 + nI 1) S3
def f3_orderWith (N : Nat) (a0 : Nat) (x1 : Int32) (x2 : Int32) (S : St) : Option (Int32 × St) :=
  f3_orderWith_h2 N a0 x1 x2 N (nI 0) S
def f3_writtenLength  (a0 : Nat) (x1 : Int32) (S : St) : Option (Int32 × St) :=
  lt (x1 - (nI 8)) fun v1 =>
  if v1 < 0 then
    some (nI 1, S)
  else
  if (nI 4) ≤ v1 then
    some (nI 1, S)
  else
  ckI v1 4 <|
  some (S.1 (a0 + 9) v1.toNatClampNeg, S)
def f3_written  (a0 : Nat) (x1 : Int32) (x2 : Int32) (S : St) : Option (Int32 × St) :=
  lt (x1 - (nI 8)) fun v1 =>
  if v1 < 0 then
    some (x1, S)
  else
  if v1 < (nI 4) then
    if x2 < 0 then
      some (nI 0, S)
    else
    if (nI 4) ≤ x2 then
      some (nI 0, S)
    else
    ckI v1 4 <|
    ckI x2 4 <|
    some (S.1 (a0 + 5 + v1.toNatClampNeg) x2.toNatClampNeg, S)
  else
  some (x1, S)
def f3_sizeOf_h14 (N : Nat) (a0 : Nat) (a1 : Nat)  : Nat → Int32 → Int32 → St → Option (Int32 × St)
  | 0, _, _, _ => none
  | n + 1, x2, x3, S =>
    bnd (f6_length a1 S) fun q1 S2 =>
    if q1 ≤ x3 then
      some (x2, S2)
    else
    bnd (f6_orderAt a1 x3 S2) fun q4 S5 =>
    bnd (f3_has a0 q4 S5) fun q6 S7 =>
    if q6 = 0 then
      some ((-5), S7)
    else
    bnd (f6_orderAt a1 x3 S7) fun q9 S10 =>
    bnd (f3_bitsOf a0 q9 S10) fun q11 S12 =>
    lt (x2 + q11) fun v13 =>
    f3_sizeOf_h14 N a0 a1 n v13 (x3 + nI 1) S12
def f3_sizeOf (N : Nat) (a0 : Nat) (a1 : Nat) (S : St) : Option (Int32 × St) :=
  bnd (f6_isClosed a1 S) fun q1 S2 =>
  if q1 = 0 then
    some ((-5), S2)
  else
  f3_sizeOf_h14 N a0 a1 N (nI 0) (nI 0) S2
def f3_rankOf_j37 (N : Nat) (a0 : Nat)   (S : St) : Option (Int32 × St) :=
  some (S.1 a0 0, S)
def f3_rankOf_h2 (N : Nat) (a0 : Nat) (x1 : Int32)  : Nat → Int32 → St → Option (Int32 × St)
  | 0, _, _ => none
  | n + 1, x2, S =>
    if (S.1 a0 0) ≤ x2 then
      f3_rankOf_j37 N a0 S
    else
    if (nI 12) ≤ x2 then
      f3_rankOf_j37 N a0 S
    else
    ckI x2 12 <|
    if (S.1 (a0 + 3) x2.toNatClampNeg) = x1 then
      some (x2, S)
    else
    f3_rankOf_h2 N a0 x1 n (x2 + nI 1) S
def f3_rankOf (N : Nat) (a0 : Nat) (x1 : Int32) (S : St) : Option (Int32 × St) :=
  f3_rankOf_h2 N a0 x1 N (nI 0) S
def f3_firstThatFits_j73 (N : Nat) (a0 : Nat) (x2 : Int32) (x3 : Int32) (x4 : Int32) (x5 : Int32) (k7 : Int32 → St → Option (Int32 × St)) (xs0 : Int32) (S : St) : Option (Int32 × St) :=
  if x3 < xs0 then
    k7 (x4 + nI 1) S
  else
  some (x5, S)
def f3_firstThatFits_h7 (N : Nat) (a0 : Nat) (x2 : Int32) (x3 : Int32)  : Nat → Int32 → St → Option (Int32 × St)
  | 0, _, _ => none
  | n + 1, x4, S =>
    if (S.1 a0 0) ≤ x4 then
      some ((-1), S)
    else
    if (nI 12) ≤ x4 then
      some ((-1), S)
    else
    ckI x4 12 <|
    lt (S.1 (a0 + 3) x4.toNatClampNeg) fun v3 =>
    bnd (f3_bitsOf a0 v3 S) fun q4 S5 =>
    lt (x2 - q4) fun v6 =>
    if v3 = 0 then
      if v6 = 0 then
        f3_firstThatFits_j73 N a0 x2 x3 x4 v3 (f3_firstThatFits_h7 N a0 x2 x3 n) (nI 1) S5
      else
      f3_firstThatFits_j73 N a0 x2 x3 x4 v3 (f3_firstThatFits_h7 N a0 x2 x3 n) (nI 1000) S5
    else
    bnd (f3_fewestFor a0 v6 S5) fun q8 S9 =>
    f3_firstThatFits_j73 N a0 x2 x3 x4 v3 (f3_firstThatFits_h7 N a0 x2 x3 n) ((nI 1) + q8) S9
def f3_firstThatFits (N : Nat) (a0 : Nat) (x1 : Int32) (x2 : Int32) (x3 : Int32) (S : St) : Option (Int32 × St) :=
  lt (maxI x1 (nI 0)) fun v1 =>
  f3_firstThatFits_h7 N a0 x2 x3 N v1 S
def f3_fill_h8 (N : Nat) (a0 : Nat) (a1 : Nat)  : Nat → Int32 → Int32 → St → Option (Unit × St)
  | 0, _, _, _ => none
  | n + 1, x3, x4, S =>
    if (nI 12) ≤ x4 then
      some ((), S)
    else
    if x3 ≤ 0 then
      some ((), S)
    else
    bnd (f3_firstThatFits N a0 (nI 0) x3 ((nI 12) - x4) S) fun q3 S4 =>
    if 0 ≤ q3 then
      bnd (f6_push a1 q3 S4) fun q6 S7 =>
      bnd (f3_bitsOf a0 q3 S7) fun q8 S9 =>
      lt (x3 - q8) fun v10 =>
      f3_fill_h8 N a0 a1 n v10 (x4 + nI 1) S9
    else
    some ((), S4)
def f3_fill (N : Nat) (a0 : Nat) (a1 : Nat) (x2 : Int32) (S : St) : Option (Unit × St) :=
  bnd (f6_length a1 S) fun q1 S2 =>
  f3_fill_h8 N a0 a1 N x2 q1 S2
def f3_becomeNextOfSize_h10 (N : Nat) (a0 : Nat) (a1 : Nat) (x2 : Int32)  : Nat → Int32 → Int32 → St → Option (Int32 × St)
  | 0, _, _, _ => none
  | n + 1, x3, x4, S =>
    if x4 < 0 then
      some (nI 0, S)
    else
    bnd (f6_orderAt a1 x4 S) fun q2 S3 =>
    bnd (f3_bitsOf a0 q2 S3) fun q4 S5 =>
    lt (x3 - q4) fun v6 =>
    bnd (f3_rankOf N a0 q2 S5) fun q7 S8 =>
    bnd (f3_firstThatFits N a0 (q7 + (nI 1)) (x2 - v6) ((nI 12) - x4) S8) fun q9 S10 =>
    if q9 < 0 then
      f3_becomeNextOfSize_h10 N a0 a1 x2 n v6 (x4 + (-1)) S10
    else
    bnd (f6_cut a1 x4 S10) fun q12 S13 =>
    bnd (f6_push a1 q9 S13) fun q14 S15 =>
    bnd (f3_bitsOf a0 q9 S15) fun q16 S17 =>
    bnd (f3_fill N a0 a1 ((x2 - v6) - q16) S17) fun q18 S19 =>
    some (nI 1, S19)
def f3_becomeNextOfSize (N : Nat) (a0 : Nat) (a1 : Nat) (x2 : Int32) (S : St) : Option (Int32 × St) :=
  bnd (f6_length a1 S) fun q1 S2 =>
  lt (q1 - (nI 1)) fun v3 =>
  f3_becomeNextOfSize_h10 N a0 a1 x2 N x2 v3 S2
def f3_follow_h54 (N : Nat) (a0 : Nat) (a1 : Nat) (x2 : Int32)  : Nat → Int32 → St → Option (Int32 × St)
  | 0, _, _ => none
  | n + 1, x4, S =>
    if x2 < x4 then
      some (nI 0, S)
    else
    bnd (f3_fewestFor a0 x4 S) fun q2 S3 =>
    if (nI 12) < q2 then
      f3_follow_h54 N a0 a1 x2 n (x4 + nI 1) S3
    else
    bnd (f6_beEmpty a1 S3) fun q5 S6 =>
    bnd (f3_fill N a0 a1 x4 S6) fun q7 S8 =>
    some (x4, S8)
def f3_follow_j49 (N : Nat) (a0 : Nat) (a1 : Nat) (x2 : Int32) (x3 : Int32)   (S : St) : Option (Int32 × St) :=
  lt (x3 + (nI 1)) fun v1 =>
  f3_follow_h54 N a0 a1 x2 N v1 S
def f3_follow_j16 (N : Nat) (a0 : Nat) (a1 : Nat) (x2 : Int32)  (xs0 : Int32) (S : St) : Option (Int32 × St) :=
  if xs0 < 0 then
    some (nI 0, S)
  else
  if x2 < xs0 then
    some (nI 0, S)
  else
  if xs0 ≤ (nI 14) then
    if xs0 ≤ 0 then
      f3_follow_j49 N a0 a1 x2 xs0 S
    else
    bnd (f3_becomeNextOfSize N a0 a1 xs0 S) fun q5 S6 =>
    if q5 = 0 then
      f3_follow_j49 N a0 a1 x2 xs0 S6
    else
    some (xs0, S6)
  else
  some (nI 0, S)
def f3_follow (N : Nat) (a0 : Nat) (a1 : Nat) (x2 : Int32) (S : St) : Option (Int32 × St) :=
  bnd (f6_length a1 S) fun q1 S2 =>
  if q1 = 0 then
    f3_follow_j16 N a0 a1 x2 (nI 0) S2
  else
  bnd (f3_sizeOf N a0 a1 S2) fun q4 S5 =>
  f3_follow_j16 N a0 a1 x2 q4 S5
def f4_writeOut_h2 (N : Nat) (a1 : Nat) (x2 : Int32)  : Nat → Int32 → St → Option (Unit × St)
  | 0, _, _ => none
  | n + 1, x3, S =>
    bnd (f3_writtenLength a1 x2 S) fun q1 S2 =>
    if q1 ≤ x3 then
      some ((), S2)
    else
    if (nI 48) ≤ (S2.1 6 1) then
      some ((), S2)
    else
    bnd (f3_written a1 x2 x3 S2) fun q5 S6 =>
    ckI (S2.1 6 1) 48 <|
    lt (wI S6 7 ((S2.1 6 1).toNatClampNeg) q5) fun S7 =>
    lt (wI S7 6 1 ((S7.1 6 1) + (nI 1))) fun S8 =>
    f4_writeOut_h2 N a1 x2 n (x3 + nI 1) S8
def f4_writeOut (N : Nat) (a1 : Nat) (x2 : Int32) (S : St) : Option (Unit × St) :=
  f4_writeOut_h2 N a1 x2 N (nI 0) S
def f4_wasHereBefore_j67  (x1 : Int32)  (xs0 : Int32) (S : St) : Option (Int32 × St) :=
  ckI x1 20000 <|
  lt (wI S 9 x1.toNatClampNeg (S.1 6 10)) fun S1 =>
  ckB xs0 <|
  some (xs0, S1)
def f4_wasHereBefore   (S : St) : Option (Int32 × St) :=
  if (S.1 6 3) < 0 then
    some (nI 0, S)
  else
  if (nI 20) ≤ (S.1 6 3) then
    some (nI 0, S)
  else
  if (S.1 6 4) < 0 then
    some (nI 0, S)
  else
  if (S.1 6 4) < (nI 1000) then
    lt (((S.1 6 3) * (nI 1000)) + (S.1 6 4)) fun v5 =>
    ckI v5 20000 <|
    if (S.1 9 v5.toNatClampNeg) = (S.1 6 10) then
      f4_wasHereBefore_j67 v5 (nI 1) S
    else
    f4_wasHereBefore_j67 v5 (nI 0) S
  else
  some (nI 0, S)
def f4_start_h8 (N : Nat) (a1 : Nat) (a2 : Nat) (x3 : Int32)  : Nat → Int32 → St → Option (Unit × St)
  | 0, _, _ => none
  | n + 1, x4, S =>
    bnd (f6_length a2 S) fun q1 S2 =>
    if q1 ≤ x4 then
      lt (wI S2 6 2 (nI 0)) fun S4 =>
      lt (wI S4 6 3 x3) fun S5 =>
      lt (wI S5 6 4 (nI 0)) fun S6 =>
      lt (wI S6 6 5 (nI 0)) fun S7 =>
      lt (wI S7 6 6 (nI 2)) fun S8 =>
      lt (wI S8 6 8 (nI 0)) fun S9 =>
      lt (wI S9 6 10 ((S9.1 6 10) + (nI 1))) fun S10 =>
      bnd (f4_wasHereBefore S10) fun q11 S12 =>
      some ((), S12)
    else
    bnd (f6_orderAt a2 x4 S2) fun q13 S14 =>
    bnd (f4_writeOut N a1 q13 S14) fun q15 S16 =>
    f4_start_h8 N a1 a2 x3 n (x4 + nI 1) S16
def f4_start (N : Nat) (a1 : Nat) (a2 : Nat) (x3 : Int32) (S : St) : Option (Unit × St) :=
  lt (wI S 6 1 (nI 0)) fun S1 =>
  f4_start_h8 N a1 a2 x3 N (nI 0) S1
def f4_print   (S : St) : Option (Unit × St) :=
  if (S.1 6 8) < (nI 8) then
    ckI (S.1 6 8) 8 <|
    lt (wI S 8 ((S.1 6 8).toNatClampNeg) (S.1 6 3)) fun S2 =>
    lt (wI S2 6 8 ((S2.1 6 8) + (nI 1))) fun S3 =>
    lt (wI S3 6 10 ((S3.1 6 10) + (nI 1))) fun S4 =>
    some ((), S4)
  else
  lt (wI S 6 6 (nI 0)) fun S5 =>
  some ((), S5)
def f4_swap   (S : St) : Option (Unit × St) :=
  lt (S.1 6 3) fun v1 =>
  lt (wI S 6 3 (S.1 6 4)) fun S2 =>
  lt (wI S2 6 4 v1) fun S3 =>
  some ((), S3)
def f4_goBack   (S : St) : Option (Unit × St) :=
  if (S.1 6 3) < (nI 20) then
    lt (wI S 6 2 (nI 0)) fun S2 =>
    bnd (f4_wasHereBefore S2) fun q3 S4 =>
    if q3 = 0 then
      some ((), S4)
    else
    lt (wI S4 6 6 (nI 1)) fun S6 =>
    some ((), S6)
  else
  some ((), S)
def f4_doOrder  (x1 : Int32) (S : St) : Option (Unit × St) :=
  lt (wI S 6 2 ((S.1 6 2) + (nI 1))) fun S1 =>
  sw x1 [
      (nI 1, lt (wI S1 6 3 (remI ((S1.1 6 3) + (nI 1)) (nI 1000))) fun S2 =>
      some ((), S2)),
      (nI 2, lt (wI S1 6 3 (remI ((S1.1 6 3) * (nI 2)) (nI 1000))) fun S3 =>
      some ((), S3)),
      (nI 3, bnd (f4_print S1) fun q4 S5 =>
      some ((), S5)),
      (nI 4, bnd (f4_swap S1) fun q6 S7 =>
      some ((), S7)),
      (nI 5, lt (wI S1 6 3 (remI ((S1.1 6 3) + (S1.1 6 4)) (nI 1000))) fun S8 =>
      some ((), S8)),
      (nI 6, bnd (f4_goBack S1) fun q9 S10 =>
      some ((), S10)),
      (nI 7, lt (wI S1 6 2 ((S1.1 6 2) + (remI (S1.1 6 3) (nI 2)))) fun S11 =>
      some ((), S11))]
    (lt (wI S1 6 6 (nI 0)) fun S12 =>
    some ((), S12))
def f4_goOn_j59 (N : Nat) (x1 : Int32) (k0 : St → Option (Unit × St)) (xs0 : Int32) (S : St) : Option (Unit × St) :=
  bnd (f4_doOrder xs0 S) fun q1 S2 =>
  if (S2.1 6 6) = (nI 2) then
    if (S2.1 6 2) < (S2.1 6 1) then
      k0 S2
    else
    lt (wI S2 6 6 (nI 0)) fun S5 =>
    k0 S5
  else
  k0 S2
def f4_goOn_j58 (N : Nat) (x1 : Int32) (k0 : St → Option (Unit × St))  (S : St) : Option (Unit × St) :=
  f4_goOn_j59 N x1 k0 (nI 0) S
def f4_goOn_h0 (N : Nat) (x1 : Int32)  : Nat → St → Option (Unit × St)
  | 0, _ => none
  | n + 1, S =>
    if x1 ≤ (S.1 6 5) then
      some ((), S)
    else
    if (S.1 6 6) = (nI 2) then
      lt (wI S 6 5 ((S.1 6 5) + (nI 1))) fun S3 =>
      if (S3.1 6 2) < 0 then
        f4_goOn_j58 N x1 (f4_goOn_h0 N x1 n) S3
      else
      if (nI 48) ≤ (S3.1 6 2) then
        f4_goOn_j58 N x1 (f4_goOn_h0 N x1 n) S3
      else
      ckI (S3.1 6 2) 48 <|
      f4_goOn_j59 N x1 (f4_goOn_h0 N x1 n) (S3.1 7 (S3.1 6 2).toNatClampNeg) S3
    else
    some ((), S)
def f4_goOn (N : Nat) (x1 : Int32) (S : St) : Option (Unit × St) :=
  f4_goOn_h0 N x1 N S
def f4_state   (S : St) : Option (Int32 × St) :=
  some (S.1 6 6, S)
def f4_steps   (S : St) : Option (Int32 × St) :=
  some (S.1 6 5, S)
def f4_valueA   (S : St) : Option (Int32 × St) :=
  some (S.1 6 3, S)
def f4_valueB   (S : St) : Option (Int32 × St) :=
  some (S.1 6 4, S)
def f4_saidCount   (S : St) : Option (Int32 × St) :=
  some (S.1 6 8, S)
def f4_saidAt  (x1 : Int32) (S : St) : Option (Int32 × St) :=
  if x1 < 0 then
    some ((-1), S)
  else
  if (S.1 6 8) ≤ x1 then
    some ((-1), S)
  else
  if (nI 8) ≤ x1 then
    some ((-1), S)
  else
  ckI x1 8 <|
  some (S.1 8 x1.toNatClampNeg, S)
def f4_saidSum_h4 (N : Nat)   : Nat → Int32 → Int32 → St → Option (Int32 × St)
  | 0, _, _, _ => none
  | n + 1, x1, x2, S =>
    if (S.1 6 8) ≤ x2 then
      some (x1, S)
    else
    bnd (f4_saidAt x2 S) fun q2 S3 =>
    lt (x1 + q2) fun v4 =>
    f4_saidSum_h4 N n v4 (x2 + nI 1) S3
def f4_saidSum (N : Nat)  (S : St) : Option (Int32 × St) :=
  f4_saidSum_h4 N N (nI 0) (nI 0) S
def f4_likeTold_h2 (N : Nat)   : Nat → Int32 → St → Option (Int32 × St)
  | 0, _, _ => none
  | n + 1, x2, S =>
    if (S.1 6 8) ≤ x2 then
      some (x2, S)
    else
    bnd (f10_length S) fun q2 S3 =>
    if q2 ≤ x2 then
      some (x2, S3)
    else
    bnd (f4_saidAt x2 S3) fun q5 S6 =>
    bnd (f10_numberAt x2 S6) fun q7 S8 =>
    if q5 = q7 then
      f4_likeTold_h2 N n (x2 + nI 1) S8
    else
    some (x2, S8)
def f4_likeTold (N : Nat)  (S : St) : Option (Int32 × St) :=
  f4_likeTold_h2 N N (nI 0) S
def f4_saidJust (N : Nat)  (S : St) : Option (Int32 × St) :=
  bnd (f10_length S) fun q1 S2 =>
  if (S.1 6 8) = q1 then
    bnd (f4_likeTold N S2) fun q4 S5 =>
    if q4 = (S5.1 6 8) then
      some (nI 1, S5)
    else
    some (nI 0, S5)
  else
  some (nI 0, S2)
def f4_tell   (S : St) : Option (Unit × St) :=
  if ((nI 4) + (nI 8)) ≤ (nI 12) then
    ckI (nI 0) 12 <|
    lt (wI S 10 ((nI 0).toNatClampNeg) (S.1 6 5)) fun S2 =>
    ckI (nI 1) 12 <|
    lt (wI S2 10 ((nI 1).toNatClampNeg) (S2.1 6 3)) fun S3 =>
    ckI (nI 2) 12 <|
    lt (wI S3 10 ((nI 2).toNatClampNeg) (S3.1 6 4)) fun S4 =>
    ckI (nI 3) 12 <|
    lt (wI S4 10 ((nI 3).toNatClampNeg) (S4.1 6 8)) fun S5 =>
    ckC (nI 0) (nI 4) (nI 8) 8 12 <|
    lt (cpI S5 8 ((nI 0).toNatClampNeg) 10 ((nI 4).toNatClampNeg) ((nI 8).toNatClampNeg)) fun S6 =>
    some ((), S6)
  else
  some ((), S)
def f1_begin  (a0 : Nat) (x1 : Int32) (S : St) : Option (Unit × St) :=
  lt (wI S a0 1 (nI 0)) fun S1 =>
  lt (wI S1 a0 2 x1) fun S2 =>
  some ((), S2)
def f1_write  (a0 : Nat) (x1 : Int32) (S : St) : Option (Unit × St) :=
  if (nI 60) ≤ (S.1 a0 1) then
    some ((), S)
  else
  ckI (S.1 a0 1) 60 <|
  lt (wI S (a0 + 1) ((S.1 a0 1).toNatClampNeg) x1) fun S2 =>
  lt (wI S2 a0 1 ((S2.1 a0 1) + (nI 1))) fun S3 =>
  some ((), S3)
def f1_input  (a0 : Nat) (S : St) : Option (Int32 × St) :=
  some (S.1 a0 2, S)
def f1_isName  (x0 : Int32) (S : St) : Option (Int32 × St) :=
  if x0 = (nI 110) then
    some (nI 1, S)
  else
  if x0 = (nI 102) then
    some (nI 1, S)
  else
  if x0 = (nI 108) then
    some (nI 1, S)
  else
  if x0 = (nI 109) then
    some (nI 1, S)
  else
  if x0 = (nI 120) then
    some (nI 1, S)
  else
  if x0 = (nI 97) then
    some (nI 1, S)
  else
  if x0 = (nI 98) then
    some (nI 1, S)
  else
  some (nI 0, S)
def f1_push  (a0 : Nat) (x1 : Int32) (S : St) : Option (Unit × St) :=
  if (nI 60) ≤ (S.1 a0 4) then
    some ((), S)
  else
  ckI (S.1 a0 4) 60 <|
  lt (wI S (a0 + 2) ((S.1 a0 4).toNatClampNeg) x1) fun S2 =>
  lt (wI S2 a0 4 ((S2.1 a0 4) + (nI 1))) fun S3 =>
  some ((), S3)
def f1_valueOf (N : Nat) (a0 : Nat) (x1 : Int32) (S : St) : Option (Int32 × St) :=
  sw x1 [
      (nI 97, bnd (f4_valueA S) fun q1 S2 =>
      some (q1, S2)),
      (nI 102, bnd (f4_saidAt (nI 0) S) fun q3 S4 =>
      some (q3, S4)),
      (nI 108, bnd (f4_saidCount S) fun q5 S6 =>
      bnd (f4_saidAt (q5 - (nI 1)) S6) fun q7 S8 =>
      some (q7, S8)),
      (nI 109, bnd (f4_saidSum N S) fun q9 S10 =>
      some (q9, S10)),
      (nI 110, bnd (f4_saidCount S) fun q11 S12 =>
      some (q11, S12)),
      (nI 120, some (S.1 a0 2, S))]
    (bnd (f4_valueB S) fun q13 S14 =>
    some (q13, S14))
def f1_pop  (a0 : Nat) (S : St) : Option (Int32 × St) :=
  if (S.1 a0 4) ≤ 0 then
    some (nI 0, S)
  else
  if (S.1 a0 4) ≤ (nI 60) then
    lt (wI S a0 4 ((S.1 a0 4) - (nI 1))) fun S3 =>
    ckI (S3.1 a0 4) 60 <|
    some (S3.1 (a0 + 2) (S3.1 a0 4).toNatClampNeg, S3)
  else
  some (nI 0, S)
def f1_joined_j181  (x0 : Int32) (x2 : Int32)   (S : St) : Option (Int32 × St) :=
  some (x0 ||| x2, S)
def f1_joined  (x0 : Int32) (x1 : Int32) (x2 : Int32) (S : St) : Option (Int32 × St) :=
  sw x1 [
      (nI 37, if x2 = 0 then
        some (nI 0, S)
      else
      ckZ x2 <|
      some (remI x0 x2, S)),
      (nI 38, some (x0 &&& x2, S)),
      (nI 39, f1_joined_j181 x0 x2 S),
      (nI 40, f1_joined_j181 x0 x2 S),
      (nI 41, f1_joined_j181 x0 x2 S),
      (nI 42, some (x0 * x2, S)),
      (nI 43, some (x0 + x2, S)),
      (nI 44, f1_joined_j181 x0 x2 S),
      (nI 45, some (x0 - x2, S)),
      (nI 46, f1_joined_j181 x0 x2 S),
      (nI 47, f1_joined_j181 x0 x2 S),
      (nI 48, f1_joined_j181 x0 x2 S),
      (nI 49, f1_joined_j181 x0 x2 S),
      (nI 50, f1_joined_j181 x0 x2 S),
      (nI 51, f1_joined_j181 x0 x2 S),
      (nI 52, f1_joined_j181 x0 x2 S),
      (nI 53, f1_joined_j181 x0 x2 S),
      (nI 54, f1_joined_j181 x0 x2 S),
      (nI 55, f1_joined_j181 x0 x2 S),
      (nI 56, f1_joined_j181 x0 x2 S),
      (nI 57, f1_joined_j181 x0 x2 S),
      (nI 58, f1_joined_j181 x0 x2 S),
      (nI 59, f1_joined_j181 x0 x2 S),
      (nI 60, if x2 ≤ x0 then
        some (nI 0, S)
      else
      some (nI 1, S)),
      (nI 61, if x0 = x2 then
        some (nI 1, S)
      else
      some (nI 0, S)),
      (nI 62, if x0 ≤ x2 then
        some (nI 0, S)
      else
      some (nI 1, S))]
    (f1_joined_j181 x0 x2 S)
def f1_isPassedBy_j131 (N : Nat) (a0 : Nat)   (S : St) : Option (Int32 × St) :=
  bnd (f1_pop a0 S) fun q1 S2 =>
  if q1 = 0 then
    some (nI 0, S2)
  else
  some (nI 1, S2)
def f1_isPassedBy_h23 (N : Nat) (a0 : Nat)  : Nat → Int32 → St → Option (Int32 × St)
  | 0, _, _ => none
  | n + 1, x2, S =>
    if (S.1 a0 1) ≤ x2 then
      f1_isPassedBy_j131 N a0 S
    else
    if (nI 60) ≤ x2 then
      f1_isPassedBy_j131 N a0 S
    else
    ckI x2 60 <|
    lt (S.1 (a0 + 1) x2.toNatClampNeg) fun v3 =>
    if v3 < (nI 256) then
      bnd (f1_isName v3 S) fun q5 S6 =>
      if q5 = 0 then
        if v3 = (nI 33) then
          bnd (f1_pop a0 S6) fun q17 S18 =>
          bnd (f1_push a0 ((nI 1) - q17) S18) fun q19 S20 =>
          f1_isPassedBy_h23 N a0 n (x2 + nI 1) S20
        else
        bnd (f1_pop a0 S6) fun q9 S10 =>
        bnd (f1_pop a0 S10) fun q11 S12 =>
        bnd (f1_joined q11 v3 q9 S12) fun q13 S14 =>
        bnd (f1_push a0 q13 S14) fun q15 S16 =>
        f1_isPassedBy_h23 N a0 n (x2 + nI 1) S16
      else
      bnd (f1_valueOf N a0 v3 S6) fun q21 S22 =>
      bnd (f1_push a0 q21 S22) fun q23 S24 =>
      f1_isPassedBy_h23 N a0 n (x2 + nI 1) S24
    else
    bnd (f1_push a0 (v3 - (nI 256)) S) fun q25 S26 =>
    f1_isPassedBy_h23 N a0 n (x2 + nI 1) S26
def f1_isPassedBy (N : Nat) (a0 : Nat) (S : St) : Option (Int32 × St) :=
  bnd (f4_state S) fun q1 S2 =>
  if q1 = 0 then
    bnd (f4_saidCount S2) fun q4 S5 =>
    if q4 = 0 then
      some (nI 0, S5)
    else
    lt (wI S5 a0 4 (nI 0)) fun S7 =>
    f1_isPassedBy_h23 N a0 N (nI 0) S7
  else
  some (nI 0, S2)
def f9_length   (S : St) : Option (Int32 × St) :=
  some (S.1 11 1, S)
def f9_push  (x1 : Int32) (S : St) : Option (Unit × St) :=
  if (nI 60) ≤ (S.1 11 1) then
    some ((), S)
  else
  ckI (S.1 11 1) 60 <|
  lt (wI S 12 ((S.1 11 1).toNatClampNeg) x1) fun S2 =>
  lt (wI S2 11 1 ((S2.1 11 1) + (nI 1))) fun S3 =>
  some ((), S3)
def f9_beEmpty   (S : St) : Option (Unit × St) :=
  lt (wI S 11 1 (nI 0)) fun S1 =>
  some ((), S1)
def f9_here   (S : St) : Option (Int32 × St) :=
  if 0 ≤ (S.1 11 3) then
    some ((-1), S)
  else
  if (S.1 11 1) ≤ (S.1 11 2) then
    some ((-1), S)
  else
  if (nI 60) ≤ (S.1 11 2) then
    some ((-1), S)
  else
  ckI (S.1 11 2) 60 <|
  some (S.1 12 (S.1 11 2).toNatClampNeg, S)
def f9_goesOnWith  (x1 : Int32) (S : St) : Option (Int32 × St) :=
  bnd (f9_here S) fun q1 S2 =>
  if q1 = x1 then
    lt (wI S2 11 2 ((S2.1 11 2) + (nI 1))) fun S4 =>
    some (nI 1, S4)
  else
  some (nI 0, S2)
def f9_writeIf  (x0 : Int32) (a1 : Nat) (x2 : Int32) (S : St) : Option (Unit × St) :=
  if x0 = 0 then
    some ((), S)
  else
  bnd (f1_write a1 x2 S) fun q2 S3 =>
  some ((), S3)
def f9_readAny_j86 (N : Nat) (pv : Nat → Int32 → St → Option (Unit × St)) (a1 : Nat) (x3 : Int32)   (S : St) : Option (Unit × St) :=
  bnd (f9_writeIf x3 a1 (nI 124) S) fun q1 S2 =>
  some ((), S2)
def f9_readAny_j36 (N : Nat) (pv : Nat → Int32 → St → Option (Unit × St)) (a1 : Nat) (x2 : Int32) (x3 : Int32) (x4 : Int32) (k11 : Int32 → Int32 → St → Option (Unit × St))  (S : St) : Option (Unit × St) :=
  bnd (f9_goesOnWith (nI 38) S) fun q1 S2 =>
  if q1 = 0 then
    bnd (f9_writeIf x3 a1 (nI 124) S2) fun q4 S5 =>
    bnd (f9_goesOnWith (nI 124) S5) fun q6 S7 =>
    bnd (pv a1 x2 S7) fun q8 S9 =>
    k11 q6 (x4 + nI 1) S9
  else
  bnd (pv a1 x2 S2) fun q10 S11 =>
  bnd (f1_write a1 (nI 38) S11) fun q12 S13 =>
  k11 x3 (x4 + nI 1) S13
def f9_readAny_h11 (N : Nat) (pv : Nat → Int32 → St → Option (Unit × St)) (a1 : Nat) (x2 : Int32)  : Nat → Int32 → Int32 → St → Option (Unit × St)
  | 0, _, _, _ => none
  | n + 1, x3, x4, S =>
    if (nI 60) ≤ x4 then
      f9_readAny_j86 N pv a1 x3 S
    else
    bnd (f9_here S) fun q2 S3 =>
    if q2 = (nI 38) then
      f9_readAny_j36 N pv a1 x2 x3 x4 (f9_readAny_h11 N pv a1 x2 n) S3
    else
    bnd (f9_here S3) fun q5 S6 =>
    if q5 = (nI 124) then
      f9_readAny_j36 N pv a1 x2 x3 x4 (f9_readAny_h11 N pv a1 x2 n) S6
    else
    f9_readAny_j86 N pv a1 x3 S6
def f9_readAny (N : Nat) (pv : Nat → Int32 → St → Option (Unit × St)) (a1 : Nat) (x2 : Int32) (S : St) : Option (Unit × St) :=
  bnd (pv a1 x2 S) fun q1 S2 =>
  f9_readAny_h11 N pv a1 x2 N (nI 0) (nI 0) S2
def f9_isDigit  (x0 : Int32) (S : St) : Option (Int32 × St) :=
  if x0 < (nI 48) then
    some (nI 0, S)
  else
  if (nI 57) < x0 then
    some (nI 0, S)
  else
  some (nI 1, S)
def f9_fail   (S : St) : Option (Unit × St) :=
  if 0 ≤ (S.1 11 3) then
    some ((), S)
  else
  lt (wI S 11 3 (S.1 11 2)) fun S2 =>
  some ((), S2)
def f9_readOperand_j48 (N : Nat) (a1 : Nat) (x2 : Int32) (x3 : Int32)   (S : St) : Option (Unit × St) :=
  if x3 ≤ 0 then
    bnd (f9_here S) fun q2 S3 =>
    bnd (f1_isName q2 S3) fun q4 S5 =>
    if q4 = 0 then
      bnd (f9_fail S5) fun q7 S8 =>
      some ((), S8)
    else
    bnd (f9_here S5) fun q9 S10 =>
    bnd (f1_write a1 q9 S10) fun q11 S12 =>
    lt (wI S12 11 2 ((S12.1 11 2) + (nI 1))) fun S13 =>
    some ((), S13)
  else
  bnd (f1_write a1 ((nI 256) + x2) S) fun q14 S15 =>
  some ((), S15)
def f9_readOperand_h4 (N : Nat) (a1 : Nat)  : Nat → Int32 → Int32 → St → Option (Unit × St)
  | 0, _, _, _ => none
  | n + 1, x2, x3, S =>
    if (nI 3) ≤ x3 then
      f9_readOperand_j48 N a1 x2 x3 S
    else
    bnd (f9_here S) fun q2 S3 =>
    bnd (f9_isDigit q2 S3) fun q4 S5 =>
    if q4 = 0 then
      f9_readOperand_j48 N a1 x2 x3 S5
    else
    bnd (f9_here S5) fun q7 S8 =>
    lt (((x2 * (nI 10)) + q7) - (nI 48)) fun v9 =>
    lt (wI S8 11 2 ((S8.1 11 2) + (nI 1))) fun S10 =>
    f9_readOperand_h4 N a1 n v9 (x3 + nI 1) S10
def f9_readOperand (N : Nat) (a1 : Nat) (S : St) : Option (Unit × St) :=
  f9_readOperand_h4 N a1 N (nI 0) (nI 0) S
def f9_isSign  (x0 : Int32) (S : St) : Option (Int32 × St) :=
  if x0 = (nI 43) then
    some (nI 1, S)
  else
  if x0 = (nI 45) then
    some (nI 1, S)
  else
  if x0 = (nI 42) then
    some (nI 1, S)
  else
  if x0 = (nI 37) then
    some (nI 1, S)
  else
  some (nI 0, S)
def f9_readSum_j121 (N : Nat) (a1 : Nat) (x2 : Int32)  (xs0 : Int32) (S : St) : Option (Unit × St) :=
  bnd (f9_writeIf xs0 a1 x2 S) fun q1 S2 =>
  some ((), S2)
def f9_readSum_j112 (N : Nat) (a1 : Nat) (x2 : Int32)   (S : St) : Option (Unit × St) :=
  if x2 = 0 then
    f9_readSum_j121 N a1 x2 (nI 0) S
  else
  f9_readSum_j121 N a1 x2 (nI 1) S
def f9_readSum_j105 (N : Nat) (a1 : Nat) (x3 : Int32) (k9 : Int32 → Int32 → St → Option (Unit × St)) (xs0 : Int32) (S : St) : Option (Unit × St) :=
  k9 xs0 (x3 + nI 1) S
def f9_readSum_j66 (N : Nat) (a1 : Nat) (x2 : Int32) (x3 : Int32) (x4 : Int32) (x5 : Int32) (k9 : Int32 → Int32 → St → Option (Unit × St)) (xs0 : Int32) (S : St) : Option (Unit × St) :=
  bnd (f9_writeIf xs0 a1 x2 S) fun q1 S2 =>
  lt (wI S2 11 2 ((S2.1 11 2) + (nI 1))) fun S3 =>
  bnd (f9_readOperand N a1 S3) fun q4 S5 =>
  bnd (f9_writeIf x5 a1 x4 S5) fun q6 S7 =>
  if x5 = 0 then
    f9_readSum_j105 N a1 x3 k9 x4 S7
  else
  f9_readSum_j105 N a1 x3 k9 x2 S7
def f9_readSum_j65 (N : Nat) (a1 : Nat) (x2 : Int32) (x3 : Int32) (x4 : Int32) (x5 : Int32) (k9 : Int32 → Int32 → St → Option (Unit × St))  (S : St) : Option (Unit × St) :=
  f9_readSum_j66 N a1 x2 x3 x4 x5 k9 (nI 0) S
def f9_readSum_j50 (N : Nat) (a1 : Nat) (x2 : Int32) (x3 : Int32) (x4 : Int32) (k9 : Int32 → Int32 → St → Option (Unit × St)) (xs0 : Int32) (S : St) : Option (Unit × St) :=
  if xs0 = 0 then
    if x2 = 0 then
      f9_readSum_j65 N a1 x2 x3 x4 xs0 k9 S
    else
    f9_readSum_j66 N a1 x2 x3 x4 xs0 k9 (nI 1) S
  else
  f9_readSum_j65 N a1 x2 x3 x4 xs0 k9 S
def f9_readSum_j45 (N : Nat) (a1 : Nat) (x2 : Int32) (x3 : Int32) (x4 : Int32) (k9 : Int32 → Int32 → St → Option (Unit × St))  (S : St) : Option (Unit × St) :=
  f9_readSum_j50 N a1 x2 x3 x4 k9 (nI 1) S
def f9_readSum_h9 (N : Nat) (a1 : Nat)  : Nat → Int32 → Int32 → St → Option (Unit × St)
  | 0, _, _, _ => none
  | n + 1, x2, x3, S =>
    if (nI 60) ≤ x3 then
      f9_readSum_j112 N a1 x2 S
    else
    bnd (f9_here S) fun q2 S3 =>
    bnd (f9_isSign q2 S3) fun q4 S5 =>
    if q4 = 0 then
      f9_readSum_j112 N a1 x2 S5
    else
    bnd (f9_here S5) fun q7 S8 =>
    if q7 = (nI 42) then
      f9_readSum_j45 N a1 x2 x3 q7 (f9_readSum_h9 N a1 n) S8
    else
    if q7 = (nI 37) then
      f9_readSum_j45 N a1 x2 x3 q7 (f9_readSum_h9 N a1 n) S8
    else
    f9_readSum_j50 N a1 x2 x3 q7 (f9_readSum_h9 N a1 n) (nI 0) S8
def f9_readSum (N : Nat) (a1 : Nat) (S : St) : Option (Unit × St) :=
  bnd (f9_readOperand N a1 S) fun q1 S2 =>
  f9_readSum_h9 N a1 N (nI 0) (nI 0) S2
def f9_readCompared_j33 (N : Nat) (a1 : Nat) (x2 : Int32)   (S : St) : Option (Unit × St) :=
  lt (wI S 11 2 ((S.1 11 2) + (nI 1))) fun S1 =>
  bnd (f9_readSum N a1 S1) fun q2 S3 =>
  bnd (f1_write a1 x2 S3) fun q4 S5 =>
  some ((), S5)
def f9_readCompared (N : Nat) (a1 : Nat) (S : St) : Option (Unit × St) :=
  bnd (f9_readSum N a1 S) fun q1 S2 =>
  bnd (f9_here S2) fun q3 S4 =>
  if q3 = (nI 61) then
    f9_readCompared_j33 N a1 q3 S4
  else
  if q3 = (nI 60) then
    f9_readCompared_j33 N a1 q3 S4
  else
  if q3 = (nI 62) then
    f9_readCompared_j33 N a1 q3 S4
  else
  bnd (f9_fail S4) fun q8 S9 =>
  some ((), S9)
def f9_readOne_j24 (N : Nat) (pv : Nat → Int32 → St → Option (Unit × St)) (a1 : Nat) (x2 : Int32)   (S : St) : Option (Unit × St) :=
  if x2 < (nI 5) then
    bnd (f9_goesOnWith (nI 33) S) fun q2 S3 =>
    if q2 = 0 then
      lt (wI S3 11 2 ((S3.1 11 2) + (nI 1))) fun S5 =>
      bnd (f9_readAny N pv a1 (x2 + (nI 1)) S5) fun q6 S7 =>
      bnd (f9_goesOnWith (nI 41) S7) fun q8 S9 =>
      if q8 = 0 then
        bnd (f9_fail S9) fun q11 S12 =>
        some ((), S12)
      else
      some ((), S9)
    else
    bnd (pv a1 (x2 + (nI 1)) S3) fun q13 S14 =>
    bnd (f1_write a1 (nI 33) S14) fun q15 S16 =>
    some ((), S16)
  else
  bnd (f9_fail S) fun q17 S18 =>
  some ((), S18)
def f9_readOne_b (N : Nat) (pv : Nat → Int32 → St → Option (Unit × St)) (a1 : Nat) (x2 : Int32) (S : St) : Option (Unit × St) :=
  bnd (f9_here S) fun q1 S2 =>
  if q1 = (nI 33) then
    f9_readOne_j24 N pv a1 x2 S2
  else
  bnd (f9_here S2) fun q4 S5 =>
  if q4 = (nI 40) then
    f9_readOne_j24 N pv a1 x2 S5
  else
  bnd (f9_readCompared N a1 S5) fun q7 S8 =>
  some ((), S8)
def f9_readOne (N : Nat) : Nat → Nat → Int32 → St → Option (Unit × St)
  | 0, _, _, _ => none
  | n + 1, a1, x2, S => f9_readOne_b N (f9_readOne N n) a1 x2 S
def f9_writeTo_j36 (N : Nat)    (S : St) : Option (Int32 × St) :=
  some (S.1 11 3, S)
def f9_writeTo (N : Nat) (a1 : Nat) (x2 : Int32) (S : St) : Option (Int32 × St) :=
  lt (wI S 11 2 (nI 0)) fun S1 =>
  lt (wI S1 11 3 (-1)) fun S2 =>
  bnd (f1_begin a1 x2 S2) fun q3 S4 =>
  bnd (f9_readAny N (f9_readOne N 8) a1 (nI 0) S4) fun q5 S6 =>
  if (S6.1 11 1) ≤ (S6.1 11 2) then
    f9_writeTo_j36 N S6
  else
  bnd (f9_fail S6) fun q8 S9 =>
  f9_writeTo_j36 N S9
def f2_enter  (x2 : Int32) (S : St) : Option (Unit × St) :=
  bnd (f4_state S) fun q1 S2 =>
  if q1 = (nI 1) then
    lt (wI S2 32 3 ((S2.1 32 3) + (nI 1))) fun S19 =>
    some ((), S19)
  else
  bnd (f4_state S2) fun q4 S5 =>
  if q4 = (nI 2) then
    lt (wI S5 32 4 ((S5.1 32 4) + (nI 1))) fun S17 =>
    lt (wI S17 32 7 ((S17.1 32 7) + x2)) fun S18 =>
    some ((), S18)
  else
  lt (wI S5 32 2 ((S5.1 32 2) + (nI 1))) fun S7 =>
  lt (wI S7 32 6 ((S7.1 32 6) + x2)) fun S8 =>
  bnd (f4_steps S8) fun q9 S10 =>
  if q9 ≤ (S10.1 32 5) then
    some ((), S10)
  else
  bnd (f4_steps S10) fun q12 S13 =>
  lt (wI S13 32 5 q12) fun S14 =>
  bnd (f6_become 35 33 S14) fun q15 S16 =>
  some ((), S16)
def f2_take_h51 (N : Nat) (a1 : Nat) (x2 : Int32) (x3 : Int32) (x4 : Int32)  : Nat → Int32 → Int32 → St → Option (Unit × St)
  | 0, _, _, _ => none
  | n + 1, x6, x7, S =>
    if (nI 1000000) ≤ x7 then
      some ((), S)
    else
    if x6 ≤ 0 then
      some ((), S)
    else
    bnd (f4_start N a1 33 x4 S) fun q3 S4 =>
    bnd (f4_goOn N x3 S4) fun q5 S6 =>
    bnd (f2_enter (shlI (nI 1) (x2 - x6)) S6) fun q7 S8 =>
    bnd (f3_follow N a1 33 x2 S8) fun q9 S10 =>
    f2_take_h51 N a1 x2 x3 x4 n q9 (x7 + nI 1) S10
def f2_take (N : Nat) (a1 : Nat) (x2 : Int32) (x3 : Int32) (x4 : Int32) (S : St) : Option (Unit × St) :=
  lt (wI S 32 2 (nI 0)) fun S1 =>
  lt (wI S1 32 3 (nI 0)) fun S2 =>
  lt (wI S2 32 4 (nI 0)) fun S3 =>
  lt (wI S3 32 5 (nI 0)) fun S4 =>
  lt (wI S4 32 6 (nI 0)) fun S5 =>
  lt (wI S5 32 7 (nI 0)) fun S6 =>
  bnd (f6_beEmpty 33 S6) fun q7 S8 =>
  bnd (f3_follow N a1 33 x2 S8) fun q9 S10 =>
  f2_take_h51 N a1 x2 x3 x4 N q9 (nI 0) S10
def f2_programs   (S : St) : Option (Int32 × St) :=
  some (((S.1 32 2) + (S.1 32 3)) + (S.1 32 4), S)
def f2_ended   (S : St) : Option (Int32 × St) :=
  some (S.1 32 2, S)
def f2_hanging   (S : St) : Option (Int32 × St) :=
  some (S.1 32 3, S)
def f2_unsettled   (S : St) : Option (Int32 × St) :=
  some (S.1 32 4, S)
def f2_mostSteps   (S : St) : Option (Int32 × St) :=
  some (S.1 32 5, S)
def f2_slowest   (S : St) : Option (Option Nat × St) :=
  some (some 35, S)
def f2_share   (S : St) : Option (Int32 × St) :=
  some (S.1 32 6, S)
def f2_sureBits_h33 (N : Nat) (x1 : Int32) (x3 : Int32) (x4 : Int32)  : Nat → Int32 → St → Option (Int32 × St)
  | 0, _, _ => none
  | n + 1, x5, S =>
    if x1 ≤ x5 then
      some (x5, S)
    else
    if (shrI x3 ((x1 - (nI 1)) - x5)) = (shrI x4 ((x1 - (nI 1)) - x5)) then
      f2_sureBits_h33 N x1 x3 x4 n (x5 + nI 1) S
    else
    some (x5, S)
def f2_sureBits (N : Nat) (x1 : Int32) (S : St) : Option (Int32 × St) :=
  lt ((shlI (nI 1) x1) - (nI 1)) fun v1 =>
  lt (minI (S.1 32 6) v1) fun v2 =>
  lt (minI ((S.1 32 6) + (S.1 32 7)) v1) fun v3 =>
  f2_sureBits_h33 N x1 v2 v3 N (nI 0) S
def f5_takeVote_j72 (N : Nat) (x3 : Int32) (x4 : Int32)   (S : St) : Option (Unit × St) :=
  bnd (f4_saidCount S) fun q1 S2 =>
  if x4 = q1 then
    bnd (f4_state S2) fun q4 S5 =>
    if q4 = (nI 2) then
      lt (wI S5 26 4 ((S5.1 26 4) + x3)) fun S7 =>
      some ((), S7)
    else
    some ((), S5)
  else
  some ((), S2)
def f5_takeVote (N : Nat) (x3 : Int32) (S : St) : Option (Unit × St) :=
  bnd (f4_likeTold N S) fun q1 S2 =>
  bnd (f10_length S2) fun q3 S4 =>
  if q1 = q3 then
    bnd (f4_saidCount S4) fun q6 S7 =>
    if q6 ≤ q1 then
      f5_takeVote_j72 N x3 q1 S7
    else
    bnd (f4_saidAt q1 S7) fun q9 S10 =>
    if q9 < 0 then
      some ((), S10)
    else
    if (nI 1000) ≤ q9 then
      some ((), S10)
    else
    ckI q9 1000 <|
    ckI q9 1000 <|
    lt (wI S10 31 q9.toNatClampNeg ((S10.1 31 q9.toNatClampNeg) + x3)) fun S13 =>
    lt (wI S13 26 3 ((S13.1 26 3) + x3)) fun S14 =>
    some ((), S14)
  else
  f5_takeVote_j72 N x3 q1 S4
def f5_hold_h39 (N : Nat) (a1 : Nat) (x3 : Int32) (x4 : Int32)  : Nat → Int32 → Int32 → St → Option (Unit × St)
  | 0, _, _, _ => none
  | n + 1, x6, x7, S =>
    if (nI 1000000) ≤ x7 then
      some ((), S)
    else
    if x6 ≤ 0 then
      some ((), S)
    else
    bnd (f4_start N a1 27 (nI 0) S) fun q3 S4 =>
    bnd (f4_goOn N x4 S4) fun q5 S6 =>
    bnd (f5_takeVote N (shlI (nI 1) (x3 - x6)) S6) fun q7 S8 =>
    bnd (f3_follow N a1 27 x3 S8) fun q9 S10 =>
    f5_hold_h39 N a1 x3 x4 n q9 (x7 + nI 1) S10
def f5_hold (N : Nat) (a1 : Nat) (x3 : Int32) (x4 : Int32) (S : St) : Option (Unit × St) :=
  bnd (some ((), fiI S 31 1000 (nI 0))) fun u2 S1 =>
  lt (wI S1 26 3 (nI 0)) fun S3 =>
  lt (wI S3 26 4 (nI 0)) fun S4 =>
  bnd (f6_beEmpty 27 S4) fun q5 S6 =>
  bnd (f3_follow N a1 27 x3 S6) fun q7 S8 =>
  f5_hold_h39 N a1 x3 x4 N q7 (nI 0) S8
def f5_findShortest_j130 (N : Nat) (a1 : Nat) (x3 : Int32) (x4 : Int32) (x7 : Int32) (k31 : Int32 → Int32 → St → Option (Unit × St))  (S : St) : Option (Unit × St) :=
  bnd (f3_follow N a1 27 x3 S) fun q1 S2 =>
  k31 q1 (x7 + nI 1) S2
def f5_findShortest_j109 (N : Nat) (a1 : Nat) (x3 : Int32) (x4 : Int32) (x7 : Int32) (k31 : Int32 → Int32 → St → Option (Unit × St))  (S : St) : Option (Unit × St) :=
  if (S.1 26 5) = 0 then
    bnd (f4_state S) fun q2 S3 =>
    if q2 = (nI 2) then
      lt (wI S3 26 6 (nI 0)) fun S5 =>
      f5_findShortest_j130 N a1 x3 x4 x7 k31 S5
    else
    f5_findShortest_j130 N a1 x3 x4 x7 k31 S3
  else
  f5_findShortest_j130 N a1 x3 x4 x7 k31 S
def f5_findShortest_j96 (N : Nat) (a1 : Nat) (x3 : Int32) (x4 : Int32) (x7 : Int32) (k31 : Int32 → Int32 → St → Option (Unit × St))  (S : St) : Option (Unit × St) :=
  lt (wI S 26 5 ((S.1 26 5) + (nI 1))) fun S1 =>
  f5_findShortest_j130 N a1 x3 x4 x7 k31 S1
def f5_findShortest_h31 (N : Nat) (a1 : Nat) (x3 : Int32) (x4 : Int32)  : Nat → Int32 → Int32 → St → Option (Unit × St)
  | 0, _, _, _ => none
  | n + 1, x6, x7, S =>
    if (nI 1000000) ≤ x7 then
      some ((), S)
    else
    if x6 ≤ 0 then
      some ((), S)
    else
    bnd (f4_start N a1 27 (nI 0) S) fun q3 S4 =>
    bnd (f4_goOn N x4 S4) fun q5 S6 =>
    bnd (f4_state S6) fun q7 S8 =>
    if q7 = 0 then
      bnd (f4_saidJust N S8) fun q10 S11 =>
      if q10 = 0 then
        f5_findShortest_j109 N a1 x3 x4 x7 (f5_findShortest_h31 N a1 x3 x4 n) S11
      else
      if (S11.1 26 5) = 0 then
        bnd (f6_become 29 27 S11) fun q14 S15 =>
        f5_findShortest_j96 N a1 x3 x4 x7 (f5_findShortest_h31 N a1 x3 x4 n) S15
      else
      f5_findShortest_j96 N a1 x3 x4 x7 (f5_findShortest_h31 N a1 x3 x4 n) S11
    else
    f5_findShortest_j109 N a1 x3 x4 x7 (f5_findShortest_h31 N a1 x3 x4 n) S8
def f5_findShortest (N : Nat) (a1 : Nat) (x3 : Int32) (x4 : Int32) (S : St) : Option (Unit × St) :=
  lt (wI S 26 5 (nI 0)) fun S1 =>
  lt (wI S1 26 6 (nI 1)) fun S2 =>
  bnd (f6_beEmpty 27 S2) fun q3 S4 =>
  bnd (f3_follow N a1 27 x3 S4) fun q5 S6 =>
  f5_findShortest_h31 N a1 x3 x4 N q5 (nI 0) S6
def f5_votesFor  (x1 : Int32) (S : St) : Option (Int32 × St) :=
  if x1 < 0 then
    some (nI 0, S)
  else
  if (nI 1000) ≤ x1 then
    some (nI 0, S)
  else
  ckI x1 1000 <|
  some (S.1 31 x1.toNatClampNeg, S)
def f5_most_h5 (N : Nat)   : Nat → Int32 → Int32 → St → Option (Int32 × St)
  | 0, _, _, _ => none
  | n + 1, x1, x2, S =>
    if (nI 1000) ≤ x2 then
      some (x1, S)
    else
    ckI x2 1000 <|
    bnd (f5_votesFor x1 S) fun q2 S3 =>
    if (S.1 31 x2.toNatClampNeg) ≤ q2 then
      f5_most_h5 N n x1 (x2 + nI 1) S3
    else
    f5_most_h5 N n x2 (x2 + nI 1) S3
def f5_most (N : Nat)  (S : St) : Option (Int32 × St) :=
  f5_most_h5 N N (-2) (nI 0) S
def f5_all   (S : St) : Option (Int32 × St) :=
  some (S.1 26 3, S)
def f5_open   (S : St) : Option (Int32 × St) :=
  some (S.1 26 4, S)
def f5_howManyJust   (S : St) : Option (Int32 × St) :=
  some (S.1 26 5, S)
def f5_isShown   (S : St) : Option (Int32 × St) :=
  ckB (S.1 26 6) <|
  some (S.1 26 6, S)
def f5_shortestOne   (S : St) : Option (Option Nat × St) :=
  some (some 29, S)
def f7_stepsIn  (x0 : Int32) (x1 : Int32) (S : St) : Option (Int32 × St) :=
  lt (x0 - x1) fun v1 =>
  if v1 < 0 then
    some (nI 0, S)
  else
  if v1 ≤ (nI 14) then
    some (shlI (nI 1) v1, S)
  else
  some (nI 0, S)
def f7_phaseOf_h2 (N : Nat) (x0 : Int32) (x1 : Int32)  : Nat → Int32 → St → Option (Int32 × St)
  | 0, _, _ => none
  | n + 1, x2, S =>
    if (nI 14) ≤ x2 then
      some (x2, S)
    else
    bnd (f7_stepsIn x2 x0 S) fun q2 S3 =>
    if x1 ≤ q2 then
      some (x2, S3)
    else
    f7_phaseOf_h2 N x0 x1 n (x2 + nI 1) S3
def f7_phaseOf (N : Nat) (x0 : Int32) (x1 : Int32) (S : St) : Option (Int32 × St) :=
  f7_phaseOf_h2 N x0 x1 N x0 S
def f7_findAnswer_j133 (N : Nat) (a0 : Nat) (a1 : Nat) (a2 : Nat) (x6 : Int32) (k38 : Int32 → Int32 → St → Option (Unit × St))  (S : St) : Option (Unit × St) :=
  bnd (f3_follow N a1 (a0 + 1) ((S.1 a0 3) - (nI 1)) S) fun q1 S2 =>
  k38 q1 (x6 + nI 1) S2
def f7_findAnswer_h38 (N : Nat) (a0 : Nat) (a1 : Nat) (a2 : Nat)  : Nat → Int32 → Int32 → St → Option (Unit × St)
  | 0, _, _, _ => none
  | n + 1, x5, x6, S =>
    if (nI 1000000) ≤ x6 then
      some ((), S)
    else
    if x5 ≤ 0 then
      some ((), S)
    else
    bnd (f1_input a2 S) fun q3 S4 =>
    bnd (f4_start N a1 (a0 + 1) q3 S4) fun q5 S6 =>
    bnd (f7_stepsIn ((S6.1 a0 3) - (nI 1)) x5 S6) fun q7 S8 =>
    bnd (f4_goOn N q7 S8) fun q9 S10 =>
    bnd (f1_isPassedBy N a2 S10) fun q11 S12 =>
    if q11 = 0 then
      f7_findAnswer_j133 N a0 a1 a2 x6 (f7_findAnswer_h38 N a0 a1 a2 n) S12
    else
    lt (wI S12 a0 2 (nI 1)) fun S14 =>
    bnd (f6_become (a0 + 3) (a0 + 1) S14) fun q15 S16 =>
    lt (wI S16 a0 5 x5) fun S17 =>
    bnd (f4_steps S17) fun q18 S19 =>
    lt (wI S19 a0 4 q18) fun S20 =>
    bnd (f7_phaseOf N x5 (S20.1 a0 4) S20) fun q21 S22 =>
    lt (wI S22 a0 3 q21) fun S23 =>
    f7_findAnswer_j133 N a0 a1 a2 x6 (f7_findAnswer_h38 N a0 a1 a2 n) S23
def f7_findAnswer (N : Nat) (a0 : Nat) (a1 : Nat) (a2 : Nat) (x3 : Int32) (S : St) : Option (Unit × St) :=
  lt (wI S a0 2 (nI 0)) fun S1 =>
  lt (wI S1 a0 3 (x3 + (nI 1))) fun S2 =>
  bnd (f6_beEmpty (a0 + 1) S2) fun q3 S4 =>
  bnd (f3_follow N a1 (a0 + 1) ((S4.1 a0 3) - (nI 1)) S4) fun q5 S6 =>
  f7_findAnswer_h38 N a0 a1 a2 N q5 (nI 0) S6
def f7_isAnswer_h21 (N : Nat) (a0 : Nat)  : Nat → Int32 → St → Option (Int32 × St)
  | 0, _, _ => none
  | n + 1, x1, S =>
    bnd (f6_length (a0 + 3) S) fun q1 S2 =>
    if q1 ≤ x1 then
      some (nI 1, S2)
    else
    bnd (f6_orderAt (a0 + 1) x1 S2) fun q4 S5 =>
    bnd (f6_orderAt (a0 + 3) x1 S5) fun q6 S7 =>
    if q4 = q6 then
      f7_isAnswer_h21 N a0 n (x1 + nI 1) S7
    else
    some (nI 0, S7)
def f7_isAnswer (N : Nat) (a0 : Nat) (S : St) : Option (Int32 × St) :=
  bnd (f6_length (a0 + 1) S) fun q1 S2 =>
  bnd (f6_length (a0 + 3) S2) fun q3 S4 =>
  if q1 = q3 then
    f7_isAnswer_h21 N a0 N (nI 0) S4
  else
  some (nI 0, S4)
def f7_addUp_j149 (N : Nat) (a0 : Nat) (a1 : Nat) (x2 : Int32) (x5 : Int32) (x7 : Int32) (k54 : Int32 → Int32 → Int32 → St → Option (Unit × St))  (S : St) : Option (Unit × St) :=
  bnd (f3_follow N a1 (a0 + 1) x5 S) fun q1 S2 =>
  k54 x5 q1 (x7 + nI 1) S2
def f7_addUp_j132 (N : Nat) (a0 : Nat) (a1 : Nat) (x2 : Int32) (x5 : Int32) (x7 : Int32) (k54 : Int32 → Int32 → Int32 → St → Option (Unit × St))  (S : St) : Option (Unit × St) :=
  if (S.1 a0 2) = 0 then
    f7_addUp_j149 N a0 a1 x2 x5 x7 k54 S
  else
  bnd (f7_isAnswer N a0 S) fun q2 S3 =>
  if q2 = 0 then
    f7_addUp_j149 N a0 a1 x2 x5 x7 k54 S3
  else
  f7_addUp_j149 N a0 a1 x2 (x5 + (-1)) x7 k54 S3
def f7_addUp_h54 (N : Nat) (a0 : Nat) (a1 : Nat) (x2 : Int32)  : Nat → Int32 → Int32 → Int32 → St → Option (Unit × St)
  | 0, _, _, _, _ => none
  | n + 1, x5, x6, x7, S =>
    if (nI 1000000) ≤ x7 then
      some ((), S)
    else
    if x6 ≤ 0 then
      some ((), S)
    else
    bnd (f4_start N a1 (a0 + 1) x2 S) fun q3 S4 =>
    bnd (f7_stepsIn x5 x6 S4) fun q5 S6 =>
    bnd (f4_goOn N q5 S6) fun q7 S8 =>
    bnd (f4_steps S8) fun q9 S10 =>
    lt (wI S10 a0 6 ((S8.1 a0 6) + q9)) fun S11 =>
    lt (wI S11 a0 7 ((S11.1 a0 7) + (nI 1))) fun S12 =>
    bnd (f4_state S12) fun q13 S14 =>
    if q13 = (nI 1) then
      lt (wI S14 a0 8 ((S14.1 a0 8) + (nI 1))) fun S16 =>
      f7_addUp_j132 N a0 a1 x2 x5 x7 (f7_addUp_h54 N a0 a1 x2 n) S16
    else
    f7_addUp_j132 N a0 a1 x2 x5 x7 (f7_addUp_h54 N a0 a1 x2 n) S14
def f7_addUp_j30 (N : Nat) (a0 : Nat) (a1 : Nat) (x2 : Int32)  (xs0 : Int32) (S : St) : Option (Unit × St) :=
  bnd (f6_beEmpty (a0 + 1) S) fun q1 S2 =>
  bnd (f3_follow N a1 (a0 + 1) xs0 S2) fun q3 S4 =>
  f7_addUp_h54 N a0 a1 x2 N xs0 q3 (nI 0) S4
def f7_addUp (N : Nat) (a0 : Nat) (a1 : Nat) (x2 : Int32) (x3 : Int32) (S : St) : Option (Unit × St) :=
  lt (wI S a0 6 (nI 0)) fun S1 =>
  lt (wI S1 a0 7 (nI 0)) fun S2 =>
  lt (wI S2 a0 8 (nI 0)) fun S3 =>
  if (S3.1 a0 2) = 0 then
    f7_addUp_j30 N a0 a1 x2 x3 S3
  else
  f7_addUp_j30 N a0 a1 x2 (S3.1 a0 3) S3
def f7_look (N : Nat) (a0 : Nat) (a1 : Nat) (a2 : Nat) (x3 : Int32) (S : St) : Option (Unit × St) :=
  bnd (f7_findAnswer N a0 a1 a2 x3 S) fun q1 S2 =>
  bnd (f1_input a2 S2) fun q3 S4 =>
  bnd (f7_addUp N a0 a1 q3 x3 S4) fun q5 S6 =>
  some ((), S6)
def f7_hasAnswer  (a0 : Nat) (S : St) : Option (Int32 × St) :=
  ckB (S.1 a0 2) <|
  some (S.1 a0 2, S)
def f7_answer  (a0 : Nat) (S : St) : Option (Option Nat × St) :=
  some (some (a0 + 3), S)
def f7_phase  (a0 : Nat) (S : St) : Option (Int32 × St) :=
  some (S.1 a0 3, S)
def f7_answerSteps  (a0 : Nat) (S : St) : Option (Int32 × St) :=
  some (S.1 a0 4, S)
def f7_sum  (a0 : Nat) (S : St) : Option (Int32 × St) :=
  some (S.1 a0 6, S)
def f7_begun  (a0 : Nat) (S : St) : Option (Int32 × St) :=
  some (S.1 a0 7, S)
def f7_hanging  (a0 : Nat) (S : St) : Option (Int32 × St) :=
  some (S.1 a0 8, S)
def f7_factor  (a0 : Nat) (S : St) : Option (Int32 × St) :=
  lt (shlI (S.1 a0 4) (S.1 a0 5)) fun v1 =>
  if 0 < v1 then
    ckZ v1 <|
    some ((((S.1 a0 6) + v1) - (nI 1)) / v1, S)
  else
  some (nI 0, S)
def f11_sumOfDigits_h6 (N : Nat)   : Nat → Int32 → Int32 → Int32 → St → Option (Int32 × St)
  | 0, _, _, _, _ => none
  | n + 1, x1, x2, x3, S =>
    if (nI 8) ≤ x3 then
      if x2 = 0 then
        some (x1, S)
      else
      some ((-1), S)
    else
    lt (remI x2 (nI 10)) fun v3 =>
    if v3 < (nI 1) then
      some ((-1), S)
    else
    if v3 ≤ (nI 6) then
      lt (x1 + (shrI (nI 64) v3)) fun v6 =>
      lt (x2 / (nI 10)) fun v7 =>
      f11_sumOfDigits_h6 N n v6 v7 (x3 + nI 1) S
    else
    some ((-1), S)
def f11_sumOfDigits (N : Nat) (x0 : Int32) (S : St) : Option (Int32 × St) :=
  f11_sumOfDigits_h6 N N (nI 0) x0 (nI 0) S
def f11_language (N : Nat) (x1 : Int32) (S : St) : Option (Int32 × St) :=
  bnd (f11_sumOfDigits N x1 S) fun q1 S2 =>
  if q1 = (-1) then
    some ((-1), S2)
  else
  if q1 ≤ (nI 64) then
    if (S2.1 0 1) < (nI 6) then
      ckI (S2.1 0 1) 6 <|
      bnd (f3_beMadeOf N (50 + 11 * (S2.1 0 1).toNatClampNeg) x1 S2) fun q7 S8 =>
      lt (wI S8 0 1 ((S8.1 0 1) + (nI 1))) fun S9 =>
      some ((S9.1 0 1) - (nI 1), S9)
    else
    some ((-3), S2)
  else
  some ((-5), S2)
def f11_languageAt  (x1 : Int32) (S : St) : Option (Option Nat × St) :=
  if x1 < 0 then
    some (none, S)
  else
  if (S.1 0 1) ≤ x1 then
    some (none, S)
  else
  if (nI 6) ≤ x1 then
    some (none, S)
  else
  ckI x1 6 <|
  some (some (50 + 11 * x1.toNatClampNeg), S)
def f11_of_j57 (N : Nat) (x2 : Int32) (a3 : Nat)   (S : St) : Option (Int32 × St) :=
  if x2 < (nI 30) then
    some ((-1), S)
  else
  bnd (f3_has a3 (x2 - (nI 30)) S) fun q2 S3 =>
  if q2 = 0 then
    some ((-1), S3)
  else
  bnd (f3_codeOf a3 (x2 - (nI 30)) S3) fun q5 S6 =>
  some (q5, S6)
def f11_of (N : Nat) (x1 : Int32) (x2 : Int32) (S : St) : Option (Int32 × St) :=
  bnd (f11_languageAt x1 S) fun q1 S2 =>
  ifN q1
    (some ((-1), S2)) fun b3 => ckA ad3 b3 <|
  if x2 = 0 then
    bnd (f3_howManyOrders b3 S2) fun q14 S15 =>
    some (q14, S15)
  else
  if x2 = (nI 1) then
    bnd (f3_sum N b3 S2) fun q12 S13 =>
    some (q12, S13)
  else
  if x2 < (nI 10) then
    f11_of_j57 N x2 b3 S2
  else
  bnd (f3_has b3 (x2 - (nI 10)) S2) fun q7 S8 =>
  if q7 = 0 then
    f11_of_j57 N x2 b3 S8
  else
  bnd (f3_bitsOf b3 (x2 - (nI 10)) S8) fun q10 S11 =>
  some (q10, S11)
def f11_part  (x1 : Int32) (x2 : Int32) (x3 : Int32) (S : St) : Option (Int32 × St) :=
  bnd (f11_languageAt x1 S) fun q1 S2 =>
  ifN q1
    (some ((-1), S2)) fun b3 => ckA ad3 b3 <|
  if x2 < (nI 8) then
    some ((-1), S2)
  else
  bnd (f3_has b3 x2 S2) fun q5 S6 =>
  if q5 = 0 then
    some ((-1), S6)
  else
  if x3 = (-1) then
    bnd (f3_writtenLength b3 x2 S6) fun q15 S16 =>
    some (q15, S16)
  else
  if x3 < 0 then
    some ((-1), S6)
  else
  bnd (f3_writtenLength b3 x2 S6) fun q10 S11 =>
  if x3 < q10 then
    bnd (f3_written b3 x2 x3 S11) fun q13 S14 =>
    some (q13, S14)
  else
  some ((-1), S11)
def f11_clear   (S : St) : Option (Int32 × St) :=
  bnd (f6_length 2 S) fun q1 S2 =>
  bnd (f6_beEmpty 2 S2) fun q3 S4 =>
  some (q1, S4)
def f11_add  (x1 : Int32) (S : St) : Option (Int32 × St) :=
  if x1 < 0 then
    some ((-1), S)
  else
  if (nI 12) ≤ x1 then
    some ((-1), S)
  else
  bnd (f6_isClosed 2 S) fun q3 S4 =>
  if q3 = 0 then
    bnd (f6_push 2 x1 S4) fun q6 S7 =>
    if q6 = 0 then
      some ((-3), S7)
    else
    bnd (f6_length 2 S7) fun q9 S10 =>
    some (q9, S10)
  else
  some ((-1), S4)
def f11_order  (x1 : Int32) (S : St) : Option (Int32 × St) :=
  if x1 = (-1) then
    bnd (f6_length 2 S) fun q4 S5 =>
    some (q4, S5)
  else
  bnd (f6_orderAt 2 x1 S) fun q2 S3 =>
  some (q2, S3)
def f11_size (N : Nat) (x1 : Int32) (S : St) : Option (Int32 × St) :=
  bnd (f11_languageAt x1 S) fun q1 S2 =>
  ifN q1
    (some ((-1), S2)) fun b3 => ckA ad3 b3 <|
  bnd (f3_sizeOf N b3 2 S2) fun q4 S5 =>
  some (q4, S5)
def f11_decoded_j91 (N : Nat) (a1 : Nat) (x2 : Int32) (x6 : Int32) (x7 : Int32) (k23 : Int32 → Int32 → Int32 → St → Option (Int32 × St))  (S : St) : Option (Int32 × St) :=
  if x7 < 0 then
    some ((-5), S)
  else
  bnd (f6_push 4 x7 S) fun q2 S3 =>
  if q2 = 0 then
    some ((-5), S3)
  else
  if x7 = 0 then
    bnd (f3_sizeOf N a1 4 S3) fun q6 S7 =>
    some (q6, S7)
  else
  k23 (nI 0) (nI 0) (x6 + nI 1) S3
def f11_decoded_j60 (N : Nat) (a1 : Nat) (x2 : Int32) (x5 : Int32) (x6 : Int32) (k23 : Int32 → Int32 → Int32 → St → Option (Int32 × St)) (xs0 : Int32) (xs1 : Int32) (S : St) : Option (Int32 × St) :=
  lt (xs1 + xs0) fun v1 =>
  bnd (f3_orderWith N a1 v1 (x5 + nI 1) S) fun q2 S3 =>
  if 0 ≤ q2 then
    f11_decoded_j91 N a1 x2 x6 q2 k23 S3
  else
  if (nI 6) ≤ (x5 + nI 1) then
    f11_decoded_j91 N a1 x2 x6 q2 k23 S3
  else
  k23 v1 (x5 + nI 1) (x6 + nI 1) S3
def f11_decoded_h23 (N : Nat) (a1 : Nat) (x2 : Int32)  : Nat → Int32 → Int32 → Int32 → St → Option (Int32 × St)
  | 0, _, _, _, _ => none
  | n + 1, x4, x5, x6, S =>
    bnd (f8_length x2 S) fun q1 S2 =>
    if q1 ≤ x6 then
      some ((-2), S2)
    else
    bnd (f8_get x2 x6 S2) fun q4 S5 =>
    if (cmpL q4 (lN 0)) = 0 then
      f11_decoded_j60 N a1 x2 x5 x6 (f11_decoded_h23 N a1 x2 n) (nI 0) (x4 * (nI 2)) S5
    else
    f11_decoded_j60 N a1 x2 x5 x6 (f11_decoded_h23 N a1 x2 n) (nI 1) (x4 * (nI 2)) S5
def f11_decoded (N : Nat) (a1 : Nat) (x2 : Int32) (x3 : Int32) (S : St) : Option (Int32 × St) :=
  if 0 ≤ x3 then
    bnd (f6_beEmpty 4 S) fun q2 S3 =>
    f11_decoded_h23 N a1 x2 N (nI 0) (nI 0) x3 S3
  else
  some ((-2), S)
def f11_read (N : Nat) (x1 : Int32) (x2 : Int32) (x3 : Int32) (S : St) : Option (Int32 × St) :=
  bnd (f11_languageAt x1 S) fun q1 S2 =>
  ifN q1
    (some ((-1), S2)) fun b3 => ckA ad3 b3 <|
  bnd (f8_isShelf x2 S2) fun q4 S5 =>
  if q4 = 0 then
    some ((-1), S5)
  else
  bnd (f8_holdsNothing x2 S5) fun q7 S8 =>
  if q7 = 0 then
    bnd (f8_holdsBooleans x2 S8) fun q10 S11 =>
    if q10 = 0 then
      some ((-12), S11)
    else
    bnd (f11_decoded N b3 x2 x3 S11) fun q13 S14 =>
    if q13 ≤ 0 then
      some (q13, S14)
    else
    bnd (f6_become 2 4 S14) fun q16 S17 =>
    some (q13, S17)
  else
  some ((-2), S8)
def f11_isNumber  (x0 : Int32) (S : St) : Option (Int32 × St) :=
  if x0 < 0 then
    some (nI 0, S)
  else
  if (nI 1000) ≤ x0 then
    some (nI 0, S)
  else
  some (nI 1, S)
def f11_run (N : Nat) (x1 : Int32) (x2 : Int32) (x3 : Int32) (S : St) : Option (Int32 × St) :=
  bnd (f11_languageAt x1 S) fun q1 S2 =>
  ifN q1
    (some ((-1), S2)) fun b3 => ckA ad3 b3 <|
  bnd (f11_isNumber x2 S2) fun q4 S5 =>
  if q4 = 0 then
    some ((-1), S5)
  else
  bnd (f11_isNumber x3 S5) fun q7 S8 =>
  if q7 = 0 then
    some ((-1), S8)
  else
  bnd (f3_sizeOf N b3 2 S8) fun q10 S11 =>
  if 0 ≤ q10 then
    bnd (f4_start N b3 2 x2 S11) fun q13 S14 =>
    bnd (f4_goOn N x3 S14) fun q15 S16 =>
    bnd (f4_tell S16) fun q17 S18 =>
    lt (wI S18 0 6 (nI 1)) fun S19 =>
    bnd (f4_state S19) fun q20 S21 =>
    some (q20, S21)
  else
  some ((-5), S11)
def f11_ran_j25  (x1 : Int32)   (S : St) : Option (Int32 × St) :=
  if x1 < (nI 10) then
    some ((-1), S)
  else
  ckI (nI 3) 12 <|
  if (S.1 10 (nI 3).toNatClampNeg) ≤ (x1 - (nI 10)) then
    some ((-1), S)
  else
  if (nI 12) ≤ (x1 - (nI 6)) then
    some ((-1), S)
  else
  ckI (x1 - (nI 6)) 12 <|
  some (S.1 10 (x1 - (nI 6)).toNatClampNeg, S)
def f11_ran  (x1 : Int32) (S : St) : Option (Int32 × St) :=
  if (S.1 0 6) = 0 then
    some ((-1), S)
  else
  if x1 < 0 then
    f11_ran_j25 x1 S
  else
  if (nI 3) < x1 then
    f11_ran_j25 x1 S
  else
  ckI x1 12 <|
  some (S.1 10 x1.toNatClampNeg, S)
def f11_next_j36 (N : Nat) (a2 : Nat)   (S : St) : Option (Int32 × St) :=
  bnd (f3_follow N a2 2 (nI 14) S) fun q1 S2 =>
  if q1 ≤ 0 then
    some ((-2), S2)
  else
  some (q1, S2)
def f11_next (N : Nat) (x1 : Int32) (S : St) : Option (Int32 × St) :=
  bnd (f11_languageAt x1 S) fun q1 S2 =>
  ifN q1
    (some ((-1), S2)) fun b3 => ckA ad3 b3 <|
  bnd (f6_length 2 S2) fun q4 S5 =>
  if q4 ≤ 0 then
    f11_next_j36 N b3 S5
  else
  bnd (f3_sizeOf N b3 2 S5) fun q7 S8 =>
  if 0 ≤ q7 then
    f11_next_j36 N b3 S8
  else
  some ((-5), S8)
def f11_feed_h34 (N : Nat) (x1 : Int32)  : Nat → Int32 → Int32 → St → Option (Int32 × St)
  | 0, _, _, _ => none
  | n + 1, x3, x4, S =>
    if x1 ≤ x4 then
      bnd (f9_length S) fun q2 S3 =>
      some (q2, S3)
    else
    bnd (f9_push (x3 &&& (nI 255)) S) fun q4 S5 =>
    lt (ushrI x3 (nI 8)) fun v6 =>
    f11_feed_h34 N x1 n v6 (x4 + nI 1) S5
def f11_feed (N : Nat) (x1 : Int32) (x2 : Int32) (S : St) : Option (Int32 × St) :=
  if x1 < (nI 1) then
    some ((-1), S)
  else
  if x1 ≤ (nI 4) then
    bnd (f9_length S) fun q3 S4 =>
    if (q3 + x1) ≤ (nI 60) then
      f11_feed_h34 N x1 N x2 (nI 0) S4
    else
    some ((-3), S4)
  else
  some ((-1), S)
def f11_task (N : Nat) (x1 : Int32) (S : St) : Option (Int32 × St) :=
  bnd (f11_isNumber x1 S) fun q1 S2 =>
  if q1 = 0 then
    some ((-1), S2)
  else
  if (S2.1 0 9) < (nI 10) then
    ckI (S2.1 0 9) 10 <|
    bnd (f9_writeTo N (116 + 3 * (S2.1 0 9).toNatClampNeg) x1 S2) fun q6 S7 =>
    bnd (f9_beEmpty S7) fun q8 S9 =>
    if q6 < 0 then
      lt (wI S9 0 9 ((S9.1 0 9) + (nI 1))) fun S11 =>
      some ((S11.1 0 9) - (nI 1), S11)
    else
    some ((-100) - q6, S9)
  else
  some ((-3), S2)
def f11_taskAt  (x1 : Int32) (S : St) : Option (Option Nat × St) :=
  if x1 < 0 then
    some (none, S)
  else
  if (S.1 0 9) ≤ x1 then
    some (none, S)
  else
  if (nI 10) ≤ x1 then
    some (none, S)
  else
  ckI x1 10 <|
  some (some (116 + 3 * x1.toNatClampNeg), S)
def f11_passes (N : Nat) (x1 : Int32) (x2 : Int32) (x3 : Int32) (S : St) : Option (Int32 × St) :=
  bnd (f11_languageAt x1 S) fun q1 S2 =>
  bnd (f11_taskAt x2 S2) fun q3 S4 =>
  ifN q1
    (some ((-1), S4)) fun b5 => ckA ad3 b5 <|
  ifN q3
    (some ((-1), S4)) fun b6 => ckA ad1 b6 <|
  bnd (f11_isNumber x3 S4) fun q7 S8 =>
  if q7 = 0 then
    some ((-1), S8)
  else
  bnd (f3_sizeOf N b5 2 S8) fun q10 S11 =>
  if 0 ≤ q10 then
    bnd (f1_input b6 S11) fun q13 S14 =>
    bnd (f4_start N b5 2 q13 S14) fun q15 S16 =>
    bnd (f4_goOn N x3 S16) fun q17 S18 =>
    bnd (f1_isPassedBy N b6 S18) fun q19 S20 =>
    if q19 = 0 then
      some (nI 0, S20)
    else
    some (nI 1, S20)
  else
  some ((-5), S11)
def f11_isPhase  (x0 : Int32) (S : St) : Option (Int32 × St) :=
  if x0 < (nI 1) then
    some (nI 0, S)
  else
  if (nI 14) < x0 then
    some (nI 0, S)
  else
  some (nI 1, S)
def f11_search (N : Nat) (x1 : Int32) (x2 : Int32) (x3 : Int32) (S : St) : Option (Int32 × St) :=
  bnd (f11_languageAt x1 S) fun q1 S2 =>
  bnd (f11_taskAt x2 S2) fun q3 S4 =>
  ifN q1
    (some ((-1), S4)) fun b5 => ckA ad3 b5 <|
  ifN q3
    (some ((-1), S4)) fun b6 => ckA ad1 b6 <|
  bnd (f11_isPhase x3 S4) fun q7 S8 =>
  if q7 = 0 then
    some ((-1), S8)
  else
  bnd (f7_look N 14 b5 b6 x3 S8) fun q10 S11 =>
  lt (wI S11 0 12 (nI 1)) fun S12 =>
  bnd (f7_hasAnswer 14 S12) fun q13 S14 =>
  if q13 = 0 then
    some ((-2), S14)
  else
  bnd (f7_answer 14 S14) fun q16 S17 =>
  onR q16 fun b18 => ckA ad6 b18 <|
  bnd (f6_become 2 b18 S17) fun q19 S20 =>
  bnd (f7_phase 14 S20) fun q21 S22 =>
  some (q21, S22)
def f11_searched  (x1 : Int32) (S : St) : Option (Int32 × St) :=
  if (S.1 0 12) = 0 then
    some ((-1), S)
  else
  sw x1 [
      (nI 0, bnd (f7_sum 14 S) fun q2 S3 =>
      some (q2, S3)),
      (nI 1, bnd (f7_hasAnswer 14 S) fun q4 S5 =>
      if q4 = 0 then
        some ((-2), S5)
      else
      bnd (f7_answerSteps 14 S5) fun q7 S8 =>
      some (q7, S8)),
      (nI 2, bnd (f7_hasAnswer 14 S) fun q9 S10 =>
      if q9 = 0 then
        some ((-2), S10)
      else
      bnd (f7_factor 14 S10) fun q12 S13 =>
      some (q12, S13)),
      (nI 3, bnd (f7_begun 14 S) fun q14 S15 =>
      some (q14, S15)),
      (nI 4, bnd (f7_hanging 14 S) fun q16 S17 =>
      some (q16, S17))]
    (some ((-1), S))
def f11_say  (x1 : Int32) (S : St) : Option (Int32 × St) :=
  bnd (f11_isNumber x1 S) fun q1 S2 =>
  if q1 = 0 then
    some ((-1), S2)
  else
  bnd (f10_push x1 S2) fun q4 S5 =>
  if q4 = 0 then
    some ((-3), S5)
  else
  bnd (f10_length S5) fun q7 S8 =>
  some (q7, S8)
def f11_unsay   (S : St) : Option (Int32 × St) :=
  bnd (f10_length S) fun q1 S2 =>
  bnd (f10_beEmpty S2) fun q3 S4 =>
  some (q1, S4)
def f11_isSizeAndSteps  (x0 : Int32) (S : St) : Option (Int32 × St) :=
  lt (x0 / (nI 1000)) fun v1 =>
  lt (remI x0 (nI 1000)) fun v2 =>
  if x0 ≤ 0 then
    some (nI 0, S)
  else
  if v1 < (nI 1) then
    some (nI 0, S)
  else
  if (nI 12) < v1 then
    some (nI 0, S)
  else
  if v2 < (nI 1) then
    some (nI 0, S)
  else
  if (nI 200) < v2 then
    some (nI 0, S)
  else
  some (nI 1, S)
def f11_votes_j44 (N : Nat) (x2 : Int32) (x3 : Int32) (x4 : Int32) (a5 : Nat)   (S : St) : Option (Int32 × St) :=
  bnd (f5_hold N a5 (x2 / (nI 1000)) (remI x2 (nI 1000)) S) fun q1 S2 =>
  sw x3 [
      (nI 0, bnd (f5_votesFor x4 S2) fun q3 S4 =>
      some (q3, S4)),
      (nI 1, bnd (f5_most N S2) fun q5 S6 =>
      some (q5, S6)),
      (nI 2, bnd (f5_all S2) fun q7 S8 =>
      some (q7, S8))]
    (bnd (f5_open S2) fun q9 S10 =>
    some (q9, S10))
def f11_votes (N : Nat) (x1 : Int32) (x2 : Int32) (x3 : Int32) (x4 : Int32) (S : St) : Option (Int32 × St) :=
  bnd (f11_languageAt x1 S) fun q1 S2 =>
  ifN q1
    (some ((-1), S2)) fun b3 => ckA ad3 b3 <|
  bnd (f11_isSizeAndSteps x2 S2) fun q4 S5 =>
  if q4 = 0 then
    some ((-1), S5)
  else
  if x3 < 0 then
    some ((-1), S5)
  else
  if x3 ≤ (nI 3) then
    if x3 = 0 then
      bnd (f11_isNumber x4 S5) fun q10 S11 =>
      if q10 = 0 then
        some ((-1), S11)
      else
      f11_votes_j44 N x2 x3 x4 b3 S11
    else
    f11_votes_j44 N x2 x3 x4 b3 S5
  else
  some ((-1), S5)
def f11_shortest (N : Nat) (x1 : Int32) (x2 : Int32) (x3 : Int32) (S : St) : Option (Int32 × St) :=
  bnd (f11_languageAt x1 S) fun q1 S2 =>
  ifN q1
    (some ((-1), S2)) fun b3 => ckA ad3 b3 <|
  bnd (f11_isSizeAndSteps x2 S2) fun q4 S5 =>
  if q4 = 0 then
    some ((-1), S5)
  else
  if x3 < 0 then
    some ((-1), S5)
  else
  if x3 ≤ (nI 2) then
    bnd (f5_findShortest N b3 (x2 / (nI 1000)) (remI x2 (nI 1000)) S5) fun q9 S10 =>
    if x3 = (nI 2) then
      bnd (f5_howManyJust S10) fun q26 S27 =>
      some (q26, S27)
    else
    bnd (f5_howManyJust S10) fun q12 S13 =>
    if q12 = 0 then
      some ((-2), S13)
    else
    if x3 = (nI 1) then
      bnd (f5_isShown S13) fun q23 S24 =>
      if q23 = 0 then
        some (nI 0, S24)
      else
      some (nI 1, S24)
    else
    bnd (f5_shortestOne S13) fun q16 S17 =>
    onR q16 fun b18 => ckA ad6 b18 <|
    bnd (f6_become 2 b18 S17) fun q19 S20 =>
    bnd (f3_sizeOf N b3 2 S20) fun q21 S22 =>
    some (q21, S22)
  else
  some ((-1), S5)
def f11_census_j94 (N : Nat) (x2 : Int32) (x4 : Int32)   (S : St) : Option (Int32 × St) :=
  sw x4 [
      (nI 0, bnd (f2_programs S) fun q1 S2 =>
      some (q1, S2)),
      (nI 1, bnd (f2_ended S) fun q3 S4 =>
      some (q3, S4)),
      (nI 2, bnd (f2_hanging S) fun q5 S6 =>
      some (q5, S6)),
      (nI 3, bnd (f2_unsettled S) fun q7 S8 =>
      some (q7, S8)),
      (nI 4, bnd (f2_mostSteps S) fun q9 S10 =>
      some (q9, S10)),
      (nI 5, bnd (f2_share S) fun q11 S12 =>
      some (q11, S12))]
    (bnd (f2_sureBits N (x2 / (nI 1000)) S) fun q13 S14 =>
    some (q13, S14))
def f11_census (N : Nat) (x1 : Int32) (x2 : Int32) (x3 : Int32) (x4 : Int32) (S : St) : Option (Int32 × St) :=
  bnd (f11_languageAt x1 S) fun q1 S2 =>
  ifN q1
    (some ((-1), S2)) fun b3 => ckA ad3 b3 <|
  bnd (f11_isSizeAndSteps x2 S2) fun q4 S5 =>
  if q4 = 0 then
    some ((-1), S5)
  else
  bnd (f11_isNumber x3 S5) fun q7 S8 =>
  if q7 = 0 then
    some ((-1), S8)
  else
  if x4 < 0 then
    some ((-1), S8)
  else
  if x4 ≤ (nI 6) then
    bnd (f2_take N b3 (x2 / (nI 1000)) (remI x2 (nI 1000)) x3 S8) fun q12 S13 =>
    if x4 = (nI 4) then
      bnd (f2_mostSteps S13) fun q15 S16 =>
      if q15 ≤ 0 then
        f11_census_j94 N x2 x4 S16
      else
      bnd (f2_slowest S16) fun q18 S19 =>
      onR q18 fun b20 => ckA ad6 b20 <|
      bnd (f6_become 2 b20 S19) fun q21 S22 =>
      f11_census_j94 N x2 x4 S22
    else
    f11_census_j94 N x2 x4 S13
  else
  some ((-1), S8)
def f11_helped (N : Nat) (x1 : Int32) (S : St) : Option (Int32 × St) :=
  bnd (f11_languageAt x1 S) fun q1 S2 =>
  ifN q1
    (some ((-1), S2)) fun b3 => ckA ad3 b3 <|
  bnd (f3_sizeOf N b3 2 S2) fun q4 S5 =>
  if 0 ≤ q4 then
    if (S5.1 0 1) < (nI 6) then
      ckI (S5.1 0 1) 6 <|
      bnd (f3_beHelped N (50 + 11 * (S5.1 0 1).toNatClampNeg) b3 2 S5) fun q9 S10 =>
      lt (wI S10 0 1 ((S10.1 0 1) + (nI 1))) fun S11 =>
      some ((S11.1 0 1) - (nI 1), S11)
    else
    some ((-3), S5)
  else
  some ((-5), S5)
def f11_isPart_h38 (N : Nat) (x2 : Int32)  : Nat → Int32 → St → Option (Int32 × St)
  | 0, _, _ => none
  | n + 1, x3, S =>
    if x2 < x3 then
      some (nI 1, S)
    else
    bnd (f6_orderAt 2 x3 S) fun q2 S3 =>
    if q2 = 0 then
      some (nI 0, S3)
    else
    bnd (f6_orderAt 2 x3 S3) fun q5 S6 =>
    if q5 < (nI 8) then
      f11_isPart_h38 N x2 n (x3 + nI 1) S6
    else
    some (nI 0, S6)
def f11_isPart (N : Nat) (x1 : Int32) (x2 : Int32) (S : St) : Option (Int32 × St) :=
  if x1 < 0 then
    some (nI 0, S)
  else
  if x2 < x1 then
    some (nI 0, S)
  else
  bnd (f6_length 2 S) fun q3 S4 =>
  if q3 ≤ x2 then
    some (nI 0, S4)
  else
  if (x2 - x1) < (nI 1) then
    some (nI 0, S4)
  else
  if (x2 - x1) ≤ (nI 3) then
    f11_isPart_h38 N x2 N x1 S4
  else
  some (nI 0, S4)
def f11_learn (N : Nat) (x1 : Int32) (x2 : Int32) (x3 : Int32) (x4 : Int32) (S : St) : Option (Int32 × St) :=
  bnd (f11_languageAt x1 S) fun q1 S2 =>
  ifN q1
    (some ((-1), S2)) fun b3 => ckA ad3 b3 <|
  bnd (f11_isPart N x2 x3 S2) fun q4 S5 =>
  if q4 = 0 then
    some ((-1), S5)
  else
  if x4 < (nI 1) then
    some ((-1), S5)
  else
  if (nI 6) < x4 then
    some ((-1), S5)
  else
  bnd (f3_howManyOrders b3 S5) fun q9 S10 =>
  if q9 < (nI 12) then
    bnd (f3_sizeOf N b3 2 S10) fun q12 S13 =>
    if q12 < 0 then
      some ((-5), S13)
    else
    bnd (f3_sum N b3 S13) fun q15 S16 =>
    if (q15 + (shrI (nI 64) x4)) ≤ (nI 64) then
      if (S16.1 0 1) < (nI 6) then
        ckI (S16.1 0 1) 6 <|
        bnd (f3_beTaught N (50 + 11 * (S16.1 0 1).toNatClampNeg) b3 2 x2 x3 x4 S16) fun q20 S21 =>
        lt (wI S21 0 1 ((S21.1 0 1) + (nI 1))) fun S22 =>
        some ((S22.1 0 1) - (nI 1), S22)
      else
      some ((-3), S16)
    else
    some ((-5), S16)
  else
  some ((-1), S10)
def f11_cheaper (N : Nat) (x1 : Int32) (x2 : Int32) (x3 : Int32) (x4 : Int32) (S : St) : Option (Int32 × St) :=
  bnd (f11_languageAt x1 S) fun q1 S2 =>
  bnd (f11_languageAt x2 S2) fun q3 S4 =>
  bnd (f11_taskAt x3 S4) fun q5 S6 =>
  ifN q1
    (some ((-2000000000), S6)) fun b7 => ckA ad3 b7 <|
  ifN q3
    (some ((-2000000000), S6)) fun b8 => ckA ad3 b8 <|
  ifN q5
    (some ((-2000000000), S6)) fun b9 => ckA ad1 b9 <|
  bnd (f11_isPhase x4 S6) fun q10 S11 =>
  if q10 = 0 then
    some ((-2000000000), S11)
  else
  bnd (f7_look N 19 b7 b9 x4 S11) fun q13 S14 =>
  bnd (f7_hasAnswer 19 S14) fun q15 S16 =>
  if q15 = 0 then
    some ((-2000000000), S16)
  else
  bnd (f7_sum 19 S16) fun q18 S19 =>
  bnd (f7_look N 19 b8 b9 x4 S19) fun q20 S21 =>
  bnd (f7_hasAnswer 19 S21) fun q22 S23 =>
  if q22 = 0 then
    some ((-2000000000), S23)
  else
  bnd (f7_sum 19 S23) fun q25 S26 =>
  some (q18 - q25, S26)
def f11_price_h43 (N : Nat) (a3 : Nat) (a4 : Nat)  : Nat → Int32 → Int32 → St → Option (Int32 × St)
  | 0, _, _, _ => none
  | n + 1, x5, x6, S =>
    if (nI 8) ≤ x6 then
      some (x5, S)
    else
    bnd (f3_bitsOf a4 x6 S) fun q2 S3 =>
    bnd (f3_bitsOf a3 x6 S3) fun q4 S5 =>
    lt (maxI x5 (q2 - q4)) fun v6 =>
    f11_price_h43 N a3 a4 n v6 (x6 + nI 1) S5
def f11_price (N : Nat) (x1 : Int32) (x2 : Int32) (S : St) : Option (Int32 × St) :=
  bnd (f11_languageAt x1 S) fun q1 S2 =>
  bnd (f11_languageAt x2 S2) fun q3 S4 =>
  ifN q1
    (some ((-2000000000), S4)) fun b5 => ckA ad3 b5 <|
  ifN q3
    (some ((-2000000000), S4)) fun b6 => ckA ad3 b6 <|
  bnd (f3_bitsOf b6 (nI 0) S4) fun q7 S8 =>
  bnd (f3_bitsOf b5 (nI 0) S8) fun q9 S10 =>
  lt (q7 - q9) fun v11 =>
  f11_price_h43 N b5 b6 N v11 (nI 1) S10
def f11_translated_h74 (N : Nat) (a3 : Nat) (a4 : Nat) (x5 : Int32) (x6 : Int32) (k48 : Int32 → St → Option (Int32 × St)) : Nat → Int32 → St → Option (Int32 × St)
  | 0, _, _ => none
  | n + 1, x7, S =>
    bnd (f3_writtenLength a3 x6 S) fun q1 S2 =>
    if q1 ≤ x7 then
      k48 (x5 + nI 1) S2
    else
    bnd (f3_written a3 x6 x7 S2) fun q4 S5 =>
    bnd (f6_push 4 q4 S5) fun q6 S7 =>
    if q6 = 0 then
      some ((-2), S7)
    else
    f11_translated_h74 N a3 a4 x5 x6 k48 n (x7 + nI 1) S7
def f11_translated_h48 (N : Nat) (a3 : Nat) (a4 : Nat)  : Nat → Int32 → St → Option (Int32 × St)
  | 0, _, _ => none
  | n + 1, x5, S =>
    bnd (f6_length 2 S) fun q1 S2 =>
    if q1 ≤ x5 then
      bnd (f3_sizeOf N a4 4 S2) fun q4 S5 =>
      some (q4, S5)
    else
    bnd (f6_orderAt 2 x5 S2) fun q6 S7 =>
    f11_translated_h74 N a3 a4 x5 q6 (f11_translated_h48 N a3 a4 n) N (nI 0) S7
def f11_translated (N : Nat) (x1 : Int32) (x2 : Int32) (S : St) : Option (Int32 × St) :=
  bnd (f11_languageAt x1 S) fun q1 S2 =>
  bnd (f11_languageAt x2 S2) fun q3 S4 =>
  ifN q1
    (some ((-1), S4)) fun b5 => ckA ad3 b5 <|
  ifN q3
    (some ((-1), S4)) fun b6 => ckA ad3 b6 <|
  bnd (f3_sizeOf N b5 2 S4) fun q7 S8 =>
  if 0 ≤ q7 then
    bnd (f6_beEmpty 4 S8) fun q10 S11 =>
    f11_translated_h48 N b5 b6 N (nI 0) S11
  else
  some ((-5), S8)
def f11_languageOfOrder_j16  (x1 : Int32)  (rs0 : Option Nat) (S : St) : Option (Option Nat × St) :=
  ifN rs0
    (some (none, S)) fun b1 => ckA ad3 b1 <|
  bnd (f3_has b1 (remI x1 (nI 100)) S) fun q2 S3 =>
  if q2 = 0 then
    some (none, S3)
  else
  some (some b1, S3)
def f11_languageOfOrder  (x1 : Int32) (S : St) : Option (Option Nat × St) :=
  if 0 ≤ x1 then
    bnd (f11_languageAt (x1 / (nI 100)) S) fun q2 S3 =>
    f11_languageOfOrder_j16 x1 q2 S3
  else
  f11_languageOfOrder_j16 x1 none S
def f11_act (N : Nat) (x1 : Int32) (x2 : Int32) (x3 : Int32) (S : St) : Option (Int32 × St) :=
  bnd (f0_beEmpty S) fun q1 S2 =>
  bnd (f11_languageOfOrder x1 S2) fun q3 S4 =>
  ifN q3
    (some (nI 0, S4)) fun b5 => ckA ad3 b5 <|
  if x2 < 0 then
    some (nI 0, S4)
  else
  if x2 ≤ (nI 3) then
    bnd (f3_bitsOf b5 (remI x1 (nI 100)) S4) fun q8 S9 =>
    bnd (f0_perform N (remI x1 (nI 100)) q8 x2 x3 S9) fun q10 S11 =>
    some (q10, S11)
  else
  some (nI 0, S4)
def f11_trace  (x1 : Int32) (S : St) : Option (Int32 × St) :=
  bnd (f0_keptAt x1 S) fun q1 S2 =>
  some (q1, S2)
def f11_keep  (x1 : Int32) (x2 : Int32) (S : St) : Option (Int32 × St) :=
  bnd (f8_isShelf x1 S) fun q1 S2 =>
  if q1 = 0 then
    some ((-1), S2)
  else
  if x2 = (-1) then
    bnd (f8_holdNothing x1 S2) fun q10 S11 =>
    some (nI 1, S11)
  else
  bnd (f11_languageOfOrder x2 S2) fun q5 S6 =>
  ifN q5
    (some ((-1), S6)) fun b7 => ckA ad3 b7 <|
  bnd (f8_holdOrder x1 x2 S6) fun q8 S9 =>
  some (nI 1, S9)
def f11_row  (x1 : Int32) (x2 : Int32) (x3 : Int32) (S : St) : Option (Int32 × St) :=
  bnd (f8_isShelf x1 S) fun q1 S2 =>
  if q1 = 0 then
    some ((-1), S2)
  else
  if x2 < 0 then
    some ((-1), S2)
  else
  if (nI 4) < x2 then
    some ((-1), S2)
  else
  if x3 ≤ (nI 60) then
    if 0 ≤ x3 then
      bnd (f8_holdRow x1 x2 x3 S2) fun q8 S9 =>
      some (nI 1, S9)
    else
    some ((-14), S2)
  else
  some ((-1), S2)
def f11_hasPlaces  (x1 : Int32) (x2 : Int32) (x3 : Int32) (S : St) : Option (Int32 × St) :=
  if x2 < 0 then
    some (nI 0, S)
  else
  bnd (f8_length x1 S) fun q2 S3 =>
  if q2 < x2 then
    some (nI 0, S3)
  else
  bnd (f8_length x1 S3) fun q5 S6 =>
  if (q5 - x2) < x3 then
    some (nI 0, S6)
  else
  some (nI 1, S6)
def f11_refusalAt  (x1 : Int32) (x2 : Int32) (S : St) : Option (Int32 × St) :=
  bnd (f8_isShelf x1 S) fun q1 S2 =>
  if q1 = 0 then
    some ((-1), S2)
  else
  bnd (f8_holdsNothing x1 S2) fun q4 S5 =>
  if q4 = 0 then
    bnd (f8_holdsRow x1 S5) fun q7 S8 =>
    if q7 = 0 then
      some ((-12), S8)
    else
    bnd (f11_hasPlaces x1 x2 (nI 1) S8) fun q10 S11 =>
    if q10 = 0 then
      some ((-13), S11)
    else
    some (nI 0, S11)
  else
  some ((-11), S5)
def f11_put  (x1 : Int32) (x2 : Int32) (l3 : Int64) (S : St) : Option (Int32 × St) :=
  bnd (f11_refusalAt x1 x2 S) fun q1 S2 =>
  if q1 = 0 then
    bnd (f8_set x1 x2 l3 S2) fun q4 S5 =>
    some (nI 1, S5)
  else
  some (q1, S2)
def f11_element  (x1 : Int32) (x2 : Int32) (S : St) : Option (Int64 × St) :=
  bnd (f11_refusalAt x1 x2 S) fun q1 S2 =>
  if q1 = 0 then
    bnd (f8_get x1 x2 S2) fun q4 S5 =>
    some (q4, S5)
  else
  some ((-9223372036854775808), S2)
def f11_shift  (x1 : Int32) (x2 : Int32) (x3 : Int32) (x4 : Int32) (x5 : Int32) (S : St) : Option (Int32 × St) :=
  bnd (f8_isShelf x1 S) fun q1 S2 =>
  if q1 = 0 then
    some ((-1), S2)
  else
  bnd (f8_isShelf x3 S2) fun q4 S5 =>
  if q4 = 0 then
    some ((-1), S5)
  else
  bnd (f8_holdsNothing x1 S5) fun q7 S8 =>
  if q7 = 0 then
    bnd (f8_holdsNothing x3 S8) fun q10 S11 =>
    if q10 = 0 then
      bnd (f8_holdsRow x1 S11) fun q13 S14 =>
      if q13 = 0 then
        some ((-12), S14)
      else
      bnd (f8_sort x1 S14) fun q16 S17 =>
      bnd (f8_sort x3 S17) fun q18 S19 =>
      if q16 = q18 then
        if x5 < 0 then
          some ((-13), S19)
        else
        bnd (f11_hasPlaces x1 x2 x5 S19) fun q22 S23 =>
        if q22 = 0 then
          some ((-13), S23)
        else
        bnd (f11_hasPlaces x3 x4 x5 S23) fun q25 S26 =>
        if q25 = 0 then
          some ((-13), S26)
        else
        bnd (f8_copy x1 x2 x3 x4 x5 S26) fun q28 S29 =>
        some (x5, S29)
      else
      some ((-12), S19)
    else
    some ((-11), S11)
  else
  some ((-11), S8)
def f11_taken (N : Nat) (x1 : Int32) (x2 : Int32) (S : St) : Option (Int32 × St) :=
  bnd (f8_isShelf x1 S) fun q1 S2 =>
  if q1 = 0 then
    some ((-1), S2)
  else
  if x2 < 0 then
    some ((-1), S2)
  else
  if x2 ≤ (nI 6) then
    bnd (f8_holdsNothing x1 S2) fun q6 S7 =>
    if q6 = 0 then
      bnd (f8_holdsRow x1 S7) fun q9 S10 =>
      if q9 = 0 then
        bnd (f8_heldOrder x1 S10) fun q12 S13 =>
        bnd (f0_kindOf (remI q12 (nI 100)) S13) fun q14 S15 =>
        bnd (f0_isUnder N q14 x2 S15) fun q16 S17 =>
        if q16 = 0 then
          some ((-12), S17)
        else
        some (q14, S17)
      else
      some ((-12), S10)
    else
    some ((-11), S7)
  else
  some ((-1), S2)
def f11_count  (x1 : Int32) (S : St) : Option (Int32 × St) :=
  sw x1 [
      (nI 0, some (S.1 0 1, S)),
      (nI 1, some (S.1 0 9, S)),
      (nI 2, bnd (f9_length S) fun q1 S2 =>
      some (q1, S2)),
      (nI 3, bnd (f10_length S) fun q3 S4 =>
      some (q3, S4)),
      (nI 4, bnd (f0_began S) fun q5 S6 =>
      some (q5, S6))]
    (some ((-1), S))
def f12_within  (l0 : Int64) (l2 : Int64) (l4 : Int64) (S : St) : Option (Int32 × St) :=
  if (cmpL l0 l2) < 0 then
    some (nI 0, S)
  else
  if 0 < (cmpL l0 l4) then
    some (nI 0, S)
  else
  some (nI 1, S)
def f12_isLanguage  (x1 : Int32) (S : St) : Option (Int32 × St) :=
  if x1 < 0 then
    some (nI 0, S)
  else
  if (S.1 146 6) ≤ x1 then
    some (nI 0, S)
  else
  some (nI 1, S)
def f12_ordersOf  (x1 : Int32) (S : St) : Option (Int32 × St) :=
  ckI x1 6 <|
  some ((nI 8) + (S.1 152 x1.toNatClampNeg), S)
def f12_hasOrder  (x1 : Int32) (x2 : Int32) (S : St) : Option (Int32 × St) :=
  if x2 < 0 then
    some (nI 0, S)
  else
  bnd (f12_ordersOf x1 S) fun q2 S3 =>
  if q2 ≤ x2 then
    some (nI 0, S3)
  else
  some (nI 1, S3)
def f12_sumOf_h4 (N : Nat) (x1 : Int32)  : Nat → Int32 → Int32 → St → Option (Int32 × St)
  | 0, _, _, _ => none
  | n + 1, x2, x3, S =>
    bnd (f12_ordersOf x1 S) fun q1 S2 =>
    if q1 ≤ x3 then
      some (x2, S2)
    else
    ckI (((nI 12) * x1) + x3) 72 <|
    lt (x2 + (shrI (nI 64) (S2.1 147 (((nI 12) * x1) + x3).toNatClampNeg))) fun v4 =>
    f12_sumOf_h4 N x1 n v4 (x3 + nI 1) S2
def f12_sumOf (N : Nat) (x1 : Int32) (S : St) : Option (Int32 × St) :=
  f12_sumOf_h4 N x1 N (nI 0) (nI 0) S
def f12_giveCodes_j64 (N : Nat) (x1 : Int32) (x2 : Int32) (x5 : Int32) (x6 : Int32) (k10 : Int32 → Int32 → Int32 → Int32 → St → Option (Unit × St)) (k20 : Int32 → Int32 → Int32 → Int32 → St → Option (Unit × St)) (xs0 : Int32) (S : St) : Option (Unit × St) :=
  ckI (((nI 12) * x1) + x6) 72 <|
  lt (wI S 148 ((((nI 12) * x1) + x6).toNatClampNeg) xs0) fun S1 =>
  ckI (((nI 12) * x1) + x2) 72 <|
  lt (wI S1 149 ((((nI 12) * x1) + x2).toNatClampNeg) x6) fun S2 =>
  k20 (x2 + nI 1) xs0 x5 (x6 + nI 1) S2
def f12_giveCodes_h20 (N : Nat) (x1 : Int32) (x5 : Int32) (k10 : Int32 → Int32 → Int32 → Int32 → St → Option (Unit × St)) : Nat → Int32 → Int32 → Int32 → Int32 → St → Option (Unit × St)
  | 0, _, _, _, _, _ => none
  | n + 1, x2, x3, x4, x6, S =>
    bnd (f12_ordersOf x1 S) fun q1 S2 =>
    if q1 ≤ x6 then
      k10 x2 x3 x4 (x5 + nI 1) S2
    else
    ckI (((nI 12) * x1) + x6) 72 <|
    if (S2.1 147 (((nI 12) * x1) + x6).toNatClampNeg) = x5 then
      if x2 = 0 then
        f12_giveCodes_j64 N x1 x2 x5 x6 k10 (f12_giveCodes_h20 N x1 x5 k10 n) (nI 0) S2
      else
      f12_giveCodes_j64 N x1 x2 x5 x6 k10 (f12_giveCodes_h20 N x1 x5 k10 n) (shlI (x3 + (nI 1)) (x5 - x4)) S2
    else
    f12_giveCodes_h20 N x1 x5 k10 n x2 x3 x4 (x6 + nI 1) S2
def f12_giveCodes_h10 (N : Nat) (x1 : Int32)  : Nat → Int32 → Int32 → Int32 → Int32 → St → Option (Unit × St)
  | 0, _, _, _, _, _ => none
  | n + 1, x2, x3, x4, x5, S =>
    if (nI 6) < x5 then
      some ((), S)
    else
    f12_giveCodes_h20 N x1 x5 (f12_giveCodes_h10 N x1 n) N x2 x3 x4 (nI 0) S
def f12_giveCodes (N : Nat) (x1 : Int32) (S : St) : Option (Unit × St) :=
  f12_giveCodes_h10 N x1 N (nI 0) (nI 0) (nI 0) (nI 1) S
def f12_language_h132 (N : Nat)   : Nat → Int32 → Int32 → St → Option (Int32 × St)
  | 0, _, _, _ => none
  | n + 1, x2, x5, S =>
    if x5 < 0 then
      ckI (S.1 146 6) 6 <|
      lt (wI S 152 ((S.1 146 6).toNatClampNeg) (nI 0)) fun S2 =>
      bnd (f12_giveCodes N (S2.1 146 6) S2) fun q3 S4 =>
      lt (wI S4 146 6 ((S4.1 146 6) + (nI 1))) fun S5 =>
      some ((S5.1 146 6) - (nI 1), S5)
    else
    ckI (((nI 12) * (S.1 146 6)) + x5) 72 <|
    lt (wI S 147 ((((nI 12) * (S.1 146 6)) + x5).toNatClampNeg) (remI x2 (nI 10))) fun S6 =>
    lt (x2 / (nI 10)) fun v7 =>
    f12_language_h132 N n v7 (x5 + (-1)) S6
def f12_language_h76 (N : Nat) (x1 : Int32)  : Nat → Int32 → Int32 → Int32 → St → Option (Int32 × St)
  | 0, _, _, _, _ => none
  | n + 1, x2, x4, x5, S =>
    if x5 < 0 then
      if x4 ≤ (nI 64) then
        if (S.1 146 6) = (nI 6) then
          some ((-3), S)
        else
        f12_language_h132 N N x1 (nI 7) S
      else
      some ((-5), S)
    else
    lt (x4 + (shrI (nI 64) (remI x2 (nI 10)))) fun v4 =>
    lt (x2 / (nI 10)) fun v5 =>
    f12_language_h76 N x1 n v5 v4 (x5 + (-1)) S
def f12_language_j45 (N : Nat) (x1 : Int32) (x2 : Int32) (x4 : Int32) (k16 : Int32 → Int32 → Int32 → St → Option (Int32 × St)) (xs0 : Int32) (S : St) : Option (Int32 × St) :=
  lt (x2 / (nI 10)) fun v1 =>
  k16 v1 xs0 (x4 + (-1)) S
def f12_language_j44 (N : Nat) (x1 : Int32) (x2 : Int32) (x4 : Int32) (k16 : Int32 → Int32 → Int32 → St → Option (Int32 × St))  (S : St) : Option (Int32 × St) :=
  f12_language_j45 N x1 x2 x4 k16 (nI 0) S
def f12_language_h16 (N : Nat) (x1 : Int32)  : Nat → Int32 → Int32 → Int32 → St → Option (Int32 × St)
  | 0, _, _, _, _ => none
  | n + 1, x2, x3, x4, S =>
    if x4 < 0 then
      if x3 = 0 then
        some ((-1), S)
      else
      if x2 ≤ 0 then
        f12_language_h76 N x1 N x1 (nI 0) (nI 7) S
      else
      some ((-1), S)
    else
    if x3 = 0 then
      f12_language_j44 N x1 x2 x4 (f12_language_h16 N x1 n) S
    else
    bnd (f12_within ((remI x2 (nI 10)).toInt64) (lN 1) (lN 6) S) fun q5 S6 =>
    if q5 = 0 then
      f12_language_j44 N x1 x2 x4 (f12_language_h16 N x1 n) S6
    else
    f12_language_j45 N x1 x2 x4 (f12_language_h16 N x1 n) (nI 1) S6
def f12_language_j11 (N : Nat) (x1 : Int32) (x2 : Int32)  (xs0 : Int32) (S : St) : Option (Int32 × St) :=
  f12_language_h16 N x1 N x2 xs0 (nI 7) S
def f12_language (N : Nat) (x1 : Int32) (S : St) : Option (Int32 × St) :=
  if x1 < 0 then
    f12_language_j11 N x1 x1 (nI 0) S
  else
  f12_language_j11 N x1 x1 (nI 1) S
def f12_of_j64 (N : Nat) (x1 : Int32) (x2 : Int32)   (S : St) : Option (Int32 × St) :=
  if x2 < (nI 30) then
    some ((-1), S)
  else
  bnd (f12_hasOrder x1 (x2 - (nI 30)) S) fun q2 S3 =>
  if q2 = 0 then
    some ((-1), S3)
  else
  ckI ((((nI 12) * x1) + x2) - (nI 30)) 72 <|
  some (S3.1 148 ((((nI 12) * x1) + x2) - (nI 30)).toNatClampNeg, S3)
def f12_of (N : Nat) (x1 : Int32) (x2 : Int32) (S : St) : Option (Int32 × St) :=
  bnd (f12_isLanguage x1 S) fun q1 S2 =>
  if q1 = 0 then
    some ((-1), S2)
  else
  if x2 = 0 then
    bnd (f12_ordersOf x1 S2) fun q12 S13 =>
    some (q12, S13)
  else
  if x2 = (nI 1) then
    bnd (f12_sumOf N x1 S2) fun q10 S11 =>
    some (q10, S11)
  else
  if x2 < (nI 10) then
    f12_of_j64 N x1 x2 S2
  else
  bnd (f12_hasOrder x1 (x2 - (nI 10)) S2) fun q7 S8 =>
  if q7 = 0 then
    f12_of_j64 N x1 x2 S8
  else
  ckI ((((nI 12) * x1) + x2) - (nI 10)) 72 <|
  some (S8.1 147 ((((nI 12) * x1) + x2) - (nI 10)).toNatClampNeg, S8)
def f12_part  (x1 : Int32) (x2 : Int32) (x3 : Int32) (S : St) : Option (Int32 × St) :=
  bnd (f12_isLanguage x1 S) fun q1 S2 =>
  if q1 = 0 then
    some ((-1), S2)
  else
  if x2 < (nI 8) then
    some ((-1), S2)
  else
  bnd (f12_hasOrder x1 x2 S2) fun q5 S6 =>
  if q5 = 0 then
    some ((-1), S6)
  else
  lt ((((nI 4) * x1) + x2) - (nI 8)) fun v8 =>
  if x3 = (-1) then
    ckI v8 24 <|
    some (S6.1 151 v8.toNatClampNeg, S6)
  else
  if x3 < 0 then
    some ((-1), S6)
  else
  ckI v8 24 <|
  if (S6.1 151 v8.toNatClampNeg) ≤ x3 then
    some ((-1), S6)
  else
  ckI (((nI 4) * v8) + x3) 96 <|
  some (S6.1 150 (((nI 4) * v8) + x3).toNatClampNeg, S6)
def f12_clear   (S : St) : Option (Int32 × St) :=
  lt (S.1 146 8) fun v1 =>
  lt (wI S 146 8 (nI 0)) fun S2 =>
  some (v1, S2)
def f12_add_j35  (x1 : Int32)   (S : St) : Option (Int32 × St) :=
  if (S.1 146 8) = (nI 12) then
    some ((-3), S)
  else
  ckI (S.1 146 8) 12 <|
  lt (wI S 153 ((S.1 146 8).toNatClampNeg) x1) fun S2 =>
  lt (wI S2 146 8 ((S2.1 146 8) + (nI 1))) fun S3 =>
  some (S3.1 146 8, S3)
def f12_add  (x1 : Int32) (S : St) : Option (Int32 × St) :=
  bnd (f12_within x1.toInt64 (lN 0) (lN 11) S) fun q1 S2 =>
  if q1 = 0 then
    some ((-1), S2)
  else
  if (S2.1 146 8) ≤ 0 then
    f12_add_j35 x1 S2
  else
  ckI ((S2.1 146 8) - (nI 1)) 12 <|
  if (S2.1 153 ((S2.1 146 8) - (nI 1)).toNatClampNeg) = 0 then
    some ((-1), S2)
  else
  f12_add_j35 x1 S2
def f12_order  (x1 : Int32) (S : St) : Option (Int32 × St) :=
  if x1 = (-1) then
    some (S.1 146 8, S)
  else
  if x1 < 0 then
    some ((-1), S)
  else
  if (S.1 146 8) ≤ x1 then
    some ((-1), S)
  else
  ckI x1 12 <|
  some (S.1 153 x1.toNatClampNeg, S)
def f12_isProgram_j71 (N : Nat) (x1 : Int32) (x3 : Int32) (k40 : Int32 → Int32 → St → Option (Int32 × St)) (xs0 : Int32) (S : St) : Option (Int32 × St) :=
  k40 xs0 (x3 + nI 1) S
def f12_isProgram_j70 (N : Nat) (x1 : Int32) (x3 : Int32) (k40 : Int32 → Int32 → St → Option (Int32 × St))  (S : St) : Option (Int32 × St) :=
  f12_isProgram_j71 N x1 x3 k40 (nI 0) S
def f12_isProgram_h40 (N : Nat) (x1 : Int32)  : Nat → Int32 → Int32 → St → Option (Int32 × St)
  | 0, _, _, _ => none
  | n + 1, x2, x3, S =>
    if (S.1 146 8) ≤ x3 then
      ckB x2 <|
      some (x2, S)
    else
    if x2 = 0 then
      f12_isProgram_j70 N x1 x3 (f12_isProgram_h40 N x1 n) S
    else
    ckI x3 12 <|
    bnd (f12_hasOrder x1 (S.1 153 x3.toNatClampNeg) S) fun q3 S4 =>
    if q3 = 0 then
      f12_isProgram_j70 N x1 x3 (f12_isProgram_h40 N x1 n) S4
    else
    f12_isProgram_j71 N x1 x3 (f12_isProgram_h40 N x1 n) (nI 1) S4
def f12_isProgram_j37 (N : Nat) (x1 : Int32)  (xs0 : Int32) (S : St) : Option (Int32 × St) :=
  f12_isProgram_h40 N x1 N xs0 (nI 0) S
def f12_isProgram_j36 (N : Nat) (x1 : Int32)   (S : St) : Option (Int32 × St) :=
  f12_isProgram_j37 N x1 (nI 0) S
def f12_isProgram_j28 (N : Nat) (x1 : Int32)  (xs0 : Int32) (S : St) : Option (Int32 × St) :=
  ckI xs0 12 <|
  if (S.1 153 xs0.toNatClampNeg) = 0 then
    f12_isProgram_j37 N x1 (nI 1) S
  else
  f12_isProgram_j36 N x1 S
def f12_isProgram (N : Nat) (x1 : Int32) (S : St) : Option (Int32 × St) :=
  if (S.1 146 8) ≤ 0 then
    f12_isProgram_j36 N x1 S
  else
  if (S.1 146 8) ≤ 0 then
    f12_isProgram_j28 N x1 (nI 0) S
  else
  f12_isProgram_j28 N x1 ((S.1 146 8) - (nI 1)) S
def f12_sizeIn_h4 (N : Nat) (x1 : Int32)  : Nat → Int32 → Int32 → St → Option (Int32 × St)
  | 0, _, _, _ => none
  | n + 1, x2, x3, S =>
    if (S.1 146 8) ≤ x3 then
      some (x2, S)
    else
    ckI x3 12 <|
    ckI (((nI 12) * x1) + (S.1 153 x3.toNatClampNeg)) 72 <|
    lt (x2 + (S.1 147 (((nI 12) * x1) + (S.1 153 x3.toNatClampNeg)).toNatClampNeg)) fun v2 =>
    f12_sizeIn_h4 N x1 n v2 (x3 + nI 1) S
def f12_sizeIn (N : Nat) (x1 : Int32) (S : St) : Option (Int32 × St) :=
  f12_sizeIn_h4 N x1 N (nI 0) (nI 0) S
def f12_size (N : Nat) (x1 : Int32) (S : St) : Option (Int32 × St) :=
  bnd (f12_isLanguage x1 S) fun q1 S2 =>
  if q1 = 0 then
    some ((-1), S2)
  else
  bnd (f12_isProgram N x1 S2) fun q4 S5 =>
  if q4 = 0 then
    some ((-5), S5)
  else
  bnd (f12_sizeIn N x1 S5) fun q7 S8 =>
  some (q7, S8)
def f12_packed_h9 (N : Nat)   : Nat → Int64 → Int32 → St → Option (Int64 × St)
  | 0, _, _, _ => none
  | n + 1, l1, x3, S =>
    if x3 < 0 then
      some (l1, S)
    else
    ckI x3 12 <|
    lt ((shlL l1 (nI 4)) ||| ((S.1 153 x3.toNatClampNeg).toInt64)) fun v2 =>
    f12_packed_h9 N n v2 (x3 + (-1)) S
def f12_packed (N : Nat)  (S : St) : Option (Int64 × St) :=
  lt ((S.1 146 8) - (nI 1)) fun v1 =>
  f12_packed_h9 N N (lN 0) v1 S
def f12_lookAt_j47 (N : Nat) (l4 : Int64) (k10 : Int32 → Int64 → St → Option (Unit × St)) (xs0 : Int32) (S : St) : Option (Unit × St) :=
  lt (shrL l4 (nI 4)) fun v1 =>
  lt (wI S 146 8 ((S.1 146 8) + (nI 1))) fun S2 =>
  k10 xs0 v1 S2
def f12_lookAt_h10 (N : Nat)   : Nat → Int32 → Int64 → St → Option (Unit × St)
  | 0, _, _, _ => none
  | n + 1, x3, l4, S =>
    if x3 = 0 then
      some ((), S)
    else
    ckI (S.1 146 8) 12 <|
    lt (wI S 153 ((S.1 146 8).toNatClampNeg) ((l4 &&& (lN 15)).toInt32)) fun S2 =>
    ckI (S2.1 146 8) 12 <|
    if (S2.1 153 (S2.1 146 8).toNatClampNeg) = 0 then
      f12_lookAt_j47 N l4 (f12_lookAt_h10 N n) (nI 0) S2
    else
    f12_lookAt_j47 N l4 (f12_lookAt_h10 N n) (nI 1) S2
def f12_lookAt (N : Nat) (l1 : Int64) (S : St) : Option (Unit × St) :=
  lt (wI S 146 8 (nI 0)) fun S1 =>
  f12_lookAt_h10 N N (nI 1) l1 S1
def f12_write_h88 (N : Nat) (x1 : Int32) (l4 : Int64) (x6 : Int32) (x8 : Int32) (k11 : Int64 → Int32 → St → Option (Unit × St)) : Nat → Int32 → St → Option (Unit × St)
  | 0, _, _ => none
  | n + 1, x9, S =>
    ckI x8 24 <|
    if (S.1 151 x8.toNatClampNeg) ≤ x9 then
      k11 l4 x6 S
    else
    ckI (((nI 4) * x8) + x9) 96 <|
    ckI (S.1 146 10) 48 <|
    lt (wI S 154 ((S.1 146 10).toNatClampNeg) (S.1 150 (((nI 4) * x8) + x9).toNatClampNeg)) fun S2 =>
    lt (wI S2 146 10 ((S2.1 146 10) + (nI 1))) fun S3 =>
    f12_write_h88 N x1 l4 x6 x8 k11 n (x9 + nI 1) S3
def f12_write_j41 (N : Nat) (x1 : Int32) (l4 : Int64) (x7 : Int32) (k11 : Int64 → Int32 → St → Option (Unit × St)) (xs0 : Int32) (S : St) : Option (Unit × St) :=
  if (nI 8) ≤ x7 then
    lt ((((nI 4) * x1) + x7) - (nI 8)) fun v2 =>
    f12_write_h88 N x1 l4 xs0 v2 k11 N (nI 0) S
  else
  ckI (S.1 146 10) 48 <|
  lt (wI S 154 ((S.1 146 10).toNatClampNeg) x7) fun S3 =>
  lt (wI S3 146 10 ((S3.1 146 10) + (nI 1))) fun S4 =>
  k11 l4 xs0 S4
def f12_write_h11 (N : Nat) (x1 : Int32)  : Nat → Int64 → Int32 → St → Option (Unit × St)
  | 0, _, _, _ => none
  | n + 1, l4, x6, S =>
    if x6 = 0 then
      some ((), S)
    else
    lt ((l4 &&& (lN 15)).toInt32) fun v2 =>
    lt (shrL l4 (nI 4)) fun v3 =>
    if v2 = 0 then
      f12_write_j41 N x1 v3 v2 (f12_write_h11 N x1 n) (nI 0) S
    else
    f12_write_j41 N x1 v3 v2 (f12_write_h11 N x1 n) (nI 1) S
def f12_write (N : Nat) (x1 : Int32) (l2 : Int64) (S : St) : Option (Unit × St) :=
  lt (wI S 146 10 (nI 0)) fun S1 =>
  f12_write_h11 N x1 N l2 (nI 1) S1
def f12_start  (x1 : Int32) (S : St) : Option (Unit × St) :=
  lt (wI S 146 11 x1) fun S1 =>
  lt (wI S1 146 12 (nI 0)) fun S2 =>
  lt (wI S2 146 13 (nI 0)) fun S3 =>
  lt (wI S3 146 14 (nI 0)) fun S4 =>
  lt (wI S4 146 15 (nI 0)) fun S5 =>
  ckI (nI 0) 4200 <|
  lt (wI S5 156 ((nI 0).toNatClampNeg) x1) fun S6 =>
  ckI (nI 0) 4200 <|
  lt (wI S6 157 ((nI 0).toNatClampNeg) (nI 0)) fun S7 =>
  ckI (nI 0) 4200 <|
  lt (wI S7 158 ((nI 0).toNatClampNeg) (nI 0)) fun S8 =>
  lt (wI S8 146 20 (nI 1)) fun S9 =>
  some ((), S9)
def f12_cameSo_j61 (N : Nat) (x2 : Int32) (k9 : Int32 → Int32 → St → Option (Int32 × St)) (xs0 : Int32) (S : St) : Option (Int32 × St) :=
  k9 xs0 (x2 + (-1)) S
def f12_cameSo_j60 (N : Nat) (x2 : Int32) (k9 : Int32 → Int32 → St → Option (Int32 × St))  (S : St) : Option (Int32 × St) :=
  f12_cameSo_j61 N x2 k9 (nI 0) S
def f12_cameSo_h9 (N : Nat)   : Nat → Int32 → Int32 → St → Option (Int32 × St)
  | 0, _, _, _ => none
  | n + 1, x1, x2, S =>
    if x2 < 0 then
      ckB x1 <|
      some (x1, S)
    else
    if x1 = 0 then
      ckI x2 4200 <|
      if (S.1 158 x2.toNatClampNeg) = (S.1 146 15) then
        ckI x2 4200 <|
        if (S.1 156 x2.toNatClampNeg) = (S.1 146 11) then
          ckI x2 4200 <|
          if (S.1 157 x2.toNatClampNeg) = (S.1 146 12) then
            f12_cameSo_j61 N x2 (f12_cameSo_h9 N n) (nI 1) S
          else
          f12_cameSo_j60 N x2 (f12_cameSo_h9 N n) S
        else
        f12_cameSo_j60 N x2 (f12_cameSo_h9 N n) S
      else
      ckB x1 <|
      some (x1, S)
    else
    ckB x1 <|
    some (x1, S)
def f12_cameSo (N : Nat)  (S : St) : Option (Int32 × St) :=
  lt ((S.1 146 20) - (nI 1)) fun v1 =>
  f12_cameSo_h9 N N (nI 0) v1 S
def f12_step_j276 (N : Nat)    (S : St) : Option (Int32 × St) :=
  if (S.1 146 13) < (S.1 146 10) then
    some (nI 2, S)
  else
  some (nI 0, S)
def f12_step (N : Nat)  (S : St) : Option (Int32 × St) :=
  ckI (S.1 146 13) 48 <|
  lt (S.1 154 (S.1 146 13).toNatClampNeg) fun v1 =>
  lt (wI S 146 14 ((S.1 146 14) + (nI 1))) fun S2 =>
  lt (wI S2 146 13 ((S2.1 146 13) + (nI 1))) fun S3 =>
  sw v1 [
      (nI 0, some (nI 0, S3)),
      (nI 1, lt (wI S3 146 11 (remI ((S3.1 146 11) + (nI 1)) (nI 1000))) fun S4 =>
      f12_step_j276 N S4),
      (nI 2, lt (wI S3 146 11 (remI ((S3.1 146 11) * (nI 2)) (nI 1000))) fun S5 =>
      f12_step_j276 N S5),
      (nI 3, if (S3.1 146 15) = (nI 8) then
        some (nI 0, S3)
      else
      ckI (S3.1 146 15) 8 <|
      lt (wI S3 155 ((S3.1 146 15).toNatClampNeg) (S3.1 146 11)) fun S7 =>
      lt (wI S7 146 15 ((S7.1 146 15) + (nI 1))) fun S8 =>
      f12_step_j276 N S8),
      (nI 4, lt (S3.1 146 11) fun v9 =>
      lt (wI S3 146 11 (S3.1 146 12)) fun S10 =>
      lt (wI S10 146 12 v9) fun S11 =>
      f12_step_j276 N S11),
      (nI 5, lt (wI S3 146 11 (remI ((S3.1 146 11) + (S3.1 146 12)) (nI 1000))) fun S12 =>
      f12_step_j276 N S12),
      (nI 6, if (nI 20) ≤ (S3.1 146 11) then
        f12_step_j276 N S3
      else
      lt (wI S3 146 13 (nI 0)) fun S14 =>
      bnd (f12_cameSo N S14) fun q15 S16 =>
      if q15 = 0 then
        ckI (S16.1 146 20) 4200 <|
        lt (wI S16 156 ((S16.1 146 20).toNatClampNeg) (S16.1 146 11)) fun S18 =>
        ckI (S18.1 146 20) 4200 <|
        lt (wI S18 157 ((S18.1 146 20).toNatClampNeg) (S18.1 146 12)) fun S19 =>
        ckI (S19.1 146 20) 4200 <|
        lt (wI S19 158 ((S19.1 146 20).toNatClampNeg) (S19.1 146 15)) fun S20 =>
        lt (wI S20 146 20 ((S20.1 146 20) + (nI 1))) fun S21 =>
        f12_step_j276 N S21
      else
      some (nI 1, S16))]
    (lt (wI S3 146 13 ((S3.1 146 13) + (remI (S3.1 146 11) (nI 2)))) fun S22 =>
    f12_step_j276 N S22)
def f12_runFor_h15 (N : Nat) (x5 : Int32)  : Nat → Int32 → St → Option (Int32 × St)
  | 0, _, _ => none
  | n + 1, x6, S =>
    if x6 = (nI 2) then
      if x5 ≤ (S.1 146 14) then
        some (x6, S)
      else
      bnd (f12_step N S) fun q3 S4 =>
      f12_runFor_h15 N x5 n q3 S4
    else
    some (x6, S)
def f12_runFor (N : Nat) (x1 : Int32) (l2 : Int64) (x4 : Int32) (x5 : Int32) (S : St) : Option (Int32 × St) :=
  bnd (f12_write N x1 l2 S) fun q1 S2 =>
  bnd (f12_start x4 S2) fun q3 S4 =>
  f12_runFor_h15 N x5 N (nI 2) S4
def f12_run_h93 (N : Nat) (x4 : Int32)  : Nat → Int32 → St → Option (Int32 × St)
  | 0, _, _ => none
  | n + 1, x5, S =>
    if (S.1 146 15) ≤ x5 then
      some (x4, S)
    else
    ckI x5 8 <|
    ckI x5 8 <|
    lt (wI S 159 x5.toNatClampNeg (S.1 155 x5.toNatClampNeg)) fun S2 =>
    f12_run_h93 N x4 n (x5 + nI 1) S2
def f12_run (N : Nat) (x1 : Int32) (x2 : Int32) (x3 : Int32) (S : St) : Option (Int32 × St) :=
  bnd (f12_isLanguage x1 S) fun q1 S2 =>
  if q1 = 0 then
    some ((-1), S2)
  else
  bnd (f12_within x2.toInt64 (lN 0) (lN 999) S2) fun q4 S5 =>
  if q4 = 0 then
    some ((-1), S5)
  else
  bnd (f12_within x3.toInt64 (lN 0) (lN 999) S5) fun q7 S8 =>
  if q7 = 0 then
    some ((-1), S8)
  else
  bnd (f12_isProgram N x1 S8) fun q10 S11 =>
  if q10 = 0 then
    some ((-5), S11)
  else
  bnd (f12_packed N S11) fun q13 S14 =>
  bnd (f12_runFor N x1 q13 x2 x3 S14) fun q15 S16 =>
  lt (wI S16 146 21 (S16.1 146 14)) fun S17 =>
  lt (wI S17 146 22 (S17.1 146 11)) fun S18 =>
  lt (wI S18 146 23 (S18.1 146 12)) fun S19 =>
  lt (wI S19 146 24 (S19.1 146 15)) fun S20 =>
  f12_run_h93 N q15 N (nI 0) S20
def f12_ran  (x1 : Int32) (S : St) : Option (Int32 × St) :=
  if 0 ≤ (S.1 146 21) then
    sw x1 [
        (nI 0, some (S.1 146 21, S)),
        (nI 1, some (S.1 146 22, S)),
        (nI 2, some (S.1 146 23, S)),
        (nI 3, some (S.1 146 24, S))]
      (if x1 < (nI 10) then
        some ((-1), S)
      else
      if (S.1 146 24) ≤ (x1 - (nI 10)) then
        some ((-1), S)
      else
      ckI (x1 - (nI 10)) 8 <|
      some (S.1 159 (x1 - (nI 10)).toNatClampNeg, S))
  else
  some ((-1), S)
def f12_listFrom_h3 (N : Nat) (pv : Int32 → Int64 → Int32 → Int32 → Int32 → St → Option (Unit × St)) (x1 : Int32) (l2 : Int64) (x4 : Int32) (x5 : Int32) (x6 : Int32)  : Nat → Int32 → St → Option (Unit × St)
  | 0, _, _ => none
  | n + 1, x7, S =>
    bnd (f12_ordersOf x1 S) fun q1 S2 =>
    if q1 ≤ x7 then
      some ((), S2)
    else
    ckI (((nI 12) * x1) + x7) 72 <|
    lt (S2.1 149 (((nI 12) * x1) + x7).toNatClampNeg) fun v4 =>
    ckI (((nI 12) * x1) + v4) 72 <|
    lt (x5 - (S2.1 147 (((nI 12) * x1) + v4).toNatClampNeg)) fun v5 =>
    if v4 = 0 then
      if v5 = 0 then
        ckI (S2.1 146 28) 16385 <|
        lt (wL S2 160 ((S2.1 146 28).toNatClampNeg) l2) fun S12 =>
        ckI (S12.1 146 28) 16385 <|
        lt (wI S12 161 ((S12.1 146 28).toNatClampNeg) x6) fun S13 =>
        lt (wI S13 146 28 ((S13.1 146 28) + (nI 1))) fun S14 =>
        f12_listFrom_h3 N pv x1 l2 x4 x5 x6 n (x7 + nI 1) S14
      else
      f12_listFrom_h3 N pv x1 l2 x4 x5 x6 n (x7 + nI 1) S2
    else
    if v5 ≤ 0 then
      f12_listFrom_h3 N pv x1 l2 x4 x5 x6 n (x7 + nI 1) S2
    else
    if (nI 11) ≤ x4 then
      f12_listFrom_h3 N pv x1 l2 x4 x5 x6 n (x7 + nI 1) S2
    else
    bnd (pv x1 (l2 ||| (shlL v4.toInt64 ((nI 4) * x4))) (x4 + (nI 1)) v5 x6 S2) fun q9 S10 =>
    f12_listFrom_h3 N pv x1 l2 x4 x5 x6 n (x7 + nI 1) S10
def f12_listFrom_b (N : Nat) (pv : Int32 → Int64 → Int32 → Int32 → Int32 → St → Option (Unit × St)) (x1 : Int32) (l2 : Int64) (x4 : Int32) (x5 : Int32) (x6 : Int32) (S : St) : Option (Unit × St) :=
  f12_listFrom_h3 N pv x1 l2 x4 x5 x6 N (nI 0) S
def f12_listFrom (N : Nat) : Nat → Int32 → Int64 → Int32 → Int32 → Int32 → St → Option (Unit × St)
  | 0, _, _, _, _, _, _ => none
  | n + 1, x1, l2, x4, x5, x6, S => f12_listFrom_b N (f12_listFrom N n) x1 l2 x4 x5 x6 S
def f12_listAll_h7 (N : Nat) (x1 : Int32) (x2 : Int32)  : Nat → Int32 → St → Option (Unit × St)
  | 0, _, _ => none
  | n + 1, x3, S =>
    if x2 < x3 then
      some ((), S)
    else
    bnd (f12_listFrom N 14 x1 (lN 0) (nI 0) x3 x3 S) fun q2 S3 =>
    f12_listAll_h7 N x1 x2 n (x3 + nI 1) S3
def f12_listAll (N : Nat) (x1 : Int32) (x2 : Int32) (S : St) : Option (Unit × St) :=
  lt (wI S 146 28 (nI 0)) fun S1 =>
  f12_listAll_h7 N x1 x2 N (nI 1) S1
def f12_next_j89 (N : Nat) (x2 : Int32)   (S : St) : Option (Int32 × St) :=
  if x2 < (S.1 146 28) then
    ckI x2 16385 <|
    bnd (f12_lookAt N (S.2 160 x2.toNatClampNeg) S) fun q2 S3 =>
    ckI x2 16385 <|
    some (S3.1 161 x2.toNatClampNeg, S3)
  else
  some ((-2), S)
def f12_next_h69 (N : Nat) (l3 : Int64)  : Nat → Int32 → St → Option (Int32 × St)
  | 0, _, _ => none
  | n + 1, x2, S =>
    ckI x2 16385 <|
    if (cmpL (S.2 160 x2.toNatClampNeg) l3) = 0 then
      f12_next_j89 N (x2 + nI 1) S
    else
    f12_next_h69 N l3 n (x2 + nI 1) S
def f12_next_j48 (N : Nat) (x1 : Int32)   (S : St) : Option (Int32 × St) :=
  bnd (f12_listAll N x1 (nI 14) S) fun q1 S2 =>
  if (S2.1 146 8) ≤ 0 then
    f12_next_j89 N (nI 0) S2
  else
  bnd (f12_packed N S2) fun q4 S5 =>
  f12_next_h69 N q4 N (nI 0) S5
def f12_next_j28 (N : Nat) (x1 : Int32)   (S : St) : Option (Int32 × St) :=
  if (S.1 146 8) ≤ 0 then
    f12_next_j48 N x1 S
  else
  bnd (f12_sizeIn N x1 S) fun q2 S3 =>
  if q2 ≤ (nI 14) then
    f12_next_j48 N x1 S3
  else
  some ((-2), S3)
def f12_next (N : Nat) (x1 : Int32) (S : St) : Option (Int32 × St) :=
  bnd (f12_isLanguage x1 S) fun q1 S2 =>
  if q1 = 0 then
    some ((-1), S2)
  else
  if (S2.1 146 8) ≤ 0 then
    f12_next_j28 N x1 S2
  else
  bnd (f12_isProgram N x1 S2) fun q5 S6 =>
  if q5 = 0 then
    some ((-5), S6)
  else
  f12_next_j28 N x1 S6
def f12_feed_h30 (N : Nat) (x1 : Int32) (x2 : Int32)  : Nat → Int32 → St → Option (Int32 × St)
  | 0, _, _ => none
  | n + 1, x3, S =>
    if x1 ≤ x3 then
      some (S.1 146 30, S)
    else
    ckI (S.1 146 30) 60 <|
    lt (wI S 162 ((S.1 146 30).toNatClampNeg) ((shrI x2 ((nI 8) * x3)) &&& (nI 255))) fun S2 =>
    lt (wI S2 146 30 ((S2.1 146 30) + (nI 1))) fun S3 =>
    f12_feed_h30 N x1 x2 n (x3 + nI 1) S3
def f12_feed (N : Nat) (x1 : Int32) (x2 : Int32) (S : St) : Option (Int32 × St) :=
  bnd (f12_within x1.toInt64 (lN 1) (lN 4) S) fun q1 S2 =>
  if q1 = 0 then
    some ((-1), S2)
  else
  if ((S2.1 146 30) + x1) ≤ (nI 60) then
    f12_feed_h30 N x1 x2 N (nI 0) S2
  else
  some ((-3), S2)
def f12_byteAt   (S : St) : Option (Int32 × St) :=
  if (S.1 146 37) ≤ (S.1 146 36) then
    some (nI 0, S)
  else
  if 0 ≤ (S.1 146 35) then
    ckI ((S.1 146 35) + (S.1 146 36)) 600 <|
    some (S.1 163 ((S.1 146 35) + (S.1 146 36)).toNatClampNeg, S)
  else
  ckI (S.1 146 36) 60 <|
  some (S.1 162 (S.1 146 36).toNatClampNeg, S)
def f12_wrong_j19    (xs0 : Int32) (S : St) : Option (Int32 × St) :=
  lt (wI S 146 38 xs0) fun S1 =>
  some (nI 0, S1)
def f12_wrong   (S : St) : Option (Int32 × St) :=
  if 0 ≤ (S.1 146 38) then
    f12_wrong_j19 (S.1 146 38) S
  else
  f12_wrong_j19 (S.1 146 36) S
def f12_takes  (x1 : Int32) (S : St) : Option (Int32 × St) :=
  if 0 ≤ (S.1 146 38) then
    some (nI 0, S)
  else
  bnd (f12_byteAt S) fun q2 S3 =>
  if q2 = x1 then
    lt (wI S3 146 36 ((S3.1 146 36) + (nI 1))) fun S5 =>
    some (nI 1, S5)
  else
  some (nI 0, S3)
def f12_both_j32 (N : Nat) (pv : St → Option (Int32 × St))  (k5 : Int32 → St → Option (Int32 × St)) (xs0 : Int32) (S : St) : Option (Int32 × St) :=
  k5 xs0 S
def f12_both_j31 (N : Nat) (pv : St → Option (Int32 × St))  (k5 : Int32 → St → Option (Int32 × St))  (S : St) : Option (Int32 × St) :=
  f12_both_j32 N pv k5 (nI 0) S
def f12_both_h5 (N : Nat) (pv : St → Option (Int32 × St))   : Nat → Int32 → St → Option (Int32 × St)
  | 0, _, _ => none
  | n + 1, x1, S =>
    bnd (f12_takes (nI 38) S) fun q1 S2 =>
    if q1 = 0 then
      some (x1, S2)
    else
    bnd (pv  S2) fun q4 S5 =>
    if x1 = 0 then
      f12_both_j31 N pv (f12_both_h5 N pv n) S5
    else
    if q4 = 0 then
      f12_both_j31 N pv (f12_both_h5 N pv n) S5
    else
    f12_both_j32 N pv (f12_both_h5 N pv n) (nI 1) S5
def f12_both (N : Nat) (pv : St → Option (Int32 × St))  (S : St) : Option (Int32 × St) :=
  bnd (pv  S) fun q1 S2 =>
  f12_both_h5 N pv N q1 S2
def f12_either_j32 (N : Nat) (pv : St → Option (Int32 × St))  (k5 : Int32 → St → Option (Int32 × St)) (xs0 : Int32) (S : St) : Option (Int32 × St) :=
  k5 xs0 S
def f12_either_j27 (N : Nat) (pv : St → Option (Int32 × St))  (k5 : Int32 → St → Option (Int32 × St))  (S : St) : Option (Int32 × St) :=
  f12_either_j32 N pv k5 (nI 1) S
def f12_either_h5 (N : Nat) (pv : St → Option (Int32 × St))   : Nat → Int32 → St → Option (Int32 × St)
  | 0, _, _ => none
  | n + 1, x1, S =>
    bnd (f12_takes (nI 124) S) fun q1 S2 =>
    if q1 = 0 then
      some (x1, S2)
    else
    bnd (f12_both N pv S2) fun q4 S5 =>
    if x1 = 0 then
      if q4 = 0 then
        f12_either_j32 N pv (f12_either_h5 N pv n) (nI 0) S5
      else
      f12_either_j27 N pv (f12_either_h5 N pv n) S5
    else
    f12_either_j27 N pv (f12_either_h5 N pv n) S5
def f12_either (N : Nat) (pv : St → Option (Int32 × St))  (S : St) : Option (Int32 × St) :=
  bnd (f12_both N pv S) fun q1 S2 =>
  f12_either_h5 N pv N q1 S2
def f12_named_j158 (N : Nat)    (S : St) : Option (Int32 × St) :=
  ckI (nI 0) 4200 <|
  some (S.1 156 (nI 0).toNatClampNeg, S)
def f12_named_h4 (N : Nat) (x1 : Int32)  : Nat → Int32 → Int32 → St → Option (Int32 × St)
  | 0, _, _, _ => none
  | n + 1, x2, x3, S =>
    if (S.1 146 15) ≤ x3 then
      sw x1 [
          (nI 97, some (S.1 146 11, S)),
          (nI 98, some (S.1 146 12, S)),
          (nI 99, f12_named_j158 N S),
          (nI 100, f12_named_j158 N S),
          (nI 101, f12_named_j158 N S),
          (nI 102, if (S.1 146 15) ≤ 0 then
            some ((-1), S)
          else
          ckI (nI 0) 8 <|
          some (S.1 155 (nI 0).toNatClampNeg, S)),
          (nI 103, f12_named_j158 N S),
          (nI 104, f12_named_j158 N S),
          (nI 105, f12_named_j158 N S),
          (nI 106, f12_named_j158 N S),
          (nI 107, f12_named_j158 N S),
          (nI 108, if (S.1 146 15) ≤ 0 then
            some ((-1), S)
          else
          ckI ((S.1 146 15) - (nI 1)) 8 <|
          some (S.1 155 ((S.1 146 15) - (nI 1)).toNatClampNeg, S)),
          (nI 109, some (x2, S)),
          (nI 110, some (S.1 146 15, S))]
        (f12_named_j158 N S)
    else
    ckI x3 8 <|
    lt (x2 + (S.1 155 x3.toNatClampNeg)) fun v4 =>
    f12_named_h4 N x1 n v4 (x3 + nI 1) S
def f12_named (N : Nat) (x1 : Int32) (S : St) : Option (Int32 × St) :=
  f12_named_h4 N x1 N (nI 0) (nI 0) S
def f12_one_j56 (N : Nat) (x1 : Int32)   (S : St) : Option (Int32 × St) :=
  lt (wI S 146 36 ((S.1 146 36) + (nI 1))) fun S1 =>
  bnd (f12_named N x1 S1) fun q2 S3 =>
  some (q2, S3)
def f12_one_j128 (N : Nat) (x2 : Int32) (x3 : Int32)   (S : St) : Option (Int32 × St) :=
  if x3 = 0 then
    bnd (f12_wrong S) fun q2 S3 =>
    some (q2, S3)
  else
  some (x2, S)
def f12_one_h76 (N : Nat)   : Nat → Int32 → Int32 → St → Option (Int32 × St)
  | 0, _, _, _ => none
  | n + 1, x2, x3, S =>
    if (nI 3) ≤ x3 then
      f12_one_j128 N x2 x3 S
    else
    bnd (f12_byteAt S) fun q2 S3 =>
    if q2 < (nI 48) then
      f12_one_j128 N x2 x3 S3
    else
    bnd (f12_byteAt S3) fun q5 S6 =>
    if (nI 57) < q5 then
      f12_one_j128 N x2 x3 S6
    else
    bnd (f12_byteAt S6) fun q8 S9 =>
    lt ((((nI 10) * x2) + q8) - (nI 48)) fun v10 =>
    lt (wI S9 146 36 ((S9.1 146 36) + (nI 1))) fun S11 =>
    f12_one_h76 N n v10 (x3 + nI 1) S11
def f12_one (N : Nat)  (S : St) : Option (Int32 × St) :=
  if (S.1 146 38) < 0 then
    bnd (f12_byteAt S) fun q2 S3 =>
    if q2 = (nI 110) then
      f12_one_j56 N q2 S3
    else
    if q2 = (nI 102) then
      f12_one_j56 N q2 S3
    else
    if q2 = (nI 108) then
      f12_one_j56 N q2 S3
    else
    if q2 = (nI 109) then
      f12_one_j56 N q2 S3
    else
    if q2 = (nI 120) then
      f12_one_j56 N q2 S3
    else
    if q2 = (nI 97) then
      f12_one_j56 N q2 S3
    else
    if q2 = (nI 98) then
      f12_one_j56 N q2 S3
    else
    f12_one_h76 N N (nI 0) (nI 0) S3
  else
  some (nI 0, S)
def f12_product_j81 (N : Nat)  (k5 : Int32 → St → Option (Int32 × St)) (xs0 : Int32) (S : St) : Option (Int32 × St) :=
  k5 xs0 S
def f12_product_j44 (N : Nat) (x1 : Int32) (k5 : Int32 → St → Option (Int32 × St)) (xs0 : Int32) (S : St) : Option (Int32 × St) :=
  lt (wI S 146 36 ((S.1 146 36) + (nI 1))) fun S1 =>
  bnd (f12_one N S1) fun q2 S3 =>
  if xs0 = 0 then
    if q2 = 0 then
      f12_product_j81 N k5 (nI 0) S3
    else
    ckZ q2 <|
    f12_product_j81 N k5 (remI x1 q2) S3
  else
  f12_product_j81 N k5 (x1 * q2) S3
def f12_product_j30 (N : Nat) (x1 : Int32) (k5 : Int32 → St → Option (Int32 × St))  (S : St) : Option (Int32 × St) :=
  bnd (f12_byteAt S) fun q1 S2 =>
  if q1 = (nI 42) then
    f12_product_j44 N x1 k5 (nI 1) S2
  else
  f12_product_j44 N x1 k5 (nI 0) S2
def f12_product_h5 (N : Nat)   : Nat → Int32 → St → Option (Int32 × St)
  | 0, _, _ => none
  | n + 1, x1, S =>
    if 0 ≤ (S.1 146 38) then
      some (x1, S)
    else
    bnd (f12_byteAt S) fun q2 S3 =>
    if q2 = (nI 42) then
      f12_product_j30 N x1 (f12_product_h5 N n) S3
    else
    bnd (f12_byteAt S3) fun q5 S6 =>
    if q5 = (nI 37) then
      f12_product_j30 N x1 (f12_product_h5 N n) S6
    else
    some (x1, S6)
def f12_product (N : Nat)  (S : St) : Option (Int32 × St) :=
  bnd (f12_one N S) fun q1 S2 =>
  f12_product_h5 N N q1 S2
def f12_sums_j73 (N : Nat)  (k5 : Int32 → St → Option (Int32 × St)) (xs0 : Int32) (S : St) : Option (Int32 × St) :=
  k5 xs0 S
def f12_sums_j44 (N : Nat) (x1 : Int32) (k5 : Int32 → St → Option (Int32 × St)) (xs0 : Int32) (S : St) : Option (Int32 × St) :=
  lt (wI S 146 36 ((S.1 146 36) + (nI 1))) fun S1 =>
  bnd (f12_product N S1) fun q2 S3 =>
  if xs0 = 0 then
    f12_sums_j73 N k5 (x1 - q2) S3
  else
  f12_sums_j73 N k5 (x1 + q2) S3
def f12_sums_j30 (N : Nat) (x1 : Int32) (k5 : Int32 → St → Option (Int32 × St))  (S : St) : Option (Int32 × St) :=
  bnd (f12_byteAt S) fun q1 S2 =>
  if q1 = (nI 43) then
    f12_sums_j44 N x1 k5 (nI 1) S2
  else
  f12_sums_j44 N x1 k5 (nI 0) S2
def f12_sums_h5 (N : Nat)   : Nat → Int32 → St → Option (Int32 × St)
  | 0, _, _ => none
  | n + 1, x1, S =>
    if 0 ≤ (S.1 146 38) then
      some (x1, S)
    else
    bnd (f12_byteAt S) fun q2 S3 =>
    if q2 = (nI 43) then
      f12_sums_j30 N x1 (f12_sums_h5 N n) S3
    else
    bnd (f12_byteAt S3) fun q5 S6 =>
    if q5 = (nI 45) then
      f12_sums_j30 N x1 (f12_sums_h5 N n) S6
    else
    some (x1, S6)
def f12_sums (N : Nat)  (S : St) : Option (Int32 × St) :=
  bnd (f12_product N S) fun q1 S2 =>
  f12_sums_h5 N N q1 S2
def f12_turned_j160 (N : Nat) (pv : St → Option (Int32 × St))    (S : St) : Option (Int32 × St) :=
  bnd (f12_wrong S) fun q1 S2 =>
  some (q1, S2)
def f12_turned_j165 (N : Nat) (pv : St → Option (Int32 × St)) (x1 : Int32) (x2 : Int32)   (S : St) : Option (Int32 × St) :=
  lt (wI S 146 36 ((S.1 146 36) + (nI 1))) fun S1 =>
  bnd (f12_sums N S1) fun q2 S3 =>
  if x1 = (nI 61) then
    if x2 = q2 then
      some (nI 1, S3)
    else
    some (nI 0, S3)
  else
  if x1 = (nI 60) then
    if q2 ≤ x2 then
      some (nI 0, S3)
    else
    some (nI 1, S3)
  else
  if x2 ≤ q2 then
    some (nI 0, S3)
  else
  some (nI 1, S3)
def f12_turned_j125 (N : Nat) (pv : St → Option (Int32 × St))    (S : St) : Option (Int32 × St) :=
  bnd (f12_sums N S) fun q1 S2 =>
  bnd (f12_byteAt S2) fun q3 S4 =>
  if 0 ≤ (S4.1 146 38) then
    f12_turned_j160 N pv S4
  else
  if q3 = (nI 61) then
    f12_turned_j165 N pv q3 q1 S4
  else
  if q3 = (nI 60) then
    f12_turned_j165 N pv q3 q1 S4
  else
  if q3 = (nI 62) then
    f12_turned_j165 N pv q3 q1 S4
  else
  f12_turned_j160 N pv S4
def f12_turned_j95 (N : Nat) (pv : St → Option (Int32 × St)) (x1 : Int32) (x2 : Int32)   (S : St) : Option (Int32 × St) :=
  lt (wI S 146 39 ((S.1 146 39) - (nI 1))) fun S1 =>
  if x1 = (nI 40) then
    some (x2, S1)
  else
  if x2 = 0 then
    some (nI 1, S1)
  else
  some (nI 0, S1)
def f12_turned_j74 (N : Nat) (pv : St → Option (Int32 × St)) (x1 : Int32)  (xs0 : Int32) (S : St) : Option (Int32 × St) :=
  if x1 = (nI 40) then
    bnd (f12_takes (nI 41) S) fun q2 S3 =>
    if q2 = 0 then
      bnd (f12_wrong S3) fun q5 S6 =>
      some (q5, S6)
    else
    f12_turned_j95 N pv x1 xs0 S3
  else
  f12_turned_j95 N pv x1 xs0 S
def f12_turned_j24 (N : Nat) (pv : St → Option (Int32 × St)) (x1 : Int32)   (S : St) : Option (Int32 × St) :=
  if (S.1 146 39) = (nI 5) then
    bnd (f12_wrong S) fun q9 S10 =>
    some (q9, S10)
  else
  lt (wI S 146 39 ((S.1 146 39) + (nI 1))) fun S2 =>
  lt (wI S2 146 36 ((S2.1 146 36) + (nI 1))) fun S3 =>
  if x1 = (nI 33) then
    bnd (pv  S3) fun q7 S8 =>
    f12_turned_j74 N pv x1 q7 S8
  else
  bnd (f12_either N pv S3) fun q5 S6 =>
  f12_turned_j74 N pv x1 q5 S6
def f12_turned_b (N : Nat) (pv : St → Option (Int32 × St))  (S : St) : Option (Int32 × St) :=
  bnd (f12_byteAt S) fun q1 S2 =>
  if 0 ≤ (S2.1 146 38) then
    f12_turned_j125 N pv S2
  else
  if q1 = (nI 33) then
    f12_turned_j24 N pv q1 S2
  else
  if q1 = (nI 40) then
    f12_turned_j24 N pv q1 S2
  else
  f12_turned_j125 N pv S2
def f12_turned (N : Nat) : Nat → St → Option (Int32 × St)
  | 0, _ => none
  | n + 1, S => f12_turned_b N (f12_turned N n) S
def f12_workOut (N : Nat) (x1 : Int32) (x2 : Int32) (S : St) : Option (Int32 × St) :=
  lt (wI S 146 35 x1) fun S1 =>
  lt (wI S1 146 36 (nI 0)) fun S2 =>
  lt (wI S2 146 37 x2) fun S3 =>
  lt (wI S3 146 38 (-1)) fun S4 =>
  lt (wI S4 146 39 (nI 0)) fun S5 =>
  bnd (f12_either N (f12_turned N 8) S5) fun q6 S7 =>
  if 0 ≤ (S7.1 146 38) then
    some (q6, S7)
  else
  if (S7.1 146 37) ≤ (S7.1 146 36) then
    some (q6, S7)
  else
  bnd (f12_wrong S7) fun q10 S11 =>
  some (q10, S11)
def f12_task_h64 (N : Nat) (x1 : Int32) (x3 : Int32)  : Nat → Int32 → St → Option (Int32 × St)
  | 0, _, _ => none
  | n + 1, x4, S =>
    if x3 ≤ x4 then
      ckI (S.1 146 34) 10 <|
      lt (wI S 164 ((S.1 146 34).toNatClampNeg) x3) fun S2 =>
      ckI (S2.1 146 34) 10 <|
      lt (wI S2 165 ((S2.1 146 34).toNatClampNeg) x1) fun S3 =>
      lt (wI S3 146 34 ((S3.1 146 34) + (nI 1))) fun S4 =>
      some ((S4.1 146 34) - (nI 1), S4)
    else
    ckI x4 60 <|
    ckI (((nI 60) * (S.1 146 34)) + x4) 600 <|
    lt (wI S 163 ((((nI 60) * (S.1 146 34)) + x4).toNatClampNeg) (S.1 162 x4.toNatClampNeg)) fun S5 =>
    f12_task_h64 N x1 x3 n (x4 + nI 1) S5
def f12_task (N : Nat) (x1 : Int32) (S : St) : Option (Int32 × St) :=
  bnd (f12_within x1.toInt64 (lN 0) (lN 999) S) fun q1 S2 =>
  if q1 = 0 then
    some ((-1), S2)
  else
  if (S2.1 146 34) = (nI 10) then
    some ((-3), S2)
  else
  bnd (f12_workOut N (-1) (S2.1 146 30) S2) fun q5 S6 =>
  lt (S6.1 146 30) fun v7 =>
  lt (wI S6 146 30 (nI 0)) fun S8 =>
  if (S8.1 146 38) < 0 then
    f12_task_h64 N x1 v7 N (nI 0) S8
  else
  some ((-100) - (S8.1 146 38), S8)
def f12_isTask  (x1 : Int32) (S : St) : Option (Int32 × St) :=
  if x1 < 0 then
    some (nI 0, S)
  else
  if (S.1 146 34) ≤ x1 then
    some (nI 0, S)
  else
  some (nI 1, S)
def f12_isPassed (N : Nat) (x1 : Int32) (S : St) : Option (Int32 × St) :=
  if (S.1 146 15) ≤ 0 then
    some (nI 0, S)
  else
  ckI x1 10 <|
  bnd (f12_workOut N ((nI 60) * x1) (S.1 164 x1.toNatClampNeg) S) fun q2 S3 =>
  if q2 = 0 then
    some (nI 0, S3)
  else
  some (nI 1, S3)
def f12_passes (N : Nat) (x1 : Int32) (x2 : Int32) (x3 : Int32) (S : St) : Option (Int32 × St) :=
  bnd (f12_isLanguage x1 S) fun q1 S2 =>
  if q1 = 0 then
    some ((-1), S2)
  else
  bnd (f12_isTask x2 S2) fun q4 S5 =>
  if q4 = 0 then
    some ((-1), S5)
  else
  bnd (f12_within x3.toInt64 (lN 0) (lN 999) S5) fun q7 S8 =>
  if q7 = 0 then
    some ((-1), S8)
  else
  bnd (f12_isProgram N x1 S8) fun q10 S11 =>
  if q10 = 0 then
    some ((-5), S11)
  else
  bnd (f12_packed N S11) fun q13 S14 =>
  ckI x2 10 <|
  bnd (f12_runFor N x1 q13 (S14.1 165 x2.toNatClampNeg) x3 S14) fun q15 S16 =>
  if q15 = 0 then
    bnd (f12_isPassed N x2 S16) fun q18 S19 =>
    if q18 = 0 then
      some (nI 0, S19)
    else
    some (nI 1, S19)
  else
  some (nI 0, S16)
def f12_find_j223 (N : Nat) (x1 : Int32) (x2 : Int32) (x3 : Int32) (x4 : Int32) (x5 : Int32) (x8 : Int32) (k56 : Int32 → St → Option (Int32 × St)) (k65 : Int32 → St → Option (Int32 × St)) (xs0 : Int32) (xs1 : Int32) (S : St) : Option (Int32 × St) :=
  lt (wI S 146 46 (xs1 + xs0)) fun S1 =>
  if x8 = 0 then
    bnd (f12_isPassed N x2 S1) fun q3 S4 =>
    if q3 = 0 then
      k65 (x5 + nI 1) S4
    else
    lt (wI S4 146 42 (S4.1 146 14)) fun S6 =>
    ckI x5 16385 <|
    lt (wI S6 146 43 (S6.1 161 x5.toNatClampNeg)) fun S7 =>
    ckI x5 16385 <|
    lt (wL S7 146 44 (S7.2 160 x5.toNatClampNeg)) fun S8 =>
    lt (wI S8 146 47 x4) fun S9 =>
    some (nI 1, S9)
  else
  k65 (x5 + nI 1) S1
def f12_find_j206 (N : Nat) (x1 : Int32) (x2 : Int32) (x3 : Int32) (x4 : Int32) (x5 : Int32) (x8 : Int32) (k56 : Int32 → St → Option (Int32 × St)) (k65 : Int32 → St → Option (Int32 × St)) (xs0 : Int32) (xs1 : Int32) (S : St) : Option (Int32 × St) :=
  ckB xs0 <|
  ckI xs1 16385 <|
  lt (wI S 166 xs1.toNatClampNeg xs0) fun S1 =>
  if x8 = (nI 1) then
    f12_find_j223 N x1 x2 x3 x4 x5 x8 k56 k65 (nI 1) (S1.1 146 46) S1
  else
  f12_find_j223 N x1 x2 x3 x4 x5 x8 k56 k65 (nI 0) (S1.1 146 46) S1
def f12_find_j147 (N : Nat) (x1 : Int32) (x2 : Int32) (x3 : Int32) (x4 : Int32) (x5 : Int32) (x6 : Int32) (x7 : Int32) (k56 : Int32 → St → Option (Int32 × St)) (k65 : Int32 → St → Option (Int32 × St)) (xs0 : Int32) (xs1 : Int32) (S : St) : Option (Int32 × St) :=
  lt (wI S 146 45 (xs1 + xs0)) fun S1 =>
  ckI x5 16385 <|
  ckI x2 10 <|
  bnd (f12_runFor N x1 (S1.2 160 x5.toNatClampNeg) (S1.1 165 x2.toNatClampNeg) x6 S1) fun q2 S3 =>
  lt (wI S3 146 41 ((S3.1 146 41) + ((S3.1 146 14) - x7))) fun S4 =>
  if q2 = (nI 2) then
    f12_find_j206 N x1 x2 x3 x4 x5 q2 k56 k65 (nI 0) x5 S4
  else
  f12_find_j206 N x1 x2 x3 x4 x5 q2 k56 k65 (nI 1) x5 S4
def f12_find_j130 (N : Nat) (x1 : Int32) (x2 : Int32) (x3 : Int32) (x4 : Int32) (x5 : Int32) (x6 : Int32) (k56 : Int32 → St → Option (Int32 × St)) (k65 : Int32 → St → Option (Int32 × St)) (xs0 : Int32) (S : St) : Option (Int32 × St) :=
  if xs0 = 0 then
    f12_find_j147 N x1 x2 x3 x4 x5 x6 xs0 k56 k65 (nI 1) (S.1 146 45) S
  else
  f12_find_j147 N x1 x2 x3 x4 x5 x6 xs0 k56 k65 (nI 0) (S.1 146 45) S
def f12_find_h65 (N : Nat) (x1 : Int32) (x2 : Int32) (x3 : Int32) (x4 : Int32) (k56 : Int32 → St → Option (Int32 × St)) : Nat → Int32 → St → Option (Int32 × St)
  | 0, _, _ => none
  | n + 1, x5, S =>
    if (S.1 146 28) ≤ x5 then
      k56 (x4 + nI 1) S
    else
    ckI x5 16385 <|
    if x4 < (S.1 161 x5.toNatClampNeg) then
      k56 (x4 + nI 1) S
    else
    ckI x5 16385 <|
    if (S.1 166 x5.toNatClampNeg) = 0 then
      ckI x5 16385 <|
      lt (shlI (nI 1) (x4 - (S.1 161 x5.toNatClampNeg))) fun v4 =>
      ckI x5 16385 <|
      if x4 ≤ (S.1 161 x5.toNatClampNeg) then
        f12_find_j130 N x1 x2 x3 x4 x5 v4 k56 (f12_find_h65 N x1 x2 x3 x4 k56 n) (nI 0) S
      else
      f12_find_j130 N x1 x2 x3 x4 x5 v4 k56 (f12_find_h65 N x1 x2 x3 x4 k56 n) (v4 / (nI 2)) S
    else
    f12_find_h65 N x1 x2 x3 x4 k56 n (x5 + nI 1) S
def f12_find_h56 (N : Nat) (x1 : Int32) (x2 : Int32) (x3 : Int32)  : Nat → Int32 → St → Option (Int32 × St)
  | 0, _, _ => none
  | n + 1, x4, S =>
    if x3 < x4 then
      some (nI 0, S)
    else
    f12_find_h65 N x1 x2 x3 x4 (f12_find_h56 N x1 x2 x3 n) N (nI 0) S
def f12_find_h9 (N : Nat) (x1 : Int32) (x2 : Int32) (x3 : Int32)  : Nat → Int32 → St → Option (Int32 × St)
  | 0, _, _ => none
  | n + 1, x4, S =>
    if (S.1 146 28) ≤ x4 then
      lt (wI S 146 41 (nI 0)) fun S2 =>
      lt (wI S2 146 45 (nI 0)) fun S3 =>
      lt (wI S3 146 46 (nI 0)) fun S4 =>
      lt (wI S4 146 47 (-2)) fun S5 =>
      f12_find_h56 N x1 x2 x3 N (nI 1) S5
    else
    ckI x4 16385 <|
    lt (wI S 166 x4.toNatClampNeg (nI 0)) fun S6 =>
    f12_find_h9 N x1 x2 x3 n (x4 + nI 1) S6
def f12_find (N : Nat) (x1 : Int32) (x2 : Int32) (x3 : Int32) (S : St) : Option (Int32 × St) :=
  bnd (f12_listAll N x1 x3 S) fun q1 S2 =>
  f12_find_h9 N x1 x2 x3 N (nI 0) S2
def f12_search_j142 (N : Nat)    (S : St) : Option (Int32 × St) :=
  some (S.1 146 47, S)
def f12_search_j126 (N : Nat) (x4 : Int32)  (xs0 : Int32) (S : St) : Option (Int32 × St) :=
  lt (wI S 146 50 xs0) fun S1 =>
  if x4 = 0 then
    f12_search_j142 N S1
  else
  bnd (f12_lookAt N (S1.2 146 44) S1) fun q3 S4 =>
  f12_search_j142 N S4
def f12_search_j101 (N : Nat) (x4 : Int32)  (xs0 : Int32) (S : St) : Option (Int32 × St) :=
  if x4 = 0 then
    f12_search_j126 N x4 (-2) S
  else
  ckZ xs0 <|
  f12_search_j126 N x4 ((((S.1 146 41) + xs0) - (nI 1)) / xs0) S
def f12_search_j78 (N : Nat) (x4 : Int32)  (xs0 : Int32) (S : St) : Option (Int32 × St) :=
  lt (wI S 146 49 xs0) fun S1 =>
  if x4 = 0 then
    f12_search_j101 N x4 (nI 1) S1
  else
  f12_search_j101 N x4 ((shlI (nI 1) (S1.1 146 43)) * (S1.1 146 42)) S1
def f12_search (N : Nat) (x1 : Int32) (x2 : Int32) (x3 : Int32) (S : St) : Option (Int32 × St) :=
  bnd (f12_isLanguage x1 S) fun q1 S2 =>
  if q1 = 0 then
    some ((-1), S2)
  else
  bnd (f12_isTask x2 S2) fun q4 S5 =>
  if q4 = 0 then
    some ((-1), S5)
  else
  bnd (f12_within x3.toInt64 (lN 1) (lN 14) S5) fun q7 S8 =>
  if q7 = 0 then
    some ((-1), S8)
  else
  bnd (f12_find N x1 x2 x3 S8) fun q10 S11 =>
  lt (wI S11 146 48 (S11.1 146 41)) fun S12 =>
  lt (wI S12 146 51 (S12.1 146 45)) fun S13 =>
  lt (wI S13 146 52 (S13.1 146 46)) fun S14 =>
  if q10 = 0 then
    f12_search_j78 N q10 (-2) S14
  else
  f12_search_j78 N q10 (S14.1 146 42) S14
def f12_searched  (x1 : Int32) (S : St) : Option (Int32 × St) :=
  if 0 ≤ (S.1 146 48) then
    sw x1 [
        (nI 0, some (S.1 146 48, S)),
        (nI 1, some (S.1 146 49, S)),
        (nI 2, some (S.1 146 50, S)),
        (nI 3, some (S.1 146 51, S)),
        (nI 4, some (S.1 146 52, S))]
      (some ((-1), S))
  else
  some ((-1), S)
def f12_say  (x1 : Int32) (S : St) : Option (Int32 × St) :=
  bnd (f12_within x1.toInt64 (lN 0) (lN 999) S) fun q1 S2 =>
  if q1 = 0 then
    some ((-1), S2)
  else
  if (S2.1 146 54) = (nI 8) then
    some ((-3), S2)
  else
  ckI (S2.1 146 54) 8 <|
  lt (wI S2 167 ((S2.1 146 54).toNatClampNeg) x1) fun S5 =>
  lt (wI S5 146 54 ((S5.1 146 54) + (nI 1))) fun S6 =>
  some (S6.1 146 54, S6)
def f12_unsay   (S : St) : Option (Int32 × St) :=
  lt (S.1 146 54) fun v1 =>
  lt (wI S 146 54 (nI 0)) fun S2 =>
  some (v1, S2)
def f12_isBound  (x0 : Int32) (S : St) : Option (Int32 × St) :=
  if x0 < 0 then
    some (nI 0, S)
  else
  bnd (f12_within ((x0 / (nI 1000)).toInt64) (lN 1) (lN 12) S) fun q2 S3 =>
  if q2 = 0 then
    some (nI 0, S3)
  else
  bnd (f12_within ((remI x0 (nI 1000)).toInt64) (lN 1) (lN 200) S3) fun q5 S6 =>
  if q5 = 0 then
    some (nI 0, S6)
  else
  some (nI 1, S6)
def f12_alike_h2 (N : Nat)   : Nat → Int32 → St → Option (Int32 × St)
  | 0, _, _ => none
  | n + 1, x1, S =>
    if (S.1 146 15) ≤ x1 then
      some (x1, S)
    else
    if (S.1 146 54) ≤ x1 then
      some (x1, S)
    else
    ckI x1 8 <|
    ckI x1 8 <|
    if (S.1 155 x1.toNatClampNeg) = (S.1 167 x1.toNatClampNeg) then
      f12_alike_h2 N n (x1 + nI 1) S
    else
    some (x1, S)
def f12_alike (N : Nat)  (S : St) : Option (Int32 × St) :=
  f12_alike_h2 N N (nI 0) S
def f12_votes_j256 (N : Nat) (x3 : Int32) (x4 : Int32) (x6 : Int32) (x7 : Int32) (x9 : Int32) (k224 : Int32 → Int32 → St → Option (Int32 × St)) (xs0 : Int32) (S : St) : Option (Int32 × St) :=
  k224 xs0 (x9 + nI 1) S
def f12_votes_h224 (N : Nat) (x3 : Int32) (x4 : Int32) (x6 : Int32) (x7 : Int32)  : Nat → Int32 → Int32 → St → Option (Int32 × St)
  | 0, _, _, _ => none
  | n + 1, x8, x9, S =>
    if (nI 1000) ≤ x9 then
      if x3 = 0 then
        ckI x4 1000 <|
        some (S.1 168 x4.toNatClampNeg, S)
      else
      if x3 = (nI 2) then
        some (x7, S)
      else
      if x3 = (nI 3) then
        some (x6, S)
      else
      if x7 = 0 then
        some ((-2), S)
      else
      some (x8, S)
    else
    ckI x9 1000 <|
    ckI x8 1000 <|
    if (S.1 168 x9.toNatClampNeg) ≤ (S.1 168 x8.toNatClampNeg) then
      f12_votes_j256 N x3 x4 x6 x7 x9 (f12_votes_h224 N x3 x4 x6 x7 n) x8 S
    else
    f12_votes_j256 N x3 x4 x6 x7 x9 (f12_votes_h224 N x3 x4 x6 x7 n) x9 S
def f12_votes_j188 (N : Nat) (x1 : Int32) (x2 : Int32) (x3 : Int32) (x4 : Int32) (x5 : Int32) (x6 : Int32) (x7 : Int32) (x8 : Int32) (x9 : Int32) (x10 : Int32) (k94 : Int32 → Int32 → Int32 → St → Option (Int32 × St))  (S : St) : Option (Int32 × St) :=
  bnd (f12_alike N S) fun q1 S2 =>
  if q1 = (S2.1 146 15) then
    if x10 = (nI 2) then
      lt (x6 + x9) fun v5 =>
      k94 v5 x7 (x8 + nI 1) S2
    else
    k94 x6 x7 (x8 + nI 1) S2
  else
  k94 x6 x7 (x8 + nI 1) S2
def f12_votes_h94 (N : Nat) (x1 : Int32) (x2 : Int32) (x3 : Int32) (x4 : Int32) (x5 : Int32)  : Nat → Int32 → Int32 → Int32 → St → Option (Int32 × St)
  | 0, _, _, _, _ => none
  | n + 1, x6, x7, x8, S =>
    if (S.1 146 28) ≤ x8 then
      f12_votes_h224 N x3 x4 x6 x7 N (nI 0) (nI 1) S
    else
    ckI x8 16385 <|
    lt (shlI (nI 1) (x5 - (S.1 161 x8.toNatClampNeg))) fun v2 =>
    ckI x8 16385 <|
    bnd (f12_runFor N x1 (S.2 160 x8.toNatClampNeg) (nI 0) (remI x2 (nI 1000)) S) fun q3 S4 =>
    bnd (f12_alike N S4) fun q5 S6 =>
    if q5 = (S6.1 146 54) then
      if (S6.1 146 15) ≤ (S6.1 146 54) then
        f12_votes_j188 N x1 x2 x3 x4 x5 x6 x7 x8 v2 q3 (f12_votes_h94 N x1 x2 x3 x4 x5 n) S6
      else
      ckI (S6.1 146 54) 8 <|
      ckI (S6.1 155 (S6.1 146 54).toNatClampNeg) 1000 <|
      ckI (S6.1 155 (S6.1 146 54).toNatClampNeg) 1000 <|
      lt (wI S6 168 ((S6.1 155 (S6.1 146 54).toNatClampNeg).toNatClampNeg) ((S6.1 168 (S6.1 155 (S6.1 146 54).toNatClampNeg).toNatClampNeg) + v2)) fun S9 =>
      lt (x7 + v2) fun v10 =>
      f12_votes_h94 N x1 x2 x3 x4 x5 n x6 v10 (x8 + nI 1) S9
    else
    f12_votes_j188 N x1 x2 x3 x4 x5 x6 x7 x8 v2 q3 (f12_votes_h94 N x1 x2 x3 x4 x5 n) S6
def f12_votes_h56 (N : Nat) (x1 : Int32) (x2 : Int32) (x3 : Int32) (x4 : Int32) (x5 : Int32)  : Nat → Int32 → St → Option (Int32 × St)
  | 0, _, _ => none
  | n + 1, x6, S =>
    if (nI 1000) ≤ x6 then
      bnd (f12_listAll N x1 x5 S) fun q2 S3 =>
      f12_votes_h94 N x1 x2 x3 x4 x5 N (nI 0) (nI 0) (nI 0) S3
    else
    ckI x6 1000 <|
    lt (wI S 168 x6.toNatClampNeg (nI 0)) fun S4 =>
    f12_votes_h56 N x1 x2 x3 x4 x5 n (x6 + nI 1) S4
def f12_votes_j46 (N : Nat) (x1 : Int32) (x2 : Int32) (x3 : Int32) (x4 : Int32)   (S : St) : Option (Int32 × St) :=
  lt (x2 / (nI 1000)) fun v1 =>
  f12_votes_h56 N x1 x2 x3 x4 v1 N (nI 0) S
def f12_votes (N : Nat) (x1 : Int32) (x2 : Int32) (x3 : Int32) (x4 : Int32) (S : St) : Option (Int32 × St) :=
  bnd (f12_isLanguage x1 S) fun q1 S2 =>
  if q1 = 0 then
    some ((-1), S2)
  else
  bnd (f12_isBound x2 S2) fun q4 S5 =>
  if q4 = 0 then
    some ((-1), S5)
  else
  bnd (f12_within x3.toInt64 (lN 0) (lN 3) S5) fun q7 S8 =>
  if q7 = 0 then
    some ((-1), S8)
  else
  if x3 = 0 then
    bnd (f12_within x4.toInt64 (lN 0) (lN 999) S8) fun q11 S12 =>
    if q11 = 0 then
      some ((-1), S12)
    else
    f12_votes_j46 N x1 x2 x3 x4 S12
  else
  f12_votes_j46 N x1 x2 x3 x4 S8
def f12_shortest_j145 (N : Nat) (x1 : Int32) (x2 : Int32) (x3 : Int32) (x4 : Int32) (x5 : Int32) (x7 : Int32) (k51 : Int32 → Int32 → Int32 → Int32 → St → Option (Int32 × St)) (xs0 : Int32) (S : St) : Option (Int32 × St) :=
  k51 x4 x5 xs0 (x7 + nI 1) S
def f12_shortest_j144 (N : Nat) (x1 : Int32) (x2 : Int32) (x3 : Int32) (x4 : Int32) (x5 : Int32) (x7 : Int32) (k51 : Int32 → Int32 → Int32 → Int32 → St → Option (Int32 × St))  (S : St) : Option (Int32 × St) :=
  f12_shortest_j145 N x1 x2 x3 x4 x5 x7 k51 (nI 0) S
def f12_shortest_j140 (N : Nat) (x1 : Int32) (x2 : Int32) (x3 : Int32) (x4 : Int32) (x5 : Int32) (x7 : Int32) (k51 : Int32 → Int32 → Int32 → Int32 → St → Option (Int32 × St))  (S : St) : Option (Int32 × St) :=
  f12_shortest_j145 N x1 x2 x3 x4 x5 x7 k51 (nI 1) S
def f12_shortest_j124 (N : Nat) (x1 : Int32) (x2 : Int32) (x3 : Int32) (x4 : Int32) (x5 : Int32) (x6 : Int32) (x7 : Int32) (x8 : Int32) (k51 : Int32 → Int32 → Int32 → Int32 → St → Option (Int32 × St))  (S : St) : Option (Int32 × St) :=
  if x6 = 0 then
    f12_shortest_j144 N x1 x2 x3 x4 x5 x7 k51 S
  else
  if 0 ≤ x4 then
    f12_shortest_j140 N x1 x2 x3 x4 x5 x7 k51 S
  else
  if x8 = (nI 2) then
    f12_shortest_j144 N x1 x2 x3 x4 x5 x7 k51 S
  else
  f12_shortest_j140 N x1 x2 x3 x4 x5 x7 k51 S
def f12_shortest_j119 (N : Nat) (x1 : Int32) (x2 : Int32) (x3 : Int32) (x5 : Int32) (x6 : Int32) (x7 : Int32) (x8 : Int32) (k51 : Int32 → Int32 → Int32 → Int32 → St → Option (Int32 × St)) (xs0 : Int32) (S : St) : Option (Int32 × St) :=
  f12_shortest_j124 N x1 x2 x3 xs0 (x5 + nI 1) x6 x7 x8 k51 S
def f12_shortest_h51 (N : Nat) (x1 : Int32) (x2 : Int32) (x3 : Int32)  : Nat → Int32 → Int32 → Int32 → Int32 → St → Option (Int32 × St)
  | 0, _, _, _, _, _ => none
  | n + 1, x4, x5, x6, x7, S =>
    if (S.1 146 28) ≤ x7 then
      if x3 = (nI 2) then
        some (x5, S)
      else
      if 0 ≤ x4 then
        if x3 = (nI 1) then
          if x6 = 0 then
            some (nI 0, S)
          else
          some (nI 1, S)
        else
        ckI x4 16385 <|
        bnd (f12_lookAt N (S.2 160 x4.toNatClampNeg) S) fun q5 S6 =>
        ckI x4 16385 <|
        some (S6.1 161 x4.toNatClampNeg, S6)
      else
      some ((-2), S)
    else
    ckI x7 16385 <|
    bnd (f12_runFor N x1 (S.2 160 x7.toNatClampNeg) (nI 0) (remI x2 (nI 1000)) S) fun q8 S9 =>
    if q8 = 0 then
      if (S9.1 146 15) = (S9.1 146 54) then
        bnd (f12_alike N S9) fun q12 S13 =>
        if q12 = (S13.1 146 54) then
          if 0 ≤ x4 then
            f12_shortest_j119 N x1 x2 x3 x5 x6 x7 q8 (f12_shortest_h51 N x1 x2 x3 n) x4 S13
          else
          f12_shortest_j119 N x1 x2 x3 x5 x6 x7 q8 (f12_shortest_h51 N x1 x2 x3 n) x7 S13
        else
        f12_shortest_j124 N x1 x2 x3 x4 x5 x6 x7 q8 (f12_shortest_h51 N x1 x2 x3 n) S13
      else
      f12_shortest_j124 N x1 x2 x3 x4 x5 x6 x7 q8 (f12_shortest_h51 N x1 x2 x3 n) S9
    else
    f12_shortest_j124 N x1 x2 x3 x4 x5 x6 x7 q8 (f12_shortest_h51 N x1 x2 x3 n) S9
def f12_shortest (N : Nat) (x1 : Int32) (x2 : Int32) (x3 : Int32) (S : St) : Option (Int32 × St) :=
  bnd (f12_isLanguage x1 S) fun q1 S2 =>
  if q1 = 0 then
    some ((-1), S2)
  else
  bnd (f12_isBound x2 S2) fun q4 S5 =>
  if q4 = 0 then
    some ((-1), S5)
  else
  bnd (f12_within x3.toInt64 (lN 0) (lN 2) S5) fun q7 S8 =>
  if q7 = 0 then
    some ((-1), S8)
  else
  bnd (f12_listAll N x1 (x2 / (nI 1000)) S8) fun q10 S11 =>
  f12_shortest_h51 N x1 x2 x3 N (-1) (nI 0) (nI 1) (nI 0) S11
def f12_sureBits_h33 (N : Nat) (x0 : Int32) (x4 : Int32) (x5 : Int32)  : Nat → Int32 → St → Option (Int32 × St)
  | 0, _, _ => none
  | n + 1, x6, S =>
    if x0 ≤ x6 then
      some (x6, S)
    else
    if (shrI x4 ((x0 - (nI 1)) - x6)) = (shrI x5 ((x0 - (nI 1)) - x6)) then
      f12_sureBits_h33 N x0 x4 x5 n (x6 + nI 1) S
    else
    some (x6, S)
def f12_sureBits_j28 (N : Nat) (x0 : Int32) (x4 : Int32)  (xs0 : Int32) (S : St) : Option (Int32 × St) :=
  f12_sureBits_h33 N x0 x4 xs0 N (nI 0) S
def f12_sureBits_j16 (N : Nat) (x0 : Int32) (x2 : Int32) (x3 : Int32)  (xs0 : Int32) (S : St) : Option (Int32 × St) :=
  if x2 ≤ x3 then
    f12_sureBits_j28 N x0 xs0 x2 S
  else
  f12_sureBits_j28 N x0 xs0 x3 S
def f12_sureBits (N : Nat) (x0 : Int32) (x1 : Int32) (x2 : Int32) (S : St) : Option (Int32 × St) :=
  lt ((shlI (nI 1) x0) - (nI 1)) fun v1 =>
  if x1 ≤ v1 then
    f12_sureBits_j16 N x0 x2 v1 x1 S
  else
  f12_sureBits_j16 N x0 x2 v1 v1 S
def f12_census_j288 (t : Nat) (N : Nat) (x4 : Int32)   (S : St) : Option ((Int32 × Nat) × St) :=
  ckI (x4 - (nI 1)) 3 <|
  some ((S.1 (174 + t) (x4 - (nI 1)).toNatClampNeg, t + 1), S)
def f12_census_j170 (t : Nat) (N : Nat) (x1 : Int32) (x2 : Int32) (x3 : Int32) (x4 : Int32) (x5 : Int32) (x7 : Int32) (x9 : Int32) (x10 : Int32) (x11 : Int32) (x12 : Int32) (k88 : Int32 → Int32 → Int32 → Int32 → Int32 → St → Option ((Int32 × Nat) × St)) (xs0 : Int32) (xs1 : Int32) (S : St) : Option ((Int32 × Nat) × St) :=
  lt (xs1 + xs0) fun v1 =>
  if x12 = 0 then
    if (S.1 146 14) ≤ x9 then
      k88 x7 v1 x9 x10 (x11 + nI 1) S
    else
    lt (S.1 146 14) fun v4 =>
    k88 x7 v1 v4 x11 (x11 + nI 1) S
  else
  k88 x7 v1 x9 x10 (x11 + nI 1) S
def f12_census_j153 (t : Nat) (N : Nat) (x1 : Int32) (x2 : Int32) (x3 : Int32) (x4 : Int32) (x5 : Int32) (x8 : Int32) (x9 : Int32) (x10 : Int32) (x11 : Int32) (x12 : Int32) (x13 : Int32) (k88 : Int32 → Int32 → Int32 → Int32 → Int32 → St → Option ((Int32 × Nat) × St)) (xs0 : Int32) (xs1 : Int32) (S : St) : Option ((Int32 × Nat) × St) :=
  lt (xs1 + xs0) fun v1 =>
  if x12 = (nI 2) then
    f12_census_j170 t N x1 x2 x3 x4 x5 v1 x9 x10 x11 x12 k88 x13 x8 S
  else
  f12_census_j170 t N x1 x2 x3 x4 x5 v1 x9 x10 x11 x12 k88 (nI 0) x8 S
def f12_census_h88 (t : Nat) (N : Nat) (x1 : Int32) (x2 : Int32) (x3 : Int32) (x4 : Int32) (x5 : Int32)  : Nat → Int32 → Int32 → Int32 → Int32 → Int32 → St → Option ((Int32 × Nat) × St)
  | 0, _, _, _, _, _, _ => none
  | n + 1, x7, x8, x9, x10, x11, S =>
    if (S.1 146 28) ≤ x11 then
      sw x4 [
          (nI 0, some ((S.1 146 28, t + 1), S)),
          (nI 1, f12_census_j288 t N x4 S),
          (nI 2, f12_census_j288 t N x4 S),
          (nI 3, f12_census_j288 t N x4 S),
          (nI 4, if x10 < 0 then
            some ((x9, t + 1), S)
          else
          ckI x10 16385 <|
          bnd (f12_lookAt N (S.2 160 x10.toNatClampNeg) S) fun q3 S4 =>
          some ((x9, t + 1), S4)),
          (nI 5, some ((x7, t + 1), S)),
          (nI 6, bnd (f12_sureBits N x5 x7 (x7 + x8) S) fun q5 S6 =>
          some ((q5, t + 1), S6))]
        (f12_census_j288 t N x4 S)
    else
    ckI x11 16385 <|
    bnd (f12_runFor N x1 (S.2 160 x11.toNatClampNeg) x3 (remI x2 (nI 1000)) S) fun q7 S8 =>
    ckI q7 3 <|
    ckI q7 3 <|
    lt (wI S8 (174 + t) q7.toNatClampNeg ((S8.1 (174 + t) q7.toNatClampNeg) + (nI 1))) fun S9 =>
    ckI x11 16385 <|
    lt (shlI (nI 1) (x5 - (S9.1 161 x11.toNatClampNeg))) fun v10 =>
    if q7 = 0 then
      f12_census_j153 t N x1 x2 x3 x4 x5 x8 x9 x10 x11 q7 v10 (f12_census_h88 t N x1 x2 x3 x4 x5 n) v10 x7 S9
    else
    f12_census_j153 t N x1 x2 x3 x4 x5 x8 x9 x10 x11 q7 v10 (f12_census_h88 t N x1 x2 x3 x4 x5 n) (nI 0) x7 S9
def f12_census (t : Nat) (N : Nat) (x1 : Int32) (x2 : Int32) (x3 : Int32) (x4 : Int32) (S : St) : Option ((Int32 × Nat) × St) :=
  bnd (f12_isLanguage x1 S) fun q1 S2 =>
  if q1 = 0 then
    some (((-1), t), S2)
  else
  bnd (f12_isBound x2 S2) fun q4 S5 =>
  if q4 = 0 then
    some (((-1), t), S5)
  else
  bnd (f12_within x3.toInt64 (lN 0) (lN 999) S5) fun q7 S8 =>
  if q7 = 0 then
    some (((-1), t), S8)
  else
  bnd (f12_within x4.toInt64 (lN 0) (lN 6) S8) fun q10 S11 =>
  if q10 = 0 then
    some (((-1), t), S11)
  else
  lt (x2 / (nI 1000)) fun v13 =>
  bnd (f12_listAll N x1 v13 S11) fun q14 S15 =>
  lt (fiI S15 (174 + t) 3 0) fun S16 =>
  ckI (nI 0) 3 <|
  lt (wI S16 (174 + t) ((nI 0).toNatClampNeg) (nI 0)) fun S17 =>
  ckI (nI 1) 3 <|
  lt (wI S17 (174 + t) ((nI 1).toNatClampNeg) (nI 0)) fun S18 =>
  ckI (nI 2) 3 <|
  lt (wI S18 (174 + t) ((nI 2).toNatClampNeg) (nI 0)) fun S19 =>
  f12_census_h88 t N x1 x2 x3 x4 v13 N (nI 0) (nI 0) (nI 0) (-1) (nI 0) S19
def f12_copy_h71 (N : Nat) (x1 : Int32) (x2 : Int32) (k41 : Int32 → St → Option (Unit × St)) : Nat → Int32 → St → Option (Unit × St)
  | 0, _, _ => none
  | n + 1, x3, S =>
    if (nI 4) ≤ x3 then
      k41 (x2 + nI 1) S
    else
    ckI (((nI 4) * (((nI 4) * x1) + x2)) + x3) 96 <|
    ckI (((nI 4) * (((nI 4) * (S.1 146 6)) + x2)) + x3) 96 <|
    lt (wI S 150 ((((nI 4) * (((nI 4) * (S.1 146 6)) + x2)) + x3).toNatClampNeg) (S.1 150 (((nI 4) * (((nI 4) * x1) + x2)) + x3).toNatClampNeg)) fun S2 =>
    f12_copy_h71 N x1 x2 k41 n (x3 + nI 1) S2
def f12_copy_h41 (N : Nat) (x1 : Int32)  : Nat → Int32 → St → Option (Unit × St)
  | 0, _, _ => none
  | n + 1, x2, S =>
    if (nI 4) ≤ x2 then
      ckI x1 6 <|
      ckI (S.1 146 6) 6 <|
      lt (wI S 152 ((S.1 146 6).toNatClampNeg) (S.1 152 x1.toNatClampNeg)) fun S2 =>
      some ((), S2)
    else
    ckI (((nI 4) * x1) + x2) 24 <|
    ckI (((nI 4) * (S.1 146 6)) + x2) 24 <|
    lt (wI S 151 ((((nI 4) * (S.1 146 6)) + x2).toNatClampNeg) (S.1 151 (((nI 4) * x1) + x2).toNatClampNeg)) fun S3 =>
    f12_copy_h71 N x1 x2 (f12_copy_h41 N x1 n) N (nI 0) S3
def f12_copy_h2 (N : Nat) (x1 : Int32)  : Nat → Int32 → St → Option (Unit × St)
  | 0, _, _ => none
  | n + 1, x2, S =>
    if (nI 12) ≤ x2 then
      f12_copy_h41 N x1 N (nI 0) S
    else
    ckI (((nI 12) * x1) + x2) 72 <|
    ckI (((nI 12) * (S.1 146 6)) + x2) 72 <|
    lt (wI S 147 ((((nI 12) * (S.1 146 6)) + x2).toNatClampNeg) (S.1 147 (((nI 12) * x1) + x2).toNatClampNeg)) fun S2 =>
    f12_copy_h2 N x1 n (x2 + nI 1) S2
def f12_copy (N : Nat) (x1 : Int32) (S : St) : Option (Unit × St) :=
  f12_copy_h2 N x1 N (nI 0) S
def f12_helped_j169 (N : Nat) (x1 : Int32) (x2 : Int32) (k40 : Int32 → St → Option (Int32 × St)) (xs0 : Int32) (xs1 : Int32) (S : St) : Option (Int32 × St) :=
  ckI xs1 72 <|
  lt (wI S 147 xs1.toNatClampNeg xs0) fun S1 =>
  k40 (x2 + nI 1) S1
def f12_helped_j83 (N : Nat) (x1 : Int32) (x2 : Int32) (x4 : Int32) (k40 : Int32 → St → Option (Int32 × St)) (k54 : Int32 → Int32 → St → Option (Int32 × St)) (xs0 : Int32) (S : St) : Option (Int32 × St) :=
  k54 xs0 (x4 + nI 1) S
def f12_helped_j78 (N : Nat) (x1 : Int32) (x2 : Int32) (x4 : Int32) (k40 : Int32 → St → Option (Int32 × St)) (k54 : Int32 → Int32 → St → Option (Int32 × St))  (S : St) : Option (Int32 × St) :=
  f12_helped_j83 N x1 x2 x4 k40 k54 (nI 1) S
def f12_helped_h54 (N : Nat) (x1 : Int32) (x2 : Int32) (k40 : Int32 → St → Option (Int32 × St)) : Nat → Int32 → Int32 → St → Option (Int32 × St)
  | 0, _, _, _ => none
  | n + 1, x3, x4, S =>
    if (S.1 146 8) ≤ x4 then
      ckI (((nI 12) * (S.1 146 6)) + x2) 72 <|
      lt (S.1 147 (((nI 12) * (S.1 146 6)) + x2).toNatClampNeg) fun v2 =>
      if x3 = 0 then
        k40 (x2 + nI 1) S
      else
      if v2 ≤ (nI 1) then
        k40 (x2 + nI 1) S
      else
      lt ((shrI (nI 64) (v2 - (nI 1))) - (shrI (nI 64) v2)) fun v5 =>
      bnd (f12_sumOf N (S.1 146 6) S) fun q6 S7 =>
      if (nI 64) < (q6 + v5) then
        f12_helped_j169 N x1 x2 k40 v2 (((nI 12) * (S.1 146 6)) + x2) S7
      else
      f12_helped_j169 N x1 x2 k40 (v2 - (nI 1)) (((nI 12) * (S.1 146 6)) + x2) S7
    else
    if x3 = 0 then
      ckI x4 12 <|
      if (S.1 153 x4.toNatClampNeg) = x2 then
        f12_helped_j78 N x1 x2 x4 k40 (f12_helped_h54 N x1 x2 k40 n) S
      else
      f12_helped_j83 N x1 x2 x4 k40 (f12_helped_h54 N x1 x2 k40 n) (nI 0) S
    else
    f12_helped_j78 N x1 x2 x4 k40 (f12_helped_h54 N x1 x2 k40 n) S
def f12_helped_h40 (N : Nat) (x1 : Int32)  : Nat → Int32 → St → Option (Int32 × St)
  | 0, _, _ => none
  | n + 1, x2, S =>
    bnd (f12_ordersOf x1 S) fun q1 S2 =>
    if q1 ≤ x2 then
      bnd (f12_giveCodes N (S2.1 146 6) S2) fun q4 S5 =>
      lt (wI S5 146 6 ((S5.1 146 6) + (nI 1))) fun S6 =>
      some ((S6.1 146 6) - (nI 1), S6)
    else
    f12_helped_h54 N x1 x2 (f12_helped_h40 N x1 n) N (nI 0) (nI 0) S2
def f12_helped (N : Nat) (x1 : Int32) (S : St) : Option (Int32 × St) :=
  bnd (f12_isLanguage x1 S) fun q1 S2 =>
  if q1 = 0 then
    some ((-1), S2)
  else
  bnd (f12_isProgram N x1 S2) fun q4 S5 =>
  if q4 = 0 then
    some ((-5), S5)
  else
  if (S5.1 146 6) = (nI 6) then
    some ((-3), S5)
  else
  bnd (f12_copy N x1 S5) fun q8 S9 =>
  f12_helped_h40 N x1 N (nI 0) S9
def f12_learn_h181 (N : Nat) (x1 : Int32) (x2 : Int32) (x3 : Int32) (x4 : Int32) (x5 : Int32)  : Nat → Int32 → St → Option (Int32 × St)
  | 0, _, _ => none
  | n + 1, x6, S =>
    if x3 < x6 then
      ckI x1 6 <|
      ckI ((((nI 12) * (S.1 146 6)) + (nI 8)) + (S.1 152 x1.toNatClampNeg)) 72 <|
      lt (wI S 147 (((((nI 12) * (S.1 146 6)) + (nI 8)) + (S.1 152 x1.toNatClampNeg)).toNatClampNeg) x4) fun S2 =>
      ckI (S2.1 146 6) 6 <|
      ckI (S2.1 146 6) 6 <|
      lt (wI S2 152 ((S2.1 146 6).toNatClampNeg) ((S2.1 152 (S2.1 146 6).toNatClampNeg) + (nI 1))) fun S3 =>
      bnd (f12_giveCodes N (S3.1 146 6) S3) fun q4 S5 =>
      lt (wI S5 146 6 ((S5.1 146 6) + (nI 1))) fun S6 =>
      some ((S6.1 146 6) - (nI 1), S6)
    else
    ckI x6 12 <|
    ckI ((((nI 4) * x5) + x6) - x2) 96 <|
    lt (wI S 150 (((((nI 4) * x5) + x6) - x2).toNatClampNeg) (S.1 153 x6.toNatClampNeg)) fun S7 =>
    f12_learn_h181 N x1 x2 x3 x4 x5 n (x6 + nI 1) S7
def f12_learn_h75 (N : Nat) (x1 : Int32) (x2 : Int32) (x3 : Int32) (x4 : Int32)  : Nat → Int32 → St → Option (Int32 × St)
  | 0, _, _ => none
  | n + 1, x5, S =>
    if x3 < x5 then
      bnd (f12_isProgram N x1 S) fun q2 S3 =>
      if q2 = 0 then
        some ((-5), S3)
      else
      bnd (f12_sumOf N x1 S3) fun q5 S6 =>
      if (q5 + (shrI (nI 64) x4)) ≤ (nI 64) then
        if (S6.1 146 6) = (nI 6) then
          some ((-3), S6)
        else
        bnd (f12_copy N x1 S6) fun q9 S10 =>
        ckI x1 6 <|
        lt (((nI 4) * (S10.1 146 6)) + (S10.1 152 x1.toNatClampNeg)) fun v11 =>
        ckI v11 24 <|
        lt (wI S10 151 v11.toNatClampNeg ((x3 - x2) + (nI 1))) fun S12 =>
        f12_learn_h181 N x1 x2 x3 x4 v11 N x2 S12
      else
      some ((-5), S6)
    else
    ckI x5 12 <|
    bnd (f12_within ((S.1 153 x5.toNatClampNeg).toInt64) (lN 1) (lN 7) S) fun q13 S14 =>
    if q13 = 0 then
      some ((-1), S14)
    else
    f12_learn_h75 N x1 x2 x3 x4 n (x5 + nI 1) S14
def f12_learn_j65 (N : Nat) (x1 : Int32) (x2 : Int32) (x3 : Int32) (x4 : Int32)  (xs0 : Int32) (S : St) : Option (Int32 × St) :=
  ckI xs0 6 <|
  if (S.1 152 xs0.toNatClampNeg) = (nI 4) then
    some ((-1), S)
  else
  f12_learn_h75 N x1 x2 x3 x4 N x2 S
def f12_learn (N : Nat) (x1 : Int32) (x2 : Int32) (x3 : Int32) (x4 : Int32) (S : St) : Option (Int32 × St) :=
  bnd (f12_isLanguage x1 S) fun q1 S2 =>
  if q1 = 0 then
    some ((-1), S2)
  else
  bnd (f12_within x4.toInt64 (lN 1) (lN 6) S2) fun q4 S5 =>
  if q4 = 0 then
    some ((-1), S5)
  else
  if x2 < 0 then
    some ((-1), S5)
  else
  if (S5.1 146 8) ≤ x3 then
    some ((-1), S5)
  else
  bnd (f12_within (x3.toInt64 - x2.toInt64) (lN 1) (lN 3) S5) fun q9 S10 =>
  if q9 = 0 then
    some ((-1), S10)
  else
  bnd (f12_isLanguage x1 S10) fun q12 S13 =>
  if q12 = 0 then
    f12_learn_j65 N x1 x2 x3 x4 (nI 0) S13
  else
  f12_learn_j65 N x1 x2 x3 x4 x1 S13
def f12_cheaper (N : Nat) (x1 : Int32) (x2 : Int32) (x3 : Int32) (x4 : Int32) (S : St) : Option (Int32 × St) :=
  bnd (f12_isLanguage x1 S) fun q1 S2 =>
  if q1 = 0 then
    some ((-2000000000), S2)
  else
  bnd (f12_isLanguage x2 S2) fun q4 S5 =>
  if q4 = 0 then
    some ((-2000000000), S5)
  else
  bnd (f12_isTask x3 S5) fun q7 S8 =>
  if q7 = 0 then
    some ((-2000000000), S8)
  else
  bnd (f12_within x4.toInt64 (lN 1) (lN 14) S8) fun q10 S11 =>
  if q10 = 0 then
    some ((-2000000000), S11)
  else
  bnd (f12_find N x1 x3 x4 S11) fun q13 S14 =>
  if q13 = 0 then
    some ((-2000000000), S14)
  else
  lt (S14.1 146 41) fun v16 =>
  bnd (f12_find N x2 x3 x4 S14) fun q17 S18 =>
  if q17 = 0 then
    some ((-2000000000), S18)
  else
  some (v16 - (S18.1 146 41), S18)
def f12_price_j72 (N : Nat) (x1 : Int32) (x2 : Int32) (x4 : Int32) (k26 : Int32 → Int32 → St → Option (Int32 × St)) (xs0 : Int32) (S : St) : Option (Int32 × St) :=
  k26 xs0 (x4 + nI 1) S
def f12_price_h26 (N : Nat) (x1 : Int32) (x2 : Int32)  : Nat → Int32 → Int32 → St → Option (Int32 × St)
  | 0, _, _, _ => none
  | n + 1, x3, x4, S =>
    if (nI 8) ≤ x4 then
      some (x3, S)
    else
    ckI (((nI 12) * x2) + x4) 72 <|
    ckI (((nI 12) * x1) + x4) 72 <|
    lt ((S.1 147 (((nI 12) * x2) + x4).toNatClampNeg) - (S.1 147 (((nI 12) * x1) + x4).toNatClampNeg)) fun v2 =>
    if v2 ≤ x3 then
      f12_price_j72 N x1 x2 x4 (f12_price_h26 N x1 x2 n) x3 S
    else
    f12_price_j72 N x1 x2 x4 (f12_price_h26 N x1 x2 n) v2 S
def f12_price (N : Nat) (x1 : Int32) (x2 : Int32) (S : St) : Option (Int32 × St) :=
  bnd (f12_isLanguage x1 S) fun q1 S2 =>
  if q1 = 0 then
    some ((-2000000000), S2)
  else
  bnd (f12_isLanguage x2 S2) fun q4 S5 =>
  if q4 = 0 then
    some ((-2000000000), S5)
  else
  f12_price_h26 N x1 x2 N (-6) (nI 0) S5
def f12_translated_h43 (N : Nat) (x2 : Int32)  : Nat → Int32 → Int32 → St → Option (Int32 × St)
  | 0, _, _, _ => none
  | n + 1, x3, x4, S =>
    if (S.1 146 10) ≤ x4 then
      if (S.1 146 10) ≤ (nI 12) then
        some (x3, S)
      else
      some ((-2), S)
    else
    ckI x4 48 <|
    ckI (((nI 12) * x2) + (S.1 154 x4.toNatClampNeg)) 72 <|
    lt (x3 + (S.1 147 (((nI 12) * x2) + (S.1 154 x4.toNatClampNeg)).toNatClampNeg)) fun v3 =>
    f12_translated_h43 N x2 n v3 (x4 + nI 1) S
def f12_translated (N : Nat) (x1 : Int32) (x2 : Int32) (S : St) : Option (Int32 × St) :=
  bnd (f12_isLanguage x1 S) fun q1 S2 =>
  if q1 = 0 then
    some ((-1), S2)
  else
  bnd (f12_isLanguage x2 S2) fun q4 S5 =>
  if q4 = 0 then
    some ((-1), S5)
  else
  bnd (f12_isProgram N x1 S5) fun q7 S8 =>
  if q7 = 0 then
    some ((-5), S8)
  else
  bnd (f12_packed N S8) fun q10 S11 =>
  bnd (f12_write N x1 q10 S11) fun q12 S13 =>
  f12_translated_h43 N x2 N (nI 0) (nI 0) S13
def f12_kindOf  (x0 : Int32) (S : St) : Option (Int32 × St) :=
  if x0 = 0 then
    some (nI 1, S)
  else
  if x0 = (nI 3) then
    some (nI 3, S)
  else
  if x0 = (nI 4) then
    some (nI 4, S)
  else
  if (nI 6) ≤ x0 then
    if (nI 8) ≤ x0 then
      some (nI 6, S)
    else
    some (nI 5, S)
  else
  some (nI 2, S)
def f12_above  (x0 : Int32) (S : St) : Option (Int32 × St) :=
  if x0 = (nI 3) then
    some (nI 2, S)
  else
  if x0 = (nI 4) then
    some (nI 2, S)
  else
  if x0 = (nI 6) then
    some (nI 5, S)
  else
  some (nI 0, S)
def f12_ranBody_j19     (S : St) : Option (Unit × St) :=
  lt (wI S 146 57 ((S.1 146 57) + (nI 1))) fun S1 =>
  some ((), S1)
def f12_ranBody  (x1 : Int32) (S : St) : Option (Unit × St) :=
  if (nI 24) ≤ (S.1 146 57) then
    f12_ranBody_j19 S
  else
  ckI (S.1 146 57) 24 <|
  lt (wI S 169 ((S.1 146 57).toNatClampNeg) x1) fun S2 =>
  f12_ranBody_j19 S2
def f12_stepsAct_b (pv : Int32 → Int32 → St → Option (Int32 × St)) (x1 : Int32) (x2 : Int32) (S : St) : Option (Int32 × St) :=
  sw x1 [
      (nI 0, bnd (f12_ranBody (nI 1) S) fun q1 S2 =>
      some (x2 + (S2.1 146 58), S2)),
      (nI 2, bnd (f12_ranBody (nI 30) S) fun q3 S4 =>
      bnd (f12_above (nI 2) S4) fun q5 S6 =>
      bnd (pv q5 x2 S6) fun q7 S8 =>
      some (q7 + (nI 1), S8)),
      (nI 6, bnd (f12_ranBody (nI 70) S) fun q9 S10 =>
      bnd (f12_above (nI 6) S10) fun q11 S12 =>
      bnd (pv q11 (x2 + (nI 1)) S12) fun q13 S14 =>
      some (q13, S14))]
    (bnd (f12_above x1 S) fun q15 S16 =>
    bnd (pv q15 x2 S16) fun q17 S18 =>
    some (q17, S18))
def f12_stepsAct : Nat → Int32 → Int32 → St → Option (Int32 × St)
  | 0, _, _, _ => none
  | n + 1, x1, x2, S => f12_stepsAct_b (f12_stepsAct n) x1 x2 S
def f12_costs_b (pv : Int32 → Int32 → St → Option (Int32 × St)) (x1 : Int32) (x2 : Int32) (S : St) : Option (Int32 × St) :=
  sw x1 [
      (nI 0, bnd (f12_ranBody (nI 10) S) fun q1 S2 =>
      bnd (f12_stepsAct 6 (S2.1 146 60) x2 S2) fun q3 S4 =>
      some (q3 * (S4.1 146 59), S4)),
      (nI 3, bnd (f12_ranBody (nI 40) S) fun q5 S6 =>
      bnd (f12_above (nI 3) S6) fun q7 S8 =>
      bnd (pv q7 x2 S8) fun q9 S10 =>
      bnd (f12_stepsAct 6 (S10.1 146 60) (nI 2) S10) fun q11 S12 =>
      some (q9 + q11, S12))]
    (bnd (f12_above x1 S) fun q13 S14 =>
    bnd (pv q13 x2 S14) fun q15 S16 =>
    some (q15, S16))
def f12_costs : Nat → Int32 → Int32 → St → Option (Int32 × St)
  | 0, _, _, _ => none
  | n + 1, x1, x2, S => f12_costs_b (f12_costs n) x1 x2 S
def f12_goes_j121 (pv : Int32 → Int32 → St → Option (Int32 × St)) (x1 : Int32) (x2 : Int32)   (S : St) : Option (Int32 × St) :=
  bnd (f12_above x1 S) fun q1 S2 =>
  bnd (pv q1 x2 S2) fun q3 S4 =>
  some (q3, S4)
def f12_goes_b (pv : Int32 → Int32 → St → Option (Int32 × St)) (x1 : Int32) (x2 : Int32) (S : St) : Option (Int32 × St) :=
  sw x1 [
      (nI 0, bnd (f12_ranBody (nI 11) S) fun q1 S2 =>
      some (x2 ^^^ (S2.1 146 58), S2)),
      (nI 1, bnd (f12_ranBody (nI 20) S) fun q3 S4 =>
      bnd (f12_above (nI 1) S4) fun q5 S6 =>
      bnd (pv q5 x2 S6) fun q7 S8 =>
      some (-q7, S8)),
      (nI 2, f12_goes_j121 pv x1 x2 S),
      (nI 3, f12_goes_j121 pv x1 x2 S),
      (nI 4, f12_goes_j121 pv x1 x2 S),
      (nI 5, bnd (f12_ranBody (nI 60) S) fun q9 S10 =>
      bnd (f12_above (nI 5) S10) fun q11 S12 =>
      bnd (pv q11 x2 S12) fun q13 S14 =>
      some (q13 * (nI 3), S14)),
      (nI 6, bnd (f12_ranBody (nI 71) S) fun q15 S16 =>
      bnd (f12_above (nI 6) S16) fun q17 S18 =>
      bnd (pv q17 x2 S18) fun q19 S20 =>
      bnd (f12_costs 6 (S20.1 146 60) (nI 1) S20) fun q21 S22 =>
      some (q19 - q21, S22))]
    (f12_goes_j121 pv x1 x2 S)
def f12_goes : Nat → Int32 → Int32 → St → Option (Int32 × St)
  | 0, _, _, _ => none
  | n + 1, x1, x2, S => f12_goes_b (f12_goes n) x1 x2 S
def f12_tells_b (pv : Int32 → Int32 → St → Option (Int32 × St)) (x1 : Int32) (x2 : Int32) (S : St) : Option (Int32 × St) :=
  sw x1 [
      (nI 0, bnd (f12_ranBody (nI 2) S) fun q1 S2 =>
      bnd (f12_costs 6 (S2.1 146 60) x2 S2) fun q3 S4 =>
      bnd (f12_goes 6 (S4.1 146 60) (nI 1) S4) fun q5 S6 =>
      some (q3 - q5, S6)),
      (nI 4, bnd (f12_ranBody (nI 50) S) fun q7 S8 =>
      bnd (f12_above (nI 4) S8) fun q9 S10 =>
      bnd (pv q9 x2 S10) fun q11 S12 =>
      some (q11 ^^^ (nI 6), S12))]
    (bnd (f12_above x1 S) fun q13 S14 =>
    bnd (pv q13 x2 S14) fun q15 S16 =>
    some (q15, S16))
def f12_tells : Nat → Int32 → Int32 → St → Option (Int32 × St)
  | 0, _, _, _ => none
  | n + 1, x1, x2, S => f12_tells_b (f12_tells n) x1 x2 S
def f12_isOrder_j35  (x1 : Int32)  (xs0 : Int32) (S : St) : Option (Int32 × St) :=
  bnd (f12_hasOrder xs0 (remI x1 (nI 100)) S) fun q1 S2 =>
  if q1 = 0 then
    some (nI 0, S2)
  else
  some (nI 1, S2)
def f12_isOrder  (x1 : Int32) (S : St) : Option (Int32 × St) :=
  if x1 < 0 then
    some (nI 0, S)
  else
  bnd (f12_isLanguage (x1 / (nI 100)) S) fun q2 S3 =>
  if q2 = 0 then
    some (nI 0, S3)
  else
  bnd (f12_isLanguage (x1 / (nI 100)) S3) fun q5 S6 =>
  if q5 = 0 then
    f12_isOrder_j35 x1 (nI 0) S6
  else
  f12_isOrder_j35 x1 (x1 / (nI 100)) S6
def f12_act  (x1 : Int32) (x2 : Int32) (x3 : Int32) (S : St) : Option (Int32 × St) :=
  lt (wI S 146 57 (nI 0)) fun S1 =>
  bnd (f12_isOrder x1 S1) fun q2 S3 =>
  if q2 = 0 then
    some (nI 0, S3)
  else
  bnd (f12_within x2.toInt64 (lN 0) (lN 3) S3) fun q5 S6 =>
  if q5 = 0 then
    some (nI 0, S6)
  else
  lt (wI S6 146 58 (remI x1 (nI 100))) fun S8 =>
  ckI (((nI 12) * (x1 / (nI 100))) + (S8.1 146 58)) 72 <|
  lt (wI S8 146 59 (S8.1 147 (((nI 12) * (x1 / (nI 100))) + (S8.1 146 58)).toNatClampNeg)) fun S9 =>
  bnd (f12_kindOf (S9.1 146 58) S9) fun q10 S11 =>
  lt (wI S11 146 60 q10) fun S12 =>
  if x2 = 0 then
    bnd (f12_stepsAct 6 (S12.1 146 60) x3 S12) fun q22 S23 =>
    some (q22, S23)
  else
  if x2 = (nI 1) then
    bnd (f12_costs 6 (S12.1 146 60) x3 S12) fun q20 S21 =>
    some (q20, S21)
  else
  if x2 = (nI 2) then
    bnd (f12_goes 6 (S12.1 146 60) x3 S12) fun q18 S19 =>
    some (q18, S19)
  else
  bnd (f12_tells 6 (S12.1 146 60) x3 S12) fun q16 S17 =>
  some (q16, S17)
def f12_trace  (x1 : Int32) (S : St) : Option (Int32 × St) :=
  if x1 < 0 then
    some ((-1), S)
  else
  if (S.1 146 57) ≤ x1 then
    some ((-1), S)
  else
  if (nI 24) ≤ x1 then
    some ((-1), S)
  else
  ckI x1 24 <|
  some (S.1 169 x1.toNatClampNeg, S)
def f12_isShelf  (x0 : Int32) (S : St) : Option (Int32 × St) :=
  bnd (f12_within x0.toInt64 (lN 0) (lN 5) S) fun q1 S2 =>
  ckB q1 <|
  some (q1, S2)
def f12_keep_j22  (x1 : Int32) (x2 : Int32)   (S : St) : Option (Int32 × St) :=
  ckI x1 6 <|
  lt (wI S 170 x1.toNatClampNeg x2) fun S1 =>
  ckI x1 6 <|
  lt (wI S1 171 x1.toNatClampNeg (nI 0)) fun S2 =>
  some (nI 1, S2)
def f12_keep  (x1 : Int32) (x2 : Int32) (S : St) : Option (Int32 × St) :=
  bnd (f12_isShelf x1 S) fun q1 S2 =>
  if q1 = 0 then
    some ((-1), S2)
  else
  if x2 = (-1) then
    f12_keep_j22 x1 x2 S2
  else
  bnd (f12_isOrder x2 S2) fun q5 S6 =>
  if q5 = 0 then
    some ((-1), S6)
  else
  f12_keep_j22 x1 x2 S6
def f12_row_h58 (N : Nat) (x1 : Int32)  : Nat → Int32 → St → Option (Int32 × St)
  | 0, _, _ => none
  | n + 1, x4, S =>
    if (((nI 60) * x1) + (nI 60)) ≤ x4 then
      some (nI 1, S)
    else
    ckI x4 360 <|
    lt (wL S 172 x4.toNatClampNeg (lN 0)) fun S2 =>
    f12_row_h58 N x1 n (x4 + nI 1) S2
def f12_row (N : Nat) (x1 : Int32) (x2 : Int32) (x3 : Int32) (S : St) : Option (Int32 × St) :=
  bnd (f12_isShelf x1 S) fun q1 S2 =>
  if q1 = 0 then
    some ((-1), S2)
  else
  bnd (f12_within x2.toInt64 (lN 0) (lN 4) S2) fun q4 S5 =>
  if q4 = 0 then
    some ((-1), S5)
  else
  if x3 ≤ (nI 60) then
    if 0 ≤ x3 then
      ckI x1 6 <|
      lt (wI S5 170 x1.toNatClampNeg ((nI 1000) + x2)) fun S9 =>
      ckI x1 6 <|
      lt (wI S9 171 x1.toNatClampNeg x3) fun S10 =>
      lt ((nI 60) * x1) fun v11 =>
      f12_row_h58 N x1 N v11 S10
    else
    some ((-14), S5)
  else
  some ((-1), S5)
def f12_refusal  (x1 : Int32) (x2 : Int32) (S : St) : Option (Int32 × St) :=
  bnd (f12_isShelf x1 S) fun q1 S2 =>
  if q1 = 0 then
    some ((-1), S2)
  else
  ckI x1 6 <|
  if 0 ≤ (S2.1 170 x1.toNatClampNeg) then
    ckI x1 6 <|
    if (nI 1000) ≤ (S2.1 170 x1.toNatClampNeg) then
      if x2 < 0 then
        some ((-13), S2)
      else
      ckI x1 6 <|
      if (S2.1 171 x1.toNatClampNeg) ≤ x2 then
        some ((-13), S2)
      else
      some (nI 0, S2)
    else
    some ((-12), S2)
  else
  some ((-11), S2)
def f12_asSort  (x0 : Int32) (l1 : Int64) (S : St) : Option (Int64 × St) :=
  if x0 = 0 then
    some (l1.toInt32.toInt8.toInt32.toInt64, S)
  else
  if x0 = (nI 1) then
    some (l1.toInt32.toInt16.toInt32.toInt64, S)
  else
  if x0 = (nI 2) then
    some (l1.toInt32.toInt64, S)
  else
  if x0 = (nI 4) then
    if (cmpL l1 (lN 0)) = 0 then
      some (lN 0, S)
    else
    some (lN 1, S)
  else
  some (l1, S)
def f12_put_j38  (x5 : Int32)   (S : St) : Option (Int32 × St) :=
  if x5 = 0 then
    some (nI 1, S)
  else
  some (x5, S)
def f12_put  (x1 : Int32) (x2 : Int32) (l3 : Int64) (S : St) : Option (Int32 × St) :=
  bnd (f12_refusal x1 x2 S) fun q1 S2 =>
  if q1 = 0 then
    ckI x1 6 <|
    bnd (f12_asSort ((S2.1 170 x1.toNatClampNeg) - (nI 1000)) l3 S2) fun q4 S5 =>
    ckI (((nI 60) * x1) + x2) 360 <|
    lt (wL S5 172 ((((nI 60) * x1) + x2).toNatClampNeg) q4) fun S6 =>
    f12_put_j38 q1 S6
  else
  f12_put_j38 q1 S2
def f12_element  (x1 : Int32) (x2 : Int32) (S : St) : Option (Int64 × St) :=
  bnd (f12_refusal x1 x2 S) fun q1 S2 =>
  if q1 = 0 then
    ckI (((nI 60) * x1) + x2) 360 <|
    some (S2.2 172 (((nI 60) * x1) + x2).toNatClampNeg, S2)
  else
  some ((-9223372036854775808), S2)
def f12_shift_h151 (N : Nat) (x3 : Int32) (x4 : Int32) (x5 : Int32)  : Nat → Int32 → St → Option (Int32 × St)
  | 0, _, _ => none
  | n + 1, x6, S =>
    if x5 ≤ x6 then
      some (x5, S)
    else
    ckI x6 60 <|
    ckI ((((nI 60) * x3) + x4) + x6) 360 <|
    lt (wL S 172 (((((nI 60) * x3) + x4) + x6).toNatClampNeg) (S.2 173 x6.toNatClampNeg)) fun S2 =>
    f12_shift_h151 N x3 x4 x5 n (x6 + nI 1) S2
def f12_shift_h114 (N : Nat) (x1 : Int32) (x2 : Int32) (x3 : Int32) (x4 : Int32) (x5 : Int32)  : Nat → Int32 → St → Option (Int32 × St)
  | 0, _, _ => none
  | n + 1, x6, S =>
    if x5 ≤ x6 then
      f12_shift_h151 N x3 x4 x5 N (nI 0) S
    else
    ckI ((((nI 60) * x1) + x2) + x6) 360 <|
    ckI x6 60 <|
    lt (wL S 173 x6.toNatClampNeg (S.2 172 ((((nI 60) * x1) + x2) + x6).toNatClampNeg)) fun S2 =>
    f12_shift_h114 N x1 x2 x3 x4 x5 n (x6 + nI 1) S2
def f12_shift (N : Nat) (x1 : Int32) (x2 : Int32) (x3 : Int32) (x4 : Int32) (x5 : Int32) (S : St) : Option (Int32 × St) :=
  bnd (f12_isShelf x1 S) fun q1 S2 =>
  if q1 = 0 then
    some ((-1), S2)
  else
  bnd (f12_isShelf x3 S2) fun q4 S5 =>
  if q4 = 0 then
    some ((-1), S5)
  else
  ckI x1 6 <|
  if (S5.1 170 x1.toNatClampNeg) < 0 then
    some ((-11), S5)
  else
  ckI x3 6 <|
  if 0 ≤ (S5.1 170 x3.toNatClampNeg) then
    ckI x1 6 <|
    if (S5.1 170 x1.toNatClampNeg) < (nI 1000) then
      some ((-12), S5)
    else
    ckI x1 6 <|
    ckI x3 6 <|
    if (S5.1 170 x1.toNatClampNeg) = (S5.1 170 x3.toNatClampNeg) then
      if x5 < 0 then
        some ((-13), S5)
      else
      if x2 < 0 then
        some ((-13), S5)
      else
      if x4 < 0 then
        some ((-13), S5)
      else
      ckI x1 6 <|
      if ((S5.1 171 x1.toNatClampNeg) - x5) < x2 then
        some ((-13), S5)
      else
      ckI x3 6 <|
      if x4 ≤ ((S5.1 171 x3.toNatClampNeg) - x5) then
        f12_shift_h114 N x1 x2 x3 x4 x5 N (nI 0) S5
      else
      some ((-13), S5)
    else
    some ((-12), S5)
  else
  some ((-11), S5)
def f12_taken_j85 (N : Nat) (x2 : Int32) (x3 : Int32) (x4 : Int32)   (S : St) : Option (Int32 × St) :=
  if x4 = x2 then
    some (x3, S)
  else
  some ((-12), S)
def f12_taken_h64 (N : Nat) (x2 : Int32) (x3 : Int32)  : Nat → Int32 → St → Option (Int32 × St)
  | 0, _, _ => none
  | n + 1, x4, S =>
    if x4 = x2 then
      f12_taken_j85 N x2 x3 x4 S
    else
    if x4 ≤ 0 then
      f12_taken_j85 N x2 x3 x4 S
    else
    bnd (f12_above x4 S) fun q3 S4 =>
    f12_taken_h64 N x2 x3 n q3 S4
def f12_taken (N : Nat) (x1 : Int32) (x2 : Int32) (S : St) : Option (Int32 × St) :=
  bnd (f12_isShelf x1 S) fun q1 S2 =>
  if q1 = 0 then
    some ((-1), S2)
  else
  bnd (f12_within x2.toInt64 (lN 0) (lN 6) S2) fun q4 S5 =>
  if q4 = 0 then
    some ((-1), S5)
  else
  ckI x1 6 <|
  if 0 ≤ (S5.1 170 x1.toNatClampNeg) then
    ckI x1 6 <|
    if (S5.1 170 x1.toNatClampNeg) < (nI 1000) then
      ckI x1 6 <|
      bnd (f12_kindOf (remI (S5.1 170 x1.toNatClampNeg) (nI 100)) S5) fun q9 S10 =>
      f12_taken_h64 N x2 q9 N q9 S10
    else
    some ((-12), S5)
  else
  some ((-11), S5)
def f12_read_j248 (N : Nat) (x1 : Int32) (x2 : Int32) (l4 : Int64) (l6 : Int64) (x8 : Int32) (k55 : Int64 → Int64 → Int32 → Int32 → St → Option (Int32 × St)) (xs0 : Int32) (S : St) : Option (Int32 × St) :=
  k55 l4 l6 x8 xs0 S
def f12_read_j201 (N : Nat) (x1 : Int32) (x2 : Int32) (l4 : Int64) (l6 : Int64) (x8 : Int32) (x10 : Int32) (x11 : Int32) (x13 : Int32) (k55 : Int64 → Int64 → Int32 → Int32 → St → Option (Int32 × St)) (k69 : Int64 → Int32 → Int32 → Int32 → St → Option (Int32 × St)) (k150 : Int32 → Int32 → St → Option (Int32 × St)) (xs0 : Int32) (S : St) : Option (Int32 × St) :=
  k150 xs0 (x13 + nI 1) S
def f12_read_j199 (N : Nat) (x1 : Int32) (x2 : Int32) (l4 : Int64) (l6 : Int64) (x8 : Int32) (x10 : Int32) (x11 : Int32) (x12 : Int32) (x13 : Int32) (k55 : Int64 → Int64 → Int32 → Int32 → St → Option (Int32 × St)) (k69 : Int64 → Int32 → Int32 → Int32 → St → Option (Int32 × St)) (k150 : Int32 → Int32 → St → Option (Int32 × St))  (S : St) : Option (Int32 × St) :=
  f12_read_j201 N x1 x2 l4 l6 x8 x10 x11 x13 k55 k69 k150 x12 S
def f12_read_h150 (N : Nat) (x1 : Int32) (x2 : Int32) (l4 : Int64) (l6 : Int64) (x8 : Int32) (x10 : Int32) (x11 : Int32) (k55 : Int64 → Int64 → Int32 → Int32 → St → Option (Int32 × St)) (k69 : Int64 → Int32 → Int32 → Int32 → St → Option (Int32 × St)) : Nat → Int32 → Int32 → St → Option (Int32 × St)
  | 0, _, _, _ => none
  | n + 1, x12, x13, S =>
    bnd (f12_ordersOf x1 S) fun q1 S2 =>
    if q1 ≤ x13 then
      k69 l4 x10 x11 x12 S2
    else
    ckI (((nI 12) * x1) + x13) 72 <|
    if (S2.1 147 (((nI 12) * x1) + x13).toNatClampNeg) = x10 then
      ckI (((nI 12) * x1) + x13) 72 <|
      if (S2.1 148 (((nI 12) * x1) + x13).toNatClampNeg) = x11 then
        f12_read_j201 N x1 x2 l4 l6 x8 x10 x11 x13 k55 k69 (f12_read_h150 N x1 x2 l4 l6 x8 x10 x11 k55 k69 n) x13 S2
      else
      f12_read_j199 N x1 x2 l4 l6 x8 x10 x11 x12 x13 k55 k69 (f12_read_h150 N x1 x2 l4 l6 x8 x10 x11 k55 k69 n) S2
    else
    f12_read_j199 N x1 x2 l4 l6 x8 x10 x11 x12 x13 k55 k69 (f12_read_h150 N x1 x2 l4 l6 x8 x10 x11 k55 k69 n) S2
def f12_read_h69 (N : Nat) (x1 : Int32) (x2 : Int32) (l6 : Int64) (x8 : Int32) (k55 : Int64 → Int64 → Int32 → Int32 → St → Option (Int32 × St)) : Nat → Int64 → Int32 → Int32 → Int32 → St → Option (Int32 × St)
  | 0, _, _, _, _, _ => none
  | n + 1, l4, x10, x11, x12, S =>
    if 0 ≤ x12 then
      if x8 = (nI 12) then
        some ((-5), S)
      else
      lt (l6 ||| (shlL x12.toInt64 ((nI 4) * x8))) fun v3 =>
      if x12 = 0 then
        f12_read_j248 N x1 x2 l4 v3 (x8 + nI 1) k55 (nI 0) S
      else
      f12_read_j248 N x1 x2 l4 v3 (x8 + nI 1) k55 (nI 1) S
    else
    if x10 = (nI 6) then
      some ((-5), S)
    else
    ckI x2 6 <|
    if (S.1 170 x2.toNatClampNeg) = (-1) then
      some ((-2), S)
    else
    if (cmpL l4 (lN 0)) < 0 then
      some ((-2), S)
    else
    ckI x2 6 <|
    if (cmpL l4 ((S.1 171 x2.toNatClampNeg).toInt64)) < 0 then
      ckI (((nI 60) * x2) + l4.toInt32) 360 <|
      lt (((nI 2) * x11) + ((S.2 172 (((nI 60) * x2) + l4.toInt32).toNatClampNeg).toInt32)) fun v9 =>
      lt (l4 + (lN 1)) fun v10 =>
      f12_read_h150 N x1 x2 v10 l6 x8 (x10 + nI 1) v9 k55 (f12_read_h69 N x1 x2 l6 x8 k55 n) N x12 (nI 0) S
    else
    some ((-2), S)
def f12_read_h55 (N : Nat) (x1 : Int32) (x2 : Int32)  : Nat → Int64 → Int64 → Int32 → Int32 → St → Option (Int32 × St)
  | 0, _, _, _, _, _ => none
  | n + 1, l4, l6, x8, x9, S =>
    if x9 = 0 then
      bnd (f12_lookAt N l6 S) fun q2 S3 =>
      bnd (f12_sizeIn N x1 S3) fun q4 S5 =>
      some (q4, S5)
    else
    f12_read_h69 N x1 x2 l6 x8 (f12_read_h55 N x1 x2 n) N l4 (nI 0) (nI 0) (-1) S
def f12_read_j42 (N : Nat) (x1 : Int32) (x2 : Int32) (x3 : Int32)   (S : St) : Option (Int32 × St) :=
  lt x3.toInt64 fun v1 =>
  f12_read_h55 N x1 x2 N v1 (lN 0) (nI 0) (nI 1) S
def f12_read (N : Nat) (x1 : Int32) (x2 : Int32) (x3 : Int32) (S : St) : Option (Int32 × St) :=
  bnd (f12_isLanguage x1 S) fun q1 S2 =>
  if q1 = 0 then
    some ((-1), S2)
  else
  bnd (f12_isShelf x2 S2) fun q4 S5 =>
  if q4 = 0 then
    some ((-1), S5)
  else
  ckI x2 6 <|
  if (S5.1 170 x2.toNatClampNeg) = (-1) then
    f12_read_j42 N x1 x2 x3 S5
  else
  ckI x2 6 <|
  if (S5.1 170 x2.toNatClampNeg) = (nI 1004) then
    f12_read_j42 N x1 x2 x3 S5
  else
  some ((-12), S5)
def f12_count  (x1 : Int32) (S : St) : Option (Int32 × St) :=
  sw x1 [
      (nI 0, some (S.1 146 6, S)),
      (nI 1, some (S.1 146 34, S)),
      (nI 2, some (S.1 146 30, S)),
      (nI 3, some (S.1 146 54, S)),
      (nI 4, some (S.1 146 57, S))]
    (some ((-1), S))
