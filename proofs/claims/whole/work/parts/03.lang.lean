/-! The words in which the methods of both classes are told as functions: a state is what the int places and the long places hold; a place is (cell, number). -/
abbrev St : Type := (Nat → Nat → Int32) × (Nat → Nat → Int64)
abbrev Hm : Type := List (Nat × Nat) × (Nat → Nat → Option Nat) × St
abbrev V : Type := Int32 ⊕ Int64 ⊕ Option Nat
abbrev vI (x : Int32) : V := .inl x
abbrev vL (x : Int64) : V := .inr (.inl x)
abbrev vR (r : Option Nat) : V := .inr (.inr r)
def wI (S : St) (a k : Nat) (x : Int32) : St := (fun c j => if c = a ∧ j = k then x else S.1 c j, S.2)
def wL (S : St) (a k : Nat) (x : Int64) : St := (S.1, fun c j => if c = a ∧ j = k then x else S.2 c j)
/-- n places of a cell from i on come to another (or the same) from j on -/
def cpI (S : St) (a i c j n : Nat) : St := (fun q k => if q = c ∧ j ≤ k ∧ k < j + n then S.1 a (i + (k - j)) else S.1 q k, S.2)
def cpL (S : St) (a i c j n : Nat) : St := (S.1, fun q k => if q = c ∧ j ≤ k ∧ k < j + n then S.2 a (i + (k - j)) else S.2 q k)
/-- the first n places of a cell become x -/
def fiI (S : St) (a n : Nat) (x : Int32) : St := (fun q k => if q = a ∧ k < n then x else S.1 q k, S.2)
def fiL (S : St) (a n : Nat) (x : Int64) : St := (S.1, fun q k => if q = a ∧ k < n then x else S.2 q k)
/-- a call, then the rest -/
def bnd {α β : Type} (X : Option (α × St)) (K : α → St → Option β) : Option β := match X with
  | none => none
  | some q => K q.1 q.2
def onR {β : Type} (r : Option Nat) (K : Nat → Option β) : Option β := match r with
  | none => none
  | some a => K a
def ifN {β : Type} (r : Option Nat) (X1 : Option β) (X2 : Nat → Option β) : Option β := match r with
  | none => X1
  | some a => X2 a
/-- a place that must be there -/
def ckI {β : Type} (i : Int32) (n : Nat) (X : Option β) : Option β := if i < 0 ∨ n ≤ i.toNatClampNeg then none else X
/-- an address that must be one of those -/
def ckA {β : Type} (l : List Nat) (a : Nat) (X : Option β) : Option β := if a ∈ l then X else none
/-- a divisor -/
def ckZ {β : Type} (y : Int32) (X : Option β) : Option β := if y = 0 then none else X
/-- a truth value -/
def ckB {β : Type} (x : Int32) (X : Option β) : Option β := if x = 0 ∨ x = 1 then X else none
/-- arraycopy: i from place s of n0, to place t of n1 -/
def ckC {β : Type} (s t i : Int32) (n0 n1 : Nat) (X : Option β) : Option β := if s < 0 ∨ t < 0 ∨ i < 0 ∨ n0 < s.toNatClampNeg + i.toNatClampNeg ∨ n1 < t.toNatClampNeg + i.toNatClampNeg then none else X
def sw {β : Type} (x : Int32) (l : List (Int32 × Option β)) (d : Option β) : Option β := match l with
  | [] => d
  | q :: t => if x = q.1 then q.2 else sw x t d
def remI (x y : Int32) : Int32 := x - x / y * y
def cmpL (x y : Int64) : Int32 := if y < x then 1 else if x = y then 0 else -1
def shlI (x y : Int32) : Int32 := x <<< (y &&& 31)
def shrI (x y : Int32) : Int32 := x >>> (y &&& 31)
def ushrI (x y : Int32) : Int32 := (x.toUInt32 >>> (y.toUInt32 &&& Int32.toUInt32 31)).toInt32
def shlL (x : Int64) (y : Int32) : Int64 := x <<< (y.toInt64 &&& 63)
def shrL (x : Int64) (y : Int32) : Int64 := x >>> (y.toInt64 &&& 63)
def maxI (x y : Int32) : Int32 := if x < y then y else x
def minI (x y : Int32) : Int32 := if y < x then y else x
/-- a value that bears a name -/
def lt {α β : Type} (e : α) (K : α → β) : β := K e
