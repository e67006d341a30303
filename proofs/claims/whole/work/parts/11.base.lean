/-! Numbers of 32 bits as integers; the words of part 03 on them; what a step leaves as it was. -/
def zI (z : Int) : Int32 := Int32.ofInt z
theorem zI_toInt {z : Int} (h : -2147483648 ≤ z ∧ z < 2147483648) : (zI z).toInt = z := by
  unfold zI
  rw [Int32.toInt_ofInt]
  have h1 := Int.bmod_eq_of_le (n := z) (m := 2 ^ 32) (by omega) (by omega)
  first | exact h1 | simpa using h1
theorem nI_z (n : Nat) : nI n = zI n := by
  unfold nI zI
  rw [Int32.ofInt_eq_ofNat]
theorem zI_of (x : Int32) : x = zI x.toInt := (Int32.ofInt_toInt x).symm
theorem zI_add (a b : Int) : zI a + zI b = zI (a + b) := (Int32.ofInt_add a b).symm
theorem zI_sub (a b : Int) : zI a - zI b = zI (a - b) := (Int32.ofInt_sub a b).symm
theorem zI_mul (a b : Int) : zI a * zI b = zI (a * b) := (Int32.ofInt_mul a b).symm
theorem zI_m1 : (-1 : Int32) = zI (-1) := rfl
theorem zI_0 : (0 : Int32) = zI 0 := rfl
theorem zI_lt {a b : Int} (ha : -2147483648 ≤ a ∧ a < 2147483648) (hb : -2147483648 ≤ b ∧ b < 2147483648) : zI a < zI b ↔ a < b := by
  rw [Int32.lt_iff_toInt_lt, zI_toInt ha, zI_toInt hb]
theorem zI_le {a b : Int} (ha : -2147483648 ≤ a ∧ a < 2147483648) (hb : -2147483648 ≤ b ∧ b < 2147483648) : zI a ≤ zI b ↔ a ≤ b := by
  rw [Int32.le_iff_toInt_le, zI_toInt ha, zI_toInt hb]
theorem zI_eq {a b : Int} (ha : -2147483648 ≤ a ∧ a < 2147483648) (hb : -2147483648 ≤ b ∧ b < 2147483648) : zI a = zI b ↔ a = b := by
  rw [← Int32.toInt_inj, zI_toInt ha, zI_toInt hb]
theorem zI_lt0 {a : Int} (ha : -2147483648 ≤ a ∧ a < 2147483648) : zI a < 0 ↔ a < 0 := zI_lt (b := 0) ha (by omega)
theorem zI_0lt {a : Int} (ha : -2147483648 ≤ a ∧ a < 2147483648) : 0 < zI a ↔ 0 < a := zI_lt (a := 0) (by omega) ha
theorem zI_le0 {a : Int} (ha : -2147483648 ≤ a ∧ a < 2147483648) : zI a ≤ 0 ↔ a ≤ 0 := zI_le (b := 0) ha (by omega)
theorem zI_0le {a : Int} (ha : -2147483648 ≤ a ∧ a < 2147483648) : 0 ≤ zI a ↔ 0 ≤ a := zI_le (a := 0) (by omega) ha
theorem zI_eq0 {a : Int} (ha : -2147483648 ≤ a ∧ a < 2147483648) : zI a = 0 ↔ a = 0 := zI_eq (b := 0) ha (by omega)
theorem zI_clamp {a : Int} (ha : -2147483648 ≤ a ∧ a < 2147483648) : (zI a).toNatClampNeg = a.toNat := by
  show (zI a).toInt.toNat = _
  rw [zI_toInt ha]
theorem zI_div {a b : Int} (ha : -2147483648 ≤ a ∧ a < 2147483648) (hb : 0 < b ∧ b < 2147483648) (h0 : 0 ≤ a) : zI a / zI b = zI (a / b) := by
  obtain ⟨m, rfl⟩ := Int.eq_ofNat_of_zero_le h0
  obtain ⟨k, rfl⟩ := Int.eq_ofNat_of_zero_le (Int.le_of_lt hb.1)
  have := pk_div (a := m) (d := k) (by omega) (by omega) (by omega)
  rw [nI_z, nI_z, nI_z] at this
  rw [this]
  rfl
theorem zI_rem {a b : Int} (ha : -2147483648 ≤ a ∧ a < 2147483648) (hb : 0 < b ∧ b < 2147483648) (h0 : 0 ≤ a) : remI (zI a) (zI b) = zI (a % b) := by
  unfold remI
  rw [zI_div ha hb h0, zI_mul, zI_sub]
  congr 1
  have := Int.emod_add_mul_ediv a b
  have h2 : a / b * b = b * (a / b) := Int.mul_comm _ _
  omega
theorem iT_lt {β : Type} {a b : Int} {X Y : β} [Decidable (zI a < zI b)] (h : -2147483648 ≤ a ∧ a < b ∧ b < 2147483648) : (if zI a < zI b then X else Y) = X := if_pos ((zI_lt (by omega) (by omega)).mpr h.2.1)
theorem iF_lt {β : Type} {a b : Int} {X Y : β} [Decidable (zI a < zI b)] (h : -2147483648 ≤ b ∧ b ≤ a ∧ a < 2147483648) : (if zI a < zI b then X else Y) = Y := if_neg (fun q => by have := (zI_lt (by omega) (by omega)).mp q; omega)
theorem iT_lt0 {β : Type} {a : Int} {X Y : β} [Decidable (zI a < 0)] (h : -2147483648 ≤ a ∧ a < 0 ∧ a < 2147483648) : (if zI a < 0 then X else Y) = X := if_pos ((zI_lt0 (by omega)).mpr h.2.1)
theorem iF_lt0 {β : Type} {a : Int} {X Y : β} [Decidable (zI a < 0)] (h : -2147483648 ≤ a ∧ 0 ≤ a ∧ a < 2147483648) : (if zI a < 0 then X else Y) = Y := if_neg (fun q => by have := (zI_lt0 (by omega)).mp q; omega)
theorem iT_0lt {β : Type} {a : Int} {X Y : β} [Decidable (0 < zI a)] (h : -2147483648 ≤ a ∧ 0 < a ∧ a < 2147483648) : (if 0 < zI a then X else Y) = X := if_pos ((zI_0lt (by omega)).mpr h.2.1)
theorem iF_0lt {β : Type} {a : Int} {X Y : β} [Decidable (0 < zI a)] (h : -2147483648 ≤ a ∧ a ≤ 0 ∧ a < 2147483648) : (if 0 < zI a then X else Y) = Y := if_neg (fun q => by have := (zI_0lt (by omega)).mp q; omega)
theorem iT_le {β : Type} {a b : Int} {X Y : β} [Decidable (zI a ≤ zI b)] (h : -2147483648 ≤ a ∧ a ≤ b ∧ b < 2147483648) : (if zI a ≤ zI b then X else Y) = X := if_pos ((zI_le (by omega) (by omega)).mpr h.2.1)
theorem iF_le {β : Type} {a b : Int} {X Y : β} [Decidable (zI a ≤ zI b)] (h : -2147483648 ≤ b ∧ b < a ∧ a < 2147483648) : (if zI a ≤ zI b then X else Y) = Y := if_neg (fun q => by have := (zI_le (by omega) (by omega)).mp q; omega)
theorem iT_le0 {β : Type} {a : Int} {X Y : β} [Decidable (zI a ≤ 0)] (h : -2147483648 ≤ a ∧ a ≤ 0 ∧ a < 2147483648) : (if zI a ≤ 0 then X else Y) = X := if_pos ((zI_le0 (by omega)).mpr h.2.1)
theorem iF_le0 {β : Type} {a : Int} {X Y : β} [Decidable (zI a ≤ 0)] (h : -2147483648 ≤ a ∧ 0 < a ∧ a < 2147483648) : (if zI a ≤ 0 then X else Y) = Y := if_neg (fun q => by have := (zI_le0 (by omega)).mp q; omega)
theorem iT_0le {β : Type} {a : Int} {X Y : β} [Decidable (0 ≤ zI a)] (h : -2147483648 ≤ a ∧ 0 ≤ a ∧ a < 2147483648) : (if 0 ≤ zI a then X else Y) = X := if_pos ((zI_0le (by omega)).mpr h.2.1)
theorem iF_0le {β : Type} {a : Int} {X Y : β} [Decidable (0 ≤ zI a)] (h : -2147483648 ≤ a ∧ a < 0 ∧ a < 2147483648) : (if 0 ≤ zI a then X else Y) = Y := if_neg (fun q => by have := (zI_0le (by omega)).mp q; omega)
theorem iT_eq {β : Type} {a b : Int} {X Y : β} [Decidable (zI a = zI b)] (h : a = b) : (if zI a = zI b then X else Y) = X := if_pos (congrArg zI h)
theorem iF_eq {β : Type} {a b : Int} {X Y : β} [Decidable (zI a = zI b)] (h : -2147483648 ≤ a ∧ a < 2147483648 ∧ -2147483648 ≤ b ∧ b < 2147483648 ∧ (a < b ∨ b < a)) : (if zI a = zI b then X else Y) = Y := if_neg (fun q => by have := (zI_eq (by omega) (by omega)).mp q; omega)
theorem iT_eq0 {β : Type} {a : Int} {X Y : β} [Decidable (zI a = 0)] (h : a = 0) : (if zI a = 0 then X else Y) = X := if_pos (by rw [h]; rfl)
theorem iF_eq0 {β : Type} {a : Int} {X Y : β} [Decidable (zI a = 0)] (h : -2147483648 ≤ a ∧ a < 2147483648 ∧ (a < 0 ∨ 0 < a)) : (if zI a = 0 then X else Y) = Y := if_neg (fun q => by have := (zI_eq0 (by omega)).mp q; omega)
theorem bnd_some {α β : Type} (r : α) (S : St) (K : α → St → Option β) : bnd (some (r, S)) K = K r S := rfl
theorem onR_some {β : Type} (a : Nat) (K : Nat → Option β) : onR (some a) K = K a := rfl
theorem ifN_some {β : Type} (a : Nat) (X : Option β) (K : Nat → Option β) : ifN (some a) X K = K a := rfl
theorem ifN_none {β : Type} (X : Option β) (K : Nat → Option β) : ifN none X K = X := rfl
theorem ckI_z {β : Type} {a : Int} {n : Nat} {X : Option β} (h : 0 ≤ a ∧ a < n ∧ n < 2147483648) : ckI (zI a) n X = X := by
  unfold ckI
  rw [if_neg]
  rw [zI_lt0 (by omega), zI_clamp (by omega)]
  omega
theorem ckA_in {β : Type} {l : List Nat} {a : Nat} {X : Option β} (h : a ∈ l) : ckA l a X = X := if_pos h
theorem ckZ_ne {β : Type} {y : Int32} {X : Option β} (h : ¬ y = 0) : ckZ y X = X := if_neg h
theorem ckB_01 {β : Type} {x : Int32} {X : Option β} (h : x = 0 ∨ x = 1) : ckB x X = X := if_pos h
theorem wI_1 (S : St) (a k : Nat) (x : Int32) (c j : Nat) : (wI S a k x).1 c j = if c = a ∧ j = k then x else S.1 c j := rfl
theorem wI_2 (S : St) (a k : Nat) (x : Int32) : (wI S a k x).2 = S.2 := rfl
theorem wL_2 (S : St) (a k : Nat) (x : Int64) (c j : Nat) : (wL S a k x).2 c j = if c = a ∧ j = k then x else S.2 c j := rfl
theorem wL_1 (S : St) (a k : Nat) (x : Int64) : (wL S a k x).1 = S.1 := rfl
/-- S2 is S but for the places that P tells -/
def Same (P : Nat → Nat → Prop) (S S2 : St) : Prop := ∀ a k, ¬ P a k → S2.1 a k = S.1 a k ∧ S2.2 a k = S.2 a k
theorem Same.rfl' {P : Nat → Nat → Prop} {S : St} : Same P S S := fun _ _ _ => ⟨rfl, rfl⟩
theorem Same.trans {P Q : Nat → Nat → Prop} {S S2 S3 : St} (h : Same P S S2) (h2 : Same Q S2 S3) : Same (fun a k => P a k ∨ Q a k) S S3 := fun a k hn => ⟨((h2 a k (fun q => hn (Or.inr q))).1).trans ((h a k (fun q => hn (Or.inl q))).1), ((h2 a k (fun q => hn (Or.inr q))).2).trans ((h a k (fun q => hn (Or.inl q))).2)⟩
theorem Same.tr {P : Nat → Nat → Prop} {S S2 S3 : St} (h : Same P S S2) (h2 : Same P S2 S3) : Same P S S3 := fun a k hn => ⟨((h2 a k hn).1).trans ((h a k hn).1), ((h2 a k hn).2).trans ((h a k hn).2)⟩
theorem Same.mono {P Q : Nat → Nat → Prop} {S S2 : St} (h : Same P S S2) (hi : ∀ a k, P a k → Q a k) : Same Q S S2 := fun a k hn => h a k (fun q => hn (hi a k q))
theorem Same.wI {P : Nat → Nat → Prop} {S S2 : St} {a k : Nat} {x : Int32} (h : Same P S S2) (hp : P a k) : Same P S (wI S2 a k x) := fun c j hn => by
  refine ⟨?_, (h c j hn).2⟩
  rw [wI_1, if_neg (fun q => hn (by rw [q.1, q.2]; exact hp))]
  exact (h c j hn).1
theorem Same.wL {P : Nat → Nat → Prop} {S S2 : St} {a k : Nat} {x : Int64} (h : Same P S S2) (hp : P a k) : Same P S (wL S2 a k x) := fun c j hn => by
  refine ⟨(h c j hn).1, ?_⟩
  rw [wL_2, if_neg (fun q => hn (by rw [q.1, q.2]; exact hp))]
  exact (h c j hn).2
theorem Same.i {P : Nat → Nat → Prop} {S S2 : St} (h : Same P S S2) {a k : Nat} (hn : ¬ P a k) : S2.1 a k = S.1 a k := (h a k hn).1
theorem Same.l {P : Nat → Nat → Prop} {S S2 : St} (h : Same P S S2) {a k : Nat} (hn : ¬ P a k) : S2.2 a k = S.2 a k := (h a k hn).2
theorem Same.row {P : Nat → Nat → Prop} {S S2 : St} (h : Same P S S2) {a : Nat} (hn : ∀ k, ¬ P a k) : S2.1 a = S.1 a := funext fun k => (h a k (hn k)).1
theorem Same.rowL {P : Nat → Nat → Prop} {S S2 : St} (h : Same P S S2) {a : Nat} (hn : ∀ k, ¬ P a k) : S2.2 a = S.2 a := funext fun k => (h a k (hn k)).2
/-- a row of numbers lies there from place o on -/
def Held (f : Nat → Int32) (o : Nat) (l : List Nat) : Prop := ∀ (i x : Nat), l[i]? = some x → f (o + i) = zI x
-- the Program
def PR (S : St) (a : Nat) (p : List Nat) : Prop := S.1 a 1 = zI p.length ∧ p.length ≤ 12 ∧ (∀ x ∈ p, x < 12) ∧ Held (S.1 (a + 1)) 0 p
theorem f6_length_eq {S : St} {a : Nat} {p : List Nat} (h : PR S a p) : f6_length a S = some (zI p.length, S) := by
  unfold f6_length; rw [h.1]
theorem f6_orderAt_in {S : St} {a i x : Nat} {p : List Nat} (h : PR S a p) (hi : p[i]? = some x) : f6_orderAt a (zI i) S = some (zI x, S) := by
  have h1 := h.1
  have h2 := h.2.1
  have h3 : i < p.length := (List.getElem?_eq_some_iff.mp hi).1
  have h4 := h.2.2.2 i x hi
  rw [Nat.zero_add] at h4
  unfold f6_orderAt
  simp (disch := omega) only [h1, nI_z, iF_lt0, iF_le, ckI_z, zI_clamp, Int.toNat_natCast, h4]
theorem rd_same {S : St} {a k : Nat} {x : Int32} : (wI S a k x).1 a k = x := by rw [wI_1, if_pos ⟨rfl, rfl⟩]
theorem rd_ne {S : St} {a k c j : Nat} {x : Int32} (h : c ≠ a ∨ j ≠ k) : (wI S a k x).1 c j = S.1 c j := by rw [wI_1, if_neg (by omega)]
theorem rdL_same {S : St} {a k : Nat} {x : Int64} : (wL S a k x).2 a k = x := by rw [wL_2, if_pos ⟨rfl, rfl⟩]
theorem rdL_ne {S : St} {a k c j : Nat} {x : Int64} (h : c ≠ a ∨ j ≠ k) : (wL S a k x).2 c j = S.2 c j := by rw [wL_2, if_neg (by omega)]
theorem xrng (x : Int32) : -2147483648 ≤ x.toInt ∧ x.toInt < 2147483648 := by
  have h1 := Int32.le_toInt x
  have h2 := Int32.toInt_lt x
  omega
/-- a truth value as a number -/
def bI (c : Prop) [Decidable c] : Int32 := if c then zI 1 else zI 0
theorem bI_t {c : Prop} [Decidable c] (h : c) : bI c = zI 1 := if_pos h
theorem bI_f {c : Prop} [Decidable c] (h : ¬ c) : bI c = zI 0 := if_neg h
theorem bI_01 (c : Prop) [Decidable c] : bI c = 0 ∨ bI c = 1 := by
  by_cases h : c
  · exact Or.inr (bI_t h)
  · exact Or.inl (bI_f h)
theorem bI_eq0 {c : Prop} [Decidable c] : bI c = 0 ↔ ¬ c := by
  by_cases h : c
  · rw [bI_t h]; exact ⟨fun q => absurd q (by decide), fun q => absurd h q⟩
  · rw [bI_f h]; exact ⟨fun _ => h, fun _ => rfl⟩
theorem iT_b {β : Type} {c : Prop} [Decidable c] {X Y : β} [Decidable (bI c = 0)] (h : ¬ c) : (if bI c = 0 then X else Y) = X := if_pos (bI_eq0.mpr h)
theorem iF_b {β : Type} {c : Prop} [Decidable c] {X Y : β} [Decidable (bI c = 0)] (h : c) : (if bI c = 0 then X else Y) = Y := if_neg (fun q => bI_eq0.mp q h)
