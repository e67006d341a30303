/-! Rows of orders packed into a long, four bits each. -/
theorem lN_tn {n : Nat} (h : n < 2 ^ 64) : (lN n).toBitVec.toNat = n := by
  show (BitVec.ofNat 64 n).toNat = n
  rw [BitVec.toNat_ofNat, Nat.mod_eq_of_lt h]
theorem lN_or {a b k : Nat} (ha : a < 2 ^ k) (h : 2 ^ k * b + a < 2 ^ 64) : lN a ||| lN (2 ^ k * b) = lN (2 ^ k * b + a) := by
  apply Int64.toBitVec_inj.mp
  apply BitVec.eq_of_toNat_eq
  rw [Int64.toBitVec_or, BitVec.toNat_or, lN_tn (by omega), lN_tn (by omega), lN_tn h, Nat.or_comm]
  exact (Nat.two_pow_add_eq_or_of_lt ha b).symm
theorem lN_and15 {n : Nat} (h : n < 2 ^ 64) : lN n &&& lN 15 = lN (n % 16) := by
  apply Int64.toBitVec_inj.mp
  apply BitVec.eq_of_toNat_eq
  rw [Int64.toBitVec_and, BitVec.toNat_and, lN_tn h, lN_tn (by omega), lN_tn (by omega)]
  exact Nat.and_two_pow_sub_one_eq_mod n 4
theorem sh_amt64 : ∀ s : Nat, s < 48 → (((nI s).toInt64 &&& 63).toBitVec.smod 64).toNat = s := by decide
theorem lN_shl {c s : Nat} (hs : s < 48) (h : c * 2 ^ s < 2 ^ 64) : shlL (lN c) (nI s) = lN (c * 2 ^ s) := by
  have hc : c < 2 ^ 64 := Nat.lt_of_le_of_lt (Nat.le_mul_of_pos_right c (Nat.two_pow_pos s)) h
  apply Int64.toBitVec_inj.mp
  apply BitVec.eq_of_toNat_eq
  show ((lN c).toBitVec <<< (((nI s).toInt64 &&& 63).toBitVec.smod 64).toNat).toNat = _
  rw [sh_amt64 s hs, BitVec.toNat_shiftLeft, Nat.shiftLeft_eq, lN_tn hc, lN_tn h, Nat.mod_eq_of_lt h]
theorem lN_toI {n : Nat} (h : n < 2 ^ 63) : (lN n).toInt = n := by
  have h1 := Int.bmod_eq_of_le (n := (n : Int)) (m := 2 ^ 64) (by omega) (by omega)
  unfold lN
  rw [← Int64.ofInt_eq_ofNat, Int64.toInt_ofInt]
  first | exact h1 | simpa using h1
theorem lN_shr4 {n : Nat} (h : n < 2 ^ 63) : shrL (lN n) (nI 4) = lN (n / 16) := by
  apply Int64.toInt_inj.mp
  show ((lN n).toBitVec.sshiftRight (((nI 4).toInt64 &&& 63).toBitVec.smod 64).toNat).toInt = _
  rw [sh_amt64 4 (by omega), BitVec.toInt_sshiftRight]
  show (lN n).toInt >>> 4 = _
  rw [lN_toI h, lN_toI (by omega), Int.shiftRight_eq_div_pow]
  rfl
theorem lN_i32 : ∀ n : Nat, n < 16 → (lN n).toInt32 = zI n := by decide
/-- a row as one number, the first order in the lowest four bits -/
def pack : List Nat → Nat
  | [] => 0
  | o :: t => o + 16 * pack t
theorem pack_lt : ∀ p : List Nat, (∀ x ∈ p, x < 16) → pack p < 16 ^ p.length
  | [], _ => Nat.one_pos
  | o :: t, h => by
    have h1 := pack_lt t (fun x hx => h x (List.mem_cons_of_mem _ hx))
    have h2 := h o List.mem_cons_self
    show o + 16 * pack t < 16 ^ (t.length + 1)
    rw [Nat.pow_succ]
    omega
theorem pack_app : ∀ (p q : List Nat), pack (p ++ q) = pack p + 16 ^ p.length * pack q
  | [], q => by simp [pack]
  | o :: t, q => by
    show o + 16 * pack (t ++ q) = o + 16 * pack t + 16 ^ (t.length + 1) * pack q
    rw [pack_app t q, Nat.pow_succ, Nat.mul_add, Nat.mul_comm (16 ^ t.length) 16, Nat.mul_assoc]
    omega
