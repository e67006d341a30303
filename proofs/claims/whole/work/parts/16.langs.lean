/-! Both sides on the call 'language'. -/
theorem rem_neg {a : Int} (ha : -2147483648 ≤ a ∧ a < 0) : ∃ r : Int, -10 < r ∧ r ≤ 0 ∧ remI (zI a) (zI ((10 : Nat) : Int)) = zI r := by
  obtain ⟨b, hb⟩ : ∃ b : Nat, a = -(b : Int) := ⟨(-a).toNat, by omega⟩
  have hd : a.tdiv 10 = -((b / 10 : Nat) : Int) := by
    rw [hb, Int.neg_tdiv, Int.tdiv_eq_ediv_of_nonneg (by omega)]
    omega
  have hq : zI a / zI ((10 : Nat) : Int) = zI (-((b / 10 : Nat) : Int)) := by
    rw [← Int32.toInt_inj, Int32.toInt_div, zI_toInt (by omega), zI_toInt (by omega), zI_toInt (by omega)]
    show (a.tdiv 10).bmod (2 ^ 32) = _
    rw [hd]
    exact Int.bmod_eq_of_le (by omega) (by omega)
  refine ⟨-((b % 10 : Nat) : Int), by omega, by omega, ?_⟩
  unfold remI
  rw [hq, zI_mul, zI_sub]
  congr 1
  omega
def dg (x i : Nat) : Nat := x / 10 ^ i % 10
def dok (x i : Nat) : Prop := 1 ≤ dg x i ∧ dg x i ≤ 6
def tsum (x i : Nat) : Nat := ((List.range i).map (fun j => 2 ^ (6 - dg x j))).sum
theorem tsum_s (x i : Nat) : tsum x (i + 1) = tsum x i + 2 ^ (6 - dg x i) := by
  unfold tsum
  rw [List.range_succ, List.map_append, List.sum_append, List.map_cons, List.map_nil, List.sum_cons, List.sum_nil, Nat.add_zero]
theorem tsum_le (x : Nat) : ∀ i, tsum x i ≤ 64 * i
  | 0 => Nat.le_refl _
  | i + 1 => by
    have h := tsum_le x i
    have h1 : 2 ^ (6 - dg x i) ≤ 2 ^ 6 := Nat.pow_le_pow_right (by omega) (by omega)
    rw [tsum_s]
    omega
theorem dg_next (x i : Nat) : x / 10 ^ i / 10 = x / 10 ^ (i + 1) := by rw [Nat.div_div_eq_div_mul, Nat.pow_succ]
theorem dgs_eq (x : Nat) : dgs x = [dg x 7, dg x 6, dg x 5, dg x 4, dg x 3, dg x 2, dg x 1, dg x 0] := rfl
theorem lsum_dgs (x : Nat) : lsum (dgs x) = tsum x 8 := by
  rw [dgs_eq]
  simp only [tsum_s]
  simp [lsum, tsum]
  omega
theorem LV_dgs {x : Nat} (h : ∀ i, i < 8 → dok x i) (hs : tsum x 8 ≤ 64) : LV (dgs x, []) := by
  refine ⟨by rw [dgs_eq]; rfl, Nat.zero_le _, fun b hb => ?_, ?_, fun q hq => (by cases hq)⟩
  · rw [dgs_eq] at hb
    simp only [List.mem_cons, List.not_mem_nil, or_false] at hb
    rcases hb with e | e | e | e | e | e | e | e <;> (rw [e]; exact h _ (by omega))
  · rw [← lsum_dgs] at hs
    exact hs
-- the class
theorem f11_sod_loop {N x : Nat} {S : St} (hx : x < 2147483648) : ∀ (m i n : Nat), i + m = 8 → m < n →
    (((∀ j, i ≤ j → j < 8 → dok x j) ∧ x / 10 ^ 8 = 0) → f11_sumOfDigits_h6 N n (zI (tsum x i)) (zI ((x / 10 ^ i : Nat) : Int)) (zI i) S = some (zI (tsum x 8), S)) ∧
    (¬ ((∀ j, i ≤ j → j < 8 → dok x j) ∧ x / 10 ^ 8 = 0) → f11_sumOfDigits_h6 N n (zI (tsum x i)) (zI ((x / 10 ^ i : Nat) : Int)) (zI i) S = some (zI (-1), S)) := by
  intro m
  induction m with
  | zero =>
    intro i n hi hn
    obtain ⟨n, rfl⟩ : ∃ z, n = z + 1 := ⟨n - 1, by omega⟩
    obtain rfl : i = 8 := by omega
    have hle := tsum_le x 8
    have hd : x / 10 ^ 8 ≤ x := Nat.div_le_self _ _
    generalize x / 10 ^ 8 = y at hd
    rw [f11_sumOfDigits_h6]
    refine ⟨fun h => ?_, fun h => ?_⟩
    · have h0 : y = 0 := h.2
      simp (disch := omega) only [nI_z, zI_add, zI_sub, zI_mul, zI_m1, ckI_z, zI_clamp, Int.toNat_natCast, bnd_some, lt, rd_same, rd_ne, rdL_same, rdL_ne, wI_2, wL_1, if_true, if_false, iT_lt, iF_lt, iT_lt0, iF_lt0, iT_0lt, iF_0lt, iT_le, iF_le, iT_le0, iF_le0, iT_0le, iF_0le, iT_eq, iF_eq, iT_eq0, iF_eq0]
    · have h0 : y ≠ 0 := fun e => h ⟨fun j h1 h2 => by omega, e⟩
      simp (disch := omega) only [nI_z, zI_add, zI_sub, zI_mul, zI_m1, ckI_z, zI_clamp, Int.toNat_natCast, bnd_some, lt, rd_same, rd_ne, rdL_same, rdL_ne, wI_2, wL_1, if_true, if_false, iT_lt, iF_lt, iT_lt0, iF_lt0, iT_0lt, iF_0lt, iT_le, iF_le, iT_le0, iF_le0, iT_0le, iF_0le, iT_eq, iF_eq, iT_eq0, iF_eq0]
  | succ m ih =>
    intro i n hi hn
    obtain ⟨n, rfl⟩ : ∃ z, n = z + 1 := ⟨n - 1, by omega⟩
    obtain ⟨ih1, ih2⟩ := ih (i + 1) n (by omega) (by omega)
    have hle := tsum_le x (i + 1)
    rw [tsum_s, ← dg_next x i] at ih1 ih2
    rw [tsum_s] at hle
    have hd : x / 10 ^ i ≤ x := Nat.div_le_self _ _
    have hdg : dg x i = x / 10 ^ i % 10 := rfl
    generalize x / 10 ^ i = y at hd ih1 ih2 hdg
    have h1 : ((y : Int) / ((10 : Nat) : Int)) = ((y / 10 : Nat) : Int) := by omega
    have h2 : ((y : Int) % ((10 : Nat) : Int)) = (dg x i : Int) := by omega
    rw [f11_sumOfDigits_h6]
    by_cases hk : dok x i
    · have hk2 : 1 ≤ dg x i ∧ dg x i ≤ 6 := hk
      have hsh := zI_shr (c := 64) (s := dg x i) (by omega) (by omega)
      rw [sh64 _ (by omega)] at hsh
      have hiff : (∀ j, i ≤ j → j < 8 → dok x j) ↔ (∀ j, i + 1 ≤ j → j < 8 → dok x j) := by
        constructor
        · intro h j h1 h2; exact h j (by omega) h2
        · intro h j h1 h2
          by_cases e : j = i
          · rw [e]; exact hk
          · exact h j (by omega) h2
      rw [hiff]
      refine ⟨fun h => ?_, fun h => ?_⟩
      · simp (disch := omega) only [zI_rem, zI_div, h1, h2, hsh, nI_z, zI_add, zI_sub, zI_mul, zI_m1, ckI_z, zI_clamp, Int.toNat_natCast, bnd_some, lt, rd_same, rd_ne, rdL_same, rdL_ne, wI_2, wL_1, if_true, if_false, iT_lt, iF_lt, iT_lt0, iF_lt0, iT_0lt, iF_0lt, iT_le, iF_le, iT_le0, iF_le0, iT_0le, iF_0le, iT_eq, iF_eq, iT_eq0, iF_eq0]
        exact ih1 h
      · simp (disch := omega) only [zI_rem, zI_div, h1, h2, hsh, nI_z, zI_add, zI_sub, zI_mul, zI_m1, ckI_z, zI_clamp, Int.toNat_natCast, bnd_some, lt, rd_same, rd_ne, rdL_same, rdL_ne, wI_2, wL_1, if_true, if_false, iT_lt, iF_lt, iT_lt0, iF_lt0, iT_0lt, iF_0lt, iT_le, iF_le, iT_le0, iF_le0, iT_0le, iF_0le, iT_eq, iF_eq, iT_eq0, iF_eq0]
        exact ih2 h
    · refine ⟨fun h => absurd (h.1 i (Nat.le_refl _) (by omega)) hk, fun _ => ?_⟩
      have hk2 : ¬ (1 ≤ dg x i ∧ dg x i ≤ 6) := hk
      by_cases e : dg x i < 1
      · simp (disch := omega) only [zI_rem, zI_div, h1, h2, nI_z, zI_add, zI_sub, zI_mul, zI_m1, ckI_z, zI_clamp, Int.toNat_natCast, bnd_some, lt, rd_same, rd_ne, rdL_same, rdL_ne, wI_2, wL_1, if_true, if_false, iT_lt, iF_lt, iT_lt0, iF_lt0, iT_0lt, iF_0lt, iT_le, iF_le, iT_le0, iF_le0, iT_0le, iF_0le, iT_eq, iF_eq, iT_eq0, iF_eq0]
      · simp (disch := omega) only [zI_rem, zI_div, h1, h2, nI_z, zI_add, zI_sub, zI_mul, zI_m1, ckI_z, zI_clamp, Int.toNat_natCast, bnd_some, lt, rd_same, rd_ne, rdL_same, rdL_ne, wI_2, wL_1, if_true, if_false, iT_lt, iF_lt, iT_lt0, iF_lt0, iT_0lt, iF_0lt, iT_le, iF_le, iT_le0, iF_le0, iT_0le, iF_0le, iT_eq, iF_eq, iT_eq0, iF_eq0]
/-- a number of 8 digits, 1 to 6 each -/
def dgood (x : Int) : Prop := 0 ≤ x ∧ (∀ j, j < 8 → dok x.toNat j) ∧ x.toNat / 10 ^ 8 = 0
theorem f11_sod_ok {N : Nat} {x : Int} {S : St} (hN : 20 ≤ N) (hx : -2147483648 ≤ x ∧ x < 2147483648) : (dgood x → f11_sumOfDigits N (zI x) S = some (zI (tsum x.toNat 8), S)) ∧ (¬ dgood x → f11_sumOfDigits N (zI x) S = some (zI (-1), S)) := by
  by_cases h0 : 0 ≤ x
  · obtain ⟨k, rfl⟩ : ∃ k : Nat, x = k := ⟨x.toNat, by omega⟩
    obtain ⟨h1, h2⟩ := f11_sod_loop (N := N) (x := k) (S := S) (by omega) 8 0 N (by omega) (by omega)
    have e : dgood (k : Int) ↔ ((∀ j, 0 ≤ j → j < 8 → dok k j) ∧ k / 10 ^ 8 = 0) := by
      unfold dgood
      rw [Int.toNat_natCast]
      constructor
      · rintro ⟨-, a, b⟩; exact ⟨fun j _ => a j, b⟩
      · rintro ⟨a, b⟩; exact ⟨h0, fun j => a j (Nat.zero_le _), b⟩
    rw [Nat.pow_zero, Nat.div_one] at h1 h2
    rw [e, Int.toNat_natCast]
    exact ⟨h1, h2⟩
  · refine ⟨fun h => absurd h.1 h0, fun _ => ?_⟩
    obtain ⟨r, r1, r2, r3⟩ := rem_neg (a := x) (by omega)
    obtain ⟨n, rfl⟩ : ∃ z, N = z + 1 := ⟨N - 1, by omega⟩
    unfold f11_sumOfDigits
    rw [f11_sumOfDigits_h6]
    simp (disch := omega) only [r3, nI_z, zI_add, zI_sub, zI_mul, zI_m1, ckI_z, zI_clamp, Int.toNat_natCast, bnd_some, lt, rd_same, rd_ne, rdL_same, rdL_ne, wI_2, wL_1, if_true, if_false, iT_lt, iF_lt, iT_lt0, iF_lt0, iT_0lt, iF_0lt, iT_le, iF_le, iT_le0, iF_le0, iT_0le, iF_0le, iT_eq, iF_eq, iT_eq0, iF_eq0]
-- the reference
theorem within_d (S : St) : ∀ d : Nat, d < 10 → f12_within ((zI d).toInt64) (lN 1) (lN 6) S = some (bI (1 ≤ d ∧ d ≤ 6), S)
  | 0, _ => rfl
  | 1, _ => rfl
  | 2, _ => rfl
  | 3, _ => rfl
  | 4, _ => rfl
  | 5, _ => rfl
  | 6, _ => rfl
  | 7, _ => rfl
  | 8, _ => rfl
  | 9, _ => rfl
  | d + 10, h => absurd h (by omega)
theorem f12_lang_bad {N : Nat} {S : St} (x1 : Int32) : ∀ (m n : Nat) (z : Int) (x2 : Int32), m ≤ 8 → m < n → z = (m : Int) - 1 → f12_language_h16 N x1 n x2 (zI ((0 : Nat) : Int)) (zI z) S = some (zI (-1), S) := by
  intro m
  induction m with
  | zero =>
    intro n z x2 hm hn hz
    obtain ⟨n, rfl⟩ : ∃ z, n = z + 1 := ⟨n - 1, by omega⟩
    rw [f12_language_h16]
    simp (disch := omega) only [nI_z, zI_add, zI_sub, zI_mul, zI_m1, ckI_z, zI_clamp, Int.toNat_natCast, bnd_some, lt, rd_same, rd_ne, rdL_same, rdL_ne, wI_2, wL_1, if_true, if_false, iT_lt, iF_lt, iT_lt0, iF_lt0, iT_0lt, iF_0lt, iT_le, iF_le, iT_le0, iF_le0, iT_0le, iF_0le, iT_eq, iF_eq, iT_eq0, iF_eq0]
  | succ m ih =>
    intro n z x2 hm hn hz
    obtain ⟨n, rfl⟩ : ∃ z, n = z + 1 := ⟨n - 1, by omega⟩
    have ih1 := ih n (z + -1) (x2 / zI ((10 : Nat) : Int)) (by omega) (by omega) (by omega)
    rw [f12_language_h16]
    simp (disch := omega) only [f12_language_j44, f12_language_j45, nI_z, zI_add, zI_sub, zI_mul, zI_m1, ckI_z, zI_clamp, Int.toNat_natCast, bnd_some, lt, rd_same, rd_ne, rdL_same, rdL_ne, wI_2, wL_1, if_true, if_false, iT_lt, iF_lt, iT_lt0, iF_lt0, iT_0lt, iF_0lt, iT_le, iF_le, iT_le0, iF_le0, iT_0le, iF_0le, iT_eq, iF_eq, iT_eq0, iF_eq0]
    exact ih1
theorem f12_lang_loop {N x : Nat} {S : St} (x1 : Int32) (hx : x < 2147483648) : ∀ (m i n : Nat) (z : Int), i + m = 8 → m < n → z = (m : Int) - 1 →
    (((∀ j, i ≤ j → j < 8 → dok x j) ∧ x / 10 ^ 8 = 0) → f12_language_h16 N x1 n (zI ((x / 10 ^ i : Nat) : Int)) (zI ((1 : Nat) : Int)) (zI z) S = f12_language_h76 N x1 N x1 (zI ((0 : Nat) : Int)) (zI ((7 : Nat) : Int)) S) ∧
    (¬ ((∀ j, i ≤ j → j < 8 → dok x j) ∧ x / 10 ^ 8 = 0) → f12_language_h16 N x1 n (zI ((x / 10 ^ i : Nat) : Int)) (zI ((1 : Nat) : Int)) (zI z) S = some (zI (-1), S)) := by
  intro m
  induction m with
  | zero =>
    intro i n z hi hn hz
    obtain ⟨n, rfl⟩ : ∃ z, n = z + 1 := ⟨n - 1, by omega⟩
    obtain rfl : i = 8 := by omega
    have hd : x / 10 ^ 8 ≤ x := Nat.div_le_self _ _
    generalize x / 10 ^ 8 = y at hd
    rw [f12_language_h16]
    refine ⟨fun h => ?_, fun h => ?_⟩
    · have h0 : y = 0 := h.2
      simp (disch := omega) only [nI_z, zI_add, zI_sub, zI_mul, zI_m1, ckI_z, zI_clamp, Int.toNat_natCast, bnd_some, lt, rd_same, rd_ne, rdL_same, rdL_ne, wI_2, wL_1, if_true, if_false, iT_lt, iF_lt, iT_lt0, iF_lt0, iT_0lt, iF_0lt, iT_le, iF_le, iT_le0, iF_le0, iT_0le, iF_0le, iT_eq, iF_eq, iT_eq0, iF_eq0]
    · have h0 : y ≠ 0 := fun e => h ⟨fun j h1 h2 => by omega, e⟩
      simp (disch := omega) only [nI_z, zI_add, zI_sub, zI_mul, zI_m1, ckI_z, zI_clamp, Int.toNat_natCast, bnd_some, lt, rd_same, rd_ne, rdL_same, rdL_ne, wI_2, wL_1, if_true, if_false, iT_lt, iF_lt, iT_lt0, iF_lt0, iT_0lt, iF_0lt, iT_le, iF_le, iT_le0, iF_le0, iT_0le, iF_0le, iT_eq, iF_eq, iT_eq0, iF_eq0]
  | succ m ih =>
    intro i n z hi hn hz
    obtain ⟨n, rfl⟩ : ∃ z, n = z + 1 := ⟨n - 1, by omega⟩
    obtain ⟨ih1, ih2⟩ := ih (i + 1) n (z + -1) (by omega) (by omega) (by omega)
    rw [← dg_next x i] at ih1 ih2
    have hd : x / 10 ^ i ≤ x := Nat.div_le_self _ _
    have hdg : dg x i = x / 10 ^ i % 10 := rfl
    have hw := within_d S (dg x i) (by omega)
    generalize x / 10 ^ i = y at hd ih1 ih2 hdg
    have h1 : ((y : Int) / ((10 : Nat) : Int)) = ((y / 10 : Nat) : Int) := by omega
    have h2 : ((y : Int) % ((10 : Nat) : Int)) = (dg x i : Int) := by omega
    rw [f12_language_h16]
    by_cases hk : dok x i
    · have hk2 : 1 ≤ dg x i ∧ dg x i ≤ 6 := hk
      rw [bI_t hk2] at hw
      have hiff : (∀ j, i ≤ j → j < 8 → dok x j) ↔ (∀ j, i + 1 ≤ j → j < 8 → dok x j) := by
        constructor
        · intro h j h1 h2; exact h j (by omega) h2
        · intro h j h1 h2
          by_cases e : j = i
          · rw [e]; exact hk
          · exact h j (by omega) h2
      rw [hiff]
      refine ⟨fun h => ?_, fun h => ?_⟩
      · simp (disch := omega) only [zI_rem, zI_div, h1, h2, hw, f12_language_j45, nI_z, zI_add, zI_sub, zI_mul, zI_m1, ckI_z, zI_clamp, Int.toNat_natCast, bnd_some, lt, rd_same, rd_ne, rdL_same, rdL_ne, wI_2, wL_1, if_true, if_false, iT_lt, iF_lt, iT_lt0, iF_lt0, iT_0lt, iF_0lt, iT_le, iF_le, iT_le0, iF_le0, iT_0le, iF_0le, iT_eq, iF_eq, iT_eq0, iF_eq0]
        exact ih1 h
      · simp (disch := omega) only [zI_rem, zI_div, h1, h2, hw, f12_language_j45, nI_z, zI_add, zI_sub, zI_mul, zI_m1, ckI_z, zI_clamp, Int.toNat_natCast, bnd_some, lt, rd_same, rd_ne, rdL_same, rdL_ne, wI_2, wL_1, if_true, if_false, iT_lt, iF_lt, iT_lt0, iF_lt0, iT_0lt, iF_0lt, iT_le, iF_le, iT_le0, iF_le0, iT_0le, iF_0le, iT_eq, iF_eq, iT_eq0, iF_eq0]
        exact ih2 h
    · have hk2 : ¬ (1 ≤ dg x i ∧ dg x i ≤ 6) := hk
      rw [bI_f hk2] at hw
      refine ⟨fun h => absurd (h.1 i (Nat.le_refl _) (by omega)) hk, fun _ => ?_⟩
      have hb := f12_lang_bad (N := N) (S := S) x1 m n (z + -1) (zI ((y / 10 : Nat) : Int)) (by omega) (by omega) (by omega)
      simp (disch := omega) only [zI_rem, zI_div, h1, h2, hw, f12_language_j44, f12_language_j45, nI_z, zI_add, zI_sub, zI_mul, zI_m1, ckI_z, zI_clamp, Int.toNat_natCast, bnd_some, lt, rd_same, rd_ne, rdL_same, rdL_ne, wI_2, wL_1, if_true, if_false, iT_lt, iF_lt, iT_lt0, iF_lt0, iT_0lt, iF_0lt, iT_le, iF_le, iT_le0, iF_le0, iT_0le, iF_0le, iT_eq, iF_eq, iT_eq0, iF_eq0]
      exact hb
theorem f12_lang_sum {N x : Nat} {S : St} (x1 : Int32) (hx : x < 2147483648) (ho : ∀ j, j < 8 → dok x j) : ∀ (m i n : Nat) (z : Int), i + m = 8 → m < n → z = (m : Int) - 1 →
    f12_language_h76 N x1 n (zI ((x / 10 ^ i : Nat) : Int)) (zI (tsum x i)) (zI z) S = (if tsum x 8 ≤ 64 then (if S.1 146 6 = nI 6 then some (zI (-3), S) else f12_language_h132 N N x1 (zI ((7 : Nat) : Int)) S) else some (zI (-5), S)) := by
  intro m
  induction m with
  | zero =>
    intro i n z hi hn hz
    obtain ⟨n, rfl⟩ : ∃ z, n = z + 1 := ⟨n - 1, by omega⟩
    obtain rfl : i = 8 := by omega
    have hle := tsum_le x 8
    rw [f12_language_h76]
    by_cases h : tsum x 8 ≤ 64
    · rw [if_pos h]
      simp (disch := omega) only [nI_z, zI_add, zI_sub, zI_mul, zI_m1, ckI_z, zI_clamp, Int.toNat_natCast, bnd_some, lt, rd_same, rd_ne, rdL_same, rdL_ne, wI_2, wL_1, if_true, if_false, iT_lt, iF_lt, iT_lt0, iF_lt0, iT_0lt, iF_0lt, iT_le, iF_le, iT_le0, iF_le0, iT_0le, iF_0le, iT_eq, iF_eq, iT_eq0, iF_eq0]
      rfl
    · rw [if_neg h]
      simp (disch := omega) only [nI_z, zI_add, zI_sub, zI_mul, zI_m1, ckI_z, zI_clamp, Int.toNat_natCast, bnd_some, lt, rd_same, rd_ne, rdL_same, rdL_ne, wI_2, wL_1, if_true, if_false, iT_lt, iF_lt, iT_lt0, iF_lt0, iT_0lt, iF_0lt, iT_le, iF_le, iT_le0, iF_le0, iT_0le, iF_0le, iT_eq, iF_eq, iT_eq0, iF_eq0]
      rfl
  | succ m ih =>
    intro i n z hi hn hz
    obtain ⟨n, rfl⟩ : ∃ z, n = z + 1 := ⟨n - 1, by omega⟩
    have ih1 := ih (i + 1) n (z + -1) (by omega) (by omega) (by omega)
    have hle := tsum_le x (i + 1)
    rw [tsum_s] at hle
    rw [← dg_next x i, tsum_s x i] at ih1
    have hd : x / 10 ^ i ≤ x := Nat.div_le_self _ _
    have hdg : dg x i = x / 10 ^ i % 10 := rfl
    have hk2 : 1 ≤ dg x i ∧ dg x i ≤ 6 := ho i (by omega)
    generalize x / 10 ^ i = y at hd ih1 hdg
    have h1 : ((y : Int) / ((10 : Nat) : Int)) = ((y / 10 : Nat) : Int) := by omega
    have h2 : ((y : Int) % ((10 : Nat) : Int)) = (dg x i : Int) := by omega
    have hsh := zI_shr (c := 64) (s := dg x i) (by omega) (by omega)
    rw [sh64 _ (by omega)] at hsh
    rw [f12_language_h76]
    simp (disch := omega) only [zI_rem, zI_div, h1, h2, hsh, nI_z, zI_add, zI_sub, zI_mul, zI_m1, ckI_z, zI_clamp, Int.toNat_natCast, bnd_some, lt, rd_same, rd_ne, rdL_same, rdL_ne, wI_2, wL_1, if_true, if_false, iT_lt, iF_lt, iT_lt0, iF_lt0, iT_0lt, iF_0lt, iT_le, iF_le, iT_le0, iF_le0, iT_0le, iF_0le, iT_eq, iF_eq, iT_eq0, iF_eq0]
    exact ih1
