/-! Both sides on the call 'language'. -/
theorem rem_neg {a : Int} (ha : -2147483648 ≤ a ∧ a < 0) : ∃ r : Int, -10 < r ∧ r ≤ 0 ∧ remI (zI a) (zI ((10 : Nat) : Int)) = zI r := by
  obtain ⟨b, hb⟩ : ∃ b : Nat, a = -(b : Int) := ⟨(-a).toNat, by omega⟩
  have hd : a.tdiv 10 = -((b / 10 : Nat) : Int) := by
    rw [hb, Int.neg_tdiv, Int.tdiv_eq_ediv_of_nonneg (by omega)]
    omega
  have hq : zI a / zI ((10 : Nat) : Int) = zI (-((b / 10 : Nat) : Int)) := by
    rw [← Int32.toInt_inj, Int32.toInt_div, zI_toInt (by omega), zI_toInt (by omega), zI_toInt (by omega)]
    show (a.tdiv 10).bmod (2 ^ 32) = _
    rw [hd]
    exact Int.bmod_eq_of_le (by omega) (by omega)
  refine ⟨-((b % 10 : Nat) : Int), by omega, by omega, ?_⟩
  unfold remI
  rw [hq, zI_mul, zI_sub]
  congr 1
  omega
def dg (x i : Nat) : Nat := x / 10 ^ i % 10
def dok (x i : Nat) : Prop := 1 ≤ dg x i ∧ dg x i ≤ 6
def tsum (x i : Nat) : Nat := ((List.range i).map (fun j => 2 ^ (6 - dg x j))).sum
theorem tsum_s (x i : Nat) : tsum x (i + 1) = tsum x i + 2 ^ (6 - dg x i) := by
  unfold tsum
  rw [List.range_succ, List.map_append, List.sum_append, List.map_cons, List.map_nil, List.sum_cons, List.sum_nil, Nat.add_zero]
theorem tsum_le (x : Nat) : ∀ i, tsum x i ≤ 64 * i
  | 0 => Nat.le_refl _
  | i + 1 => by
    have h := tsum_le x i
    have h1 : 2 ^ (6 - dg x i) ≤ 2 ^ 6 := Nat.pow_le_pow_right (by omega) (by omega)
    rw [tsum_s]
    omega
theorem dg_next (x i : Nat) : x / 10 ^ i / 10 = x / 10 ^ (i + 1) := by rw [Nat.div_div_eq_div_mul, Nat.pow_succ]
theorem dgs_eq (x : Nat) : dgs x = [dg x 7, dg x 6, dg x 5, dg x 4, dg x 3, dg x 2, dg x 1, dg x 0] := rfl
theorem lsum_dgs (x : Nat) : lsum (dgs x) = tsum x 8 := by
  rw [dgs_eq]
  simp only [tsum_s]
  simp [lsum, tsum]
  omega
theorem LV_dgs {x : Nat} (h : ∀ i, i < 8 → dok x i) (hs : tsum x 8 ≤ 64) : LV (dgs x, []) := by
  refine ⟨by rw [dgs_eq]; rfl, Nat.zero_le _, fun b hb => ?_, ?_, fun q hq => (by cases hq)⟩
  · rw [dgs_eq] at hb
    simp only [List.mem_cons, List.not_mem_nil, or_false] at hb
    rcases hb with e | e | e | e | e | e | e | e <;> (rw [e]; exact h _ (by omega))
  · rw [← lsum_dgs] at hs
    exact hs
-- the class
theorem f11_sod_loop {N x : Nat} {S : St} (hx : x < 2147483648) : ∀ (m i n : Nat), i + m = 8 → m < n →
    (((∀ j, i ≤ j → j < 8 → dok x j) ∧ x / 10 ^ 8 = 0) → f11_sumOfDigits_h6 N n (zI (tsum x i)) (zI ((x / 10 ^ i : Nat) : Int)) (zI i) S = some (zI (tsum x 8), S)) ∧
    (¬ ((∀ j, i ≤ j → j < 8 → dok x j) ∧ x / 10 ^ 8 = 0) → f11_sumOfDigits_h6 N n (zI (tsum x i)) (zI ((x / 10 ^ i : Nat) : Int)) (zI i) S = some (zI (-1), S)) := by
  intro m
  induction m with
  | zero =>
    intro i n hi hn
    obtain ⟨n, rfl⟩ : ∃ z, n = z + 1 := ⟨n - 1, by omega⟩
    obtain rfl : i = 8 := by omega
    have hle := tsum_le x 8
    have hd : x / 10 ^ 8 ≤ x := Nat.div_le_self _ _
    generalize x / 10 ^ 8 = y at hd
    rw [f11_sumOfDigits_h6]
    refine ⟨fun h => ?_, fun h => ?_⟩
    · have h0 : y = 0 := h.2
      simp (disch := omega) only [nI_z, zI_add, zI_sub, zI_mul, zI_m1, ckI_z, zI_clamp, Int.toNat_natCast, bnd_some, lt, rd_same, rd_ne, rdL_same, rdL_ne, wI_2, wL_1, if_true, if_false, iT_lt, iF_lt, iT_lt0, iF_lt0, iT_0lt, iF_0lt, iT_le, iF_le, iT_le0, iF_le0, iT_0le, iF_0le, iT_eq, iF_eq, iT_eq0, iF_eq0]
    · have h0 : y ≠ 0 := fun e => h ⟨fun j h1 h2 => by omega, e⟩
      simp (disch := omega) only [nI_z, zI_add, zI_sub, zI_mul, zI_m1, ckI_z, zI_clamp, Int.toNat_natCast, bnd_some, lt, rd_same, rd_ne, rdL_same, rdL_ne, wI_2, wL_1, if_true, if_false, iT_lt, iF_lt, iT_lt0, iF_lt0, iT_0lt, iF_0lt, iT_le, iF_le, iT_le0, iF_le0, iT_0le, iF_0le, iT_eq, iF_eq, iT_eq0, iF_eq0]
  | succ m ih =>
    intro i n hi hn
    obtain ⟨n, rfl⟩ : ∃ z, n = z + 1 := ⟨n - 1, by omega⟩
    obtain ⟨ih1, ih2⟩ := ih (i + 1) n (by omega) (by omega)
    have hle := tsum_le x (i + 1)
    rw [tsum_s, ← dg_next x i] at ih1 ih2
    rw [tsum_s] at hle
    have hd : x / 10 ^ i ≤ x := Nat.div_le_self _ _
    have hdg : dg x i = x / 10 ^ i % 10 := rfl
    generalize x / 10 ^ i = y at hd ih1 ih2 hdg
    have h1 : ((y : Int) / ((10 : Nat) : Int)) = ((y / 10 : Nat) : Int) := by omega
    have h2 : ((y : Int) % ((10 : Nat) : Int)) = (dg x i : Int) := by omega
    rw [f11_sumOfDigits_h6]
    by_cases hk : dok x i
    · have hk2 : 1 ≤ dg x i ∧ dg x i ≤ 6 := hk
      have hsh := zI_shr (c := 64) (s := dg x i) (by omega) (by omega)
      rw [sh64 _ (by omega)] at hsh
      have hiff : (∀ j, i ≤ j → j < 8 → dok x j) ↔ (∀ j, i + 1 ≤ j → j < 8 → dok x j) := by
        constructor
        · intro h j h1 h2; exact h j (by omega) h2
        · intro h j h1 h2
          by_cases e : j = i
          · rw [e]; exact hk
          · exact h j (by omega) h2
      rw [hiff]
      refine ⟨fun h => ?_, fun h => ?_⟩
      · simp (disch := omega) only [zI_rem, zI_div, h1, h2, hsh, nI_z, zI_add, zI_sub, zI_mul, zI_m1, ckI_z, zI_clamp, Int.toNat_natCast, bnd_some, lt, rd_same, rd_ne, rdL_same, rdL_ne, wI_2, wL_1, if_true, if_false, iT_lt, iF_lt, iT_lt0, iF_lt0, iT_0lt, iF_0lt, iT_le, iF_le, iT_le0, iF_le0, iT_0le, iF_0le, iT_eq, iF_eq, iT_eq0, iF_eq0]
        exact ih1 h
      · simp (disch := omega) only [zI_rem, zI_div, h1, h2, hsh, nI_z, zI_add, zI_sub, zI_mul, zI_m1, ckI_z, zI_clamp, Int.toNat_natCast, bnd_some, lt, rd_same, rd_ne, rdL_same, rdL_ne, wI_2, wL_1, if_true, if_false, iT_lt, iF_lt, iT_lt0, iF_lt0, iT_0lt, iF_0lt, iT_le, iF_le, iT_le0, iF_le0, iT_0le, iF_0le, iT_eq, iF_eq, iT_eq0, iF_eq0]
        exact ih2 h
    · refine ⟨fun h => absurd (h.1 i (Nat.le_refl _) (by omega)) hk, fun _ => ?_⟩
      have hk2 : ¬ (1 ≤ dg x i ∧ dg x i ≤ 6) := hk
      by_cases e : dg x i < 1
      · simp (disch := omega) only [zI_rem, zI_div, h1, h2, nI_z, zI_add, zI_sub, zI_mul, zI_m1, ckI_z, zI_clamp, Int.toNat_natCast, bnd_some, lt, rd_same, rd_ne, rdL_same, rdL_ne, wI_2, wL_1, if_true, if_false, iT_lt, iF_lt, iT_lt0, iF_lt0, iT_0lt, iF_0lt, iT_le, iF_le, iT_le0, iF_le0, iT_0le, iF_0le, iT_eq, iF_eq, iT_eq0, iF_eq0]
      · simp (disch := omega) only [zI_rem, zI_div, h1, h2, nI_z, zI_add, zI_sub, zI_mul, zI_m1, ckI_z, zI_clamp, Int.toNat_natCast, bnd_some, lt, rd_same, rd_ne, rdL_same, rdL_ne, wI_2, wL_1, if_true, if_false, iT_lt, iF_lt, iT_lt0, iF_lt0, iT_0lt, iF_0lt, iT_le, iF_le, iT_le0, iF_le0, iT_0le, iF_0le, iT_eq, iF_eq, iT_eq0, iF_eq0]
/-- a number of 8 digits, 1 to 6 each -/
def dgood (x : Int) : Prop := 0 ≤ x ∧ (∀ j, j < 8 → dok x.toNat j) ∧ x.toNat / 10 ^ 8 = 0
theorem f11_sod_ok {N : Nat} {x : Int} {S : St} (hN : 20 ≤ N) (hx : -2147483648 ≤ x ∧ x < 2147483648) : (dgood x → f11_sumOfDigits N (zI x) S = some (zI (tsum x.toNat 8), S)) ∧ (¬ dgood x → f11_sumOfDigits N (zI x) S = some (zI (-1), S)) := by
  by_cases h0 : 0 ≤ x
  · obtain ⟨k, rfl⟩ : ∃ k : Nat, x = k := ⟨x.toNat, by omega⟩
    obtain ⟨h1, h2⟩ := f11_sod_loop (N := N) (x := k) (S := S) (by omega) 8 0 N (by omega) (by omega)
    have e : dgood (k : Int) ↔ ((∀ j, 0 ≤ j → j < 8 → dok k j) ∧ k / 10 ^ 8 = 0) := by
      unfold dgood
      rw [Int.toNat_natCast]
      constructor
      · rintro ⟨-, a, b⟩; exact ⟨fun j _ => a j, b⟩
      · rintro ⟨a, b⟩; exact ⟨h0, fun j => a j (Nat.zero_le _), b⟩
    rw [Nat.pow_zero, Nat.div_one] at h1 h2
    rw [e, Int.toNat_natCast]
    exact ⟨h1, h2⟩
  · refine ⟨fun h => absurd h.1 h0, fun _ => ?_⟩
    obtain ⟨r, r1, r2, r3⟩ := rem_neg (a := x) (by omega)
    obtain ⟨n, rfl⟩ : ∃ z, N = z + 1 := ⟨N - 1, by omega⟩
    unfold f11_sumOfDigits
    rw [f11_sumOfDigits_h6]
    simp (disch := omega) only [r3, nI_z, zI_add, zI_sub, zI_mul, zI_m1, ckI_z, zI_clamp, Int.toNat_natCast, bnd_some, lt, rd_same, rd_ne, rdL_same, rdL_ne, wI_2, wL_1, if_true, if_false, iT_lt, iF_lt, iT_lt0, iF_lt0, iT_0lt, iF_0lt, iT_le, iF_le, iT_le0, iF_le0, iT_0le, iF_0le, iT_eq, iF_eq, iT_eq0, iF_eq0]
-- the reference
theorem within_d (S : St) : ∀ d : Nat, d < 10 → f12_within ((zI d).toInt64) (lN 1) (lN 6) S = some (bI (1 ≤ d ∧ d ≤ 6), S)
  | 0, _ => rfl
  | 1, _ => rfl
  | 2, _ => rfl
  | 3, _ => rfl
  | 4, _ => rfl
  | 5, _ => rfl
  | 6, _ => rfl
  | 7, _ => rfl
  | 8, _ => rfl
  | 9, _ => rfl
  | d + 10, h => absurd h (by omega)
theorem f12_lang_bad {N : Nat} {S : St} (x1 : Int32) : ∀ (m n : Nat) (z : Int) (x2 : Int32), m ≤ 8 → m < n → z = (m : Int) - 1 → f12_language_h16 N x1 n x2 (zI ((0 : Nat) : Int)) (zI z) S = some (zI (-1), S) := by
  intro m
  induction m with
  | zero =>
    intro n z x2 hm hn hz
    obtain ⟨n, rfl⟩ : ∃ z, n = z + 1 := ⟨n - 1, by omega⟩
    rw [f12_language_h16]
    simp (disch := omega) only [nI_z, zI_add, zI_sub, zI_mul, zI_m1, ckI_z, zI_clamp, Int.toNat_natCast, bnd_some, lt, rd_same, rd_ne, rdL_same, rdL_ne, wI_2, wL_1, if_true, if_false, iT_lt, iF_lt, iT_lt0, iF_lt0, iT_0lt, iF_0lt, iT_le, iF_le, iT_le0, iF_le0, iT_0le, iF_0le, iT_eq, iF_eq, iT_eq0, iF_eq0]
  | succ m ih =>
    intro n z x2 hm hn hz
    obtain ⟨n, rfl⟩ : ∃ z, n = z + 1 := ⟨n - 1, by omega⟩
    have ih1 := ih n (z + -1) (x2 / zI ((10 : Nat) : Int)) (by omega) (by omega) (by omega)
    rw [f12_language_h16]
    simp (disch := omega) only [f12_language_j44, f12_language_j45, nI_z, zI_add, zI_sub, zI_mul, zI_m1, ckI_z, zI_clamp, Int.toNat_natCast, bnd_some, lt, rd_same, rd_ne, rdL_same, rdL_ne, wI_2, wL_1, if_true, if_false, iT_lt, iF_lt, iT_lt0, iF_lt0, iT_0lt, iF_0lt, iT_le, iF_le, iT_le0, iF_le0, iT_0le, iF_0le, iT_eq, iF_eq, iT_eq0, iF_eq0]
    exact ih1
theorem f12_lang_loop {N x : Nat} {S : St} (x1 : Int32) (hx : x < 2147483648) : ∀ (m i n : Nat) (z : Int), i + m = 8 → m < n → z = (m : Int) - 1 →
    (((∀ j, i ≤ j → j < 8 → dok x j) ∧ x / 10 ^ 8 = 0) → f12_language_h16 N x1 n (zI ((x / 10 ^ i : Nat) : Int)) (zI ((1 : Nat) : Int)) (zI z) S = f12_language_h76 N x1 N x1 (zI ((0 : Nat) : Int)) (zI ((7 : Nat) : Int)) S) ∧
    (¬ ((∀ j, i ≤ j → j < 8 → dok x j) ∧ x / 10 ^ 8 = 0) → f12_language_h16 N x1 n (zI ((x / 10 ^ i : Nat) : Int)) (zI ((1 : Nat) : Int)) (zI z) S = some (zI (-1), S)) := by
  intro m
  induction m with
  | zero =>
    intro i n z hi hn hz
    obtain ⟨n, rfl⟩ : ∃ z, n = z + 1 := ⟨n - 1, by omega⟩
    obtain rfl : i = 8 := by omega
    have hd : x / 10 ^ 8 ≤ x := Nat.div_le_self _ _
    generalize x / 10 ^ 8 = y at hd
    rw [f12_language_h16]
    refine ⟨fun h => ?_, fun h => ?_⟩
    · have h0 : y = 0 := h.2
      simp (disch := omega) only [nI_z, zI_add, zI_sub, zI_mul, zI_m1, ckI_z, zI_clamp, Int.toNat_natCast, bnd_some, lt, rd_same, rd_ne, rdL_same, rdL_ne, wI_2, wL_1, if_true, if_false, iT_lt, iF_lt, iT_lt0, iF_lt0, iT_0lt, iF_0lt, iT_le, iF_le, iT_le0, iF_le0, iT_0le, iF_0le, iT_eq, iF_eq, iT_eq0, iF_eq0]
    · have h0 : y ≠ 0 := fun e => h ⟨fun j h1 h2 => by omega, e⟩
      simp (disch := omega) only [nI_z, zI_add, zI_sub, zI_mul, zI_m1, ckI_z, zI_clamp, Int.toNat_natCast, bnd_some, lt, rd_same, rd_ne, rdL_same, rdL_ne, wI_2, wL_1, if_true, if_false, iT_lt, iF_lt, iT_lt0, iF_lt0, iT_0lt, iF_0lt, iT_le, iF_le, iT_le0, iF_le0, iT_0le, iF_0le, iT_eq, iF_eq, iT_eq0, iF_eq0]
  | succ m ih =>
    intro i n z hi hn hz
    obtain ⟨n, rfl⟩ : ∃ z, n = z + 1 := ⟨n - 1, by omega⟩
    obtain ⟨ih1, ih2⟩ := ih (i + 1) n (z + -1) (by omega) (by omega) (by omega)
    rw [← dg_next x i] at ih1 ih2
    have hd : x / 10 ^ i ≤ x := Nat.div_le_self _ _
    have hdg : dg x i = x / 10 ^ i % 10 := rfl
    have hw := within_d S (dg x i) (by omega)
    generalize x / 10 ^ i = y at hd ih1 ih2 hdg
    have h1 : ((y : Int) / ((10 : Nat) : Int)) = ((y / 10 : Nat) : Int) := by omega
    have h2 : ((y : Int) % ((10 : Nat) : Int)) = (dg x i : Int) := by omega
    rw [f12_language_h16]
    by_cases hk : dok x i
    · have hk2 : 1 ≤ dg x i ∧ dg x i ≤ 6 := hk
      rw [bI_t hk2] at hw
      have hiff : (∀ j, i ≤ j → j < 8 → dok x j) ↔ (∀ j, i + 1 ≤ j → j < 8 → dok x j) := by
        constructor
        · intro h j h1 h2; exact h j (by omega) h2
        · intro h j h1 h2
          by_cases e : j = i
          · rw [e]; exact hk
          · exact h j (by omega) h2
      rw [hiff]
      refine ⟨fun h => ?_, fun h => ?_⟩
      · simp (disch := omega) only [zI_rem, zI_div, h1, h2, hw, f12_language_j45, nI_z, zI_add, zI_sub, zI_mul, zI_m1, ckI_z, zI_clamp, Int.toNat_natCast, bnd_some, lt, rd_same, rd_ne, rdL_same, rdL_ne, wI_2, wL_1, if_true, if_false, iT_lt, iF_lt, iT_lt0, iF_lt0, iT_0lt, iF_0lt, iT_le, iF_le, iT_le0, iF_le0, iT_0le, iF_0le, iT_eq, iF_eq, iT_eq0, iF_eq0]
        exact ih1 h
      · simp (disch := omega) only [zI_rem, zI_div, h1, h2, hw, f12_language_j45, nI_z, zI_add, zI_sub, zI_mul, zI_m1, ckI_z, zI_clamp, Int.toNat_natCast, bnd_some, lt, rd_same, rd_ne, rdL_same, rdL_ne, wI_2, wL_1, if_true, if_false, iT_lt, iF_lt, iT_lt0, iF_lt0, iT_0lt, iF_0lt, iT_le, iF_le, iT_le0, iF_le0, iT_0le, iF_0le, iT_eq, iF_eq, iT_eq0, iF_eq0]
        exact ih2 h
    · have hk2 : ¬ (1 ≤ dg x i ∧ dg x i ≤ 6) := hk
      rw [bI_f hk2] at hw
      refine ⟨fun h => absurd (h.1 i (Nat.le_refl _) (by omega)) hk, fun _ => ?_⟩
      have hb := f12_lang_bad (N := N) (S := S) x1 m n (z + -1) (zI ((y / 10 : Nat) : Int)) (by omega) (by omega) (by omega)
      simp (disch := omega) only [zI_rem, zI_div, h1, h2, hw, f12_language_j44, f12_language_j45, nI_z, zI_add, zI_sub, zI_mul, zI_m1, ckI_z, zI_clamp, Int.toNat_natCast, bnd_some, lt, rd_same, rd_ne, rdL_same, rdL_ne, wI_2, wL_1, if_true, if_false, iT_lt, iF_lt, iT_lt0, iF_lt0, iT_0lt, iF_0lt, iT_le, iF_le, iT_le0, iF_le0, iT_0le, iF_0le, iT_eq, iF_eq, iT_eq0, iF_eq0]
      exact hb
theorem f12_lang_sum {N x : Nat} {S : St} (x1 : Int32) (hx : x < 2147483648) (ho : ∀ j, j < 8 → dok x j) : ∀ (m i n : Nat) (z : Int), i + m = 8 → m < n → z = (m : Int) - 1 →
    f12_language_h76 N x1 n (zI ((x / 10 ^ i : Nat) : Int)) (zI (tsum x i)) (zI z) S = (if tsum x 8 ≤ 64 then (if S.1 146 6 = nI 6 then some (zI (-3), S) else f12_language_h132 N N x1 (zI ((7 : Nat) : Int)) S) else some (zI (-5), S)) := by
  intro m
  induction m with
  | zero =>
    intro i n z hi hn hz
    obtain ⟨n, rfl⟩ : ∃ z, n = z + 1 := ⟨n - 1, by omega⟩
    obtain rfl : i = 8 := by omega
    have hle := tsum_le x 8
    rw [f12_language_h76]
    by_cases h : tsum x 8 ≤ 64
    · rw [if_pos h]
      simp (disch := omega) only [nI_z, zI_add, zI_sub, zI_mul, zI_m1, ckI_z, zI_clamp, Int.toNat_natCast, bnd_some, lt, rd_same, rd_ne, rdL_same, rdL_ne, wI_2, wL_1, if_true, if_false, iT_lt, iF_lt, iT_lt0, iF_lt0, iT_0lt, iF_0lt, iT_le, iF_le, iT_le0, iF_le0, iT_0le, iF_0le, iT_eq, iF_eq, iT_eq0, iF_eq0]
      rfl
    · rw [if_neg h]
      simp (disch := omega) only [nI_z, zI_add, zI_sub, zI_mul, zI_m1, ckI_z, zI_clamp, Int.toNat_natCast, bnd_some, lt, rd_same, rd_ne, rdL_same, rdL_ne, wI_2, wL_1, if_true, if_false, iT_lt, iF_lt, iT_lt0, iF_lt0, iT_0lt, iF_0lt, iT_le, iF_le, iT_le0, iF_le0, iT_0le, iF_0le, iT_eq, iF_eq, iT_eq0, iF_eq0]
      rfl
  | succ m ih =>
    intro i n z hi hn hz
    obtain ⟨n, rfl⟩ : ∃ z, n = z + 1 := ⟨n - 1, by omega⟩
    have ih1 := ih (i + 1) n (z + -1) (by omega) (by omega) (by omega)
    have hle := tsum_le x (i + 1)
    rw [tsum_s] at hle
    rw [← dg_next x i, tsum_s x i] at ih1
    have hd : x / 10 ^ i ≤ x := Nat.div_le_self _ _
    have hdg : dg x i = x / 10 ^ i % 10 := rfl
    have hk2 : 1 ≤ dg x i ∧ dg x i ≤ 6 := ho i (by omega)
    generalize x / 10 ^ i = y at hd ih1 hdg
    have h1 : ((y : Int) / ((10 : Nat) : Int)) = ((y / 10 : Nat) : Int) := by omega
    have h2 : ((y : Int) % ((10 : Nat) : Int)) = (dg x i : Int) := by omega
    have hsh := zI_shr (c := 64) (s := dg x i) (by omega) (by omega)
    rw [sh64 _ (by omega)] at hsh
    rw [f12_language_h76]
    simp (disch := omega) only [zI_rem, zI_div, h1, h2, hsh, nI_z, zI_add, zI_sub, zI_mul, zI_m1, ckI_z, zI_clamp, Int.toNat_natCast, bnd_some, lt, rd_same, rd_ne, rdL_same, rdL_ne, wI_2, wL_1, if_true, if_false, iT_lt, iF_lt, iT_lt0, iF_lt0, iT_0lt, iF_0lt, iT_le, iF_le, iT_le0, iF_le0, iT_0le, iF_0le, iT_eq, iF_eq, iT_eq0, iF_eq0]
    exact ih1
theorem f12_lw_loop {N k : Nat} (hk : k < 6) (x1 : Int32) : ∀ (m n y : Nat) (z : Int) (S : St), m ≤ 8 → m < n → y < 2147483648 → z = (m : Int) - 1 → S.1 146 6 = zI k →
    ∃ (S2 : St) (n2 : Nat) (y2 : Int32), f12_language_h132 N n (zI y) (zI z) S = f12_language_h132 N (n2 + 1) y2 (zI (-1)) S2 ∧ (∀ i, i < m → S2.1 147 (12 * k + i) = zI ((y / 10 ^ (m - 1 - i) % 10 : Nat) : Int)) ∧ (∀ i, m ≤ i → S2.1 147 (12 * k + i) = S.1 147 (12 * k + i)) ∧ Same (fun c p => c = 147 ∧ 12 * k ≤ p ∧ p < 12 * k + 12) S S2 := by
  intro m
  induction m with
  | zero =>
    intro n y z S hm hn hy hz hc
    obtain ⟨n, rfl⟩ : ∃ z, n = z + 1 := ⟨n - 1, by omega⟩
    obtain rfl : z = -1 := by omega
    exact ⟨S, n, zI y, rfl, fun i hi => by omega, fun i _ => rfl, Same.rfl'⟩
  | succ m ih =>
    intro n y z S hm hn hy hz hc
    obtain ⟨n, rfl⟩ : ∃ z, n = z + 1 := ⟨n - 1, by omega⟩
    obtain rfl : z = (m : Nat) := by omega
    have hs2 : Same (fun c p => c = 147 ∧ 12 * k ≤ p ∧ p < 12 * k + 12) S (wI S 147 (12 * k + m) (zI ((y % 10 : Nat) : Int))) := Same.rfl'.wI ⟨rfl, by omega, by omega⟩
    obtain ⟨S2, n2, y2, f1, f2, f3, f4⟩ := ih n (y / 10) ((m : Int) + -1) (wI S 147 (12 * k + m) (zI ((y % 10 : Nat) : Int))) (by omega) (by omega) (by omega) (by omega) (by rw [rd_ne (by omega)]; exact hc)
    refine ⟨S2, n2, y2, ?_, fun i hi => ?_, fun i hi => ?_, hs2.tr f4⟩
    · rw [← f1, f12_language_h132]
      have h1 : ((y : Int) / ((10 : Nat) : Int)) = ((y / 10 : Nat) : Int) := by omega
      have h2 : ((y : Int) % ((10 : Nat) : Int)) = ((y % 10 : Nat) : Int) := by omega
      simp (disch := omega) only [zI_rem, zI_div, h1, h2, hc, pl12, nI_z, zI_add, zI_sub, zI_mul, zI_m1, ckI_z, zI_clamp, Int.toNat_natCast, bnd_some, lt, rd_same, rd_ne, rdL_same, rdL_ne, wI_2, wL_1, if_true, if_false, iT_lt, iF_lt, iT_lt0, iF_lt0, iT_0lt, iF_0lt, iT_le, iF_le, iT_le0, iF_le0, iT_0le, iF_0le, iT_eq, iF_eq, iT_eq0, iF_eq0]
    · by_cases e : i = m
      · subst e
        rw [f3 i (Nat.le_refl _), rd_same]
        rw [show i + 1 - 1 - i = 0 by omega, Nat.pow_zero, Nat.div_one]
      · rw [f2 i (by omega), Nat.div_div_eq_div_mul]
        congr 4
        rw [show m + 1 - 1 - i = (m - 1 - i) + 1 by omega, Nat.pow_succ, Nat.mul_comm]
    · rw [f3 i (by omega), rd_ne (by omega)]
/-- what the reference changes when a LANGUAGE comes as number k -/
def mlP (k c p : Nat) : Prop := ((c = 147 ∨ c = 148 ∨ c = 149) ∧ 12 * k ≤ p ∧ p < 12 * k + 12) ∨ (c = 152 ∧ p = k) ∨ (c = 146 ∧ p = 6)
theorem f12_lang_new {N k x : Nat} {S : St} (hk : k < 6) (hN : 20 ≤ N) (hx : x < 2147483648) (hc : S.1 146 6 = zI k) (hg : LV (dgs x, [])) : ∃ S2, f12_language_h132 N N (zI x) (zI ((7 : Nat) : Int)) S = some (zI k, S2) ∧ ML S2 k (dgs x, []) ∧ S2.1 146 6 = zI ((k : Int) + ((1 : Nat) : Int)) ∧ Same (mlP k) S S2 := by
  obtain ⟨S2, n2, y2, e1, e2, e3, e4⟩ := f12_lw_loop (N := N) hk (zI x) 8 N x ((7 : Nat) : Int) S (by omega) (by omega) hx (by omega) hc
  have hl : (dgs x).length = 8 := rfl
  have hc2 : S2.1 146 6 = zI k := by rw [e4.i (by omega)]; exact hc
  have hs3 : Same (mlP k) S2 (wI S2 152 k (zI ((0 : Nat) : Int))) := Same.rfl'.wI (Or.inr (Or.inl ⟨rfl, rfl⟩))
  have hb : MB (wI S2 152 k (zI ((0 : Nat) : Int))) k (dgs x, []) := by
    refine ⟨by rw [rd_same]; rfl, fun o ho => ?_⟩
    have ho8 : o < 8 := by rw [← hl]; exact ho
    rw [rd_ne (by omega), e2 o ho8]
    unfold bit dgs
    congr 2
    rw [List.getD_eq_getElem?_getD, List.getElem?_map, List.getElem?_range ho8]
    rfl
  obtain ⟨S4, g1, g2, g3⟩ := f12_gc_ok (N := N) hg hk (by omega) hb
  have hc4 : S4.1 146 6 = zI k := by rw [g3.i (by unfold gcP; omega), rd_ne (by omega)]; exact hc2
  have hb4 := hb.same g3 (fun p h => by unfold gcP at h; omega) (fun p h => by unfold gcP at h; omega)
  have hs5 : Same (mlP k) S4 (wI S4 146 6 (zI ((k : Int) + ((1 : Nat) : Int)))) := Same.rfl'.wI (Or.inr (Or.inr ⟨rfl, rfl⟩))
  refine ⟨wI S4 146 6 (zI ((k : Int) + ((1 : Nat) : Int))), ?_, ⟨?_, fun o ho => ?_, fun o ho => ?_, ?_, fun j q h => (by simp at h)⟩, rd_same, ?_⟩
  · rw [e1, f12_language_h132]
    simp (disch := omega) only [hc2, g1, hc4, nI_z, zI_add, zI_sub, zI_mul, zI_m1, ckI_z, zI_clamp, Int.toNat_natCast, bnd_some, lt, rd_same, rd_ne, rdL_same, rdL_ne, wI_2, wL_1, if_true, if_false, iT_lt, iF_lt, iT_lt0, iF_lt0, iT_0lt, iF_0lt, iT_le, iF_le, iT_le0, iF_le0, iT_0le, iF_0le, iT_eq, iF_eq, iT_eq0, iF_eq0]
    congr 2
    congr 1
    omega
  · rw [rd_ne (by omega)]; exact hb4.1
  · rw [rd_ne (by omega)]; exact hb4.2 o ho
  · rw [rd_ne (by omega)]; exact g2.2 o ((mem_rkf hg).mpr ho)
  · have hs6 : Same (fun c _ => c = 146) S4 (wI S4 146 6 (zI ((k : Int) + ((1 : Nat) : Int)))) := Same.rfl'.wI rfl
    rw [hs6.row (fun p h => by omega)]; exact g2.1
  · exact (((e4.mono (fun c p h => Or.inl ⟨Or.inl h.1, h.2⟩)).tr hs3).tr (g3.mono (fun c p h => Or.inl ⟨Or.inr h.1, h.2⟩))).tr hs5
theorem f12_language_ok {N k : Nat} {x : Int} {S : St} (hN : 20 ≤ N) (hx : -2147483648 ≤ x ∧ x < 2147483648) (hk : k ≤ 6) (hc : S.1 146 6 = zI k) :
    (¬ dgood x → f12_language N (zI x) S = some (zI (-1), S)) ∧ (dgood x → 64 < tsum x.toNat 8 → f12_language N (zI x) S = some (zI (-5), S)) ∧ (dgood x → tsum x.toNat 8 ≤ 64 → k = 6 → f12_language N (zI x) S = some (zI (-3), S)) ∧
    (dgood x → tsum x.toNat 8 ≤ 64 → k < 6 → ∃ S2, f12_language N (zI x) S = some (zI k, S2) ∧ ML S2 k (dgs x.toNat, []) ∧ S2.1 146 6 = zI ((k : Int) + ((1 : Nat) : Int)) ∧ Same (mlP k) S S2) := by
  by_cases h0 : 0 ≤ x
  · obtain ⟨y, rfl⟩ : ∃ k : Nat, x = k := ⟨x.toNat, by omega⟩
    obtain ⟨h1, h2⟩ := f12_lang_loop (N := N) (x := y) (S := S) (zI y) (by omega) 8 0 N ((7 : Nat) : Int) (by omega) (by omega) (by omega)
    have e : dgood (y : Int) ↔ ((∀ j, 0 ≤ j → j < 8 → dok y j) ∧ y / 10 ^ 8 = 0) := by
      unfold dgood
      rw [Int.toNat_natCast]
      constructor
      · rintro ⟨-, a, b⟩; exact ⟨fun j _ => a j, b⟩
      · rintro ⟨a, b⟩; exact ⟨h0, fun j => a j (Nat.zero_le _), b⟩
    rw [Nat.pow_zero, Nat.div_one] at h1 h2
    have hf : f12_language N (zI y) S = f12_language_h16 N (zI y) N (zI y) (zI ((1 : Nat) : Int)) (zI ((7 : Nat) : Int)) S := by
      unfold f12_language f12_language_j11
      simp (disch := omega) only [nI_z, zI_add, zI_sub, zI_mul, zI_m1, ckI_z, zI_clamp, Int.toNat_natCast, bnd_some, lt, rd_same, rd_ne, rdL_same, rdL_ne, wI_2, wL_1, if_true, if_false, iT_lt, iF_lt, iT_lt0, iF_lt0, iT_0lt, iF_0lt, iT_le, iF_le, iT_le0, iF_le0, iT_0le, iF_0le, iT_eq, iF_eq, iT_eq0, iF_eq0]
    have hsum : dgood (y : Int) → f12_language N (zI y) S = (if tsum y 8 ≤ 64 then (if S.1 146 6 = nI 6 then some (zI (-3), S) else f12_language_h132 N N (zI y) (zI ((7 : Nat) : Int)) S) else some (zI (-5), S)) := fun hd => by
      have h3 := f12_lang_sum (N := N) (x := y) (S := S) (zI y) (by omega) (fun j hj => (e.mp hd).1 j (Nat.zero_le _) hj) 8 0 N ((7 : Nat) : Int) (by omega) (by omega) (by omega)
      rw [Nat.pow_zero, Nat.div_one] at h3
      rw [hf, h1 (e.mp hd), ← h3]
      rfl
    rw [Int.toNat_natCast]
    refine ⟨fun hd => ?_, fun hd ht => ?_, fun hd ht h6 => ?_, fun hd ht h6 => ?_⟩
    · rw [hf]; exact h2 (fun q => hd (e.mpr q))
    · rw [hsum hd, if_neg (by omega)]
    · rw [hsum hd, if_pos ht, hc, h6]
      simp (disch := omega) only [nI_z, zI_add, zI_sub, zI_mul, zI_m1, ckI_z, zI_clamp, Int.toNat_natCast, bnd_some, lt, rd_same, rd_ne, rdL_same, rdL_ne, wI_2, wL_1, if_true, if_false, iT_lt, iF_lt, iT_lt0, iF_lt0, iT_0lt, iF_0lt, iT_le, iF_le, iT_le0, iF_le0, iT_0le, iF_0le, iT_eq, iF_eq, iT_eq0, iF_eq0]
    · obtain ⟨S2, g1, g2⟩ := f12_lang_new (N := N) (x := y) h6 hN (by omega) hc (LV_dgs (fun i hi => (e.mp hd).1 i (Nat.zero_le _) hi) ht)
      refine ⟨S2, ?_, g2⟩
      rw [hsum hd, if_pos ht, hc]
      simp (disch := omega) only [nI_z, zI_add, zI_sub, zI_mul, zI_m1, ckI_z, zI_clamp, Int.toNat_natCast, bnd_some, lt, rd_same, rd_ne, rdL_same, rdL_ne, wI_2, wL_1, if_true, if_false, iT_lt, iF_lt, iT_lt0, iF_lt0, iT_0lt, iF_0lt, iT_le, iF_le, iT_le0, iF_le0, iT_0le, iF_0le, iT_eq, iF_eq, iT_eq0, iF_eq0]
      exact g1
  · have hb : f12_language N (zI x) S = some (zI (-1), S) := by
      unfold f12_language f12_language_j11
      simp (disch := omega) only [nI_z, zI_add, zI_sub, zI_mul, zI_m1, ckI_z, zI_clamp, Int.toNat_natCast, bnd_some, lt, rd_same, rd_ne, rdL_same, rdL_ne, wI_2, wL_1, if_true, if_false, iT_lt, iF_lt, iT_lt0, iF_lt0, iT_0lt, iF_0lt, iT_le, iF_le, iT_le0, iF_le0, iT_0le, iF_0le, iT_eq, iF_eq, iT_eq0, iF_eq0]
      exact f12_lang_bad (zI x) 8 N ((7 : Nat) : Int) (zI x) (by omega) (by omega) (by omega)
    exact ⟨fun _ => hb, fun h => absurd h.1 h0, fun h => absurd h.1 h0, fun h => absurd h.1 h0⟩
theorem f11_language_ok {N k : Nat} {x : Int} {S : St} (hN : 20 ≤ N) (hx : -2147483648 ≤ x ∧ x < 2147483648) (hk : k ≤ 6) (hc : S.1 0 1 = zI k) :
    (¬ dgood x → f11_language N (zI x) S = some (zI (-1), S)) ∧ (dgood x → 64 < tsum x.toNat 8 → f11_language N (zI x) S = some (zI (-5), S)) ∧ (dgood x → tsum x.toNat 8 ≤ 64 → k = 6 → f11_language N (zI x) S = some (zI (-3), S)) ∧
    (dgood x → tsum x.toNat 8 ≤ 64 → k < 6 → ∃ S2, f11_language N (zI x) S = some (zI k, S2) ∧ CL S2 (50 + 11 * k) (dgs x.toNat, []) ∧ S2.1 0 1 = zI ((k : Int) + ((1 : Nat) : Int)) ∧ Same (fun c p => (c = 0 ∧ p = 1) ∨ (50 + 11 * k ≤ c ∧ c ≤ 60 + 11 * k)) S S2) := by
  obtain ⟨h1, h2⟩ := f11_sod_ok (N := N) (S := S) hN hx
  have hle := tsum_le x.toNat 8
  refine ⟨fun hd => ?_, fun hd ht => ?_, fun hd ht h6 => ?_, fun hd ht h6 => ?_⟩
  · unfold f11_language
    rw [h2 hd]
    simp (disch := omega) only [nI_z, zI_add, zI_sub, zI_mul, zI_m1, ckI_z, zI_clamp, Int.toNat_natCast, bnd_some, lt, rd_same, rd_ne, rdL_same, rdL_ne, wI_2, wL_1, if_true, if_false, iT_lt, iF_lt, iT_lt0, iF_lt0, iT_0lt, iF_0lt, iT_le, iF_le, iT_le0, iF_le0, iT_0le, iF_0le, iT_eq, iF_eq, iT_eq0, iF_eq0]
  · unfold f11_language
    rw [h1 hd]
    simp (disch := omega) only [nI_z, zI_add, zI_sub, zI_mul, zI_m1, ckI_z, zI_clamp, Int.toNat_natCast, bnd_some, lt, rd_same, rd_ne, rdL_same, rdL_ne, wI_2, wL_1, if_true, if_false, iT_lt, iF_lt, iT_lt0, iF_lt0, iT_0lt, iF_0lt, iT_le, iF_le, iT_le0, iF_le0, iT_0le, iF_0le, iT_eq, iF_eq, iT_eq0, iF_eq0]
    rfl
  · unfold f11_language
    rw [h1 hd]
    simp (disch := omega) only [hc, nI_z, zI_add, zI_sub, zI_mul, zI_m1, ckI_z, zI_clamp, Int.toNat_natCast, bnd_some, lt, rd_same, rd_ne, rdL_same, rdL_ne, wI_2, wL_1, if_true, if_false, iT_lt, iF_lt, iT_lt0, iF_lt0, iT_0lt, iF_0lt, iT_le, iF_le, iT_le0, iF_le0, iT_0le, iF_0le, iT_eq, iF_eq, iT_eq0, iF_eq0]
    rfl
  · have h0 := hd.1
    have hxe : x = (x.toNat : Int) := by omega
    obtain ⟨S2, e1, e2, e3⟩ := f3_made_ok (N := N) (a := 50 + 11 * k) (x := x.toNat) (S := S) (LV_dgs hd.2.1 ht) hN (by omega)
    have hc2 : S2.1 0 1 = zI k := by rw [e3.i (by unfold stP; omega)]; exact hc
    have hs2 : Same (fun c p => (c = 0 ∧ p = 1) ∨ (50 + 11 * k ≤ c ∧ c ≤ 60 + 11 * k)) S2 (wI S2 0 1 (zI ((k : Int) + ((1 : Nat) : Int)))) := Same.rfl'.wI (Or.inl ⟨rfl, rfl⟩)
    have hs3 : Same (fun c _ => c = 0) S2 (wI S2 0 1 (zI ((k : Int) + ((1 : Nat) : Int)))) := Same.rfl'.wI rfl
    refine ⟨wI S2 0 1 (zI ((k : Int) + ((1 : Nat) : Int))), ?_, e2.same (LV_dgs hd.2.1 ht) hs3 (fun c p h1 h2 h3 => by omega), rd_same, (e3.mono (fun c p h => by unfold stP at h; omega)).tr hs2⟩
    rw [← hxe] at e1
    unfold f11_language
    rw [h1 hd]
    simp (disch := omega) only [hc, e1, hc2, nI_z, zI_add, zI_sub, zI_mul, zI_m1, ckI_z, zI_clamp, Int.toNat_natCast, bnd_some, lt, rd_same, rd_ne, rdL_same, rdL_ne, wI_2, wL_1, if_true, if_false, iT_lt, iF_lt, iT_lt0, iF_lt0, iT_0lt, iF_0lt, iT_le, iF_le, iT_le0, iF_le0, iT_0le, iF_0le, iT_eq, iF_eq, iT_eq0, iF_eq0]
    congr 2
    congr 1
    omega
