/-! The call taken; reads of kinds. -/
def abN (k : Nat) : Nat := if k = 3 then 2 else if k = 4 then 2 else if k = 6 then 5 else 0
def dpN (k : Nat) : Nat := if k = 0 then 0 else if k = 3 ∨ k = 4 ∨ k = 6 then 2 else 1
def und (k : Nat) : Nat → Nat → Bool
  | 0, kd => decide (kd = k)
  | f + 1, kd => if kd = k then true else und k f (abN kd)
theorem ab_m {S : St} {k : Nat} (h : k < 100) : f12_above (zI k) S = some (zI (abN k), S) := by
  unfold f12_above abN
  by_cases e3 : k = 3
  · rw [if_pos e3]; simp (disch := omega) only [nI_z, zI_add, zI_sub, zI_mul, zI_m1, ckI_z, zI_clamp, Int.toNat_natCast, bnd_some, lt, rd_same, rd_ne, rdL_same, rdL_ne, wI_2, wL_1, if_true, if_false, iT_lt, iF_lt, iT_lt0, iF_lt0, iT_0lt, iF_0lt, iT_le, iF_le, iT_le0, iF_le0, iT_0le, iF_0le, iT_eq, iF_eq, iT_eq0, iF_eq0]
  rw [if_neg e3]
  by_cases e4 : k = 4
  · rw [if_pos e4]; simp (disch := omega) only [nI_z, zI_add, zI_sub, zI_mul, zI_m1, ckI_z, zI_clamp, Int.toNat_natCast, bnd_some, lt, rd_same, rd_ne, rdL_same, rdL_ne, wI_2, wL_1, if_true, if_false, iT_lt, iF_lt, iT_lt0, iF_lt0, iT_0lt, iF_0lt, iT_le, iF_le, iT_le0, iF_le0, iT_0le, iF_0le, iT_eq, iF_eq, iT_eq0, iF_eq0]
  rw [if_neg e4]
  by_cases e6 : k = 6
  · rw [if_pos e6]; simp (disch := omega) only [nI_z, zI_add, zI_sub, zI_mul, zI_m1, ckI_z, zI_clamp, Int.toNat_natCast, bnd_some, lt, rd_same, rd_ne, rdL_same, rdL_ne, wI_2, wL_1, if_true, if_false, iT_lt, iF_lt, iT_lt0, iF_lt0, iT_0lt, iF_0lt, iT_le, iF_le, iT_le0, iF_le0, iT_0le, iF_0le, iT_eq, iF_eq, iT_eq0, iF_eq0]
  · rw [if_neg e6]; simp (disch := omega) only [nI_z, zI_add, zI_sub, zI_mul, zI_m1, ckI_z, zI_clamp, Int.toNat_natCast, bnd_some, lt, rd_same, rd_ne, rdL_same, rdL_ne, wI_2, wL_1, if_true, if_false, iT_lt, iF_lt, iT_lt0, iF_lt0, iT_0lt, iF_0lt, iT_le, iF_le, iT_le0, iF_le0, iT_0le, iF_0le, iT_eq, iF_eq, iT_eq0, iF_eq0]
theorem ab_c {S : St} {k : Nat} (h : 1 ≤ k ∧ k ≤ 6) : f0_above (zI k) S = some (zI (abN k), S) := by
  unfold f0_above abN
  by_cases e3 : k = 3
  · rw [if_pos e3]; simp (disch := omega) only [sw_t, sw_f, sw_n, nI_z, zI_add, zI_sub, zI_mul, zI_m1, ckI_z, zI_clamp, Int.toNat_natCast, bnd_some, lt, rd_same, rd_ne, rdL_same, rdL_ne, wI_2, wL_1, if_true, if_false, iT_lt, iF_lt, iT_lt0, iF_lt0, iT_0lt, iF_0lt, iT_le, iF_le, iT_le0, iF_le0, iT_0le, iF_0le, iT_eq, iF_eq, iT_eq0, iF_eq0]
  rw [if_neg e3]
  by_cases e4 : k = 4
  · rw [if_pos e4]; simp (disch := omega) only [sw_t, sw_f, sw_n, nI_z, zI_add, zI_sub, zI_mul, zI_m1, ckI_z, zI_clamp, Int.toNat_natCast, bnd_some, lt, rd_same, rd_ne, rdL_same, rdL_ne, wI_2, wL_1, if_true, if_false, iT_lt, iF_lt, iT_lt0, iF_lt0, iT_0lt, iF_0lt, iT_le, iF_le, iT_le0, iF_le0, iT_0le, iF_0le, iT_eq, iF_eq, iT_eq0, iF_eq0]
  rw [if_neg e4]
  by_cases e6 : k = 6
  · rw [if_pos e6]; simp (disch := omega) only [sw_t, sw_f, sw_n, nI_z, zI_add, zI_sub, zI_mul, zI_m1, ckI_z, zI_clamp, Int.toNat_natCast, bnd_some, lt, rd_same, rd_ne, rdL_same, rdL_ne, wI_2, wL_1, if_true, if_false, iT_lt, iF_lt, iT_lt0, iF_lt0, iT_0lt, iF_0lt, iT_le, iF_le, iT_le0, iF_le0, iT_0le, iF_0le, iT_eq, iF_eq, iT_eq0, iF_eq0]
  rw [if_neg e6]
  by_cases e1 : k = 1
  · simp (disch := omega) only [sw_t, sw_f, sw_n, nI_z, zI_add, zI_sub, zI_mul, zI_m1, ckI_z, zI_clamp, Int.toNat_natCast, bnd_some, lt, rd_same, rd_ne, rdL_same, rdL_ne, wI_2, wL_1, if_true, if_false, iT_lt, iF_lt, iT_lt0, iF_lt0, iT_0lt, iF_0lt, iT_le, iF_le, iT_le0, iF_le0, iT_0le, iF_0le, iT_eq, iF_eq, iT_eq0, iF_eq0]
  by_cases e2 : k = 2
  · simp (disch := omega) only [sw_t, sw_f, sw_n, nI_z, zI_add, zI_sub, zI_mul, zI_m1, ckI_z, zI_clamp, Int.toNat_natCast, bnd_some, lt, rd_same, rd_ne, rdL_same, rdL_ne, wI_2, wL_1, if_true, if_false, iT_lt, iF_lt, iT_lt0, iF_lt0, iT_0lt, iF_0lt, iT_le, iF_le, iT_le0, iF_le0, iT_0le, iF_0le, iT_eq, iF_eq, iT_eq0, iF_eq0]
  · simp (disch := omega) only [sw_t, sw_f, sw_n, nI_z, zI_add, zI_sub, zI_mul, zI_m1, ckI_z, zI_clamp, Int.toNat_natCast, bnd_some, lt, rd_same, rd_ne, rdL_same, rdL_ne, wI_2, wL_1, if_true, if_false, iT_lt, iF_lt, iT_lt0, iF_lt0, iT_0lt, iF_0lt, iT_le, iF_le, iT_le0, iF_le0, iT_0le, iF_0le, iT_eq, iF_eq, iT_eq0, iF_eq0]
theorem ab_c0 {S : St} : f0_above (zI ((0 : Nat) : Int)) S = some (zI (-1), S) := by
  unfold f0_above
  simp (disch := omega) only [sw_t, sw_f, sw_n, nI_z, zI_add, zI_sub, zI_mul, zI_m1, ckI_z, zI_clamp, Int.toNat_natCast, bnd_some, lt, rd_same, rd_ne, rdL_same, rdL_ne, wI_2, wL_1, if_true, if_false, iT_lt, iF_lt, iT_lt0, iF_lt0, iT_0lt, iF_0lt, iT_le, iF_le, iT_le0, iF_le0, iT_0le, iF_0le, iT_eq, iF_eq, iT_eq0, iF_eq0]
theorem dp_ab {k : Nat} (h : 1 ≤ k ∧ k ≤ 6) : dpN (abN k) + 1 = dpN k ∧ abN k ≤ 6 := by
  unfold dpN abN
  obtain ⟨h1, h2⟩ := h
  have : k = 1 ∨ k = 2 ∨ k = 3 ∨ k = 4 ∨ k = 5 ∨ k = 6 := by omega
  rcases this with rfl | rfl | rfl | rfl | rfl | rfl <;> decide
theorem under_c {N k : Nat} {S : St} (hk : k ≤ 6) : ∀ (m kd n l : Nat), dpN kd = m → kd ≤ 6 → m + 1 < n → l + m ≤ 4 → f0_isUnder_h4 N (zI k) n (zI kd) (zI l) S = some (if und k m kd then zI 1 else zI 0, S) := by
  intro m
  induction m with
  | zero =>
    intro kd n l h1 h2 hn hl
    obtain ⟨n, rfl⟩ : ∃ z, n = z + 1 := ⟨n - 1, by omega⟩
    obtain ⟨n, rfl⟩ : ∃ z, n = z + 1 := ⟨n - 1, by omega⟩
    have h0 : kd = 0 := by
      unfold dpN at h1
      by_cases e : kd = 0
      · exact e
      · rw [if_neg e] at h1
        split at h1 <;> omega
    subst h0
    rw [f0_isUnder_h4]
    by_cases e : 0 = k
    · subst e
      have : und 0 0 0 = true := rfl
      rw [this]
      simp (disch := omega) only [nI_z, zI_add, zI_sub, zI_mul, zI_m1, ckI_z, zI_clamp, Int.toNat_natCast, bnd_some, lt, rd_same, rd_ne, rdL_same, rdL_ne, wI_2, wL_1, if_true, if_false, iT_lt, iF_lt, iT_lt0, iF_lt0, iT_0lt, iF_0lt, iT_le, iF_le, iT_le0, iF_le0, iT_0le, iF_0le, iT_eq, iF_eq, iT_eq0, iF_eq0]
      rfl
    · have : und k 0 0 = false := decide_eq_false e
      rw [this]
      simp (disch := omega) only [ab_c0, nI_z, zI_add, zI_sub, zI_mul, zI_m1, ckI_z, zI_clamp, Int.toNat_natCast, bnd_some, lt, rd_same, rd_ne, rdL_same, rdL_ne, wI_2, wL_1, if_true, if_false, iT_lt, iF_lt, iT_lt0, iF_lt0, iT_0lt, iF_0lt, iT_le, iF_le, iT_le0, iF_le0, iT_0le, iF_0le, iT_eq, iF_eq, iT_eq0, iF_eq0]
      rw [f0_isUnder_h4]
      simp (disch := omega) only [nI_z, zI_add, zI_sub, zI_mul, zI_m1, ckI_z, zI_clamp, Int.toNat_natCast, bnd_some, lt, rd_same, rd_ne, rdL_same, rdL_ne, wI_2, wL_1, if_true, if_false, iT_lt, iF_lt, iT_lt0, iF_lt0, iT_0lt, iF_0lt, iT_le, iF_le, iT_le0, iF_le0, iT_0le, iF_0le, iT_eq, iF_eq, iT_eq0, iF_eq0]
      rfl
  | succ m ih =>
    intro kd n l h1 h2 hn hl
    obtain ⟨n, rfl⟩ : ∃ z, n = z + 1 := ⟨n - 1, by omega⟩
    have h0 : kd ≠ 0 := fun q => by rw [q] at h1; exact absurd h1 (by unfold dpN; rw [if_pos rfl]; omega)
    obtain ⟨d1, d2⟩ := dp_ab (k := kd) (by omega)
    have hu : und k (m + 1) kd = if kd = k then true else und k m (abN kd) := rfl
    have ih1 := ih (abN kd) n (l + 1) (by omega) d2 (by omega) (by omega)
    have hz : zI ((l + 1 : Nat) : Int) = zI ((l : Int) + ((1 : Nat) : Int)) := rfl
    rw [hz] at ih1
    rw [f0_isUnder_h4, hu]
    by_cases e : kd = k
    · rw [if_pos e]
      simp (disch := omega) only [nI_z, zI_add, zI_sub, zI_mul, zI_m1, ckI_z, zI_clamp, Int.toNat_natCast, bnd_some, lt, rd_same, rd_ne, rdL_same, rdL_ne, wI_2, wL_1, if_true, if_false, iT_lt, iF_lt, iT_lt0, iF_lt0, iT_0lt, iF_0lt, iT_le, iF_le, iT_le0, iF_le0, iT_0le, iF_0le, iT_eq, iF_eq, iT_eq0, iF_eq0]
      rfl
    · rw [if_neg e]
      simp (disch := omega) only [ab_c, nI_z, zI_add, zI_sub, zI_mul, zI_m1, ckI_z, zI_clamp, Int.toNat_natCast, bnd_some, lt, rd_same, rd_ne, rdL_same, rdL_ne, wI_2, wL_1, if_true, if_false, iT_lt, iF_lt, iT_lt0, iF_lt0, iT_0lt, iF_0lt, iT_le, iF_le, iT_le0, iF_le0, iT_0le, iF_0le, iT_eq, iF_eq, iT_eq0, iF_eq0]
      exact ih1
theorem under_m {N k : Nat} {S : St} {r : Int32} (hk : k ≤ 6) : ∀ (m kd n : Nat), dpN kd = m → kd ≤ 6 → m + 1 < n → f12_taken_h64 N (zI k) r n (zI kd) S = some (if und k m kd then r else zI (-12), S) := by
  intro m
  induction m with
  | zero =>
    intro kd n h1 h2 hn
    obtain ⟨n, rfl⟩ : ∃ z, n = z + 1 := ⟨n - 1, by omega⟩
    have h0 : kd = 0 := by
      unfold dpN at h1
      by_cases e : kd = 0
      · exact e
      · rw [if_neg e] at h1
        split at h1 <;> omega
    subst h0
    rw [f12_taken_h64]
    by_cases e : 0 = k
    · subst e
      have : und 0 0 0 = true := rfl
      rw [this]
      simp (disch := omega) only [f12_taken_j85, nI_z, zI_add, zI_sub, zI_mul, zI_m1, ckI_z, zI_clamp, Int.toNat_natCast, bnd_some, lt, rd_same, rd_ne, rdL_same, rdL_ne, wI_2, wL_1, if_true, if_false, iT_lt, iF_lt, iT_lt0, iF_lt0, iT_0lt, iF_0lt, iT_le, iF_le, iT_le0, iF_le0, iT_0le, iF_0le, iT_eq, iF_eq, iT_eq0, iF_eq0]
      all_goals rfl
    · have : und k 0 0 = false := decide_eq_false e
      rw [this]
      simp (disch := omega) only [f12_taken_j85, nI_z, zI_add, zI_sub, zI_mul, zI_m1, ckI_z, zI_clamp, Int.toNat_natCast, bnd_some, lt, rd_same, rd_ne, rdL_same, rdL_ne, wI_2, wL_1, if_true, if_false, iT_lt, iF_lt, iT_lt0, iF_lt0, iT_0lt, iF_0lt, iT_le, iF_le, iT_le0, iF_le0, iT_0le, iF_0le, iT_eq, iF_eq, iT_eq0, iF_eq0]
      all_goals rfl
  | succ m ih =>
    intro kd n h1 h2 hn
    obtain ⟨n, rfl⟩ : ∃ z, n = z + 1 := ⟨n - 1, by omega⟩
    have h0 : kd ≠ 0 := fun q => by rw [q] at h1; exact absurd h1 (by unfold dpN; rw [if_pos rfl]; omega)
    obtain ⟨d1, d2⟩ := dp_ab (k := kd) (by omega)
    have hu : und k (m + 1) kd = if kd = k then true else und k m (abN kd) := rfl
    rw [f12_taken_h64, hu]
    by_cases e : kd = k
    · rw [if_pos e]
      simp (disch := omega) only [f12_taken_j85, nI_z, zI_add, zI_sub, zI_mul, zI_m1, ckI_z, zI_clamp, Int.toNat_natCast, bnd_some, lt, rd_same, rd_ne, rdL_same, rdL_ne, wI_2, wL_1, if_true, if_false, iT_lt, iF_lt, iT_lt0, iF_lt0, iT_0lt, iF_0lt, iT_le, iF_le, iT_le0, iF_le0, iT_0le, iF_0le, iT_eq, iF_eq, iT_eq0, iF_eq0]
      all_goals rfl
    · rw [if_neg e]
      simp (disch := omega) only [ab_m, nI_z, zI_add, zI_sub, zI_mul, zI_m1, ckI_z, zI_clamp, Int.toNat_natCast, bnd_some, lt, rd_same, rd_ne, rdL_same, rdL_ne, wI_2, wL_1, if_true, if_false, iT_lt, iF_lt, iT_lt0, iF_lt0, iT_0lt, iF_0lt, iT_le, iF_le, iT_le0, iF_le0, iT_0le, iF_0le, iT_eq, iF_eq, iT_eq0, iF_eq0]
      exact ih (abN kd) n (by omega) d2 (by omega)
theorem c_taken {N : Nat} {S : St} {F : Nat → Sf} (hN : 100 ≤ N) (h : Qsh S F) (x y : Int32) : ∃ r, f11_taken N x y S = some (r, S) ∧ f12_taken N x y S = some (r, S) := by
  have hy := xrng y
  rw [zI_of y]
  generalize y.toInt = w at hy
  have k3 := fun S => within_n w 0 6 S hy (by omega) (by omega)
  rcases shelf_cases x with hc | ⟨d, hd, rfl, hc⟩
  · obtain ⟨c1, c2⟩ := hc S
    refine ⟨zI (-1), ?_, ?_⟩
    · unfold f11_taken; rw [c1]; rfl
    · unfold f12_taken; rw [c2]; rfl
  · obtain ⟨c1, c2⟩ := hc S
    have h1 := h d hd
    have q1 := f8_nothing_in hd h1
    have q2 := f8_row_in hd h1
    obtain ⟨s1, s2, s3, s4, s5, s6⟩ := shI_rng h1.1 h1.2.1
    have a41 := h1.2.2.2.2.1
    have a70 := h1.2.2.2.2.2.2.1
    have ho := h1.2.1
    have m1 := h1.1
    by_cases w0 : 0 ≤ w ∧ w ≤ 6
    · obtain ⟨k, rfl⟩ : ∃ k : Nat, w = k := ⟨w.toNat, by omega⟩
      by_cases k6 : (F d).1 = 6
      · refine ⟨zI (-11), ?_, ?_⟩
        · unfold f11_taken; simp (disch := omega) only [iT_b, iF_b, c1, q1, nI_z, zI_add, zI_sub, zI_mul, zI_m1, ckI_z, zI_clamp, Int.toNat_natCast, bnd_some, lt, rd_same, rd_ne, rdL_same, rdL_ne, wI_2, wL_1, if_true, if_false, iT_lt, iF_lt, iT_lt0, iF_lt0, iT_0lt, iF_0lt, iT_le, iF_le, iT_le0, iF_le0, iT_0le, iF_0le, iT_eq, iF_eq, iT_eq0, iF_eq0]; rfl
        · unfold f12_taken; simp (disch := omega) only [iT_b, iF_b, c2, k3, a70, nI_z, zI_add, zI_sub, zI_mul, zI_m1, ckI_z, zI_clamp, Int.toNat_natCast, bnd_some, lt, rd_same, rd_ne, rdL_same, rdL_ne, wI_2, wL_1, if_true, if_false, iT_lt, iF_lt, iT_lt0, iF_lt0, iT_0lt, iF_0lt, iT_le, iF_le, iT_le0, iF_le0, iT_0le, iF_0le, iT_eq, iF_eq, iT_eq0, iF_eq0]; rfl
      · by_cases k4 : (F d).1 ≤ 4
        · refine ⟨zI (-12), ?_, ?_⟩
          · unfold f11_taken; simp (disch := omega) only [iT_b, iF_b, c1, q1, q2, nI_z, zI_add, zI_sub, zI_mul, zI_m1, ckI_z, zI_clamp, Int.toNat_natCast, bnd_some, lt, rd_same, rd_ne, rdL_same, rdL_ne, wI_2, wL_1, if_true, if_false, iT_lt, iF_lt, iT_lt0, iF_lt0, iT_0lt, iF_0lt, iT_le, iF_le, iT_le0, iF_le0, iT_0le, iF_0le, iT_eq, iF_eq, iT_eq0, iF_eq0]; rfl
          · unfold f12_taken; simp (disch := omega) only [iT_b, iF_b, c2, k3, a70, nI_z, zI_add, zI_sub, zI_mul, zI_m1, ckI_z, zI_clamp, Int.toNat_natCast, bnd_some, lt, rd_same, rd_ne, rdL_same, rdL_ne, wI_2, wL_1, if_true, if_false, iT_lt, iF_lt, iT_lt0, iF_lt0, iT_0lt, iF_0lt, iT_le, iF_le, iT_le0, iF_le0, iT_0le, iF_0le, iT_eq, iF_eq, iT_eq0, iF_eq0]; rfl
        · have hs := s6 (by omega)
          rw [hs] at a70
          have hr := zI_rem (a := ((F d).2.1 : Int)) (b := ((100 : Nat) : Int)) (by omega) (by omega) (by omega)
          have hz : ((F d).2.1 : Int) % ((100 : Nat) : Int) = (((F d).2.1 % 100 : Nat) : Int) := rfl
          rw [hz] at hr
          have hlt : (F d).2.1 % 100 < 100 := Nat.mod_lt _ (by omega)
          have kr := kdN_rng ((F d).2.1 % 100)
          have hho : f8_heldOrder (zI d) S = some (zI (F d).2.1, S) := by
            unfold f8_heldOrder
            simp (disch := omega) only [f8_is hd, a41, nI_z, zI_add, zI_sub, zI_mul, zI_m1, ckI_z, zI_clamp, Int.toNat_natCast, bnd_some, lt, rd_same, rd_ne, rdL_same, rdL_ne, wI_2, wL_1, if_true, if_false, iT_lt, iF_lt, iT_lt0, iF_lt0, iT_0lt, iF_0lt, iT_le, iF_le, iT_le0, iF_le0, iT_0le, iF_0le, iT_eq, iF_eq, iT_eq0, iF_eq0]
          have kc := kind_c (S := S) hlt
          have km := kind_m (S := S) hlt
          generalize kdN ((F d).2.1 % 100) = kd at kr kc km
          have hdp : dpN kd ≤ 2 := by
            unfold dpN
            split
            · omega
            · split <;> omega
          have uc := under_c (N := N) (k := k) (S := S) (by omega) (dpN kd) kd N 0 rfl (by omega) (by omega) (by omega)
          have um := under_m (N := N) (k := k) (S := S) (r := zI kd) (by omega) (dpN kd) kd N rfl (by omega) (by omega)
          refine ⟨if und k (dpN kd) kd then zI kd else zI (-12), ?_, ?_⟩
          · have uc' : f0_isUnder N (zI kd) (zI k) S = some (if und k (dpN kd) kd then zI 1 else zI 0, S) := by rw [f0_isUnder, nI_z]; exact uc
            unfold f11_taken
            simp (disch := omega) only [iT_b, iF_b, c1, q1, q2, hho, hr, kc, nI_z, zI_add, zI_sub, zI_mul, zI_m1, ckI_z, zI_clamp, Int.toNat_natCast, bnd_some, lt, rd_same, rd_ne, rdL_same, rdL_ne, wI_2, wL_1, if_true, if_false, iT_lt, iF_lt, iT_lt0, iF_lt0, iT_0lt, iF_0lt, iT_le, iF_le, iT_le0, iF_le0, iT_0le, iF_0le, iT_eq, iF_eq, iT_eq0, iF_eq0]
            rw [uc']
            cases und k (dpN kd) kd with
            | true => rfl
            | false => rfl
          · unfold f12_taken
            simp (disch := omega) only [iT_b, iF_b, c2, k3, a70, hr, km, nI_z, zI_add, zI_sub, zI_mul, zI_m1, ckI_z, zI_clamp, Int.toNat_natCast, bnd_some, lt, rd_same, rd_ne, rdL_same, rdL_ne, wI_2, wL_1, if_true, if_false, iT_lt, iF_lt, iT_lt0, iF_lt0, iT_0lt, iF_0lt, iT_le, iF_le, iT_le0, iF_le0, iT_0le, iF_0le, iT_eq, iF_eq, iT_eq0, iF_eq0]
            exact um
    · refine ⟨zI (-1), ?_, ?_⟩
      · unfold f11_taken
        by_cases e : w < 0
        · simp (disch := omega) only [c1, nI_z, zI_add, zI_sub, zI_mul, zI_m1, ckI_z, zI_clamp, Int.toNat_natCast, bnd_some, lt, rd_same, rd_ne, rdL_same, rdL_ne, wI_2, wL_1, if_true, if_false, iT_lt, iF_lt, iT_lt0, iF_lt0, iT_0lt, iF_0lt, iT_le, iF_le, iT_le0, iF_le0, iT_0le, iF_0le, iT_eq, iF_eq, iT_eq0, iF_eq0]
        · simp (disch := omega) only [c1, nI_z, zI_add, zI_sub, zI_mul, zI_m1, ckI_z, zI_clamp, Int.toNat_natCast, bnd_some, lt, rd_same, rd_ne, rdL_same, rdL_ne, wI_2, wL_1, if_true, if_false, iT_lt, iF_lt, iT_lt0, iF_lt0, iT_0lt, iF_0lt, iT_le, iF_le, iT_le0, iF_le0, iT_0le, iF_0le, iT_eq, iF_eq, iT_eq0, iF_eq0]
      · unfold f12_taken; simp (disch := omega) only [iT_b, iF_b, c2, k3, nI_z, zI_add, zI_sub, zI_mul, zI_m1, ckI_z, zI_clamp, Int.toNat_natCast, bnd_some, lt, rd_same, rd_ne, rdL_same, rdL_ne, wI_2, wL_1, if_true, if_false, iT_lt, iF_lt, iT_lt0, iF_lt0, iT_0lt, iF_0lt, iT_le, iF_le, iT_le0, iF_le0, iT_0le, iF_0le, iT_eq, iF_eq, iT_eq0, iF_eq0]
