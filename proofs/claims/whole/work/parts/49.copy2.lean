/-! The reference's copy of a LANGUAGE. -/
def mpP (k c p : Nat) : Prop := (c = 147 ∧ 12 * k ≤ p ∧ p < 12 * k + 12) ∨ (c = 151 ∧ 4 * k ≤ p ∧ p < 4 * k + 4) ∨ (c = 150 ∧ 16 * k ≤ p ∧ p < 16 * k + 16) ∨ (c = 152 ∧ p = k)
def MP (S : St) (k : Nat) (g : Lg) : Prop := ∀ j q, g.2[j]? = some q → S.1 151 (4 * k + j) = zI q.length ∧ Held (S.1 150) (4 * (4 * k + j)) q
theorem cpy_in {N i k p : Nat} (hi : i < 6) (hk : k < 6) (hik : i ≠ k) (hp : p < 4) (k41 : Int32 → St → Option (Unit × St)) : ∀ (m x n : Nat) (S : St), x + m = 4 → m < n → S.1 146 6 = zI k → ∃ S2, f12_copy_h71 N (zI i) (zI p) k41 n (zI x) S = k41 (zI ((p + 1 : Nat) : Int)) S2 ∧ (∀ y, x ≤ y → y < 4 → S2.1 150 (4 * (4 * k + p) + y) = S.1 150 (4 * (4 * i + p) + y)) ∧ Same (fun c q => c = 150 ∧ 4 * (4 * k + p) + x ≤ q ∧ q < 4 * (4 * k + p) + 4) S S2 := by
  intro m
  induction m with
  | zero =>
    intro x n S hx hn hc
    obtain ⟨n, rfl⟩ : ∃ z, n = z + 1 := ⟨n - 1, by omega⟩
    obtain rfl : x = 4 := by omega
    refine ⟨S, ?_, fun y h1 h2 => by omega, Same.rfl'⟩
    rw [f12_copy_h71]
    simp (disch := omega) only [nI_z, zI_add, zI_sub, zI_mul, zI_m1, ckI_z, zI_clamp, Int.toNat_natCast, bnd_some, lt, rd_same, rd_ne, rdL_same, rdL_ne, wI_2, wL_1, if_true, if_false, iT_lt, iF_lt, iT_lt0, iF_lt0, iT_0lt, iF_0lt, iT_le, iF_le, iT_le0, iF_le0, iT_0le, iF_0le, iT_eq, iF_eq, iT_eq0, iF_eq0]
    rfl
  | succ m ih =>
    intro x n S hx hn hc
    obtain ⟨n, rfl⟩ : ∃ z, n = z + 1 := ⟨n - 1, by omega⟩
    have z1 : (((4 : Nat) : Int) * (((4 : Nat) : Int) * (i : Int) + (p : Int)) + (x : Int)).toNat = 4 * (4 * i + p) + x := by omega
    have z2 : (((4 : Nat) : Int) * (((4 : Nat) : Int) * (k : Int) + (p : Int)) + (x : Int)).toNat = 4 * (4 * k + p) + x := by omega
    have hs : Same (fun c q => c = 150 ∧ 4 * (4 * k + p) + x ≤ q ∧ q < 4 * (4 * k + p) + 4) S (wI S 150 (4 * (4 * k + p) + x) (S.1 150 (4 * (4 * i + p) + x))) := (Same.rfl' (P := fun c q => c = 150 ∧ 4 * (4 * k + p) + x ≤ q ∧ q < 4 * (4 * k + p) + 4)).wI (by omega)
    obtain ⟨S2, g1, g2, g3⟩ := ih (x + 1) n (wI S 150 (4 * (4 * k + p) + x) (S.1 150 (4 * (4 * i + p) + x))) (by omega) (by omega) (by simp (disch := omega) only [hc, nI_z, zI_add, zI_sub, zI_mul, zI_m1, ckI_z, zI_clamp, Int.toNat_natCast, bnd_some, lt, rd_same, rd_ne, rdL_same, rdL_ne, wI_2, wL_1, if_true, if_false, iT_lt, iF_lt, iT_lt0, iF_lt0, iT_0lt, iF_0lt, iT_le, iF_le, iT_le0, iF_le0, iT_0le, iF_0le, iT_eq, iF_eq, iT_eq0, iF_eq0])
    refine ⟨S2, ?_, fun y h1 h2 => ?_, hs.tr (g3.mono (fun c q z => by omega))⟩
    · rw [f12_copy_h71]
      simp (disch := omega) only [hc, z1, z2, nI_z, zI_add, zI_sub, zI_mul, zI_m1, ckI_z, zI_clamp, Int.toNat_natCast, bnd_some, lt, rd_same, rd_ne, rdL_same, rdL_ne, wI_2, wL_1, if_true, if_false, iT_lt, iF_lt, iT_lt0, iF_lt0, iT_0lt, iF_0lt, iT_le, iF_le, iT_le0, iF_le0, iT_0le, iF_0le, iT_eq, iF_eq, iT_eq0, iF_eq0]
      exact g1
    · by_cases e : y = x
      · subst e
        rw [g3.i (by omega), rd_same]
      · rw [g2 y (by omega) h2, rd_ne (by omega)]
theorem cpy_parts {N i k : Nat} (hi : i < 6) (hk : k < 6) (hik : i ≠ k) (hN : 20 ≤ N) : ∀ (m p n : Nat) (S : St), p + m = 4 → m < n → S.1 146 6 = zI k → ∃ S2, f12_copy_h41 N (zI i) n (zI p) S = some ((), S2) ∧ (∀ j, p ≤ j → j < 4 → S2.1 151 (4 * k + j) = S.1 151 (4 * i + j) ∧ ∀ y, y < 4 → S2.1 150 (4 * (4 * k + j) + y) = S.1 150 (4 * (4 * i + j) + y)) ∧ S2.1 152 k = S.1 152 i ∧ Same (fun c q => (c = 151 ∧ 4 * k + p ≤ q ∧ q < 4 * k + 4) ∨ (c = 150 ∧ 16 * k + 4 * p ≤ q ∧ q < 16 * k + 16) ∨ (c = 152 ∧ q = k)) S S2 := by
  intro m
  induction m with
  | zero =>
    intro p n S hp hn hc
    obtain ⟨n, rfl⟩ : ∃ z, n = z + 1 := ⟨n - 1, by omega⟩
    obtain rfl : p = 4 := by omega
    refine ⟨wI S 152 k (S.1 152 i), ?_, fun j h1 h2 => by omega, rd_same, (Same.rfl' (P := fun c q => (c = 151 ∧ 4 * k + 4 ≤ q ∧ q < 4 * k + 4) ∨ (c = 150 ∧ 16 * k + 4 * 4 ≤ q ∧ q < 16 * k + 16) ∨ (c = 152 ∧ q = k))).wI (Or.inr (Or.inr ⟨rfl, rfl⟩))⟩
    rw [f12_copy_h41]
    simp (disch := omega) only [hc, nI_z, zI_add, zI_sub, zI_mul, zI_m1, ckI_z, zI_clamp, Int.toNat_natCast, bnd_some, lt, rd_same, rd_ne, rdL_same, rdL_ne, wI_2, wL_1, if_true, if_false, iT_lt, iF_lt, iT_lt0, iF_lt0, iT_0lt, iF_0lt, iT_le, iF_le, iT_le0, iF_le0, iT_0le, iF_0le, iT_eq, iF_eq, iT_eq0, iF_eq0]
  | succ m ih =>
    intro p n S hp hn hc
    obtain ⟨n, rfl⟩ : ∃ z, n = z + 1 := ⟨n - 1, by omega⟩
    have z1 : (((4 : Nat) : Int) * (i : Int) + (p : Int)).toNat = 4 * i + p := by omega
    have z2 : (((4 : Nat) : Int) * (k : Int) + (p : Int)).toNat = 4 * k + p := by omega
    have hs : Same (fun c q => c = 151 ∧ q = 4 * k + p) S (wI S 151 (4 * k + p) (S.1 151 (4 * i + p))) := (Same.rfl' (P := fun c q => c = 151 ∧ q = 4 * k + p)).wI ⟨rfl, rfl⟩
    obtain ⟨S1, e1, e2, e3⟩ := cpy_in (N := N) hi hk hik (by omega : p < 4) (f12_copy_h41 N (zI i) n) 4 0 N (wI S 151 (4 * k + p) (S.1 151 (4 * i + p))) (by omega) (by omega) (by simp (disch := omega) only [hc, nI_z, zI_add, zI_sub, zI_mul, zI_m1, ckI_z, zI_clamp, Int.toNat_natCast, bnd_some, lt, rd_same, rd_ne, rdL_same, rdL_ne, wI_2, wL_1, if_true, if_false, iT_lt, iF_lt, iT_lt0, iF_lt0, iT_0lt, iF_0lt, iT_le, iF_le, iT_le0, iF_le0, iT_0le, iF_0le, iT_eq, iF_eq, iT_eq0, iF_eq0])
    have hc1 : S1.1 146 6 = zI k := by rw [e3.i (by omega)]; simp (disch := omega) only [hc, nI_z, zI_add, zI_sub, zI_mul, zI_m1, ckI_z, zI_clamp, Int.toNat_natCast, bnd_some, lt, rd_same, rd_ne, rdL_same, rdL_ne, wI_2, wL_1, if_true, if_false, iT_lt, iF_lt, iT_lt0, iF_lt0, iT_0lt, iF_0lt, iT_le, iF_le, iT_le0, iF_le0, iT_0le, iF_0le, iT_eq, iF_eq, iT_eq0, iF_eq0]
    obtain ⟨S2, g1, g2, g3, g4⟩ := ih (p + 1) n S1 (by omega) (by omega) hc1
    have s1 : Same (fun c q => (c = 151 ∧ q = 4 * k + p) ∨ (c = 150 ∧ 4 * (4 * k + p) ≤ q ∧ q < 4 * (4 * k + p) + 4)) S S1 := (hs.mono (fun c q z => Or.inl z)).tr (e3.mono (fun c q z => Or.inr (by omega)))
    refine ⟨S2, ?_, fun j h1 h2 => ?_, by rw [g3, s1.i (by omega)], (s1.mono (fun c q z => by omega)).tr (g4.mono (fun c q z => by omega))⟩
    · rw [f12_copy_h41]
      simp (disch := omega) only [hc, z1, z2, nI_z, zI_add, zI_sub, zI_mul, zI_m1, ckI_z, zI_clamp, Int.toNat_natCast, bnd_some, lt, rd_same, rd_ne, rdL_same, rdL_ne, wI_2, wL_1, if_true, if_false, iT_lt, iF_lt, iT_lt0, iF_lt0, iT_0lt, iF_0lt, iT_le, iF_le, iT_le0, iF_le0, iT_0le, iF_0le, iT_eq, iF_eq, iT_eq0, iF_eq0]
      rw [e1]
      exact g1
    · by_cases e : j = p
      · subst e
        refine ⟨?_, fun y hy => ?_⟩
        · rw [g4.i (by omega), e3.i (by omega), rd_same]
        · rw [g4.i (by omega), e2 y (by omega) hy, rd_ne (by omega)]
      · obtain ⟨a1, a2⟩ := g2 j (by omega) h2
        refine ⟨by rw [a1, s1.i (by omega)], fun y hy => by rw [a2 y hy, s1.i (by omega)]⟩
theorem cpy_bits {N i k : Nat} (hi : i < 6) (hk : k < 6) (hik : i ≠ k) : ∀ (m o n : Nat) (S : St), o + m = 12 → m < n → S.1 146 6 = zI k → ∃ S2, f12_copy_h2 N (zI i) n (zI o) S = f12_copy_h41 N (zI i) N (zI ((0 : Nat) : Int)) S2 ∧ (∀ y, o ≤ y → y < 12 → S2.1 147 (12 * k + y) = S.1 147 (12 * i + y)) ∧ Same (fun c q => c = 147 ∧ 12 * k + o ≤ q ∧ q < 12 * k + 12) S S2 := by
  intro m
  induction m with
  | zero =>
    intro o n S ho hn hc
    obtain ⟨n, rfl⟩ : ∃ z, n = z + 1 := ⟨n - 1, by omega⟩
    obtain rfl : o = 12 := by omega
    refine ⟨S, ?_, fun y h1 h2 => by omega, Same.rfl'⟩
    rw [f12_copy_h2]
    simp (disch := omega) only [nI_z, zI_add, zI_sub, zI_mul, zI_m1, ckI_z, zI_clamp, Int.toNat_natCast, bnd_some, lt, rd_same, rd_ne, rdL_same, rdL_ne, wI_2, wL_1, if_true, if_false, iT_lt, iF_lt, iT_lt0, iF_lt0, iT_0lt, iF_0lt, iT_le, iF_le, iT_le0, iF_le0, iT_0le, iF_0le, iT_eq, iF_eq, iT_eq0, iF_eq0]
  | succ m ih =>
    intro o n S ho hn hc
    obtain ⟨n, rfl⟩ : ∃ z, n = z + 1 := ⟨n - 1, by omega⟩
    have hs : Same (fun c q => c = 147 ∧ 12 * k + o ≤ q ∧ q < 12 * k + 12) S (wI S 147 (12 * k + o) (S.1 147 (12 * i + o))) := (Same.rfl' (P := fun c q => c = 147 ∧ 12 * k + o ≤ q ∧ q < 12 * k + 12)).wI (by omega)
    obtain ⟨S2, g1, g2, g3⟩ := ih (o + 1) n (wI S 147 (12 * k + o) (S.1 147 (12 * i + o))) (by omega) (by omega) (by simp (disch := omega) only [hc, nI_z, zI_add, zI_sub, zI_mul, zI_m1, ckI_z, zI_clamp, Int.toNat_natCast, bnd_some, lt, rd_same, rd_ne, rdL_same, rdL_ne, wI_2, wL_1, if_true, if_false, iT_lt, iF_lt, iT_lt0, iF_lt0, iT_0lt, iF_0lt, iT_le, iF_le, iT_le0, iF_le0, iT_0le, iF_0le, iT_eq, iF_eq, iT_eq0, iF_eq0])
    refine ⟨S2, ?_, fun y h1 h2 => ?_, hs.tr (g3.mono (fun c q z => by omega))⟩
    · rw [f12_copy_h2]
      simp (disch := omega) only [hc, pl12, nI_z, zI_add, zI_sub, zI_mul, zI_m1, ckI_z, zI_clamp, Int.toNat_natCast, bnd_some, lt, rd_same, rd_ne, rdL_same, rdL_ne, wI_2, wL_1, if_true, if_false, iT_lt, iF_lt, iT_lt0, iF_lt0, iT_0lt, iF_0lt, iT_le, iF_le, iT_le0, iF_le0, iT_0le, iF_0le, iT_eq, iF_eq, iT_eq0, iF_eq0]
      exact g1
    · by_cases e : y = o
      · subst e
        rw [g3.i (by omega), rd_same]
      · rw [g2 y (by omega) h2, rd_ne (by omega)]
theorem copy_ok {N i k : Nat} {S : St} {g : Lg} (hN : 20 ≤ N) (hi : i < 6) (hk : k < 6) (hik : i ≠ k) (hv : LV g) (hm : ML S i g) (hc : S.1 146 6 = zI k) : ∃ S2, f12_copy N (zI i) S = some ((), S2) ∧ MB S2 k g ∧ MP S2 k g ∧ S2.1 146 6 = zI k ∧ Same (mpP k) S S2 := by
  have hgl := hv.len
  have hg1 := hv.1
  have hg2 := hv.2.1
  obtain ⟨S1, a1, a2, a3⟩ := cpy_bits (N := N) hi hk hik 12 0 N S (by omega) (by omega) hc
  obtain ⟨S2, b1, b2, b3, b4⟩ := cpy_parts (N := N) hi hk hik hN 4 0 N S1 (by omega) (by omega) (by rw [a3.i (by omega)]; exact hc)
  obtain ⟨m0, m1, m2, m3, m4⟩ := hm
  have hs : Same (mpP k) S S2 := (a3.mono (fun c q z => by unfold mpP; omega)).tr (b4.mono (fun c q z => by unfold mpP; omega))
  refine ⟨S2, ?_, ⟨by rw [b3, a3.i (by omega)]; exact m0, fun o ho => by rw [b4.i (by omega), a2 o (by omega) (by omega)]; exact m1 o ho⟩, fun j q hj => ?_, by rw [hs.i (by unfold mpP; omega)]; exact hc, hs⟩
  · unfold f12_copy
    rw [nI_z, a1]
    exact b1
  · have hl := (List.getElem?_eq_some_iff.mp hj).1
    have hq := hv.2.2.2.2 q (List.mem_of_getElem? hj)
    obtain ⟨d1, d2⟩ := m4 j q hj
    obtain ⟨c1, c2⟩ := b2 j (by omega) (by omega)
    refine ⟨by rw [c1, a3.i (by omega)]; exact d1, fun y x hx => ?_⟩
    have hyl := (List.getElem?_eq_some_iff.mp hx).1
    rw [c2 y (by omega), a3.i (by omega)]
    exact d2 y x hx
theorem ML.mk2 {S : St} {k : Nat} {g : Lg} (hv : LV g) (h1 : MB S k g) (h2 : MP S k g) (h3 : MR S k g (rkf g)) : ML S k g := ⟨h1.1, h1.2, fun o ho => h3.2 o ((mem_rkf hv).mpr ho), h3.1, h2⟩
