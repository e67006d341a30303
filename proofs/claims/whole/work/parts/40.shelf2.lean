/-! row, shift, taken. -/
theorem row_zero {N d : Nat} (hd : d < 6) : ∀ (m i n : Nat) (S : St), i + m = 60 → m < n → (∀ j, j < i → S.2 172 (60 * d + j) = lN 0) → ∃ S2, f12_row_h58 N (zI d) n (zI ((60 * d + i : Nat) : Int)) S = some (nI 1, S2) ∧ (∀ j, j < 60 → S2.2 172 (60 * d + j) = lN 0) ∧ Same (fun c k => c = 172 ∧ 60 * d ≤ k ∧ k < 60 * d + 60) S S2 := by
  intro m
  induction m with
  | zero =>
    intro i n S hi hn h
    obtain ⟨n, rfl⟩ : ∃ z, n = z + 1 := ⟨n - 1, by omega⟩
    obtain rfl : i = 60 := by omega
    refine ⟨S, ?_, h, Same.rfl'⟩
    rw [f12_row_h58]
    simp (disch := omega) only [nI_z, zI_add, zI_sub, zI_mul, zI_m1, ckI_z, zI_clamp, Int.toNat_natCast, bnd_some, lt, rd_same, rd_ne, rdL_same, rdL_ne, wI_2, wL_1, if_true, if_false, iT_lt, iF_lt, iT_lt0, iF_lt0, iT_0lt, iF_0lt, iT_le, iF_le, iT_le0, iF_le0, iT_0le, iF_0le, iT_eq, iF_eq, iT_eq0, iF_eq0]
  | succ m ih =>
    intro i n S hi hn h
    obtain ⟨n, rfl⟩ : ∃ z, n = z + 1 := ⟨n - 1, by omega⟩
    have hs : Same (fun c k => c = 172 ∧ 60 * d ≤ k ∧ k < 60 * d + 60) S (wL S 172 (60 * d + i) (lN 0)) := (Same.rfl' (P := fun c k => c = 172 ∧ 60 * d ≤ k ∧ k < 60 * d + 60)).wL (by omega)
    obtain ⟨S2, g1, g2, g3⟩ := ih (i + 1) n (wL S 172 (60 * d + i) (lN 0)) (by omega) (by omega) (fun j hj => by
      by_cases e : j = i
      · subst e; rw [rdL_same]
      · rw [rdL_ne (by omega)]; exact h j (by omega))
    refine ⟨S2, ?_, g2, hs.tr g3⟩
    have hz : zI (((60 * d + i : Nat) : Int) + ((1 : Nat) : Int)) = zI ((60 * d + (i + 1) : Nat) : Int) := rfl
    rw [f12_row_h58]
    simp (disch := omega) only [hz, nI_z, zI_add, zI_sub, zI_mul, zI_m1, ckI_z, zI_clamp, Int.toNat_natCast, bnd_some, lt, rd_same, rd_ne, rdL_same, rdL_ne, wI_2, wL_1, if_true, if_false, iT_lt, iF_lt, iT_lt0, iF_lt0, iT_0lt, iF_0lt, iT_le, iF_le, iT_le0, iF_le0, iT_0le, iF_0le, iT_eq, iF_eq, iT_eq0, iF_eq0]
    exact g1
theorem c_row {N : Nat} {S : St} {F : Nat → Sf} (hN : 100 ≤ N) (h : Qsh S F) (x y u : Int32) : ∃ r S1 S2 F2, f11_row x y u S = some (r, S1) ∧ f12_row N x y u S1 = some (r, S2) ∧ Qsh S2 F2 ∧ Same qhP S S2 := by
  have hy := xrng y
  have hu := xrng u
  rw [zI_of y, zI_of u]
  generalize y.toInt = w at hy
  generalize u.toInt = z at hu
  have k3 := fun S => within_n w 0 4 S hy (by omega) (by omega)
  rcases shelf_cases x with hc | ⟨d, hd, rfl, hc⟩
  · obtain ⟨c1, c2⟩ := hc S
    refine ⟨zI (-1), S, S, F, ?_, ?_, h, Same.rfl'⟩
    · unfold f11_row; simp (disch := omega) only [c1, nI_z, zI_add, zI_sub, zI_mul, zI_m1, ckI_z, zI_clamp, Int.toNat_natCast, bnd_some, lt, rd_same, rd_ne, rdL_same, rdL_ne, wI_2, wL_1, if_true, if_false, iT_lt, iF_lt, iT_lt0, iF_lt0, iT_0lt, iF_0lt, iT_le, iF_le, iT_le0, iF_le0, iT_0le, iF_0le, iT_eq, iF_eq, iT_eq0, iF_eq0]
    · unfold f12_row; simp (disch := omega) only [c2, nI_z, zI_add, zI_sub, zI_mul, zI_m1, ckI_z, zI_clamp, Int.toNat_natCast, bnd_some, lt, rd_same, rd_ne, rdL_same, rdL_ne, wI_2, wL_1, if_true, if_false, iT_lt, iF_lt, iT_lt0, iF_lt0, iT_0lt, iF_0lt, iT_le, iF_le, iT_le0, iF_le0, iT_0le, iF_0le, iT_eq, iF_eq, iT_eq0, iF_eq0]
  · obtain ⟨c1, c2⟩ := hc S
    by_cases w0 : 0 ≤ w ∧ w ≤ 4
    · by_cases z60 : z ≤ 60
      · by_cases z0 : 0 ≤ z
        · obtain ⟨k, rfl⟩ : ∃ k : Nat, w = k := ⟨w.toNat, by omega⟩
          obtain ⟨n, rfl⟩ : ∃ n : Nat, z = n := ⟨z.toNat, by omega⟩
          obtain ⟨S1, a1, a2, a3, a4, a5, a6⟩ := f8_become_ok (S := S) hd (zI k) (zI ((0 : Nat) : Int)) (zI n)
          have c2' := (hc S1).2
          have hs2 : Same (fun c j => (c = 170 ∨ c = 171) ∧ j = d) S1 (wI (wI S1 170 d (zI (((1000 : Nat) : Int) + (k : Int)))) 171 d (zI n)) := (Same.rfl' (P := fun c j => (c = 170 ∨ c = 171) ∧ j = d)) |>.wI (by omega) |>.wI (by omega)
          obtain ⟨S3, b1, b2, b3⟩ := row_zero (N := N) hd 60 0 N (wI (wI S1 170 d (zI (((1000 : Nat) : Int) + (k : Int)))) 171 d (zI n)) (by omega) (by omega) (fun j hj => absurd hj (by omega))
          have v1 : (wI (wI S1 170 d (zI (((1000 : Nat) : Int) + (k : Int)))) 171 d (zI n)).1 170 d = zI (((1000 : Nat) : Int) + (k : Int)) := by simp (disch := omega) only [nI_z, zI_add, zI_sub, zI_mul, zI_m1, ckI_z, zI_clamp, Int.toNat_natCast, bnd_some, lt, rd_same, rd_ne, rdL_same, rdL_ne, wI_2, wL_1, if_true, if_false, iT_lt, iF_lt, iT_lt0, iF_lt0, iT_0lt, iF_0lt, iT_le, iF_le, iT_le0, iF_le0, iT_0le, iF_0le, iT_eq, iF_eq, iT_eq0, iF_eq0]
          have v2 : (wI (wI S1 170 d (zI (((1000 : Nat) : Int) + (k : Int)))) 171 d (zI n)).1 171 d = zI n := by simp (disch := omega) only [nI_z, zI_add, zI_sub, zI_mul, zI_m1, ckI_z, zI_clamp, Int.toNat_natCast, bnd_some, lt, rd_same, rd_ne, rdL_same, rdL_ne, wI_2, wL_1, if_true, if_false, iT_lt, iF_lt, iT_lt0, iF_lt0, iT_0lt, iF_0lt, iT_le, iF_le, iT_le0, iF_le0, iT_0le, iF_0le, iT_eq, iF_eq, iT_eq0, iF_eq0]
          have hs : Same (s1P d) S S3 := ((a6.mono (fun c j z => by unfold s1P; omega)).tr (hs2.mono (fun c j z => by unfold s1P; omega))).tr (b3.mono (fun c j z => by unfold s1P; omega))
          have hsh : shI (k, 0, n) = ((1000 : Nat) : Int) + (k : Int) := by
            unfold shI
            rw [if_neg (by show ¬ k = 6; omega), if_neg (by show ¬ k = 5; omega)]
            rfl
          have q : ∀ c, (40 ≤ c ∧ c ≤ 42) → S3.1 c d = S1.1 c d := fun c hcc => by rw [b3.i (by omega), hs2.i (by omega)]
          refine ⟨nI 1, S1, S3, updF F d (k, 0, n), ?_, ?_, s1_upd h hd hs ⟨by show k ≤ 6; omega, by show 0 < 600; omega, by show n ≤ 60; omega, by rw [q 40 (by omega)]; exact a2, by rw [q 41 (by omega)]; exact a3, by rw [q 42 (by omega)]; exact a4, by rw [hsh, b3.i (by omega)]; exact v1, by rw [b3.i (by omega)]; exact v2, fun _ i hi => ?_, fun _ i hi => ?_⟩, hs.mono (fun c j z => by unfold s1P at z; unfold qhP; omega)⟩
          · unfold f11_row f8_holdRow
            simp (disch := omega) only [c1, a1, nI_z, zI_add, zI_sub, zI_mul, zI_m1, ckI_z, zI_clamp, Int.toNat_natCast, bnd_some, lt, rd_same, rd_ne, rdL_same, rdL_ne, wI_2, wL_1, if_true, if_false, iT_lt, iF_lt, iT_lt0, iF_lt0, iT_0lt, iF_0lt, iT_le, iF_le, iT_le0, iF_le0, iT_0le, iF_0le, iT_eq, iF_eq, iT_eq0, iF_eq0]
          · have hz : ((60 : Nat) : Int) * (d : Int) = ((60 * d + 0 : Nat) : Int) := by omega
            unfold f12_row
            simp (disch := omega) only [iT_b, iF_b, c2', k3, nI_z, zI_add, zI_sub, zI_mul, zI_m1, ckI_z, zI_clamp, Int.toNat_natCast, bnd_some, lt, rd_same, rd_ne, rdL_same, rdL_ne, wI_2, wL_1, if_true, if_false, iT_lt, iF_lt, iT_lt0, iF_lt0, iT_0lt, iF_0lt, iT_le, iF_le, iT_le0, iF_le0, iT_0le, iF_0le, iT_eq, iF_eq, iT_eq0, iF_eq0]
            rw [hz]
            exact b1
          · have hi : i < n := hi
            rw [b2 i (by omega), b3.l (by omega), hs2.l (by omega), a5 i (by omega)]
          · have hi : i < n := hi
            exact Or.inl (b2 i (by omega))
        · refine ⟨zI (-14), S, S, F, ?_, ?_, h, Same.rfl'⟩
          · unfold f11_row; simp (disch := omega) only [c1, nI_z, zI_add, zI_sub, zI_mul, zI_m1, ckI_z, zI_clamp, Int.toNat_natCast, bnd_some, lt, rd_same, rd_ne, rdL_same, rdL_ne, wI_2, wL_1, if_true, if_false, iT_lt, iF_lt, iT_lt0, iF_lt0, iT_0lt, iF_0lt, iT_le, iF_le, iT_le0, iF_le0, iT_0le, iF_0le, iT_eq, iF_eq, iT_eq0, iF_eq0]; rfl
          · unfold f12_row; simp (disch := omega) only [iT_b, iF_b, c2, k3, nI_z, zI_add, zI_sub, zI_mul, zI_m1, ckI_z, zI_clamp, Int.toNat_natCast, bnd_some, lt, rd_same, rd_ne, rdL_same, rdL_ne, wI_2, wL_1, if_true, if_false, iT_lt, iF_lt, iT_lt0, iF_lt0, iT_0lt, iF_0lt, iT_le, iF_le, iT_le0, iF_le0, iT_0le, iF_0le, iT_eq, iF_eq, iT_eq0, iF_eq0]; rfl
      · refine ⟨zI (-1), S, S, F, ?_, ?_, h, Same.rfl'⟩
        · unfold f11_row; simp (disch := omega) only [c1, nI_z, zI_add, zI_sub, zI_mul, zI_m1, ckI_z, zI_clamp, Int.toNat_natCast, bnd_some, lt, rd_same, rd_ne, rdL_same, rdL_ne, wI_2, wL_1, if_true, if_false, iT_lt, iF_lt, iT_lt0, iF_lt0, iT_0lt, iF_0lt, iT_le, iF_le, iT_le0, iF_le0, iT_0le, iF_0le, iT_eq, iF_eq, iT_eq0, iF_eq0]
        · unfold f12_row; simp (disch := omega) only [iT_b, iF_b, c2, k3, nI_z, zI_add, zI_sub, zI_mul, zI_m1, ckI_z, zI_clamp, Int.toNat_natCast, bnd_some, lt, rd_same, rd_ne, rdL_same, rdL_ne, wI_2, wL_1, if_true, if_false, iT_lt, iF_lt, iT_lt0, iF_lt0, iT_0lt, iF_0lt, iT_le, iF_le, iT_le0, iF_le0, iT_0le, iF_0le, iT_eq, iF_eq, iT_eq0, iF_eq0]
    · refine ⟨zI (-1), S, S, F, ?_, ?_, h, Same.rfl'⟩
      · unfold f11_row
        by_cases e : w < 0
        · simp (disch := omega) only [c1, nI_z, zI_add, zI_sub, zI_mul, zI_m1, ckI_z, zI_clamp, Int.toNat_natCast, bnd_some, lt, rd_same, rd_ne, rdL_same, rdL_ne, wI_2, wL_1, if_true, if_false, iT_lt, iF_lt, iT_lt0, iF_lt0, iT_0lt, iF_0lt, iT_le, iF_le, iT_le0, iF_le0, iT_0le, iF_0le, iT_eq, iF_eq, iT_eq0, iF_eq0]
        · simp (disch := omega) only [c1, nI_z, zI_add, zI_sub, zI_mul, zI_m1, ckI_z, zI_clamp, Int.toNat_natCast, bnd_some, lt, rd_same, rd_ne, rdL_same, rdL_ne, wI_2, wL_1, if_true, if_false, iT_lt, iF_lt, iT_lt0, iF_lt0, iT_0lt, iF_0lt, iT_le, iF_le, iT_le0, iF_le0, iT_0le, iF_0le, iT_eq, iF_eq, iT_eq0, iF_eq0]
      · unfold f12_row; simp (disch := omega) only [iT_b, iF_b, c2, k3, nI_z, zI_add, zI_sub, zI_mul, zI_m1, ckI_z, zI_clamp, Int.toNat_natCast, bnd_some, lt, rd_same, rd_ne, rdL_same, rdL_ne, wI_2, wL_1, if_true, if_false, iT_lt, iF_lt, iT_lt0, iF_lt0, iT_0lt, iF_0lt, iT_le, iF_le, iT_le0, iF_le0, iT_0le, iF_0le, iT_eq, iF_eq, iT_eq0, iF_eq0]
-- shift
theorem cpL_in {S : St} {a i c j n k : Nat} (h : j ≤ k ∧ k < j + n) : (cpL S a i c j n).2 c k = S.2 a (i + (k - j)) := if_pos ⟨rfl, h⟩
theorem cpL_out {S : St} {a i c j n q k : Nat} (h : q ≠ c ∨ k < j ∨ j + n ≤ k) : (cpL S a i c j n).2 q k = S.2 q k := if_neg (by omega)
theorem Same.cpL {P : Nat → Nat → Prop} {S S2 : St} {a i c j n : Nat} (h : Same P S S2) (hp : ∀ k, j ≤ k → k < j + n → P c k) : Same P S (cpL S2 a i c j n) := fun q k hn => by
  refine ⟨(h q k hn).1, ?_⟩
  by_cases e : q = c ∧ j ≤ k ∧ k < j + n
  · obtain ⟨rfl, e1, e2⟩ := e
    exact absurd (hp k e1 e2) hn
  · rw [cpL_out (by omega)]
    exact (h q k hn).2
theorem shift_l2 {N e j n : Nat} (he : e < 6) (hn : j + n ≤ 60) : ∀ (m i f : Nat) (S : St), i + m = n → m < f → ∃ S2, f12_shift_h151 N (zI e) (zI j) (zI n) f (zI i) S = some (zI n, S2) ∧ (∀ t, i ≤ t → t < n → S2.2 172 (60 * e + j + t) = S.2 173 t) ∧ Same (fun c k => c = 172 ∧ 60 * e + j + i ≤ k ∧ k < 60 * e + j + n) S S2 := by
  intro m
  induction m with
  | zero =>
    intro i f S hi hf
    obtain ⟨f, rfl⟩ : ∃ z, f = z + 1 := ⟨f - 1, by omega⟩
    refine ⟨S, ?_, fun t h1 h2 => absurd h2 (by omega), Same.rfl'⟩
    rw [f12_shift_h151]
    simp (disch := omega) only [nI_z, zI_add, zI_sub, zI_mul, zI_m1, ckI_z, zI_clamp, Int.toNat_natCast, bnd_some, lt, rd_same, rd_ne, rdL_same, rdL_ne, wI_2, wL_1, if_true, if_false, iT_lt, iF_lt, iT_lt0, iF_lt0, iT_0lt, iF_0lt, iT_le, iF_le, iT_le0, iF_le0, iT_0le, iF_0le, iT_eq, iF_eq, iT_eq0, iF_eq0]
  | succ m ih =>
    intro i f S hi hf
    obtain ⟨f, rfl⟩ : ∃ z, f = z + 1 := ⟨f - 1, by omega⟩
    have hx : (((60 : Nat) : Int) * (e : Int) + (j : Int) + (i : Int)).toNat = 60 * e + j + i := by omega
    have hs : Same (fun c k => c = 172 ∧ 60 * e + j + i ≤ k ∧ k < 60 * e + j + n) S (wL S 172 (60 * e + j + i) (S.2 173 i)) := (Same.rfl' (P := fun c k => c = 172 ∧ 60 * e + j + i ≤ k ∧ k < 60 * e + j + n)).wL (by omega)
    obtain ⟨S2, g1, g2, g3⟩ := ih (i + 1) f (wL S 172 (60 * e + j + i) (S.2 173 i)) (by omega) (by omega)
    refine ⟨S2, ?_, fun t h1 h2 => ?_, hs.tr (g3.mono (fun c k z => by omega))⟩
    · rw [f12_shift_h151]
      simp (disch := omega) only [hx, nI_z, zI_add, zI_sub, zI_mul, zI_m1, ckI_z, zI_clamp, Int.toNat_natCast, bnd_some, lt, rd_same, rd_ne, rdL_same, rdL_ne, wI_2, wL_1, if_true, if_false, iT_lt, iF_lt, iT_lt0, iF_lt0, iT_0lt, iF_0lt, iT_le, iF_le, iT_le0, iF_le0, iT_0le, iF_0le, iT_eq, iF_eq, iT_eq0, iF_eq0]
      exact g1
    · by_cases q : t = i
      · subst q
        rw [g3.l (by omega), rdL_same]
      · rw [g2 t (by omega) h2, rdL_ne (by omega)]
theorem shift_l1 {N d i0 n : Nat} {x3 x4 : Int32} (hd : d < 6) (hn : i0 + n ≤ 60) : ∀ (m i f : Nat) (S : St), i + m = n → m < f → ∃ S2, f12_shift_h114 N (zI d) (zI i0) x3 x4 (zI n) f (zI i) S = f12_shift_h151 N x3 x4 (zI n) N (zI ((0 : Nat) : Int)) S2 ∧ (∀ t, i ≤ t → t < n → S2.2 173 t = S.2 172 (60 * d + i0 + t)) ∧ Same (fun c k => c = 173 ∧ i ≤ k) S S2 := by
  intro m
  induction m with
  | zero =>
    intro i f S hi hf
    obtain ⟨f, rfl⟩ : ∃ z, f = z + 1 := ⟨f - 1, by omega⟩
    refine ⟨S, ?_, fun t h1 h2 => absurd h2 (by omega), Same.rfl'⟩
    rw [f12_shift_h114]
    simp (disch := omega) only [nI_z, zI_add, zI_sub, zI_mul, zI_m1, ckI_z, zI_clamp, Int.toNat_natCast, bnd_some, lt, rd_same, rd_ne, rdL_same, rdL_ne, wI_2, wL_1, if_true, if_false, iT_lt, iF_lt, iT_lt0, iF_lt0, iT_0lt, iF_0lt, iT_le, iF_le, iT_le0, iF_le0, iT_0le, iF_0le, iT_eq, iF_eq, iT_eq0, iF_eq0]
  | succ m ih =>
    intro i f S hi hf
    obtain ⟨f, rfl⟩ : ∃ z, f = z + 1 := ⟨f - 1, by omega⟩
    have hx : (((60 : Nat) : Int) * (d : Int) + (i0 : Int) + (i : Int)).toNat = 60 * d + i0 + i := by omega
    have hs : Same (fun c k => c = 173 ∧ i ≤ k) S (wL S 173 i (S.2 172 (60 * d + i0 + i))) := (Same.rfl' (P := fun c k => c = 173 ∧ i ≤ k)).wL (by omega)
    obtain ⟨S2, g1, g2, g3⟩ := ih (i + 1) f (wL S 173 i (S.2 172 (60 * d + i0 + i))) (by omega) (by omega)
    refine ⟨S2, ?_, fun t h1 h2 => ?_, hs.tr (g3.mono (fun c k z => by omega))⟩
    · rw [f12_shift_h114]
      simp (disch := omega) only [hx, nI_z, zI_add, zI_sub, zI_mul, zI_m1, ckI_z, zI_clamp, Int.toNat_natCast, bnd_some, lt, rd_same, rd_ne, rdL_same, rdL_ne, wI_2, wL_1, if_true, if_false, iT_lt, iF_lt, iT_lt0, iF_lt0, iT_0lt, iF_0lt, iT_le, iF_le, iT_le0, iF_le0, iT_0le, iF_0le, iT_eq, iF_eq, iT_eq0, iF_eq0]
      exact g1
    · by_cases q : t = i
      · subst q
        rw [g3.l (by omega), rdL_same]
      · rw [g2 t (by omega) h2, rdL_ne (by omega)]
