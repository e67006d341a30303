/-! The calls shift and taken. -/
theorem shift_go {N d e i j n : Nat} {S : St} {F : Nat → Sf} (hN : 100 ≤ N) (h : Qsh S F) (hd : d < 6) (he : e < 6) (hk : (F d).1 ≤ 4) (hke : (F d).1 = (F e).1) (hi : i + n ≤ (F d).2.2) (hj : j + n ≤ (F e).2.2) :
    ∃ S1 S2, f8_copy (zI d) (zI i) (zI e) (zI j) (zI n) S = some ((), S1) ∧ f12_shift_h114 N (zI d) (zI i) (zI e) (zI j) (zI n) N (nI 0) S1 = some (zI n, S2) ∧ Qsh S2 F ∧ Same qhP S S2 ∧ Same (fun c _ => c = 44 + e) S S1 := by
  have h1 := h d hd
  have h2 := h e he
  have l1 := h1.2.2.1
  have l2 := h2.2.2.1
  have s1 : Same (fun c k => c = 44 + e ∧ j ≤ k ∧ k < j + n) S (cpL S (44 + d) i (44 + e) j n) := Same.cpL (Same.rfl' (P := fun c k => c = 44 + e ∧ j ≤ k ∧ k < j + n)) (fun k a b => ⟨rfl, a, b⟩)
  have v1 : ∀ k, j ≤ k → k < j + n → (cpL S (44 + d) i (44 + e) j n).2 (44 + e) k = S.2 (44 + d) (i + (k - j)) := fun k a b => cpL_in ⟨a, b⟩
  have e1 : f8_copy (zI d) (zI i) (zI e) (zI j) (zI n) S = some ((), cpL S (44 + d) i (44 + e) j n) := by
    unfold f8_copy
    simp (disch := omega) only [f8_is hd, f8_is he, ckC_ok, nI_z, zI_add, zI_sub, zI_mul, zI_m1, ckI_z, zI_clamp, Int.toNat_natCast, bnd_some, lt, rd_same, rd_ne, rdL_same, rdL_ne, wI_2, wL_1, if_true, if_false, iT_lt, iF_lt, iT_lt0, iF_lt0, iT_0lt, iF_0lt, iT_le, iF_le, iT_le0, iF_le0, iT_0le, iF_0le, iT_eq, iF_eq, iT_eq0, iF_eq0]
  generalize cpL S (44 + d) i (44 + e) j n = S1 at s1 v1 e1
  obtain ⟨S2, a1, a2, a3⟩ := shift_l1 (N := N) (i0 := i) (x3 := zI e) (x4 := zI j) hd (by omega : i + n ≤ 60) n 0 N S1 (by omega) (by omega)
  obtain ⟨S3, b1, b2, b3⟩ := shift_l2 (N := N) (e := e) (j := j) (n := n) he (by omega) n 0 N S2 (by omega) (by omega)
  have s13 : Same (fun c k => c = 173 ∨ (c = 172 ∧ 60 * e + j ≤ k ∧ k < 60 * e + j + n)) S1 S3 := (a3.mono (fun c k z => by omega)).tr (b3.mono (fun c k z => by omega))
  have sall : Same (fun c k => (c = 44 + e ∧ j ≤ k ∧ k < j + n) ∨ c = 173 ∨ (c = 172 ∧ 60 * e + j ≤ k ∧ k < 60 * e + j + n)) S S3 := (s1.mono (fun c k z => Or.inl z)).tr (s13.mono (fun c k z => Or.inr z))
  have v2 : ∀ t, t < n → S3.2 172 (60 * e + j + t) = S.2 172 (60 * d + i + t) := fun t ht => by rw [b2 t (by omega) ht, a2 t (by omega) ht, s1.l (by omega)]
  have hS : Qsh S3 F := fun q hq => by
    obtain ⟨c1, c2, c3, c4, c5, c6, c7, c8, c9, c10⟩ := h q hq
    refine ⟨c1, c2, c3, by rw [sall.i (by omega)]; exact c4, by rw [sall.i (by omega)]; exact c5, by rw [sall.i (by omega)]; exact c6, by rw [sall.i (by omega)]; exact c7, by rw [sall.i (by omega)]; exact c8, fun k4 t ht => ?_, fun k4 t ht => ?_⟩
    · by_cases w : q = e ∧ j ≤ t ∧ t < j + n
      · obtain ⟨rfl, w1, w2⟩ := w
        rw [s13.l (by omega), v1 t w1 w2, show 60 * q + t = 60 * q + j + (t - j) by omega, v2 (t - j) (by omega), show 60 * d + i + (t - j) = 60 * d + (i + (t - j)) by omega]
        exact h1.2.2.2.2.2.2.2.2.1 hk (i + (t - j)) (by omega)
      · rw [sall.l (by omega), sall.l (by omega)]
        exact c9 k4 t ht
    · by_cases w : q = e ∧ j ≤ t ∧ t < j + n
      · obtain ⟨rfl, w1, w2⟩ := w
        rw [show 60 * q + t = 60 * q + j + (t - j) by omega, v2 (t - j) (by omega), show 60 * d + i + (t - j) = 60 * d + (i + (t - j)) by omega]
        exact h1.2.2.2.2.2.2.2.2.2 (by omega) (i + (t - j)) (by omega)
      · rw [sall.l (by omega)]
        exact c10 k4 t ht
  refine ⟨S1, S3, e1, ?_, hS, sall.mono (fun c k z => by unfold qhP; omega), s1.mono (fun c k z => z.1)⟩
  rw [nI_z]
  exact a1.trans b1
theorem zcn {d : Nat} (hd : d < 2147483648) : (zI d).toNatClampNeg = d := by rw [zI_clamp (by omega), Int.toNat_natCast]
theorem shift_m {N d e : Nat} {i j n A B P Q : Int} {S : St} (hd : d < 6) (he : e < 6) (a70 : S.1 170 d = zI A) (b70 : S.1 170 e = zI B) (a71 : S.1 171 d = zI P) (b71 : S.1 171 e = zI Q) (hi : -2147483648 ≤ i ∧ i < 2147483648) (hj : -2147483648 ≤ j ∧ j < 2147483648) (hn : -2147483648 ≤ n ∧ n < 2147483648) (hA : -1 ≤ A ∧ A ≤ 2000) (hB : -1 ≤ B ∧ B ≤ 2000) (hP : 0 ≤ P ∧ P ≤ 60) (hQ : 0 ≤ Q ∧ Q ≤ 60) :
    f12_shift N (zI d) (zI i) (zI e) (zI j) (zI n) S = if A < 0 ∨ B < 0 then some (zI (-11), S) else if A < 1000 ∨ ¬ A = B then some (zI (-12), S) else if n < 0 ∨ i < 0 ∨ j < 0 ∨ P < i + n ∨ Q < j + n then some (zI (-13), S) else f12_shift_h114 N (zI d) (zI i) (zI e) (zI j) (zI n) N (nI 0) S := by
  unfold f12_shift
  rw [f12_is hd]; simp only [bnd_some]; rw [if_neg (by decide), f12_is he]; simp only [bnd_some]
  rw [if_neg (by decide), ckI_z (by omega), zcn (by omega), a70]
  by_cases c1 : A < 0
  · rw [iT_lt0 (by omega), if_pos (Or.inl c1)]; rfl
  rw [iF_lt0 (by omega), ckI_z (by omega), zcn (by omega), b70]
  by_cases c2 : B < 0
  · rw [iF_0le (by omega), if_pos (Or.inr c2)]; rfl
  rw [iT_0le (by omega), ckI_z (by omega), nI_z, if_neg (show ¬ (A < 0 ∨ B < 0) by omega)]
  by_cases c3 : A < 1000
  · rw [iT_lt (by omega), if_pos (Or.inl c3)]; rfl
  rw [iF_lt (by omega), ckI_z (by omega), ckI_z (by omega)]
  by_cases c4 : A = B
  · rw [iT_eq c4, if_neg (show ¬ (A < 1000 ∨ ¬ A = B) by omega)]
    by_cases n0 : n < 0
    · rw [iT_lt0 (by omega), if_pos (Or.inl n0)]; rfl
    rw [iF_lt0 (by omega)]
    by_cases i0 : i < 0
    · rw [iT_lt0 (by omega), if_pos (Or.inr (Or.inl i0))]; rfl
    rw [iF_lt0 (by omega)]
    by_cases j0 : j < 0
    · rw [iT_lt0 (by omega), if_pos (Or.inr (Or.inr (Or.inl j0)))]; rfl
    rw [iF_lt0 (by omega), ckI_z (by omega), a71, zI_sub]
    by_cases p0 : P < i + n
    · rw [iT_lt (by omega), if_pos (Or.inr (Or.inr (Or.inr (Or.inl p0))))]; rfl
    rw [iF_lt (by omega), ckI_z (by omega), b71, zI_sub]
    by_cases q0 : Q < j + n
    · rw [iF_le (by omega), if_pos (Or.inr (Or.inr (Or.inr (Or.inr q0))))]; rfl
    rw [iT_le (by omega), if_neg (by omega)]
  · rw [iF_eq (by omega), if_pos (Or.inr c4)]; rfl
theorem shift_c {N d e : Nat} {i j n : Int} {S : St} {qd qe : Sf} (hd : d < 6) (he : e < 6) (h1 : Sh1 S d qd) (h2 : Sh1 S e qe) (hi : -2147483648 ≤ i ∧ i < 2147483648) (hj : -2147483648 ≤ j ∧ j < 2147483648) (hn : -2147483648 ≤ n ∧ n < 2147483648) :
    f11_shift (zI d) (zI i) (zI e) (zI j) (zI n) S = if qd.1 = 6 ∨ qe.1 = 6 then some (zI (-11), S) else if ¬ qd.1 ≤ 4 ∨ ¬ qd.1 = qe.1 then some (zI (-12), S) else if n < 0 ∨ i < 0 ∨ j < 0 ∨ (qd.2.2 : Int) < i + n ∨ (qe.2.2 : Int) < j + n then some (zI (-13), S) else bnd (f8_copy (zI d) (zI i) (zI e) (zI j) (zI n) S) fun q28 S29 => some (zI n, S29) := by
  have q1 := f8_nothing_in hd h1
  have q2 := f8_nothing_in he h2
  have q3 := f8_row_in hd h1
  have q4 := f8_sort_in hd h1
  have q5 := f8_sort_in he h2
  have m1 := h1.1
  have m2 := h2.1
  unfold f11_shift
  rw [f8_is hd]; simp only [bnd_some]; rw [if_neg (by decide), f8_is he]; simp only [bnd_some]; rw [if_neg (by decide), q1]; simp only [bnd_some]
  by_cases k1 : qd.1 = 6
  · rw [iF_b k1, if_pos (Or.inl k1)]; rfl
  rw [iT_b k1, q2]; simp only [bnd_some]
  by_cases k2 : qe.1 = 6
  · rw [iF_b k2, if_pos (Or.inr k2)]; rfl
  rw [iT_b k2, q3, if_neg (show ¬ (qd.1 = 6 ∨ qe.1 = 6) by omega)]; simp only [bnd_some]
  by_cases k3 : qd.1 ≤ 4
  · rw [iF_b k3, q4]; simp only [bnd_some]; rw [q5]; simp only [bnd_some]
    by_cases k4 : qd.1 = qe.1
    · rw [iT_eq (by omega), if_neg (show ¬ (¬ qd.1 ≤ 4 ∨ ¬ qd.1 = qe.1) by omega)]
      by_cases n0 : n < 0
      · rw [iT_lt0 (by omega), if_pos (Or.inl n0)]; rfl
      rw [iF_lt0 (by omega), places_in hd h1 i n hi (by omega)]; simp only [bnd_some]
      by_cases f1 : 0 ≤ i ∧ i + n ≤ qd.2.2
      · rw [iF_b f1, places_in he h2 j n hj (by omega)]; simp only [bnd_some]
        by_cases f2 : 0 ≤ j ∧ j + n ≤ qe.2.2
        · rw [iF_b f2, if_neg (by omega)]
        · rw [iT_b f2, if_pos (by omega)]; rfl
      · rw [iT_b f1, if_pos (by omega)]; rfl
    · rw [iF_eq (by omega), if_pos (Or.inr k4)]; rfl
  · rw [iT_b k3, if_pos (Or.inl k3)]; rfl
theorem c_shift {N : Nat} {S : St} {F : Nat → Sf} (hN : 100 ≤ N) (h : Qsh S F) (x y u v t : Int32) : ∃ r S1 S2, f11_shift x y u v t S = some (r, S1) ∧ f12_shift N x y u v t S1 = some (r, S2) ∧ Qsh S2 F ∧ Same qhP S S2 := by
  have hy := xrng y
  have hv := xrng v
  have ht := xrng t
  rw [zI_of y, zI_of v, zI_of t]
  generalize y.toInt = i at hy
  generalize v.toInt = j at hv
  generalize t.toInt = n at ht
  rcases shelf_cases x with hc | ⟨d, hd, rfl, hc⟩
  · obtain ⟨c1, c2⟩ := hc S
    refine ⟨zI (-1), S, S, ?_, ?_, h, Same.rfl'⟩
    · unfold f11_shift; rw [c1]; rfl
    · unfold f12_shift; rw [c2]; rfl
  · obtain ⟨c1, c2⟩ := hc S
    rcases shelf_cases u with he | ⟨e, he6, rfl, he⟩
    · obtain ⟨d1, d2⟩ := he S
      refine ⟨zI (-1), S, S, ?_, ?_, h, Same.rfl'⟩
      · unfold f11_shift; rw [c1]; simp only [bnd_some]; rw [if_neg (by decide), d1]; rfl
      · unfold f12_shift; rw [c2]; simp only [bnd_some]; rw [if_neg (by decide), d2]; rfl
    · have hd1 := h d hd
      have he1 := h e he6
      obtain ⟨s1, s2, s3, s4, s5, s6⟩ := shI_rng hd1.1 hd1.2.1
      obtain ⟨t1, t2, t3, t4, t5, t6⟩ := shI_rng he1.1 he1.2.1
      have a70 := hd1.2.2.2.2.2.2.1
      have a71 := hd1.2.2.2.2.2.2.2.1
      have b70 := he1.2.2.2.2.2.2.1
      have b71 := he1.2.2.2.2.2.2.2.1
      have l1 := hd1.2.2.1
      have l2 := he1.2.2.1
      have m1 := hd1.1
      have m2 := he1.1
      have hC := shift_c (N := N) hd he6 hd1 he1 hy hv ht
      have hM := fun (S1 : St) (w1 : S1.1 170 d = zI (shI (F d))) (w2 : S1.1 170 e = zI (shI (F e))) (w3 : S1.1 171 d = zI (F d).2.2) (w4 : S1.1 171 e = zI (F e).2.2) => shift_m (N := N) hd he6 w1 w2 w3 w4 hy hv ht ⟨by omega, by omega⟩ ⟨by omega, by omega⟩ ⟨by omega, by omega⟩ ⟨by omega, by omega⟩
      by_cases g1 : (F d).1 = 6 ∨ (F e).1 = 6
      · refine ⟨zI (-11), S, S, ?_, ?_, h, Same.rfl'⟩
        · rw [hC, if_pos g1]
        · rw [hM S a70 b70 a71 b71, if_pos (by omega)]
      by_cases g2 : ¬ (F d).1 ≤ 4 ∨ ¬ (F d).1 = (F e).1
      · refine ⟨zI (-12), S, S, ?_, ?_, h, Same.rfl'⟩
        · rw [hC, if_neg g1, if_pos g2]
        · rw [hM S a70 b70 a71 b71, if_neg (by omega), if_pos]
          by_cases k5 : (F e).1 ≤ 4
          · by_cases k6 : (F d).1 ≤ 4
            · have := s5 k6
              have := t5 k5
              omega
            · omega
          · omega
      by_cases g3 : n < 0 ∨ i < 0 ∨ j < 0 ∨ ((F d).2.2 : Int) < i + n ∨ ((F e).2.2 : Int) < j + n
      · refine ⟨zI (-13), S, S, ?_, ?_, h, Same.rfl'⟩
        · rw [hC, if_neg g1, if_neg g2, if_pos g3]
        · have z1 := s5 (by omega)
          have z2 := t5 (by omega)
          rw [hM S a70 b70 a71 b71, if_neg (by omega), if_neg (by omega), if_pos g3]
      · obtain ⟨i, rfl⟩ : ∃ z : Nat, i = z := ⟨i.toNat, by omega⟩
        obtain ⟨j, rfl⟩ : ∃ z : Nat, j = z := ⟨j.toNat, by omega⟩
        obtain ⟨n, rfl⟩ : ∃ z : Nat, n = z := ⟨n.toNat, by omega⟩
        obtain ⟨S1, S2, w1, w2, w3, w4, w5⟩ := shift_go (N := N) (i := i) (j := j) (n := n) hN h hd he6 (by omega) (by omega) (by omega) (by omega)
        have ww : ∀ c k, c = 170 ∨ c = 171 → S1.1 c k = S.1 c k := fun c k hc => w5.i (by omega)
        have z1 := s5 (by omega)
        have z2 := t5 (by omega)
        refine ⟨zI n, S1, S2, ?_, ?_, w3, w4⟩
        · rw [hC, if_neg g1, if_neg g2, if_neg g3, w1]; rfl
        · rw [hM S1 (by rw [ww 170 d (by omega)]; exact a70) (by rw [ww 170 e (by omega)]; exact b70) (by rw [ww 171 d (by omega)]; exact a71) (by rw [ww 171 e (by omega)]; exact b71), if_neg (by omega), if_neg (by omega), if_neg g3]
          exact w2
-- taken: KINDS
def kdN (o : Nat) : Nat := if o = 0 then 1 else if o = 3 then 3 else if o = 4 then 4 else if o < 6 then 2 else if o < 8 then 5 else 6
theorem kind_c {S : St} {o : Nat} (h : o < 100) : f0_kindOf (zI o) S = some (zI (kdN o), S) := by
  unfold f0_kindOf kdN
  by_cases e0 : o = 0
  · rw [if_pos e0]; simp (disch := omega) only [sw_t, sw_f, sw_n, nI_z, zI_add, zI_sub, zI_mul, zI_m1, ckI_z, zI_clamp, Int.toNat_natCast, bnd_some, lt, rd_same, rd_ne, rdL_same, rdL_ne, wI_2, wL_1, if_true, if_false, iT_lt, iF_lt, iT_lt0, iF_lt0, iT_0lt, iF_0lt, iT_le, iF_le, iT_le0, iF_le0, iT_0le, iF_0le, iT_eq, iF_eq, iT_eq0, iF_eq0]
  rw [if_neg e0]
  by_cases e3 : o = 3
  · rw [if_pos e3]; simp (disch := omega) only [sw_t, sw_f, sw_n, nI_z, zI_add, zI_sub, zI_mul, zI_m1, ckI_z, zI_clamp, Int.toNat_natCast, bnd_some, lt, rd_same, rd_ne, rdL_same, rdL_ne, wI_2, wL_1, if_true, if_false, iT_lt, iF_lt, iT_lt0, iF_lt0, iT_0lt, iF_0lt, iT_le, iF_le, iT_le0, iF_le0, iT_0le, iF_0le, iT_eq, iF_eq, iT_eq0, iF_eq0]
  rw [if_neg e3]
  by_cases e4 : o = 4
  · rw [if_pos e4]; simp (disch := omega) only [sw_t, sw_f, sw_n, nI_z, zI_add, zI_sub, zI_mul, zI_m1, ckI_z, zI_clamp, Int.toNat_natCast, bnd_some, lt, rd_same, rd_ne, rdL_same, rdL_ne, wI_2, wL_1, if_true, if_false, iT_lt, iF_lt, iT_lt0, iF_lt0, iT_0lt, iF_0lt, iT_le, iF_le, iT_le0, iF_le0, iT_0le, iF_0le, iT_eq, iF_eq, iT_eq0, iF_eq0]
  rw [if_neg e4]
  by_cases e6 : o < 6
  · rw [if_pos e6]
    by_cases e1 : o = 1
    · simp (disch := omega) only [sw_t, sw_f, sw_n, nI_z, zI_add, zI_sub, zI_mul, zI_m1, ckI_z, zI_clamp, Int.toNat_natCast, bnd_some, lt, rd_same, rd_ne, rdL_same, rdL_ne, wI_2, wL_1, if_true, if_false, iT_lt, iF_lt, iT_lt0, iF_lt0, iT_0lt, iF_0lt, iT_le, iF_le, iT_le0, iF_le0, iT_0le, iF_0le, iT_eq, iF_eq, iT_eq0, iF_eq0]
    by_cases e2 : o = 2
    · simp (disch := omega) only [sw_t, sw_f, sw_n, nI_z, zI_add, zI_sub, zI_mul, zI_m1, ckI_z, zI_clamp, Int.toNat_natCast, bnd_some, lt, rd_same, rd_ne, rdL_same, rdL_ne, wI_2, wL_1, if_true, if_false, iT_lt, iF_lt, iT_lt0, iF_lt0, iT_0lt, iF_0lt, iT_le, iF_le, iT_le0, iF_le0, iT_0le, iF_0le, iT_eq, iF_eq, iT_eq0, iF_eq0]
    · simp (disch := omega) only [sw_t, sw_f, sw_n, nI_z, zI_add, zI_sub, zI_mul, zI_m1, ckI_z, zI_clamp, Int.toNat_natCast, bnd_some, lt, rd_same, rd_ne, rdL_same, rdL_ne, wI_2, wL_1, if_true, if_false, iT_lt, iF_lt, iT_lt0, iF_lt0, iT_0lt, iF_0lt, iT_le, iF_le, iT_le0, iF_le0, iT_0le, iF_0le, iT_eq, iF_eq, iT_eq0, iF_eq0]
  rw [if_neg e6]
  by_cases e8 : o < 8
  · rw [if_pos e8]
    by_cases e7 : o = 6
    · simp (disch := omega) only [sw_t, sw_f, sw_n, nI_z, zI_add, zI_sub, zI_mul, zI_m1, ckI_z, zI_clamp, Int.toNat_natCast, bnd_some, lt, rd_same, rd_ne, rdL_same, rdL_ne, wI_2, wL_1, if_true, if_false, iT_lt, iF_lt, iT_lt0, iF_lt0, iT_0lt, iF_0lt, iT_le, iF_le, iT_le0, iF_le0, iT_0le, iF_0le, iT_eq, iF_eq, iT_eq0, iF_eq0]
    · simp (disch := omega) only [sw_t, sw_f, sw_n, nI_z, zI_add, zI_sub, zI_mul, zI_m1, ckI_z, zI_clamp, Int.toNat_natCast, bnd_some, lt, rd_same, rd_ne, rdL_same, rdL_ne, wI_2, wL_1, if_true, if_false, iT_lt, iF_lt, iT_lt0, iF_lt0, iT_0lt, iF_0lt, iT_le, iF_le, iT_le0, iF_le0, iT_0le, iF_0le, iT_eq, iF_eq, iT_eq0, iF_eq0]
  · rw [if_neg e8]; simp (disch := omega) only [sw_t, sw_f, sw_n, nI_z, zI_add, zI_sub, zI_mul, zI_m1, ckI_z, zI_clamp, Int.toNat_natCast, bnd_some, lt, rd_same, rd_ne, rdL_same, rdL_ne, wI_2, wL_1, if_true, if_false, iT_lt, iF_lt, iT_lt0, iF_lt0, iT_0lt, iF_0lt, iT_le, iF_le, iT_le0, iF_le0, iT_0le, iF_0le, iT_eq, iF_eq, iT_eq0, iF_eq0]
theorem kind_m {S : St} {o : Nat} (h : o < 100) : f12_kindOf (zI o) S = some (zI (kdN o), S) := by
  unfold f12_kindOf kdN
  by_cases e0 : o = 0
  · rw [if_pos e0]; simp (disch := omega) only [nI_z, zI_add, zI_sub, zI_mul, zI_m1, ckI_z, zI_clamp, Int.toNat_natCast, bnd_some, lt, rd_same, rd_ne, rdL_same, rdL_ne, wI_2, wL_1, if_true, if_false, iT_lt, iF_lt, iT_lt0, iF_lt0, iT_0lt, iF_0lt, iT_le, iF_le, iT_le0, iF_le0, iT_0le, iF_0le, iT_eq, iF_eq, iT_eq0, iF_eq0]
  rw [if_neg e0]
  by_cases e3 : o = 3
  · rw [if_pos e3]; simp (disch := omega) only [nI_z, zI_add, zI_sub, zI_mul, zI_m1, ckI_z, zI_clamp, Int.toNat_natCast, bnd_some, lt, rd_same, rd_ne, rdL_same, rdL_ne, wI_2, wL_1, if_true, if_false, iT_lt, iF_lt, iT_lt0, iF_lt0, iT_0lt, iF_0lt, iT_le, iF_le, iT_le0, iF_le0, iT_0le, iF_0le, iT_eq, iF_eq, iT_eq0, iF_eq0]
  rw [if_neg e3]
  by_cases e4 : o = 4
  · rw [if_pos e4]; simp (disch := omega) only [nI_z, zI_add, zI_sub, zI_mul, zI_m1, ckI_z, zI_clamp, Int.toNat_natCast, bnd_some, lt, rd_same, rd_ne, rdL_same, rdL_ne, wI_2, wL_1, if_true, if_false, iT_lt, iF_lt, iT_lt0, iF_lt0, iT_0lt, iF_0lt, iT_le, iF_le, iT_le0, iF_le0, iT_0le, iF_0le, iT_eq, iF_eq, iT_eq0, iF_eq0]
  rw [if_neg e4]
  by_cases e6 : o < 6
  · rw [if_pos e6]; simp (disch := omega) only [nI_z, zI_add, zI_sub, zI_mul, zI_m1, ckI_z, zI_clamp, Int.toNat_natCast, bnd_some, lt, rd_same, rd_ne, rdL_same, rdL_ne, wI_2, wL_1, if_true, if_false, iT_lt, iF_lt, iT_lt0, iF_lt0, iT_0lt, iF_0lt, iT_le, iF_le, iT_le0, iF_le0, iT_0le, iF_0le, iT_eq, iF_eq, iT_eq0, iF_eq0]
  rw [if_neg e6]
  by_cases e8 : o < 8
  · rw [if_pos e8]; simp (disch := omega) only [nI_z, zI_add, zI_sub, zI_mul, zI_m1, ckI_z, zI_clamp, Int.toNat_natCast, bnd_some, lt, rd_same, rd_ne, rdL_same, rdL_ne, wI_2, wL_1, if_true, if_false, iT_lt, iF_lt, iT_lt0, iF_lt0, iT_0lt, iF_0lt, iT_le, iF_le, iT_le0, iF_le0, iT_0le, iF_0le, iT_eq, iF_eq, iT_eq0, iF_eq0]
  · rw [if_neg e8]; simp (disch := omega) only [nI_z, zI_add, zI_sub, zI_mul, zI_m1, ckI_z, zI_clamp, Int.toNat_natCast, bnd_some, lt, rd_same, rd_ne, rdL_same, rdL_ne, wI_2, wL_1, if_true, if_false, iT_lt, iF_lt, iT_lt0, iF_lt0, iT_0lt, iF_0lt, iT_le, iF_le, iT_le0, iF_le0, iT_0le, iF_0le, iT_eq, iF_eq, iT_eq0, iF_eq0]
theorem kdN_rng (o : Nat) : 1 ≤ kdN o ∧ kdN o ≤ 6 := by
  unfold kdN
  split
  · omega
  split
  · omega
  split
  · omega
  split
  · omega
  split <;> omega
