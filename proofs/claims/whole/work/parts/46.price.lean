/-! The calls price and translated. -/
theorem price_loop {N i j : Nat} {S : St} {g g2 : Lg} (hi : i < 6) (hj : j < 6) (hv : LV g) (hc : CL S (50 + 11 * i) g) (hm : ML S i g) (hv2 : LV g2) (hc2 : CL S (50 + 11 * j) g2) (hm2 : ML S j g2) : ∀ (m k f f2 : Nat) (z : Int), k + m = 8 → m < f → m < f2 → -6 ≤ z ∧ z ≤ 6 → ∃ r, f11_price_h43 N (50 + 11 * i) (50 + 11 * j) f (zI z) (zI k) S = some (r, S) ∧ f12_price_h26 N (zI i) (zI j) f2 (zI z) (zI k) S = some (r, S) := by
  have hgl := hv.len
  have hgl2 := hv2.len
  intro m
  induction m with
  | zero =>
    intro k f f2 z hk hf hf2 hz
    obtain ⟨f, rfl⟩ : ∃ z, f = z + 1 := ⟨f - 1, by omega⟩
    obtain ⟨f2, rfl⟩ : ∃ z, f2 = z + 1 := ⟨f2 - 1, by omega⟩
    refine ⟨zI z, ?_, ?_⟩
    · rw [f11_price_h43]; simp (disch := omega) only [nI_z, zI_add, zI_sub, zI_mul, zI_m1, ckI_z, zI_clamp, Int.toNat_natCast, bnd_some, lt, rd_same, rd_ne, rdL_same, rdL_ne, wI_2, wL_1, if_true, if_false, iT_lt, iF_lt, iT_lt0, iF_lt0, iT_0lt, iF_0lt, iT_le, iF_le, iT_le0, iF_le0, iT_0le, iF_0le, iT_eq, iF_eq, iT_eq0, iF_eq0]
    · rw [f12_price_h26]; simp (disch := omega) only [nI_z, zI_add, zI_sub, zI_mul, zI_m1, ckI_z, zI_clamp, Int.toNat_natCast, bnd_some, lt, rd_same, rd_ne, rdL_same, rdL_ne, wI_2, wL_1, if_true, if_false, iT_lt, iF_lt, iT_lt0, iF_lt0, iT_0lt, iF_0lt, iT_le, iF_le, iT_le0, iF_le0, iT_0le, iF_0le, iT_eq, iF_eq, iT_eq0, iF_eq0]
  | succ m ih =>
    intro k f f2 z hk hf hf2 hz
    obtain ⟨f, rfl⟩ : ∃ z, f = z + 1 := ⟨f - 1, by omega⟩
    obtain ⟨f2, rfl⟩ : ∃ z, f2 = z + 1 := ⟨f2 - 1, by omega⟩
    have b1 := f3_bitsOf_in hc hv (o := k) (by omega)
    have b2 := f3_bitsOf_in hc2 hv2 (o := k) (by omega)
    have m1 := hm.2.1 k (by omega)
    have m2 := hm2.2.1 k (by omega)
    have r1 := bit_pos hv k
    have r2 := bit_pos hv2 k
    have hz1 : zI ((k : Int) + ((1 : Nat) : Int)) = zI ((k + 1 : Nat) : Int) := rfl
    by_cases e : z < (bit g2 k : Int) - (bit g k : Int)
    · obtain ⟨r, q1, q2⟩ := ih (k + 1) f f2 ((bit g2 k : Int) - (bit g k : Int)) (by omega) (by omega) (by omega) (by omega)
      refine ⟨r, ?_, ?_⟩
      · have hmx : maxI (zI z) (zI ((bit g2 k : Int) - (bit g k : Int))) = zI ((bit g2 k : Int) - (bit g k : Int)) := by unfold maxI; simp (disch := omega) only [nI_z, zI_add, zI_sub, zI_mul, zI_m1, ckI_z, zI_clamp, Int.toNat_natCast, bnd_some, lt, rd_same, rd_ne, rdL_same, rdL_ne, wI_2, wL_1, if_true, if_false, iT_lt, iF_lt, iT_lt0, iF_lt0, iT_0lt, iF_0lt, iT_le, iF_le, iT_le0, iF_le0, iT_0le, iF_0le, iT_eq, iF_eq, iT_eq0, iF_eq0]
        rw [f11_price_h43]
        simp (disch := omega) only [b1, b2, hmx, hz1, nI_z, zI_add, zI_sub, zI_mul, zI_m1, ckI_z, zI_clamp, Int.toNat_natCast, bnd_some, lt, rd_same, rd_ne, rdL_same, rdL_ne, wI_2, wL_1, if_true, if_false, iT_lt, iF_lt, iT_lt0, iF_lt0, iT_0lt, iF_0lt, iT_le, iF_le, iT_le0, iF_le0, iT_0le, iF_0le, iT_eq, iF_eq, iT_eq0, iF_eq0]
        exact q1
      · rw [f12_price_h26]
        simp (disch := omega) only [pl12, m1, m2, f12_price_j72, hz1, nI_z, zI_add, zI_sub, zI_mul, zI_m1, ckI_z, zI_clamp, Int.toNat_natCast, bnd_some, lt, rd_same, rd_ne, rdL_same, rdL_ne, wI_2, wL_1, if_true, if_false, iT_lt, iF_lt, iT_lt0, iF_lt0, iT_0lt, iF_0lt, iT_le, iF_le, iT_le0, iF_le0, iT_0le, iF_0le, iT_eq, iF_eq, iT_eq0, iF_eq0]
        exact q2
    · obtain ⟨r, q1, q2⟩ := ih (k + 1) f f2 z (by omega) (by omega) (by omega) hz
      refine ⟨r, ?_, ?_⟩
      · have hmx : maxI (zI z) (zI ((bit g2 k : Int) - (bit g k : Int))) = zI z := by unfold maxI; simp (disch := omega) only [nI_z, zI_add, zI_sub, zI_mul, zI_m1, ckI_z, zI_clamp, Int.toNat_natCast, bnd_some, lt, rd_same, rd_ne, rdL_same, rdL_ne, wI_2, wL_1, if_true, if_false, iT_lt, iF_lt, iT_lt0, iF_lt0, iT_0lt, iF_0lt, iT_le, iF_le, iT_le0, iF_le0, iT_0le, iF_0le, iT_eq, iF_eq, iT_eq0, iF_eq0]
        rw [f11_price_h43]
        simp (disch := omega) only [b1, b2, hmx, hz1, nI_z, zI_add, zI_sub, zI_mul, zI_m1, ckI_z, zI_clamp, Int.toNat_natCast, bnd_some, lt, rd_same, rd_ne, rdL_same, rdL_ne, wI_2, wL_1, if_true, if_false, iT_lt, iF_lt, iT_lt0, iF_lt0, iT_0lt, iF_0lt, iT_le, iF_le, iT_le0, iF_le0, iT_0le, iF_0le, iT_eq, iF_eq, iT_eq0, iF_eq0]
        exact q1
      · rw [f12_price_h26]
        simp (disch := omega) only [pl12, m1, m2, f12_price_j72, hz1, nI_z, zI_add, zI_sub, zI_mul, zI_m1, ckI_z, zI_clamp, Int.toNat_natCast, bnd_some, lt, rd_same, rd_ne, rdL_same, rdL_ne, wI_2, wL_1, if_true, if_false, iT_lt, iF_lt, iT_lt0, iF_lt0, iT_0lt, iF_0lt, iT_le, iF_le, iT_le0, iF_le0, iT_0le, iF_0le, iT_eq, iF_eq, iT_eq0, iF_eq0]
        exact q2
theorem c_price {N : Nat} {S : St} {Ls : List Lg} (hN : 20 ≤ N) (h : Qlang S Ls) (x y : Int32) : ∃ r, f11_price N x y S = some (r, S) ∧ f12_price N x y S = some (r, S) := by
  have hv0 : ((-2000000000 : Int32)) = zI (-2000000000) := rfl
  rcases lang_cases h x with ⟨e1, e2⟩ | ⟨i, g, hg, rfl, hi, e1, e2, hv, hc, hm⟩
  · refine ⟨-2000000000, ?_, ?_⟩
    · unfold f11_price
      rw [e1, bnd_some]
      rcases lang_cases h y with ⟨d1, d2⟩ | ⟨j, g2, hg2, rfl, hj, d1, d2, hv2, hc2, hm2⟩
      · rw [d1]; rfl
      · rw [d1]; rfl
    · unfold f12_price; rw [e2]; rfl
  · have ha := ad3_in i hi
    rcases lang_cases h y with ⟨d1, d2⟩ | ⟨j, g2, hg2, rfl, hj, d1, d2, hv2, hc2, hm2⟩
    · refine ⟨-2000000000, ?_, ?_⟩
      · unfold f11_price; rw [e1, bnd_some, d1, bnd_some, ifN_some, ckA_in ha, ifN_none]
      · unfold f12_price; rw [e2]; simp only [bnd_some]; rw [if_neg (by decide), d2]; rfl
    · have ha2 := ad3_in j hj
      have hgl := hv.len
      have hgl2 := hv2.len
      have b1 := f3_bitsOf_in hc hv (o := 0) (by omega)
      have b2 := f3_bitsOf_in hc2 hv2 (o := 0) (by omega)
      have m1 := hm.2.1 0 (by omega)
      have m2 := hm2.2.1 0 (by omega)
      have r1 := bit_pos hv 0
      have r2 := bit_pos hv2 0
      obtain ⟨n, rfl⟩ : ∃ z, N = z + 1 := ⟨N - 1, by omega⟩
      obtain ⟨r, q1, q2⟩ := price_loop (N := n + 1) hi hj hv hc hm hv2 hc2 hm2 7 1 (n + 1) n ((bit g2 0 : Int) - (bit g 0 : Int)) (by omega) (by omega) (by omega) (by omega)
      refine ⟨r, ?_, ?_⟩
      · unfold f11_price
        simp (disch := omega) only [e1, d1, ifN_some, ckA_in ha, ckA_in ha2, b1, b2, nI_z, zI_add, zI_sub, zI_mul, zI_m1, ckI_z, zI_clamp, Int.toNat_natCast, bnd_some, lt, rd_same, rd_ne, rdL_same, rdL_ne, wI_2, wL_1, if_true, if_false, iT_lt, iF_lt, iT_lt0, iF_lt0, iT_0lt, iF_0lt, iT_le, iF_le, iT_le0, iF_le0, iT_0le, iF_0le, iT_eq, iF_eq, iT_eq0, iF_eq0]
        exact q1
      · have h6 : ((-6 : Int32)) = zI (-6) := rfl
        have hz0 : (((12 : Nat) : Int) * (j : Int) + ((0 : Nat) : Int)).toNat = 12 * j + 0 := by omega
        have hz1 : (((12 : Nat) : Int) * (i : Int) + ((0 : Nat) : Int)).toNat = 12 * i + 0 := by omega
        unfold f12_price
        rw [h6]
        simp (disch := omega) only [e2, d2, nI_z, zI_add, zI_sub, zI_mul, zI_m1, ckI_z, zI_clamp, Int.toNat_natCast, bnd_some, lt, rd_same, rd_ne, rdL_same, rdL_ne, wI_2, wL_1, if_true, if_false, iT_lt, iF_lt, iT_lt0, iF_lt0, iT_0lt, iF_0lt, iT_le, iF_le, iT_le0, iF_le0, iT_0le, iF_0le, iT_eq, iF_eq, iT_eq0, iF_eq0]
        rw [f12_price_h26]
        simp (disch := omega) only [hz0, hz1, m1, m2, f12_price_j72, nI_z, zI_add, zI_sub, zI_mul, zI_m1, ckI_z, zI_clamp, Int.toNat_natCast, bnd_some, lt, rd_same, rd_ne, rdL_same, rdL_ne, wI_2, wL_1, if_true, if_false, iT_lt, iF_lt, iT_lt0, iF_lt0, iT_0lt, iF_0lt, iT_le, iF_le, iT_le0, iF_le0, iT_0le, iF_0le, iT_eq, iF_eq, iT_eq0, iF_eq0]
        exact q2
theorem c_count {S : St} (x : Int32) (h : S.1 0 1 = S.1 146 6 ∧ S.1 0 9 = S.1 146 34 ∧ S.1 11 1 = S.1 146 30 ∧ S.1 24 1 = S.1 146 54 ∧ S.1 37 1 = S.1 146 57) : ∃ r, f11_count x S = some (r, S) ∧ f12_count x S = some (r, S) := by
  obtain ⟨h0, h1, h2, h3, h4⟩ := h
  have hx := xrng x
  rw [zI_of x]
  generalize x.toInt = z at hx
  by_cases z0 : z = 0
  · exact ⟨S.1 146 6, by unfold f11_count; simp (disch := omega) only [sw_t, sw_f, sw_n, h0, nI_z, zI_add, zI_sub, zI_mul, zI_m1, ckI_z, zI_clamp, Int.toNat_natCast, bnd_some, lt, rd_same, rd_ne, rdL_same, rdL_ne, wI_2, wL_1, if_true, if_false, iT_lt, iF_lt, iT_lt0, iF_lt0, iT_0lt, iF_0lt, iT_le, iF_le, iT_le0, iF_le0, iT_0le, iF_0le, iT_eq, iF_eq, iT_eq0, iF_eq0], by unfold f12_count; simp (disch := omega) only [sw_t, sw_f, sw_n, nI_z, zI_add, zI_sub, zI_mul, zI_m1, ckI_z, zI_clamp, Int.toNat_natCast, bnd_some, lt, rd_same, rd_ne, rdL_same, rdL_ne, wI_2, wL_1, if_true, if_false, iT_lt, iF_lt, iT_lt0, iF_lt0, iT_0lt, iF_0lt, iT_le, iF_le, iT_le0, iF_le0, iT_0le, iF_0le, iT_eq, iF_eq, iT_eq0, iF_eq0]⟩
  by_cases z1 : z = 1
  · exact ⟨S.1 146 34, by unfold f11_count; simp (disch := omega) only [sw_t, sw_f, sw_n, h1, nI_z, zI_add, zI_sub, zI_mul, zI_m1, ckI_z, zI_clamp, Int.toNat_natCast, bnd_some, lt, rd_same, rd_ne, rdL_same, rdL_ne, wI_2, wL_1, if_true, if_false, iT_lt, iF_lt, iT_lt0, iF_lt0, iT_0lt, iF_0lt, iT_le, iF_le, iT_le0, iF_le0, iT_0le, iF_0le, iT_eq, iF_eq, iT_eq0, iF_eq0], by unfold f12_count; simp (disch := omega) only [sw_t, sw_f, sw_n, nI_z, zI_add, zI_sub, zI_mul, zI_m1, ckI_z, zI_clamp, Int.toNat_natCast, bnd_some, lt, rd_same, rd_ne, rdL_same, rdL_ne, wI_2, wL_1, if_true, if_false, iT_lt, iF_lt, iT_lt0, iF_lt0, iT_0lt, iF_0lt, iT_le, iF_le, iT_le0, iF_le0, iT_0le, iF_0le, iT_eq, iF_eq, iT_eq0, iF_eq0]⟩
  by_cases z2 : z = 2
  · exact ⟨S.1 146 30, by unfold f11_count; simp (disch := omega) only [sw_t, sw_f, sw_n, f9_length, h2, nI_z, zI_add, zI_sub, zI_mul, zI_m1, ckI_z, zI_clamp, Int.toNat_natCast, bnd_some, lt, rd_same, rd_ne, rdL_same, rdL_ne, wI_2, wL_1, if_true, if_false, iT_lt, iF_lt, iT_lt0, iF_lt0, iT_0lt, iF_0lt, iT_le, iF_le, iT_le0, iF_le0, iT_0le, iF_0le, iT_eq, iF_eq, iT_eq0, iF_eq0], by unfold f12_count; simp (disch := omega) only [sw_t, sw_f, sw_n, nI_z, zI_add, zI_sub, zI_mul, zI_m1, ckI_z, zI_clamp, Int.toNat_natCast, bnd_some, lt, rd_same, rd_ne, rdL_same, rdL_ne, wI_2, wL_1, if_true, if_false, iT_lt, iF_lt, iT_lt0, iF_lt0, iT_0lt, iF_0lt, iT_le, iF_le, iT_le0, iF_le0, iT_0le, iF_0le, iT_eq, iF_eq, iT_eq0, iF_eq0]⟩
  by_cases z3 : z = 3
  · exact ⟨S.1 146 54, by unfold f11_count; simp (disch := omega) only [sw_t, sw_f, sw_n, f10_length, h3, nI_z, zI_add, zI_sub, zI_mul, zI_m1, ckI_z, zI_clamp, Int.toNat_natCast, bnd_some, lt, rd_same, rd_ne, rdL_same, rdL_ne, wI_2, wL_1, if_true, if_false, iT_lt, iF_lt, iT_lt0, iF_lt0, iT_0lt, iF_0lt, iT_le, iF_le, iT_le0, iF_le0, iT_0le, iF_0le, iT_eq, iF_eq, iT_eq0, iF_eq0], by unfold f12_count; simp (disch := omega) only [sw_t, sw_f, sw_n, nI_z, zI_add, zI_sub, zI_mul, zI_m1, ckI_z, zI_clamp, Int.toNat_natCast, bnd_some, lt, rd_same, rd_ne, rdL_same, rdL_ne, wI_2, wL_1, if_true, if_false, iT_lt, iF_lt, iT_lt0, iF_lt0, iT_0lt, iF_0lt, iT_le, iF_le, iT_le0, iF_le0, iT_0le, iF_0le, iT_eq, iF_eq, iT_eq0, iF_eq0]⟩
  by_cases z4 : z = 4
  · exact ⟨S.1 146 57, by unfold f11_count; simp (disch := omega) only [sw_t, sw_f, sw_n, f0_began, h4, nI_z, zI_add, zI_sub, zI_mul, zI_m1, ckI_z, zI_clamp, Int.toNat_natCast, bnd_some, lt, rd_same, rd_ne, rdL_same, rdL_ne, wI_2, wL_1, if_true, if_false, iT_lt, iF_lt, iT_lt0, iF_lt0, iT_0lt, iF_0lt, iT_le, iF_le, iT_le0, iF_le0, iT_0le, iF_0le, iT_eq, iF_eq, iT_eq0, iF_eq0], by unfold f12_count; simp (disch := omega) only [sw_t, sw_f, sw_n, nI_z, zI_add, zI_sub, zI_mul, zI_m1, ckI_z, zI_clamp, Int.toNat_natCast, bnd_some, lt, rd_same, rd_ne, rdL_same, rdL_ne, wI_2, wL_1, if_true, if_false, iT_lt, iF_lt, iT_lt0, iF_lt0, iT_0lt, iF_0lt, iT_le, iF_le, iT_le0, iF_le0, iT_0le, iF_0le, iT_eq, iF_eq, iT_eq0, iF_eq0]⟩
  · exact ⟨zI (-1), by unfold f11_count; simp (disch := omega) only [sw_t, sw_f, sw_n, nI_z, zI_add, zI_sub, zI_mul, zI_m1, ckI_z, zI_clamp, Int.toNat_natCast, bnd_some, lt, rd_same, rd_ne, rdL_same, rdL_ne, wI_2, wL_1, if_true, if_false, iT_lt, iF_lt, iT_lt0, iF_lt0, iT_0lt, iF_0lt, iT_le, iF_le, iT_le0, iF_le0, iT_0le, iF_0le, iT_eq, iF_eq, iT_eq0, iF_eq0], by unfold f12_count; simp (disch := omega) only [sw_t, sw_f, sw_n, nI_z, zI_add, zI_sub, zI_mul, zI_m1, ckI_z, zI_clamp, Int.toNat_natCast, bnd_some, lt, rd_same, rd_ne, rdL_same, rdL_ne, wI_2, wL_1, if_true, if_false, iT_lt, iF_lt, iT_lt0, iF_lt0, iT_0lt, iF_0lt, iT_le, iF_le, iT_le0, iF_le0, iT_0le, iF_0le, iT_eq, iF_eq, iT_eq0, iF_eq0]⟩
-- translated: the class's spare gets the written orders
theorem tr_push {S : St} {a x : Nat} {p : List Nat} (h : PR S a p) (hp : p.length = 12) : f6_push a (zI x) S = some (zI 0, S) := by
  have h1 := h.1
  rw [hp] at h1
  unfold f6_push
  simp (disch := omega) only [h1, nI_z, zI_add, zI_sub, zI_mul, zI_m1, ckI_z, zI_clamp, Int.toNat_natCast, bnd_some, lt, rd_same, rd_ne, rdL_same, rdL_ne, wI_2, wL_1, if_true, if_false, iT_lt, iF_lt, iT_lt0, iF_lt0, iT_0lt, iF_0lt, iT_le, iF_le, iT_le0, iF_le0, iT_0le, iF_0le, iT_eq, iF_eq, iT_eq0, iF_eq0]
  rfl
theorem tr_part {N a a4 o : Nat} {i : Int32} {g : Lg} (hg : LV g) (ha : 11 ≤ a) (ho : o < g.1.length) (k48 : Int32 → St → Option (Int32 × St)) : ∀ (m k n : Nat) (S : St) (u : List Nat), k + m = (wo g o).length → m < n → CL S a g → PR S 4 u →
    (u.length + m ≤ 12 → ∃ S2, f11_translated_h74 N a a4 i (zI o) k48 n (zI k) S = k48 (i + nI 1) S2 ∧ PR S2 4 (u ++ (wo g o).drop k) ∧ Same (rgP 4) S S2) ∧
    (12 < u.length + m → ∃ S2, f11_translated_h74 N a a4 i (zI o) k48 n (zI k) S = some (zI (-2), S2) ∧ Same (rgP 4) S S2) := by
  have hwl := wo_len hg ho
  intro m
  induction m with
  | zero =>
    intro k n S u hk hn hc hp
    obtain ⟨n, rfl⟩ : ∃ z, n = z + 1 := ⟨n - 1, by omega⟩
    have q := f3_wl hc hg ho
    refine ⟨fun hu => ⟨S, ?_, ?_, Same.rfl'⟩, fun hu => absurd hu (by have := hp.2.1; omega)⟩
    · rw [f11_translated_h74, q]
      simp only [bnd_some]
      rw [iT_le (by omega)]
    · rw [List.drop_eq_nil_of_le (by omega), List.append_nil]; exact hp
  | succ m ih =>
    intro k n S u hk hn hc hp
    obtain ⟨n, rfl⟩ : ∃ z, n = z + 1 := ⟨n - 1, by omega⟩
    have q := f3_wl hc hg ho
    have hlt : k < (wo g o).length := by omega
    have hr : (wo g o)[k]? = some (wo g o)[k] := List.getElem?_eq_getElem hlt
    have hxm : (wo g o)[k] < 8 := by
      have h2 := hg.1
      have hm := List.getElem_mem hlt
      generalize (wo g o)[k] = x at hm
      unfold wo at hm
      by_cases e : o < 8
      · rw [if_pos e, List.mem_singleton] at hm; omega
      · rw [if_neg e, List.getD_eq_getElem?_getD, List.getElem?_eq_getElem (by omega)] at hm
        have := (hg.2.2.2.2 _ (List.getElem_mem (by omega : o - 8 < g.2.length))).2.2 x hm
        omega
    rw [List.drop_eq_getElem_cons hlt]
    generalize (wo g o)[k] = x at hr hxm
    have q2 := f3_wr hc hg ho hr
    have hz1 : zI (k : Int) + nI 1 = zI ((k + 1 : Nat) : Int) := by rw [nI_z, zI_add]; rfl
    have h12 := hp.2.1
    by_cases hu : u.length = 12
    · have hpu := tr_push (x := x) hp hu
      refine ⟨fun h => absurd h (by omega), fun _ => ⟨S, ?_, Same.rfl'⟩⟩
      rw [f11_translated_h74]
      simp (disch := omega) only [q, q2, hpu, nI_z, zI_add, zI_sub, zI_mul, zI_m1, ckI_z, zI_clamp, Int.toNat_natCast, bnd_some, lt, rd_same, rd_ne, rdL_same, rdL_ne, wI_2, wL_1, if_true, if_false, iT_lt, iF_lt, iT_lt0, iF_lt0, iT_0lt, iF_0lt, iT_le, iF_le, iT_le0, iF_le0, iT_0le, iF_0le, iT_eq, iF_eq, iT_eq0, iF_eq0]
      rfl
    · obtain ⟨S1, e1, e2, e3⟩ := f6_push_ok hp (x := x) (by omega) (by omega)
      have hc1 := hc.same hg e3 (fun c k _ _ => by unfold rgP; omega)
      obtain ⟨i1, i2⟩ := ih (k + 1) n S1 (u ++ [x]) (by omega) (by omega) hc1 e2
      rw [List.append_assoc, List.singleton_append, List.length_append, List.length_singleton] at i1
      rw [List.length_append, List.length_singleton] at i2
      have step : f11_translated_h74 N a a4 i (zI o) k48 (n + 1) (zI k) S = f11_translated_h74 N a a4 i (zI o) k48 n (zI ((k + 1 : Nat) : Int)) S1 := by
        rw [f11_translated_h74]
        simp (disch := omega) only [q, q2, e1, nI_z, zI_add, zI_sub, zI_mul, zI_m1, ckI_z, zI_clamp, Int.toNat_natCast, bnd_some, lt, rd_same, rd_ne, rdL_same, rdL_ne, wI_2, wL_1, if_true, if_false, iT_lt, iF_lt, iT_lt0, iF_lt0, iT_0lt, iF_0lt, iT_le, iF_le, iT_le0, iF_le0, iT_0le, iF_0le, iT_eq, iF_eq, iT_eq0, iF_eq0]
        rfl
      refine ⟨fun h => ?_, fun h => ?_⟩
      · obtain ⟨S2, f1, f2, f3⟩ := i1 (by omega)
        exact ⟨S2, by rw [step]; exact f1, f2, e3.tr f3⟩
      · obtain ⟨S2, f1, f2⟩ := i2 (by omega)
        exact ⟨S2, by rw [step]; exact f1, e3.tr f2⟩
