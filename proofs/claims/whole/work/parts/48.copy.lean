/-! A new LANGUAGE begins as one that is there; sums before the codes are given. -/
theorem f3_bits_b {S : St} {a o : Nat} {g : Lg} (h : CB S a g) (hg : LV g) (ho : o < g.1.length) : f3_bitsOf a (zI o) S = some (zI (bit g o), S) := by
  have h1 := h.1
  have h2 := h.2.1 o ho
  have h3 := hg.len
  unfold f3_bitsOf
  simp (disch := omega) only [h1, h2, nI_z, zI_add, zI_sub, zI_mul, zI_m1, ckI_z, zI_clamp, Int.toNat_natCast, bnd_some, lt, rd_same, rd_ne, rdL_same, rdL_ne, wI_2, wL_1, if_true, if_false, iT_lt, iF_lt, iT_lt0, iF_lt0, iT_0lt, iF_0lt, iT_le, iF_le, iT_le0, iF_le0, iT_0le, iF_0le, iT_eq, iF_eq, iT_eq0, iF_eq0]
theorem f3_sum_b_loop {S : St} {a : Nat} {g : Lg} (N : Nat) (hc : CB S a g) (hg : LV g) : ∀ (m i n : Nat), i + m = g.1.length → m < n → f3_sum_h4 N a n (zI (lsum (g.1.take i))) (zI i) S = some (zI (lsum g.1), S) := by
  have h1 := hc.1
  have hgl := hg.len
  intro m
  induction m with
  | zero =>
    intro i n hi hn
    obtain ⟨n, rfl⟩ : ∃ z, n = z + 1 := ⟨n - 1, by omega⟩
    rw [List.take_of_length_le (by omega), f3_sum_h4]
    simp (disch := omega) only [h1, nI_z, zI_add, zI_sub, zI_mul, zI_m1, ckI_z, zI_clamp, Int.toNat_natCast, bnd_some, lt, rd_same, rd_ne, rdL_same, rdL_ne, wI_2, wL_1, if_true, if_false, iT_lt, iF_lt, iT_lt0, iF_lt0, iT_0lt, iF_0lt, iT_le, iF_le, iT_le0, iF_le0, iT_0le, iF_0le, iT_eq, iF_eq, iT_eq0, iF_eq0]
  | succ m ih =>
    intro i n hi hn
    obtain ⟨n, rfl⟩ : ∃ z, n = z + 1 := ⟨n - 1, by omega⟩
    have hlt : i < g.1.length := by omega
    have hr : g.1[i]? = some g.1[i] := List.getElem?_eq_getElem hlt
    have hbe : bit g i = g.1[i] := by unfold bit; rw [List.getD_eq_getElem?_getD, hr]; rfl
    have htk : g.1.take (i + 1) = g.1.take i ++ [g.1[i]] := by rw [List.take_add_one, hr]; rfl
    have hb := bit_pos hg i
    have hbi := f3_bits_b hc hg hlt
    have hls : lsum (g.1.take (i + 1)) = lsum (g.1.take i) + 2 ^ (6 - bit g i) := by
      rw [htk, hbe]
      unfold lsum
      rw [List.map_append, List.sum_append, List.map_cons, List.map_nil, List.sum_cons, List.sum_nil, Nat.add_zero]
    have hle := lsum_le (g.1.take (i + 1))
    rw [List.length_take] at hle
    have hsh := zI_shr (c := 64) (s := bit g i) (by omega) (by omega)
    rw [sh64 _ (by omega)] at hsh
    have ih1 := ih (i + 1) n (by omega) (by omega)
    rw [hls] at ih1
    rw [f3_sum_h4]
    simp (disch := omega) only [h1, hbi, hsh, nI_z, zI_add, zI_sub, zI_mul, zI_m1, ckI_z, zI_clamp, Int.toNat_natCast, bnd_some, lt, rd_same, rd_ne, rdL_same, rdL_ne, wI_2, wL_1, if_true, if_false, iT_lt, iF_lt, iT_lt0, iF_lt0, iT_0lt, iF_0lt, iT_le, iF_le, iT_le0, iF_le0, iT_0le, iF_0le, iT_eq, iF_eq, iT_eq0, iF_eq0]
    exact ih1
theorem f3_sum_b {S : St} {a N : Nat} {g : Lg} (hc : CB S a g) (hg : LV g) (hN : 13 ≤ N) : f3_sum N a S = some (zI (lsum g.1), S) := by
  have hgl := hg.len
  exact f3_sum_b_loop N hc hg g.1.length 0 N (by omega) (by omega)
theorem f12_sum_b_loop {S : St} {k : Nat} {g : Lg} (N : Nat) (hc : MB S k g) (hg : LV g) (hk : k < 6) : ∀ (m i n : Nat), i + m = g.1.length → m < n → f12_sumOf_h4 N (zI k) n (zI (lsum (g.1.take i))) (zI i) S = some (zI (lsum g.1), S) := by
  have hgl := hg.len
  intro m
  induction m with
  | zero =>
    intro i n hi hn
    obtain ⟨n, rfl⟩ : ∃ z, n = z + 1 := ⟨n - 1, by omega⟩
    rw [List.take_of_length_le (by omega), f12_sumOf_h4]
    simp (disch := omega) only [f12_ordersOf_in hc.1 hg hk, nI_z, zI_add, zI_sub, zI_mul, zI_m1, ckI_z, zI_clamp, Int.toNat_natCast, bnd_some, lt, rd_same, rd_ne, rdL_same, rdL_ne, wI_2, wL_1, if_true, if_false, iT_lt, iF_lt, iT_lt0, iF_lt0, iT_0lt, iF_0lt, iT_le, iF_le, iT_le0, iF_le0, iT_0le, iF_0le, iT_eq, iF_eq, iT_eq0, iF_eq0]
  | succ m ih =>
    intro i n hi hn
    obtain ⟨n, rfl⟩ : ∃ z, n = z + 1 := ⟨n - 1, by omega⟩
    have hlt : i < g.1.length := by omega
    have hr : g.1[i]? = some g.1[i] := List.getElem?_eq_getElem hlt
    have hbe : bit g i = g.1[i] := by unfold bit; rw [List.getD_eq_getElem?_getD, hr]; rfl
    have htk : g.1.take (i + 1) = g.1.take i ++ [g.1[i]] := by rw [List.take_add_one, hr]; rfl
    have hb := bit_pos hg i
    have h2 := hc.2 i hlt
    have hls : lsum (g.1.take (i + 1)) = lsum (g.1.take i) + 2 ^ (6 - bit g i) := by
      rw [htk, hbe]
      unfold lsum
      rw [List.map_append, List.sum_append, List.map_cons, List.map_nil, List.sum_cons, List.sum_nil, Nat.add_zero]
    have hle := lsum_le (g.1.take (i + 1))
    rw [List.length_take] at hle
    have hsh := zI_shr (c := 64) (s := bit g i) (by omega) (by omega)
    rw [sh64 _ (by omega)] at hsh
    have ih1 := ih (i + 1) n (by omega) (by omega)
    rw [hls] at ih1
    rw [f12_sumOf_h4]
    simp (disch := omega) only [f12_ordersOf_in hc.1 hg hk, pl12, h2, hsh, nI_z, zI_add, zI_sub, zI_mul, zI_m1, ckI_z, zI_clamp, Int.toNat_natCast, bnd_some, lt, rd_same, rd_ne, rdL_same, rdL_ne, wI_2, wL_1, if_true, if_false, iT_lt, iF_lt, iT_lt0, iF_lt0, iT_0lt, iF_0lt, iT_le, iF_le, iT_le0, iF_le0, iT_0le, iF_0le, iT_eq, iF_eq, iT_eq0, iF_eq0]
    exact ih1
theorem f12_sum_b {S : St} {k N : Nat} {g : Lg} (hc : MB S k g) (hg : LV g) (hk : k < 6) (hN : 13 ≤ N) : f12_sumOf N (zI k) S = some (zI (lsum g.1), S) := by
  have hgl := hg.len
  exact f12_sum_b_loop N hc hg hk g.1.length 0 N (by omega) (by omega)
-- the class: beLike
def blP (a c k : Nat) : Prop := (c = a ∧ k = 0) ∨ c = a + 1 ∨ (a + 5 ≤ c ∧ c ≤ a + 9)
theorem like_parts {N a0 a1 : Nat} (ha : a0 + 11 ≤ a1 ∨ a1 + 11 ≤ a0) : ∀ (m i n : Nat) (S : St), i + m = 4 → m < n → ∃ S2, f3_beLike_h42 N a0 a1 n (zI i) S = some ((), S2) ∧ (∀ j k, i ≤ j → j < 4 → k < 4 → S2.1 (a0 + 5 + j) k = S.1 (a1 + 5 + j) k) ∧ Same (fun c _ => a0 + 5 + i ≤ c ∧ c ≤ a0 + 8) S S2 := by
  intro m
  induction m with
  | zero =>
    intro i n S hi hn
    obtain ⟨n, rfl⟩ : ∃ z, n = z + 1 := ⟨n - 1, by omega⟩
    obtain rfl : i = 4 := by omega
    refine ⟨S, ?_, fun j k h1 h2 => by omega, Same.rfl'⟩
    rw [f3_beLike_h42]
    simp (disch := omega) only [nI_z, zI_add, zI_sub, zI_mul, zI_m1, ckI_z, zI_clamp, Int.toNat_natCast, bnd_some, lt, rd_same, rd_ne, rdL_same, rdL_ne, wI_2, wL_1, if_true, if_false, iT_lt, iF_lt, iT_lt0, iF_lt0, iT_0lt, iF_0lt, iT_le, iF_le, iT_le0, iF_le0, iT_0le, iF_0le, iT_eq, iF_eq, iT_eq0, iF_eq0]
  | succ m ih =>
    intro i n S hi hn
    obtain ⟨n, rfl⟩ : ∃ z, n = z + 1 := ⟨n - 1, by omega⟩
    have hs : Same (fun c _ => c = a0 + 5 + i) S (cpI S (a1 + 5 + i) 0 (a0 + 5 + i) 0 4) := Same.cp (Same.rfl' (P := fun c _ => c = a0 + 5 + i)) (fun k _ _ => rfl)
    obtain ⟨S2, g1, g2, g3⟩ := ih (i + 1) n (cpI S (a1 + 5 + i) 0 (a0 + 5 + i) 0 4) (by omega) (by omega)
    refine ⟨S2, ?_, fun j k h1 h2 h3 => ?_, (hs.mono (fun c k z => by omega)).tr (g3.mono (fun c k z => by omega))⟩
    · rw [f3_beLike_h42]
      simp (disch := omega) only [ckC_ok, nI_z, zI_add, zI_sub, zI_mul, zI_m1, ckI_z, zI_clamp, Int.toNat_natCast, bnd_some, lt, rd_same, rd_ne, rdL_same, rdL_ne, wI_2, wL_1, if_true, if_false, iT_lt, iF_lt, iT_lt0, iF_lt0, iT_0lt, iF_0lt, iT_le, iF_le, iT_le0, iF_le0, iT_0le, iF_0le, iT_eq, iF_eq, iT_eq0, iF_eq0]
      exact g1
    · by_cases e : j = i
      · subst e
        rw [g3.i (by omega), cp_in (by omega), show 0 + (k - 0) = k by omega]
      · rw [g2 j k (by omega) h2 h3, cp_out (by omega)]
theorem like_ok {N a0 a1 : Nat} {S : St} {g : Lg} (hN : 20 ≤ N) (ha : a0 + 11 ≤ a1 ∨ a1 + 11 ≤ a0) (hg : LV g) (hc : CL S a1 g) : ∃ S2, f3_beLike N a0 a1 S = some ((), S2) ∧ CB S2 a0 g ∧ Same (blP a0) S S2 := by
  have hgl := hg.len
  have hg1 := hg.1
  have hg2 := hg.2.1
  obtain ⟨c0, c1, c2, c3, c4, c5⟩ := hc
  have s1 : Same (blP a0) S (cpI (cpI (wI S a0 0 (zI g.1.length)) (a1 + 1) 0 (a0 + 1) 0 12) (a1 + 9) 0 (a0 + 9) 0 4) := Same.cp (Same.cp ((Same.rfl' (P := blP a0)).wI (by unfold blP; omega)) (fun k _ _ => by unfold blP; omega)) (fun k _ _ => by unfold blP; omega)
  have v0 : (cpI (cpI (wI S a0 0 (zI g.1.length)) (a1 + 1) 0 (a0 + 1) 0 12) (a1 + 9) 0 (a0 + 9) 0 4).1 a0 0 = zI g.1.length := by rw [cp_out (by omega), cp_out (by omega)]; simp (disch := omega) only [nI_z, zI_add, zI_sub, zI_mul, zI_m1, ckI_z, zI_clamp, Int.toNat_natCast, bnd_some, lt, rd_same, rd_ne, rdL_same, rdL_ne, wI_2, wL_1, if_true, if_false, iT_lt, iF_lt, iT_lt0, iF_lt0, iT_0lt, iF_0lt, iT_le, iF_le, iT_le0, iF_le0, iT_0le, iF_0le, iT_eq, iF_eq, iT_eq0, iF_eq0]
  have v1 : ∀ o, o < 12 → (cpI (cpI (wI S a0 0 (zI g.1.length)) (a1 + 1) 0 (a0 + 1) 0 12) (a1 + 9) 0 (a0 + 9) 0 4).1 (a0 + 1) o = S.1 (a1 + 1) o := fun o ho => by
    rw [cp_out (by omega), cp_in (by omega), rd_ne (by omega), show 0 + (o - 0) = o by omega]
  have v9 : ∀ o, o < 4 → (cpI (cpI (wI S a0 0 (zI g.1.length)) (a1 + 1) 0 (a0 + 1) 0 12) (a1 + 9) 0 (a0 + 9) 0 4).1 (a0 + 9) o = S.1 (a1 + 9) o := fun o ho => by
    rw [cp_in (by omega), cp_out (by omega), rd_ne (by omega), show 0 + (o - 0) = o by omega]
  have v5 : ∀ c k, a1 + 5 ≤ c → c ≤ a1 + 8 → (cpI (cpI (wI S a0 0 (zI g.1.length)) (a1 + 1) 0 (a0 + 1) 0 12) (a1 + 9) 0 (a0 + 9) 0 4).1 c k = S.1 c k := fun c k h1 h2 => by
    rw [cp_out (by omega), cp_out (by omega), rd_ne (by omega)]
  have e1 : ∀ S1, cpI (cpI (wI S a0 0 (zI g.1.length)) (a1 + 1) 0 (a0 + 1) 0 12) (a1 + 9) 0 (a0 + 9) 0 4 = S1 → f3_beLike N a0 a1 S = f3_beLike_h42 N a0 a1 N (zI ((0 : Nat) : Int)) S1 := fun S1 q => by
    rw [← q]
    unfold f3_beLike
    simp (disch := omega) only [ckC_ok, c0, nI_z, zI_add, zI_sub, zI_mul, zI_m1, ckI_z, zI_clamp, Int.toNat_natCast, bnd_some, lt, rd_same, rd_ne, rdL_same, rdL_ne, wI_2, wL_1, if_true, if_false, iT_lt, iF_lt, iT_lt0, iF_lt0, iT_0lt, iF_0lt, iT_le, iF_le, iT_le0, iF_le0, iT_0le, iF_0le, iT_eq, iF_eq, iT_eq0, iF_eq0]
  generalize hS1 : cpI (cpI (wI S a0 0 (zI g.1.length)) (a1 + 1) 0 (a0 + 1) 0 12) (a1 + 9) 0 (a0 + 9) 0 4 = S1 at s1 v0 v1 v9 v5
  obtain ⟨S2, b1, b2, b3⟩ := like_parts (N := N) ha 4 0 N S1 (by omega) (by omega)
  refine ⟨S2, by rw [e1 S1 hS1]; exact b1, ⟨by rw [b3.i (by omega)]; exact v0, fun o ho => by rw [b3.i (by omega), v1 o (by omega)]; exact c1 o ho, fun i q hi => ?_⟩, s1.tr (b3.mono (fun c k z => by unfold blP; omega))⟩
  have hl := (List.getElem?_eq_some_iff.mp hi).1
  have hq := hg.2.2.2.2 q (List.mem_of_getElem? hi)
  obtain ⟨d1, d2⟩ := c4 i q hi
  refine ⟨by rw [b3.i (by omega), v9 i (by omega)]; exact d1, fun k x hk => ?_⟩
  have hkl := (List.getElem?_eq_some_iff.mp hk).1
  rw [Nat.zero_add, b2 i k (by omega) (by omega) (by omega), v5 _ _ (by omega) (by omega)]
  have := d2 k x hk
  rw [Nat.zero_add] at this
  exact this
