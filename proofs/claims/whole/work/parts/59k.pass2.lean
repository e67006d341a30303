/-! The class's stack is the list of values. -/
def SK (S : St) (a : Nat) (st : List Int32) : Prop := st.length ≤ 60 ∧ S.1 a 4 = zI st.length ∧ ∀ i x, st[i]? = some x → S.1 (a + 2) (st.length - 1 - i) = x
def skP (a c k : Nat) : Prop := (c = a ∧ k = 4) ∨ c = a + 2
theorem push_k {S : St} {a : Nat} {st : List Int32} (h : SK S a st) (hl : st.length < 60) (x : Int32) : ∃ S2, f1_push a x S = some ((), S2) ∧ SK S2 a (x :: st) ∧ Same (skP a) S S2 := by
  obtain ⟨h1, h2, h3⟩ := h
  have hs : Same (skP a) S (wI (wI S (a + 2) st.length x) a 4 (zI ((st.length : Int) + ((1 : Nat) : Int)))) := (Same.rfl' (P := skP a)) |>.wI (by unfold skP; omega) |>.wI (by unfold skP; omega)
  refine ⟨_, ?_, ⟨by rw [List.length_cons]; omega, by rw [List.length_cons, rd_same]; rfl, fun i y hi => ?_⟩, hs⟩
  · unfold f1_push
    simp (disch := omega) only [h2, nI_z, zI_add, zI_sub, zI_mul, zI_m1, ckI_z, zI_clamp, Int.toNat_natCast, bnd_some, lt, rd_same, rd_ne, rdL_same, rdL_ne, wI_2, wL_1, if_true, if_false, iT_lt, iF_lt, iT_lt0, iF_lt0, iT_0lt, iF_0lt, iT_le, iF_le, iT_le0, iF_le0, iT_0le, iF_0le, iT_eq, iF_eq, iT_eq0, iF_eq0]
  · rw [List.length_cons]
    cases i with
    | zero =>
      have hi : some x = some y := hi
      injection hi with hi
      rw [rd_ne (by omega), show st.length + 1 - 1 - 0 = st.length by omega, rd_same, hi]
    | succ i =>
      have hi : st[i]? = some y := hi
      have hlt := (List.getElem?_eq_some_iff.mp hi).1
      rw [rd_ne (by omega), rd_ne (by omega), show st.length + 1 - 1 - (i + 1) = st.length - 1 - i by omega]
      exact h3 i y hi
theorem pop_k {S : St} {a : Nat} {st : List Int32} {x : Int32} (h : SK S a (x :: st)) : ∃ S2, f1_pop a S = some (x, S2) ∧ SK S2 a st ∧ Same (skP a) S S2 := by
  obtain ⟨h1, h2, h3⟩ := h
  rw [List.length_cons] at h1 h2 h3
  have h0 := h3 0 x rfl
  rw [show st.length + 1 - 1 - 0 = st.length by omega] at h0
  have hs : Same (skP a) S (wI S a 4 (zI (st.length : Int))) := (Same.rfl' (P := skP a)) |>.wI (by unfold skP; omega)
  have hz : ((st.length + 1 : Nat) : Int) - ((1 : Nat) : Int) = (st.length : Int) := by omega
  refine ⟨wI S a 4 (zI (st.length : Int)), ?_, ⟨by omega, rd_same, fun i y hi => ?_⟩, hs⟩
  · unfold f1_pop
    simp (disch := omega) only [h2, hz, h0, nI_z, zI_add, zI_sub, zI_mul, zI_m1, ckI_z, zI_clamp, Int.toNat_natCast, bnd_some, lt, rd_same, rd_ne, rdL_same, rdL_ne, wI_2, wL_1, if_true, if_false, iT_lt, iF_lt, iT_lt0, iF_lt0, iT_0lt, iF_0lt, iT_le, iF_le, iT_le0, iF_le0, iT_0le, iF_0le, iT_eq, iF_eq, iT_eq0, iF_eq0]
  · have hlt := (List.getElem?_eq_some_iff.mp hi).1
    have := h3 (i + 1) y hi
    rw [rd_ne (by omega), show st.length - 1 - i = st.length + 1 - 1 - (i + 1) by omega]
    exact this
/-- the class's machine after a run -/
def MV (S : St) (m : Mc) : Prop := m.2.2.2.1.length ≤ 8 ∧ S.1 6 3 = zI m.1 ∧ S.1 6 4 = zI m.2.1 ∧ S.1 6 8 = zI m.2.2.2.1.length ∧ Held (S.1 8) 0 m.2.2.2.1
theorem saidAt_in {S : St} {m : Mc} (h : MV S m) {i x : Nat} (hi : m.2.2.2.1[i]? = some x) : f4_saidAt (zI i) S = some (zI x, S) := by
  obtain ⟨h1, h2, h3, h4, h5⟩ := h
  have hlt := (List.getElem?_eq_some_iff.mp hi).1
  have := h5 i x hi
  rw [Nat.zero_add] at this
  unfold f4_saidAt
  simp (disch := omega) only [h4, this, nI_z, zI_add, zI_sub, zI_mul, zI_m1, ckI_z, zI_clamp, Int.toNat_natCast, bnd_some, lt, rd_same, rd_ne, rdL_same, rdL_ne, wI_2, wL_1, if_true, if_false, iT_lt, iF_lt, iT_lt0, iF_lt0, iT_0lt, iF_0lt, iT_le, iF_le, iT_le0, iF_le0, iT_0le, iF_0le, iT_eq, iF_eq, iT_eq0, iF_eq0]
theorem saidAt_out {S : St} {m : Mc} (h : MV S m) {z : Int} (hz : -1 ≤ z ∧ z ≤ 8 ∧ (z < 0 ∨ m.2.2.2.1.length ≤ z)) : f4_saidAt (zI z) S = some (zI (-1), S) := by
  obtain ⟨h1, h2, h3, h4, h5⟩ := h
  unfold f4_saidAt
  by_cases e : z < 0
  · simp (disch := omega) only [h4, nI_z, zI_add, zI_sub, zI_mul, zI_m1, ckI_z, zI_clamp, Int.toNat_natCast, bnd_some, lt, rd_same, rd_ne, rdL_same, rdL_ne, wI_2, wL_1, if_true, if_false, iT_lt, iF_lt, iT_lt0, iF_lt0, iT_0lt, iF_0lt, iT_le, iF_le, iT_le0, iF_le0, iT_0le, iF_0le, iT_eq, iF_eq, iT_eq0, iF_eq0]
  · simp (disch := omega) only [h4, nI_z, zI_add, zI_sub, zI_mul, zI_m1, ckI_z, zI_clamp, Int.toNat_natCast, bnd_some, lt, rd_same, rd_ne, rdL_same, rdL_ne, wI_2, wL_1, if_true, if_false, iT_lt, iF_lt, iT_lt0, iF_lt0, iT_0lt, iF_0lt, iT_le, iF_le, iT_le0, iF_le0, iT_0le, iF_0le, iT_eq, iF_eq, iT_eq0, iF_eq0]
theorem saidSum_k {N : Nat} {S : St} {m : Mc} (h : MV S m) : ∀ (k i n : Nat), i + k = m.2.2.2.1.length → k < n → f4_saidSum_h4 N n (zI (m.2.2.2.1.take i).sum) (zI i) S = some (zI m.2.2.2.1.sum, S) := by
  have h1 := h.1
  have h4 := h.2.2.2.1
  intro k
  induction k with
  | zero =>
    intro i n hi hn
    obtain ⟨n, rfl⟩ : ∃ z, n = z + 1 := ⟨n - 1, by omega⟩
    rw [List.take_of_length_le (by omega), f4_saidSum_h4]
    simp (disch := omega) only [h4, nI_z, zI_add, zI_sub, zI_mul, zI_m1, ckI_z, zI_clamp, Int.toNat_natCast, bnd_some, lt, rd_same, rd_ne, rdL_same, rdL_ne, wI_2, wL_1, if_true, if_false, iT_lt, iF_lt, iT_lt0, iF_lt0, iT_0lt, iF_0lt, iT_le, iF_le, iT_le0, iF_le0, iT_0le, iF_0le, iT_eq, iF_eq, iT_eq0, iF_eq0]
  | succ k ih =>
    intro i n hi hn
    obtain ⟨n, rfl⟩ : ∃ z, n = z + 1 := ⟨n - 1, by omega⟩
    have hr : m.2.2.2.1[i]? = some m.2.2.2.1[i] := List.getElem?_eq_getElem (by omega)
    have htk : m.2.2.2.1.take (i + 1) = m.2.2.2.1.take i ++ [m.2.2.2.1[i]] := by rw [List.take_add_one, hr]; rfl
    have ih1 := ih (i + 1) n (by omega) (by omega)
    generalize m.2.2.2.1[i] = y at hr htk
    have hsa := saidAt_in h hr
    rw [htk, List.sum_append, List.sum_cons, List.sum_nil, Nat.add_zero] at ih1
    rw [f4_saidSum_h4]
    simp (disch := omega) only [h4, hsa, nI_z, zI_add, zI_sub, zI_mul, zI_m1, ckI_z, zI_clamp, Int.toNat_natCast, bnd_some, lt, rd_same, rd_ne, rdL_same, rdL_ne, wI_2, wL_1, if_true, if_false, iT_lt, iF_lt, iT_lt0, iF_lt0, iT_0lt, iF_0lt, iT_le, iF_le, iT_le0, iF_le0, iT_0le, iF_0le, iT_eq, iF_eq, iT_eq0, iF_eq0]
    exact ih1
theorem value_k {N a c x : Nat} {S : St} {m : Mc} (hN : 20 ≤ N) (h : MV S m) (hx : S.1 a 2 = zI x) (hc : isN c) : f1_valueOf N a (zI c) S = some (vn m x c, S) := by
  have h' := h
  obtain ⟨h1, h2, h3, h4, h5⟩ := h
  unfold isN at hc
  rcases hc with rfl | rfl | rfl | rfl | rfl | rfl | rfl
  · have e : vn m x 110 = zI m.2.2.2.1.length := rfl
    rw [e]
    unfold f1_valueOf f4_saidCount
    simp (disch := omega) only [sw_t, sw_f, sw_n, h4, nI_z, zI_add, zI_sub, zI_mul, zI_m1, ckI_z, zI_clamp, Int.toNat_natCast, bnd_some, lt, rd_same, rd_ne, rdL_same, rdL_ne, wI_2, wL_1, if_true, if_false, iT_lt, iF_lt, iT_lt0, iF_lt0, iT_0lt, iF_0lt, iT_le, iF_le, iT_le0, iF_le0, iT_0le, iF_0le, iT_eq, iF_eq, iT_eq0, iF_eq0]
  · have e : vn m x 102 = (match m.2.2.2.1.head? with | some y => zI y | none => zI (-1)) := rfl
    rw [e]
    by_cases hl : m.2.2.2.1.length = 0
    · have hn : m.2.2.2.1 = [] := List.length_eq_zero_iff.mp hl
      have hh : m.2.2.2.1.head? = none := by rw [hn]; rfl
      have hs := saidAt_out h' (z := ((0 : Nat) : Int)) (by omega)
      rw [hh]
      unfold f1_valueOf
      simp (disch := omega) only [sw_t, sw_f, sw_n, hs, nI_z, zI_add, zI_sub, zI_mul, zI_m1, ckI_z, zI_clamp, Int.toNat_natCast, bnd_some, lt, rd_same, rd_ne, rdL_same, rdL_ne, wI_2, wL_1, if_true, if_false, iT_lt, iF_lt, iT_lt0, iF_lt0, iT_0lt, iF_0lt, iT_le, iF_le, iT_le0, iF_le0, iT_0le, iF_0le, iT_eq, iF_eq, iT_eq0, iF_eq0]
    · have hr := List.getElem?_eq_getElem (l := m.2.2.2.1) (i := 0) (by omega)
      have hh : m.2.2.2.1.head? = some m.2.2.2.1[0] := by rw [List.head?_eq_getElem?, hr]
      have hs := saidAt_in h' hr
      rw [hh]
      unfold f1_valueOf
      simp (disch := omega) only [sw_t, sw_f, sw_n, hs, nI_z, zI_add, zI_sub, zI_mul, zI_m1, ckI_z, zI_clamp, Int.toNat_natCast, bnd_some, lt, rd_same, rd_ne, rdL_same, rdL_ne, wI_2, wL_1, if_true, if_false, iT_lt, iF_lt, iT_lt0, iF_lt0, iT_0lt, iF_0lt, iT_le, iF_le, iT_le0, iF_le0, iT_0le, iF_0le, iT_eq, iF_eq, iT_eq0, iF_eq0]
  · have e : vn m x 108 = (match m.2.2.2.1.getLast? with | some y => zI y | none => zI (-1)) := rfl
    rw [e]
    by_cases hl : m.2.2.2.1.length = 0
    · have hn : m.2.2.2.1 = [] := List.length_eq_zero_iff.mp hl
      have hh : m.2.2.2.1.getLast? = none := by rw [hn]; rfl
      have hs := saidAt_out h' (z := ((m.2.2.2.1.length : Nat) : Int) - ((1 : Nat) : Int)) (by omega)
      rw [hh]
      unfold f1_valueOf f4_saidCount
      simp (disch := omega) only [sw_t, sw_f, sw_n, h4, hs, nI_z, zI_add, zI_sub, zI_mul, zI_m1, ckI_z, zI_clamp, Int.toNat_natCast, bnd_some, lt, rd_same, rd_ne, rdL_same, rdL_ne, wI_2, wL_1, if_true, if_false, iT_lt, iF_lt, iT_lt0, iF_lt0, iT_0lt, iF_0lt, iT_le, iF_le, iT_le0, iF_le0, iT_0le, iF_0le, iT_eq, iF_eq, iT_eq0, iF_eq0]
    · have hr := List.getElem?_eq_getElem (l := m.2.2.2.1) (i := m.2.2.2.1.length - 1) (by omega)
      have hh : m.2.2.2.1.getLast? = some m.2.2.2.1[m.2.2.2.1.length - 1] := by rw [List.getLast?_eq_getElem?, hr]
      have hs := saidAt_in h' hr
      have hz : ((m.2.2.2.1.length : Nat) : Int) - ((1 : Nat) : Int) = ((m.2.2.2.1.length - 1 : Nat) : Int) := by omega
      rw [hh]
      unfold f1_valueOf f4_saidCount
      simp (disch := omega) only [sw_t, sw_f, sw_n, h4, hz, hs, nI_z, zI_add, zI_sub, zI_mul, zI_m1, ckI_z, zI_clamp, Int.toNat_natCast, bnd_some, lt, rd_same, rd_ne, rdL_same, rdL_ne, wI_2, wL_1, if_true, if_false, iT_lt, iF_lt, iT_lt0, iF_lt0, iT_0lt, iF_0lt, iT_le, iF_le, iT_le0, iF_le0, iT_0le, iF_0le, iT_eq, iF_eq, iT_eq0, iF_eq0]
  · have e : vn m x 109 = zI m.2.2.2.1.sum := rfl
    have q := saidSum_k (N := N) h' m.2.2.2.1.length 0 N (by omega) (by omega)
    rw [List.take_zero] at q
    rw [e]
    unfold f1_valueOf f4_saidSum
    rw [nI_z 0]
    have q2 : f4_saidSum_h4 N N (zI ((0 : Nat) : Int)) (zI ((0 : Nat) : Int)) S = some (zI m.2.2.2.1.sum, S) := q
    rw [q2]
    simp (disch := omega) only [sw_t, sw_f, sw_n, nI_z, zI_add, zI_sub, zI_mul, zI_m1, ckI_z, zI_clamp, Int.toNat_natCast, bnd_some, lt, rd_same, rd_ne, rdL_same, rdL_ne, wI_2, wL_1, if_true, if_false, iT_lt, iF_lt, iT_lt0, iF_lt0, iT_0lt, iF_0lt, iT_le, iF_le, iT_le0, iF_le0, iT_0le, iF_0le, iT_eq, iF_eq, iT_eq0, iF_eq0]
  · have e : vn m x 120 = zI x := rfl
    rw [e]
    unfold f1_valueOf
    simp (disch := omega) only [sw_t, sw_f, sw_n, hx, nI_z, zI_add, zI_sub, zI_mul, zI_m1, ckI_z, zI_clamp, Int.toNat_natCast, bnd_some, lt, rd_same, rd_ne, rdL_same, rdL_ne, wI_2, wL_1, if_true, if_false, iT_lt, iF_lt, iT_lt0, iF_lt0, iT_0lt, iF_0lt, iT_le, iF_le, iT_le0, iF_le0, iT_0le, iF_0le, iT_eq, iF_eq, iT_eq0, iF_eq0]
  · have e : vn m x 97 = zI m.1 := rfl
    rw [e]
    unfold f1_valueOf f4_valueA
    simp (disch := omega) only [sw_t, sw_f, sw_n, h2, nI_z, zI_add, zI_sub, zI_mul, zI_m1, ckI_z, zI_clamp, Int.toNat_natCast, bnd_some, lt, rd_same, rd_ne, rdL_same, rdL_ne, wI_2, wL_1, if_true, if_false, iT_lt, iF_lt, iT_lt0, iF_lt0, iT_0lt, iF_0lt, iT_le, iF_le, iT_le0, iF_le0, iT_0le, iF_0le, iT_eq, iF_eq, iT_eq0, iF_eq0]
  · have e : vn m x 98 = zI m.2.1 := rfl
    rw [e]
    unfold f1_valueOf f4_valueB
    simp (disch := omega) only [sw_t, sw_f, sw_n, h3, nI_z, zI_add, zI_sub, zI_mul, zI_m1, ckI_z, zI_clamp, Int.toNat_natCast, bnd_some, lt, rd_same, rd_ne, rdL_same, rdL_ne, wI_2, wL_1, if_true, if_false, iT_lt, iF_lt, iT_lt0, iF_lt0, iT_0lt, iF_0lt, iT_le, iF_le, iT_le0, iF_le0, iT_0le, iF_0le, iT_eq, iF_eq, iT_eq0, iF_eq0]
theorem joined_k {c : Nat} {l r : Int32} {S : St} (h : c = 42 ∨ c = 37 ∨ c = 43 ∨ c = 45 ∨ c = 61 ∨ c = 60 ∨ c = 62 ∨ c = 38 ∨ c = 124) : f1_joined l (zI c) r S = some (jn l c r, S) := by
  rcases h with rfl | rfl | rfl | rfl | rfl | rfl | rfl | rfl | rfl
  · show _ = some (l * r, S)
    unfold f1_joined
    simp (disch := omega) only [sw_t, sw_f, sw_n, nI_z, zI_add, zI_sub, zI_mul, zI_m1, ckI_z, zI_clamp, Int.toNat_natCast, bnd_some, lt, rd_same, rd_ne, rdL_same, rdL_ne, wI_2, wL_1, if_true, if_false, iT_lt, iF_lt, iT_lt0, iF_lt0, iT_0lt, iF_0lt, iT_le, iF_le, iT_le0, iF_le0, iT_0le, iF_0le, iT_eq, iF_eq, iT_eq0, iF_eq0]
  · show _ = some (if r = 0 then zI 0 else remI l r, S)
    unfold f1_joined
    simp (disch := omega) only [nI_z, sw_t, sw_f, sw_n]
    by_cases e : r = 0
    · rw [if_pos e, if_pos e]; rfl
    · rw [if_neg e, if_neg e, ckZ_ne e]
  · show _ = some (l + r, S)
    unfold f1_joined
    simp (disch := omega) only [sw_t, sw_f, sw_n, nI_z, zI_add, zI_sub, zI_mul, zI_m1, ckI_z, zI_clamp, Int.toNat_natCast, bnd_some, lt, rd_same, rd_ne, rdL_same, rdL_ne, wI_2, wL_1, if_true, if_false, iT_lt, iF_lt, iT_lt0, iF_lt0, iT_0lt, iF_0lt, iT_le, iF_le, iT_le0, iF_le0, iT_0le, iF_0le, iT_eq, iF_eq, iT_eq0, iF_eq0]
  · show _ = some (l - r, S)
    unfold f1_joined
    simp (disch := omega) only [sw_t, sw_f, sw_n, nI_z, zI_add, zI_sub, zI_mul, zI_m1, ckI_z, zI_clamp, Int.toNat_natCast, bnd_some, lt, rd_same, rd_ne, rdL_same, rdL_ne, wI_2, wL_1, if_true, if_false, iT_lt, iF_lt, iT_lt0, iF_lt0, iT_0lt, iF_0lt, iT_le, iF_le, iT_le0, iF_le0, iT_0le, iF_0le, iT_eq, iF_eq, iT_eq0, iF_eq0]
  · show _ = some (if l = r then zI 1 else zI 0, S)
    unfold f1_joined
    simp (disch := omega) only [nI_z, sw_t, sw_f, sw_n]
    by_cases e : l = r
    · rw [if_pos e, if_pos e]; rfl
    · rw [if_neg e, if_neg e]; rfl
  · show _ = some (if r ≤ l then zI 0 else zI 1, S)
    unfold f1_joined
    simp (disch := omega) only [nI_z, sw_t, sw_f, sw_n]
    by_cases e : r ≤ l
    · rw [if_pos e, if_pos e]; rfl
    · rw [if_neg e, if_neg e]; rfl
  · show _ = some (if l ≤ r then zI 0 else zI 1, S)
    unfold f1_joined
    simp (disch := omega) only [nI_z, sw_t, sw_f, sw_n]
    by_cases e : l ≤ r
    · rw [if_pos e, if_pos e]; rfl
    · rw [if_neg e, if_neg e]; rfl
  · show _ = some (l &&& r, S)
    unfold f1_joined
    simp (disch := omega) only [sw_t, sw_f, sw_n, nI_z, zI_add, zI_sub, zI_mul, zI_m1, ckI_z, zI_clamp, Int.toNat_natCast, bnd_some, lt, rd_same, rd_ne, rdL_same, rdL_ne, wI_2, wL_1, if_true, if_false, iT_lt, iF_lt, iT_lt0, iF_lt0, iT_0lt, iF_0lt, iT_le, iF_le, iT_le0, iF_le0, iT_0le, iF_0le, iT_eq, iF_eq, iT_eq0, iF_eq0]
  · show _ = some (l ||| r, S)
    unfold f1_joined f1_joined_j181
    simp (disch := omega) only [sw_t, sw_f, sw_n, nI_z, zI_add, zI_sub, zI_mul, zI_m1, ckI_z, zI_clamp, Int.toNat_natCast, bnd_some, lt, rd_same, rd_ne, rdL_same, rdL_ne, wI_2, wL_1, if_true, if_false, iT_lt, iF_lt, iT_lt0, iF_lt0, iT_0lt, iF_0lt, iT_le, iF_le, iT_le0, iF_le0, iT_0le, iF_0le, iT_eq, iF_eq, iT_eq0, iF_eq0]
