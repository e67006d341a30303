/-! The class's PROGRAM objects, and how one becomes the next in order. -/
def rgP (a c k : Nat) : Prop := c = a ∨ c = a + 1
theorem PR.same {P : Nat → Nat → Prop} {S S2 : St} {a : Nat} {p : List Nat} (h : PR S a p) (hs : Same P S S2) (h1 : ∀ k, ¬ P a k) (h2 : ∀ k, ¬ P (a + 1) k) : PR S2 a p := by
  unfold PR
  rw [hs.i (h1 1), hs.row h2]
  exact h
theorem f6_push_ok {S : St} {a x : Nat} {p : List Nat} (h : PR S a p) (hp : p.length < 12) (hx : x < 12) : ∃ S2, f6_push a (zI x) S = some (zI 1, S2) ∧ PR S2 a (p ++ [x]) ∧ Same (rgP a) S S2 := by
  obtain ⟨h1, h2, h3, h4⟩ := h
  refine ⟨wI (wI S (a + 1) p.length (zI x)) a 1 (zI (p.length + 1)), ?_, ⟨?_, ?_, ?_, ?_⟩, ?_⟩
  · unfold f6_push
    simp (disch := omega) only [h1, nI_z, zI_add, zI_sub, zI_mul, zI_m1, ckI_z, zI_clamp, Int.toNat_natCast, bnd_some, lt, rd_same, rd_ne, rdL_same, rdL_ne, wI_2, wL_1, if_true, if_false, iT_lt, iF_lt, iT_lt0, iF_lt0, iT_0lt, iF_0lt, iT_le, iF_le, iT_le0, iF_le0, iT_0le, iF_0le, iT_eq, iF_eq, iT_eq0, iF_eq0]
    rfl
  · simp (disch := omega) only [List.length_append, List.length_singleton, nI_z, zI_add, zI_sub, zI_mul, zI_m1, ckI_z, zI_clamp, Int.toNat_natCast, bnd_some, lt, rd_same, rd_ne, rdL_same, rdL_ne, wI_2, wL_1, if_true, if_false, iT_lt, iF_lt, iT_lt0, iF_lt0, iT_0lt, iF_0lt, iT_le, iF_le, iT_le0, iF_le0, iT_0le, iF_0le, iT_eq, iF_eq, iT_eq0, iF_eq0]
    rfl
  · simp; omega
  · intro y hy
    rcases List.mem_append.mp hy with hy | hy
    · exact h3 y hy
    · rw [List.mem_singleton.mp hy]; exact hx
  · intro i y hi
    have hlt : i < p.length + 1 := by
      have := (List.getElem?_eq_some_iff.mp hi).1
      simpa using this
    by_cases e : i = p.length
    · subst e
      have : y = x := by simpa [eq_comm] using hi
      subst this
      simp (disch := omega) only [Nat.zero_add, nI_z, zI_add, zI_sub, zI_mul, zI_m1, ckI_z, zI_clamp, Int.toNat_natCast, bnd_some, lt, rd_same, rd_ne, rdL_same, rdL_ne, wI_2, wL_1, if_true, if_false, iT_lt, iF_lt, iT_lt0, iF_lt0, iT_0lt, iF_0lt, iT_le, iF_le, iT_le0, iF_le0, iT_0le, iF_0le, iT_eq, iF_eq, iT_eq0, iF_eq0]
    · have hi2 : p[i]? = some y := by rw [List.getElem?_append_left (by omega)] at hi; exact hi
      have := h4 i y hi2
      rw [Nat.zero_add] at this ⊢
      simp (disch := omega) only [this, nI_z, zI_add, zI_sub, zI_mul, zI_m1, ckI_z, zI_clamp, Int.toNat_natCast, bnd_some, lt, rd_same, rd_ne, rdL_same, rdL_ne, wI_2, wL_1, if_true, if_false, iT_lt, iF_lt, iT_lt0, iF_lt0, iT_0lt, iF_0lt, iT_le, iF_le, iT_le0, iF_le0, iT_0le, iF_0le, iT_eq, iF_eq, iT_eq0, iF_eq0]
  · exact (Same.rfl'.wI (Or.inr rfl)).wI (Or.inl rfl)
theorem f6_beEmpty_ok {S : St} {a : Nat} : ∃ S2, f6_beEmpty a S = some ((), S2) ∧ PR S2 a [] ∧ Same (rgP a) S S2 := by
  refine ⟨wI S a 1 (nI 0), rfl, ⟨?_, by decide, fun x h => (by cases h), fun i x h => (by cases h)⟩, Same.rfl'.wI (Or.inl rfl)⟩
  simp (disch := omega) only [nI_z, zI_add, zI_sub, zI_mul, zI_m1, ckI_z, zI_clamp, Int.toNat_natCast, bnd_some, lt, rd_same, rd_ne, rdL_same, rdL_ne, wI_2, wL_1, if_true, if_false, iT_lt, iF_lt, iT_lt0, iF_lt0, iT_0lt, iF_0lt, iT_le, iF_le, iT_le0, iF_le0, iT_0le, iF_0le, iT_eq, iF_eq, iT_eq0, iF_eq0]
  rfl
theorem f6_cut_ok {S : St} {a i : Nat} {p : List Nat} (h : PR S a p) (hi : i < p.length) : ∃ S2, f6_cut a (zI i) S = some ((), S2) ∧ PR S2 a (p.take i) ∧ Same (rgP a) S S2 := by
  obtain ⟨h1, h2, h3, h4⟩ := h
  refine ⟨wI S a 1 (zI i), ?_, ⟨?_, ?_, ?_, ?_⟩, ?_⟩
  · unfold f6_cut
    simp (disch := omega) only [h1, nI_z, zI_add, zI_sub, zI_mul, zI_m1, ckI_z, zI_clamp, Int.toNat_natCast, bnd_some, lt, rd_same, rd_ne, rdL_same, rdL_ne, wI_2, wL_1, if_true, if_false, iT_lt, iF_lt, iT_lt0, iF_lt0, iT_0lt, iF_0lt, iT_le, iF_le, iT_le0, iF_le0, iT_0le, iF_0le, iT_eq, iF_eq, iT_eq0, iF_eq0]
  · simp (disch := omega) only [List.length_take, nI_z, zI_add, zI_sub, zI_mul, zI_m1, ckI_z, zI_clamp, Int.toNat_natCast, bnd_some, lt, rd_same, rd_ne, rdL_same, rdL_ne, wI_2, wL_1, if_true, if_false, iT_lt, iF_lt, iT_lt0, iF_lt0, iT_0lt, iF_0lt, iT_le, iF_le, iT_le0, iF_le0, iT_0le, iF_0le, iT_eq, iF_eq, iT_eq0, iF_eq0]
    congr 1
    omega
  · rw [List.length_take]; omega
  · intro x hx
    exact h3 x (List.mem_of_mem_take hx)
  · intro j x hj
    have hj2 : p[j]? = some x := by
      rw [List.getElem?_take] at hj
      by_cases e : j < i
      · rwa [if_pos e] at hj
      · rw [if_neg e] at hj; cases hj
    have := h4 j x hj2
    rw [Nat.zero_add] at this ⊢
    simp (disch := omega) only [this, nI_z, zI_add, zI_sub, zI_mul, zI_m1, ckI_z, zI_clamp, Int.toNat_natCast, bnd_some, lt, rd_same, rd_ne, rdL_same, rdL_ne, wI_2, wL_1, if_true, if_false, iT_lt, iF_lt, iT_lt0, iF_lt0, iT_0lt, iF_0lt, iT_le, iF_le, iT_le0, iF_le0, iT_0le, iF_0le, iT_eq, iF_eq, iT_eq0, iF_eq0]
  · exact Same.rfl'.wI (Or.inl rfl)
theorem CL.same {P : Nat → Nat → Prop} {S S2 : St} {a : Nat} {g : Lg} (h : CL S a g) (hg : LV g) (hs : Same P S S2) (h1 : ∀ c k, a ≤ c → c ≤ a + 10 → ¬ P c k) : CL S2 a g := by
  obtain ⟨e0, e1, e2, e3, e4, e5⟩ := h
  have hp := hg.2.1
  have r : ∀ i, i ≤ 10 → S2.1 (a + i) = S.1 (a + i) := fun i hi => hs.row (fun k => h1 (a + i) k (by omega) (by omega))
  have r0 := r 0 (by omega)
  rw [Nat.add_zero] at r0
  refine ⟨by rw [r0]; exact e0, by rw [r 1 (by omega)]; exact e1, by rw [r 2 (by omega)]; exact e2, by rw [r 3 (by omega)]; exact e3, fun i q hi => ?_, by rw [r 10 (by omega)]; exact e5⟩
  have hlt := (List.getElem?_eq_some_iff.mp hi).1
  rw [r 9 (by omega), show a + 5 + i = a + (5 + i) by omega, r (5 + i) (by omega)]
  have := e4 i q hi
  rw [show a + 5 + i = a + (5 + i) by omega] at this
  exact this
-- the rank of an order, and what fits
theorem f3_rankOf_loop {S : St} {N a o : Nat} {g : Lg} (h : CL S a g) (hg : LV g) (hm : o < g.1.length) : ∀ (m i n : Nat), i + m = (rkf g).idxOf o → m < n → f3_rankOf_h2 N a (zI o) n (zI i) S = some (zI ((rkf g).idxOf o), S) := by
  have h1 := h.1
  have hl := hg.len
  have hx : (rkf g).idxOf o < g.1.length := by rw [← rkf_len hg]; exact List.idxOf_lt_length_iff.mpr ((mem_rkf hg).mpr hm)
  intro m
  induction m with
  | zero =>
    intro i n hi hn
    obtain ⟨n, rfl⟩ : ∃ z, n = z + 1 := ⟨n - 1, by omega⟩
    have hi2 : i = (rkf g).idxOf o := by omega
    have hxl : i < (rkf g).length := by rw [rkf_len hg]; omega
    have hr : (rkf g)[i]? = some o := by subst hi2; rw [List.getElem?_eq_getElem hxl, List.getElem_idxOf]
    have h3 := h.2.2.2.1 i o hr
    rw [Nat.zero_add] at h3
    rw [f3_rankOf_h2]
    simp (disch := omega) only [h1, h3, nI_z, zI_add, zI_sub, zI_mul, zI_m1, ckI_z, zI_clamp, Int.toNat_natCast, bnd_some, lt, rd_same, rd_ne, rdL_same, rdL_ne, wI_2, wL_1, if_true, if_false, iT_lt, iF_lt, iT_lt0, iF_lt0, iT_0lt, iF_0lt, iT_le, iF_le, iT_le0, iF_le0, iT_0le, iF_0le, iT_eq, iF_eq, iT_eq0, iF_eq0]
    rw [hi2]
  | succ m ih =>
    intro i n hi hn
    obtain ⟨n, rfl⟩ : ∃ z, n = z + 1 := ⟨n - 1, by omega⟩
    have hlt : i < (rkf g).length := by rw [rkf_len hg]; omega
    have hr : (rkf g)[i]? = some (rkf g)[i] := List.getElem?_eq_getElem hlt
    have h3 := h.2.2.2.1 i _ hr
    rw [Nat.zero_add] at h3
    have hne : (rkf g)[i] ≠ o := fun e => by
      have := (rkf_nodup g).idxOf_getElem i hlt
      rw [e] at this
      omega
    have ho : (rkf g)[i] < g.1.length := (mem_rkf hg).mp (List.getElem_mem hlt)
    rw [f3_rankOf_h2]
    simp (disch := omega) only [h1, h3, nI_z, zI_add, zI_sub, zI_mul, zI_m1, ckI_z, zI_clamp, Int.toNat_natCast, bnd_some, lt, rd_same, rd_ne, rdL_same, rdL_ne, wI_2, wL_1, if_true, if_false, iT_lt, iF_lt, iT_lt0, iF_lt0, iT_0lt, iF_0lt, iT_le, iF_le, iT_le0, iF_le0, iT_0le, iF_0le, iT_eq, iF_eq, iT_eq0, iF_eq0]
    have := ih (i + 1) n (by omega) (by omega)
    simpa [nI_z, zI_add] using this
