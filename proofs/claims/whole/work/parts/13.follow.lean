/-! The class's PROGRAM objects, and how one becomes the next in order. -/
def rgP (a c k : Nat) : Prop := c = a ∨ c = a + 1
theorem PR.same {P : Nat → Nat → Prop} {S S2 : St} {a : Nat} {p : List Nat} (h : PR S a p) (hs : Same P S S2) (h1 : ∀ k, ¬ P a k) (h2 : ∀ k, ¬ P (a + 1) k) : PR S2 a p := by
  unfold PR
  rw [hs.i (h1 1), hs.row h2]
  exact h
theorem f6_push_ok {S : St} {a x : Nat} {p : List Nat} (h : PR S a p) (hp : p.length < 12) (hx : x < 12) : ∃ S2, f6_push a (zI x) S = some (zI 1, S2) ∧ PR S2 a (p ++ [x]) ∧ Same (rgP a) S S2 := by
  obtain ⟨h1, h2, h3, h4⟩ := h
  refine ⟨wI (wI S (a + 1) p.length (zI x)) a 1 (zI (p.length + 1)), ?_, ⟨?_, ?_, ?_, ?_⟩, ?_⟩
  · unfold f6_push
    simp (disch := omega) only [h1, nI_z, zI_add, zI_sub, zI_mul, zI_m1, ckI_z, zI_clamp, Int.toNat_natCast, bnd_some, lt, rd_same, rd_ne, rdL_same, rdL_ne, wI_2, wL_1, if_true, if_false, iT_lt, iF_lt, iT_lt0, iF_lt0, iT_0lt, iF_0lt, iT_le, iF_le, iT_le0, iF_le0, iT_0le, iF_0le, iT_eq, iF_eq, iT_eq0, iF_eq0]
    rfl
  · simp (disch := omega) only [List.length_append, List.length_singleton, nI_z, zI_add, zI_sub, zI_mul, zI_m1, ckI_z, zI_clamp, Int.toNat_natCast, bnd_some, lt, rd_same, rd_ne, rdL_same, rdL_ne, wI_2, wL_1, if_true, if_false, iT_lt, iF_lt, iT_lt0, iF_lt0, iT_0lt, iF_0lt, iT_le, iF_le, iT_le0, iF_le0, iT_0le, iF_0le, iT_eq, iF_eq, iT_eq0, iF_eq0]
    rfl
  · simp; omega
  · intro y hy
    rcases List.mem_append.mp hy with hy | hy
    · exact h3 y hy
    · rw [List.mem_singleton.mp hy]; exact hx
  · intro i y hi
    have hlt : i < p.length + 1 := by
      have := (List.getElem?_eq_some_iff.mp hi).1
      simpa using this
    by_cases e : i = p.length
    · subst e
      have : y = x := by simpa [eq_comm] using hi
      subst this
      simp (disch := omega) only [Nat.zero_add, nI_z, zI_add, zI_sub, zI_mul, zI_m1, ckI_z, zI_clamp, Int.toNat_natCast, bnd_some, lt, rd_same, rd_ne, rdL_same, rdL_ne, wI_2, wL_1, if_true, if_false, iT_lt, iF_lt, iT_lt0, iF_lt0, iT_0lt, iF_0lt, iT_le, iF_le, iT_le0, iF_le0, iT_0le, iF_0le, iT_eq, iF_eq, iT_eq0, iF_eq0]
    · have hi2 : p[i]? = some y := by rw [List.getElem?_append_left (by omega)] at hi; exact hi
      have := h4 i y hi2
      rw [Nat.zero_add] at this ⊢
      simp (disch := omega) only [this, nI_z, zI_add, zI_sub, zI_mul, zI_m1, ckI_z, zI_clamp, Int.toNat_natCast, bnd_some, lt, rd_same, rd_ne, rdL_same, rdL_ne, wI_2, wL_1, if_true, if_false, iT_lt, iF_lt, iT_lt0, iF_lt0, iT_0lt, iF_0lt, iT_le, iF_le, iT_le0, iF_le0, iT_0le, iF_0le, iT_eq, iF_eq, iT_eq0, iF_eq0]
  · exact (Same.rfl'.wI (Or.inr rfl)).wI (Or.inl rfl)
theorem f6_beEmpty_ok {S : St} {a : Nat} : ∃ S2, f6_beEmpty a S = some ((), S2) ∧ PR S2 a [] ∧ Same (rgP a) S S2 := by
  refine ⟨wI S a 1 (nI 0), rfl, ⟨?_, by decide, fun x h => (by cases h), fun i x h => (by cases h)⟩, Same.rfl'.wI (Or.inl rfl)⟩
  simp (disch := omega) only [nI_z, zI_add, zI_sub, zI_mul, zI_m1, ckI_z, zI_clamp, Int.toNat_natCast, bnd_some, lt, rd_same, rd_ne, rdL_same, rdL_ne, wI_2, wL_1, if_true, if_false, iT_lt, iF_lt, iT_lt0, iF_lt0, iT_0lt, iF_0lt, iT_le, iF_le, iT_le0, iF_le0, iT_0le, iF_0le, iT_eq, iF_eq, iT_eq0, iF_eq0]
  rfl
theorem f6_cut_ok {S : St} {a i : Nat} {p : List Nat} (h : PR S a p) (hi : i < p.length) : ∃ S2, f6_cut a (zI i) S = some ((), S2) ∧ PR S2 a (p.take i) ∧ Same (rgP a) S S2 := by
  obtain ⟨h1, h2, h3, h4⟩ := h
  refine ⟨wI S a 1 (zI i), ?_, ⟨?_, ?_, ?_, ?_⟩, ?_⟩
  · unfold f6_cut
    simp (disch := omega) only [h1, nI_z, zI_add, zI_sub, zI_mul, zI_m1, ckI_z, zI_clamp, Int.toNat_natCast, bnd_some, lt, rd_same, rd_ne, rdL_same, rdL_ne, wI_2, wL_1, if_true, if_false, iT_lt, iF_lt, iT_lt0, iF_lt0, iT_0lt, iF_0lt, iT_le, iF_le, iT_le0, iF_le0, iT_0le, iF_0le, iT_eq, iF_eq, iT_eq0, iF_eq0]
  · simp (disch := omega) only [List.length_take, nI_z, zI_add, zI_sub, zI_mul, zI_m1, ckI_z, zI_clamp, Int.toNat_natCast, bnd_some, lt, rd_same, rd_ne, rdL_same, rdL_ne, wI_2, wL_1, if_true, if_false, iT_lt, iF_lt, iT_lt0, iF_lt0, iT_0lt, iF_0lt, iT_le, iF_le, iT_le0, iF_le0, iT_0le, iF_0le, iT_eq, iF_eq, iT_eq0, iF_eq0]
    congr 1
    omega
  · rw [List.length_take]; omega
  · intro x hx
    exact h3 x (List.mem_of_mem_take hx)
  · intro j x hj
    have hj2 : p[j]? = some x := by
      rw [List.getElem?_take] at hj
      by_cases e : j < i
      · rwa [if_pos e] at hj
      · rw [if_neg e] at hj; cases hj
    have := h4 j x hj2
    rw [Nat.zero_add] at this ⊢
    simp (disch := omega) only [this, nI_z, zI_add, zI_sub, zI_mul, zI_m1, ckI_z, zI_clamp, Int.toNat_natCast, bnd_some, lt, rd_same, rd_ne, rdL_same, rdL_ne, wI_2, wL_1, if_true, if_false, iT_lt, iF_lt, iT_lt0, iF_lt0, iT_0lt, iF_0lt, iT_le, iF_le, iT_le0, iF_le0, iT_0le, iF_0le, iT_eq, iF_eq, iT_eq0, iF_eq0]
  · exact Same.rfl'.wI (Or.inl rfl)
theorem CL.same {P : Nat → Nat → Prop} {S S2 : St} {a : Nat} {g : Lg} (h : CL S a g) (hg : LV g) (hs : Same P S S2) (h1 : ∀ c k, a ≤ c → c ≤ a + 10 → ¬ P c k) : CL S2 a g := by
  obtain ⟨e0, e1, e2, e3, e4, e5⟩ := h
  have hp := hg.2.1
  have r : ∀ i, i ≤ 10 → S2.1 (a + i) = S.1 (a + i) := fun i hi => hs.row (fun k => h1 (a + i) k (by omega) (by omega))
  have r0 := r 0 (by omega)
  rw [Nat.add_zero] at r0
  refine ⟨by rw [r0]; exact e0, by rw [r 1 (by omega)]; exact e1, by rw [r 2 (by omega)]; exact e2, by rw [r 3 (by omega)]; exact e3, fun i q hi => ?_, by rw [r 10 (by omega)]; exact e5⟩
  have hlt := (List.getElem?_eq_some_iff.mp hi).1
  rw [r 9 (by omega), show a + 5 + i = a + (5 + i) by omega, r (5 + i) (by omega)]
  have := e4 i q hi
  rw [show a + 5 + i = a + (5 + i) by omega] at this
  exact this
-- the rank of an order, and what fits
theorem f3_rankOf_loop {S : St} {N a o : Nat} {g : Lg} (h : CL S a g) (hg : LV g) (hm : o < g.1.length) : ∀ (m i n : Nat), i + m = (rkf g).idxOf o → m < n → f3_rankOf_h2 N a (zI o) n (zI i) S = some (zI ((rkf g).idxOf o), S) := by
  have h1 := h.1
  have hl := hg.len
  have hx : (rkf g).idxOf o < g.1.length := by rw [← rkf_len hg]; exact List.idxOf_lt_length_iff.mpr ((mem_rkf hg).mpr hm)
  intro m
  induction m with
  | zero =>
    intro i n hi hn
    obtain ⟨n, rfl⟩ : ∃ z, n = z + 1 := ⟨n - 1, by omega⟩
    have hi2 : i = (rkf g).idxOf o := by omega
    have hxl : i < (rkf g).length := by rw [rkf_len hg]; omega
    have hr : (rkf g)[i]? = some o := by subst hi2; rw [List.getElem?_eq_getElem hxl, List.getElem_idxOf]
    have h3 := h.2.2.2.1 i o hr
    rw [Nat.zero_add] at h3
    rw [f3_rankOf_h2]
    simp (disch := omega) only [h1, h3, nI_z, zI_add, zI_sub, zI_mul, zI_m1, ckI_z, zI_clamp, Int.toNat_natCast, bnd_some, lt, rd_same, rd_ne, rdL_same, rdL_ne, wI_2, wL_1, if_true, if_false, iT_lt, iF_lt, iT_lt0, iF_lt0, iT_0lt, iF_0lt, iT_le, iF_le, iT_le0, iF_le0, iT_0le, iF_0le, iT_eq, iF_eq, iT_eq0, iF_eq0]
    rw [hi2]
  | succ m ih =>
    intro i n hi hn
    obtain ⟨n, rfl⟩ : ∃ z, n = z + 1 := ⟨n - 1, by omega⟩
    have hlt : i < (rkf g).length := by rw [rkf_len hg]; omega
    have hr : (rkf g)[i]? = some (rkf g)[i] := List.getElem?_eq_getElem hlt
    have h3 := h.2.2.2.1 i _ hr
    rw [Nat.zero_add] at h3
    have hne : (rkf g)[i] ≠ o := fun e => by
      have := (rkf_nodup g).idxOf_getElem i hlt
      rw [e] at this
      omega
    have ho : (rkf g)[i] < g.1.length := (mem_rkf hg).mp (List.getElem_mem hlt)
    rw [f3_rankOf_h2]
    simp (disch := omega) only [h1, h3, nI_z, zI_add, zI_sub, zI_mul, zI_m1, ckI_z, zI_clamp, Int.toNat_natCast, bnd_some, lt, rd_same, rd_ne, rdL_same, rdL_ne, wI_2, wL_1, if_true, if_false, iT_lt, iF_lt, iT_lt0, iF_lt0, iT_0lt, iF_0lt, iT_le, iF_le, iT_le0, iF_le0, iT_0le, iF_0le, iT_eq, iF_eq, iT_eq0, iF_eq0]
    have := ih (i + 1) n (by omega) (by omega)
    simpa [nI_z, zI_add] using this
theorem f3_rankOf_in {S : St} {N a o : Nat} {g : Lg} (h : CL S a g) (hg : LV g) (hm : o < g.1.length) (hN : 13 ≤ N) : f3_rankOf N a (zI o) S = some (zI ((rkf g).idxOf o), S) := by
  have hl := hg.len
  have hx : (rkf g).idxOf o < g.1.length := by rw [← rkf_len hg]; exact List.idxOf_lt_length_iff.mpr ((mem_rkf hg).mpr hm)
  exact f3_rankOf_loop h hg hm ((rkf g).idxOf o) 0 N (by omega) (by omega)
theorem f3_fewest_in {S : St} {a : Nat} {g : Lg} (h : CL S a g) (hg : LV g) (z : Int) (hz : -1000 ≤ z ∧ z ≤ 14) : ∃ w : Nat, w ≤ 1001 ∧ f3_fewestFor a (zI z) S = some (zI w, S) ∧ ∀ d, d ≤ 12 → (w ≤ d ↔ comp (bit g) (rkf g) d z.toNat ≠ []) := by
  by_cases hn : z < 0
  · refine ⟨1000, by omega, ?_, fun d hd => ?_⟩
    · unfold f3_fewestFor
      simp (disch := omega) only [nI_z, zI_add, zI_sub, zI_mul, zI_m1, ckI_z, zI_clamp, Int.toNat_natCast, bnd_some, lt, rd_same, rd_ne, rdL_same, rdL_ne, wI_2, wL_1, if_true, if_false, iT_lt, iF_lt, iT_lt0, iF_lt0, iT_0lt, iF_0lt, iT_le, iF_le, iT_le0, iF_le0, iT_0le, iF_0le, iT_eq, iF_eq, iT_eq0, iF_eq0]
    · rw [show z.toNat = 0 by omega, comp_0 (fun o => (bit_pos hg o).1)]
      exact ⟨fun q => absurd q (by omega), fun q => absurd rfl q⟩
  · obtain ⟨s, rfl⟩ : ∃ s : Nat, z = s := ⟨z.toNat, by omega⟩
    obtain ⟨w, h1, h2, h3⟩ := h.2.2.2.2.2 s (by omega)
    refine ⟨w, h1, ?_, h3⟩
    unfold f3_fewestFor
    simp (disch := omega) only [h2, nI_z, zI_add, zI_sub, zI_mul, zI_m1, ckI_z, zI_clamp, Int.toNat_natCast, bnd_some, lt, rd_same, rd_ne, rdL_same, rdL_ne, wI_2, wL_1, if_true, if_false, iT_lt, iF_lt, iT_lt0, iF_lt0, iT_0lt, iF_0lt, iT_le, iF_le, iT_le0, iF_le0, iT_0le, iF_0le, iT_eq, iF_eq, iT_eq0, iF_eq0]
/-- what the class answers for an order or none -/
def opI : Option Nat → Int32
  | some o => zI o
  | none => zI (-1)
/-- an order with which a row of d+1 orders that fills 'left' begins -/
def ft (g : Lg) (d left o : Nat) : Bool := !(block (bit g) (comp (bit g) (rkf g) d) left o).isEmpty
theorem ft_0 {g : Lg} {d left : Nat} : ft g d left 0 = true ↔ left = bit g 0 := by
  unfold ft block
  rw [if_pos rfl]
  by_cases h : left = bit g 0
  · rw [if_pos h]; exact ⟨fun _ => h, fun _ => rfl⟩
  · rw [if_neg h]; exact ⟨fun q => absurd q (by decide), fun q => absurd q h⟩
theorem ft_s {g : Lg} {d left o : Nat} (ho : o ≠ 0) : ft g d left o = true ↔ comp (bit g) (rkf g) d (left - bit g o) ≠ [] := by
  unfold ft block
  rw [if_neg ho]
  cases comp (bit g) (rkf g) d (left - bit g o) with
  | nil => exact ⟨fun q => (by cases q), fun q => absurd rfl q⟩
  | cons x t => exact ⟨fun _ q => (by cases q), fun _ => rfl⟩
theorem f3_firstThatFits_loop {S : St} {N a d : Nat} {g : Lg} (h : CL S a g) (hg : LV g) (left D : Int) (hl : -900 ≤ left ∧ left ≤ 14) (hd : d ≤ 11) (hD : D = d + 1) : ∀ (m i n : Nat), i + m = g.1.length → m < n → f3_firstThatFits_h7 N a (zI left) (zI D) n (zI i) S = some (opI (((rkf g).drop i).find? (ft g d left.toNat)), S) := by
  have h1 := h.1
  have hgl := hg.len
  intro m
  induction m with
  | zero =>
    intro i n hi hn
    obtain ⟨n, rfl⟩ : ∃ z, n = z + 1 := ⟨n - 1, by omega⟩
    rw [List.drop_eq_nil_of_le (by rw [rkf_len hg]; omega)]
    rw [f3_firstThatFits_h7]
    simp (disch := omega) only [h1, nI_z, zI_add, zI_sub, zI_mul, zI_m1, ckI_z, zI_clamp, Int.toNat_natCast, bnd_some, lt, rd_same, rd_ne, rdL_same, rdL_ne, wI_2, wL_1, if_true, if_false, iT_lt, iF_lt, iT_lt0, iF_lt0, iT_0lt, iF_0lt, iT_le, iF_le, iT_le0, iF_le0, iT_0le, iF_0le, iT_eq, iF_eq, iT_eq0, iF_eq0]
    rfl
  | succ m ih =>
    intro i n hi hn
    obtain ⟨n, rfl⟩ : ∃ z, n = z + 1 := ⟨n - 1, by omega⟩
    have hlt : i < (rkf g).length := by rw [rkf_len hg]; omega
    have hr : (rkf g)[i]? = some (rkf g)[i] := List.getElem?_eq_getElem hlt
    have ho : (rkf g)[i] < g.1.length := (mem_rkf hg).mp (List.getElem_mem hlt)
    rw [List.drop_eq_getElem_cons hlt, List.find?_cons]
    generalize (rkf g)[i] = o at hr ho
    have h3 := h.2.2.2.1 i o hr
    rw [Nat.zero_add] at h3
    have hb := bit_pos hg o
    have ih1 := ih (i + 1) n (by omega) (by omega)
    rw [f3_firstThatFits_h7]
    by_cases e0 : o = 0
    · subst e0
      by_cases e1 : left = bit g 0
      · have hf : ft g d left.toNat 0 = true := ft_0.mpr (by omega)
        simp (disch := omega) only [h1, h3, f3_bitsOf_in h hg ho, f3_firstThatFits_j73, hf, nI_z, zI_add, zI_sub, zI_mul, zI_m1, ckI_z, zI_clamp, Int.toNat_natCast, bnd_some, lt, rd_same, rd_ne, rdL_same, rdL_ne, wI_2, wL_1, if_true, if_false, iT_lt, iF_lt, iT_lt0, iF_lt0, iT_0lt, iF_0lt, iT_le, iF_le, iT_le0, iF_le0, iT_0le, iF_0le, iT_eq, iF_eq, iT_eq0, iF_eq0]
        rfl
      · have hf : ft g d left.toNat 0 = false := by
          rw [← Bool.not_eq_true, ft_0]; omega
        have := bit_pos hg 0
        simp (disch := omega) only [h1, h3, f3_bitsOf_in h hg ho, f3_firstThatFits_j73, hf, nI_z, zI_add, zI_sub, zI_mul, zI_m1, ckI_z, zI_clamp, Int.toNat_natCast, bnd_some, lt, rd_same, rd_ne, rdL_same, rdL_ne, wI_2, wL_1, if_true, if_false, iT_lt, iF_lt, iT_lt0, iF_lt0, iT_0lt, iF_0lt, iT_le, iF_le, iT_le0, iF_le0, iT_0le, iF_0le, iT_eq, iF_eq, iT_eq0, iF_eq0]
        exact ih1
    · obtain ⟨w, w1, w2, w3⟩ := f3_fewest_in h hg (left - bit g o) (by omega)
      have hz : (left - (bit g o : Int)).toNat = left.toNat - bit g o := by omega
      rw [hz] at w3
      by_cases e1 : w ≤ d
      · have hf : ft g d left.toNat o = true := (ft_s e0).mpr ((w3 d (by omega)).mp e1)
        simp (disch := omega) only [h1, h3, f3_bitsOf_in h hg ho, f3_firstThatFits_j73, hf, w2, nI_z, zI_add, zI_sub, zI_mul, zI_m1, ckI_z, zI_clamp, Int.toNat_natCast, bnd_some, lt, rd_same, rd_ne, rdL_same, rdL_ne, wI_2, wL_1, if_true, if_false, iT_lt, iF_lt, iT_lt0, iF_lt0, iT_0lt, iF_0lt, iT_le, iF_le, iT_le0, iF_le0, iT_0le, iF_0le, iT_eq, iF_eq, iT_eq0, iF_eq0]
        rfl
      · have hf : ft g d left.toNat o = false := by
          rw [← Bool.not_eq_true, ft_s e0]
          exact fun q => e1 ((w3 d (by omega)).mpr q)
        simp (disch := omega) only [h1, h3, f3_bitsOf_in h hg ho, f3_firstThatFits_j73, hf, w2, nI_z, zI_add, zI_sub, zI_mul, zI_m1, ckI_z, zI_clamp, Int.toNat_natCast, bnd_some, lt, rd_same, rd_ne, rdL_same, rdL_ne, wI_2, wL_1, if_true, if_false, iT_lt, iF_lt, iT_lt0, iF_lt0, iT_0lt, iF_0lt, iT_le, iF_le, iT_le0, iF_le0, iT_0le, iF_0le, iT_eq, iF_eq, iT_eq0, iF_eq0]
        exact ih1
theorem f3_firstThatFits_in {S : St} {N a d i : Nat} {g : Lg} (h : CL S a g) (hg : LV g) (left D : Int) (hl : -900 ≤ left ∧ left ≤ 14) (hd : d ≤ 11) (hD : D = d + 1) (hi : i ≤ 12) (hN : 13 ≤ N) : f3_firstThatFits N a (zI i) (zI left) (zI D) S = some (opI (((rkf g).drop i).find? (ft g d left.toNat)), S) := by
  have hm : maxI (zI i) (nI 0) = zI i := by
    unfold maxI
    by_cases e : i = 0
    · subst e; rfl
    · simp (disch := omega) only [nI_z, zI_add, zI_sub, zI_mul, zI_m1, ckI_z, zI_clamp, Int.toNat_natCast, bnd_some, lt, rd_same, rd_ne, rdL_same, rdL_ne, wI_2, wL_1, if_true, if_false, iT_lt, iF_lt, iT_lt0, iF_lt0, iT_0lt, iF_0lt, iT_le, iF_le, iT_le0, iF_le0, iT_0le, iF_0le, iT_eq, iF_eq, iT_eq0, iF_eq0]
  have hgl := hg.len
  unfold f3_firstThatFits
  rw [hm]
  by_cases e : i ≤ g.1.length
  · exact f3_firstThatFits_loop h hg left D hl hd hD (g.1.length - i) i N (by omega) (by omega)
  · obtain ⟨n, rfl⟩ : ∃ z, N = z + 1 := ⟨N - 1, by omega⟩
    have h1 := h.1
    rw [List.drop_eq_nil_of_le (by rw [rkf_len hg]; omega)]
    simp (disch := omega) only [f3_firstThatFits_h7, h1, nI_z, zI_add, zI_sub, zI_mul, zI_m1, ckI_z, zI_clamp, Int.toNat_natCast, bnd_some, lt, rd_same, rd_ne, rdL_same, rdL_ne, wI_2, wL_1, if_true, if_false, iT_lt, iF_lt, iT_lt0, iF_lt0, iT_0lt, iF_0lt, iT_le, iF_le, iT_le0, iF_le0, iT_0le, iF_0le, iT_eq, iF_eq, iT_eq0, iF_eq0]
    rfl
theorem head_flat {α β : Type} {f : α → List β} : ∀ {l : List α}, (l.flatMap f).head? = (l.find? (fun o => !(f o).isEmpty)).bind (fun o => (f o).head?)
  | [] => rfl
  | a :: t => by
    rw [List.flatMap_cons, head_app, List.find?_cons, head_flat (l := t)]
    cases h : f a with
    | nil => rfl
    | cons x r => simp [h]
theorem find_ft {g : Lg} {d left : Nat} {l : List Nat} : (l.flatMap (block (bit g) (comp (bit g) (rkf g) d) left)).head? = (l.find? (ft g d left)).bind (fun o => (block (bit g) (comp (bit g) (rkf g) d) left o).head?) := head_flat
/-- filling: the first row that fills what is left -/
theorem f3_fill_loop {N a a1 : Nat} {g : Lg} (hg : LV g) (ha : a1 + 1 < a) (hN : 13 ≤ N) : ∀ (m n : Nat) (S : St) (p q : List Nat) (left : Nat), CL S a g → PR S a1 p → p.length + m = 12 → m < n → left ≤ 14 → (comp (bit g) (rkf g) m left).head? = some q → ∃ S2, f3_fill_h8 N a a1 n (zI left) (zI p.length) S = some ((), S2) ∧ PR S2 a1 (p ++ q) ∧ Same (rgP a1) S S2 := by
  intro m
  induction m with
  | zero =>
    intro n S p q left hc hp hm hn hl hq
    simp [comp] at hq
  | succ m ih =>
    intro n S p q left hc hp hm hn hl hq
    obtain ⟨n, rfl⟩ : ∃ z, n = z + 1 := ⟨n - 1, by omega⟩
    have hl0 : 0 < left := by
      rcases Nat.eq_zero_or_pos left with e | e
      · subst e
        rw [comp_0 (fun o => (bit_pos hg o).1)] at hq
        cases hq
      · exact e
    unfold comp at hq
    rw [find_ft] at hq
    have hfit := f3_firstThatFits_in (N := N) (i := 0) (d := m) hc hg (left : Int) (((12 : Nat) : Int) - (p.length : Int)) (by omega) (by omega) (by omega) (by omega) hN
    rw [List.drop_zero, Int.toNat_natCast] at hfit
    cases ho : (rkf g).find? (ft g m left) with
    | none => rw [ho] at hq; cases hq
    | some o =>
      rw [ho] at hq hfit
      have hq2 : (block (bit g) (comp (bit g) (rkf g) m) left o).head? = some q := hq
      have hog : o < g.1.length := (mem_rkf hg).mp (List.mem_of_find?_eq_some ho)
      have hgl := hg.len
      have hb := bit_pos hg o
      obtain ⟨S2, e1, e2, e3⟩ := f6_push_ok hp (x := o) (by omega) (by omega)
      have hc2 : CL S2 a g := hc.same hg e3 (fun c k h1 h2 h3 => by unfold rgP at h3; omega)
      rw [f3_fill_h8]
      simp (disch := omega) only [hfit, opI, e1, f3_bitsOf_in hc2 hg hog, nI_z, zI_add, zI_sub, zI_mul, zI_m1, ckI_z, zI_clamp, Int.toNat_natCast, bnd_some, lt, rd_same, rd_ne, rdL_same, rdL_ne, wI_2, wL_1, if_true, if_false, iT_lt, iF_lt, iT_lt0, iF_lt0, iT_0lt, iF_0lt, iT_le, iF_le, iT_le0, iF_le0, iT_0le, iF_0le, iT_eq, iF_eq, iT_eq0, iF_eq0]
      by_cases h0 : o = 0
      · subst h0
        have hbl : left = bit g 0 ∧ q = [0] := by
          unfold block at hq2
          rw [if_pos rfl] at hq2
          by_cases h : left = bit g 0
          · rw [if_pos h] at hq2; exact ⟨h, by simpa [eq_comm] using hq2⟩
          · rw [if_neg h] at hq2; cases hq2
        obtain ⟨n, rfl⟩ : ∃ z, n = z + 1 := ⟨n - 1, by omega⟩
        refine ⟨S2, ?_, by rw [hbl.2]; exact e2, e3⟩
        rw [f3_fill_h8]
        by_cases h12 : p.length + 1 = 12
        · simp (disch := omega) only [nI_z, zI_add, zI_sub, zI_mul, zI_m1, ckI_z, zI_clamp, Int.toNat_natCast, bnd_some, lt, rd_same, rd_ne, rdL_same, rdL_ne, wI_2, wL_1, if_true, if_false, iT_lt, iF_lt, iT_lt0, iF_lt0, iT_0lt, iF_0lt, iT_le, iF_le, iT_le0, iF_le0, iT_0le, iF_0le, iT_eq, iF_eq, iT_eq0, iF_eq0]
        · simp (disch := omega) only [nI_z, zI_add, zI_sub, zI_mul, zI_m1, ckI_z, zI_clamp, Int.toNat_natCast, bnd_some, lt, rd_same, rd_ne, rdL_same, rdL_ne, wI_2, wL_1, if_true, if_false, iT_lt, iF_lt, iT_lt0, iF_lt0, iT_0lt, iF_0lt, iT_le, iF_le, iT_le0, iF_le0, iT_0le, iF_0le, iT_eq, iF_eq, iT_eq0, iF_eq0]
      · unfold block at hq2
        rw [if_neg h0, List.head?_map] at hq2
        cases hh : (comp (bit g) (rkf g) m (left - bit g o)).head? with
        | none => rw [hh] at hq2; cases hq2
        | some q2 =>
          rw [hh] at hq2
          have hqe : q = o :: q2 := by simpa [eq_comm] using hq2
          have hle : bit g o ≤ left := by
            rcases Nat.lt_or_ge left (bit g o) with e | e
            · rw [show left - bit g o = 0 by omega, comp_0 (fun o => (bit_pos hg o).1)] at hh
              cases hh
            · exact e
          obtain ⟨S3, f1, f2, f3⟩ := ih n S2 (p ++ [o]) q2 (left - bit g o) hc2 e2 (by simp; omega) (by omega) (by omega) hh
          refine ⟨S3, ?_, ?_, e3.tr f3⟩
          · rw [← f1]
            congr 2
            · omega
            · simp
          · rw [hqe]
            simpa using f2
theorem f3_fill_in {N a a1 : Nat} {g : Lg} {S : St} {p q : List Nat} {left : Nat} (hg : LV g) (ha : a1 + 1 < a) (hN : 13 ≤ N) (hc : CL S a g) (hp : PR S a1 p) (hl : left ≤ 14) (hq : (comp (bit g) (rkf g) (12 - p.length) left).head? = some q) : ∃ S2, f3_fill N a a1 (zI left) S = some ((), S2) ∧ PR S2 a1 (p ++ q) ∧ Same (rgP a1) S S2 := by
  have h2 := hp.2.1
  obtain ⟨S2, h3, h4, h5⟩ := f3_fill_loop hg ha hN (12 - p.length) N S p q left hc hp (by omega) (by omega) hl hq
  refine ⟨S2, ?_, h4, h5⟩
  unfold f3_fill
  rw [f6_length_eq hp, bnd_some]
  exact h3
theorem f3_fill_0 {N a a1 : Nat} {S : St} {p : List Nat} (hN : 13 ≤ N) (hp : PR S a1 p) : f3_fill N a a1 (zI 0) S = some ((), S) := by
  have h2 := hp.2.1
  obtain ⟨n, rfl⟩ : ∃ z, N = z + 1 := ⟨N - 1, by omega⟩
  unfold f3_fill
  rw [f6_length_eq hp, bnd_some, f3_fill_h8]
  by_cases h12 : p.length = 12
  · simp (disch := omega) only [nI_z, zI_add, zI_sub, zI_mul, zI_m1, ckI_z, zI_clamp, Int.toNat_natCast, bnd_some, lt, rd_same, rd_ne, rdL_same, rdL_ne, wI_2, wL_1, if_true, if_false, iT_lt, iF_lt, iT_lt0, iF_lt0, iT_0lt, iF_0lt, iT_le, iF_le, iT_le0, iF_le0, iT_0le, iF_0le, iT_eq, iF_eq, iT_eq0, iF_eq0]
  · simp (disch := omega) only [nI_z, zI_add, zI_sub, zI_mul, zI_m1, ckI_z, zI_clamp, Int.toNat_natCast, bnd_some, lt, rd_same, rd_ne, rdL_same, rdL_ne, wI_2, wL_1, if_true, if_false, iT_lt, iF_lt, iT_lt0, iF_lt0, iT_0lt, iF_0lt, iT_le, iF_le, iT_le0, iF_le0, iT_0le, iF_0le, iT_eq, iF_eq, iT_eq0, iF_eq0]
theorem after_drop (o : Nat) : ∀ l : List Nat, after o l = l.drop (l.idxOf o + 1)
  | [] => by simp [after]
  | a :: t => by
    unfold after
    by_cases h : a = o
    · rw [if_pos h, List.idxOf_cons]; simp [h]
    · rw [if_neg h, List.idxOf_cons, beq_eq_false_iff_ne.mpr h, after_drop o t]; rfl
theorem nxt_up {bit : Nat → Nat} {rk : List Nat} : ∀ (u v r : List Nat) (d left : Nat), (∀ x ∈ u, x ≠ 0) → nxt bit rk d left v = some r → nxt bit rk (d + u.length) (left + (u.map bit).sum) (u ++ v) = some (u ++ r)
  | [], v, r, d, left, _, h => h
  | o :: t, v, r, d, left, hu, h => by
    have ih := nxt_up t v r d left (fun x hx => hu x (List.mem_cons_of_mem _ hx)) h
    show nxt bit rk ((d + t.length) + 1) (left + ((o :: t).map bit).sum) (o :: (t ++ v)) = _
    unfold nxt
    rw [if_neg (hu o List.mem_cons_self), List.map_cons, List.sum_cons, show left + (bit o + (t.map bit).sum) - bit o = left + (t.map bit).sum by omega, ih]
    rfl
def bsum (g : Lg) (u : List Nat) : Nat := (u.map (bit g)).sum
theorem bsum_app (g : Lg) (u v : List Nat) : bsum g (u ++ v) = bsum g u + bsum g v := by unfold bsum; rw [List.map_append, List.sum_append]
/-- a whole program: 0 is its last order and no other -/
def WP (g : Lg) (p : List Nat) : Prop := p ≠ [] ∧ (∀ x ∈ p, x < g.1.length) ∧ ∀ i x, p[i]? = some x → (x = 0 ↔ i + 1 = p.length)
theorem f3_next_loop {S : St} {N a a1 B : Nat} {g : Lg} {p : List Nat} (hg : LV g) (ha : a1 + 1 < a) (hN : 13 ≤ N) (hc : CL S a g) (hp : PR S a1 p) (hw : WP g p) (hB : bsum g p = B) (hB2 : B ≤ 14) : ∀ (k n : Nat) (z : Int), z = (k : Int) - 1 → k ≤ p.length → k < n → (k = p.length ∨ nxt (bit g) (rkf g) (12 - k) (B - bsum g (p.take k)) (p.drop k) = none) →
    (∀ r, nxt (bit g) (rkf g) 12 B p = some r → ∃ S2, f3_becomeNextOfSize_h10 N a a1 (zI B) n (zI (bsum g (p.take k))) (zI z) S = some (zI 1, S2) ∧ PR S2 a1 r ∧ Same (rgP a1) S S2) ∧
    (nxt (bit g) (rkf g) 12 B p = none → f3_becomeNextOfSize_h10 N a a1 (zI B) n (zI (bsum g (p.take k))) (zI z) S = some (zI 0, S)) := by
  intro k
  induction k with
  | zero =>
    intro n z hz hk hn hx
    obtain ⟨n, rfl⟩ : ∃ z, n = z + 1 := ⟨n - 1, by omega⟩
    have hx2 : nxt (bit g) (rkf g) 12 B p = none := by
      rcases hx with hx | hx
      · exact absurd (List.length_eq_zero_iff.mp hx.symm) hw.1
      · simpa [bsum] using hx
    refine ⟨fun r hr => (by rw [hx2] at hr; cases hr), fun _ => ?_⟩
    rw [f3_becomeNextOfSize_h10]
    simp (disch := omega) only [nI_z, zI_add, zI_sub, zI_mul, zI_m1, ckI_z, zI_clamp, Int.toNat_natCast, bnd_some, lt, rd_same, rd_ne, rdL_same, rdL_ne, wI_2, wL_1, if_true, if_false, iT_lt, iF_lt, iT_lt0, iF_lt0, iT_0lt, iF_0lt, iT_le, iF_le, iT_le0, iF_le0, iT_0le, iF_0le, iT_eq, iF_eq, iT_eq0, iF_eq0]
    rfl
  | succ k ih =>
    intro n z hz hk hn hx
    obtain ⟨n, rfl⟩ : ∃ z, n = z + 1 := ⟨n - 1, by omega⟩
    obtain rfl : z = (k : Nat) := by omega
    have hkl : k < p.length := by omega
    have hp12 := hp.2.1
    have hgl := hg.len
    have hr : p[k]? = some p[k] := List.getElem?_eq_getElem hkl
    have htk : p.take (k + 1) = p.take k ++ [p[k]] := by rw [List.take_add_one, hr]; rfl
    have hdk : p.drop k = p[k] :: p.drop (k + 1) := List.drop_eq_getElem_cons hkl
    have hsp : bsum g (p.take k) + bsum g (p.drop k) = B := by rw [← bsum_app, List.take_append_drop, hB]
    generalize p[k] = o at hr htk hdk
    have ho : o < g.1.length := hw.2.1 o (List.mem_of_getElem? hr)
    have hb := bit_pos hg o
    have hs0 : bsum g (p.take (k + 1)) = bsum g (p.take k) + bit g o := by rw [htk, bsum_app]; simp [bsum]
    have hs : ((bsum g (p.take (k + 1)) : Nat) : Int) - (bit g o : Int) = (bsum g (p.take k) : Int) := by omega
    have hdb : bsum g (p.drop k) = bit g o + bsum g (p.drop (k + 1)) := by rw [hdk]; simp [bsum]
    obtain ⟨L, hL⟩ : ∃ L, L = B - bsum g (p.take k) := ⟨_, rfl⟩
    have hLz : ((B : Int) - (bsum g (p.take k) : Int)) = (L : Int) := by omega
    have hix : (rkf g).idxOf o < g.1.length := by rw [← rkf_len hg]; exact List.idxOf_lt_length_iff.mpr ((mem_rkf hg).mpr ho)
    have hfit := f3_firstThatFits_in (N := N) (i := (rkf g).idxOf o + 1) (d := 11 - k) hc hg (L : Int) (((12 : Nat) : Int) - (k : Int)) (by omega) (by omega) (by omega) (by omega) hN
    rw [← after_drop, Int.toNat_natCast, show (((rkf g).idxOf o + 1 : Nat) : Int) = ((rkf g).idxOf o : Int) + ((1 : Nat) : Int) from rfl] at hfit
    have hnx : nxt (bit g) (rkf g) (12 - k) L (p.drop k) = firstAfter (bit g) (rkf g) (11 - k) L o := by
      rw [hdk, show 12 - k = (11 - k) + 1 by omega]
      unfold nxt
      have : (if o = 0 then none else nxt (bit g) (rkf g) (11 - k) (L - bit g o) (p.drop (k + 1))) = none := by
        by_cases h0 : o = 0
        · rw [if_pos h0]
        · rw [if_neg h0]
          rcases hx with hx | hx
          · exact absurd ((hw.2.2 k o hr).mpr hx) h0
          · rw [← hx]; congr 1 <;> omega
      rw [this]
    unfold firstAfter at hnx
    rw [find_ft] at hnx
    rw [f3_becomeNextOfSize_h10]
    cases hf : (after o (rkf g)).find? (ft g (11 - k) L) with
    | none =>
      rw [hf] at hfit hnx
      have hx2 := ih n ((k : Int) + -1) (by omega) (by omega) (by omega) (Or.inr (by rw [← hL, hnx]; rfl))
      simp (disch := omega) only [f6_orderAt_in hp hr, f3_bitsOf_in hc hg ho, hs, hLz, f3_rankOf_in hc hg ho hN, hfit, opI, nI_z, zI_add, zI_sub, zI_mul, zI_m1, ckI_z, zI_clamp, Int.toNat_natCast, bnd_some, lt, rd_same, rd_ne, rdL_same, rdL_ne, wI_2, wL_1, if_true, if_false, iT_lt, iF_lt, iT_lt0, iF_lt0, iT_0lt, iF_0lt, iT_le, iF_le, iT_le0, iF_le0, iT_0le, iF_0le, iT_eq, iF_eq, iT_eq0, iF_eq0]
      exact hx2
    | some c =>
      rw [hf] at hfit hnx
      have hcg : c < g.1.length := (mem_rkf hg).mp (by
        have := List.mem_of_find?_eq_some hf
        rw [after_drop] at this
        exact List.mem_of_mem_drop this)
      have hft : ft g (11 - k) L c = true := List.find?_some hf
      have hbc := bit_pos hg c
      obtain ⟨S2, e1, e2, e3⟩ := f6_cut_ok hp hkl
      have htl : (p.take k).length = k := by rw [List.length_take]; omega
      obtain ⟨S3, f1, f2, f3⟩ := f6_push_ok e2 (x := c) (by omega) (by omega)
      have hs3 := e3.tr f3
      have hc3 : CL S3 a g := hc.same hg hs3 (fun c k h1 h2 h3 => by unfold rgP at h3; omega)
      have hup : ∀ q, nxt (bit g) (rkf g) (12 - k) L (p.drop k) = some q → nxt (bit g) (rkf g) 12 B p = some (p.take k ++ q) := fun q hq => by
        have hu : ∀ x ∈ p.take k, x ≠ 0 := fun x hx e => by
          obtain ⟨i, hi, rfl⟩ := List.mem_take_iff_getElem.mp hx
          have := (hw.2.2 i _ (List.getElem?_eq_getElem (by omega))).mp e
          omega
        have := nxt_up (p.take k) (p.drop k) q (12 - k) L hu hq
        rw [List.take_append_drop, htl, show 12 - k + k = 12 by omega] at this
        rw [← this]
        congr 1
        unfold bsum at hL hsp
        omega
      by_cases h0 : c = 0
      · subst h0
        have hbl : L = bit g 0 := ft_0.mp hft
        have hz0 : (L : Int) - (bit g 0 : Int) = 0 := by omega
        have hn0 : nxt (bit g) (rkf g) (12 - k) L (p.drop k) = some [0] := by
          rw [hnx]
          show (block (bit g) (comp (bit g) (rkf g) (11 - k)) L 0).head? = _
          unfold block
          rw [if_pos rfl, if_pos hbl]
          rfl
        have hup2 := hup _ hn0
        refine ⟨fun r hr2 => ?_, fun hr2 => by rw [hup2] at hr2; cases hr2⟩
        rw [hup2] at hr2
        obtain rfl : p.take k ++ [0] = r := by simpa using hr2
        refine ⟨S3, ?_, f2, hs3⟩
        simp (disch := omega) only [f6_orderAt_in hp hr, f3_bitsOf_in hc hg ho, hs, hLz, f3_rankOf_in hc hg ho hN, hfit, opI, e1, f1, f3_bitsOf_in hc3 hg hcg, hz0, f3_fill_0 hN f2, nI_z, zI_add, zI_sub, zI_mul, zI_m1, ckI_z, zI_clamp, Int.toNat_natCast, bnd_some, lt, rd_same, rd_ne, rdL_same, rdL_ne, wI_2, wL_1, if_true, if_false, iT_lt, iF_lt, iT_lt0, iF_lt0, iT_0lt, iF_0lt, iT_le, iF_le, iT_le0, iF_le0, iT_0le, iF_0le, iT_eq, iF_eq, iT_eq0, iF_eq0]
        rfl
      · have hne : comp (bit g) (rkf g) (11 - k) (L - bit g c) ≠ [] := (ft_s h0).mp hft
        have hle : bit g c ≤ L := by
          rcases Nat.lt_or_ge L (bit g c) with e | e
          · rw [show L - bit g c = 0 by omega, comp_0 (fun o => (bit_pos hg o).1)] at hne
            exact absurd rfl hne
          · exact e
        have hz0 : (L : Int) - (bit g c : Int) = ((L - bit g c : Nat) : Int) := by omega
        cases hh : comp (bit g) (rkf g) (11 - k) (L - bit g c) with
        | nil => exact absurd hh hne
        | cons q t =>
          have hn0 : nxt (bit g) (rkf g) (12 - k) L (p.drop k) = some (c :: q) := by
            rw [hnx]
            show (block (bit g) (comp (bit g) (rkf g) (11 - k)) L c).head? = _
            unfold block
            rw [if_neg h0, hh]
            rfl
          have hup2 := hup _ hn0
          refine ⟨fun r hr2 => ?_, fun hr2 => by rw [hup2] at hr2; cases hr2⟩
          rw [hup2] at hr2
          obtain rfl : p.take k ++ c :: q = r := by simpa using hr2
          obtain ⟨S4, g1, g2, g3⟩ := f3_fill_in (N := N) (left := L - bit g c) (q := q) hg ha hN hc3 f2 (by omega) (by
            rw [List.length_append, htl, List.length_singleton, show 12 - (k + 1) = 11 - k by omega, hh]; rfl)
          refine ⟨S4, ?_, by simpa using g2, hs3.tr g3⟩
          simp (disch := omega) only [f6_orderAt_in hp hr, f3_bitsOf_in hc hg ho, hs, hLz, f3_rankOf_in hc hg ho hN, hfit, opI, e1, f1, f3_bitsOf_in hc3 hg hcg, hz0, g1, nI_z, zI_add, zI_sub, zI_mul, zI_m1, ckI_z, zI_clamp, Int.toNat_natCast, bnd_some, lt, rd_same, rd_ne, rdL_same, rdL_ne, wI_2, wL_1, if_true, if_false, iT_lt, iF_lt, iT_lt0, iF_lt0, iT_0lt, iF_0lt, iT_le, iF_le, iT_le0, iF_le0, iT_0le, iF_0le, iT_eq, iF_eq, iT_eq0, iF_eq0]
          rfl
theorem wp_len {g : Lg} {p : List Nat} (hg : LV g) (h : WP g p) : p.length ≤ bsum g p := by
  unfold bsum
  have : ∀ l : List Nat, l.length ≤ (l.map (bit g)).sum := fun l => by
    induction l with
    | nil => exact Nat.le_refl _
    | cons a t ih =>
      have := (bit_pos hg a).1
      simp only [List.length_cons, List.map_cons, List.sum_cons]
      omega
  exact this p
theorem f3_next_in {S : St} {N a a1 B : Nat} {g : Lg} {p : List Nat} (hg : LV g) (ha : a1 + 1 < a) (hN : 13 ≤ N) (hc : CL S a g) (hp : PR S a1 p) (hw : WP g p) (hB : bsum g p = B) (hB2 : B ≤ 14) :
    (∀ r, nxt (bit g) (rkf g) 12 B p = some r → ∃ S2, f3_becomeNextOfSize N a a1 (zI B) S = some (zI 1, S2) ∧ PR S2 a1 r ∧ Same (rgP a1) S S2) ∧
    (nxt (bit g) (rkf g) 12 B p = none → f3_becomeNextOfSize N a a1 (zI B) S = some (zI 0, S)) := by
  have h12 := hp.2.1
  have h := f3_next_loop hg ha hN hc hp hw hB hB2 p.length N ((p.length : Int) - ((1 : Nat) : Int)) (by omega) (Nat.le_refl _) (by omega) (Or.inl rfl)
  rw [List.take_length, hB] at h
  unfold f3_becomeNextOfSize
  simp (disch := omega) only [f6_length_eq hp, nI_z, zI_add, zI_sub, zI_mul, zI_m1, ckI_z, zI_clamp, Int.toNat_natCast, bnd_some, lt, rd_same, rd_ne, rdL_same, rdL_ne, wI_2, wL_1, if_true, if_false, iT_lt, iF_lt, iT_lt0, iF_lt0, iT_0lt, iF_0lt, iT_le, iF_le, iT_le0, iF_le0, iT_0le, iF_0le, iT_eq, iF_eq, iT_eq0, iF_eq0]
  exact h
/-- what rows of comp are -/
theorem comp_mem {g : Lg} (hg : LV g) : ∀ (d left : Nat) (p : List Nat), p ∈ comp (bit g) (rkf g) d left → p.length ≤ d ∧ WP g p ∧ bsum g p = left
  | 0, left, p, h => by simp [comp] at h
  | d + 1, left, p, h => by
    unfold comp at h
    obtain ⟨o, ho, h2⟩ := List.mem_flatMap.mp h
    have hol := (mem_rkf hg).mp ho
    have hgl := hg.len
    unfold block at h2
    by_cases h0 : o = 0
    · rw [if_pos h0] at h2
      by_cases h1 : left = bit g 0
      · rw [if_pos h1] at h2
        obtain rfl : p = [0] := by simpa using h2
        refine ⟨by simp, ⟨by simp, fun x hx => ?_, fun i x hi => ?_⟩, by simp [bsum, h1]⟩
        · rw [List.mem_singleton.mp hx]; omega
        · cases i with
          | zero => simp at hi; simp [← hi]
          | succ i => simp at hi
      · rw [if_neg h1] at h2; cases h2
    · rw [if_neg h0] at h2
      obtain ⟨q, hq, rfl⟩ := List.mem_map.mp h2
      obtain ⟨f1, f2, f3⟩ := comp_mem hg d (left - bit g o) q hq
      have hqp := wp_len hg f2
      have hq1 : q.length ≠ 0 := fun e => f2.1 (List.length_eq_zero_iff.mp e)
      refine ⟨by simp; omega, ⟨by simp, fun x hx => ?_, fun i x hi => ?_⟩, ?_⟩
      · rcases List.mem_cons.mp hx with e | e
        · rw [e]; exact hol
        · exact f2.2.1 x e
      · cases i with
        | zero =>
          have : o = x := by simpa using hi
          rw [← this, List.length_cons]
          exact ⟨fun e => absurd e h0, fun e => by omega⟩
        | succ i =>
          have hi2 : q[i]? = some x := by simpa using hi
          rw [f2.2.2 i x hi2, List.length_cons]
          omega
      · have : bsum g (o :: q) = bit g o + bsum g q := by simp [bsum]
        omega
theorem mem_comp {g : Lg} (hg : LV g) : ∀ (d : Nat) (p : List Nat), WP g p → p.length ≤ d → p ∈ comp (bit g) (rkf g) d (bsum g p)
  | 0, p, h, hl => absurd (List.length_eq_zero_iff.mp (by omega)) h.1
  | d + 1, p, h, hl => by
    cases p with
    | nil => exact absurd rfl h.1
    | cons o q =>
      unfold comp
      refine List.mem_flatMap.mpr ⟨o, (mem_rkf hg).mpr (h.2.1 o List.mem_cons_self), ?_⟩
      have h3 := h.2.2 0 o rfl
      have hs : bsum g (o :: q) = bit g o + bsum g q := by simp [bsum]
      unfold block
      by_cases h0 : o = 0
      · have hq : q = [] := by
          have := h3.mp h0
          simpa using this
        subst hq
        rw [if_pos h0, if_pos (by rw [hs, h0]; simp [bsum]), h0]
        exact List.mem_singleton.mpr rfl
      · rw [if_neg h0]
        refine List.mem_map.mpr ⟨q, ?_, rfl⟩
        rw [hs, Nat.add_sub_cancel_left]
        have hq0 : q ≠ [] := fun e => h0 (h3.mpr (by rw [e]; rfl))
        refine mem_comp hg d q ⟨hq0, fun x hx => h.2.1 x (List.mem_cons_of_mem _ hx), fun i x hi => ?_⟩ (by simpa using hl)
        have := h.2.2 (i + 1) x (by simpa using hi)
        rw [this, List.length_cons]
        omega
-- the size of any row
theorem f6_orderAt_last {S : St} {a : Nat} {p : List Nat} (h : PR S a p) : f6_isClosed a S = some (bI (p.getLast? = some 0), S) := by
  have h1 := h.1
  have h12 := h.2.1
  unfold f6_isClosed
  rcases List.eq_nil_or_concat p with e | ⟨q, x, e⟩
  · subst e
    simp (disch := omega) only [h1, List.length_nil, List.getLast?_nil, nI_z, zI_add, zI_sub, zI_mul, zI_m1, ckI_z, zI_clamp, Int.toNat_natCast, bnd_some, lt, rd_same, rd_ne, rdL_same, rdL_ne, wI_2, wL_1, if_true, if_false, iT_lt, iF_lt, iT_lt0, iF_lt0, iT_0lt, iF_0lt, iT_le, iF_le, iT_le0, iF_le0, iT_0le, iF_0le, iT_eq, iF_eq, iT_eq0, iF_eq0]
    rfl
  · rw [List.concat_eq_append] at e
    subst e
    have hx : x < 12 := h.2.2.1 x (by simp)
    have hi : (q ++ [x])[q.length]? = some x := by simp
    have ho := f6_orderAt_in h hi
    have hl : (((q ++ [x]).length : Nat) : Int) - ((1 : Nat) : Int) = (q.length : Int) := by simp
    have hl2 : 0 < (q ++ [x]).length := by simp
    generalize (q ++ [x]).length = m at h1 hl h12 hl2
    rw [List.getLast?_append, List.getLast?_singleton]
    by_cases e : x = 0
    · subst e
      simp (disch := omega) only [h1, hl, ho, nI_z, zI_add, zI_sub, zI_mul, zI_m1, ckI_z, zI_clamp, Int.toNat_natCast, bnd_some, lt, rd_same, rd_ne, rdL_same, rdL_ne, wI_2, wL_1, if_true, if_false, iT_lt, iF_lt, iT_lt0, iF_lt0, iT_0lt, iF_0lt, iT_le, iF_le, iT_le0, iF_le0, iT_0le, iF_0le, iT_eq, iF_eq, iT_eq0, iF_eq0]
      rfl
    · rw [bI_f (by simpa using e)]
      simp (disch := omega) only [h1, hl, ho, nI_z, zI_add, zI_sub, zI_mul, zI_m1, ckI_z, zI_clamp, Int.toNat_natCast, bnd_some, lt, rd_same, rd_ne, rdL_same, rdL_ne, wI_2, wL_1, if_true, if_false, iT_lt, iF_lt, iT_lt0, iF_lt0, iT_0lt, iF_0lt, iT_le, iF_le, iT_le0, iF_le0, iT_0le, iF_0le, iT_eq, iF_eq, iT_eq0, iF_eq0]
      rfl
/-- the size of a row, or -5 -/
def szI (g : Lg) (p : List Nat) : Int := if p.all (fun x => decide (x < g.1.length)) then (bsum g p : Int) else -5
theorem bsum_le {g : Lg} (hg : LV g) (p : List Nat) : bsum g p ≤ 6 * p.length := by
  unfold bsum
  induction p with
  | nil => exact Nat.le_refl _
  | cons a t ih =>
    have := (bit_pos hg a).2
    simp only [List.length_cons, List.map_cons, List.sum_cons]
    omega
theorem f3_sizeOf_loop {S : St} {N a a1 : Nat} {g : Lg} {p : List Nat} (hg : LV g) (hc : CL S a g) (hp : PR S a1 p) : ∀ (m i n : Nat) (acc : Int), i + m = p.length → m < n → acc = bsum g (p.take i) → f3_sizeOf_h14 N a a1 n (zI acc) (zI i) S = some (zI (if (p.drop i).all (fun x => decide (x < g.1.length)) then (bsum g p : Int) else -5), S) := by
  have h12 := hp.2.1
  have hbl := bsum_le hg p
  intro m
  induction m with
  | zero =>
    intro i n acc hi hn ha
    obtain ⟨n, rfl⟩ : ∃ z, n = z + 1 := ⟨n - 1, by omega⟩
    rw [List.drop_eq_nil_of_le (by omega), ha, List.take_of_length_le (by omega), f3_sizeOf_h14]
    simp (disch := omega) only [f6_length_eq hp, nI_z, zI_add, zI_sub, zI_mul, zI_m1, ckI_z, zI_clamp, Int.toNat_natCast, bnd_some, lt, rd_same, rd_ne, rdL_same, rdL_ne, wI_2, wL_1, if_true, if_false, iT_lt, iF_lt, iT_lt0, iF_lt0, iT_0lt, iF_0lt, iT_le, iF_le, iT_le0, iF_le0, iT_0le, iF_0le, iT_eq, iF_eq, iT_eq0, iF_eq0]
    rfl
  | succ m ih =>
    intro i n acc hi hn ha
    obtain ⟨n, rfl⟩ : ∃ z, n = z + 1 := ⟨n - 1, by omega⟩
    have hlt : i < p.length := by omega
    have hr : p[i]? = some p[i] := List.getElem?_eq_getElem hlt
    have htk : p.take (i + 1) = p.take i ++ [p[i]] := by rw [List.take_add_one, hr]; rfl
    rw [List.drop_eq_getElem_cons hlt, List.all_cons]
    generalize p[i] = o at hr htk
    have ho : o < 12 := hp.2.2.1 o (List.mem_of_getElem? hr)
    have hs0 : bsum g (p.take (i + 1)) = bsum g (p.take i) + bit g o := by rw [htk, bsum_app]; simp [bsum]
    have hb := bit_pos hg o
    have hbt := bsum_le hg (p.take i)
    rw [List.length_take] at hbt
    have hgl := hg.len
    have hh := f3_has_eq (S := S) hc hg (zI o)
    rw [zI_toInt (by omega)] at hh
    rw [f3_sizeOf_h14]
    by_cases hk : o < g.1.length
    · rw [bI_t (by omega)] at hh
      have ih1 := ih (i + 1) n (acc + bit g o) (by omega) (by omega) (by rw [hs0, ha]; omega)
      rw [decide_eq_true hk, Bool.true_and]
      simp (disch := omega) only [f6_length_eq hp, f6_orderAt_in hp hr, hh, f3_bitsOf_in hc hg hk, nI_z, zI_add, zI_sub, zI_mul, zI_m1, ckI_z, zI_clamp, Int.toNat_natCast, bnd_some, lt, rd_same, rd_ne, rdL_same, rdL_ne, wI_2, wL_1, if_true, if_false, iT_lt, iF_lt, iT_lt0, iF_lt0, iT_0lt, iF_0lt, iT_le, iF_le, iT_le0, iF_le0, iT_0le, iF_0le, iT_eq, iF_eq, iT_eq0, iF_eq0]
      exact ih1
    · rw [bI_f (by omega)] at hh
      rw [decide_eq_false hk, Bool.false_and]
      simp (disch := omega) only [f6_length_eq hp, f6_orderAt_in hp hr, hh, nI_z, zI_add, zI_sub, zI_mul, zI_m1, ckI_z, zI_clamp, Int.toNat_natCast, bnd_some, lt, rd_same, rd_ne, rdL_same, rdL_ne, wI_2, wL_1, if_true, if_false, iT_lt, iF_lt, iT_lt0, iF_lt0, iT_0lt, iF_0lt, iT_le, iF_le, iT_le0, iF_le0, iT_0le, iF_0le, iT_eq, iF_eq, iT_eq0, iF_eq0]
      rfl
theorem f3_sizeOf_in {S : St} {N a a1 : Nat} {g : Lg} {p : List Nat} (hg : LV g) (hc : CL S a g) (hp : PR S a1 p) (hN : 13 ≤ N) : f3_sizeOf N a a1 S = some (zI (if p.getLast? = some 0 then szI g p else -5), S) := by
  have h12 := hp.2.1
  have h := f3_sizeOf_loop (N := N) hg hc hp p.length 0 N 0 (by omega) (by omega) (by simp [bsum])
  unfold f3_sizeOf
  rw [f6_orderAt_last hp]
  by_cases e : p.getLast? = some 0
  · rw [if_pos e, bI_t e]
    rw [List.drop_zero] at h
    simp (disch := omega) only [nI_z, zI_add, zI_sub, zI_mul, zI_m1, ckI_z, zI_clamp, Int.toNat_natCast, bnd_some, lt, rd_same, rd_ne, rdL_same, rdL_ne, wI_2, wL_1, if_true, if_false, iT_lt, iF_lt, iT_lt0, iF_lt0, iT_0lt, iF_0lt, iT_le, iF_le, iT_le0, iF_le0, iT_0le, iF_0le, iT_eq, iF_eq, iT_eq0, iF_eq0]
    exact h
  · rw [if_neg e, bI_f e]
    simp (disch := omega) only [nI_z, zI_add, zI_sub, zI_mul, zI_m1, ckI_z, zI_clamp, Int.toNat_natCast, bnd_some, lt, rd_same, rd_ne, rdL_same, rdL_ne, wI_2, wL_1, if_true, if_false, iT_lt, iF_lt, iT_lt0, iF_lt0, iT_0lt, iF_0lt, iT_le, iF_le, iT_le0, iF_le0, iT_0le, iF_0le, iT_eq, iF_eq, iT_eq0, iF_eq0]
    rfl
-- the list of programs, in two pieces
def prf (g : Lg) : Nat → Nat → List (Nat × List Nat)
  | _, 0 => []
  | s, m + 1 => (comp (bit g) (rkf g) 12 (s + 1)).map (fun p => (s + 1, p)) ++ prf g (s + 1) m
theorem progs_prf (g : Lg) : ∀ (m s : Nat), progs (bit g) (rkf g) (s + m) = progs (bit g) (rkf g) s ++ prf g s m
  | 0, s => by simp [prf]
  | m + 1, s => by
    have h := progs_prf g m (s + 1)
    rw [show s + 1 + m = s + (m + 1) by omega] at h
    rw [h]
    show progs (bit g) (rkf g) s ++ (comp (bit g) (rkf g) 12 (s + 1)).map (fun p => (s + 1, p)) ++ prf g (s + 1) m = progs (bit g) (rkf g) s ++ ((comp (bit g) (rkf g) 12 (s + 1)).map (fun p => (s + 1, p)) ++ prf g (s + 1) m)
    rw [List.append_assoc]
theorem progs_mem {g : Lg} : ∀ {B : Nat} {e : Nat × List Nat}, e ∈ progs (bit g) (rkf g) B → 1 ≤ e.1 ∧ e.1 ≤ B ∧ e.2 ∈ comp (bit g) (rkf g) 12 e.1
  | 0, e, h => by cases h
  | B + 1, e, h => by
    unfold progs at h
    rcases List.mem_append.mp h with h | h
    · obtain ⟨h1, h2, h3⟩ := progs_mem h
      exact ⟨h1, by omega, h3⟩
    · obtain ⟨p, hp, rfl⟩ := List.mem_map.mp h
      exact ⟨by simp, Nat.le_refl _, hp⟩
theorem prf_mem {g : Lg} : ∀ {m s : Nat} {e : Nat × List Nat}, e ∈ prf g s m → s + 1 ≤ e.1 ∧ e.1 ≤ s + m ∧ e.2 ∈ comp (bit g) (rkf g) 12 e.1
  | 0, s, e, h => by cases h
  | m + 1, s, e, h => by
    unfold prf at h
    rcases List.mem_append.mp h with h | h
    · obtain ⟨p, hp, rfl⟩ := List.mem_map.mp h
      exact ⟨Nat.le_refl _, by show s + 1 ≤ s + (m + 1); omega, hp⟩
    · obtain ⟨h1, h2, h3⟩ := prf_mem h
      exact ⟨by omega, by omega, h3⟩
theorem mid_split {α : Type} {X Y Z A C : List α} {e : α} (h : X ++ Y ++ Z = A ++ e :: C) (hx : e ∉ X) (hz : e ∉ Z) : ∃ A2 B2, Y = A2 ++ e :: B2 ∧ C = B2 ++ Z := by
  rw [List.append_assoc] at h
  rcases List.append_eq_append_iff.mp h with ⟨D, h1, h2⟩ | ⟨D, h1, h2⟩
  · rcases List.append_eq_append_iff.mp h2 with ⟨E, h3, h4⟩ | ⟨E, h3, h4⟩
    · exfalso
      apply hz
      rw [h4]
      exact List.mem_append.mpr (Or.inr List.mem_cons_self)
    · cases E with
      | nil =>
        exfalso
        apply hz
        have : e :: C = Z := by simpa using h4
        rw [← this]
        exact List.mem_cons_self
      | cons x E =>
        have h5 : e = x ∧ C = E ++ Z := by simpa using h4
        exact ⟨D, E, by rw [h3, h5.1], h5.2⟩
  · cases D with
    | nil =>
      have h5 : Y ++ Z = [] ++ e :: C := by simpa using h2.symm
      rcases List.append_eq_append_iff.mp h5 with ⟨E, h3, h4⟩ | ⟨E, h3, h4⟩
      · exfalso
        apply hz
        rw [h4]
        exact List.mem_append.mpr (Or.inr List.mem_cons_self)
      · cases E with
        | nil =>
          exfalso
          apply hz
          have : e :: C = Z := by simpa using h4
          rw [← this]
          exact List.mem_cons_self
        | cons x E =>
          have h6 : e = x ∧ C = E ++ Z := by simpa using h4
          exact ⟨[], E, by rw [h3, h6.1], h6.2⟩
    | cons x D =>
      exfalso
      apply hx
      have h5 : e = x := by
        have := congrArg List.head? h2
        simpa using this
      rw [h1, ← h5]
      exact List.mem_append.mpr (Or.inr List.mem_cons_self)
-- the next program of a LANGUAGE, all sizes
theorem f3_follow_up {N a a1 L : Nat} {g : Lg} {S : St} {p0 : List Nat} (hg : LV g) (ha : a1 + 1 < a) (hN : 13 ≤ N) (hc : CL S a g) (hp : PR S a1 p0) (hL : L ≤ 14) : ∀ (m s n : Nat), s + m = L → m < n →
    (prf g s m = [] → f3_follow_h54 N a a1 (zI L) n (zI ((s : Int) + 1)) S = some (zI 0, S)) ∧
    (∀ s2 q C, prf g s m = (s2, q) :: C → ∃ S2, f3_follow_h54 N a a1 (zI L) n (zI ((s : Int) + 1)) S = some (zI s2, S2) ∧ PR S2 a1 q ∧ Same (rgP a1) S S2) := by
  intro m
  induction m with
  | zero =>
    intro s n hs hn
    obtain ⟨n, rfl⟩ : ∃ z, n = z + 1 := ⟨n - 1, by omega⟩
    refine ⟨fun _ => ?_, fun s2 q C h => (by cases h)⟩
    rw [f3_follow_h54]
    simp (disch := omega) only [nI_z, zI_add, zI_sub, zI_mul, zI_m1, ckI_z, zI_clamp, Int.toNat_natCast, bnd_some, lt, rd_same, rd_ne, rdL_same, rdL_ne, wI_2, wL_1, if_true, if_false, iT_lt, iF_lt, iT_lt0, iF_lt0, iT_0lt, iF_0lt, iT_le, iF_le, iT_le0, iF_le0, iT_0le, iF_0le, iT_eq, iF_eq, iT_eq0, iF_eq0]
    rfl
  | succ m ih =>
    intro s n hs hn
    obtain ⟨n, rfl⟩ : ∃ z, n = z + 1 := ⟨n - 1, by omega⟩
    obtain ⟨w, w1, w2, w3⟩ := f3_fewest_in hc hg ((s : Int) + 1) (by omega)
    have w4 := w3 12 (Nat.le_refl _)
    rw [show ((s : Int) + 1).toNat = s + 1 by omega] at w4
    obtain ⟨ih1, ih2⟩ := ih (s + 1) n (by omega) (by omega)
    rw [f3_follow_h54]
    unfold prf
    cases hh : comp (bit g) (rkf g) 12 (s + 1) with
    | nil =>
      have h12 : ¬ w ≤ 12 := fun q => w4.mp q hh
      rw [List.map_nil, List.nil_append]
      simp (disch := omega) only [w2, nI_z, zI_add, zI_sub, zI_mul, zI_m1, ckI_z, zI_clamp, Int.toNat_natCast, bnd_some, lt, rd_same, rd_ne, rdL_same, rdL_ne, wI_2, wL_1, if_true, if_false, iT_lt, iF_lt, iT_lt0, iF_lt0, iT_0lt, iF_0lt, iT_le, iF_le, iT_le0, iF_le0, iT_0le, iF_0le, iT_eq, iF_eq, iT_eq0, iF_eq0]
      exact ⟨ih1, ih2⟩
    | cons q t =>
      have h12 : w ≤ 12 := w4.mpr (by rw [hh]; exact List.cons_ne_nil _ _)
      refine ⟨fun h => (by cases h), fun s2 q2 C h => ?_⟩
      have he : s + 1 = s2 ∧ q = q2 := by
        rw [List.map_cons, List.cons_append] at h
        injection h with h1 h2
        injection h1 with h3 h4
        exact ⟨h3, h4⟩
      obtain ⟨rfl, rfl⟩ := he
      obtain ⟨S2, e1, e2, e3⟩ := f6_beEmpty_ok (S := S) (a := a1)
      have hc2 : CL S2 a g := hc.same hg e3 (fun c k h1 h2 h3 => by unfold rgP at h3; omega)
      obtain ⟨S3, f1, f2, f3⟩ := f3_fill_in (N := N) (left := s + 1) (q := q) hg ha hN hc2 e2 (by omega) (by rw [List.length_nil, hh]; rfl)
      refine ⟨S3, ?_, by simpa using f2, e3.tr f3⟩
      rw [show ((s + 1 : Nat) : Int) = (s : Int) + 1 from rfl] at f1
      simp (disch := omega) only [w2, e1, f1, nI_z, zI_add, zI_sub, zI_mul, zI_m1, ckI_z, zI_clamp, Int.toNat_natCast, bnd_some, lt, rd_same, rd_ne, rdL_same, rdL_ne, wI_2, wL_1, if_true, if_false, iT_lt, iF_lt, iT_lt0, iF_lt0, iT_0lt, iF_0lt, iT_le, iF_le, iT_le0, iF_le0, iT_0le, iF_0le, iT_eq, iF_eq, iT_eq0, iF_eq0]
      rfl
/-- what follow answers when C is what lies behind its program in the list -/
def Flw (N a a1 L : Nat) (S : St) (C : List (Nat × List Nat)) : Prop :=
  (C = [] → f3_follow N a a1 (zI L) S = some (zI 0, S)) ∧ ∀ s q C2, C = (s, q) :: C2 → ∃ S2, f3_follow N a a1 (zI L) S = some (zI s, S2) ∧ PR S2 a1 q ∧ Same (rgP a1) S S2
theorem f3_follow_first {N a a1 L : Nat} {g : Lg} {S : St} (hg : LV g) (ha : a1 + 1 < a) (hN : 20 ≤ N) (hc : CL S a g) (hp : PR S a1 []) (hL : L ≤ 14) : Flw N a a1 L S (progs (bit g) (rkf g) L) := by
  have h := f3_follow_up hg ha (by omega : 13 ≤ N) hc hp hL L 0 N (by omega) (by omega)
  have hpp := progs_prf g L 0
  rw [Nat.zero_add] at hpp
  have hpp2 : progs (bit g) (rkf g) L = prf g 0 L := by rw [hpp]; rfl
  have hx : f3_follow N a a1 (zI L) S = f3_follow_h54 N a a1 (zI L) N (zI (((0 : Nat) : Int) + 1)) S := by
    unfold f3_follow
    rw [f6_length_eq hp]
    simp (disch := omega) only [List.length_nil, f3_follow_j16, f3_follow_j49, nI_z, zI_add, zI_sub, zI_mul, zI_m1, ckI_z, zI_clamp, Int.toNat_natCast, bnd_some, lt, rd_same, rd_ne, rdL_same, rdL_ne, wI_2, wL_1, if_true, if_false, iT_lt, iF_lt, iT_lt0, iF_lt0, iT_0lt, iF_0lt, iT_le, iF_le, iT_le0, iF_le0, iT_0le, iF_0le, iT_eq, iF_eq, iT_eq0, iF_eq0]
    rfl
  unfold Flw
  rw [hpp2, hx]
  exact h
theorem f3_follow_next {N a a1 L B : Nat} {g : Lg} {S : St} {p : List Nat} {A C : List (Nat × List Nat)} (hg : LV g) (ha : a1 + 1 < a) (hN : 20 ≤ N) (hc : CL S a g) (hp : PR S a1 p) (hL : L ≤ 14) (hs : progs (bit g) (rkf g) L = A ++ (B, p) :: C) : Flw N a a1 L S C := by
  obtain ⟨hB1, hB2, hB3⟩ := progs_mem (g := g) (B := L) (e := (B, p)) (by rw [hs]; exact List.mem_append.mpr (Or.inr List.mem_cons_self))
  have hB1 : 1 ≤ B := hB1
  have hB2 : B ≤ L := hB2
  have hB3 : p ∈ comp (bit g) (rkf g) 12 B := hB3
  obtain ⟨hp1, hp2, hp3⟩ := comp_mem hg 12 B p hB3
  have hpp := progs_prf g (L - B) B
  rw [show B + (L - B) = L by omega] at hpp
  have hpB : progs (bit g) (rkf g) B = progs (bit g) (rkf g) (B - 1) ++ (comp (bit g) (rkf g) 12 B).map (fun q => (B, q)) := by
    obtain ⟨b, rfl⟩ : ∃ b, B = b + 1 := ⟨B - 1, by omega⟩
    rfl
  rw [hpB] at hpp
  obtain ⟨A2, B2, m1, m2⟩ := mid_split (hpp.symm.trans hs) (fun h => by have h2 := (progs_mem h).2.1; simp only at h2; omega) (fun h => by have h2 := (prf_mem h).1; simp only at h2; omega)
  obtain ⟨A3, T3, n1, n2, n3⟩ := List.map_eq_append_iff.mp m1
  obtain ⟨p2, B3, k1, k2, k3⟩ := List.map_eq_cons_iff.mp n3
  have hpe : p2 = p := by injection k2
  subst hpe
  have hnx := nxt_spec (rkf_nodup g) 12 B p2 A3 B3 (by rw [n1, k1])
  have hlast : p2.getLast? = some 0 := by
    have hl0 : 0 < p2.length := List.length_pos_iff.mpr hp2.1
    have hi : p2[p2.length - 1]? = some p2[p2.length - 1] := List.getElem?_eq_getElem (by omega)
    have h0 := (hp2.2.2 _ _ hi).mpr (by omega)
    rw [List.getLast?_eq_getElem?, hi, h0]
  have hsz := f3_sizeOf_in (N := N) hg hc hp (by omega)
  have hall : p2.all (fun x => decide (x < g.1.length)) = true := List.all_eq_true.mpr (fun x hx => decide_eq_true (hp2.2.1 x hx))
  unfold szI at hsz
  rw [if_pos hlast, if_pos hall, hp3] at hsz
  have hl0 : 0 < p2.length := List.length_pos_iff.mpr hp2.1
  obtain ⟨b1, b2⟩ := f3_next_in (N := N) hg ha (by omega) hc hp hp2 hp3 (by omega)
  obtain ⟨u1, u2⟩ := f3_follow_up (N := N) hg ha (by omega) hc hp hL (L - B) B N (by omega) (by omega)
  unfold Flw f3_follow
  rw [f6_length_eq hp]
  have hz : ((B : Int) + ((1 : Nat) : Int)) = (B : Int) + 1 := rfl
  cases B3 with
  | nil =>
    have hb := b2 (by rw [hnx]; rfl)
    have hC : C = prf g B (L - B) := by rw [m2, ← k3]; rfl
    rw [hC]
    simp (disch := omega) only [hsz, f3_follow_j16, f3_follow_j49, hb, hz, nI_z, zI_add, zI_sub, zI_mul, zI_m1, ckI_z, zI_clamp, Int.toNat_natCast, bnd_some, lt, rd_same, rd_ne, rdL_same, rdL_ne, wI_2, wL_1, if_true, if_false, iT_lt, iF_lt, iT_lt0, iF_lt0, iT_0lt, iF_0lt, iT_le, iF_le, iT_le0, iF_le0, iT_0le, iF_0le, iT_eq, iF_eq, iT_eq0, iF_eq0]
    exact ⟨u1, u2⟩
  | cons r B3 =>
    obtain ⟨S2, b3, b4, b5⟩ := b1 r (by rw [hnx]; rfl)
    have hC : C = (B, r) :: (B3.map (fun q => (B, q)) ++ prf g B (L - B)) := by rw [m2, ← k3]; rfl
    rw [hC]
    refine ⟨fun h => (by cases h), fun s q C2 h => ?_⟩
    have he : B = s ∧ r = q := by
      injection h with h1 h2
      injection h1 with h3 h4
      exact ⟨h3, h4⟩
    obtain ⟨rfl, rfl⟩ := he
    refine ⟨S2, ?_, b4, b5⟩
    simp (disch := omega) only [hsz, f3_follow_j16, b3, nI_z, zI_add, zI_sub, zI_mul, zI_m1, ckI_z, zI_clamp, Int.toNat_natCast, bnd_some, lt, rd_same, rd_ne, rdL_same, rdL_ne, wI_2, wL_1, if_true, if_false, iT_lt, iF_lt, iT_lt0, iF_lt0, iT_0lt, iF_0lt, iT_le, iF_le, iT_le0, iF_le0, iT_0le, iF_0le, iT_eq, iF_eq, iT_eq0, iF_eq0]
