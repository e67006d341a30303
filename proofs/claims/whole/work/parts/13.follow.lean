/-! The class's PROGRAM objects, and how one becomes the next in order. -/
def rgP (a c k : Nat) : Prop := c = a ∨ c = a + 1
theorem PR.same {P : Nat → Nat → Prop} {S S2 : St} {a : Nat} {p : List Nat} (h : PR S a p) (hs : Same P S S2) (h1 : ∀ k, ¬ P a k) (h2 : ∀ k, ¬ P (a + 1) k) : PR S2 a p := by
  unfold PR
  rw [hs.i (h1 1), hs.row h2]
  exact h
theorem f6_push_ok {S : St} {a x : Nat} {p : List Nat} (h : PR S a p) (hp : p.length < 12) (hx : x < 12) : ∃ S2, f6_push a (zI x) S = some (zI 1, S2) ∧ PR S2 a (p ++ [x]) ∧ Same (rgP a) S S2 := by
  obtain ⟨h1, h2, h3, h4⟩ := h
  refine ⟨wI (wI S (a + 1) p.length (zI x)) a 1 (zI (p.length + 1)), ?_, ⟨?_, ?_, ?_, ?_⟩, ?_⟩
  · unfold f6_push
    simp (disch := omega) only [h1, nI_z, zI_add, zI_sub, zI_mul, zI_m1, ckI_z, zI_clamp, Int.toNat_natCast, bnd_some, lt, rd_same, rd_ne, rdL_same, rdL_ne, wI_2, wL_1, if_true, if_false, iT_lt, iF_lt, iT_lt0, iF_lt0, iT_0lt, iF_0lt, iT_le, iF_le, iT_le0, iF_le0, iT_0le, iF_0le, iT_eq, iF_eq, iT_eq0, iF_eq0]
    rfl
  · simp (disch := omega) only [List.length_append, List.length_singleton, nI_z, zI_add, zI_sub, zI_mul, zI_m1, ckI_z, zI_clamp, Int.toNat_natCast, bnd_some, lt, rd_same, rd_ne, rdL_same, rdL_ne, wI_2, wL_1, if_true, if_false, iT_lt, iF_lt, iT_lt0, iF_lt0, iT_0lt, iF_0lt, iT_le, iF_le, iT_le0, iF_le0, iT_0le, iF_0le, iT_eq, iF_eq, iT_eq0, iF_eq0]
    rfl
  · simp; omega
  · intro y hy
    rcases List.mem_append.mp hy with hy | hy
    · exact h3 y hy
    · rw [List.mem_singleton.mp hy]; exact hx
  · intro i y hi
    have hlt : i < p.length + 1 := by
      have := (List.getElem?_eq_some_iff.mp hi).1
      simpa using this
    by_cases e : i = p.length
    · subst e
      have : y = x := by simpa [eq_comm] using hi
      subst this
      simp (disch := omega) only [Nat.zero_add, nI_z, zI_add, zI_sub, zI_mul, zI_m1, ckI_z, zI_clamp, Int.toNat_natCast, bnd_some, lt, rd_same, rd_ne, rdL_same, rdL_ne, wI_2, wL_1, if_true, if_false, iT_lt, iF_lt, iT_lt0, iF_lt0, iT_0lt, iF_0lt, iT_le, iF_le, iT_le0, iF_le0, iT_0le, iF_0le, iT_eq, iF_eq, iT_eq0, iF_eq0]
    · have hi2 : p[i]? = some y := by rw [List.getElem?_append_left (by omega)] at hi; exact hi
      have := h4 i y hi2
      rw [Nat.zero_add] at this ⊢
      simp (disch := omega) only [this, nI_z, zI_add, zI_sub, zI_mul, zI_m1, ckI_z, zI_clamp, Int.toNat_natCast, bnd_some, lt, rd_same, rd_ne, rdL_same, rdL_ne, wI_2, wL_1, if_true, if_false, iT_lt, iF_lt, iT_lt0, iF_lt0, iT_0lt, iF_0lt, iT_le, iF_le, iT_le0, iF_le0, iT_0le, iF_0le, iT_eq, iF_eq, iT_eq0, iF_eq0]
  · exact (Same.rfl'.wI (Or.inr rfl)).wI (Or.inl rfl)
theorem f6_beEmpty_ok {S : St} {a : Nat} : ∃ S2, f6_beEmpty a S = some ((), S2) ∧ PR S2 a [] ∧ Same (rgP a) S S2 := by
  refine ⟨wI S a 1 (nI 0), rfl, ⟨?_, by decide, fun x h => (by cases h), fun i x h => (by cases h)⟩, Same.rfl'.wI (Or.inl rfl)⟩
  simp (disch := omega) only [nI_z, zI_add, zI_sub, zI_mul, zI_m1, ckI_z, zI_clamp, Int.toNat_natCast, bnd_some, lt, rd_same, rd_ne, rdL_same, rdL_ne, wI_2, wL_1, if_true, if_false, iT_lt, iF_lt, iT_lt0, iF_lt0, iT_0lt, iF_0lt, iT_le, iF_le, iT_le0, iF_le0, iT_0le, iF_0le, iT_eq, iF_eq, iT_eq0, iF_eq0]
  rfl
theorem f6_cut_ok {S : St} {a i : Nat} {p : List Nat} (h : PR S a p) (hi : i < p.length) : ∃ S2, f6_cut a (zI i) S = some ((), S2) ∧ PR S2 a (p.take i) ∧ Same (rgP a) S S2 := by
  obtain ⟨h1, h2, h3, h4⟩ := h
  refine ⟨wI S a 1 (zI i), ?_, ⟨?_, ?_, ?_, ?_⟩, ?_⟩
  · unfold f6_cut
    simp (disch := omega) only [h1, nI_z, zI_add, zI_sub, zI_mul, zI_m1, ckI_z, zI_clamp, Int.toNat_natCast, bnd_some, lt, rd_same, rd_ne, rdL_same, rdL_ne, wI_2, wL_1, if_true, if_false, iT_lt, iF_lt, iT_lt0, iF_lt0, iT_0lt, iF_0lt, iT_le, iF_le, iT_le0, iF_le0, iT_0le, iF_0le, iT_eq, iF_eq, iT_eq0, iF_eq0]
  · simp (disch := omega) only [List.length_take, nI_z, zI_add, zI_sub, zI_mul, zI_m1, ckI_z, zI_clamp, Int.toNat_natCast, bnd_some, lt, rd_same, rd_ne, rdL_same, rdL_ne, wI_2, wL_1, if_true, if_false, iT_lt, iF_lt, iT_lt0, iF_lt0, iT_0lt, iF_0lt, iT_le, iF_le, iT_le0, iF_le0, iT_0le, iF_0le, iT_eq, iF_eq, iT_eq0, iF_eq0]
    congr 1
    omega
  · rw [List.length_take]; omega
  · intro x hx
    exact h3 x (List.mem_of_mem_take hx)
  · intro j x hj
    have hj2 : p[j]? = some x := by
      rw [List.getElem?_take] at hj
      by_cases e : j < i
      · rwa [if_pos e] at hj
      · rw [if_neg e] at hj; cases hj
    have := h4 j x hj2
    rw [Nat.zero_add] at this ⊢
    simp (disch := omega) only [this, nI_z, zI_add, zI_sub, zI_mul, zI_m1, ckI_z, zI_clamp, Int.toNat_natCast, bnd_some, lt, rd_same, rd_ne, rdL_same, rdL_ne, wI_2, wL_1, if_true, if_false, iT_lt, iF_lt, iT_lt0, iF_lt0, iT_0lt, iF_0lt, iT_le, iF_le, iT_le0, iF_le0, iT_0le, iF_0le, iT_eq, iF_eq, iT_eq0, iF_eq0]
  · exact Same.rfl'.wI (Or.inl rfl)
theorem CL.same {P : Nat → Nat → Prop} {S S2 : St} {a : Nat} {g : Lg} (h : CL S a g) (hg : LV g) (hs : Same P S S2) (h1 : ∀ c k, a ≤ c → c ≤ a + 10 → ¬ P c k) : CL S2 a g := by
  obtain ⟨e0, e1, e2, e3, e4, e5⟩ := h
  have hp := hg.2.1
  have r : ∀ i, i ≤ 10 → S2.1 (a + i) = S.1 (a + i) := fun i hi => hs.row (fun k => h1 (a + i) k (by omega) (by omega))
  have r0 := r 0 (by omega)
  rw [Nat.add_zero] at r0
  refine ⟨by rw [r0]; exact e0, by rw [r 1 (by omega)]; exact e1, by rw [r 2 (by omega)]; exact e2, by rw [r 3 (by omega)]; exact e3, fun i q hi => ?_, by rw [r 10 (by omega)]; exact e5⟩
  have hlt := (List.getElem?_eq_some_iff.mp hi).1
  rw [r 9 (by omega), show a + 5 + i = a + (5 + i) by omega, r (5 + i) (by omega)]
  have := e4 i q hi
  rw [show a + 5 + i = a + (5 + i) by omega] at this
  exact this
-- the rank of an order, and what fits
theorem f3_rankOf_loop {S : St} {N a o : Nat} {g : Lg} (h : CL S a g) (hg : LV g) (hm : o < g.1.length) : ∀ (m i n : Nat), i + m = (rkf g).idxOf o → m < n → f3_rankOf_h2 N a (zI o) n (zI i) S = some (zI ((rkf g).idxOf o), S) := by
  have h1 := h.1
  have hl := hg.len
  have hx : (rkf g).idxOf o < g.1.length := by rw [← rkf_len hg]; exact List.idxOf_lt_length_iff.mpr ((mem_rkf hg).mpr hm)
  intro m
  induction m with
  | zero =>
    intro i n hi hn
    obtain ⟨n, rfl⟩ : ∃ z, n = z + 1 := ⟨n - 1, by omega⟩
    have hi2 : i = (rkf g).idxOf o := by omega
    have hxl : i < (rkf g).length := by rw [rkf_len hg]; omega
    have hr : (rkf g)[i]? = some o := by subst hi2; rw [List.getElem?_eq_getElem hxl, List.getElem_idxOf]
    have h3 := h.2.2.2.1 i o hr
    rw [Nat.zero_add] at h3
    rw [f3_rankOf_h2]
    simp (disch := omega) only [h1, h3, nI_z, zI_add, zI_sub, zI_mul, zI_m1, ckI_z, zI_clamp, Int.toNat_natCast, bnd_some, lt, rd_same, rd_ne, rdL_same, rdL_ne, wI_2, wL_1, if_true, if_false, iT_lt, iF_lt, iT_lt0, iF_lt0, iT_0lt, iF_0lt, iT_le, iF_le, iT_le0, iF_le0, iT_0le, iF_0le, iT_eq, iF_eq, iT_eq0, iF_eq0]
    rw [hi2]
  | succ m ih =>
    intro i n hi hn
    obtain ⟨n, rfl⟩ : ∃ z, n = z + 1 := ⟨n - 1, by omega⟩
    have hlt : i < (rkf g).length := by rw [rkf_len hg]; omega
    have hr : (rkf g)[i]? = some (rkf g)[i] := List.getElem?_eq_getElem hlt
    have h3 := h.2.2.2.1 i _ hr
    rw [Nat.zero_add] at h3
    have hne : (rkf g)[i] ≠ o := fun e => by
      have := (rkf_nodup g).idxOf_getElem i hlt
      rw [e] at this
      omega
    have ho : (rkf g)[i] < g.1.length := (mem_rkf hg).mp (List.getElem_mem hlt)
    rw [f3_rankOf_h2]
    simp (disch := omega) only [h1, h3, nI_z, zI_add, zI_sub, zI_mul, zI_m1, ckI_z, zI_clamp, Int.toNat_natCast, bnd_some, lt, rd_same, rd_ne, rdL_same, rdL_ne, wI_2, wL_1, if_true, if_false, iT_lt, iF_lt, iT_lt0, iF_lt0, iT_0lt, iF_0lt, iT_le, iF_le, iT_le0, iF_le0, iT_0le, iF_0le, iT_eq, iF_eq, iT_eq0, iF_eq0]
    have := ih (i + 1) n (by omega) (by omega)
    simpa [nI_z, zI_add] using this
theorem f3_rankOf_in {S : St} {N a o : Nat} {g : Lg} (h : CL S a g) (hg : LV g) (hm : o < g.1.length) (hN : 13 ≤ N) : f3_rankOf N a (zI o) S = some (zI ((rkf g).idxOf o), S) := by
  have hl := hg.len
  have hx : (rkf g).idxOf o < g.1.length := by rw [← rkf_len hg]; exact List.idxOf_lt_length_iff.mpr ((mem_rkf hg).mpr hm)
  exact f3_rankOf_loop h hg hm ((rkf g).idxOf o) 0 N (by omega) (by omega)
theorem f3_fewest_in {S : St} {a : Nat} {g : Lg} (h : CL S a g) (hg : LV g) (z : Int) (hz : -1000 ≤ z ∧ z ≤ 14) : ∃ w : Nat, w ≤ 1001 ∧ f3_fewestFor a (zI z) S = some (zI w, S) ∧ ∀ d, d ≤ 12 → (w ≤ d ↔ comp (bit g) (rkf g) d z.toNat ≠ []) := by
  by_cases hn : z < 0
  · refine ⟨1000, by omega, ?_, fun d hd => ?_⟩
    · unfold f3_fewestFor
      simp (disch := omega) only [nI_z, zI_add, zI_sub, zI_mul, zI_m1, ckI_z, zI_clamp, Int.toNat_natCast, bnd_some, lt, rd_same, rd_ne, rdL_same, rdL_ne, wI_2, wL_1, if_true, if_false, iT_lt, iF_lt, iT_lt0, iF_lt0, iT_0lt, iF_0lt, iT_le, iF_le, iT_le0, iF_le0, iT_0le, iF_0le, iT_eq, iF_eq, iT_eq0, iF_eq0]
    · rw [show z.toNat = 0 by omega, comp_0 (fun o => (bit_pos hg o).1)]
      exact ⟨fun q => absurd q (by omega), fun q => absurd rfl q⟩
  · obtain ⟨s, rfl⟩ : ∃ s : Nat, z = s := ⟨z.toNat, by omega⟩
    obtain ⟨w, h1, h2, h3⟩ := h.2.2.2.2.2 s (by omega)
    refine ⟨w, h1, ?_, h3⟩
    unfold f3_fewestFor
    simp (disch := omega) only [h2, nI_z, zI_add, zI_sub, zI_mul, zI_m1, ckI_z, zI_clamp, Int.toNat_natCast, bnd_some, lt, rd_same, rd_ne, rdL_same, rdL_ne, wI_2, wL_1, if_true, if_false, iT_lt, iF_lt, iT_lt0, iF_lt0, iT_0lt, iF_0lt, iT_le, iF_le, iT_le0, iF_le0, iT_0le, iF_0le, iT_eq, iF_eq, iT_eq0, iF_eq0]
/-- what the class answers for an order or none -/
def opI : Option Nat → Int32
  | some o => zI o
  | none => zI (-1)
/-- an order with which a row of d+1 orders that fills 'left' begins -/
def ft (g : Lg) (d left o : Nat) : Bool := !(block (bit g) (comp (bit g) (rkf g) d) left o).isEmpty
theorem ft_0 {g : Lg} {d left : Nat} : ft g d left 0 = true ↔ left = bit g 0 := by
  unfold ft block
  rw [if_pos rfl]
  by_cases h : left = bit g 0
  · rw [if_pos h]; exact ⟨fun _ => h, fun _ => rfl⟩
  · rw [if_neg h]; exact ⟨fun q => absurd q (by decide), fun q => absurd q h⟩
theorem ft_s {g : Lg} {d left o : Nat} (ho : o ≠ 0) : ft g d left o = true ↔ comp (bit g) (rkf g) d (left - bit g o) ≠ [] := by
  unfold ft block
  rw [if_neg ho]
  cases comp (bit g) (rkf g) d (left - bit g o) with
  | nil => exact ⟨fun q => (by cases q), fun q => absurd rfl q⟩
  | cons x t => exact ⟨fun _ q => (by cases q), fun _ => rfl⟩
theorem f3_firstThatFits_loop {S : St} {N a d : Nat} {g : Lg} (h : CL S a g) (hg : LV g) (left D : Int) (hl : -900 ≤ left ∧ left ≤ 14) (hd : d ≤ 11) (hD : D = d + 1) : ∀ (m i n : Nat), i + m = g.1.length → m < n → f3_firstThatFits_h7 N a (zI left) (zI D) n (zI i) S = some (opI (((rkf g).drop i).find? (ft g d left.toNat)), S) := by
  have h1 := h.1
  have hgl := hg.len
  intro m
  induction m with
  | zero =>
    intro i n hi hn
    obtain ⟨n, rfl⟩ : ∃ z, n = z + 1 := ⟨n - 1, by omega⟩
    rw [List.drop_eq_nil_of_le (by rw [rkf_len hg]; omega)]
    rw [f3_firstThatFits_h7]
    simp (disch := omega) only [h1, nI_z, zI_add, zI_sub, zI_mul, zI_m1, ckI_z, zI_clamp, Int.toNat_natCast, bnd_some, lt, rd_same, rd_ne, rdL_same, rdL_ne, wI_2, wL_1, if_true, if_false, iT_lt, iF_lt, iT_lt0, iF_lt0, iT_0lt, iF_0lt, iT_le, iF_le, iT_le0, iF_le0, iT_0le, iF_0le, iT_eq, iF_eq, iT_eq0, iF_eq0]
    rfl
  | succ m ih =>
    intro i n hi hn
    obtain ⟨n, rfl⟩ : ∃ z, n = z + 1 := ⟨n - 1, by omega⟩
    have hlt : i < (rkf g).length := by rw [rkf_len hg]; omega
    have hr : (rkf g)[i]? = some (rkf g)[i] := List.getElem?_eq_getElem hlt
    have ho : (rkf g)[i] < g.1.length := (mem_rkf hg).mp (List.getElem_mem hlt)
    rw [List.drop_eq_getElem_cons hlt, List.find?_cons]
    generalize (rkf g)[i] = o at hr ho
    have h3 := h.2.2.2.1 i o hr
    rw [Nat.zero_add] at h3
    have hb := bit_pos hg o
    have ih1 := ih (i + 1) n (by omega) (by omega)
    rw [f3_firstThatFits_h7]
    by_cases e0 : o = 0
    · subst e0
      by_cases e1 : left = bit g 0
      · have hf : ft g d left.toNat 0 = true := ft_0.mpr (by omega)
        simp (disch := omega) only [h1, h3, f3_bitsOf_in h hg ho, f3_firstThatFits_j73, hf, nI_z, zI_add, zI_sub, zI_mul, zI_m1, ckI_z, zI_clamp, Int.toNat_natCast, bnd_some, lt, rd_same, rd_ne, rdL_same, rdL_ne, wI_2, wL_1, if_true, if_false, iT_lt, iF_lt, iT_lt0, iF_lt0, iT_0lt, iF_0lt, iT_le, iF_le, iT_le0, iF_le0, iT_0le, iF_0le, iT_eq, iF_eq, iT_eq0, iF_eq0]
        rfl
      · have hf : ft g d left.toNat 0 = false := by
          rw [← Bool.not_eq_true, ft_0]; omega
        have := bit_pos hg 0
        simp (disch := omega) only [h1, h3, f3_bitsOf_in h hg ho, f3_firstThatFits_j73, hf, nI_z, zI_add, zI_sub, zI_mul, zI_m1, ckI_z, zI_clamp, Int.toNat_natCast, bnd_some, lt, rd_same, rd_ne, rdL_same, rdL_ne, wI_2, wL_1, if_true, if_false, iT_lt, iF_lt, iT_lt0, iF_lt0, iT_0lt, iF_0lt, iT_le, iF_le, iT_le0, iF_le0, iT_0le, iF_0le, iT_eq, iF_eq, iT_eq0, iF_eq0]
        exact ih1
    · obtain ⟨w, w1, w2, w3⟩ := f3_fewest_in h hg (left - bit g o) (by omega)
      have hz : (left - (bit g o : Int)).toNat = left.toNat - bit g o := by omega
      rw [hz] at w3
      by_cases e1 : w ≤ d
      · have hf : ft g d left.toNat o = true := (ft_s e0).mpr ((w3 d (by omega)).mp e1)
        simp (disch := omega) only [h1, h3, f3_bitsOf_in h hg ho, f3_firstThatFits_j73, hf, w2, nI_z, zI_add, zI_sub, zI_mul, zI_m1, ckI_z, zI_clamp, Int.toNat_natCast, bnd_some, lt, rd_same, rd_ne, rdL_same, rdL_ne, wI_2, wL_1, if_true, if_false, iT_lt, iF_lt, iT_lt0, iF_lt0, iT_0lt, iF_0lt, iT_le, iF_le, iT_le0, iF_le0, iT_0le, iF_0le, iT_eq, iF_eq, iT_eq0, iF_eq0]
        rfl
      · have hf : ft g d left.toNat o = false := by
          rw [← Bool.not_eq_true, ft_s e0]
          exact fun q => e1 ((w3 d (by omega)).mpr q)
        simp (disch := omega) only [h1, h3, f3_bitsOf_in h hg ho, f3_firstThatFits_j73, hf, w2, nI_z, zI_add, zI_sub, zI_mul, zI_m1, ckI_z, zI_clamp, Int.toNat_natCast, bnd_some, lt, rd_same, rd_ne, rdL_same, rdL_ne, wI_2, wL_1, if_true, if_false, iT_lt, iF_lt, iT_lt0, iF_lt0, iT_0lt, iF_0lt, iT_le, iF_le, iT_le0, iF_le0, iT_0le, iF_0le, iT_eq, iF_eq, iT_eq0, iF_eq0]
        exact ih1
theorem f3_firstThatFits_in {S : St} {N a d i : Nat} {g : Lg} (h : CL S a g) (hg : LV g) (left D : Int) (hl : -900 ≤ left ∧ left ≤ 14) (hd : d ≤ 11) (hD : D = d + 1) (hi : i ≤ 12) (hN : 13 ≤ N) : f3_firstThatFits N a (zI i) (zI left) (zI D) S = some (opI (((rkf g).drop i).find? (ft g d left.toNat)), S) := by
  have hm : maxI (zI i) (nI 0) = zI i := by
    unfold maxI
    by_cases e : i = 0
    · subst e; rfl
    · simp (disch := omega) only [nI_z, zI_add, zI_sub, zI_mul, zI_m1, ckI_z, zI_clamp, Int.toNat_natCast, bnd_some, lt, rd_same, rd_ne, rdL_same, rdL_ne, wI_2, wL_1, if_true, if_false, iT_lt, iF_lt, iT_lt0, iF_lt0, iT_0lt, iF_0lt, iT_le, iF_le, iT_le0, iF_le0, iT_0le, iF_0le, iT_eq, iF_eq, iT_eq0, iF_eq0]
  have hgl := hg.len
  unfold f3_firstThatFits
  rw [hm]
  by_cases e : i ≤ g.1.length
  · exact f3_firstThatFits_loop h hg left D hl hd hD (g.1.length - i) i N (by omega) (by omega)
  · obtain ⟨n, rfl⟩ : ∃ z, N = z + 1 := ⟨N - 1, by omega⟩
    have h1 := h.1
    rw [List.drop_eq_nil_of_le (by rw [rkf_len hg]; omega)]
    simp (disch := omega) only [f3_firstThatFits_h7, h1, nI_z, zI_add, zI_sub, zI_mul, zI_m1, ckI_z, zI_clamp, Int.toNat_natCast, bnd_some, lt, rd_same, rd_ne, rdL_same, rdL_ne, wI_2, wL_1, if_true, if_false, iT_lt, iF_lt, iT_lt0, iF_lt0, iT_0lt, iF_0lt, iT_le, iF_le, iT_le0, iF_le0, iT_0le, iF_0le, iT_eq, iF_eq, iT_eq0, iF_eq0]
    rfl
theorem head_flat {α β : Type} {f : α → List β} : ∀ {l : List α}, (l.flatMap f).head? = (l.find? (fun o => !(f o).isEmpty)).bind (fun o => (f o).head?)
  | [] => rfl
  | a :: t => by
    rw [List.flatMap_cons, head_app, List.find?_cons, head_flat (l := t)]
    cases h : f a with
    | nil => rfl
    | cons x r => simp [h]
theorem find_ft {g : Lg} {d left : Nat} {l : List Nat} : (l.flatMap (block (bit g) (comp (bit g) (rkf g) d) left)).head? = (l.find? (ft g d left)).bind (fun o => (block (bit g) (comp (bit g) (rkf g) d) left o).head?) := head_flat
/-- filling: the first row that fills what is left -/
theorem f3_fill_loop {N a a1 : Nat} {g : Lg} (hg : LV g) (ha : a1 + 1 < a) (hN : 13 ≤ N) : ∀ (m n : Nat) (S : St) (p q : List Nat) (left : Nat), CL S a g → PR S a1 p → p.length + m = 12 → m < n → left ≤ 14 → (comp (bit g) (rkf g) m left).head? = some q → ∃ S2, f3_fill_h8 N a a1 n (zI left) (zI p.length) S = some ((), S2) ∧ PR S2 a1 (p ++ q) ∧ Same (rgP a1) S S2 := by
  intro m
  induction m with
  | zero =>
    intro n S p q left hc hp hm hn hl hq
    simp [comp] at hq
  | succ m ih =>
    intro n S p q left hc hp hm hn hl hq
    obtain ⟨n, rfl⟩ : ∃ z, n = z + 1 := ⟨n - 1, by omega⟩
    have hl0 : 0 < left := by
      rcases Nat.eq_zero_or_pos left with e | e
      · subst e
        rw [comp_0 (fun o => (bit_pos hg o).1)] at hq
        cases hq
      · exact e
    unfold comp at hq
    rw [find_ft] at hq
    have hfit := f3_firstThatFits_in (N := N) (i := 0) (d := m) hc hg (left : Int) (((12 : Nat) : Int) - (p.length : Int)) (by omega) (by omega) (by omega) (by omega) hN
    rw [List.drop_zero, Int.toNat_natCast] at hfit
    cases ho : (rkf g).find? (ft g m left) with
    | none => rw [ho] at hq; cases hq
    | some o =>
      rw [ho] at hq hfit
      have hq2 : (block (bit g) (comp (bit g) (rkf g) m) left o).head? = some q := hq
      have hog : o < g.1.length := (mem_rkf hg).mp (List.mem_of_find?_eq_some ho)
      have hgl := hg.len
      have hb := bit_pos hg o
      obtain ⟨S2, e1, e2, e3⟩ := f6_push_ok hp (x := o) (by omega) (by omega)
      have hc2 : CL S2 a g := hc.same hg e3 (fun c k h1 h2 h3 => by unfold rgP at h3; omega)
      rw [f3_fill_h8]
      simp (disch := omega) only [hfit, opI, e1, f3_bitsOf_in hc2 hg hog, nI_z, zI_add, zI_sub, zI_mul, zI_m1, ckI_z, zI_clamp, Int.toNat_natCast, bnd_some, lt, rd_same, rd_ne, rdL_same, rdL_ne, wI_2, wL_1, if_true, if_false, iT_lt, iF_lt, iT_lt0, iF_lt0, iT_0lt, iF_0lt, iT_le, iF_le, iT_le0, iF_le0, iT_0le, iF_0le, iT_eq, iF_eq, iT_eq0, iF_eq0]
      by_cases h0 : o = 0
      · subst h0
        have hbl : left = bit g 0 ∧ q = [0] := by
          unfold block at hq2
          rw [if_pos rfl] at hq2
          by_cases h : left = bit g 0
          · rw [if_pos h] at hq2; exact ⟨h, by simpa [eq_comm] using hq2⟩
          · rw [if_neg h] at hq2; cases hq2
        obtain ⟨n, rfl⟩ : ∃ z, n = z + 1 := ⟨n - 1, by omega⟩
        refine ⟨S2, ?_, by rw [hbl.2]; exact e2, e3⟩
        rw [f3_fill_h8]
        by_cases h12 : p.length + 1 = 12
        · simp (disch := omega) only [nI_z, zI_add, zI_sub, zI_mul, zI_m1, ckI_z, zI_clamp, Int.toNat_natCast, bnd_some, lt, rd_same, rd_ne, rdL_same, rdL_ne, wI_2, wL_1, if_true, if_false, iT_lt, iF_lt, iT_lt0, iF_lt0, iT_0lt, iF_0lt, iT_le, iF_le, iT_le0, iF_le0, iT_0le, iF_0le, iT_eq, iF_eq, iT_eq0, iF_eq0]
        · simp (disch := omega) only [nI_z, zI_add, zI_sub, zI_mul, zI_m1, ckI_z, zI_clamp, Int.toNat_natCast, bnd_some, lt, rd_same, rd_ne, rdL_same, rdL_ne, wI_2, wL_1, if_true, if_false, iT_lt, iF_lt, iT_lt0, iF_lt0, iT_0lt, iF_0lt, iT_le, iF_le, iT_le0, iF_le0, iT_0le, iF_0le, iT_eq, iF_eq, iT_eq0, iF_eq0]
      · unfold block at hq2
        rw [if_neg h0, List.head?_map] at hq2
        cases hh : (comp (bit g) (rkf g) m (left - bit g o)).head? with
        | none => rw [hh] at hq2; cases hq2
        | some q2 =>
          rw [hh] at hq2
          have hqe : q = o :: q2 := by simpa [eq_comm] using hq2
          have hle : bit g o ≤ left := by
            rcases Nat.lt_or_ge left (bit g o) with e | e
            · rw [show left - bit g o = 0 by omega, comp_0 (fun o => (bit_pos hg o).1)] at hh
              cases hh
            · exact e
          obtain ⟨S3, f1, f2, f3⟩ := ih n S2 (p ++ [o]) q2 (left - bit g o) hc2 e2 (by simp; omega) (by omega) (by omega) hh
          refine ⟨S3, ?_, ?_, e3.tr f3⟩
          · rw [← f1]
            congr 2
            · omega
            · simp
          · rw [hqe]
            simpa using f2
theorem f3_fill_in {N a a1 : Nat} {g : Lg} {S : St} {p q : List Nat} {left : Nat} (hg : LV g) (ha : a1 + 1 < a) (hN : 13 ≤ N) (hc : CL S a g) (hp : PR S a1 p) (hl : left ≤ 14) (hq : (comp (bit g) (rkf g) (12 - p.length) left).head? = some q) : ∃ S2, f3_fill N a a1 (zI left) S = some ((), S2) ∧ PR S2 a1 (p ++ q) ∧ Same (rgP a1) S S2 := by
  have h2 := hp.2.1
  obtain ⟨S2, h3, h4, h5⟩ := f3_fill_loop hg ha hN (12 - p.length) N S p q left hc hp (by omega) (by omega) hl hq
  refine ⟨S2, ?_, h4, h5⟩
  unfold f3_fill
  rw [f6_length_eq hp, bnd_some]
  exact h3
theorem f3_fill_0 {N a a1 : Nat} {S : St} {p : List Nat} (hN : 13 ≤ N) (hp : PR S a1 p) : f3_fill N a a1 (zI 0) S = some ((), S) := by
  have h2 := hp.2.1
  obtain ⟨n, rfl⟩ : ∃ z, N = z + 1 := ⟨N - 1, by omega⟩
  unfold f3_fill
  rw [f6_length_eq hp, bnd_some, f3_fill_h8]
  by_cases h12 : p.length = 12
  · simp (disch := omega) only [nI_z, zI_add, zI_sub, zI_mul, zI_m1, ckI_z, zI_clamp, Int.toNat_natCast, bnd_some, lt, rd_same, rd_ne, rdL_same, rdL_ne, wI_2, wL_1, if_true, if_false, iT_lt, iF_lt, iT_lt0, iF_lt0, iT_0lt, iF_0lt, iT_le, iF_le, iT_le0, iF_le0, iT_0le, iF_0le, iT_eq, iF_eq, iT_eq0, iF_eq0]
  · simp (disch := omega) only [nI_z, zI_add, zI_sub, zI_mul, zI_m1, ckI_z, zI_clamp, Int.toNat_natCast, bnd_some, lt, rd_same, rd_ne, rdL_same, rdL_ne, wI_2, wL_1, if_true, if_false, iT_lt, iF_lt, iT_lt0, iF_lt0, iT_0lt, iF_0lt, iT_le, iF_le, iT_le0, iF_le0, iT_0le, iF_0le, iT_eq, iF_eq, iT_eq0, iF_eq0]
