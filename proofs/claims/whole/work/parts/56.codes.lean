/-! CODES are all different; the order with a code, on both sides. -/
theorem cst_sum {g : Lg} (hg : LV g) : ∀ (l : List Nat) (c b : Nat), b ≤ 6 → (∀ o ∈ l, b ≤ bit g o) → l.Pairwise (fun x y => bit g x ≤ bit g y) → (cst g c b l).1 * 2 ^ (6 - (cst g c b l).2) = c * 2 ^ (6 - b) + wsum g l ∧ (cst g c b l).2 ≤ 6
  | [], c, b, hb, _, _ => ⟨rfl, hb⟩
  | o :: l, c, b, hb, hs, hp => by
    have hbo := bit_pos hg o
    have hbb := hs o List.mem_cons_self
    have hpw : 2 ^ (bit g o - b) * 2 ^ (6 - bit g o) = 2 ^ (6 - b) := by rw [← Nat.pow_add]; congr 1; omega
    have hv : (c * 2 ^ (bit g o - b)) * 2 ^ (6 - bit g o) = c * 2 ^ (6 - b) := by rw [Nat.mul_assoc, hpw]
    have hw : wsum g (o :: l) = 2 ^ (6 - bit g o) + wsum g l := by simp [wsum]
    obtain ⟨i1, i2⟩ := cst_sum hg l (c * 2 ^ (bit g o - b) + 1) (bit g o) hbo.2 (List.pairwise_cons.mp hp).1 (List.pairwise_cons.mp hp).2
    refine ⟨?_, i2⟩
    show (cst g (c * 2 ^ (bit g o - b) + 1) (bit g o) l).1 * 2 ^ (6 - (cst g (c * 2 ^ (bit g o - b) + 1) (bit g o) l).2) = _
    rw [i1, Nat.add_mul, Nat.one_mul, hv, hw]
    omega
theorem cd_sum {g : Lg} (hg : LV g) {l t : List Nat} {o : Nat} (h : rkf g = l ++ o :: t) : cd g o * 2 ^ (6 - bit g o) = wsum g l := by
  have hb := cst_bound hg h
  have hso := rkf_sorted g
  have hmin : ∀ x ∈ rkf g, fb g ≤ bit g x := fun x hx => by
    unfold fb
    cases hk : rkf g with
    | nil => rw [hk] at hx; cases hx
    | cons y t =>
      rw [hk] at hx hso
      rcases List.mem_cons.mp hx with e | e
      · rw [e]; exact Nat.le_refl _
      · exact (List.pairwise_cons.mp hso).1 x e
  have hb6 : fb g ≤ 6 := (bit_pos hg _).2
  obtain ⟨i1, i2⟩ := cst_sum hg l 0 (fb g) hb6 (fun x hx => hmin x (by rw [h]; exact List.mem_append.mpr (Or.inl hx))) (by rw [h] at hso; exact (List.pairwise_append.mp hso).1)
  have h3 := hb.2.2 o List.mem_cons_self
  have hbo := bit_pos hg o
  rw [Nat.zero_mul, Nat.zero_add] at i1
  rw [cd_at h, Nat.mul_assoc, ← Nat.pow_add, show bit g o - (cst g 0 (fb g) l).2 + (6 - bit g o) = 6 - (cst g 0 (fb g) l).2 by omega]
  exact i1
theorem wsum_app (g : Lg) (l t : List Nat) : wsum g (l ++ t) = wsum g l + wsum g t := by
  unfold wsum
  rw [List.map_append, List.sum_append]
theorem cd_lt64 {g : Lg} (hg : LV g) {o : Nat} (ho : o < g.1.length) : cd g o < 64 := by
  obtain ⟨l, t, h⟩ := List.append_of_mem ((mem_rkf hg).mpr ho)
  have h1 := cd_sum hg h
  have hk := rkf_kraft hg
  have hw : wsum g (rkf g) ≤ 64 := hk
  rw [h, wsum_app] at hw
  have h2 : 2 ^ (6 - bit g o) ≤ wsum g (o :: t) := by
    have : wsum g (o :: t) = 2 ^ (6 - bit g o) + wsum g t := by simp [wsum]
    omega
  have h3 : 1 ≤ 2 ^ (6 - bit g o) := Nat.one_le_two_pow
  have h4 : cd g o * 1 ≤ cd g o * 2 ^ (6 - bit g o) := Nat.mul_le_mul_left _ h3
  omega
theorem cd_inj {g : Lg} (hg : LV g) {o y : Nat} (ho : o < g.1.length) (hy : y < g.1.length) (h1 : bit g o = bit g y) (h2 : cd g o = cd g y) : o = y := by
  obtain ⟨l, t, h⟩ := List.append_of_mem ((mem_rkf hg).mpr ho)
  have hm := (mem_rkf hg).mpr hy
  rw [h] at hm
  have key : ∀ (a b : Nat) (l m t : List Nat), rkf g = l ++ a :: (m ++ b :: t) → bit g a = bit g b → cd g a ≠ cd g b := fun a b l m t he hb hc => by
    have e1 := cd_sum hg he
    have e2 := cd_sum (l := l ++ a :: m) (t := t) (o := b) hg (by rw [he]; simp)
    rw [hb, hc, e2, wsum_app] at e1
    have : wsum g (a :: m) = 2 ^ (6 - bit g a) + wsum g m := by simp [wsum]
    have h3 : 1 ≤ 2 ^ (6 - bit g a) := Nat.one_le_two_pow
    omega
  rcases List.mem_append.mp hm with q | q
  · obtain ⟨l1, l2, e⟩ := List.append_of_mem q
    exact absurd h2.symm (key y o l1 l2 t (by rw [h, e]; simp) h1.symm)
  · rcases List.mem_cons.mp q with q | q
    · exact q.symm
    · obtain ⟨t1, t2, e⟩ := List.append_of_mem q
      exact absurd h2 (key o y l t1 t2 (by rw [h, e]) h1)
theorem ow_c {N a c k : Nat} {S : St} {g : Lg} (hg : LV g) (hc : CL S a g) (hcc : c < 100000) (hk : k < 100) : ∀ (m i n : Nat), i + m = g.1.length → m < n →
    (∀ o, i ≤ o → o < g.1.length → bit g o = k → cd g o = c → f3_orderWith_h2 N a (zI c) (zI k) n (zI i) S = some (zI o, S)) ∧ ((∀ o, i ≤ o → o < g.1.length → ¬ (bit g o = k ∧ cd g o = c)) → f3_orderWith_h2 N a (zI c) (zI k) n (zI i) S = some (zI (-1), S)) := by
  have hgl := hg.len
  have h0 := hc.1
  intro m
  induction m with
  | zero =>
    intro i n hi hn
    obtain ⟨n, rfl⟩ : ∃ z, n = z + 1 := ⟨n - 1, by omega⟩
    refine ⟨fun o a b => by omega, fun _ => ?_⟩
    rw [f3_orderWith_h2]
    simp (disch := omega) only [h0, nI_z, zI_add, zI_sub, zI_mul, zI_m1, ckI_z, zI_clamp, Int.toNat_natCast, bnd_some, lt, rd_same, rd_ne, rdL_same, rdL_ne, wI_2, wL_1, if_true, if_false, iT_lt, iF_lt, iT_lt0, iF_lt0, iT_0lt, iF_0lt, iT_le, iF_le, iT_le0, iF_le0, iT_0le, iF_0le, iT_eq, iF_eq, iT_eq0, iF_eq0]
  | succ m ih =>
    intro i n hi hn
    obtain ⟨n, rfl⟩ : ∃ z, n = z + 1 := ⟨n - 1, by omega⟩
    obtain ⟨i1, i2⟩ := ih (i + 1) n (by omega) (by omega)
    have hb := f3_bitsOf_in hc hg (o := i) (by omega)
    have hd := f3_codeOf_in hc hg (o := i) (by omega)
    have hbp := bit_pos hg i
    have hcl := cd_lt64 hg (o := i) (by omega)
    have hz1 : zI ((i : Int) + ((1 : Nat) : Int)) = zI ((i + 1 : Nat) : Int) := rfl
    refine ⟨fun o a b e1 e2 => ?_, fun q => ?_⟩
    · by_cases e : o = i
      · subst e
        rw [f3_orderWith_h2]
        simp (disch := omega) only [h0, hb, hd, nI_z, zI_add, zI_sub, zI_mul, zI_m1, ckI_z, zI_clamp, Int.toNat_natCast, bnd_some, lt, rd_same, rd_ne, rdL_same, rdL_ne, wI_2, wL_1, if_true, if_false, iT_lt, iF_lt, iT_lt0, iF_lt0, iT_0lt, iF_0lt, iT_le, iF_le, iT_le0, iF_le0, iT_0le, iF_0le, iT_eq, iF_eq, iT_eq0, iF_eq0]
      · have hno : ¬ (bit g i = k ∧ cd g i = c) := fun w => e (cd_inj hg b (by omega) (by omega) (by omega))
        rw [f3_orderWith_h2]
        by_cases c1 : bit g i = k
        · simp (disch := omega) only [h0, hb, hd, hz1, nI_z, zI_add, zI_sub, zI_mul, zI_m1, ckI_z, zI_clamp, Int.toNat_natCast, bnd_some, lt, rd_same, rd_ne, rdL_same, rdL_ne, wI_2, wL_1, if_true, if_false, iT_lt, iF_lt, iT_lt0, iF_lt0, iT_0lt, iF_0lt, iT_le, iF_le, iT_le0, iF_le0, iT_0le, iF_0le, iT_eq, iF_eq, iT_eq0, iF_eq0]
          exact i1 o (by omega) b e1 e2
        · simp (disch := omega) only [h0, hb, hz1, nI_z, zI_add, zI_sub, zI_mul, zI_m1, ckI_z, zI_clamp, Int.toNat_natCast, bnd_some, lt, rd_same, rd_ne, rdL_same, rdL_ne, wI_2, wL_1, if_true, if_false, iT_lt, iF_lt, iT_lt0, iF_lt0, iT_0lt, iF_0lt, iT_le, iF_le, iT_le0, iF_le0, iT_0le, iF_0le, iT_eq, iF_eq, iT_eq0, iF_eq0]
          exact i1 o (by omega) b e1 e2
    · have hno := q i (Nat.le_refl _) (by omega)
      rw [f3_orderWith_h2]
      by_cases c1 : bit g i = k
      · simp (disch := omega) only [h0, hb, hd, hz1, nI_z, zI_add, zI_sub, zI_mul, zI_m1, ckI_z, zI_clamp, Int.toNat_natCast, bnd_some, lt, rd_same, rd_ne, rdL_same, rdL_ne, wI_2, wL_1, if_true, if_false, iT_lt, iF_lt, iT_lt0, iF_lt0, iT_0lt, iF_0lt, iT_le, iF_le, iT_le0, iF_le0, iT_0le, iF_0le, iT_eq, iF_eq, iT_eq0, iF_eq0]
        exact i2 (fun o a b => q o (by omega) b)
      · simp (disch := omega) only [h0, hb, hz1, nI_z, zI_add, zI_sub, zI_mul, zI_m1, ckI_z, zI_clamp, Int.toNat_natCast, bnd_some, lt, rd_same, rd_ne, rdL_same, rdL_ne, wI_2, wL_1, if_true, if_false, iT_lt, iF_lt, iT_lt0, iF_lt0, iT_0lt, iF_0lt, iT_le, iF_le, iT_le0, iF_le0, iT_0le, iF_0le, iT_eq, iF_eq, iT_eq0, iF_eq0]
        exact i2 (fun o a b => q o (by omega) b)
theorem ow_m {N l c k : Nat} {x2 : Int32} {l4 l6 : Int64} {x8 : Int32} {S : St} {g : Lg} (hg : LV g) (hl : l < 6) (hm : ML S l g) (hcc : c < 100000) (hk : k < 100) (k55 : Int64 → Int64 → Int32 → Int32 → St → Option (Int32 × St)) (k69 : Int64 → Int32 → Int32 → Int32 → St → Option (Int32 × St)) : ∀ (m i n : Nat) (x12 : Int32), i + m = g.1.length → m < n →
    (∀ o, i ≤ o → o < g.1.length → bit g o = k → cd g o = c → f12_read_h150 N (zI l) x2 l4 l6 x8 (zI k) (zI c) k55 k69 n x12 (zI i) S = k69 l4 (zI k) (zI c) (zI o) S) ∧ ((∀ o, i ≤ o → o < g.1.length → ¬ (bit g o = k ∧ cd g o = c)) → f12_read_h150 N (zI l) x2 l4 l6 x8 (zI k) (zI c) k55 k69 n x12 (zI i) S = k69 l4 (zI k) (zI c) x12 S) := by
  have hgl := hg.len
  intro m
  induction m with
  | zero =>
    intro i n x12 hi hn
    obtain ⟨n, rfl⟩ : ∃ z, n = z + 1 := ⟨n - 1, by omega⟩
    refine ⟨fun o a b => by omega, fun _ => ?_⟩
    rw [f12_read_h150]
    simp (disch := omega) only [f12_ordersOf_in hm.1 hg hl, nI_z, zI_add, zI_sub, zI_mul, zI_m1, ckI_z, zI_clamp, Int.toNat_natCast, bnd_some, lt, rd_same, rd_ne, rdL_same, rdL_ne, wI_2, wL_1, if_true, if_false, iT_lt, iF_lt, iT_lt0, iF_lt0, iT_0lt, iF_0lt, iT_le, iF_le, iT_le0, iF_le0, iT_0le, iF_0le, iT_eq, iF_eq, iT_eq0, iF_eq0]
  | succ m ih =>
    intro i n x12 hi hn
    obtain ⟨n, rfl⟩ : ∃ z, n = z + 1 := ⟨n - 1, by omega⟩
    obtain ⟨i1, i2⟩ := ih (i + 1) n x12 (by omega) (by omega)
    obtain ⟨j1, j2⟩ := ih (i + 1) n (zI i) (by omega) (by omega)
    have hb := hm.2.1 i (by omega)
    have hd := hm.2.2.1 i (by omega)
    have hbp := bit_pos hg i
    have hcl := cd_lt64 hg (o := i) (by omega)
    have hz1 : zI ((i : Int) + ((1 : Nat) : Int)) = zI ((i + 1 : Nat) : Int) := rfl
    refine ⟨fun o a b e1 e2 => ?_, fun q => ?_⟩
    · by_cases e : o = i
      · subst e
        rw [f12_read_h150]
        simp (disch := omega) only [f12_ordersOf_in hm.1 hg hl, pl12, hb, hd, f12_read_j201, hz1, nI_z, zI_add, zI_sub, zI_mul, zI_m1, ckI_z, zI_clamp, Int.toNat_natCast, bnd_some, lt, rd_same, rd_ne, rdL_same, rdL_ne, wI_2, wL_1, if_true, if_false, iT_lt, iF_lt, iT_lt0, iF_lt0, iT_0lt, iF_0lt, iT_le, iF_le, iT_le0, iF_le0, iT_0le, iF_0le, iT_eq, iF_eq, iT_eq0, iF_eq0]
        exact j2 (fun y a2 b2 w => by have := cd_inj hg b2 b (by omega) (by omega); omega)
      · have hno : ¬ (bit g i = k ∧ cd g i = c) := fun w => e (cd_inj hg b (by omega) (by omega) (by omega))
        rw [f12_read_h150]
        by_cases c1 : bit g i = k
        · simp (disch := omega) only [f12_ordersOf_in hm.1 hg hl, pl12, hb, hd, f12_read_j201, f12_read_j199, hz1, nI_z, zI_add, zI_sub, zI_mul, zI_m1, ckI_z, zI_clamp, Int.toNat_natCast, bnd_some, lt, rd_same, rd_ne, rdL_same, rdL_ne, wI_2, wL_1, if_true, if_false, iT_lt, iF_lt, iT_lt0, iF_lt0, iT_0lt, iF_0lt, iT_le, iF_le, iT_le0, iF_le0, iT_0le, iF_0le, iT_eq, iF_eq, iT_eq0, iF_eq0]
          exact i1 o (by omega) b e1 e2
        · simp (disch := omega) only [f12_ordersOf_in hm.1 hg hl, pl12, hb, f12_read_j201, f12_read_j199, hz1, nI_z, zI_add, zI_sub, zI_mul, zI_m1, ckI_z, zI_clamp, Int.toNat_natCast, bnd_some, lt, rd_same, rd_ne, rdL_same, rdL_ne, wI_2, wL_1, if_true, if_false, iT_lt, iF_lt, iT_lt0, iF_lt0, iT_0lt, iF_0lt, iT_le, iF_le, iT_le0, iF_le0, iT_0le, iF_0le, iT_eq, iF_eq, iT_eq0, iF_eq0]
          exact i1 o (by omega) b e1 e2
    · have hno := q i (Nat.le_refl _) (by omega)
      rw [f12_read_h150]
      by_cases c1 : bit g i = k
      · simp (disch := omega) only [f12_ordersOf_in hm.1 hg hl, pl12, hb, hd, f12_read_j201, f12_read_j199, hz1, nI_z, zI_add, zI_sub, zI_mul, zI_m1, ckI_z, zI_clamp, Int.toNat_natCast, bnd_some, lt, rd_same, rd_ne, rdL_same, rdL_ne, wI_2, wL_1, if_true, if_false, iT_lt, iF_lt, iT_lt0, iF_lt0, iT_0lt, iF_0lt, iT_le, iF_le, iT_le0, iF_le0, iT_0le, iF_0le, iT_eq, iF_eq, iT_eq0, iF_eq0]
        exact i2 (fun o a b => q o (by omega) b)
      · simp (disch := omega) only [f12_ordersOf_in hm.1 hg hl, pl12, hb, f12_read_j201, f12_read_j199, hz1, nI_z, zI_add, zI_sub, zI_mul, zI_m1, ckI_z, zI_clamp, Int.toNat_natCast, bnd_some, lt, rd_same, rd_ne, rdL_same, rdL_ne, wI_2, wL_1, if_true, if_false, iT_lt, iF_lt, iT_lt0, iF_lt0, iT_0lt, iF_0lt, iT_le, iF_le, iT_le0, iF_le0, iT_0le, iF_0le, iT_eq, iF_eq, iT_eq0, iF_eq0]
        exact i2 (fun o a b => q o (by omega) b)
/-- the order with that code -/
def fo (g : Lg) (c k : Nat) : Option Nat := (List.range g.1.length).find? (fun o => decide (bit g o = k ∧ cd g o = c))
theorem fo_some {g : Lg} {c k o : Nat} (h : fo g c k = some o) : o < g.1.length ∧ bit g o = k ∧ cd g o = c := by
  unfold fo at h
  have h1 := List.find?_some h
  have h2 := List.mem_of_find?_eq_some h
  exact ⟨List.mem_range.mp h2, of_decide_eq_true h1⟩
theorem fo_none {g : Lg} {c k : Nat} (h : fo g c k = none) : ∀ o, o < g.1.length → ¬ (bit g o = k ∧ cd g o = c) := fun o ho q => by
  unfold fo at h
  have := List.find?_eq_none.mp h o (List.mem_range.mpr ho)
  exact this (decide_eq_true q)
