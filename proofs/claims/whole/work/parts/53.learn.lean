/-! learn: which places become a PART; the new LANGUAGE. -/
def okr (p : List Nat) (k j : Nat) : Prop := ∀ t x, k ≤ t → t ≤ j → p[t]? = some x → 1 ≤ x ∧ x ≤ 7
theorem okr_s {p : List Nat} {k j x : Nat} (h : p[k]? = some x) (hk : k ≤ j) : okr p k j ↔ (1 ≤ x ∧ x ≤ 7) ∧ okr p (k + 1) j := by
  constructor
  · intro q
    exact ⟨q k x (Nat.le_refl _) hk h, fun t y a b c => q t y (by omega) b c⟩
  · rintro ⟨q1, q2⟩ t y a b c
    by_cases e : t = k
    · rw [e, h] at c
      injection c with c
      rw [← c]; exact q1
    · exact q2 t y (by omega) b c
theorem isp_loop {N j : Nat} {S : St} {p : List Nat} (hp : PR S 2 p) (hj : j < p.length) : ∀ (m k n : Nat), k + m = j + 1 → m < n → (okr p k j → f11_isPart_h38 N (zI j) n (zI k) S = some (zI 1, S)) ∧ (¬ okr p k j → f11_isPart_h38 N (zI j) n (zI k) S = some (zI 0, S)) := by
  have h12 := hp.2.1
  intro m
  induction m with
  | zero =>
    intro k n hk hn
    obtain ⟨n, rfl⟩ : ∃ z, n = z + 1 := ⟨n - 1, by omega⟩
    refine ⟨fun _ => ?_, fun q => absurd (fun t x a b _ => by omega) q⟩
    rw [f11_isPart_h38]
    simp (disch := omega) only [nI_z, zI_add, zI_sub, zI_mul, zI_m1, ckI_z, zI_clamp, Int.toNat_natCast, bnd_some, lt, rd_same, rd_ne, rdL_same, rdL_ne, wI_2, wL_1, if_true, if_false, iT_lt, iF_lt, iT_lt0, iF_lt0, iT_0lt, iF_0lt, iT_le, iF_le, iT_le0, iF_le0, iT_0le, iF_0le, iT_eq, iF_eq, iT_eq0, iF_eq0]
    rfl
  | succ m ih =>
    intro k n hk hn
    obtain ⟨n, rfl⟩ : ∃ z, n = z + 1 := ⟨n - 1, by omega⟩
    obtain ⟨i1, i2⟩ := ih (k + 1) n (by omega) (by omega)
    have hr : p[k]? = some p[k] := List.getElem?_eq_getElem (by omega)
    have hx := hp.2.2.1 _ (List.mem_of_getElem? hr)
    generalize p[k] = x at hr hx
    have ho := f6_orderAt_in hp hr
    have hs := okr_s (j := j) hr (by omega)
    have hz1 : zI ((k : Int) + ((1 : Nat) : Int)) = zI ((k + 1 : Nat) : Int) := rfl
    refine ⟨fun q => ?_, fun q => ?_⟩
    · obtain ⟨q1, q2⟩ := hs.mp q
      rw [f11_isPart_h38]
      simp (disch := omega) only [ho, hz1, nI_z, zI_add, zI_sub, zI_mul, zI_m1, ckI_z, zI_clamp, Int.toNat_natCast, bnd_some, lt, rd_same, rd_ne, rdL_same, rdL_ne, wI_2, wL_1, if_true, if_false, iT_lt, iF_lt, iT_lt0, iF_lt0, iT_0lt, iF_0lt, iT_le, iF_le, iT_le0, iF_le0, iT_0le, iF_0le, iT_eq, iF_eq, iT_eq0, iF_eq0]
      exact i1 q2
    · rw [f11_isPart_h38]
      by_cases x0 : x = 0
      · simp (disch := omega) only [ho, nI_z, zI_add, zI_sub, zI_mul, zI_m1, ckI_z, zI_clamp, Int.toNat_natCast, bnd_some, lt, rd_same, rd_ne, rdL_same, rdL_ne, wI_2, wL_1, if_true, if_false, iT_lt, iF_lt, iT_lt0, iF_lt0, iT_0lt, iF_0lt, iT_le, iF_le, iT_le0, iF_le0, iT_0le, iF_0le, iT_eq, iF_eq, iT_eq0, iF_eq0]
        rfl
      · by_cases x8 : x < 8
        · simp (disch := omega) only [ho, hz1, nI_z, zI_add, zI_sub, zI_mul, zI_m1, ckI_z, zI_clamp, Int.toNat_natCast, bnd_some, lt, rd_same, rd_ne, rdL_same, rdL_ne, wI_2, wL_1, if_true, if_false, iT_lt, iF_lt, iT_lt0, iF_lt0, iT_0lt, iF_0lt, iT_le, iF_le, iT_le0, iF_le0, iT_0le, iF_0le, iT_eq, iF_eq, iT_eq0, iF_eq0]
          exact i2 (fun w => q (hs.mpr ⟨by omega, w⟩))
        · simp (disch := omega) only [ho, nI_z, zI_add, zI_sub, zI_mul, zI_m1, ckI_z, zI_clamp, Int.toNat_natCast, bnd_some, lt, rd_same, rd_ne, rdL_same, rdL_ne, wI_2, wL_1, if_true, if_false, iT_lt, iF_lt, iT_lt0, iF_lt0, iT_0lt, iF_0lt, iT_le, iF_le, iT_le0, iF_le0, iT_0le, iF_0le, iT_eq, iF_eq, iT_eq0, iF_eq0]
          rfl
def PTn (p : List Nat) (i j : Nat) : Prop := i < j ∧ j < p.length ∧ j ≤ i + 3 ∧ okr p i j
theorem isp_c {N : Nat} {S : St} {p : List Nat} (hN : 50 ≤ N) (hp : PR S 2 p) (x y : Int) (hx : -2147483648 ≤ x ∧ x < 2147483648) (hy : -2147483648 ≤ y ∧ y < 2147483648) :
    (∃ i j : Nat, x = i ∧ y = j ∧ PTn p i j ∧ f11_isPart N (zI x) (zI y) S = some (zI 1, S)) ∨ ((¬ ∃ i j : Nat, x = i ∧ y = j ∧ PTn p i j) ∧ f11_isPart N (zI x) (zI y) S = some (zI 0, S)) := by
  have h12 := hp.2.1
  have hle := f6_length_eq hp
  by_cases c : 0 ≤ x ∧ x < y ∧ y < p.length ∧ y ≤ x + 3
  · obtain ⟨c1, c2, c3, c4⟩ := c
    obtain ⟨i, rfl⟩ : ∃ i : Nat, x = i := ⟨x.toNat, by omega⟩
    obtain ⟨j, rfl⟩ : ∃ j : Nat, y = j := ⟨y.toNat, by omega⟩
    obtain ⟨l1, l2⟩ := isp_loop (N := N) (j := j) hp (by omega) (j + 1 - i) i N (by omega) (by omega)
    have step : f11_isPart N (zI i) (zI j) S = f11_isPart_h38 N (zI j) N (zI i) S := by
      unfold f11_isPart
      simp (disch := omega) only [hle, nI_z, zI_add, zI_sub, zI_mul, zI_m1, ckI_z, zI_clamp, Int.toNat_natCast, bnd_some, lt, rd_same, rd_ne, rdL_same, rdL_ne, wI_2, wL_1, if_true, if_false, iT_lt, iF_lt, iT_lt0, iF_lt0, iT_0lt, iF_0lt, iT_le, iF_le, iT_le0, iF_le0, iT_0le, iF_0le, iT_eq, iF_eq, iT_eq0, iF_eq0]
    by_cases o : okr p i j
    · exact Or.inl ⟨i, j, rfl, rfl, ⟨by omega, by omega, by omega, o⟩, by rw [step]; exact l1 o⟩
    · right
      refine ⟨?_, by rw [step]; exact l2 o⟩
      rintro ⟨i', j', e1, e2, q⟩
      have : i = i' := by omega
      have : j = j' := by omega
      subst_vars
      exact o q.2.2.2
  · right
    refine ⟨?_, ?_⟩
    · rintro ⟨i', j', e1, e2, q⟩
      have := q.1
      have := q.2.1
      have := q.2.2.1
      exact c (by omega)
    · unfold f11_isPart
      by_cases c1 : x < 0
      · simp (disch := omega) only [nI_z, zI_add, zI_sub, zI_mul, zI_m1, ckI_z, zI_clamp, Int.toNat_natCast, bnd_some, lt, rd_same, rd_ne, rdL_same, rdL_ne, wI_2, wL_1, if_true, if_false, iT_lt, iF_lt, iT_lt0, iF_lt0, iT_0lt, iF_0lt, iT_le, iF_le, iT_le0, iF_le0, iT_0le, iF_0le, iT_eq, iF_eq, iT_eq0, iF_eq0]; rfl
      · by_cases c2 : y < x
        · simp (disch := omega) only [nI_z, zI_add, zI_sub, zI_mul, zI_m1, ckI_z, zI_clamp, Int.toNat_natCast, bnd_some, lt, rd_same, rd_ne, rdL_same, rdL_ne, wI_2, wL_1, if_true, if_false, iT_lt, iF_lt, iT_lt0, iF_lt0, iT_0lt, iF_0lt, iT_le, iF_le, iT_le0, iF_le0, iT_0le, iF_0le, iT_eq, iF_eq, iT_eq0, iF_eq0]; rfl
        · by_cases c3 : y < p.length
          · by_cases c4 : y - x < 1
            · simp (disch := omega) only [hle, nI_z, zI_add, zI_sub, zI_mul, zI_m1, ckI_z, zI_clamp, Int.toNat_natCast, bnd_some, lt, rd_same, rd_ne, rdL_same, rdL_ne, wI_2, wL_1, if_true, if_false, iT_lt, iF_lt, iT_lt0, iF_lt0, iT_0lt, iF_0lt, iT_le, iF_le, iT_le0, iF_le0, iT_0le, iF_0le, iT_eq, iF_eq, iT_eq0, iF_eq0]; rfl
            · simp (disch := omega) only [hle, nI_z, zI_add, zI_sub, zI_mul, zI_m1, ckI_z, zI_clamp, Int.toNat_natCast, bnd_some, lt, rd_same, rd_ne, rdL_same, rdL_ne, wI_2, wL_1, if_true, if_false, iT_lt, iF_lt, iT_lt0, iF_lt0, iT_0lt, iF_0lt, iT_le, iF_le, iT_le0, iF_le0, iT_0le, iF_0le, iT_eq, iF_eq, iT_eq0, iF_eq0]; rfl
          · simp (disch := omega) only [hle, nI_z, zI_add, zI_sub, zI_mul, zI_m1, ckI_z, zI_clamp, Int.toNat_natCast, bnd_some, lt, rd_same, rd_ne, rdL_same, rdL_ne, wI_2, wL_1, if_true, if_false, iT_lt, iF_lt, iT_lt0, iF_lt0, iT_0lt, iF_0lt, iT_le, iF_le, iT_le0, iF_le0, iT_0le, iF_0le, iT_eq, iF_eq, iT_eq0, iF_eq0]; rfl
/-- the new LANGUAGE -/
def lgt (g : Lg) (p : List Nat) (i j b : Nat) : Lg := (g.1 ++ [b], g.2 ++ [(p.drop i).take (j - i + 1)])
theorem lgt_LV {g : Lg} {p : List Nat} {i j b : Nat} (hv : LV g) (h4 : g.2.length < 4) (ht : PTn p i j) (hb : 1 ≤ b ∧ b ≤ 6) (hs : lsum g.1 + 2 ^ (6 - b) ≤ 64) : LV (lgt g p i j b) := by
  obtain ⟨h1, h2, h3, h5, h6⟩ := hv
  obtain ⟨t1, t2, t3, t4⟩ := ht
  refine ⟨?_, ?_, fun x hx => ?_, ?_, fun q hq => ?_⟩
  · show (g.1 ++ [b]).length = 8 + (g.2 ++ [(p.drop i).take (j - i + 1)]).length
    rw [List.length_append, List.length_append, List.length_singleton, List.length_singleton]; omega
  · show (g.2 ++ [(p.drop i).take (j - i + 1)]).length ≤ 4
    rw [List.length_append, List.length_singleton]; omega
  · rcases List.mem_append.mp hx with z | z
    · exact h3 x z
    · rw [List.mem_singleton.mp z]; exact hb
  · show (((g.1 ++ [b]).map (fun b => 2 ^ (6 - b))).sum) ≤ 64
    rw [List.map_append, List.sum_append, List.map_cons, List.map_nil, List.sum_cons, List.sum_nil, Nat.add_zero]
    exact hs
  · rcases List.mem_append.mp hq with z | z
    · exact h6 q z
    · rw [List.mem_singleton.mp z]
      have hl : ((p.drop i).take (j - i + 1)).length = j - i + 1 := by rw [List.length_take, List.length_drop]; omega
      refine ⟨by omega, by omega, fun o ho => ?_⟩
      obtain ⟨t, ht⟩ := List.mem_iff_getElem?.mp ho
      have htl := (List.getElem?_eq_some_iff.mp ht).1
      rw [hl] at htl
      rw [List.getElem?_take, if_pos (by omega), List.getElem?_drop] at ht
      exact t4 (i + t) o (by omega) (by omega) ht
theorem taught_loop {N a i j P : Nat} {b : Int32} {p : List Nat} (ha : 50 ≤ a) (hP : P < 4) (hij : i < j) (hj3 : j ≤ i + 3) (hj : j < p.length) : ∀ (m k n : Nat) (S : St), k + m = j - i + 1 → m < n → PR S 2 p → ∃ S2, f3_beTaught_h29 N a 2 (zI i) (zI j) b (zI P) n (zI k) S = f3_beTaught_j68 N a (zI i) (zI j) b (zI P) S2 ∧ (∀ t x, k ≤ t → t ≤ j - i → p[i + t]? = some x → S2.1 (a + 5 + P) t = zI x) ∧ Same (fun c q => c = a + 5 + P ∧ k ≤ q) S S2 := by
  intro m
  induction m with
  | zero =>
    intro k n S hk hn hp
    obtain ⟨n, rfl⟩ : ∃ z, n = z + 1 := ⟨n - 1, by omega⟩
    refine ⟨S, ?_, fun t x h1 h2 => by omega, Same.rfl'⟩
    rw [f3_beTaught_h29]
    simp (disch := omega) only [nI_z, zI_add, zI_sub, zI_mul, zI_m1, ckI_z, zI_clamp, Int.toNat_natCast, bnd_some, lt, rd_same, rd_ne, rdL_same, rdL_ne, wI_2, wL_1, if_true, if_false, iT_lt, iF_lt, iT_lt0, iF_lt0, iT_0lt, iF_0lt, iT_le, iF_le, iT_le0, iF_le0, iT_0le, iF_0le, iT_eq, iF_eq, iT_eq0, iF_eq0]
  | succ m ih =>
    intro k n S hk hn hp
    obtain ⟨n, rfl⟩ : ∃ z, n = z + 1 := ⟨n - 1, by omega⟩
    have h12 := hp.2.1
    have hr : p[i + k]? = some p[i + k] := List.getElem?_eq_getElem (by omega)
    generalize p[i + k] = x at hr
    have ho := f6_orderAt_in hp hr
    have hzi : zI ((i : Int) + (k : Int)) = zI ((i + k : Nat) : Int) := rfl
    have hs : Same (fun c q => c = a + 5 + P ∧ k ≤ q) S (wI S (a + 5 + P) k (zI x)) := (Same.rfl' (P := fun c q => c = a + 5 + P ∧ k ≤ q)).wI (by omega)
    obtain ⟨S2, g1, g2, g3⟩ := ih (k + 1) n (wI S (a + 5 + P) k (zI x)) (by omega) (by omega) (hp.same hs (fun k => by omega) (fun k => by omega))
    refine ⟨S2, ?_, fun t y h1 h2 hy => ?_, hs.tr (g3.mono (fun c q z => by omega))⟩
    · rw [f3_beTaught_h29]
      simp (disch := omega) only [hzi, ho, nI_z, zI_add, zI_sub, zI_mul, zI_m1, ckI_z, zI_clamp, Int.toNat_natCast, bnd_some, lt, rd_same, rd_ne, rdL_same, rdL_ne, wI_2, wL_1, if_true, if_false, iT_lt, iF_lt, iT_lt0, iF_lt0, iT_0lt, iF_0lt, iT_le, iF_le, iT_le0, iF_le0, iT_0le, iF_0le, iT_eq, iF_eq, iT_eq0, iF_eq0]
      exact g1
    · by_cases e : t = k
      · subst e
        rw [hr] at hy
        injection hy with hy
        rw [g3.i (by omega), rd_same, hy]
      · exact g2 t y (by omega) h2 hy
theorem taught_class {N i L a b : Nat} {S : St} {g : Lg} {p : List Nat} {u w : Nat} (hN : 100 ≤ N) (hi : i < L) (hL : L < 6) (hv : LV g) (hc : CL S (50 + 11 * i) g) (hp : PR S 2 p) (h4 : g.2.length < 4) (ht : PTn p u w) (hb : 1 ≤ b ∧ b ≤ 6) (hs : lsum g.1 + 2 ^ (6 - b) ≤ 64) : ∃ S1, f3_beTaught N (50 + 11 * L) (50 + 11 * i) 2 (zI u) (zI w) (zI b) S = some ((), S1) ∧ CL S1 (50 + 11 * L) (lgt g p u w b) ∧ Same (fun c _ => 50 + 11 * L ≤ c ∧ c ≤ 50 + 11 * L + 10) S S1 := by
  have hlv := lgt_LV hv h4 ht hb hs
  obtain ⟨t1, t2, t3, t4⟩ := ht
  have hgl := hv.len
  have hg1 := hv.1
  have h12 := hp.2.1
  obtain ⟨S1, a1, a2, a3⟩ := like_ok (N := N) (a0 := 50 + 11 * L) (a1 := 50 + 11 * i) (by omega) (by omega) hv hc
  have s1 : Same (fun c _ => 50 + 11 * L ≤ c ∧ c ≤ 50 + 11 * L + 10) S S1 := a3.mono (fun c k z => by unfold blP at z; omega)
  obtain ⟨S2, b1, b2, b3⟩ := taught_loop (N := N) (a := 50 + 11 * L) (i := u) (j := w) (P := g.2.length) (b := zI b) (by omega) h4 t1 t3 t2 (w - u + 1) 0 N S1 (by omega) (by omega) (hp.same s1 (fun k => by omega) (fun k => by omega))
  obtain ⟨c1, c2, c3⟩ := a2
  have d1 : S2.1 (50 + 11 * L) 0 = zI g.1.length := by rw [b3.i (by omega)]; exact c1
  have s3 : Same (fun c q => (c = 50 + 11 * L + 9 ∧ q = g.2.length) ∨ (c = 50 + 11 * L + 1 ∧ q = g.1.length) ∨ (c = 50 + 11 * L ∧ q = 0)) S2 (wI (wI (wI S2 (50 + 11 * L + 9) g.2.length (zI ((w : Int) - (u : Int) + ((1 : Nat) : Int)))) (50 + 11 * L + 1) g.1.length (zI b)) (50 + 11 * L) 0 (zI ((g.1.length : Int) + ((1 : Nat) : Int)))) := (Same.rfl' (P := fun c q => (c = 50 + 11 * L + 9 ∧ q = g.2.length) ∨ (c = 50 + 11 * L + 1 ∧ q = g.1.length) ∨ (c = 50 + 11 * L ∧ q = 0))) |>.wI (by omega) |>.wI (by omega) |>.wI (by omega)
  have v9 : (wI (wI (wI S2 (50 + 11 * L + 9) g.2.length (zI ((w : Int) - (u : Int) + ((1 : Nat) : Int)))) (50 + 11 * L + 1) g.1.length (zI b)) (50 + 11 * L) 0 (zI ((g.1.length : Int) + ((1 : Nat) : Int)))).1 (50 + 11 * L + 9) g.2.length = zI ((w - u + 1 : Nat) : Int) := by simp (disch := omega) only [nI_z, zI_add, zI_sub, zI_mul, zI_m1, ckI_z, zI_clamp, Int.toNat_natCast, bnd_some, lt, rd_same, rd_ne, rdL_same, rdL_ne, wI_2, wL_1, if_true, if_false, iT_lt, iF_lt, iT_lt0, iF_lt0, iT_0lt, iF_0lt, iT_le, iF_le, iT_le0, iF_le0, iT_0le, iF_0le, iT_eq, iF_eq, iT_eq0, iF_eq0]; congr 1; omega
  have v1 : (wI (wI (wI S2 (50 + 11 * L + 9) g.2.length (zI ((w : Int) - (u : Int) + ((1 : Nat) : Int)))) (50 + 11 * L + 1) g.1.length (zI b)) (50 + 11 * L) 0 (zI ((g.1.length : Int) + ((1 : Nat) : Int)))).1 (50 + 11 * L + 1) g.1.length = zI b := by simp (disch := omega) only [nI_z, zI_add, zI_sub, zI_mul, zI_m1, ckI_z, zI_clamp, Int.toNat_natCast, bnd_some, lt, rd_same, rd_ne, rdL_same, rdL_ne, wI_2, wL_1, if_true, if_false, iT_lt, iF_lt, iT_lt0, iF_lt0, iT_0lt, iF_0lt, iT_le, iF_le, iT_le0, iF_le0, iT_0le, iF_0le, iT_eq, iF_eq, iT_eq0, iF_eq0]
  have v0 : (wI (wI (wI S2 (50 + 11 * L + 9) g.2.length (zI ((w : Int) - (u : Int) + ((1 : Nat) : Int)))) (50 + 11 * L + 1) g.1.length (zI b)) (50 + 11 * L) 0 (zI ((g.1.length : Int) + ((1 : Nat) : Int)))).1 (50 + 11 * L) 0 = zI ((g.1.length + 1 : Nat) : Int) := by simp (disch := omega) only [nI_z, zI_add, zI_sub, zI_mul, zI_m1, ckI_z, zI_clamp, Int.toNat_natCast, bnd_some, lt, rd_same, rd_ne, rdL_same, rdL_ne, wI_2, wL_1, if_true, if_false, iT_lt, iF_lt, iT_lt0, iF_lt0, iT_0lt, iF_0lt, iT_le, iF_le, iT_le0, iF_le0, iT_0le, iF_0le, iT_eq, iF_eq, iT_eq0, iF_eq0]; rfl
  have ej : ∀ S3, wI (wI (wI S2 (50 + 11 * L + 9) g.2.length (zI ((w : Int) - (u : Int) + ((1 : Nat) : Int)))) (50 + 11 * L + 1) g.1.length (zI b)) (50 + 11 * L) 0 (zI ((g.1.length : Int) + ((1 : Nat) : Int))) = S3 → f3_beTaught_j68 N (50 + 11 * L) (zI u) (zI w) (zI b) (zI g.2.length) S2 = bnd (f3_settle N (50 + 11 * L) S3) (fun q4 S5 => some ((), S5)) := fun S3 q => by
    rw [← q]
    unfold f3_beTaught_j68
    simp (disch := omega) only [d1, nI_z, zI_add, zI_sub, zI_mul, zI_m1, ckI_z, zI_clamp, Int.toNat_natCast, bnd_some, lt, rd_same, rd_ne, rdL_same, rdL_ne, wI_2, wL_1, if_true, if_false, iT_lt, iF_lt, iT_lt0, iF_lt0, iT_0lt, iF_0lt, iT_le, iF_le, iT_le0, iF_le0, iT_0le, iF_0le, iT_eq, iF_eq, iT_eq0, iF_eq0]
  generalize hS3 : wI (wI (wI S2 (50 + 11 * L + 9) g.2.length (zI ((w : Int) - (u : Int) + ((1 : Nat) : Int)))) (50 + 11 * L + 1) g.1.length (zI b)) (50 + 11 * L) 0 (zI ((g.1.length : Int) + ((1 : Nat) : Int))) = S3 at s3 v9 v1 v0
  have hcb : CB S3 (50 + 11 * L) (lgt g p u w b) := by
    refine ⟨?_, fun o ho => ?_, fun k q hk => ?_⟩
    · show _ = zI (((g.1 ++ [b]).length : Nat) : Int)
      rw [List.length_append, List.length_singleton]; exact v0
    · have ho : o < (g.1 ++ [b]).length := ho
      rw [List.length_append, List.length_singleton] at ho
      by_cases e : o = g.1.length
      · subst e
        rw [v1]
        unfold bit lgt
        rw [List.getD_eq_getElem?_getD, List.getElem?_append_right (Nat.le_refl _)]
        simp
      · rw [s3.i (by omega), b3.i (by omega), c2 o (by omega)]
        unfold bit lgt
        rw [List.getD_eq_getElem?_getD, List.getD_eq_getElem?_getD, List.getElem?_append_left (by omega)]
    · have hk : (g.2 ++ [(p.drop u).take (w - u + 1)])[k]? = some q := hk
      have hkl := (List.getElem?_eq_some_iff.mp hk).1
      rw [List.length_append, List.length_singleton] at hkl
      by_cases e : k = g.2.length
      · subst e
        have hq : q = (p.drop u).take (w - u + 1) := by simpa [eq_comm] using hk
        have hl : q.length = w - u + 1 := by rw [hq, List.length_take, List.length_drop]; omega
        refine ⟨by rw [v9, hl], fun t x ht => ?_⟩
        have htl := (List.getElem?_eq_some_iff.mp ht).1
        rw [hq, List.getElem?_take, if_pos (by omega), List.getElem?_drop] at ht
        rw [Nat.zero_add, s3.i (by omega)]
        exact b2 t x (by omega) (by omega) ht
      · rw [List.getElem?_append_left (by omega)] at hk
        obtain ⟨e1, e2⟩ := c3 k q hk
        refine ⟨by rw [s3.i (by omega), b3.i (by omega)]; exact e1, (e2.same b3 (fun t => by omega)).same s3 (fun t => by omega)⟩
  obtain ⟨S4, f1, f2, f3⟩ := f3_settle_ok (N := N) hlv (by omega) hcb
  refine ⟨S4, ?_, f2, ((s1.tr (b3.mono (fun c k z => by omega))).tr (s3.mono (fun c k z => by omega))).tr (f3.mono (fun c k z => by unfold stP at z; omega))⟩
  have hz : zI ((g.1.length : Int) - ((8 : Nat) : Int)) = zI g.2.length := by congr 1; omega
  unfold f3_beTaught
  rw [a1, bnd_some]
  simp (disch := omega) only [c1, hz, nI_z, zI_add, zI_sub, zI_mul, zI_m1, ckI_z, zI_clamp, Int.toNat_natCast, bnd_some, lt, rd_same, rd_ne, rdL_same, rdL_ne, wI_2, wL_1, if_true, if_false, iT_lt, iF_lt, iT_lt0, iF_lt0, iT_0lt, iF_0lt, iT_le, iF_le, iT_le0, iF_le0, iT_0le, iF_0le, iT_eq, iF_eq, iT_eq0, iF_eq0]
  rw [b1, ej S3 hS3, f1, bnd_some]
