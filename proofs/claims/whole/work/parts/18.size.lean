/-! size and next: the reference's own reading of the program looked at. -/
theorem ckB_n0 {β : Type} {X : Option β} : ckB (zI ((0 : Nat) : Int)) X = X := if_pos (Or.inl rfl)
theorem ckB_n1 {β : Type} {X : Option β} : ckB (zI ((1 : Nat) : Int)) X = X := if_pos (Or.inr rfl)
theorem f12_isp_0 {N : Nat} {S : St} {p : List Nat} (x1 : Int32) (h2 : S.1 146 8 = zI p.length) (h12 : p.length ≤ 12) : ∀ (m i n : Nat), i + m = p.length → m < n → f12_isProgram_h40 N x1 n (zI ((0 : Nat) : Int)) (zI i) S = some (zI ((0 : Nat) : Int), S) := by
  intro m
  induction m with
  | zero =>
    intro i n hi hn
    obtain ⟨n, rfl⟩ : ∃ z, n = z + 1 := ⟨n - 1, by omega⟩
    rw [f12_isProgram_h40]
    simp (disch := omega) only [h2, ckB_n0, nI_z, zI_add, zI_sub, zI_mul, zI_m1, ckI_z, zI_clamp, Int.toNat_natCast, bnd_some, lt, rd_same, rd_ne, rdL_same, rdL_ne, wI_2, wL_1, if_true, if_false, iT_lt, iF_lt, iT_lt0, iF_lt0, iT_0lt, iF_0lt, iT_le, iF_le, iT_le0, iF_le0, iT_0le, iF_0le, iT_eq, iF_eq, iT_eq0, iF_eq0]
  | succ m ih =>
    intro i n hi hn
    obtain ⟨n, rfl⟩ : ∃ z, n = z + 1 := ⟨n - 1, by omega⟩
    have ih1 := ih (i + 1) n (by omega) (by omega)
    rw [f12_isProgram_h40]
    simp (disch := omega) only [h2, f12_isProgram_j70, f12_isProgram_j71, nI_z, zI_add, zI_sub, zI_mul, zI_m1, ckI_z, zI_clamp, Int.toNat_natCast, bnd_some, lt, rd_same, rd_ne, rdL_same, rdL_ne, wI_2, wL_1, if_true, if_false, iT_lt, iF_lt, iT_lt0, iF_lt0, iT_0lt, iF_0lt, iT_le, iF_le, iT_le0, iF_le0, iT_0le, iF_0le, iT_eq, iF_eq, iT_eq0, iF_eq0]
    exact ih1
theorem f12_isp_1 {N k : Nat} {S : St} {p : List Nat} {g : Lg} (hm : ML S k g) (hv : LV g) (hk : k < 6) (h2 : S.1 146 8 = zI p.length) (h12 : p.length ≤ 12) (hx : ∀ x ∈ p, x < 12) (h3 : Held (S.1 153) 0 p) : ∀ (m i n : Nat), i + m = p.length → m < n → f12_isProgram_h40 N (zI k) n (zI ((1 : Nat) : Int)) (zI i) S = some (if (p.drop i).all (fun x => decide (x < g.1.length)) then zI ((1 : Nat) : Int) else zI ((0 : Nat) : Int), S) := by
  intro m
  induction m with
  | zero =>
    intro i n hi hn
    obtain ⟨n, rfl⟩ : ∃ z, n = z + 1 := ⟨n - 1, by omega⟩
    rw [List.drop_eq_nil_of_le (by omega), f12_isProgram_h40]
    simp (disch := omega) only [h2, ckB_n1, nI_z, zI_add, zI_sub, zI_mul, zI_m1, ckI_z, zI_clamp, Int.toNat_natCast, bnd_some, lt, rd_same, rd_ne, rdL_same, rdL_ne, wI_2, wL_1, if_true, if_false, iT_lt, iF_lt, iT_lt0, iF_lt0, iT_0lt, iF_0lt, iT_le, iF_le, iT_le0, iF_le0, iT_0le, iF_0le, iT_eq, iF_eq, iT_eq0, iF_eq0]
    rfl
  | succ m ih =>
    intro i n hi hn
    obtain ⟨n, rfl⟩ : ∃ z, n = z + 1 := ⟨n - 1, by omega⟩
    have hlt : i < p.length := by omega
    have hr : p[i]? = some p[i] := List.getElem?_eq_getElem hlt
    rw [List.drop_eq_getElem_cons hlt, List.all_cons]
    generalize p[i] = o at hr
    have ho := hx o (List.mem_of_getElem? hr)
    have h4 := h3 i o hr
    rw [Nat.zero_add] at h4
    have hb := f12_has_eq hm hv hk (o : Int) (by omega)
    rw [f12_isProgram_h40]
    by_cases e : o < g.1.length
    · have ih1 := ih (i + 1) n (by omega) (by omega)
      rw [decide_eq_true e, Bool.true_and]
      simp (disch := omega) only [iT_b, iF_b, h2, h4, hb, f12_isProgram_j71, nI_z, zI_add, zI_sub, zI_mul, zI_m1, ckI_z, zI_clamp, Int.toNat_natCast, bnd_some, lt, rd_same, rd_ne, rdL_same, rdL_ne, wI_2, wL_1, if_true, if_false, iT_lt, iF_lt, iT_lt0, iF_lt0, iT_0lt, iF_0lt, iT_le, iF_le, iT_le0, iF_le0, iT_0le, iF_0le, iT_eq, iF_eq, iT_eq0, iF_eq0]
      exact ih1
    · have ih0 := f12_isp_0 (N := N) (zI k) h2 h12 m (i + 1) n (by omega) (by omega)
      rw [decide_eq_false e, Bool.false_and]
      simp (disch := omega) only [iT_b, iF_b, h2, h4, hb, f12_isProgram_j70, f12_isProgram_j71, nI_z, zI_add, zI_sub, zI_mul, zI_m1, ckI_z, zI_clamp, Int.toNat_natCast, bnd_some, lt, rd_same, rd_ne, rdL_same, rdL_ne, wI_2, wL_1, if_true, if_false, iT_lt, iF_lt, iT_lt0, iF_lt0, iT_0lt, iF_0lt, iT_le, iF_le, iT_le0, iF_le0, iT_0le, iF_0le, iT_eq, iF_eq, iT_eq0, iF_eq0]
      rw [if_neg (by decide)]
      exact ih0
theorem f12_isp_in {N k : Nat} {S : St} {p : List Nat} {g : Lg} (hN : 20 ≤ N) (hm : ML S k g) (hv : LV g) (hk : k < 6) (h2 : S.1 146 8 = zI p.length) (h12 : p.length ≤ 12) (hx : ∀ x ∈ p, x < 12) (h3 : Held (S.1 153) 0 p) : f12_isProgram N (zI k) S = some (if p.getLast? = some 0 ∧ p.all (fun x => decide (x < g.1.length)) = true then zI ((1 : Nat) : Int) else zI ((0 : Nat) : Int), S) := by
  have q0 := f12_isp_0 (N := N) (zI k) h2 h12 p.length 0 N (by omega) (by omega)
  have q1 := f12_isp_1 (N := N) hm hv hk h2 h12 hx h3 p.length 0 N (by omega) (by omega)
  rw [List.drop_zero] at q1
  by_cases hp0 : p.length = 0
  · have : p = [] := List.length_eq_zero_iff.mp hp0
    rw [if_neg (by rw [this]; rintro ⟨h, -⟩; cases h)]
    unfold f12_isProgram
    simp (disch := omega) only [h2, f12_isProgram_j36, f12_isProgram_j37, nI_z, zI_add, zI_sub, zI_mul, zI_m1, ckI_z, zI_clamp, Int.toNat_natCast, bnd_some, lt, rd_same, rd_ne, rdL_same, rdL_ne, wI_2, wL_1, if_true, if_false, iT_lt, iF_lt, iT_lt0, iF_lt0, iT_0lt, iF_0lt, iT_le, iF_le, iT_le0, iF_le0, iT_0le, iF_0le, iT_eq, iF_eq, iT_eq0, iF_eq0]
    exact q0
  · have hi : p[p.length - 1]? = some p[p.length - 1] := List.getElem?_eq_getElem (by omega)
    have hl : p.getLast? = some p[p.length - 1] := by rw [List.getLast?_eq_getElem?, hi]
    rw [hl]
    generalize p[p.length - 1] = y at hi hl
    have hy := hx y (List.mem_of_getElem? hi)
    have h4 := h3 _ y hi
    rw [Nat.zero_add, show p.length - 1 = ((p.length : Int) - ((1 : Nat) : Int)).toNat by omega] at h4
    by_cases e : y = 0
    · have : (some y = some 0 ∧ p.all (fun x => decide (x < g.1.length)) = true) ↔ p.all (fun x => decide (x < g.1.length)) = true := ⟨fun q => q.2, fun q => ⟨by rw [e], q⟩⟩
      have hr : (if some y = some 0 ∧ p.all (fun x => decide (x < g.1.length)) = true then zI ((1 : Nat) : Int) else zI ((0 : Nat) : Int)) = (if p.all (fun x => decide (x < g.1.length)) = true then zI ((1 : Nat) : Int) else zI ((0 : Nat) : Int)) := by
        by_cases q : p.all (fun x => decide (x < g.1.length)) = true
        · rw [if_pos (this.mpr q), if_pos q]
        · rw [if_neg (fun w => q (this.mp w)), if_neg q]
      rw [hr]
      unfold f12_isProgram
      simp (disch := omega) only [h2, f12_isProgram_j28, f12_isProgram_j37, h4, nI_z, zI_add, zI_sub, zI_mul, zI_m1, ckI_z, zI_clamp, Int.toNat_natCast, bnd_some, lt, rd_same, rd_ne, rdL_same, rdL_ne, wI_2, wL_1, if_true, if_false, iT_lt, iF_lt, iT_lt0, iF_lt0, iT_0lt, iF_0lt, iT_le, iF_le, iT_le0, iF_le0, iT_0le, iF_0le, iT_eq, iF_eq, iT_eq0, iF_eq0]
      exact q1
    · rw [if_neg (fun w => e (by injection w.1))]
      unfold f12_isProgram
      simp (disch := omega) only [h2, f12_isProgram_j28, f12_isProgram_j36, f12_isProgram_j37, h4, nI_z, zI_add, zI_sub, zI_mul, zI_m1, ckI_z, zI_clamp, Int.toNat_natCast, bnd_some, lt, rd_same, rd_ne, rdL_same, rdL_ne, wI_2, wL_1, if_true, if_false, iT_lt, iF_lt, iT_lt0, iF_lt0, iT_0lt, iF_0lt, iT_le, iF_le, iT_le0, iF_le0, iT_0le, iF_0le, iT_eq, iF_eq, iT_eq0, iF_eq0]
      exact q0
theorem f12_size_loop {N k : Nat} {S : St} {p : List Nat} {g : Lg} (hm : ML S k g) (hv : LV g) (hk : k < 6) (h2 : S.1 146 8 = zI p.length) (h12 : p.length ≤ 12) (hx : ∀ x ∈ p, x < g.1.length) (h3 : Held (S.1 153) 0 p) : ∀ (m i n : Nat), i + m = p.length → m < n → f12_sizeIn_h4 N (zI k) n (zI (bsum g (p.take i))) (zI i) S = some (zI (bsum g p), S) := by
  have hgl := hv.len
  intro m
  induction m with
  | zero =>
    intro i n hi hn
    obtain ⟨n, rfl⟩ : ∃ z, n = z + 1 := ⟨n - 1, by omega⟩
    rw [List.take_of_length_le (by omega), f12_sizeIn_h4]
    simp (disch := omega) only [h2, nI_z, zI_add, zI_sub, zI_mul, zI_m1, ckI_z, zI_clamp, Int.toNat_natCast, bnd_some, lt, rd_same, rd_ne, rdL_same, rdL_ne, wI_2, wL_1, if_true, if_false, iT_lt, iF_lt, iT_lt0, iF_lt0, iT_0lt, iF_0lt, iT_le, iF_le, iT_le0, iF_le0, iT_0le, iF_0le, iT_eq, iF_eq, iT_eq0, iF_eq0]
  | succ m ih =>
    intro i n hi hn
    obtain ⟨n, rfl⟩ : ∃ z, n = z + 1 := ⟨n - 1, by omega⟩
    have hlt : i < p.length := by omega
    have hr : p[i]? = some p[i] := List.getElem?_eq_getElem hlt
    have htk : p.take (i + 1) = p.take i ++ [p[i]] := by rw [List.take_add_one, hr]; rfl
    generalize p[i] = o at hr htk
    have ho := hx o (List.mem_of_getElem? hr)
    have h4 := h3 i o hr
    rw [Nat.zero_add] at h4
    have h5 := hm.2.1 o ho
    have hs0 : bsum g (p.take (i + 1)) = bsum g (p.take i) + bit g o := by rw [htk, bsum_app]; simp [bsum]
    have ih1 := ih (i + 1) n (by omega) (by omega)
    rw [hs0] at ih1
    rw [f12_sizeIn_h4]
    simp (disch := omega) only [h2, h4, pl12, h5, nI_z, zI_add, zI_sub, zI_mul, zI_m1, ckI_z, zI_clamp, Int.toNat_natCast, bnd_some, lt, rd_same, rd_ne, rdL_same, rdL_ne, wI_2, wL_1, if_true, if_false, iT_lt, iF_lt, iT_lt0, iF_lt0, iT_0lt, iF_0lt, iT_le, iF_le, iT_le0, iF_le0, iT_0le, iF_0le, iT_eq, iF_eq, iT_eq0, iF_eq0]
    exact ih1
theorem c_size {N : Nat} {S : St} {Ls : List Lg} {p : List Nat} (hN : 20 ≤ N) (h : Qlang S Ls) (hq : Qprog S p) (x : Int32) : ∃ r, f11_size N x S = some (r, S) ∧ f12_size N x S = some (r, S) := by
  obtain ⟨h1, h2, h3, h4⟩ := hq
  have h12 := h1.2.1
  rcases lang_cases h x with ⟨e1, e2⟩ | ⟨i, g, hg, rfl, hi, e1, e2, hv, hc, hm⟩
  · refine ⟨zI (-1), ?_, ?_⟩
    · unfold f11_size; rw [e1]; simp (disch := omega) only [ifN_none, nI_z, zI_add, zI_sub, zI_mul, zI_m1, ckI_z, zI_clamp, Int.toNat_natCast, bnd_some, lt, rd_same, rd_ne, rdL_same, rdL_ne, wI_2, wL_1, if_true, if_false, iT_lt, iF_lt, iT_lt0, iF_lt0, iT_0lt, iF_0lt, iT_le, iF_le, iT_le0, iF_le0, iT_0le, iF_0le, iT_eq, iF_eq, iT_eq0, iF_eq0]
    · unfold f12_size; rw [e2]; simp (disch := omega) only [nI_z, zI_add, zI_sub, zI_mul, zI_m1, ckI_z, zI_clamp, Int.toNat_natCast, bnd_some, lt, rd_same, rd_ne, rdL_same, rdL_ne, wI_2, wL_1, if_true, if_false, iT_lt, iF_lt, iT_lt0, iF_lt0, iT_0lt, iF_0lt, iT_le, iF_le, iT_le0, iF_le0, iT_0le, iF_0le, iT_eq, iF_eq, iT_eq0, iF_eq0]
  · have hs := f3_sizeOf_in (N := N) hv hc h1 (by omega)
    have hp := f12_isp_in (N := N) hN hm hv hi h2 h12 h1.2.2.1 h3
    have ha := ad3_in i hi
    unfold szI at hs
    have hcl : ∀ r, f3_sizeOf N (50 + 11 * i) 2 S = some (r, S) → f11_size N (zI i) S = some (r, S) := fun r hr => by
      unfold f11_size
      rw [e1, bnd_some, ifN_some, ckA_in ha, hr, bnd_some]
    by_cases q1 : p.getLast? = some 0
    · by_cases q2 : p.all (fun x => decide (x < g.1.length)) = true
      · have hl := f12_size_loop (N := N) hm hv hi h2 h12 (fun x hx => of_decide_eq_true (List.all_eq_true.mp q2 x hx)) h3 p.length 0 N (by omega) (by omega)
        have hl2 : f12_sizeIn N (zI i) S = some (zI (bsum g p), S) := by
          unfold f12_sizeIn
          exact hl
        rw [if_pos q1, if_pos q2] at hs
        rw [if_pos ⟨q1, q2⟩] at hp
        refine ⟨_, hcl _ hs, ?_⟩
        unfold f12_size
        simp (disch := omega) only [e2, hp, hl2, nI_z, zI_add, zI_sub, zI_mul, zI_m1, ckI_z, zI_clamp, Int.toNat_natCast, bnd_some, lt, rd_same, rd_ne, rdL_same, rdL_ne, wI_2, wL_1, if_true, if_false, iT_lt, iF_lt, iT_lt0, iF_lt0, iT_0lt, iF_0lt, iT_le, iF_le, iT_le0, iF_le0, iT_0le, iF_0le, iT_eq, iF_eq, iT_eq0, iF_eq0]
      · rw [if_pos q1, if_neg q2] at hs
        rw [if_neg (fun q => q2 q.2)] at hp
        refine ⟨_, hcl _ hs, ?_⟩
        unfold f12_size
        simp (disch := omega) only [e2, hp, nI_z, zI_add, zI_sub, zI_mul, zI_m1, ckI_z, zI_clamp, Int.toNat_natCast, bnd_some, lt, rd_same, rd_ne, rdL_same, rdL_ne, wI_2, wL_1, if_true, if_false, iT_lt, iF_lt, iT_lt0, iF_lt0, iT_0lt, iF_0lt, iT_le, iF_le, iT_le0, iF_le0, iT_0le, iF_0le, iT_eq, iF_eq, iT_eq0, iF_eq0]
        rfl
    · rw [if_neg q1] at hs
      rw [if_neg (fun q => q1 q.1)] at hp
      refine ⟨_, hcl _ hs, ?_⟩
      unfold f12_size
      simp (disch := omega) only [e2, hp, nI_z, zI_add, zI_sub, zI_mul, zI_m1, ckI_z, zI_clamp, Int.toNat_natCast, bnd_some, lt, rd_same, rd_ne, rdL_same, rdL_ne, wI_2, wL_1, if_true, if_false, iT_lt, iF_lt, iT_lt0, iF_lt0, iT_0lt, iF_0lt, iT_le, iF_le, iT_le0, iF_le0, iT_0le, iF_0le, iT_eq, iF_eq, iT_eq0, iF_eq0]
      rfl
theorem pl4 (i j : Nat) : (((4 : Nat) : Int) * (i : Int) + ((j : Int) + 8) - ((8 : Nat) : Int)) = ((4 * i + j : Nat) : Int) := by omega
theorem pl44 (a b : Nat) : (((4 : Nat) : Int) * (a : Int) + (b : Int)).toNat = 4 * a + b := by omega
theorem z8 (j : Nat) : ((j : Int) + 8) - ((8 : Nat) : Int) = (j : Int) := by omega
theorem c_part {N : Nat} {S : St} {Ls : List Lg} (h : Qlang S Ls) (x y t : Int32) : ∃ r, f11_part x y t S = some (r, S) ∧ f12_part x y t S = some (r, S) := by
  rcases lang_cases h x with ⟨e1, e2⟩ | ⟨i, g, hg, rfl, hi, e1, e2, hv, hc, hm⟩
  · refine ⟨zI (-1), ?_, ?_⟩
    · unfold f11_part; rw [e1]; simp (disch := omega) only [ifN_none, nI_z, zI_add, zI_sub, zI_mul, zI_m1, ckI_z, zI_clamp, Int.toNat_natCast, bnd_some, lt, rd_same, rd_ne, rdL_same, rdL_ne, wI_2, wL_1, if_true, if_false, iT_lt, iF_lt, iT_lt0, iF_lt0, iT_0lt, iF_0lt, iT_le, iF_le, iT_le0, iF_le0, iT_0le, iF_0le, iT_eq, iF_eq, iT_eq0, iF_eq0]
    · unfold f12_part; rw [e2]; simp (disch := omega) only [nI_z, zI_add, zI_sub, zI_mul, zI_m1, ckI_z, zI_clamp, Int.toNat_natCast, bnd_some, lt, rd_same, rd_ne, rdL_same, rdL_ne, wI_2, wL_1, if_true, if_false, iT_lt, iF_lt, iT_lt0, iF_lt0, iT_0lt, iF_0lt, iT_le, iF_le, iT_le0, iF_le0, iT_0le, iF_0le, iT_eq, iF_eq, iT_eq0, iF_eq0]
  · have hy := xrng y
    have ht := xrng t
    have hgl := hv.len
    have hgl1 := hv.1
    have hgl2 := hv.2.1
    have ha := ad3_in i hi
    rw [zI_of y, zI_of t]
    generalize y.toInt = w at hy
    generalize t.toInt = u at ht
    by_cases w0 : w < 8
    · refine ⟨zI (-1), ?_, ?_⟩
      · unfold f11_part; simp (disch := omega) only [e1, ifN_some, ckA_in ha, nI_z, zI_add, zI_sub, zI_mul, zI_m1, ckI_z, zI_clamp, Int.toNat_natCast, bnd_some, lt, rd_same, rd_ne, rdL_same, rdL_ne, wI_2, wL_1, if_true, if_false, iT_lt, iF_lt, iT_lt0, iF_lt0, iT_0lt, iF_0lt, iT_le, iF_le, iT_le0, iF_le0, iT_0le, iF_0le, iT_eq, iF_eq, iT_eq0, iF_eq0]
      · unfold f12_part; simp (disch := omega) only [e2, nI_z, zI_add, zI_sub, zI_mul, zI_m1, ckI_z, zI_clamp, Int.toNat_natCast, bnd_some, lt, rd_same, rd_ne, rdL_same, rdL_ne, wI_2, wL_1, if_true, if_false, iT_lt, iF_lt, iT_lt0, iF_lt0, iT_0lt, iF_0lt, iT_le, iF_le, iT_le0, iF_le0, iT_0le, iF_0le, iT_eq, iF_eq, iT_eq0, iF_eq0]
    · have k1 := f3_has_z hc hv w hy
      have k2 := f12_has_eq hm hv hi w hy
      by_cases w1 : w < g.1.length
      · obtain ⟨j, rfl⟩ : ∃ j : Nat, w = (j : Int) + 8 := ⟨(w - 8).toNat, by omega⟩
        have hj : j < g.2.length := by omega
        have hq : g.2[j]? = some g.2[j] := List.getElem?_eq_getElem hj
        generalize g.2[j] = q at hq
        have hq4 := hv.2.2.2.2 q (List.mem_of_getElem? hq)
        obtain ⟨a1, a2⟩ := hc.2.2.2.2.1 j q hq
        obtain ⟨b1, b2⟩ := hm.2.2.2.2 j q hq
        have hwl : f3_writtenLength (50 + 11 * i) (zI ((j : Int) + 8)) S = some (zI q.length, S) := by
          unfold f3_writtenLength
          simp (disch := omega) only [z8, a1, nI_z, zI_add, zI_sub, zI_mul, zI_m1, ckI_z, zI_clamp, Int.toNat_natCast, bnd_some, lt, rd_same, rd_ne, rdL_same, rdL_ne, wI_2, wL_1, if_true, if_false, iT_lt, iF_lt, iT_lt0, iF_lt0, iT_0lt, iF_0lt, iT_le, iF_le, iT_le0, iF_le0, iT_0le, iF_0le, iT_eq, iF_eq, iT_eq0, iF_eq0]
        by_cases u1 : u = -1
        · subst u1
          refine ⟨zI q.length, ?_, ?_⟩
          · unfold f11_part; simp (disch := omega) only [iT_b, iF_b, e1, ifN_some, ckA_in ha, k1, hwl, nI_z, zI_add, zI_sub, zI_mul, zI_m1, ckI_z, zI_clamp, Int.toNat_natCast, bnd_some, lt, rd_same, rd_ne, rdL_same, rdL_ne, wI_2, wL_1, if_true, if_false, iT_lt, iF_lt, iT_lt0, iF_lt0, iT_0lt, iF_0lt, iT_le, iF_le, iT_le0, iF_le0, iT_0le, iF_0le, iT_eq, iF_eq, iT_eq0, iF_eq0]
          · unfold f12_part; simp (disch := omega) only [iT_b, iF_b, e2, k2, pl4, b1, nI_z, zI_add, zI_sub, zI_mul, zI_m1, ckI_z, zI_clamp, Int.toNat_natCast, bnd_some, lt, rd_same, rd_ne, rdL_same, rdL_ne, wI_2, wL_1, if_true, if_false, iT_lt, iF_lt, iT_lt0, iF_lt0, iT_0lt, iF_0lt, iT_le, iF_le, iT_le0, iF_le0, iT_0le, iF_0le, iT_eq, iF_eq, iT_eq0, iF_eq0]
        · by_cases u2 : u < 0
          · refine ⟨zI (-1), ?_, ?_⟩
            · unfold f11_part; simp (disch := omega) only [iT_b, iF_b, e1, ifN_some, ckA_in ha, k1, nI_z, zI_add, zI_sub, zI_mul, zI_m1, ckI_z, zI_clamp, Int.toNat_natCast, bnd_some, lt, rd_same, rd_ne, rdL_same, rdL_ne, wI_2, wL_1, if_true, if_false, iT_lt, iF_lt, iT_lt0, iF_lt0, iT_0lt, iF_0lt, iT_le, iF_le, iT_le0, iF_le0, iT_0le, iF_0le, iT_eq, iF_eq, iT_eq0, iF_eq0]
            · unfold f12_part; simp (disch := omega) only [iT_b, iF_b, e2, k2, nI_z, zI_add, zI_sub, zI_mul, zI_m1, ckI_z, zI_clamp, Int.toNat_natCast, bnd_some, lt, rd_same, rd_ne, rdL_same, rdL_ne, wI_2, wL_1, if_true, if_false, iT_lt, iF_lt, iT_lt0, iF_lt0, iT_0lt, iF_0lt, iT_le, iF_le, iT_le0, iF_le0, iT_0le, iF_0le, iT_eq, iF_eq, iT_eq0, iF_eq0]
          · by_cases u3 : u < q.length
            · obtain ⟨v, rfl⟩ : ∃ v : Nat, u = v := ⟨u.toNat, by omega⟩
              have hr : q[v]? = some q[v] := List.getElem?_eq_getElem (by omega)
              have a3 := a2 v _ hr
              have b3 := b2 v _ hr
              rw [Nat.zero_add] at a3
              have hwr : f3_written (50 + 11 * i) (zI ((j : Int) + 8)) (zI v) S = some (zI q[v], S) := by
                unfold f3_written
                simp (disch := omega) only [z8, a3, nI_z, zI_add, zI_sub, zI_mul, zI_m1, ckI_z, zI_clamp, Int.toNat_natCast, bnd_some, lt, rd_same, rd_ne, rdL_same, rdL_ne, wI_2, wL_1, if_true, if_false, iT_lt, iF_lt, iT_lt0, iF_lt0, iT_0lt, iF_0lt, iT_le, iF_le, iT_le0, iF_le0, iT_0le, iF_0le, iT_eq, iF_eq, iT_eq0, iF_eq0]
              refine ⟨zI q[v], ?_, ?_⟩
              · unfold f11_part; simp (disch := omega) only [iT_b, iF_b, e1, ifN_some, ckA_in ha, k1, hwl, hwr, nI_z, zI_add, zI_sub, zI_mul, zI_m1, ckI_z, zI_clamp, Int.toNat_natCast, bnd_some, lt, rd_same, rd_ne, rdL_same, rdL_ne, wI_2, wL_1, if_true, if_false, iT_lt, iF_lt, iT_lt0, iF_lt0, iT_0lt, iF_0lt, iT_le, iF_le, iT_le0, iF_le0, iT_0le, iF_0le, iT_eq, iF_eq, iT_eq0, iF_eq0]
              · unfold f12_part; simp (disch := omega) only [iT_b, iF_b, e2, k2, pl4, pl44, b1, b3, nI_z, zI_add, zI_sub, zI_mul, zI_m1, ckI_z, zI_clamp, Int.toNat_natCast, bnd_some, lt, rd_same, rd_ne, rdL_same, rdL_ne, wI_2, wL_1, if_true, if_false, iT_lt, iF_lt, iT_lt0, iF_lt0, iT_0lt, iF_0lt, iT_le, iF_le, iT_le0, iF_le0, iT_0le, iF_0le, iT_eq, iF_eq, iT_eq0, iF_eq0]
            · refine ⟨zI (-1), ?_, ?_⟩
              · unfold f11_part; simp (disch := omega) only [iT_b, iF_b, e1, ifN_some, ckA_in ha, k1, hwl, nI_z, zI_add, zI_sub, zI_mul, zI_m1, ckI_z, zI_clamp, Int.toNat_natCast, bnd_some, lt, rd_same, rd_ne, rdL_same, rdL_ne, wI_2, wL_1, if_true, if_false, iT_lt, iF_lt, iT_lt0, iF_lt0, iT_0lt, iF_0lt, iT_le, iF_le, iT_le0, iF_le0, iT_0le, iF_0le, iT_eq, iF_eq, iT_eq0, iF_eq0]
              · unfold f12_part; simp (disch := omega) only [iT_b, iF_b, e2, k2, pl4, b1, nI_z, zI_add, zI_sub, zI_mul, zI_m1, ckI_z, zI_clamp, Int.toNat_natCast, bnd_some, lt, rd_same, rd_ne, rdL_same, rdL_ne, wI_2, wL_1, if_true, if_false, iT_lt, iF_lt, iT_lt0, iF_lt0, iT_0lt, iF_0lt, iT_le, iF_le, iT_le0, iF_le0, iT_0le, iF_0le, iT_eq, iF_eq, iT_eq0, iF_eq0]
      · refine ⟨zI (-1), ?_, ?_⟩
        · unfold f11_part; simp (disch := omega) only [iT_b, iF_b, e1, ifN_some, ckA_in ha, k1, nI_z, zI_add, zI_sub, zI_mul, zI_m1, ckI_z, zI_clamp, Int.toNat_natCast, bnd_some, lt, rd_same, rd_ne, rdL_same, rdL_ne, wI_2, wL_1, if_true, if_false, iT_lt, iF_lt, iT_lt0, iF_lt0, iT_0lt, iF_0lt, iT_le, iF_le, iT_le0, iF_le0, iT_0le, iF_0le, iT_eq, iF_eq, iT_eq0, iF_eq0]
        · unfold f12_part; simp (disch := omega) only [iT_b, iF_b, e2, k2, nI_z, zI_add, zI_sub, zI_mul, zI_m1, ckI_z, zI_clamp, Int.toNat_natCast, bnd_some, lt, rd_same, rd_ne, rdL_same, rdL_ne, wI_2, wL_1, if_true, if_false, iT_lt, iF_lt, iT_lt0, iF_lt0, iT_0lt, iF_0lt, iT_le, iF_le, iT_le0, iF_le0, iT_0le, iF_0le, iT_eq, iF_eq, iT_eq0, iF_eq0]
