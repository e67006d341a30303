/-! The reference packs the program looked at, and looks at a packed one. -/
theorem lN_or2 {a b k : Nat} (ha : a < 2 ^ k) (h : 2 ^ k * b + a < 2 ^ 64) : lN (2 ^ k * b) ||| lN a = lN (2 ^ k * b + a) := by
  apply Int64.toBitVec_inj.mp
  apply BitVec.eq_of_toNat_eq
  rw [Int64.toBitVec_or, BitVec.toNat_or, lN_tn (by omega), lN_tn (by omega), lN_tn h]
  exact (Nat.two_pow_add_eq_or_of_lt ha b).symm
theorem pack_48 {p : List Nat} (hp : p.length ≤ 12) (hx : ∀ x ∈ p, x < 12) : pack p < 2 ^ 48 := by
  have h1 := pack_lt p (fun x h => by have := hx x h; omega)
  have h2 : (16 : Nat) ^ p.length ≤ 16 ^ 12 := Nat.pow_le_pow_right (by omega) hp
  exact Nat.lt_of_lt_of_le h1 h2
theorem f12_packed_loop {N : Nat} {S : St} {p : List Nat} (h3 : Held (S.1 153) 0 p) (h12 : p.length ≤ 12) (hx : ∀ x ∈ p, x < 12) : ∀ (m n : Nat) (z : Int), m ≤ p.length → m < n → z = (m : Int) - 1 → f12_packed_h9 N n (lN (pack (p.drop m))) (zI z) S = some (lN (pack p), S) := by
  intro m
  induction m with
  | zero =>
    intro n z hm hn hz
    obtain ⟨n, rfl⟩ : ∃ z, n = z + 1 := ⟨n - 1, by omega⟩
    rw [List.drop_zero, f12_packed_h9]
    simp (disch := omega) only [nI_z, zI_add, zI_sub, zI_mul, zI_m1, ckI_z, zI_clamp, Int.toNat_natCast, bnd_some, lt, rd_same, rd_ne, rdL_same, rdL_ne, wI_2, wL_1, if_true, if_false, iT_lt, iF_lt, iT_lt0, iF_lt0, iT_0lt, iF_0lt, iT_le, iF_le, iT_le0, iF_le0, iT_0le, iF_0le, iT_eq, iF_eq, iT_eq0, iF_eq0]
  | succ m ih =>
    intro n z hm hn hz
    obtain ⟨n, rfl⟩ : ∃ z, n = z + 1 := ⟨n - 1, by omega⟩
    obtain rfl : z = (m : Nat) := by omega
    have hlt : m < p.length := by omega
    have hr : p[m]? = some p[m] := List.getElem?_eq_getElem hlt
    have hdk : p.drop m = p[m] :: p.drop (m + 1) := List.drop_eq_getElem_cons hlt
    generalize p[m] = o at hr hdk
    have ho := hx o (List.mem_of_getElem? hr)
    have h4 := h3 m o hr
    rw [Nat.zero_add] at h4
    have hb := pack_48 (p := p.drop m) (by rw [List.length_drop]; omega) (fun x hh => hx x (List.mem_of_mem_drop hh))
    rw [hdk] at hb
    have hb2 : o + 16 * pack (p.drop (m + 1)) < 2 ^ 48 := hb
    have hs := lN_shl (c := pack (p.drop (m + 1))) (s := 4) (by omega) (by omega)
    have hz2 : (zI o).toInt64 = lN o := (lN_z o (by omega)).symm
    have hor := lN_or2 (a := o) (b := pack (p.drop (m + 1))) (k := 4) (by omega) (by omega)
    have hall : shlL (lN (pack (p.drop (m + 1)))) (zI ((4 : Nat) : Int)) ||| (zI o).toInt64 = lN (pack (p.drop m)) := by
      rw [hdk, ← nI_z, hs, hz2, Nat.mul_comm, hor]
      congr 1
      show 16 * _ + o = o + 16 * _
      omega
    have ih1 := ih n ((m : Int) + -1) (by omega) (by omega) (by omega)
    rw [f12_packed_h9]
    simp (disch := omega) only [h4, hall, nI_z, zI_add, zI_sub, zI_mul, zI_m1, ckI_z, zI_clamp, Int.toNat_natCast, bnd_some, lt, rd_same, rd_ne, rdL_same, rdL_ne, wI_2, wL_1, if_true, if_false, iT_lt, iF_lt, iT_lt0, iF_lt0, iT_0lt, iF_0lt, iT_le, iF_le, iT_le0, iF_le0, iT_0le, iF_0le, iT_eq, iF_eq, iT_eq0, iF_eq0]
    exact ih1
theorem f12_packed_ok {N : Nat} {S : St} {p : List Nat} (hN : 20 ≤ N) (h2 : S.1 146 8 = zI p.length) (h3 : Held (S.1 153) 0 p) (h12 : p.length ≤ 12) (hx : ∀ x ∈ p, x < 12) : f12_packed N S = some (lN (pack p), S) := by
  have h := f12_packed_loop (N := N) h3 h12 hx p.length N ((p.length : Int) - ((1 : Nat) : Int)) (Nat.le_refl _) (by omega) (by omega)
  rw [List.drop_length] at h
  unfold f12_packed
  simp (disch := omega) only [h2, nI_z, zI_add, zI_sub, zI_mul, zI_m1, ckI_z, zI_clamp, Int.toNat_natCast, bnd_some, lt, rd_same, rd_ne, rdL_same, rdL_ne, wI_2, wL_1, if_true, if_false, iT_lt, iF_lt, iT_lt0, iF_lt0, iT_0lt, iF_0lt, iT_le, iF_le, iT_le0, iF_le0, iT_0le, iF_0le, iT_eq, iF_eq, iT_eq0, iF_eq0]
  exact h
def loP (c p : Nat) : Prop := (c = 146 ∧ p = 8) ∨ c = 153
theorem f12_look_loop {N : Nat} {p : List Nat} {g : Lg} (hw : WP g p) (h12 : p.length ≤ 12) (hx : ∀ x ∈ p, x < 12) : ∀ (m i n : Nat) (S : St), i + (m + 1) = p.length → m + 1 < n → S.1 146 8 = zI i → Held (S.1 153) 0 (p.take i) → ∃ S2, f12_lookAt_h10 N n (zI ((1 : Nat) : Int)) (lN (pack (p.drop i))) S = some ((), S2) ∧ S2.1 146 8 = zI p.length ∧ Held (S2.1 153) 0 p ∧ Same loP S S2 := by
  intro m
  induction m with
  | zero =>
    intro i n S hi hn hc hh
    obtain ⟨n, rfl⟩ : ∃ z, n = z + 1 := ⟨n - 1, by omega⟩
    obtain ⟨n, rfl⟩ : ∃ z, n = z + 1 := ⟨n - 1, by omega⟩
    have hlt : i < p.length := by omega
    have hr : p[i]? = some p[i] := List.getElem?_eq_getElem hlt
    have hdk : p.drop i = p[i] :: p.drop (i + 1) := List.drop_eq_getElem_cons hlt
    have htk : p.take (i + 1) = p.take i ++ [p[i]] := by rw [List.take_add_one, hr]; rfl
    have h0 := (hw.2.2 i _ hr).mpr (by omega)
    rw [h0] at hdk htk
    have hdn : p.drop (i + 1) = [] := List.drop_eq_nil_of_le (by omega)
    have hpk : pack (p.drop i) = 0 := by rw [hdk, hdn]; rfl
    have hpe : p = p.take i ++ [0] := by rw [← htk, List.take_of_length_le (by omega)]
    have hil : (p.take i).length = i := by rw [List.length_take]; omega
    have hpu := hh.push (S := S) (a := 153) (x := 0) rfl
    rw [hil, ← hpe] at hpu
    have hs : Same loP S (wI (wI S 153 i (zI ((0 : Nat) : Int))) 146 8 (zI ((i : Int) + ((1 : Nat) : Int)))) := (Same.rfl'.wI (Or.inr rfl)).wI (Or.inl ⟨rfl, rfl⟩)
    refine ⟨_, ?_, ?_, ?_, hs⟩
    · have e : (lN (pack (p.drop i)) &&& lN 15).toInt32 = zI ((0 : Nat) : Int) := by rw [hpk]; decide
      rw [f12_lookAt_h10]
      simp (disch := omega) only [hc, e, f12_lookAt_j47, nI_z, zI_add, zI_sub, zI_mul, zI_m1, ckI_z, zI_clamp, Int.toNat_natCast, bnd_some, lt, rd_same, rd_ne, rdL_same, rdL_ne, wI_2, wL_1, if_true, if_false, iT_lt, iF_lt, iT_lt0, iF_lt0, iT_0lt, iF_0lt, iT_le, iF_le, iT_le0, iF_le0, iT_0le, iF_0le, iT_eq, iF_eq, iT_eq0, iF_eq0]
      rw [f12_lookAt_h10]
      simp (disch := omega) only [nI_z, zI_add, zI_sub, zI_mul, zI_m1, ckI_z, zI_clamp, Int.toNat_natCast, bnd_some, lt, rd_same, rd_ne, rdL_same, rdL_ne, wI_2, wL_1, if_true, if_false, iT_lt, iF_lt, iT_lt0, iF_lt0, iT_0lt, iF_0lt, iT_le, iF_le, iT_le0, iF_le0, iT_0le, iF_0le, iT_eq, iF_eq, iT_eq0, iF_eq0]
    · rw [rd_same, ← hi]; rfl
    · intro a y ha
      rw [rd_ne (by omega)]
      exact hpu a y ha
  | succ m ih =>
    intro i n S hi hn hc hh
    obtain ⟨n, rfl⟩ : ∃ z, n = z + 1 := ⟨n - 1, by omega⟩
    have hlt : i < p.length := by omega
    have hr : p[i]? = some p[i] := List.getElem?_eq_getElem hlt
    have hdk : p.drop i = p[i] :: p.drop (i + 1) := List.drop_eq_getElem_cons hlt
    have htk : p.take (i + 1) = p.take i ++ [p[i]] := by rw [List.take_add_one, hr]; rfl
    have h0 := hw.2.2 i _ hr
    generalize p[i] = o at hr hdk htk h0
    have ho := hx o (List.mem_of_getElem? hr)
    have ho0 : o ≠ 0 := fun q => by have := h0.mp q; omega
    have hb := pack_48 (p := p.drop i) (by rw [List.length_drop]; omega) (fun x hh => hx x (List.mem_of_mem_drop hh))
    have hpk : pack (p.drop i) = o + 16 * pack (p.drop (i + 1)) := by rw [hdk]; rfl
    rw [hpk] at hb
    have hil : (p.take i).length = i := by rw [List.length_take]; omega
    have hpu := hh.push (S := S) (a := 153) (x := o) rfl
    rw [hil, ← htk] at hpu
    have hs : Same loP S (wI (wI S 153 i (zI o)) 146 8 (zI ((i : Int) + ((1 : Nat) : Int)))) := (Same.rfl'.wI (Or.inr rfl)).wI (Or.inl ⟨rfl, rfl⟩)
    obtain ⟨S2, f1, f2, f3, f4⟩ := ih (i + 1) n (wI (wI S 153 i (zI o)) 146 8 (zI ((i : Int) + ((1 : Nat) : Int)))) (by omega) (by omega) rd_same (fun a y ha => by rw [rd_ne (by omega)]; exact hpu a y ha)
    refine ⟨S2, ?_, f2, f3, hs.tr f4⟩
    have e : (lN (pack (p.drop i)) &&& lN 15).toInt32 = zI o := by
      rw [hpk, lN_and15 (by omega), lN_i32 _ (by omega)]
      congr 1
      omega
    have e2 : shrL (lN (pack (p.drop i))) (nI 4) = lN (pack (p.drop (i + 1))) := by
      rw [hpk, lN_shr4 (by omega)]
      congr 1
      omega
    rw [nI_z] at e2
    rw [f12_lookAt_h10]
    simp (disch := omega) only [hc, e, f12_lookAt_j47, e2, nI_z, zI_add, zI_sub, zI_mul, zI_m1, ckI_z, zI_clamp, Int.toNat_natCast, bnd_some, lt, rd_same, rd_ne, rdL_same, rdL_ne, wI_2, wL_1, if_true, if_false, iT_lt, iF_lt, iT_lt0, iF_lt0, iT_0lt, iF_0lt, iT_le, iF_le, iT_le0, iF_le0, iT_0le, iF_0le, iT_eq, iF_eq, iT_eq0, iF_eq0]
    exact f1
theorem f12_lookAt_ok {N : Nat} {p : List Nat} {g : Lg} {S : St} (hN : 20 ≤ N) (hw : WP g p) (h12 : p.length ≤ 12) (hx : ∀ x ∈ p, x < 12) : ∃ S2, f12_lookAt N (lN (pack p)) S = some ((), S2) ∧ S2.1 146 8 = zI p.length ∧ Held (S2.1 153) 0 p ∧ Same loP S S2 := by
  have hl : 0 < p.length := List.length_pos_iff.mpr hw.1
  have hs : Same loP S (wI S 146 8 (zI ((0 : Nat) : Int))) := Same.rfl'.wI (Or.inl ⟨rfl, rfl⟩)
  obtain ⟨S2, e1, e2, e3, e4⟩ := f12_look_loop (N := N) hw h12 hx (p.length - 1) 0 N (wI S 146 8 (zI ((0 : Nat) : Int))) (by omega) (by omega) rd_same (fun i y h => by simp at h)
  refine ⟨S2, ?_, e2, e3, hs.tr e4⟩
  unfold f12_lookAt
  simp (disch := omega) only [nI_z, zI_add, zI_sub, zI_mul, zI_m1, ckI_z, zI_clamp, Int.toNat_natCast, bnd_some, lt, rd_same, rd_ne, rdL_same, rdL_ne, wI_2, wL_1, if_true, if_false, iT_lt, iF_lt, iT_lt0, iF_lt0, iT_0lt, iF_0lt, iT_le, iF_le, iT_le0, iF_le0, iT_0le, iF_0le, iT_eq, iF_eq, iT_eq0, iF_eq0]
  exact e1
theorem WP.tail {g : Lg} {o : Nat} {q : List Nat} (h : WP g (o :: q)) (h0 : o ≠ 0) : WP g q := by
  have h3 := h.2.2 0 o rfl
  have hq0 : q ≠ [] := fun e => h0 (h3.mpr (by rw [e]; rfl))
  refine ⟨hq0, fun x hx => h.2.1 x (List.mem_cons_of_mem _ hx), fun i x hi => ?_⟩
  have := h.2.2 (i + 1) x (by simpa using hi)
  rw [this, List.length_cons]
  omega
theorem WP.one {g : Lg} {q : List Nat} (h : WP g (0 :: q)) : q = [] := by
  have := (h.2.2 0 0 rfl).mp rfl
  rw [List.length_cons] at this
  exact List.length_eq_zero_iff.mp (by omega)
theorem pack_inj {g : Lg} (hg : LV g) : ∀ {p q : List Nat}, WP g p → WP g q → pack p = pack q → p = q
  | [], _, h, _, _ => absurd rfl h.1
  | _ :: _, [], _, h, _ => absurd rfl h.1
  | a :: p, b :: q, h1, h2, e => by
    have hgl := hg.len
    have ha := h1.2.1 a List.mem_cons_self
    have hb := h2.2.1 b List.mem_cons_self
    have e' : a + 16 * pack p = b + 16 * pack q := e
    obtain rfl : a = b := by omega
    by_cases h0 : a = 0
    · subst h0
      rw [h1.one, h2.one]
    · rw [pack_inj hg (h1.tail h0) (h2.tail h0) (by omega)]
