/-! The relation, piece by piece; the calls on LANGUAGES and on the program looked at. -/
def Qlang (S : St) (Ls : List Lg) : Prop := Ls.length ≤ 6 ∧ S.1 0 1 = zI Ls.length ∧ S.1 146 6 = zI Ls.length ∧ ∀ i g, Ls[i]? = some g → LV g ∧ CL S (50 + 11 * i) g ∧ ML S i g
/-- the cells of LANGUAGES -/
def laP (c p : Nat) : Prop := (c = 0 ∧ p = 1) ∨ (50 ≤ c ∧ c ≤ 115) ∨ (c = 146 ∧ p = 6) ∨ (147 ≤ c ∧ c ≤ 152)
theorem ML.same {P : Nat → Nat → Prop} {S S2 : St} {i : Nat} {g : Lg} (h : ML S i g) (hg : LV g) (hs : Same P S S2) (h1 : ∀ c p, c = 147 ∨ c = 148 ∨ c = 149 → 12 * i ≤ p → p < 12 * i + 12 → ¬ P c p) (h2 : ∀ p, 4 * i ≤ p → p < 4 * i + 4 → ¬ P 151 p) (h3 : ∀ p, 16 * i ≤ p → p < 16 * i + 16 → ¬ P 150 p) (h4 : ¬ P 152 i) : ML S2 i g := by
  obtain ⟨e0, e1, e2, e3, e4⟩ := h
  have hgl := hg.len
  have hp := hg.2.1
  refine ⟨by rw [hs.i h4]; exact e0, fun o ho => ?_, fun o ho => ?_, fun j x hj => ?_, fun j q hq => ?_⟩
  · rw [hs.i (h1 147 _ (by omega) (by omega) (by omega))]; exact e1 o ho
  · rw [hs.i (h1 148 _ (by omega) (by omega) (by omega))]; exact e2 o ho
  · have := (List.getElem?_eq_some_iff.mp hj).1
    rw [rkf_len hg] at this
    rw [hs.i (h1 149 _ (by omega) (by omega) (by omega))]; exact e3 j x hj
  · have hjl := (List.getElem?_eq_some_iff.mp hq).1
    have hq4 := (hg.2.2.2.2 q (List.mem_of_getElem? hq)).2.1
    refine ⟨by rw [hs.i (h2 _ (by omega) (by omega))]; exact (e4 j q hq).1, fun a x ha => ?_⟩
    have := (List.getElem?_eq_some_iff.mp ha).1
    rw [hs.i (h3 _ (by omega) (by omega))]
    exact (e4 j q hq).2 a x ha
theorem Qlang.same {P : Nat → Nat → Prop} {S S2 : St} {Ls : List Lg} (h : Qlang S Ls) (hs : Same P S S2) (hd : ∀ c p, laP c p → ¬ P c p) : Qlang S2 Ls := by
  obtain ⟨h1, h2, h3, h4⟩ := h
  refine ⟨h1, by rw [hs.i (hd 0 1 (by unfold laP; omega))]; exact h2, by rw [hs.i (hd 146 6 (by unfold laP; omega))]; exact h3, fun i g hi => ?_⟩
  have hl := (List.getElem?_eq_some_iff.mp hi).1
  obtain ⟨q1, q2, q3⟩ := h4 i g hi
  exact ⟨q1, q2.same q1 hs (fun c k _ _ => hd c k (by unfold laP; omega)), q3.same q1 hs (fun c p _ _ _ => hd c p (by unfold laP; omega)) (fun p _ _ => hd _ p (by unfold laP; omega)) (fun p _ _ => hd _ p (by unfold laP; omega)) (hd _ _ (by unfold laP; omega))⟩
theorem c_language {N : Nat} {S : St} {Ls : List Lg} (hN : 20 ≤ N) (h : Qlang S Ls) (x : Int32) : ∃ r S1 S2 Ls2, f11_language N x S = some (r, S1) ∧ f12_language N x S1 = some (r, S2) ∧ Qlang S2 Ls2 ∧ Same laP S S2 := by
  have hx := xrng x
  rw [zI_of x]
  generalize x.toInt = z at hx
  obtain ⟨h1, h2, h3, h4⟩ := h
  obtain ⟨a1, a2, a3, a4⟩ := f11_language_ok (N := N) hN hx h1 h2
  by_cases hd : dgood z
  · by_cases ht : tsum z.toNat 8 ≤ 64
    · by_cases h6 : Ls.length = 6
      · obtain ⟨b1, b2, b3, b4⟩ := f12_language_ok (N := N) hN hx h1 h3
        exact ⟨_, S, S, Ls, a3 hd ht h6, b3 hd ht h6, ⟨h1, h2, h3, h4⟩, Same.rfl'⟩
      · obtain ⟨S1, e1, e2, e3, e4⟩ := a4 hd ht (by omega)
        have h3' : S1.1 146 6 = zI Ls.length := by rw [e4.i (by omega)]; exact h3
        obtain ⟨b1, b2, b3, b4⟩ := f12_language_ok (N := N) hN hx h1 h3'
        obtain ⟨S2, f1, f2, f3, f4⟩ := b4 hd ht (by omega)
        have hg := LV_dgs hd.2.1 ht
        refine ⟨_, S1, S2, Ls ++ [(dgs z.toNat, [])], e1, f1, ⟨by simp; omega, ?_, ?_, fun i g hi => ?_⟩, (e4.mono (fun c p h => by unfold laP; omega)).tr (f4.mono (fun c p h => by unfold mlP at h; unfold laP; omega))⟩
        · rw [f4.i (by unfold mlP; omega), e3, List.length_append]; rfl
        · rw [f3, List.length_append]; rfl
        · have hlt : i < Ls.length + 1 := by
            have := (List.getElem?_eq_some_iff.mp hi).1
            simpa using this
          by_cases e : i = Ls.length
          · subst e
            obtain rfl : g = (dgs z.toNat, []) := by simpa [eq_comm] using hi
            exact ⟨hg, e2.same hg f4 (fun c k _ _ h => by unfold mlP at h; omega), f2⟩
          · rw [List.getElem?_append_left (by omega)] at hi
            obtain ⟨q1, q2, q3⟩ := h4 i g hi
            refine ⟨q1, (q2.same q1 e4 (fun c k _ _ h => by omega)).same q1 f4 (fun c k _ _ h => by unfold mlP at h; omega), (q3.same q1 e4 (fun c p h0 _ _ h => by omega) (fun p _ _ h => by omega) (fun p _ _ h => by omega) (fun h => by omega)).same q1 f4 (fun c p h0 _ _ h => by unfold mlP at h; omega) (fun p _ _ h => by unfold mlP at h; omega) (fun p _ _ h => by unfold mlP at h; omega) (fun h => by unfold mlP at h; omega)⟩
    · obtain ⟨b1, b2, b3, b4⟩ := f12_language_ok (N := N) hN hx h1 h3
      exact ⟨_, S, S, Ls, a2 hd (by omega), b2 hd (by omega), ⟨h1, h2, h3, h4⟩, Same.rfl'⟩
  · obtain ⟨b1, b2, b3, b4⟩ := f12_language_ok (N := N) hN hx h1 h3
    exact ⟨_, S, S, Ls, a1 hd, b1 hd, ⟨h1, h2, h3, h4⟩, Same.rfl'⟩
-- which LANGUAGE
theorem ad3_in : ∀ i : Nat, i < 6 → 50 + 11 * i ∈ ad3 := by decide
theorem lang_in {S : St} {Ls : List Lg} (h : Qlang S Ls) {i : Nat} (hi : i < Ls.length) : f11_languageAt (zI i) S = some (some (50 + 11 * i), S) ∧ f12_isLanguage (zI i) S = some (zI 1, S) := by
  obtain ⟨h1, h2, h3, h4⟩ := h
  refine ⟨?_, ?_⟩
  · unfold f11_languageAt
    simp (disch := omega) only [h2, nI_z, zI_add, zI_sub, zI_mul, zI_m1, ckI_z, zI_clamp, Int.toNat_natCast, bnd_some, lt, rd_same, rd_ne, rdL_same, rdL_ne, wI_2, wL_1, if_true, if_false, iT_lt, iF_lt, iT_lt0, iF_lt0, iT_0lt, iF_0lt, iT_le, iF_le, iT_le0, iF_le0, iT_0le, iF_0le, iT_eq, iF_eq, iT_eq0, iF_eq0]
  · unfold f12_isLanguage
    simp (disch := omega) only [h3, nI_z, zI_add, zI_sub, zI_mul, zI_m1, ckI_z, zI_clamp, Int.toNat_natCast, bnd_some, lt, rd_same, rd_ne, rdL_same, rdL_ne, wI_2, wL_1, if_true, if_false, iT_lt, iF_lt, iT_lt0, iF_lt0, iT_0lt, iF_0lt, iT_le, iF_le, iT_le0, iF_le0, iT_0le, iF_0le, iT_eq, iF_eq, iT_eq0, iF_eq0]
    rfl
theorem lang_out {S : St} {Ls : List Lg} (h : Qlang S Ls) (x : Int32) (hx : ¬ (0 ≤ x.toInt ∧ x.toInt < Ls.length)) : f11_languageAt x S = some (none, S) ∧ f12_isLanguage x S = some (zI 0, S) := by
  obtain ⟨h1, h2, h3, h4⟩ := h
  have hr := xrng x
  rw [zI_of x]
  generalize x.toInt = z at hx hr
  refine ⟨?_, ?_⟩
  · unfold f11_languageAt
    by_cases e : z < 0
    · simp (disch := omega) only [h2, nI_z, zI_add, zI_sub, zI_mul, zI_m1, ckI_z, zI_clamp, Int.toNat_natCast, bnd_some, lt, rd_same, rd_ne, rdL_same, rdL_ne, wI_2, wL_1, if_true, if_false, iT_lt, iF_lt, iT_lt0, iF_lt0, iT_0lt, iF_0lt, iT_le, iF_le, iT_le0, iF_le0, iT_0le, iF_0le, iT_eq, iF_eq, iT_eq0, iF_eq0]
    · simp (disch := omega) only [h2, nI_z, zI_add, zI_sub, zI_mul, zI_m1, ckI_z, zI_clamp, Int.toNat_natCast, bnd_some, lt, rd_same, rd_ne, rdL_same, rdL_ne, wI_2, wL_1, if_true, if_false, iT_lt, iF_lt, iT_lt0, iF_lt0, iT_0lt, iF_0lt, iT_le, iF_le, iT_le0, iF_le0, iT_0le, iF_0le, iT_eq, iF_eq, iT_eq0, iF_eq0]
  · unfold f12_isLanguage
    by_cases e : z < 0
    · simp (disch := omega) only [h3, nI_z, zI_add, zI_sub, zI_mul, zI_m1, ckI_z, zI_clamp, Int.toNat_natCast, bnd_some, lt, rd_same, rd_ne, rdL_same, rdL_ne, wI_2, wL_1, if_true, if_false, iT_lt, iF_lt, iT_lt0, iF_lt0, iT_0lt, iF_0lt, iT_le, iF_le, iT_le0, iF_le0, iT_0le, iF_0le, iT_eq, iF_eq, iT_eq0, iF_eq0]
      rfl
    · simp (disch := omega) only [h3, nI_z, zI_add, zI_sub, zI_mul, zI_m1, ckI_z, zI_clamp, Int.toNat_natCast, bnd_some, lt, rd_same, rd_ne, rdL_same, rdL_ne, wI_2, wL_1, if_true, if_false, iT_lt, iF_lt, iT_lt0, iF_lt0, iT_0lt, iF_0lt, iT_le, iF_le, iT_le0, iF_le0, iT_0le, iF_0le, iT_eq, iF_eq, iT_eq0, iF_eq0]
      rfl
theorem lang_cases {S : St} {Ls : List Lg} (h : Qlang S Ls) (x : Int32) : (f11_languageAt x S = some (none, S) ∧ f12_isLanguage x S = some (zI 0, S)) ∨ ∃ (i : Nat) (g : Lg), Ls[i]? = some g ∧ x = zI i ∧ i < 6 ∧ f11_languageAt x S = some (some (50 + 11 * i), S) ∧ f12_isLanguage x S = some (zI 1, S) ∧ LV g ∧ CL S (50 + 11 * i) g ∧ ML S i g := by
  by_cases hx : 0 ≤ x.toInt ∧ x.toInt < Ls.length
  · right
    obtain ⟨i, hi⟩ : ∃ i : Nat, x.toInt = i := ⟨x.toInt.toNat, by omega⟩
    have hl : i < Ls.length := by omega
    have hxe : x = zI i := by rw [← hi]; exact zI_of x
    have hg : Ls[i]? = some Ls[i] := List.getElem?_eq_getElem hl
    have h6 := h.1
    obtain ⟨p1, p2⟩ := lang_in h hl
    rw [hxe]
    exact ⟨i, _, hg, rfl, by omega, p1, p2, h.2.2.2 i _ hg⟩
  · exact Or.inl (lang_out h x hx)
theorem f12_has_eq {S : St} {i : Nat} {g : Lg} (h : ML S i g) (hg : LV g) (hi : i < 6) (z : Int) (hz : -2147483648 ≤ z ∧ z < 2147483648) : f12_hasOrder (zI i) (zI z) S = some (bI (0 ≤ z ∧ z < g.1.length), S) := by
  have hgl := hg.len
  unfold f12_hasOrder
  by_cases h4 : 0 ≤ z
  · by_cases h5 : z < g.1.length
    · rw [bI_t ⟨h4, h5⟩]; simp (disch := omega) only [f12_ordersOf_in h.1 hg hi, nI_z, zI_add, zI_sub, zI_mul, zI_m1, ckI_z, zI_clamp, Int.toNat_natCast, bnd_some, lt, rd_same, rd_ne, rdL_same, rdL_ne, wI_2, wL_1, if_true, if_false, iT_lt, iF_lt, iT_lt0, iF_lt0, iT_0lt, iF_0lt, iT_le, iF_le, iT_le0, iF_le0, iT_0le, iF_0le, iT_eq, iF_eq, iT_eq0, iF_eq0]; rfl
    · rw [bI_f (by omega)]; simp (disch := omega) only [f12_ordersOf_in h.1 hg hi, nI_z, zI_add, zI_sub, zI_mul, zI_m1, ckI_z, zI_clamp, Int.toNat_natCast, bnd_some, lt, rd_same, rd_ne, rdL_same, rdL_ne, wI_2, wL_1, if_true, if_false, iT_lt, iF_lt, iT_lt0, iF_lt0, iT_0lt, iF_0lt, iT_le, iF_le, iT_le0, iF_le0, iT_0le, iF_0le, iT_eq, iF_eq, iT_eq0, iF_eq0]; rfl
  · rw [bI_f (by omega)]; simp (disch := omega) only [nI_z, zI_add, zI_sub, zI_mul, zI_m1, ckI_z, zI_clamp, Int.toNat_natCast, bnd_some, lt, rd_same, rd_ne, rdL_same, rdL_ne, wI_2, wL_1, if_true, if_false, iT_lt, iF_lt, iT_lt0, iF_lt0, iT_0lt, iF_0lt, iT_le, iF_le, iT_le0, iF_le0, iT_0le, iF_0le, iT_eq, iF_eq, iT_eq0, iF_eq0]; rfl
theorem f3_has_z {S : St} {a : Nat} {g : Lg} (h : CL S a g) (hg : LV g) (z : Int) (hz : -2147483648 ≤ z ∧ z < 2147483648) : f3_has a (zI z) S = some (bI (0 ≤ z ∧ z < g.1.length), S) := by
  have h1 := f3_has_eq h hg (zI z)
  simp only [zI_toInt hz] at h1
  exact h1
theorem f12_sum_loop {S : St} {k : Nat} {g : Lg} (N : Nat) (hc : ML S k g) (hg : LV g) (hk : k < 6) : ∀ (m i n : Nat), i + m = g.1.length → m < n → f12_sumOf_h4 N (zI k) n (zI (lsum (g.1.take i))) (zI i) S = some (zI (lsum g.1), S) := by
  have hgl := hg.len
  intro m
  induction m with
  | zero =>
    intro i n hi hn
    obtain ⟨n, rfl⟩ : ∃ z, n = z + 1 := ⟨n - 1, by omega⟩
    rw [List.take_of_length_le (by omega), f12_sumOf_h4]
    simp (disch := omega) only [f12_ordersOf_in hc.1 hg hk, nI_z, zI_add, zI_sub, zI_mul, zI_m1, ckI_z, zI_clamp, Int.toNat_natCast, bnd_some, lt, rd_same, rd_ne, rdL_same, rdL_ne, wI_2, wL_1, if_true, if_false, iT_lt, iF_lt, iT_lt0, iF_lt0, iT_0lt, iF_0lt, iT_le, iF_le, iT_le0, iF_le0, iT_0le, iF_0le, iT_eq, iF_eq, iT_eq0, iF_eq0]
  | succ m ih =>
    intro i n hi hn
    obtain ⟨n, rfl⟩ : ∃ z, n = z + 1 := ⟨n - 1, by omega⟩
    have hlt : i < g.1.length := by omega
    have hr : g.1[i]? = some g.1[i] := List.getElem?_eq_getElem hlt
    have hbe : bit g i = g.1[i] := by unfold bit; rw [List.getD_eq_getElem?_getD, hr]; rfl
    have htk : g.1.take (i + 1) = g.1.take i ++ [g.1[i]] := by rw [List.take_add_one, hr]; rfl
    have hb := bit_pos hg i
    have h2 := hc.2.1 i hlt
    have hls : lsum (g.1.take (i + 1)) = lsum (g.1.take i) + 2 ^ (6 - bit g i) := by
      rw [htk, hbe]
      unfold lsum
      rw [List.map_append, List.sum_append, List.map_cons, List.map_nil, List.sum_cons, List.sum_nil, Nat.add_zero]
    have hle := lsum_le (g.1.take (i + 1))
    rw [List.length_take] at hle
    have hsh := zI_shr (c := 64) (s := bit g i) (by omega) (by omega)
    rw [sh64 _ (by omega)] at hsh
    have ih1 := ih (i + 1) n (by omega) (by omega)
    rw [hls] at ih1
    rw [f12_sumOf_h4]
    simp (disch := omega) only [f12_ordersOf_in hc.1 hg hk, pl12, h2, hsh, nI_z, zI_add, zI_sub, zI_mul, zI_m1, ckI_z, zI_clamp, Int.toNat_natCast, bnd_some, lt, rd_same, rd_ne, rdL_same, rdL_ne, wI_2, wL_1, if_true, if_false, iT_lt, iF_lt, iT_lt0, iF_lt0, iT_0lt, iF_0lt, iT_le, iF_le, iT_le0, iF_le0, iT_0le, iF_0le, iT_eq, iF_eq, iT_eq0, iF_eq0]
    exact ih1
theorem f12_sum_in {S : St} {k N : Nat} {g : Lg} (hc : ML S k g) (hg : LV g) (hk : k < 6) (hN : 13 ≤ N) : f12_sumOf N (zI k) S = some (zI (lsum g.1), S) := by
  have hgl := hg.len
  exact f12_sum_loop N hc hg hk g.1.length 0 N (by omega) (by omega)
theorem pl10 (i o : Nat) : (((12 : Nat) : Int) * (i : Int) + ((o : Int) + 10) - ((10 : Nat) : Int)).toNat = 12 * i + o := by omega
theorem pl30 (i o : Nat) : (((12 : Nat) : Int) * (i : Int) + ((o : Int) + 30) - ((30 : Nat) : Int)).toNat = 12 * i + o := by omega
theorem z10 (o : Nat) : ((o : Int) + 10) - ((10 : Nat) : Int) = (o : Int) := by omega
theorem z30 (o : Nat) : ((o : Int) + 30) - ((30 : Nat) : Int) = (o : Int) := by omega
def ofR (N i : Nat) (w : Int) (S : St) : Prop := ∃ r, bnd (some (some (50 + 11 * i), S)) (fun q1 S2 =>
  ifN q1 (some ((-1 : Int32), S2)) fun b3 => ckA ad3 b3 <|
  if zI w = 0 then
    bnd (f3_howManyOrders b3 S2) fun q14 S15 =>
    some (q14, S15)
  else
  if zI w = (nI 1) then
    bnd (f3_sum N b3 S2) fun q12 S13 =>
    some (q12, S13)
  else
  if zI w < (nI 10) then
    f11_of_j57 N (zI w) b3 S2
  else
  bnd (f3_has b3 (zI w - (nI 10)) S2) fun q7 S8 =>
  if q7 = 0 then
    f11_of_j57 N (zI w) b3 S8
  else
  bnd (f3_bitsOf b3 (zI w - (nI 10)) S8) fun q10 S11 =>
  some (q10, S11)) = some (r, S) ∧ f12_of N (zI i) (zI w) S = some (r, S)
theorem of_0 {N i : Nat} {S : St} {g : Lg} (hi : i < 6) (e2 : f12_isLanguage (zI i) S = some (zI 1, S)) (hv : LV g) (hc : CL S (50 + 11 * i) g) (hm : ML S i g) : ofR N i 0 S := by
  have hgl := hv.len
  have ha := ad3_in i hi
  have h1 := hc.1
  have h2 := f12_ordersOf_in hm.1 hv hi
  refine ⟨zI g.1.length, ?_, ?_⟩
  · simp (disch := omega) only [ifN_some, ckA_in ha, f3_howManyOrders, h1, nI_z, zI_add, zI_sub, zI_mul, zI_m1, ckI_z, zI_clamp, Int.toNat_natCast, bnd_some, lt, rd_same, rd_ne, rdL_same, rdL_ne, wI_2, wL_1, if_true, if_false, iT_lt, iF_lt, iT_lt0, iF_lt0, iT_0lt, iF_0lt, iT_le, iF_le, iT_le0, iF_le0, iT_0le, iF_0le, iT_eq, iF_eq, iT_eq0, iF_eq0]
  · unfold f12_of
    rw [e2]
    simp (disch := omega) only [h2, nI_z, zI_add, zI_sub, zI_mul, zI_m1, ckI_z, zI_clamp, Int.toNat_natCast, bnd_some, lt, rd_same, rd_ne, rdL_same, rdL_ne, wI_2, wL_1, if_true, if_false, iT_lt, iF_lt, iT_lt0, iF_lt0, iT_0lt, iF_0lt, iT_le, iF_le, iT_le0, iF_le0, iT_0le, iF_0le, iT_eq, iF_eq, iT_eq0, iF_eq0]
theorem of_1 {N i : Nat} {S : St} {g : Lg} (hN : 20 ≤ N) (hi : i < 6) (e2 : f12_isLanguage (zI i) S = some (zI 1, S)) (hv : LV g) (hc : CL S (50 + 11 * i) g) (hm : ML S i g) : ofR N i 1 S := by
  have ha := ad3_in i hi
  have h1 := f3_sum_in (N := N) hc hv (by omega)
  have h2 := f12_sum_in (N := N) hm hv hi (by omega)
  refine ⟨zI (lsum g.1), ?_, ?_⟩
  · simp (disch := omega) only [ifN_some, ckA_in ha, h1, nI_z, zI_add, zI_sub, zI_mul, zI_m1, ckI_z, zI_clamp, Int.toNat_natCast, bnd_some, lt, rd_same, rd_ne, rdL_same, rdL_ne, wI_2, wL_1, if_true, if_false, iT_lt, iF_lt, iT_lt0, iF_lt0, iT_0lt, iF_0lt, iT_le, iF_le, iT_le0, iF_le0, iT_0le, iF_0le, iT_eq, iF_eq, iT_eq0, iF_eq0]
  · unfold f12_of
    rw [e2]
    simp (disch := omega) only [h2, nI_z, zI_add, zI_sub, zI_mul, zI_m1, ckI_z, zI_clamp, Int.toNat_natCast, bnd_some, lt, rd_same, rd_ne, rdL_same, rdL_ne, wI_2, wL_1, if_true, if_false, iT_lt, iF_lt, iT_lt0, iF_lt0, iT_0lt, iF_0lt, iT_le, iF_le, iT_le0, iF_le0, iT_0le, iF_0le, iT_eq, iF_eq, iT_eq0, iF_eq0]
theorem of_lo {N i : Nat} {S : St} {w : Int} (hi : i < 6) (e2 : f12_isLanguage (zI i) S = some (zI 1, S)) (hw : -2147483648 ≤ w ∧ w < 10 ∧ w ≠ 0 ∧ w ≠ 1) : ofR N i w S := by
  have ha := ad3_in i hi
  refine ⟨zI (-1), ?_, ?_⟩
  · simp (disch := omega) only [ifN_some, ckA_in ha, f11_of_j57, nI_z, zI_add, zI_sub, zI_mul, zI_m1, ckI_z, zI_clamp, Int.toNat_natCast, bnd_some, lt, rd_same, rd_ne, rdL_same, rdL_ne, wI_2, wL_1, if_true, if_false, iT_lt, iF_lt, iT_lt0, iF_lt0, iT_0lt, iF_0lt, iT_le, iF_le, iT_le0, iF_le0, iT_0le, iF_0le, iT_eq, iF_eq, iT_eq0, iF_eq0]
  · unfold f12_of
    rw [e2]
    simp (disch := omega) only [f12_of_j64, nI_z, zI_add, zI_sub, zI_mul, zI_m1, ckI_z, zI_clamp, Int.toNat_natCast, bnd_some, lt, rd_same, rd_ne, rdL_same, rdL_ne, wI_2, wL_1, if_true, if_false, iT_lt, iF_lt, iT_lt0, iF_lt0, iT_0lt, iF_0lt, iT_le, iF_le, iT_le0, iF_le0, iT_0le, iF_0le, iT_eq, iF_eq, iT_eq0, iF_eq0]
theorem of_10 {N i o : Nat} {S : St} {g : Lg} (hi : i < 6) (e2 : f12_isLanguage (zI i) S = some (zI 1, S)) (hv : LV g) (hc : CL S (50 + 11 * i) g) (hm : ML S i g) (ho : o < g.1.length) : ofR N i ((o : Int) + 10) S := by
  have hgl := hv.len
  have ha := ad3_in i hi
  have k1 := f3_has_z hc hv (o : Int) (by omega)
  have k2 := f12_has_eq hm hv hi (o : Int) (by omega)
  rw [bI_t (by omega)] at k1 k2
  have hb := f3_bitsOf_in hc hv ho
  have hb2 := hm.2.1 o ho
  refine ⟨zI (bit g o), ?_, ?_⟩
  · simp (disch := omega) only [ifN_some, ckA_in ha, z10, k1, hb, nI_z, zI_add, zI_sub, zI_mul, zI_m1, ckI_z, zI_clamp, Int.toNat_natCast, bnd_some, lt, rd_same, rd_ne, rdL_same, rdL_ne, wI_2, wL_1, if_true, if_false, iT_lt, iF_lt, iT_lt0, iF_lt0, iT_0lt, iF_0lt, iT_le, iF_le, iT_le0, iF_le0, iT_0le, iF_0le, iT_eq, iF_eq, iT_eq0, iF_eq0]
  · unfold f12_of
    rw [e2]
    simp (disch := omega) only [z10, k2, pl10, hb2, nI_z, zI_add, zI_sub, zI_mul, zI_m1, ckI_z, zI_clamp, Int.toNat_natCast, bnd_some, lt, rd_same, rd_ne, rdL_same, rdL_ne, wI_2, wL_1, if_true, if_false, iT_lt, iF_lt, iT_lt0, iF_lt0, iT_0lt, iF_0lt, iT_le, iF_le, iT_le0, iF_le0, iT_0le, iF_0le, iT_eq, iF_eq, iT_eq0, iF_eq0]
theorem of_30 {N i o : Nat} {S : St} {g : Lg} (hi : i < 6) (e2 : f12_isLanguage (zI i) S = some (zI 1, S)) (hv : LV g) (hc : CL S (50 + 11 * i) g) (hm : ML S i g) (ho : o < g.1.length) : ofR N i ((o : Int) + 30) S := by
  have hgl := hv.len
  have ha := ad3_in i hi
  have k1 := f3_has_z hc hv (o : Int) (by omega)
  have k2 := f12_has_eq hm hv hi (o : Int) (by omega)
  have k3 := f3_has_z hc hv ((o : Int) + 30 - ((10 : Nat) : Int)) (by omega)
  have k4 := f12_has_eq hm hv hi ((o : Int) + 30 - ((10 : Nat) : Int)) (by omega)
  have hb := f3_codeOf_in hc hv ho
  have hb2 := hm.2.2.1 o ho
  refine ⟨zI (cd g o), ?_, ?_⟩
  · simp (disch := omega) only [iT_b, iF_b, ifN_some, ckA_in ha, k3, f11_of_j57, z30, k1, hb, nI_z, zI_add, zI_sub, zI_mul, zI_m1, ckI_z, zI_clamp, Int.toNat_natCast, bnd_some, lt, rd_same, rd_ne, rdL_same, rdL_ne, wI_2, wL_1, if_true, if_false, iT_lt, iF_lt, iT_lt0, iF_lt0, iT_0lt, iF_0lt, iT_le, iF_le, iT_le0, iF_le0, iT_0le, iF_0le, iT_eq, iF_eq, iT_eq0, iF_eq0]
  · unfold f12_of
    rw [e2]
    simp (disch := omega) only [iT_b, iF_b, k4, f12_of_j64, z30, k2, pl30, hb2, nI_z, zI_add, zI_sub, zI_mul, zI_m1, ckI_z, zI_clamp, Int.toNat_natCast, bnd_some, lt, rd_same, rd_ne, rdL_same, rdL_ne, wI_2, wL_1, if_true, if_false, iT_lt, iF_lt, iT_lt0, iF_lt0, iT_0lt, iF_0lt, iT_le, iF_le, iT_le0, iF_le0, iT_0le, iF_0le, iT_eq, iF_eq, iT_eq0, iF_eq0]
theorem of_no {N i : Nat} {S : St} {g : Lg} {w : Int} (hi : i < 6) (e2 : f12_isLanguage (zI i) S = some (zI 1, S)) (hv : LV g) (hc : CL S (50 + 11 * i) g) (hm : ML S i g) (h1 : 10 + (g.1.length : Int) ≤ w) (h2 : w < 30 ∨ 30 + (g.1.length : Int) ≤ w) (h3 : w < 2147483648) : ofR N i w S := by
  have hgl := hv.len
  have ha := ad3_in i hi
  have k3 := f3_has_z hc hv (w - ((10 : Nat) : Int)) (by omega)
  have k4 := f12_has_eq hm hv hi (w - ((10 : Nat) : Int)) (by omega)
  refine ⟨zI (-1), ?_, ?_⟩
  · by_cases w4 : w < 30
    · simp (disch := omega) only [iT_b, iF_b, ifN_some, ckA_in ha, k3, f11_of_j57, nI_z, zI_add, zI_sub, zI_mul, zI_m1, ckI_z, zI_clamp, Int.toNat_natCast, bnd_some, lt, rd_same, rd_ne, rdL_same, rdL_ne, wI_2, wL_1, if_true, if_false, iT_lt, iF_lt, iT_lt0, iF_lt0, iT_0lt, iF_0lt, iT_le, iF_le, iT_le0, iF_le0, iT_0le, iF_0le, iT_eq, iF_eq, iT_eq0, iF_eq0]
    · have k1 := f3_has_z hc hv (w - ((30 : Nat) : Int)) (by omega)
      simp (disch := omega) only [iT_b, iF_b, ifN_some, ckA_in ha, k3, f11_of_j57, k1, nI_z, zI_add, zI_sub, zI_mul, zI_m1, ckI_z, zI_clamp, Int.toNat_natCast, bnd_some, lt, rd_same, rd_ne, rdL_same, rdL_ne, wI_2, wL_1, if_true, if_false, iT_lt, iF_lt, iT_lt0, iF_lt0, iT_0lt, iF_0lt, iT_le, iF_le, iT_le0, iF_le0, iT_0le, iF_0le, iT_eq, iF_eq, iT_eq0, iF_eq0]
  · unfold f12_of
    rw [e2]
    by_cases w4 : w < 30
    · simp (disch := omega) only [iT_b, iF_b, k4, f12_of_j64, nI_z, zI_add, zI_sub, zI_mul, zI_m1, ckI_z, zI_clamp, Int.toNat_natCast, bnd_some, lt, rd_same, rd_ne, rdL_same, rdL_ne, wI_2, wL_1, if_true, if_false, iT_lt, iF_lt, iT_lt0, iF_lt0, iT_0lt, iF_0lt, iT_le, iF_le, iT_le0, iF_le0, iT_0le, iF_0le, iT_eq, iF_eq, iT_eq0, iF_eq0]
    · have k2 := f12_has_eq hm hv hi (w - ((30 : Nat) : Int)) (by omega)
      simp (disch := omega) only [iT_b, iF_b, k4, f12_of_j64, k2, nI_z, zI_add, zI_sub, zI_mul, zI_m1, ckI_z, zI_clamp, Int.toNat_natCast, bnd_some, lt, rd_same, rd_ne, rdL_same, rdL_ne, wI_2, wL_1, if_true, if_false, iT_lt, iF_lt, iT_lt0, iF_lt0, iT_0lt, iF_0lt, iT_le, iF_le, iT_le0, iF_le0, iT_0le, iF_0le, iT_eq, iF_eq, iT_eq0, iF_eq0]
theorem c_of {N : Nat} {S : St} {Ls : List Lg} (hN : 20 ≤ N) (h : Qlang S Ls) (x y : Int32) : ∃ r, f11_of N x y S = some (r, S) ∧ f12_of N x y S = some (r, S) := by
  rcases lang_cases h x with ⟨e1, e2⟩ | ⟨i, g, hg, rfl, hi, e1, e2, hv, hc, hm⟩
  · refine ⟨zI (-1), ?_, ?_⟩
    · unfold f11_of; rw [e1]; simp (disch := omega) only [ifN_none, nI_z, zI_add, zI_sub, zI_mul, zI_m1, ckI_z, zI_clamp, Int.toNat_natCast, bnd_some, lt, rd_same, rd_ne, rdL_same, rdL_ne, wI_2, wL_1, if_true, if_false, iT_lt, iF_lt, iT_lt0, iF_lt0, iT_0lt, iF_0lt, iT_le, iF_le, iT_le0, iF_le0, iT_0le, iF_0le, iT_eq, iF_eq, iT_eq0, iF_eq0]
    · unfold f12_of; rw [e2]; simp (disch := omega) only [nI_z, zI_add, zI_sub, zI_mul, zI_m1, ckI_z, zI_clamp, Int.toNat_natCast, bnd_some, lt, rd_same, rd_ne, rdL_same, rdL_ne, wI_2, wL_1, if_true, if_false, iT_lt, iF_lt, iT_lt0, iF_lt0, iT_0lt, iF_0lt, iT_le, iF_le, iT_le0, iF_le0, iT_0le, iF_0le, iT_eq, iF_eq, iT_eq0, iF_eq0]
  · have hy := xrng y
    have hgl := hv.len
    rw [zI_of y]
    generalize y.toInt = w at hy
    have key : ofR N i w S := by
      by_cases w0 : w = 0
      · rw [w0]; exact of_0 hi e2 hv hc hm
      · by_cases w1 : w = 1
        · rw [w1]; exact of_1 hN hi e2 hv hc hm
        · by_cases w2 : w < 10
          · exact of_lo hi e2 ⟨hy.1, w2, w0, w1⟩
          · by_cases w3 : w < 10 + g.1.length
            · obtain ⟨o, rfl⟩ : ∃ o : Nat, w = (o : Int) + 10 := ⟨(w - 10).toNat, by omega⟩
              exact of_10 hi e2 hv hc hm (by omega)
            · by_cases w4 : w < 30 ∨ 30 + (g.1.length : Int) ≤ w
              · exact of_no hi e2 hv hc hm (by omega) w4 hy.2
              · obtain ⟨o, rfl⟩ : ∃ o : Nat, w = (o : Int) + 30 := ⟨(w - 30).toNat, by omega⟩
                exact of_30 hi e2 hv hc hm (by omega)
    obtain ⟨r, h1, h2⟩ := key
    refine ⟨r, ?_, h2⟩
    unfold f11_of
    rw [e1]
    exact h1
-- the program looked at
def Qprog (S : St) (p : List Nat) : Prop := PR S 2 p ∧ S.1 146 8 = zI p.length ∧ Held (S.1 153) 0 p ∧ ∀ i x, p[i]? = some x → i + 1 < p.length → x ≠ 0
def prP (c p : Nat) : Prop := c = 2 ∨ c = 3 ∨ (c = 146 ∧ p = 8) ∨ c = 153
theorem Qprog.same {P : Nat → Nat → Prop} {S S2 : St} {p : List Nat} (h : Qprog S p) (hs : Same P S S2) (hd : ∀ c k, prP c k → ¬ P c k) : Qprog S2 p := by
  obtain ⟨h1, h2, h3, h4⟩ := h
  exact ⟨h1.same hs (fun k => hd 2 k (by unfold prP; omega)) (fun k => hd 3 k (by unfold prP; omega)), by rw [hs.i (hd 146 8 (by unfold prP; omega))]; exact h2, by rw [hs.row (fun k => hd 153 k (by unfold prP; omega))]; exact h3, h4⟩
theorem c_clear {S : St} {p : List Nat} (h : Qprog S p) : ∃ r S1 S2, f11_clear S = some (r, S1) ∧ f12_clear S1 = some (r, S2) ∧ Qprog S2 [] ∧ Same prP S S2 := by
  obtain ⟨h1, h2, h3, h4⟩ := h
  obtain ⟨S1, e1, e2, e3⟩ := f6_beEmpty_ok (S := S) (a := 2)
  have h2' : S1.1 146 8 = zI p.length := by rw [e3.i (by unfold rgP; omega)]; exact h2
  have hs : Same (fun c k => c = 146 ∧ k = 8) S1 (wI S1 146 8 (zI ((0 : Nat) : Int))) := Same.rfl'.wI ⟨rfl, rfl⟩
  refine ⟨zI p.length, S1, wI S1 146 8 (zI ((0 : Nat) : Int)), ?_, ?_, ⟨e2.same hs (fun k => by omega) (fun k => by omega), rd_same, fun i x h => (by cases h), fun i x h => (by cases h)⟩, (e3.mono (fun c k h => by unfold rgP at h; unfold prP; omega)).tr (hs.mono (fun c k h => by unfold prP; omega))⟩
  · unfold f11_clear
    rw [f6_length_eq h1, bnd_some, e1, bnd_some]
  · unfold f12_clear
    simp (disch := omega) only [h2', nI_z, zI_add, zI_sub, zI_mul, zI_m1, ckI_z, zI_clamp, Int.toNat_natCast, bnd_some, lt, rd_same, rd_ne, rdL_same, rdL_ne, wI_2, wL_1, if_true, if_false, iT_lt, iF_lt, iT_lt0, iF_lt0, iT_0lt, iF_0lt, iT_le, iF_le, iT_le0, iF_le0, iT_0le, iF_0le, iT_eq, iF_eq, iT_eq0, iF_eq0]
theorem within_64 (a b c : Int) (S : St) (ha : -2147483648 ≤ a ∧ a < 2147483648) (hb : -2147483648 ≤ b ∧ b < 2147483648) (hc : -2147483648 ≤ c ∧ c < 2147483648) : f12_within ((zI a).toInt64) ((zI b).toInt64) ((zI c).toInt64) S = some (bI (b ≤ a ∧ a ≤ c), S) := by
  have e1 : ∀ x y : Int, -2147483648 ≤ x ∧ x < 2147483648 → -2147483648 ≤ y ∧ y < 2147483648 → ((zI x).toInt64 < (zI y).toInt64 ↔ x < y) := fun x y hx hy => by
    rw [Int64.lt_iff_toInt_lt, Int32.toInt_toInt64, Int32.toInt_toInt64, zI_toInt hx, zI_toInt hy]
  have e2 : ∀ x y : Int, -2147483648 ≤ x ∧ x < 2147483648 → -2147483648 ≤ y ∧ y < 2147483648 → ((zI x).toInt64 = (zI y).toInt64 ↔ x = y) := fun x y hx hy => by
    rw [← Int64.toInt_inj, Int32.toInt_toInt64, Int32.toInt_toInt64, zI_toInt hx, zI_toInt hy]
  unfold f12_within cmpL
  by_cases h1 : b < a
  · rw [if_pos ((e1 b a hb ha).mpr h1), if_neg (by decide)]
    by_cases h2 : c < a
    · rw [if_pos ((e1 c a hc ha).mpr h2), if_pos (by decide), bI_f (by omega)]; rfl
    · rw [if_neg (fun q => h2 ((e1 c a hc ha).mp q))]
      by_cases h3 : a = c
      · rw [if_pos ((e2 a c ha hc).mpr h3), if_neg (by decide), bI_t (by omega)]; rfl
      · rw [if_neg (fun q => h3 ((e2 a c ha hc).mp q)), if_neg (by decide), bI_t (by omega)]; rfl
  · rw [if_neg (fun q => h1 ((e1 b a hb ha).mp q))]
    by_cases h4 : a = b
    · rw [if_pos ((e2 a b ha hb).mpr h4), if_neg (by decide)]
      by_cases h2 : c < a
      · rw [if_pos ((e1 c a hc ha).mpr h2), if_pos (by decide), bI_f (by omega)]; rfl
      · rw [if_neg (fun q => h2 ((e1 c a hc ha).mp q))]
        by_cases h3 : a = c
        · rw [if_pos ((e2 a c ha hc).mpr h3), if_neg (by decide), bI_t (by omega)]; rfl
        · rw [if_neg (fun q => h3 ((e2 a c ha hc).mp q)), if_neg (by decide), bI_t (by omega)]; rfl
    · rw [if_neg (fun q => h4 ((e2 a b ha hb).mp q)), if_pos (by decide), bI_f (by omega)]; rfl
theorem lN_z (n : Nat) (h : n < 2147483648) : lN n = (zI n).toInt64 := by
  rw [← Int64.toInt_inj, Int32.toInt_toInt64, zI_toInt (by omega)]
  unfold lN
  rw [← Int64.ofInt_eq_ofNat, Int64.toInt_ofInt]
  have h1 := Int.bmod_eq_of_le (n := (n : Int)) (m := 2 ^ 64) (by omega) (by omega)
  first | exact h1 | simpa using h1
theorem c_order {S : St} {p : List Nat} (h : Qprog S p) (x : Int32) : ∃ r, f11_order x S = some (r, S) ∧ f12_order x S = some (r, S) := by
  obtain ⟨h1, h2, h3, h4⟩ := h
  have h12 := h1.2.1
  have hp := h1.1
  have hx := xrng x
  rw [zI_of x]
  generalize x.toInt = z at hx
  unfold f11_order f12_order
  by_cases e : z = -1
  · subst e
    exact ⟨zI p.length, by simp (disch := omega) only [f6_length_eq h1, nI_z, zI_add, zI_sub, zI_mul, zI_m1, ckI_z, zI_clamp, Int.toNat_natCast, bnd_some, lt, rd_same, rd_ne, rdL_same, rdL_ne, wI_2, wL_1, if_true, if_false, iT_lt, iF_lt, iT_lt0, iF_lt0, iT_0lt, iF_0lt, iT_le, iF_le, iT_le0, iF_le0, iT_0le, iF_0le, iT_eq, iF_eq, iT_eq0, iF_eq0], by simp (disch := omega) only [h2, nI_z, zI_add, zI_sub, zI_mul, zI_m1, ckI_z, zI_clamp, Int.toNat_natCast, bnd_some, lt, rd_same, rd_ne, rdL_same, rdL_ne, wI_2, wL_1, if_true, if_false, iT_lt, iF_lt, iT_lt0, iF_lt0, iT_0lt, iF_0lt, iT_le, iF_le, iT_le0, iF_le0, iT_0le, iF_0le, iT_eq, iF_eq, iT_eq0, iF_eq0]⟩
  · by_cases e0 : z < 0
    · exact ⟨zI (-1), by simp (disch := omega) only [f6_orderAt, nI_z, zI_add, zI_sub, zI_mul, zI_m1, ckI_z, zI_clamp, Int.toNat_natCast, bnd_some, lt, rd_same, rd_ne, rdL_same, rdL_ne, wI_2, wL_1, if_true, if_false, iT_lt, iF_lt, iT_lt0, iF_lt0, iT_0lt, iF_0lt, iT_le, iF_le, iT_le0, iF_le0, iT_0le, iF_0le, iT_eq, iF_eq, iT_eq0, iF_eq0], by simp (disch := omega) only [nI_z, zI_add, zI_sub, zI_mul, zI_m1, ckI_z, zI_clamp, Int.toNat_natCast, bnd_some, lt, rd_same, rd_ne, rdL_same, rdL_ne, wI_2, wL_1, if_true, if_false, iT_lt, iF_lt, iT_lt0, iF_lt0, iT_0lt, iF_0lt, iT_le, iF_le, iT_le0, iF_le0, iT_0le, iF_0le, iT_eq, iF_eq, iT_eq0, iF_eq0]⟩
    · by_cases e1 : z < p.length
      · obtain ⟨i, rfl⟩ : ∃ i : Nat, z = i := ⟨z.toNat, by omega⟩
        have hi : p[i]? = some p[i] := List.getElem?_eq_getElem (by omega)
        have ho := f6_orderAt_in h1 hi
        have hm := h3 i _ hi
        rw [Nat.zero_add] at hm
        exact ⟨zI p[i], by simp (disch := omega) only [ho, nI_z, zI_add, zI_sub, zI_mul, zI_m1, ckI_z, zI_clamp, Int.toNat_natCast, bnd_some, lt, rd_same, rd_ne, rdL_same, rdL_ne, wI_2, wL_1, if_true, if_false, iT_lt, iF_lt, iT_lt0, iF_lt0, iT_0lt, iF_0lt, iT_le, iF_le, iT_le0, iF_le0, iT_0le, iF_0le, iT_eq, iF_eq, iT_eq0, iF_eq0], by simp (disch := omega) only [h2, hm, nI_z, zI_add, zI_sub, zI_mul, zI_m1, ckI_z, zI_clamp, Int.toNat_natCast, bnd_some, lt, rd_same, rd_ne, rdL_same, rdL_ne, wI_2, wL_1, if_true, if_false, iT_lt, iF_lt, iT_lt0, iF_lt0, iT_0lt, iF_0lt, iT_le, iF_le, iT_le0, iF_le0, iT_0le, iF_0le, iT_eq, iF_eq, iT_eq0, iF_eq0]⟩
      · exact ⟨zI (-1), by simp (disch := omega) only [f6_orderAt, hp, nI_z, zI_add, zI_sub, zI_mul, zI_m1, ckI_z, zI_clamp, Int.toNat_natCast, bnd_some, lt, rd_same, rd_ne, rdL_same, rdL_ne, wI_2, wL_1, if_true, if_false, iT_lt, iF_lt, iT_lt0, iF_lt0, iT_0lt, iF_0lt, iT_le, iF_le, iT_le0, iF_le0, iT_0le, iF_0le, iT_eq, iF_eq, iT_eq0, iF_eq0], by simp (disch := omega) only [h2, nI_z, zI_add, zI_sub, zI_mul, zI_m1, ckI_z, zI_clamp, Int.toNat_natCast, bnd_some, lt, rd_same, rd_ne, rdL_same, rdL_ne, wI_2, wL_1, if_true, if_false, iT_lt, iF_lt, iT_lt0, iF_lt0, iT_0lt, iF_0lt, iT_le, iF_le, iT_le0, iF_le0, iT_0le, iF_0le, iT_eq, iF_eq, iT_eq0, iF_eq0]⟩
theorem c_add {S : St} {p : List Nat} (h : Qprog S p) (x : Int32) : ∃ r S1 S2 p2, f11_add x S = some (r, S1) ∧ f12_add x S1 = some (r, S2) ∧ Qprog S2 p2 ∧ Same prP S S2 := by
  have h' := h
  obtain ⟨h1, h2, h3, h4⟩ := h
  have h12 := h1.2.1
  have hx := xrng x
  rw [zI_of x]
  generalize x.toInt = z at hx
  have hw : ∀ S', f12_within ((zI z).toInt64) (lN 0) (lN 11) S' = some (bI ((((0 : Nat) : Int)) ≤ z ∧ z ≤ ((11 : Nat) : Int)), S') := fun S' => by
    rw [lN_z 0 (by omega), lN_z 11 (by omega)]
    exact within_64 z _ _ S' hx (by omega) (by omega)
  by_cases hz : 0 ≤ z ∧ z < 12
  · obtain ⟨a, rfl⟩ : ∃ a : Nat, z = a := ⟨z.toNat, by omega⟩
    have hcl := f6_orderAt_last h1
    have hlast : 0 < p.length → ∃ y, p[p.length - 1]? = some y ∧ p.getLast? = some y := fun hp => by
      refine ⟨p[p.length - 1], List.getElem?_eq_getElem (by omega), ?_⟩
      rw [List.getLast?_eq_getElem?, List.getElem?_eq_getElem (by omega)]
    by_cases hc : p.getLast? = some 0
    · have hp0 : 0 < p.length := by
        rcases List.eq_nil_or_concat p with e | ⟨q, y, e⟩
        · rw [e] at hc; cases hc
        · rw [e]; simp
      obtain ⟨y, y1, y2⟩ := hlast hp0
      have hy0 : y = 0 := by rw [y2] at hc; injection hc
      rw [hy0] at y1
      have hm := h3 _ _ y1
      rw [Nat.zero_add] at hm
      rw [show p.length - 1 = ((p.length : Int) - ((1 : Nat) : Int)).toNat by omega] at hm
      refine ⟨zI (-1), S, S, p, ?_, ?_, h', Same.rfl'⟩
      · unfold f11_add
        rw [bI_t hc] at hcl
        simp (disch := omega) only [hcl, nI_z, zI_add, zI_sub, zI_mul, zI_m1, ckI_z, zI_clamp, Int.toNat_natCast, bnd_some, lt, rd_same, rd_ne, rdL_same, rdL_ne, wI_2, wL_1, if_true, if_false, iT_lt, iF_lt, iT_lt0, iF_lt0, iT_0lt, iF_0lt, iT_le, iF_le, iT_le0, iF_le0, iT_0le, iF_0le, iT_eq, iF_eq, iT_eq0, iF_eq0]
      · unfold f12_add
        simp (disch := omega) only [iT_b, iF_b, hw, h2, hm, nI_z, zI_add, zI_sub, zI_mul, zI_m1, ckI_z, zI_clamp, Int.toNat_natCast, bnd_some, lt, rd_same, rd_ne, rdL_same, rdL_ne, wI_2, wL_1, if_true, if_false, iT_lt, iF_lt, iT_lt0, iF_lt0, iT_0lt, iF_0lt, iT_le, iF_le, iT_le0, iF_le0, iT_0le, iF_0le, iT_eq, iF_eq, iT_eq0, iF_eq0]
    · have hopen : ∀ S', S'.1 146 8 = zI p.length → (∀ (i y : Nat), p[i]? = some y → S'.1 153 i = zI y) → f12_add (zI a) S' = f12_add_j35 (zI a) S' := fun S' q1 q2 => by
        unfold f12_add
        by_cases hp0 : p.length = 0
        · simp (disch := omega) only [iT_b, iF_b, hw, q1, nI_z, zI_add, zI_sub, zI_mul, zI_m1, ckI_z, zI_clamp, Int.toNat_natCast, bnd_some, lt, rd_same, rd_ne, rdL_same, rdL_ne, wI_2, wL_1, if_true, if_false, iT_lt, iF_lt, iT_lt0, iF_lt0, iT_0lt, iF_0lt, iT_le, iF_le, iT_le0, iF_le0, iT_0le, iF_0le, iT_eq, iF_eq, iT_eq0, iF_eq0]
        · obtain ⟨y, y1, y2⟩ := hlast (by omega)
          have hy : y ≠ 0 := fun e => hc (by rw [y2, e])
          have hy12 := h1.2.2.1 y (List.mem_of_getElem? y1)
          have hm := q2 _ _ y1
          rw [show p.length - 1 = ((p.length : Int) - ((1 : Nat) : Int)).toNat by omega] at hm
          simp (disch := omega) only [iT_b, iF_b, hw, q1, hm, nI_z, zI_add, zI_sub, zI_mul, zI_m1, ckI_z, zI_clamp, Int.toNat_natCast, bnd_some, lt, rd_same, rd_ne, rdL_same, rdL_ne, wI_2, wL_1, if_true, if_false, iT_lt, iF_lt, iT_lt0, iF_lt0, iT_0lt, iF_0lt, iT_le, iF_le, iT_le0, iF_le0, iT_0le, iF_0le, iT_eq, iF_eq, iT_eq0, iF_eq0]
      by_cases hfull : p.length = 12
      · refine ⟨zI (-3), S, S, p, ?_, ?_, h', Same.rfl'⟩
        · have hpu : f6_push 2 (zI a) S = some (zI 0, S) := by
            have := h1.1
            unfold f6_push
            simp (disch := omega) only [this, nI_z, zI_add, zI_sub, zI_mul, zI_m1, ckI_z, zI_clamp, Int.toNat_natCast, bnd_some, lt, rd_same, rd_ne, rdL_same, rdL_ne, wI_2, wL_1, if_true, if_false, iT_lt, iF_lt, iT_lt0, iF_lt0, iT_0lt, iF_0lt, iT_le, iF_le, iT_le0, iF_le0, iT_0le, iF_0le, iT_eq, iF_eq, iT_eq0, iF_eq0]
            rfl
          unfold f11_add
          simp (disch := omega) only [iT_b, iF_b, hcl, hpu, nI_z, zI_add, zI_sub, zI_mul, zI_m1, ckI_z, zI_clamp, Int.toNat_natCast, bnd_some, lt, rd_same, rd_ne, rdL_same, rdL_ne, wI_2, wL_1, if_true, if_false, iT_lt, iF_lt, iT_lt0, iF_lt0, iT_0lt, iF_0lt, iT_le, iF_le, iT_le0, iF_le0, iT_0le, iF_0le, iT_eq, iF_eq, iT_eq0, iF_eq0]
          rfl
        · rw [hopen S h2 (fun i y hy => by have := h3 i y hy; rwa [Nat.zero_add] at this)]
          unfold f12_add_j35
          simp (disch := omega) only [h2, nI_z, zI_add, zI_sub, zI_mul, zI_m1, ckI_z, zI_clamp, Int.toNat_natCast, bnd_some, lt, rd_same, rd_ne, rdL_same, rdL_ne, wI_2, wL_1, if_true, if_false, iT_lt, iF_lt, iT_lt0, iF_lt0, iT_0lt, iF_0lt, iT_le, iF_le, iT_le0, iF_le0, iT_0le, iF_0le, iT_eq, iF_eq, iT_eq0, iF_eq0]
          rfl
      · obtain ⟨S1, e1, e2, e3⟩ := f6_push_ok h1 (x := a) (by omega) (by omega)
        have h2' : S1.1 146 8 = zI p.length := by rw [e3.i (by unfold rgP; omega)]; exact h2
        have h3' : S1.1 153 = S.1 153 := e3.row (fun k => by unfold rgP; omega)
        have hs : Same (fun c k => (c = 146 ∧ k = 8) ∨ c = 153) S1 (wI (wI S1 153 p.length (zI a)) 146 8 (zI ((p.length : Int) + ((1 : Nat) : Int)))) := (Same.rfl'.wI (Or.inr rfl)).wI (Or.inl ⟨rfl, rfl⟩)
        refine ⟨zI ((p.length : Int) + ((1 : Nat) : Int)), S1, _, p ++ [a], ?_, ?_, ⟨e2.same hs (fun k => by omega) (fun k => by omega), ?_, fun i y hi => ?_, fun i y hi hl => ?_⟩, (e3.mono (fun c k h => by unfold rgP at h; unfold prP; omega)).tr (hs.mono (fun c k h => by unfold prP; omega))⟩
        · have hle := f6_length_eq e2
          rw [List.length_append, List.length_singleton] at hle
          unfold f11_add
          simp (disch := omega) only [iT_b, iF_b, hcl, e1, hle, nI_z, zI_add, zI_sub, zI_mul, zI_m1, ckI_z, zI_clamp, Int.toNat_natCast, bnd_some, lt, rd_same, rd_ne, rdL_same, rdL_ne, wI_2, wL_1, if_true, if_false, iT_lt, iF_lt, iT_lt0, iF_lt0, iT_0lt, iF_0lt, iT_le, iF_le, iT_le0, iF_le0, iT_0le, iF_0le, iT_eq, iF_eq, iT_eq0, iF_eq0]
          rfl
        · rw [hopen S1 h2' (fun i y hy => by rw [h3']; have := h3 i y hy; rwa [Nat.zero_add] at this)]
          unfold f12_add_j35
          simp (disch := omega) only [h2', nI_z, zI_add, zI_sub, zI_mul, zI_m1, ckI_z, zI_clamp, Int.toNat_natCast, bnd_some, lt, rd_same, rd_ne, rdL_same, rdL_ne, wI_2, wL_1, if_true, if_false, iT_lt, iF_lt, iT_lt0, iF_lt0, iT_0lt, iF_0lt, iT_le, iF_le, iT_le0, iF_le0, iT_0le, iF_0le, iT_eq, iF_eq, iT_eq0, iF_eq0]
        · rw [rd_same, List.length_append]; rfl
        · have hlt : i < p.length + 1 := by
            have := (List.getElem?_eq_some_iff.mp hi).1
            simpa using this
          rw [rd_ne (by omega), Nat.zero_add]
          by_cases e : i = p.length
          · subst e
            have : y = a := by simpa [eq_comm] using hi
            rw [rd_same, this]
          · rw [List.getElem?_append_left (by omega)] at hi
            have := h3 i y hi
            rw [Nat.zero_add] at this
            rw [rd_ne (by omega), h3', this]
        · rw [List.length_append, List.length_singleton] at hl
          rw [List.getElem?_append_left (by omega)] at hi
          by_cases e : i + 1 = p.length
          · obtain ⟨y2, y3, y4⟩ := hlast (by omega)
            rw [← e, Nat.add_sub_cancel, hi] at y3
            injection y3 with y3
            exact fun q => hc (by rw [y4, ← y3, q])
          · exact h4 i y hi (by omega)
  · refine ⟨zI (-1), S, S, p, ?_, ?_, h', Same.rfl'⟩
    · unfold f11_add
      by_cases e : z < 0
      · simp (disch := omega) only [nI_z, zI_add, zI_sub, zI_mul, zI_m1, ckI_z, zI_clamp, Int.toNat_natCast, bnd_some, lt, rd_same, rd_ne, rdL_same, rdL_ne, wI_2, wL_1, if_true, if_false, iT_lt, iF_lt, iT_lt0, iF_lt0, iT_0lt, iF_0lt, iT_le, iF_le, iT_le0, iF_le0, iT_0le, iF_0le, iT_eq, iF_eq, iT_eq0, iF_eq0]
      · simp (disch := omega) only [nI_z, zI_add, zI_sub, zI_mul, zI_m1, ckI_z, zI_clamp, Int.toNat_natCast, bnd_some, lt, rd_same, rd_ne, rdL_same, rdL_ne, wI_2, wL_1, if_true, if_false, iT_lt, iF_lt, iT_lt0, iF_lt0, iT_0lt, iF_0lt, iT_le, iF_le, iT_le0, iF_le0, iT_0le, iF_0le, iT_eq, iF_eq, iT_eq0, iF_eq0]
    · unfold f12_add
      simp (disch := omega) only [iT_b, iF_b, hw, nI_z, zI_add, zI_sub, zI_mul, zI_m1, ckI_z, zI_clamp, Int.toNat_natCast, bnd_some, lt, rd_same, rd_ne, rdL_same, rdL_ne, wI_2, wL_1, if_true, if_false, iT_lt, iF_lt, iT_lt0, iF_lt0, iT_0lt, iF_0lt, iT_le, iF_le, iT_le0, iF_le0, iT_0le, iF_0le, iT_eq, iF_eq, iT_eq0, iF_eq0]
