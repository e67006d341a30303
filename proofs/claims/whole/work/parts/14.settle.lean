/-! The class's LANGUAGE comes to be: orders by bits, codes, fewest orders. -/
def rkF (g : Lg) (i : Nat) : List Nat := (List.range g.1.length).filter (fun o => bit g o == i + 1)
def rkp (g : Lg) (i j : Nat) : List Nat := (List.range i).flatMap (rkF g) ++ (List.range j).filter (fun o => bit g o == i + 1)
theorem rkp_in {g : Lg} {i j : Nat} (h : bit g j = i + 1) : rkp g i (j + 1) = rkp g i j ++ [j] := by
  unfold rkp
  rw [List.range_succ, List.filter_append, List.append_assoc]
  simp [h]
theorem rkp_out {g : Lg} {i j : Nat} (h : bit g j ≠ i + 1) : rkp g i (j + 1) = rkp g i j := by
  unfold rkp
  rw [List.range_succ, List.filter_append]
  simp [h]
theorem rkp_end (g : Lg) (i : Nat) : rkp g i g.1.length = rkp g (i + 1) 0 := by
  unfold rkp
  rw [List.range_succ, List.flatMap_append]
  simp [rkF]
theorem rkp_6 (g : Lg) : rkp g 6 0 = rkf g := by
  unfold rkp rkf
  rw [List.range_zero, List.filter_nil, List.append_nil]
  rfl
theorem rkp_mono (g : Lg) (i : Nat) : ∀ k, ((List.range i).flatMap (rkF g)).length ≤ ((List.range (i + k)).flatMap (rkF g)).length
  | 0 => Nat.le_refl _
  | k + 1 => by
    have h := rkp_mono g i k
    rw [← Nat.add_assoc, List.range_succ, List.flatMap_append, List.length_append]
    omega
theorem rkp_len {g : Lg} (hg : LV g) {i j : Nat} (hi : i < 6) (hj : j ≤ g.1.length) : (rkp g i j).length ≤ g.1.length := by
  have h1 : ∀ k, (rkp g i j).length ≤ (rkp g i (j + k)).length := fun k => by
    induction k with
    | zero => exact Nat.le_refl _
    | succ k ih =>
      rw [← Nat.add_assoc]
      by_cases e : bit g (j + k) = i + 1
      · rw [rkp_in e, List.length_append]; omega
      · rw [rkp_out e]; exact ih
  have h2 := h1 (g.1.length - j)
  rw [show j + (g.1.length - j) = g.1.length by omega, rkp_end] at h2
  have h3 := rkp_mono g (i + 1) (6 - (i + 1))
  rw [show i + 1 + (6 - (i + 1)) = 6 by omega] at h3
  have h4 := rkf_len hg
  rw [← rkp_6] at h4
  unfold rkp at h2 h4 ⊢
  simp only [List.range_zero, List.filter_nil, List.append_nil] at h2 h4
  omega
/-- what settle begins with -/
def CB (S : St) (a : Nat) (g : Lg) : Prop := S.1 a 0 = zI g.1.length ∧ (∀ o, o < g.1.length → S.1 (a + 1) o = zI (bit g o)) ∧ ∀ i q, g.2[i]? = some q → S.1 (a + 9) i = zI q.length ∧ Held (S.1 (a + 5 + i)) 0 q
theorem CB.same {P : Nat → Nat → Prop} {S S2 : St} {a : Nat} {g : Lg} (h : CB S a g) (hg : LV g) (hs : Same P S S2) (h1 : ∀ k, ¬ P a k) (h2 : ∀ k, ¬ P (a + 1) k) (h3 : ∀ c k, a + 5 ≤ c → c ≤ a + 9 → ¬ P c k) : CB S2 a g := by
  obtain ⟨e0, e1, e2⟩ := h
  have hp := hg.2.1
  refine ⟨by rw [hs.row h1]; exact e0, by rw [hs.row h2]; exact e1, fun i q hi => ?_⟩
  have hlt := (List.getElem?_eq_some_iff.mp hi).1
  rw [hs.row (fun k => h3 (a + 9) k (by omega) (by omega)), hs.row (fun k => h3 (a + 5 + i) k (by omega) (by omega))]
  exact e2 i q hi
theorem Held.push {f : Nat → Int32} {l : List Nat} {x : Nat} {S : St} {a : Nat} (hf : S.1 a = f) (h : Held f 0 l) : Held ((wI S a l.length (zI x)).1 a) 0 (l ++ [x]) := by
  intro i y hi
  have hlt : i < l.length + 1 := by
    have := (List.getElem?_eq_some_iff.mp hi).1
    simpa using this
  rw [Nat.zero_add, wI_1]
  by_cases e : i = l.length
  · subst e
    have : y = x := by simpa [eq_comm] using hi
    rw [if_pos ⟨rfl, rfl⟩, this]
  · rw [List.getElem?_append_left (by omega)] at hi
    have := h i y hi
    rw [Nat.zero_add] at this
    rw [if_neg (fun q => e q.2), hf, this]
theorem f3_sort_in {N a b i : Nat} {g : Lg} (hg : LV g) (hb : b = i + 1) (hi : i < 6) (k4 : Int32 → Int32 → St → Option (Unit × St)) : ∀ (m j n : Nat) (S : St), CB S a g → Held (S.1 (a + 3)) 0 (rkp g i j) → j + m = g.1.length → m < n → ∃ S2, f3_sortByBits_h12 N a (zI b) k4 n (zI (rkp g i j).length) (zI j) S = k4 (zI (rkp g (i + 1) 0).length) (zI ((b : Int) + 1)) S2 ∧ Held (S2.1 (a + 3)) 0 (rkp g (i + 1) 0) ∧ Same (fun c _ => c = a + 3) S S2 := by
  have hgl := hg.len
  intro m
  induction m with
  | zero =>
    intro j n S hc hh hj hn
    obtain ⟨n, rfl⟩ : ∃ z, n = z + 1 := ⟨n - 1, by omega⟩
    obtain rfl : j = g.1.length := by omega
    have h1 := hc.1
    rw [rkp_end] at hh ⊢
    refine ⟨S, ?_, hh, Same.rfl'⟩
    rw [f3_sortByBits_h12]
    simp (disch := omega) only [h1, nI_z, zI_add, zI_sub, zI_mul, zI_m1, ckI_z, zI_clamp, Int.toNat_natCast, bnd_some, lt, rd_same, rd_ne, rdL_same, rdL_ne, wI_2, wL_1, if_true, if_false, iT_lt, iF_lt, iT_lt0, iF_lt0, iT_0lt, iF_0lt, iT_le, iF_le, iT_le0, iF_le0, iT_0le, iF_0le, iT_eq, iF_eq, iT_eq0, iF_eq0]
    rfl
  | succ m ih =>
    intro j n S hc hh hj hn
    obtain ⟨n, rfl⟩ : ∃ z, n = z + 1 := ⟨n - 1, by omega⟩
    have h1 := hc.1
    have h2 := hc.2.1 j (by omega)
    have hbb := bit_pos hg j
    have hlen := rkp_len hg hi (j := j + 1) (by omega)
    rw [f3_sortByBits_h12]
    by_cases e : bit g j = i + 1
    · have hx := rkp_in e
      rw [hx, List.length_append, List.length_singleton] at hlen
      have hs : Same (fun c _ => c = a + 3) S (wI S (a + 3) (rkp g i j).length (zI j)) := Same.rfl'.wI rfl
      have hc2 := hc.same hg hs (fun k => by omega) (fun k => by omega) (fun c k h1 h2 => by omega)
      obtain ⟨S2, f1, f2, f3⟩ := ih (j + 1) n _ hc2 (by rw [hx]; exact hh.push rfl) (by omega) (by omega)
      refine ⟨S2, ?_, f2, hs.tr f3⟩
      rw [hx, List.length_append, List.length_singleton] at f1
      simp (disch := omega) only [h1, h2, nI_z, zI_add, zI_sub, zI_mul, zI_m1, ckI_z, zI_clamp, Int.toNat_natCast, bnd_some, lt, rd_same, rd_ne, rdL_same, rdL_ne, wI_2, wL_1, if_true, if_false, iT_lt, iF_lt, iT_lt0, iF_lt0, iT_0lt, iF_0lt, iT_le, iF_le, iT_le0, iF_le0, iT_0le, iF_0le, iT_eq, iF_eq, iT_eq0, iF_eq0]
      exact f1
    · have hx := rkp_out e
      obtain ⟨S2, f1, f2, f3⟩ := ih (j + 1) n S hc (by rw [hx]; exact hh) (by omega) (by omega)
      refine ⟨S2, ?_, f2, f3⟩
      rw [hx] at f1
      simp (disch := omega) only [h1, h2, nI_z, zI_add, zI_sub, zI_mul, zI_m1, ckI_z, zI_clamp, Int.toNat_natCast, bnd_some, lt, rd_same, rd_ne, rdL_same, rdL_ne, wI_2, wL_1, if_true, if_false, iT_lt, iF_lt, iT_lt0, iF_lt0, iT_0lt, iF_0lt, iT_le, iF_le, iT_le0, iF_le0, iT_0le, iF_0le, iT_eq, iF_eq, iT_eq0, iF_eq0]
      exact f1
theorem f3_sort_up {N a : Nat} {g : Lg} (hg : LV g) (hN : 13 ≤ N) : ∀ (m i n : Nat) (S : St), CB S a g → Held (S.1 (a + 3)) 0 (rkp g i 0) → i + m = 6 → m < n → ∃ S2, f3_sortByBits_h4 N a n (zI (rkp g i 0).length) (zI ((i : Int) + 1)) S = some ((), S2) ∧ Held (S2.1 (a + 3)) 0 (rkf g) ∧ Same (fun c _ => c = a + 3) S S2 := by
  have hgl := hg.len
  intro m
  induction m with
  | zero =>
    intro i n S hc hh hi hn
    obtain ⟨n, rfl⟩ : ∃ z, n = z + 1 := ⟨n - 1, by omega⟩
    obtain rfl : i = 6 := by omega
    refine ⟨S, ?_, by rw [← rkp_6]; exact hh, Same.rfl'⟩
    rw [f3_sortByBits_h4]
    simp (disch := omega) only [nI_z, zI_add, zI_sub, zI_mul, zI_m1, ckI_z, zI_clamp, Int.toNat_natCast, bnd_some, lt, rd_same, rd_ne, rdL_same, rdL_ne, wI_2, wL_1, if_true, if_false, iT_lt, iF_lt, iT_lt0, iF_lt0, iT_0lt, iF_0lt, iT_le, iF_le, iT_le0, iF_le0, iT_0le, iF_0le, iT_eq, iF_eq, iT_eq0, iF_eq0]
  | succ m ih =>
    intro i n S hc hh hi hn
    obtain ⟨n, rfl⟩ : ∃ z, n = z + 1 := ⟨n - 1, by omega⟩
    obtain ⟨S2, e1, e2, e3⟩ := f3_sort_in (N := N) (b := i + 1) hg rfl (by omega) (f3_sortByBits_h4 N a n) g.1.length 0 N S hc hh (by omega) (by omega)
    have hc2 := hc.same hg e3 (fun k => by omega) (fun k => by omega) (fun c k h1 h2 => by omega)
    obtain ⟨S3, f1, f2, f3⟩ := ih (i + 1) n S2 hc2 e2 (by omega) (by omega)
    refine ⟨S3, ?_, f2, e3.tr f3⟩
    rw [f3_sortByBits_h4]
    rw [show ((i + 1 : Nat) : Int) = (i : Int) + 1 from rfl] at e1 f1
    simp (disch := omega) only [e1, nI_z, zI_add, zI_sub, zI_mul, zI_m1, ckI_z, zI_clamp, Int.toNat_natCast, bnd_some, lt, rd_same, rd_ne, rdL_same, rdL_ne, wI_2, wL_1, if_true, if_false, iT_lt, iF_lt, iT_lt0, iF_lt0, iT_0lt, iF_0lt, iT_le, iF_le, iT_le0, iF_le0, iT_0le, iF_0le, iT_eq, iF_eq, iT_eq0, iF_eq0]
    exact f1
theorem f3_sort_ok {N a : Nat} {g : Lg} {S : St} (hg : LV g) (hN : 13 ≤ N) (hc : CB S a g) : ∃ S2, f3_sortByBits N a S = some ((), S2) ∧ Held (S2.1 (a + 3)) 0 (rkf g) ∧ Same (fun c _ => c = a + 3) S S2 := by
  obtain ⟨S2, e1, e2, e3⟩ := f3_sort_up (N := N) hg hN 6 0 N S hc (fun i x h => by simp [rkp] at h) (by omega) (by omega)
  exact ⟨S2, e1, e2, e3⟩
-- shifts
theorem sh_amt : ∀ s : Nat, s < 32 → ((nI s &&& 31).toBitVec.smod 32).toNat = s := by decide
theorem zI_shl {c s : Nat} (hs : s < 32) (h : c * 2 ^ s < 2 ^ 32) : shlI (zI c) (zI s) = zI ((c * 2 ^ s : Nat) : Int) := by
  rw [← nI_z, ← nI_z, ← nI_z]
  exact pk_shlN _ s (sh_amt s hs) h
theorem zI_shr {c s : Nat} (hs : s < 32) (h : c < 2 ^ 31) : shrI (zI c) (zI s) = zI ((c / 2 ^ s : Nat) : Int) := by
  rw [← nI_z, ← nI_z, ← nI_z]
  exact pk_shrN h _ s (sh_amt s hs)
-- codes
theorem rkF_bit {g : Lg} {i o : Nat} (h : o ∈ rkF g i) : bit g o = i + 1 := by
  have := (List.mem_filter.mp h).2
  simpa using this
theorem rkf_sorted (g : Lg) : (rkf g).Pairwise (fun x y => bit g x ≤ bit g y) := by
  have : ∀ n, ((List.range n).flatMap (rkF g)).Pairwise (fun x y => bit g x ≤ bit g y) ∧ ∀ x ∈ (List.range n).flatMap (rkF g), bit g x ≤ n := fun n => by
    induction n with
    | zero => exact ⟨List.Pairwise.nil, fun x h => (by cases h)⟩
    | succ n ih =>
      rw [List.range_succ, List.flatMap_append]
      have e : [n].flatMap (rkF g) = rkF g n := by simp
      rw [e]
      refine ⟨List.pairwise_append.mpr ⟨ih.1, ?_, fun x hx y hy => ?_⟩, fun x hx => ?_⟩
      · rw [List.pairwise_iff_getElem]
        intro i j hi hj _
        rw [rkF_bit (List.getElem_mem hi), rkF_bit (List.getElem_mem hj)]
        exact Nat.le_refl _
      · have := ih.2 x hx
        rw [rkF_bit hy]; omega
      · rcases List.mem_append.mp hx with hx | hx
        · have := ih.2 x hx; omega
        · rw [rkF_bit hx]; exact Nat.le_refl _
  exact (this 6).1
def wsum (g : Lg) (t : List Nat) : Nat := (t.map (fun o => 2 ^ (6 - bit g o))).sum
theorem f3_gc_loop {N a : Nat} {g : Lg} (hg : LV g) : ∀ (t : List Nat) (i n c b : Nat) (S : St), CB S a g → Held (S.1 (a + 3)) 0 (rkf g) → (rkf g).drop i = t → i ≤ g.1.length → t.length < n → c * 2 ^ (6 - b) + wsum g t ≤ 64 → b ≤ 6 → (∀ o ∈ t, b ≤ bit g o) → t.Pairwise (fun x y => bit g x ≤ bit g y) → t.Nodup →
    ∃ S2, f3_giveCodes_h15 N a n (zI c) (zI b) (zI i) S = some ((), S2) ∧ (∀ j o, t[j]? = some o → S2.1 (a + 2) o = zI ((cds g c b t).getD j 0)) ∧ (∀ o, o ∉ t → S2.1 (a + 2) o = S.1 (a + 2) o) ∧ Same (fun c _ => c = a + 2) S S2 := by
  have hgl := hg.len
  intro t
  induction t with
  | nil =>
    intro i n c b S hc hh hd hi hn hk hb hs hp hnd
    obtain ⟨n, rfl⟩ : ∃ z, n = z + 1 := ⟨n - 1, by omega⟩
    have h1 := hc.1
    have hl := List.drop_eq_nil_iff.mp hd
    rw [rkf_len hg] at hl
    obtain rfl : i = g.1.length := by omega
    refine ⟨S, ?_, fun j o h => (by simp at h), fun _ _ => rfl, Same.rfl'⟩
    rw [f3_giveCodes_h15]
    simp (disch := omega) only [h1, nI_z, zI_add, zI_sub, zI_mul, zI_m1, ckI_z, zI_clamp, Int.toNat_natCast, bnd_some, lt, rd_same, rd_ne, rdL_same, rdL_ne, wI_2, wL_1, if_true, if_false, iT_lt, iF_lt, iT_lt0, iF_lt0, iT_0lt, iF_0lt, iT_le, iF_le, iT_le0, iF_le0, iT_0le, iF_0le, iT_eq, iF_eq, iT_eq0, iF_eq0]
  | cons o t ih =>
    intro i n c b S hc hh hd hi hn hk hb hs hp hnd
    obtain ⟨n, rfl⟩ : ∃ z, n = z + 1 := ⟨n - 1, by omega⟩
    have h1 := hc.1
    have hlt : i < (rkf g).length := by
      rcases Nat.lt_or_ge i (rkf g).length with e | e
      · exact e
      · rw [List.drop_eq_nil_of_le e] at hd; cases hd
    rw [List.drop_eq_getElem_cons hlt] at hd
    injection hd with hd1 hd2
    have hr : (rkf g)[i]? = some o := by rw [List.getElem?_eq_getElem hlt, hd1]
    rw [rkf_len hg] at hlt
    have ho : o < g.1.length := (mem_rkf hg).mp (List.mem_of_getElem? hr)
    have h3 := hh i o hr
    rw [Nat.zero_add] at h3
    have h4 := hc.2.1 o ho
    have hbo := bit_pos hg o
    have hbb := hs o List.mem_cons_self
    have hw : wsum g (o :: t) = 2 ^ (6 - bit g o) + wsum g t := by simp [wsum]
    have hpw : 2 ^ (bit g o - b) * 2 ^ (6 - bit g o) = 2 ^ (6 - b) := by rw [← Nat.pow_add]; congr 1; omega
    have hv : (c * 2 ^ (bit g o - b)) * 2 ^ (6 - bit g o) = c * 2 ^ (6 - b) := by rw [Nat.mul_assoc, hpw]
    have h1p : 1 ≤ 2 ^ (6 - bit g o) := Nat.one_le_two_pow
    have hv2 : c * 2 ^ (bit g o - b) ≤ (c * 2 ^ (bit g o - b)) * 2 ^ (6 - bit g o) := Nat.le_mul_of_pos_right _ h1p
    have hsh := zI_shl (c := c) (s := bit g o - b) (by omega) (by omega)
    rw [show (((bit g o - b : Nat)) : Int) = (bit g o : Int) - (b : Int) by omega] at hsh
    have hbit : ∀ S', S'.1 a = S.1 a → S'.1 (a + 1) = S.1 (a + 1) → f3_bitsOf a (zI o) S' = some (zI (bit g o), S') := fun S' e0 e1 => by
      unfold f3_bitsOf
      rw [e0, e1]
      simp (disch := omega) only [h1, h4, nI_z, zI_add, zI_sub, zI_mul, zI_m1, ckI_z, zI_clamp, Int.toNat_natCast, bnd_some, lt, rd_same, rd_ne, rdL_same, rdL_ne, wI_2, wL_1, if_true, if_false, iT_lt, iF_lt, iT_lt0, iF_lt0, iT_0lt, iF_0lt, iT_le, iF_le, iT_le0, iF_le0, iT_0le, iF_0le, iT_eq, iF_eq, iT_eq0, iF_eq0]
    have hbi := hbit S rfl rfl
    generalize hve : c * 2 ^ (bit g o - b) = v at hv hv2 hsh
    have hs2 : Same (fun c _ => c = a + 2) S (wI S (a + 2) o (zI v)) := Same.rfl'.wI rfl
    have hc2 := hc.same hg hs2 (fun k => by omega) (fun k => by omega) (fun c k h1 h2 => by omega)
    have hn1 := List.nodup_cons.mp hnd
    obtain ⟨S2, f1, f2, f3, f4⟩ := ih (i + 1) n (v + 1) (bit g o) _ hc2 (by rw [hs2.row (fun k => by omega)]; exact hh) hd2 (by omega) (by simpa using hn) (by rw [Nat.add_mul, Nat.one_mul, hv]; omega) (by omega) (List.pairwise_cons.mp hp).1 (List.pairwise_cons.mp hp).2 hn1.2
    refine ⟨S2, ?_, fun j x hj => ?_, fun x hx => ?_, hs2.tr f4⟩
    · rw [f3_giveCodes_h15]
      rw [show ((v + 1 : Nat) : Int) = (v : Int) + ((1 : Nat) : Int) from rfl, show ((i + 1 : Nat) : Int) = (i : Int) + ((1 : Nat) : Int) from rfl] at f1
      simp (disch := omega) only [h1, h3, hbi, hsh, nI_z, zI_add, zI_sub, zI_mul, zI_m1, ckI_z, zI_clamp, Int.toNat_natCast, bnd_some, lt, rd_same, rd_ne, rdL_same, rdL_ne, wI_2, wL_1, if_true, if_false, iT_lt, iF_lt, iT_lt0, iF_lt0, iT_0lt, iF_0lt, iT_le, iF_le, iT_le0, iF_le0, iT_0le, iF_0le, iT_eq, iF_eq, iT_eq0, iF_eq0]
      exact f1
    · unfold cds
      rw [hve]
      cases j with
      | zero =>
        obtain rfl : o = x := by simpa using hj
        rw [f3 o hn1.1]
        simp (disch := omega) only [nI_z, zI_add, zI_sub, zI_mul, zI_m1, ckI_z, zI_clamp, Int.toNat_natCast, bnd_some, lt, rd_same, rd_ne, rdL_same, rdL_ne, wI_2, wL_1, if_true, if_false, iT_lt, iF_lt, iT_lt0, iF_lt0, iT_0lt, iF_0lt, iT_le, iF_le, iT_le0, iF_le0, iT_0le, iF_0le, iT_eq, iF_eq, iT_eq0, iF_eq0]
        rfl
      | succ j =>
        rw [List.getD_cons_succ]
        exact f2 j x (by simpa using hj)
    · rw [f3 x (fun h => hx (List.mem_cons_of_mem _ h)), rd_ne (Or.inr (fun e => hx (by rw [e]; exact List.mem_cons_self)))]
theorem f3_gc_ok {N a : Nat} {g : Lg} {S : St} (hg : LV g) (hN : 13 ≤ N) (hc : CB S a g) (hh : Held (S.1 (a + 3)) 0 (rkf g)) : ∃ S2, f3_giveCodes N a S = some ((), S2) ∧ (∀ o, o < g.1.length → S2.1 (a + 2) o = zI (cd g o)) ∧ Same (fun c _ => c = a + 2) S S2 := by
  have hgl := hg.len
  have h1 := hc.1
  have hl := rkf_len hg
  have hr : (rkf g)[0]? = some ((rkf g).getD 0 0) := by
    rw [List.getD_eq_getElem?_getD, List.getElem?_eq_getElem (by omega)]; rfl
  generalize hf : (rkf g).getD 0 0 = o at hr
  have ho : o < g.1.length := (mem_rkf hg).mp (List.mem_of_getElem? hr)
  have h3 := hh 0 o hr
  rw [Nat.zero_add] at h3
  have h4 := hc.2.1 o ho
  have hbo := bit_pos hg o
  have hso := rkf_sorted g
  have hmin : ∀ x ∈ rkf g, bit g o ≤ bit g x := fun x hx => by
    cases hk : rkf g with
    | nil => rw [hk] at hx; cases hx
    | cons y t =>
      rw [hk] at hx hr hso
      obtain rfl : y = o := by simpa using hr
      rcases List.mem_cons.mp hx with e | e
      · rw [e]; exact Nat.le_refl _
      · exact (List.pairwise_cons.mp hso).1 x e
  have hkr := rkf_kraft hg
  obtain ⟨S2, f1, f2, f3, f4⟩ := f3_gc_loop (N := N) hg (rkf g) 0 N 0 (bit g o) S hc hh (List.drop_zero) (by omega) (by omega) (by unfold wsum; omega) (by omega) hmin hso (rkf_nodup g)
  refine ⟨S2, ?_, fun x hx => ?_, f4⟩
  · unfold f3_giveCodes f3_bitsOf
    simp (disch := omega) only [h3, h1, h4, nI_z, zI_add, zI_sub, zI_mul, zI_m1, ckI_z, zI_clamp, Int.toNat_natCast, bnd_some, lt, rd_same, rd_ne, rdL_same, rdL_ne, wI_2, wL_1, if_true, if_false, iT_lt, iF_lt, iT_lt0, iF_lt0, iT_0lt, iF_0lt, iT_le, iF_le, iT_le0, iF_le0, iT_0le, iF_0le, iT_eq, iF_eq, iT_eq0, iF_eq0]
    exact f1
  · have hxr := (mem_rkf hg).mpr hx
    have hxl := List.idxOf_lt_length_iff.mpr hxr
    have := f2 ((rkf g).idxOf x) x (by rw [List.getElem?_eq_getElem hxl, List.getElem_idxOf])
    rw [this]
    unfold cd cdl
    rw [hf]
-- the fewest orders
theorem comp_ne {g : Lg} (hg : LV g) (d s : Nat) : comp (bit g) (rkf g) (d + 1) s ≠ [] ↔ s = bit g 0 ∨ ∃ o, 1 ≤ o ∧ o < g.1.length ∧ comp (bit g) (rkf g) d (s - bit g o) ≠ [] := by
  have hgl := hg.len
  have hc : comp (bit g) (rkf g) (d + 1) s ≠ [] ↔ ∃ o ∈ rkf g, ft g d s o = true := by
    unfold comp ft
    rw [Ne, List.flatMap_eq_nil_iff]
    constructor
    · intro h
      refine Classical.byContradiction (fun hn => h (fun o ho => ?_))
      refine Classical.byContradiction (fun hb => hn ⟨o, ho, ?_⟩)
      cases hh : block (bit g) (comp (bit g) (rkf g) d) s o with
      | nil => exact absurd hh hb
      | cons x t => rfl
    · rintro ⟨o, ho, hb⟩ h
      rw [h o ho] at hb
      exact absurd hb (by decide)
  rw [hc]
  constructor
  · rintro ⟨o, ho, hb⟩
    by_cases e : o = 0
    · rw [e] at hb; exact Or.inl (ft_0.mp hb)
    · exact Or.inr ⟨o, by omega, (mem_rkf hg).mp ho, (ft_s e).mp hb⟩
  · rintro (h | ⟨o, h1, h2, h3⟩)
    · exact ⟨0, (mem_rkf hg).mpr (by omega), ft_0.mpr h⟩
    · exact ⟨o, (mem_rkf hg).mpr h2, (ft_s (by omega)).mpr h3⟩
theorem zI_min {x y : Int} (hx : -2147483648 ≤ x ∧ x < 2147483648) (hy : -2147483648 ≤ y ∧ y < 2147483648) : minI (zI x) (zI y) = zI (min x y) := by
  unfold minI
  by_cases h : y < x
  · rw [iT_lt (by omega), show min x y = y by omega]
  · rw [iF_lt (by omega), show min x y = x by omega]
/-- the table of fewest orders is right for sizes below s -/
def FT (S : St) (a : Nat) (g : Lg) (s : Nat) : Prop := ∀ z, z < s → ∃ w : Nat, w ≤ 1000 ∧ S.1 (a + 10) z = zI w ∧ ∀ d, d ≤ 12 → (w ≤ d ↔ comp (bit g) (rkf g) d z ≠ [])
def FP (g : Lg) (s i w : Nat) : Prop := w ≤ 1000 ∧ ∀ d, d ≤ 12 → (w ≤ d ↔ 1 ≤ d ∧ (s = bit g 0 ∨ ∃ o, 1 ≤ o ∧ o < i ∧ comp (bit g) (rkf g) (d - 1) (s - bit g o) ≠ []))
theorem FT.same {S S2 : St} {a s : Nat} {g : Lg} (h : FT S a g s) (he : ∀ z, z < s → S2.1 (a + 10) z = S.1 (a + 10) z) : FT S2 a g s := fun z hz => by
  rw [he z hz]; exact h z hz
theorem f3_ft_in {S : St} {a s : Nat} {g : Lg} (hg : LV g) (h : FT S a g s) (hs : s ≤ 15) (z : Int) (hz : -100 ≤ z ∧ z < s) : ∃ w : Nat, w ≤ 1000 ∧ f3_fewestFor a (zI z) S = some (zI w, S) ∧ ∀ d, d ≤ 12 → (w ≤ d ↔ comp (bit g) (rkf g) d z.toNat ≠ []) := by
  by_cases hn : z < 0
  · refine ⟨1000, by omega, ?_, fun d hd => ?_⟩
    · unfold f3_fewestFor
      simp (disch := omega) only [nI_z, zI_add, zI_sub, zI_mul, zI_m1, ckI_z, zI_clamp, Int.toNat_natCast, bnd_some, lt, rd_same, rd_ne, rdL_same, rdL_ne, wI_2, wL_1, if_true, if_false, iT_lt, iF_lt, iT_lt0, iF_lt0, iT_0lt, iF_0lt, iT_le, iF_le, iT_le0, iF_le0, iT_0le, iF_0le, iT_eq, iF_eq, iT_eq0, iF_eq0]
    · rw [show z.toNat = 0 by omega, comp_0 (fun o => (bit_pos hg o).1)]
      exact ⟨fun q => absurd q (by omega), fun q => absurd rfl q⟩
  · obtain ⟨k, rfl⟩ : ∃ k : Nat, z = k := ⟨z.toNat, by omega⟩
    obtain ⟨w, h1, h2, h3⟩ := h k (by omega)
    refine ⟨w, h1, ?_, h3⟩
    unfold f3_fewestFor
    simp (disch := omega) only [h2, nI_z, zI_add, zI_sub, zI_mul, zI_m1, ckI_z, zI_clamp, Int.toNat_natCast, bnd_some, lt, rd_same, rd_ne, rdL_same, rdL_ne, wI_2, wL_1, if_true, if_false, iT_lt, iF_lt, iT_lt0, iF_lt0, iT_0lt, iF_0lt, iT_le, iF_le, iT_le0, iF_le0, iT_0le, iF_0le, iT_eq, iF_eq, iT_eq0, iF_eq0]
theorem f3_cf_in {a s : Nat} {g : Lg} (hg : LV g) (hs : 1 ≤ s ∧ s ≤ 14) (N : Nat) (k11 : Int32 → St → Option (Unit × St)) : ∀ (m i n w : Nat) (S : St), CB S a g → FT S a g s → S.1 (a + 10) s = zI w → FP g s i w → 1 ≤ i → i + m = g.1.length → m < n →
    ∃ S2, f3_countFewest_h45 N a (zI s) k11 n (zI i) S = k11 (zI ((s : Int) + 1)) S2 ∧ FT S2 a g (s + 1) ∧ Same (fun c _ => c = a + 10) S S2 := by
  have hgl := hg.len
  intro m
  induction m with
  | zero =>
    intro i n w S hc hf hw hp hi him hn
    obtain ⟨n, rfl⟩ : ∃ z, n = z + 1 := ⟨n - 1, by omega⟩
    obtain rfl : i = g.1.length := by omega
    have h1 := hc.1
    refine ⟨S, ?_, fun z hz => ?_, Same.rfl'⟩
    · rw [f3_countFewest_h45]
      simp (disch := omega) only [h1, nI_z, zI_add, zI_sub, zI_mul, zI_m1, ckI_z, zI_clamp, Int.toNat_natCast, bnd_some, lt, rd_same, rd_ne, rdL_same, rdL_ne, wI_2, wL_1, if_true, if_false, iT_lt, iF_lt, iT_lt0, iF_lt0, iT_0lt, iF_0lt, iT_le, iF_le, iT_le0, iF_le0, iT_0le, iF_0le, iT_eq, iF_eq, iT_eq0, iF_eq0]
      rfl
    · rcases Nat.lt_or_ge z s with e | e
      · exact hf z e
      · obtain rfl : z = s := by omega
        refine ⟨w, hp.1, hw, fun d hd => ?_⟩
        rw [hp.2 d hd]
        cases d with
        | zero => simp [comp]
        | succ d =>
          rw [comp_ne hg]
          constructor
          · rintro ⟨-, h⟩; exact h
          · intro h; exact ⟨by omega, h⟩
  | succ m ih =>
    intro i n w S hc hf hw hp hi him hn
    obtain ⟨n, rfl⟩ : ∃ z, n = z + 1 := ⟨n - 1, by omega⟩
    have h1 := hc.1
    have h2 := hc.2.1 i (by omega)
    have hbi := bit_pos hg i
    have hw1 := hp.1
    obtain ⟨v, v1, v2, v3⟩ := f3_ft_in hg hf (by omega) ((s : Int) - (bit g i : Int)) (by omega)
    rw [show ((s : Int) - (bit g i : Int)).toNat = s - bit g i by omega] at v3
    have hs2 : Same (fun c _ => c = a + 10) S (wI S (a + 10) s (zI ((min w (1 + v) : Nat) : Int))) := Same.rfl'.wI rfl
    have hc2 := hc.same hg hs2 (fun k => by omega) (fun k => by omega) (fun c k h1 h2 => by omega)
    have hf2 : FT (wI S (a + 10) s (zI ((min w (1 + v) : Nat) : Int))) a g s := hf.same (fun z hz => by simp (disch := omega) only [nI_z, zI_add, zI_sub, zI_mul, zI_m1, ckI_z, zI_clamp, Int.toNat_natCast, bnd_some, lt, rd_same, rd_ne, rdL_same, rdL_ne, wI_2, wL_1, if_true, if_false, iT_lt, iF_lt, iT_lt0, iF_lt0, iT_0lt, iF_0lt, iT_le, iF_le, iT_le0, iF_le0, iT_0le, iF_0le, iT_eq, iF_eq, iT_eq0, iF_eq0])
    have hp2 : FP g s (i + 1) (min w (1 + v)) := by
      refine ⟨by omega, fun d hd => ?_⟩
      have q1 := hp.2 d hd
      constructor
      · intro h
        rcases Nat.le_total w (1 + v) with e | e
        · rw [Nat.min_eq_left e] at h
          obtain ⟨r1, r2⟩ := q1.mp h
          refine ⟨r1, ?_⟩
          rcases r2 with r2 | ⟨o, r2, r3, r4⟩
          · exact Or.inl r2
          · exact Or.inr ⟨o, r2, by omega, r4⟩
        · rw [Nat.min_eq_right e] at h
          exact ⟨by omega, Or.inr ⟨i, hi, by omega, (v3 (d - 1) (by omega)).mp (by omega)⟩⟩
      · rintro ⟨r1, r2⟩
        rcases r2 with r2 | ⟨o, r2, r3, r4⟩
        · have := q1.mpr ⟨r1, Or.inl r2⟩
          omega
        · by_cases e : o = i
          · rw [e] at r4
            have := (v3 (d - 1) (by omega)).mpr r4
            omega
          · have := q1.mpr ⟨r1, Or.inr ⟨o, r2, by omega, r4⟩⟩
            omega
    obtain ⟨S2, f1, f2, f3⟩ := ih (i + 1) n _ _ hc2 hf2 rd_same hp2 (by omega) (by omega) (by omega)
    refine ⟨S2, ?_, f2, hs2.tr f3⟩
    have hb : f3_bitsOf a (zI i) S = some (zI (bit g i), S) := by
      unfold f3_bitsOf
      simp (disch := omega) only [h1, h2, nI_z, zI_add, zI_sub, zI_mul, zI_m1, ckI_z, zI_clamp, Int.toNat_natCast, bnd_some, lt, rd_same, rd_ne, rdL_same, rdL_ne, wI_2, wL_1, if_true, if_false, iT_lt, iF_lt, iT_lt0, iF_lt0, iT_0lt, iF_0lt, iT_le, iF_le, iT_le0, iF_le0, iT_0le, iF_0le, iT_eq, iF_eq, iT_eq0, iF_eq0]
    have hmn : ((min w (1 + v) : Nat) : Int) = min (w : Int) (((1 : Nat) : Int) + (v : Int)) := by omega
    rw [hmn] at f1
    rw [f3_countFewest_h45]
    simp (disch := omega) only [h1, hb, v2, hw, zI_min, nI_z, zI_add, zI_sub, zI_mul, zI_m1, ckI_z, zI_clamp, Int.toNat_natCast, bnd_some, lt, rd_same, rd_ne, rdL_same, rdL_ne, wI_2, wL_1, if_true, if_false, iT_lt, iF_lt, iT_lt0, iF_lt0, iT_0lt, iF_0lt, iT_le, iF_le, iT_le0, iF_le0, iT_0le, iF_0le, iT_eq, iF_eq, iT_eq0, iF_eq0]
    exact f1
theorem f3_cf_up {N a : Nat} {g : Lg} (hg : LV g) (hN : 13 ≤ N) : ∀ (m s n : Nat) (S : St), CB S a g → FT S a g s → 1 ≤ s → s + m = 15 → m < n → ∃ S2, f3_countFewest_h11 N a n (zI s) S = some ((), S2) ∧ FT S2 a g 15 ∧ Same (fun c _ => c = a + 10) S S2 := by
  have hgl := hg.len
  intro m
  induction m with
  | zero =>
    intro s n S hc hf h1s hs hn
    obtain ⟨n, rfl⟩ : ∃ z, n = z + 1 := ⟨n - 1, by omega⟩
    obtain rfl : s = 15 := by omega
    refine ⟨S, ?_, hf, Same.rfl'⟩
    rw [f3_countFewest_h11]
    simp (disch := omega) only [nI_z, zI_add, zI_sub, zI_mul, zI_m1, ckI_z, zI_clamp, Int.toNat_natCast, bnd_some, lt, rd_same, rd_ne, rdL_same, rdL_ne, wI_2, wL_1, if_true, if_false, iT_lt, iF_lt, iT_lt0, iF_lt0, iT_0lt, iF_0lt, iT_le, iF_le, iT_le0, iF_le0, iT_0le, iF_0le, iT_eq, iF_eq, iT_eq0, iF_eq0]
  | succ m ih =>
    intro s n S hc hf h1s hs hn
    obtain ⟨n, rfl⟩ : ∃ z, n = z + 1 := ⟨n - 1, by omega⟩
    have h2 := hc.2.1 0 (by omega)
    have hb0 := bit_pos hg 0
    have key : ∀ w : Nat, w ≤ 1000 → (∀ d, d ≤ 12 → (w ≤ d ↔ 1 ≤ d ∧ s = bit g 0)) → ∃ S2, f3_countFewest_j42 N a (zI s) (f3_countFewest_h11 N a n) (zI w) (zI s) S = some ((), S2) ∧ FT S2 a g 15 ∧ Same (fun c _ => c = a + 10) S S2 := fun w hw hd => by
      have hs2 : Same (fun c _ => c = a + 10) S (wI S (a + 10) s (zI w)) := Same.rfl'.wI rfl
      have hc2 := hc.same hg hs2 (fun k => by omega) (fun k => by omega) (fun c k h1 h2 => by omega)
      have hf2 : FT (wI S (a + 10) s (zI w)) a g s := hf.same (fun z hz => by simp (disch := omega) only [nI_z, zI_add, zI_sub, zI_mul, zI_m1, ckI_z, zI_clamp, Int.toNat_natCast, bnd_some, lt, rd_same, rd_ne, rdL_same, rdL_ne, wI_2, wL_1, if_true, if_false, iT_lt, iF_lt, iT_lt0, iF_lt0, iT_0lt, iF_0lt, iT_le, iF_le, iT_le0, iF_le0, iT_0le, iF_0le, iT_eq, iF_eq, iT_eq0, iF_eq0])
      have hp2 : FP g s 1 w := ⟨hw, fun d h => by
        rw [hd d h]
        constructor
        · rintro ⟨r1, r2⟩; exact ⟨r1, Or.inl r2⟩
        · rintro ⟨r1, r2 | ⟨o, r2, r3, r4⟩⟩
          · exact ⟨r1, r2⟩
          · omega⟩
      obtain ⟨S3, f1, f2, f3⟩ := f3_cf_in hg ⟨h1s, by omega⟩ N (f3_countFewest_h11 N a n) (g.1.length - 1) 1 N w _ hc2 hf2 rd_same hp2 (by omega) (by omega) (by omega)
      have hc3 := hc2.same hg f3 (fun k => by omega) (fun k => by omega) (fun c k h1 h2 => by omega)
      obtain ⟨S4, g1, g2, g3⟩ := ih (s + 1) n S3 hc3 f2 (by omega) (by omega) (by omega)
      refine ⟨S4, ?_, g2, (hs2.tr f3).tr g3⟩
      unfold f3_countFewest_j42
      simp (disch := omega) only [nI_z, zI_add, zI_sub, zI_mul, zI_m1, ckI_z, zI_clamp, Int.toNat_natCast, bnd_some, lt, rd_same, rd_ne, rdL_same, rdL_ne, wI_2, wL_1, if_true, if_false, iT_lt, iF_lt, iT_lt0, iF_lt0, iT_0lt, iF_0lt, iT_le, iF_le, iT_le0, iF_le0, iT_0le, iF_0le, iT_eq, iF_eq, iT_eq0, iF_eq0]
      rw [f1]
      exact g1
    rw [f3_countFewest_h11]
    by_cases e : bit g 0 = s
    · obtain ⟨S2, e1, e2⟩ := key 1 (by omega) (fun d h => by omega)
      refine ⟨S2, ?_, e2⟩
      simp (disch := omega) only [h2, nI_z, zI_add, zI_sub, zI_mul, zI_m1, ckI_z, zI_clamp, Int.toNat_natCast, bnd_some, lt, rd_same, rd_ne, rdL_same, rdL_ne, wI_2, wL_1, if_true, if_false, iT_lt, iF_lt, iT_lt0, iF_lt0, iT_0lt, iF_0lt, iT_le, iF_le, iT_le0, iF_le0, iT_0le, iF_0le, iT_eq, iF_eq, iT_eq0, iF_eq0]
      exact e1
    · obtain ⟨S2, e1, e2⟩ := key 1000 (by omega) (fun d h => by omega)
      refine ⟨S2, ?_, e2⟩
      simp (disch := omega) only [h2, nI_z, zI_add, zI_sub, zI_mul, zI_m1, ckI_z, zI_clamp, Int.toNat_natCast, bnd_some, lt, rd_same, rd_ne, rdL_same, rdL_ne, wI_2, wL_1, if_true, if_false, iT_lt, iF_lt, iT_lt0, iF_lt0, iT_0lt, iF_0lt, iT_le, iF_le, iT_le0, iF_le0, iT_0le, iF_0le, iT_eq, iF_eq, iT_eq0, iF_eq0]
      exact e1
theorem f3_cf_ok {N a : Nat} {g : Lg} {S : St} (hg : LV g) (hN : 20 ≤ N) (hc : CB S a g) : ∃ S2, f3_countFewest N a S = some ((), S2) ∧ FT S2 a g 15 ∧ Same (fun c _ => c = a + 10) S S2 := by
  have hs2 : Same (fun c _ => c = a + 10) S (wI S (a + 10) 0 (zI ((1000 : Nat) : Int))) := Same.rfl'.wI rfl
  have hc2 := hc.same hg hs2 (fun k => by omega) (fun k => by omega) (fun c k h1 h2 => by omega)
  have hf2 : FT (wI S (a + 10) 0 (zI ((1000 : Nat) : Int))) a g 1 := fun z hz => by
    obtain rfl : z = 0 := by omega
    refine ⟨1000, by omega, rd_same, fun d hd => ?_⟩
    rw [comp_0 (fun o => (bit_pos hg o).1)]
    exact ⟨fun q => absurd q (by omega), fun q => absurd rfl q⟩
  obtain ⟨S2, e1, e2, e3⟩ := f3_cf_up (N := N) hg (by omega) 14 1 N _ hc2 hf2 (by omega) (by omega) (by omega)
  refine ⟨S2, ?_, e2, hs2.tr e3⟩
  unfold f3_countFewest
  simp (disch := omega) only [nI_z, zI_add, zI_sub, zI_mul, zI_m1, ckI_z, zI_clamp, Int.toNat_natCast, bnd_some, lt, rd_same, rd_ne, rdL_same, rdL_ne, wI_2, wL_1, if_true, if_false, iT_lt, iF_lt, iT_lt0, iF_lt0, iT_0lt, iF_0lt, iT_le, iF_le, iT_le0, iF_le0, iT_0le, iF_0le, iT_eq, iF_eq, iT_eq0, iF_eq0]
  exact e1
/-- the cells that settle changes -/
def stP (a c _k : Nat) : Prop := c = a + 2 ∨ c = a + 3 ∨ c = a + 10
theorem f3_settle_ok {N a : Nat} {g : Lg} {S : St} (hg : LV g) (hN : 20 ≤ N) (hc : CB S a g) : ∃ S2, f3_settle N a S = some ((), S2) ∧ CL S2 a g ∧ Same (stP a) S S2 := by
  obtain ⟨S2, e1, e2, e3⟩ := f3_sort_ok (N := N) hg (by omega) hc
  have hc2 := hc.same hg e3 (fun k => by omega) (fun k => by omega) (fun c k h1 h2 => by omega)
  obtain ⟨S3, f1, f2, f3⟩ := f3_gc_ok (N := N) hg (by omega) hc2 e2
  have hc3 := hc2.same hg f3 (fun k => by omega) (fun k => by omega) (fun c k h1 h2 => by omega)
  obtain ⟨S4, g1, g2, g3⟩ := f3_cf_ok (N := N) hg hN hc3
  have hc4 := hc3.same hg g3 (fun k => by omega) (fun k => by omega) (fun c k h1 h2 => by omega)
  refine ⟨S4, ?_, ⟨hc4.1, hc4.2.1, fun o ho => ?_, ?_, hc4.2.2, fun s hs => ?_⟩, ?_⟩
  · unfold f3_settle
    rw [e1, bnd_some, f1, bnd_some, g1, bnd_some]
  · rw [g3.row (fun k => by omega)]; exact f2 o ho
  · rw [g3.row (fun k => by omega), f3.row (fun k => by omega)]; exact e2
  · obtain ⟨w, w1, w2, w3⟩ := g2 s (by omega)
    exact ⟨w, by omega, w2, w3⟩
  · exact ((e3.mono (fun c k h => Or.inr (Or.inl h))).tr (f3.mono (fun c k h => Or.inl h))).tr (g3.mono (fun c k h => Or.inr (Or.inr h)))
-- a LANGUAGE of digits
def dgs (x : Nat) : List Nat := (List.range 8).map (fun i => x / 10 ^ (7 - i) % 10)
theorem f3_made_loop {N a : Nat} : ∀ (k n y : Nat) (z : Int) (S : St), k ≤ 8 → k < n → y < 2147483648 → z = (k : Int) - 1 → ∃ S2, f3_beMadeOf_h11 N a n (zI y) (zI z) S = bnd (f3_settle N a S2) (fun _ S3 => some ((), S3)) ∧ (∀ i, i < k → S2.1 (a + 1) i = zI ((y / 10 ^ (k - 1 - i) % 10 : Nat) : Int)) ∧ (∀ i, k ≤ i → S2.1 (a + 1) i = S.1 (a + 1) i) ∧ Same (fun c _ => c = a + 1) S S2 := by
  intro k
  induction k with
  | zero =>
    intro n y z S hk hn hy hz
    obtain ⟨n, rfl⟩ : ∃ z, n = z + 1 := ⟨n - 1, by omega⟩
    refine ⟨S, ?_, fun i hi => by omega, fun i _ => rfl, Same.rfl'⟩
    rw [f3_beMadeOf_h11]
    simp (disch := omega) only [nI_z, zI_add, zI_sub, zI_mul, zI_m1, ckI_z, zI_clamp, Int.toNat_natCast, bnd_some, lt, rd_same, rd_ne, rdL_same, rdL_ne, wI_2, wL_1, if_true, if_false, iT_lt, iF_lt, iT_lt0, iF_lt0, iT_0lt, iF_0lt, iT_le, iF_le, iT_le0, iF_le0, iT_0le, iF_0le, iT_eq, iF_eq, iT_eq0, iF_eq0]
  | succ k ih =>
    intro n y z S hk hn hy hz
    obtain ⟨n, rfl⟩ : ∃ z, n = z + 1 := ⟨n - 1, by omega⟩
    obtain rfl : z = (k : Nat) := by omega
    have hs2 : Same (fun c _ => c = a + 1) S (wI S (a + 1) k (zI ((y % 10 : Nat) : Int))) := Same.rfl'.wI rfl
    obtain ⟨S2, f1, f2, f3, f4⟩ := ih n (y / 10) ((k : Int) + -1) _ (by omega) (by omega) (by omega) (by omega)
    refine ⟨S2, ?_, fun i hi => ?_, fun i hi => ?_, hs2.tr f4⟩
    · rw [f3_beMadeOf_h11]
      have h1 : ((y : Int) / ((10 : Nat) : Int)) = ((y / 10 : Nat) : Int) := by omega
      have h2 : ((y : Int) % ((10 : Nat) : Int)) = ((y % 10 : Nat) : Int) := by omega
      simp (disch := omega) only [zI_rem, zI_div, h1, h2, nI_z, zI_add, zI_sub, zI_mul, zI_m1, ckI_z, zI_clamp, Int.toNat_natCast, bnd_some, lt, rd_same, rd_ne, rdL_same, rdL_ne, wI_2, wL_1, if_true, if_false, iT_lt, iF_lt, iT_lt0, iF_lt0, iT_0lt, iF_0lt, iT_le, iF_le, iT_le0, iF_le0, iT_0le, iF_0le, iT_eq, iF_eq, iT_eq0, iF_eq0]
      exact f1
    · by_cases e : i = k
      · subst e
        rw [f3 i (Nat.le_refl _)]
        simp (disch := omega) only [nI_z, zI_add, zI_sub, zI_mul, zI_m1, ckI_z, zI_clamp, Int.toNat_natCast, bnd_some, lt, rd_same, rd_ne, rdL_same, rdL_ne, wI_2, wL_1, if_true, if_false, iT_lt, iF_lt, iT_lt0, iF_lt0, iT_0lt, iF_0lt, iT_le, iF_le, iT_le0, iF_le0, iT_0le, iF_0le, iT_eq, iF_eq, iT_eq0, iF_eq0]
        rw [show i + 1 - 1 - i = 0 by omega, Nat.pow_zero, Nat.div_one]
      · rw [f2 i (by omega), Nat.div_div_eq_div_mul]
        congr 4
        rw [show k + 1 - 1 - i = (k - 1 - i) + 1 by omega, Nat.pow_succ, Nat.mul_comm]
    · rw [f3 i (by omega), rd_ne (by omega)]
theorem f3_made_ok {N a x : Nat} {S : St} (hg : LV (dgs x, [])) (hN : 20 ≤ N) (hx : x < 2147483648) : ∃ S2, f3_beMadeOf N a (zI x) S = some ((), S2) ∧ CL S2 a (dgs x, []) ∧ Same (fun c k => c = a ∨ c = a + 1 ∨ stP a c k) S S2 := by
  have hs1 : Same (fun c k => c = a ∨ c = a + 1 ∨ stP a c k) S (wI S a 0 (zI ((8 : Nat) : Int))) := Same.rfl'.wI (Or.inl rfl)
  obtain ⟨S2, e1, e2, e3, e4⟩ := f3_made_loop (N := N) (a := a) 8 N x (((7 : Nat) : Int)) (wI S a 0 (zI ((8 : Nat) : Int))) (by omega) (by omega) hx (by omega)
  have hl : (dgs x).length = 8 := by simp [dgs]
  have hc : CB S2 a (dgs x, []) := by
    refine ⟨?_, fun o ho => ?_, fun i q h => (by simp at h)⟩
    · rw [e4.row (fun k => by omega)]
      simp (disch := omega) only [hl, nI_z, zI_add, zI_sub, zI_mul, zI_m1, ckI_z, zI_clamp, Int.toNat_natCast, bnd_some, lt, rd_same, rd_ne, rdL_same, rdL_ne, wI_2, wL_1, if_true, if_false, iT_lt, iF_lt, iT_lt0, iF_lt0, iT_0lt, iF_0lt, iT_le, iF_le, iT_le0, iF_le0, iT_0le, iF_0le, iT_eq, iF_eq, iT_eq0, iF_eq0]
    · have ho8 : o < 8 := by rw [← hl]; exact ho
      rw [e2 o ho8]
      unfold bit dgs
      congr 2
      rw [List.getD_eq_getElem?_getD, List.getElem?_map, List.getElem?_range ho8]
      rfl
  obtain ⟨S3, f1, f2, f3⟩ := f3_settle_ok (N := N) hg hN hc
  refine ⟨S3, ?_, f2, (hs1.tr (e4.mono (fun c k h => Or.inr (Or.inl h)))).tr (f3.mono (fun c k h => Or.inr (Or.inr h)))⟩
  unfold f3_beMadeOf
  simp (disch := omega) only [nI_z, zI_add, zI_sub, zI_mul, zI_m1, ckI_z, zI_clamp, Int.toNat_natCast, bnd_some, lt, rd_same, rd_ne, rdL_same, rdL_ne, wI_2, wL_1, if_true, if_false, iT_lt, iF_lt, iT_lt0, iF_lt0, iT_0lt, iF_0lt, iT_le, iF_le, iT_le0, iF_le0, iT_0le, iF_0le, iT_eq, iF_eq, iT_eq0, iF_eq0]
  rw [e1, f1]
  rfl
-- the sum
def lsum (l : List Nat) : Nat := (l.map (fun b => 2 ^ (6 - b))).sum
theorem sh64 : ∀ b : Nat, b < 7 → 64 / 2 ^ b = 2 ^ (6 - b) := by decide
theorem lsum_le : ∀ l : List Nat, lsum l ≤ 64 * l.length
  | [] => Nat.le_refl _
  | a :: t => by
    have h := lsum_le t
    have h1 : 2 ^ (6 - a) ≤ 2 ^ 6 := Nat.pow_le_pow_right (by omega) (by omega)
    have e : lsum (a :: t) = 2 ^ (6 - a) + lsum t := by simp [lsum]
    rw [e, List.length_cons]
    omega
theorem f3_sum_loop {S : St} {a : Nat} {g : Lg} (N : Nat) (hc : CL S a g) (hg : LV g) : ∀ (m i n : Nat), i + m = g.1.length → m < n → f3_sum_h4 N a n (zI (lsum (g.1.take i))) (zI i) S = some (zI (lsum g.1), S) := by
  have hgl := hg.len
  have h1 := hc.1
  intro m
  induction m with
  | zero =>
    intro i n hi hn
    obtain ⟨n, rfl⟩ : ∃ z, n = z + 1 := ⟨n - 1, by omega⟩
    rw [List.take_of_length_le (by omega), f3_sum_h4]
    simp (disch := omega) only [h1, nI_z, zI_add, zI_sub, zI_mul, zI_m1, ckI_z, zI_clamp, Int.toNat_natCast, bnd_some, lt, rd_same, rd_ne, rdL_same, rdL_ne, wI_2, wL_1, if_true, if_false, iT_lt, iF_lt, iT_lt0, iF_lt0, iT_0lt, iF_0lt, iT_le, iF_le, iT_le0, iF_le0, iT_0le, iF_0le, iT_eq, iF_eq, iT_eq0, iF_eq0]
  | succ m ih =>
    intro i n hi hn
    obtain ⟨n, rfl⟩ : ∃ z, n = z + 1 := ⟨n - 1, by omega⟩
    have hlt : i < g.1.length := by omega
    have hr : g.1[i]? = some g.1[i] := List.getElem?_eq_getElem hlt
    have hbe : bit g i = g.1[i] := by unfold bit; rw [List.getD_eq_getElem?_getD, hr]; rfl
    have htk : g.1.take (i + 1) = g.1.take i ++ [g.1[i]] := by rw [List.take_add_one, hr]; rfl
    have hb := bit_pos hg i
    have hls : lsum (g.1.take (i + 1)) = lsum (g.1.take i) + 2 ^ (6 - bit g i) := by
      rw [htk, hbe]
      unfold lsum
      rw [List.map_append, List.sum_append, List.map_cons, List.map_nil, List.sum_cons, List.sum_nil, Nat.add_zero]
    have hle := lsum_le (g.1.take (i + 1))
    rw [List.length_take] at hle
    have hsh := zI_shr (c := 64) (s := bit g i) (by omega) (by omega)
    rw [sh64 _ (by omega)] at hsh
    have ih1 := ih (i + 1) n (by omega) (by omega)
    rw [hls] at ih1
    rw [f3_sum_h4]
    simp (disch := omega) only [h1, f3_bitsOf_in hc hg hlt, hsh, nI_z, zI_add, zI_sub, zI_mul, zI_m1, ckI_z, zI_clamp, Int.toNat_natCast, bnd_some, lt, rd_same, rd_ne, rdL_same, rdL_ne, wI_2, wL_1, if_true, if_false, iT_lt, iF_lt, iT_lt0, iF_lt0, iT_0lt, iF_0lt, iT_le, iF_le, iT_le0, iF_le0, iT_0le, iF_0le, iT_eq, iF_eq, iT_eq0, iF_eq0]
    exact ih1
theorem f3_sum_in {S : St} {a N : Nat} {g : Lg} (hc : CL S a g) (hg : LV g) (hN : 13 ≤ N) : f3_sum N a S = some (zI (lsum g.1), S) := by
  have hgl := hg.len
  exact f3_sum_loop N hc hg g.1.length 0 N (by omega) (by omega)
