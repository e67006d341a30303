/-! LANGUAGES: bits of the orders, and the parts (rows of orders); what both sides hold of one. -/
abbrev Lg : Type := List Nat × List (List Nat)
def bit (g : Lg) (o : Nat) : Nat := g.1.getD o 1
def LV (g : Lg) : Prop := g.1.length = 8 + g.2.length ∧ g.2.length ≤ 4 ∧ (∀ b ∈ g.1, 1 ≤ b ∧ b ≤ 6) ∧ (g.1.map (fun b => 2 ^ (6 - b))).sum ≤ 64 ∧ ∀ q ∈ g.2, 2 ≤ q.length ∧ q.length ≤ 4 ∧ ∀ o ∈ q, 1 ≤ o ∧ o ≤ 7
/-- the orders by bits, of like ones by numbers -/
def rkf (g : Lg) : List Nat := (List.range 6).flatMap (fun i => (List.range g.1.length).filter (fun o => bit g o == i + 1))
/-- the codes, in that order: c is the next one, b the bits of the one ahead -/
def cds (g : Lg) : Nat → Nat → List Nat → List Nat
  | _, _, [] => []
  | c, b, o :: t => (c * 2 ^ (bit g o - b)) :: cds g (c * 2 ^ (bit g o - b) + 1) (bit g o) t
def cdl (g : Lg) : List Nat := cds g 0 (bit g ((rkf g).getD 0 0)) (rkf g)
def cd (g : Lg) (o : Nat) : Nat := (cdl g).getD ((rkf g).idxOf o) 0
/-- what the class holds of a LANGUAGE at a -/
def CL (S : St) (a : Nat) (g : Lg) : Prop :=
  S.1 a 0 = zI g.1.length ∧ (∀ o, o < g.1.length → S.1 (a + 1) o = zI (bit g o)) ∧ (∀ o, o < g.1.length → S.1 (a + 2) o = zI (cd g o)) ∧ Held (S.1 (a + 3)) 0 (rkf g) ∧
  (∀ i q, g.2[i]? = some q → S.1 (a + 9) i = zI q.length ∧ Held (S.1 (a + 5 + i)) 0 q) ∧
  (∀ s : Nat, s ≤ 14 → ∃ w : Nat, w ≤ 1001 ∧ S.1 (a + 10) s = zI w ∧ ∀ d, d ≤ 12 → (w ≤ d ↔ comp (bit g) (rkf g) d s ≠ []))
theorem bit_pos {g : Lg} (h : LV g) (o : Nat) : 1 ≤ bit g o ∧ bit g o ≤ 6 := by
  unfold bit
  by_cases ho : o < g.1.length
  · rw [List.getD_eq_getElem?_getD, List.getElem?_eq_getElem ho]
    exact h.2.2.1 _ (List.getElem_mem ho)
  · rw [List.getD_eq_getElem?_getD, List.getElem?_eq_none (by omega)]
    exact ⟨Nat.le_refl _, by decide⟩
theorem LV.len {g : Lg} (h : LV g) : 8 ≤ g.1.length ∧ g.1.length ≤ 12 := by
  have h1 := h.1
  have h2 := h.2.1
  omega
theorem mem_rkf {g : Lg} (h : LV g) {o : Nat} : o ∈ rkf g ↔ o < g.1.length := by
  unfold rkf
  rw [List.mem_flatMap]
  constructor
  · rintro ⟨i, -, hi⟩
    exact List.mem_range.mp (List.mem_filter.mp hi).1
  · intro ho
    have := bit_pos h o
    exact ⟨bit g o - 1, List.mem_range.mpr (by omega), List.mem_filter.mpr ⟨List.mem_range.mpr ho, by simp; omega⟩⟩
theorem nodup_flat {f : Nat → List Nat} : ∀ {l : List Nat}, l.Nodup → (∀ i ∈ l, (f i).Nodup) → (∀ i ∈ l, ∀ j ∈ l, i ≠ j → ∀ x ∈ f i, x ∉ f j) → (l.flatMap f).Nodup
  | [], _, _, _ => List.nodup_nil
  | a :: t, h1, h2, h3 => by
    rw [List.flatMap_cons, List.nodup_append]
    have hn := List.nodup_cons.mp h1
    refine ⟨h2 a List.mem_cons_self, nodup_flat hn.2 (fun i hi => h2 i (List.mem_cons_of_mem _ hi)) (fun i hi j hj => h3 i (List.mem_cons_of_mem _ hi) j (List.mem_cons_of_mem _ hj)), ?_⟩
    intro x hx y hy e
    subst e
    obtain ⟨j, hj, hy⟩ := List.mem_flatMap.mp hy
    exact h3 a List.mem_cons_self j (List.mem_cons_of_mem _ hj) (fun e => hn.1 (by rw [e]; exact hj)) x hx hy
theorem rkf_nodup (g : Lg) : (rkf g).Nodup := by
  unfold rkf
  refine nodup_flat List.nodup_range (fun i _ => List.Pairwise.filter _ List.nodup_range) (fun i _ j _ hij x hx hy => ?_)
  have h1 := (List.mem_filter.mp hx).2
  have h2 := (List.mem_filter.mp hy).2
  simp only [beq_iff_eq] at h1 h2
  omega
theorem rkf_len {g : Lg} (h : LV g) : (rkf g).length = g.1.length := by
  have h1 : (rkf g).Perm (List.range g.1.length) := (List.perm_ext_iff_of_nodup (rkf_nodup g) List.nodup_range).mpr (fun o => by rw [mem_rkf h, List.mem_range])
  rw [h1.length_eq, List.length_range]
theorem rkf_kraft {g : Lg} (h : LV g) : ((rkf g).map (fun o => 2 ^ (6 - bit g o))).sum ≤ 64 := by
  have h1 : (rkf g).Perm (List.range g.1.length) := (List.perm_ext_iff_of_nodup (rkf_nodup g) List.nodup_range).mpr (fun o => by rw [mem_rkf h, List.mem_range])
  rw [(h1.map _).sum_nat]
  have e : (List.range g.1.length).map (fun o => 2 ^ (6 - bit g o)) = g.1.map (fun b => 2 ^ (6 - b)) := by
    apply List.ext_getElem
    · simp
    · intro i h1 h2
      have h3 : i < g.1.length := by simpa using h2
      simp [bit, List.getD_eq_getElem?_getD, h3]
  rw [e]
  exact h.2.2.2.1
-- the class's simple reads
theorem f3_bitsOf_in {S : St} {a o : Nat} {g : Lg} (h : CL S a g) (hg : LV g) (ho : o < g.1.length) : f3_bitsOf a (zI o) S = some (zI (bit g o), S) := by
  have h1 := h.1
  have h2 := h.2.1 o ho
  have h3 := hg.len
  unfold f3_bitsOf
  simp (disch := omega) only [h1, h2, nI_z, zI_add, zI_sub, zI_mul, zI_m1, ckI_z, zI_clamp, Int.toNat_natCast, bnd_some, lt, rd_same, rd_ne, rdL_same, rdL_ne, wI_2, wL_1, if_true, if_false, iT_lt, iF_lt, iT_lt0, iF_lt0, iT_0lt, iF_0lt, iT_le, iF_le, iT_le0, iF_le0, iT_0le, iF_0le, iT_eq, iF_eq, iT_eq0, iF_eq0]
theorem f3_codeOf_in {S : St} {a o : Nat} {g : Lg} (h : CL S a g) (hg : LV g) (ho : o < g.1.length) : f3_codeOf a (zI o) S = some (zI (cd g o), S) := by
  have h1 := h.1
  have h2 := h.2.2.1 o ho
  have h3 := hg.len
  unfold f3_codeOf
  simp (disch := omega) only [h1, h2, nI_z, zI_add, zI_sub, zI_mul, zI_m1, ckI_z, zI_clamp, Int.toNat_natCast, bnd_some, lt, rd_same, rd_ne, rdL_same, rdL_ne, wI_2, wL_1, if_true, if_false, iT_lt, iF_lt, iT_lt0, iF_lt0, iT_0lt, iF_0lt, iT_le, iF_le, iT_le0, iF_le0, iT_0le, iF_0le, iT_eq, iF_eq, iT_eq0, iF_eq0]
theorem f3_has_eq {S : St} {a : Nat} {g : Lg} (h : CL S a g) (hg : LV g) (x : Int32) : f3_has a x S = some (bI (0 ≤ x.toInt ∧ x.toInt < g.1.length), S) := by
  have h1 := h.1
  have h3 := hg.len
  have hx := xrng x
  rw [zI_of x]
  rw [zI_toInt (by omega)]
  generalize x.toInt = z at hx
  by_cases h4 : 0 ≤ z
  · by_cases h5 : z < g.1.length
    · rw [bI_t ⟨h4, h5⟩]; unfold f3_has; simp (disch := omega) only [h1, nI_z, zI_add, zI_sub, zI_mul, zI_m1, ckI_z, zI_clamp, Int.toNat_natCast, bnd_some, lt, rd_same, rd_ne, rdL_same, rdL_ne, wI_2, wL_1, if_true, if_false, iT_lt, iF_lt, iT_lt0, iF_lt0, iT_0lt, iF_0lt, iT_le, iF_le, iT_le0, iF_le0, iT_0le, iF_0le, iT_eq, iF_eq, iT_eq0, iF_eq0]; rfl
    · rw [bI_f (by omega)]; unfold f3_has; simp (disch := omega) only [h1, nI_z, zI_add, zI_sub, zI_mul, zI_m1, ckI_z, zI_clamp, Int.toNat_natCast, bnd_some, lt, rd_same, rd_ne, rdL_same, rdL_ne, wI_2, wL_1, if_true, if_false, iT_lt, iF_lt, iT_lt0, iF_lt0, iT_0lt, iF_0lt, iT_le, iF_le, iT_le0, iF_le0, iT_0le, iF_0le, iT_eq, iF_eq, iT_eq0, iF_eq0]; rfl
  · rw [bI_f (by omega)]; unfold f3_has; simp (disch := omega) only [h1, nI_z, zI_add, zI_sub, zI_mul, zI_m1, ckI_z, zI_clamp, Int.toNat_natCast, bnd_some, lt, rd_same, rd_ne, rdL_same, rdL_ne, wI_2, wL_1, if_true, if_false, iT_lt, iF_lt, iT_lt0, iF_lt0, iT_0lt, iF_0lt, iT_le, iF_le, iT_le0, iF_le0, iT_0le, iF_0le, iT_eq, iF_eq, iT_eq0, iF_eq0]; rfl
