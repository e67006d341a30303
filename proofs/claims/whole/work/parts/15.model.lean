/-! What the reference holds of a LANGUAGE; its codes. -/
def ML (S : St) (i : Nat) (g : Lg) : Prop :=
  S.1 152 i = zI g.2.length ∧ (∀ o, o < g.1.length → S.1 147 (12 * i + o) = zI (bit g o)) ∧ (∀ o, o < g.1.length → S.1 148 (12 * i + o) = zI (cd g o)) ∧ Held (S.1 149) (12 * i) (rkf g) ∧
  ∀ j q, g.2[j]? = some q → S.1 151 (4 * i + j) = zI q.length ∧ Held (S.1 150) (4 * (4 * i + j)) q
theorem pl12 (i j : Nat) : (((12 : Nat) : Int) * (i : Int) + (j : Int)).toNat = 12 * i + j := by omega
theorem f12_ordersOf_in {S : St} {i : Nat} {g : Lg} (h : S.1 152 i = zI g.2.length) (hg : LV g) (hi : i < 6) : f12_ordersOf (zI i) S = some (zI g.1.length, S) := by
  have h1 := hg.1
  have h2 := hg.2.1
  unfold f12_ordersOf
  simp (disch := omega) only [h, nI_z, zI_add, zI_sub, zI_mul, zI_m1, ckI_z, zI_clamp, Int.toNat_natCast, bnd_some, lt, rd_same, rd_ne, rdL_same, rdL_ne, wI_2, wL_1, if_true, if_false, iT_lt, iF_lt, iT_lt0, iF_lt0, iT_0lt, iF_0lt, iT_le, iF_le, iT_le0, iF_le0, iT_0le, iF_0le, iT_eq, iF_eq, iT_eq0, iF_eq0]
  rw [h1]
  rfl
theorem rkp_pre {g : Lg} (hg : LV g) {i j : Nat} (hi : i < 6) (hj : j ≤ g.1.length) : ∃ t, rkf g = rkp g i j ++ t := by
  have h1 : ∀ k, ∃ t, rkp g i (j + k) = rkp g i j ++ t := fun k => by
    induction k with
    | zero => exact ⟨[], by simp⟩
    | succ k ih =>
      obtain ⟨t, ht⟩ := ih
      by_cases e : bit g (j + k) = i + 1
      · exact ⟨t ++ [j + k], by rw [← Nat.add_assoc, rkp_in e, ht, List.append_assoc]⟩
      · exact ⟨t, by rw [← Nat.add_assoc, rkp_out e, ht]⟩
  have h2 : ∀ k, ∃ t, (List.range (i + 1 + k)).flatMap (rkF g) = (List.range (i + 1)).flatMap (rkF g) ++ t := fun k => by
    induction k with
    | zero => exact ⟨[], by simp⟩
    | succ k ih =>
      obtain ⟨t, ht⟩ := ih
      exact ⟨t ++ rkF g (i + 1 + k), by rw [← Nat.add_assoc, List.range_succ, List.flatMap_append, ht, List.append_assoc]; simp⟩
  obtain ⟨t1, e1⟩ := h1 (g.1.length - j)
  rw [show j + (g.1.length - j) = g.1.length by omega, rkp_end] at e1
  obtain ⟨t2, e2⟩ := h2 (6 - (i + 1))
  rw [show i + 1 + (6 - (i + 1)) = 6 by omega] at e2
  have e3 : ∀ n, rkp g n 0 = (List.range n).flatMap (rkF g) := fun n => by unfold rkp; simp
  rw [e3] at e1
  refine ⟨t1 ++ t2, ?_⟩
  rw [← rkp_6, e3, e2, e1, List.append_assoc]
/-- the next code and the bits ahead of it, behind a row -/
def cst (g : Lg) : Nat → Nat → List Nat → Nat × Nat
  | c, b, [] => (c, b)
  | c, b, o :: t => cst g (c * 2 ^ (bit g o - b) + 1) (bit g o) t
theorem cst_app (g : Lg) : ∀ (l t : List Nat) (c b : Nat), cst g c b (l ++ t) = cst g (cst g c b l).1 (cst g c b l).2 t
  | [], t, c, b => rfl
  | o :: l, t, c, b => cst_app g l t _ _
theorem cds_app (g : Lg) : ∀ (l t : List Nat) (c b : Nat), cds g c b (l ++ t) = cds g c b l ++ cds g (cst g c b l).1 (cst g c b l).2 t
  | [], t, c, b => rfl
  | o :: l, t, c, b => by
    show _ :: cds g _ _ (l ++ t) = _
    rw [cds_app g l t]
    rfl
theorem cds_len (g : Lg) : ∀ (l : List Nat) (c b : Nat), (cds g c b l).length = l.length
  | [], _, _ => rfl
  | o :: l, c, b => by
    show (cds g _ _ l).length + 1 = _
    rw [cds_len g l]
    rfl
theorem cst_kraft {g : Lg} (hg : LV g) : ∀ (l t : List Nat) (c b : Nat), c * 2 ^ (6 - b) + wsum g (l ++ t) ≤ 64 → b ≤ 6 → (∀ o ∈ l ++ t, b ≤ bit g o) → (l ++ t).Pairwise (fun x y => bit g x ≤ bit g y) → (cst g c b l).1 * 2 ^ (6 - (cst g c b l).2) + wsum g t ≤ 64 ∧ (cst g c b l).2 ≤ 6 ∧ ∀ o ∈ t, (cst g c b l).2 ≤ bit g o
  | [], t, c, b, h, hb, hs, _ => ⟨h, hb, hs⟩
  | o :: l, t, c, b, h, hb, hs, hp => by
    have hbo := bit_pos hg o
    have hbb := hs o List.mem_cons_self
    have hpw : 2 ^ (bit g o - b) * 2 ^ (6 - bit g o) = 2 ^ (6 - b) := by rw [← Nat.pow_add]; congr 1; omega
    have hv : (c * 2 ^ (bit g o - b)) * 2 ^ (6 - bit g o) = c * 2 ^ (6 - b) := by rw [Nat.mul_assoc, hpw]
    have hw : wsum g (o :: (l ++ t)) = 2 ^ (6 - bit g o) + wsum g (l ++ t) := by simp [wsum]
    have h2 : wsum g (o :: l ++ t) = 2 ^ (6 - bit g o) + wsum g (l ++ t) := hw
    exact cst_kraft hg l t (c * 2 ^ (bit g o - b) + 1) (bit g o) (by rw [Nat.add_mul, Nat.one_mul, hv]; omega) hbo.2 (List.pairwise_cons.mp hp).1 (List.pairwise_cons.mp hp).2
/-- the first one's bits -/
def fb (g : Lg) : Nat := bit g ((rkf g).getD 0 0)
theorem cd_at {g : Lg} {l t : List Nat} {o : Nat} (h : rkf g = l ++ o :: t) : cd g o = (cst g 0 (fb g) l).1 * 2 ^ (bit g o - (cst g 0 (fb g) l).2) := by
  have hno : o ∉ l := nodup_split (by rw [← h]; exact rkf_nodup g)
  have hix : (rkf g).idxOf o = l.length := by rw [h, List.idxOf_append, if_neg hno]; simp
  unfold cd cdl
  rw [hix]
  show (cds g 0 (fb g) (rkf g)).getD l.length 0 = _
  rw [h, cds_app, List.getD_eq_getElem?_getD, List.getElem?_append_right (by rw [cds_len]; exact Nat.le_refl _), cds_len, Nat.sub_self]
  rfl
theorem cst_bound {g : Lg} (hg : LV g) {l t : List Nat} (h : rkf g = l ++ t) : (cst g 0 (fb g) l).1 * 2 ^ (6 - (cst g 0 (fb g) l).2) + wsum g t ≤ 64 ∧ (cst g 0 (fb g) l).2 ≤ 6 ∧ ∀ o ∈ t, (cst g 0 (fb g) l).2 ≤ bit g o := by
  have hk := rkf_kraft hg
  have hso := rkf_sorted g
  have hmin : ∀ x ∈ rkf g, fb g ≤ bit g x := fun x hx => by
    unfold fb
    cases hk : rkf g with
    | nil => rw [hk] at hx; cases hx
    | cons y t =>
      rw [hk] at hx hso
      rcases List.mem_cons.mp hx with e | e
      · rw [e]; exact Nat.le_refl _
      · exact (List.pairwise_cons.mp hso).1 x e
  have hb6 : fb g ≤ 6 := (bit_pos hg _).2
  exact cst_kraft hg l t 0 (fb g) (by rw [← h, Nat.zero_mul, Nat.zero_add]; exact hk) hb6 (by rw [← h]; exact hmin) (by rw [← h]; exact hso)
def CI (g : Lg) (l : List Nat) (c b : Nat) : Prop := (l = [] ∧ c = 0 ∧ b = 0) ∨ (l ≠ [] ∧ cst g 0 (fb g) l = (c + 1, b))
def MB (S : St) (k : Nat) (g : Lg) : Prop := S.1 152 k = zI g.2.length ∧ ∀ o, o < g.1.length → S.1 147 (12 * k + o) = zI (bit g o)
/-- codes and order of a row are there -/
def MR (S : St) (k : Nat) (g : Lg) (l : List Nat) : Prop := Held (S.1 149) (12 * k) l ∧ ∀ o ∈ l, S.1 148 (12 * k + o) = zI (cd g o)
def gcP (k c p : Nat) : Prop := (c = 148 ∨ c = 149) ∧ 12 * k ≤ p ∧ p < 12 * k + 12
theorem MB.same {P : Nat → Nat → Prop} {S S2 : St} {k : Nat} {g : Lg} (h : MB S k g) (hs : Same P S S2) (h1 : ∀ p, ¬ P 152 p) (h2 : ∀ p, ¬ P 147 p) : MB S2 k g := ⟨by rw [hs.row h1]; exact h.1, by rw [hs.row h2]; exact h.2⟩
theorem gc_write {S : St} {k j : Nat} {g : Lg} {l : List Nat} (hl : l.length < 12) (hj : j < 12) (hr : MR S k g l) (hno : j ∉ l) : MR (wI (wI S 148 (12 * k + j) (zI (cd g j))) 149 (12 * k + l.length) (zI j)) k g (l ++ [j]) ∧ Same (gcP k) S (wI (wI S 148 (12 * k + j) (zI (cd g j))) 149 (12 * k + l.length) (zI j)) := by
  refine ⟨⟨fun i y hi => ?_, fun o ho => ?_⟩, (Same.rfl'.wI ⟨Or.inl rfl, by omega, by omega⟩).wI ⟨Or.inr rfl, by omega, by omega⟩⟩
  · have hlt : i < l.length + 1 := by
      have := (List.getElem?_eq_some_iff.mp hi).1
      simpa using this
    by_cases e : i = l.length
    · subst e
      have : y = j := by simpa [eq_comm] using hi
      rw [rd_same, this]
    · rw [List.getElem?_append_left (by omega)] at hi
      rw [rd_ne (by omega), rd_ne (by omega)]
      exact hr.1 i y hi
  · rw [rd_ne (by omega)]
    by_cases e : o = j
    · rw [e, rd_same]
    · rw [rd_ne (by omega)]
      rcases List.mem_append.mp ho with ho | ho
      · exact hr.2 o ho
      · exact absurd (List.mem_singleton.mp ho) e
theorem f12_gc_in {N b i k : Nat} {g : Lg} (hg : LV g) (hb : b = i + 1) (hi : i < 6) (hk : k < 6) (k10 : Int32 → Int32 → Int32 → Int32 → St → Option (Unit × St)) : ∀ (m j n c' b' : Nat) (S : St), MB S k g → MR S k g (rkp g i j) → CI g (rkp g i j) c' b' → j + m = g.1.length → m < n →
    ∃ S2 c2 b2, f12_giveCodes_h20 N (zI k) (zI b) k10 n (zI (rkp g i j).length) (zI c') (zI b') (zI j) S = k10 (zI (rkp g (i + 1) 0).length) (zI (c2 : Nat)) (zI (b2 : Nat)) (zI ((b : Int) + 1)) S2 ∧ MR S2 k g (rkp g (i + 1) 0) ∧ CI g (rkp g (i + 1) 0) c2 b2 ∧ Same (gcP k) S S2 := by
  have hgl := hg.len
  intro m
  induction m with
  | zero =>
    intro j n c' b' S hc hh hq hj hn
    obtain ⟨n, rfl⟩ : ∃ z, n = z + 1 := ⟨n - 1, by omega⟩
    obtain rfl : j = g.1.length := by omega
    rw [rkp_end] at hh hq ⊢
    refine ⟨S, c', b', ?_, hh, hq, Same.rfl'⟩
    rw [f12_giveCodes_h20]
    simp (disch := omega) only [f12_ordersOf_in hc.1 hg hk, nI_z, zI_add, zI_sub, zI_mul, zI_m1, ckI_z, zI_clamp, Int.toNat_natCast, bnd_some, lt, rd_same, rd_ne, rdL_same, rdL_ne, wI_2, wL_1, if_true, if_false, iT_lt, iF_lt, iT_lt0, iF_lt0, iT_0lt, iF_0lt, iT_le, iF_le, iT_le0, iF_le0, iT_0le, iF_0le, iT_eq, iF_eq, iT_eq0, iF_eq0]
    rfl
  | succ m ih =>
    intro j n c' b' S hc hh hq hj hn
    obtain ⟨n, rfl⟩ : ∃ z, n = z + 1 := ⟨n - 1, by omega⟩
    have h2 := hc.2 j (by omega)
    have hbb := bit_pos hg j
    have hlen := rkp_len hg hi (j := j + 1) (by omega)
    rw [f12_giveCodes_h20]
    by_cases e : bit g j = i + 1
    · have hx := rkp_in e
      rw [hx, List.length_append, List.length_singleton] at hlen
      obtain ⟨t, ht⟩ := rkp_pre hg hi (j := j + 1) (by omega)
      rw [hx, List.append_assoc] at ht
      have ht2 : rkf g = rkp g i j ++ j :: t := ht
      have hcd := cd_at ht2
      have hno : j ∉ rkp g i j := nodup_split (by rw [← ht2]; exact rkf_nodup g)
      obtain ⟨w1, w2, w3⟩ := cst_bound hg ht2
      have w4 := w3 j List.mem_cons_self
      have hnew : cst g 0 (fb g) (rkp g i j ++ [j]) = (cd g j + 1, bit g j) := by rw [cst_app, hcd]; rfl
      obtain ⟨g1, g2⟩ := gc_write (k := k) (by omega) (by omega) hh hno
      obtain ⟨S2, c2, b2, f1, f2, f3, f4⟩ := ih (j + 1) n (cd g j) (bit g j) _ (hc.same g2 (fun p h => by unfold gcP at h; omega) (fun p h => by unfold gcP at h; omega)) (by rw [hx]; exact g1) (by rw [hx]; exact Or.inr ⟨by simp, hnew⟩) (by omega) (by omega)
      refine ⟨S2, c2, b2, ?_, f2, f3, g2.tr f4⟩
      rw [hx, List.length_append, List.length_singleton] at f1
      have hbj : bit g j = b := by omega
      rw [hbj] at f1 h2
      rcases hq with ⟨q1, q2, q3⟩ | ⟨q1, q2⟩
      · rw [q1] at hcd f1 ⊢
        have hc0 : cd g j = 0 := by rw [hcd]; exact Nat.zero_mul _
        rw [hc0] at f1
        simp (disch := omega) only [f12_ordersOf_in hc.1 hg hk, pl12, h2, List.length_nil, f12_giveCodes_j64, nI_z, zI_add, zI_sub, zI_mul, zI_m1, ckI_z, zI_clamp, Int.toNat_natCast, bnd_some, lt, rd_same, rd_ne, rdL_same, rdL_ne, wI_2, wL_1, if_true, if_false, iT_lt, iF_lt, iT_lt0, iF_lt0, iT_0lt, iF_0lt, iT_le, iF_le, iT_le0, iF_le0, iT_0le, iF_0le, iT_eq, iF_eq, iT_eq0, iF_eq0]
        exact f1
      · rw [q2] at hcd w1 w2 w4
        have hl0 : 0 < (rkp g i j).length := List.length_pos_iff.mpr q1
        have hpw : 2 ^ (bit g j - b') * 2 ^ (6 - bit g j) = 2 ^ (6 - b') := by rw [← Nat.pow_add]; congr 1; omega
        have hv : ((c' + 1) * 2 ^ (bit g j - b')) * 2 ^ (6 - bit g j) = (c' + 1) * 2 ^ (6 - b') := by rw [Nat.mul_assoc, hpw]
        have hv2 : (c' + 1) * 2 ^ (bit g j - b') ≤ ((c' + 1) * 2 ^ (bit g j - b')) * 2 ^ (6 - bit g j) := Nat.le_mul_of_pos_right _ Nat.one_le_two_pow
        have w1' : (c' + 1) * 2 ^ (6 - b') + wsum g (j :: t) ≤ 64 := w1
        have hsh := zI_shl (c := c' + 1) (s := bit g j - b') (by omega) (by omega)
        rw [← hcd, hbj, show (((b - b' : Nat)) : Int) = (b : Int) - (b' : Int) by omega, show ((c' + 1 : Nat) : Int) = (c' : Int) + ((1 : Nat) : Int) from rfl] at hsh
        simp (disch := omega) only [f12_ordersOf_in hc.1 hg hk, pl12, h2, f12_giveCodes_j64, hsh, nI_z, zI_add, zI_sub, zI_mul, zI_m1, ckI_z, zI_clamp, Int.toNat_natCast, bnd_some, lt, rd_same, rd_ne, rdL_same, rdL_ne, wI_2, wL_1, if_true, if_false, iT_lt, iF_lt, iT_lt0, iF_lt0, iT_0lt, iF_0lt, iT_le, iF_le, iT_le0, iF_le0, iT_0le, iF_0le, iT_eq, iF_eq, iT_eq0, iF_eq0]
        exact f1
    · have hx := rkp_out e
      obtain ⟨S2, c2, b2, f1, f2, f3, f4⟩ := ih (j + 1) n c' b' S hc (by rw [hx]; exact hh) (by rw [hx]; exact hq) (by omega) (by omega)
      refine ⟨S2, c2, b2, ?_, f2, f3, f4⟩
      rw [hx] at f1
      simp (disch := omega) only [f12_ordersOf_in hc.1 hg hk, pl12, h2, nI_z, zI_add, zI_sub, zI_mul, zI_m1, ckI_z, zI_clamp, Int.toNat_natCast, bnd_some, lt, rd_same, rd_ne, rdL_same, rdL_ne, wI_2, wL_1, if_true, if_false, iT_lt, iF_lt, iT_lt0, iF_lt0, iT_0lt, iF_0lt, iT_le, iF_le, iT_le0, iF_le0, iT_0le, iF_0le, iT_eq, iF_eq, iT_eq0, iF_eq0]
      exact f1
theorem f12_gc_up {N k : Nat} {g : Lg} (hg : LV g) (hk : k < 6) (hN : 13 ≤ N) : ∀ (m i n c' b' : Nat) (S : St), MB S k g → MR S k g (rkp g i 0) → CI g (rkp g i 0) c' b' → i + m = 6 → m < n →
    ∃ S2, f12_giveCodes_h10 N (zI k) n (zI (rkp g i 0).length) (zI c') (zI b') (zI ((i : Int) + 1)) S = some ((), S2) ∧ MR S2 k g (rkf g) ∧ Same (gcP k) S S2 := by
  have hgl := hg.len
  intro m
  induction m with
  | zero =>
    intro i n c' b' S hc hh hq hi hn
    obtain ⟨n, rfl⟩ : ∃ z, n = z + 1 := ⟨n - 1, by omega⟩
    obtain rfl : i = 6 := by omega
    refine ⟨S, ?_, by rw [← rkp_6]; exact hh, Same.rfl'⟩
    rw [f12_giveCodes_h10]
    simp (disch := omega) only [nI_z, zI_add, zI_sub, zI_mul, zI_m1, ckI_z, zI_clamp, Int.toNat_natCast, bnd_some, lt, rd_same, rd_ne, rdL_same, rdL_ne, wI_2, wL_1, if_true, if_false, iT_lt, iF_lt, iT_lt0, iF_lt0, iT_0lt, iF_0lt, iT_le, iF_le, iT_le0, iF_le0, iT_0le, iF_0le, iT_eq, iF_eq, iT_eq0, iF_eq0]
  | succ m ih =>
    intro i n c' b' S hc hh hq hi hn
    obtain ⟨n, rfl⟩ : ∃ z, n = z + 1 := ⟨n - 1, by omega⟩
    obtain ⟨S2, c2, b2, e1, e2, e3, e4⟩ := f12_gc_in (N := N) (b := i + 1) hg rfl (by omega) hk (f12_giveCodes_h10 N (zI k) n) g.1.length 0 N c' b' S hc hh hq (by omega) (by omega)
    obtain ⟨S3, f1, f2, f3⟩ := ih (i + 1) n c2 b2 S2 (hc.same e4 (fun p h => by unfold gcP at h; omega) (fun p h => by unfold gcP at h; omega)) e2 e3 (by omega) (by omega)
    refine ⟨S3, ?_, f2, e4.tr f3⟩
    rw [f12_giveCodes_h10]
    rw [show ((i + 1 : Nat) : Int) = (i : Int) + 1 from rfl] at e1 f1
    simp (disch := omega) only [nI_z, zI_add, zI_sub, zI_mul, zI_m1, ckI_z, zI_clamp, Int.toNat_natCast, bnd_some, lt, rd_same, rd_ne, rdL_same, rdL_ne, wI_2, wL_1, if_true, if_false, iT_lt, iF_lt, iT_lt0, iF_lt0, iT_0lt, iF_0lt, iT_le, iF_le, iT_le0, iF_le0, iT_0le, iF_0le, iT_eq, iF_eq, iT_eq0, iF_eq0]
    rw [e1]
    exact f1
theorem f12_gc_ok {N k : Nat} {g : Lg} {S : St} (hg : LV g) (hk : k < 6) (hN : 13 ≤ N) (hc : MB S k g) : ∃ S2, f12_giveCodes N (zI k) S = some ((), S2) ∧ MR S2 k g (rkf g) ∧ Same (gcP k) S S2 := by
  obtain ⟨S2, e1, e2, e3⟩ := f12_gc_up (N := N) hg hk hN 6 0 N 0 0 S hc ⟨fun i x h => (by simp [rkp] at h), fun o h => (by simp [rkp] at h)⟩ (Or.inl ⟨by simp [rkp], rfl, rfl⟩) (by omega) (by omega)
  exact ⟨S2, e1, e2, e3⟩
