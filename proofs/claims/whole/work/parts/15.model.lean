/-! What the reference holds of a LANGUAGE; its codes. -/
def ML (S : St) (i : Nat) (g : Lg) : Prop :=
  S.1 152 i = zI g.2.length ∧ (∀ o, o < g.1.length → S.1 147 (12 * i + o) = zI (bit g o)) ∧ (∀ o, o < g.1.length → S.1 148 (12 * i + o) = zI (cd g o)) ∧ Held (S.1 149) (12 * i) (rkf g) ∧
  ∀ j q, g.2[j]? = some q → S.1 151 (4 * i + j) = zI q.length ∧ Held (S.1 150) (4 * (4 * i + j)) q
theorem pl12 (i j : Nat) : (((12 : Nat) : Int) * (i : Int) + (j : Int)).toNat = 12 * i + j := by omega
theorem f12_ordersOf_in {S : St} {i : Nat} {g : Lg} (h : S.1 152 i = zI g.2.length) (hg : LV g) (hi : i < 6) : f12_ordersOf (zI i) S = some (zI g.1.length, S) := by
  have h1 := hg.1
  have h2 := hg.2.1
  unfold f12_ordersOf
  simp (disch := omega) only [h, nI_z, zI_add, zI_sub, zI_mul, zI_m1, ckI_z, zI_clamp, Int.toNat_natCast, bnd_some, lt, rd_same, rd_ne, rdL_same, rdL_ne, wI_2, wL_1, if_true, if_false, iT_lt, iF_lt, iT_lt0, iF_lt0, iT_0lt, iF_0lt, iT_le, iF_le, iT_le0, iF_le0, iT_0le, iF_0le, iT_eq, iF_eq, iT_eq0, iF_eq0]
  rw [h1]
  rfl
theorem rkp_pre {g : Lg} (hg : LV g) {i j : Nat} (hi : i < 6) (hj : j ≤ g.1.length) : ∃ t, rkf g = rkp g i j ++ t := by
  have h1 : ∀ k, ∃ t, rkp g i (j + k) = rkp g i j ++ t := fun k => by
    induction k with
    | zero => exact ⟨[], by simp⟩
    | succ k ih =>
      obtain ⟨t, ht⟩ := ih
      by_cases e : bit g (j + k) = i + 1
      · exact ⟨t ++ [j + k], by rw [← Nat.add_assoc, rkp_in e, ht, List.append_assoc]⟩
      · exact ⟨t, by rw [← Nat.add_assoc, rkp_out e, ht]⟩
  have h2 : ∀ k, ∃ t, (List.range (i + 1 + k)).flatMap (rkF g) = (List.range (i + 1)).flatMap (rkF g) ++ t := fun k => by
    induction k with
    | zero => exact ⟨[], by simp⟩
    | succ k ih =>
      obtain ⟨t, ht⟩ := ih
      exact ⟨t ++ rkF g (i + 1 + k), by rw [← Nat.add_assoc, List.range_succ, List.flatMap_append, ht, List.append_assoc]; simp⟩
  obtain ⟨t1, e1⟩ := h1 (g.1.length - j)
  rw [show j + (g.1.length - j) = g.1.length by omega, rkp_end] at e1
  obtain ⟨t2, e2⟩ := h2 (6 - (i + 1))
  rw [show i + 1 + (6 - (i + 1)) = 6 by omega] at e2
  have e3 : ∀ n, rkp g n 0 = (List.range n).flatMap (rkF g) := fun n => by unfold rkp; simp
  rw [e3] at e1
  refine ⟨t1 ++ t2, ?_⟩
  rw [← rkp_6, e3, e2, e1, List.append_assoc]
/-- the next code and the bits ahead of it, behind a row -/
def cst (g : Lg) : Nat → Nat → List Nat → Nat × Nat
  | c, b, [] => (c, b)
  | c, b, o :: t => cst g (c * 2 ^ (bit g o - b) + 1) (bit g o) t
theorem cst_app (g : Lg) : ∀ (l t : List Nat) (c b : Nat), cst g c b (l ++ t) = cst g (cst g c b l).1 (cst g c b l).2 t
  | [], t, c, b => rfl
  | o :: l, t, c, b => cst_app g l t _ _
theorem cds_app (g : Lg) : ∀ (l t : List Nat) (c b : Nat), cds g c b (l ++ t) = cds g c b l ++ cds g (cst g c b l).1 (cst g c b l).2 t
  | [], t, c, b => rfl
  | o :: l, t, c, b => by
    show _ :: cds g _ _ (l ++ t) = _
    rw [cds_app g l t]
    rfl
theorem cds_len (g : Lg) : ∀ (l : List Nat) (c b : Nat), (cds g c b l).length = l.length
  | [], _, _ => rfl
  | o :: l, c, b => by
    show (cds g _ _ l).length + 1 = _
    rw [cds_len g l]
    rfl
theorem cst_kraft {g : Lg} (hg : LV g) : ∀ (l t : List Nat) (c b : Nat), c * 2 ^ (6 - b) + wsum g (l ++ t) ≤ 64 → b ≤ 6 → (∀ o ∈ l ++ t, b ≤ bit g o) → (l ++ t).Pairwise (fun x y => bit g x ≤ bit g y) → (cst g c b l).1 * 2 ^ (6 - (cst g c b l).2) + wsum g t ≤ 64 ∧ (cst g c b l).2 ≤ 6 ∧ ∀ o ∈ t, (cst g c b l).2 ≤ bit g o
  | [], t, c, b, h, hb, hs, _ => ⟨h, hb, hs⟩
  | o :: l, t, c, b, h, hb, hs, hp => by
    have hbo := bit_pos hg o
    have hbb := hs o List.mem_cons_self
    have hpw : 2 ^ (bit g o - b) * 2 ^ (6 - bit g o) = 2 ^ (6 - b) := by rw [← Nat.pow_add]; congr 1; omega
    have hv : (c * 2 ^ (bit g o - b)) * 2 ^ (6 - bit g o) = c * 2 ^ (6 - b) := by rw [Nat.mul_assoc, hpw]
    have hw : wsum g (o :: (l ++ t)) = 2 ^ (6 - bit g o) + wsum g (l ++ t) := by simp [wsum]
    have h2 : wsum g (o :: l ++ t) = 2 ^ (6 - bit g o) + wsum g (l ++ t) := hw
    exact cst_kraft hg l t (c * 2 ^ (bit g o - b) + 1) (bit g o) (by rw [Nat.add_mul, Nat.one_mul, hv]; omega) hbo.2 (List.pairwise_cons.mp hp).1 (List.pairwise_cons.mp hp).2
/-- the first one's bits -/
def fb (g : Lg) : Nat := bit g ((rkf g).getD 0 0)
theorem cd_at {g : Lg} {l t : List Nat} {o : Nat} (h : rkf g = l ++ o :: t) : cd g o = (cst g 0 (fb g) l).1 * 2 ^ (bit g o - (cst g 0 (fb g) l).2) := by
  have hno : o ∉ l := nodup_split (by rw [← h]; exact rkf_nodup g)
  have hix : (rkf g).idxOf o = l.length := by rw [h, List.idxOf_append, if_neg hno]; simp
  unfold cd cdl
  rw [hix]
  show (cds g 0 (fb g) (rkf g)).getD l.length 0 = _
  rw [h, cds_app, List.getD_eq_getElem?_getD, List.getElem?_append_right (by rw [cds_len]; exact Nat.le_refl _), cds_len, Nat.sub_self]
  rfl
theorem cst_bound {g : Lg} (hg : LV g) {l t : List Nat} (h : rkf g = l ++ t) : (cst g 0 (fb g) l).1 * 2 ^ (6 - (cst g 0 (fb g) l).2) + wsum g t ≤ 64 ∧ (cst g 0 (fb g) l).2 ≤ 6 ∧ ∀ o ∈ t, (cst g 0 (fb g) l).2 ≤ bit g o := by
  have hk := rkf_kraft hg
  have hso := rkf_sorted g
  have hmin : ∀ x ∈ rkf g, fb g ≤ bit g x := fun x hx => by
    unfold fb
    cases hk : rkf g with
    | nil => rw [hk] at hx; cases hx
    | cons y t =>
      rw [hk] at hx hso
      rcases List.mem_cons.mp hx with e | e
      · rw [e]; exact Nat.le_refl _
      · exact (List.pairwise_cons.mp hso).1 x e
  have hb6 : fb g ≤ 6 := (bit_pos hg _).2
  exact cst_kraft hg l t 0 (fb g) (by rw [← h, Nat.zero_mul, Nat.zero_add]; exact hk) hb6 (by rw [← h]; exact hmin) (by rw [← h]; exact hso)
