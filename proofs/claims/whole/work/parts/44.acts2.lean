/-! ACTS on the reference's side; the calls act and trace. -/
def AM (S : St) (E : Ae) (B : List Nat) : Prop := (E.1 < 12 ∧ E.2.1 ≤ 6 ∧ 1 ≤ E.2.2 ∧ E.2.2 ≤ 6) ∧ S.1 146 57 = zI B.length ∧ (∀ (i b : Nat), i < 24 → B[i]? = some b → S.1 169 i = zI b) ∧ S.1 146 58 = zI E.1 ∧ S.1 146 59 = zI E.2.1 ∧ S.1 146 60 = zI E.2.2
def amP (c k : Nat) : Prop := (c = 146 ∧ k = 57) ∨ c = 169
theorem ran_m {b : Nat} {S : St} {E : Ae} {B : List Nat} (h : AM S E B) (hB : B.length ≤ 1000) : ∃ S2, f12_ranBody (zI b) S = some ((), S2) ∧ AM S2 E (B ++ [b]) ∧ Same amP S S2 := by
  obtain ⟨h0, h1, h2, h3, h4, h5⟩ := h
  have hll : (B ++ [b]).length = B.length + 1 := by simp
  have hlast : ∀ (i y : Nat), i < 24 → (B ++ [b])[i]? = some y → (i < B.length ∧ B[i]? = some y) ∨ (i = B.length ∧ y = b) := fun i y _ hy => by
    have hl := (List.getElem?_eq_some_iff.mp hy).1
    rw [hll] at hl
    by_cases e : i = B.length
    · right
      subst e
      exact ⟨rfl, by simpa [eq_comm] using hy⟩
    · left
      rw [List.getElem?_append_left (by omega)] at hy
      exact ⟨by omega, hy⟩
  unfold f12_ranBody
  by_cases e : 24 ≤ B.length
  · have hs : Same amP S (wI S 146 57 (zI ((B.length : Int) + ((1 : Nat) : Int)))) := (Same.rfl' (P := amP)).wI (by unfold amP; omega)
    refine ⟨wI S 146 57 (zI ((B.length : Int) + ((1 : Nat) : Int))), ?_, ⟨h0, by rw [hll]; simp (disch := omega) only [nI_z, zI_add, zI_sub, zI_mul, zI_m1, ckI_z, zI_clamp, Int.toNat_natCast, bnd_some, lt, rd_same, rd_ne, rdL_same, rdL_ne, wI_2, wL_1, if_true, if_false, iT_lt, iF_lt, iT_lt0, iF_lt0, iT_0lt, iF_0lt, iT_le, iF_le, iT_le0, iF_le0, iT_0le, iF_0le, iT_eq, iF_eq, iT_eq0, iF_eq0]; rfl, fun i y hi hy => ?_, by simp (disch := omega) only [h3, nI_z, zI_add, zI_sub, zI_mul, zI_m1, ckI_z, zI_clamp, Int.toNat_natCast, bnd_some, lt, rd_same, rd_ne, rdL_same, rdL_ne, wI_2, wL_1, if_true, if_false, iT_lt, iF_lt, iT_lt0, iF_lt0, iT_0lt, iF_0lt, iT_le, iF_le, iT_le0, iF_le0, iT_0le, iF_0le, iT_eq, iF_eq, iT_eq0, iF_eq0], by simp (disch := omega) only [h4, nI_z, zI_add, zI_sub, zI_mul, zI_m1, ckI_z, zI_clamp, Int.toNat_natCast, bnd_some, lt, rd_same, rd_ne, rdL_same, rdL_ne, wI_2, wL_1, if_true, if_false, iT_lt, iF_lt, iT_lt0, iF_lt0, iT_0lt, iF_0lt, iT_le, iF_le, iT_le0, iF_le0, iT_0le, iF_0le, iT_eq, iF_eq, iT_eq0, iF_eq0], by simp (disch := omega) only [h5, nI_z, zI_add, zI_sub, zI_mul, zI_m1, ckI_z, zI_clamp, Int.toNat_natCast, bnd_some, lt, rd_same, rd_ne, rdL_same, rdL_ne, wI_2, wL_1, if_true, if_false, iT_lt, iF_lt, iT_lt0, iF_lt0, iT_0lt, iF_0lt, iT_le, iF_le, iT_le0, iF_le0, iT_0le, iF_0le, iT_eq, iF_eq, iT_eq0, iF_eq0]⟩, hs⟩
    · simp (disch := omega) only [h1, f12_ranBody_j19, nI_z, zI_add, zI_sub, zI_mul, zI_m1, ckI_z, zI_clamp, Int.toNat_natCast, bnd_some, lt, rd_same, rd_ne, rdL_same, rdL_ne, wI_2, wL_1, if_true, if_false, iT_lt, iF_lt, iT_lt0, iF_lt0, iT_0lt, iF_0lt, iT_le, iF_le, iT_le0, iF_le0, iT_0le, iF_0le, iT_eq, iF_eq, iT_eq0, iF_eq0]
    · rcases hlast i y hi hy with ⟨q1, q2⟩ | ⟨q1, q2⟩
      · simp (disch := omega) only [h2 i y hi q2, nI_z, zI_add, zI_sub, zI_mul, zI_m1, ckI_z, zI_clamp, Int.toNat_natCast, bnd_some, lt, rd_same, rd_ne, rdL_same, rdL_ne, wI_2, wL_1, if_true, if_false, iT_lt, iF_lt, iT_lt0, iF_lt0, iT_0lt, iF_0lt, iT_le, iF_le, iT_le0, iF_le0, iT_0le, iF_0le, iT_eq, iF_eq, iT_eq0, iF_eq0]
      · omega
  · have hs : Same amP S (wI (wI S 169 B.length (zI b)) 146 57 (zI ((B.length : Int) + ((1 : Nat) : Int)))) := (Same.rfl' (P := amP)) |>.wI (by unfold amP; omega) |>.wI (by unfold amP; omega)
    refine ⟨wI (wI S 169 B.length (zI b)) 146 57 (zI ((B.length : Int) + ((1 : Nat) : Int))), ?_, ⟨h0, by rw [hll]; simp (disch := omega) only [nI_z, zI_add, zI_sub, zI_mul, zI_m1, ckI_z, zI_clamp, Int.toNat_natCast, bnd_some, lt, rd_same, rd_ne, rdL_same, rdL_ne, wI_2, wL_1, if_true, if_false, iT_lt, iF_lt, iT_lt0, iF_lt0, iT_0lt, iF_0lt, iT_le, iF_le, iT_le0, iF_le0, iT_0le, iF_0le, iT_eq, iF_eq, iT_eq0, iF_eq0]; rfl, fun i y hi hy => ?_, by simp (disch := omega) only [h3, nI_z, zI_add, zI_sub, zI_mul, zI_m1, ckI_z, zI_clamp, Int.toNat_natCast, bnd_some, lt, rd_same, rd_ne, rdL_same, rdL_ne, wI_2, wL_1, if_true, if_false, iT_lt, iF_lt, iT_lt0, iF_lt0, iT_0lt, iF_0lt, iT_le, iF_le, iT_le0, iF_le0, iT_0le, iF_0le, iT_eq, iF_eq, iT_eq0, iF_eq0], by simp (disch := omega) only [h4, nI_z, zI_add, zI_sub, zI_mul, zI_m1, ckI_z, zI_clamp, Int.toNat_natCast, bnd_some, lt, rd_same, rd_ne, rdL_same, rdL_ne, wI_2, wL_1, if_true, if_false, iT_lt, iF_lt, iT_lt0, iF_lt0, iT_0lt, iF_0lt, iT_le, iF_le, iT_le0, iF_le0, iT_0le, iF_0le, iT_eq, iF_eq, iT_eq0, iF_eq0], by simp (disch := omega) only [h5, nI_z, zI_add, zI_sub, zI_mul, zI_m1, ckI_z, zI_clamp, Int.toNat_natCast, bnd_some, lt, rd_same, rd_ne, rdL_same, rdL_ne, wI_2, wL_1, if_true, if_false, iT_lt, iF_lt, iT_lt0, iF_lt0, iT_0lt, iF_0lt, iT_le, iF_le, iT_le0, iF_le0, iT_0le, iF_0le, iT_eq, iF_eq, iT_eq0, iF_eq0]⟩, hs⟩
    · simp (disch := omega) only [h1, f12_ranBody_j19, nI_z, zI_add, zI_sub, zI_mul, zI_m1, ckI_z, zI_clamp, Int.toNat_natCast, bnd_some, lt, rd_same, rd_ne, rdL_same, rdL_ne, wI_2, wL_1, if_true, if_false, iT_lt, iF_lt, iT_lt0, iF_lt0, iT_0lt, iF_0lt, iT_le, iF_le, iT_le0, iF_le0, iT_0le, iF_0le, iT_eq, iF_eq, iT_eq0, iF_eq0]
    · rcases hlast i y hi hy with ⟨q1, q2⟩ | ⟨q1, q2⟩
      · simp (disch := omega) only [h2 i y hi q2, nI_z, zI_add, zI_sub, zI_mul, zI_m1, ckI_z, zI_clamp, Int.toNat_natCast, bnd_some, lt, rd_same, rd_ne, rdL_same, rdL_ne, wI_2, wL_1, if_true, if_false, iT_lt, iF_lt, iT_lt0, iF_lt0, iT_0lt, iF_0lt, iT_le, iF_le, iT_le0, iF_le0, iT_0le, iF_0le, iT_eq, iF_eq, iT_eq0, iF_eq0]
      · rw [q1, q2]; simp (disch := omega) only [nI_z, zI_add, zI_sub, zI_mul, zI_m1, ckI_z, zI_clamp, Int.toNat_natCast, bnd_some, lt, rd_same, rd_ne, rdL_same, rdL_ne, wI_2, wL_1, if_true, if_false, iT_lt, iF_lt, iT_lt0, iF_lt0, iT_0lt, iF_0lt, iT_le, iF_le, iT_le0, iF_le0, iT_0le, iF_0le, iT_eq, iF_eq, iT_eq0, iF_eq0]
def FM (fn : Nat → Int32 → Int32 → St → Option (Int32 × St)) (E : Ae) (V : Nat → Int32 → Int32) (Bs : Nat → List Nat) (fl bl : Nat) : Prop := ∀ (k f : Nat) (x : Int32) (S : St) (B : List Nat), k ≤ 6 → fl ≤ f → AM S E B → B.length ≤ bl → ∃ S2, fn f (zI k) x S = some (V k x, S2) ∧ AM S2 E (B ++ Bs k) ∧ Same amP S S2
theorem msteps_0 {f : Nat} {x : Int32} {S : St} {E : Ae} {B : List Nat} (h : AM S E B) (hB : B.length ≤ 1000) : ∃ S2, f12_stepsAct (f + 1) (zI ((0 : Nat) : Int)) x S = some (x + zI E.1, S2) ∧ AM S2 E (B ++ [1]) ∧ Same amP S S2 := by
  obtain ⟨S2, a1, a2, a3⟩ := ran_m (b := 1) h hB
  have q := a2.2.2.2.1
  refine ⟨S2, ?_, a2, a3⟩
  show f12_stepsAct_b (f12_stepsAct f) _ _ _ = _
  unfold f12_stepsAct_b
  simp (disch := omega) only [sw_t, sw_f, sw_n, a1, nI_z, zI_add, zI_sub, zI_mul, zI_m1, ckI_z, zI_clamp, Int.toNat_natCast, bnd_some, lt, rd_same, rd_ne, rdL_same, rdL_ne, wI_2, wL_1, if_true, if_false, iT_lt, iF_lt, iT_lt0, iF_lt0, iT_0lt, iF_0lt, iT_le, iF_le, iT_le0, iF_le0, iT_0le, iF_0le, iT_eq, iF_eq, iT_eq0, iF_eq0]
  rw [q]
theorem msteps_2 {f : Nat} {x : Int32} {S : St} {E : Ae} {B : List Nat} (h : AM S E B) (hB : B.length ≤ 950) : ∃ S2, f12_stepsAct (f + 2) (zI ((2 : Nat) : Int)) x S = some ((x + zI E.1) + zI ((1 : Nat) : Int), S2) ∧ AM S2 E (B ++ [30, 1]) ∧ Same amP S S2 := by
  obtain ⟨S2, a1, a2, a3⟩ := ran_m (b := 30) h (by omega)
  obtain ⟨S3, b1, b2, b3⟩ := msteps_0 (f := f) (x := x) a2 (by simp; omega)
  have hab : abN 2 = 0 := rfl
  refine ⟨S3, ?_, by simpa using b2, a3.tr b3⟩
  show f12_stepsAct_b (f12_stepsAct (f + 1)) _ _ _ = _
  unfold f12_stepsAct_b
  simp (disch := omega) only [sw_t, sw_f, sw_n, a1, ab_m, hab, b1, nI_z, zI_add, zI_sub, zI_mul, zI_m1, ckI_z, zI_clamp, Int.toNat_natCast, bnd_some, lt, rd_same, rd_ne, rdL_same, rdL_ne, wI_2, wL_1, if_true, if_false, iT_lt, iF_lt, iT_lt0, iF_lt0, iT_0lt, iF_0lt, iT_le, iF_le, iT_le0, iF_le0, iT_0le, iF_0le, iT_eq, iF_eq, iT_eq0, iF_eq0]
theorem msteps_5 {f k : Nat} {x : Int32} {S : St} {E : Ae} {B : List Nat} (hk : k = 1 ∨ k = 5) (h : AM S E B) (hB : B.length ≤ 950) : ∃ S2, f12_stepsAct (f + 2) (zI k) x S = some (x + zI E.1, S2) ∧ AM S2 E (B ++ [1]) ∧ Same amP S S2 := by
  obtain ⟨S3, b1, b2, b3⟩ := msteps_0 (f := f) (x := x) h (by omega)
  have hab : abN k = 0 := by rcases hk with rfl | rfl <;> rfl
  refine ⟨S3, ?_, b2, b3⟩
  show f12_stepsAct_b (f12_stepsAct (f + 1)) _ _ _ = _
  unfold f12_stepsAct_b
  simp (disch := omega) only [sw_t, sw_f, sw_n, ab_m, hab, b1, nI_z, zI_add, zI_sub, zI_mul, zI_m1, ckI_z, zI_clamp, Int.toNat_natCast, bnd_some, lt, rd_same, rd_ne, rdL_same, rdL_ne, wI_2, wL_1, if_true, if_false, iT_lt, iF_lt, iT_lt0, iF_lt0, iT_0lt, iF_0lt, iT_le, iF_le, iT_le0, iF_le0, iT_0le, iF_0le, iT_eq, iF_eq, iT_eq0, iF_eq0]
theorem msteps_all {E : Ae} : FM f12_stepsAct E (stV E.1) stB 3 900 := by
  intro k f x S B hk hf h hB
  obtain ⟨f, rfl⟩ : ∃ z, f = z + 3 := ⟨f - 3, by omega⟩
  unfold stV stB
  by_cases k6 : k = 6
  · subst k6
    rw [if_pos rfl, if_pos rfl]
    obtain ⟨S2, a1, a2, a3⟩ := ran_m (b := 70) h (by omega)
    obtain ⟨S3, b1, b2, b3⟩ := msteps_5 (f := f) (k := 5) (x := x + zI ((1 : Nat) : Int)) (by omega) a2 (by simp; omega)
    have hab : abN 6 = 5 := rfl
    refine ⟨S3, ?_, by simpa using b2, a3.tr b3⟩
    show f12_stepsAct_b (f12_stepsAct (f + 2)) _ _ _ = _
    unfold f12_stepsAct_b
    simp (disch := omega) only [sw_t, sw_f, sw_n, a1, ab_m, hab, b1, nI_z, zI_add, zI_sub, zI_mul, zI_m1, ckI_z, zI_clamp, Int.toNat_natCast, bnd_some, lt, rd_same, rd_ne, rdL_same, rdL_ne, wI_2, wL_1, if_true, if_false, iT_lt, iF_lt, iT_lt0, iF_lt0, iT_0lt, iF_0lt, iT_le, iF_le, iT_le0, iF_le0, iT_0le, iF_0le, iT_eq, iF_eq, iT_eq0, iF_eq0]
  rw [if_neg k6, if_neg k6]
  by_cases k2 : k = 2 ∨ k = 3 ∨ k = 4
  · rw [if_pos k2, if_pos k2]
    by_cases k22 : k = 2
    · subst k22
      exact msteps_2 (f := f + 1) h (by omega)
    · obtain ⟨S3, b1, b2, b3⟩ := msteps_2 (f := f) (x := x) h (by omega)
      have hab : abN k = 2 := by
        have : k = 3 ∨ k = 4 := by omega
        rcases this with rfl | rfl <;> rfl
      refine ⟨S3, ?_, b2, b3⟩
      show f12_stepsAct_b (f12_stepsAct (f + 2)) _ _ _ = _
      unfold f12_stepsAct_b
      simp (disch := omega) only [sw_t, sw_f, sw_n, ab_m, hab, b1, nI_z, zI_add, zI_sub, zI_mul, zI_m1, ckI_z, zI_clamp, Int.toNat_natCast, bnd_some, lt, rd_same, rd_ne, rdL_same, rdL_ne, wI_2, wL_1, if_true, if_false, iT_lt, iF_lt, iT_lt0, iF_lt0, iT_0lt, iF_0lt, iT_le, iF_le, iT_le0, iF_le0, iT_0le, iF_0le, iT_eq, iF_eq, iT_eq0, iF_eq0]
  · rw [if_neg k2, if_neg k2]
    by_cases k0 : k = 0
    · subst k0
      exact msteps_0 (f := f + 2) h (by omega)
    · exact msteps_5 (f := f + 1) (by omega) h (by omega)
theorem mcosts_0 {f : Nat} {x : Int32} {S : St} {E : Ae} {B : List Nat} (h : AM S E B) (hB : B.length ≤ 850) : ∃ S2, f12_costs (f + 1) (zI ((0 : Nat) : Int)) x S = some (stV E.1 E.2.2 x * zI E.2.1, S2) ∧ AM S2 E (B ++ ([10] ++ stB E.2.2)) ∧ Same amP S S2 := by
  obtain ⟨S2, a1, a2, a3⟩ := ran_m (b := 10) h (by omega)
  have h0 := h.1
  obtain ⟨S3, b1, b2, b3⟩ := msteps_all (E := E) E.2.2 6 x S2 _ (by omega) (by omega) a2 (by simp; omega)
  have q2 := a2.2.2.2.2.2
  have q4 := b2.2.2.2.2.1
  refine ⟨S3, ?_, by simpa using b2, a3.tr b3⟩
  show f12_costs_b (f12_costs f) _ _ _ = _
  unfold f12_costs_b
  simp (disch := omega) only [sw_t, sw_f, sw_n, a1, q2, b1, nI_z, zI_add, zI_sub, zI_mul, zI_m1, ckI_z, zI_clamp, Int.toNat_natCast, bnd_some, lt, rd_same, rd_ne, rdL_same, rdL_ne, wI_2, wL_1, if_true, if_false, iT_lt, iF_lt, iT_lt0, iF_lt0, iT_0lt, iF_0lt, iT_le, iF_le, iT_le0, iF_le0, iT_0le, iF_0le, iT_eq, iF_eq, iT_eq0, iF_eq0]
  rw [q4]
theorem mcosts_up {f k : Nat} {x : Int32} {S : St} {E : Ae} {B : List Nat} (hk : k = 1 ∨ k = 2 ∨ k = 5) (h : AM S E B) (hB : B.length ≤ 850) : ∃ S2, f12_costs (f + 2) (zI k) x S = some (stV E.1 E.2.2 x * zI E.2.1, S2) ∧ AM S2 E (B ++ ([10] ++ stB E.2.2)) ∧ Same amP S S2 := by
  obtain ⟨S3, b1, b2, b3⟩ := mcosts_0 (f := f) (x := x) h hB
  have hab : abN k = 0 := by rcases hk with rfl | rfl | rfl <;> rfl
  refine ⟨S3, ?_, b2, b3⟩
  show f12_costs_b (f12_costs (f + 1)) _ _ _ = _
  unfold f12_costs_b
  simp (disch := omega) only [sw_t, sw_f, sw_n, ab_m, hab, b1, nI_z, zI_add, zI_sub, zI_mul, zI_m1, ckI_z, zI_clamp, Int.toNat_natCast, bnd_some, lt, rd_same, rd_ne, rdL_same, rdL_ne, wI_2, wL_1, if_true, if_false, iT_lt, iF_lt, iT_lt0, iF_lt0, iT_0lt, iF_0lt, iT_le, iF_le, iT_le0, iF_le0, iT_0le, iF_0le, iT_eq, iF_eq, iT_eq0, iF_eq0]
theorem mcosts_all {E : Ae} : FM f12_costs E (coV E) (coB E) 4 800 := by
  intro k f x S B hk hf h hB
  obtain ⟨f, rfl⟩ : ∃ z, f = z + 3 := ⟨f - 3, by omega⟩
  have h0 := h.1
  unfold coV coB
  by_cases k3 : k = 3
  · subst k3
    rw [if_pos rfl, if_pos rfl]
    obtain ⟨S2, a1, a2, a3⟩ := ran_m (b := 40) h (by omega)
    obtain ⟨S3, b1, b2, b3⟩ := mcosts_up (f := f) (k := 2) (x := x) (by omega) a2 (by simp; omega)
    have hst := stB_len E.2.2
    obtain ⟨S4, c1, c2, c3⟩ := msteps_all (E := E) E.2.2 6 (zI ((2 : Nat) : Int)) S3 _ (by omega) (by omega) b2 (by simp; omega)
    have hab : abN 3 = 2 := rfl
    have q2 := b2.2.2.2.2.2
    refine ⟨S4, ?_, by simpa using c2, (a3.tr b3).tr c3⟩
    show f12_costs_b (f12_costs (f + 2)) _ _ _ = _
    unfold f12_costs_b
    simp (disch := omega) only [sw_t, sw_f, sw_n, a1, ab_m, hab, b1, q2, c1, nI_z, zI_add, zI_sub, zI_mul, zI_m1, ckI_z, zI_clamp, Int.toNat_natCast, bnd_some, lt, rd_same, rd_ne, rdL_same, rdL_ne, wI_2, wL_1, if_true, if_false, iT_lt, iF_lt, iT_lt0, iF_lt0, iT_0lt, iF_0lt, iT_le, iF_le, iT_le0, iF_le0, iT_0le, iF_0le, iT_eq, iF_eq, iT_eq0, iF_eq0]
  rw [if_neg k3, if_neg k3]
  by_cases k0 : k = 0
  · subst k0
    exact mcosts_0 (f := f + 2) h (by omega)
  by_cases k1 : k = 1 ∨ k = 2 ∨ k = 5
  · exact mcosts_up (f := f + 1) k1 h (by omega)
  · have hab : (k = 4 ∧ abN k = 2) ∨ (k = 6 ∧ abN k = 5) := by
      have : k = 4 ∨ k = 6 := by omega
      rcases this with rfl | rfl
      · exact Or.inl ⟨rfl, rfl⟩
      · exact Or.inr ⟨rfl, rfl⟩
    obtain ⟨S3, b1, b2, b3⟩ := mcosts_up (f := f) (k := abN k) (x := x) (by omega) h (by omega)
    refine ⟨S3, ?_, b2, b3⟩
    show f12_costs_b (f12_costs (f + 2)) _ _ _ = _
    unfold f12_costs_b
    simp (disch := omega) only [sw_t, sw_f, sw_n, ab_m, b1, nI_z, zI_add, zI_sub, zI_mul, zI_m1, ckI_z, zI_clamp, Int.toNat_natCast, bnd_some, lt, rd_same, rd_ne, rdL_same, rdL_ne, wI_2, wL_1, if_true, if_false, iT_lt, iF_lt, iT_lt0, iF_lt0, iT_0lt, iF_0lt, iT_le, iF_le, iT_le0, iF_le0, iT_0le, iF_0le, iT_eq, iF_eq, iT_eq0, iF_eq0]
theorem mgoes_0 {f : Nat} {x : Int32} {S : St} {E : Ae} {B : List Nat} (h : AM S E B) (hB : B.length ≤ 1000) : ∃ S2, f12_goes (f + 1) (zI ((0 : Nat) : Int)) x S = some (x ^^^ zI E.1, S2) ∧ AM S2 E (B ++ [11]) ∧ Same amP S S2 := by
  obtain ⟨S2, a1, a2, a3⟩ := ran_m (b := 11) h hB
  have q := a2.2.2.2.1
  refine ⟨S2, ?_, a2, a3⟩
  show f12_goes_b (f12_goes f) _ _ _ = _
  unfold f12_goes_b
  simp (disch := omega) only [sw_t, sw_f, sw_n, a1, nI_z, zI_add, zI_sub, zI_mul, zI_m1, ckI_z, zI_clamp, Int.toNat_natCast, bnd_some, lt, rd_same, rd_ne, rdL_same, rdL_ne, wI_2, wL_1, if_true, if_false, iT_lt, iF_lt, iT_lt0, iF_lt0, iT_0lt, iF_0lt, iT_le, iF_le, iT_le0, iF_le0, iT_0le, iF_0le, iT_eq, iF_eq, iT_eq0, iF_eq0]
  rw [q]
theorem mgoes_5 {f : Nat} {x : Int32} {S : St} {E : Ae} {B : List Nat} (h : AM S E B) (hB : B.length ≤ 950) : ∃ S2, f12_goes (f + 2) (zI ((5 : Nat) : Int)) x S = some ((x ^^^ zI E.1) * zI ((3 : Nat) : Int), S2) ∧ AM S2 E (B ++ [60, 11]) ∧ Same amP S S2 := by
  obtain ⟨S2, a1, a2, a3⟩ := ran_m (b := 60) h (by omega)
  obtain ⟨S3, b1, b2, b3⟩ := mgoes_0 (f := f) (x := x) a2 (by simp; omega)
  have hab : abN 5 = 0 := rfl
  refine ⟨S3, ?_, by simpa using b2, a3.tr b3⟩
  show f12_goes_b (f12_goes (f + 1)) _ _ _ = _
  unfold f12_goes_b
  simp (disch := omega) only [sw_t, sw_f, sw_n, a1, ab_m, hab, b1, nI_z, zI_add, zI_sub, zI_mul, zI_m1, ckI_z, zI_clamp, Int.toNat_natCast, bnd_some, lt, rd_same, rd_ne, rdL_same, rdL_ne, wI_2, wL_1, if_true, if_false, iT_lt, iF_lt, iT_lt0, iF_lt0, iT_0lt, iF_0lt, iT_le, iF_le, iT_le0, iF_le0, iT_0le, iF_0le, iT_eq, iF_eq, iT_eq0, iF_eq0]
theorem mgoes_2 {f : Nat} {x : Int32} {S : St} {E : Ae} {B : List Nat} (h : AM S E B) (hB : B.length ≤ 950) : ∃ S2, f12_goes (f + 2) (zI ((2 : Nat) : Int)) x S = some (x ^^^ zI E.1, S2) ∧ AM S2 E (B ++ [11]) ∧ Same amP S S2 := by
  obtain ⟨S3, b1, b2, b3⟩ := mgoes_0 (f := f) (x := x) h (by omega)
  have hab : abN 2 = 0 := rfl
  refine ⟨S3, ?_, b2, b3⟩
  show f12_goes_b (f12_goes (f + 1)) _ _ _ = _
  unfold f12_goes_b f12_goes_j121
  simp (disch := omega) only [sw_t, sw_f, sw_n, ab_m, hab, b1, nI_z, zI_add, zI_sub, zI_mul, zI_m1, ckI_z, zI_clamp, Int.toNat_natCast, bnd_some, lt, rd_same, rd_ne, rdL_same, rdL_ne, wI_2, wL_1, if_true, if_false, iT_lt, iF_lt, iT_lt0, iF_lt0, iT_0lt, iF_0lt, iT_le, iF_le, iT_le0, iF_le0, iT_0le, iF_0le, iT_eq, iF_eq, iT_eq0, iF_eq0]
theorem mgoes_all {E : Ae} : FM f12_goes E (goV E) (goB E) 5 700 := by
  intro k f x S B hk hf h hB
  obtain ⟨f, rfl⟩ : ∃ z, f = z + 3 := ⟨f - 3, by omega⟩
  have h0 := h.1
  unfold goV goB
  by_cases k1 : k = 1
  · subst k1
    rw [if_pos rfl, if_pos rfl]
    obtain ⟨S2, a1, a2, a3⟩ := ran_m (b := 20) h (by omega)
    obtain ⟨S3, b1, b2, b3⟩ := mgoes_0 (f := f + 1) (x := x) a2 (by simp; omega)
    have hab : abN 1 = 0 := rfl
    refine ⟨S3, ?_, by simpa using b2, a3.tr b3⟩
    show f12_goes_b (f12_goes (f + 2)) _ _ _ = _
    unfold f12_goes_b
    simp (disch := omega) only [sw_t, sw_f, sw_n, a1, ab_m, hab, b1, nI_z, zI_add, zI_sub, zI_mul, zI_m1, ckI_z, zI_clamp, Int.toNat_natCast, bnd_some, lt, rd_same, rd_ne, rdL_same, rdL_ne, wI_2, wL_1, if_true, if_false, iT_lt, iF_lt, iT_lt0, iF_lt0, iT_0lt, iF_0lt, iT_le, iF_le, iT_le0, iF_le0, iT_0le, iF_0le, iT_eq, iF_eq, iT_eq0, iF_eq0]
  rw [if_neg k1, if_neg k1]
  by_cases k5 : k = 5
  · subst k5
    rw [if_pos rfl, if_pos rfl]
    exact mgoes_5 (f := f + 1) h (by omega)
  rw [if_neg k5, if_neg k5]
  by_cases k6 : k = 6
  · subst k6
    rw [if_pos rfl, if_pos rfl]
    obtain ⟨S2, a1, a2, a3⟩ := ran_m (b := 71) h (by omega)
    obtain ⟨S3, b1, b2, b3⟩ := mgoes_5 (f := f) (x := x) a2 (by simp; omega)
    obtain ⟨S4, c1, c2, c3⟩ := mcosts_all (E := E) E.2.2 6 (zI ((1 : Nat) : Int)) S3 _ (by omega) (by omega) b2 (by simp; omega)
    have hab : abN 6 = 5 := rfl
    have q2 := b2.2.2.2.2.2
    refine ⟨S4, ?_, by simpa using c2, (a3.tr b3).tr c3⟩
    show f12_goes_b (f12_goes (f + 2)) _ _ _ = _
    unfold f12_goes_b
    simp (disch := omega) only [sw_t, sw_f, sw_n, a1, ab_m, hab, b1, q2, c1, nI_z, zI_add, zI_sub, zI_mul, zI_m1, ckI_z, zI_clamp, Int.toNat_natCast, bnd_some, lt, rd_same, rd_ne, rdL_same, rdL_ne, wI_2, wL_1, if_true, if_false, iT_lt, iF_lt, iT_lt0, iF_lt0, iT_0lt, iF_0lt, iT_le, iF_le, iT_le0, iF_le0, iT_0le, iF_0le, iT_eq, iF_eq, iT_eq0, iF_eq0]
  rw [if_neg k6, if_neg k6]
  by_cases k0 : k = 0
  · subst k0
    exact mgoes_0 (f := f + 2) h (by omega)
  by_cases k2 : k = 2
  · subst k2
    exact mgoes_2 (f := f + 1) h (by omega)
  · obtain ⟨S3, b1, b2, b3⟩ := mgoes_2 (f := f) (x := x) h (by omega)
    have k34 : k = 3 ∨ k = 4 := by omega
    have hab : abN k = 2 := by rcases k34 with rfl | rfl <;> rfl
    refine ⟨S3, ?_, b2, b3⟩
    show f12_goes_b (f12_goes (f + 2)) _ _ _ = _
    unfold f12_goes_b f12_goes_j121
    rcases k34 with rfl | rfl
    · simp (disch := omega) only [sw_t, sw_f, sw_n, ab_m, hab, b1, nI_z, zI_add, zI_sub, zI_mul, zI_m1, ckI_z, zI_clamp, Int.toNat_natCast, bnd_some, lt, rd_same, rd_ne, rdL_same, rdL_ne, wI_2, wL_1, if_true, if_false, iT_lt, iF_lt, iT_lt0, iF_lt0, iT_0lt, iF_0lt, iT_le, iF_le, iT_le0, iF_le0, iT_0le, iF_0le, iT_eq, iF_eq, iT_eq0, iF_eq0]
    · simp (disch := omega) only [sw_t, sw_f, sw_n, ab_m, hab, b1, nI_z, zI_add, zI_sub, zI_mul, zI_m1, ckI_z, zI_clamp, Int.toNat_natCast, bnd_some, lt, rd_same, rd_ne, rdL_same, rdL_ne, wI_2, wL_1, if_true, if_false, iT_lt, iF_lt, iT_lt0, iF_lt0, iT_0lt, iF_0lt, iT_le, iF_le, iT_le0, iF_le0, iT_0le, iF_0le, iT_eq, iF_eq, iT_eq0, iF_eq0]
theorem mtells_0 {f : Nat} {x : Int32} {S : St} {E : Ae} {B : List Nat} (h : AM S E B) (hB : B.length ≤ 650) : ∃ S2, f12_tells (f + 1) (zI ((0 : Nat) : Int)) x S = some (coV E E.2.2 x - goV E E.2.2 (zI ((1 : Nat) : Int)), S2) ∧ AM S2 E (B ++ ([2] ++ coB E E.2.2 ++ goB E E.2.2)) ∧ Same amP S S2 := by
  obtain ⟨S2, a1, a2, a3⟩ := ran_m (b := 2) h (by omega)
  have h0 := h.1
  have hcl := coB_len E E.2.2
  obtain ⟨S3, b1, b2, b3⟩ := mcosts_all (E := E) E.2.2 6 x S2 _ (by omega) (by omega) a2 (by simp; omega)
  obtain ⟨S4, c1, c2, c3⟩ := mgoes_all (E := E) E.2.2 6 (zI ((1 : Nat) : Int)) S3 _ (by omega) (by omega) b2 (by simp; omega)
  have q2 := a2.2.2.2.2.2
  have q3 := b2.2.2.2.2.2
  refine ⟨S4, ?_, by simpa using c2, (a3.tr b3).tr c3⟩
  show f12_tells_b (f12_tells f) _ _ _ = _
  unfold f12_tells_b
  simp (disch := omega) only [sw_t, sw_f, sw_n, a1, q2, b1, q3, c1, nI_z, zI_add, zI_sub, zI_mul, zI_m1, ckI_z, zI_clamp, Int.toNat_natCast, bnd_some, lt, rd_same, rd_ne, rdL_same, rdL_ne, wI_2, wL_1, if_true, if_false, iT_lt, iF_lt, iT_lt0, iF_lt0, iT_0lt, iF_0lt, iT_le, iF_le, iT_le0, iF_le0, iT_0le, iF_0le, iT_eq, iF_eq, iT_eq0, iF_eq0]
theorem mtells_up {f k : Nat} {x : Int32} {S : St} {E : Ae} {B : List Nat} (hk : k = 1 ∨ k = 2 ∨ k = 5) (h : AM S E B) (hB : B.length ≤ 650) : ∃ S2, f12_tells (f + 2) (zI k) x S = some (coV E E.2.2 x - goV E E.2.2 (zI ((1 : Nat) : Int)), S2) ∧ AM S2 E (B ++ ([2] ++ coB E E.2.2 ++ goB E E.2.2)) ∧ Same amP S S2 := by
  obtain ⟨S3, b1, b2, b3⟩ := mtells_0 (f := f) (x := x) h hB
  have hab : abN k = 0 := by rcases hk with rfl | rfl | rfl <;> rfl
  refine ⟨S3, ?_, b2, b3⟩
  show f12_tells_b (f12_tells (f + 1)) _ _ _ = _
  unfold f12_tells_b
  simp (disch := omega) only [sw_t, sw_f, sw_n, ab_m, hab, b1, nI_z, zI_add, zI_sub, zI_mul, zI_m1, ckI_z, zI_clamp, Int.toNat_natCast, bnd_some, lt, rd_same, rd_ne, rdL_same, rdL_ne, wI_2, wL_1, if_true, if_false, iT_lt, iF_lt, iT_lt0, iF_lt0, iT_0lt, iF_0lt, iT_le, iF_le, iT_le0, iF_le0, iT_0le, iF_0le, iT_eq, iF_eq, iT_eq0, iF_eq0]
theorem mtells_all {E : Ae} : FM f12_tells E (teV E) (teB E) 4 600 := by
  intro k f x S B hk hf h hB
  obtain ⟨f, rfl⟩ : ∃ z, f = z + 3 := ⟨f - 3, by omega⟩
  unfold teV teB
  by_cases k4 : k = 4
  · subst k4
    rw [if_pos rfl, if_pos rfl]
    obtain ⟨S2, a1, a2, a3⟩ := ran_m (b := 50) h (by omega)
    obtain ⟨S3, b1, b2, b3⟩ := mtells_up (f := f) (k := 2) (x := x) (by omega) a2 (by simp; omega)
    have hab : abN 4 = 2 := rfl
    refine ⟨S3, ?_, by simpa using b2, a3.tr b3⟩
    show f12_tells_b (f12_tells (f + 2)) _ _ _ = _
    unfold f12_tells_b
    simp (disch := omega) only [sw_t, sw_f, sw_n, a1, ab_m, hab, b1, nI_z, zI_add, zI_sub, zI_mul, zI_m1, ckI_z, zI_clamp, Int.toNat_natCast, bnd_some, lt, rd_same, rd_ne, rdL_same, rdL_ne, wI_2, wL_1, if_true, if_false, iT_lt, iF_lt, iT_lt0, iF_lt0, iT_0lt, iF_0lt, iT_le, iF_le, iT_le0, iF_le0, iT_0le, iF_0le, iT_eq, iF_eq, iT_eq0, iF_eq0]
  rw [if_neg k4, if_neg k4]
  by_cases k0 : k = 0
  · subst k0
    exact mtells_0 (f := f + 2) h (by omega)
  by_cases k1 : k = 1 ∨ k = 2 ∨ k = 5
  · exact mtells_up (f := f + 1) k1 h (by omega)
  · have hab : (k = 3 ∧ abN k = 2) ∨ (k = 6 ∧ abN k = 5) := by
      have : k = 3 ∨ k = 6 := by omega
      rcases this with rfl | rfl
      · exact Or.inl ⟨rfl, rfl⟩
      · exact Or.inr ⟨rfl, rfl⟩
    obtain ⟨S3, b1, b2, b3⟩ := mtells_up (f := f) (k := abN k) (x := x) (by omega) h (by omega)
    refine ⟨S3, ?_, b2, b3⟩
    show f12_tells_b (f12_tells (f + 2)) _ _ _ = _
    unfold f12_tells_b
    simp (disch := omega) only [sw_t, sw_f, sw_n, ab_m, b1, nI_z, zI_add, zI_sub, zI_mul, zI_m1, ckI_z, zI_clamp, Int.toNat_natCast, bnd_some, lt, rd_same, rd_ne, rdL_same, rdL_ne, wI_2, wL_1, if_true, if_false, iT_lt, iF_lt, iT_lt0, iF_lt0, iT_0lt, iF_0lt, iT_le, iF_le, iT_le0, iF_le0, iT_0le, iF_0le, iT_eq, iF_eq, iT_eq0, iF_eq0]
