/-! ACTS on the class's side. -/
def ownN (k act : Nat) : Nat := if k = 1 ∧ act = 2 then 20 else if k = 2 ∧ act = 0 then 30 else if k = 3 ∧ act = 1 then 40 else if k = 4 ∧ act = 3 then 50 else if k = 5 ∧ act = 2 then 60 else if k = 6 ∧ act = 0 then 70 else if k = 6 ∧ act = 2 then 71 else 0
def bodyR (act : Nat) : Nat → Nat → Nat
  | 0, _ => if act = 0 then 1 else if act = 1 then 10 else if act = 2 then 11 else 2
  | m + 1, k => if ownN k act = 0 then bodyR act m (abN k) else ownN k act
def bodyN (k act : Nat) : Nat := bodyR act (dpN k) k
theorem own_c {S : St} {k act : Nat} (hk : 1 ≤ k ∧ k ≤ 6) (ha : act ≤ 3) : f0_ownBody (zI k) (zI act) S = some (zI (ownN k act), S) := by
  have hk' : k = 1 ∨ k = 2 ∨ k = 3 ∨ k = 4 ∨ k = 5 ∨ k = 6 := by omega
  have ha' : act = 0 ∨ act = 1 ∨ act = 2 ∨ act = 3 := by omega
  unfold f0_ownBody
  rcases hk' with rfl | rfl | rfl | rfl | rfl | rfl <;> rcases ha' with rfl | rfl | rfl | rfl <;> simp (disch := omega) only [sw_t, sw_f, sw_n, nI_z, zI_add, zI_sub, zI_mul, zI_m1, ckI_z, zI_clamp, Int.toNat_natCast, bnd_some, lt, rd_same, rd_ne, rdL_same, rdL_ne, wI_2, wL_1, if_true, if_false, iT_lt, iF_lt, iT_lt0, iF_lt0, iT_0lt, iF_0lt, iT_le, iF_le, iT_le0, iF_le0, iT_0le, iF_0le, iT_eq, iF_eq, iT_eq0, iF_eq0] <;> rfl
theorem ownN_le (k act : Nat) : ownN k act ≤ 71 := by
  unfold ownN
  repeat (first | omega | split)
theorem body_c {N act : Nat} {S : St} (ha : act ≤ 3) : ∀ (m k n l : Nat), dpN k = m → k ≤ 6 → m < n → l + m ≤ 4 → f0_bodyOf_h4 N (zI act) n (zI k) (zI l) S = some (zI (bodyR act m k), S) := by
  intro m
  induction m with
  | zero =>
    intro k n l h1 h2 hn hl
    obtain ⟨n, rfl⟩ : ∃ z, n = z + 1 := ⟨n - 1, by omega⟩
    have h0 : k = 0 := by
      unfold dpN at h1
      by_cases e : k = 0
      · exact e
      · rw [if_neg e] at h1
        split at h1 <;> omega
    subst h0
    have ha' : act = 0 ∨ act = 1 ∨ act = 2 ∨ act = 3 := by omega
    rw [f0_bodyOf_h4]
    rcases ha' with rfl | rfl | rfl | rfl <;> simp (disch := omega) only [f0_bodyOf_j40, sw_t, sw_f, sw_n, nI_z, zI_add, zI_sub, zI_mul, zI_m1, ckI_z, zI_clamp, Int.toNat_natCast, bnd_some, lt, rd_same, rd_ne, rdL_same, rdL_ne, wI_2, wL_1, if_true, if_false, iT_lt, iF_lt, iT_lt0, iF_lt0, iT_0lt, iF_0lt, iT_le, iF_le, iT_le0, iF_le0, iT_0le, iF_0le, iT_eq, iF_eq, iT_eq0, iF_eq0] <;> rfl
  | succ m ih =>
    intro k n l h1 h2 hn hl
    obtain ⟨n, rfl⟩ : ∃ z, n = z + 1 := ⟨n - 1, by omega⟩
    have h0 : k ≠ 0 := fun q => by rw [q] at h1; exact absurd h1 (by unfold dpN; rw [if_pos rfl]; omega)
    obtain ⟨d1, d2⟩ := dp_ab (k := k) (by omega)
    have ho := own_c (S := S) (k := k) (act := act) (by omega) ha
    have hq := ownN_le k act
    have hb : bodyR act (m + 1) k = if ownN k act = 0 then bodyR act m (abN k) else ownN k act := rfl
    have ih1 := ih (abN k) n (l + 1) (by omega) d2 (by omega) (by omega)
    have hz : zI ((l + 1 : Nat) : Int) = zI ((l : Int) + ((1 : Nat) : Int)) := rfl
    rw [hz] at ih1
    rw [f0_bodyOf_h4, hb]
    by_cases e : ownN k act = 0
    · rw [if_pos e]
      rw [e] at ho
      simp (disch := omega) only [ho, ab_c, nI_z, zI_add, zI_sub, zI_mul, zI_m1, ckI_z, zI_clamp, Int.toNat_natCast, bnd_some, lt, rd_same, rd_ne, rdL_same, rdL_ne, wI_2, wL_1, if_true, if_false, iT_lt, iF_lt, iT_lt0, iF_lt0, iT_0lt, iF_0lt, iT_le, iF_le, iT_le0, iF_le0, iT_0le, iF_0le, iT_eq, iF_eq, iT_eq0, iF_eq0]
      exact ih1
    · rw [if_neg e]
      simp (disch := omega) only [ho, nI_z, zI_add, zI_sub, zI_mul, zI_m1, ckI_z, zI_clamp, Int.toNat_natCast, bnd_some, lt, rd_same, rd_ne, rdL_same, rdL_ne, wI_2, wL_1, if_true, if_false, iT_lt, iF_lt, iT_lt0, iF_lt0, iT_0lt, iF_0lt, iT_le, iF_le, iT_le0, iF_le0, iT_0le, iF_0le, iT_eq, iF_eq, iT_eq0, iF_eq0]
theorem bodyR_le {act : Nat} : ∀ (m k : Nat), bodyR act m k ≤ 71 ∧ 1 ≤ bodyR act m k
  | 0, k => by
    unfold bodyR
    repeat (first | omega | split)
  | m + 1, k => by
    have ih := bodyR_le (act := act) m (abN k)
    have := ownN_le k act
    unfold bodyR
    split
    · exact ih
    · omega
abbrev Ae : Type := Nat × Nat × Nat
/-- what the class holds in the middle of an act: number, bits, kind; the bodies that ran -/
def AC (S : St) (E : Ae) (B : List Nat) : Prop := (E.1 < 12 ∧ E.2.1 ≤ 6 ∧ 1 ≤ E.2.2 ∧ E.2.2 ≤ 6) ∧ S.1 37 1 = zI B.length ∧ (∀ (i b : Nat), i < 24 → B[i]? = some b → S.1 38 i = zI b) ∧ S.1 37 2 = zI E.2.2 ∧ S.1 37 3 = zI E.1 ∧ S.1 37 4 = zI E.2.1
def acP (c k : Nat) : Prop := (c = 37 ∧ k = 1) ∨ c = 38
theorem from_c {N f k act dep : Nat} {x : Int32} {S : St} {E : Ae} {B : List Nat} (hN : 10 ≤ N) (hk : k ≤ 6) (ha : act ≤ 3) (hd : dep ≤ 20) (h : AC S E B) (hB : B.length ≤ 1000) :
    ∃ S2, f0_from N (f + 1) (zI k) (zI act) x (zI dep) S = bnd (f0_perform_ N (f0_from N f) (zI (bodyN k act)) x (zI ((dep + 1 : Nat) : Int)) S2) (fun q S3 => some (q, S3)) ∧ AC S2 E (B ++ [bodyN k act]) ∧ Same acP S S2 := by
  obtain ⟨h0, h1, h2, h3, h4, h5⟩ := h
  have hdk : dpN k ≤ 2 := by
    unfold dpN
    split
    · omega
    · split <;> omega
  have hb := body_c (N := N) (S := S) ha (dpN k) k N 0 rfl hk (by omega) (by omega)
  have hb' : f0_bodyOf N (zI k) (zI act) S = some (zI (bodyN k act), S) := by rw [f0_bodyOf, nI_z]; exact hb
  have hbl := bodyR_le (act := act) (dpN k) k
  have hbl' : bodyN k act ≤ 71 ∧ 1 ≤ bodyN k act := hbl
  generalize bodyN k act = b at hb' hbl'
  have hll : (B ++ [b]).length = B.length + 1 := by simp
  have hz : zI ((dep : Int) + ((1 : Nat) : Int)) = zI ((dep + 1 : Nat) : Int) := rfl
  have hf : f0_from N (f + 1) (zI k) (zI act) x (zI dep) S = f0_from_b N (f0_from N f) (zI k) (zI act) x (zI dep) S := rfl
  have hlast : ∀ (i y : Nat), i < 24 → (B ++ [b])[i]? = some y → (i < B.length ∧ B[i]? = some y) ∨ (i = B.length ∧ y = b) := fun i y _ hy => by
    have hl := (List.getElem?_eq_some_iff.mp hy).1
    rw [hll] at hl
    by_cases e : i = B.length
    · right
      subst e
      exact ⟨rfl, by simpa [eq_comm] using hy⟩
    · left
      rw [List.getElem?_append_left (by omega)] at hy
      exact ⟨by omega, hy⟩
  rw [hf]
  unfold f0_from_b
  by_cases e : 24 ≤ B.length
  · have hs : Same acP S (wI S 37 1 (zI ((B.length : Int) + ((1 : Nat) : Int)))) := (Same.rfl' (P := acP)).wI (by unfold acP; omega)
    refine ⟨wI S 37 1 (zI ((B.length : Int) + ((1 : Nat) : Int))), ?_, ⟨h0, by rw [hll]; simp (disch := omega) only [nI_z, zI_add, zI_sub, zI_mul, zI_m1, ckI_z, zI_clamp, Int.toNat_natCast, bnd_some, lt, rd_same, rd_ne, rdL_same, rdL_ne, wI_2, wL_1, if_true, if_false, iT_lt, iF_lt, iT_lt0, iF_lt0, iT_0lt, iF_0lt, iT_le, iF_le, iT_le0, iF_le0, iT_0le, iF_0le, iT_eq, iF_eq, iT_eq0, iF_eq0]; rfl, fun i y hi hy => ?_, by simp (disch := omega) only [h3, nI_z, zI_add, zI_sub, zI_mul, zI_m1, ckI_z, zI_clamp, Int.toNat_natCast, bnd_some, lt, rd_same, rd_ne, rdL_same, rdL_ne, wI_2, wL_1, if_true, if_false, iT_lt, iF_lt, iT_lt0, iF_lt0, iT_0lt, iF_0lt, iT_le, iF_le, iT_le0, iF_le0, iT_0le, iF_0le, iT_eq, iF_eq, iT_eq0, iF_eq0], by simp (disch := omega) only [h4, nI_z, zI_add, zI_sub, zI_mul, zI_m1, ckI_z, zI_clamp, Int.toNat_natCast, bnd_some, lt, rd_same, rd_ne, rdL_same, rdL_ne, wI_2, wL_1, if_true, if_false, iT_lt, iF_lt, iT_lt0, iF_lt0, iT_0lt, iF_0lt, iT_le, iF_le, iT_le0, iF_le0, iT_0le, iF_0le, iT_eq, iF_eq, iT_eq0, iF_eq0], by simp (disch := omega) only [h5, nI_z, zI_add, zI_sub, zI_mul, zI_m1, ckI_z, zI_clamp, Int.toNat_natCast, bnd_some, lt, rd_same, rd_ne, rdL_same, rdL_ne, wI_2, wL_1, if_true, if_false, iT_lt, iF_lt, iT_lt0, iF_lt0, iT_0lt, iF_0lt, iT_le, iF_le, iT_le0, iF_le0, iT_0le, iF_0le, iT_eq, iF_eq, iT_eq0, iF_eq0]⟩, hs⟩
    · simp (disch := omega) only [hb', h1, f0_from_j39, hz, nI_z, zI_add, zI_sub, zI_mul, zI_m1, ckI_z, zI_clamp, Int.toNat_natCast, bnd_some, lt, rd_same, rd_ne, rdL_same, rdL_ne, wI_2, wL_1, if_true, if_false, iT_lt, iF_lt, iT_lt0, iF_lt0, iT_0lt, iF_0lt, iT_le, iF_le, iT_le0, iF_le0, iT_0le, iF_0le, iT_eq, iF_eq, iT_eq0, iF_eq0]
    · rcases hlast i y hi hy with ⟨q1, q2⟩ | ⟨q1, q2⟩
      · simp (disch := omega) only [h2 i y hi q2, nI_z, zI_add, zI_sub, zI_mul, zI_m1, ckI_z, zI_clamp, Int.toNat_natCast, bnd_some, lt, rd_same, rd_ne, rdL_same, rdL_ne, wI_2, wL_1, if_true, if_false, iT_lt, iF_lt, iT_lt0, iF_lt0, iT_0lt, iF_0lt, iT_le, iF_le, iT_le0, iF_le0, iT_0le, iF_0le, iT_eq, iF_eq, iT_eq0, iF_eq0]
      · omega
  · have hs : Same acP S (wI (wI S 38 B.length (zI b)) 37 1 (zI ((B.length : Int) + ((1 : Nat) : Int)))) := (Same.rfl' (P := acP)) |>.wI (by unfold acP; omega) |>.wI (by unfold acP; omega)
    refine ⟨wI (wI S 38 B.length (zI b)) 37 1 (zI ((B.length : Int) + ((1 : Nat) : Int))), ?_, ⟨h0, by rw [hll]; simp (disch := omega) only [nI_z, zI_add, zI_sub, zI_mul, zI_m1, ckI_z, zI_clamp, Int.toNat_natCast, bnd_some, lt, rd_same, rd_ne, rdL_same, rdL_ne, wI_2, wL_1, if_true, if_false, iT_lt, iF_lt, iT_lt0, iF_lt0, iT_0lt, iF_0lt, iT_le, iF_le, iT_le0, iF_le0, iT_0le, iF_0le, iT_eq, iF_eq, iT_eq0, iF_eq0]; rfl, fun i y hi hy => ?_, by simp (disch := omega) only [h3, nI_z, zI_add, zI_sub, zI_mul, zI_m1, ckI_z, zI_clamp, Int.toNat_natCast, bnd_some, lt, rd_same, rd_ne, rdL_same, rdL_ne, wI_2, wL_1, if_true, if_false, iT_lt, iF_lt, iT_lt0, iF_lt0, iT_0lt, iF_0lt, iT_le, iF_le, iT_le0, iF_le0, iT_0le, iF_0le, iT_eq, iF_eq, iT_eq0, iF_eq0], by simp (disch := omega) only [h4, nI_z, zI_add, zI_sub, zI_mul, zI_m1, ckI_z, zI_clamp, Int.toNat_natCast, bnd_some, lt, rd_same, rd_ne, rdL_same, rdL_ne, wI_2, wL_1, if_true, if_false, iT_lt, iF_lt, iT_lt0, iF_lt0, iT_0lt, iF_0lt, iT_le, iF_le, iT_le0, iF_le0, iT_0le, iF_0le, iT_eq, iF_eq, iT_eq0, iF_eq0], by simp (disch := omega) only [h5, nI_z, zI_add, zI_sub, zI_mul, zI_m1, ckI_z, zI_clamp, Int.toNat_natCast, bnd_some, lt, rd_same, rd_ne, rdL_same, rdL_ne, wI_2, wL_1, if_true, if_false, iT_lt, iF_lt, iT_lt0, iF_lt0, iT_0lt, iF_0lt, iT_le, iF_le, iT_le0, iF_le0, iT_0le, iF_0le, iT_eq, iF_eq, iT_eq0, iF_eq0]⟩, hs⟩
    · simp (disch := omega) only [hb', h1, f0_from_j39, hz, nI_z, zI_add, zI_sub, zI_mul, zI_m1, ckI_z, zI_clamp, Int.toNat_natCast, bnd_some, lt, rd_same, rd_ne, rdL_same, rdL_ne, wI_2, wL_1, if_true, if_false, iT_lt, iF_lt, iT_lt0, iF_lt0, iT_0lt, iF_0lt, iT_le, iF_le, iT_le0, iF_le0, iT_0le, iF_0le, iT_eq, iF_eq, iT_eq0, iF_eq0]
    · rcases hlast i y hi hy with ⟨q1, q2⟩ | ⟨q1, q2⟩
      · simp (disch := omega) only [h2 i y hi q2, nI_z, zI_add, zI_sub, zI_mul, zI_m1, ckI_z, zI_clamp, Int.toNat_natCast, bnd_some, lt, rd_same, rd_ne, rdL_same, rdL_ne, wI_2, wL_1, if_true, if_false, iT_lt, iF_lt, iT_lt0, iF_lt0, iT_0lt, iF_0lt, iT_le, iF_le, iT_le0, iF_le0, iT_0le, iF_0le, iT_eq, iF_eq, iT_eq0, iF_eq0]
      · rw [q1, q2]; simp (disch := omega) only [nI_z, zI_add, zI_sub, zI_mul, zI_m1, ckI_z, zI_clamp, Int.toNat_natCast, bnd_some, lt, rd_same, rd_ne, rdL_same, rdL_ne, wI_2, wL_1, if_true, if_false, iT_lt, iF_lt, iT_lt0, iF_lt0, iT_0lt, iF_0lt, iT_le, iF_le, iT_le0, iF_le0, iT_0le, iF_0le, iT_eq, iF_eq, iT_eq0, iF_eq0]
def stV (n k : Nat) (x : Int32) : Int32 := if k = 6 then (x + zI ((1 : Nat) : Int)) + zI n else if k = 2 ∨ k = 3 ∨ k = 4 then (x + zI n) + zI ((1 : Nat) : Int) else x + zI n
def stB (k : Nat) : List Nat := if k = 6 then [70, 1] else if k = 2 ∨ k = 3 ∨ k = 4 then [30, 1] else [1]
def FR (N act : Nat) (E : Ae) (V : Nat → Int32 → Int32) (Bs : Nat → List Nat) (fl dl bl : Nat) : Prop := ∀ (k f dep : Nat) (x : Int32) (S : St) (B : List Nat), k ≤ 6 → fl ≤ f → dep + dl ≤ 20 → AC S E B → B.length ≤ bl → ∃ S2, f0_from N f (zI k) (zI act) x (zI dep) S = some (V k x, S2) ∧ AC S2 E (B ++ Bs k) ∧ Same acP S S2
theorem steps_0 {N f k dep : Nat} {x : Int32} {S : St} {E : Ae} {B : List Nat} (hN : 10 ≤ N) (hk : k = 0 ∨ k = 1 ∨ k = 5) (hd : dep ≤ 20) (h : AC S E B) (hB : B.length ≤ 1000) : ∃ S2, f0_from N (f + 1) (zI k) (zI ((0 : Nat) : Int)) x (zI dep) S = some (x + zI E.1, S2) ∧ AC S2 E (B ++ [1]) ∧ Same acP S S2 := by
  obtain ⟨S2, a1, a2, a3⟩ := from_c (N := N) (f := f) (k := k) (act := 0) (x := x) hN (by omega) (by omega) hd h hB
  have hb : bodyN k 0 = 1 := by rcases hk with rfl | rfl | rfl <;> rfl
  rw [hb] at a1 a2
  have q := a2.2.2.2.2.1
  refine ⟨S2, ?_, a2, a3⟩
  rw [a1]
  unfold f0_perform_
  simp (disch := omega) only [sw_t, sw_f, sw_n, nI_z, zI_add, zI_sub, zI_mul, zI_m1, ckI_z, zI_clamp, Int.toNat_natCast, bnd_some, lt, rd_same, rd_ne, rdL_same, rdL_ne, wI_2, wL_1, if_true, if_false, iT_lt, iF_lt, iT_lt0, iF_lt0, iT_0lt, iF_0lt, iT_le, iF_le, iT_le0, iF_le0, iT_0le, iF_0le, iT_eq, iF_eq, iT_eq0, iF_eq0]
  rw [q]
theorem steps_all {N : Nat} {E : Ae} (hN : 10 ≤ N) : FR N 0 E (stV E.1) stB 2 2 900 := by
  intro k f dep x S B hk hf hd h hB
  obtain ⟨f, rfl⟩ : ∃ z, f = z + 2 := ⟨f - 2, by omega⟩
  unfold stV stB
  by_cases k6 : k = 6
  · subst k6
    obtain ⟨S2, a1, a2, a3⟩ := from_c (N := N) (f := f + 1) (dep := dep) (k := 6) (act := 0) (x := x) hN (by omega) (by omega) (by omega) h (by omega)
    have hb : bodyN 6 0 = 70 := rfl
    rw [hb] at a1 a2
    obtain ⟨S3, b1, b2, b3⟩ := steps_0 (N := N) (f := f) (k := 5) (dep := dep + 1) (x := x + zI ((1 : Nat) : Int)) hN (by omega) (by omega) a2 (by simp; omega)
    have hab : abN 6 = 5 := rfl
    refine ⟨S3, ?_, by rw [if_pos rfl]; simpa using b2, a3.tr b3⟩
    rw [if_pos rfl, a1]
    unfold f0_perform_
    simp (disch := omega) only [sw_t, sw_f, sw_n, ab_c, hab, b1, nI_z, zI_add, zI_sub, zI_mul, zI_m1, ckI_z, zI_clamp, Int.toNat_natCast, bnd_some, lt, rd_same, rd_ne, rdL_same, rdL_ne, wI_2, wL_1, if_true, if_false, iT_lt, iF_lt, iT_lt0, iF_lt0, iT_0lt, iF_0lt, iT_le, iF_le, iT_le0, iF_le0, iT_0le, iF_0le, iT_eq, iF_eq, iT_eq0, iF_eq0]
  · rw [if_neg k6, if_neg k6]
    by_cases k2 : k = 2 ∨ k = 3 ∨ k = 4
    · rw [if_pos k2, if_pos k2]
      obtain ⟨S2, a1, a2, a3⟩ := from_c (N := N) (f := f + 1) (dep := dep) (k := k) (act := 0) (x := x) hN (by omega) (by omega) (by omega) h (by omega)
      have hb : bodyN k 0 = 30 := by rcases k2 with rfl | rfl | rfl <;> rfl
      rw [hb] at a1 a2
      obtain ⟨S3, b1, b2, b3⟩ := steps_0 (N := N) (f := f) (k := 0) (dep := dep + 1) (x := x) hN (by omega) (by omega) a2 (by simp; omega)
      have hab : abN 2 = 0 := rfl
      refine ⟨S3, ?_, by simpa using b2, a3.tr b3⟩
      rw [a1]
      unfold f0_perform_
      simp (disch := omega) only [sw_t, sw_f, sw_n, ab_c, hab, b1, nI_z, zI_add, zI_sub, zI_mul, zI_m1, ckI_z, zI_clamp, Int.toNat_natCast, bnd_some, lt, rd_same, rd_ne, rdL_same, rdL_ne, wI_2, wL_1, if_true, if_false, iT_lt, iF_lt, iT_lt0, iF_lt0, iT_0lt, iF_0lt, iT_le, iF_le, iT_le0, iF_le0, iT_0le, iF_0le, iT_eq, iF_eq, iT_eq0, iF_eq0]
    · rw [if_neg k2, if_neg k2]
      exact steps_0 hN (by omega) (by omega) h (by omega)
def coV (E : Ae) (k : Nat) (x : Int32) : Int32 := if k = 3 then stV E.1 E.2.2 x * zI E.2.1 + stV E.1 E.2.2 (zI ((2 : Nat) : Int)) else stV E.1 E.2.2 x * zI E.2.1
def coB (E : Ae) (k : Nat) : List Nat := if k = 3 then [40, 10] ++ stB E.2.2 ++ stB E.2.2 else [10] ++ stB E.2.2
def goV (E : Ae) (k : Nat) (x : Int32) : Int32 := if k = 1 then -(x ^^^ zI E.1) else if k = 5 then (x ^^^ zI E.1) * zI ((3 : Nat) : Int) else if k = 6 then (x ^^^ zI E.1) * zI ((3 : Nat) : Int) - coV E E.2.2 (zI ((1 : Nat) : Int)) else x ^^^ zI E.1
def goB (E : Ae) (k : Nat) : List Nat := if k = 1 then [20, 11] else if k = 5 then [60, 11] else if k = 6 then [71, 60, 11] ++ coB E E.2.2 else [11]
def teV (E : Ae) (k : Nat) (x : Int32) : Int32 := if k = 4 then (coV E E.2.2 x - goV E E.2.2 (zI ((1 : Nat) : Int))) ^^^ zI ((6 : Nat) : Int) else coV E E.2.2 x - goV E E.2.2 (zI ((1 : Nat) : Int))
def teB (E : Ae) (k : Nat) : List Nat := if k = 4 then [50, 2] ++ coB E E.2.2 ++ goB E E.2.2 else [2] ++ coB E E.2.2 ++ goB E E.2.2
theorem stB_len (k : Nat) : (stB k).length ≤ 2 := by
  unfold stB
  split
  · decide
  · split <;> decide
theorem coB_len (E : Ae) (k : Nat) : (coB E k).length ≤ 6 := by
  have := stB_len E.2.2
  unfold coB
  split <;> simp <;> omega
theorem goB_len (E : Ae) (k : Nat) : (goB E k).length ≤ 9 := by
  have := coB_len E E.2.2
  unfold goB
  split
  · decide
  split
  · decide
  split
  · simp; omega
  · decide
theorem costs_0 {N f k dep : Nat} {x : Int32} {S : St} {E : Ae} {B : List Nat} (hN : 10 ≤ N) (hk : k ≤ 6) (hk3 : k ≠ 3) (hf : 2 ≤ f) (hd : dep + 3 ≤ 20) (h : AC S E B) (hB : B.length ≤ 850) : ∃ S2, f0_from N (f + 1) (zI k) (zI ((1 : Nat) : Int)) x (zI dep) S = some (stV E.1 E.2.2 x * zI E.2.1, S2) ∧ AC S2 E (B ++ ([10] ++ stB E.2.2)) ∧ Same acP S S2 := by
  obtain ⟨S2, a1, a2, a3⟩ := from_c (N := N) (f := f) (k := k) (act := 1) (dep := dep) (x := x) hN hk (by omega) (by omega) h (by omega)
  have hb : bodyN k 1 = 10 := by
    have : k = 0 ∨ k = 1 ∨ k = 2 ∨ k = 4 ∨ k = 5 ∨ k = 6 := by omega
    rcases this with rfl | rfl | rfl | rfl | rfl | rfl <;> rfl
  rw [hb] at a1 a2
  have h0 := a2.1
  obtain ⟨S3, b1, b2, b3⟩ := steps_all (N := N) (E := E) hN E.2.2 f (dep + 1) x S2 (B ++ [10]) (by omega) hf (by omega) a2 (by simp; omega)
  have q2 := a2.2.2.2.1
  have q4 := b2.2.2.2.2.2
  refine ⟨S3, ?_, by simpa using b2, a3.tr b3⟩
  rw [a1]
  unfold f0_perform_ f0_own
  simp (disch := omega) only [sw_t, sw_f, sw_n, q2, b1, nI_z, zI_add, zI_sub, zI_mul, zI_m1, ckI_z, zI_clamp, Int.toNat_natCast, bnd_some, lt, rd_same, rd_ne, rdL_same, rdL_ne, wI_2, wL_1, if_true, if_false, iT_lt, iF_lt, iT_lt0, iF_lt0, iT_0lt, iF_0lt, iT_le, iF_le, iT_le0, iF_le0, iT_0le, iF_0le, iT_eq, iF_eq, iT_eq0, iF_eq0]
  rw [q4]
theorem costs_all {N : Nat} {E : Ae} (hN : 10 ≤ N) : FR N 1 E (coV E) (coB E) 4 4 800 := by
  intro k f dep x S B hk hf hd h hB
  obtain ⟨f, rfl⟩ : ∃ z, f = z + 2 := ⟨f - 2, by omega⟩
  unfold coV coB
  by_cases k3 : k = 3
  · subst k3
    rw [if_pos rfl, if_pos rfl]
    have h0 := h.1
    obtain ⟨S2, a1, a2, a3⟩ := from_c (N := N) (f := f + 1) (k := 3) (act := 1) (dep := dep) (x := x) hN (by omega) (by omega) (by omega) h (by omega)
    have hb : bodyN 3 1 = 40 := rfl
    rw [hb] at a1 a2
    obtain ⟨S3, b1, b2, b3⟩ := costs_0 (N := N) (f := f) (k := 2) (dep := dep + 1) (x := x) hN (by omega) (by omega) (by omega) (by omega) a2 (by simp; omega)
    have hst := stB_len E.2.2
    obtain ⟨S4, c1, c2, c3⟩ := steps_all (N := N) (E := E) hN E.2.2 (f + 1) (dep + 1) (zI ((2 : Nat) : Int)) S3 _ (by omega) (by omega) (by omega) b2 (by simp; omega)
    have hab : abN 3 = 2 := rfl
    have q2 := b2.2.2.2.1
    refine ⟨S4, ?_, by simpa using c2, (a3.tr b3).tr c3⟩
    show f0_from N (f + 1 + 1) _ _ _ _ _ = _
    rw [a1]
    unfold f0_perform_ f0_own
    simp (disch := omega) only [sw_t, sw_f, sw_n, ab_c, hab, b1, q2, c1, nI_z, zI_add, zI_sub, zI_mul, zI_m1, ckI_z, zI_clamp, Int.toNat_natCast, bnd_some, lt, rd_same, rd_ne, rdL_same, rdL_ne, wI_2, wL_1, if_true, if_false, iT_lt, iF_lt, iT_lt0, iF_lt0, iT_0lt, iF_0lt, iT_le, iF_le, iT_le0, iF_le0, iT_0le, iF_0le, iT_eq, iF_eq, iT_eq0, iF_eq0]
  · rw [if_neg k3, if_neg k3]
    exact costs_0 hN hk k3 (by omega) (by omega) h (by omega)
theorem goes_0 {N f k dep : Nat} {x : Int32} {S : St} {E : Ae} {B : List Nat} (hN : 10 ≤ N) (hk : k = 0 ∨ k = 2 ∨ k = 3 ∨ k = 4) (hd : dep ≤ 20) (h : AC S E B) (hB : B.length ≤ 1000) : ∃ S2, f0_from N (f + 1) (zI k) (zI ((2 : Nat) : Int)) x (zI dep) S = some (x ^^^ zI E.1, S2) ∧ AC S2 E (B ++ [11]) ∧ Same acP S S2 := by
  obtain ⟨S2, a1, a2, a3⟩ := from_c (N := N) (f := f) (k := k) (act := 2) (x := x) hN (by omega) (by omega) hd h hB
  have hb : bodyN k 2 = 11 := by rcases hk with rfl | rfl | rfl | rfl <;> rfl
  rw [hb] at a1 a2
  have q := a2.2.2.2.2.1
  refine ⟨S2, ?_, a2, a3⟩
  rw [a1]
  unfold f0_perform_
  simp (disch := omega) only [sw_t, sw_f, sw_n, nI_z, zI_add, zI_sub, zI_mul, zI_m1, ckI_z, zI_clamp, Int.toNat_natCast, bnd_some, lt, rd_same, rd_ne, rdL_same, rdL_ne, wI_2, wL_1, if_true, if_false, iT_lt, iF_lt, iT_lt0, iF_lt0, iT_0lt, iF_0lt, iT_le, iF_le, iT_le0, iF_le0, iT_0le, iF_0le, iT_eq, iF_eq, iT_eq0, iF_eq0]
  rw [q]
theorem goes_5 {N f dep : Nat} {x : Int32} {S : St} {E : Ae} {B : List Nat} (hN : 10 ≤ N) (hd : dep + 2 ≤ 20) (h : AC S E B) (hB : B.length ≤ 900) : ∃ S2, f0_from N (f + 2) (zI ((5 : Nat) : Int)) (zI ((2 : Nat) : Int)) x (zI dep) S = some ((x ^^^ zI E.1) * zI ((3 : Nat) : Int), S2) ∧ AC S2 E (B ++ [60, 11]) ∧ Same acP S S2 := by
  obtain ⟨S2, a1, a2, a3⟩ := from_c (N := N) (f := f + 1) (k := 5) (act := 2) (dep := dep) (x := x) hN (by omega) (by omega) (by omega) h (by omega)
  have hb : bodyN 5 2 = 60 := rfl
  rw [hb] at a1 a2
  obtain ⟨S3, b1, b2, b3⟩ := goes_0 (N := N) (f := f) (k := 0) (dep := dep + 1) (x := x) hN (by omega) (by omega) a2 (by simp; omega)
  have hab : abN 5 = 0 := rfl
  refine ⟨S3, ?_, by simpa using b2, a3.tr b3⟩
  show f0_from N (f + 1 + 1) _ _ _ _ _ = _
  rw [a1]
  unfold f0_perform_
  simp (disch := omega) only [sw_t, sw_f, sw_n, ab_c, hab, b1, nI_z, zI_add, zI_sub, zI_mul, zI_m1, ckI_z, zI_clamp, Int.toNat_natCast, bnd_some, lt, rd_same, rd_ne, rdL_same, rdL_ne, wI_2, wL_1, if_true, if_false, iT_lt, iF_lt, iT_lt0, iF_lt0, iT_0lt, iF_0lt, iT_le, iF_le, iT_le0, iF_le0, iT_0le, iF_0le, iT_eq, iF_eq, iT_eq0, iF_eq0]
theorem goes_all {N : Nat} {E : Ae} (hN : 10 ≤ N) : FR N 2 E (goV E) (goB E) 6 6 700 := by
  intro k f dep x S B hk hf hd h hB
  obtain ⟨f, rfl⟩ : ∃ z, f = z + 3 := ⟨f - 3, by omega⟩
  have h0 := h.1
  unfold goV goB
  by_cases k1 : k = 1
  · subst k1
    rw [if_pos rfl, if_pos rfl]
    obtain ⟨S2, a1, a2, a3⟩ := from_c (N := N) (f := f + 2) (k := 1) (act := 2) (dep := dep) (x := x) hN (by omega) (by omega) (by omega) h (by omega)
    have hb : bodyN 1 2 = 20 := rfl
    rw [hb] at a1 a2
    obtain ⟨S3, b1, b2, b3⟩ := goes_0 (N := N) (f := f + 1) (k := 0) (dep := dep + 1) (x := x) hN (by omega) (by omega) a2 (by simp; omega)
    have hab : abN 1 = 0 := rfl
    refine ⟨S3, ?_, by simpa using b2, a3.tr b3⟩
    show f0_from N (f + 2 + 1) _ _ _ _ _ = _
    rw [a1]
    unfold f0_perform_
    simp (disch := omega) only [sw_t, sw_f, sw_n, ab_c, hab, b1, nI_z, zI_add, zI_sub, zI_mul, zI_m1, ckI_z, zI_clamp, Int.toNat_natCast, bnd_some, lt, rd_same, rd_ne, rdL_same, rdL_ne, wI_2, wL_1, if_true, if_false, iT_lt, iF_lt, iT_lt0, iF_lt0, iT_0lt, iF_0lt, iT_le, iF_le, iT_le0, iF_le0, iT_0le, iF_0le, iT_eq, iF_eq, iT_eq0, iF_eq0]
  rw [if_neg k1, if_neg k1]
  by_cases k5 : k = 5
  · subst k5
    rw [if_pos rfl, if_pos rfl]
    exact goes_5 (f := f + 1) hN (by omega) h (by omega)
  rw [if_neg k5, if_neg k5]
  by_cases k6 : k = 6
  · subst k6
    rw [if_pos rfl, if_pos rfl]
    obtain ⟨S2, a1, a2, a3⟩ := from_c (N := N) (f := f + 2) (k := 6) (act := 2) (dep := dep) (x := x) hN (by omega) (by omega) (by omega) h (by omega)
    have hb : bodyN 6 2 = 71 := rfl
    rw [hb] at a1 a2
    obtain ⟨S3, b1, b2, b3⟩ := goes_5 (N := N) (f := f) (dep := dep + 1) (x := x) hN (by omega) a2 (by simp; omega)
    obtain ⟨S4, c1, c2, c3⟩ := costs_all (N := N) (E := E) hN E.2.2 (f + 2) (dep + 1) (zI ((1 : Nat) : Int)) S3 _ (by omega) (by omega) (by omega) b2 (by simp; omega)
    have hab : abN 6 = 5 := rfl
    have q2 := b2.2.2.2.1
    refine ⟨S4, ?_, by simpa using c2, (a3.tr b3).tr c3⟩
    show f0_from N (f + 2 + 1) _ _ _ _ _ = _
    rw [a1]
    unfold f0_perform_ f0_own
    simp (disch := omega) only [sw_t, sw_f, sw_n, ab_c, hab, b1, q2, c1, nI_z, zI_add, zI_sub, zI_mul, zI_m1, ckI_z, zI_clamp, Int.toNat_natCast, bnd_some, lt, rd_same, rd_ne, rdL_same, rdL_ne, wI_2, wL_1, if_true, if_false, iT_lt, iF_lt, iT_lt0, iF_lt0, iT_0lt, iF_0lt, iT_le, iF_le, iT_le0, iF_le0, iT_0le, iF_0le, iT_eq, iF_eq, iT_eq0, iF_eq0]
  · rw [if_neg k6, if_neg k6]
    exact goes_0 (f := f + 2) hN (by omega) (by omega) h (by omega)
theorem tells_0 {N f k dep : Nat} {x : Int32} {S : St} {E : Ae} {B : List Nat} (hN : 10 ≤ N) (hk : k ≤ 6) (hk4 : k ≠ 4) (hf : 6 ≤ f) (hd : dep + 7 ≤ 20) (h : AC S E B) (hB : B.length ≤ 650) : ∃ S2, f0_from N (f + 1) (zI k) (zI ((3 : Nat) : Int)) x (zI dep) S = some (coV E E.2.2 x - goV E E.2.2 (zI ((1 : Nat) : Int)), S2) ∧ AC S2 E (B ++ ([2] ++ coB E E.2.2 ++ goB E E.2.2)) ∧ Same acP S S2 := by
  obtain ⟨S2, a1, a2, a3⟩ := from_c (N := N) (f := f) (k := k) (act := 3) (dep := dep) (x := x) hN hk (by omega) (by omega) h (by omega)
  have hb : bodyN k 3 = 2 := by
    have : k = 0 ∨ k = 1 ∨ k = 2 ∨ k = 3 ∨ k = 5 ∨ k = 6 := by omega
    rcases this with rfl | rfl | rfl | rfl | rfl | rfl <;> rfl
  rw [hb] at a1 a2
  have h0 := a2.1
  have hcl := coB_len E E.2.2
  obtain ⟨S3, b1, b2, b3⟩ := costs_all (N := N) (E := E) hN E.2.2 f (dep + 1) x S2 _ (by omega) (by omega) (by omega) a2 (by simp; omega)
  obtain ⟨S4, c1, c2, c3⟩ := goes_all (N := N) (E := E) hN E.2.2 f (dep + 1) (zI ((1 : Nat) : Int)) S3 _ (by omega) (by omega) (by omega) b2 (by simp; omega)
  have q2 := a2.2.2.2.1
  have q3 := b2.2.2.2.1
  refine ⟨S4, ?_, by simpa using c2, (a3.tr b3).tr c3⟩
  rw [a1]
  unfold f0_perform_ f0_own
  simp (disch := omega) only [sw_t, sw_f, sw_n, q2, b1, q3, c1, nI_z, zI_add, zI_sub, zI_mul, zI_m1, ckI_z, zI_clamp, Int.toNat_natCast, bnd_some, lt, rd_same, rd_ne, rdL_same, rdL_ne, wI_2, wL_1, if_true, if_false, iT_lt, iF_lt, iT_lt0, iF_lt0, iT_0lt, iF_0lt, iT_le, iF_le, iT_le0, iF_le0, iT_0le, iF_0le, iT_eq, iF_eq, iT_eq0, iF_eq0]
theorem tells_all {N : Nat} {E : Ae} (hN : 10 ≤ N) : FR N 3 E (teV E) (teB E) 8 8 600 := by
  intro k f dep x S B hk hf hd h hB
  obtain ⟨f, rfl⟩ : ∃ z, f = z + 2 := ⟨f - 2, by omega⟩
  unfold teV teB
  by_cases k4 : k = 4
  · subst k4
    rw [if_pos rfl, if_pos rfl]
    obtain ⟨S2, a1, a2, a3⟩ := from_c (N := N) (f := f + 1) (k := 4) (act := 3) (dep := dep) (x := x) hN (by omega) (by omega) (by omega) h (by omega)
    have hb : bodyN 4 3 = 50 := rfl
    rw [hb] at a1 a2
    obtain ⟨S3, b1, b2, b3⟩ := tells_0 (N := N) (f := f) (k := 2) (dep := dep + 1) (x := x) hN (by omega) (by omega) (by omega) (by omega) a2 (by simp; omega)
    have hab : abN 4 = 2 := rfl
    refine ⟨S3, ?_, by simpa using b2, a3.tr b3⟩
    show f0_from N (f + 1 + 1) _ _ _ _ _ = _
    rw [a1]
    unfold f0_perform_
    simp (disch := omega) only [sw_t, sw_f, sw_n, ab_c, hab, b1, nI_z, zI_add, zI_sub, zI_mul, zI_m1, ckI_z, zI_clamp, Int.toNat_natCast, bnd_some, lt, rd_same, rd_ne, rdL_same, rdL_ne, wI_2, wL_1, if_true, if_false, iT_lt, iF_lt, iT_lt0, iF_lt0, iT_0lt, iF_0lt, iT_le, iF_le, iT_le0, iF_le0, iT_0le, iF_0le, iT_eq, iF_eq, iT_eq0, iF_eq0]
  · rw [if_neg k4, if_neg k4]
    exact tells_0 (f := f + 1) hN hk k4 (by omega) (by omega) h (by omega)
