/-! The class reads the tape: live (no fault) and dead (a fault stands). -/
def TB (S : St) (T : Nat → Nat) (n : Nat) : Prop := n ≤ 60 ∧ S.1 11 1 = zI n ∧ (∀ i, i < n → S.1 12 i = zI (T i)) ∧ ∀ i, T i < 256
def TL (S : St) (T : Nat → Nat) (n p : Nat) : Prop := TB S T n ∧ p ≤ n ∧ S.1 11 2 = zI p ∧ S.1 11 3 = zI (-1)
def TD (S : St) (T : Nat → Nat) (n e : Nat) : Prop := TB S T n ∧ e ≤ n ∧ S.1 11 3 = zI e
def AK (S : St) (a : Nat) (l : List Nat) : Prop := l.length ≤ 60 ∧ S.1 a 1 = zI l.length ∧ Held (S.1 (a + 1)) 0 l
def AD (S : St) (a : Nat) : Prop := ∃ l : Nat, l ≤ 60 ∧ S.1 a 1 = zI l
def tpP (a c k : Nat) : Prop := (c = 11 ∧ (k = 2 ∨ k = 3)) ∨ (c = a ∧ k = 1) ∨ c = a + 1
/-- what a reading comes to on the class's side -/
def RC (S2 : St) (T : Nat → Nat) (n a : Nat) (l : List Nat) (X : Pr) : Prop := match X with
  | .inl e => TD S2 T n e ∧ AD S2 a
  | .inr q => TL S2 T n q.1 ∧ AK S2 a (l ++ q.2)
theorem AK.ad {S : St} {a : Nat} {l : List Nat} (h : AK S a l) : AD S a := ⟨l.length, h.1, h.2.1⟩
theorem TB.same {P : Nat → Nat → Prop} {S S2 : St} {T : Nat → Nat} {n : Nat} (h : TB S T n) (hs : Same P S S2) (h1 : ¬ P 11 1) (h2 : ∀ k, ¬ P 12 k) : TB S2 T n := ⟨h.1, by rw [hs.i h1]; exact h.2.1, fun i hi => by rw [hs.i (h2 i)]; exact h.2.2.1 i hi, h.2.2.2⟩
theorem here_l {S : St} {T : Nat → Nat} {n p : Nat} (h : TL S T n p) : f9_here S = some (zI (if p < n then (T p : Int) else -1), S) := by
  obtain ⟨⟨h1, h2, h3, h4⟩, h5, h6, h7⟩ := h
  unfold f9_here
  by_cases e : p < n
  · rw [if_pos e]
    simp (disch := omega) only [h7, h2, h6, h3 p e, nI_z, zI_add, zI_sub, zI_mul, zI_m1, ckI_z, zI_clamp, Int.toNat_natCast, bnd_some, lt, rd_same, rd_ne, rdL_same, rdL_ne, wI_2, wL_1, if_true, if_false, iT_lt, iF_lt, iT_lt0, iF_lt0, iT_0lt, iF_0lt, iT_le, iF_le, iT_le0, iF_le0, iT_0le, iF_0le, iT_eq, iF_eq, iT_eq0, iF_eq0]
  · rw [if_neg e]
    simp (disch := omega) only [h7, h2, h6, nI_z, zI_add, zI_sub, zI_mul, zI_m1, ckI_z, zI_clamp, Int.toNat_natCast, bnd_some, lt, rd_same, rd_ne, rdL_same, rdL_ne, wI_2, wL_1, if_true, if_false, iT_lt, iF_lt, iT_lt0, iF_lt0, iT_0lt, iF_0lt, iT_le, iF_le, iT_le0, iF_le0, iT_0le, iF_0le, iT_eq, iF_eq, iT_eq0, iF_eq0]
theorem here_d {S : St} {T : Nat → Nat} {n e : Nat} (h : TD S T n e) : f9_here S = some (zI (-1), S) := by
  obtain ⟨⟨h1, h2, h3, h4⟩, h5, h6⟩ := h
  unfold f9_here
  simp (disch := omega) only [h6, nI_z, zI_add, zI_sub, zI_mul, zI_m1, ckI_z, zI_clamp, Int.toNat_natCast, bnd_some, lt, rd_same, rd_ne, rdL_same, rdL_ne, wI_2, wL_1, if_true, if_false, iT_lt, iF_lt, iT_lt0, iF_lt0, iT_0lt, iF_0lt, iT_le, iF_le, iT_le0, iF_le0, iT_0le, iF_0le, iT_eq, iF_eq, iT_eq0, iF_eq0]
/-- here() as a number that no sign is like, where there is nothing -/
theorem here_l2 {S : St} {T : Nat → Nat} {n p : Nat} (h : TL S T n p) : ∃ z : Int, f9_here S = some (zI z, S) ∧ -1 ≤ z ∧ z < 256 ∧ (∀ c : Nat, 0 < c → (z = c ↔ hr T n p = c)) ∧ (hr T n p ≠ 0 → z = hr T n p) ∧ (p < n → z = hr T n p) := by
  refine ⟨_, here_l h, ?_⟩
  have hT := h.1.2.2.2 p
  unfold hr
  by_cases e : p < n
  · rw [if_pos e, if_pos e]
    exact ⟨by omega, by omega, fun c _ => by omega, fun _ => rfl, fun _ => rfl⟩
  · rw [if_neg e, if_neg e]
    exact ⟨by omega, by omega, fun c _ => by omega, fun q => absurd rfl q, fun q => absurd q e⟩
theorem write_k {S : St} {a c : Nat} {l : List Nat} (h : AK S a l) (hl : l.length < 60) : ∃ S2, f1_write a (zI c) S = some ((), S2) ∧ AK S2 a (l ++ [c]) ∧ Same (fun q k => (q = a ∧ k = 1) ∨ q = a + 1) S S2 := by
  obtain ⟨h1, h2, h3⟩ := h
  have hs : Same (fun q k => (q = a ∧ k = 1) ∨ q = a + 1) S (wI (wI S (a + 1) l.length (zI c)) a 1 (zI ((l.length : Int) + ((1 : Nat) : Int)))) := (Same.rfl' (P := fun q k => (q = a ∧ k = 1) ∨ q = a + 1)) |>.wI (by omega) |>.wI (by omega)
  have hll : (l ++ [c]).length = l.length + 1 := by simp
  refine ⟨_, ?_, ⟨by omega, by rw [hll]; simp (disch := omega) only [nI_z, zI_add, zI_sub, zI_mul, zI_m1, ckI_z, zI_clamp, Int.toNat_natCast, bnd_some, lt, rd_same, rd_ne, rdL_same, rdL_ne, wI_2, wL_1, if_true, if_false, iT_lt, iF_lt, iT_lt0, iF_lt0, iT_0lt, iF_0lt, iT_le, iF_le, iT_le0, iF_le0, iT_0le, iF_0le, iT_eq, iF_eq, iT_eq0, iF_eq0]; rfl, h3.push2 (by simp (disch := omega) only [nI_z, zI_add, zI_sub, zI_mul, zI_m1, ckI_z, zI_clamp, Int.toNat_natCast, bnd_some, lt, rd_same, rd_ne, rdL_same, rdL_ne, wI_2, wL_1, if_true, if_false, iT_lt, iF_lt, iT_lt0, iF_lt0, iT_0lt, iF_0lt, iT_le, iF_le, iT_le0, iF_le0, iT_0le, iF_0le, iT_eq, iF_eq, iT_eq0, iF_eq0]) (fun k hk => by simp (disch := omega) only [nI_z, zI_add, zI_sub, zI_mul, zI_m1, ckI_z, zI_clamp, Int.toNat_natCast, bnd_some, lt, rd_same, rd_ne, rdL_same, rdL_ne, wI_2, wL_1, if_true, if_false, iT_lt, iF_lt, iT_lt0, iF_lt0, iT_0lt, iF_0lt, iT_le, iF_le, iT_le0, iF_le0, iT_0le, iF_0le, iT_eq, iF_eq, iT_eq0, iF_eq0])⟩, hs⟩
  unfold f1_write
  simp (disch := omega) only [h2, nI_z, zI_add, zI_sub, zI_mul, zI_m1, ckI_z, zI_clamp, Int.toNat_natCast, bnd_some, lt, rd_same, rd_ne, rdL_same, rdL_ne, wI_2, wL_1, if_true, if_false, iT_lt, iF_lt, iT_lt0, iF_lt0, iT_0lt, iF_0lt, iT_le, iF_le, iT_le0, iF_le0, iT_0le, iF_0le, iT_eq, iF_eq, iT_eq0, iF_eq0]
theorem write_d {S : St} {a : Nat} {x : Int32} (h : AD S a) : ∃ S2, f1_write a x S = some ((), S2) ∧ AD S2 a ∧ Same (fun q k => (q = a ∧ k = 1) ∨ q = a + 1) S S2 := by
  obtain ⟨l, h1, h2⟩ := h
  by_cases e : l = 60
  · refine ⟨S, ?_, ⟨l, h1, h2⟩, Same.rfl'⟩
    unfold f1_write
    simp (disch := omega) only [h2, nI_z, zI_add, zI_sub, zI_mul, zI_m1, ckI_z, zI_clamp, Int.toNat_natCast, bnd_some, lt, rd_same, rd_ne, rdL_same, rdL_ne, wI_2, wL_1, if_true, if_false, iT_lt, iF_lt, iT_lt0, iF_lt0, iT_0lt, iF_0lt, iT_le, iF_le, iT_le0, iF_le0, iT_0le, iF_0le, iT_eq, iF_eq, iT_eq0, iF_eq0]
  · have hs : Same (fun q k => (q = a ∧ k = 1) ∨ q = a + 1) S (wI (wI S (a + 1) l x) a 1 (zI ((l : Int) + ((1 : Nat) : Int)))) := (Same.rfl' (P := fun q k => (q = a ∧ k = 1) ∨ q = a + 1)) |>.wI (by omega) |>.wI (by omega)
    refine ⟨_, ?_, ⟨l + 1, by omega, by simp (disch := omega) only [nI_z, zI_add, zI_sub, zI_mul, zI_m1, ckI_z, zI_clamp, Int.toNat_natCast, bnd_some, lt, rd_same, rd_ne, rdL_same, rdL_ne, wI_2, wL_1, if_true, if_false, iT_lt, iF_lt, iT_lt0, iF_lt0, iT_0lt, iF_0lt, iT_le, iF_le, iT_le0, iF_le0, iT_0le, iF_0le, iT_eq, iF_eq, iT_eq0, iF_eq0]; rfl⟩, hs⟩
    unfold f1_write
    simp (disch := omega) only [h2, nI_z, zI_add, zI_sub, zI_mul, zI_m1, ckI_z, zI_clamp, Int.toNat_natCast, bnd_some, lt, rd_same, rd_ne, rdL_same, rdL_ne, wI_2, wL_1, if_true, if_false, iT_lt, iF_lt, iT_lt0, iF_lt0, iT_0lt, iF_0lt, iT_le, iF_le, iT_le0, iF_le0, iT_0le, iF_0le, iT_eq, iF_eq, iT_eq0, iF_eq0]
theorem TL.same {P : Nat → Nat → Prop} {S S2 : St} {T : Nat → Nat} {n p : Nat} (h : TL S T n p) (hs : Same P S S2) (h1 : ∀ k, ¬ P 11 k) (h2 : ∀ k, ¬ P 12 k) : TL S2 T n p := ⟨h.1.same hs (h1 1) h2, h.2.1, by rw [hs.i (h1 2)]; exact h.2.2.1, by rw [hs.i (h1 3)]; exact h.2.2.2⟩
theorem TD.same {P : Nat → Nat → Prop} {S S2 : St} {T : Nat → Nat} {n e : Nat} (h : TD S T n e) (hs : Same P S S2) (h1 : ∀ k, ¬ P 11 k) (h2 : ∀ k, ¬ P 12 k) : TD S2 T n e := ⟨h.1.same hs (h1 1) h2, h.2.1, by rw [hs.i (h1 3)]; exact h.2.2⟩
theorem AK.same {P : Nat → Nat → Prop} {S S2 : St} {a : Nat} {l : List Nat} (h : AK S a l) (hs : Same P S S2) (h1 : ¬ P a 1) (h2 : ∀ k, ¬ P (a + 1) k) : AK S2 a l := ⟨h.1, by rw [hs.i h1]; exact h.2.1, h.2.2.same hs h2⟩
theorem AD.same {P : Nat → Nat → Prop} {S S2 : St} {a : Nat} (h : AD S a) (hs : Same P S S2) (h1 : ¬ P a 1) : AD S2 a := by
  obtain ⟨l, q1, q2⟩ := h
  exact ⟨l, q1, by rw [hs.i h1]; exact q2⟩
/-- the place moves on -/
theorem TL.go {S : St} {T : Nat → Nat} {n p : Nat} (h : TL S T n p) (hp : p < n) : TL (wI S 11 2 (zI ((p : Int) + ((1 : Nat) : Int)))) T n (p + 1) ∧ Same (fun c k => c = 11 ∧ k = 2) S (wI S 11 2 (zI ((p : Int) + ((1 : Nat) : Int)))) := by
  have hs : Same (fun c k => c = 11 ∧ k = 2) S (wI S 11 2 (zI ((p : Int) + ((1 : Nat) : Int)))) := (Same.rfl' (P := fun c k => c = 11 ∧ k = 2)).wI ⟨rfl, rfl⟩
  exact ⟨⟨h.1.same hs (by omega) (fun k => by omega), by omega, by simp (disch := omega) only [nI_z, zI_add, zI_sub, zI_mul, zI_m1, ckI_z, zI_clamp, Int.toNat_natCast, bnd_some, lt, rd_same, rd_ne, rdL_same, rdL_ne, wI_2, wL_1, if_true, if_false, iT_lt, iF_lt, iT_lt0, iF_lt0, iT_0lt, iF_0lt, iT_le, iF_le, iT_le0, iF_le0, iT_0le, iF_0le, iT_eq, iF_eq, iT_eq0, iF_eq0]; rfl, by rw [hs.i (by omega)]; exact h.2.2.2⟩, hs⟩
theorem fail_l {S : St} {T : Nat → Nat} {n p : Nat} (h : TL S T n p) : ∃ S2, f9_fail S = some ((), S2) ∧ TD S2 T n p ∧ Same (fun c k => c = 11 ∧ k = 3) S S2 := by
  obtain ⟨h1, h2, h3, h4⟩ := h
  have hs : Same (fun c k => c = 11 ∧ k = 3) S (wI S 11 3 (zI p)) := (Same.rfl' (P := fun c k => c = 11 ∧ k = 3)).wI ⟨rfl, rfl⟩
  refine ⟨_, ?_, ⟨h1.same hs (by omega) (fun k => by omega), h2, by simp (disch := omega) only [nI_z, zI_add, zI_sub, zI_mul, zI_m1, ckI_z, zI_clamp, Int.toNat_natCast, bnd_some, lt, rd_same, rd_ne, rdL_same, rdL_ne, wI_2, wL_1, if_true, if_false, iT_lt, iF_lt, iT_lt0, iF_lt0, iT_0lt, iF_0lt, iT_le, iF_le, iT_le0, iF_le0, iT_0le, iF_0le, iT_eq, iF_eq, iT_eq0, iF_eq0]⟩, hs⟩
  unfold f9_fail
  simp (disch := omega) only [h4, h3, nI_z, zI_add, zI_sub, zI_mul, zI_m1, ckI_z, zI_clamp, Int.toNat_natCast, bnd_some, lt, rd_same, rd_ne, rdL_same, rdL_ne, wI_2, wL_1, if_true, if_false, iT_lt, iF_lt, iT_lt0, iF_lt0, iT_0lt, iF_0lt, iT_le, iF_le, iT_le0, iF_le0, iT_0le, iF_0le, iT_eq, iF_eq, iT_eq0, iF_eq0]
theorem fail_d {S : St} {T : Nat → Nat} {n e : Nat} (h : TD S T n e) : f9_fail S = some ((), S) := by
  obtain ⟨⟨h0, h1, h2, h3⟩, h4, h5⟩ := h
  unfold f9_fail
  simp (disch := omega) only [h5, nI_z, zI_add, zI_sub, zI_mul, zI_m1, ckI_z, zI_clamp, Int.toNat_natCast, bnd_some, lt, rd_same, rd_ne, rdL_same, rdL_ne, wI_2, wL_1, if_true, if_false, iT_lt, iF_lt, iT_lt0, iF_lt0, iT_0lt, iF_0lt, iT_le, iF_le, iT_le0, iF_le0, iT_0le, iF_0le, iT_eq, iF_eq, iT_eq0, iF_eq0]
theorem isDig (z : Int) (S : St) (hz : -1 ≤ z ∧ z < 256) : f9_isDigit (zI z) S = some (bI (48 ≤ z ∧ z ≤ 57), S) := by
  unfold f9_isDigit
  by_cases c1 : z < 48
  · rw [bI_f (by omega)]; simp (disch := omega) only [nI_z, zI_add, zI_sub, zI_mul, zI_m1, ckI_z, zI_clamp, Int.toNat_natCast, bnd_some, lt, rd_same, rd_ne, rdL_same, rdL_ne, wI_2, wL_1, if_true, if_false, iT_lt, iF_lt, iT_lt0, iF_lt0, iT_0lt, iF_0lt, iT_le, iF_le, iT_le0, iF_le0, iT_0le, iF_0le, iT_eq, iF_eq, iT_eq0, iF_eq0]; rfl
  · by_cases c2 : 57 < z
    · rw [bI_f (by omega)]; simp (disch := omega) only [nI_z, zI_add, zI_sub, zI_mul, zI_m1, ckI_z, zI_clamp, Int.toNat_natCast, bnd_some, lt, rd_same, rd_ne, rdL_same, rdL_ne, wI_2, wL_1, if_true, if_false, iT_lt, iF_lt, iT_lt0, iF_lt0, iT_0lt, iF_0lt, iT_le, iF_le, iT_le0, iF_le0, iT_0le, iF_0le, iT_eq, iF_eq, iT_eq0, iF_eq0]; rfl
    · rw [bI_t (by omega)]; simp (disch := omega) only [nI_z, zI_add, zI_sub, zI_mul, zI_m1, ckI_z, zI_clamp, Int.toNat_natCast, bnd_some, lt, rd_same, rd_ne, rdL_same, rdL_ne, wI_2, wL_1, if_true, if_false, iT_lt, iF_lt, iT_lt0, iF_lt0, iT_0lt, iF_0lt, iT_le, iF_le, iT_le0, iF_le0, iT_0le, iF_0le, iT_eq, iF_eq, iT_eq0, iF_eq0]; rfl
theorem isName_c (z : Int) (S : St) (hz : -1 ≤ z ∧ z < 1000) : f1_isName (zI z) S = some (bI (z = 110 ∨ z = 102 ∨ z = 108 ∨ z = 109 ∨ z = 120 ∨ z = 97 ∨ z = 98), S) := by
  unfold f1_isName
  by_cases c1 : z = 110
  · rw [bI_t (by omega)]; simp (disch := omega) only [nI_z, zI_add, zI_sub, zI_mul, zI_m1, ckI_z, zI_clamp, Int.toNat_natCast, bnd_some, lt, rd_same, rd_ne, rdL_same, rdL_ne, wI_2, wL_1, if_true, if_false, iT_lt, iF_lt, iT_lt0, iF_lt0, iT_0lt, iF_0lt, iT_le, iF_le, iT_le0, iF_le0, iT_0le, iF_0le, iT_eq, iF_eq, iT_eq0, iF_eq0]; rfl
  by_cases c2 : z = 102
  · rw [bI_t (by omega)]; simp (disch := omega) only [nI_z, zI_add, zI_sub, zI_mul, zI_m1, ckI_z, zI_clamp, Int.toNat_natCast, bnd_some, lt, rd_same, rd_ne, rdL_same, rdL_ne, wI_2, wL_1, if_true, if_false, iT_lt, iF_lt, iT_lt0, iF_lt0, iT_0lt, iF_0lt, iT_le, iF_le, iT_le0, iF_le0, iT_0le, iF_0le, iT_eq, iF_eq, iT_eq0, iF_eq0]; rfl
  by_cases c3 : z = 108
  · rw [bI_t (by omega)]; simp (disch := omega) only [nI_z, zI_add, zI_sub, zI_mul, zI_m1, ckI_z, zI_clamp, Int.toNat_natCast, bnd_some, lt, rd_same, rd_ne, rdL_same, rdL_ne, wI_2, wL_1, if_true, if_false, iT_lt, iF_lt, iT_lt0, iF_lt0, iT_0lt, iF_0lt, iT_le, iF_le, iT_le0, iF_le0, iT_0le, iF_0le, iT_eq, iF_eq, iT_eq0, iF_eq0]; rfl
  by_cases c4 : z = 109
  · rw [bI_t (by omega)]; simp (disch := omega) only [nI_z, zI_add, zI_sub, zI_mul, zI_m1, ckI_z, zI_clamp, Int.toNat_natCast, bnd_some, lt, rd_same, rd_ne, rdL_same, rdL_ne, wI_2, wL_1, if_true, if_false, iT_lt, iF_lt, iT_lt0, iF_lt0, iT_0lt, iF_0lt, iT_le, iF_le, iT_le0, iF_le0, iT_0le, iF_0le, iT_eq, iF_eq, iT_eq0, iF_eq0]; rfl
  by_cases c5 : z = 120
  · rw [bI_t (by omega)]; simp (disch := omega) only [nI_z, zI_add, zI_sub, zI_mul, zI_m1, ckI_z, zI_clamp, Int.toNat_natCast, bnd_some, lt, rd_same, rd_ne, rdL_same, rdL_ne, wI_2, wL_1, if_true, if_false, iT_lt, iF_lt, iT_lt0, iF_lt0, iT_0lt, iF_0lt, iT_le, iF_le, iT_le0, iF_le0, iT_0le, iF_0le, iT_eq, iF_eq, iT_eq0, iF_eq0]; rfl
  by_cases c6 : z = 97
  · rw [bI_t (by omega)]; simp (disch := omega) only [nI_z, zI_add, zI_sub, zI_mul, zI_m1, ckI_z, zI_clamp, Int.toNat_natCast, bnd_some, lt, rd_same, rd_ne, rdL_same, rdL_ne, wI_2, wL_1, if_true, if_false, iT_lt, iF_lt, iT_lt0, iF_lt0, iT_0lt, iF_0lt, iT_le, iF_le, iT_le0, iF_le0, iT_0le, iF_0le, iT_eq, iF_eq, iT_eq0, iF_eq0]; rfl
  by_cases c7 : z = 98
  · rw [bI_t (by omega)]; simp (disch := omega) only [nI_z, zI_add, zI_sub, zI_mul, zI_m1, ckI_z, zI_clamp, Int.toNat_natCast, bnd_some, lt, rd_same, rd_ne, rdL_same, rdL_ne, wI_2, wL_1, if_true, if_false, iT_lt, iF_lt, iT_lt0, iF_lt0, iT_0lt, iF_0lt, iT_le, iF_le, iT_le0, iF_le0, iT_0le, iF_0le, iT_eq, iF_eq, iT_eq0, iF_eq0]; rfl
  · rw [bI_f (by omega)]; simp (disch := omega) only [nI_z, zI_add, zI_sub, zI_mul, zI_m1, ckI_z, zI_clamp, Int.toNat_natCast, bnd_some, lt, rd_same, rd_ne, rdL_same, rdL_ne, wI_2, wL_1, if_true, if_false, iT_lt, iF_lt, iT_lt0, iF_lt0, iT_0lt, iF_0lt, iT_le, iF_le, iT_le0, iF_le0, iT_0le, iF_0le, iT_eq, iF_eq, iT_eq0, iF_eq0]; rfl
/-- the digits -/
theorem dig_c {N a n : Nat} {T : Nat → Nat} : ∀ (m v c p k : Nat) (S : St), c + m = 3 → m < k → TL S T n p → v + 1 ≤ 10 ^ c → ∃ S2, f9_readOperand_h4 N a k (zI v) (zI c) S = f9_readOperand_j48 N a (zI (pdig T n m v c p).1) (zI (pdig T n m v c p).2.1) S2 ∧ TL S2 T n (pdig T n m v c p).2.2 ∧ Same (fun c k => c = 11 ∧ k = 2) S S2 := by
  intro m
  induction m with
  | zero =>
    intro v c p k S hc hk h hv
    obtain ⟨k, rfl⟩ : ∃ z, k = z + 1 := ⟨k - 1, by omega⟩
    obtain rfl : c = 3 := by omega
    refine ⟨S, ?_, h, Same.rfl'⟩
    have hpd : pdig T n 0 v 3 p = (v, 3, p) := rfl
    rw [hpd, f9_readOperand_h4]
    simp (disch := omega) only [nI_z, zI_add, zI_sub, zI_mul, zI_m1, ckI_z, zI_clamp, Int.toNat_natCast, bnd_some, lt, rd_same, rd_ne, rdL_same, rdL_ne, wI_2, wL_1, if_true, if_false, iT_lt, iF_lt, iT_lt0, iF_lt0, iT_0lt, iF_0lt, iT_le, iF_le, iT_le0, iF_le0, iT_0le, iF_0le, iT_eq, iF_eq, iT_eq0, iF_eq0]
  | succ m ih =>
    intro v c p k S hc hk h hv
    obtain ⟨k, rfl⟩ : ∃ z, k = z + 1 := ⟨k - 1, by omega⟩
    obtain ⟨z, z1, z2, z3, z4, z5, z6⟩ := here_l2 h
    have hd := isDig z S ⟨z2, z3⟩
    have hv3 : 10 ^ c ≤ 10 ^ 3 := Nat.pow_le_pow_right (by omega) (by omega)
    unfold pdig
    by_cases e : 48 ≤ hr T n p ∧ hr T n p ≤ 57
    · rw [if_pos e]
      have hz := z5 (by omega)
      have hp := (hr_pos (T := T) (n := n) (p := p) (by omega)).1
      obtain ⟨g1, g2⟩ := h.go hp
      have h2 := h.2.2.1
      obtain ⟨S2, f1, f2, f3⟩ := ih (10 * v + hr T n p - 48) (c + 1) (p + 1) k _ (by omega) (by omega) g1 (by rw [Nat.pow_succ]; omega)
      refine ⟨S2, ?_, f2, g2.tr f3⟩
      have hzz : zI ((v : Int) * ((10 : Nat) : Int) + z - ((48 : Nat) : Int)) = zI ((10 * v + hr T n p - 48 : Nat) : Int) := by congr 1; omega
      have hz1 : zI ((c : Int) + ((1 : Nat) : Int)) = zI ((c + 1 : Nat) : Int) := rfl
      rw [f9_readOperand_h4]
      simp (disch := omega) only [iT_b, iF_b, z1, hd, h2, hzz, hz1, nI_z, zI_add, zI_sub, zI_mul, zI_m1, ckI_z, zI_clamp, Int.toNat_natCast, bnd_some, lt, rd_same, rd_ne, rdL_same, rdL_ne, wI_2, wL_1, if_true, if_false, iT_lt, iF_lt, iT_lt0, iF_lt0, iT_0lt, iF_0lt, iT_le, iF_le, iT_le0, iF_le0, iT_0le, iF_0le, iT_eq, iF_eq, iT_eq0, iF_eq0]
      exact f1
    · rw [if_neg e]
      have hz : ¬ (48 ≤ z ∧ z ≤ 57) := fun q => by
        have := (z4 z.toNat (by omega)).mp (by omega)
        omega
      refine ⟨S, ?_, h, Same.rfl'⟩
      rw [f9_readOperand_h4]
      simp (disch := omega) only [iT_b, iF_b, z1, hd, nI_z, zI_add, zI_sub, zI_mul, zI_m1, ckI_z, zI_clamp, Int.toNat_natCast, bnd_some, lt, rd_same, rd_ne, rdL_same, rdL_ne, wI_2, wL_1, if_true, if_false, iT_lt, iF_lt, iT_lt0, iF_lt0, iT_0lt, iF_0lt, iT_le, iF_le, iT_le0, iF_le0, iT_0le, iF_0le, iT_eq, iF_eq, iT_eq0, iF_eq0]
theorem operand_c {N a n p : Nat} {T : Nat → Nat} {S : St} {l : List Nat} (hN : 50 ≤ N) (ha : 12 < a) (h : TL S T n p) (hl : AK S a l) (hll : l.length ≤ p) : ∃ S2, f9_readOperand N a S = some ((), S2) ∧ RC S2 T n a l (pOne T n p) ∧ Same (tpP a) S S2 := by
  obtain ⟨S1, a1, a2, a3⟩ := dig_c (N := N) (a := a) 3 0 0 p N S (by omega) (by omega) h (by decide)
  have hd := pdig_ok (T := T) (n := n) 3 0 0 p h.2.1
  have hn60 := h.1.1
  have hpn := h.2.1
  have a1' : f9_readOperand N a S = f9_readOperand_j48 N a (zI (pdig T n 3 0 0 p).1) (zI (pdig T n 3 0 0 p).2.1) S1 := by
    unfold f9_readOperand
    simp (disch := omega) only [nI_z, zI_add, zI_sub, zI_mul, zI_m1, ckI_z, zI_clamp, Int.toNat_natCast, bnd_some, lt, rd_same, rd_ne, rdL_same, rdL_ne, wI_2, wL_1, if_true, if_false, iT_lt, iF_lt, iT_lt0, iF_lt0, iT_0lt, iF_0lt, iT_le, iF_le, iT_le0, iF_le0, iT_0le, iF_0le, iT_eq, iF_eq, iT_eq0, iF_eq0]
    exact a1
  have hl1 : AK S1 a l := hl.same a3 (by omega) (fun k => by omega)
  have s1 : Same (tpP a) S S1 := a3.mono (fun c k z => by unfold tpP; omega)
  rw [a1']
  obtain ⟨d1, d2, d3, d4, d5⟩ := hd
  have d6 := d5 (by decide) (by omega)
  unfold pOne
  by_cases e : isNb (hr T n p) = true
  · rw [if_pos e]
    have hin : isN (hr T n p) := isNb_iff.mp e
    have hc0 : pdig T n 3 0 0 p = (0, 0, p) := by
      unfold pdig
      rw [if_neg]
      unfold isN at hin
      omega
    rw [hc0] at a2 ⊢
    have a2 : TL S1 T n p := a2
    obtain ⟨z, z1, z2, z3, z4, z5, z6⟩ := here_l2 a2
    have hz := z5 (by unfold isN at hin; omega)
    have hp := (hr_pos (T := T) (n := n) (p := p) (by unfold isN at hin; omega)).1
    have hnm := isName_c z S1 ⟨z2, by omega⟩
    have hnm1 : (z = 110 ∨ z = 102 ∨ z = 108 ∨ z = 109 ∨ z = 120 ∨ z = 97 ∨ z = 98) := by unfold isN at hin; omega
    obtain ⟨S2, b1, b2, b3⟩ := write_k (c := hr T n p) hl1 (by omega)
    have t2 : TL S2 T n p := a2.same b3 (fun k => by omega) (fun k => by omega)
    obtain ⟨g1, g2⟩ := t2.go hp
    have h2 := t2.2.2.1
    refine ⟨_, ?_, ⟨g1, b2.same g2 (by omega) (fun k => by omega)⟩, (s1.tr (b3.mono (fun c k z => by unfold tpP; omega))).tr (g2.mono (fun c k z => by unfold tpP; omega))⟩
    rw [← hz] at b1
    unfold f9_readOperand_j48
    simp (disch := omega) only [iT_b, iF_b, z1, hnm, b1, h2, nI_z, zI_add, zI_sub, zI_mul, zI_m1, ckI_z, zI_clamp, Int.toNat_natCast, bnd_some, lt, rd_same, rd_ne, rdL_same, rdL_ne, wI_2, wL_1, if_true, if_false, iT_lt, iF_lt, iT_lt0, iF_lt0, iT_0lt, iF_0lt, iT_le, iF_le, iT_le0, iF_le0, iT_0le, iF_0le, iT_eq, iF_eq, iT_eq0, iF_eq0]
  · rw [if_neg e]
    have hin : ¬ isN (hr T n p) := fun q => e (isNb_iff.mpr q)
    by_cases c : (pdig T n 3 0 0 p).2.1 = 0
    · rw [if_pos c]
      have hp0 : (pdig T n 3 0 0 p).2.2 = p := by omega
      rw [hp0] at a2
      obtain ⟨z, z1, z2, z3, z4, z5, z6⟩ := here_l2 a2
      have hnm := isName_c z S1 ⟨z2, by omega⟩
      have hnm0 : ¬ (z = 110 ∨ z = 102 ∨ z = 108 ∨ z = 109 ∨ z = 120 ∨ z = 97 ∨ z = 98) := fun q => by
        have := (z4 z.toNat (by omega)).mp (by omega)
        exact hin (by unfold isN; omega)
      obtain ⟨S2, b1, b2, b3⟩ := fail_l a2
      refine ⟨S2, ?_, ⟨b2, (hl1.same b3 (by omega) (fun k => by omega)).ad⟩, s1.tr (b3.mono (fun c k z => by unfold tpP; omega))⟩
      unfold f9_readOperand_j48
      rw [c]
      simp (disch := omega) only [iT_b, iF_b, z1, hnm, b1, nI_z, zI_add, zI_sub, zI_mul, zI_m1, ckI_z, zI_clamp, Int.toNat_natCast, bnd_some, lt, rd_same, rd_ne, rdL_same, rdL_ne, wI_2, wL_1, if_true, if_false, iT_lt, iF_lt, iT_lt0, iF_lt0, iT_0lt, iF_0lt, iT_le, iF_le, iT_le0, iF_le0, iT_0le, iF_0le, iT_eq, iF_eq, iT_eq0, iF_eq0]
    · rw [if_neg c]
      obtain ⟨S2, b1, b2, b3⟩ := write_k (c := 256 + (pdig T n 3 0 0 p).1) hl1 (by omega)
      have hzz : zI (((256 : Nat) : Int) + ((pdig T n 3 0 0 p).1 : Int)) = zI ((256 + (pdig T n 3 0 0 p).1 : Nat) : Int) := rfl
      refine ⟨S2, ?_, ⟨a2.same b3 (fun k => by omega) (fun k => by omega), b2⟩, s1.tr (b3.mono (fun c k z => by unfold tpP; omega))⟩
      unfold f9_readOperand_j48
      simp (disch := omega) only [hzz, b1, nI_z, zI_add, zI_sub, zI_mul, zI_m1, ckI_z, zI_clamp, Int.toNat_natCast, bnd_some, lt, rd_same, rd_ne, rdL_same, rdL_ne, wI_2, wL_1, if_true, if_false, iT_lt, iF_lt, iT_lt0, iF_lt0, iT_0lt, iF_0lt, iT_le, iF_le, iT_le0, iF_le0, iT_0le, iF_0le, iT_eq, iF_eq, iT_eq0, iF_eq0]
theorem operand_d {N a n e : Nat} {T : Nat → Nat} {S : St} (hN : 50 ≤ N) (h : TD S T n e) : f9_readOperand N a S = some ((), S) := by
  have hh := here_d h
  have hd := isDig (-1) S (by omega)
  have hnm := isName_c (-1) S (by omega)
  have hf := fail_d h
  obtain ⟨k, rfl⟩ : ∃ z, N = z + 1 := ⟨N - 1, by omega⟩
  unfold f9_readOperand
  rw [f9_readOperand_h4]
  simp (disch := omega) only [iT_b, iF_b, hh, hd, nI_z, zI_add, zI_sub, zI_mul, zI_m1, ckI_z, zI_clamp, Int.toNat_natCast, bnd_some, lt, rd_same, rd_ne, rdL_same, rdL_ne, wI_2, wL_1, if_true, if_false, iT_lt, iF_lt, iT_lt0, iF_lt0, iT_0lt, iF_0lt, iT_le, iF_le, iT_le0, iF_le0, iT_0le, iF_0le, iT_eq, iF_eq, iT_eq0, iF_eq0]
  unfold f9_readOperand_j48
  simp (disch := omega) only [iT_b, iF_b, hh, hnm, hf, nI_z, zI_add, zI_sub, zI_mul, zI_m1, ckI_z, zI_clamp, Int.toNat_natCast, bnd_some, lt, rd_same, rd_ne, rdL_same, rdL_ne, wI_2, wL_1, if_true, if_false, iT_lt, iF_lt, iT_lt0, iF_lt0, iT_0lt, iF_0lt, iT_le, iF_le, iT_le0, iF_le0, iT_0le, iF_0le, iT_eq, iF_eq, iT_eq0, iF_eq0]
