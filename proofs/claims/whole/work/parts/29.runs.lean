/-! The calls run and ran on both sides. -/
theorem isNum (x : Int) (S : St) (hx : -2147483648 ≤ x ∧ x < 2147483648) : f11_isNumber (zI x) S = some (bI (0 ≤ x ∧ x ≤ 999), S) := by
  unfold f11_isNumber
  by_cases e : x < 0
  · rw [bI_f (by omega)]; simp (disch := omega) only [nI_z, zI_add, zI_sub, zI_mul, zI_m1, ckI_z, zI_clamp, Int.toNat_natCast, bnd_some, lt, rd_same, rd_ne, rdL_same, rdL_ne, wI_2, wL_1, if_true, if_false, iT_lt, iF_lt, iT_lt0, iF_lt0, iT_0lt, iF_0lt, iT_le, iF_le, iT_le0, iF_le0, iT_0le, iF_0le, iT_eq, iF_eq, iT_eq0, iF_eq0]; rfl
  · by_cases e1 : x < 1000
    · rw [bI_t (by omega)]; simp (disch := omega) only [nI_z, zI_add, zI_sub, zI_mul, zI_m1, ckI_z, zI_clamp, Int.toNat_natCast, bnd_some, lt, rd_same, rd_ne, rdL_same, rdL_ne, wI_2, wL_1, if_true, if_false, iT_lt, iF_lt, iT_lt0, iF_lt0, iT_0lt, iF_0lt, iT_le, iF_le, iT_le0, iF_le0, iT_0le, iF_0le, iT_eq, iF_eq, iT_eq0, iF_eq0]; rfl
    · rw [bI_f (by omega)]; simp (disch := omega) only [nI_z, zI_add, zI_sub, zI_mul, zI_m1, ckI_z, zI_clamp, Int.toNat_natCast, bnd_some, lt, rd_same, rd_ne, rdL_same, rdL_ne, wI_2, wL_1, if_true, if_false, iT_lt, iF_lt, iT_lt0, iF_lt0, iT_0lt, iF_0lt, iT_le, iF_le, iT_le0, iF_le0, iT_0le, iF_0le, iT_eq, iF_eq, iT_eq0, iF_eq0]; rfl
theorem within_n (x : Int) (b c : Nat) (S : St) (hx : -2147483648 ≤ x ∧ x < 2147483648) (hb : b < 2147483648) (hc : c < 2147483648) : f12_within ((zI x).toInt64) (lN b) (lN c) S = some (bI ((b : Int) ≤ x ∧ x ≤ (c : Int)), S) := by
  rw [lN_z b hb, lN_z c hc]
  exact within_64 x _ _ S hx (by omega) (by omega)
theorem isNum_m (x : Int) (S : St) (hx : -2147483648 ≤ x ∧ x < 2147483648) : f12_within ((zI x).toInt64) (lN 0) (lN 999) S = some (bI (0 ≤ x ∧ x ≤ 999), S) := within_n x 0 999 S hx (by omega) (by omega)
/-- the latest run, as both sides keep it -/
def Qrun (S : St) (R : Option (Mc × Nat)) : Prop := match R with
  | none => S.1 0 6 = zI ((0 : Nat) : Int) ∧ S.1 146 21 = zI (-1)
  | some (m, s) => MIq m ∧ s ≤ 999 ∧ (S.1 0 6 = zI ((1 : Nat) : Int) ∧ S.1 10 0 = zI s ∧ S.1 10 1 = zI m.1 ∧ S.1 10 2 = zI m.2.1 ∧ S.1 10 3 = zI m.2.2.2.1.length ∧ Held (S.1 10) 4 m.2.2.2.1) ∧ S.1 146 21 = zI s ∧ S.1 146 22 = zI m.1 ∧ S.1 146 23 = zI m.2.1 ∧ S.1 146 24 = zI m.2.2.2.1.length ∧ Held (S.1 159) 0 m.2.2.2.1
def qrP (c k : Nat) : Prop := (c = 0 ∧ k = 6) ∨ c = 10 ∨ (c = 146 ∧ 21 ≤ k ∧ k ≤ 24) ∨ c = 159
theorem Held.same {P : Nat → Nat → Prop} {S S2 : St} {a o : Nat} {l : List Nat} (h : Held (S.1 a) o l) (hs : Same P S S2) (hd : ∀ k, ¬ P a k) : Held (S2.1 a) o l := by rw [hs.row hd]; exact h
theorem Qrun.same {P : Nat → Nat → Prop} {S S2 : St} {R : Option (Mc × Nat)} (h : Qrun S R) (hs : Same P S S2) (hd : ∀ c k, qrP c k → ¬ P c k) : Qrun S2 R := by
  cases R with
  | none =>
    obtain ⟨h1, h2⟩ := h
    exact ⟨by rw [hs.i (hd 0 6 (by unfold qrP; omega))]; exact h1, by rw [hs.i (hd 146 21 (by unfold qrP; omega))]; exact h2⟩
  | some q =>
    obtain ⟨m, s⟩ := q
    obtain ⟨h1, h2, ⟨a1, a2, a3, a4, a5, a6⟩, b1, b2, b3, b4, b5⟩ := h
    have r10 := hs.row (a := 10) (fun k => hd 10 k (by unfold qrP; omega))
    exact ⟨h1, h2, ⟨by rw [hs.i (hd 0 6 (by unfold qrP; omega))]; exact a1, by rw [r10]; exact a2, by rw [r10]; exact a3, by rw [r10]; exact a4, by rw [r10]; exact a5, by rw [r10]; exact a6⟩, by rw [hs.i (hd 146 21 (by unfold qrP; omega))]; exact b1, by rw [hs.i (hd 146 22 (by unfold qrP; omega))]; exact b2, by rw [hs.i (hd 146 23 (by unfold qrP; omega))]; exact b3, by rw [hs.i (hd 146 24 (by unfold qrP; omega))]; exact b4, b5.same hs (fun k => hd 159 k (by unfold qrP; omega))⟩
theorem c_ran {S : St} {R : Option (Mc × Nat)} (h : Qrun S R) (x : Int32) : ∃ r, f11_ran x S = some (r, S) ∧ f12_ran x S = some (r, S) := by
  have hx := xrng x
  rw [zI_of x]
  generalize x.toInt = z at hx
  cases R with
  | none =>
    obtain ⟨h1, h2⟩ := h
    refine ⟨zI (-1), ?_, ?_⟩
    · unfold f11_ran; simp (disch := omega) only [h1, nI_z, zI_add, zI_sub, zI_mul, zI_m1, ckI_z, zI_clamp, Int.toNat_natCast, bnd_some, lt, rd_same, rd_ne, rdL_same, rdL_ne, wI_2, wL_1, if_true, if_false, iT_lt, iF_lt, iT_lt0, iF_lt0, iT_0lt, iF_0lt, iT_le, iF_le, iT_le0, iF_le0, iT_0le, iF_0le, iT_eq, iF_eq, iT_eq0, iF_eq0]
    · unfold f12_ran; simp (disch := omega) only [h2, nI_z, zI_add, zI_sub, zI_mul, zI_m1, ckI_z, zI_clamp, Int.toNat_natCast, bnd_some, lt, rd_same, rd_ne, rdL_same, rdL_ne, wI_2, wL_1, if_true, if_false, iT_lt, iF_lt, iT_lt0, iF_lt0, iT_0lt, iF_0lt, iT_le, iF_le, iT_le0, iF_le0, iT_0le, iF_0le, iT_eq, iF_eq, iT_eq0, iF_eq0]
  | some q =>
    obtain ⟨m, s⟩ := q
    obtain ⟨⟨m1, m2, m3, m4⟩, h2, ⟨a1, a2, a3, a4, a5, a6⟩, b1, b2, b3, b4, b5⟩ := h
    by_cases z0 : z = 0
    · subst z0
      exact ⟨zI s, by unfold f11_ran; simp (disch := omega) only [a1, a2, nI_z, zI_add, zI_sub, zI_mul, zI_m1, ckI_z, zI_clamp, Int.toNat_natCast, bnd_some, lt, rd_same, rd_ne, rdL_same, rdL_ne, wI_2, wL_1, if_true, if_false, iT_lt, iF_lt, iT_lt0, iF_lt0, iT_0lt, iF_0lt, iT_le, iF_le, iT_le0, iF_le0, iT_0le, iF_0le, iT_eq, iF_eq, iT_eq0, iF_eq0]; exact congrArg some (Prod.ext a2 rfl), by unfold f12_ran; simp (disch := omega) only [b1, sw_t, sw_f, sw_n, nI_z, zI_add, zI_sub, zI_mul, zI_m1, ckI_z, zI_clamp, Int.toNat_natCast, bnd_some, lt, rd_same, rd_ne, rdL_same, rdL_ne, wI_2, wL_1, if_true, if_false, iT_lt, iF_lt, iT_lt0, iF_lt0, iT_0lt, iF_0lt, iT_le, iF_le, iT_le0, iF_le0, iT_0le, iF_0le, iT_eq, iF_eq, iT_eq0, iF_eq0]⟩
    by_cases z1 : z = 1
    · subst z1
      exact ⟨zI m.1, by unfold f11_ran; simp (disch := omega) only [a1, nI_z, zI_add, zI_sub, zI_mul, zI_m1, ckI_z, zI_clamp, Int.toNat_natCast, bnd_some, lt, rd_same, rd_ne, rdL_same, rdL_ne, wI_2, wL_1, if_true, if_false, iT_lt, iF_lt, iT_lt0, iF_lt0, iT_0lt, iF_0lt, iT_le, iF_le, iT_le0, iF_le0, iT_0le, iF_0le, iT_eq, iF_eq, iT_eq0, iF_eq0]; exact congrArg some (Prod.ext a3 rfl), by unfold f12_ran; simp (disch := omega) only [b1, b2, sw_t, sw_f, sw_n, nI_z, zI_add, zI_sub, zI_mul, zI_m1, ckI_z, zI_clamp, Int.toNat_natCast, bnd_some, lt, rd_same, rd_ne, rdL_same, rdL_ne, wI_2, wL_1, if_true, if_false, iT_lt, iF_lt, iT_lt0, iF_lt0, iT_0lt, iF_0lt, iT_le, iF_le, iT_le0, iF_le0, iT_0le, iF_0le, iT_eq, iF_eq, iT_eq0, iF_eq0]⟩
    by_cases z2 : z = 2
    · subst z2
      exact ⟨zI m.2.1, by unfold f11_ran; simp (disch := omega) only [a1, nI_z, zI_add, zI_sub, zI_mul, zI_m1, ckI_z, zI_clamp, Int.toNat_natCast, bnd_some, lt, rd_same, rd_ne, rdL_same, rdL_ne, wI_2, wL_1, if_true, if_false, iT_lt, iF_lt, iT_lt0, iF_lt0, iT_0lt, iF_0lt, iT_le, iF_le, iT_le0, iF_le0, iT_0le, iF_0le, iT_eq, iF_eq, iT_eq0, iF_eq0]; exact congrArg some (Prod.ext a4 rfl), by unfold f12_ran; simp (disch := omega) only [b1, b3, sw_t, sw_f, sw_n, nI_z, zI_add, zI_sub, zI_mul, zI_m1, ckI_z, zI_clamp, Int.toNat_natCast, bnd_some, lt, rd_same, rd_ne, rdL_same, rdL_ne, wI_2, wL_1, if_true, if_false, iT_lt, iF_lt, iT_lt0, iF_lt0, iT_0lt, iF_0lt, iT_le, iF_le, iT_le0, iF_le0, iT_0le, iF_0le, iT_eq, iF_eq, iT_eq0, iF_eq0]⟩
    by_cases z3 : z = 3
    · subst z3
      exact ⟨zI m.2.2.2.1.length, by unfold f11_ran; simp (disch := omega) only [a1, nI_z, zI_add, zI_sub, zI_mul, zI_m1, ckI_z, zI_clamp, Int.toNat_natCast, bnd_some, lt, rd_same, rd_ne, rdL_same, rdL_ne, wI_2, wL_1, if_true, if_false, iT_lt, iF_lt, iT_lt0, iF_lt0, iT_0lt, iF_0lt, iT_le, iF_le, iT_le0, iF_le0, iT_0le, iF_0le, iT_eq, iF_eq, iT_eq0, iF_eq0]; exact congrArg some (Prod.ext a5 rfl), by unfold f12_ran; simp (disch := omega) only [b1, b4, sw_t, sw_f, sw_n, nI_z, zI_add, zI_sub, zI_mul, zI_m1, ckI_z, zI_clamp, Int.toNat_natCast, bnd_some, lt, rd_same, rd_ne, rdL_same, rdL_ne, wI_2, wL_1, if_true, if_false, iT_lt, iF_lt, iT_lt0, iF_lt0, iT_0lt, iF_0lt, iT_le, iF_le, iT_le0, iF_le0, iT_0le, iF_0le, iT_eq, iF_eq, iT_eq0, iF_eq0]⟩
    have hj : f11_ran (zI z) S = f11_ran_j25 (zI z) S := by
      unfold f11_ran
      by_cases e : z < 0
      · simp (disch := omega) only [a1, nI_z, zI_add, zI_sub, zI_mul, zI_m1, ckI_z, zI_clamp, Int.toNat_natCast, bnd_some, lt, rd_same, rd_ne, rdL_same, rdL_ne, wI_2, wL_1, if_true, if_false, iT_lt, iF_lt, iT_lt0, iF_lt0, iT_0lt, iF_0lt, iT_le, iF_le, iT_le0, iF_le0, iT_0le, iF_0le, iT_eq, iF_eq, iT_eq0, iF_eq0]
      · simp (disch := omega) only [a1, nI_z, zI_add, zI_sub, zI_mul, zI_m1, ckI_z, zI_clamp, Int.toNat_natCast, bnd_some, lt, rd_same, rd_ne, rdL_same, rdL_ne, wI_2, wL_1, if_true, if_false, iT_lt, iF_lt, iT_lt0, iF_lt0, iT_0lt, iF_0lt, iT_le, iF_le, iT_le0, iF_le0, iT_0le, iF_0le, iT_eq, iF_eq, iT_eq0, iF_eq0]
    rw [hj]
    by_cases e : z < 10
    · refine ⟨zI (-1), by unfold f11_ran_j25; simp (disch := omega) only [nI_z, zI_add, zI_sub, zI_mul, zI_m1, ckI_z, zI_clamp, Int.toNat_natCast, bnd_some, lt, rd_same, rd_ne, rdL_same, rdL_ne, wI_2, wL_1, if_true, if_false, iT_lt, iF_lt, iT_lt0, iF_lt0, iT_0lt, iF_0lt, iT_le, iF_le, iT_le0, iF_le0, iT_0le, iF_0le, iT_eq, iF_eq, iT_eq0, iF_eq0], ?_⟩
      unfold f12_ran; simp (disch := omega) only [b1, sw_t, sw_f, sw_n, nI_z, zI_add, zI_sub, zI_mul, zI_m1, ckI_z, zI_clamp, Int.toNat_natCast, bnd_some, lt, rd_same, rd_ne, rdL_same, rdL_ne, wI_2, wL_1, if_true, if_false, iT_lt, iF_lt, iT_lt0, iF_lt0, iT_0lt, iF_0lt, iT_le, iF_le, iT_le0, iF_le0, iT_0le, iF_0le, iT_eq, iF_eq, iT_eq0, iF_eq0]
    · by_cases e2 : z - 10 < m.2.2.2.1.length
      · obtain ⟨i, rfl⟩ : ∃ i : Nat, z = (i : Int) + 10 := ⟨(z - 10).toNat, by omega⟩
        have hr : m.2.2.2.1[i]? = some m.2.2.2.1[i] := List.getElem?_eq_getElem (by omega)
        generalize m.2.2.2.1[i] = y at hr
        have c1 := a6 i y hr
        have c2 := b5 i y hr
        rw [Nat.zero_add] at c2
        have q1 : ((i : Int) + 10) - ((10 : Nat) : Int) = (i : Int) := by omega
        have q2 : ((i : Int) + 10) - ((6 : Nat) : Int) = ((4 + i : Nat) : Int) := by omega
        have q3 : (3 : Nat) = (((3 : Nat) : Int)).toNat := rfl
        refine ⟨zI y, ?_, ?_⟩
        · unfold f11_ran_j25
          simp (disch := omega) only [a5, q1, q2, c1, nI_z, zI_add, zI_sub, zI_mul, zI_m1, ckI_z, zI_clamp, Int.toNat_natCast, bnd_some, lt, rd_same, rd_ne, rdL_same, rdL_ne, wI_2, wL_1, if_true, if_false, iT_lt, iF_lt, iT_lt0, iF_lt0, iT_0lt, iF_0lt, iT_le, iF_le, iT_le0, iF_le0, iT_0le, iF_0le, iT_eq, iF_eq, iT_eq0, iF_eq0]
        · unfold f12_ran
          simp (disch := omega) only [b1, b4, sw_t, sw_f, sw_n, q1, c2, nI_z, zI_add, zI_sub, zI_mul, zI_m1, ckI_z, zI_clamp, Int.toNat_natCast, bnd_some, lt, rd_same, rd_ne, rdL_same, rdL_ne, wI_2, wL_1, if_true, if_false, iT_lt, iF_lt, iT_lt0, iF_lt0, iT_0lt, iF_0lt, iT_le, iF_le, iT_le0, iF_le0, iT_0le, iF_0le, iT_eq, iF_eq, iT_eq0, iF_eq0]
      · refine ⟨zI (-1), ?_, ?_⟩
        · unfold f11_ran_j25
          simp (disch := omega) only [a5, nI_z, zI_add, zI_sub, zI_mul, zI_m1, ckI_z, zI_clamp, Int.toNat_natCast, bnd_some, lt, rd_same, rd_ne, rdL_same, rdL_ne, wI_2, wL_1, if_true, if_false, iT_lt, iF_lt, iT_lt0, iF_lt0, iT_0lt, iF_0lt, iT_le, iF_le, iT_le0, iF_le0, iT_0le, iF_0le, iT_eq, iF_eq, iT_eq0, iF_eq0]
        · unfold f12_ran
          simp (disch := omega) only [b1, b4, sw_t, sw_f, sw_n, nI_z, zI_add, zI_sub, zI_mul, zI_m1, ckI_z, zI_clamp, Int.toNat_natCast, bnd_some, lt, rd_same, rd_ne, rdL_same, rdL_ne, wI_2, wL_1, if_true, if_false, iT_lt, iF_lt, iT_lt0, iF_lt0, iT_0lt, iF_0lt, iT_le, iF_le, iT_le0, iF_le0, iT_0le, iF_0le, iT_eq, iF_eq, iT_eq0, iF_eq0]
theorem cp_in {S : St} {a i c j n k : Nat} (h : j ≤ k ∧ k < j + n) : (cpI S a i c j n).1 c k = S.1 a (i + (k - j)) := if_pos ⟨rfl, h⟩
theorem cp_out {S : St} {a i c j n q k : Nat} (h : q ≠ c ∨ k < j ∨ j + n ≤ k) : (cpI S a i c j n).1 q k = S.1 q k := if_neg (by omega)
theorem cp_2 {S : St} {a i c j n : Nat} : (cpI S a i c j n).2 = S.2 := rfl
theorem Same.cp {P : Nat → Nat → Prop} {S S2 : St} {a i c j n : Nat} (h : Same P S S2) (hp : ∀ k, j ≤ k → k < j + n → P c k) : Same P S (cpI S2 a i c j n) := fun q k hn => by
  refine ⟨?_, (h q k hn).2⟩
  by_cases e : q = c ∧ j ≤ k ∧ k < j + n
  · obtain ⟨rfl, e1, e2⟩ := e
    exact absurd (hp k e1 e2) hn
  · rw [cp_out (by omega)]
    exact (h q k hn).1
theorem ckC_ok {β : Type} {s t i : Int} {n0 n1 : Nat} {X : Option β} (h : 0 ≤ s ∧ 0 ≤ t ∧ 0 ≤ i ∧ s + i ≤ n0 ∧ t + i ≤ n1 ∧ n0 < 2147483648 ∧ n1 < 2147483648) : ckC (zI s) (zI t) (zI i) n0 n1 X = X := by
  unfold ckC
  rw [if_neg]
  rw [zI_lt0 (by omega), zI_lt0 (by omega), zI_lt0 (by omega), zI_clamp (by omega), zI_clamp (by omega), zI_clamp (by omega)]
  omega
theorem f4_tell_ok {S : St} {w : List Nat} {m : Mc} {s st K : Nat} (h : CMr S w m s st K) (hm : MIq m) : ∃ S2, f4_tell S = some ((), S2) ∧ S2.1 10 0 = zI s ∧ S2.1 10 1 = zI m.1 ∧ S2.1 10 2 = zI m.2.1 ∧ S2.1 10 3 = zI m.2.2.2.1.length ∧ Held (S2.1 10) 4 m.2.2.2.1 ∧ Same (fun c _ => c = 10) S S2 := by
  obtain ⟨h1, h2, h3, h4, h5, h6, h7, h8, h9, h10, h11⟩ := h
  obtain ⟨m1, m2, m3, m4⟩ := hm
  have hs : Same (fun c _ => c = 10) S (cpI (wI (wI (wI (wI S 10 0 (zI s)) 10 1 (zI m.1)) 10 2 (zI m.2.1)) 10 3 (zI m.2.2.2.1.length)) 8 0 10 4 8) := Same.cp ((Same.rfl' (P := fun c _ => c = 10)) |>.wI rfl |>.wI rfl |>.wI rfl |>.wI rfl) (fun k _ _ => rfl)
  refine ⟨_, ?_, ?_, ?_, ?_, ?_, fun i x hi => ?_, hs⟩
  · unfold f4_tell
    rw [show (nI 4 + nI 8 : Int32) = zI ((12 : Nat) : Int) by rfl]
    simp (disch := omega) only [h6, h4, h5, h8, ckC_ok, nI_z, zI_add, zI_sub, zI_mul, zI_m1, ckI_z, zI_clamp, Int.toNat_natCast, bnd_some, lt, rd_same, rd_ne, rdL_same, rdL_ne, wI_2, wL_1, if_true, if_false, iT_lt, iF_lt, iT_lt0, iF_lt0, iT_0lt, iF_0lt, iT_le, iF_le, iT_le0, iF_le0, iT_0le, iF_0le, iT_eq, iF_eq, iT_eq0, iF_eq0]
  · rw [cp_out (by omega)]; simp (disch := omega) only [nI_z, zI_add, zI_sub, zI_mul, zI_m1, ckI_z, zI_clamp, Int.toNat_natCast, bnd_some, lt, rd_same, rd_ne, rdL_same, rdL_ne, wI_2, wL_1, if_true, if_false, iT_lt, iF_lt, iT_lt0, iF_lt0, iT_0lt, iF_0lt, iT_le, iF_le, iT_le0, iF_le0, iT_0le, iF_0le, iT_eq, iF_eq, iT_eq0, iF_eq0]
  · rw [cp_out (by omega)]; simp (disch := omega) only [nI_z, zI_add, zI_sub, zI_mul, zI_m1, ckI_z, zI_clamp, Int.toNat_natCast, bnd_some, lt, rd_same, rd_ne, rdL_same, rdL_ne, wI_2, wL_1, if_true, if_false, iT_lt, iF_lt, iT_lt0, iF_lt0, iT_0lt, iF_0lt, iT_le, iF_le, iT_le0, iF_le0, iT_0le, iF_0le, iT_eq, iF_eq, iT_eq0, iF_eq0]
  · rw [cp_out (by omega)]; simp (disch := omega) only [nI_z, zI_add, zI_sub, zI_mul, zI_m1, ckI_z, zI_clamp, Int.toNat_natCast, bnd_some, lt, rd_same, rd_ne, rdL_same, rdL_ne, wI_2, wL_1, if_true, if_false, iT_lt, iF_lt, iT_lt0, iF_lt0, iT_0lt, iF_0lt, iT_le, iF_le, iT_le0, iF_le0, iT_0le, iF_0le, iT_eq, iF_eq, iT_eq0, iF_eq0]
  · rw [cp_out (by omega)]; simp (disch := omega) only [nI_z, zI_add, zI_sub, zI_mul, zI_m1, ckI_z, zI_clamp, Int.toNat_natCast, bnd_some, lt, rd_same, rd_ne, rdL_same, rdL_ne, wI_2, wL_1, if_true, if_false, iT_lt, iF_lt, iT_lt0, iF_lt0, iT_0lt, iF_0lt, iT_le, iF_le, iT_le0, iF_le0, iT_0le, iF_0le, iT_eq, iF_eq, iT_eq0, iF_eq0]
  · have hl := (List.getElem?_eq_some_iff.mp hi).1
    rw [cp_in (by omega)]
    have := h9 i x hi
    rw [show 0 + (4 + i - 4) = 0 + i by omega]
    simp (disch := omega) only [this, nI_z, zI_add, zI_sub, zI_mul, zI_m1, ckI_z, zI_clamp, Int.toNat_natCast, bnd_some, lt, rd_same, rd_ne, rdL_same, rdL_ne, wI_2, wL_1, if_true, if_false, iT_lt, iF_lt, iT_lt0, iF_lt0, iT_0lt, iF_0lt, iT_le, iF_le, iT_le0, iF_le0, iT_0le, iF_0le, iT_eq, iF_eq, iT_eq0, iF_eq0]
theorem f12_tell_loop {N : Nat} {r : Int32} {m : Mc} {s : Nat} (hm : MIq m) : ∀ (k i n : Nat) (S : St), i + k = m.2.2.2.1.length → k < n → RFr S m s → Held (S.1 159) 0 (m.2.2.2.1.take i) → ∃ S2, f12_run_h93 N r n (zI i) S = some (r, S2) ∧ Held (S2.1 159) 0 m.2.2.2.1 ∧ Same (fun c _ => c = 159) S S2 := by
  obtain ⟨m1, m2, m3, m4⟩ := hm
  intro k
  induction k with
  | zero =>
    intro i n S hi hn h hh
    obtain ⟨n, rfl⟩ : ∃ z, n = z + 1 := ⟨n - 1, by omega⟩
    rw [List.take_of_length_le (by omega)] at hh
    have h4 := h.2.2.2.1
    refine ⟨S, ?_, hh, Same.rfl'⟩
    rw [f12_run_h93]
    simp (disch := omega) only [h4, nI_z, zI_add, zI_sub, zI_mul, zI_m1, ckI_z, zI_clamp, Int.toNat_natCast, bnd_some, lt, rd_same, rd_ne, rdL_same, rdL_ne, wI_2, wL_1, if_true, if_false, iT_lt, iF_lt, iT_lt0, iF_lt0, iT_0lt, iF_0lt, iT_le, iF_le, iT_le0, iF_le0, iT_0le, iF_0le, iT_eq, iF_eq, iT_eq0, iF_eq0]
  | succ k ih =>
    intro i n S hi hn h hh
    obtain ⟨n, rfl⟩ : ∃ z, n = z + 1 := ⟨n - 1, by omega⟩
    obtain ⟨q1, q2, q3, q4, q5⟩ := h
    have hlt : i < m.2.2.2.1.length := by omega
    have hr : m.2.2.2.1[i]? = some m.2.2.2.1[i] := List.getElem?_eq_getElem hlt
    have htk : m.2.2.2.1.take (i + 1) = m.2.2.2.1.take i ++ [m.2.2.2.1[i]] := by rw [List.take_add_one, hr]; rfl
    have htl : (m.2.2.2.1.take i).length = i := by rw [List.length_take]; omega
    generalize m.2.2.2.1[i] = x at hr htk
    have h5 := q5 i x hr
    rw [Nat.zero_add] at h5
    have hs : Same (fun c _ => c = 159) S (wI S 159 i (zI x)) := (Same.rfl' (P := fun c _ => c = 159)).wI rfl
    obtain ⟨S2, g1, g2, g3⟩ := ih (i + 1) n (wI S 159 i (zI x)) (by omega) (by omega) ⟨by simp (disch := omega) only [q1, nI_z, zI_add, zI_sub, zI_mul, zI_m1, ckI_z, zI_clamp, Int.toNat_natCast, bnd_some, lt, rd_same, rd_ne, rdL_same, rdL_ne, wI_2, wL_1, if_true, if_false, iT_lt, iF_lt, iT_lt0, iF_lt0, iT_0lt, iF_0lt, iT_le, iF_le, iT_le0, iF_le0, iT_0le, iF_0le, iT_eq, iF_eq, iT_eq0, iF_eq0], by simp (disch := omega) only [q2, nI_z, zI_add, zI_sub, zI_mul, zI_m1, ckI_z, zI_clamp, Int.toNat_natCast, bnd_some, lt, rd_same, rd_ne, rdL_same, rdL_ne, wI_2, wL_1, if_true, if_false, iT_lt, iF_lt, iT_lt0, iF_lt0, iT_0lt, iF_0lt, iT_le, iF_le, iT_le0, iF_le0, iT_0le, iF_0le, iT_eq, iF_eq, iT_eq0, iF_eq0], by simp (disch := omega) only [q3, nI_z, zI_add, zI_sub, zI_mul, zI_m1, ckI_z, zI_clamp, Int.toNat_natCast, bnd_some, lt, rd_same, rd_ne, rdL_same, rdL_ne, wI_2, wL_1, if_true, if_false, iT_lt, iF_lt, iT_lt0, iF_lt0, iT_0lt, iF_0lt, iT_le, iF_le, iT_le0, iF_le0, iT_0le, iF_0le, iT_eq, iF_eq, iT_eq0, iF_eq0], by simp (disch := omega) only [q4, nI_z, zI_add, zI_sub, zI_mul, zI_m1, ckI_z, zI_clamp, Int.toNat_natCast, bnd_some, lt, rd_same, rd_ne, rdL_same, rdL_ne, wI_2, wL_1, if_true, if_false, iT_lt, iF_lt, iT_lt0, iF_lt0, iT_0lt, iF_0lt, iT_le, iF_le, iT_le0, iF_le0, iT_0le, iF_0le, iT_eq, iF_eq, iT_eq0, iF_eq0], q5.same hs (fun k => by omega)⟩ (by
      rw [htk]
      refine hh.push2 ?_ (fun k hk => ?_)
      · rw [htl]; simp (disch := omega) only [nI_z, zI_add, zI_sub, zI_mul, zI_m1, ckI_z, zI_clamp, Int.toNat_natCast, bnd_some, lt, rd_same, rd_ne, rdL_same, rdL_ne, wI_2, wL_1, if_true, if_false, iT_lt, iF_lt, iT_lt0, iF_lt0, iT_0lt, iF_0lt, iT_le, iF_le, iT_le0, iF_le0, iT_0le, iF_0le, iT_eq, iF_eq, iT_eq0, iF_eq0]
      · rw [htl] at hk; simp (disch := omega) only [nI_z, zI_add, zI_sub, zI_mul, zI_m1, ckI_z, zI_clamp, Int.toNat_natCast, bnd_some, lt, rd_same, rd_ne, rdL_same, rdL_ne, wI_2, wL_1, if_true, if_false, iT_lt, iF_lt, iT_lt0, iF_lt0, iT_0lt, iF_0lt, iT_le, iF_le, iT_le0, iF_le0, iT_0le, iF_0le, iT_eq, iF_eq, iT_eq0, iF_eq0])
    refine ⟨S2, ?_, g2, hs.tr g3⟩
    rw [f12_run_h93]
    simp (disch := omega) only [q4, h5, nI_z, zI_add, zI_sub, zI_mul, zI_m1, ckI_z, zI_clamp, Int.toNat_natCast, bnd_some, lt, rd_same, rd_ne, rdL_same, rdL_ne, wI_2, wL_1, if_true, if_false, iT_lt, iF_lt, iT_lt0, iF_lt0, iT_0lt, iF_0lt, iT_le, iF_le, iT_le0, iF_le0, iT_0le, iF_0le, iT_eq, iF_eq, iT_eq0, iF_eq0]
    exact g1
/-- what run may write -/
def ruP (c k : Nat) : Prop := mcP c k ∨ rnP c k ∨ qrP c k
theorem CMr.q {S : St} {w : List Nat} {m : Mc} {s st K : Nat} (h : CMr S w m s st K) : CMq S (K + m.2.2.2.1.length) := ⟨h.2.2.2.2.2.2.2.2.2.1, _, h.2.2.2.2.2.2.2.2.2.2⟩
theorem CMq.same {P : Nat → Nat → Prop} {S S2 : St} {K : Nat} (h : CMq S K) (hs : Same P S S2) (hd : ∀ c k, mcP c k → ¬ P c k) : CMq S2 K := by
  obtain ⟨h1, cm, h2⟩ := h
  exact ⟨by rw [hs.i (hd 6 10 (by unfold mcP; omega))]; exact h1, cm, by rw [hs.row (fun k => hd 9 k (by unfold mcP; omega))]; exact h2⟩
theorem ML.rn {S S2 : St} {k : Nat} {g : Lg} (h : ML S k g) (hv : LV g) (hs : Same rnP S S2) : ML S2 k g := h.same hv hs (fun c p _ _ _ => by unfold rnP; omega) (fun p _ _ => by unfold rnP; omega) (fun p _ _ => by unfold rnP; omega) (by unfold rnP; omega)
theorem c_run {N K : Nat} {S : St} {Ls : List Lg} {p : List Nat} {R : Option (Mc × Nat)} (hN : 100000 ≤ N) (h : Qlang S Ls) (hp : Qprog S p) (hR : Qrun S R) (hK : CMq S K) (hKb : K + 10 < 2147483648) (x y t : Int32) : ∃ r S1 S2 K2 R2, f11_run N x y t S = some (r, S1) ∧ f12_run N x y t S1 = some (r, S2) ∧ Qrun S2 R2 ∧ CMq S2 K2 ∧ K ≤ K2 ∧ K2 ≤ K + 9 ∧ (V15 S → V15 S2) ∧ Same ruP S S2 := by
  have triv : ∀ r, f11_run N x y t S = some (r, S) → f12_run N x y t S = some (r, S) → ∃ r S1 S2 K2 R2, f11_run N x y t S = some (r, S1) ∧ f12_run N x y t S1 = some (r, S2) ∧ Qrun S2 R2 ∧ CMq S2 K2 ∧ K ≤ K2 ∧ K2 ≤ K + 9 ∧ (V15 S → V15 S2) ∧ Same ruP S S2 := fun r a b => ⟨r, S, S, K, R, a, b, hR, hK, by omega, by omega, fun q => q, Same.rfl'⟩
  have hy := xrng y
  have ht := xrng t
  rw [zI_of y, zI_of t] at triv ⊢
  generalize y.toInt = w at hy triv
  generalize t.toInt = u at ht triv
  have n1 := fun S => isNum w S hy
  have n2 := fun S => isNum u S ht
  have k1 := fun S => isNum_m w S hy
  have k2 := fun S => isNum_m u S ht
  rcases lang_cases h x with ⟨e1, e2⟩ | ⟨i, g, hg, rfl, hi, e1, e2, hv, hc, hm⟩
  · refine triv (zI (-1)) ?_ ?_
    · unfold f11_run; rw [e1]; simp (disch := omega) only [ifN_none, nI_z, zI_add, zI_sub, zI_mul, zI_m1, ckI_z, zI_clamp, Int.toNat_natCast, bnd_some, lt, rd_same, rd_ne, rdL_same, rdL_ne, wI_2, wL_1, if_true, if_false, iT_lt, iF_lt, iT_lt0, iF_lt0, iT_0lt, iF_0lt, iT_le, iF_le, iT_le0, iF_le0, iT_0le, iF_0le, iT_eq, iF_eq, iT_eq0, iF_eq0]
    · unfold f12_run; rw [e2]; simp (disch := omega) only [nI_z, zI_add, zI_sub, zI_mul, zI_m1, ckI_z, zI_clamp, Int.toNat_natCast, bnd_some, lt, rd_same, rd_ne, rdL_same, rdL_ne, wI_2, wL_1, if_true, if_false, iT_lt, iF_lt, iT_lt0, iF_lt0, iT_0lt, iF_0lt, iT_le, iF_le, iT_le0, iF_le0, iT_0le, iF_0le, iT_eq, iF_eq, iT_eq0, iF_eq0]
  · have ha := ad3_in i hi
    by_cases w0 : 0 ≤ w ∧ w ≤ 999
    · by_cases u0 : 0 ≤ u ∧ u ≤ 999
      · rcases prog_cases (N := N) (by omega) hi hv hc hm hp with ⟨w1, w2, w3⟩ | ⟨w1, w2, w3, w4⟩
        · refine triv (zI (-5)) ?_ ?_
          · unfold f11_run; simp (disch := omega) only [iT_b, iF_b, e1, ifN_some, ckA_in ha, n1, n2, w2, nI_z, zI_add, zI_sub, zI_mul, zI_m1, ckI_z, zI_clamp, Int.toNat_natCast, bnd_some, lt, rd_same, rd_ne, rdL_same, rdL_ne, wI_2, wL_1, if_true, if_false, iT_lt, iF_lt, iT_lt0, iF_lt0, iT_0lt, iF_0lt, iT_le, iF_le, iT_le0, iF_le0, iT_0le, iF_0le, iT_eq, iF_eq, iT_eq0, iF_eq0]; rfl
          · unfold f12_run; simp (disch := omega) only [iT_b, iF_b, e2, k1, k2, w3, nI_z, zI_add, zI_sub, zI_mul, zI_m1, ckI_z, zI_clamp, Int.toNat_natCast, bnd_some, lt, rd_same, rd_ne, rdL_same, rdL_ne, wI_2, wL_1, if_true, if_false, iT_lt, iF_lt, iT_lt0, iF_lt0, iT_0lt, iF_0lt, iT_le, iF_le, iT_le0, iF_le0, iT_0le, iF_0le, iT_eq, iF_eq, iT_eq0, iF_eq0]; rfl
        · obtain ⟨a, rfl⟩ : ∃ a : Nat, w = a := ⟨w.toNat, by omega⟩
          obtain ⟨b, rfl⟩ : ∃ b : Nat, u = b := ⟨u.toNat, by omega⟩
          have h12 := hp.1.2.1
          have hbl := bsum_le hv p
          obtain ⟨S1, S2, a1, a2, a3, a4, a5⟩ := f4_run_ok (N := N) (x := a) (t := b) hv (by omega : 11 ≤ 50 + 11 * i) (by omega : 2 + 1 < 6 ∨ 9 < 2) hN w1 h12 (by omega) hKb (by omega) hc hp.1 hK
          have hMI := mgo_MI (w := wr g p) b (a, 0, 0, [], [(a, 0)]) 0 ⟨by show a < 1000; omega, by show 0 < 1000; omega, by show 0 ≤ 8; omega, fun y hy => (by cases hy)⟩
          have hst := mgo_steps (w := wr g p) b (a, 0, 0, [], [(a, 0)]) 0
          have hpr : prun g p a b = mgo (wr g p) b (a, 0, 0, [], [(a, 0)]) 0 := rfl
          rw [← hpr] at hMI hst
          obtain ⟨S3, b1, b2, b3, b4, b5, b6, b7⟩ := f4_tell_ok a3 hMI.1
          have hs4 : Same (fun c k => (c = 0 ∧ k = 6)) S3 (wI S3 0 6 (zI ((1 : Nat) : Int))) := (Same.rfl' (P := fun c k => (c = 0 ∧ k = 6))).wI ⟨rfl, rfl⟩
          have s4 : Same (fun c k => mcP c k ∨ c = 10 ∨ (c = 0 ∧ k = 6)) S (wI S3 0 6 (zI ((1 : Nat) : Int))) := ((a5.mono (fun c k z => Or.inl z)).tr (b7.mono (fun c k z => Or.inr (Or.inl z)))).tr (hs4.mono (fun c k z => Or.inr (Or.inr z)))
          have hst6 : S3.1 6 6 = zI (prun g p a b).2.2 := by
            have := a3.2.2.2.2.2.2.1
            rw [b7.i (by omega)]
            exact this
          have q10 : (wI S3 0 6 (zI ((1 : Nat) : Int))).1 10 = S3.1 10 := hs4.row (fun k => by omega)
          have q06 : (wI S3 0 6 (zI ((1 : Nat) : Int))).1 0 6 = zI ((1 : Nat) : Int) := rd_same
          have hq4 : CMq (wI S3 0 6 (zI ((1 : Nat) : Int))) (K + 1 + (prun g p a b).1.2.2.2.1.length) := (a3.q.same b7 (fun c k z => by unfold mcP at z; omega)).same hs4 (fun c k z => by unfold mcP at z; omega)
          have e11 : f11_run N (zI i) (zI a) (zI b) S = some (zI (prun g p a b).2.2, wI S3 0 6 (zI ((1 : Nat) : Int))) := by
            unfold f11_run
            simp (disch := omega) only [iT_b, iF_b, e1, ifN_some, ckA_in ha, n1, n2, w2, a1, a2, b1, f4_state, nI_z, zI_add, zI_sub, zI_mul, zI_m1, ckI_z, zI_clamp, Int.toNat_natCast, bnd_some, lt, rd_same, rd_ne, rdL_same, rdL_ne, wI_2, wL_1, if_true, if_false, iT_lt, iF_lt, iT_lt0, iF_lt0, iT_0lt, iF_0lt, iT_le, iF_le, iT_le0, iF_le0, iT_0le, iF_0le, iT_eq, iF_eq, iT_eq0, iF_eq0]
            rw [hst6]
          generalize wI S3 0 6 (zI ((1 : Nat) : Int)) = S4 at s4 q10 q06 hq4 e11
          have hl4 := h.same s4 (fun c k z => by unfold laP at z; unfold mcP; omega)
          have hp4 := hp.same s4 (fun c k z => by unfold prP at z; unfold mcP; omega)
          obtain ⟨_, hc4, hm4⟩ := hl4.2.2.2 i g hg
          have hil : i < Ls.length := (List.getElem?_eq_some_iff.mp hg).1
          have e24 := (lang_in hl4 hil).2
          rcases prog_cases (N := N) (by omega) hi hv hc4 hm4 hp4 with ⟨z1, z2, z3⟩ | ⟨z1, z2, z3, z4⟩
          · exact absurd w1 z1
          obtain ⟨S5, d1, d2, d3, d4⟩ := f12_runFor_ok (N := N) (x := a) (t := b) hN hv hi w1 h12 hm4 (by omega) (by omega) (by omega)
          have hpk := f12_packed_ok (N := N) (by omega) hp4.2.1 hp4.2.2.1 h12 hp.1.2.2.1
          obtain ⟨d21, d22, d23, d24, d25⟩ := d2
          have s6 : Same qrP S5 (wI (wI (wI (wI S5 146 21 (zI (prun g p a b).2.1)) 146 22 (zI (prun g p a b).1.1)) 146 23 (zI (prun g p a b).1.2.1)) 146 24 (zI (prun g p a b).1.2.2.2.1.length)) := (Same.rfl' (P := qrP)) |>.wI (by unfold qrP; omega) |>.wI (by unfold qrP; omega) |>.wI (by unfold qrP; omega) |>.wI (by unfold qrP; omega)
          have v6 : RFr (wI (wI (wI (wI S5 146 21 (zI (prun g p a b).2.1)) 146 22 (zI (prun g p a b).1.1)) 146 23 (zI (prun g p a b).1.2.1)) 146 24 (zI (prun g p a b).1.2.2.2.1.length)) (prun g p a b).1 (prun g p a b).2.1 := ⟨by simp (disch := omega) only [d21, nI_z, zI_add, zI_sub, zI_mul, zI_m1, ckI_z, zI_clamp, Int.toNat_natCast, bnd_some, lt, rd_same, rd_ne, rdL_same, rdL_ne, wI_2, wL_1, if_true, if_false, iT_lt, iF_lt, iT_lt0, iF_lt0, iT_0lt, iF_0lt, iT_le, iF_le, iT_le0, iF_le0, iT_0le, iF_0le, iT_eq, iF_eq, iT_eq0, iF_eq0], by simp (disch := omega) only [d22, nI_z, zI_add, zI_sub, zI_mul, zI_m1, ckI_z, zI_clamp, Int.toNat_natCast, bnd_some, lt, rd_same, rd_ne, rdL_same, rdL_ne, wI_2, wL_1, if_true, if_false, iT_lt, iF_lt, iT_lt0, iF_lt0, iT_0lt, iF_0lt, iT_le, iF_le, iT_le0, iF_le0, iT_0le, iF_0le, iT_eq, iF_eq, iT_eq0, iF_eq0], by simp (disch := omega) only [d23, nI_z, zI_add, zI_sub, zI_mul, zI_m1, ckI_z, zI_clamp, Int.toNat_natCast, bnd_some, lt, rd_same, rd_ne, rdL_same, rdL_ne, wI_2, wL_1, if_true, if_false, iT_lt, iF_lt, iT_lt0, iF_lt0, iT_0lt, iF_0lt, iT_le, iF_le, iT_le0, iF_le0, iT_0le, iF_0le, iT_eq, iF_eq, iT_eq0, iF_eq0], by simp (disch := omega) only [d24, nI_z, zI_add, zI_sub, zI_mul, zI_m1, ckI_z, zI_clamp, Int.toNat_natCast, bnd_some, lt, rd_same, rd_ne, rdL_same, rdL_ne, wI_2, wL_1, if_true, if_false, iT_lt, iF_lt, iT_lt0, iF_lt0, iT_0lt, iF_0lt, iT_le, iF_le, iT_le0, iF_le0, iT_0le, iF_0le, iT_eq, iF_eq, iT_eq0, iF_eq0], fun i x hx => by simp (disch := omega) only [nI_z, zI_add, zI_sub, zI_mul, zI_m1, ckI_z, zI_clamp, Int.toNat_natCast, bnd_some, lt, rd_same, rd_ne, rdL_same, rdL_ne, wI_2, wL_1, if_true, if_false, iT_lt, iF_lt, iT_lt0, iF_lt0, iT_0lt, iF_0lt, iT_le, iF_le, iT_le0, iF_le0, iT_0le, iF_0le, iT_eq, iF_eq, iT_eq0, iF_eq0]; exact d25 i x hx⟩
          obtain ⟨S7, f1, f2, f3⟩ := f12_tell_loop (N := N) (r := zI (prun g p a b).2.2) hMI.1 (prun g p a b).1.2.2.2.1.length 0 N _ (by omega) (by have := hMI.1.2.2.1; omega) v6 (fun i x hx => by simp at hx)
          have s46 : Same (fun c k => rnP c k ∨ (c = 146 ∧ 21 ≤ k ∧ k ≤ 24) ∨ c = 159) S4 S7 := ((d4.mono (fun c k z => Or.inl z)).tr (((Same.rfl' (P := fun c k => rnP c k ∨ (c = 146 ∧ 21 ≤ k ∧ k ≤ 24) ∨ c = 159)) |>.wI (by omega) |>.wI (by omega) |>.wI (by omega) |>.wI (by omega)))).tr (f3.mono (fun c k z => Or.inr (Or.inr z)))
          have g10 : S7.1 10 = S4.1 10 := s46.row (fun k => by unfold rnP; omega)
          have g06 : S7.1 0 6 = S4.1 0 6 := s46.i (by unfold rnP; omega)
          refine ⟨_, S4, S7, K + 1 + (prun g p a b).1.2.2.2.1.length, some ((prun g p a b).1, (prun g p a b).2.1), e11, ?_, ⟨hMI.1, by omega, ⟨by rw [g06]; exact q06, by rw [g10, q10]; exact b2, by rw [g10, q10]; exact b3, by rw [g10, q10]; exact b4, by rw [g10, q10]; exact b5, by rw [g10, q10]; exact b6⟩, ?_, ?_, ?_, ?_, f2⟩, hq4.same s46 (fun c k z => by unfold mcP at z; unfold rnP; omega), by omega, by have := hMI.1.2.2.1; omega, fun _ => (V15.of v6 hMI.1).same f3 (by omega), (s4.mono (fun c k z => by unfold ruP qrP; rcases z with z | z | z; exact Or.inl z; omega; omega)).tr (s46.mono (fun c k z => by unfold ruP qrP; rcases z with z | z | z; exact Or.inr (Or.inl z); omega; omega))⟩
          · unfold f12_run
            simp (disch := omega) only [iT_b, iF_b, e24, k1, k2, z3, hpk, d1, d21, d22, d23, d24, nI_z, zI_add, zI_sub, zI_mul, zI_m1, ckI_z, zI_clamp, Int.toNat_natCast, bnd_some, lt, rd_same, rd_ne, rdL_same, rdL_ne, wI_2, wL_1, if_true, if_false, iT_lt, iF_lt, iT_lt0, iF_lt0, iT_0lt, iF_0lt, iT_le, iF_le, iT_le0, iF_le0, iT_0le, iF_0le, iT_eq, iF_eq, iT_eq0, iF_eq0]
            exact f1
          all_goals rw [f3.i (by omega)]
          all_goals simp (disch := omega) only [nI_z, zI_add, zI_sub, zI_mul, zI_m1, ckI_z, zI_clamp, Int.toNat_natCast, bnd_some, lt, rd_same, rd_ne, rdL_same, rdL_ne, wI_2, wL_1, if_true, if_false, iT_lt, iF_lt, iT_lt0, iF_lt0, iT_0lt, iF_0lt, iT_le, iF_le, iT_le0, iF_le0, iT_0le, iF_0le, iT_eq, iF_eq, iT_eq0, iF_eq0]
      · refine triv (zI (-1)) ?_ ?_
        · unfold f11_run; simp (disch := omega) only [iT_b, iF_b, e1, ifN_some, ckA_in ha, n1, n2, nI_z, zI_add, zI_sub, zI_mul, zI_m1, ckI_z, zI_clamp, Int.toNat_natCast, bnd_some, lt, rd_same, rd_ne, rdL_same, rdL_ne, wI_2, wL_1, if_true, if_false, iT_lt, iF_lt, iT_lt0, iF_lt0, iT_0lt, iF_0lt, iT_le, iF_le, iT_le0, iF_le0, iT_0le, iF_0le, iT_eq, iF_eq, iT_eq0, iF_eq0]
        · unfold f12_run; simp (disch := omega) only [iT_b, iF_b, e2, k1, k2, nI_z, zI_add, zI_sub, zI_mul, zI_m1, ckI_z, zI_clamp, Int.toNat_natCast, bnd_some, lt, rd_same, rd_ne, rdL_same, rdL_ne, wI_2, wL_1, if_true, if_false, iT_lt, iF_lt, iT_lt0, iF_lt0, iT_0lt, iF_0lt, iT_le, iF_le, iT_le0, iF_le0, iT_0le, iF_0le, iT_eq, iF_eq, iT_eq0, iF_eq0]
    · refine triv (zI (-1)) ?_ ?_
      · unfold f11_run; simp (disch := omega) only [iT_b, iF_b, e1, ifN_some, ckA_in ha, n1, nI_z, zI_add, zI_sub, zI_mul, zI_m1, ckI_z, zI_clamp, Int.toNat_natCast, bnd_some, lt, rd_same, rd_ne, rdL_same, rdL_ne, wI_2, wL_1, if_true, if_false, iT_lt, iF_lt, iT_lt0, iF_lt0, iT_0lt, iF_0lt, iT_le, iF_le, iT_le0, iF_le0, iT_0le, iF_0le, iT_eq, iF_eq, iT_eq0, iF_eq0]
      · unfold f12_run; simp (disch := omega) only [iT_b, iF_b, e2, k1, nI_z, zI_add, zI_sub, zI_mul, zI_m1, ckI_z, zI_clamp, Int.toNat_natCast, bnd_some, lt, rd_same, rd_ne, rdL_same, rdL_ne, wI_2, wL_1, if_true, if_false, iT_lt, iF_lt, iT_lt0, iF_lt0, iT_0lt, iF_0lt, iT_le, iF_le, iT_le0, iF_le0, iT_0le, iF_0le, iT_eq, iF_eq, iT_eq0, iF_eq0]
