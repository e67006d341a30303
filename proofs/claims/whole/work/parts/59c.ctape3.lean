/-! The class reads whole asks. -/
theorem go_l {S : St} {T : Nat → Nat} {n p c : Nat} (h : TL S T n p) (hc : 0 < c ∧ c < 256) : (hr T n p = c → f9_goesOnWith (zI c) S = some (zI 1, wI S 11 2 (zI ((p : Int) + ((1 : Nat) : Int))))) ∧ (hr T n p ≠ c → f9_goesOnWith (zI c) S = some (zI 0, S)) := by
  obtain ⟨z, z1, z2, z3, z4, z5, z6⟩ := here_l2 h
  have hp60 := h.1.1
  have hpn := h.2.1
  have h2 := h.2.2.1
  have hzc := z4 c hc.1
  refine ⟨fun e => ?_, fun e => ?_⟩
  · have := hzc.mpr e
    unfold f9_goesOnWith
    simp (disch := omega) only [z1, h2, nI_z, zI_add, zI_sub, zI_mul, zI_m1, ckI_z, zI_clamp, Int.toNat_natCast, bnd_some, lt, rd_same, rd_ne, rdL_same, rdL_ne, wI_2, wL_1, if_true, if_false, iT_lt, iF_lt, iT_lt0, iF_lt0, iT_0lt, iF_0lt, iT_le, iF_le, iT_le0, iF_le0, iT_0le, iF_0le, iT_eq, iF_eq, iT_eq0, iF_eq0]
    rfl
  · have : z ≠ c := fun q => e (hzc.mp q)
    unfold f9_goesOnWith
    simp (disch := omega) only [z1, nI_z, zI_add, zI_sub, zI_mul, zI_m1, ckI_z, zI_clamp, Int.toNat_natCast, bnd_some, lt, rd_same, rd_ne, rdL_same, rdL_ne, wI_2, wL_1, if_true, if_false, iT_lt, iF_lt, iT_lt0, iF_lt0, iT_0lt, iF_0lt, iT_le, iF_le, iT_le0, iF_le0, iT_0le, iF_0le, iT_eq, iF_eq, iT_eq0, iF_eq0]
    rfl
theorem go_d {S : St} {T : Nat → Nat} {n e c : Nat} (h : TD S T n e) (hc : c < 256) : f9_goesOnWith (zI c) S = some (zI 0, S) := by
  have hh := here_d h
  unfold f9_goesOnWith
  simp (disch := omega) only [hh, nI_z, zI_add, zI_sub, zI_mul, zI_m1, ckI_z, zI_clamp, Int.toNat_natCast, bnd_some, lt, rd_same, rd_ne, rdL_same, rdL_ne, wI_2, wL_1, if_true, if_false, iT_lt, iF_lt, iT_lt0, iF_lt0, iT_0lt, iF_0lt, iT_le, iF_le, iT_le0, iF_le0, iT_0le, iF_0le, iT_eq, iF_eq, iT_eq0, iF_eq0]
  rfl
def PVL (pv : Nat → Int32 → St → Option (Unit × St)) (T : Nat → Nat) (n a o : Nat) (pvp : Nat → Pr) : Prop := ∀ (p : Nat) (S : St) (l : List Nat), TL S T n p → AK S a l → l.length ≤ p → ∃ S2, pv a (zI o) S = some ((), S2) ∧ RC S2 T n a l (pvp p) ∧ Same (tpP a) S S2
def PVD (pv : Nat → Int32 → St → Option (Unit × St)) (T : Nat → Nat) (n a o : Nat) : Prop := ∀ (e : Nat) (S : St), TD S T n e → AD S a → ∃ S2, pv a (zI o) S = some ((), S2) ∧ (TD S2 T n e ∧ AD S2 a) ∧ Same (tpP a) S S2
theorem anyE_d {N a n e : Nat} {x : Int32} {T : Nat → Nat} {S : St} {pv : Nat → Int32 → St → Option (Unit × St)} (ha : 12 < a) (h : TD S T n e) (hl : AD S a) : ∃ S2, f9_readAny_j86 N pv a x S = some ((), S2) ∧ (TD S2 T n e ∧ AD S2 a) ∧ Same (tpP a) S S2 := by
  unfold f9_readAny_j86 f9_writeIf
  by_cases w0 : x = 0
  · refine ⟨S, ?_, ⟨h, hl⟩, Same.rfl'⟩
    rw [if_pos w0]
    rfl
  · obtain ⟨S2, b1, b2, b3⟩ := write_d (x := nI 124) hl
    refine ⟨S2, ?_, ⟨h.same b3 (fun k => by omega) (fun k => by omega), b2⟩, b3.mono (fun c k z => by unfold tpP; omega)⟩
    rw [if_neg w0, b1]
    rfl
theorem anyR_d {N a n e k f : Nat} {x x2 : Int32} {T : Nat → Nat} {S : St} {pv : Nat → Int32 → St → Option (Unit × St)} (ha : 12 < a) (hk : k < 1000) (h : TD S T n e) (hl : AD S a) : ∃ S2, f9_readAny_h11 N pv a x2 (f + 1) x (zI k) S = some ((), S2) ∧ (TD S2 T n e ∧ AD S2 a) ∧ Same (tpP a) S S2 := by
  obtain ⟨S2, b1, b2, b3⟩ := anyE_d (N := N) (x := x) (pv := pv) ha h hl
  refine ⟨S2, ?_, b2, b3⟩
  have hh := here_d h
  rw [f9_readAny_h11]
  by_cases c : 60 ≤ k
  · simp (disch := omega) only [nI_z, zI_add, zI_sub, zI_mul, zI_m1, ckI_z, zI_clamp, Int.toNat_natCast, bnd_some, lt, rd_same, rd_ne, rdL_same, rdL_ne, wI_2, wL_1, if_true, if_false, iT_lt, iF_lt, iT_lt0, iF_lt0, iT_0lt, iF_0lt, iT_le, iF_le, iT_le0, iF_le0, iT_0le, iF_0le, iT_eq, iF_eq, iT_eq0, iF_eq0]
    exact b1
  · simp (disch := omega) only [hh, nI_z, zI_add, zI_sub, zI_mul, zI_m1, ckI_z, zI_clamp, Int.toNat_natCast, bnd_some, lt, rd_same, rd_ne, rdL_same, rdL_ne, wI_2, wL_1, if_true, if_false, iT_lt, iF_lt, iT_lt0, iF_lt0, iT_0lt, iF_0lt, iT_le, iF_le, iT_le0, iF_le0, iT_0le, iF_0le, iT_eq, iF_eq, iT_eq0, iF_eq0]
    exact b1
/-- the flag of a waiting | -/
def fl (w : Nat) : Int32 := if w = 0 then zI 0 else zI 1
theorem wrIf_c {a n p w : Nat} {T : Nat → Nat} {S : St} {l : List Nat} (ha : 12 < a) (h : TL S T n p) (hl : AK S a l) (hw : w = 0 ∨ w = 124) (hll : l.length + (wl w).length ≤ 60) : ∃ S2, f9_writeIf (fl w) a (zI ((124 : Nat) : Int)) S = some ((), S2) ∧ AK S2 a (l ++ wl w) ∧ TL S2 T n p ∧ Same (tpP a) S S2 := by
  unfold f9_writeIf fl
  rcases hw with rfl | rfl
  · rw [if_pos rfl]
    refine ⟨S, ?_, ?_, h, Same.rfl'⟩
    · simp (disch := omega) only [nI_z, zI_add, zI_sub, zI_mul, zI_m1, ckI_z, zI_clamp, Int.toNat_natCast, bnd_some, lt, rd_same, rd_ne, rdL_same, rdL_ne, wI_2, wL_1, if_true, if_false, iT_lt, iF_lt, iT_lt0, iF_lt0, iT_0lt, iF_0lt, iT_le, iF_le, iT_le0, iF_le0, iT_0le, iF_0le, iT_eq, iF_eq, iT_eq0, iF_eq0]
    · have : wl 0 = [] := rfl
      rw [this, List.append_nil]; exact hl
  · rw [if_neg (by decide : ¬ (124 : Nat) = 0)]
    have hwl : wl 124 = [124] := rfl
    rw [hwl] at hll ⊢
    rw [List.length_singleton] at hll
    obtain ⟨S2, b1, b2, b3⟩ := write_k (c := 124) hl (by omega)
    refine ⟨S2, ?_, b2, h.same b3 (fun k => by omega) (fun k => by omega), b3.mono (fun c k z => by unfold tpP; omega)⟩
    simp (disch := omega) only [b1, nI_z, zI_add, zI_sub, zI_mul, zI_m1, ckI_z, zI_clamp, Int.toNat_natCast, bnd_some, lt, rd_same, rd_ne, rdL_same, rdL_ne, wI_2, wL_1, if_true, if_false, iT_lt, iF_lt, iT_lt0, iF_lt0, iT_0lt, iF_0lt, iT_le, iF_le, iT_le0, iF_le0, iT_0le, iF_0le, iT_eq, iF_eq, iT_eq0, iF_eq0]
theorem anyR_c {N a n o : Nat} {T : Nat → Nat} {pv : Nat → Int32 → St → Option (Unit × St)} {pvp : Nat → Pr} (hN : 200 ≤ N) (ha : 12 < a) (hv : PVL pv T n a o pvp) (hvd : PVD pv T n a o) (hvo : ∀ p, p ≤ n → okp n (pvp p) p 0) : ∀ (f p w k m : Nat) (S : St) (l : List Nat), TL S T n p → AK S a l → l.length + (wl w).length ≤ p → k ≤ p → n < p + f → f < m → (w = 0 ∨ w = 124) →
    ∃ S2, f9_readAny_h11 N pv a (zI o) m (fl w) (zI k) S = some ((), S2) ∧ RC S2 T n a l (pAR T n pvp f p w) ∧ Same (tpP a) S S2 := by
  intro f
  induction f with
  | zero =>
    intro p w k m S l h hl hll hk hf hm hw
    have := h.2.1
    omega
  | succ f ih =>
    intro p w k m S l h hl hll hk hf hm hw
    obtain ⟨m, rfl⟩ : ∃ z, m = z + 1 := ⟨m - 1, by omega⟩
    have hpn := h.2.1
    have hn60 := h.1.1
    obtain ⟨z, z1, z2, z3, z4, z5, z6⟩ := here_l2 h
    obtain ⟨q38a, q38b⟩ := go_l (c := 38) h (by omega)
    have hz1 : zI ((k : Int) + ((1 : Nat) : Int)) = zI ((k + 1 : Nat) : Int) := rfl
    unfold pAR
    by_cases c1 : hr T n p = 38
    · rw [if_pos c1]
      have hz := z5 (by omega)
      have hp := (hr_pos (T := T) (n := n) (p := p) (by omega)).1
      have hgo := q38a c1
      obtain ⟨g1, g2⟩ := h.go hp
      generalize wI S 11 2 (zI ((p : Int) + ((1 : Nat) : Int))) = S1 at hgo g1 g2
      have l1 : AK S1 a l := hl.same g2 (by omega) (fun k => by omega)
      obtain ⟨S2, a1, a2, a3⟩ := hv (p + 1) S1 l g1 l1 (by omega)
      have s2 : Same (tpP a) S S2 := (g2.mono (fun c k z => by unfold tpP; omega)).tr a3
      have hok := hvo (p + 1) (by omega)
      have step : ∀ S3, f1_write a (zI ((38 : Nat) : Int)) S2 = some ((), S3) → f9_readAny_h11 N pv a (zI o) (m + 1) (fl w) (zI k) S = f9_readAny_h11 N pv a (zI o) m (fl w) (zI ((k + 1 : Nat) : Int)) S3 := fun S3 q => by
        rw [f9_readAny_h11]
        simp (disch := omega) only [z1, f9_readAny_j36, hgo, a1, q, hz1, nI_z, zI_add, zI_sub, zI_mul, zI_m1, ckI_z, zI_clamp, Int.toNat_natCast, bnd_some, lt, rd_same, rd_ne, rdL_same, rdL_ne, wI_2, wL_1, if_true, if_false, iT_lt, iF_lt, iT_lt0, iF_lt0, iT_0lt, iF_0lt, iT_le, iF_le, iT_le0, iF_le0, iT_0le, iF_0le, iT_eq, iF_eq, iT_eq0, iF_eq0]
      cases hx : pvp (p + 1) with
      | inl e =>
        rw [hx] at a2
        obtain ⟨t1, t2⟩ := a2
        obtain ⟨S3, b1, b2, b3⟩ := write_d (x := zI ((38 : Nat) : Int)) t2
        obtain ⟨m2, hm2⟩ : ∃ m2, m = m2 + 1 := ⟨m - 1, by omega⟩
        obtain ⟨S4, d1, d2, d3⟩ := anyR_d (N := N) (k := k + 1) (f := m2) (x := fl w) (x2 := zI o) (pv := pv) ha (by omega) (t1.same b3 (fun k => by omega) (fun k => by omega)) b2
        rw [← hm2] at d1
        exact ⟨S4, by rw [step S3 b1]; exact d1, d2, (s2.tr (b3.mono (fun c k z => by unfold tpP; omega))).tr d3⟩
      | inr q =>
        rw [hx] at a2 hok
        obtain ⟨t1, t2⟩ := a2
        obtain ⟨o1, o2, o3⟩ := hok
        obtain ⟨S3, b1, b2, b3⟩ := write_k (c := 38) t2 (by rw [List.length_append]; omega)
        obtain ⟨S4, d1, d2, d3⟩ := ih q.1 w (k + 1) m S3 (l ++ q.2 ++ [38]) (t1.same b3 (fun k => by omega) (fun k => by omega)) b2 (by rw [List.length_append, List.length_append, List.length_singleton]; omega) (by omega) (by omega) (by omega) hw
        refine ⟨S4, by rw [step S3 b1]; exact d1, ?_, (s2.tr (b3.mono (fun c k z => by unfold tpP; omega))).tr d3⟩
        rw [pb_r]
        cases hy : pAR T n pvp f q.1 w with
        | inl e => rw [hy] at d2; exact d2
        | inr r =>
          rw [hy] at d2
          obtain ⟨e1, e2⟩ := d2
          refine ⟨e1, ?_⟩
          show AK S4 a (l ++ (q.2 ++ [38] ++ r.2))
          rw [← List.append_assoc, ← List.append_assoc]
          exact e2
    · rw [if_neg c1]
      have hno38 := q38b c1
      by_cases c2 : hr T n p = 124
      · rw [if_pos c2]
        have hz := z5 (by omega)
        have hp := (hr_pos (T := T) (n := n) (p := p) (by omega)).1
        obtain ⟨S0, p1, p2, p3, p4⟩ := wrIf_c ha h hl hw (by omega)
        have hgo := (go_l (c := 124) p3 (by omega)).1 c2
        obtain ⟨g1, g2⟩ := p3.go hp
        generalize wI S0 11 2 (zI ((p : Int) + ((1 : Nat) : Int))) = S1 at hgo g1 g2
        have l1 : AK S1 a (l ++ wl w) := p2.same g2 (by omega) (fun k => by omega)
        obtain ⟨S2, a1, a2, a3⟩ := hv (p + 1) S1 (l ++ wl w) g1 l1 (by rw [List.length_append]; omega)
        have s2 : Same (tpP a) S S2 := (p4.tr (g2.mono (fun c k z => by unfold tpP; omega))).tr a3
        have hok := hvo (p + 1) (by omega)
        have hf1 : fl 124 = zI 1 := rfl
        have step : f9_readAny_h11 N pv a (zI o) (m + 1) (fl w) (zI k) S = f9_readAny_h11 N pv a (zI o) m (fl 124) (zI ((k + 1 : Nat) : Int)) S2 := by
          rw [f9_readAny_h11, hf1]
          simp (disch := omega) only [z1, f9_readAny_j36, hno38, p1, hgo, a1, hz1, nI_z, zI_add, zI_sub, zI_mul, zI_m1, ckI_z, zI_clamp, Int.toNat_natCast, bnd_some, lt, rd_same, rd_ne, rdL_same, rdL_ne, wI_2, wL_1, if_true, if_false, iT_lt, iF_lt, iT_lt0, iF_lt0, iT_0lt, iF_0lt, iT_le, iF_le, iT_le0, iF_le0, iT_0le, iF_0le, iT_eq, iF_eq, iT_eq0, iF_eq0]
        cases hx : pvp (p + 1) with
        | inl e =>
          rw [hx] at a2
          obtain ⟨t1, t2⟩ := a2
          obtain ⟨m2, hm2⟩ : ∃ m2, m = m2 + 1 := ⟨m - 1, by omega⟩
          obtain ⟨S4, d1, d2, d3⟩ := anyR_d (N := N) (k := k + 1) (f := m2) (x := fl 124) (x2 := zI o) (pv := pv) ha (by omega) t1 t2
          rw [← hm2] at d1
          exact ⟨S4, by rw [step]; exact d1, d2, s2.tr d3⟩
        | inr q =>
          rw [hx] at a2 hok
          obtain ⟨t1, t2⟩ := a2
          obtain ⟨o1, o2, o3⟩ := hok
          have hwl1 := (wl_len 124).1
          obtain ⟨S4, d1, d2, d3⟩ := ih q.1 124 (k + 1) m S2 (l ++ wl w ++ q.2) t1 t2 (by rw [List.length_append, List.length_append]; omega) (by omega) (by omega) (by omega) (Or.inr rfl)
          refine ⟨S4, by rw [step]; exact d1, ?_, s2.tr d3⟩
          rw [pb_r]
          cases hy : pAR T n pvp f q.1 124 with
          | inl e => rw [hy] at d2; exact d2
          | inr r =>
            rw [hy] at d2
            obtain ⟨e1, e2⟩ := d2
            refine ⟨e1, ?_⟩
            show AK S4 a (l ++ (wl w ++ q.2 ++ r.2))
            rw [← List.append_assoc, ← List.append_assoc]
            exact e2
      · rw [if_neg c2]
        obtain ⟨S2, b1, b2, b3, b4⟩ := wrIf_c ha h hl hw (by omega)
        refine ⟨S2, ?_, ⟨b3, b2⟩, b4⟩
        have hno : z ≠ 38 ∧ z ≠ 124 := ⟨fun q => c1 ((z4 38 (by omega)).mp q), fun q => c2 ((z4 124 (by omega)).mp q)⟩
        obtain ⟨n1, n2⟩ := hno
        have e86 : f9_readAny_j86 N pv a (fl w) S = some ((), S2) := by
          unfold f9_readAny_j86
          rw [nI_z, b1, bnd_some]
        rw [f9_readAny_h11]
        by_cases c : 60 ≤ k
        · simp (disch := omega) only [nI_z, zI_add, zI_sub, zI_mul, zI_m1, ckI_z, zI_clamp, Int.toNat_natCast, bnd_some, lt, rd_same, rd_ne, rdL_same, rdL_ne, wI_2, wL_1, if_true, if_false, iT_lt, iF_lt, iT_lt0, iF_lt0, iT_0lt, iF_0lt, iT_le, iF_le, iT_le0, iF_le0, iT_0le, iF_0le, iT_eq, iF_eq, iT_eq0, iF_eq0]
          exact e86
        · simp (disch := omega) only [z1, nI_z, zI_add, zI_sub, zI_mul, zI_m1, ckI_z, zI_clamp, Int.toNat_natCast, bnd_some, lt, rd_same, rd_ne, rdL_same, rdL_ne, wI_2, wL_1, if_true, if_false, iT_lt, iF_lt, iT_lt0, iF_lt0, iT_0lt, iF_0lt, iT_le, iF_le, iT_le0, iF_le0, iT_0le, iF_0le, iT_eq, iF_eq, iT_eq0, iF_eq0]
          exact e86
theorem any_c {N a n o p : Nat} {T : Nat → Nat} {S : St} {l : List Nat} {pv : Nat → Int32 → St → Option (Unit × St)} {pvp : Nat → Pr} (hN : 200 ≤ N) (ha : 12 < a) (hv : PVL pv T n a o pvp) (hvd : PVD pv T n a o) (hvo : ∀ p, p ≤ n → okp n (pvp p) p 0) (h : TL S T n p) (hl : AK S a l) (hll : l.length ≤ p) : ∃ S2, f9_readAny N pv a (zI o) S = some ((), S2) ∧ RC S2 T n a l (pA T n pvp p) ∧ Same (tpP a) S S2 := by
  obtain ⟨S1, a1, a2, a3⟩ := hv p S l h hl hll
  have hok := hvo p h.2.1
  have hn60 := h.1.1
  have hf0 : fl 0 = zI ((0 : Nat) : Int) := rfl
  unfold f9_readAny pA
  rw [a1, bnd_some, nI_z]
  cases hx : pvp p with
  | inl e =>
    rw [hx] at a2
    obtain ⟨t1, t2⟩ := a2
    obtain ⟨m2, hm2⟩ : ∃ m2, N = m2 + 1 := ⟨N - 1, by omega⟩
    obtain ⟨S4, d1, d2, d3⟩ := anyR_d (N := N) (k := 0) (f := m2) (x := zI ((0 : Nat) : Int)) (x2 := zI o) (pv := pv) ha (by omega) t1 t2
    rw [← hm2] at d1
    exact ⟨S4, d1, d2, a3.tr d3⟩
  | inr q =>
    rw [hx] at a2 hok
    obtain ⟨t1, t2⟩ := a2
    obtain ⟨o1, o2, o3⟩ := hok
    have hw0 := (wl_len 0).2 rfl
    obtain ⟨S4, d1, d2, d3⟩ := anyR_c (N := N) hN ha hv hvd hvo 61 q.1 0 0 N S1 (l ++ q.2) t1 t2 (by rw [List.length_append]; omega) (by omega) (by omega) (by omega) (Or.inl rfl)
    refine ⟨S4, d1, ?_, a3.tr d3⟩
    rw [pb_r]
    cases hy : pAR T n pvp 61 q.1 0 with
    | inl e => rw [hy] at d2; exact d2
    | inr r =>
      rw [hy] at d2
      obtain ⟨e1, e2⟩ := d2
      refine ⟨e1, ?_⟩
      show AK S4 a (l ++ (q.2 ++ r.2))
      rw [← List.append_assoc]
      exact e2
theorem one_d {N a n o f : Nat} {T : Nat → Nat} (hN : 200 ≤ N) (ha : 12 < a) : PVD (f9_readOne N (f + 1)) T n a o := by
  intro e S h hl
  obtain ⟨S2, d1, d2, d3⟩ := cmp_d (N := N) hN ha h hl
  have hh := here_d h
  refine ⟨S2, ?_, d2, d3⟩
  show f9_readOne_b N (f9_readOne N f) a (zI o) S = _
  unfold f9_readOne_b
  simp (disch := omega) only [hh, d1, nI_z, zI_add, zI_sub, zI_mul, zI_m1, ckI_z, zI_clamp, Int.toNat_natCast, bnd_some, lt, rd_same, rd_ne, rdL_same, rdL_ne, wI_2, wL_1, if_true, if_false, iT_lt, iF_lt, iT_lt0, iF_lt0, iT_0lt, iF_0lt, iT_le, iF_le, iT_le0, iF_le0, iT_0le, iF_0le, iT_eq, iF_eq, iT_eq0, iF_eq0]
theorem one_c {N a n : Nat} {T : Nat → Nat} (hN : 200 ≤ N) (ha : 12 < a) : ∀ (f o : Nat), o + f = 7 → PVL (f9_readOne N (f + 1)) T n a o (pT T n f o) ∨ f = 0 := by
  intro f
  induction f with
  | zero => intro o _; exact Or.inr rfl
  | succ f ih =>
    intro o ho
    left
    intro p S l h hl hll
    have hpn := h.2.1
    have hn60 := h.1.1
    obtain ⟨z, z1, z2, z3, z4, z5, z6⟩ := here_l2 h
    obtain ⟨q33a, q33b⟩ := go_l (c := 33) h (by omega)
    show ∃ S2, f9_readOne_b N (f9_readOne N (f + 1)) a (zI o) S = some ((), S2) ∧ _ ∧ _
    unfold pT
    by_cases c1 : hr T n p = 33 ∨ hr T n p = 40
    · rw [if_pos c1]
      have hz := z5 (by omega)
      have hp := (hr_pos (T := T) (n := n) (p := p) (by omega)).1
      have hj : f9_readOne_b N (f9_readOne N (f + 1)) a (zI o) S = f9_readOne_j24 N (f9_readOne N (f + 1)) a (zI o) S := by
        unfold f9_readOne_b
        by_cases k1 : z = 33
        · simp (disch := omega) only [z1, nI_z, zI_add, zI_sub, zI_mul, zI_m1, ckI_z, zI_clamp, Int.toNat_natCast, bnd_some, lt, rd_same, rd_ne, rdL_same, rdL_ne, wI_2, wL_1, if_true, if_false, iT_lt, iF_lt, iT_lt0, iF_lt0, iT_0lt, iF_0lt, iT_le, iF_le, iT_le0, iF_le0, iT_0le, iF_0le, iT_eq, iF_eq, iT_eq0, iF_eq0]
        · simp (disch := omega) only [z1, nI_z, zI_add, zI_sub, zI_mul, zI_m1, ckI_z, zI_clamp, Int.toNat_natCast, bnd_some, lt, rd_same, rd_ne, rdL_same, rdL_ne, wI_2, wL_1, if_true, if_false, iT_lt, iF_lt, iT_lt0, iF_lt0, iT_0lt, iF_0lt, iT_le, iF_le, iT_le0, iF_le0, iT_0le, iF_0le, iT_eq, iF_eq, iT_eq0, iF_eq0]
      rw [hj]
      by_cases c2 : 5 ≤ o
      · rw [if_pos c2]
        obtain ⟨S2, b1, b2, b3⟩ := fail_l h
        refine ⟨S2, ?_, ⟨b2, (hl.same b3 (by omega) (fun k => by omega)).ad⟩, b3.mono (fun c k z => by unfold tpP; omega)⟩
        unfold f9_readOne_j24
        simp (disch := omega) only [b1, nI_z, zI_add, zI_sub, zI_mul, zI_m1, ckI_z, zI_clamp, Int.toNat_natCast, bnd_some, lt, rd_same, rd_ne, rdL_same, rdL_ne, wI_2, wL_1, if_true, if_false, iT_lt, iF_lt, iT_lt0, iF_lt0, iT_0lt, iF_0lt, iT_le, iF_le, iT_le0, iF_le0, iT_0le, iF_0le, iT_eq, iF_eq, iT_eq0, iF_eq0]
      · rw [if_neg c2]
        have hf : f ≠ 0 := by omega
        have hv : PVL (f9_readOne N (f + 1)) T n a (o + 1) (pT T n f (o + 1)) := by
          rcases ih (o + 1) (by omega) with q | q
          · exact q
          · exact absurd q hf
        have hvd : PVD (f9_readOne N (f + 1)) T n a (o + 1) := one_d hN ha
        have hz1 : zI ((o : Int) + ((1 : Nat) : Int)) = zI ((o + 1 : Nat) : Int) := rfl
        by_cases c3 : hr T n p = 33
        · rw [if_pos c3]
          have hgo := q33a c3
          obtain ⟨g1, g2⟩ := h.go hp
          generalize wI S 11 2 (zI ((p : Int) + ((1 : Nat) : Int))) = S1 at hgo g1 g2
          obtain ⟨S2, a1, a2, a3⟩ := hv (p + 1) S1 l g1 (hl.same g2 (by omega) (fun k => by omega)) (by omega)
          have s2 : Same (tpP a) S S2 := (g2.mono (fun c k z => by unfold tpP; omega)).tr a3
          have hok := pT_ok (T := T) (n := n) f (o + 1) (p + 1) (by omega)
          have step : ∀ S3, f1_write a (zI ((33 : Nat) : Int)) S2 = some ((), S3) → f9_readOne_j24 N (f9_readOne N (f + 1)) a (zI o) S = some ((), S3) := fun S3 w => by
            unfold f9_readOne_j24
            simp (disch := omega) only [hgo, hz1, a1, w, nI_z, zI_add, zI_sub, zI_mul, zI_m1, ckI_z, zI_clamp, Int.toNat_natCast, bnd_some, lt, rd_same, rd_ne, rdL_same, rdL_ne, wI_2, wL_1, if_true, if_false, iT_lt, iF_lt, iT_lt0, iF_lt0, iT_0lt, iF_0lt, iT_le, iF_le, iT_le0, iF_le0, iT_0le, iF_0le, iT_eq, iF_eq, iT_eq0, iF_eq0]
          cases hx : pT T n f (o + 1) (p + 1) with
          | inl e =>
            rw [hx] at a2
            obtain ⟨t1, t2⟩ := a2
            obtain ⟨S3, b1, b2, b3⟩ := write_d (x := zI ((33 : Nat) : Int)) t2
            exact ⟨S3, step S3 b1, ⟨t1.same b3 (fun k => by omega) (fun k => by omega), b2⟩, s2.tr (b3.mono (fun c k z => by unfold tpP; omega))⟩
          | inr q =>
            rw [hx] at a2 hok
            obtain ⟨t1, t2⟩ := a2
            obtain ⟨o1, o2, o3⟩ := hok
            obtain ⟨S3, b1, b2, b3⟩ := write_k (c := 33) t2 (by rw [List.length_append]; omega)
            refine ⟨S3, step S3 b1, ⟨t1.same b3 (fun k => by omega) (fun k => by omega), ?_⟩, s2.tr (b3.mono (fun c k z => by unfold tpP; omega))⟩
            show AK S3 a (l ++ (q.2 ++ [33]))
            rw [← List.append_assoc]
            exact b2
        · rw [if_neg c3]
          have hno := q33b c3
          have h2 := h.2.2.1
          obtain ⟨g1, g2⟩ := h.go hp
          obtain ⟨S2, a1, a2, a3⟩ := any_c (N := N) hN ha hv hvd (fun p hp => pT_ok (T := T) (n := n) f (o + 1) p hp) g1 (hl.same g2 (by omega) (fun k => by omega)) (by omega)
          have s2 : Same (tpP a) S S2 := (g2.mono (fun c k z => by unfold tpP; omega)).tr a3
          cases hx : pA T n (pT T n f (o + 1)) (p + 1) with
          | inl e =>
            rw [hx] at a2
            obtain ⟨t1, t2⟩ := a2
            have hgo := go_d (c := 41) t1 (by omega)
            have hf := fail_d t1
            refine ⟨S2, ?_, ⟨t1, t2⟩, s2⟩
            unfold f9_readOne_j24
            simp (disch := omega) only [hno, h2, hz1, a1, hgo, hf, nI_z, zI_add, zI_sub, zI_mul, zI_m1, ckI_z, zI_clamp, Int.toNat_natCast, bnd_some, lt, rd_same, rd_ne, rdL_same, rdL_ne, wI_2, wL_1, if_true, if_false, iT_lt, iF_lt, iT_lt0, iF_lt0, iT_0lt, iF_0lt, iT_le, iF_le, iT_le0, iF_le0, iT_0le, iF_0le, iT_eq, iF_eq, iT_eq0, iF_eq0]
          | inr q =>
            rw [hx] at a2
            obtain ⟨t1, t2⟩ := a2
            obtain ⟨w1, w2⟩ := go_l (c := 41) t1 (by omega)
            rw [pb_r]
            by_cases c4 : hr T n q.1 = 41
            · rw [if_pos c4]
              have hgo := w1 c4
              have hp2 := (hr_pos (T := T) (n := n) (p := q.1) (by omega)).1
              obtain ⟨u1, u2⟩ := t1.go hp2
              refine ⟨_, ?_, ⟨u1, t2.same u2 (by omega) (fun k => by omega)⟩, s2.tr (u2.mono (fun c k z => by unfold tpP; omega))⟩
              unfold f9_readOne_j24
              simp (disch := omega) only [hno, h2, hz1, a1, hgo, nI_z, zI_add, zI_sub, zI_mul, zI_m1, ckI_z, zI_clamp, Int.toNat_natCast, bnd_some, lt, rd_same, rd_ne, rdL_same, rdL_ne, wI_2, wL_1, if_true, if_false, iT_lt, iF_lt, iT_lt0, iF_lt0, iT_0lt, iF_0lt, iT_le, iF_le, iT_le0, iF_le0, iT_0le, iF_0le, iT_eq, iF_eq, iT_eq0, iF_eq0]
            · rw [if_neg c4]
              have hgo := w2 c4
              obtain ⟨S3, b1, b2, b3⟩ := fail_l t1
              refine ⟨S3, ?_, ⟨b2, (t2.same b3 (by omega) (fun k => by omega)).ad⟩, s2.tr (b3.mono (fun c k z => by unfold tpP; omega))⟩
              unfold f9_readOne_j24
              simp (disch := omega) only [hno, h2, hz1, a1, hgo, b1, nI_z, zI_add, zI_sub, zI_mul, zI_m1, ckI_z, zI_clamp, Int.toNat_natCast, bnd_some, lt, rd_same, rd_ne, rdL_same, rdL_ne, wI_2, wL_1, if_true, if_false, iT_lt, iF_lt, iT_lt0, iF_lt0, iT_0lt, iF_0lt, iT_le, iF_le, iT_le0, iF_le0, iT_0le, iF_0le, iT_eq, iF_eq, iT_eq0, iF_eq0]
    · rw [if_neg c1]
      obtain ⟨S2, d1, d2, d3⟩ := cmp_c (N := N) hN ha h hl hll
      have hno : z ≠ 33 ∧ z ≠ 40 := ⟨fun q => c1 (Or.inl ((z4 33 (by omega)).mp q)), fun q => c1 (Or.inr ((z4 40 (by omega)).mp q))⟩
      obtain ⟨n1, n2⟩ := hno
      refine ⟨S2, ?_, d2, d3⟩
      unfold f9_readOne_b
      simp (disch := omega) only [z1, d1, nI_z, zI_add, zI_sub, zI_mul, zI_m1, ckI_z, zI_clamp, Int.toNat_natCast, bnd_some, lt, rd_same, rd_ne, rdL_same, rdL_ne, wI_2, wL_1, if_true, if_false, iT_lt, iF_lt, iT_lt0, iF_lt0, iT_0lt, iF_0lt, iT_le, iF_le, iT_le0, iF_le0, iT_0le, iF_0le, iT_eq, iF_eq, iT_eq0, iF_eq0]
/-- a whole text: its fault's place, or its codes -/
def pAll (T : Nat → Nat) (n : Nat) : Nat ⊕ List Nat := match pA T n (pT T n 7 0) 0 with
  | .inl e => .inl e
  | .inr q => if q.1 < n then .inl q.1 else .inr q.2
