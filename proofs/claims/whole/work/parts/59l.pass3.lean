/-! The class's walk over an ask's codes. -/
theorem pass_loop {N a x : Nat} {m : Mc} {l : List Nat} (hN : 200 ≤ N) (ha : 12 < a) (hl : l.length ≤ 60) : ∀ (k i n : Nat) (S : St) (st : List Int32), i + k = l.length → k < n → SK S a st → AK S a l → S.1 a 2 = zI x → MV S m → st.length ≤ i → dpt (l.drop i) st.length = some 1 →
    ∃ S2, f1_isPassedBy_h23 N a n (zI i) S = f1_isPassedBy_j131 N a S2 ∧ SK S2 a (ev (vn m x) (l.drop i) st) ∧ Same (skP a) S S2 := by
  intro k
  induction k with
  | zero =>
    intro i n S st hi hn hs hk hx hm hd hp
    obtain ⟨n, rfl⟩ : ∃ z, n = z + 1 := ⟨n - 1, by omega⟩
    have h1 := hk.2.1
    rw [List.drop_eq_nil_of_le (by omega)]
    refine ⟨S, ?_, hs, Same.rfl'⟩
    rw [f1_isPassedBy_h23]
    simp (disch := omega) only [h1, nI_z, zI_add, zI_sub, zI_mul, zI_m1, ckI_z, zI_clamp, Int.toNat_natCast, bnd_some, lt, rd_same, rd_ne, rdL_same, rdL_ne, wI_2, wL_1, if_true, if_false, iT_lt, iF_lt, iT_lt0, iF_lt0, iT_0lt, iF_0lt, iT_le, iF_le, iT_le0, iF_le0, iT_0le, iF_0le, iT_eq, iF_eq, iT_eq0, iF_eq0]
  | succ k ih =>
    intro i n S st hi hn hs hk hx hm hd hp
    obtain ⟨n, rfl⟩ : ∃ z, n = z + 1 := ⟨n - 1, by omega⟩
    have h1 := hk.2.1
    have hlt : i < l.length := by omega
    have hr : l[i]? = some l[i] := List.getElem?_eq_getElem hlt
    have hdr : l.drop i = l[i] :: l.drop (i + 1) := List.drop_eq_getElem_cons hlt
    have hc := hk.2.2 i _ hr
    rw [Nat.zero_add] at hc
    rw [hdr] at hp ⊢
    generalize l[i] = c at hc hp
    have dc : ∀ l d, dpt (c :: l) d = (if 1256 ≤ c then none else if 256 ≤ c ∨ isNb c = true then dpt l (d + 1) else if c = 33 then (if d = 0 then none else dpt l d) else if d < 2 ∨ isBb c = false then none else dpt l (d - 1)) := fun _ _ => rfl
    rw [dc] at hp
    have hev : ev (vn m x) (c :: l.drop (i + 1)) st = ev (vn m x) (l.drop (i + 1)) (ev1 (vn m x) c st) := rfl
    rw [hev]
    by_cases c1 : 1256 ≤ c
    · rw [if_pos c1] at hp; cases hp
    rw [if_neg c1] at hp
    have next : ∀ (S1 : St) (st1 : List Int32), SK S1 a st1 → Same (skP a) S S1 → st1.length ≤ i + 1 → dpt (l.drop (i + 1)) st1.length = some 1 → ∃ S2, f1_isPassedBy_h23 N a n (zI ((i + 1 : Nat) : Int)) S1 = f1_isPassedBy_j131 N a S2 ∧ SK S2 a (ev (vn m x) (l.drop (i + 1)) st1) ∧ Same (skP a) S S2 := fun S1 st1 g1 g2 g3 g4 => by
      have m1 : MV S1 m := ⟨hm.1, by rw [g2.i (by unfold skP; omega)]; exact hm.2.1, by rw [g2.i (by unfold skP; omega)]; exact hm.2.2.1, by rw [g2.i (by unfold skP; omega)]; exact hm.2.2.2.1, hm.2.2.2.2.same g2 (fun k => by unfold skP; omega)⟩
      obtain ⟨S2, f1, f2, f3⟩ := ih (i + 1) n S1 st1 (by omega) (by omega) g1 (hk.same g2 (by unfold skP; omega) (fun k => by unfold skP; omega)) (by rw [g2.i (by unfold skP; omega)]; exact hx) m1 g3 g4
      exact ⟨S2, f1, f2, g2.tr f3⟩
    by_cases c2 : 256 ≤ c
    · rw [if_pos (Or.inl c2)] at hp
      have he : ev1 (vn m x) c st = zI ((c - 256 : Nat) : Int) :: st := by unfold ev1; rw [if_pos c2]
      rw [he]
      obtain ⟨S1, p1, p2, p3⟩ := push_k hs (by omega) (zI ((c - 256 : Nat) : Int))
      obtain ⟨S2, f1, f2, f3⟩ := next S1 _ p2 p3 (by rw [List.length_cons]; omega) (by rw [List.length_cons]; exact hp)
      refine ⟨S2, ?_, f2, f3⟩
      have hz : (c : Int) - ((256 : Nat) : Int) = ((c - 256 : Nat) : Int) := by omega
      rw [f1_isPassedBy_h23]
      simp (disch := omega) only [h1, hc, hz, p1, nI_z, zI_add, zI_sub, zI_mul, zI_m1, ckI_z, zI_clamp, Int.toNat_natCast, bnd_some, lt, rd_same, rd_ne, rdL_same, rdL_ne, wI_2, wL_1, if_true, if_false, iT_lt, iF_lt, iT_lt0, iF_lt0, iT_0lt, iF_0lt, iT_le, iF_le, iT_le0, iF_le0, iT_0le, iF_0le, iT_eq, iF_eq, iT_eq0, iF_eq0]
      exact f1
    have hnm := fun S => isName_c (c : Int) S (by omega)
    by_cases c3 : isNb c = true
    · rw [if_pos (Or.inr c3)] at hp
      have hn := isNb_iff.mp c3
      have he : ev1 (vn m x) c st = vn m x c :: st := by unfold ev1; rw [if_neg c2, if_pos c3]
      rw [he]
      have hv := value_k (N := N) (by omega) hm hx hn
      obtain ⟨S1, p1, p2, p3⟩ := push_k hs (by omega) (vn m x c)
      obtain ⟨S2, f1, f2, f3⟩ := next S1 _ p2 p3 (by rw [List.length_cons]; omega) (by rw [List.length_cons]; exact hp)
      refine ⟨S2, ?_, f2, f3⟩
      have hb : bI ((c : Int) = 110 ∨ (c : Int) = 102 ∨ (c : Int) = 108 ∨ (c : Int) = 109 ∨ (c : Int) = 120 ∨ (c : Int) = 97 ∨ (c : Int) = 98) = zI 1 := bI_t (by unfold isN at hn; omega)
      rw [f1_isPassedBy_h23]
      simp (disch := omega) only [h1, hc, nI_z, zI_add, zI_sub, zI_mul, zI_m1, ckI_z, zI_clamp, Int.toNat_natCast, bnd_some, lt, rd_same, rd_ne, rdL_same, rdL_ne, wI_2, wL_1, if_true, if_false, iT_lt, iF_lt, iT_lt0, iF_lt0, iT_0lt, iF_0lt, iT_le, iF_le, iT_le0, iF_le0, iT_0le, iF_0le, iT_eq, iF_eq, iT_eq0, iF_eq0]
      rw [hnm, hb, bnd_some, if_neg (by decide), hv, bnd_some, p1, bnd_some]
      exact f1
    rw [if_neg (fun q => by rcases q with q | q; exact c2 q; exact c3 q)] at hp
    have hb : bI ((c : Int) = 110 ∨ (c : Int) = 102 ∨ (c : Int) = 108 ∨ (c : Int) = 109 ∨ (c : Int) = 120 ∨ (c : Int) = 97 ∨ (c : Int) = 98) = zI 0 := bI_f (fun q => c3 (isNb_iff.mpr (by unfold isN; omega)))
    by_cases c4 : c = 33
    · rw [if_pos c4] at hp
      cases st with
      | nil =>
        have hp : (none : Option Nat) = some 1 := hp
        cases hp
      | cons y st =>
        rw [if_neg (by rw [List.length_cons]; omega)] at hp
        have he : ev1 (vn m x) c (y :: st) = (zI 1 - y) :: st := by subst c4; rfl
        rw [he]
        obtain ⟨S0, q1, q2, q3⟩ := pop_k hs
        rw [List.length_cons] at hd
        obtain ⟨S1, p1, p2, p3⟩ := push_k q2 (by omega) (zI 1 - y)
        obtain ⟨S2, f1, f2, f3⟩ := next S1 _ p2 (q3.tr p3) (by rw [List.length_cons]; omega) hp
        refine ⟨S2, ?_, f2, f3⟩
        have h33 : zI (c : Int) = nI 33 := by rw [c4]; rfl
        rw [f1_isPassedBy_h23]
        simp (disch := omega) only [h1, hc, nI_z, zI_add, zI_sub, zI_mul, zI_m1, ckI_z, zI_clamp, Int.toNat_natCast, bnd_some, lt, rd_same, rd_ne, rdL_same, rdL_ne, wI_2, wL_1, if_true, if_false, iT_lt, iF_lt, iT_lt0, iF_lt0, iT_0lt, iF_0lt, iT_le, iF_le, iT_le0, iF_le0, iT_0le, iF_0le, iT_eq, iF_eq, iT_eq0, iF_eq0]
        rw [hnm, hb, bnd_some, iT_eq0 rfl, q1, bnd_some]
        have hn1 : zI ((1 : Nat) : Int) - y = zI 1 - y := rfl
        rw [hn1, p1, bnd_some]
        exact f1
    · rw [if_neg c4] at hp
      by_cases c5 : st.length < 2 ∨ isBb c = false
      · rw [if_pos c5] at hp; cases hp
      · rw [if_neg c5] at hp
        have c6 : isBb c = true := by
          cases hq : isBb c with
          | true => rfl
          | false => exact absurd (Or.inr hq) c5
        have hbin := isBb_iff.mp c6
        match st, hs, hd, hp, c5 with
        | [], _, _, _, c5 => exact absurd (Or.inl (by decide)) c5
        | [_], _, _, _, c5 => exact absurd (Or.inl (by rw [List.length_cons, List.length_nil]; omega)) c5
        | r :: y :: st, hs, hd, hp, c5 =>
          have he : ev1 (vn m x) c (r :: y :: st) = jn y c r :: st := ev1_j hbin
          rw [he]
          obtain ⟨S0, q1, q2, q3⟩ := pop_k hs
          obtain ⟨S0', q4, q5, q6⟩ := pop_k q2
          rw [List.length_cons, List.length_cons] at hd hp
          obtain ⟨S1, p1, p2, p3⟩ := push_k q5 (by omega) (jn y c r)
          obtain ⟨S2, f1, f2, f3⟩ := next S1 _ p2 ((q3.tr q6).tr p3) (by rw [List.length_cons]; omega) hp
          refine ⟨S2, ?_, f2, f3⟩
          have hj := joined_k (l := y) (r := r) (S := S0') hbin
          rw [f1_isPassedBy_h23]
          simp (disch := omega) only [h1, hc, nI_z, zI_add, zI_sub, zI_mul, zI_m1, ckI_z, zI_clamp, Int.toNat_natCast, bnd_some, lt, rd_same, rd_ne, rdL_same, rdL_ne, wI_2, wL_1, if_true, if_false, iT_lt, iF_lt, iT_lt0, iF_lt0, iT_0lt, iF_0lt, iT_le, iF_le, iT_le0, iF_le0, iT_0le, iF_0le, iT_eq, iF_eq, iT_eq0, iF_eq0]
          rw [hnm, hb, bnd_some, iT_eq0 rfl, q1, bnd_some, q4, bnd_some, hj, bnd_some, p1, bnd_some]
          exact f1
theorem isPassedBy_k {N a x : Nat} {m : Mc} {l : List Nat} {v : Int32} {S : St} (hN : 200 ≤ N) (ha : 12 < a) (hl : l.length ≤ 60) (hk : AK S a l) (hx : S.1 a 2 = zI x) (hm : MV S m) (h6 : S.1 6 6 = zI ((0 : Nat) : Int)) (h8 : m.2.2.2.1 ≠ []) (hd : dpt l 0 = some 1) (hv : ev (vn m x) l [] = [v]) : ∃ S2, f1_isPassedBy N a S = some (if v = zI 0 then zI 0 else zI 1, S2) ∧ Same (skP a) S S2 := by
  have hs : Same (skP a) S (wI S a 4 (zI ((0 : Nat) : Int))) := (Same.rfl' (P := skP a)).wI (by unfold skP; omega)
  have hS : SK (wI S a 4 (zI ((0 : Nat) : Int))) a [] := ⟨by decide, rd_same, fun i y hi => by simp at hi⟩
  have m1 : MV (wI S a 4 (zI ((0 : Nat) : Int))) m := ⟨hm.1, by rw [hs.i (by unfold skP; omega)]; exact hm.2.1, by rw [hs.i (by unfold skP; omega)]; exact hm.2.2.1, by rw [hs.i (by unfold skP; omega)]; exact hm.2.2.2.1, hm.2.2.2.2.same hs (fun k => by unfold skP; omega)⟩
  have hc := hm.2.2.2.1
  have h0 : 0 < m.2.2.2.1.length := List.length_pos_iff.mpr h8
  have h88 := hm.1
  have hst : f1_isPassedBy N a S = f1_isPassedBy_h23 N a N (zI ((0 : Nat) : Int)) (wI S a 4 (zI ((0 : Nat) : Int))) := by
    unfold f1_isPassedBy f4_state f4_saidCount
    simp (disch := omega) only [h6, hc, nI_z, zI_add, zI_sub, zI_mul, zI_m1, ckI_z, zI_clamp, Int.toNat_natCast, bnd_some, lt, rd_same, rd_ne, rdL_same, rdL_ne, wI_2, wL_1, if_true, if_false, iT_lt, iF_lt, iT_lt0, iF_lt0, iT_0lt, iF_0lt, iT_le, iF_le, iT_le0, iF_le0, iT_0le, iF_0le, iT_eq, iF_eq, iT_eq0, iF_eq0]
  obtain ⟨S1, g1, g2, g3⟩ := pass_loop (N := N) (x := x) (m := m) (l := l) hN ha hl l.length 0 N (wI S a 4 (zI ((0 : Nat) : Int))) [] (by omega) (by omega) hS (hk.same hs (by unfold skP; omega) (fun k => by unfold skP; omega)) (by rw [hs.i (by unfold skP; omega)]; exact hx) m1 (by simp) hd
  rw [List.drop_zero, hv] at g2
  obtain ⟨S2, p1, p2, p3⟩ := pop_k g2
  refine ⟨S2, ?_, (hs.tr g3).tr p3⟩
  rw [hst, g1]
  unfold f1_isPassedBy_j131
  rw [p1, bnd_some]
  by_cases v0 : v = zI 0
  · have v0' : v = 0 := v0
    rw [if_pos v0', if_pos v0]; rfl
  · have v0' : ¬ v = 0 := fun q => v0 q
    rw [if_neg v0', if_neg v0]; rfl
