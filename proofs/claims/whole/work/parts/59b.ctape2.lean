/-! The class reads sums and comparisons. -/
theorem isSg (z : Int) (S : St) (hz : -1 ≤ z ∧ z < 256) : f9_isSign (zI z) S = some (bI (z = 43 ∨ z = 45 ∨ z = 42 ∨ z = 37), S) := by
  unfold f9_isSign
  by_cases c1 : z = 43
  · rw [bI_t (by omega)]; simp (disch := omega) only [nI_z, zI_add, zI_sub, zI_mul, zI_m1, ckI_z, zI_clamp, Int.toNat_natCast, bnd_some, lt, rd_same, rd_ne, rdL_same, rdL_ne, wI_2, wL_1, if_true, if_false, iT_lt, iF_lt, iT_lt0, iF_lt0, iT_0lt, iF_0lt, iT_le, iF_le, iT_le0, iF_le0, iT_0le, iF_0le, iT_eq, iF_eq, iT_eq0, iF_eq0]; rfl
  by_cases c2 : z = 45
  · rw [bI_t (by omega)]; simp (disch := omega) only [nI_z, zI_add, zI_sub, zI_mul, zI_m1, ckI_z, zI_clamp, Int.toNat_natCast, bnd_some, lt, rd_same, rd_ne, rdL_same, rdL_ne, wI_2, wL_1, if_true, if_false, iT_lt, iF_lt, iT_lt0, iF_lt0, iT_0lt, iF_0lt, iT_le, iF_le, iT_le0, iF_le0, iT_0le, iF_0le, iT_eq, iF_eq, iT_eq0, iF_eq0]; rfl
  by_cases c3 : z = 42
  · rw [bI_t (by omega)]; simp (disch := omega) only [nI_z, zI_add, zI_sub, zI_mul, zI_m1, ckI_z, zI_clamp, Int.toNat_natCast, bnd_some, lt, rd_same, rd_ne, rdL_same, rdL_ne, wI_2, wL_1, if_true, if_false, iT_lt, iF_lt, iT_lt0, iF_lt0, iT_0lt, iF_0lt, iT_le, iF_le, iT_le0, iF_le0, iT_0le, iF_0le, iT_eq, iF_eq, iT_eq0, iF_eq0]; rfl
  by_cases c4 : z = 37
  · rw [bI_t (by omega)]; simp (disch := omega) only [nI_z, zI_add, zI_sub, zI_mul, zI_m1, ckI_z, zI_clamp, Int.toNat_natCast, bnd_some, lt, rd_same, rd_ne, rdL_same, rdL_ne, wI_2, wL_1, if_true, if_false, iT_lt, iF_lt, iT_lt0, iF_lt0, iT_0lt, iF_0lt, iT_le, iF_le, iT_le0, iF_le0, iT_0le, iF_0le, iT_eq, iF_eq, iT_eq0, iF_eq0]; rfl
  · rw [bI_f (by omega)]; simp (disch := omega) only [nI_z, zI_add, zI_sub, zI_mul, zI_m1, ckI_z, zI_clamp, Int.toNat_natCast, bnd_some, lt, rd_same, rd_ne, rdL_same, rdL_ne, wI_2, wL_1, if_true, if_false, iT_lt, iF_lt, iT_lt0, iF_lt0, iT_0lt, iF_0lt, iT_le, iF_le, iT_le0, iF_le0, iT_0le, iF_0le, iT_eq, iF_eq, iT_eq0, iF_eq0]; rfl
/-- the end of the loop, alive -/
theorem sumE_c {N a n p w : Nat} {T : Nat → Nat} {S : St} {l : List Nat} (ha : 12 < a) (h : TL S T n p) (hl : AK S a l) (hll : l.length + (wl w).length ≤ p) (hl60 : l.length + (wl w).length ≤ 60) (hw : w < 256) : ∃ S2, f9_readSum_j112 N a (zI w) S = some ((), S2) ∧ RC S2 T n a l (.inr (p, wl w)) ∧ Same (tpP a) S S2 := by
  unfold f9_readSum_j112
  by_cases w0 : w = 0
  · refine ⟨S, ?_, ⟨h, ?_⟩, Same.rfl'⟩
    · simp (disch := omega) only [f9_readSum_j121, f9_writeIf, nI_z, zI_add, zI_sub, zI_mul, zI_m1, ckI_z, zI_clamp, Int.toNat_natCast, bnd_some, lt, rd_same, rd_ne, rdL_same, rdL_ne, wI_2, wL_1, if_true, if_false, iT_lt, iF_lt, iT_lt0, iF_lt0, iT_0lt, iF_0lt, iT_le, iF_le, iT_le0, iF_le0, iT_0le, iF_0le, iT_eq, iF_eq, iT_eq0, iF_eq0]
    · unfold wl
      rw [if_pos w0, List.append_nil]
      exact hl
  · have hwl : wl w = [w] := by unfold wl; rw [if_neg w0]
    rw [hwl, List.length_singleton] at hll hl60
    obtain ⟨S2, b1, b2, b3⟩ := write_k (c := w) hl (by omega)
    refine ⟨S2, ?_, ⟨h.same b3 (fun k => by omega) (fun k => by omega), by rw [hwl]; exact b2⟩, b3.mono (fun c k z => by unfold tpP; omega)⟩
    simp (disch := omega) only [f9_readSum_j121, f9_writeIf, b1, nI_z, zI_add, zI_sub, zI_mul, zI_m1, ckI_z, zI_clamp, Int.toNat_natCast, bnd_some, lt, rd_same, rd_ne, rdL_same, rdL_ne, wI_2, wL_1, if_true, if_false, iT_lt, iF_lt, iT_lt0, iF_lt0, iT_0lt, iF_0lt, iT_le, iF_le, iT_le0, iF_le0, iT_0le, iF_0le, iT_eq, iF_eq, iT_eq0, iF_eq0]
theorem sumE_d {N a n e : Nat} {x : Int32} {T : Nat → Nat} {S : St} (ha : 12 < a) (h : TD S T n e) (hl : AD S a) : ∃ S2, f9_readSum_j112 N a x S = some ((), S2) ∧ (TD S2 T n e ∧ AD S2 a) ∧ Same (tpP a) S S2 := by
  unfold f9_readSum_j112
  by_cases w0 : x = 0
  · refine ⟨S, ?_, ⟨h, hl⟩, Same.rfl'⟩
    rw [if_pos w0]
    unfold f9_readSum_j121 f9_writeIf
    simp (disch := omega) only [nI_z, zI_add, zI_sub, zI_mul, zI_m1, ckI_z, zI_clamp, Int.toNat_natCast, bnd_some, lt, rd_same, rd_ne, rdL_same, rdL_ne, wI_2, wL_1, if_true, if_false, iT_lt, iF_lt, iT_lt0, iF_lt0, iT_0lt, iF_0lt, iT_le, iF_le, iT_le0, iF_le0, iT_0le, iF_0le, iT_eq, iF_eq, iT_eq0, iF_eq0]
  · obtain ⟨S2, b1, b2, b3⟩ := write_d (x := x) hl
    refine ⟨S2, ?_, ⟨h.same b3 (fun k => by omega) (fun k => by omega), b2⟩, b3.mono (fun c k z => by unfold tpP; omega)⟩
    rw [if_neg w0]
    unfold f9_readSum_j121 f9_writeIf
    simp (disch := omega) only [b1, nI_z, zI_add, zI_sub, zI_mul, zI_m1, ckI_z, zI_clamp, Int.toNat_natCast, bnd_some, lt, rd_same, rd_ne, rdL_same, rdL_ne, wI_2, wL_1, if_true, if_false, iT_lt, iF_lt, iT_lt0, iF_lt0, iT_0lt, iF_0lt, iT_le, iF_le, iT_le0, iF_le0, iT_0le, iF_0le, iT_eq, iF_eq, iT_eq0, iF_eq0]
theorem sumR_d {N a n e k f : Nat} {x : Int32} {T : Nat → Nat} {S : St} (ha : 12 < a) (hk : k < 1000) (h : TD S T n e) (hl : AD S a) : ∃ S2, f9_readSum_h9 N a (f + 1) x (zI k) S = some ((), S2) ∧ (TD S2 T n e ∧ AD S2 a) ∧ Same (tpP a) S S2 := by
  obtain ⟨S2, b1, b2, b3⟩ := sumE_d (N := N) (x := x) ha h hl
  refine ⟨S2, ?_, b2, b3⟩
  have hh := here_d h
  have hs := isSg (-1) S (by omega)
  rw [f9_readSum_h9]
  by_cases c : 60 ≤ k
  · simp (disch := omega) only [nI_z, zI_add, zI_sub, zI_mul, zI_m1, ckI_z, zI_clamp, Int.toNat_natCast, bnd_some, lt, rd_same, rd_ne, rdL_same, rdL_ne, wI_2, wL_1, if_true, if_false, iT_lt, iF_lt, iT_lt0, iF_lt0, iT_0lt, iF_0lt, iT_le, iF_le, iT_le0, iF_le0, iT_0le, iF_0le, iT_eq, iF_eq, iT_eq0, iF_eq0]
    exact b1
  · simp (disch := omega) only [iT_b, iF_b, hh, hs, nI_z, zI_add, zI_sub, zI_mul, zI_m1, ckI_z, zI_clamp, Int.toNat_natCast, bnd_some, lt, rd_same, rd_ne, rdL_same, rdL_ne, wI_2, wL_1, if_true, if_false, iT_lt, iF_lt, iT_lt0, iF_lt0, iT_0lt, iF_0lt, iT_le, iF_le, iT_le0, iF_le0, iT_0le, iF_0le, iT_eq, iF_eq, iT_eq0, iF_eq0]
    exact b1
theorem sumR_c {N a n : Nat} {T : Nat → Nat} (hN : 200 ≤ N) (ha : 12 < a) : ∀ (f p w k m : Nat) (S : St) (l : List Nat), TL S T n p → AK S a l → l.length + (wl w).length ≤ p → k ≤ p → n < p + f → f < m → w < 256 →
    ∃ S2, f9_readSum_h9 N a m (zI w) (zI k) S = some ((), S2) ∧ RC S2 T n a l (pSumR T n f p w) ∧ Same (tpP a) S S2 := by
  intro f
  induction f with
  | zero =>
    intro p w k m S l h hl hll hk hf hm hw
    have := h.2.1
    omega
  | succ f ih =>
    intro p w k m S l h hl hll hk hf hm hw
    obtain ⟨m, rfl⟩ : ∃ z, m = z + 1 := ⟨m - 1, by omega⟩
    have hpn := h.2.1
    have hn60 := h.1.1
    obtain ⟨z, z1, z2, z3, z4, z5, z6⟩ := here_l2 h
    have hs := isSg z S ⟨z2, z3⟩
    have h2 := h.2.2.1
    have hz1 : zI ((k : Int) + ((1 : Nat) : Int)) = zI ((k + 1 : Nat) : Int) := rfl
    unfold pSumR
    by_cases c1 : hr T n p = 42 ∨ hr T n p = 37
    · rw [if_pos c1]
      have hz := z5 (by omega)
      have hp := (hr_pos (T := T) (n := n) (p := p) (by omega)).1
      obtain ⟨g1, g2⟩ := h.go hp
      have l1 : AK (wI S 11 2 (zI ((p : Int) + ((1 : Nat) : Int)))) a l := hl.same g2 (by omega) (fun k => by omega)
      obtain ⟨S2, a1, a2, a3⟩ := operand_c (N := N) (a := a) (by omega) ha g1 l1 (by omega)
      have s2 : Same (tpP a) S S2 := (g2.mono (fun c k z => by unfold tpP; omega)).tr a3
      have hok := pOne_ok (T := T) (n := n) (p := p + 1) (by omega)
      have step : ∀ S3, f1_write a (zI (hr T n p)) S2 = some ((), S3) → f9_readSum_h9 N a (m + 1) (zI w) (zI k) S = f9_readSum_h9 N a m (zI w) (zI ((k + 1 : Nat) : Int)) S3 := fun S3 q => by
        rw [← hz] at q
        rw [f9_readSum_h9]
        by_cases c3 : z = 42
        · simp (disch := omega) only [iT_b, iF_b, z1, hs, f9_readSum_j45, f9_readSum_j50, f9_readSum_j65, f9_readSum_j66, f9_writeIf, h2, a1, q, f9_readSum_j105, hz1, nI_z, zI_add, zI_sub, zI_mul, zI_m1, ckI_z, zI_clamp, Int.toNat_natCast, bnd_some, lt, rd_same, rd_ne, rdL_same, rdL_ne, wI_2, wL_1, if_true, if_false, iT_lt, iF_lt, iT_lt0, iF_lt0, iT_0lt, iF_0lt, iT_le, iF_le, iT_le0, iF_le0, iT_0le, iF_0le, iT_eq, iF_eq, iT_eq0, iF_eq0]
        · simp (disch := omega) only [iT_b, iF_b, z1, hs, f9_readSum_j45, f9_readSum_j50, f9_readSum_j65, f9_readSum_j66, f9_writeIf, h2, a1, q, f9_readSum_j105, hz1, nI_z, zI_add, zI_sub, zI_mul, zI_m1, ckI_z, zI_clamp, Int.toNat_natCast, bnd_some, lt, rd_same, rd_ne, rdL_same, rdL_ne, wI_2, wL_1, if_true, if_false, iT_lt, iF_lt, iT_lt0, iF_lt0, iT_0lt, iF_0lt, iT_le, iF_le, iT_le0, iF_le0, iT_0le, iF_0le, iT_eq, iF_eq, iT_eq0, iF_eq0]
      cases hx : pOne T n (p + 1) with
      | inl e =>
        rw [hx] at a2
        obtain ⟨t1, t2⟩ := a2
        obtain ⟨S3, b1, b2, b3⟩ := write_d (x := zI (hr T n p)) t2
        obtain ⟨m2, hm2⟩ : ∃ m2, m = m2 + 1 := ⟨m - 1, by omega⟩
        obtain ⟨S4, d1, d2, d3⟩ := sumR_d (N := N) (k := k + 1) (f := m2) (x := zI w) ha (by omega) (t1.same b3 (fun k => by omega) (fun k => by omega)) b2
        rw [← hm2] at d1
        exact ⟨S4, by rw [step S3 b1]; exact d1, d2, (s2.tr (b3.mono (fun c k z => by unfold tpP; omega))).tr d3⟩
      | inr q =>
        rw [hx] at a2 hok
        obtain ⟨t1, t2⟩ := a2
        obtain ⟨o1, o2, o3⟩ := hok
        obtain ⟨S3, b1, b2, b3⟩ := write_k (c := hr T n p) t2 (by rw [List.length_append]; omega)
        obtain ⟨S4, d1, d2, d3⟩ := ih q.1 w (k + 1) m S3 (l ++ q.2 ++ [hr T n p]) (t1.same b3 (fun k => by omega) (fun k => by omega)) b2 (by rw [List.length_append, List.length_append, List.length_singleton]; omega) (by omega) (by omega) (by omega) hw
        refine ⟨S4, by rw [step S3 b1]; exact d1, ?_, (s2.tr (b3.mono (fun c k z => by unfold tpP; omega))).tr d3⟩
        rw [pb_r]
        cases hy : pSumR T n f q.1 w with
        | inl e => rw [hy] at d2; exact d2
        | inr r =>
          rw [hy] at d2
          obtain ⟨e1, e2⟩ := d2
          refine ⟨e1, ?_⟩
          show AK S4 a (l ++ (q.2 ++ [hr T n p] ++ r.2))
          rw [← List.append_assoc, ← List.append_assoc]
          exact e2
    · rw [if_neg c1]
      by_cases c2 : hr T n p = 43 ∨ hr T n p = 45
      · rw [if_pos c2]
        have hz := z5 (by omega)
        have hp := (hr_pos (T := T) (n := n) (p := p) (by omega)).1
        -- what waits is written first
        have pre : ∃ S0, f9_writeIf (if w = 0 then zI ((0 : Nat) : Int) else zI ((1 : Nat) : Int)) a (zI w) S = some ((), S0) ∧ AK S0 a (l ++ wl w) ∧ TL S0 T n p ∧ Same (tpP a) S S0 := by
          by_cases w0 : w = 0
          · rw [if_pos w0]
            refine ⟨S, ?_, ?_, h, Same.rfl'⟩
            · unfold f9_writeIf; simp (disch := omega) only [nI_z, zI_add, zI_sub, zI_mul, zI_m1, ckI_z, zI_clamp, Int.toNat_natCast, bnd_some, lt, rd_same, rd_ne, rdL_same, rdL_ne, wI_2, wL_1, if_true, if_false, iT_lt, iF_lt, iT_lt0, iF_lt0, iT_0lt, iF_0lt, iT_le, iF_le, iT_le0, iF_le0, iT_0le, iF_0le, iT_eq, iF_eq, iT_eq0, iF_eq0]
            · unfold wl; rw [if_pos w0, List.append_nil]; exact hl
          · rw [if_neg w0]
            have hwl : wl w = [w] := by unfold wl; rw [if_neg w0]
            rw [hwl] at hll ⊢
            rw [List.length_singleton] at hll
            obtain ⟨S2, b1, b2, b3⟩ := write_k (c := w) hl (by omega)
            refine ⟨S2, ?_, b2, h.same b3 (fun k => by omega) (fun k => by omega), b3.mono (fun c k z => by unfold tpP; omega)⟩
            unfold f9_writeIf
            simp (disch := omega) only [b1, nI_z, zI_add, zI_sub, zI_mul, zI_m1, ckI_z, zI_clamp, Int.toNat_natCast, bnd_some, lt, rd_same, rd_ne, rdL_same, rdL_ne, wI_2, wL_1, if_true, if_false, iT_lt, iF_lt, iT_lt0, iF_lt0, iT_0lt, iF_0lt, iT_le, iF_le, iT_le0, iF_le0, iT_0le, iF_0le, iT_eq, iF_eq, iT_eq0, iF_eq0]
        obtain ⟨S0, p1, p2, p3, p4⟩ := pre
        have h20 := p3.2.2.1
        obtain ⟨g1, g2⟩ := p3.go hp
        have l1 : AK (wI S0 11 2 (zI ((p : Int) + ((1 : Nat) : Int)))) a (l ++ wl w) := p2.same g2 (by omega) (fun k => by omega)
        obtain ⟨S2, a1, a2, a3⟩ := operand_c (N := N) (a := a) (by omega) ha g1 l1 (by rw [List.length_append]; omega)
        have s2 : Same (tpP a) S S2 := (p4.tr (g2.mono (fun c k z => by unfold tpP; omega))).tr a3
        have hok := pOne_ok (T := T) (n := n) (p := p + 1) (by omega)
        have step : f9_readSum_h9 N a (m + 1) (zI w) (zI k) S = f9_readSum_h9 N a m (zI (hr T n p)) (zI ((k + 1 : Nat) : Int)) S2 := by
          rw [← hz]
          rw [f9_readSum_h9]
          by_cases w0 : w = 0
          · rw [if_pos w0] at p1
            simp (disch := omega) only [iT_b, iF_b, z1, hs, f9_readSum_j45, f9_readSum_j50, f9_readSum_j65, f9_readSum_j66, p1, h20, a1, f9_readSum_j105, hz1, nI_z, zI_add, zI_sub, zI_mul, zI_m1, ckI_z, zI_clamp, Int.toNat_natCast, bnd_some, lt, rd_same, rd_ne, rdL_same, rdL_ne, wI_2, wL_1, if_true, if_false, iT_lt, iF_lt, iT_lt0, iF_lt0, iT_0lt, iF_0lt, iT_le, iF_le, iT_le0, iF_le0, iT_0le, iF_0le, iT_eq, iF_eq, iT_eq0, iF_eq0]
            unfold f9_writeIf
            simp (disch := omega) only [nI_z, zI_add, zI_sub, zI_mul, zI_m1, ckI_z, zI_clamp, Int.toNat_natCast, bnd_some, lt, rd_same, rd_ne, rdL_same, rdL_ne, wI_2, wL_1, if_true, if_false, iT_lt, iF_lt, iT_lt0, iF_lt0, iT_0lt, iF_0lt, iT_le, iF_le, iT_le0, iF_le0, iT_0le, iF_0le, iT_eq, iF_eq, iT_eq0, iF_eq0]
          · rw [if_neg w0] at p1
            simp (disch := omega) only [iT_b, iF_b, z1, hs, f9_readSum_j45, f9_readSum_j50, f9_readSum_j65, f9_readSum_j66, p1, h20, a1, f9_readSum_j105, hz1, nI_z, zI_add, zI_sub, zI_mul, zI_m1, ckI_z, zI_clamp, Int.toNat_natCast, bnd_some, lt, rd_same, rd_ne, rdL_same, rdL_ne, wI_2, wL_1, if_true, if_false, iT_lt, iF_lt, iT_lt0, iF_lt0, iT_0lt, iF_0lt, iT_le, iF_le, iT_le0, iF_le0, iT_0le, iF_0le, iT_eq, iF_eq, iT_eq0, iF_eq0]
            unfold f9_writeIf
            simp (disch := omega) only [nI_z, zI_add, zI_sub, zI_mul, zI_m1, ckI_z, zI_clamp, Int.toNat_natCast, bnd_some, lt, rd_same, rd_ne, rdL_same, rdL_ne, wI_2, wL_1, if_true, if_false, iT_lt, iF_lt, iT_lt0, iF_lt0, iT_0lt, iF_0lt, iT_le, iF_le, iT_le0, iF_le0, iT_0le, iF_0le, iT_eq, iF_eq, iT_eq0, iF_eq0]
        cases hx : pOne T n (p + 1) with
        | inl e =>
          rw [hx] at a2
          obtain ⟨t1, t2⟩ := a2
          obtain ⟨m2, hm2⟩ : ∃ m2, m = m2 + 1 := ⟨m - 1, by omega⟩
          obtain ⟨S4, d1, d2, d3⟩ := sumR_d (N := N) (k := k + 1) (f := m2) (x := zI (hr T n p)) ha (by omega) t1 t2
          rw [← hm2] at d1
          exact ⟨S4, by rw [step]; exact d1, d2, s2.tr d3⟩
        | inr q =>
          rw [hx] at a2 hok
          obtain ⟨t1, t2⟩ := a2
          obtain ⟨o1, o2, o3⟩ := hok
          have hwl1 := (wl_len (hr T n p)).1
          obtain ⟨S4, d1, d2, d3⟩ := ih q.1 (hr T n p) (k + 1) m S2 (l ++ wl w ++ q.2) t1 t2 (by rw [List.length_append, List.length_append]; omega) (by omega) (by omega) (by omega) (by omega)
          refine ⟨S4, by rw [step]; exact d1, ?_, s2.tr d3⟩
          rw [pb_r]
          cases hy : pSumR T n f q.1 (hr T n p) with
          | inl e => rw [hy] at d2; exact d2
          | inr r =>
            rw [hy] at d2
            obtain ⟨e1, e2⟩ := d2
            refine ⟨e1, ?_⟩
            show AK S4 a (l ++ (wl w ++ q.2 ++ r.2))
            rw [← List.append_assoc, ← List.append_assoc]
            exact e2
      · rw [if_neg c2]
        obtain ⟨S2, b1, b2, b3⟩ := sumE_c (N := N) ha h hl hll (by omega) hw
        refine ⟨S2, ?_, b2, b3⟩
        have hno : ¬ (z = 43 ∨ z = 45 ∨ z = 42 ∨ z = 37) := fun q => by
          have := (z4 z.toNat (by omega)).mp (by omega)
          omega
        rw [f9_readSum_h9]
        by_cases c : 60 ≤ k
        · simp (disch := omega) only [nI_z, zI_add, zI_sub, zI_mul, zI_m1, ckI_z, zI_clamp, Int.toNat_natCast, bnd_some, lt, rd_same, rd_ne, rdL_same, rdL_ne, wI_2, wL_1, if_true, if_false, iT_lt, iF_lt, iT_lt0, iF_lt0, iT_0lt, iF_0lt, iT_le, iF_le, iT_le0, iF_le0, iT_0le, iF_0le, iT_eq, iF_eq, iT_eq0, iF_eq0]
          exact b1
        · simp (disch := omega) only [iT_b, iF_b, z1, hs, nI_z, zI_add, zI_sub, zI_mul, zI_m1, ckI_z, zI_clamp, Int.toNat_natCast, bnd_some, lt, rd_same, rd_ne, rdL_same, rdL_ne, wI_2, wL_1, if_true, if_false, iT_lt, iF_lt, iT_lt0, iF_lt0, iT_0lt, iF_0lt, iT_le, iF_le, iT_le0, iF_le0, iT_0le, iF_0le, iT_eq, iF_eq, iT_eq0, iF_eq0]
          exact b1
theorem sum_c {N a n p : Nat} {T : Nat → Nat} {S : St} {l : List Nat} (hN : 200 ≤ N) (ha : 12 < a) (h : TL S T n p) (hl : AK S a l) (hll : l.length ≤ p) : ∃ S2, f9_readSum N a S = some ((), S2) ∧ RC S2 T n a l (pSum T n p) ∧ Same (tpP a) S S2 := by
  obtain ⟨S1, a1, a2, a3⟩ := operand_c (N := N) (a := a) (by omega) ha h hl hll
  have hok := pOne_ok (T := T) (n := n) (p := p) h.2.1
  have hn60 := h.1.1
  unfold f9_readSum pSum
  rw [a1, bnd_some, nI_z]
  cases hx : pOne T n p with
  | inl e =>
    rw [hx] at a2
    obtain ⟨t1, t2⟩ := a2
    obtain ⟨m2, hm2⟩ : ∃ m2, N = m2 + 1 := ⟨N - 1, by omega⟩
    obtain ⟨S4, d1, d2, d3⟩ := sumR_d (N := N) (k := 0) (f := m2) (x := zI ((0 : Nat) : Int)) ha (by omega) t1 t2
    rw [← hm2] at d1
    exact ⟨S4, d1, d2, a3.tr d3⟩
  | inr q =>
    rw [hx] at a2 hok
    obtain ⟨t1, t2⟩ := a2
    obtain ⟨o1, o2, o3⟩ := hok
    have hw0 := (wl_len 0).2 rfl
    obtain ⟨S4, d1, d2, d3⟩ := sumR_c (N := N) hN ha 61 q.1 0 0 N S1 (l ++ q.2) t1 t2 (by rw [List.length_append]; omega) (by omega) (by omega) (by omega) (by omega)
    refine ⟨S4, d1, ?_, a3.tr d3⟩
    rw [pb_r]
    cases hy : pSumR T n 61 q.1 0 with
    | inl e => rw [hy] at d2; exact d2
    | inr r =>
      rw [hy] at d2
      obtain ⟨e1, e2⟩ := d2
      refine ⟨e1, ?_⟩
      show AK S4 a (l ++ (q.2 ++ r.2))
      rw [← List.append_assoc]
      exact e2
theorem sum_d {N a n e : Nat} {T : Nat → Nat} {S : St} (hN : 200 ≤ N) (ha : 12 < a) (h : TD S T n e) (hl : AD S a) : ∃ S2, f9_readSum N a S = some ((), S2) ∧ (TD S2 T n e ∧ AD S2 a) ∧ Same (tpP a) S S2 := by
  obtain ⟨m2, hm2⟩ : ∃ m2, N = m2 + 1 := ⟨N - 1, by omega⟩
  obtain ⟨S4, d1, d2, d3⟩ := sumR_d (N := N) (k := 0) (f := m2) (x := zI ((0 : Nat) : Int)) ha (by omega) h hl
  rw [← hm2] at d1
  refine ⟨S4, ?_, d2, d3⟩
  unfold f9_readSum
  rw [operand_d (by omega) h, bnd_some, nI_z]
  exact d1
theorem cmp_d {N a n e : Nat} {T : Nat → Nat} {S : St} (hN : 200 ≤ N) (ha : 12 < a) (h : TD S T n e) (hl : AD S a) : ∃ S2, f9_readCompared N a S = some ((), S2) ∧ (TD S2 T n e ∧ AD S2 a) ∧ Same (tpP a) S S2 := by
  obtain ⟨S2, d1, d2, d3⟩ := sum_d (N := N) hN ha h hl
  have hh := here_d d2.1
  have hf := fail_d d2.1
  refine ⟨S2, ?_, d2, d3⟩
  unfold f9_readCompared
  simp (disch := omega) only [d1, hh, hf, nI_z, zI_add, zI_sub, zI_mul, zI_m1, ckI_z, zI_clamp, Int.toNat_natCast, bnd_some, lt, rd_same, rd_ne, rdL_same, rdL_ne, wI_2, wL_1, if_true, if_false, iT_lt, iF_lt, iT_lt0, iF_lt0, iT_0lt, iF_0lt, iT_le, iF_le, iT_le0, iF_le0, iT_0le, iF_0le, iT_eq, iF_eq, iT_eq0, iF_eq0]
theorem cmp_c {N a n p : Nat} {T : Nat → Nat} {S : St} {l : List Nat} (hN : 200 ≤ N) (ha : 12 < a) (h : TL S T n p) (hl : AK S a l) (hll : l.length ≤ p) : ∃ S2, f9_readCompared N a S = some ((), S2) ∧ RC S2 T n a l (pCmp T n p) ∧ Same (tpP a) S S2 := by
  obtain ⟨S1, a1, a2, a3⟩ := sum_c (N := N) hN ha h hl hll
  have hok := pSum_ok (T := T) (n := n) (p := p) h.2.1
  have hn60 := h.1.1
  unfold pCmp
  cases hx : pSum T n p with
  | inl e =>
    rw [hx] at a2
    obtain ⟨t1, t2⟩ := a2
    have hh := here_d t1
    have hf := fail_d t1
    refine ⟨S1, ?_, ⟨t1, t2⟩, a3⟩
    unfold f9_readCompared
    simp (disch := omega) only [a1, hh, hf, nI_z, zI_add, zI_sub, zI_mul, zI_m1, ckI_z, zI_clamp, Int.toNat_natCast, bnd_some, lt, rd_same, rd_ne, rdL_same, rdL_ne, wI_2, wL_1, if_true, if_false, iT_lt, iF_lt, iT_lt0, iF_lt0, iT_0lt, iF_0lt, iT_le, iF_le, iT_le0, iF_le0, iT_0le, iF_0le, iT_eq, iF_eq, iT_eq0, iF_eq0]
  | inr q =>
    rw [hx] at a2 hok
    obtain ⟨t1, t2⟩ := a2
    obtain ⟨o1, o2, o3⟩ := hok
    obtain ⟨z, z1, z2, z3, z4, z5, z6⟩ := here_l2 t1
    rw [pb_r]
    by_cases c : hr T n q.1 = 61 ∨ hr T n q.1 = 60 ∨ hr T n q.1 = 62
    · rw [if_pos c]
      have hz := z5 (by omega)
      have hp := (hr_pos (T := T) (n := n) (p := q.1) (by omega)).1
      obtain ⟨g1, g2⟩ := t1.go hp
      have h2 := t1.2.2.1
      have l1 : AK (wI S1 11 2 (zI ((q.1 : Int) + ((1 : Nat) : Int)))) a (l ++ q.2) := t2.same g2 (by omega) (fun k => by omega)
      obtain ⟨S2, b1, b2, b3⟩ := sum_c (N := N) hN ha g1 l1 (by rw [List.length_append]; omega)
      have hok2 := pSum_ok (T := T) (n := n) (p := q.1 + 1) (by omega)
      have s2 : Same (tpP a) S S2 := (a3.tr (g2.mono (fun c k z => by unfold tpP; omega))).tr b3
      have step : ∀ S3, f1_write a (zI (hr T n q.1)) S2 = some ((), S3) → f9_readCompared N a S = some ((), S3) := fun S3 w => by
        rw [← hz] at w
        unfold f9_readCompared
        by_cases k1 : z = 61
        · simp (disch := omega) only [a1, z1, f9_readCompared_j33, h2, b1, w, nI_z, zI_add, zI_sub, zI_mul, zI_m1, ckI_z, zI_clamp, Int.toNat_natCast, bnd_some, lt, rd_same, rd_ne, rdL_same, rdL_ne, wI_2, wL_1, if_true, if_false, iT_lt, iF_lt, iT_lt0, iF_lt0, iT_0lt, iF_0lt, iT_le, iF_le, iT_le0, iF_le0, iT_0le, iF_0le, iT_eq, iF_eq, iT_eq0, iF_eq0]
        · by_cases k2 : z = 60
          · simp (disch := omega) only [a1, z1, f9_readCompared_j33, h2, b1, w, nI_z, zI_add, zI_sub, zI_mul, zI_m1, ckI_z, zI_clamp, Int.toNat_natCast, bnd_some, lt, rd_same, rd_ne, rdL_same, rdL_ne, wI_2, wL_1, if_true, if_false, iT_lt, iF_lt, iT_lt0, iF_lt0, iT_0lt, iF_0lt, iT_le, iF_le, iT_le0, iF_le0, iT_0le, iF_0le, iT_eq, iF_eq, iT_eq0, iF_eq0]
          · simp (disch := omega) only [a1, z1, f9_readCompared_j33, h2, b1, w, nI_z, zI_add, zI_sub, zI_mul, zI_m1, ckI_z, zI_clamp, Int.toNat_natCast, bnd_some, lt, rd_same, rd_ne, rdL_same, rdL_ne, wI_2, wL_1, if_true, if_false, iT_lt, iF_lt, iT_lt0, iF_lt0, iT_0lt, iF_0lt, iT_le, iF_le, iT_le0, iF_le0, iT_0le, iF_0le, iT_eq, iF_eq, iT_eq0, iF_eq0]
      cases hy : pSum T n (q.1 + 1) with
      | inl e =>
        rw [hy] at b2
        obtain ⟨u1, u2⟩ := b2
        obtain ⟨S3, w1, w2, w3⟩ := write_d (x := zI (hr T n q.1)) u2
        exact ⟨S3, step S3 w1, ⟨u1.same w3 (fun k => by omega) (fun k => by omega), w2⟩, s2.tr (w3.mono (fun c k z => by unfold tpP; omega))⟩
      | inr r =>
        rw [hy] at b2 hok2
        obtain ⟨u1, u2⟩ := b2
        obtain ⟨o4, o5, o6⟩ := hok2
        obtain ⟨S3, w1, w2, w3⟩ := write_k (c := hr T n q.1) u2 (by rw [List.length_append, List.length_append]; omega)
        refine ⟨S3, step S3 w1, ⟨u1.same w3 (fun k => by omega) (fun k => by omega), ?_⟩, s2.tr (w3.mono (fun c k z => by unfold tpP; omega))⟩
        show AK S3 a (l ++ (q.2 ++ r.2 ++ [hr T n q.1]))
        rw [← List.append_assoc, ← List.append_assoc]
        exact w2
    · rw [if_neg c]
      obtain ⟨S2, b1, b2, b3⟩ := fail_l t1
      have hno : ¬ (z = 61 ∨ z = 60 ∨ z = 62) := fun w => by
        have := (z4 z.toNat (by omega)).mp (by omega)
        omega
      refine ⟨S2, ?_, ⟨b2, (t2.same b3 (by omega) (fun k => by omega)).ad⟩, a3.tr (b3.mono (fun c k z => by unfold tpP; omega))⟩
      unfold f9_readCompared
      simp (disch := omega) only [a1, z1, b1, nI_z, zI_add, zI_sub, zI_mul, zI_m1, ckI_z, zI_clamp, Int.toNat_natCast, bnd_some, lt, rd_same, rd_ne, rdL_same, rdL_ne, wI_2, wL_1, if_true, if_false, iT_lt, iF_lt, iT_lt0, iF_lt0, iT_0lt, iF_0lt, iT_le, iF_le, iT_le0, iF_le0, iT_0le, iF_0le, iT_eq, iF_eq, iT_eq0, iF_eq0]
