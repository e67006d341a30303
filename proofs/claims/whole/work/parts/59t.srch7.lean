/-! Whether the program at hand is the answer. -/
theorem isAns_loop {N a0 : Nat} {S : St} {p q : List Nat} (hp : PR S (a0 + 1) p) (hq : PR S (a0 + 3) q) (hl : p.length = q.length) : ∀ (k i m : Nat), i + k = q.length → k < m → f7_isAnswer_h21 N a0 m (zI i) S = some (bI (p.drop i = q.drop i), S) := by
  have h12 := hq.2.1
  intro k
  induction k with
  | zero =>
    intro i m hi hm
    obtain ⟨m, rfl⟩ : ∃ z, m = z + 1 := ⟨m - 1, by omega⟩
    have e : p.drop i = q.drop i := by rw [List.drop_eq_nil_of_le (by omega), List.drop_eq_nil_of_le (by omega)]
    have hlen := f6_length_eq hq
    rw [bI_t e, f7_isAnswer_h21]
    simp (disch := omega) only [hlen, nI_z, zI_add, zI_sub, zI_mul, zI_m1, ckI_z, zI_clamp, Int.toNat_natCast, bnd_some, lt, rd_same, rd_ne, rdL_same, rdL_ne, wI_2, wL_1, if_true, if_false, iT_lt, iF_lt, iT_lt0, iF_lt0, iT_0lt, iF_0lt, iT_le, iF_le, iT_le0, iF_le0, iT_0le, iF_0le, iT_eq, iF_eq, iT_eq0, iF_eq0]
    rfl
  | succ k ih =>
    intro i m hi hm
    obtain ⟨m, rfl⟩ : ∃ z, m = z + 1 := ⟨m - 1, by omega⟩
    have hlen := f6_length_eq hq
    have hip : i < p.length := by omega
    have hiq : i < q.length := by omega
    have gp : p[i]? = some p[i] := List.getElem?_eq_getElem hip
    have gq : q[i]? = some q[i] := List.getElem?_eq_getElem hiq
    have o1 := f6_orderAt_in hp gp
    have o2 := f6_orderAt_in hq gq
    have b1 := hp.2.2.1 _ (List.mem_of_getElem? gp)
    have b2 := hq.2.2.1 _ (List.mem_of_getElem? gq)
    have ih1 := ih (i + 1) m (by omega) (by omega)
    have dp : p.drop i = p[i] :: p.drop (i + 1) := List.drop_eq_getElem_cons hip
    have dq : q.drop i = q[i] :: q.drop (i + 1) := List.drop_eq_getElem_cons hiq
    rw [dp, dq, f7_isAnswer_h21]
    generalize p[i] = y at o1 b1
    generalize q[i] = z at o2 b2
    by_cases c : y = z
    · subst c
      have e : bI (y :: p.drop (i + 1) = y :: q.drop (i + 1)) = bI (p.drop (i + 1) = q.drop (i + 1)) := by
        by_cases d : p.drop (i + 1) = q.drop (i + 1)
        · rw [bI_t d, bI_t (by rw [d])]
        · rw [bI_f d, bI_f (fun w => d (by injection w))]
      rw [e, ← ih1]
      simp (disch := omega) only [hlen, o1, o2, nI_z, zI_add, zI_sub, zI_mul, zI_m1, ckI_z, zI_clamp, Int.toNat_natCast, bnd_some, lt, rd_same, rd_ne, rdL_same, rdL_ne, wI_2, wL_1, if_true, if_false, iT_lt, iF_lt, iT_lt0, iF_lt0, iT_0lt, iF_0lt, iT_le, iF_le, iT_le0, iF_le0, iT_0le, iF_0le, iT_eq, iF_eq, iT_eq0, iF_eq0]
      rfl
    · rw [bI_f (fun w => c (by injection w))]
      simp (disch := omega) only [hlen, o1, o2, nI_z, zI_add, zI_sub, zI_mul, zI_m1, ckI_z, zI_clamp, Int.toNat_natCast, bnd_some, lt, rd_same, rd_ne, rdL_same, rdL_ne, wI_2, wL_1, if_true, if_false, iT_lt, iF_lt, iT_lt0, iF_lt0, iT_0lt, iF_0lt, iT_le, iF_le, iT_le0, iF_le0, iT_0le, iF_0le, iT_eq, iF_eq, iT_eq0, iF_eq0]
      rfl
theorem isAns_ok {N a0 : Nat} {S : St} {p q : List Nat} (hN : 20 ≤ N) (hp : PR S (a0 + 1) p) (hq : PR S (a0 + 3) q) : f7_isAnswer N a0 S = some (bI (p = q), S) := by
  have h12 := hq.2.1
  have h12p := hp.2.1
  have l1 := f6_length_eq hp
  have l2 := f6_length_eq hq
  unfold f7_isAnswer
  by_cases c : p.length = q.length
  · have h := isAns_loop (N := N) hp hq c q.length 0 N (by omega) (by omega)
    rw [List.drop_zero, List.drop_zero] at h
    rw [l1, bnd_some, l2, bnd_some, iT_eq (by omega), nI_z]
    exact h
  · rw [bI_f (fun w => c (by rw [w])), l1, bnd_some, l2, bnd_some, iF_eq (by omega)]
    rfl
