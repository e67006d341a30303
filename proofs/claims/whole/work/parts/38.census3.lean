/-! The call census. -/
theorem censP_facts {g : Lg} {x n t : Nat} (hg : LV g) (hn : n ≤ 14) (hx : x < 1000) (ht : t ≤ 100000) : (censP g x n t).1 + (censP g x n t).2.1 + (censP g x n t).2.2.1 = (progs (bit g) (rkf g) n).length ∧ (censP g x n t).2.2.2.2.1 + (censP g x n t).2.2.2.2.2.1 ≤ 16384 ∧ (censP g x n t).2.2.2.1 ≤ 100000 ∧ ∀ e, (censP g x n t).2.2.2.2.2.2 = some e → e ∈ progs (bit g) (rkf g) n := by
  have key : ∀ (l : List (Nat × List Nat)) (A : Ca), A.2.2.2.1 ≤ 100000 → (∀ e, A.2.2.2.2.2.2 = some e → e ∈ progs (bit g) (rkf g) n) → (∀ e ∈ l, e ∈ progs (bit g) (rkf g) n) → (l.foldl (cens1 g x n t) A).1 + (l.foldl (cens1 g x n t) A).2.1 + (l.foldl (cens1 g x n t) A).2.2.1 = A.1 + A.2.1 + A.2.2.1 + l.length ∧ (l.foldl (cens1 g x n t) A).2.2.2.2.1 + (l.foldl (cens1 g x n t) A).2.2.2.2.2.1 ≤ A.2.2.2.2.1 + A.2.2.2.2.2.1 + (l.map (fun q => 2 ^ (n - q.1))).sum ∧ (l.foldl (cens1 g x n t) A).2.2.2.1 ≤ 100000 ∧ ∀ e, (l.foldl (cens1 g x n t) A).2.2.2.2.2.2 = some e → e ∈ progs (bit g) (rkf g) n := by
    intro l
    induction l with
    | nil => intro A h1 h2 h3; exact ⟨rfl, Nat.le_refl _, h1, h2⟩
    | cons y l ih =>
      intro A h1 h2 h3
      obtain ⟨i1, i2, i3⟩ := prun_MI (g := g) (p := y.2) (x := x) (t := t) hx
      have hle := cstr_facts (A := A) (r := prun g y.2 x t) (wt := 2 ^ (n - y.1)) (e := y) (by omega) i2 h1
      obtain ⟨q1, q2, q3, q4⟩ := ih (cens1 g x n t A y) hle.1 (fun e he => by
        unfold cens1 cstr at he
        split at he
        · exact h2 e he
        · split at he
          · exact h2 e he
          · split at he
            · injection he with he
              rw [← he]
              exact h3 y List.mem_cons_self
            · exact h2 e he) (fun e he => h3 e (List.mem_cons_of_mem _ he))
      rw [List.foldl_cons, List.length_cons, List.map_cons, List.sum_cons]
      have hm : cens1 g x n t A y = cstr A (prun g y.2 x t) (2 ^ (n - y.1)) y := rfl
      rw [← hm] at hle
      exact ⟨by omega, by omega, q3, q4⟩
  obtain ⟨q1, q2, q3, q4⟩ := key (progs (bit g) (rkf g) n) ca0 (by decide) (fun e he => (by cases he)) (fun e he => he)
  have h2 := kraft_le (fun o => (bit_pos hg o).1) (fun o => (bit_pos hg o).2) (rkf_kraft hg) 12 n
  rw [← progs_weight (fun o => (bit_pos hg o).1) n] at h2
  have h3 : 2 ^ n ≤ 2 ^ 14 := Nat.pow_le_pow_right (by omega) hn
  have z1 : ca0.1 = 0 ∧ ca0.2.1 = 0 ∧ ca0.2.2.1 = 0 ∧ ca0.2.2.2.2.1 = 0 ∧ ca0.2.2.2.2.2.1 = 0 := ⟨rfl, rfl, rfl, rfl, rfl⟩
  refine ⟨?_, ?_, q3, q4⟩
  · show ((progs (bit g) (rkf g) n).foldl (cens1 g x n t) ca0).1 + ((progs (bit g) (rkf g) n).foldl (cens1 g x n t) ca0).2.1 + ((progs (bit g) (rkf g) n).foldl (cens1 g x n t) ca0).2.2.1 = _
    omega
  · show ((progs (bit g) (rkf g) n).foldl (cens1 g x n t) ca0).2.2.2.2.1 + ((progs (bit g) (rkf g) n).foldl (cens1 g x n t) ca0).2.2.2.2.2.1 ≤ _
    omega
def csP (c k : Nat) : Prop := ftP c k ∨ rnP c k ∨ liP c k ∨ prP c k ∨ 174 ≤ c
theorem census_j94 {N n tot : Nat} {w : Int} {nt r6 : Int32} {S : St} {A : Ca} (hd : nt / zI ((1000 : Nat) : Int) = zI n) (hw : 0 ≤ w ∧ w ≤ 6) (hA : CC S A) (htot : A.1 + A.2.1 + A.2.2.1 = tot) (h6 : S.1 32 6 = zI A.2.2.2.2.1 → S.1 32 7 = zI A.2.2.2.2.2.1 → f2_sureBits N (zI n) S = some (r6, S)) : f11_census_j94 N nt (zI w) S = some (cvI A tot r6 w, S) := by
  obtain ⟨a1, a2, a3, a4, a5, a6, a7, a8⟩ := hA
  have h6' := h6 a5 a6
  unfold f11_census_j94 cvI
  by_cases w0 : w = 0
  · rw [if_pos w0]
    simp (disch := omega) only [sw_t, sw_f, sw_n, f2_programs, a1, a2, a3, nI_z, zI_add, zI_sub, zI_mul, zI_m1, ckI_z, zI_clamp, Int.toNat_natCast, bnd_some, lt, rd_same, rd_ne, rdL_same, rdL_ne, wI_2, wL_1, if_true, if_false, iT_lt, iF_lt, iT_lt0, iF_lt0, iT_0lt, iF_0lt, iT_le, iF_le, iT_le0, iF_le0, iT_0le, iF_0le, iT_eq, iF_eq, iT_eq0, iF_eq0]
    rw [← htot]
    rfl
  rw [if_neg w0]
  by_cases w1 : w = 1
  · rw [if_pos w1]
    simp (disch := omega) only [sw_t, sw_f, sw_n, f2_ended, a1, nI_z, zI_add, zI_sub, zI_mul, zI_m1, ckI_z, zI_clamp, Int.toNat_natCast, bnd_some, lt, rd_same, rd_ne, rdL_same, rdL_ne, wI_2, wL_1, if_true, if_false, iT_lt, iF_lt, iT_lt0, iF_lt0, iT_0lt, iF_0lt, iT_le, iF_le, iT_le0, iF_le0, iT_0le, iF_0le, iT_eq, iF_eq, iT_eq0, iF_eq0]
  rw [if_neg w1]
  by_cases w2 : w = 2
  · rw [if_pos w2]
    simp (disch := omega) only [sw_t, sw_f, sw_n, f2_hanging, a2, nI_z, zI_add, zI_sub, zI_mul, zI_m1, ckI_z, zI_clamp, Int.toNat_natCast, bnd_some, lt, rd_same, rd_ne, rdL_same, rdL_ne, wI_2, wL_1, if_true, if_false, iT_lt, iF_lt, iT_lt0, iF_lt0, iT_0lt, iF_0lt, iT_le, iF_le, iT_le0, iF_le0, iT_0le, iF_0le, iT_eq, iF_eq, iT_eq0, iF_eq0]
  rw [if_neg w2]
  by_cases w3 : w = 3
  · rw [if_pos w3]
    simp (disch := omega) only [sw_t, sw_f, sw_n, f2_unsettled, a3, nI_z, zI_add, zI_sub, zI_mul, zI_m1, ckI_z, zI_clamp, Int.toNat_natCast, bnd_some, lt, rd_same, rd_ne, rdL_same, rdL_ne, wI_2, wL_1, if_true, if_false, iT_lt, iF_lt, iT_lt0, iF_lt0, iT_0lt, iF_0lt, iT_le, iF_le, iT_le0, iF_le0, iT_0le, iF_0le, iT_eq, iF_eq, iT_eq0, iF_eq0]
  rw [if_neg w3]
  by_cases w4 : w = 4
  · rw [if_pos w4]
    simp (disch := omega) only [sw_t, sw_f, sw_n, f2_mostSteps, a4, nI_z, zI_add, zI_sub, zI_mul, zI_m1, ckI_z, zI_clamp, Int.toNat_natCast, bnd_some, lt, rd_same, rd_ne, rdL_same, rdL_ne, wI_2, wL_1, if_true, if_false, iT_lt, iF_lt, iT_lt0, iF_lt0, iT_0lt, iF_0lt, iT_le, iF_le, iT_le0, iF_le0, iT_0le, iF_0le, iT_eq, iF_eq, iT_eq0, iF_eq0]
  rw [if_neg w4]
  by_cases w5 : w = 5
  · rw [if_pos w5]
    simp (disch := omega) only [sw_t, sw_f, sw_n, f2_share, a5, nI_z, zI_add, zI_sub, zI_mul, zI_m1, ckI_z, zI_clamp, Int.toNat_natCast, bnd_some, lt, rd_same, rd_ne, rdL_same, rdL_ne, wI_2, wL_1, if_true, if_false, iT_lt, iF_lt, iT_lt0, iF_lt0, iT_0lt, iF_0lt, iT_le, iF_le, iT_le0, iF_le0, iT_0le, iF_0le, iT_eq, iF_eq, iT_eq0, iF_eq0]
  · rw [if_neg w5]
    simp (disch := omega) only [sw_t, sw_f, sw_n, hd, h6', nI_z, zI_add, zI_sub, zI_mul, zI_m1, ckI_z, zI_clamp, Int.toNat_natCast, bnd_some, lt, rd_same, rd_ne, rdL_same, rdL_ne, wI_2, wL_1, if_true, if_false, iT_lt, iF_lt, iT_lt0, iF_lt0, iT_0lt, iF_0lt, iT_le, iF_le, iT_le0, iF_le0, iT_0le, iF_0le, iT_eq, iF_eq, iT_eq0, iF_eq0]
theorem c_census {N K ta : Nat} {S : St} {Ls : List Lg} {p : List Nat} (hN : 100000 ≤ N) (h : Qlang S Ls) (hp : Qprog S p) (hK : CMq S K) (hKb : K + 200000 < 2147483648) (x y u v : Int32) : ∃ r ta2 S1 S2 K2 p2, f11_census N x y u v S = some (r, S1) ∧ f12_census ta N x y u v S1 = some ((r, ta2), S2) ∧ Qprog S2 p2 ∧ CMq S2 K2 ∧ K ≤ K2 ∧ K2 ≤ K + 147456 ∧ ta ≤ ta2 ∧ ta2 ≤ ta + 1 ∧ (V15 S → V15 S2) ∧ Same csP S S2 := by
  have triv : ∀ r, f11_census N x y u v S = some (r, S) → f12_census ta N x y u v S = some ((r, ta), S) → ∃ r ta2 S1 S2 K2 p2, f11_census N x y u v S = some (r, S1) ∧ f12_census ta N x y u v S1 = some ((r, ta2), S2) ∧ Qprog S2 p2 ∧ CMq S2 K2 ∧ K ≤ K2 ∧ K2 ≤ K + 147456 ∧ ta ≤ ta2 ∧ ta2 ≤ ta + 1 ∧ (V15 S → V15 S2) ∧ Same csP S S2 := fun r a b => ⟨r, ta, S, S, K, p, a, b, hp, hK, by omega, by omega, by omega, by omega, fun q => q, Same.rfl'⟩
  have hu := xrng u
  have hv := xrng v
  rw [zI_of u, zI_of v] at triv ⊢
  generalize u.toInt = q at hu triv
  generalize v.toInt = w at hv triv
  have n1 := fun S => isNum q S hu
  have k1 := fun S => isNum_m q S hu
  have k3 := fun S => within_n w 0 6 S hv (by omega) (by omega)
  rcases lang_cases h x with ⟨e1, e2⟩ | ⟨i, g, hg, rfl, hi, e1, e2, hvg, hc, hm⟩
  · refine triv (zI (-1)) ?_ ?_
    · unfold f11_census; rw [e1]; simp (disch := omega) only [ifN_none, nI_z, zI_add, zI_sub, zI_mul, zI_m1, ckI_z, zI_clamp, Int.toNat_natCast, bnd_some, lt, rd_same, rd_ne, rdL_same, rdL_ne, wI_2, wL_1, if_true, if_false, iT_lt, iF_lt, iT_lt0, iF_lt0, iT_0lt, iF_0lt, iT_le, iF_le, iT_le0, iF_le0, iT_0le, iF_0le, iT_eq, iF_eq, iT_eq0, iF_eq0]
    · unfold f12_census; rw [e2]; simp (disch := omega) only [nI_z, zI_add, zI_sub, zI_mul, zI_m1, ckI_z, zI_clamp, Int.toNat_natCast, bnd_some, lt, rd_same, rd_ne, rdL_same, rdL_ne, wI_2, wL_1, if_true, if_false, iT_lt, iF_lt, iT_lt0, iF_lt0, iT_0lt, iF_0lt, iT_le, iF_le, iT_le0, iF_le0, iT_0le, iF_0le, iT_eq, iF_eq, iT_eq0, iF_eq0]
  · have ha := ad3_in i hi
    rcases bound_cases y with hbc | ⟨n, t, n1', n2', t1, t2, hd, hr, hbc⟩
    · have hb1 := (hbc S).1
      have hb2 := (hbc S).2
      refine triv (zI (-1)) ?_ ?_
      · unfold f11_census; simp (disch := omega) only [e1, ifN_some, ckA_in ha, hb1, nI_z, zI_add, zI_sub, zI_mul, zI_m1, ckI_z, zI_clamp, Int.toNat_natCast, bnd_some, lt, rd_same, rd_ne, rdL_same, rdL_ne, wI_2, wL_1, if_true, if_false, iT_lt, iF_lt, iT_lt0, iF_lt0, iT_0lt, iF_0lt, iT_le, iF_le, iT_le0, iF_le0, iT_0le, iF_0le, iT_eq, iF_eq, iT_eq0, iF_eq0]
      · unfold f12_census; simp (disch := omega) only [e2, hb2, nI_z, zI_add, zI_sub, zI_mul, zI_m1, ckI_z, zI_clamp, Int.toNat_natCast, bnd_some, lt, rd_same, rd_ne, rdL_same, rdL_ne, wI_2, wL_1, if_true, if_false, iT_lt, iF_lt, iT_lt0, iF_lt0, iT_0lt, iF_0lt, iT_le, iF_le, iT_le0, iF_le0, iT_0le, iF_0le, iT_eq, iF_eq, iT_eq0, iF_eq0]
    · have hb1 := (hbc S).1
      by_cases q0 : 0 ≤ q ∧ q ≤ 999
      · by_cases w0 : 0 ≤ w ∧ w ≤ 6
        · obtain ⟨z, rfl⟩ : ∃ z : Nat, q = z := ⟨q.toNat, by omega⟩
          obtain ⟨S1, K2, a1, a2, a3, a4, a5, a6⟩ := f2_take_ok (N := N) (x := z) (n := n) (t := t) hvg (by omega : 50 ≤ 50 + 11 * i) hN (by omega) (by omega) (by omega) hc hK hKb
          obtain ⟨d1, d2, d3, d4⟩ := censP_facts (g := g) (x := z) (n := n) (t := t) hvg (by omega) (by omega) (by omega)
          generalize hP : censP g z n t = P at a2 d1 d2 d3 d4
          obtain ⟨r6, h6a, h6b⟩ := sure_both (N := N) (n := n) (low := P.2.2.2.2.1) (us := P.2.2.2.2.2.1) (by omega) (by omega) (by omega)
          have hcl : ∃ S2 p2, f11_census N (zI i) y (zI z) (zI w) S = some (cvI P (progs (bit g) (rkf g) n).length r6 w, S2) ∧ PR S2 2 p2 ∧ Same (rgP 2) S1 S2 ∧ ((∃ e, P.2.2.2.2.2.2 = some e ∧ w = 4 ∧ p2 = e.2) ∨ (¬ (w = 4 ∧ P.2.2.2.2.2.2 ≠ none) ∧ S2 = S1 ∧ p2 = p)) := by
            have hp1 : PR S1 2 p := hp.1.same a6 (fun k => by unfold ftP mcP ccP rgP; omega) (fun k => by unfold ftP mcP ccP rgP; omega)
            have hj : f11_census N (zI i) y (zI z) (zI w) S = (if (zI w) = (nI 4) then
      bnd (f2_mostSteps S1) fun q15 S16 =>
      if q15 ≤ 0 then
        f11_census_j94 N y (zI w) S16
      else
      bnd (f2_slowest S16) fun q18 S19 =>
      onR q18 fun b20 => ckA ad6 b20 <|
      bnd (f6_become 2 b20 S19) fun q21 S22 =>
      f11_census_j94 N y (zI w) S22
    else
    f11_census_j94 N y (zI w) S1) := by
              unfold f11_census
              rw [e1, bnd_some, ifN_some, ckA_in ha, hb1, bnd_some, if_neg (by decide)]
              simp (disch := omega) only [iT_b, iF_b, n1, hd, hr, a1, nI_z, zI_add, zI_sub, zI_mul, zI_m1, ckI_z, zI_clamp, Int.toNat_natCast, bnd_some, lt, rd_same, rd_ne, rdL_same, rdL_ne, wI_2, wL_1, if_true, if_false, iT_lt, iF_lt, iT_lt0, iF_lt0, iT_0lt, iF_0lt, iT_le, iF_le, iT_le0, iF_le0, iT_0le, iF_0le, iT_eq, iF_eq, iT_eq0, iF_eq0]
            rw [hj]
            have a2' := a2
            obtain ⟨v1, v2, v3, v4, v5, v6, v7, v8⟩ := a2
            by_cases w4 : w = 4
            · by_cases m0 : P.2.2.2.1 = 0
              · have hj := census_j94 (N := N) (nt := y) (r6 := r6) hd w0 a2' d1 (fun q1 q2 => h6b S1 q1 q2)
                rw [m0] at v4
                refine ⟨S1, p, ?_, hp1, Same.rfl', Or.inr ⟨fun q => q.2 (v7.mpr m0), rfl, rfl⟩⟩
                simp (disch := omega) only [f2_mostSteps, v4, nI_z, zI_add, zI_sub, zI_mul, zI_m1, ckI_z, zI_clamp, Int.toNat_natCast, bnd_some, lt, rd_same, rd_ne, rdL_same, rdL_ne, wI_2, wL_1, if_true, if_false, iT_lt, iF_lt, iT_lt0, iF_lt0, iT_0lt, iF_0lt, iT_le, iF_le, iT_le0, iF_le0, iT_0le, iF_0le, iT_eq, iF_eq, iT_eq0, iF_eq0]
                exact hj
              · obtain ⟨e, he⟩ : ∃ e, P.2.2.2.2.2.2 = some e := by
                  cases hq : P.2.2.2.2.2.2 with
                  | none => exact absurd (v7.mp hq) m0
                  | some f => exact ⟨f, rfl⟩
                obtain ⟨S2, f1, f2, f3⟩ := f6_become_ok (a0 := 2) (by omega) (by omega) (v8 e he)
                have hcc2 : CC S2 P := a2'.same f3 (fun c k z => by unfold ccP rgP at z; unfold rgP; omega)
                have hj := census_j94 (N := N) (nt := y) (r6 := r6) hd w0 hcc2 d1 (fun q1 q2 => h6b S2 q1 q2)
                refine ⟨S2, e.2, ?_, f2, f3, Or.inl ⟨e, he, w4, rfl⟩⟩
                simp (disch := omega) only [f2_mostSteps, v4, f2_slowest, onR_some, ckA_in ad6_35, f1, nI_z, zI_add, zI_sub, zI_mul, zI_m1, ckI_z, zI_clamp, Int.toNat_natCast, bnd_some, lt, rd_same, rd_ne, rdL_same, rdL_ne, wI_2, wL_1, if_true, if_false, iT_lt, iF_lt, iT_lt0, iF_lt0, iT_0lt, iF_0lt, iT_le, iF_le, iT_le0, iF_le0, iT_0le, iF_0le, iT_eq, iF_eq, iT_eq0, iF_eq0]
                exact hj
            · have hj := census_j94 (N := N) (nt := y) (r6 := r6) hd w0 a2' d1 (fun q1 q2 => h6b S1 q1 q2)
              refine ⟨S1, p, ?_, hp1, Same.rfl', Or.inr ⟨fun q => w4 q.1, rfl, rfl⟩⟩
              simp (disch := omega) only [nI_z, zI_add, zI_sub, zI_mul, zI_m1, ckI_z, zI_clamp, Int.toNat_natCast, bnd_some, lt, rd_same, rd_ne, rdL_same, rdL_ne, wI_2, wL_1, if_true, if_false, iT_lt, iF_lt, iT_lt0, iF_lt0, iT_0lt, iF_0lt, iT_le, iF_le, iT_le0, iF_le0, iT_0le, iF_0le, iT_eq, iF_eq, iT_eq0, iF_eq0]
              exact hj
          obtain ⟨S2, p2, g1, g2, g3, g4⟩ := hcl
          have s2 : Same (fun c k => ftP c k ∨ rgP 2 c k) S S2 := (a6.mono (fun c k z => Or.inl z)).tr (g3.mono (fun c k z => Or.inr z))
          have hl2 := h.same s2 (fun c k z => by unfold laP at z; unfold ftP mcP ccP rgP; omega)
          obtain ⟨_, hc2, hm2⟩ := hl2.2.2.2 i g hg
          have hil : i < Ls.length := (List.getElem?_eq_some_iff.mp hg).1
          have e22 := (lang_in hl2 hil).2
          have hb2 := (hbc S2).2
          obtain ⟨S3, l1, l2, l3⟩ := f12_listAll_ok (N := N) (lim := n) hvg hi (by omega) (by omega) hm2
          have hcap := progs_cap (A := []) (C := progs (bit g) (rkf g) n) hvg (by omega) rfl
          rw [List.length_nil, Nat.zero_add] at hcap
          have s4 : Same (fun c _ => c = 174 + ta) S3 (wI (wI (wI (fiI S3 (174 + ta) 3 0) (174 + ta) 0 (zI ((0 : Nat) : Int))) (174 + ta) 1 (zI ((0 : Nat) : Int))) (174 + ta) 2 (zI ((0 : Nat) : Int))) := ((Same.rfl' (P := fun c _ => c = 174 + ta)).fi (fun k _ => rfl)) |>.wI rfl |>.wI rfl |>.wI rfl
          have htm : TM (wI (wI (wI (fiI S3 (174 + ta) 3 0) (174 + ta) 0 (zI ((0 : Nat) : Int))) (174 + ta) 1 (zI ((0 : Nat) : Int))) (174 + ta) 2 (zI ((0 : Nat) : Int))) ta ca0 := ⟨by simp (disch := omega) only [nI_z, zI_add, zI_sub, zI_mul, zI_m1, ckI_z, zI_clamp, Int.toNat_natCast, bnd_some, lt, rd_same, rd_ne, rdL_same, rdL_ne, wI_2, wL_1, if_true, if_false, iT_lt, iF_lt, iT_lt0, iF_lt0, iT_0lt, iF_0lt, iT_le, iF_le, iT_le0, iF_le0, iT_0le, iF_0le, iT_eq, iF_eq, iT_eq0, iF_eq0]; rfl, by simp (disch := omega) only [nI_z, zI_add, zI_sub, zI_mul, zI_m1, ckI_z, zI_clamp, Int.toNat_natCast, bnd_some, lt, rd_same, rd_ne, rdL_same, rdL_ne, wI_2, wL_1, if_true, if_false, iT_lt, iF_lt, iT_lt0, iF_lt0, iT_0lt, iF_0lt, iT_le, iF_le, iT_le0, iF_le0, iT_0le, iF_0le, iT_eq, iF_eq, iT_eq0, iF_eq0]; rfl, by simp (disch := omega) only [nI_z, zI_add, zI_sub, zI_mul, zI_m1, ckI_z, zI_clamp, Int.toNat_natCast, bnd_some, lt, rd_same, rd_ne, rdL_same, rdL_ne, wI_2, wL_1, if_true, if_false, iT_lt, iF_lt, iT_lt0, iF_lt0, iT_0lt, iF_0lt, iT_le, iF_le, iT_le0, iF_le0, iT_0le, iF_0le, iT_eq, iF_eq, iT_eq0, iF_eq0]; rfl⟩
          generalize hS4 : wI (wI (wI (fiI S3 (174 + ta) 3 0) (174 + ta) 0 (zI ((0 : Nat) : Int))) (174 + ta) 1 (zI ((0 : Nat) : Int))) (174 + ta) 2 (zI ((0 : Nat) : Int)) = S4 at s4 htm
          have hm3 := hm2.li hvg l3
          have hm4 : ML S4 i g := hm3.same hvg s4 (fun c p _ _ _ => by omega) (fun p _ _ => by omega) (fun p _ _ => by omega) (by omega)
          have hP2 : (progs (bit g) (rkf g) n).foldl (cens1 g z n t) ca0 = P := hP
          obtain ⟨S5, S6, m1, m6, m2, m3, m4, m5⟩ := f12_census_loop (N := N) (nt := y) (r6 := r6) (ta := ta) hvg hi hN (by omega : n ≤ 14) (by omega : z < 1000) (by omega : t ≤ 4198) w0 hr (progs (bit g) (rkf g) n) [] 0 N S4 ca0 (-1) rfl rfl (by omega) hm4 (l2.same s4 (fun c k z => by unfold liP at z; omega)) htm (by decide) rfl (by rw [hP2]; exact h6a)
          rw [hP2] at m1 m4 m5
          rw [Nat.zero_add] at m1
          have e12 : f12_census ta N (zI i) y (zI z) (zI w) S2 = some ((cvI P (progs (bit g) (rkf g) n).length r6 w, ta + 1), S6) := by
            unfold f12_census
            simp (disch := omega) only [iT_b, iF_b, e22, hb2, k1, k3, hd, l1, nI_z, zI_add, zI_sub, zI_mul, zI_m1, ckI_z, zI_clamp, Int.toNat_natCast, bnd_some, lt, rd_same, rd_ne, rdL_same, rdL_ne, wI_2, wL_1, if_true, if_false, iT_lt, iF_lt, iT_lt0, iF_lt0, iT_0lt, iF_0lt, iT_le, iF_le, iT_le0, iF_le0, iT_0le, iF_0le, iT_eq, iF_eq, iT_eq0, iF_eq0]
            rw [hS4]
            exact m1
          have s25 : Same (fun c k => rnP c k ∨ liP c k ∨ 174 ≤ c) S2 S5 := ((l3.mono (fun c k z => Or.inr (Or.inl z))).tr (s4.mono (fun c k z => Or.inr (Or.inr (by omega))))).tr (m2.mono (fun c k z => by
            unfold tmP at z
            rcases z with z | z
            · exact Or.inl z
            · exact Or.inr (Or.inr (by omega))))
          have s26 : Same (fun c k => (rnP c k ∨ liP c k ∨ 174 ≤ c) ∨ loP c k) S2 S6 := s25.trans m3
          have hK5 : CMq S6 K2 := (a3.same g3 (fun c k z => by unfold mcP at z; unfold rgP; omega)).same s26 (fun c k z => by unfold mcP at z; unfold rnP liP loP; omega)
          refine ⟨_, ta + 1, S2, S6, K2, p2, g1, e12, ?_, hK5, a4, a5, by omega, by omega, fun q => (m6 (((q.same s2 (by unfold ftP mcP ccP rgP; omega)).same l3 (by unfold liP; omega)).same s4 (by omega))).same m3 (by unfold loP; omega), (s2.mono (fun c k z => ?_)).tr (s26.mono (fun c k z => ?_))⟩
          · have hpr5 : PR S6 2 p2 := g2.same s26 (fun k => by unfold rnP liP loP; omega) (fun k => by unfold rnP liP loP; omega)
            rcases g4 with ⟨e, q1, q2, q3⟩ | ⟨q1, q2, q3⟩
            · obtain ⟨b1, b2, b3⟩ := progs_mem (d4 e q1)
              obtain ⟨c1, c2, c3⟩ := comp_mem hvg 12 e.1 e.2 b3
              obtain ⟨r1, r2⟩ := m4 e q1 q2
              rw [q3] at hpr5 ⊢
              exact qprog_of hpr5 r1 r2 c2
            · have q5 := m5 q1
              rw [q3, q5]
              have hp1 : Qprog S1 p := hp.same a6 (fun c k z => by unfold prP at z; unfold ftP mcP ccP rgP; omega)
              rw [← q2] at hp1
              exact hp1.same s25 (fun c k z => by unfold prP at z; unfold rnP liP; omega)
          · rcases z with z | z
            · exact Or.inl z
            · exact Or.inr (Or.inr (Or.inr (Or.inl (by unfold prP; unfold rgP at z; omega))))
          · rcases z with (z | z | z) | z
            · exact Or.inr (Or.inl z)
            · exact Or.inr (Or.inr (Or.inl z))
            · exact Or.inr (Or.inr (Or.inr (Or.inr z)))
            · exact Or.inr (Or.inr (Or.inr (Or.inl (by unfold prP; unfold loP at z; omega))))
        · refine triv (zI (-1)) ?_ ?_
          · unfold f11_census
            by_cases e : w < 0
            · simp (disch := omega) only [iT_b, iF_b, e1, ifN_some, ckA_in ha, hb1, n1, nI_z, zI_add, zI_sub, zI_mul, zI_m1, ckI_z, zI_clamp, Int.toNat_natCast, bnd_some, lt, rd_same, rd_ne, rdL_same, rdL_ne, wI_2, wL_1, if_true, if_false, iT_lt, iF_lt, iT_lt0, iF_lt0, iT_0lt, iF_0lt, iT_le, iF_le, iT_le0, iF_le0, iT_0le, iF_0le, iT_eq, iF_eq, iT_eq0, iF_eq0]
            · simp (disch := omega) only [iT_b, iF_b, e1, ifN_some, ckA_in ha, hb1, n1, nI_z, zI_add, zI_sub, zI_mul, zI_m1, ckI_z, zI_clamp, Int.toNat_natCast, bnd_some, lt, rd_same, rd_ne, rdL_same, rdL_ne, wI_2, wL_1, if_true, if_false, iT_lt, iF_lt, iT_lt0, iF_lt0, iT_0lt, iF_0lt, iT_le, iF_le, iT_le0, iF_le0, iT_0le, iF_0le, iT_eq, iF_eq, iT_eq0, iF_eq0]
          · have hb2 := (hbc S).2
            unfold f12_census; simp (disch := omega) only [iT_b, iF_b, e2, hb2, k1, k3, nI_z, zI_add, zI_sub, zI_mul, zI_m1, ckI_z, zI_clamp, Int.toNat_natCast, bnd_some, lt, rd_same, rd_ne, rdL_same, rdL_ne, wI_2, wL_1, if_true, if_false, iT_lt, iF_lt, iT_lt0, iF_lt0, iT_0lt, iF_0lt, iT_le, iF_le, iT_le0, iF_le0, iT_0le, iF_0le, iT_eq, iF_eq, iT_eq0, iF_eq0]
      · refine triv (zI (-1)) ?_ ?_
        · unfold f11_census
          simp (disch := omega) only [iT_b, iF_b, e1, ifN_some, ckA_in ha, hb1, n1, nI_z, zI_add, zI_sub, zI_mul, zI_m1, ckI_z, zI_clamp, Int.toNat_natCast, bnd_some, lt, rd_same, rd_ne, rdL_same, rdL_ne, wI_2, wL_1, if_true, if_false, iT_lt, iF_lt, iT_lt0, iF_lt0, iT_0lt, iF_0lt, iT_le, iF_le, iT_le0, iF_le0, iT_0le, iF_0le, iT_eq, iF_eq, iT_eq0, iF_eq0]
        · have hb2 := (hbc S).2
          unfold f12_census; simp (disch := omega) only [iT_b, iF_b, e2, hb2, k1, nI_z, zI_add, zI_sub, zI_mul, zI_m1, ckI_z, zI_clamp, Int.toNat_natCast, bnd_some, lt, rd_same, rd_ne, rdL_same, rdL_ne, wI_2, wL_1, if_true, if_false, iT_lt, iF_lt, iT_lt0, iF_lt0, iT_0lt, iF_0lt, iT_le, iF_le, iT_le0, iF_le0, iT_0le, iF_0le, iT_eq, iF_eq, iT_eq0, iF_eq0]
