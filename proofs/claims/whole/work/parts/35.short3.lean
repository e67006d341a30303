/-! The call shortest. -/
theorem shortP_facts {g : Lg} {row : List Nat} {n t : Nat} (hg : LV g) (hn : n ≤ 14) : (shortP g row n t).2.1 ≤ 16384 ∧ (shortP g row n t).2.2 ≤ 1 ∧ ∀ e, (shortP g row n t).1 = some e → e ∈ progs (bit g) (rkf g) n := by
  have hcap := progs_cap (A := []) (C := progs (bit g) (rkf g) n) hg hn rfl
  rw [List.length_nil, Nat.zero_add] at hcap
  have key : ∀ (l : List (Nat × List Nat)) (A : Sa), A.2.2 ≤ 1 → (∀ e, A.1 = some e → e ∈ progs (bit g) (rkf g) n) → (∀ e ∈ l, e ∈ progs (bit g) (rkf g) n) → (l.foldl (sst g row t) A).2.1 ≤ A.2.1 + l.length ∧ (l.foldl (sst g row t) A).2.2 ≤ 1 ∧ ∀ e, (l.foldl (sst g row t) A).1 = some e → e ∈ progs (bit g) (rkf g) n := by
    intro l
    induction l with
    | nil => intro A h1 h2 h3; exact ⟨Nat.le_refl _, h1, h2⟩
    | cons x l ih =>
      intro A h1 h2 h3
      have hle := sstr_le (row := row) (A := A) (r := prun g x.2 0 t) (e := x)
      obtain ⟨q1, q2, q3⟩ := ih (sst g row t A x) (hle.2 h1) (fun e he => by
        unfold sst sstr at he
        split at he
        · cases hA : A.1 with
          | none =>
            rw [hA] at he
            injection he with he
            rw [← he]
            exact h3 x List.mem_cons_self
          | some f =>
            rw [hA] at he
            injection he with he
            rw [← he]
            exact h2 f hA
        · split at he
          · exact h2 e he
          · exact h2 e he) (fun e he => h3 e (List.mem_cons_of_mem _ he))
      rw [List.foldl_cons, List.length_cons]
      refine ⟨?_, q2, q3⟩
      have : (sst g row t A x).2.1 ≤ A.2.1 + 1 := hle.1
      omega
  obtain ⟨q1, q2, q3⟩ := key (progs (bit g) (rkf g) n) sa0 (by decide) (fun e he => (by cases he)) (fun e he => he)
  refine ⟨?_, q2, q3⟩
  have h0 : (sa0).2.1 = 0 := rfl
  show ((progs (bit g) (rkf g) n).foldl (sst g row t) sa0).2.1 ≤ 16384
  omega
theorem ad6_29 : 29 ∈ ad6 := by decide
theorem ad6_35 : 35 ∈ ad6 := by decide
def shP (c k : Nat) : Prop := fsP c k ∨ rnP c k ∨ liP c k ∨ prP c k
theorem qprog_of {S : St} {g : Lg} {p : List Nat} (h1 : PR S 2 p) (h2 : S.1 146 8 = zI p.length) (h3 : Held (S.1 153) 0 p) (hw : WP g p) : Qprog S p := ⟨h1, h2, h3, fun i x hx hl => fun z => by have := (hw.2.2 i x hx).mp z; omega⟩
theorem c_shortest {N K : Nat} {S : St} {Ls : List Lg} {p row : List Nat} (hN : 100000 ≤ N) (h : Qlang S Ls) (hp : Qprog S p) (hs : Qsay S row) (hK : CMq S K) (hKb : K + 200000 < 2147483648) (x y u : Int32) : ∃ r S1 S2 K2 p2, f11_shortest N x y u S = some (r, S1) ∧ f12_shortest N x y u S1 = some (r, S2) ∧ Qprog S2 p2 ∧ CMq S2 K2 ∧ K ≤ K2 ∧ K2 ≤ K + 147456 ∧ (V15 S → V15 S2) ∧ Same shP S S2 := by
  have triv : ∀ r, f11_shortest N x y u S = some (r, S) → f12_shortest N x y u S = some (r, S) → ∃ r S1 S2 K2 p2, f11_shortest N x y u S = some (r, S1) ∧ f12_shortest N x y u S1 = some (r, S2) ∧ Qprog S2 p2 ∧ CMq S2 K2 ∧ K ≤ K2 ∧ K2 ≤ K + 147456 ∧ (V15 S → V15 S2) ∧ Same shP S S2 := fun r a b => ⟨r, S, S, K, p, a, b, hp, hK, by omega, by omega, fun q => q, Same.rfl'⟩
  have hu := xrng u
  rw [zI_of u] at triv ⊢
  generalize u.toInt = w at hu triv
  have k3 := fun S => within_n w 0 2 S hu (by omega) (by omega)
  rcases lang_cases h x with ⟨e1, e2⟩ | ⟨i, g, hg, rfl, hi, e1, e2, hvg, hc, hm⟩
  · refine triv (zI (-1)) ?_ ?_
    · unfold f11_shortest; rw [e1]; simp (disch := omega) only [ifN_none, nI_z, zI_add, zI_sub, zI_mul, zI_m1, ckI_z, zI_clamp, Int.toNat_natCast, bnd_some, lt, rd_same, rd_ne, rdL_same, rdL_ne, wI_2, wL_1, if_true, if_false, iT_lt, iF_lt, iT_lt0, iF_lt0, iT_0lt, iF_0lt, iT_le, iF_le, iT_le0, iF_le0, iT_0le, iF_0le, iT_eq, iF_eq, iT_eq0, iF_eq0]
    · unfold f12_shortest; rw [e2]; simp (disch := omega) only [nI_z, zI_add, zI_sub, zI_mul, zI_m1, ckI_z, zI_clamp, Int.toNat_natCast, bnd_some, lt, rd_same, rd_ne, rdL_same, rdL_ne, wI_2, wL_1, if_true, if_false, iT_lt, iF_lt, iT_lt0, iF_lt0, iT_0lt, iF_0lt, iT_le, iF_le, iT_le0, iF_le0, iT_0le, iF_0le, iT_eq, iF_eq, iT_eq0, iF_eq0]
  · have ha := ad3_in i hi
    rcases bound_cases y with hbc | ⟨n, t, n1, n2', t1, t2, hd, hr, hbc⟩
    · have hb1 := (hbc S).1
      have hb2 := (hbc S).2
      refine triv (zI (-1)) ?_ ?_
      · unfold f11_shortest; simp (disch := omega) only [e1, ifN_some, ckA_in ha, hb1, nI_z, zI_add, zI_sub, zI_mul, zI_m1, ckI_z, zI_clamp, Int.toNat_natCast, bnd_some, lt, rd_same, rd_ne, rdL_same, rdL_ne, wI_2, wL_1, if_true, if_false, iT_lt, iF_lt, iT_lt0, iF_lt0, iT_0lt, iF_0lt, iT_le, iF_le, iT_le0, iF_le0, iT_0le, iF_0le, iT_eq, iF_eq, iT_eq0, iF_eq0]
      · unfold f12_shortest; simp (disch := omega) only [e2, hb2, nI_z, zI_add, zI_sub, zI_mul, zI_m1, ckI_z, zI_clamp, Int.toNat_natCast, bnd_some, lt, rd_same, rd_ne, rdL_same, rdL_ne, wI_2, wL_1, if_true, if_false, iT_lt, iF_lt, iT_lt0, iF_lt0, iT_0lt, iF_0lt, iT_le, iF_le, iT_le0, iF_le0, iT_0le, iF_0le, iT_eq, iF_eq, iT_eq0, iF_eq0]
    · have hb1 := (hbc S).1
      by_cases w0 : 0 ≤ w ∧ w ≤ 2
      · obtain ⟨S1, K2, a1, a2, a3, a4, a5, a6⟩ := f5_short_ok (N := N) (n := n) (t := t) hvg (by omega : 50 ≤ 50 + 11 * i) hN (by omega) (by omega) hc hK hKb hs
        obtain ⟨d1, d2, d3⟩ := shortP_facts (g := g) (row := row) (n := n) (t := t) hvg (by omega)
        generalize hP : shortP g row n t = P at a2 d1 d2 d3
        -- the class's own end
        have hcl : ∃ S2 p2, f11_shortest N (zI i) y (zI w) S = some (zI (sansI P w), S2) ∧ PR S2 2 p2 ∧ Same (rgP 2) S1 S2 ∧ ((∃ e, P.1 = some e ∧ w = 0 ∧ p2 = e.2) ∨ (¬ (w = 0 ∧ P.1 ≠ none) ∧ S2 = S1 ∧ p2 = p)) := by
          have hp1 : PR S1 2 p := hp.1.same a6 (fun k => by unfold fsP mcP scP rgP; omega) (fun k => by unfold fsP mcP scP rgP; omega)
          have hj : f11_shortest N (zI i) y (zI w) S = (if (zI w) = (nI 2) then
      bnd (f5_howManyJust S1) fun q26 S27 =>
      some (q26, S27)
    else
    bnd (f5_howManyJust S1) fun q12 S13 =>
    if q12 = 0 then
      some ((-2), S13)
    else
    if (zI w) = (nI 1) then
      bnd (f5_isShown S13) fun q23 S24 =>
      if q23 = 0 then
        some (nI 0, S24)
      else
      some (nI 1, S24)
    else
    bnd (f5_shortestOne S13) fun q16 S17 =>
    onR q16 fun b18 => ckA ad6 b18 <|
    bnd (f6_become 2 b18 S17) fun q19 S20 =>
    bnd (f3_sizeOf N (50 + 11 * i) 2 S20) fun q21 S22 =>
    some (q21, S22)) := by
            unfold f11_shortest
            rw [e1, bnd_some, ifN_some, ckA_in ha, hb1, bnd_some, if_neg (by decide)]
            simp (disch := omega) only [hd, hr, a1, nI_z, zI_add, zI_sub, zI_mul, zI_m1, ckI_z, zI_clamp, Int.toNat_natCast, bnd_some, lt, rd_same, rd_ne, rdL_same, rdL_ne, wI_2, wL_1, if_true, if_false, iT_lt, iF_lt, iT_lt0, iF_lt0, iT_0lt, iF_0lt, iT_le, iF_le, iT_le0, iF_le0, iT_0le, iF_0le, iT_eq, iF_eq, iT_eq0, iF_eq0]
          rw [hj]
          obtain ⟨v1, v2, v3, v4, v5⟩ := a2
          unfold sansI
          by_cases w2 : w = 2
          · refine ⟨S1, p, ?_, hp1, Same.rfl', Or.inr ⟨fun q => by omega, rfl, rfl⟩⟩
            rw [if_pos w2]
            simp (disch := omega) only [f5_howManyJust, v1, nI_z, zI_add, zI_sub, zI_mul, zI_m1, ckI_z, zI_clamp, Int.toNat_natCast, bnd_some, lt, rd_same, rd_ne, rdL_same, rdL_ne, wI_2, wL_1, if_true, if_false, iT_lt, iF_lt, iT_lt0, iF_lt0, iT_0lt, iF_0lt, iT_le, iF_le, iT_le0, iF_le0, iT_0le, iF_0le, iT_eq, iF_eq, iT_eq0, iF_eq0]
          · rw [if_neg w2]
            cases hA0 : P.1 with
            | none =>
              have q0 := v3.mp hA0
              rw [q0] at v1
              refine ⟨S1, p, ?_, hp1, Same.rfl', Or.inr ⟨fun q => q.2 rfl, rfl, rfl⟩⟩
              simp (disch := omega) only [f5_howManyJust, v1, nI_z, zI_add, zI_sub, zI_mul, zI_m1, ckI_z, zI_clamp, Int.toNat_natCast, bnd_some, lt, rd_same, rd_ne, rdL_same, rdL_ne, wI_2, wL_1, if_true, if_false, iT_lt, iF_lt, iT_lt0, iF_lt0, iT_0lt, iF_0lt, iT_le, iF_le, iT_le0, iF_le0, iT_0le, iF_0le, iT_eq, iF_eq, iT_eq0, iF_eq0]
              rfl
            | some e =>
              have q0 : P.2.1 ≠ 0 := fun q => by rw [v3.mpr q] at hA0; cases hA0
              by_cases w1 : w = 1
              · refine ⟨S1, p, ?_, hp1, Same.rfl', Or.inr ⟨fun q => by omega, rfl, rfl⟩⟩
                show _ = some (zI (if w = 1 then (P.2.2 : Int) else (e.1 : Int)), S1)
                rw [if_pos w1]
                by_cases q : P.2.2 = 0
                · rw [q] at v2
                  simp (disch := omega) only [f5_howManyJust, v1, f5_isShown, v2, ckB_n0, q, nI_z, zI_add, zI_sub, zI_mul, zI_m1, ckI_z, zI_clamp, Int.toNat_natCast, bnd_some, lt, rd_same, rd_ne, rdL_same, rdL_ne, wI_2, wL_1, if_true, if_false, iT_lt, iF_lt, iT_lt0, iF_lt0, iT_0lt, iF_0lt, iT_le, iF_le, iT_le0, iF_le0, iT_0le, iF_0le, iT_eq, iF_eq, iT_eq0, iF_eq0]
                · have q1 : P.2.2 = 1 := by omega
                  rw [q1] at v2
                  simp (disch := omega) only [f5_howManyJust, v1, f5_isShown, v2, ckB_n1, q1, nI_z, zI_add, zI_sub, zI_mul, zI_m1, ckI_z, zI_clamp, Int.toNat_natCast, bnd_some, lt, rd_same, rd_ne, rdL_same, rdL_ne, wI_2, wL_1, if_true, if_false, iT_lt, iF_lt, iT_lt0, iF_lt0, iT_0lt, iF_0lt, iT_le, iF_le, iT_le0, iF_le0, iT_0le, iF_0le, iT_eq, iF_eq, iT_eq0, iF_eq0]
              · have hmem := d3 e hA0
                obtain ⟨b1, b2, b3⟩ := progs_mem hmem
                obtain ⟨c1, c2, c3⟩ := comp_mem hvg 12 e.1 e.2 b3
                obtain ⟨S2, f1, f2, f3⟩ := f6_become_ok (a0 := 2) (by omega) (by omega) (v4 e hA0)
                have hc2 : CL S2 (50 + 11 * i) g := (hc.same hvg a6 (fun c k z _ => by unfold fsP mcP scP rgP; omega)).same hvg f3 (fun c k z _ => by unfold rgP; omega)
                have hsz := f3_sizeOf_in (N := N) hvg hc2 f2 (by omega)
                have q := wp_isp c2
                unfold szI at hsz
                rw [if_pos q.1, if_pos q.2, c3] at hsz
                refine ⟨S2, e.2, ?_, f2, f3, Or.inl ⟨e, rfl, by omega, rfl⟩⟩
                show _ = some (zI (if w = 1 then (P.2.2 : Int) else (e.1 : Int)), S2)
                rw [if_neg w1]
                simp (disch := omega) only [f5_howManyJust, v1, f5_shortestOne, onR_some, ckA_in ad6_29, f1, hsz, nI_z, zI_add, zI_sub, zI_mul, zI_m1, ckI_z, zI_clamp, Int.toNat_natCast, bnd_some, lt, rd_same, rd_ne, rdL_same, rdL_ne, wI_2, wL_1, if_true, if_false, iT_lt, iF_lt, iT_lt0, iF_lt0, iT_0lt, iF_0lt, iT_le, iF_le, iT_le0, iF_le0, iT_0le, iF_0le, iT_eq, iF_eq, iT_eq0, iF_eq0]
        obtain ⟨S2, p2, g1, g2, g3, g4⟩ := hcl
        have s2 : Same (fun c k => fsP c k ∨ rgP 2 c k) S S2 := (a6.mono (fun c k z => Or.inl z)).tr (g3.mono (fun c k z => Or.inr z))
        have hl2 := h.same s2 (fun c k z => by unfold laP at z; unfold fsP mcP scP rgP; omega)
        have hs2 := hs.same s2 (fun c k z => by unfold qsP at z; unfold fsP mcP scP rgP; omega)
        obtain ⟨_, hc2, hm2⟩ := hl2.2.2.2 i g hg
        have hil : i < Ls.length := (List.getElem?_eq_some_iff.mp hg).1
        have e22 := (lang_in hl2 hil).2
        have hb2 := (hbc S2).2
        obtain ⟨S3, l1, l2, l3⟩ := f12_listAll_ok (N := N) (lim := n) hvg hi (by omega) (by omega) hm2
        have hcap := progs_cap (A := []) (C := progs (bit g) (rkf g) n) hvg (by omega) rfl
        rw [List.length_nil, Nat.zero_add] at hcap
        obtain ⟨S4, S5, m1, m6, m2, m3, m4, m5⟩ := f12_short_loop (N := N) (nt := y) hvg hi hN (by omega : n ≤ 14) (by omega : t ≤ 4198) w0 hr (progs (bit g) (rkf g) n) [] 0 N S3 sa0 (-1) rfl rfl (by omega) (hm2.li hvg l3) l2 (hs2.same l3 (fun c k z => by unfold qsP at z; unfold liP; omega)) (Nat.le_refl _) (by decide) rfl
        have hP2 : (progs (bit g) (rkf g) n).foldl (sst g row t) sa0 = P := hP
        rw [hP2] at m1 m4 m5
        have e12 : f12_shortest N (zI i) y (zI w) S2 = some (zI (sansI P w), S5) := by
          unfold f12_shortest
          simp (disch := omega) only [iT_b, iF_b, e22, hb2, k3, hd, l1, nI_z, zI_add, zI_sub, zI_mul, zI_m1, ckI_z, zI_clamp, Int.toNat_natCast, bnd_some, lt, rd_same, rd_ne, rdL_same, rdL_ne, wI_2, wL_1, if_true, if_false, iT_lt, iF_lt, iT_lt0, iF_lt0, iT_0lt, iF_0lt, iT_le, iF_le, iT_le0, iF_le0, iT_0le, iF_0le, iT_eq, iF_eq, iT_eq0, iF_eq0]
          exact m1
        have s24 : Same (fun c k => rnP c k ∨ liP c k) S2 S4 := (l3.mono (fun c k z => Or.inr z)).tr (m2.mono (fun c k z => Or.inl z))
        have s25 : Same (fun c k => (rnP c k ∨ liP c k) ∨ loP c k) S2 S5 := s24.trans m3
        have hK5 : CMq S5 K2 := (a3.same g3 (fun c k z => by unfold mcP at z; unfold rgP; omega)).same s25 (fun c k z => by unfold mcP at z; unfold rnP liP loP; omega)
        refine ⟨_, S2, S5, K2, p2, g1, e12, ?_, hK5, a4, a5, fun q => (m6 ((q.same s2 (by unfold fsP mcP scP rgP; omega)).same l3 (by unfold liP; omega))).same m3 (by unfold loP; omega), (s2.mono (fun c k z => ?_)).tr (s25.mono (fun c k z => ?_))⟩
        · have hpr5 : PR S5 2 p2 := g2.same s25 (fun k => by unfold rnP liP loP; omega) (fun k => by unfold rnP liP loP; omega)
          rcases g4 with ⟨e, q1, q2, q3⟩ | ⟨q1, q2, q3⟩
          · obtain ⟨b1, b2, b3⟩ := progs_mem (d3 e q1)
            obtain ⟨c1, c2, c3⟩ := comp_mem hvg 12 e.1 e.2 b3
            obtain ⟨r1, r2⟩ := m4 e q1 q2
            rw [q3] at hpr5 ⊢
            exact qprog_of hpr5 r1 r2 c2
          · have q5 := m5 q1
            rw [q3, q5]
            have hp1 : Qprog S1 p := hp.same a6 (fun c k z => by unfold prP at z; unfold fsP mcP scP rgP; omega)
            rw [← q2] at hp1
            exact hp1.same s24 (fun c k z => by unfold prP at z; unfold rnP liP; omega)
        · rcases z with z | z
          · exact Or.inl z
          · exact Or.inr (Or.inr (Or.inr (by unfold prP; unfold rgP at z; omega)))
        · rcases z with (z | z) | z
          · exact Or.inr (Or.inl z)
          · exact Or.inr (Or.inr (Or.inl z))
          · exact Or.inr (Or.inr (Or.inr (by unfold prP; unfold loP at z; omega)))
      · refine triv (zI (-1)) ?_ ?_
        · unfold f11_shortest
          by_cases e : w < 0
          · simp (disch := omega) only [e1, ifN_some, ckA_in ha, hb1, nI_z, zI_add, zI_sub, zI_mul, zI_m1, ckI_z, zI_clamp, Int.toNat_natCast, bnd_some, lt, rd_same, rd_ne, rdL_same, rdL_ne, wI_2, wL_1, if_true, if_false, iT_lt, iF_lt, iT_lt0, iF_lt0, iT_0lt, iF_0lt, iT_le, iF_le, iT_le0, iF_le0, iT_0le, iF_0le, iT_eq, iF_eq, iT_eq0, iF_eq0]
          · simp (disch := omega) only [e1, ifN_some, ckA_in ha, hb1, nI_z, zI_add, zI_sub, zI_mul, zI_m1, ckI_z, zI_clamp, Int.toNat_natCast, bnd_some, lt, rd_same, rd_ne, rdL_same, rdL_ne, wI_2, wL_1, if_true, if_false, iT_lt, iF_lt, iT_lt0, iF_lt0, iT_0lt, iF_0lt, iT_le, iF_le, iT_le0, iF_le0, iT_0le, iF_0le, iT_eq, iF_eq, iT_eq0, iF_eq0]
        · have hb2 := (hbc S).2
          unfold f12_shortest; simp (disch := omega) only [iT_b, iF_b, e2, hb2, k3, nI_z, zI_add, zI_sub, zI_mul, zI_m1, ckI_z, zI_clamp, Int.toNat_natCast, bnd_some, lt, rd_same, rd_ne, rdL_same, rdL_ne, wI_2, wL_1, if_true, if_false, iT_lt, iF_lt, iT_lt0, iF_lt0, iT_0lt, iF_0lt, iT_le, iF_le, iT_le0, iF_le0, iT_0le, iF_0le, iT_eq, iF_eq, iT_eq0, iF_eq0]
