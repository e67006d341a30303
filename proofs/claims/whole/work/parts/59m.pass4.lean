/-! The call passes. -/
theorem ad1_in : ∀ i : Nat, i < 10 → 116 + 3 * i ∈ ad1 := by decide
theorem task_in {S : St} {ts : List (Nat × List Nat × List Nat)} (h : Qtask S ts) {i : Nat} (hi : i < ts.length) : f11_taskAt (zI i) S = some (some (116 + 3 * i), S) ∧ f12_isTask (zI i) S = some (zI 1, S) := by
  obtain ⟨h1, h2, h3, h4⟩ := h
  refine ⟨?_, ?_⟩
  · unfold f11_taskAt
    simp (disch := omega) only [h2, nI_z, zI_add, zI_sub, zI_mul, zI_m1, ckI_z, zI_clamp, Int.toNat_natCast, bnd_some, lt, rd_same, rd_ne, rdL_same, rdL_ne, wI_2, wL_1, if_true, if_false, iT_lt, iF_lt, iT_lt0, iF_lt0, iT_0lt, iF_0lt, iT_le, iF_le, iT_le0, iF_le0, iT_0le, iF_0le, iT_eq, iF_eq, iT_eq0, iF_eq0]
  · unfold f12_isTask
    simp (disch := omega) only [h3, nI_z, zI_add, zI_sub, zI_mul, zI_m1, ckI_z, zI_clamp, Int.toNat_natCast, bnd_some, lt, rd_same, rd_ne, rdL_same, rdL_ne, wI_2, wL_1, if_true, if_false, iT_lt, iF_lt, iT_lt0, iF_lt0, iT_0lt, iF_0lt, iT_le, iF_le, iT_le0, iF_le0, iT_0le, iF_0le, iT_eq, iF_eq, iT_eq0, iF_eq0]
    rfl
theorem task_cases {S : St} {ts : List (Nat × List Nat × List Nat)} (h : Qtask S ts) (x : Int32) : (f11_taskAt x S = some (none, S) ∧ f12_isTask x S = some (zI 0, S)) ∨ ∃ (i : Nat) (q : Nat × List Nat × List Nat), ts[i]? = some q ∧ x = zI i ∧ i < 10 ∧ f11_taskAt x S = some (some (116 + 3 * i), S) ∧ f12_isTask x S = some (zI 1, S) ∧ ASK S i q := by
  by_cases hx : 0 ≤ x.toInt ∧ x.toInt < ts.length
  · right
    obtain ⟨i, hi⟩ : ∃ i : Nat, x.toInt = i := ⟨x.toInt.toNat, by omega⟩
    have hl : i < ts.length := by omega
    have hxe : x = zI i := by rw [← hi]; exact zI_of x
    have hg : ts[i]? = some ts[i] := List.getElem?_eq_getElem hl
    have h6 := h.1
    obtain ⟨p1, p2⟩ := task_in h hl
    rw [hxe]
    exact ⟨i, _, hg, rfl, by omega, p1, p2, h.2.2.2 i _ hg⟩
  · left
    have hr := xrng x
    rw [zI_of x]
    generalize x.toInt = z at hx hr
    obtain ⟨h1, h2, h3, h4⟩ := h
    refine ⟨?_, ?_⟩
    · unfold f11_taskAt
      by_cases e : z < 0
      · simp (disch := omega) only [h2, nI_z, zI_add, zI_sub, zI_mul, zI_m1, ckI_z, zI_clamp, Int.toNat_natCast, bnd_some, lt, rd_same, rd_ne, rdL_same, rdL_ne, wI_2, wL_1, if_true, if_false, iT_lt, iF_lt, iT_lt0, iF_lt0, iT_0lt, iF_0lt, iT_le, iF_le, iT_le0, iF_le0, iT_0le, iF_0le, iT_eq, iF_eq, iT_eq0, iF_eq0]
      · simp (disch := omega) only [h2, nI_z, zI_add, zI_sub, zI_mul, zI_m1, ckI_z, zI_clamp, Int.toNat_natCast, bnd_some, lt, rd_same, rd_ne, rdL_same, rdL_ne, wI_2, wL_1, if_true, if_false, iT_lt, iF_lt, iT_lt0, iF_lt0, iT_0lt, iF_0lt, iT_le, iF_le, iT_le0, iF_le0, iT_0le, iF_0le, iT_eq, iF_eq, iT_eq0, iF_eq0]
    · unfold f12_isTask
      by_cases e : z < 0
      · simp (disch := omega) only [h3, nI_z, zI_add, zI_sub, zI_mul, zI_m1, ckI_z, zI_clamp, Int.toNat_natCast, bnd_some, lt, rd_same, rd_ne, rdL_same, rdL_ne, wI_2, wL_1, if_true, if_false, iT_lt, iF_lt, iT_lt0, iF_lt0, iT_0lt, iF_0lt, iT_le, iF_le, iT_le0, iF_le0, iT_0le, iF_0le, iT_eq, iF_eq, iT_eq0, iF_eq0]; rfl
      · simp (disch := omega) only [h3, nI_z, zI_add, zI_sub, zI_mul, zI_m1, ckI_z, zI_clamp, Int.toNat_natCast, bnd_some, lt, rd_same, rd_ne, rdL_same, rdL_ne, wI_2, wL_1, if_true, if_false, iT_lt, iF_lt, iT_lt0, iF_lt0, iT_0lt, iF_0lt, iT_le, iF_le, iT_le0, iF_le0, iT_0le, iF_0le, iT_eq, iF_eq, iT_eq0, iF_eq0]; rfl
/-- what passes may write -/
def paP (c k : Nat) : Prop := mcP c k ∨ rnP c k ∨ wkP c k ∨ (116 ≤ c ∧ c ≤ 145 ∧ ((c - 116) % 3 = 2 ∨ ((c - 116) % 3 = 0 ∧ k = 4)))
theorem c_passes {N K : Nat} {S : St} {Ls : List Lg} {p : List Nat} {ts : List (Nat × List Nat × List Nat)} (hN : 100000 ≤ N) (h : Qlang S Ls) (hp : Qprog S p) (hk : Qtask S ts) (hK : CMq S K) (hKb : K + 10 < 2147483648) (x y t : Int32) : ∃ r S1 S2 K2, f11_passes N x y t S = some (r, S1) ∧ f12_passes N x y t S1 = some (r, S2) ∧ CMq S2 K2 ∧ K ≤ K2 ∧ K2 ≤ K + 9 ∧ (V15 S → V15 S2) ∧ Same paP S S2 := by
  have triv : ∀ r, f11_passes N x y t S = some (r, S) → f12_passes N x y t S = some (r, S) → ∃ r S1 S2 K2, f11_passes N x y t S = some (r, S1) ∧ f12_passes N x y t S1 = some (r, S2) ∧ CMq S2 K2 ∧ K ≤ K2 ∧ K2 ≤ K + 9 ∧ (V15 S → V15 S2) ∧ Same paP S S2 := fun r a b => ⟨r, S, S, K, a, b, hK, by omega, by omega, fun q => q, Same.rfl'⟩
  have ht := xrng t
  rw [zI_of t] at triv ⊢
  generalize t.toInt = u at ht triv
  have n2 := fun S => isNum u S ht
  have k2 := fun S => isNum_m u S ht
  rcases lang_cases h x with ⟨e1, e2⟩ | ⟨i, g, hg, rfl, hi, e1, e2, hv, hc, hm⟩
  · refine triv (zI (-1)) ?_ ?_
    · unfold f11_passes
      rcases task_cases hk y with ⟨q1, q2⟩ | ⟨j, q, hj, rfl, hj10, q1, q2, hA⟩
      · rw [e1, bnd_some, q1]; simp (disch := omega) only [ifN_none, nI_z, zI_add, zI_sub, zI_mul, zI_m1, ckI_z, zI_clamp, Int.toNat_natCast, bnd_some, lt, rd_same, rd_ne, rdL_same, rdL_ne, wI_2, wL_1, if_true, if_false, iT_lt, iF_lt, iT_lt0, iF_lt0, iT_0lt, iF_0lt, iT_le, iF_le, iT_le0, iF_le0, iT_0le, iF_0le, iT_eq, iF_eq, iT_eq0, iF_eq0]
      · rw [e1, bnd_some, q1]; simp (disch := omega) only [ifN_none, nI_z, zI_add, zI_sub, zI_mul, zI_m1, ckI_z, zI_clamp, Int.toNat_natCast, bnd_some, lt, rd_same, rd_ne, rdL_same, rdL_ne, wI_2, wL_1, if_true, if_false, iT_lt, iF_lt, iT_lt0, iF_lt0, iT_0lt, iF_0lt, iT_le, iF_le, iT_le0, iF_le0, iT_0le, iF_0le, iT_eq, iF_eq, iT_eq0, iF_eq0]
    · unfold f12_passes; rw [e2]; simp (disch := omega) only [nI_z, zI_add, zI_sub, zI_mul, zI_m1, ckI_z, zI_clamp, Int.toNat_natCast, bnd_some, lt, rd_same, rd_ne, rdL_same, rdL_ne, wI_2, wL_1, if_true, if_false, iT_lt, iF_lt, iT_lt0, iF_lt0, iT_0lt, iF_0lt, iT_le, iF_le, iT_le0, iF_le0, iT_0le, iF_0le, iT_eq, iF_eq, iT_eq0, iF_eq0]
  · have ha := ad3_in i hi
    rcases task_cases hk y with ⟨q1, q2⟩ | ⟨j, q, hj, rfl, hj10, q1, q2, hA⟩
    · refine triv (zI (-1)) ?_ ?_
      · unfold f11_passes; simp (disch := omega) only [e1, q1, ifN_some, ifN_none, ckA_in ha, nI_z, zI_add, zI_sub, zI_mul, zI_m1, ckI_z, zI_clamp, Int.toNat_natCast, bnd_some, lt, rd_same, rd_ne, rdL_same, rdL_ne, wI_2, wL_1, if_true, if_false, iT_lt, iF_lt, iT_lt0, iF_lt0, iT_0lt, iF_0lt, iT_le, iF_le, iT_le0, iF_le0, iT_0le, iF_0le, iT_eq, iF_eq, iT_eq0, iF_eq0]
      · unfold f12_passes; rw [e2, bnd_some, if_neg (by decide), q2]; simp (disch := omega) only [nI_z, zI_add, zI_sub, zI_mul, zI_m1, ckI_z, zI_clamp, Int.toNat_natCast, bnd_some, lt, rd_same, rd_ne, rdL_same, rdL_ne, wI_2, wL_1, if_true, if_false, iT_lt, iF_lt, iT_lt0, iF_lt0, iT_0lt, iF_0lt, iT_le, iF_le, iT_le0, iF_le0, iT_0le, iF_0le, iT_eq, iF_eq, iT_eq0, iF_eq0]
    · have ha1 := ad1_in j hj10
      by_cases u0 : 0 ≤ u ∧ u ≤ 999
      · rcases prog_cases (N := N) (by omega) hi hv hc hm hp with ⟨w1, w2, w3⟩ | ⟨w1, w2, w3, w4⟩
        · refine triv (zI (-5)) ?_ ?_
          · unfold f11_passes; simp (disch := omega) only [iT_b, iF_b, e1, q1, ifN_some, ckA_in ha, ckA_in ha1, n2, w2, nI_z, zI_add, zI_sub, zI_mul, zI_m1, ckI_z, zI_clamp, Int.toNat_natCast, bnd_some, lt, rd_same, rd_ne, rdL_same, rdL_ne, wI_2, wL_1, if_true, if_false, iT_lt, iF_lt, iT_lt0, iF_lt0, iT_0lt, iF_0lt, iT_le, iF_le, iT_le0, iF_le0, iT_0le, iF_0le, iT_eq, iF_eq, iT_eq0, iF_eq0]; rfl
          · unfold f12_passes; simp (disch := omega) only [iT_b, iF_b, e2, q2, k2, w3, nI_z, zI_add, zI_sub, zI_mul, zI_m1, ckI_z, zI_clamp, Int.toNat_natCast, bnd_some, lt, rd_same, rd_ne, rdL_same, rdL_ne, wI_2, wL_1, if_true, if_false, iT_lt, iF_lt, iT_lt0, iF_lt0, iT_0lt, iF_0lt, iT_le, iF_le, iT_le0, iF_le0, iT_0le, iF_0le, iT_eq, iF_eq, iT_eq0, iF_eq0]; rfl
        · obtain ⟨b, rfl⟩ : ∃ b : Nat, u = b := ⟨u.toNat, by omega⟩
          obtain ⟨g1, g2, g3, g4, g5, g6, g7, g8, g9⟩ := hA
          have h12 := hp.1.2.1
          have hbl := bsum_le hv p
          obtain ⟨S1, S2, a1, a2, a3, a4, a5⟩ := f4_run_ok (N := N) (x := q.1) (t := b) hv (by omega : 11 ≤ 50 + 11 * i) (by omega : 2 + 1 < 6 ∨ 9 < 2) hN w1 h12 g1 hKb (by omega) hc hp.1 hK
          have hMI := mgo_MI (w := wr g p) b (q.1, 0, 0, [], [(q.1, 0)]) 0 ⟨by show q.1 < 1000; omega, by show 0 < 1000; omega, by show 0 ≤ 8; omega, fun y hy => (by cases hy)⟩
          have hst := mgo_steps (w := wr g p) b (q.1, 0, 0, [], [(q.1, 0)]) 0
          have hpr : prun g p q.1 b = mgo (wr g p) b (q.1, 0, 0, [], [(q.1, 0)]) 0 := rfl
          rw [← hpr] at hMI hst
          have hcl0 : f11_passes N (zI i) (zI j) (zI b) S = bnd (f1_isPassedBy N (116 + 3 * j) S2) fun q19 S20 => if q19 = 0 then some (nI 0, S20) else some (nI 1, S20) := by
            unfold f11_passes f1_input
            simp (disch := omega) only [iT_b, iF_b, e1, q1, ifN_some, ckA_in ha, ckA_in ha1, n2, w2, g6, a1, a2, nI_z, zI_add, zI_sub, zI_mul, zI_m1, ckI_z, zI_clamp, Int.toNat_natCast, bnd_some, lt, rd_same, rd_ne, rdL_same, rdL_ne, wI_2, wL_1, if_true, if_false, iT_lt, iF_lt, iT_lt0, iF_lt0, iT_0lt, iF_0lt, iT_le, iF_le, iT_le0, iF_le0, iT_0le, iF_0le, iT_eq, iF_eq, iT_eq0, iF_eq0]
          obtain ⟨wd1, wd2⟩ := pAll_wf g2 g4
          have hMV : MV S2 (prun g p q.1 b).1 := ⟨hMI.1.2.2.1, a3.2.2.2.1, a3.2.2.2.2.1, a3.2.2.2.2.2.2.2.1, a3.2.2.2.2.2.2.2.2.1⟩
          have h66 := a3.2.2.2.2.2.2.1
          -- the value, as the reference works it out
          have hl2 := h.same a5 (fun c k z => by unfold laP at z; unfold mcP; omega)
          have hA2 : AK S2 (116 + 3 * j) q.2.2 := g5.same a5 (by unfold mcP; omega) (fun k => by unfold mcP; omega)
          have hx2 : S2.1 (116 + 3 * j) 2 = zI q.1 := by rw [a5.i (by unfold mcP; omega)]; exact g6
          -- the reference after any state like S2
          have refe : ∀ S3 : St, Same (fun c k => mcP c k ∨ skP (116 + 3 * j) c k) S S3 → ∃ S5 v, f12_passes N (zI i) (zI j) (zI b) S3 = some (if (prun g p q.1 b).2.2 = 0 ∧ (prun g p q.1 b).1.2.2.2.1 ≠ [] ∧ v ≠ zI 0 then zI 1 else zI 0, S5) ∧ ((∀ st, ev (vn (prun g p q.1 b).1 q.1) q.2.2 st = v :: st) ∧ (v = zI 0 ∨ v = zI 1)) ∧ V15 S5 ∧ Same (fun c k => rnP c k ∨ wkP c k) S3 S5 := fun S3 s3 => by
            have hl3 := h.same s3 (fun c k z => by unfold laP at z; unfold mcP skP; omega)
            have hp3 := hp.same s3 (fun c k z => by unfold prP at z; unfold mcP skP; omega)
            have hk3 : Qtask S3 ts := hk.same s3 (fun c k z => by unfold tkP at z; unfold mcP skP; omega)
            obtain ⟨_, hc3, hm3⟩ := hl3.2.2.2 i g hg
            have hil : i < Ls.length := (List.getElem?_eq_some_iff.mp hg).1
            have hjl : j < ts.length := (List.getElem?_eq_some_iff.mp hj).1
            have f1 := (lang_in hl3 hil).2
            have f2 := (task_in hk3 hjl).2
            rcases prog_cases (N := N) (by omega) hi hv hc3 hm3 hp3 with ⟨z1, z2, z3⟩ | ⟨z1, z2, z3, z4⟩
            · exact absurd w1 z1
            obtain ⟨S4, d1, d2, d3, d4⟩ := f12_runFor_ok (N := N) (x := q.1) (t := b) hN hv hi w1 h12 hm3 g1 (by omega) (by omega)
            have hpk := f12_packed_ok (N := N) (by omega) hp3.2.1 hp3.2.2.1 h12 hp.1.2.2.1
            have hv4 := V15.of d2 hMI.1
            obtain ⟨d21, d22, d23, d24, d25⟩ := d2
            have hE : EV S4 (prun g p q.1 b).1 q.1 := ⟨hMI.1.2.2.1, d21, d22, d24, d25, d3⟩
            obtain ⟨_, _, _, _, _, _, m7, m8, m9⟩ := hk3.2.2.2 j q hj
            have m7' : Held (S4.1 163) (60 * j) q.2.1 := m7.same d4 (fun k => by unfold rnP; omega)
            have m8' : S4.1 164 j = zI q.2.1.length := by rw [d4.i (by unfold rnP; omega)]; exact m8
            obtain ⟨v, S5, b1, b2, b3, b4⟩ := workOut_m (N := N) (n := q.2.1.length) (T := txt q.2.1) (bs := ((60 * j : Nat) : Int)) (by omega) g2 (txt_256 g3) (by omega) (fun y hy => ⟨fun z => by omega, fun _ => m7'.txt hy⟩) hE
            have b3' := b3 q.2.2 g4
            have hz60 : ((60 : Nat) : Int) * (j : Int) = ((60 * j : Nat) : Int) := by omega
            have hj1 : f12_passes N (zI i) (zI j) (zI b) S3 = (if zI (prun g p q.1 b).2.2 = 0 then bnd (f12_isPassed N (zI j) S4) (fun q18 S19 => if q18 = 0 then some (nI 0, S19) else some (nI 1, S19)) else some (nI 0, S4)) := by
              unfold f12_passes
              rw [f1, bnd_some, if_neg (by decide), f2, bnd_some, if_neg (by decide)]
              simp (disch := omega) only [iT_b, iF_b, k2, z3, hpk, m9, d1, nI_z, zI_add, zI_sub, zI_mul, zI_m1, ckI_z, zI_clamp, Int.toNat_natCast, bnd_some, lt, rd_same, rd_ne, rdL_same, rdL_ne, wI_2, wL_1, if_true, if_false, iT_lt, iF_lt, iT_lt0, iF_lt0, iT_0lt, iF_0lt, iT_le, iF_le, iT_le0, iF_le0, iT_0le, iF_0le, iT_eq, iF_eq, iT_eq0, iF_eq0]
            have hr2 := (prun_MI (g := g) (p := p) (x := q.1) (t := b) g1).2.1
            by_cases r0 : (prun g p q.1 b).2.2 = 0
            · rw [r0, iT_eq0 (a := ((0 : Nat) : Int)) rfl] at hj1
              by_cases r1 : (prun g p q.1 b).1.2.2.2.1 = []
              · refine ⟨S4, v, ?_, b3', hv4, d4.mono (fun c k z => Or.inl z)⟩
                have h0 : (prun g p q.1 b).1.2.2.2.1.length = 0 := by rw [r1]; rfl
                rw [h0] at d24
                have hip : f12_isPassed N (zI j) S4 = some (zI 0, S4) := by
                  unfold f12_isPassed
                  simp (disch := omega) only [d24, nI_z, zI_add, zI_sub, zI_mul, zI_m1, ckI_z, zI_clamp, Int.toNat_natCast, bnd_some, lt, rd_same, rd_ne, rdL_same, rdL_ne, wI_2, wL_1, if_true, if_false, iT_lt, iF_lt, iT_lt0, iF_lt0, iT_0lt, iF_0lt, iT_le, iF_le, iT_le0, iF_le0, iT_0le, iF_0le, iT_eq, iF_eq, iT_eq0, iF_eq0]
                  rfl
                rw [hj1, hip, bnd_some, iT_eq0 rfl, if_neg (fun z => z.2.1 r1)]
                rfl
              · have h0 : 0 < (prun g p q.1 b).1.2.2.2.1.length := List.length_pos_iff.mpr r1
                have h88 := hMI.1.2.2.1
                refine ⟨S5, v, ?_, b3', hv4.same b4 (by unfold wkP; omega), (d4.mono (fun c k z => Or.inl z)).tr (b4.mono (fun c k z => Or.inr z))⟩
                have hip : f12_isPassed N (zI j) S4 = (if v = 0 then some (nI 0, S5) else some (nI 1, S5)) := by
                  unfold f12_isPassed
                  simp (disch := omega) only [d24, m8', hz60, b1, nI_z, zI_add, zI_sub, zI_mul, zI_m1, ckI_z, zI_clamp, Int.toNat_natCast, bnd_some, lt, rd_same, rd_ne, rdL_same, rdL_ne, wI_2, wL_1, if_true, if_false, iT_lt, iF_lt, iT_lt0, iF_lt0, iT_0lt, iF_0lt, iT_le, iF_le, iT_le0, iF_le0, iT_0le, iF_0le, iT_eq, iF_eq, iT_eq0, iF_eq0]
                rw [hj1, hip]
                rcases b3'.2 with e | e
                · rw [e, iT_eq0 rfl, bnd_some, if_pos (by decide), if_neg (fun z => z.2.2 rfl)]
                  rfl
                · rw [e, if_neg (by decide), bnd_some, if_neg (by decide), if_pos ⟨r0, r1, by decide⟩]
                  rfl
            · refine ⟨S4, v, ?_, b3', hv4, d4.mono (fun c k z => Or.inl z)⟩
              rw [hj1, iF_eq0 (by omega), if_neg (fun z => r0 z.1)]
              rfl
          -- the class's end
          have hcl : ∃ S3, Same (skP (116 + 3 * j)) S2 S3 ∧ ∀ v, ((∀ st, ev (vn (prun g p q.1 b).1 q.1) q.2.2 st = v :: st) ∧ (v = zI 0 ∨ v = zI 1)) → f11_passes N (zI i) (zI j) (zI b) S = some (if (prun g p q.1 b).2.2 = 0 ∧ (prun g p q.1 b).1.2.2.2.1 ≠ [] ∧ v ≠ zI 0 then zI 1 else zI 0, S3) := by
            have hr2 := (prun_MI (g := g) (p := p) (x := q.1) (t := b) g1).2.1
            by_cases r0 : (prun g p q.1 b).2.2 = 0
            · by_cases r1 : (prun g p q.1 b).1.2.2.2.1 = []
              · refine ⟨S2, Same.rfl', fun v hv => ?_⟩
                have h0 : (prun g p q.1 b).1.2.2.2.1.length = 0 := by rw [r1]; rfl
                have h68 := hMV.2.2.2.1
                rw [h0] at h68
                rw [r0] at h66
                have hip : f1_isPassedBy N (116 + 3 * j) S2 = some (zI 0, S2) := by
                  unfold f1_isPassedBy f4_state f4_saidCount
                  simp (disch := omega) only [h66, h68, nI_z, zI_add, zI_sub, zI_mul, zI_m1, ckI_z, zI_clamp, Int.toNat_natCast, bnd_some, lt, rd_same, rd_ne, rdL_same, rdL_ne, wI_2, wL_1, if_true, if_false, iT_lt, iF_lt, iT_lt0, iF_lt0, iT_0lt, iF_0lt, iT_le, iF_le, iT_le0, iF_le0, iT_0le, iF_0le, iT_eq, iF_eq, iT_eq0, iF_eq0]
                  rfl
                rw [hcl0, hip, bnd_some, iT_eq0 rfl, if_neg (fun z => z.2.1 r1)]
                rfl
              · rw [r0] at h66
                obtain ⟨S0, v0, _, hv0, _⟩ := refe S2 (a5.mono (fun c k z => Or.inl z))
                obtain ⟨S3, f1, f2⟩ := isPassedBy_k (N := N) (by omega) (by omega) (by omega) hA2 hx2 hMV h66 r1 wd1 (hv0.1 [])
                refine ⟨S3, f2, fun v hv => ?_⟩
                have hvv : v = v0 := by
                  have := (hv.1 []).symm.trans (hv0.1 [])
                  injection this
                rw [hcl0, f1, bnd_some, hvv]
                rcases hv0.2 with e | e
                · rw [e, if_pos rfl, iT_eq0 rfl, if_neg (fun z => z.2.2 rfl)]
                  rfl
                · rw [e, if_neg (by decide), if_pos ⟨r0, r1, by decide⟩]
                  rfl
            · refine ⟨S2, Same.rfl', fun v hv => ?_⟩
              have hip : f1_isPassedBy N (116 + 3 * j) S2 = some (zI 0, S2) := by
                unfold f1_isPassedBy f4_state
                simp (disch := omega) only [h66, nI_z, zI_add, zI_sub, zI_mul, zI_m1, ckI_z, zI_clamp, Int.toNat_natCast, bnd_some, lt, rd_same, rd_ne, rdL_same, rdL_ne, wI_2, wL_1, if_true, if_false, iT_lt, iF_lt, iT_lt0, iF_lt0, iT_0lt, iF_0lt, iT_le, iF_le, iT_le0, iF_le0, iT_0le, iF_0le, iT_eq, iF_eq, iT_eq0, iF_eq0]
                rfl
              rw [hcl0, hip, bnd_some, iT_eq0 rfl, if_neg (fun z => r0 z.1)]
              rfl
          obtain ⟨S3, s3, f3⟩ := hcl
          have s13 : Same (fun c k => mcP c k ∨ skP (116 + 3 * j) c k) S S3 := (a5.mono (fun c k z => Or.inl z)).tr (s3.mono (fun c k z => Or.inr z))
          obtain ⟨S5, v, c1, c2, c3, c4⟩ := refe S3 s13
          have hq2 : CMq S2 (K + 1 + (prun g p q.1 b).1.2.2.2.1.length) := a3.q
          have hq5 : CMq S5 (K + 1 + (prun g p q.1 b).1.2.2.2.1.length) := (hq2.same s3 (fun c k z => by unfold mcP at z; unfold skP; omega)).same c4 (fun c k z => by unfold mcP at z; unfold rnP wkP; omega)
          refine ⟨_, S3, S5, _, f3 v c2, c1, hq5, by omega, by have := hMI.1.2.2.1; omega, fun _ => c3, (s13.mono (fun c k z => ?_)).tr (c4.mono (fun c k z => ?_))⟩
          · rcases z with z | z
            · exact Or.inl z
            · exact Or.inr (Or.inr (Or.inr (by unfold skP at z; omega)))
          · rcases z with z | z
            · exact Or.inr (Or.inl z)
            · exact Or.inr (Or.inr (Or.inl z))
      · refine triv (zI (-1)) ?_ ?_
        · unfold f11_passes; simp (disch := omega) only [iT_b, iF_b, e1, q1, ifN_some, ckA_in ha, ckA_in ha1, n2, nI_z, zI_add, zI_sub, zI_mul, zI_m1, ckI_z, zI_clamp, Int.toNat_natCast, bnd_some, lt, rd_same, rd_ne, rdL_same, rdL_ne, wI_2, wL_1, if_true, if_false, iT_lt, iF_lt, iT_lt0, iF_lt0, iT_0lt, iF_0lt, iT_le, iF_le, iT_le0, iF_le0, iT_0le, iF_0le, iT_eq, iF_eq, iT_eq0, iF_eq0]
        · unfold f12_passes; simp (disch := omega) only [iT_b, iF_b, e2, q2, k2, nI_z, zI_add, zI_sub, zI_mul, zI_m1, ckI_z, zI_clamp, Int.toNat_natCast, bnd_some, lt, rd_same, rd_ne, rdL_same, rdL_ne, wI_2, wL_1, if_true, if_false, iT_lt, iF_lt, iT_lt0, iF_lt0, iT_0lt, iF_0lt, iT_le, iF_le, iT_le0, iF_le0, iT_0le, iF_0le, iT_eq, iF_eq, iT_eq0, iF_eq0]
