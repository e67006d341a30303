/-! A LANGUAGE more; the call helped. -/
def cnP (L c p : Nat) : Prop := (c = 0 ∧ p = 1) ∨ (50 + 11 * L ≤ c ∧ c ≤ 50 + 11 * L + 10)
def mnP (L c p : Nat) : Prop := ((c = 147 ∨ c = 148 ∨ c = 149) ∧ 12 * L ≤ p ∧ p < 12 * L + 12) ∨ (c = 150 ∧ 16 * L ≤ p ∧ p < 16 * L + 16) ∨ (c = 151 ∧ 4 * L ≤ p ∧ p < 4 * L + 4) ∨ (c = 152 ∧ p = L) ∨ (c = 146 ∧ p = 6)
theorem lang_more {S S1 S2 : St} {Ls : List Lg} {g : Lg} {L : Nat} (h : Qlang S Ls) (hL : Ls.length = L) (h6 : L < 6) (hv : LV g) (h1 : CL S1 (50 + 11 * L) g) (h2 : S1.1 0 1 = zI ((L : Int) + ((1 : Nat) : Int))) (s1 : Same (cnP L) S S1) (h3 : ML S2 L g) (h4 : S2.1 146 6 = zI ((L : Int) + ((1 : Nat) : Int))) (s2 : Same (mnP L) S1 S2) : Qlang S2 (Ls ++ [g]) ∧ Same laP S S2 := by
  obtain ⟨a1, a2, a3, a4⟩ := h
  have hz : zI ((L : Int) + ((1 : Nat) : Int)) = zI (((Ls ++ [g]).length : Nat) : Int) := by rw [List.length_append, List.length_singleton, hL]; rfl
  refine ⟨⟨by rw [List.length_append, List.length_singleton]; omega, by rw [s2.i (by unfold mnP; omega), h2, hz], by rw [h4, hz], fun i x hi => ?_⟩, (s1.mono (fun c p z => by unfold cnP at z; unfold laP; omega)).tr (s2.mono (fun c p z => by unfold mnP at z; unfold laP; omega))⟩
  have hlt := (List.getElem?_eq_some_iff.mp hi).1
  rw [List.length_append, List.length_singleton] at hlt
  by_cases e : i = Ls.length
  · subst e
    have : x = g := by simpa [eq_comm] using hi
    rw [this, hL]
    exact ⟨hv, h1.same hv s2 (fun c k _ _ => by unfold mnP; omega), h3⟩
  · rw [List.getElem?_append_left (by omega)] at hi
    obtain ⟨q1, q2, q3⟩ := a4 i x hi
    refine ⟨q1, (q2.same q1 s1 (fun c k _ _ => by unfold cnP; omega)).same q1 s2 (fun c k _ _ => by unfold mnP; omega), (q3.same q1 s1 (fun c p _ _ _ => by unfold cnP; omega) (fun p _ _ => by unfold cnP; omega) (fun p _ _ => by unfold cnP; omega) (by unfold cnP; omega)).same q1 s2 (fun c p _ _ _ => by unfold mnP; omega) (fun p _ _ => by unfold mnP; omega) (fun p _ _ => by unfold mnP; omega) (by unfold mnP; omega)⟩
theorem LV.sw {g : Lg} {bs : List Nat} (h : g = (bs, g.2)) : LV g ↔ LV (bs, g.2) := by rw [← h]
theorem helped_class {N i L : Nat} {S : St} {g : Lg} {p : List Nat} (hN : 100 ≤ N) (hi : i < L) (hL : L < 6) (hv : LV g) (hc : CL S (50 + 11 * i) g) (hp : PR S 2 p) : ∃ S1, f3_beHelped N (50 + 11 * L) (50 + 11 * i) 2 S = some ((), S1) ∧ CL S1 (50 + 11 * L) (hfin p g.1.length 0 g.1, g.2) ∧ Same (fun c _ => 50 + 11 * L ≤ c ∧ c ≤ 50 + 11 * L + 10) S S1 := by
  obtain ⟨S1, a1, a2, a3⟩ := like_ok (N := N) (a0 := 50 + 11 * L) (a1 := 50 + 11 * i) (by omega) (by omega) hv hc
  have s1 : Same (fun c _ => 50 + 11 * L ≤ c ∧ c ≤ 50 + 11 * L + 10) S S1 := a3.mono (fun c k z => by unfold blP at z; omega)
  have hgl := hv.len
  obtain ⟨S2, b1, b2, b3⟩ := helped_c (N := N) (a := 50 + 11 * L) (p := p) (ps := g.2) hN (by omega) g.1.length 0 N S1 g.1 (by omega) (by omega) hv a2 (hp.same s1 (fun k => by omega) (fun k => by omega))
  have hfl := (hfin_LV (p := p) (ps := g.2) g.1.length 0 g.1 hv).1
  obtain ⟨S3, c1, c2, c3⟩ := f3_settle_ok (N := N) hfl (by omega) b2
  refine ⟨S3, ?_, c2, (s1.tr (b3.mono (fun c k z => by omega))).tr (c3.mono (fun c k z => by unfold stP at z; omega))⟩
  have b1' : f3_beHelped_h7 N (50 + 11 * L) 2 N (nI 0) S1 = f3_beHelped_j77 N (50 + 11 * L) S2 := by rw [nI_z]; exact b1
  unfold f3_beHelped
  rw [a1, bnd_some, b1']
  unfold f3_beHelped_j77
  rw [c1, bnd_some]
theorem helped_model {N i L : Nat} {S : St} {g : Lg} {p : List Nat} (hN : 100 ≤ N) (hi : i < L) (hL : L < 6) (hv : LV g) (hm : ML S i g) (hc : S.1 146 6 = zI L) (hk : khas S p) : ∃ S1 S2, f12_copy N (zI i) S = some ((), S1) ∧ f12_helped_h40 N (zI i) N (nI 0) S1 = some (zI L, S2) ∧ ML S2 L (hfin p g.1.length 0 g.1, g.2) ∧ S2.1 146 6 = zI ((L : Int) + ((1 : Nat) : Int)) ∧ Same (mnP L) S S2 := by
  obtain ⟨S1, a1, a2, a3, a4, a5⟩ := copy_ok (N := N) (by omega) (by omega : i < 6) hL (by omega) hv hm hc
  have hgl := hv.len
  have hm1 : ML S1 i g := hm.same hv a5 (fun c p _ _ _ => by unfold mpP; omega) (fun p _ _ => by unfold mpP; omega) (fun p _ _ => by unfold mpP; omega) (by unfold mpP; omega)
  have hk1 : khas S1 p := ⟨by rw [a5.i (by unfold mpP; omega)]; exact hk.1, hk.2.1.same a5 (fun k => by unfold mpP; omega), hk.2.2⟩
  obtain ⟨S2, b1, b2, b3⟩ := helped_m (N := N) (p := p) (by omega) (by omega : i < 6) hL (by omega) hv g.1.length 0 N S1 g.1 (by omega) (by omega) rfl hv a2 hm1 a4 hk1
  have hfl := (hfin_LV (p := p) (ps := g.2) g.1.length 0 g.1 hv).1
  obtain ⟨S3, c1, c2, c3⟩ := f12_gc_ok (N := N) hfl hL (by omega) b2
  have h6 : S3.1 146 6 = zI L := by rw [c3.i (by unfold gcP; omega), b3.i (by omega)]; exact a4
  have hs4 : Same (fun c q => c = 146 ∧ q = 6) S3 (wI S3 146 6 (zI ((L : Int) + ((1 : Nat) : Int)))) := (Same.rfl' (P := fun c q => c = 146 ∧ q = 6)).wI ⟨rfl, rfl⟩
  have hmp2 : MP S2 L g := fun j q hj => by
    obtain ⟨d1, d2⟩ := a3 j q hj
    exact ⟨by rw [b3.i (by omega)]; exact d1, d2.same b3 (fun k => by omega)⟩
  have hmp3 : MP S3 L (hfin p g.1.length 0 g.1, g.2) := fun j q hj => by
    obtain ⟨d1, d2⟩ := hmp2 j q hj
    exact ⟨by rw [c3.i (by unfold gcP; omega)]; exact d1, d2.same c3 (fun k => by unfold gcP; omega)⟩
  have hmb3 : MB S3 L (hfin p g.1.length 0 g.1, g.2) := b2.same c3 (fun p h => by unfold gcP at h; omega) (fun p h => by unfold gcP at h; omega)
  have hml3 := ML.mk2 hfl hmb3 hmp3 c2
  refine ⟨S1, wI S3 146 6 (zI ((L : Int) + ((1 : Nat) : Int))), a1, ?_, hml3.same hfl hs4 (fun c p _ _ _ => by omega) (fun p _ _ => by omega) (fun p _ _ => by omega) (by omega), rd_same, (((a5.mono (fun c q z => by unfold mpP at z; unfold mnP; omega)).tr (b3.mono (fun c q z => by unfold mnP; omega))).tr (c3.mono (fun c q z => by unfold gcP at z; unfold mnP; omega))).tr (hs4.mono (fun c q z => by unfold mnP; omega))⟩
  rw [nI_z]
  rw [b1, c1, bnd_some]
  simp (disch := omega) only [h6, nI_z, zI_add, zI_sub, zI_mul, zI_m1, ckI_z, zI_clamp, Int.toNat_natCast, bnd_some, lt, rd_same, rd_ne, rdL_same, rdL_ne, wI_2, wL_1, if_true, if_false, iT_lt, iF_lt, iT_lt0, iF_lt0, iT_0lt, iF_0lt, iT_le, iF_le, iT_le0, iF_le0, iT_0le, iF_0le, iT_eq, iF_eq, iT_eq0, iF_eq0]
  congr 2
  congr 1
  omega
theorem Qprog.has {S : St} {p : List Nat} (h : Qprog S p) : khas S p := ⟨h.2.1, h.2.2.1, h.1.2.1, h.1.2.2.1⟩
theorem c_helped {N : Nat} {S : St} {Ls : List Lg} {p : List Nat} (hN : 100 ≤ N) (h : Qlang S Ls) (hp : Qprog S p) (x : Int32) : ∃ r S1 S2 Ls2, f11_helped N x S = some (r, S1) ∧ f12_helped N x S1 = some (r, S2) ∧ Qlang S2 Ls2 ∧ Same laP S S2 := by
  have triv : ∀ r, f11_helped N x S = some (r, S) → f12_helped N x S = some (r, S) → ∃ r S1 S2 Ls2, f11_helped N x S = some (r, S1) ∧ f12_helped N x S1 = some (r, S2) ∧ Qlang S2 Ls2 ∧ Same laP S S2 := fun r a b => ⟨r, S, S, Ls, a, b, h, Same.rfl'⟩
  rcases lang_cases h x with ⟨e1, e2⟩ | ⟨i, g, hg, rfl, hi, e1, e2, hv, hc, hm⟩
  · refine triv (zI (-1)) ?_ ?_
    · unfold f11_helped; rw [e1]; rfl
    · unfold f12_helped; rw [e2]; rfl
  · have ha := ad3_in i hi
    have hl1 := h.2.1
    have hl2 := h.2.2.1
    have hl6 := h.1
    have hbl := bsum_le hv p
    have h12 := hp.1.2.1
    have hil : i < Ls.length := (List.getElem?_eq_some_iff.mp hg).1
    rcases prog_cases (N := N) (by omega) hi hv hc hm hp with ⟨w1, w2, w3⟩ | ⟨w1, w2, w3, w4⟩
    · refine triv (zI (-5)) ?_ ?_
      · unfold f11_helped; simp (disch := omega) only [e1, ifN_some, ckA_in ha, w2, nI_z, zI_add, zI_sub, zI_mul, zI_m1, ckI_z, zI_clamp, Int.toNat_natCast, bnd_some, lt, rd_same, rd_ne, rdL_same, rdL_ne, wI_2, wL_1, if_true, if_false, iT_lt, iF_lt, iT_lt0, iF_lt0, iT_0lt, iF_0lt, iT_le, iF_le, iT_le0, iF_le0, iT_0le, iF_0le, iT_eq, iF_eq, iT_eq0, iF_eq0]; rfl
      · unfold f12_helped; simp (disch := omega) only [e2, w3, nI_z, zI_add, zI_sub, zI_mul, zI_m1, ckI_z, zI_clamp, Int.toNat_natCast, bnd_some, lt, rd_same, rd_ne, rdL_same, rdL_ne, wI_2, wL_1, if_true, if_false, iT_lt, iF_lt, iT_lt0, iF_lt0, iT_0lt, iF_0lt, iT_le, iF_le, iT_le0, iF_le0, iT_0le, iF_0le, iT_eq, iF_eq, iT_eq0, iF_eq0]; rfl
    · by_cases h6 : Ls.length = 6
      · rw [h6] at hl1 hl2
        refine triv (zI (-3)) ?_ ?_
        · unfold f11_helped; simp (disch := omega) only [e1, ifN_some, ckA_in ha, w2, hl1, nI_z, zI_add, zI_sub, zI_mul, zI_m1, ckI_z, zI_clamp, Int.toNat_natCast, bnd_some, lt, rd_same, rd_ne, rdL_same, rdL_ne, wI_2, wL_1, if_true, if_false, iT_lt, iF_lt, iT_lt0, iF_lt0, iT_0lt, iF_0lt, iT_le, iF_le, iT_le0, iF_le0, iT_0le, iF_0le, iT_eq, iF_eq, iT_eq0, iF_eq0]; rfl
        · unfold f12_helped; simp (disch := omega) only [e2, w3, hl2, nI_z, zI_add, zI_sub, zI_mul, zI_m1, ckI_z, zI_clamp, Int.toNat_natCast, bnd_some, lt, rd_same, rd_ne, rdL_same, rdL_ne, wI_2, wL_1, if_true, if_false, iT_lt, iF_lt, iT_lt0, iF_lt0, iT_0lt, iF_0lt, iT_le, iF_le, iT_le0, iF_le0, iT_0le, iF_0le, iT_eq, iF_eq, iT_eq0, iF_eq0]; rfl
      · generalize hLe : Ls.length = L at hl1 hl2 hl6 hil h6
        obtain ⟨S1, a1, a2, a3⟩ := helped_class (N := N) (p := p) hN hil (by omega) hv hc hp.1
        have q01 : S1.1 0 1 = zI L := by rw [a3.i (by omega)]; exact hl1
        have s2 : Same (cnP L) S (wI S1 0 1 (zI ((L : Int) + ((1 : Nat) : Int)))) := (a3.mono (fun c k z => by unfold cnP; omega)).tr ((Same.rfl' (P := cnP L)).wI (by unfold cnP; omega))
        have hcl2 : CL (wI S1 0 1 (zI ((L : Int) + ((1 : Nat) : Int)))) (50 + 11 * L) (hfin p g.1.length 0 g.1, g.2) := a2.same (hfin_LV (p := p) (ps := g.2) g.1.length 0 g.1 hv).1 ((Same.rfl' (P := fun c q => c = 0 ∧ q = 1)).wI ⟨rfl, rfl⟩) (fun c k _ _ => by omega)
        have e11 : f11_helped N (zI i) S = some (zI L, wI S1 0 1 (zI ((L : Int) + ((1 : Nat) : Int)))) := by
          unfold f11_helped
          simp (disch := omega) only [e1, ifN_some, ckA_in ha, w2, hl1, a1, q01, nI_z, zI_add, zI_sub, zI_mul, zI_m1, ckI_z, zI_clamp, Int.toNat_natCast, bnd_some, lt, rd_same, rd_ne, rdL_same, rdL_ne, wI_2, wL_1, if_true, if_false, iT_lt, iF_lt, iT_lt0, iF_lt0, iT_0lt, iF_0lt, iT_le, iF_le, iT_le0, iF_le0, iT_0le, iF_0le, iT_eq, iF_eq, iT_eq0, iF_eq0]
          congr 2
          congr 1
          omega
        have v01 : (wI S1 0 1 (zI ((L : Int) + ((1 : Nat) : Int)))).1 0 1 = zI ((L : Int) + ((1 : Nat) : Int)) := rd_same
        generalize wI S1 0 1 (zI ((L : Int) + ((1 : Nat) : Int))) = S3 at s2 hcl2 e11 v01
        have hm3 : ML S3 i g := hm.same hv s2 (fun c p _ _ _ => by unfold cnP; omega) (fun p _ _ => by unfold cnP; omega) (fun p _ _ => by unfold cnP; omega) (by unfold cnP; omega)
        have hp3 : Qprog S3 p := hp.same s2 (fun c k z => by unfold prP at z; unfold cnP; omega)
        have hc3 : CL S3 (50 + 11 * i) g := hc.same hv s2 (fun c k _ _ => by unfold cnP; omega)
        have h63 : S3.1 146 6 = zI L := by rw [s2.i (by unfold cnP; omega)]; exact hl2
        have e23 : f12_isLanguage (zI i) S3 = some (zI 1, S3) := by unfold f12_isLanguage; simp (disch := omega) only [h63, nI_z, zI_add, zI_sub, zI_mul, zI_m1, ckI_z, zI_clamp, Int.toNat_natCast, bnd_some, lt, rd_same, rd_ne, rdL_same, rdL_ne, wI_2, wL_1, if_true, if_false, iT_lt, iF_lt, iT_lt0, iF_lt0, iT_0lt, iF_0lt, iT_le, iF_le, iT_le0, iF_le0, iT_0le, iF_0le, iT_eq, iF_eq, iT_eq0, iF_eq0]; rfl
        rcases prog_cases (N := N) (by omega) hi hv hc3 hm3 hp3 with ⟨z1, z2, z3⟩ | ⟨z1, z2, z3, z4⟩
        · exact absurd w1 z1
        obtain ⟨S4, S5, b1, b2, b3, b4, b5⟩ := helped_model (N := N) (p := p) hN hil (by omega) hv hm3 h63 hp3.has
        obtain ⟨f1, f2⟩ := lang_more h hLe (by omega) (hfin_LV (p := p) (ps := g.2) g.1.length 0 g.1 hv).1 hcl2 v01 s2 b3 b4 b5
        refine ⟨zI L, S3, S5, _, e11, ?_, f1, f2⟩
        unfold f12_helped
        simp (disch := omega) only [e23, z3, h63, b1, nI_z, zI_add, zI_sub, zI_mul, zI_m1, ckI_z, zI_clamp, Int.toNat_natCast, bnd_some, lt, rd_same, rd_ne, rdL_same, rdL_ne, wI_2, wL_1, if_true, if_false, iT_lt, iF_lt, iT_lt0, iF_lt0, iT_0lt, iF_0lt, iT_le, iF_le, iT_le0, iF_le0, iT_0le, iF_0le, iT_eq, iF_eq, iT_eq0, iF_eq0]
        rw [nI_z] at b2
        exact b2
