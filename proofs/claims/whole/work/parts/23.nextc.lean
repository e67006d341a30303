/-! The call 'next', whole. -/
theorem isp_wp {g : Lg} {S : St} {p : List Nat} (h : Qprog S p) (h1 : p.getLast? = some 0 ∧ p.all (fun x => decide (x < g.1.length)) = true) : WP g p := h.wp h1.1 h1.2
theorem wp_isp {g : Lg} {p : List Nat} (h : WP g p) : p.getLast? = some 0 ∧ p.all (fun x => decide (x < g.1.length)) = true := by
  have hl : 0 < p.length := List.length_pos_iff.mpr h.1
  refine ⟨?_, List.all_eq_true.mpr (fun x hx => decide_eq_true (h.2.1 x hx))⟩
  have hi : p[p.length - 1]? = some p[p.length - 1] := List.getElem?_eq_getElem (by omega)
  rw [List.getLast?_eq_getElem?, hi, (h.2.2 _ _ hi).mpr (by omega)]
/-- whether the program looked at is one of a LANGUAGE, on both sides -/
theorem prog_cases {N i : Nat} {S : St} {g : Lg} {p : List Nat} (hN : 20 ≤ N) (hi : i < 6) (hv : LV g) (hc : CL S (50 + 11 * i) g) (hm : ML S i g) (hq : Qprog S p) :
    (¬ WP g p ∧ f3_sizeOf N (50 + 11 * i) 2 S = some (zI (-5), S) ∧ f12_isProgram N (zI i) S = some (zI 0, S)) ∨
    (WP g p ∧ f3_sizeOf N (50 + 11 * i) 2 S = some (zI (bsum g p), S) ∧ f12_isProgram N (zI i) S = some (zI 1, S) ∧ f12_sizeIn N (zI i) S = some (zI (bsum g p), S)) := by
  obtain ⟨h1, h2, h3, h4⟩ := hq
  have h12 := h1.2.1
  have hs := f3_sizeOf_in (N := N) hv hc h1 (by omega)
  have hp := f12_isp_in (N := N) hN hm hv hi h2 h12 h1.2.2.1 h3
  unfold szI at hs
  by_cases q : p.getLast? = some 0 ∧ p.all (fun x => decide (x < g.1.length)) = true
  · right
    have hw : WP g p := Qprog.wp ⟨h1, h2, h3, h4⟩ q.1 q.2
    have hl := f12_size_loop (N := N) hm hv hi h2 h12 hw.2.1 h3 p.length 0 N (by omega) (by omega)
    have hl2 : f12_sizeIn N (zI i) S = some (zI (bsum g p), S) := by
      unfold f12_sizeIn
      exact hl
    rw [if_pos q.1, if_pos q.2] at hs
    rw [if_pos q] at hp
    exact ⟨hw, hs, hp, hl2⟩
  · left
    refine ⟨fun w => q (wp_isp w), ?_, ?_⟩
    · by_cases q1 : p.getLast? = some 0
      · rw [if_pos q1, if_neg (fun z => q ⟨q1, z⟩)] at hs
        exact hs
      · rw [if_neg q1] at hs
        exact hs
    · rw [if_neg q] at hp
      exact hp
theorem f3_follow_big {N a a1 B : Nat} {g : Lg} {S : St} {p : List Nat} (hg : LV g) (hN : 20 ≤ N) (hc : CL S a g) (hp : PR S a1 p) (hw : WP g p) (hB : bsum g p = B) (hB2 : 14 < B) : f3_follow N a a1 (zI ((14 : Nat) : Int)) S = some (zI 0, S) := by
  have hl0 : 0 < p.length := List.length_pos_iff.mpr hw.1
  have h12 := hp.2.1
  have hs := f3_sizeOf_in (N := N) hg hc hp (by omega)
  have q := wp_isp hw
  unfold szI at hs
  rw [if_pos q.1, if_pos q.2, hB] at hs
  have hle := f6_length_eq hp
  have hb := bsum_le hg p
  unfold f3_follow
  simp (disch := omega) only [hle, hs, f3_follow_j16, nI_z, zI_add, zI_sub, zI_mul, zI_m1, ckI_z, zI_clamp, Int.toNat_natCast, bnd_some, lt, rd_same, rd_ne, rdL_same, rdL_ne, wI_2, wL_1, if_true, if_false, iT_lt, iF_lt, iT_lt0, iF_lt0, iT_0lt, iF_0lt, iT_le, iF_le, iT_le0, iF_le0, iT_0le, iF_0le, iT_eq, iF_eq, iT_eq0, iF_eq0]
  rfl
theorem c_next {N : Nat} {S : St} {Ls : List Lg} {p : List Nat} (hN : 20000 ≤ N) (h : Qlang S Ls) (hp : Qprog S p) (x : Int32) : ∃ r S1 S2 p2, f11_next N x S = some (r, S1) ∧ f12_next N x S1 = some (r, S2) ∧ Qprog S2 p2 ∧ Same (fun c k => prP c k ∨ liP c k) S S2 := by
  rcases lang_cases h x with ⟨e1, e2⟩ | ⟨i, g, hg, rfl, hi, e1, e2, hv, hc, hm⟩
  · refine ⟨zI (-1), S, S, p, ?_, ?_, hp, Same.rfl'⟩
    · unfold f11_next; rw [e1]; simp (disch := omega) only [ifN_none, nI_z, zI_add, zI_sub, zI_mul, zI_m1, ckI_z, zI_clamp, Int.toNat_natCast, bnd_some, lt, rd_same, rd_ne, rdL_same, rdL_ne, wI_2, wL_1, if_true, if_false, iT_lt, iF_lt, iT_lt0, iF_lt0, iT_0lt, iF_0lt, iT_le, iF_le, iT_le0, iF_le0, iT_0le, iF_0le, iT_eq, iF_eq, iT_eq0, iF_eq0]
    · unfold f12_next; rw [e2]; simp (disch := omega) only [nI_z, zI_add, zI_sub, zI_mul, zI_m1, ckI_z, zI_clamp, Int.toNat_natCast, bnd_some, lt, rd_same, rd_ne, rdL_same, rdL_ne, wI_2, wL_1, if_true, if_false, iT_lt, iF_lt, iT_lt0, iF_lt0, iT_0lt, iF_0lt, iT_le, iF_le, iT_le0, iF_le0, iT_0le, iF_0le, iT_eq, iF_eq, iT_eq0, iF_eq0]
  · have ha := ad3_in i hi
    have hle := f6_length_eq hp.1
    have h12 := hp.1.2.1
    have hil : i < Ls.length := (List.getElem?_eq_some_iff.mp hg).1
    have hb := bsum_le hv p
    have key : ∀ S1, Same (rgP 2) S S1 → S1.1 146 8 = zI p.length ∧ f12_isLanguage (zI i) S1 = some (zI 1, S1) ∧ (WP g p → f12_isProgram N (zI i) S1 = some (zI 1, S1) ∧ f12_sizeIn N (zI i) S1 = some (zI (bsum g p), S1)) := fun S1 hs => by
      have h1 : S1.1 146 8 = zI p.length := by rw [hs.i (by unfold rgP; omega)]; exact hp.2.1
      have h3 : Held (S1.1 153) 0 p := by rw [hs.row (fun k => by unfold rgP; omega)]; exact hp.2.2.1
      have hl := h.same hs (fun c k a => by unfold laP at a; unfold rgP; omega)
      obtain ⟨q1, q2, q3⟩ := hl.2.2.2 i g hg
      refine ⟨h1, (lang_in hl hil).2, fun w => ⟨?_, ?_⟩⟩
      · have := f12_isp_in (N := N) (by omega) q3 hv hi h1 h12 hp.1.2.2.1 h3
        rw [if_pos (wp_isp w)] at this
        exact this
      · have hl := f12_size_loop (N := N) q3 hv hi h1 h12 w.2.1 h3 p.length 0 N (by omega) (by omega)
        unfold f12_sizeIn
        exact hl
    by_cases hp0 : p = []
    · subst hp0
      obtain ⟨r, S1, S2, p2, a1, a2, a3, a4, a5⟩ := next_first (N := N) (by omega) hi hv h hp hg
      obtain ⟨k1, k2, k3⟩ := key S1 a5
      rw [List.length_nil] at hle k1
      refine ⟨r, S1, S2, p2, ?_, ?_, a3, a4⟩
      · unfold f11_next
        simp (disch := omega) only [e1, ifN_some, ckA_in ha, hle, nI_z, zI_add, zI_sub, zI_mul, zI_m1, ckI_z, zI_clamp, Int.toNat_natCast, bnd_some, lt, rd_same, rd_ne, rdL_same, rdL_ne, wI_2, wL_1, if_true, if_false, iT_lt, iF_lt, iT_lt0, iF_lt0, iT_0lt, iF_0lt, iT_le, iF_le, iT_le0, iF_le0, iT_0le, iF_0le, iT_eq, iF_eq, iT_eq0, iF_eq0]
        exact a1
      · unfold f12_next
        simp (disch := omega) only [k1, k2, f12_next_j28, nI_z, zI_add, zI_sub, zI_mul, zI_m1, ckI_z, zI_clamp, Int.toNat_natCast, bnd_some, lt, rd_same, rd_ne, rdL_same, rdL_ne, wI_2, wL_1, if_true, if_false, iT_lt, iF_lt, iT_lt0, iF_lt0, iT_0lt, iF_0lt, iT_le, iF_le, iT_le0, iF_le0, iT_0le, iF_0le, iT_eq, iF_eq, iT_eq0, iF_eq0]
        exact a2
    · have hpl : 0 < p.length := List.length_pos_iff.mpr hp0
      rcases prog_cases (N := N) (by omega) hi hv hc hm hp with ⟨w0, w1, w2⟩ | ⟨w0, w1, w2, w3⟩
      · have hp2 := hp.2.1
        refine ⟨zI (-5), S, S, p, ?_, ?_, hp, Same.rfl'⟩
        · unfold f11_next
          simp (disch := omega) only [e1, ifN_some, ckA_in ha, hle, w1, nI_z, zI_add, zI_sub, zI_mul, zI_m1, ckI_z, zI_clamp, Int.toNat_natCast, bnd_some, lt, rd_same, rd_ne, rdL_same, rdL_ne, wI_2, wL_1, if_true, if_false, iT_lt, iF_lt, iT_lt0, iF_lt0, iT_0lt, iF_0lt, iT_le, iF_le, iT_le0, iF_le0, iT_0le, iF_0le, iT_eq, iF_eq, iT_eq0, iF_eq0]
          rfl
        · unfold f12_next
          simp (disch := omega) only [e2, hp2, w2, nI_z, zI_add, zI_sub, zI_mul, zI_m1, ckI_z, zI_clamp, Int.toNat_natCast, bnd_some, lt, rd_same, rd_ne, rdL_same, rdL_ne, wI_2, wL_1, if_true, if_false, iT_lt, iF_lt, iT_lt0, iF_lt0, iT_0lt, iF_0lt, iT_le, iF_le, iT_le0, iF_le0, iT_0le, iF_0le, iT_eq, iF_eq, iT_eq0, iF_eq0]
          rfl
      · by_cases hB : bsum g p ≤ 14
        · obtain ⟨r, S1, S2, p2, a1, a2, a3, a4, a5⟩ := next_later (N := N) hN hi hv h hp hg w0 rfl hB
          obtain ⟨k1, k2, k3⟩ := key S1 a5
          obtain ⟨k4, k5⟩ := k3 w0
          refine ⟨r, S1, S2, p2, ?_, ?_, a3, a4⟩
          · unfold f11_next
            simp (disch := omega) only [e1, ifN_some, ckA_in ha, hle, w1, nI_z, zI_add, zI_sub, zI_mul, zI_m1, ckI_z, zI_clamp, Int.toNat_natCast, bnd_some, lt, rd_same, rd_ne, rdL_same, rdL_ne, wI_2, wL_1, if_true, if_false, iT_lt, iF_lt, iT_lt0, iF_lt0, iT_0lt, iF_0lt, iT_le, iF_le, iT_le0, iF_le0, iT_0le, iF_0le, iT_eq, iF_eq, iT_eq0, iF_eq0]
            exact a1
          · unfold f12_next
            simp (disch := omega) only [k1, k2, k4, k5, f12_next_j28, nI_z, zI_add, zI_sub, zI_mul, zI_m1, ckI_z, zI_clamp, Int.toNat_natCast, bnd_some, lt, rd_same, rd_ne, rdL_same, rdL_ne, wI_2, wL_1, if_true, if_false, iT_lt, iF_lt, iT_lt0, iF_lt0, iT_0lt, iF_0lt, iT_le, iF_le, iT_le0, iF_le0, iT_0le, iF_0le, iT_eq, iF_eq, iT_eq0, iF_eq0]
            exact a2
        · have hf := f3_follow_big (N := N) hv (by omega) hc hp.1 w0 rfl (by omega)
          have hp2 := hp.2.1
          refine ⟨zI (-2), S, S, p, ?_, ?_, hp, Same.rfl'⟩
          · unfold f11_next
            simp (disch := omega) only [e1, ifN_some, ckA_in ha, hle, w1, f11_next_j36, hf, nI_z, zI_add, zI_sub, zI_mul, zI_m1, ckI_z, zI_clamp, Int.toNat_natCast, bnd_some, lt, rd_same, rd_ne, rdL_same, rdL_ne, wI_2, wL_1, if_true, if_false, iT_lt, iF_lt, iT_lt0, iF_lt0, iT_0lt, iF_0lt, iT_le, iF_le, iT_le0, iF_le0, iT_0le, iF_0le, iT_eq, iF_eq, iT_eq0, iF_eq0]
            rfl
          · unfold f12_next
            simp (disch := omega) only [e2, hp2, w2, w3, f12_next_j28, nI_z, zI_add, zI_sub, zI_mul, zI_m1, ckI_z, zI_clamp, Int.toNat_natCast, bnd_some, lt, rd_same, rd_ne, rdL_same, rdL_ne, wI_2, wL_1, if_true, if_false, iT_lt, iF_lt, iT_lt0, iF_lt0, iT_0lt, iF_0lt, iT_le, iF_le, iT_le0, iF_le0, iT_0le, iF_0le, iT_eq, iF_eq, iT_eq0, iF_eq0]
            rfl
