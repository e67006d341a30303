/-! The call translated. -/
theorem wr_step {g : Lg} {p : List Nat} {i o : Nat} (h : p[i]? = some o) : wr g (p.take (i + 1)) = wr g (p.take i) ++ wo g o := by
  have htk : p.take (i + 1) = p.take i ++ [o] := by rw [List.take_add_one, h]; rfl
  unfold wr
  rw [htk, List.flatMap_append, List.flatMap_cons, List.flatMap_nil, List.append_nil]
theorem wr_split {g : Lg} {p : List Nat} (i : Nat) : wr g p = wr g (p.take i) ++ wr g (p.drop i) := by
  unfold wr
  rw [← List.flatMap_append, List.take_append_drop]
theorem wr_last {g : Lg} {p : List Nat} (hw : WP g p) : (wr g p).getLast? = some 0 := by
  have hl : 0 < p.length := List.length_pos_iff.mpr hw.1
  have hr : p[p.length - 1]? = some p[p.length - 1] := List.getElem?_eq_getElem (by omega)
  have h0 := (hw.2.2 _ _ hr).mpr (by omega)
  have hs := wr_step (g := g) hr
  rw [h0] at hs
  rw [List.take_of_length_le (by omega)] at hs
  rw [hs]
  have : wo g 0 = [0] := rfl
  rw [this, List.getLast?_append]
  rfl
theorem tr_loop {N i j : Nat} {g g2 : Lg} {p : List Nat} (hN : 20 ≤ N) (hi : i < 6) (hj : j < 6) (hv : LV g) (hv2 : LV g2) (hw : WP g p) (h12 : p.length ≤ 12) : ∀ (m k n : Nat) (S : St), k + m = p.length → m < n → CL S (50 + 11 * i) g → CL S (50 + 11 * j) g2 → PR S 2 p → PR S 4 (wr g (p.take k)) →
    ∃ S2, f11_translated_h48 N (50 + 11 * i) (50 + 11 * j) n (zI k) S = some (if (wr g p).length ≤ 12 then zI (bsum g2 (wr g p)) else zI (-2), S2) ∧ Same (rgP 4) S S2 := by
  intro m
  induction m with
  | zero =>
    intro k n S hk hn hc hc2 hp hq
    obtain ⟨n, rfl⟩ : ∃ z, n = z + 1 := ⟨n - 1, by omega⟩
    have hle := f6_length_eq hp
    rw [List.take_of_length_le (by omega)] at hq
    have hs := f3_sizeOf_in (N := N) hv2 hc2 hq (by omega)
    have hgl2 := hv2.len
    have hall : (wr g p).all (fun x => decide (x < g2.1.length)) = true := List.all_eq_true.mpr (fun x hx => decide_eq_true (by have := wr_mem hv hw x hx; omega))
    unfold szI at hs
    rw [if_pos (wr_last hw), if_pos hall] at hs
    refine ⟨S, ?_, Same.rfl'⟩
    rw [if_pos hq.2.1, f11_translated_h48]
    simp (disch := omega) only [hle, hs, nI_z, zI_add, zI_sub, zI_mul, zI_m1, ckI_z, zI_clamp, Int.toNat_natCast, bnd_some, lt, rd_same, rd_ne, rdL_same, rdL_ne, wI_2, wL_1, if_true, if_false, iT_lt, iF_lt, iT_lt0, iF_lt0, iT_0lt, iF_0lt, iT_le, iF_le, iT_le0, iF_le0, iT_0le, iF_0le, iT_eq, iF_eq, iT_eq0, iF_eq0]
  | succ m ih =>
    intro k n S hk hn hc hc2 hp hq
    obtain ⟨n, rfl⟩ : ∃ z, n = z + 1 := ⟨n - 1, by omega⟩
    have hle := f6_length_eq hp
    have hr : p[k]? = some p[k] := List.getElem?_eq_getElem (by omega)
    have hst := wr_step (g := g) hr
    have hsp := wr_split (g := g) (p := p) (k + 1)
    generalize p[k] = o at hr hst
    have ho := hw.2.1 o (List.mem_of_getElem? hr)
    have hor := f6_orderAt_in hp hr
    have hwl := wo_len hv ho
    obtain ⟨t1, t2⟩ := tr_part (N := N) (a4 := 50 + 11 * j) (i := zI k) hv (by omega : 11 ≤ 50 + 11 * i) ho (f11_translated_h48 N (50 + 11 * i) (50 + 11 * j) n) (wo g o).length 0 N S _ (by omega) (by omega) hc hq
    have step : f11_translated_h48 N (50 + 11 * i) (50 + 11 * j) (n + 1) (zI k) S = f11_translated_h74 N (50 + 11 * i) (50 + 11 * j) (zI k) (zI o) (f11_translated_h48 N (50 + 11 * i) (50 + 11 * j) n) N (zI ((0 : Nat) : Int)) S := by
      rw [f11_translated_h48]
      simp (disch := omega) only [hle, hor, nI_z, zI_add, zI_sub, zI_mul, zI_m1, ckI_z, zI_clamp, Int.toNat_natCast, bnd_some, lt, rd_same, rd_ne, rdL_same, rdL_ne, wI_2, wL_1, if_true, if_false, iT_lt, iF_lt, iT_lt0, iF_lt0, iT_0lt, iF_0lt, iT_le, iF_le, iT_le0, iF_le0, iT_0le, iF_0le, iT_eq, iF_eq, iT_eq0, iF_eq0]
    by_cases e : (wr g (p.take k)).length + (wo g o).length ≤ 12
    · obtain ⟨S1, a1, a2, a3⟩ := t1 e
      rw [List.drop_zero, ← hst] at a2
      obtain ⟨S2, b1, b2⟩ := ih (k + 1) n S1 (by omega) (by omega) (hc.same hv a3 (fun c k _ _ => by unfold rgP; omega)) (hc2.same hv2 a3 (fun c k _ _ => by unfold rgP; omega)) (hp.same a3 (fun k => by unfold rgP; omega) (fun k => by unfold rgP; omega)) a2
      have hz1 : zI (k : Int) + nI 1 = zI ((k + 1 : Nat) : Int) := by rw [nI_z, zI_add]; rfl
      rw [hz1] at a1
      exact ⟨S2, by rw [step, a1]; exact b1, a3.tr b2⟩
    · obtain ⟨S1, a1, a2⟩ := t2 (by omega)
      have hlen : ¬ (wr g p).length ≤ 12 := by
        rw [hsp, hst, List.length_append, List.length_append]; omega
      exact ⟨S1, by rw [step, a1, if_neg hlen], a2⟩
theorem tr_model {N j : Nat} {g2 : Lg} {S : St} {w : List Nat} (hj : j < 6) (hv2 : LV g2) (hm : ML S j g2) (hw : w.length ≤ 48) (hx : ∀ x ∈ w, x < 8) (h10 : S.1 146 10 = zI w.length) (h154 : Held (S.1 154) 0 w) : ∀ (m k n : Nat), k + m = w.length → m < n → f12_translated_h43 N (zI j) n (zI (bsum g2 (w.take k))) (zI k) S = some (if w.length ≤ 12 then zI (bsum g2 w) else zI (-2), S) := by
  have hgl2 := hv2.len
  intro m
  induction m with
  | zero =>
    intro k n hk hn
    obtain ⟨n, rfl⟩ : ∃ z, n = z + 1 := ⟨n - 1, by omega⟩
    rw [List.take_of_length_le (by omega), f12_translated_h43]
    by_cases e : w.length ≤ 12
    · rw [if_pos e]; simp (disch := omega) only [h10, nI_z, zI_add, zI_sub, zI_mul, zI_m1, ckI_z, zI_clamp, Int.toNat_natCast, bnd_some, lt, rd_same, rd_ne, rdL_same, rdL_ne, wI_2, wL_1, if_true, if_false, iT_lt, iF_lt, iT_lt0, iF_lt0, iT_0lt, iF_0lt, iT_le, iF_le, iT_le0, iF_le0, iT_0le, iF_0le, iT_eq, iF_eq, iT_eq0, iF_eq0]
    · rw [if_neg e]; simp (disch := omega) only [h10, nI_z, zI_add, zI_sub, zI_mul, zI_m1, ckI_z, zI_clamp, Int.toNat_natCast, bnd_some, lt, rd_same, rd_ne, rdL_same, rdL_ne, wI_2, wL_1, if_true, if_false, iT_lt, iF_lt, iT_lt0, iF_lt0, iT_0lt, iF_0lt, iT_le, iF_le, iT_le0, iF_le0, iT_0le, iF_0le, iT_eq, iF_eq, iT_eq0, iF_eq0]; rfl
  | succ m ih =>
    intro k n hk hn
    obtain ⟨n, rfl⟩ : ∃ z, n = z + 1 := ⟨n - 1, by omega⟩
    have hr : w[k]? = some w[k] := List.getElem?_eq_getElem (by omega)
    have htk : w.take (k + 1) = w.take k ++ [w[k]] := by rw [List.take_add_one, hr]; rfl
    have ho := hx _ (List.mem_of_getElem? hr)
    generalize w[k] = o at hr htk ho
    have h4 := h154 k o hr
    rw [Nat.zero_add] at h4
    have h5 := hm.2.1 o (by omega)
    have hs0 : bsum g2 (w.take (k + 1)) = bsum g2 (w.take k) + bit g2 o := by rw [htk, bsum_app]; simp [bsum]
    have ih1 := ih (k + 1) n (by omega) (by omega)
    rw [hs0] at ih1
    rw [f12_translated_h43]
    simp (disch := omega) only [h10, h4, pl12, h5, nI_z, zI_add, zI_sub, zI_mul, zI_m1, ckI_z, zI_clamp, Int.toNat_natCast, bnd_some, lt, rd_same, rd_ne, rdL_same, rdL_ne, wI_2, wL_1, if_true, if_false, iT_lt, iF_lt, iT_lt0, iF_lt0, iT_0lt, iF_0lt, iT_le, iF_le, iT_le0, iF_le0, iT_0le, iF_0le, iT_eq, iF_eq, iT_eq0, iF_eq0]
    exact ih1
def trP (c k : Nat) : Prop := rgP 4 c k ∨ wrP c k
theorem c_translated {N : Nat} {S : St} {Ls : List Lg} {p : List Nat} (hN : 100 ≤ N) (h : Qlang S Ls) (hp : Qprog S p) (x y : Int32) : ∃ r S1 S2, f11_translated N x y S = some (r, S1) ∧ f12_translated N x y S1 = some (r, S2) ∧ Same trP S S2 := by
  rcases lang_cases h x with ⟨e1, e2⟩ | ⟨i, g, hg, rfl, hi, e1, e2, hv, hc, hm⟩
  · refine ⟨zI (-1), S, S, ?_, ?_, Same.rfl'⟩
    · unfold f11_translated
      rw [e1, bnd_some]
      rcases lang_cases h y with ⟨d1, d2⟩ | ⟨j, g2, hg2, rfl, hj, d1, d2, hv2, hc2, hm2⟩
      · rw [d1]; rfl
      · rw [d1]; rfl
    · unfold f12_translated; rw [e2]; rfl
  · have ha := ad3_in i hi
    rcases lang_cases h y with ⟨d1, d2⟩ | ⟨j, g2, hg2, rfl, hj, d1, d2, hv2, hc2, hm2⟩
    · refine ⟨zI (-1), S, S, ?_, ?_, Same.rfl'⟩
      · unfold f11_translated; rw [e1, bnd_some, d1, bnd_some, ifN_some, ckA_in ha, ifN_none]; rfl
      · unfold f12_translated; rw [e2]; simp only [bnd_some]; rw [if_neg (by decide), d2]; rfl
    · have ha2 := ad3_in j hj
      have h12 := hp.1.2.1
      have hbl := bsum_le hv p
      rcases prog_cases (N := N) (by omega) hi hv hc hm hp with ⟨w1, w2, w3⟩ | ⟨w1, w2, w3, w4⟩
      · refine ⟨zI (-5), S, S, ?_, ?_, Same.rfl'⟩
        · unfold f11_translated
          simp (disch := omega) only [e1, d1, ifN_some, ckA_in ha, ckA_in ha2, w2, nI_z, zI_add, zI_sub, zI_mul, zI_m1, ckI_z, zI_clamp, Int.toNat_natCast, bnd_some, lt, rd_same, rd_ne, rdL_same, rdL_ne, wI_2, wL_1, if_true, if_false, iT_lt, iF_lt, iT_lt0, iF_lt0, iT_0lt, iF_0lt, iT_le, iF_le, iT_le0, iF_le0, iT_0le, iF_0le, iT_eq, iF_eq, iT_eq0, iF_eq0]
          rfl
        · unfold f12_translated
          simp (disch := omega) only [e2, d2, w3, nI_z, zI_add, zI_sub, zI_mul, zI_m1, ckI_z, zI_clamp, Int.toNat_natCast, bnd_some, lt, rd_same, rd_ne, rdL_same, rdL_ne, wI_2, wL_1, if_true, if_false, iT_lt, iF_lt, iT_lt0, iF_lt0, iT_0lt, iF_0lt, iT_le, iF_le, iT_le0, iF_le0, iT_0le, iF_0le, iT_eq, iF_eq, iT_eq0, iF_eq0]
          rfl
      · obtain ⟨S1, a1, a2, a3⟩ := f6_beEmpty_ok (S := S) (a := 4)
        obtain ⟨S2, b1, b2⟩ := tr_loop (N := N) (by omega) hi hj hv hv2 w1 h12 p.length 0 N S1 (by omega) (by omega) (hc.same hv a3 (fun c k _ _ => by unfold rgP; omega)) (hc2.same hv2 a3 (fun c k _ _ => by unfold rgP; omega)) (hp.1.same a3 (fun k => by unfold rgP; omega) (fun k => by unfold rgP; omega)) a2
        have s2 : Same (rgP 4) S S2 := a3.tr b2
        have hl2 := h.same s2 (fun c k z => by unfold laP at z; unfold rgP; omega)
        have hp2 := hp.same s2 (fun c k z => by unfold prP at z; unfold rgP; omega)
        have hil : i < Ls.length := (List.getElem?_eq_some_iff.mp hg).1
        have hjl : j < Ls.length := (List.getElem?_eq_some_iff.mp hg2).1
        have e22 := (lang_in hl2 hil).2
        have d22 := (lang_in hl2 hjl).2
        obtain ⟨_, hc', hm'⟩ := hl2.2.2.2 i g hg
        obtain ⟨_, hc2', hm2'⟩ := hl2.2.2.2 j g2 hg2
        rcases prog_cases (N := N) (by omega) hi hv hc' hm' hp2 with ⟨z1, z2, z3⟩ | ⟨z1, z2, z3, z4⟩
        · exact absurd w1 z1
        have hpk := f12_packed_ok (N := N) (by omega) hp2.2.1 hp2.2.2.1 h12 hp.1.2.2.1
        obtain ⟨S3, f1, f2, f3, f4⟩ := f12_write_ok (N := N) (by omega) hv hi w1 h12 hm'
        have hwl := wr_len hv w1.2.1
        have hmm := tr_model (N := N) hj hv2 (hm2'.wr hv2 f4) (by omega) (wr_mem hv w1) f2 f3 (wr g p).length 0 N (by omega) (by omega)
        refine ⟨if (wr g p).length ≤ 12 then zI (bsum g2 (wr g p)) else zI (-2), S2, S3, ?_, ?_, (s2.mono (fun c k z => Or.inl z)).tr (f4.mono (fun c k z => Or.inr z))⟩
        · unfold f11_translated
          simp (disch := omega) only [e1, d1, ifN_some, ckA_in ha, ckA_in ha2, w2, a1, nI_z, zI_add, zI_sub, zI_mul, zI_m1, ckI_z, zI_clamp, Int.toNat_natCast, bnd_some, lt, rd_same, rd_ne, rdL_same, rdL_ne, wI_2, wL_1, if_true, if_false, iT_lt, iF_lt, iT_lt0, iF_lt0, iT_0lt, iF_0lt, iT_le, iF_le, iT_le0, iF_le0, iT_0le, iF_0le, iT_eq, iF_eq, iT_eq0, iF_eq0]
          exact b1
        · unfold f12_translated
          simp (disch := omega) only [e22, d22, z3, hpk, f1, nI_z, zI_add, zI_sub, zI_mul, zI_m1, ckI_z, zI_clamp, Int.toNat_natCast, bnd_some, lt, rd_same, rd_ne, rdL_same, rdL_ne, wI_2, wL_1, if_true, if_false, iT_lt, iF_lt, iT_lt0, iF_lt0, iT_0lt, iF_0lt, iT_le, iF_le, iT_le0, iF_le0, iT_0le, iF_0le, iT_eq, iF_eq, iT_eq0, iF_eq0]
          exact hmm
