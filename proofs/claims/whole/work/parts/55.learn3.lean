/-! The call learn. -/
/-- behind the loop over the places -/
theorem learn_any {N i j : Nat} {x2 x4 : Int32} {S : St} (hj : j < 12) : ∀ n, f12_learn_h75 N (zI i) x2 (zI j) x4 (n + 1) (zI ((j + 1 : Nat) : Int)) S = f12_learn_h75 N (zI i) x2 (zI j) x4 1 (zI ((j + 1 : Nat) : Int)) S := by
  intro n
  show f12_learn_h75 N (zI i) x2 (zI j) x4 (n + 1) (zI ((j + 1 : Nat) : Int)) S = f12_learn_h75 N (zI i) x2 (zI j) x4 (0 + 1) (zI ((j + 1 : Nat) : Int)) S
  rw [f12_learn_h75, iT_lt (by omega), f12_learn_h75, iT_lt (by omega)]
theorem learn_rest {N i j : Nat} {x2 : Int32} {b : Int} {S : St} {g : Lg} {p : List Nat} {Ls : List Lg} (hN : 100 ≤ N) (h : Qlang S Ls) (hp : Qprog S p) (hg : Ls[i]? = some g) (hb : 1 ≤ b ∧ b ≤ 6) (hj : j < 12) : ∀ n, ((¬ WP g p ∨ 64 < lsum g.1 + 2 ^ (6 - b.toNat)) → f12_learn_h75 N (zI i) x2 (zI j) (zI b) (n + 1) (zI ((j + 1 : Nat) : Int)) S = some (zI (-5), S)) ∧ (WP g p → lsum g.1 + 2 ^ (6 - b.toNat) ≤ 64 → Ls.length = 6 → f12_learn_h75 N (zI i) x2 (zI j) (zI b) (n + 1) (zI ((j + 1 : Nat) : Int)) S = some (zI (-3), S)) := by
  intro n
  obtain ⟨hv, hc, hm⟩ := h.2.2.2 i g hg
  have hil : i < Ls.length := (List.getElem?_eq_some_iff.mp hg).1
  have h6 := h.1
  have hi : i < 6 := by omega
  have hl2 := h.2.2.1
  have hsum := f12_sum_in (N := N) hm hv hi (by omega)
  have hls : lsum g.1 ≤ 64 := hv.2.2.2.1
  obtain ⟨c, rfl⟩ : ∃ c : Nat, b = c := ⟨b.toNat, by omega⟩
  have hsh := zI_shr (c := 64) (s := c) (by omega) (by omega)
  rw [sh64 _ (by omega)] at hsh
  have h2p : 2 ^ (6 - c) ≤ 2 ^ 5 := Nat.pow_le_pow_right (by omega) (by omega)
  rw [Int.toNat_natCast]
  generalize 2 ^ (6 - c) = wg at hsh h2p
  rw [f12_learn_h75, iT_lt (by omega)]
  rcases prog_cases (N := N) (by omega) hi hv hc hm hp with ⟨w1, w2, w3⟩ | ⟨w1, w2, w3, w4⟩
  · exact ⟨fun _ => by rw [w3]; rfl, fun q => absurd q w1⟩
  · rw [w3, bnd_some, if_neg (by decide), hsum, bnd_some, nI_z, hsh, zI_add]
    refine ⟨fun q => ?_, fun _ q1 q2 => ?_⟩
    · have c1 : ¬ lsum g.1 + wg ≤ 64 := by
        rcases q with q | q
        · exact absurd w1 q
        · omega
      rw [iF_le (by omega)]; rfl
    · rw [iT_le (by omega), hl2, nI_z, iT_eq (by omega)]; rfl
theorem c_learn {N : Nat} {S : St} {Ls : List Lg} {p : List Nat} (hN : 100 ≤ N) (h : Qlang S Ls) (hp : Qprog S p) (x y u v : Int32) : ∃ r S1 S2 Ls2, f11_learn N x y u v S = some (r, S1) ∧ f12_learn N x y u v S1 = some (r, S2) ∧ Qlang S2 Ls2 ∧ Same laP S S2 := by
  have triv : ∀ r, f11_learn N x y u v S = some (r, S) → f12_learn N x y u v S = some (r, S) → ∃ r S1 S2 Ls2, f11_learn N x y u v S = some (r, S1) ∧ f12_learn N x y u v S1 = some (r, S2) ∧ Qlang S2 Ls2 ∧ Same laP S S2 := fun r a b => ⟨r, S, S, Ls, a, b, h, Same.rfl'⟩
  have hy := xrng y
  have hu := xrng u
  have hvv := xrng v
  rw [zI_of y, zI_of u, zI_of v] at triv ⊢
  generalize y.toInt = a at hy triv
  generalize u.toInt = c at hu triv
  generalize v.toInt = b at hvv triv
  rcases lang_cases h x with ⟨e1, e2⟩ | ⟨i, g, hg, rfl, hi, e1, e2, hv, hc, hm⟩
  · refine triv (zI (-1)) ?_ ?_
    · unfold f11_learn; rw [e1]; rfl
    · unfold f12_learn; rw [e2]; rfl
  · have ha := ad3_in i hi
    have hl1 := h.2.1
    have hl6 := h.1
    have hbl := bsum_le hv p
    have h12 := hp.1.2.1
    have hgl := hv.len
    have hg1 := hv.1
    have hg2 := hv.2.1
    have hil : i < Ls.length := (List.getElem?_eq_some_iff.mp hg).1
    have hw1 := within_n b 1 6 S hvv (by omega) (by omega)
    have hle := f6_length_eq hp.1
    have h8 := hp.2.1
    have ho : f3_howManyOrders (50 + 11 * i) S = some (zI g.1.length, S) := by unfold f3_howManyOrders; rw [hc.1]
    by_cases hb : 1 ≤ b ∧ b ≤ 6
    · rcases isp_c (N := N) (by omega) hp.1 a c hy hu with ⟨i2, j2, rfl, rfl, ht, hpt⟩ | ⟨hnt, hpt⟩
      · have ht' := ht
        obtain ⟨t1, t2, t3, t4⟩ := ht'
        have hw2 := within_g ((zI (j2 : Int)).toInt64 - (zI (i2 : Int)).toInt64) 1 3 S (by omega) (by omega)
        rw [sub64 _ _ hu hy] at hw2
        rw [bI_t (by omega)] at hw2
        have m152 := hm.1
        by_cases h4 : g.2.length = 4
        · refine triv (zI (-1)) ?_ ?_
          · unfold f11_learn; simp (disch := omega) only [e1, ifN_some, ckA_in ha, hpt, ho, nI_z, zI_add, zI_sub, zI_mul, zI_m1, ckI_z, zI_clamp, Int.toNat_natCast, bnd_some, lt, rd_same, rd_ne, rdL_same, rdL_ne, wI_2, wL_1, if_true, if_false, iT_lt, iF_lt, iT_lt0, iF_lt0, iT_0lt, iF_0lt, iT_le, iF_le, iT_le0, iF_le0, iT_0le, iF_0le, iT_eq, iF_eq, iT_eq0, iF_eq0]
          · rw [h4] at m152
            unfold f12_learn f12_learn_j65; simp (disch := omega) only [iT_b, iF_b, e2, hw1, h8, hw2, m152, nI_z, zI_add, zI_sub, zI_mul, zI_m1, ckI_z, zI_clamp, Int.toNat_natCast, bnd_some, lt, rd_same, rd_ne, rdL_same, rdL_ne, wI_2, wL_1, if_true, if_false, iT_lt, iF_lt, iT_lt0, iF_lt0, iT_0lt, iF_0lt, iT_le, iF_le, iT_le0, iF_le0, iT_0le, iF_0le, iT_eq, iF_eq, iT_eq0, iF_eq0]
        · -- both go on
          have mstep : ∀ S', Qlang S' Ls → Qprog S' p → f12_learn N (zI i) (zI i2) (zI j2) (zI b) S' = f12_learn_h75 N (zI i) (zI i2) (zI j2) (zI b) N (zI i2) S' := fun S' q1 q2 => by
            obtain ⟨_, _, hm'⟩ := q1.2.2.2 i g hg
            have e2' := (lang_in q1 hil).2
            have m152' := hm'.1
            have h8' := q2.2.1
            have hw1' := within_n b 1 6 S' hvv (by omega) (by omega)
            have hw2' := within_g ((zI (j2 : Int)).toInt64 - (zI (i2 : Int)).toInt64) 1 3 S' (by omega) (by omega)
            rw [sub64 _ _ hu hy] at hw2'
            rw [bI_t (by omega)] at hw2'
            unfold f12_learn f12_learn_j65; simp (disch := omega) only [iT_b, iF_b, e2', hw1', h8', hw2', m152', nI_z, zI_add, zI_sub, zI_mul, zI_m1, ckI_z, zI_clamp, Int.toNat_natCast, bnd_some, lt, rd_same, rd_ne, rdL_same, rdL_ne, wI_2, wL_1, if_true, if_false, iT_lt, iF_lt, iT_lt0, iF_lt0, iT_0lt, iF_0lt, iT_le, iF_le, iT_le0, iF_le0, iT_0le, iF_0le, iT_eq, iF_eq, iT_eq0, iF_eq0]
          have m5 : (¬ WP g p ∨ 64 < lsum g.1 + 2 ^ (6 - b.toNat)) → f12_learn N (zI i) (zI i2) (zI j2) (zI b) S = some (zI (-5), S) := fun q => by
            rw [mstep S h hp]
            exact (okr_m (N := N) (x2 := zI i2) (x4 := zI b) (x1 := zI i) hp.has t2 _ (fun n => (learn_rest (N := N) (x2 := zI i2) (b := b) hN h hp hg hb (by omega : j2 < 12) n).1 q) (j2 + 1 - i2) i2 N (by omega) (by omega)).1 t4
          have m3 : WP g p → lsum g.1 + 2 ^ (6 - b.toNat) ≤ 64 → Ls.length = 6 → f12_learn N (zI i) (zI i2) (zI j2) (zI b) S = some (zI (-3), S) := fun q1 q2 q3 => by
            rw [mstep S h hp]
            exact (okr_m (N := N) (x2 := zI i2) (x4 := zI b) (x1 := zI i) hp.has t2 _ (fun n => (learn_rest (N := N) (x2 := zI i2) (b := b) hN h hp hg hb (by omega : j2 < 12) n).2 q1 q2 q3) (j2 + 1 - i2) i2 N (by omega) (by omega)).1 t4
          obtain ⟨d, rfl⟩ : ∃ d : Nat, b = d := ⟨b.toNat, by omega⟩
          have hsum := f3_sum_in (N := N) hc hv (by omega)
          have hls : lsum g.1 ≤ 64 := hv.2.2.2.1
          have hsh := zI_shr (c := 64) (s := d) (by omega) (by omega)
          rw [sh64 _ (by omega)] at hsh
          have h2p : 2 ^ (6 - d) ≤ 2 ^ 5 := Nat.pow_le_pow_right (by omega) (by omega)
          rcases prog_cases (N := N) (by omega) hi hv hc hm hp with ⟨w1, w2, w3⟩ | ⟨w1, w2, w3, w4⟩
          · refine triv (zI (-5)) ?_ ?_
            · unfold f11_learn; simp (disch := omega) only [e1, ifN_some, ckA_in ha, hpt, ho, w2, nI_z, zI_add, zI_sub, zI_mul, zI_m1, ckI_z, zI_clamp, Int.toNat_natCast, bnd_some, lt, rd_same, rd_ne, rdL_same, rdL_ne, wI_2, wL_1, if_true, if_false, iT_lt, iF_lt, iT_lt0, iF_lt0, iT_0lt, iF_0lt, iT_le, iF_le, iT_le0, iF_le0, iT_0le, iF_0le, iT_eq, iF_eq, iT_eq0, iF_eq0]; rfl
            · exact m5 (Or.inl w1)
          · by_cases hs : lsum g.1 + 2 ^ (6 - d) ≤ 64
            · by_cases h6 : Ls.length = 6
              · refine triv (zI (-3)) ?_ ?_
                · rw [h6] at hl1
                  unfold f11_learn
                  generalize 2 ^ (6 - d) = wg at hs hsh h2p
                  simp (disch := omega) only [e1, ifN_some, ckA_in ha, hpt, ho, w2, hsum, hsh, hl1, nI_z, zI_add, zI_sub, zI_mul, zI_m1, ckI_z, zI_clamp, Int.toNat_natCast, bnd_some, lt, rd_same, rd_ne, rdL_same, rdL_ne, wI_2, wL_1, if_true, if_false, iT_lt, iF_lt, iT_lt0, iF_lt0, iT_0lt, iF_0lt, iT_le, iF_le, iT_le0, iF_le0, iT_0le, iF_0le, iT_eq, iF_eq, iT_eq0, iF_eq0]; rfl
                · exact m3 w1 (by rw [Int.toNat_natCast]; exact hs) h6
              · generalize hLe : Ls.length = L at hl1 hl6 hil h6
                obtain ⟨S1, a1, a2, a3⟩ := taught_class (N := N) (b := d) (a := 0) hN hil (by omega) hv hc hp.1 (by omega) ht (by omega) hs
                have q01 : S1.1 0 1 = zI L := by rw [a3.i (by omega)]; exact hl1
                have hlv := lgt_LV (b := d) hv (by omega) ht (by omega) hs
                have s2 : Same (cnP L) S (wI S1 0 1 (zI ((L : Int) + ((1 : Nat) : Int)))) := (a3.mono (fun c k z => by unfold cnP; omega)).tr ((Same.rfl' (P := cnP L)).wI (by unfold cnP; omega))
                have hcl2 : CL (wI S1 0 1 (zI ((L : Int) + ((1 : Nat) : Int)))) (50 + 11 * L) (lgt g p i2 j2 d) := a2.same hlv ((Same.rfl' (P := fun c q => c = 0 ∧ q = 1)).wI ⟨rfl, rfl⟩) (fun c k _ _ => by omega)
                have e11 : f11_learn N (zI i) (zI i2) (zI j2) (zI d) S = some (zI L, wI S1 0 1 (zI ((L : Int) + ((1 : Nat) : Int)))) := by
                  unfold f11_learn
                  generalize 2 ^ (6 - d) = wg at hs hsh h2p
                  simp (disch := omega) only [e1, ifN_some, ckA_in ha, hpt, ho, w2, hsum, hsh, hl1, a1, q01, nI_z, zI_add, zI_sub, zI_mul, zI_m1, ckI_z, zI_clamp, Int.toNat_natCast, bnd_some, lt, rd_same, rd_ne, rdL_same, rdL_ne, wI_2, wL_1, if_true, if_false, iT_lt, iF_lt, iT_lt0, iF_lt0, iT_0lt, iF_0lt, iT_le, iF_le, iT_le0, iF_le0, iT_0le, iF_0le, iT_eq, iF_eq, iT_eq0, iF_eq0]
                  congr 2
                  congr 1
                  omega
                have v01 : (wI S1 0 1 (zI ((L : Int) + ((1 : Nat) : Int)))).1 0 1 = zI ((L : Int) + ((1 : Nat) : Int)) := rd_same
                generalize wI S1 0 1 (zI ((L : Int) + ((1 : Nat) : Int))) = S3 at s2 hcl2 e11 v01
                have hm3 : ML S3 i g := hm.same hv s2 (fun c p _ _ _ => by unfold cnP; omega) (fun p _ _ => by unfold cnP; omega) (fun p _ _ => by unfold cnP; omega) (by unfold cnP; omega)
                have hp3 : Qprog S3 p := hp.same s2 (fun c k z => by unfold prP at z; unfold cnP; omega)
                have hc3 : CL S3 (50 + 11 * i) g := hc.same hv s2 (fun c k _ _ => by unfold cnP; omega)
                have h63 : S3.1 146 6 = zI L := by rw [s2.i (by unfold cnP; omega), ← hLe]; exact h.2.2.1
                obtain ⟨S4, S5, b1, b2, b3, b4, b5, b6, b7⟩ := taught_model (N := N) (b := d) hN hil (by omega) hv hm3 h63 hp3.has (by omega) ht (by omega) hs
                obtain ⟨f1, f2⟩ := lang_more h hLe (by omega) hlv hcl2 v01 s2 b5 b6 b7
                refine ⟨zI L, S3, S5, _, e11, ?_, f1, f2⟩
                have e23 : f12_isLanguage (zI i) S3 = some (zI 1, S3) := by unfold f12_isLanguage; simp (disch := omega) only [h63, nI_z, zI_add, zI_sub, zI_mul, zI_m1, ckI_z, zI_clamp, Int.toNat_natCast, bnd_some, lt, rd_same, rd_ne, rdL_same, rdL_ne, wI_2, wL_1, if_true, if_false, iT_lt, iF_lt, iT_lt0, iF_lt0, iT_0lt, iF_0lt, iT_le, iF_le, iT_le0, iF_le0, iT_0le, iF_0le, iT_eq, iF_eq, iT_eq0, iF_eq0]; rfl
                have m152' := hm3.1
                have h8' := hp3.2.1
                have hw1' := within_n (d : Int) 1 6 S3 hvv (by omega) (by omega)
                have hw2' := within_g ((zI (j2 : Int)).toInt64 - (zI (i2 : Int)).toInt64) 1 3 S3 (by omega) (by omega)
                rw [sub64 _ _ hu hy] at hw2'
                rw [bI_t (by omega)] at hw2'
                have st1 : f12_learn N (zI i) (zI i2) (zI j2) (zI d) S3 = f12_learn_h75 N (zI i) (zI i2) (zI j2) (zI d) N (zI i2) S3 := by
                  unfold f12_learn f12_learn_j65; simp (disch := omega) only [iT_b, iF_b, e23, hw1', h8', hw2', m152', nI_z, zI_add, zI_sub, zI_mul, zI_m1, ckI_z, zI_clamp, Int.toNat_natCast, bnd_some, lt, rd_same, rd_ne, rdL_same, rdL_ne, wI_2, wL_1, if_true, if_false, iT_lt, iF_lt, iT_lt0, iF_lt0, iT_0lt, iF_0lt, iT_le, iF_le, iT_le0, iF_le0, iT_0le, iF_0le, iT_eq, iF_eq, iT_eq0, iF_eq0]
                rcases prog_cases (N := N) (by omega) hi hv hc3 hm3 hp3 with ⟨z1, z2, z3⟩ | ⟨z1, z2, z3, z4⟩
                · exact absurd w1 z1
                have hsum3 := f12_sum_in (N := N) hm3 hv hi (by omega)
                have hrest : ∀ n, f12_learn_h75 N (zI i) (zI i2) (zI j2) (zI d) (n + 1) (zI ((j2 + 1 : Nat) : Int)) S3 = some (zI L, S5) := fun n => by
                  have hz1 : ((4 : Nat) : Int) * (L : Int) + (g.2.length : Int) = ((4 * L + g.2.length : Nat) : Int) := by omega
                  have hz2 : zI ((j2 : Int) - (i2 : Int) + ((1 : Nat) : Int)) = zI ((j2 - i2 + 1 : Nat) : Int) := by congr 1; omega
                  rw [f12_learn_h75]
                  generalize 2 ^ (6 - d) = wg at hs hsh h2p
                  simp (disch := omega) only [z3, hsum3, hsh, h63, b1, b2, b3, hz1, hz2, nI_z, zI_add, zI_sub, zI_mul, zI_m1, ckI_z, zI_clamp, Int.toNat_natCast, bnd_some, lt, rd_same, rd_ne, rdL_same, rdL_ne, wI_2, wL_1, if_true, if_false, iT_lt, iF_lt, iT_lt0, iF_lt0, iT_0lt, iF_0lt, iT_le, iF_le, iT_le0, iF_le0, iT_0le, iF_0le, iT_eq, iF_eq, iT_eq0, iF_eq0]
                  exact b4
                rw [st1]
                exact (okr_m (N := N) (x2 := zI i2) (x4 := zI d) (x1 := zI i) hp3.has t2 _ hrest (j2 + 1 - i2) i2 N (by omega) (by omega)).1 t4
            · refine triv (zI (-5)) ?_ ?_
              · unfold f11_learn
                generalize 2 ^ (6 - d) = wg at hs hsh h2p
                simp (disch := omega) only [e1, ifN_some, ckA_in ha, hpt, ho, w2, hsum, hsh, nI_z, zI_add, zI_sub, zI_mul, zI_m1, ckI_z, zI_clamp, Int.toNat_natCast, bnd_some, lt, rd_same, rd_ne, rdL_same, rdL_ne, wI_2, wL_1, if_true, if_false, iT_lt, iF_lt, iT_lt0, iF_lt0, iT_0lt, iF_0lt, iT_le, iF_le, iT_le0, iF_le0, iT_0le, iF_0le, iT_eq, iF_eq, iT_eq0, iF_eq0]; rfl
              · exact m5 (Or.inr (by rw [Int.toNat_natCast]; omega))
      · refine triv (zI (-1)) ?_ ?_
        · unfold f11_learn; simp (disch := omega) only [e1, ifN_some, ckA_in ha, hpt, nI_z, zI_add, zI_sub, zI_mul, zI_m1, ckI_z, zI_clamp, Int.toNat_natCast, bnd_some, lt, rd_same, rd_ne, rdL_same, rdL_ne, wI_2, wL_1, if_true, if_false, iT_lt, iF_lt, iT_lt0, iF_lt0, iT_0lt, iF_0lt, iT_le, iF_le, iT_le0, iF_le0, iT_0le, iF_0le, iT_eq, iF_eq, iT_eq0, iF_eq0]
        · by_cases c1 : a < 0
          · unfold f12_learn; simp (disch := omega) only [iT_b, iF_b, e2, hw1, nI_z, zI_add, zI_sub, zI_mul, zI_m1, ckI_z, zI_clamp, Int.toNat_natCast, bnd_some, lt, rd_same, rd_ne, rdL_same, rdL_ne, wI_2, wL_1, if_true, if_false, iT_lt, iF_lt, iT_lt0, iF_lt0, iT_0lt, iF_0lt, iT_le, iF_le, iT_le0, iF_le0, iT_0le, iF_0le, iT_eq, iF_eq, iT_eq0, iF_eq0]
          · by_cases c2 : c < p.length
            · by_cases c3 : 1 ≤ c - a ∧ c - a ≤ 3
              · obtain ⟨i2, rfl⟩ : ∃ z : Nat, a = z := ⟨a.toNat, by omega⟩
                obtain ⟨j2, rfl⟩ : ∃ z : Nat, c = z := ⟨c.toNat, by omega⟩
                have hw2 := within_g ((zI (j2 : Int)).toInt64 - (zI (i2 : Int)).toInt64) 1 3 S (by omega) (by omega)
                rw [sub64 _ _ hu hy] at hw2
                rw [bI_t (by omega)] at hw2
                have m152 := hm.1
                by_cases h4 : g.2.length = 4
                · rw [h4] at m152
                  unfold f12_learn f12_learn_j65; simp (disch := omega) only [iT_b, iF_b, e2, hw1, h8, hw2, m152, nI_z, zI_add, zI_sub, zI_mul, zI_m1, ckI_z, zI_clamp, Int.toNat_natCast, bnd_some, lt, rd_same, rd_ne, rdL_same, rdL_ne, wI_2, wL_1, if_true, if_false, iT_lt, iF_lt, iT_lt0, iF_lt0, iT_0lt, iF_0lt, iT_le, iF_le, iT_le0, iF_le0, iT_0le, iF_0le, iT_eq, iF_eq, iT_eq0, iF_eq0]
                · have hno : ¬ okr p i2 j2 := fun q => hnt ⟨i2, j2, rfl, rfl, by omega, by omega, by omega, q⟩
                  have st1 : f12_learn N (zI i) (zI i2) (zI j2) (zI b) S = f12_learn_h75 N (zI i) (zI i2) (zI j2) (zI b) N (zI i2) S := by
                    unfold f12_learn f12_learn_j65; simp (disch := omega) only [iT_b, iF_b, e2, hw1, h8, hw2, m152, nI_z, zI_add, zI_sub, zI_mul, zI_m1, ckI_z, zI_clamp, Int.toNat_natCast, bnd_some, lt, rd_same, rd_ne, rdL_same, rdL_ne, wI_2, wL_1, if_true, if_false, iT_lt, iF_lt, iT_lt0, iF_lt0, iT_0lt, iF_0lt, iT_le, iF_le, iT_le0, iF_le0, iT_0le, iF_0le, iT_eq, iF_eq, iT_eq0, iF_eq0]
                  rw [st1]
                  exact (okr_m (N := N) (x2 := zI i2) (x4 := zI b) (x1 := zI i) hp.has (by omega) _ (learn_any (N := N) (x2 := zI i2) (x4 := zI b) (by omega : j2 < 12)) (j2 + 1 - i2) i2 N (by omega) (by omega)).2 hno
              · have hw2 := within_g ((zI c).toInt64 - (zI a).toInt64) 1 3 S (by omega) (by omega)
                rw [sub64 _ _ hu hy] at hw2
                rw [bI_f (by omega)] at hw2
                unfold f12_learn; simp (disch := omega) only [iT_b, iF_b, e2, hw1, h8, hw2, nI_z, zI_add, zI_sub, zI_mul, zI_m1, ckI_z, zI_clamp, Int.toNat_natCast, bnd_some, lt, rd_same, rd_ne, rdL_same, rdL_ne, wI_2, wL_1, if_true, if_false, iT_lt, iF_lt, iT_lt0, iF_lt0, iT_0lt, iF_0lt, iT_le, iF_le, iT_le0, iF_le0, iT_0le, iF_0le, iT_eq, iF_eq, iT_eq0, iF_eq0]
            · unfold f12_learn; simp (disch := omega) only [iT_b, iF_b, e2, hw1, h8, nI_z, zI_add, zI_sub, zI_mul, zI_m1, ckI_z, zI_clamp, Int.toNat_natCast, bnd_some, lt, rd_same, rd_ne, rdL_same, rdL_ne, wI_2, wL_1, if_true, if_false, iT_lt, iF_lt, iT_lt0, iF_lt0, iT_0lt, iF_0lt, iT_le, iF_le, iT_le0, iF_le0, iT_0le, iF_0le, iT_eq, iF_eq, iT_eq0, iF_eq0]
    · refine triv (zI (-1)) ?_ ?_
      · unfold f11_learn
        rcases isp_c (N := N) (by omega) hp.1 a c hy hu with ⟨i2, j2, rfl, rfl, ht, hpt⟩ | ⟨hnt, hpt⟩
        · by_cases b1 : b < 1
          · simp (disch := omega) only [e1, ifN_some, ckA_in ha, hpt, nI_z, zI_add, zI_sub, zI_mul, zI_m1, ckI_z, zI_clamp, Int.toNat_natCast, bnd_some, lt, rd_same, rd_ne, rdL_same, rdL_ne, wI_2, wL_1, if_true, if_false, iT_lt, iF_lt, iT_lt0, iF_lt0, iT_0lt, iF_0lt, iT_le, iF_le, iT_le0, iF_le0, iT_0le, iF_0le, iT_eq, iF_eq, iT_eq0, iF_eq0]
          · simp (disch := omega) only [e1, ifN_some, ckA_in ha, hpt, nI_z, zI_add, zI_sub, zI_mul, zI_m1, ckI_z, zI_clamp, Int.toNat_natCast, bnd_some, lt, rd_same, rd_ne, rdL_same, rdL_ne, wI_2, wL_1, if_true, if_false, iT_lt, iF_lt, iT_lt0, iF_lt0, iT_0lt, iF_0lt, iT_le, iF_le, iT_le0, iF_le0, iT_0le, iF_0le, iT_eq, iF_eq, iT_eq0, iF_eq0]
        · simp (disch := omega) only [e1, ifN_some, ckA_in ha, hpt, nI_z, zI_add, zI_sub, zI_mul, zI_m1, ckI_z, zI_clamp, Int.toNat_natCast, bnd_some, lt, rd_same, rd_ne, rdL_same, rdL_ne, wI_2, wL_1, if_true, if_false, iT_lt, iF_lt, iT_lt0, iF_lt0, iT_0lt, iF_0lt, iT_le, iF_le, iT_le0, iF_le0, iT_0le, iF_0le, iT_eq, iF_eq, iT_eq0, iF_eq0]
      · unfold f12_learn; simp (disch := omega) only [iT_b, iF_b, e2, hw1, nI_z, zI_add, zI_sub, zI_mul, zI_m1, ckI_z, zI_clamp, Int.toNat_natCast, bnd_some, lt, rd_same, rd_ne, rdL_same, rdL_ne, wI_2, wL_1, if_true, if_false, iT_lt, iF_lt, iT_lt0, iF_lt0, iT_0lt, iF_0lt, iT_le, iF_le, iT_le0, iF_le0, iT_0le, iF_0le, iT_eq, iF_eq, iT_eq0, iF_eq0]
