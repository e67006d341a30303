/-! read: the reference, and the call. -/
theorem pack_snoc2 {u : List Nat} {o : Nat} (hu : u.length < 12) (hux : ∀ x ∈ u, x < 12) (ho : o < 12) : lN (pack u) ||| shlL (zI o).toInt64 (zI (((4 : Nat) : Int) * (u.length : Int))) = lN (pack (u ++ [o])) := by
  have h1 := pack_lt u (fun x hx => by have := hux x hx; omega)
  have h16 : (16 : Nat) ^ u.length = 2 ^ (4 * u.length) := by rw [Nat.pow_mul]
  have h2 : 2 ^ (4 * u.length) ≤ 2 ^ 44 := Nat.pow_le_pow_right (by omega) (by omega)
  have h3 : 2 ^ (4 * u.length) * o ≤ 2 ^ 44 * 12 := Nat.mul_le_mul h2 (by omega)
  have hz : (zI o).toInt64 = lN o := (lN_z o (by omega)).symm
  have hn : zI (((4 : Nat) : Int) * (u.length : Int)) = nI (4 * u.length) := by rw [nI_z]; rfl
  rw [hz, hn, lN_shl (by omega) (by rw [Nat.mul_comm]; omega), Nat.mul_comm o, lN_or (by omega) (by omega), pack_app, h16, Nat.add_comm]
  rfl
theorem cmpL_lt {x y : Nat} (hx : x < 2 ^ 63) (hy : y < 2 ^ 63) : cmpL (lN x) (lN y) < 0 ↔ x < y := by
  have he : lN x = lN y ↔ x = y := by
    rw [← Int64.toInt_inj, lN_toI hx, lN_toI hy]
    omega
  have hlt : lN y < lN x ↔ y < x := by
    rw [Int64.lt_iff_toInt_lt, lN_toI hx, lN_toI hy]
    omega
  unfold cmpL
  by_cases h1 : y < x
  · rw [if_pos (hlt.mpr h1)]
    exact ⟨fun q => absurd q (by decide), fun q => by omega⟩
  · rw [if_neg (fun q => h1 (hlt.mp q))]
    by_cases h2 : x = y
    · rw [if_pos (he.mpr h2)]
      exact ⟨fun q => absurd q (by decide), fun q => by omega⟩
    · rw [if_neg (fun q => h2 (he.mp q))]
      exact ⟨fun _ => by omega, fun _ => by decide⟩
theorem lN_32 {n : Nat} (h : n < 2147483648) : (lN n).toInt32 = zI n := by
  rw [lN_z n h]
  rw [← Int32.toInt_inj]
  simp
theorem lN_add1 {n : Nat} (h : n < 2147483648) : lN n + lN 1 = lN (n + 1) := by
  unfold lN
  rw [← Int64.ofNat_add]
theorem read_fin {N l : Nat} {S : St} {g : Lg} {p : List Nat} (hN : 100 ≤ N) (hg : LV g) (hl : l < 6) (hm : ML S l g) (hw : WP g p) (h12 : p.length ≤ 12) : ∃ S2, (bnd (f12_lookAt N (lN (pack p)) S) fun _ S3 => bnd (f12_sizeIn N (zI l) S3) fun q4 S5 => some (q4, S5)) = some (zI (bsum g p), S2) ∧ S2.1 146 8 = zI p.length ∧ Held (S2.1 153) 0 p ∧ Same loP S S2 := by
  have hgl := hg.len
  obtain ⟨S2, e1, e2, e3, e4⟩ := f12_lookAt_ok (N := N) (S := S) (by omega) hw h12 (fun x hx => by have := hw.2.1 x hx; omega)
  have hm2 : ML S2 l g := hm.same hg e4 (fun c p _ _ _ => by unfold loP; omega) (fun p _ _ => by unfold loP; omega) (fun p _ _ => by unfold loP; omega) (by unfold loP; omega)
  have hs := f12_size_loop (N := N) hm2 hg hl e2 h12 hw.2.1 e3 p.length 0 N (by omega) (by omega)
  have hs' : f12_sizeIn N (zI l) S2 = some (zI (bsum g p), S2) := by
    unfold f12_sizeIn
    exact hs
  exact ⟨S2, by rw [e1, bnd_some, hs', bnd_some], e2, e3, e4⟩
theorem read_m {N l d n0 : Nat} {g : Lg} {bv : Nat → Nat} {S : St} (hN : 100 ≤ N) (hg : LV g) (hl : l < 6) (hd : d < 6) (hm : ML S l g) (hb : Bv S d n0 bv) : ∀ (m i n1 n2 c k : Nat) (acc : List Nat), (i + m = n0 ∨ (m = 0 ∧ n0 ≤ i)) → i < 2147483648 → 14 ≤ n1 + acc.length → 8 ≤ n2 + k → c < 2 ^ k → k < 6 → accok g acc →
    ∃ S2, f12_read_h69 N (zI l) (zI d) (lN (pack acc)) (zI acc.length) (f12_read_h55 N (zI l) (zI d) n1) n2 (lN i) (zI k) (zI c) (zI (-1)) S = some (zI (rdI g (dec g bv m i c k acc)), S2) ∧ ((dec g bv m i c k acc).1 ≠ 2 → S2 = S) ∧ ((dec g bv m i c k acc).1 = 2 → S2.1 146 8 = zI (dec g bv m i c k acc).2.length ∧ Held (S2.1 153) 0 (dec g bv m i c k acc).2 ∧ Same loP S S2) := by
  obtain ⟨b1, b2, b3, b4, b5, b6, b7⟩ := hb
  have hgl := hg.len
  have h71 : (zI (n0 : Int)).toInt64 = lN n0 := (lN_z n0 (by omega)).symm
  have hm1 : ((-1 : Int32)) = zI (-1) := rfl
  intro m
  induction m with
  | zero =>
    intro i n1 n2 c k acc hi hi2 hn1 hn2 hc hk hac
    obtain ⟨n2, rfl⟩ : ∃ z, n2 = z + 1 := ⟨n2 - 1, by omega⟩
    have hge : ¬ cmpL (lN i) (lN n0) < 0 := fun q => by have := (cmpL_lt (by omega) (by omega)).mp q; omega
    have hge0 : ¬ cmpL (lN i) (lN 0) < 0 := fun q => by have := (cmpL_lt (by omega) (by omega)).mp q; omega
    refine ⟨S, ?_, fun _ => rfl, fun q => absurd q (by show ¬ (0 : Nat) = 2; omega)⟩
    rw [f12_read_h69]
    simp (disch := omega) only [b4, nI_z, zI_add, zI_sub, zI_mul, zI_m1, ckI_z, zI_clamp, Int.toNat_natCast, bnd_some, lt, rd_same, rd_ne, rdL_same, rdL_ne, wI_2, wL_1, if_true, if_false, iT_lt, iF_lt, iT_lt0, iF_lt0, iT_0lt, iF_0lt, iT_le, iF_le, iT_le0, iF_le0, iT_0le, iF_0le, iT_eq, iF_eq, iT_eq0, iF_eq0]
    rw [if_neg hge0, b5, h71, if_neg hge]
    rfl
  | succ m ih =>
    intro i n1 n2 c k acc hi hi2 hn1 hn2 hc hk hac
    obtain ⟨n2, rfl⟩ : ∃ z, n2 = z + 1 := ⟨n2 - 1, by omega⟩
    obtain ⟨n2, rfl⟩ : ∃ z, n2 = z + 1 := ⟨n2 - 1, by omega⟩
    have hlt : i < n0 := by omega
    have hge : cmpL (lN i) (lN n0) < 0 := (cmpL_lt (by omega) (by omega)).mpr hlt
    have hge0 : ¬ cmpL (lN i) (lN 0) < 0 := fun q => by have := (cmpL_lt (by omega) (by omega)).mp q; omega
    have h2k : 2 ^ k ≤ 2 ^ 5 := Nat.pow_le_pow_right (by omega) (by omega)
    have hb01 := b7 i
    have hcc : 2 * c + bv i < 2 ^ (k + 1) := by rw [Nat.pow_succ]; omega
    have hz2 : zI (((2 : Nat) : Int) * (c : Int) + (bv i : Int)) = zI ((2 * c + bv i : Nat) : Int) := rfl
    have hzk : zI ((k : Int) + ((1 : Nat) : Int)) = zI ((k + 1 : Nat) : Int) := rfl
    have hii : (lN i).toInt32 = zI i := lN_32 (by omega)
    have hbi : (S.2 172 (60 * d + i)).toInt32 = zI (bv i) := by rw [(b6 i hlt).2]; exact lN_32 (by omega)
    have hl1 : lN i + lN 1 = lN (i + 1) := lN_add1 (by omega)
    obtain ⟨o1, o2⟩ := ow_m (N := N) (x2 := zI d) (l4 := lN (i + 1)) (l6 := lN (pack acc)) (x8 := zI acc.length) (c := 2 * c + bv i) (k := k + 1) hg hl hm (by omega) (by omega) (f12_read_h55 N (zI l) (zI d) n1) (f12_read_h69 N (zI l) (zI d) (lN (pack acc)) (zI acc.length) (f12_read_h55 N (zI l) (zI d) n1) (n2 + 1)) g.1.length 0 N (zI (-1)) (by omega) (by omega)
    have step : f12_read_h69 N (zI l) (zI d) (lN (pack acc)) (zI acc.length) (f12_read_h55 N (zI l) (zI d) n1) (n2 + 1 + 1) (lN i) (zI k) (zI c) (zI (-1)) S = f12_read_h150 N (zI l) (zI d) (lN (i + 1)) (lN (pack acc)) (zI acc.length) (zI ((k + 1 : Nat) : Int)) (zI ((2 * c + bv i : Nat) : Int)) (f12_read_h55 N (zI l) (zI d) n1) (f12_read_h69 N (zI l) (zI d) (lN (pack acc)) (zI acc.length) (f12_read_h55 N (zI l) (zI d) n1) (n2 + 1)) N (zI (-1)) (zI ((0 : Nat) : Int)) S := by
      rw [f12_read_h69]
      simp (disch := omega) only [b4, nI_z, zI_add, zI_sub, zI_mul, zI_m1, ckI_z, zI_clamp, Int.toNat_natCast, bnd_some, lt, rd_same, rd_ne, rdL_same, rdL_ne, wI_2, wL_1, if_true, if_false, iT_lt, iF_lt, iT_lt0, iF_lt0, iT_0lt, iF_0lt, iT_le, iF_le, iT_le0, iF_le0, iT_0le, iF_0le, iT_eq, iF_eq, iT_eq0, iF_eq0]
      rw [if_neg hge0, b5, h71, if_pos hge, hii]
      simp (disch := omega) only [lp60, hbi, hz2, hzk, hl1, nI_z, zI_add, zI_sub, zI_mul, zI_m1, ckI_z, zI_clamp, Int.toNat_natCast, bnd_some, lt, rd_same, rd_ne, rdL_same, rdL_ne, wI_2, wL_1, if_true, if_false, iT_lt, iF_lt, iT_lt0, iF_lt0, iT_0lt, iF_0lt, iT_le, iF_le, iT_le0, iF_le0, iT_0le, iF_0le, iT_eq, iF_eq, iT_eq0, iF_eq0]
    have hux : ∀ x ∈ acc, x < 12 := fun x hx => by have := (hac.2 x hx).2; omega
    rw [step]
    cases hfo : fo g (2 * c + bv i) (k + 1) with
    | some o =>
      obtain ⟨f1, f2, f3⟩ := fo_some hfo
      rw [o1 o (by omega) f1 f2 f3, dec_some hfo]
      have h12 := hac.1
      by_cases c12 : acc.length = 12
      · rw [if_pos c12]
        refine ⟨S, ?_, fun _ => rfl, fun q => absurd q (by show ¬ (1 : Nat) = 2; omega)⟩
        rw [f12_read_h69]
        simp (disch := omega) only [nI_z, zI_add, zI_sub, zI_mul, zI_m1, ckI_z, zI_clamp, Int.toNat_natCast, bnd_some, lt, rd_same, rd_ne, rdL_same, rdL_ne, wI_2, wL_1, if_true, if_false, iT_lt, iF_lt, iT_lt0, iF_lt0, iT_0lt, iF_0lt, iT_le, iF_le, iT_le0, iF_le0, iT_0le, iF_0le, iT_eq, iF_eq, iT_eq0, iF_eq0]
        rfl
      · rw [if_neg c12]
        have hps := pack_snoc2 (u := acc) (o := o) (by omega) hux (by omega)
        obtain ⟨n1, rfl⟩ : ∃ z, n1 = z + 1 := ⟨n1 - 1, by omega⟩
        have hll : (acc ++ [o]).length = acc.length + 1 := by simp
        have hzl : zI ((acc.length : Int) + ((1 : Nat) : Int)) = zI (((acc ++ [o]).length : Nat) : Int) := by rw [hll]; rfl
        by_cases o0 : o = 0
        · rw [if_pos o0]
          subst o0
          have hwp := acc_wp hg hac
          obtain ⟨S2, g1, g2, g3, g4⟩ := read_fin (N := N) hN hg hl hm hwp (by rw [hll]; omega)
          refine ⟨S2, ?_, fun q => absurd rfl q, fun _ => ⟨g2, g3, g4⟩⟩
          rw [f12_read_h69]
          simp (disch := omega) only [hps, f12_read_j248, nI_z, zI_add, zI_sub, zI_mul, zI_m1, ckI_z, zI_clamp, Int.toNat_natCast, bnd_some, lt, rd_same, rd_ne, rdL_same, rdL_ne, wI_2, wL_1, if_true, if_false, iT_lt, iF_lt, iT_lt0, iF_lt0, iT_0lt, iF_0lt, iT_le, iF_le, iT_le0, iF_le0, iT_0le, iF_0le, iT_eq, iF_eq, iT_eq0, iF_eq0]
          rw [f12_read_h55]
          simp (disch := omega) only [nI_z, zI_add, zI_sub, zI_mul, zI_m1, ckI_z, zI_clamp, Int.toNat_natCast, bnd_some, lt, rd_same, rd_ne, rdL_same, rdL_ne, wI_2, wL_1, if_true, if_false, iT_lt, iF_lt, iT_lt0, iF_lt0, iT_0lt, iF_0lt, iT_le, iF_le, iT_le0, iF_le0, iT_0le, iF_0le, iT_eq, iF_eq, iT_eq0, iF_eq0]
          exact g1
        · rw [if_neg o0]
          obtain ⟨S2, g1, g2, g3⟩ := ih (i + 1) n1 N 0 0 (acc ++ [o]) (by omega) (by omega) (by omega) (by omega) (by decide) (by omega) ⟨by omega, fun x hx => by
            rcases List.mem_append.mp hx with q | q
            · exact hac.2 x q
            · rw [List.mem_singleton.mp q]; exact ⟨o0, f1⟩⟩
          refine ⟨S2, ?_, g2, g3⟩
          rw [f12_read_h69]
          simp (disch := omega) only [hps, f12_read_j248, hzl, nI_z, zI_add, zI_sub, zI_mul, zI_m1, ckI_z, zI_clamp, Int.toNat_natCast, bnd_some, lt, rd_same, rd_ne, rdL_same, rdL_ne, wI_2, wL_1, if_true, if_false, iT_lt, iF_lt, iT_lt0, iF_lt0, iT_0lt, iF_0lt, iT_le, iF_le, iT_le0, iF_le0, iT_0le, iF_0le, iT_eq, iF_eq, iT_eq0, iF_eq0]
          rw [f12_read_h55]
          simp (disch := omega) only [nI_z, zI_add, zI_sub, zI_mul, zI_m1, ckI_z, zI_clamp, Int.toNat_natCast, bnd_some, lt, rd_same, rd_ne, rdL_same, rdL_ne, wI_2, wL_1, if_true, if_false, iT_lt, iF_lt, iT_lt0, iF_lt0, iT_0lt, iF_0lt, iT_le, iF_le, iT_le0, iF_le0, iT_0le, iF_0le, iT_eq, iF_eq, iT_eq0, iF_eq0]
          exact g1
    | none =>
      have hno := fo_none hfo
      rw [o2 (fun o _ b => hno o b), dec_none hfo]
      by_cases c6 : k + 1 < 6
      · rw [if_pos c6]
        exact ih (i + 1) n1 (n2 + 1) (2 * c + bv i) (k + 1) acc (by omega) (by omega) hn1 (by omega) hcc c6 hac
      · rw [if_neg c6]
        refine ⟨S, ?_, fun _ => rfl, fun q => absurd q (by show ¬ (1 : Nat) = 2; omega)⟩
        rw [f12_read_h69]
        simp (disch := omega) only [nI_z, zI_add, zI_sub, zI_mul, zI_m1, ckI_z, zI_clamp, Int.toNat_natCast, bnd_some, lt, rd_same, rd_ne, rdL_same, rdL_ne, wI_2, wL_1, if_true, if_false, iT_lt, iF_lt, iT_lt0, iF_lt0, iT_0lt, iF_0lt, iT_le, iF_le, iT_le0, iF_le0, iT_0le, iF_0le, iT_eq, iF_eq, iT_eq0, iF_eq0]
        rfl
def reP (c k : Nat) : Prop := rgP 4 c k ∨ prP c k
theorem c_read {N : Nat} {S : St} {Ls : List Lg} {p : List Nat} {F : Nat → Sf} (hN : 100 ≤ N) (h : Qlang S Ls) (hp : Qprog S p) (hF : Qsh S F) (x y u : Int32) : ∃ r S1 S2 p2, f11_read N x y u S = some (r, S1) ∧ f12_read N x y u S1 = some (r, S2) ∧ Qprog S2 p2 ∧ Same reP S S2 := by
  have triv : ∀ r, f11_read N x y u S = some (r, S) → f12_read N x y u S = some (r, S) → ∃ r S1 S2 p2, f11_read N x y u S = some (r, S1) ∧ f12_read N x y u S1 = some (r, S2) ∧ Qprog S2 p2 ∧ Same reP S S2 := fun r a b => ⟨r, S, S, p, a, b, hp, Same.rfl'⟩
  have hu := xrng u
  rw [zI_of u] at triv ⊢
  generalize u.toInt = z at hu triv
  rcases lang_cases h x with ⟨e1, e2⟩ | ⟨l, g, hg, rfl, hi, e1, e2, hv, hc, hm⟩
  · refine triv (zI (-1)) ?_ ?_
    · unfold f11_read; rw [e1]; rfl
    · unfold f12_read; rw [e2]; rfl
  · have ha := ad3_in l hi
    rcases shelf_cases y with hsc | ⟨d, hd, rfl, hsc⟩
    · obtain ⟨c1, c2⟩ := hsc S
      refine triv (zI (-1)) ?_ ?_
      · unfold f11_read; simp (disch := omega) only [e1, ifN_some, ckA_in ha, c1, nI_z, zI_add, zI_sub, zI_mul, zI_m1, ckI_z, zI_clamp, Int.toNat_natCast, bnd_some, lt, rd_same, rd_ne, rdL_same, rdL_ne, wI_2, wL_1, if_true, if_false, iT_lt, iF_lt, iT_lt0, iF_lt0, iT_0lt, iF_0lt, iT_le, iF_le, iT_le0, iF_le0, iT_0le, iF_0le, iT_eq, iF_eq, iT_eq0, iF_eq0]
      · unfold f12_read; simp (disch := omega) only [e2, c2, nI_z, zI_add, zI_sub, zI_mul, zI_m1, ckI_z, zI_clamp, Int.toNat_natCast, bnd_some, lt, rd_same, rd_ne, rdL_same, rdL_ne, wI_2, wL_1, if_true, if_false, iT_lt, iF_lt, iT_lt0, iF_lt0, iT_0lt, iF_0lt, iT_le, iF_le, iT_le0, iF_le0, iT_0le, iF_0le, iT_eq, iF_eq, iT_eq0, iF_eq0]
    · obtain ⟨c1, c2⟩ := hsc S
      have h1 := hF d hd
      have q1 := f8_nothing_in hd h1
      have q4 := f8_sort_in hd h1
      obtain ⟨s1, s2, s3, s4, s5, s6⟩ := shI_rng h1.1 h1.2.1
      have a70 := h1.2.2.2.2.2.2.1
      have m1 := h1.1
      by_cases k6 : (F d).1 = 6
      · refine triv (zI (-2)) ?_ ?_
        · unfold f11_read; simp (disch := omega) only [iT_b, iF_b, e1, ifN_some, ckA_in ha, c1, q1, nI_z, zI_add, zI_sub, zI_mul, zI_m1, ckI_z, zI_clamp, Int.toNat_natCast, bnd_some, lt, rd_same, rd_ne, rdL_same, rdL_ne, wI_2, wL_1, if_true, if_false, iT_lt, iF_lt, iT_lt0, iF_lt0, iT_0lt, iF_0lt, iT_le, iF_le, iT_le0, iF_le0, iT_0le, iF_0le, iT_eq, iF_eq, iT_eq0, iF_eq0]; rfl
        · have hs : shI (F d) = -1 := by omega
          rw [hs] at a70
          obtain ⟨M, hM⟩ : ∃ M, N = M + 1 := ⟨N - 1, by omega⟩
          have hm1 : ((-1 : Int32)) = zI (-1) := rfl
          have st : f12_read N (zI l) (zI d) (zI z) S = f12_read_j42 N (zI l) (zI d) (zI z) S := by
            unfold f12_read
            simp (disch := omega) only [e2, c2, a70, nI_z, zI_add, zI_sub, zI_mul, zI_m1, ckI_z, zI_clamp, Int.toNat_natCast, bnd_some, lt, rd_same, rd_ne, rdL_same, rdL_ne, wI_2, wL_1, if_true, if_false, iT_lt, iF_lt, iT_lt0, iF_lt0, iT_0lt, iF_0lt, iT_le, iF_le, iT_le0, iF_le0, iT_0le, iF_0le, iT_eq, iF_eq, iT_eq0, iF_eq0]
          rw [st]
          unfold f12_read_j42
          simp only [lt]
          rw [hM, f12_read_h55, ← hM]
          simp (disch := omega) only [nI_z, zI_add, zI_sub, zI_mul, zI_m1, ckI_z, zI_clamp, Int.toNat_natCast, bnd_some, lt, rd_same, rd_ne, rdL_same, rdL_ne, wI_2, wL_1, if_true, if_false, iT_lt, iF_lt, iT_lt0, iF_lt0, iT_0lt, iF_0lt, iT_le, iF_le, iT_le0, iF_le0, iT_0le, iF_0le, iT_eq, iF_eq, iT_eq0, iF_eq0]
          rw [hM, f12_read_h69, ← hM]
          simp (disch := omega) only [a70, nI_z, zI_add, zI_sub, zI_mul, zI_m1, ckI_z, zI_clamp, Int.toNat_natCast, bnd_some, lt, rd_same, rd_ne, rdL_same, rdL_ne, wI_2, wL_1, if_true, if_false, iT_lt, iF_lt, iT_lt0, iF_lt0, iT_0lt, iF_0lt, iT_le, iF_le, iT_le0, iF_le0, iT_0le, iF_0le, iT_eq, iF_eq, iT_eq0, iF_eq0]
          rfl
      · by_cases k4 : (F d).1 = 4
        · have hs := s5 (by omega)
          have hb4 : f8_holdsBooleans (zI d) S = some (zI 1, S) := by unfold f8_holdsBooleans; simp (disch := omega) only [q4, nI_z, zI_add, zI_sub, zI_mul, zI_m1, ckI_z, zI_clamp, Int.toNat_natCast, bnd_some, lt, rd_same, rd_ne, rdL_same, rdL_ne, wI_2, wL_1, if_true, if_false, iT_lt, iF_lt, iT_lt0, iF_lt0, iT_0lt, iF_0lt, iT_le, iF_le, iT_le0, iF_le0, iT_0le, iF_0le, iT_eq, iF_eq, iT_eq0, iF_eq0]; rfl
          have hz4 : shI (F d) = ((1004 : Nat) : Int) := by omega
          rw [hz4] at a70
          have st : ∀ S', S'.1 170 d = zI ((1004 : Nat) : Int) → Qlang S' Ls → f12_read N (zI l) (zI d) (zI z) S' = f12_read_j42 N (zI l) (zI d) (zI z) S' := fun S' w1 w2 => by
            have e2' := (lang_in w2 (List.getElem?_eq_some_iff.mp hg).1).2
            have c2' := (hsc S').2
            unfold f12_read
            simp (disch := omega) only [e2', c2', w1, nI_z, zI_add, zI_sub, zI_mul, zI_m1, ckI_z, zI_clamp, Int.toNat_natCast, bnd_some, lt, rd_same, rd_ne, rdL_same, rdL_ne, wI_2, wL_1, if_true, if_false, iT_lt, iF_lt, iT_lt0, iF_lt0, iT_0lt, iF_0lt, iT_le, iF_le, iT_le0, iF_le0, iT_0le, iF_0le, iT_eq, iF_eq, iT_eq0, iF_eq0]
          by_cases z0 : z < 0
          · refine triv (zI (-2)) ?_ ?_
            · unfold f11_read f11_decoded; simp (disch := omega) only [iT_b, iF_b, e1, ifN_some, ckA_in ha, c1, q1, hb4, nI_z, zI_add, zI_sub, zI_mul, zI_m1, ckI_z, zI_clamp, Int.toNat_natCast, bnd_some, lt, rd_same, rd_ne, rdL_same, rdL_ne, wI_2, wL_1, if_true, if_false, iT_lt, iF_lt, iT_lt0, iF_lt0, iT_0lt, iF_0lt, iT_le, iF_le, iT_le0, iF_le0, iT_0le, iF_0le, iT_eq, iF_eq, iT_eq0, iF_eq0]; rfl
            · rw [st S a70 h]
              obtain ⟨M, hM⟩ : ∃ M, N = M + 1 := ⟨N - 1, by omega⟩
              have hlt0 : cmpL (zI z).toInt64 (lN 0) < 0 := by
                unfold cmpL
                have n1 : ¬ lN 0 < (zI z).toInt64 := fun q => by
                  rw [Int64.lt_iff_toInt_lt, Int32.toInt_toInt64, zI_toInt hu, lN_toI (by omega)] at q
                  omega
                have n2 : ¬ (zI z).toInt64 = lN 0 := fun q => by
                  rw [← Int64.toInt_inj, Int32.toInt_toInt64, zI_toInt hu, lN_toI (by omega)] at q
                  omega
                rw [if_neg n1, if_neg n2]
                decide
              unfold f12_read_j42
              simp only [lt]
              rw [hM, f12_read_h55, ← hM]
              simp (disch := omega) only [nI_z, zI_add, zI_sub, zI_mul, zI_m1, ckI_z, zI_clamp, Int.toNat_natCast, bnd_some, lt, rd_same, rd_ne, rdL_same, rdL_ne, wI_2, wL_1, if_true, if_false, iT_lt, iF_lt, iT_lt0, iF_lt0, iT_0lt, iF_0lt, iT_le, iF_le, iT_le0, iF_le0, iT_0le, iF_0le, iT_eq, iF_eq, iT_eq0, iF_eq0]
              rw [hM, f12_read_h69, ← hM]
              simp (disch := omega) only [a70, nI_z, zI_add, zI_sub, zI_mul, zI_m1, ckI_z, zI_clamp, Int.toNat_natCast, bnd_some, lt, rd_same, rd_ne, rdL_same, rdL_ne, wI_2, wL_1, if_true, if_false, iT_lt, iF_lt, iT_lt0, iF_lt0, iT_0lt, iF_0lt, iT_le, iF_le, iT_le0, iF_le0, iT_0le, iF_0le, iT_eq, iF_eq, iT_eq0, iF_eq0]
              rw [if_pos hlt0]
              rfl
          · obtain ⟨i, rfl⟩ : ∃ i : Nat, z = i := ⟨z.toNat, by omega⟩
            have hbv : Bv S d (F d).2.2 (fun t => if S.2 172 (60 * d + t) = lN 1 then 1 else 0) := by
              obtain ⟨w1, w2, w3, w4, w5, w6, w7, w8, w9, w10⟩ := h1
              rw [k4] at w4
              refine ⟨w3, w4, w6, a70, w8, fun t ht => ?_, fun t => ?_⟩
              · have e9 := w9 (by omega) t ht
                have e10 := w10 k4 t ht
                have : S.2 172 (60 * d + t) = lN (if S.2 172 (60 * d + t) = lN 1 then 1 else 0) := by
                  rcases e10 with q | q
                  · rw [q, if_neg (by decide)]
                  · rw [q, if_pos rfl]
                exact ⟨e9.trans this, this⟩
              · show (if S.2 172 (60 * d + t) = lN 1 then 1 else 0) ≤ 1
                split <;> omega
            generalize (fun t => if S.2 172 (60 * d + t) = lN 1 then 1 else 0) = bv at hbv
            generalize (F d).2.2 = n0 at hbv
            obtain ⟨S1, p1, p2, p3⟩ := f6_beEmpty_ok (S := S) (a := 4)
            obtain ⟨S2, r1, r2, r3, r4⟩ := read_c (N := N) (a := 50 + 11 * l) (d := d) (n0 := n0) (bv := bv) hN hv (by omega) hd (n0 - i) i N 0 0 [] S1 (by omega) (by omega) (by have := hbv.1; omega) (by decide) (by omega) ⟨by decide, fun x hx => (by cases hx)⟩ p2 (hc.same hv p3 (fun c k _ _ => by unfold rgP; omega)) (hbv.same hd p3 (fun c k z => by unfold qhP at z; unfold rgP; omega))
            have e12 : f11_decoded N (50 + 11 * l) (zI d) (zI i) S = some (zI (rdI g (dec g bv (n0 - i) i 0 0 [])), S2) := by
              unfold f11_decoded
              simp (disch := omega) only [p1, nI_z, zI_add, zI_sub, zI_mul, zI_m1, ckI_z, zI_clamp, Int.toNat_natCast, bnd_some, lt, rd_same, rd_ne, rdL_same, rdL_ne, wI_2, wL_1, if_true, if_false, iT_lt, iF_lt, iT_lt0, iF_lt0, iT_0lt, iF_0lt, iT_le, iF_le, iT_le0, iF_le0, iT_0le, iF_0le, iT_eq, iF_eq, iT_eq0, iF_eq0]
              exact r1
            have s2 : Same (rgP 4) S S2 := p3.tr r2
            have mdl : ∀ S', Qlang S' Ls → Bv S' d n0 bv → ∃ S3, f12_read N (zI l) (zI d) (zI i) S' = some (zI (rdI g (dec g bv (n0 - i) i 0 0 [])), S3) ∧ ((dec g bv (n0 - i) i 0 0 []).1 ≠ 2 → S3 = S') ∧ ((dec g bv (n0 - i) i 0 0 []).1 = 2 → S3.1 146 8 = zI (dec g bv (n0 - i) i 0 0 []).2.length ∧ Held (S3.1 153) 0 (dec g bv (n0 - i) i 0 0 []).2 ∧ Same loP S' S3) := fun S' w1 w2 => by
              obtain ⟨_, _, hm'⟩ := w1.2.2.2 l g hg
              obtain ⟨M, hM⟩ : ∃ M, N = M + 1 := ⟨N - 1, by omega⟩
              obtain ⟨S3, t1, t2, t3⟩ := read_m (N := N) (n0 := n0) (bv := bv) hN hv hi hd hm' w2 (n0 - i) i M N 0 0 [] (by omega) (by omega) (by show 14 ≤ M + 0; omega) (by omega) (by decide) (by omega) ⟨by decide, fun x hx => (by cases hx)⟩
              refine ⟨S3, ?_, t2, t3⟩
              rw [st S' w2.2.2.2.1 w1]
              unfold f12_read_j42
              simp only [lt]
              have hz64 : (zI (i : Int)).toInt64 = lN i := (lN_z i (by omega)).symm
              have e55 : f12_read_h55 N (zI l) (zI d) N (zI (i : Int)).toInt64 (lN 0) (nI 0) (nI 1) S' = f12_read_h69 N (zI l) (zI d) (lN 0) (nI 0) (f12_read_h55 N (zI l) (zI d) M) N (lN i) (nI 0) (nI 0) (zI (-1)) S' := by
                conv => lhs; rw [hM]
                rw [f12_read_h55, ← hM, hz64]
                simp (disch := omega) only [nI_z, zI_add, zI_sub, zI_mul, zI_m1, ckI_z, zI_clamp, Int.toNat_natCast, bnd_some, lt, rd_same, rd_ne, rdL_same, rdL_ne, wI_2, wL_1, if_true, if_false, iT_lt, iF_lt, iT_lt0, iF_lt0, iT_0lt, iF_0lt, iT_le, iF_le, iT_le0, iF_le0, iT_0le, iF_0le, iT_eq, iF_eq, iT_eq0, iF_eq0]
              rw [e55, nI_z]
              exact t1
            have hl2 := h.same s2 (fun c k z => by unfold laP at z; unfold rgP; omega)
            by_cases D2 : (dec g bv (n0 - i) i 0 0 []).1 = 2
            · obtain ⟨g1, g2⟩ := r3 D2
              have hpos : 0 < bsum g (dec g bv (n0 - i) i 0 0 []).2 := by
                have := wp_len hv g2
                have := List.length_pos_iff.mpr g2.1
                omega
              have hri : rdI g (dec g bv (n0 - i) i 0 0 []) = (bsum g (dec g bv (n0 - i) i 0 0 []).2 : Int) := by
                unfold rdI
                rw [if_neg (by omega), if_neg (by omega)]
              have hbb := bsum_le hv (dec g bv (n0 - i) i 0 0 []).2
              have h12 := g1.2.1
              obtain ⟨S3, f1, f2, f3⟩ := f6_become_ok (a0 := 2) (by omega) (by omega) g1
              have s3 : Same (fun c k => rgP 4 c k ∨ rgP 2 c k) S S3 := (s2.mono (fun c k z => Or.inl z)).tr (f3.mono (fun c k z => Or.inr z))
              have hl3 := h.same s3 (fun c k z => by unfold laP at z; unfold rgP; omega)
              have hb3 := hbv.same hd s3 (fun c k z => by unfold qhP at z; unfold rgP; omega)
              obtain ⟨S4, t1, t2, t3⟩ := mdl S3 hl3 hb3
              obtain ⟨t4, t5, t6⟩ := t3 D2
              refine ⟨zI (rdI g (dec g bv (n0 - i) i 0 0 [])), S3, S4, (dec g bv (n0 - i) i 0 0 []).2, ?_, t1, qprog_of (f2.same t6 (fun k => by unfold loP; omega) (fun k => by unfold loP; omega)) t4 t5 g2, (s3.mono (fun c k z => by unfold reP prP; unfold rgP at z ⊢; omega)).tr (t6.mono (fun c k z => by unfold reP prP; unfold loP at z; omega))⟩
              unfold f11_read
              rw [hri] at e12 ⊢
              simp (disch := omega) only [iT_b, iF_b, e1, ifN_some, ckA_in ha, c1, q1, hb4, e12, f1, nI_z, zI_add, zI_sub, zI_mul, zI_m1, ckI_z, zI_clamp, Int.toNat_natCast, bnd_some, lt, rd_same, rd_ne, rdL_same, rdL_ne, wI_2, wL_1, if_true, if_false, iT_lt, iF_lt, iT_lt0, iF_lt0, iT_0lt, iF_0lt, iT_le, iF_le, iT_le0, iF_le0, iT_0le, iF_0le, iT_eq, iF_eq, iT_eq0, iF_eq0]
            · obtain ⟨S4, t1, t2, t3⟩ := mdl S2 hl2 (hbv.same hd s2 (fun c k z => by unfold qhP at z; unfold rgP; omega))
              rw [t2 D2] at t1
              have hri : rdI g (dec g bv (n0 - i) i 0 0 []) ≤ 0 ∧ -5 ≤ rdI g (dec g bv (n0 - i) i 0 0 []) := by
                unfold rdI
                by_cases D0 : (dec g bv (n0 - i) i 0 0 []).1 = 0
                · rw [if_pos D0]; omega
                · rw [if_neg D0, if_pos (by omega)]; omega
              refine ⟨zI (rdI g (dec g bv (n0 - i) i 0 0 [])), S2, S2, p, ?_, t1, hp.same s2 (fun c k z => by unfold prP at z; unfold rgP; omega), s2.mono (fun c k z => Or.inl z)⟩
              unfold f11_read
              simp (disch := omega) only [iT_b, iF_b, e1, ifN_some, ckA_in ha, c1, q1, hb4, e12, nI_z, zI_add, zI_sub, zI_mul, zI_m1, ckI_z, zI_clamp, Int.toNat_natCast, bnd_some, lt, rd_same, rd_ne, rdL_same, rdL_ne, wI_2, wL_1, if_true, if_false, iT_lt, iF_lt, iT_lt0, iF_lt0, iT_0lt, iF_0lt, iT_le, iF_le, iT_le0, iF_le0, iT_0le, iF_0le, iT_eq, iF_eq, iT_eq0, iF_eq0]
        · have hb4 : f8_holdsBooleans (zI d) S = some (zI 0, S) := by unfold f8_holdsBooleans; simp (disch := omega) only [q4, nI_z, zI_add, zI_sub, zI_mul, zI_m1, ckI_z, zI_clamp, Int.toNat_natCast, bnd_some, lt, rd_same, rd_ne, rdL_same, rdL_ne, wI_2, wL_1, if_true, if_false, iT_lt, iF_lt, iT_lt0, iF_lt0, iT_0lt, iF_0lt, iT_le, iF_le, iT_le0, iF_le0, iT_0le, iF_0le, iT_eq, iF_eq, iT_eq0, iF_eq0]; rfl
          refine triv (zI (-12)) ?_ ?_
          · unfold f11_read; simp (disch := omega) only [iT_b, iF_b, e1, ifN_some, ckA_in ha, c1, q1, hb4, nI_z, zI_add, zI_sub, zI_mul, zI_m1, ckI_z, zI_clamp, Int.toNat_natCast, bnd_some, lt, rd_same, rd_ne, rdL_same, rdL_ne, wI_2, wL_1, if_true, if_false, iT_lt, iF_lt, iT_lt0, iF_lt0, iT_0lt, iF_0lt, iT_le, iF_le, iT_le0, iF_le0, iT_0le, iF_0le, iT_eq, iF_eq, iT_eq0, iF_eq0]; rfl
          · unfold f12_read
            by_cases k5 : (F d).1 = 5
            · have := s6 k5
              have ho := h1.2.1
              simp (disch := omega) only [e2, c2, a70, nI_z, zI_add, zI_sub, zI_mul, zI_m1, ckI_z, zI_clamp, Int.toNat_natCast, bnd_some, lt, rd_same, rd_ne, rdL_same, rdL_ne, wI_2, wL_1, if_true, if_false, iT_lt, iF_lt, iT_lt0, iF_lt0, iT_0lt, iF_0lt, iT_le, iF_le, iT_le0, iF_le0, iT_0le, iF_0le, iT_eq, iF_eq, iT_eq0, iF_eq0]; rfl
            · have := s5 (by omega)
              simp (disch := omega) only [e2, c2, a70, nI_z, zI_add, zI_sub, zI_mul, zI_m1, ckI_z, zI_clamp, Int.toNat_natCast, bnd_some, lt, rd_same, rd_ne, rdL_same, rdL_ne, wI_2, wL_1, if_true, if_false, iT_lt, iF_lt, iT_lt0, iF_lt0, iT_0lt, iF_0lt, iT_le, iF_le, iT_le0, iF_le0, iT_0le, iF_0le, iT_eq, iF_eq, iT_eq0, iF_eq0]; rfl
