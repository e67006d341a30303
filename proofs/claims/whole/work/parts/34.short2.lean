/-! shortest: the reference, and the call. -/
theorem LQ.same {P : Nat → Nat → Prop} {S S2 : St} {L : List (Nat × Nat)} (h : LQ S L) (hs : Same P S S2) (hd : ∀ c k, liP c k → ¬ P c k) : LQ S2 L := ⟨by rw [hs.i (hd 146 28 (by unfold liP; omega))]; exact h.1, fun j e he => ⟨by rw [hs.l (hd 160 j (by unfold liP; omega))]; exact (h.2 j e he).1, by rw [hs.i (hd 161 j (by unfold liP; omega))]; exact (h.2 j e he).2⟩⟩
/-- which place of the list, or -1 -/
def FI (L : List (Nat × List Nat)) (o : Option (Nat × List Nat)) (z : Int) : Prop := match o with
  | none => z = -1
  | some e => ∃ j : Nat, z = j ∧ L[j]? = some e
/-- one round of the reference's loop, all that is at hand -/
theorem plist_at {g : Lg} {n k : Nat} {S : St} {A C : List (Nat × List Nat)} {e : Nat × List Nat} (hp : progs (bit g) (rkf g) n = A ++ e :: C) (hk : k = A.length) (hq : LQ S (plist g n)) : S.1 146 28 = zI ((k : Int) + ((C.length + 1 : Nat) : Int)) ∧ S.2 160 k = lN (pack e.2) ∧ S.1 161 k = zI e.1 ∧ (progs (bit g) (rkf g) n)[k]? = some e := by
  have h28 := hq.1
  have hpl : (plist g n).length = (progs (bit g) (rkf g) n).length := by unfold plist; rw [List.length_map]
  rw [hpl, hp, List.length_append, List.length_cons] at h28
  have hr : (progs (bit g) (rkf g) n)[k]? = some e := by rw [hp, hk, List.getElem?_append_right (Nat.le_refl _)]; simp
  have hpj : (plist g n)[k]? = some (pack e.2, e.1) := by unfold plist; rw [List.getElem?_map, hr]; rfl
  obtain ⟨l1, l2⟩ := hq.2 k _ hpj
  refine ⟨?_, l1, l2, hr⟩
  rw [h28]
  congr 1
  omega
theorem plist_end {g : Lg} {n k : Nat} {S : St} {A : List (Nat × List Nat)} (hp : progs (bit g) (rkf g) n = A ++ []) (hk : k = A.length) (hq : LQ S (plist g n)) : S.1 146 28 = zI k := by
  have h28 := hq.1
  have hpl : (plist g n).length = (progs (bit g) (rkf g) n).length := by unfold plist; rw [List.length_map]
  rw [hpl, hp, List.append_nil, ← hk] at h28
  exact h28
/-- what the call answers -/
def sansI (A : Sa) (w : Int) : Int := if w = 2 then (A.2.1 : Int) else match A.1 with
  | none => -2
  | some e => if w = 1 then (A.2.2 : Int) else (e.1 : Int)
theorem f12_short_end {N k n i : Nat} {w z : Int} {nt : Int32} {S : St} {g : Lg} {A : Sa} {m : Nat} (hg : LV g) (hN : 100000 ≤ N) (hn : n ≤ 14) (hw : 0 ≤ w ∧ w ≤ 2) (hk : k ≤ 16384) (h28 : S.1 146 28 = zI k) (hA : A.2.1 ≤ 16384) (hA1 : A.2.2 ≤ 1) (hz : FI (progs (bit g) (rkf g) n) A.1 z) (hq : LQ S (plist g n)) :
    ∃ S2, f12_shortest_h51 N (zI i) nt (zI w) (m + 1) (zI z) (zI A.2.1) (zI A.2.2) (zI k) S = some (zI (sansI A w), S2) ∧ Same loP S S2 ∧ (∀ e, A.1 = some e → w = 0 → S2.1 146 8 = zI e.2.length ∧ Held (S2.1 153) 0 e.2) ∧ (¬ (w = 0 ∧ A.1 ≠ none) → S2 = S) := by
  unfold sansI
  by_cases w2 : w = 2
  · refine ⟨S, ?_, Same.rfl', fun e _ q => absurd q (by omega), fun _ => rfl⟩
    rw [if_pos w2, f12_shortest_h51]
    simp (disch := omega) only [h28, nI_z, zI_add, zI_sub, zI_mul, zI_m1, ckI_z, zI_clamp, Int.toNat_natCast, bnd_some, lt, rd_same, rd_ne, rdL_same, rdL_ne, wI_2, wL_1, if_true, if_false, iT_lt, iF_lt, iT_lt0, iF_lt0, iT_0lt, iF_0lt, iT_le, iF_le, iT_le0, iF_le0, iT_0le, iF_0le, iT_eq, iF_eq, iT_eq0, iF_eq0]
  · rw [if_neg w2]
    cases hA0 : A.1 with
    | none =>
      rw [hA0] at hz
      have hz : z = -1 := hz
      refine ⟨S, ?_, Same.rfl', fun e q => (by cases q), fun _ => rfl⟩
      rw [f12_shortest_h51]
      simp (disch := omega) only [h28, nI_z, zI_add, zI_sub, zI_mul, zI_m1, ckI_z, zI_clamp, Int.toNat_natCast, bnd_some, lt, rd_same, rd_ne, rdL_same, rdL_ne, wI_2, wL_1, if_true, if_false, iT_lt, iF_lt, iT_lt0, iF_lt0, iT_0lt, iF_0lt, iT_le, iF_le, iT_le0, iF_le0, iT_0le, iF_0le, iT_eq, iF_eq, iT_eq0, iF_eq0]
      rfl
    | some e =>
      rw [hA0] at hz
      obtain ⟨j, rfl, hj⟩ := hz
      have hjl := (List.getElem?_eq_some_iff.mp hj).1
      have hcap := progs_cap (A := []) (C := progs (bit g) (rkf g) n) hg hn rfl
      rw [List.length_nil, Nat.zero_add] at hcap
      by_cases w1 : w = 1
      · refine ⟨S, ?_, Same.rfl', fun e _ q => absurd q (by omega), fun _ => rfl⟩
        show _ = some (zI (if w = 1 then (A.2.2 : Int) else (e.1 : Int)), S)
        rw [if_pos w1, f12_shortest_h51]
        by_cases q : A.2.2 = 0
        · simp (disch := omega) only [h28, q, nI_z, zI_add, zI_sub, zI_mul, zI_m1, ckI_z, zI_clamp, Int.toNat_natCast, bnd_some, lt, rd_same, rd_ne, rdL_same, rdL_ne, wI_2, wL_1, if_true, if_false, iT_lt, iF_lt, iT_lt0, iF_lt0, iT_0lt, iF_0lt, iT_le, iF_le, iT_le0, iF_le0, iT_0le, iF_0le, iT_eq, iF_eq, iT_eq0, iF_eq0]
        · have q1 : A.2.2 = 1 := by omega
          simp (disch := omega) only [h28, q1, nI_z, zI_add, zI_sub, zI_mul, zI_m1, ckI_z, zI_clamp, Int.toNat_natCast, bnd_some, lt, rd_same, rd_ne, rdL_same, rdL_ne, wI_2, wL_1, if_true, if_false, iT_lt, iF_lt, iT_lt0, iF_lt0, iT_0lt, iF_0lt, iT_le, iF_le, iT_le0, iF_le0, iT_0le, iF_0le, iT_eq, iF_eq, iT_eq0, iF_eq0]
      · have hpj : (plist g n)[j]? = some (pack e.2, e.1) := by unfold plist; rw [List.getElem?_map, hj]; rfl
        obtain ⟨l1, l2⟩ := hq.2 j _ hpj
        obtain ⟨b1, b2, b3⟩ := progs_mem (List.mem_of_getElem? hj)
        obtain ⟨c1, c2, c3⟩ := comp_mem hg 12 e.1 e.2 b3
        have hgl := hg.len
        obtain ⟨S2, e1, e2, e3, e4⟩ := f12_lookAt_ok (N := N) (S := S) (by omega) c2 c1 (fun x hx => by have := c2.2.1 x hx; omega)
        have l3 : S2.1 161 j = zI e.1 := by rw [e4.i (by unfold loP; omega)]; exact l2
        refine ⟨S2, ?_, e4, fun f q _ => by injection q with q; rw [← q]; exact ⟨e2, e3⟩, fun q => absurd ⟨by omega, by simp⟩ q⟩
        show _ = some (zI (if w = 1 then (A.2.2 : Int) else (e.1 : Int)), S2)
        rw [if_neg w1, f12_shortest_h51]
        simp (disch := omega) only [h28, l1, e1, l3, nI_z, zI_add, zI_sub, zI_mul, zI_m1, ckI_z, zI_clamp, Int.toNat_natCast, bnd_some, lt, rd_same, rd_ne, rdL_same, rdL_ne, wI_2, wL_1, if_true, if_false, iT_lt, iF_lt, iT_lt0, iF_lt0, iT_0lt, iF_0lt, iT_le, iF_le, iT_le0, iF_le0, iT_0le, iF_0le, iT_eq, iF_eq, iT_eq0, iF_eq0]
theorem f12_short_loop {N i t n : Nat} {w : Int} {nt : Int32} {g : Lg} {row : List Nat} (hg : LV g) (hi : i < 6) (hN : 100000 ≤ N) (hn : n ≤ 14) (ht : t ≤ 4198) (hw : 0 ≤ w ∧ w ≤ 2) (hnt : remI nt (zI ((1000 : Nat) : Int)) = zI t) : ∀ (C A : List (Nat × List Nat)) (k m : Nat) (S : St) (acc : Sa) (z : Int), progs (bit g) (rkf g) n = A ++ C → k = A.length → C.length < m → ML S i g → LQ S (plist g n) → Qsay S row → acc.2.1 ≤ k → acc.2.2 ≤ 1 → FI (progs (bit g) (rkf g) n) acc.1 z →
    ∃ S2 S3, f12_shortest_h51 N (zI i) nt (zI w) m (zI z) (zI acc.2.1) (zI acc.2.2) (zI k) S = some (zI (sansI (C.foldl (sst g row t) acc) w), S3) ∧ (V15 S → V15 S2) ∧ Same rnP S S2 ∧ Same loP S2 S3 ∧ (∀ e, (C.foldl (sst g row t) acc).1 = some e → w = 0 → S3.1 146 8 = zI e.2.length ∧ Held (S3.1 153) 0 e.2) ∧ (¬ (w = 0 ∧ (C.foldl (sst g row t) acc).1 ≠ none) → S3 = S2) := by
  intro C
  induction C with
  | nil =>
    intro A k m S acc z hp hk hm hml hq hs hac ha1 hz
    obtain ⟨m, rfl⟩ : ∃ z, m = z + 1 := ⟨m - 1, by omega⟩
    have hcap := progs_cap hg hn hp
    have h28 := plist_end hp hk hq
    obtain ⟨S3, b1, b2, b3, b4⟩ := f12_short_end (N := N) (i := i) (nt := nt) (m := m) hg hN hn hw (by rw [List.length_nil] at hcap; omega : k ≤ 16384) h28 (by rw [List.length_nil] at hcap; omega) ha1 hz hq
    exact ⟨S, S3, b1, fun q => q, Same.rfl', b2, b3, b4⟩
  | cons e C ih =>
    intro A k m S acc z hp hk hm hml hq hs hac ha1 hz
    obtain ⟨m, rfl⟩ : ∃ z, m = z + 1 := ⟨m - 1, by omega⟩
    have hcap := progs_cap hg hn hp
    obtain ⟨p1, p2, p3, p4, p5⟩ := progs_wp hg hp
    rw [List.length_cons] at hm hcap
    obtain ⟨h28, l1, l2, hr⟩ := plist_at hp hk hq
    obtain ⟨i1, i2, i3⟩ := prun_MI (g := g) (p := e.2) (x := 0) (t := t) (by omega)
    obtain ⟨S2, a1, a2, a3, a4⟩ := f12_runFor_ok (N := N) (x := 0) (t := t) hN hg hi p3 p4 hml (by omega) (by omega) (by omega)
    have hs2 := hs.same a4 (fun c k z => by unfold qsP at z; unfold rnP; omega)
    have hal := f12_alike_ok (N := N) (by omega) a2 i1 hs2
    have hlk := lk_le (prun g e.2 0 t).1.2.2.2.1 row
    have r5 := hs2.2.2.2.2.1
    have r1 := hs2.1
    have m3 := i1.2.2.1
    have q8 := a2.2.2.2.1
    have hml2 := hml.rn hg a4
    have hq2 := hq.same a4 (fun c k z => by unfold liP at z; unfold rnP; omega)
    have hle := sstr_le (row := row) (A := acc) (r := prun g e.2 0 t) (e := e)
    have hmod : sst g row t acc e = sstr row acc (prun g e.2 0 t) e := rfl
    rw [List.foldl_cons, hmod]
    have go : ∀ (z2 : Int) (acc2 : Sa), FI (progs (bit g) (rkf g) n) acc2.1 z2 → sstr row acc (prun g e.2 0 t) e = acc2 → f12_shortest_h51 N (zI i) nt (zI w) (m + 1) (zI z) (zI acc.2.1) (zI acc.2.2) (zI k) S = f12_shortest_h51 N (zI i) nt (zI w) m (zI z2) (zI acc2.2.1) (zI acc2.2.2) (zI ((k + 1 : Nat) : Int)) S2 →
        ∃ S2 S3, f12_shortest_h51 N (zI i) nt (zI w) (m + 1) (zI z) (zI acc.2.1) (zI acc.2.2) (zI k) S = some (zI (sansI (C.foldl (sst g row t) (sstr row acc (prun g e.2 0 t) e)) w), S3) ∧ (V15 S → V15 S2) ∧ Same rnP S S2 ∧ Same loP S2 S3 ∧ (∀ e2, (C.foldl (sst g row t) (sstr row acc (prun g e.2 0 t) e)).1 = some e2 → w = 0 → S3.1 146 8 = zI e2.2.length ∧ Held (S3.1 153) 0 e2.2) ∧ (¬ (w = 0 ∧ (C.foldl (sst g row t) (sstr row acc (prun g e.2 0 t) e)).1 ≠ none) → S3 = S2) := fun z2 acc2 hz2 ev eq => by
      have h1 : acc2.2.1 ≤ k + 1 := by rw [← ev]; omega
      have h2 : acc2.2.2 ≤ 1 := by rw [← ev]; exact hle.2 ha1
      obtain ⟨S4, S5, f1, f6, f2, f3, f4, f5⟩ := ih (A ++ [e]) (k + 1) m S2 acc2 z2 (by rw [hp]; simp) (by rw [hk]; simp) (by omega) hml2 hq2 hs2 h1 h2 hz2
      rw [ev]
      exact ⟨S4, S5, by rw [eq]; exact f1, fun _ => f6 (V15.of a2 i1), a4.tr f2, f3, f4, f5⟩
    -- no match
    have jno : ¬ ((prun g e.2 0 t).2.2 = 0 ∧ (prun g e.2 0 t).1.2.2.2.1.length = row.length ∧ lk (prun g e.2 0 t).1.2.2.2.1 row = row.length) → f12_shortest_h51 N (zI i) nt (zI w) (m + 1) (zI z) (zI acc.2.1) (zI acc.2.2) (zI k) S = f12_shortest_j124 N (zI i) nt (zI w) (zI z) (zI acc.2.1) (zI acc.2.2) (zI k) (zI (prun g e.2 0 t).2.2) (f12_shortest_h51 N (zI i) nt (zI w) m) S2 := fun c => by
      rw [f12_shortest_h51]
      by_cases c0 : (prun g e.2 0 t).2.2 = 0
      · by_cases c1 : (prun g e.2 0 t).1.2.2.2.1.length = row.length
        · by_cases c2 : lk (prun g e.2 0 t).1.2.2.2.1 row = row.length
          · exact absurd ⟨c0, c1, c2⟩ c
          · simp (disch := omega) only [h28, l1, hnt, a1, q8, r5, hal, nI_z, zI_add, zI_sub, zI_mul, zI_m1, ckI_z, zI_clamp, Int.toNat_natCast, bnd_some, lt, rd_same, rd_ne, rdL_same, rdL_ne, wI_2, wL_1, if_true, if_false, iT_lt, iF_lt, iT_lt0, iF_lt0, iT_0lt, iF_0lt, iT_le, iF_le, iT_le0, iF_le0, iT_0le, iF_0le, iT_eq, iF_eq, iT_eq0, iF_eq0]
        · simp (disch := omega) only [h28, l1, hnt, a1, q8, r5, nI_z, zI_add, zI_sub, zI_mul, zI_m1, ckI_z, zI_clamp, Int.toNat_natCast, bnd_some, lt, rd_same, rd_ne, rdL_same, rdL_ne, wI_2, wL_1, if_true, if_false, iT_lt, iF_lt, iT_lt0, iF_lt0, iT_0lt, iF_0lt, iT_le, iF_le, iT_le0, iF_le0, iT_0le, iF_0le, iT_eq, iF_eq, iT_eq0, iF_eq0]
      · simp (disch := omega) only [h28, l1, hnt, a1, nI_z, zI_add, zI_sub, zI_mul, zI_m1, ckI_z, zI_clamp, Int.toNat_natCast, bnd_some, lt, rd_same, rd_ne, rdL_same, rdL_ne, wI_2, wL_1, if_true, if_false, iT_lt, iF_lt, iT_lt0, iF_lt0, iT_0lt, iF_0lt, iT_le, iF_le, iT_le0, iF_le0, iT_0le, iF_0le, iT_eq, iF_eq, iT_eq0, iF_eq0]
    by_cases c1 : (prun g e.2 0 t).2.2 = 0 ∧ (prun g e.2 0 t).1.2.2.2.1.length = row.length ∧ lk (prun g e.2 0 t).1.2.2.2.1 row = row.length
    · obtain ⟨c1a, c1b, c1c⟩ := c1
      rw [c1a] at a1
      cases hac0 : acc.1 with
      | none =>
        rw [hac0] at hz
        have hz : z = -1 := hz
        subst hz
        have ev : sstr row acc (prun g e.2 0 t) e = (some e, acc.2.1 + 1, acc.2.2) := by
          unfold sstr
          rw [if_pos ⟨c1a, c1b, c1c⟩, hac0]
        refine go k (some e, acc.2.1 + 1, acc.2.2) ⟨k, rfl, hr⟩ ev ?_
        rw [f12_shortest_h51]
        by_cases s0 : acc.2.2 = 0
        · simp (disch := omega) only [h28, l1, hnt, a1, q8, r5, hal, f12_shortest_j119, f12_shortest_j124, f12_shortest_j144, f12_shortest_j140, f12_shortest_j145, s0, nI_z, zI_add, zI_sub, zI_mul, zI_m1, ckI_z, zI_clamp, Int.toNat_natCast, bnd_some, lt, rd_same, rd_ne, rdL_same, rdL_ne, wI_2, wL_1, if_true, if_false, iT_lt, iF_lt, iT_lt0, iF_lt0, iT_0lt, iF_0lt, iT_le, iF_le, iT_le0, iF_le0, iT_0le, iF_0le, iT_eq, iF_eq, iT_eq0, iF_eq0]
          rfl
        · have s1 : acc.2.2 = 1 := by omega
          simp (disch := omega) only [h28, l1, hnt, a1, q8, r5, hal, f12_shortest_j119, f12_shortest_j124, f12_shortest_j144, f12_shortest_j140, f12_shortest_j145, s1, nI_z, zI_add, zI_sub, zI_mul, zI_m1, ckI_z, zI_clamp, Int.toNat_natCast, bnd_some, lt, rd_same, rd_ne, rdL_same, rdL_ne, wI_2, wL_1, if_true, if_false, iT_lt, iF_lt, iT_lt0, iF_lt0, iT_0lt, iF_0lt, iT_le, iF_le, iT_le0, iF_le0, iT_0le, iF_0le, iT_eq, iF_eq, iT_eq0, iF_eq0]
          rfl
      | some f =>
        rw [hac0] at hz
        have hz' := hz
        obtain ⟨j, rfl, hj⟩ := hz
        have hjl := (List.getElem?_eq_some_iff.mp hj).1
        rw [hp, List.length_append, List.length_cons] at hjl
        have ev : sstr row acc (prun g e.2 0 t) e = (some f, acc.2.1 + 1, acc.2.2) := by
          unfold sstr
          rw [if_pos ⟨c1a, c1b, c1c⟩, hac0]
        refine go j (some f, acc.2.1 + 1, acc.2.2) hz' ev ?_
        rw [f12_shortest_h51]
        by_cases s0 : acc.2.2 = 0
        · simp (disch := omega) only [h28, l1, hnt, a1, q8, r5, hal, f12_shortest_j119, f12_shortest_j124, f12_shortest_j144, f12_shortest_j140, f12_shortest_j145, s0, nI_z, zI_add, zI_sub, zI_mul, zI_m1, ckI_z, zI_clamp, Int.toNat_natCast, bnd_some, lt, rd_same, rd_ne, rdL_same, rdL_ne, wI_2, wL_1, if_true, if_false, iT_lt, iF_lt, iT_lt0, iF_lt0, iT_0lt, iF_0lt, iT_le, iF_le, iT_le0, iF_le0, iT_0le, iF_0le, iT_eq, iF_eq, iT_eq0, iF_eq0]
          rfl
        · have s1 : acc.2.2 = 1 := by omega
          simp (disch := omega) only [h28, l1, hnt, a1, q8, r5, hal, f12_shortest_j119, f12_shortest_j124, f12_shortest_j144, f12_shortest_j140, f12_shortest_j145, s1, nI_z, zI_add, zI_sub, zI_mul, zI_m1, ckI_z, zI_clamp, Int.toNat_natCast, bnd_some, lt, rd_same, rd_ne, rdL_same, rdL_ne, wI_2, wL_1, if_true, if_false, iT_lt, iF_lt, iT_lt0, iF_lt0, iT_0lt, iF_0lt, iT_le, iF_le, iT_le0, iF_le0, iT_0le, iF_0le, iT_eq, iF_eq, iT_eq0, iF_eq0]
          rfl
    · have hj := jno c1
      cases hac0 : acc.1 with
      | none =>
        rw [hac0] at hz
        have hz' := hz
        have hz : z = -1 := hz
        subst hz
        by_cases c2 : (prun g e.2 0 t).2.2 = 2
        · have ev : sstr row acc (prun g e.2 0 t) e = (acc.1, acc.2.1, 0) := by
            unfold sstr
            rw [if_neg c1, if_pos ⟨hac0, c2⟩]
          refine go (-1) _ (by rw [hac0]; rfl) ev ?_
          rw [hj, c2]
          by_cases s0 : acc.2.2 = 0
          · simp (disch := omega) only [f12_shortest_j124, f12_shortest_j144, f12_shortest_j140, f12_shortest_j145, s0, nI_z, zI_add, zI_sub, zI_mul, zI_m1, ckI_z, zI_clamp, Int.toNat_natCast, bnd_some, lt, rd_same, rd_ne, rdL_same, rdL_ne, wI_2, wL_1, if_true, if_false, iT_lt, iF_lt, iT_lt0, iF_lt0, iT_0lt, iF_0lt, iT_le, iF_le, iT_le0, iF_le0, iT_0le, iF_0le, iT_eq, iF_eq, iT_eq0, iF_eq0]
            rfl
          · have s1 : acc.2.2 = 1 := by omega
            simp (disch := omega) only [f12_shortest_j124, f12_shortest_j144, f12_shortest_j140, f12_shortest_j145, s1, nI_z, zI_add, zI_sub, zI_mul, zI_m1, ckI_z, zI_clamp, Int.toNat_natCast, bnd_some, lt, rd_same, rd_ne, rdL_same, rdL_ne, wI_2, wL_1, if_true, if_false, iT_lt, iF_lt, iT_lt0, iF_lt0, iT_0lt, iF_0lt, iT_le, iF_le, iT_le0, iF_le0, iT_0le, iF_0le, iT_eq, iF_eq, iT_eq0, iF_eq0]
            rfl
        · have ev : sstr row acc (prun g e.2 0 t) e = acc := by
            unfold sstr
            rw [if_neg c1, if_neg (fun q => c2 q.2)]
          refine go (-1) acc (by rw [hac0]; rfl) ev ?_
          rw [hj]
          by_cases s0 : acc.2.2 = 0
          · simp (disch := omega) only [f12_shortest_j124, f12_shortest_j144, f12_shortest_j140, f12_shortest_j145, s0, nI_z, zI_add, zI_sub, zI_mul, zI_m1, ckI_z, zI_clamp, Int.toNat_natCast, bnd_some, lt, rd_same, rd_ne, rdL_same, rdL_ne, wI_2, wL_1, if_true, if_false, iT_lt, iF_lt, iT_lt0, iF_lt0, iT_0lt, iF_0lt, iT_le, iF_le, iT_le0, iF_le0, iT_0le, iF_0le, iT_eq, iF_eq, iT_eq0, iF_eq0]
            rfl
          · have s1 : acc.2.2 = 1 := by omega
            simp (disch := omega) only [f12_shortest_j124, f12_shortest_j144, f12_shortest_j140, f12_shortest_j145, s1, nI_z, zI_add, zI_sub, zI_mul, zI_m1, ckI_z, zI_clamp, Int.toNat_natCast, bnd_some, lt, rd_same, rd_ne, rdL_same, rdL_ne, wI_2, wL_1, if_true, if_false, iT_lt, iF_lt, iT_lt0, iF_lt0, iT_0lt, iF_0lt, iT_le, iF_le, iT_le0, iF_le0, iT_0le, iF_0le, iT_eq, iF_eq, iT_eq0, iF_eq0]
            rfl
      | some f =>
        have hz0 := hz
        rw [hac0] at hz
        obtain ⟨j, rfl, hjj⟩ := hz
        have hjl := (List.getElem?_eq_some_iff.mp hjj).1
        rw [hp, List.length_append, List.length_cons] at hjl
        have ev : sstr row acc (prun g e.2 0 t) e = acc := by
          unfold sstr
          rw [if_neg c1, if_neg (fun q => by rw [hac0] at q; cases q.1)]
        refine go j acc hz0 ev ?_
        rw [hj]
        by_cases s0 : acc.2.2 = 0
        · simp (disch := omega) only [f12_shortest_j124, f12_shortest_j144, f12_shortest_j140, f12_shortest_j145, s0, nI_z, zI_add, zI_sub, zI_mul, zI_m1, ckI_z, zI_clamp, Int.toNat_natCast, bnd_some, lt, rd_same, rd_ne, rdL_same, rdL_ne, wI_2, wL_1, if_true, if_false, iT_lt, iF_lt, iT_lt0, iF_lt0, iT_0lt, iF_0lt, iT_le, iF_le, iT_le0, iF_le0, iT_0le, iF_0le, iT_eq, iF_eq, iT_eq0, iF_eq0]
          rfl
        · have s1 : acc.2.2 = 1 := by omega
          simp (disch := omega) only [f12_shortest_j124, f12_shortest_j144, f12_shortest_j140, f12_shortest_j145, s1, nI_z, zI_add, zI_sub, zI_mul, zI_m1, ckI_z, zI_clamp, Int.toNat_natCast, bnd_some, lt, rd_same, rd_ne, rdL_same, rdL_ne, wI_2, wL_1, if_true, if_false, iT_lt, iF_lt, iT_lt0, iF_lt0, iT_0lt, iF_0lt, iT_le, iF_le, iT_le0, iF_le0, iT_0le, iF_0le, iT_eq, iF_eq, iT_eq0, iF_eq0]
          rfl
