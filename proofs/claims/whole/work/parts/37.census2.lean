/-! census: the reference, and the call. -/
theorem sure_loop {N n : Nat} (hn : n ≤ 14) (a b : Int32) : ∀ (m k f : Nat), k + m = n → m < f → ∃ r, ∀ S, f2_sureBits_h33 N (zI n) a b f (zI k) S = some (r, S) ∧ f12_sureBits_h33 N (zI n) a b f (zI k) S = some (r, S) := by
  intro m
  induction m with
  | zero =>
    intro k f hk hf
    obtain ⟨f, rfl⟩ : ∃ z, f = z + 1 := ⟨f - 1, by omega⟩
    refine ⟨zI k, fun S => ⟨?_, ?_⟩⟩
    · rw [f2_sureBits_h33]; simp (disch := omega) only [nI_z, zI_add, zI_sub, zI_mul, zI_m1, ckI_z, zI_clamp, Int.toNat_natCast, bnd_some, lt, rd_same, rd_ne, rdL_same, rdL_ne, wI_2, wL_1, if_true, if_false, iT_lt, iF_lt, iT_lt0, iF_lt0, iT_0lt, iF_0lt, iT_le, iF_le, iT_le0, iF_le0, iT_0le, iF_0le, iT_eq, iF_eq, iT_eq0, iF_eq0]
    · rw [f12_sureBits_h33]; simp (disch := omega) only [nI_z, zI_add, zI_sub, zI_mul, zI_m1, ckI_z, zI_clamp, Int.toNat_natCast, bnd_some, lt, rd_same, rd_ne, rdL_same, rdL_ne, wI_2, wL_1, if_true, if_false, iT_lt, iF_lt, iT_lt0, iF_lt0, iT_0lt, iF_0lt, iT_le, iF_le, iT_le0, iF_le0, iT_0le, iF_0le, iT_eq, iF_eq, iT_eq0, iF_eq0]
  | succ m ih =>
    intro k f hk hf
    obtain ⟨f, rfl⟩ : ∃ z, f = z + 1 := ⟨f - 1, by omega⟩
    obtain ⟨r, hr⟩ := ih (k + 1) f (by omega) (by omega)
    have hz : zI (k : Int) + nI 1 = zI ((k + 1 : Nat) : Int) := by rw [nI_z, zI_add]; rfl
    by_cases e : shrI a (((zI n) - (nI 1)) - (zI k)) = shrI b (((zI n) - (nI 1)) - (zI k))
    · refine ⟨r, fun S => ⟨?_, ?_⟩⟩
      · rw [f2_sureBits_h33, if_neg (by rw [zI_le (by omega) (by omega)]; omega), if_pos e, hz]
        exact (hr S).1
      · rw [f12_sureBits_h33, if_neg (by rw [zI_le (by omega) (by omega)]; omega), if_pos e, hz]
        exact (hr S).2
    · refine ⟨zI k, fun S => ⟨?_, ?_⟩⟩
      · rw [f2_sureBits_h33, if_neg (by rw [zI_le (by omega) (by omega)]; omega), if_neg e]
      · rw [f12_sureBits_h33, if_neg (by rw [zI_le (by omega) (by omega)]; omega), if_neg e]
theorem sure_both {N n low us : Nat} (hN : 20 ≤ N) (hn : n ≤ 14) (hl : low + us < 2147483648) : ∃ r, (∀ S, f12_sureBits N (zI n) (zI low) (zI low + zI us) S = some (r, S)) ∧ ∀ S, S.1 32 6 = zI low → S.1 32 7 = zI us → f2_sureBits N (zI n) S = some (r, S) := by
  have h2 : 2 ^ n ≤ 2 ^ 14 := Nat.pow_le_pow_right (by omega) hn
  have h20 : 1 ≤ 2 ^ n := Nat.one_le_two_pow
  have q := zI_shl (c := 1) (s := n) (by omega) (by omega)
  rw [Nat.one_mul] at q
  have hv : shlI (nI 1) (zI n) - nI 1 = zI ((2 ^ n - 1 : Nat) : Int) := by
    rw [nI_z, q, zI_sub]
    congr 1
    omega
  have hmin : ∀ a b : Nat, a < 2147483648 → b < 2147483648 → minI (zI a) (zI b) = zI ((if a ≤ b then a else b : Nat) : Int) := fun a b ha hb => by
    unfold minI
    by_cases e : a ≤ b
    · rw [if_pos e]; simp (disch := omega) only [nI_z, zI_add, zI_sub, zI_mul, zI_m1, ckI_z, zI_clamp, Int.toNat_natCast, bnd_some, lt, rd_same, rd_ne, rdL_same, rdL_ne, wI_2, wL_1, if_true, if_false, iT_lt, iF_lt, iT_lt0, iF_lt0, iT_0lt, iF_0lt, iT_le, iF_le, iT_le0, iF_le0, iT_0le, iF_0le, iT_eq, iF_eq, iT_eq0, iF_eq0]
    · rw [if_neg e]; simp (disch := omega) only [nI_z, zI_add, zI_sub, zI_mul, zI_m1, ckI_z, zI_clamp, Int.toNat_natCast, bnd_some, lt, rd_same, rd_ne, rdL_same, rdL_ne, wI_2, wL_1, if_true, if_false, iT_lt, iF_lt, iT_lt0, iF_lt0, iT_0lt, iF_0lt, iT_le, iF_le, iT_le0, iF_le0, iT_0le, iF_0le, iT_eq, iF_eq, iT_eq0, iF_eq0]
  obtain ⟨r, hr⟩ := sure_loop (N := N) hn (zI ((if low ≤ 2 ^ n - 1 then low else 2 ^ n - 1 : Nat) : Int)) (zI ((if low + us ≤ 2 ^ n - 1 then low + us else 2 ^ n - 1 : Nat) : Int)) n 0 N (by omega) (by omega)
  refine ⟨r, fun S => ?_, fun S h6 h7 => ?_⟩
  · unfold f12_sureBits
    rw [hv]
    have hz : zI ((low : Int) + (us : Int)) = zI ((low + us : Nat) : Int) := rfl
    by_cases e : low ≤ 2 ^ n - 1
    · by_cases e2 : low + us ≤ 2 ^ n - 1
      · rw [if_pos e, if_pos e2] at hr
        simp (disch := omega) only [f12_sureBits_j16, f12_sureBits_j28, nI_z, zI_add, zI_sub, zI_mul, zI_m1, ckI_z, zI_clamp, Int.toNat_natCast, bnd_some, lt, rd_same, rd_ne, rdL_same, rdL_ne, wI_2, wL_1, if_true, if_false, iT_lt, iF_lt, iT_lt0, iF_lt0, iT_0lt, iF_0lt, iT_le, iF_le, iT_le0, iF_le0, iT_0le, iF_0le, iT_eq, iF_eq, iT_eq0, iF_eq0]
        rw [hz]
        exact (hr S).2
      · rw [if_pos e, if_neg e2] at hr
        simp (disch := omega) only [f12_sureBits_j16, f12_sureBits_j28, nI_z, zI_add, zI_sub, zI_mul, zI_m1, ckI_z, zI_clamp, Int.toNat_natCast, bnd_some, lt, rd_same, rd_ne, rdL_same, rdL_ne, wI_2, wL_1, if_true, if_false, iT_lt, iF_lt, iT_lt0, iF_lt0, iT_0lt, iF_0lt, iT_le, iF_le, iT_le0, iF_le0, iT_0le, iF_0le, iT_eq, iF_eq, iT_eq0, iF_eq0]
        exact (hr S).2
    · have e2 : ¬ low + us ≤ 2 ^ n - 1 := by omega
      rw [if_neg e, if_neg e2] at hr
      simp (disch := omega) only [f12_sureBits_j16, f12_sureBits_j28, nI_z, zI_add, zI_sub, zI_mul, zI_m1, ckI_z, zI_clamp, Int.toNat_natCast, bnd_some, lt, rd_same, rd_ne, rdL_same, rdL_ne, wI_2, wL_1, if_true, if_false, iT_lt, iF_lt, iT_lt0, iF_lt0, iT_0lt, iF_0lt, iT_le, iF_le, iT_le0, iF_le0, iT_0le, iF_0le, iT_eq, iF_eq, iT_eq0, iF_eq0]
      exact (hr S).2
  · unfold f2_sureBits
    rw [hv, h6, h7]
    simp only [lt]
    rw [zI_add, show zI ((low : Int) + (us : Int)) = zI ((low + us : Nat) : Int) from rfl, hmin low _ (by omega) (by omega), hmin (low + us) _ (by omega) (by omega)]
    exact (hr S).1
/-- what the call answers: tot programs, r6 sure bits -/
def cvI (A : Ca) (tot : Nat) (r6 : Int32) (w : Int) : Int32 :=
  if w = 0 then zI tot else if w = 1 then zI A.1 else if w = 2 then zI A.2.1 else if w = 3 then zI A.2.2.1 else if w = 4 then zI A.2.2.2.1 else if w = 5 then zI A.2.2.2.2.1 else r6
/-- the reference's three counts -/
def TM (S : St) (ta : Nat) (A : Ca) : Prop := S.1 (174 + ta) 0 = zI A.1 ∧ S.1 (174 + ta) 1 = zI A.2.1 ∧ S.1 (174 + ta) 2 = zI A.2.2.1
theorem f12_census_end {N n k ta m i : Nat} {w z : Int} {nt x3 : Int32} {S : St} {g : Lg} {A : Ca} {r6 : Int32} (hg : LV g) (hN : 100000 ≤ N) (hn : n ≤ 14) (hw : 0 ≤ w ∧ w ≤ 6) (hk : k ≤ 16384) (h28 : S.1 146 28 = zI k) (hz : FI (progs (bit g) (rkf g) n) A.2.2.2.2.2.2 z) (hq : LQ S (plist g n)) (ht : TM S ta A) (h6 : ∀ S, f12_sureBits N (zI n) (zI A.2.2.2.2.1) (zI A.2.2.2.2.1 + zI A.2.2.2.2.2.1) S = some (r6, S)) :
    ∃ S2, f12_census_h88 ta N (zI i) nt x3 (zI w) (zI n) (m + 1) (zI A.2.2.2.2.1) (zI A.2.2.2.2.2.1) (zI A.2.2.2.1) (zI z) (zI k) S = some ((cvI A k r6 w, ta + 1), S2) ∧ Same loP S S2 ∧ (∀ e, A.2.2.2.2.2.2 = some e → w = 4 → S2.1 146 8 = zI e.2.length ∧ Held (S2.1 153) 0 e.2) ∧ (¬ (w = 4 ∧ A.2.2.2.2.2.2 ≠ none) → S2 = S) := by
  obtain ⟨t1, t2, t3⟩ := ht
  unfold cvI
  by_cases w0 : w = 0
  · refine ⟨S, ?_, Same.rfl', fun e _ q => absurd q (by omega), fun _ => rfl⟩
    rw [if_pos w0, f12_census_h88]
    simp (disch := omega) only [h28, sw_t, sw_f, sw_n, nI_z, zI_add, zI_sub, zI_mul, zI_m1, ckI_z, zI_clamp, Int.toNat_natCast, bnd_some, lt, rd_same, rd_ne, rdL_same, rdL_ne, wI_2, wL_1, if_true, if_false, iT_lt, iF_lt, iT_lt0, iF_lt0, iT_0lt, iF_0lt, iT_le, iF_le, iT_le0, iF_le0, iT_0le, iF_0le, iT_eq, iF_eq, iT_eq0, iF_eq0]
  rw [if_neg w0]
  by_cases w1 : w = 1
  · subst w1
    refine ⟨S, ?_, Same.rfl', fun e _ q => absurd q (by omega), fun _ => rfl⟩
    rw [if_pos rfl, f12_census_h88]
    simp (disch := omega) only [h28, sw_t, sw_f, sw_n, f12_census_j288, nI_z, zI_add, zI_sub, zI_mul, zI_m1, ckI_z, zI_clamp, Int.toNat_natCast, bnd_some, lt, rd_same, rd_ne, rdL_same, rdL_ne, wI_2, wL_1, if_true, if_false, iT_lt, iF_lt, iT_lt0, iF_lt0, iT_0lt, iF_0lt, iT_le, iF_le, iT_le0, iF_le0, iT_0le, iF_0le, iT_eq, iF_eq, iT_eq0, iF_eq0]
    exact congrArg some (Prod.ext (Prod.ext t1 rfl) rfl)
  rw [if_neg w1]
  by_cases w2 : w = 2
  · subst w2
    refine ⟨S, ?_, Same.rfl', fun e _ q => absurd q (by omega), fun _ => rfl⟩
    rw [if_pos rfl, f12_census_h88]
    simp (disch := omega) only [h28, sw_t, sw_f, sw_n, f12_census_j288, nI_z, zI_add, zI_sub, zI_mul, zI_m1, ckI_z, zI_clamp, Int.toNat_natCast, bnd_some, lt, rd_same, rd_ne, rdL_same, rdL_ne, wI_2, wL_1, if_true, if_false, iT_lt, iF_lt, iT_lt0, iF_lt0, iT_0lt, iF_0lt, iT_le, iF_le, iT_le0, iF_le0, iT_0le, iF_0le, iT_eq, iF_eq, iT_eq0, iF_eq0]
    exact congrArg some (Prod.ext (Prod.ext t2 rfl) rfl)
  rw [if_neg w2]
  by_cases w3 : w = 3
  · subst w3
    refine ⟨S, ?_, Same.rfl', fun e _ q => absurd q (by omega), fun _ => rfl⟩
    rw [if_pos rfl, f12_census_h88]
    simp (disch := omega) only [h28, sw_t, sw_f, sw_n, f12_census_j288, nI_z, zI_add, zI_sub, zI_mul, zI_m1, ckI_z, zI_clamp, Int.toNat_natCast, bnd_some, lt, rd_same, rd_ne, rdL_same, rdL_ne, wI_2, wL_1, if_true, if_false, iT_lt, iF_lt, iT_lt0, iF_lt0, iT_0lt, iF_0lt, iT_le, iF_le, iT_le0, iF_le0, iT_0le, iF_0le, iT_eq, iF_eq, iT_eq0, iF_eq0]
    exact congrArg some (Prod.ext (Prod.ext t3 rfl) rfl)
  rw [if_neg w3]
  by_cases w4 : w = 4
  · rw [if_pos w4]
    cases hA0 : A.2.2.2.2.2.2 with
    | none =>
      rw [hA0] at hz
      have hz : z = -1 := hz
      refine ⟨S, ?_, Same.rfl', fun e q => (by cases q), fun _ => rfl⟩
      rw [f12_census_h88]
      simp (disch := omega) only [h28, sw_t, sw_f, sw_n, nI_z, zI_add, zI_sub, zI_mul, zI_m1, ckI_z, zI_clamp, Int.toNat_natCast, bnd_some, lt, rd_same, rd_ne, rdL_same, rdL_ne, wI_2, wL_1, if_true, if_false, iT_lt, iF_lt, iT_lt0, iF_lt0, iT_0lt, iF_0lt, iT_le, iF_le, iT_le0, iF_le0, iT_0le, iF_0le, iT_eq, iF_eq, iT_eq0, iF_eq0]
    | some e =>
      rw [hA0] at hz
      obtain ⟨j, rfl, hj⟩ := hz
      have hjl := (List.getElem?_eq_some_iff.mp hj).1
      have hcap := progs_cap (A := []) (C := progs (bit g) (rkf g) n) hg hn rfl
      rw [List.length_nil, Nat.zero_add] at hcap
      have hpj : (plist g n)[j]? = some (pack e.2, e.1) := by unfold plist; rw [List.getElem?_map, hj]; rfl
      obtain ⟨l1, l2⟩ := hq.2 j _ hpj
      obtain ⟨b1, b2, b3⟩ := progs_mem (List.mem_of_getElem? hj)
      obtain ⟨c1, c2, c3⟩ := comp_mem hg 12 e.1 e.2 b3
      have hgl := hg.len
      obtain ⟨S2, e1, e2, e3, e4⟩ := f12_lookAt_ok (N := N) (S := S) (by omega) c2 c1 (fun x hx => by have := c2.2.1 x hx; omega)
      refine ⟨S2, ?_, e4, fun f q _ => by injection q with q; rw [← q]; exact ⟨e2, e3⟩, fun q => absurd ⟨by omega, by simp⟩ q⟩
      rw [f12_census_h88]
      simp (disch := omega) only [h28, sw_t, sw_f, sw_n, l1, e1, nI_z, zI_add, zI_sub, zI_mul, zI_m1, ckI_z, zI_clamp, Int.toNat_natCast, bnd_some, lt, rd_same, rd_ne, rdL_same, rdL_ne, wI_2, wL_1, if_true, if_false, iT_lt, iF_lt, iT_lt0, iF_lt0, iT_0lt, iF_0lt, iT_le, iF_le, iT_le0, iF_le0, iT_0le, iF_0le, iT_eq, iF_eq, iT_eq0, iF_eq0]
  rw [if_neg w4]
  by_cases w5 : w = 5
  · refine ⟨S, ?_, Same.rfl', fun e _ q => absurd q (by omega), fun _ => rfl⟩
    rw [if_pos w5, f12_census_h88]
    simp (disch := omega) only [h28, sw_t, sw_f, sw_n, nI_z, zI_add, zI_sub, zI_mul, zI_m1, ckI_z, zI_clamp, Int.toNat_natCast, bnd_some, lt, rd_same, rd_ne, rdL_same, rdL_ne, wI_2, wL_1, if_true, if_false, iT_lt, iF_lt, iT_lt0, iF_lt0, iT_0lt, iF_0lt, iT_le, iF_le, iT_le0, iF_le0, iT_0le, iF_0le, iT_eq, iF_eq, iT_eq0, iF_eq0]
  · refine ⟨S, ?_, Same.rfl', fun e _ q => absurd q (by omega), fun _ => rfl⟩
    have h6' := h6 S
    rw [zI_add] at h6'
    rw [if_neg w5, f12_census_h88]
    simp (disch := omega) only [h28, sw_t, sw_f, sw_n, h6', nI_z, zI_add, zI_sub, zI_mul, zI_m1, ckI_z, zI_clamp, Int.toNat_natCast, bnd_some, lt, rd_same, rd_ne, rdL_same, rdL_ne, wI_2, wL_1, if_true, if_false, iT_lt, iF_lt, iT_lt0, iF_lt0, iT_0lt, iF_0lt, iT_le, iF_le, iT_le0, iF_le0, iT_0le, iF_0le, iT_eq, iF_eq, iT_eq0, iF_eq0]
def tmP (ta : Nat) (c k : Nat) : Prop := rnP c k ∨ c = 174 + ta
theorem f12_census_loop {N i x t n ta : Nat} {w : Int} {nt r6 : Int32} {g : Lg} (hg : LV g) (hi : i < 6) (hN : 100000 ≤ N) (hn : n ≤ 14) (hx : x < 1000) (ht : t ≤ 4198) (hw : 0 ≤ w ∧ w ≤ 6) (hnt : remI nt (zI ((1000 : Nat) : Int)) = zI t) : ∀ (C A : List (Nat × List Nat)) (k m : Nat) (S : St) (acc : Ca) (z : Int), progs (bit g) (rkf g) n = A ++ C → k = A.length → C.length < m → ML S i g → LQ S (plist g n) → TM S ta acc → acc.2.2.2.1 ≤ 100000 → FI (progs (bit g) (rkf g) n) acc.2.2.2.2.2.2 z → (∀ S, f12_sureBits N (zI n) (zI (C.foldl (cens1 g x n t) acc).2.2.2.2.1) (zI (C.foldl (cens1 g x n t) acc).2.2.2.2.1 + zI (C.foldl (cens1 g x n t) acc).2.2.2.2.2.1) S = some (r6, S)) →
    ∃ S2 S3, f12_census_h88 ta N (zI i) nt (zI x) (zI w) (zI n) m (zI acc.2.2.2.2.1) (zI acc.2.2.2.2.2.1) (zI acc.2.2.2.1) (zI z) (zI k) S = some ((cvI (C.foldl (cens1 g x n t) acc) (k + C.length) r6 w, ta + 1), S3) ∧ (V15 S → V15 S2) ∧ Same (tmP ta) S S2 ∧ Same loP S2 S3 ∧ (∀ e, (C.foldl (cens1 g x n t) acc).2.2.2.2.2.2 = some e → w = 4 → S3.1 146 8 = zI e.2.length ∧ Held (S3.1 153) 0 e.2) ∧ (¬ (w = 4 ∧ (C.foldl (cens1 g x n t) acc).2.2.2.2.2.2 ≠ none) → S3 = S2) := by
  intro C
  induction C with
  | nil =>
    intro A k m S acc z hp hk hm hml hq htm ha1 hz h6
    obtain ⟨m, rfl⟩ : ∃ z, m = z + 1 := ⟨m - 1, by omega⟩
    have hcap := progs_cap hg hn hp
    have h28 := plist_end hp hk hq
    obtain ⟨S3, b1, b2, b3, b4⟩ := f12_census_end (N := N) (i := i) (nt := nt) (m := m) (x3 := zI x) hg hN hn hw (by rw [List.length_nil] at hcap; omega : k ≤ 16384) h28 hz hq htm h6
    exact ⟨S, S3, b1, fun q => q, Same.rfl', b2, b3, b4⟩
  | cons e C ih =>
    intro A k m S acc z hp hk hm hml hq htm ha1 hz h6
    obtain ⟨m, rfl⟩ : ∃ z, m = z + 1 := ⟨m - 1, by omega⟩
    have hcap := progs_cap hg hn hp
    obtain ⟨p1, p2, p3, p4, p5⟩ := progs_wp hg hp
    rw [List.length_cons] at hm hcap
    obtain ⟨h28, l1, l2, hr⟩ := plist_at hp hk hq
    obtain ⟨i1, i2, i3⟩ := prun_MI (g := g) (p := e.2) (x := x) (t := t) hx
    obtain ⟨S2, a1, a2, a3, a4⟩ := f12_runFor_ok (N := N) (x := x) (t := t) hN hg hi p3 p4 hml hx (by omega) (by omega)
    have hml2 := hml.rn hg a4
    have hq2 := hq.same a4 (fun c k z => by unfold liP at z; unfold rnP; omega)
    obtain ⟨t1, t2, t3⟩ := htm
    have r174 : ∀ j, S2.1 (174 + ta) j = S.1 (174 + ta) j := fun j => a4.i (by unfold rnP; omega)
    have u1 : S2.1 (174 + ta) 0 = zI acc.1 := by rw [r174]; exact t1
    have u2 : S2.1 (174 + ta) 1 = zI acc.2.1 := by rw [r174]; exact t2
    have u3 : S2.1 (174 + ta) 2 = zI acc.2.2.1 := by rw [r174]; exact t3
    have v161 : S2.1 161 k = zI e.1 := by rw [a4.i (by unfold rnP; omega)]; exact l2
    have q14 := a2.2.2.1
    have hle := cstr_facts (A := acc) (r := prun g e.2 x t) (wt := 2 ^ (n - e.1)) (e := e) (by omega) i2 ha1
    have hmod : cens1 g x n t acc e = cstr acc (prun g e.2 x t) (2 ^ (n - e.1)) e := rfl
    rw [List.foldl_cons, hmod] at h6 ⊢
    have hlen : k + (e :: C).length = (k + 1) + C.length := by rw [List.length_cons]; omega
    rw [hlen]
    have go : ∀ (S3 : St) (z2 : Int) (acc2 : Ca), Same (fun c _ => c = 174 + ta) S2 S3 → TM S3 ta acc2 → FI (progs (bit g) (rkf g) n) acc2.2.2.2.2.2.2 z2 → cstr acc (prun g e.2 x t) (2 ^ (n - e.1)) e = acc2 → f12_census_h88 ta N (zI i) nt (zI x) (zI w) (zI n) (m + 1) (zI acc.2.2.2.2.1) (zI acc.2.2.2.2.2.1) (zI acc.2.2.2.1) (zI z) (zI k) S = f12_census_h88 ta N (zI i) nt (zI x) (zI w) (zI n) m (zI acc2.2.2.2.2.1) (zI acc2.2.2.2.2.2.1) (zI acc2.2.2.2.1) (zI z2) (zI ((k + 1 : Nat) : Int)) S3 →
        ∃ S2 S3, f12_census_h88 ta N (zI i) nt (zI x) (zI w) (zI n) (m + 1) (zI acc.2.2.2.2.1) (zI acc.2.2.2.2.2.1) (zI acc.2.2.2.1) (zI z) (zI k) S = some ((cvI (C.foldl (cens1 g x n t) (cstr acc (prun g e.2 x t) (2 ^ (n - e.1)) e)) (k + 1 + C.length) r6 w, ta + 1), S3) ∧ (V15 S → V15 S2) ∧ Same (tmP ta) S S2 ∧ Same loP S2 S3 ∧ (∀ e2, (C.foldl (cens1 g x n t) (cstr acc (prun g e.2 x t) (2 ^ (n - e.1)) e)).2.2.2.2.2.2 = some e2 → w = 4 → S3.1 146 8 = zI e2.2.length ∧ Held (S3.1 153) 0 e2.2) ∧ (¬ (w = 4 ∧ (C.foldl (cens1 g x n t) (cstr acc (prun g e.2 x t) (2 ^ (n - e.1)) e)).2.2.2.2.2.2 ≠ none) → S3 = S2) := fun S3 z2 acc2 s3 htm3 hz2 ev eq => by
      have h1 : acc2.2.2.2.1 ≤ 100000 := by rw [← ev]; exact hle.1
      rw [ev] at h6 ⊢
      have hml3 : ML S3 i g := hml2.same hg s3 (fun c p _ _ _ => by omega) (fun p _ _ => by omega) (fun p _ _ => by omega) (by omega)
      obtain ⟨S4, S5, f1, f6, f2, f3, f4, f5⟩ := ih (A ++ [e]) (k + 1) m S3 acc2 z2 (by rw [hp]; simp) (by rw [hk]; simp) (by omega) hml3 (hq2.same s3 (fun c k z => by unfold liP at z; omega)) htm3 h1 hz2 h6
      exact ⟨S4, S5, by rw [eq]; exact f1, fun _ => f6 ((V15.of a2 i1).same s3 (by omega)), ((a4.mono (fun c k z => Or.inl z)).tr (s3.mono (fun c k z => Or.inr z))).tr f2, f3, f4, f5⟩
    by_cases c1 : (prun g e.2 x t).2.2 = 1
    · rw [c1] at a1
      have s3 : Same (fun c _ => c = 174 + ta) S2 (wI S2 (174 + ta) 1 (zI ((acc.2.1 : Int) + ((1 : Nat) : Int)))) := (Same.rfl' (P := fun c _ => c = 174 + ta)).wI rfl
      refine go _ z (acc.1, acc.2.1 + 1, acc.2.2.1, acc.2.2.2.1, acc.2.2.2.2.1, acc.2.2.2.2.2.1, acc.2.2.2.2.2.2) s3 ⟨by simp (disch := omega) only [u1, nI_z, zI_add, zI_sub, zI_mul, zI_m1, ckI_z, zI_clamp, Int.toNat_natCast, bnd_some, lt, rd_same, rd_ne, rdL_same, rdL_ne, wI_2, wL_1, if_true, if_false, iT_lt, iF_lt, iT_lt0, iF_lt0, iT_0lt, iF_0lt, iT_le, iF_le, iT_le0, iF_le0, iT_0le, iF_0le, iT_eq, iF_eq, iT_eq0, iF_eq0], by simp (disch := omega) only [nI_z, zI_add, zI_sub, zI_mul, zI_m1, ckI_z, zI_clamp, Int.toNat_natCast, bnd_some, lt, rd_same, rd_ne, rdL_same, rdL_ne, wI_2, wL_1, if_true, if_false, iT_lt, iF_lt, iT_lt0, iF_lt0, iT_0lt, iF_0lt, iT_le, iF_le, iT_le0, iF_le0, iT_0le, iF_0le, iT_eq, iF_eq, iT_eq0, iF_eq0]; rfl, by simp (disch := omega) only [u3, nI_z, zI_add, zI_sub, zI_mul, zI_m1, ckI_z, zI_clamp, Int.toNat_natCast, bnd_some, lt, rd_same, rd_ne, rdL_same, rdL_ne, wI_2, wL_1, if_true, if_false, iT_lt, iF_lt, iT_lt0, iF_lt0, iT_0lt, iF_0lt, iT_le, iF_le, iT_le0, iF_le0, iT_0le, iF_0le, iT_eq, iF_eq, iT_eq0, iF_eq0]⟩ hz (by unfold cstr; rw [if_pos c1]) ?_
      rw [f12_census_h88]
      simp (disch := omega) only [h28, l1, hnt, a1, u2, v161, sh1 p2 hn, f12_census_j153, f12_census_j170, nI_z, zI_add, zI_sub, zI_mul, zI_m1, ckI_z, zI_clamp, Int.toNat_natCast, bnd_some, lt, rd_same, rd_ne, rdL_same, rdL_ne, wI_2, wL_1, if_true, if_false, iT_lt, iF_lt, iT_lt0, iF_lt0, iT_0lt, iF_0lt, iT_le, iF_le, iT_le0, iF_le0, iT_0le, iF_0le, iT_eq, iF_eq, iT_eq0, iF_eq0]
      rw [show (acc.2.2.2.2.1 : Int) + ((0 : Nat) : Int) = (acc.2.2.2.2.1 : Int) by omega, show (acc.2.2.2.2.2.1 : Int) + ((0 : Nat) : Int) = (acc.2.2.2.2.2.1 : Int) by omega]
      rfl
    · by_cases c2 : (prun g e.2 x t).2.2 = 2
      · rw [c2] at a1
        have s3 : Same (fun c _ => c = 174 + ta) S2 (wI S2 (174 + ta) 2 (zI ((acc.2.2.1 : Int) + ((1 : Nat) : Int)))) := (Same.rfl' (P := fun c _ => c = 174 + ta)).wI rfl
        refine go _ z (acc.1, acc.2.1, acc.2.2.1 + 1, acc.2.2.2.1, acc.2.2.2.2.1, acc.2.2.2.2.2.1 + 2 ^ (n - e.1), acc.2.2.2.2.2.2) s3 ⟨by simp (disch := omega) only [u1, nI_z, zI_add, zI_sub, zI_mul, zI_m1, ckI_z, zI_clamp, Int.toNat_natCast, bnd_some, lt, rd_same, rd_ne, rdL_same, rdL_ne, wI_2, wL_1, if_true, if_false, iT_lt, iF_lt, iT_lt0, iF_lt0, iT_0lt, iF_0lt, iT_le, iF_le, iT_le0, iF_le0, iT_0le, iF_0le, iT_eq, iF_eq, iT_eq0, iF_eq0], by simp (disch := omega) only [u2, nI_z, zI_add, zI_sub, zI_mul, zI_m1, ckI_z, zI_clamp, Int.toNat_natCast, bnd_some, lt, rd_same, rd_ne, rdL_same, rdL_ne, wI_2, wL_1, if_true, if_false, iT_lt, iF_lt, iT_lt0, iF_lt0, iT_0lt, iF_0lt, iT_le, iF_le, iT_le0, iF_le0, iT_0le, iF_0le, iT_eq, iF_eq, iT_eq0, iF_eq0], by simp (disch := omega) only [nI_z, zI_add, zI_sub, zI_mul, zI_m1, ckI_z, zI_clamp, Int.toNat_natCast, bnd_some, lt, rd_same, rd_ne, rdL_same, rdL_ne, wI_2, wL_1, if_true, if_false, iT_lt, iF_lt, iT_lt0, iF_lt0, iT_0lt, iF_0lt, iT_le, iF_le, iT_le0, iF_le0, iT_0le, iF_0le, iT_eq, iF_eq, iT_eq0, iF_eq0]; rfl⟩ hz (by unfold cstr; rw [if_neg c1, if_pos c2]) ?_
        rw [f12_census_h88]
        simp (disch := omega) only [h28, l1, hnt, a1, u3, v161, sh1 p2 hn, f12_census_j153, f12_census_j170, nI_z, zI_add, zI_sub, zI_mul, zI_m1, ckI_z, zI_clamp, Int.toNat_natCast, bnd_some, lt, rd_same, rd_ne, rdL_same, rdL_ne, wI_2, wL_1, if_true, if_false, iT_lt, iF_lt, iT_lt0, iF_lt0, iT_0lt, iF_0lt, iT_le, iF_le, iT_le0, iF_le0, iT_0le, iF_0le, iT_eq, iF_eq, iT_eq0, iF_eq0]
        rw [show (acc.2.2.2.2.1 : Int) + ((0 : Nat) : Int) = (acc.2.2.2.2.1 : Int) by omega]
        rfl
      · have c0 : (prun g e.2 x t).2.2 = 0 := by omega
        rw [c0] at a1
        have s3 : Same (fun c _ => c = 174 + ta) S2 (wI S2 (174 + ta) 0 (zI ((acc.1 : Int) + ((1 : Nat) : Int)))) := (Same.rfl' (P := fun c _ => c = 174 + ta)).wI rfl
        by_cases c3 : acc.2.2.2.1 < (prun g e.2 x t).2.1
        · refine go _ k (acc.1 + 1, acc.2.1, acc.2.2.1, (prun g e.2 x t).2.1, acc.2.2.2.2.1 + 2 ^ (n - e.1), acc.2.2.2.2.2.1, some e) s3 ⟨by simp (disch := omega) only [nI_z, zI_add, zI_sub, zI_mul, zI_m1, ckI_z, zI_clamp, Int.toNat_natCast, bnd_some, lt, rd_same, rd_ne, rdL_same, rdL_ne, wI_2, wL_1, if_true, if_false, iT_lt, iF_lt, iT_lt0, iF_lt0, iT_0lt, iF_0lt, iT_le, iF_le, iT_le0, iF_le0, iT_0le, iF_0le, iT_eq, iF_eq, iT_eq0, iF_eq0]; rfl, by simp (disch := omega) only [u2, nI_z, zI_add, zI_sub, zI_mul, zI_m1, ckI_z, zI_clamp, Int.toNat_natCast, bnd_some, lt, rd_same, rd_ne, rdL_same, rdL_ne, wI_2, wL_1, if_true, if_false, iT_lt, iF_lt, iT_lt0, iF_lt0, iT_0lt, iF_0lt, iT_le, iF_le, iT_le0, iF_le0, iT_0le, iF_0le, iT_eq, iF_eq, iT_eq0, iF_eq0], by simp (disch := omega) only [u3, nI_z, zI_add, zI_sub, zI_mul, zI_m1, ckI_z, zI_clamp, Int.toNat_natCast, bnd_some, lt, rd_same, rd_ne, rdL_same, rdL_ne, wI_2, wL_1, if_true, if_false, iT_lt, iF_lt, iT_lt0, iF_lt0, iT_0lt, iF_0lt, iT_le, iF_le, iT_le0, iF_le0, iT_0le, iF_0le, iT_eq, iF_eq, iT_eq0, iF_eq0]⟩ ⟨k, rfl, hr⟩ (by unfold cstr; rw [if_neg c1, if_neg c2, if_pos c3]) ?_
          rw [f12_census_h88]
          simp (disch := omega) only [h28, l1, hnt, a1, u1, v161, sh1 p2 hn, f12_census_j153, f12_census_j170, q14, nI_z, zI_add, zI_sub, zI_mul, zI_m1, ckI_z, zI_clamp, Int.toNat_natCast, bnd_some, lt, rd_same, rd_ne, rdL_same, rdL_ne, wI_2, wL_1, if_true, if_false, iT_lt, iF_lt, iT_lt0, iF_lt0, iT_0lt, iF_0lt, iT_le, iF_le, iT_le0, iF_le0, iT_0le, iF_0le, iT_eq, iF_eq, iT_eq0, iF_eq0]
          rw [show (acc.2.2.2.2.2.1 : Int) + ((0 : Nat) : Int) = (acc.2.2.2.2.2.1 : Int) by omega]
          rfl
        · refine go _ z (acc.1 + 1, acc.2.1, acc.2.2.1, acc.2.2.2.1, acc.2.2.2.2.1 + 2 ^ (n - e.1), acc.2.2.2.2.2.1, acc.2.2.2.2.2.2) s3 ⟨by simp (disch := omega) only [nI_z, zI_add, zI_sub, zI_mul, zI_m1, ckI_z, zI_clamp, Int.toNat_natCast, bnd_some, lt, rd_same, rd_ne, rdL_same, rdL_ne, wI_2, wL_1, if_true, if_false, iT_lt, iF_lt, iT_lt0, iF_lt0, iT_0lt, iF_0lt, iT_le, iF_le, iT_le0, iF_le0, iT_0le, iF_0le, iT_eq, iF_eq, iT_eq0, iF_eq0]; rfl, by simp (disch := omega) only [u2, nI_z, zI_add, zI_sub, zI_mul, zI_m1, ckI_z, zI_clamp, Int.toNat_natCast, bnd_some, lt, rd_same, rd_ne, rdL_same, rdL_ne, wI_2, wL_1, if_true, if_false, iT_lt, iF_lt, iT_lt0, iF_lt0, iT_0lt, iF_0lt, iT_le, iF_le, iT_le0, iF_le0, iT_0le, iF_0le, iT_eq, iF_eq, iT_eq0, iF_eq0], by simp (disch := omega) only [u3, nI_z, zI_add, zI_sub, zI_mul, zI_m1, ckI_z, zI_clamp, Int.toNat_natCast, bnd_some, lt, rd_same, rd_ne, rdL_same, rdL_ne, wI_2, wL_1, if_true, if_false, iT_lt, iF_lt, iT_lt0, iF_lt0, iT_0lt, iF_0lt, iT_le, iF_le, iT_le0, iF_le0, iT_0le, iF_0le, iT_eq, iF_eq, iT_eq0, iF_eq0]⟩ hz (by unfold cstr; rw [if_neg c1, if_neg c2, if_neg c3]) ?_
          rw [f12_census_h88]
          simp (disch := omega) only [h28, l1, hnt, a1, u1, v161, sh1 p2 hn, f12_census_j153, f12_census_j170, q14, nI_z, zI_add, zI_sub, zI_mul, zI_m1, ckI_z, zI_clamp, Int.toNat_natCast, bnd_some, lt, rd_same, rd_ne, rdL_same, rdL_ne, wI_2, wL_1, if_true, if_false, iT_lt, iF_lt, iT_lt0, iF_lt0, iT_0lt, iF_0lt, iT_le, iF_le, iT_le0, iF_le0, iT_0le, iF_0le, iT_eq, iF_eq, iT_eq0, iF_eq0]
          rw [show (acc.2.2.2.2.2.1 : Int) + ((0 : Nat) : Int) = (acc.2.2.2.2.2.1 : Int) by omega]
          rfl
