/-! The call votes on both sides. -/
def bnT (z : Int) : Prop := 0 < z ∧ 1 ≤ z / 1000 ∧ z / 1000 ≤ 12 ∧ 1 ≤ z % 1000 ∧ z % 1000 ≤ 200
theorem bound_cases (x : Int32) : (∀ S, f11_isSizeAndSteps x S = some (zI 0, S) ∧ f12_isBound x S = some (zI 0, S)) ∨ ∃ n t : Nat, 1 ≤ n ∧ n ≤ 12 ∧ 1 ≤ t ∧ t ≤ 200 ∧ x / zI ((1000 : Nat) : Int) = zI n ∧ remI x (zI ((1000 : Nat) : Int)) = zI t ∧ ∀ S, f11_isSizeAndSteps x S = some (zI 1, S) ∧ f12_isBound x S = some (zI 1, S) := by
  have hx := xrng x
  rw [zI_of x]
  generalize x.toInt = z at hx
  by_cases h0 : z < 0
  · left
    refine fun S => ⟨?_, ?_⟩
    · unfold f11_isSizeAndSteps; simp (disch := omega) only [nI_z, zI_add, zI_sub, zI_mul, zI_m1, ckI_z, zI_clamp, Int.toNat_natCast, bnd_some, lt, rd_same, rd_ne, rdL_same, rdL_ne, wI_2, wL_1, if_true, if_false, iT_lt, iF_lt, iT_lt0, iF_lt0, iT_0lt, iF_0lt, iT_le, iF_le, iT_le0, iF_le0, iT_0le, iF_0le, iT_eq, iF_eq, iT_eq0, iF_eq0]; rfl
    · unfold f12_isBound; simp (disch := omega) only [nI_z, zI_add, zI_sub, zI_mul, zI_m1, ckI_z, zI_clamp, Int.toNat_natCast, bnd_some, lt, rd_same, rd_ne, rdL_same, rdL_ne, wI_2, wL_1, if_true, if_false, iT_lt, iF_lt, iT_lt0, iF_lt0, iT_0lt, iF_0lt, iT_le, iF_le, iT_le0, iF_le0, iT_0le, iF_0le, iT_eq, iF_eq, iT_eq0, iF_eq0]; rfl
  · have hd := zI_div (a := z) (b := ((1000 : Nat) : Int)) (by omega) (by omega) (by omega)
    have hr := zI_rem (a := z) (b := ((1000 : Nat) : Int)) (by omega) (by omega) (by omega)
    have w1 := fun S => within_n (z / ((1000 : Nat) : Int)) 1 12 S (by omega) (by omega) (by omega)
    have w2 := fun S => within_n (z % ((1000 : Nat) : Int)) 1 200 S (by omega) (by omega) (by omega)
    by_cases h1 : 1 ≤ z / 1000 ∧ z / 1000 ≤ 12
    · by_cases h2 : 1 ≤ z % 1000 ∧ z % 1000 ≤ 200
      · right
        refine ⟨(z / 1000).toNat, (z % 1000).toNat, by omega, by omega, by omega, by omega, ?_, ?_, fun S => ⟨?_, ?_⟩⟩
        · rw [hd]; congr 1; omega
        · rw [hr]; congr 1; omega
        · unfold f11_isSizeAndSteps; simp (disch := omega) only [hd, hr, nI_z, zI_add, zI_sub, zI_mul, zI_m1, ckI_z, zI_clamp, Int.toNat_natCast, bnd_some, lt, rd_same, rd_ne, rdL_same, rdL_ne, wI_2, wL_1, if_true, if_false, iT_lt, iF_lt, iT_lt0, iF_lt0, iT_0lt, iF_0lt, iT_le, iF_le, iT_le0, iF_le0, iT_0le, iF_0le, iT_eq, iF_eq, iT_eq0, iF_eq0]; rfl
        · unfold f12_isBound; simp (disch := omega) only [iT_b, iF_b, hd, hr, w1, w2, nI_z, zI_add, zI_sub, zI_mul, zI_m1, ckI_z, zI_clamp, Int.toNat_natCast, bnd_some, lt, rd_same, rd_ne, rdL_same, rdL_ne, wI_2, wL_1, if_true, if_false, iT_lt, iF_lt, iT_lt0, iF_lt0, iT_0lt, iF_0lt, iT_le, iF_le, iT_le0, iF_le0, iT_0le, iF_0le, iT_eq, iF_eq, iT_eq0, iF_eq0]; rfl
      · left
        refine fun S => ⟨?_, ?_⟩
        · unfold f11_isSizeAndSteps
          by_cases h3 : z % 1000 < 1
          · simp (disch := omega) only [hd, hr, nI_z, zI_add, zI_sub, zI_mul, zI_m1, ckI_z, zI_clamp, Int.toNat_natCast, bnd_some, lt, rd_same, rd_ne, rdL_same, rdL_ne, wI_2, wL_1, if_true, if_false, iT_lt, iF_lt, iT_lt0, iF_lt0, iT_0lt, iF_0lt, iT_le, iF_le, iT_le0, iF_le0, iT_0le, iF_0le, iT_eq, iF_eq, iT_eq0, iF_eq0]; rfl
          · simp (disch := omega) only [hd, hr, nI_z, zI_add, zI_sub, zI_mul, zI_m1, ckI_z, zI_clamp, Int.toNat_natCast, bnd_some, lt, rd_same, rd_ne, rdL_same, rdL_ne, wI_2, wL_1, if_true, if_false, iT_lt, iF_lt, iT_lt0, iF_lt0, iT_0lt, iF_0lt, iT_le, iF_le, iT_le0, iF_le0, iT_0le, iF_0le, iT_eq, iF_eq, iT_eq0, iF_eq0]; rfl
        · unfold f12_isBound; simp (disch := omega) only [iT_b, iF_b, hd, hr, w1, w2, nI_z, zI_add, zI_sub, zI_mul, zI_m1, ckI_z, zI_clamp, Int.toNat_natCast, bnd_some, lt, rd_same, rd_ne, rdL_same, rdL_ne, wI_2, wL_1, if_true, if_false, iT_lt, iF_lt, iT_lt0, iF_lt0, iT_0lt, iF_0lt, iT_le, iF_le, iT_le0, iF_le0, iT_0le, iF_0le, iT_eq, iF_eq, iT_eq0, iF_eq0]; rfl
    · left
      refine fun S => ⟨?_, ?_⟩
      · unfold f11_isSizeAndSteps
        by_cases h2 : z = 0
        · subst h2; simp (disch := omega) only [hd, hr, nI_z, zI_add, zI_sub, zI_mul, zI_m1, ckI_z, zI_clamp, Int.toNat_natCast, bnd_some, lt, rd_same, rd_ne, rdL_same, rdL_ne, wI_2, wL_1, if_true, if_false, iT_lt, iF_lt, iT_lt0, iF_lt0, iT_0lt, iF_0lt, iT_le, iF_le, iT_le0, iF_le0, iT_0le, iF_0le, iT_eq, iF_eq, iT_eq0, iF_eq0]; rfl
        · by_cases h3 : z / 1000 < 1
          · simp (disch := omega) only [hd, hr, nI_z, zI_add, zI_sub, zI_mul, zI_m1, ckI_z, zI_clamp, Int.toNat_natCast, bnd_some, lt, rd_same, rd_ne, rdL_same, rdL_ne, wI_2, wL_1, if_true, if_false, iT_lt, iF_lt, iT_lt0, iF_lt0, iT_0lt, iF_0lt, iT_le, iF_le, iT_le0, iF_le0, iT_0le, iF_0le, iT_eq, iF_eq, iT_eq0, iF_eq0]; rfl
          · simp (disch := omega) only [hd, hr, nI_z, zI_add, zI_sub, zI_mul, zI_m1, ckI_z, zI_clamp, Int.toNat_natCast, bnd_some, lt, rd_same, rd_ne, rdL_same, rdL_ne, wI_2, wL_1, if_true, if_false, iT_lt, iF_lt, iT_lt0, iF_lt0, iT_0lt, iF_0lt, iT_le, iF_le, iT_le0, iF_le0, iT_0le, iF_0le, iT_eq, iF_eq, iT_eq0, iF_eq0]; rfl
      · unfold f12_isBound; simp (disch := omega) only [iT_b, iF_b, hd, hr, w1, nI_z, zI_add, zI_sub, zI_mul, zI_m1, ckI_z, zI_clamp, Int.toNat_natCast, bnd_some, lt, rd_same, rd_ne, rdL_same, rdL_ne, wI_2, wL_1, if_true, if_false, iT_lt, iF_lt, iT_lt0, iF_lt0, iT_0lt, iF_0lt, iT_le, iF_le, iT_le0, iF_le0, iT_0le, iF_0le, iT_eq, iF_eq, iT_eq0, iF_eq0]; rfl
/-- what votes may write -/
def voP (c k : Nat) : Prop := hoP c k ∨ vmP c k ∨ liP c k
theorem f12_zero_loop {N : Nat} {x1 x2 x3 x4 x5 : Int32} : ∀ (m k n : Nat) (S : St), k + m = 1000 → m < n → (∀ v, v < k → S.1 168 v = zI 0) → ∃ S2, f12_votes_h56 N x1 x2 x3 x4 x5 n (zI k) S = bnd (f12_listAll N x1 x5 S2) (fun _ S3 => f12_votes_h94 N x1 x2 x3 x4 x5 N (nI 0) (nI 0) (nI 0) S3) ∧ (∀ v, v < 1000 → S2.1 168 v = zI 0) ∧ Same (fun c _ => c = 168) S S2 := by
  intro m
  induction m with
  | zero =>
    intro k n S hk hn h
    obtain ⟨n, rfl⟩ : ∃ z, n = z + 1 := ⟨n - 1, by omega⟩
    obtain rfl : k = 1000 := by omega
    refine ⟨S, ?_, h, Same.rfl'⟩
    rw [f12_votes_h56]
    simp (disch := omega) only [nI_z, zI_add, zI_sub, zI_mul, zI_m1, ckI_z, zI_clamp, Int.toNat_natCast, bnd_some, lt, rd_same, rd_ne, rdL_same, rdL_ne, wI_2, wL_1, if_true, if_false, iT_lt, iF_lt, iT_lt0, iF_lt0, iT_0lt, iF_0lt, iT_le, iF_le, iT_le0, iF_le0, iT_0le, iF_0le, iT_eq, iF_eq, iT_eq0, iF_eq0]
  | succ m ih =>
    intro k n S hk hn h
    obtain ⟨n, rfl⟩ : ∃ z, n = z + 1 := ⟨n - 1, by omega⟩
    have hs : Same (fun c _ => c = 168) S (wI S 168 k (zI ((0 : Nat) : Int))) := (Same.rfl' (P := fun c _ => c = 168)).wI rfl
    obtain ⟨S2, g1, g2, g3⟩ := ih (k + 1) n (wI S 168 k (zI ((0 : Nat) : Int))) (by omega) (by omega) (fun v hv => by
      by_cases e : v = k
      · subst e; simp (disch := omega) only [nI_z, zI_add, zI_sub, zI_mul, zI_m1, ckI_z, zI_clamp, Int.toNat_natCast, bnd_some, lt, rd_same, rd_ne, rdL_same, rdL_ne, wI_2, wL_1, if_true, if_false, iT_lt, iF_lt, iT_lt0, iF_lt0, iT_0lt, iF_0lt, iT_le, iF_le, iT_le0, iF_le0, iT_0le, iF_0le, iT_eq, iF_eq, iT_eq0, iF_eq0]; rfl
      · simp (disch := omega) only [h v (by omega), nI_z, zI_add, zI_sub, zI_mul, zI_m1, ckI_z, zI_clamp, Int.toNat_natCast, bnd_some, lt, rd_same, rd_ne, rdL_same, rdL_ne, wI_2, wL_1, if_true, if_false, iT_lt, iF_lt, iT_lt0, iF_lt0, iT_0lt, iF_0lt, iT_le, iF_le, iT_le0, iF_le0, iT_0le, iF_0le, iT_eq, iF_eq, iT_eq0, iF_eq0])
    refine ⟨S2, ?_, g2, hs.tr g3⟩
    rw [f12_votes_h56]
    simp (disch := omega) only [nI_z, zI_add, zI_sub, zI_mul, zI_m1, ckI_z, zI_clamp, Int.toNat_natCast, bnd_some, lt, rd_same, rd_ne, rdL_same, rdL_ne, wI_2, wL_1, if_true, if_false, iT_lt, iF_lt, iT_lt0, iF_lt0, iT_0lt, iF_0lt, iT_le, iF_le, iT_le0, iF_le0, iT_0le, iF_0le, iT_eq, iF_eq, iT_eq0, iF_eq0]
    have hz : zI ((k : Int) + ((1 : Nat) : Int)) = zI ((k + 1 : Nat) : Int) := rfl
    rw [hz, g1]
    rfl
theorem f12_votes_ok {N i t n v : Nat} {w : Int} {nt x4 : Int32} {S : St} {g : Lg} {row : List Nat} (hg : LV g) (hi : i < 6) (hN : 100000 ≤ N) (hn : n ≤ 14) (ht : t ≤ 4198) (hd : nt / zI ((1000 : Nat) : Int) = zI n) (hnt : remI nt (zI ((1000 : Nat) : Int)) = zI t) (hm : ML S i g) (hs : Qsay S row) (hw : 0 ≤ w ∧ w ≤ 3) (hv : w = 0 → v < 1000 ∧ x4 = zI v) :
    ∃ S2, f12_votes_j46 N (zI i) nt (zI w) x4 S = some (zI (vansI (votesP g row n t).1 w v (votesP g row n t).2.1 (votesP g row n t).2.2), S2) ∧ (V15 S → V15 S2) ∧ Same (fun c k => vmP c k ∨ liP c k) S S2 := by
  obtain ⟨S1, a1, a2, a3⟩ := f12_zero_loop (N := N) (x1 := zI i) (x2 := nt) (x3 := zI w) (x4 := x4) (x5 := zI n) 1000 0 N S (by omega) (by omega) (fun v hv => absurd hv (by omega))
  have hm1 : ML S1 i g := hm.same hg a3 (fun c p _ _ _ => by omega) (fun p _ _ => by omega) (fun p _ _ => by omega) (by omega)
  obtain ⟨S2, b1, b2, b3⟩ := f12_listAll_ok (N := N) (lim := n) hg hi (by omega) hn hm1
  have hm2 := hm1.li hg b3
  have hs2 := (hs.same a3 (fun c k z => by unfold qsP at z; omega)).same b3 (fun c k z => by unfold qsP at z; unfold liP; omega)
  have hv2 : VM S2 va0.1 := fun v hv => by rw [b3.i (by unfold liP; omega)]; exact a2 v hv
  have hcap := progs_cap (A := []) (C := progs (bit g) (rkf g) n) hg hn rfl
  rw [List.length_nil, Nat.zero_add] at hcap
  obtain ⟨S3, c1, c2, c4, c3⟩ := f12_votes_loop (N := N) (x3 := zI w) (x4 := x4) hg hi hN hn ht hnt (progs (bit g) (rkf g) n) [] 0 N S2 va0 rfl rfl (by omega) hm2 b2 hs2 hv2
  obtain ⟨d1, d2, d3⟩ := votesP_bound (g := g) (row := row) (n := n) (t := t) hg hn
  have hml := f12_most_loop (N := N) (v := v) (all := (votesP g row n t).2.1) (op := (votesP g row n t).2.2) (w := w) (x4 := x4) (S := S3) (f := (votesP g row n t).1) c2 (fun v => by have := d1 v; omega) hw hv (by omega) 999 0 N (by omega) (by omega)
  refine ⟨S3, ?_, fun q => c4 ((q.same a3 (by omega)).same b3 (by unfold liP; omega)), ((a3.mono (fun c k z => Or.inl (Or.inr z))).tr (b3.mono (fun c k z => Or.inr z))).tr (c3.mono (fun c k z => Or.inl z))⟩
  unfold f12_votes_j46
  simp (disch := omega) only [hd, nI_z, zI_add, zI_sub, zI_mul, zI_m1, ckI_z, zI_clamp, Int.toNat_natCast, bnd_some, lt, rd_same, rd_ne, rdL_same, rdL_ne, wI_2, wL_1, if_true, if_false, iT_lt, iF_lt, iT_lt0, iF_lt0, iT_0lt, iF_0lt, iT_le, iF_le, iT_le0, iF_le0, iT_0le, iF_0le, iT_eq, iF_eq, iT_eq0, iF_eq0]
  rw [a1, b1, bnd_some, nI_z]
  exact c1.trans hml
theorem vans_class {N K v n t : Nat} {w : Int} {x4 : Int32} {S : St} {f : Nat → Nat} {all op : Nat} (hN : 100000 ≤ N) (hw : 0 ≤ w ∧ w ≤ 3) (hv : w = 0 → v < 1000 ∧ x4 = zI v) (hV : VC S (f, all, op)) (hb1 : ∀ v, f v ≤ all) (hb2 : all ≤ 16384) (hb3 : all = 0 ∨ ∃ v, v < 1000 ∧ 0 < f v) :
    sw (zI w) [
      (nI 0, bnd (f5_votesFor x4 S) fun q3 S4 =>
      some (q3, S4)),
      (nI 1, bnd (f5_most N S) fun q5 S6 =>
      some (q5, S6)),
      (nI 2, bnd (f5_all S) fun q7 S8 =>
      some (q7, S8))]
    (bnd (f5_open S) fun q9 S10 =>
    some (q9, S10)) = some (zI (vansI f w v all op), S) := by
  obtain ⟨h1, h2, h3⟩ := hV
  unfold vansI
  by_cases w0 : w = 0
  · obtain ⟨v1, v2⟩ := hv w0
    have := h1 v v1
    rw [if_pos w0, v2]
    simp (disch := omega) only [sw_t, sw_f, sw_n, f5_votesFor, this, nI_z, zI_add, zI_sub, zI_mul, zI_m1, ckI_z, zI_clamp, Int.toNat_natCast, bnd_some, lt, rd_same, rd_ne, rdL_same, rdL_ne, wI_2, wL_1, if_true, if_false, iT_lt, iF_lt, iT_lt0, iF_lt0, iT_0lt, iF_0lt, iT_le, iF_le, iT_le0, iF_le0, iT_0le, iF_0le, iT_eq, iF_eq, iT_eq0, iF_eq0]
  by_cases w2 : w = 2
  · rw [if_neg w0, if_pos w2]
    simp (disch := omega) only [sw_t, sw_f, sw_n, f5_all, h2, nI_z, zI_add, zI_sub, zI_mul, zI_m1, ckI_z, zI_clamp, Int.toNat_natCast, bnd_some, lt, rd_same, rd_ne, rdL_same, rdL_ne, wI_2, wL_1, if_true, if_false, iT_lt, iF_lt, iT_lt0, iF_lt0, iT_0lt, iF_0lt, iT_le, iF_le, iT_le0, iF_le0, iT_0le, iF_0le, iT_eq, iF_eq, iT_eq0, iF_eq0]
  by_cases w3 : w = 3
  · rw [if_neg w0, if_neg w2, if_pos w3]
    simp (disch := omega) only [sw_t, sw_f, sw_n, f5_open, h3, nI_z, zI_add, zI_sub, zI_mul, zI_m1, ckI_z, zI_clamp, Int.toNat_natCast, bnd_some, lt, rd_same, rd_ne, rdL_same, rdL_ne, wI_2, wL_1, if_true, if_false, iT_lt, iF_lt, iT_lt0, iF_lt0, iT_0lt, iF_0lt, iT_le, iF_le, iT_le0, iF_le0, iT_0le, iF_0le, iT_eq, iF_eq, iT_eq0, iF_eq0]
  · rw [if_neg w0, if_neg w2, if_neg w3]
    have hm := f5_most_ok (N := N) (S := S) (f := f) (by omega) h1 (fun v => by have := hb1 v; omega)
    simp (disch := omega) only [sw_t, sw_f, sw_n, hm, nI_z, zI_add, zI_sub, zI_mul, zI_m1, ckI_z, zI_clamp, Int.toNat_natCast, bnd_some, lt, rd_same, rd_ne, rdL_same, rdL_ne, wI_2, wL_1, if_true, if_false, iT_lt, iF_lt, iT_lt0, iF_lt0, iT_0lt, iF_0lt, iT_le, iF_le, iT_le0, iF_le0, iT_0le, iF_0le, iT_eq, iF_eq, iT_eq0, iF_eq0]
    congr 2
    congr 1
    unfold bmI
    by_cases e : all = 0
    · have : f (bm f 999) = 0 := by have := hb1 (bm f 999); omega
      rw [if_pos e, if_pos this]
    · have : f (bm f 999) ≠ 0 := by
        rcases hb3 with q | ⟨u, u1, u2⟩
        · exact absurd q e
        · have := bm_max f 999 u (by omega); omega
      rw [if_neg e, if_neg this]
theorem c_votes {N K : Nat} {S : St} {Ls : List Lg} {row : List Nat} (hN : 100000 ≤ N) (h : Qlang S Ls) (hs : Qsay S row) (hK : CMq S K) (hKb : K + 200000 < 2147483648) (x y u v : Int32) : ∃ r S1 S2 K2, f11_votes N x y u v S = some (r, S1) ∧ f12_votes N x y u v S1 = some (r, S2) ∧ CMq S2 K2 ∧ K ≤ K2 ∧ K2 ≤ K + 147456 ∧ (V15 S → V15 S2) ∧ Same voP S S2 := by
  have triv : ∀ r, f11_votes N x y u v S = some (r, S) → f12_votes N x y u v S = some (r, S) → ∃ r S1 S2 K2, f11_votes N x y u v S = some (r, S1) ∧ f12_votes N x y u v S1 = some (r, S2) ∧ CMq S2 K2 ∧ K ≤ K2 ∧ K2 ≤ K + 147456 ∧ (V15 S → V15 S2) ∧ Same voP S S2 := fun r a b => ⟨r, S, S, K, a, b, hK, by omega, by omega, fun q => q, Same.rfl'⟩
  have hu := xrng u
  have hv := xrng v
  rw [zI_of u, zI_of v] at triv ⊢
  generalize u.toInt = w at hu triv
  generalize v.toInt = z at hv triv
  have n2 := fun S => isNum z S hv
  have k2 := fun S => isNum_m z S hv
  have k3 := fun S => within_n w 0 3 S hu (by omega) (by omega)
  rcases lang_cases h x with ⟨e1, e2⟩ | ⟨i, g, hg, rfl, hi, e1, e2, hvg, hc, hm⟩
  · refine triv (zI (-1)) ?_ ?_
    · unfold f11_votes; rw [e1]; simp (disch := omega) only [ifN_none, nI_z, zI_add, zI_sub, zI_mul, zI_m1, ckI_z, zI_clamp, Int.toNat_natCast, bnd_some, lt, rd_same, rd_ne, rdL_same, rdL_ne, wI_2, wL_1, if_true, if_false, iT_lt, iF_lt, iT_lt0, iF_lt0, iT_0lt, iF_0lt, iT_le, iF_le, iT_le0, iF_le0, iT_0le, iF_0le, iT_eq, iF_eq, iT_eq0, iF_eq0]
    · unfold f12_votes; rw [e2]; simp (disch := omega) only [nI_z, zI_add, zI_sub, zI_mul, zI_m1, ckI_z, zI_clamp, Int.toNat_natCast, bnd_some, lt, rd_same, rd_ne, rdL_same, rdL_ne, wI_2, wL_1, if_true, if_false, iT_lt, iF_lt, iT_lt0, iF_lt0, iT_0lt, iF_0lt, iT_le, iF_le, iT_le0, iF_le0, iT_0le, iF_0le, iT_eq, iF_eq, iT_eq0, iF_eq0]
  · have ha := ad3_in i hi
    rcases bound_cases y with hbc | ⟨n, t, n1, n2', t1, t2, hd, hr, hbc⟩
    · have hb1 := (hbc S).1
      have hb2 := (hbc S).2
      refine triv (zI (-1)) ?_ ?_
      · unfold f11_votes; simp (disch := omega) only [e1, ifN_some, ckA_in ha, hb1, nI_z, zI_add, zI_sub, zI_mul, zI_m1, ckI_z, zI_clamp, Int.toNat_natCast, bnd_some, lt, rd_same, rd_ne, rdL_same, rdL_ne, wI_2, wL_1, if_true, if_false, iT_lt, iF_lt, iT_lt0, iF_lt0, iT_0lt, iF_0lt, iT_le, iF_le, iT_le0, iF_le0, iT_0le, iF_0le, iT_eq, iF_eq, iT_eq0, iF_eq0]
      · unfold f12_votes; simp (disch := omega) only [e2, hb2, nI_z, zI_add, zI_sub, zI_mul, zI_m1, ckI_z, zI_clamp, Int.toNat_natCast, bnd_some, lt, rd_same, rd_ne, rdL_same, rdL_ne, wI_2, wL_1, if_true, if_false, iT_lt, iF_lt, iT_lt0, iF_lt0, iT_0lt, iF_0lt, iT_le, iF_le, iT_le0, iF_le0, iT_0le, iF_0le, iT_eq, iF_eq, iT_eq0, iF_eq0]
    · by_cases w0 : 0 ≤ w ∧ w ≤ 3
      · by_cases z0 : w = 0 ∧ ¬ (0 ≤ z ∧ z ≤ 999)
        · have hb1 := (hbc S).1
          have hb2 := (hbc S).2
          refine triv (zI (-1)) ?_ ?_
          · unfold f11_votes; simp (disch := omega) only [iT_b, iF_b, e1, ifN_some, ckA_in ha, hb1, n2, nI_z, zI_add, zI_sub, zI_mul, zI_m1, ckI_z, zI_clamp, Int.toNat_natCast, bnd_some, lt, rd_same, rd_ne, rdL_same, rdL_ne, wI_2, wL_1, if_true, if_false, iT_lt, iF_lt, iT_lt0, iF_lt0, iT_0lt, iF_0lt, iT_le, iF_le, iT_le0, iF_le0, iT_0le, iF_0le, iT_eq, iF_eq, iT_eq0, iF_eq0]
          · unfold f12_votes; simp (disch := omega) only [iT_b, iF_b, e2, hb2, k3, k2, nI_z, zI_add, zI_sub, zI_mul, zI_m1, ckI_z, zI_clamp, Int.toNat_natCast, bnd_some, lt, rd_same, rd_ne, rdL_same, rdL_ne, wI_2, wL_1, if_true, if_false, iT_lt, iF_lt, iT_lt0, iF_lt0, iT_0lt, iF_0lt, iT_le, iF_le, iT_le0, iF_le0, iT_0le, iF_0le, iT_eq, iF_eq, iT_eq0, iF_eq0]
        · have hvv : w = 0 → z.toNat < 1000 ∧ zI z = zI z.toNat := fun e => by
            have : 0 ≤ z ∧ z ≤ 999 := by
              by_cases q : 0 ≤ z ∧ z ≤ 999
              · exact q
              · exact absurd ⟨e, q⟩ z0
            exact ⟨by omega, by congr 1; omega⟩
          obtain ⟨S1, K2, a1, a2, a3, a4, a5, a6⟩ := f5_hold_ok (N := N) (n := n) (t := t) hvg (by omega : 50 ≤ 50 + 11 * i) hN (by omega) (by omega) hc hK hKb hs
          obtain ⟨d1, d2, d3⟩ := votesP_bound (g := g) (row := row) (n := n) (t := t) hvg (by omega)
          have hcl := vans_class (N := N) (K := K) (v := z.toNat) (n := n) (t := t) (w := w) (x4 := zI z) (S := S1) hN w0 hvv a2 d1 d2 d3
          have hl1 := h.same a6 (fun c k z => by unfold laP at z; unfold hoP mcP rgP vcP; omega)
          have hs1 := hs.same a6 (fun c k z => by unfold qsP at z; unfold hoP mcP rgP vcP; omega)
          obtain ⟨_, hc1, hm1⟩ := hl1.2.2.2 i g hg
          have hil : i < Ls.length := (List.getElem?_eq_some_iff.mp hg).1
          have e21 := (lang_in hl1 hil).2
          obtain ⟨S2, b1, b3, b2⟩ := f12_votes_ok (N := N) (i := i) (v := z.toNat) (w := w) (x4 := zI z) hvg hi hN (by omega : n ≤ 14) (by omega : t ≤ 4198) hd hr hm1 hs1 w0 hvv
          have hb1 := (hbc S).1
          have hb2 := (hbc S1).2
          have hK2 : CMq S2 K2 := a3.same b2 (fun c k z => by unfold mcP at z; unfold vmP liP rnP; omega)
          refine ⟨zI (vansI (votesP g row n t).1 w z.toNat (votesP g row n t).2.1 (votesP g row n t).2.2), S1, S2, K2, ?_, ?_, hK2, a4, a5, fun q => b3 (q.same a6 (by unfold hoP mcP rgP vcP; omega)), (a6.mono (fun c k z => Or.inl z)).tr (b2.mono (fun c k z => Or.inr z))⟩
          · have hj : f11_votes N (zI i) y (zI w) (zI z) S = f11_votes_j44 N y (zI w) (zI z) (50 + 11 * i) S := by
              unfold f11_votes
              by_cases e : w = 0
              · have z1 : 0 ≤ z ∧ z ≤ 999 := by
                  by_cases q : 0 ≤ z ∧ z ≤ 999
                  · exact q
                  · exact absurd ⟨e, q⟩ z0
                simp (disch := omega) only [iT_b, iF_b, e1, ifN_some, ckA_in ha, hb1, n2, nI_z, zI_add, zI_sub, zI_mul, zI_m1, ckI_z, zI_clamp, Int.toNat_natCast, bnd_some, lt, rd_same, rd_ne, rdL_same, rdL_ne, wI_2, wL_1, if_true, if_false, iT_lt, iF_lt, iT_lt0, iF_lt0, iT_0lt, iF_0lt, iT_le, iF_le, iT_le0, iF_le0, iT_0le, iF_0le, iT_eq, iF_eq, iT_eq0, iF_eq0]
              · simp (disch := omega) only [iT_b, iF_b, e1, ifN_some, ckA_in ha, hb1, n2, nI_z, zI_add, zI_sub, zI_mul, zI_m1, ckI_z, zI_clamp, Int.toNat_natCast, bnd_some, lt, rd_same, rd_ne, rdL_same, rdL_ne, wI_2, wL_1, if_true, if_false, iT_lt, iF_lt, iT_lt0, iF_lt0, iT_0lt, iF_0lt, iT_le, iF_le, iT_le0, iF_le0, iT_0le, iF_0le, iT_eq, iF_eq, iT_eq0, iF_eq0]
            rw [hj]
            unfold f11_votes_j44
            rw [nI_z, hd, hr, a1, bnd_some]
            exact hcl
          · have hj : f12_votes N (zI i) y (zI w) (zI z) S1 = f12_votes_j46 N (zI i) y (zI w) (zI z) S1 := by
              unfold f12_votes
              by_cases e : w = 0
              · have z1 : 0 ≤ z ∧ z ≤ 999 := by
                  by_cases q : 0 ≤ z ∧ z ≤ 999
                  · exact q
                  · exact absurd ⟨e, q⟩ z0
                simp (disch := omega) only [iT_b, iF_b, e21, hb2, k3, k2, nI_z, zI_add, zI_sub, zI_mul, zI_m1, ckI_z, zI_clamp, Int.toNat_natCast, bnd_some, lt, rd_same, rd_ne, rdL_same, rdL_ne, wI_2, wL_1, if_true, if_false, iT_lt, iF_lt, iT_lt0, iF_lt0, iT_0lt, iF_0lt, iT_le, iF_le, iT_le0, iF_le0, iT_0le, iF_0le, iT_eq, iF_eq, iT_eq0, iF_eq0]
              · simp (disch := omega) only [iT_b, iF_b, e21, hb2, k3, k2, nI_z, zI_add, zI_sub, zI_mul, zI_m1, ckI_z, zI_clamp, Int.toNat_natCast, bnd_some, lt, rd_same, rd_ne, rdL_same, rdL_ne, wI_2, wL_1, if_true, if_false, iT_lt, iF_lt, iT_lt0, iF_lt0, iT_0lt, iF_0lt, iT_le, iF_le, iT_le0, iF_le0, iT_0le, iF_0le, iT_eq, iF_eq, iT_eq0, iF_eq0]
            rw [hj]
            exact b1
      · have hb1 := (hbc S).1
        have hb2 := (hbc S).2
        refine triv (zI (-1)) ?_ ?_
        · unfold f11_votes
          by_cases e : w < 0
          · simp (disch := omega) only [iT_b, iF_b, e1, ifN_some, ckA_in ha, hb1, nI_z, zI_add, zI_sub, zI_mul, zI_m1, ckI_z, zI_clamp, Int.toNat_natCast, bnd_some, lt, rd_same, rd_ne, rdL_same, rdL_ne, wI_2, wL_1, if_true, if_false, iT_lt, iF_lt, iT_lt0, iF_lt0, iT_0lt, iF_0lt, iT_le, iF_le, iT_le0, iF_le0, iT_0le, iF_0le, iT_eq, iF_eq, iT_eq0, iF_eq0]
          · simp (disch := omega) only [iT_b, iF_b, e1, ifN_some, ckA_in ha, hb1, nI_z, zI_add, zI_sub, zI_mul, zI_m1, ckI_z, zI_clamp, Int.toNat_natCast, bnd_some, lt, rd_same, rd_ne, rdL_same, rdL_ne, wI_2, wL_1, if_true, if_false, iT_lt, iF_lt, iT_lt0, iF_lt0, iT_0lt, iF_0lt, iT_le, iF_le, iT_le0, iF_le0, iT_0le, iF_0le, iT_eq, iF_eq, iT_eq0, iF_eq0]
        · unfold f12_votes; simp (disch := omega) only [iT_b, iF_b, e2, hb2, k3, nI_z, zI_add, zI_sub, zI_mul, zI_m1, ckI_z, zI_clamp, Int.toNat_natCast, bnd_some, lt, rd_same, rd_ne, rdL_same, rdL_ne, wI_2, wL_1, if_true, if_false, iT_lt, iF_lt, iT_lt0, iF_lt0, iT_0lt, iF_0lt, iT_le, iF_le, iT_le0, iF_le0, iT_0le, iF_0le, iT_eq, iF_eq, iT_eq0, iF_eq0]
