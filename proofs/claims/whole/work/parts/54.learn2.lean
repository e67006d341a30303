/-! learn: the reference, and the call. -/
theorem within_g (l : Int64) (b c : Nat) (S : St) (hb : b < 2147483648) (hc : c < 2147483648) : f12_within l (lN b) (lN c) S = some (bI ((b : Int) ≤ l.toInt ∧ l.toInt ≤ (c : Int)), S) := by
  have e1 : ∀ k : Nat, k < 2147483648 → (l < lN k ↔ l.toInt < (k : Int)) := fun k hk => by
    rw [Int64.lt_iff_toInt_lt, lN_toI (by omega)]
  have e2 : ∀ k : Nat, k < 2147483648 → (lN k < l ↔ (k : Int) < l.toInt) := fun k hk => by
    rw [Int64.lt_iff_toInt_lt, lN_toI (by omega)]
  have e3 : ∀ k : Nat, k < 2147483648 → (l = lN k ↔ l.toInt = (k : Int)) := fun k hk => by
    rw [← Int64.toInt_inj, lN_toI (by omega)]
  unfold f12_within cmpL
  by_cases h1 : (b : Int) < l.toInt
  · rw [if_pos ((e2 b hb).mpr h1), if_neg (by decide)]
    by_cases h2 : (c : Int) < l.toInt
    · rw [if_pos ((e2 c hc).mpr h2), if_pos (by decide), bI_f (by omega)]; rfl
    · rw [if_neg (fun q => h2 ((e2 c hc).mp q))]
      by_cases h3 : l.toInt = (c : Int)
      · rw [if_pos ((e3 c hc).mpr h3), if_neg (by decide), bI_t (by omega)]; rfl
      · rw [if_neg (fun q => h3 ((e3 c hc).mp q)), if_neg (by decide), bI_t (by omega)]; rfl
  · rw [if_neg (fun q => h1 ((e2 b hb).mp q))]
    by_cases h4 : l.toInt = (b : Int)
    · rw [if_pos ((e3 b hb).mpr h4), if_neg (by decide)]
      by_cases h2 : (c : Int) < l.toInt
      · rw [if_pos ((e2 c hc).mpr h2), if_pos (by decide), bI_f (by omega)]; rfl
      · rw [if_neg (fun q => h2 ((e2 c hc).mp q))]
        by_cases h3 : l.toInt = (c : Int)
        · rw [if_pos ((e3 c hc).mpr h3), if_neg (by decide), bI_t (by omega)]; rfl
        · rw [if_neg (fun q => h3 ((e3 c hc).mp q)), if_neg (by decide), bI_t (by omega)]; rfl
    · rw [if_neg (fun q => h4 ((e3 b hb).mp q)), if_pos (by decide), bI_f (by omega)]; rfl
theorem sub64 (x y : Int) (hx : -2147483648 ≤ x ∧ x < 2147483648) (hy : -2147483648 ≤ y ∧ y < 2147483648) : ((zI x).toInt64 - (zI y).toInt64).toInt = x - y := by
  rw [Int64.toInt_sub, Int32.toInt_toInt64, Int32.toInt_toInt64, zI_toInt hx, zI_toInt hy]
  have h1 := Int.bmod_eq_of_le (n := x - y) (m := 2 ^ 64) (by omega) (by omega)
  exact h1
theorem okr_m {N j : Nat} {x1 x2 x4 : Int32} {S : St} {p : List Nat} (hk : khas S p) (hj : j < p.length) (R : Option (Int32 × St)) (hR : ∀ n, f12_learn_h75 N x1 x2 (zI j) x4 (n + 1) (zI ((j + 1 : Nat) : Int)) S = R) : ∀ (m k n : Nat), k + m = j + 1 → m < n → (okr p k j → f12_learn_h75 N x1 x2 (zI j) x4 n (zI k) S = R) ∧ (¬ okr p k j → f12_learn_h75 N x1 x2 (zI j) x4 n (zI k) S = some (zI (-1), S)) := by
  obtain ⟨k1, k2, k3, k4⟩ := hk
  intro m
  induction m with
  | zero =>
    intro k n hk hn
    obtain ⟨n, rfl⟩ : ∃ z, n = z + 1 := ⟨n - 1, by omega⟩
    obtain rfl : k = j + 1 := by omega
    exact ⟨fun _ => hR n, fun q => absurd (fun t x a b _ => by omega) q⟩
  | succ m ih =>
    intro k n hk hn
    obtain ⟨n, rfl⟩ : ∃ z, n = z + 1 := ⟨n - 1, by omega⟩
    obtain ⟨i1, i2⟩ := ih (k + 1) n (by omega) (by omega)
    have hr : p[k]? = some p[k] := List.getElem?_eq_getElem (by omega)
    have hx := k4 _ (List.mem_of_getElem? hr)
    generalize p[k] = x at hr hx
    have h4 := k2 k x hr
    rw [Nat.zero_add] at h4
    have hs := okr_s (j := j) hr (by omega)
    have hw := within_n (x : Int) 1 7 S (by omega) (by omega) (by omega)
    have hz1 : zI ((k : Int) + ((1 : Nat) : Int)) = zI ((k + 1 : Nat) : Int) := rfl
    refine ⟨fun q => ?_, fun q => ?_⟩
    · obtain ⟨q1, q2⟩ := hs.mp q
      rw [f12_learn_h75]
      simp (disch := omega) only [iT_b, iF_b, h4, hw, hz1, nI_z, zI_add, zI_sub, zI_mul, zI_m1, ckI_z, zI_clamp, Int.toNat_natCast, bnd_some, lt, rd_same, rd_ne, rdL_same, rdL_ne, wI_2, wL_1, if_true, if_false, iT_lt, iF_lt, iT_lt0, iF_lt0, iT_0lt, iF_0lt, iT_le, iF_le, iT_le0, iF_le0, iT_0le, iF_0le, iT_eq, iF_eq, iT_eq0, iF_eq0]
      exact i1 q2
    · rw [f12_learn_h75]
      by_cases x0 : 1 ≤ x ∧ x ≤ 7
      · simp (disch := omega) only [iT_b, iF_b, h4, hw, hz1, nI_z, zI_add, zI_sub, zI_mul, zI_m1, ckI_z, zI_clamp, Int.toNat_natCast, bnd_some, lt, rd_same, rd_ne, rdL_same, rdL_ne, wI_2, wL_1, if_true, if_false, iT_lt, iF_lt, iT_lt0, iF_lt0, iT_0lt, iF_0lt, iT_le, iF_le, iT_le0, iF_le0, iT_0le, iF_0le, iT_eq, iF_eq, iT_eq0, iF_eq0]
        exact i2 (fun w => q (hs.mpr ⟨x0, w⟩))
      · simp (disch := omega) only [iT_b, iF_b, h4, hw, nI_z, zI_add, zI_sub, zI_mul, zI_m1, ckI_z, zI_clamp, Int.toNat_natCast, bnd_some, lt, rd_same, rd_ne, rdL_same, rdL_ne, wI_2, wL_1, if_true, if_false, iT_lt, iF_lt, iT_lt0, iF_lt0, iT_0lt, iF_0lt, iT_le, iF_le, iT_le0, iF_le0, iT_0le, iF_0le, iT_eq, iF_eq, iT_eq0, iF_eq0]
theorem taughtm_loop {N i j L P : Nat} {x1 : Int32} {b : Int32} {p : List Nat} (hL : L < 6) (hP : P < 4) (hij : i < j) (hj3 : j ≤ i + 3) (hj : j < p.length) : ∀ (m k n : Nat) (S : St), k + m = j + 1 → i ≤ k → m < n → khas S p → ∃ S2, f12_learn_h181 N x1 (zI i) (zI j) b (zI ((4 * L + P : Nat) : Int)) n (zI k) S = f12_learn_h181 N x1 (zI i) (zI j) b (zI ((4 * L + P : Nat) : Int)) (n - m) (zI ((j + 1 : Nat) : Int)) S2 ∧ (∀ t x, k ≤ t → t ≤ j → p[t]? = some x → S2.1 150 (4 * (4 * L + P) + (t - i)) = zI x) ∧ Same (fun c q => c = 150 ∧ 4 * (4 * L + P) + (k - i) ≤ q ∧ q < 4 * (4 * L + P) + 4) S S2 := by
  intro m
  induction m with
  | zero =>
    intro k n S hk hik hn hp
    obtain rfl : k = j + 1 := by omega
    refine ⟨S, ?_, fun t x h1 h2 => by omega, Same.rfl'⟩
    rw [Nat.sub_zero]
  | succ m ih =>
    intro k n S hk hik hn hp
    obtain ⟨n, rfl⟩ : ∃ z, n = z + 1 := ⟨n - 1, by omega⟩
    obtain ⟨k1, k2, k3, k4⟩ := hp
    have hr : p[k]? = some p[k] := List.getElem?_eq_getElem (by omega)
    generalize p[k] = x at hr
    have h4 := k2 k x hr
    rw [Nat.zero_add] at h4
    have hz : (((4 : Nat) : Int) * ((4 * L + P : Nat) : Int) + (k : Int) - (i : Int)).toNat = 4 * (4 * L + P) + (k - i) := by omega
    have hs : Same (fun c q => c = 150 ∧ 4 * (4 * L + P) + (k - i) ≤ q ∧ q < 4 * (4 * L + P) + 4) S (wI S 150 (4 * (4 * L + P) + (k - i)) (zI x)) := (Same.rfl' (P := fun c q => c = 150 ∧ 4 * (4 * L + P) + (k - i) ≤ q ∧ q < 4 * (4 * L + P) + 4)).wI (by omega)
    obtain ⟨S2, g1, g2, g3⟩ := ih (k + 1) n (wI S 150 (4 * (4 * L + P) + (k - i)) (zI x)) (by omega) (by omega) (by omega) ⟨by simp (disch := omega) only [k1, nI_z, zI_add, zI_sub, zI_mul, zI_m1, ckI_z, zI_clamp, Int.toNat_natCast, bnd_some, lt, rd_same, rd_ne, rdL_same, rdL_ne, wI_2, wL_1, if_true, if_false, iT_lt, iF_lt, iT_lt0, iF_lt0, iT_0lt, iF_0lt, iT_le, iF_le, iT_le0, iF_le0, iT_0le, iF_0le, iT_eq, iF_eq, iT_eq0, iF_eq0], k2.same hs (fun k => by omega), k3, k4⟩
    have hz1 : zI ((k : Int) + ((1 : Nat) : Int)) = zI ((k + 1 : Nat) : Int) := rfl
    refine ⟨S2, ?_, fun t y h1 h2 hy => ?_, hs.tr (g3.mono (fun c q z => by omega))⟩
    · rw [f12_learn_h181, show n + 1 - (m + 1) = n - m by omega]
      simp (disch := omega) only [h4, hz, hz1, nI_z, zI_add, zI_sub, zI_mul, zI_m1, ckI_z, zI_clamp, Int.toNat_natCast, bnd_some, lt, rd_same, rd_ne, rdL_same, rdL_ne, wI_2, wL_1, if_true, if_false, iT_lt, iF_lt, iT_lt0, iF_lt0, iT_0lt, iF_0lt, iT_le, iF_le, iT_le0, iF_le0, iT_0le, iF_0le, iT_eq, iF_eq, iT_eq0, iF_eq0]
      exact g1
    · by_cases e : t = k
      · subst e
        rw [hr] at hy
        injection hy with hy
        rw [g3.i (by omega), rd_same, hy]
      · exact g2 t y (by omega) h2 hy
theorem taught_model {N i L b u w : Nat} {S : St} {g : Lg} {p : List Nat} (hN : 100 ≤ N) (hi : i < L) (hL : L < 6) (hv : LV g) (hm : ML S i g) (hc : S.1 146 6 = zI L) (hk : khas S p) (h4 : g.2.length < 4) (ht : PTn p u w) (hb : 1 ≤ b ∧ b ≤ 6) (hs : lsum g.1 + 2 ^ (6 - b) ≤ 64) :
    ∃ S1 S2, f12_copy N (zI i) S = some ((), S1) ∧ S1.1 146 6 = zI L ∧ S1.1 152 i = zI g.2.length ∧ f12_learn_h181 N (zI i) (zI u) (zI w) (zI b) (zI ((4 * L + g.2.length : Nat) : Int)) N (zI u) (wI S1 151 (4 * L + g.2.length) (zI ((w - u + 1 : Nat) : Int))) = some (zI L, S2) ∧ ML S2 L (lgt g p u w b) ∧ S2.1 146 6 = zI ((L : Int) + ((1 : Nat) : Int)) ∧ Same (mnP L) S S2 := by
  have hlv := lgt_LV hv h4 ht hb hs
  obtain ⟨t1, t2, t3, t4⟩ := ht
  have hgl := hv.len
  have hg1 := hv.1
  obtain ⟨S1, a1, a2, a3, a4, a5⟩ := copy_ok (N := N) (by omega) (by omega : i < 6) hL (by omega) hv hm hc
  have q152 : S1.1 152 i = zI g.2.length := by rw [a5.i (by unfold mpP; omega)]; exact hm.1
  have hk1 : khas S1 p := ⟨by rw [a5.i (by unfold mpP; omega)]; exact hk.1, hk.2.1.same a5 (fun k => by unfold mpP; omega), hk.2.2⟩
  have hs2 : Same (fun c q => c = 151 ∧ q = 4 * L + g.2.length) S1 (wI S1 151 (4 * L + g.2.length) (zI ((w - u + 1 : Nat) : Int))) := (Same.rfl' (P := fun c q => c = 151 ∧ q = 4 * L + g.2.length)).wI ⟨rfl, rfl⟩
  have hk2 : khas (wI S1 151 (4 * L + g.2.length) (zI ((w - u + 1 : Nat) : Int))) p := ⟨by simp (disch := omega) only [hk1.1, nI_z, zI_add, zI_sub, zI_mul, zI_m1, ckI_z, zI_clamp, Int.toNat_natCast, bnd_some, lt, rd_same, rd_ne, rdL_same, rdL_ne, wI_2, wL_1, if_true, if_false, iT_lt, iF_lt, iT_lt0, iF_lt0, iT_0lt, iF_0lt, iT_le, iF_le, iT_le0, iF_le0, iT_0le, iF_0le, iT_eq, iF_eq, iT_eq0, iF_eq0], hk1.2.1.same hs2 (fun k => by omega), hk1.2.2⟩
  have hk12 := hk.2.2.1
  obtain ⟨S2, b1, b2, b3⟩ := taughtm_loop (N := N) (i := u) (j := w) (L := L) (P := g.2.length) (x1 := zI i) (b := zI b) hL h4 t1 t3 t2 (w + 1 - u) u N _ (by omega) (Nat.le_refl _) (by omega) hk2
  have sA : Same (fun c q => (c = 151 ∧ q = 4 * L + g.2.length) ∨ (c = 150 ∧ 4 * (4 * L + g.2.length) ≤ q ∧ q < 4 * (4 * L + g.2.length) + 4)) S1 S2 := (hs2.mono (fun c q z => Or.inl z)).tr (b3.mono (fun c q z => Or.inr (by omega)))
  have v151 : S2.1 151 (4 * L + g.2.length) = zI ((w - u + 1 : Nat) : Int) := by rw [b3.i (by omega), rd_same]
  have h6 : S2.1 146 6 = zI L := by rw [sA.i (by omega)]; exact a4
  have h152 : S2.1 152 i = zI g.2.length := by rw [sA.i (by omega)]; exact q152
  have h152L : S2.1 152 L = zI g.2.length := by rw [sA.i (by omega)]; exact a2.1
  have s3 : Same (fun c q => (c = 147 ∧ q = 12 * L + g.1.length) ∨ (c = 152 ∧ q = L)) S2 (wI (wI S2 147 (12 * L + g.1.length) (zI b)) 152 L (zI ((g.2.length : Int) + ((1 : Nat) : Int)))) := (Same.rfl' (P := fun c q => (c = 147 ∧ q = 12 * L + g.1.length) ∨ (c = 152 ∧ q = L))) |>.wI (by omega) |>.wI (by omega)
  have hmb : MB (wI (wI S2 147 (12 * L + g.1.length) (zI b)) 152 L (zI ((g.2.length : Int) + ((1 : Nat) : Int)))) L (lgt g p u w b) := by
    refine ⟨?_, fun o ho => ?_⟩
    · show _ = zI (((g.2 ++ [(p.drop u).take (w - u + 1)]).length : Nat) : Int)
      rw [List.length_append, List.length_singleton, rd_same]; rfl
    · have ho : o < (g.1 ++ [b]).length := ho
      rw [List.length_append, List.length_singleton] at ho
      by_cases e : o = g.1.length
      · subst e
        rw [rd_ne (by omega), rd_same]
        unfold bit lgt
        rw [List.getD_eq_getElem?_getD, List.getElem?_append_right (Nat.le_refl _)]
        simp
      · rw [s3.i (by omega), sA.i (by omega), a2.2 o (by omega)]
        unfold bit lgt
        rw [List.getD_eq_getElem?_getD, List.getD_eq_getElem?_getD, List.getElem?_append_left (by omega)]
  have hmp : MP (wI (wI S2 147 (12 * L + g.1.length) (zI b)) 152 L (zI ((g.2.length : Int) + ((1 : Nat) : Int)))) L (lgt g p u w b) := fun k q hk => by
    have hk : (g.2 ++ [(p.drop u).take (w - u + 1)])[k]? = some q := hk
    have hkl := (List.getElem?_eq_some_iff.mp hk).1
    rw [List.length_append, List.length_singleton] at hkl
    by_cases e : k = g.2.length
    · subst e
      have hq : q = (p.drop u).take (w - u + 1) := by simpa [eq_comm] using hk
      have hl : q.length = w - u + 1 := by rw [hq, List.length_take, List.length_drop]; omega
      refine ⟨by rw [s3.i (by omega), v151, hl], fun t x ht => ?_⟩
      have htl := (List.getElem?_eq_some_iff.mp ht).1
      rw [hq, List.getElem?_take, if_pos (by omega), List.getElem?_drop] at ht
      have := b2 (u + t) x (by omega) (by omega) ht
      rw [show u + t - u = t by omega] at this
      rw [s3.i (by omega)]
      exact this
    · rw [List.getElem?_append_left (by omega)] at hk
      obtain ⟨e1, e2⟩ := a3 k q hk
      have hq4 := hv.2.2.2.2 q (List.mem_of_getElem? hk)
      refine ⟨by rw [s3.i (by omega), sA.i (by omega)]; exact e1, fun t x ht => ?_⟩
      have htl := (List.getElem?_eq_some_iff.mp ht).1
      rw [s3.i (by omega), sA.i (by omega)]
      exact e2 t x ht
  obtain ⟨S4, f1, f2, f3⟩ := f12_gc_ok (N := N) hlv hL (by omega) hmb
  have hmb4 := hmb.same f3 (fun p h => by unfold gcP at h; omega) (fun p h => by unfold gcP at h; omega)
  have hmp4 : MP S4 L (lgt g p u w b) := fun j q hj => by
    obtain ⟨d1, d2⟩ := hmp j q hj
    exact ⟨by rw [f3.i (by unfold gcP; omega)]; exact d1, d2.same f3 (fun k => by unfold gcP; omega)⟩
  have hml4 := ML.mk2 hlv hmb4 hmp4 f2
  have h64 : S4.1 146 6 = zI L := by rw [f3.i (by unfold gcP; omega), s3.i (by omega)]; exact h6
  have hs5 : Same (fun c q => c = 146 ∧ q = 6) S4 (wI S4 146 6 (zI ((L : Int) + ((1 : Nat) : Int)))) := (Same.rfl' (P := fun c q => c = 146 ∧ q = 6)).wI ⟨rfl, rfl⟩
  refine ⟨S1, wI S4 146 6 (zI ((L : Int) + ((1 : Nat) : Int))), a1, a4, q152, ?_, hml4.same hlv hs5 (fun c p _ _ _ => by omega) (fun p _ _ => by omega) (fun p _ _ => by omega) (by omega), rd_same, ((((a5.mono (fun c q z => by unfold mpP at z; unfold mnP; omega)).tr (sA.mono (fun c q z => by unfold mnP; omega))).tr (s3.mono (fun c q z => by unfold mnP; omega))).tr (f3.mono (fun c q z => by unfold gcP at z; unfold mnP; omega))).tr (hs5.mono (fun c q z => by unfold mnP; omega))⟩
  obtain ⟨n, hn⟩ : ∃ n, N - (w + 1 - u) = n + 1 := ⟨N - (w + 1 - u) - 1, by omega⟩
  rw [b1, hn, f12_learn_h181]
  have hz : (((12 : Nat) : Int) * (L : Int) + ((8 : Nat) : Int) + (g.2.length : Int)).toNat = 12 * L + g.1.length := by omega
  simp (disch := omega) only [h6, h152, hz, h152L, nI_z, zI_add, zI_sub, zI_mul, zI_m1, ckI_z, zI_clamp, Int.toNat_natCast, bnd_some, lt, rd_same, rd_ne, rdL_same, rdL_ne, wI_2, wL_1, if_true, if_false, iT_lt, iF_lt, iT_lt0, iF_lt0, iT_0lt, iF_0lt, iT_le, iF_le, iT_le0, iF_le0, iT_0le, iF_0le, iT_eq, iF_eq, iT_eq0, iF_eq0]
  rw [f1]
  simp only [bnd_some]
  simp (disch := omega) only [h64, nI_z, zI_add, zI_sub, zI_mul, zI_m1, ckI_z, zI_clamp, Int.toNat_natCast, bnd_some, lt, rd_same, rd_ne, rdL_same, rdL_ne, wI_2, wL_1, if_true, if_false, iT_lt, iF_lt, iT_lt0, iF_lt0, iT_0lt, iF_0lt, iT_le, iF_le, iT_le0, iF_le0, iT_0le, iF_0le, iT_eq, iF_eq, iT_eq0, iF_eq0]
  congr 2
  congr 1
  omega
