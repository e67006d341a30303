/-! The call helped. -/
def hst (p bs : List Nat) (o : Nat) : List Nat := if o ∈ p ∧ 1 < bs.getD o 1 ∧ lsum bs + 2 ^ (6 - bs.getD o 1) ≤ 64 then bs.set o (bs.getD o 1 - 1) else bs
def hfin (p : List Nat) : Nat → Nat → List Nat → List Nat
  | 0, _, bs => bs
  | m + 1, o, bs => hfin p m (o + 1) (hst p bs o)
theorem lsum_set : ∀ (bs : List Nat) (o b : Nat), bs[o]? = some b → 1 < b → b ≤ 6 → lsum (bs.set o (b - 1)) = lsum bs + 2 ^ (6 - b)
  | [], o, b, h, _, _ => by simp at h
  | x :: t, 0, b, h, h1, h2 => by
    obtain rfl : x = b := by simpa using h
    show 2 ^ (6 - (x - 1)) + lsum t = (2 ^ (6 - x) + lsum t) + 2 ^ (6 - x)
    rw [show 6 - (x - 1) = (6 - x) + 1 by omega, Nat.pow_succ]
    omega
  | x :: t, o + 1, b, h, h1, h2 => by
    have ih := lsum_set t o b (by simpa using h) h1 h2
    show 2 ^ (6 - x) + lsum (t.set o (b - 1)) = (2 ^ (6 - x) + lsum t) + 2 ^ (6 - b)
    omega
theorem hst_LV {p bs : List Nat} {ps : List (List Nat)} {o : Nat} (h : LV (bs, ps)) : LV (hst p bs o, ps) ∧ (hst p bs o).length = bs.length := by
  unfold hst
  by_cases c : o ∈ p ∧ 1 < bs.getD o 1 ∧ lsum bs + 2 ^ (6 - bs.getD o 1) ≤ 64
  · rw [if_pos c]
    obtain ⟨c1, c2, c3⟩ := c
    have hlt : o < bs.length := by
      rcases Nat.lt_or_ge o bs.length with q | q
      · exact q
      · rw [List.getD_eq_getElem?_getD, List.getElem?_eq_none q] at c2
        exact absurd c2 (by decide)
    have hr : bs[o]? = some bs[o] := List.getElem?_eq_getElem hlt
    have hgd : bs.getD o 1 = bs[o] := by rw [List.getD_eq_getElem?_getD, hr]; rfl
    rw [hgd] at c2 c3 ⊢
    have h6 := h.2.2.1 bs[o] (List.getElem_mem hlt)
    obtain ⟨h1, h2, h3, h4, h5⟩ := h
    refine ⟨⟨by show (bs.set o _).length = _; rw [List.length_set]; exact h1, h2, fun b hb => ?_, ?_, h5⟩, List.length_set⟩
    · rcases List.mem_or_eq_of_mem_set hb with q | q
      · exact h3 b q
      · omega
    · show lsum (bs.set o (bs[o] - 1)) ≤ 64
      rw [lsum_set bs o _ hr c2 h6.2]
      exact c3
  · rw [if_neg c]
    exact ⟨h, rfl⟩
theorem hfin_LV {p : List Nat} {ps : List (List Nat)} : ∀ (m o : Nat) (bs : List Nat), LV (bs, ps) → LV (hfin p m o bs, ps) ∧ (hfin p m o bs).length = bs.length
  | 0, _, _, h => ⟨h, rfl⟩
  | m + 1, o, bs, h => by
    obtain ⟨a, b⟩ := hst_LV (p := p) (o := o) h
    obtain ⟨c, d⟩ := hfin_LV (p := p) m (o + 1) _ a
    exact ⟨c, d.trans b⟩
theorem holds_loop {N o : Nat} {S : St} {a : Nat} {p : List Nat} (hp : PR S a p) (ho : o < 100) : ∀ (m i n : Nat), i + m = p.length → m < n → f6_holds_h2 N a (zI o) n (zI i) S = some (bI (o ∈ p.drop i), S) := by
  have h1 := hp.1
  have h12 := hp.2.1
  intro m
  induction m with
  | zero =>
    intro i n hi hn
    obtain ⟨n, rfl⟩ : ∃ z, n = z + 1 := ⟨n - 1, by omega⟩
    rw [List.drop_eq_nil_of_le (by omega), bI_f (by simp), f6_holds_h2]
    simp (disch := omega) only [h1, nI_z, zI_add, zI_sub, zI_mul, zI_m1, ckI_z, zI_clamp, Int.toNat_natCast, bnd_some, lt, rd_same, rd_ne, rdL_same, rdL_ne, wI_2, wL_1, if_true, if_false, iT_lt, iF_lt, iT_lt0, iF_lt0, iT_0lt, iF_0lt, iT_le, iF_le, iT_le0, iF_le0, iT_0le, iF_0le, iT_eq, iF_eq, iT_eq0, iF_eq0]
    rfl
  | succ m ih =>
    intro i n hi hn
    obtain ⟨n, rfl⟩ : ∃ z, n = z + 1 := ⟨n - 1, by omega⟩
    have hlt : i < p.length := by omega
    have hr : p[i]? = some p[i] := List.getElem?_eq_getElem hlt
    rw [List.drop_eq_getElem_cons hlt]
    have hx := hp.2.2.1 _ (List.mem_of_getElem? hr)
    generalize p[i] = x at hr hx
    have hor := f6_orderAt_in hp hr
    have ih1 := ih (i + 1) n (by omega) (by omega)
    rw [f6_holds_h2]
    by_cases e : x = o
    · rw [bI_t (by rw [e]; exact List.mem_cons_self)]
      simp (disch := omega) only [h1, hor, nI_z, zI_add, zI_sub, zI_mul, zI_m1, ckI_z, zI_clamp, Int.toNat_natCast, bnd_some, lt, rd_same, rd_ne, rdL_same, rdL_ne, wI_2, wL_1, if_true, if_false, iT_lt, iF_lt, iT_lt0, iF_lt0, iT_0lt, iF_0lt, iT_le, iF_le, iT_le0, iF_le0, iT_0le, iF_0le, iT_eq, iF_eq, iT_eq0, iF_eq0]
      rfl
    · have hbi : bI (o ∈ x :: p.drop (i + 1)) = bI (o ∈ p.drop (i + 1)) := by
        by_cases q : o ∈ p.drop (i + 1)
        · rw [bI_t q, bI_t (List.mem_cons_of_mem _ q)]
        · rw [bI_f q, bI_f (fun w => by rcases List.mem_cons.mp w with w | w; exact e w.symm; exact q w)]
      rw [hbi]
      simp (disch := omega) only [h1, hor, nI_z, zI_add, zI_sub, zI_mul, zI_m1, ckI_z, zI_clamp, Int.toNat_natCast, bnd_some, lt, rd_same, rd_ne, rdL_same, rdL_ne, wI_2, wL_1, if_true, if_false, iT_lt, iF_lt, iT_lt0, iF_lt0, iT_0lt, iF_0lt, iT_le, iF_le, iT_le0, iF_le0, iT_0le, iF_0le, iT_eq, iF_eq, iT_eq0, iF_eq0]
      exact ih1
theorem CB.setb {S : St} {a o b : Nat} {bs : List Nat} {ps : List (List Nat)} (h : CB S a (bs, ps)) (ho : o < bs.length) : CB (wI S (a + 1) o (zI b)) a (bs.set o b, ps) := by
  obtain ⟨h1, h2, h3⟩ := h
  refine ⟨by rw [rd_ne (by omega)]; show _ = zI ((bs.set o b).length : Int); rw [List.length_set]; exact h1, fun y hy => ?_, fun i q hi => ?_⟩
  · have hy : y < (bs.set o b).length := hy
    rw [List.length_set] at hy
    by_cases e : y = o
    · subst e
      rw [rd_same]
      unfold bit
      rw [List.getD_eq_getElem?_getD, List.getElem?_set_self ho]
      rfl
    · rw [rd_ne (by omega), h2 y hy]
      unfold bit
      rw [List.getD_eq_getElem?_getD, List.getD_eq_getElem?_getD, List.getElem?_set_ne (fun z => e z.symm)]
  · have hs : Same (fun c _ => c = a + 1) S (wI S (a + 1) o (zI b)) := (Same.rfl' (P := fun c _ => c = a + 1)).wI rfl
    obtain ⟨c1, c2⟩ := h3 i q hi
    exact ⟨by rw [rd_ne (by omega)]; exact c1, c2.same hs (fun k => by omega)⟩
theorem helped_c {N a : Nat} {p : List Nat} {ps : List (List Nat)} (hN : 100 ≤ N) (ha : 50 ≤ a) : ∀ (m o n : Nat) (S : St) (bs : List Nat), o + m = bs.length → m < n → LV (bs, ps) → CB S a (bs, ps) → PR S 2 p → ∃ S2, f3_beHelped_h7 N a 2 n (zI o) S = f3_beHelped_j77 N a S2 ∧ CB S2 a (hfin p m o bs, ps) ∧ Same (fun c _ => c = a + 1) S S2 := by
  intro m
  induction m with
  | zero =>
    intro o n S bs ho hn hv hc hp
    obtain ⟨n, rfl⟩ : ∃ z, n = z + 1 := ⟨n - 1, by omega⟩
    have hgl := hv.len
    have h1 : S.1 a 0 = zI bs.length := hc.1
    have hgl : 8 ≤ bs.length ∧ bs.length ≤ 12 := hgl
    refine ⟨S, ?_, hc, Same.rfl'⟩
    rw [f3_beHelped_h7]
    simp (disch := omega) only [h1, nI_z, zI_add, zI_sub, zI_mul, zI_m1, ckI_z, zI_clamp, Int.toNat_natCast, bnd_some, lt, rd_same, rd_ne, rdL_same, rdL_ne, wI_2, wL_1, if_true, if_false, iT_lt, iF_lt, iT_lt0, iF_lt0, iT_0lt, iF_0lt, iT_le, iF_le, iT_le0, iF_le0, iT_0le, iF_0le, iT_eq, iF_eq, iT_eq0, iF_eq0]
  | succ m ih =>
    intro o n S bs ho hn hv hc hp
    obtain ⟨n, rfl⟩ : ∃ z, n = z + 1 := ⟨n - 1, by omega⟩
    have hgl : 8 ≤ bs.length ∧ bs.length ≤ 12 := hv.len
    have h1 : S.1 a 0 = zI bs.length := hc.1
    have hlt : o < bs.length := by omega
    have hb : S.1 (a + 1) o = zI (bit (bs, ps) o) := hc.2.1 o hlt
    have hbp := bit_pos hv o
    have hbe : bit (bs, ps) o = bs.getD o 1 := rfl
    have h12 := hp.2.1
    have hho := holds_loop (N := N) (o := o) hp (by omega) p.length 0 N (by omega) (by omega)
    rw [List.drop_zero] at hho
    have hho' : f6_holds N 2 (zI o) S = some (bI (o ∈ p), S) := hho
    have hsum := f3_sum_b (N := N) hc hv (by omega)
    have hls : lsum bs ≤ 64 := hv.2.2.2.1
    have hsh := zI_shr (c := 64) (s := bit (bs, ps) o) (by omega) (by omega)
    rw [sh64 _ (by omega)] at hsh
    have hz1 : zI ((o : Int) + ((1 : Nat) : Int)) = zI ((o + 1 : Nat) : Int) := rfl
    obtain ⟨q1, q2⟩ := hst_LV (p := p) (o := o) hv
    have hm : hfin p (m + 1) o bs = hfin p m (o + 1) (hst p bs o) := rfl
    have h2p : 2 ^ (6 - bit (bs, ps) o) ≤ 2 ^ 5 := Nat.pow_le_pow_right (by omega) (by omega)
    rw [hm]
    by_cases c : o ∈ p ∧ 1 < bs.getD o 1 ∧ lsum bs + 2 ^ (6 - bs.getD o 1) ≤ 64
    · have hst1 : hst p bs o = bs.set o (bs.getD o 1 - 1) := if_pos c
      obtain ⟨c1, c2, c3⟩ := c
      rw [hst1] at q1 q2 ⊢
      rw [← hbe] at c2 c3 q1 q2 ⊢
      have hcb := CB.setb (b := bit (bs, ps) o - 1) hc hlt
      have hs : Same (fun c _ => c = a + 1) S (wI S (a + 1) o (zI ((bit (bs, ps) o - 1 : Nat) : Int))) := (Same.rfl' (P := fun c _ => c = a + 1)).wI rfl
      obtain ⟨S2, g1, g2, g3⟩ := ih (o + 1) n _ (bs.set o (bit (bs, ps) o - 1)) (by rw [List.length_set]; omega) (by omega) q1 hcb (hp.same hs (fun k => by omega) (fun k => by omega))
      refine ⟨S2, ?_, g2, hs.tr g3⟩
      have hzz : zI ((bit (bs, ps) o : Int) - ((1 : Nat) : Int)) = zI ((bit (bs, ps) o - 1 : Nat) : Int) := by congr 1; omega
      rw [f3_beHelped_h7]
      generalize 2 ^ (6 - bit (bs, ps) o) = wg at c3 h2p hsh
      simp (disch := omega) only [iT_b, iF_b, h1, hho', hb, hsum, hsh, hzz, hz1, nI_z, zI_add, zI_sub, zI_mul, zI_m1, ckI_z, zI_clamp, Int.toNat_natCast, bnd_some, lt, rd_same, rd_ne, rdL_same, rdL_ne, wI_2, wL_1, if_true, if_false, iT_lt, iF_lt, iT_lt0, iF_lt0, iT_0lt, iF_0lt, iT_le, iF_le, iT_le0, iF_le0, iT_0le, iF_0le, iT_eq, iF_eq, iT_eq0, iF_eq0]
      exact g1
    · have hst1 : hst p bs o = bs := if_neg c
      rw [hst1]
      obtain ⟨S2, g1, g2, g3⟩ := ih (o + 1) n S bs (by omega) (by omega) hv hc hp
      refine ⟨S2, ?_, g2, g3⟩
      rw [f3_beHelped_h7]
      by_cases c1 : o ∈ p
      · by_cases c2 : 1 < bs.getD o 1
        · have c3 : ¬ lsum bs + 2 ^ (6 - bs.getD o 1) ≤ 64 := fun q => c ⟨c1, c2, q⟩
          rw [← hbe] at c2 c3
          generalize 2 ^ (6 - bit (bs, ps) o) = wg at c3 h2p hsh
          simp (disch := omega) only [iT_b, iF_b, h1, hho', hb, hsum, hsh, hz1, nI_z, zI_add, zI_sub, zI_mul, zI_m1, ckI_z, zI_clamp, Int.toNat_natCast, bnd_some, lt, rd_same, rd_ne, rdL_same, rdL_ne, wI_2, wL_1, if_true, if_false, iT_lt, iF_lt, iT_lt0, iF_lt0, iT_0lt, iF_0lt, iT_le, iF_le, iT_le0, iF_le0, iT_0le, iF_0le, iT_eq, iF_eq, iT_eq0, iF_eq0]
          exact g1
        · rw [← hbe] at c2
          simp (disch := omega) only [iT_b, iF_b, h1, hho', hb, hz1, nI_z, zI_add, zI_sub, zI_mul, zI_m1, ckI_z, zI_clamp, Int.toNat_natCast, bnd_some, lt, rd_same, rd_ne, rdL_same, rdL_ne, wI_2, wL_1, if_true, if_false, iT_lt, iF_lt, iT_lt0, iF_lt0, iT_0lt, iF_0lt, iT_le, iF_le, iT_le0, iF_le0, iT_0le, iF_0le, iT_eq, iF_eq, iT_eq0, iF_eq0]
          exact g1
      · simp (disch := omega) only [iT_b, iF_b, h1, hho', hz1, nI_z, zI_add, zI_sub, zI_mul, zI_m1, ckI_z, zI_clamp, Int.toNat_natCast, bnd_some, lt, rd_same, rd_ne, rdL_same, rdL_ne, wI_2, wL_1, if_true, if_false, iT_lt, iF_lt, iT_lt0, iF_lt0, iT_0lt, iF_0lt, iT_le, iF_le, iT_le0, iF_le0, iT_0le, iF_0le, iT_eq, iF_eq, iT_eq0, iF_eq0]
        exact g1
