/-! helped: the reference, and the call. -/
def khas (S : St) (p : List Nat) : Prop := S.1 146 8 = zI p.length ∧ Held (S.1 153) 0 p ∧ p.length ≤ 12 ∧ ∀ x ∈ p, x < 12
def mh1 (N : Nat) (o L : Nat) (k40 : Int32 → St → Option (Int32 × St)) (b : Nat) (has : Prop) [Decidable has] (sm : Nat) (S : St) : Option (Int32 × St) := if has ∧ 1 < b then (if sm + 2 ^ (6 - b) ≤ 64 then k40 (zI ((o + 1 : Nat) : Int)) (wI S 147 (12 * L + o) (zI ((b - 1 : Nat) : Int))) else k40 (zI ((o + 1 : Nat) : Int)) (wI S 147 (12 * L + o) (zI b))) else k40 (zI ((o + 1 : Nat) : Int)) S
theorem helped_m_in {N o L : Nat} {x1 : Int32} {p bs : List Nat} {ps : List (List Nat)} {S : St} (hN : 20 ≤ N) (hL : L < 6) (hv : LV (bs, ps)) (hm : MB S L (bs, ps)) (hc : S.1 146 6 = zI L) (ho : o < bs.length) (hk : khas S p) (k40 : Int32 → St → Option (Int32 × St)) : ∀ (m k n : Nat), k + m = p.length → m < n →
    f12_helped_h54 N x1 (zI o) k40 n (bI (o ∈ p.take k)) (zI k) S = mh1 N o L k40 (bit (bs, ps) o) (o ∈ p) (lsum bs) S := by
  obtain ⟨k1, k2, k3, k4⟩ := hk
  have hgl : 8 ≤ bs.length ∧ bs.length ≤ 12 := hv.len
  intro m
  induction m with
  | zero =>
    intro k n hk hn
    obtain ⟨n, rfl⟩ : ∃ z, n = z + 1 := ⟨n - 1, by omega⟩
    rw [List.take_of_length_le (by omega)]
    have hb : S.1 147 (12 * L + o) = zI (bit (bs, ps) o) := hm.2 o ho
    have hbp := bit_pos hv o
    have hsum := f12_sum_b (N := N) hm hv hL (by omega)
    have hls : lsum bs ≤ 64 := hv.2.2.2.1
    have hsh := zI_shr (c := 64) (s := bit (bs, ps) o) (by omega) (by omega)
    rw [sh64 _ (by omega)] at hsh
    have hsh2 := zI_shr (c := 64) (s := bit (bs, ps) o - 1) (by omega) (by omega)
    rw [sh64 _ (by omega)] at hsh2
    have hz0 : zI ((bit (bs, ps) o - 1 : Nat) : Int) = zI ((bit (bs, ps) o : Int) - ((1 : Nat) : Int)) := by congr 1; omega
    rw [hz0] at hsh2
    have hz1 : zI ((o : Int) + ((1 : Nat) : Int)) = zI ((o + 1 : Nat) : Int) := rfl
    have hpw : 2 ^ (6 - (bit (bs, ps) o - 1)) = 2 ^ (6 - bit (bs, ps) o) + 2 ^ (6 - bit (bs, ps) o) := by
      rw [show 6 - (bit (bs, ps) o - 1) = (6 - bit (bs, ps) o) + 1 by omega, Nat.pow_succ]; omega
    have h2p : 2 ^ (6 - bit (bs, ps) o) ≤ 2 ^ 5 := Nat.pow_le_pow_right (by omega) (by omega)
    unfold mh1
    rw [hpw] at hsh2
    generalize 2 ^ (6 - bit (bs, ps) o) = wg at hsh hsh2 h2p
    rw [f12_helped_h54]
    by_cases c1 : o ∈ p
    · by_cases c2 : 1 < bit (bs, ps) o
      · have hpos : (o ∈ p ∧ 1 < bit (bs, ps) o) := ⟨c1, c2⟩
        rw [if_pos hpos]
        by_cases c3 : lsum bs + wg ≤ 64
        · rw [if_pos c3, hz0]
          simp (disch := omega) only [iT_b, iF_b, k1, hc, pl12, hb, hsum, hsh, hsh2, f12_helped_j169, hz1, nI_z, zI_add, zI_sub, zI_mul, zI_m1, ckI_z, zI_clamp, Int.toNat_natCast, bnd_some, lt, rd_same, rd_ne, rdL_same, rdL_ne, wI_2, wL_1, if_true, if_false, iT_lt, iF_lt, iT_lt0, iF_lt0, iT_0lt, iF_0lt, iT_le, iF_le, iT_le0, iF_le0, iT_0le, iF_0le, iT_eq, iF_eq, iT_eq0, iF_eq0]
        · rw [if_neg c3]
          simp (disch := omega) only [iT_b, iF_b, k1, hc, pl12, hb, hsum, hsh, hsh2, f12_helped_j169, hz1, nI_z, zI_add, zI_sub, zI_mul, zI_m1, ckI_z, zI_clamp, Int.toNat_natCast, bnd_some, lt, rd_same, rd_ne, rdL_same, rdL_ne, wI_2, wL_1, if_true, if_false, iT_lt, iF_lt, iT_lt0, iF_lt0, iT_0lt, iF_0lt, iT_le, iF_le, iT_le0, iF_le0, iT_0le, iF_0le, iT_eq, iF_eq, iT_eq0, iF_eq0]
      · have hneg : ¬ (o ∈ p ∧ 1 < bit (bs, ps) o) := fun q => c2 q.2
        rw [if_neg hneg]
        simp (disch := omega) only [iT_b, iF_b, k1, hc, pl12, hb, hz1, nI_z, zI_add, zI_sub, zI_mul, zI_m1, ckI_z, zI_clamp, Int.toNat_natCast, bnd_some, lt, rd_same, rd_ne, rdL_same, rdL_ne, wI_2, wL_1, if_true, if_false, iT_lt, iF_lt, iT_lt0, iF_lt0, iT_0lt, iF_0lt, iT_le, iF_le, iT_le0, iF_le0, iT_0le, iF_0le, iT_eq, iF_eq, iT_eq0, iF_eq0]
    · have hneg : ¬ (o ∈ p ∧ 1 < bit (bs, ps) o) := fun q => c1 q.1
      rw [if_neg hneg]
      simp (disch := omega) only [iT_b, iF_b, k1, hc, pl12, hb, hz1, nI_z, zI_add, zI_sub, zI_mul, zI_m1, ckI_z, zI_clamp, Int.toNat_natCast, bnd_some, lt, rd_same, rd_ne, rdL_same, rdL_ne, wI_2, wL_1, if_true, if_false, iT_lt, iF_lt, iT_lt0, iF_lt0, iT_0lt, iF_0lt, iT_le, iF_le, iT_le0, iF_le0, iT_0le, iF_0le, iT_eq, iF_eq, iT_eq0, iF_eq0]
  | succ m ih =>
    intro k n hk hn
    obtain ⟨n, rfl⟩ : ∃ z, n = z + 1 := ⟨n - 1, by omega⟩
    have ih1 := ih (k + 1) n (by omega) (by omega)
    have hlt : k < p.length := by omega
    have hr : p[k]? = some p[k] := List.getElem?_eq_getElem hlt
    have htk : p.take (k + 1) = p.take k ++ [p[k]] := by rw [List.take_add_one, hr]; rfl
    have hx := k4 _ (List.mem_of_getElem? hr)
    generalize p[k] = x at hr htk hx
    have h4 := k2 k x hr
    rw [Nat.zero_add] at h4
    rw [htk] at ih1
    have hn1 : nI 1 = zI 1 := rfl
    have hn0 : nI 0 = zI 0 := rfl
    rw [f12_helped_h54]
    by_cases c1 : o ∈ p.take k
    · rw [bI_t (List.mem_append.mpr (Or.inl c1))] at ih1
      simp (disch := omega) only [iT_b, iF_b, k1, f12_helped_j78, f12_helped_j83, nI_z, zI_add, zI_sub, zI_mul, zI_m1, ckI_z, zI_clamp, Int.toNat_natCast, bnd_some, lt, rd_same, rd_ne, rdL_same, rdL_ne, wI_2, wL_1, if_true, if_false, iT_lt, iF_lt, iT_lt0, iF_lt0, iT_0lt, iF_0lt, iT_le, iF_le, iT_le0, iF_le0, iT_0le, iF_0le, iT_eq, iF_eq, iT_eq0, iF_eq0]
      exact ih1
    · by_cases c2 : x = o
      · rw [bI_t (List.mem_append.mpr (Or.inr (List.mem_singleton.mpr c2.symm)))] at ih1
        simp (disch := omega) only [iT_b, iF_b, k1, h4, f12_helped_j78, f12_helped_j83, nI_z, zI_add, zI_sub, zI_mul, zI_m1, ckI_z, zI_clamp, Int.toNat_natCast, bnd_some, lt, rd_same, rd_ne, rdL_same, rdL_ne, wI_2, wL_1, if_true, if_false, iT_lt, iF_lt, iT_lt0, iF_lt0, iT_0lt, iF_0lt, iT_le, iF_le, iT_le0, iF_le0, iT_0le, iF_0le, iT_eq, iF_eq, iT_eq0, iF_eq0]
        exact ih1
      · rw [bI_f (fun q => by rcases List.mem_append.mp q with q | q; exact c1 q; exact c2 (List.mem_singleton.mp q).symm)] at ih1
        simp (disch := omega) only [iT_b, iF_b, k1, h4, f12_helped_j78, f12_helped_j83, nI_z, zI_add, zI_sub, zI_mul, zI_m1, ckI_z, zI_clamp, Int.toNat_natCast, bnd_some, lt, rd_same, rd_ne, rdL_same, rdL_ne, wI_2, wL_1, if_true, if_false, iT_lt, iF_lt, iT_lt0, iF_lt0, iT_0lt, iF_0lt, iT_le, iF_le, iT_le0, iF_le0, iT_0le, iF_0le, iT_eq, iF_eq, iT_eq0, iF_eq0]
        exact ih1
theorem MB.setb {S : St} {L o b : Nat} {bs : List Nat} {ps : List (List Nat)} (h : MB S L (bs, ps)) (ho : o < bs.length) : MB (wI S 147 (12 * L + o) (zI b)) L (bs.set o b, ps) := by
  obtain ⟨h1, h2⟩ := h
  refine ⟨by rw [rd_ne (by omega)]; exact h1, fun y hy => ?_⟩
  have hy : y < (bs.set o b).length := hy
  rw [List.length_set] at hy
  by_cases e : y = o
  · subst e
    rw [rd_same]
    unfold bit
    rw [List.getD_eq_getElem?_getD, List.getElem?_set_self ho]
    rfl
  · rw [rd_ne (by omega), h2 y hy]
    unfold bit
    rw [List.getD_eq_getElem?_getD, List.getD_eq_getElem?_getD, List.getElem?_set_ne (fun z => e z.symm)]
theorem helped_m {N i L : Nat} {p : List Nat} {g : Lg} (hN : 20 ≤ N) (hi : i < 6) (hL : L < 6) (hiL : i ≠ L) (hg : LV g) : ∀ (m o n : Nat) (S : St) (bs : List Nat), o + m = bs.length → m < n → bs.length = g.1.length → LV (bs, g.2) → MB S L (bs, g.2) → ML S i g → S.1 146 6 = zI L → khas S p → ∃ S2, f12_helped_h40 N (zI i) n (zI o) S = (bnd (f12_giveCodes N (zI L) S2) fun q4 S5 =>
      lt (wI S5 146 6 ((S5.1 146 6) + (nI 1))) fun S6 =>
      some ((S6.1 146 6) - (nI 1), S6)) ∧ MB S2 L (hfin p m o bs, g.2) ∧ Same (fun c q => c = 147 ∧ 12 * L ≤ q ∧ q < 12 * L + 12) S S2 := by
  intro m
  induction m with
  | zero =>
    intro o n S bs ho hn hbl hv hm hmi hc hk
    obtain ⟨n, rfl⟩ : ∃ z, n = z + 1 := ⟨n - 1, by omega⟩
    have hgl : 8 ≤ bs.length ∧ bs.length ≤ 12 := hv.len
    refine ⟨S, ?_, hm, Same.rfl'⟩
    rw [f12_helped_h40, f12_ordersOf_in hmi.1 hg hi]
    simp only [bnd_some]
    rw [iT_le (by omega), hc]
  | succ m ih =>
    intro o n S bs ho hn hbl hv hm hmi hc hk
    obtain ⟨n, rfl⟩ : ∃ z, n = z + 1 := ⟨n - 1, by omega⟩
    have hgl : 8 ≤ bs.length ∧ bs.length ≤ 12 := hv.len
    have hlt : o < bs.length := by omega
    have hin := helped_m_in (N := N) (x1 := zI i) hN hL hv hm hc hlt hk (f12_helped_h40 N (zI i) n) p.length 0 N (by omega) (by have := hk.2.2.1; omega)
    rw [List.take_zero, bI_f (by simp)] at hin
    have step : f12_helped_h40 N (zI i) (n + 1) (zI o) S = mh1 N o L (f12_helped_h40 N (zI i) n) (bit (bs, g.2) o) (o ∈ p) (lsum bs) S := by
      rw [f12_helped_h40, f12_ordersOf_in hmi.1 hg hi]
      simp only [bnd_some]
      rw [iF_le (by omega)]
      exact hin
    obtain ⟨q1, q2⟩ := hst_LV (p := p) (o := o) hv
    have hmm : hfin p (m + 1) o bs = hfin p m (o + 1) (hst p bs o) := rfl
    have hbe : bit (bs, g.2) o = bs.getD o 1 := rfl
    rw [hmm]
    have hsame : ∀ b : Nat, Same (fun c q => c = 147 ∧ 12 * L ≤ q ∧ q < 12 * L + 12) S (wI S 147 (12 * L + o) (zI b)) := fun b => (Same.rfl' (P := fun c q => c = 147 ∧ 12 * L ≤ q ∧ q < 12 * L + 12)).wI (by omega)
    have hmi2 : ∀ b : Nat, ML (wI S 147 (12 * L + o) (zI b)) i g := fun b => hmi.same hg (hsame b) (fun c p _ _ _ => by omega) (fun p _ _ => by omega) (fun p _ _ => by omega) (by omega)
    have hk2 : ∀ b : Nat, khas (wI S 147 (12 * L + o) (zI b)) p := fun b => ⟨by simp (disch := omega) only [hk.1, nI_z, zI_add, zI_sub, zI_mul, zI_m1, ckI_z, zI_clamp, Int.toNat_natCast, bnd_some, lt, rd_same, rd_ne, rdL_same, rdL_ne, wI_2, wL_1, if_true, if_false, iT_lt, iF_lt, iT_lt0, iF_lt0, iT_0lt, iF_0lt, iT_le, iF_le, iT_le0, iF_le0, iT_0le, iF_0le, iT_eq, iF_eq, iT_eq0, iF_eq0], hk.2.1.same (hsame b) (fun k => by omega), hk.2.2⟩
    have hset : bs.set o (bit (bs, g.2) o) = bs := by
      have hr : bs[o]? = some bs[o] := List.getElem?_eq_getElem hlt
      have : bit (bs, g.2) o = bs[o] := by rw [hbe, List.getD_eq_getElem?_getD, hr]; rfl
      rw [this]
      exact List.set_getElem_self hlt
    rw [step]
    unfold mh1
    by_cases c1 : o ∈ p ∧ 1 < bit (bs, g.2) o
    · rw [if_pos c1]
      by_cases c2 : lsum bs + 2 ^ (6 - bit (bs, g.2) o) ≤ 64
      · rw [if_pos c2]
        have hst1 : hst p bs o = bs.set o (bit (bs, g.2) o - 1) := if_pos ⟨c1.1, c1.2, c2⟩
        rw [hst1] at q1 q2 ⊢
        obtain ⟨S2, g1, g2, g3⟩ := ih (o + 1) n _ (bs.set o (bit (bs, g.2) o - 1)) (by omega) (by omega) (by omega) q1 (MB.setb hm hlt) (hmi2 _) (by simp (disch := omega) only [hc, nI_z, zI_add, zI_sub, zI_mul, zI_m1, ckI_z, zI_clamp, Int.toNat_natCast, bnd_some, lt, rd_same, rd_ne, rdL_same, rdL_ne, wI_2, wL_1, if_true, if_false, iT_lt, iF_lt, iT_lt0, iF_lt0, iT_0lt, iF_0lt, iT_le, iF_le, iT_le0, iF_le0, iT_0le, iF_0le, iT_eq, iF_eq, iT_eq0, iF_eq0]) (hk2 _)
        exact ⟨S2, g1, g2, (hsame _).tr g3⟩
      · rw [if_neg c2]
        have hst1 : hst p bs o = bs := if_neg (fun q => c2 q.2.2)
        rw [hst1]
        have hmb := MB.setb (b := bit (bs, g.2) o) hm hlt
        rw [hset] at hmb
        obtain ⟨S2, g1, g2, g3⟩ := ih (o + 1) n _ bs (by omega) (by omega) hbl hv hmb (hmi2 _) (by simp (disch := omega) only [hc, nI_z, zI_add, zI_sub, zI_mul, zI_m1, ckI_z, zI_clamp, Int.toNat_natCast, bnd_some, lt, rd_same, rd_ne, rdL_same, rdL_ne, wI_2, wL_1, if_true, if_false, iT_lt, iF_lt, iT_lt0, iF_lt0, iT_0lt, iF_0lt, iT_le, iF_le, iT_le0, iF_le0, iT_0le, iF_0le, iT_eq, iF_eq, iT_eq0, iF_eq0]) (hk2 _)
        exact ⟨S2, g1, g2, (hsame _).tr g3⟩
    · rw [if_neg c1]
      have hst1 : hst p bs o = bs := if_neg (fun q => c1 ⟨q.1, q.2.1⟩)
      rw [hst1]
      exact ih (o + 1) n S bs (by omega) (by omega) hbl hv hm hmi hc hk
