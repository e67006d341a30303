/-! A whole ask, written by the class and worked out by the reference. -/
def wtP (a c k : Nat) : Prop := tpP a c k ∨ (c = a ∧ k = 2)
def fres (X : Nat ⊕ List Nat) : Int := match X with
  | .inl e => e
  | .inr _ => -1
theorem pAll_l {T : Nat → Nat} {n e : Nat} (h : pAll T n = .inl e) : e ≤ n := by
  unfold pAll at h
  have hk := pA_ok (T := T) (n := n) (p := 0) (pv := pT T n 7 0) (fun p hp => pT_ok 7 0 p hp) (by omega)
  cases hx : pA T n (pT T n 7 0) 0 with
  | inl e2 =>
    rw [hx] at h hk
    obtain rfl : e2 = e := by injection h
    exact hk
  | inr q =>
    rw [hx] at h
    by_cases e3 : q.1 < n
    · have h : (if q.1 < n then .inl q.1 else .inr q.2 : Nat ⊕ List Nat) = .inl e := h
      rw [if_pos e3] at h
      injection h with h
      omega
    · have h : (if q.1 < n then .inl q.1 else .inr q.2 : Nat ⊕ List Nat) = .inl e := h
      rw [if_neg e3] at h
      injection h
theorem writeTo_c {N a n : Nat} {T : Nat → Nat} {S : St} {x : Int32} (hN : 200 ≤ N) (ha : 12 < a) (h : TB S T n) : ∃ S2, f9_writeTo N a x S = some (zI (fres (pAll T n)), S2) ∧ (∀ l, pAll T n = .inr l → AK S2 a l ∧ S2.1 a 2 = x) ∧ TB S2 T n ∧ Same (wtP a) S S2 := by
  have hs : Same (wtP a) S (wI (wI (wI (wI S 11 2 (zI ((0 : Nat) : Int))) 11 3 (zI (-1))) a 1 (zI ((0 : Nat) : Int))) a 2 x) := (Same.rfl' (P := wtP a)) |>.wI (by unfold wtP tpP; omega) |>.wI (by unfold wtP tpP; omega) |>.wI (by unfold wtP tpP; omega) |>.wI (by unfold wtP tpP; omega)
  have hst : f9_writeTo N a x S = bnd (f9_readAny N (f9_readOne N 8) a (zI ((0 : Nat) : Int)) (wI (wI (wI (wI S 11 2 (zI ((0 : Nat) : Int))) 11 3 (zI (-1))) a 1 (zI ((0 : Nat) : Int))) a 2 x)) fun q5 S6 => if (S6.1 11 1) ≤ (S6.1 11 2) then f9_writeTo_j36 N S6 else bnd (f9_fail S6) fun q8 S9 => f9_writeTo_j36 N S9 := rfl
  rw [hst]
  have hL : TL (wI (wI (wI (wI S 11 2 (zI ((0 : Nat) : Int))) 11 3 (zI (-1))) a 1 (zI ((0 : Nat) : Int))) a 2 x) T n 0 := ⟨h.same hs (by unfold wtP tpP; omega) (fun k => by unfold wtP tpP; omega), by omega, by simp (disch := omega) only [nI_z, zI_add, zI_sub, zI_mul, zI_m1, ckI_z, zI_clamp, Int.toNat_natCast, bnd_some, lt, rd_same, rd_ne, rdL_same, rdL_ne, wI_2, wL_1, if_true, if_false, iT_lt, iF_lt, iT_lt0, iF_lt0, iT_0lt, iF_0lt, iT_le, iF_le, iT_le0, iF_le0, iT_0le, iF_0le, iT_eq, iF_eq, iT_eq0, iF_eq0], by simp (disch := omega) only [nI_z, zI_add, zI_sub, zI_mul, zI_m1, ckI_z, zI_clamp, Int.toNat_natCast, bnd_some, lt, rd_same, rd_ne, rdL_same, rdL_ne, wI_2, wL_1, if_true, if_false, iT_lt, iF_lt, iT_lt0, iF_lt0, iT_0lt, iF_0lt, iT_le, iF_le, iT_le0, iF_le0, iT_0le, iF_0le, iT_eq, iF_eq, iT_eq0, iF_eq0]⟩
  have hA : AK (wI (wI (wI (wI S 11 2 (zI ((0 : Nat) : Int))) 11 3 (zI (-1))) a 1 (zI ((0 : Nat) : Int))) a 2 x) a [] := ⟨by simp, by simp (disch := omega) only [nI_z, zI_add, zI_sub, zI_mul, zI_m1, ckI_z, zI_clamp, Int.toNat_natCast, bnd_some, lt, rd_same, rd_ne, rdL_same, rdL_ne, wI_2, wL_1, if_true, if_false, iT_lt, iF_lt, iT_lt0, iF_lt0, iT_0lt, iF_0lt, iT_le, iF_le, iT_le0, iF_le0, iT_0le, iF_0le, iT_eq, iF_eq, iT_eq0, iF_eq0]; rfl, fun i x h => by simp at h⟩
  have hx2 : (wI (wI (wI (wI S 11 2 (zI ((0 : Nat) : Int))) 11 3 (zI (-1))) a 1 (zI ((0 : Nat) : Int))) a 2 x).1 a 2 = x := rd_same
  generalize wI (wI (wI (wI S 11 2 (zI ((0 : Nat) : Int))) 11 3 (zI (-1))) a 1 (zI ((0 : Nat) : Int))) a 2 x = S1 at hs hL hA hx2
  have hv : PVL (f9_readOne N 8) T n a 0 (pT T n 7 0) := by
    rcases one_c (N := N) (T := T) (n := n) hN ha 7 0 (by omega) with q | q
    · exact q
    · omega
  obtain ⟨S2, b1, b2, b3⟩ := any_c (N := N) hN ha hv (one_d (o := 0) (f := 7) hN ha) (fun p hp => pT_ok 7 0 p hp) hL hA (by simp)
  have hok := pA_ok (T := T) (n := n) (p := 0) (pv := pT T n 7 0) (fun p hp => pT_ok 7 0 p hp) (by omega)
  have b4 : Same (wtP a) S1 S2 := b3.mono (fun c k z => Or.inl z)
  have hx3 : S2.1 a 2 = x := by rw [b3.i (by unfold tpP; omega)]; exact hx2
  rw [b1, bnd_some]
  unfold pAll
  cases hx : pA T n (pT T n 7 0) 0 with
  | inl e =>
    rw [hx] at b2
    obtain ⟨⟨t1, t2, t3⟩, t4⟩ := b2
    have hn1 := t1.2.1
    refine ⟨S2, ?_, fun l q => by simp at q, t1, hs.tr b4⟩
    have hf := fail_d (S := S2) (T := T) (n := n) (e := e) ⟨t1, t2, t3⟩
    by_cases e1 : S2.1 11 1 ≤ S2.1 11 2
    · rw [if_pos e1]
      exact congrArg some (Prod.ext t3 rfl)
    · rw [if_neg e1, hf, bnd_some]
      exact congrArg some (Prod.ext t3 rfl)
  | inr q =>
    rw [hx] at b2 hok
    obtain ⟨t1, t2⟩ := b2
    have hn1 := t1.1.2.1
    have hn2 := t1.2.2.1
    have hn60 := t1.1.1
    have hq := t1.2.1
    by_cases e1 : q.1 < n
    · obtain ⟨S3, c1, c2, c3⟩ := fail_l t1
      refine ⟨S3, ?_, fun l z => ?_, c2.1, (hs.tr b4).tr (c3.mono (fun c k z => by unfold wtP tpP; omega))⟩
      · rw [hn1, hn2, iF_le (by omega), c1, bnd_some]
        show some (S3.1 11 3, S3) = _
        rw [c2.2.2]
        show some (zI (q.1 : Int), S3) = some (zI (fres (if q.1 < n then .inl q.1 else .inr q.2)), S3)
        rw [if_pos e1]
        rfl
      · have z : (if q.1 < n then .inl q.1 else .inr q.2 : Nat ⊕ List Nat) = .inr l := z
        rw [if_pos e1] at z
        simp at z
    · refine ⟨S2, ?_, fun l z => ?_, t1.1, hs.tr b4⟩
      · rw [hn1, hn2, iT_le (by omega)]
        show some (S2.1 11 3, S2) = some (zI (fres (if q.1 < n then .inl q.1 else .inr q.2)), S2)
        rw [if_neg e1, t1.2.2.2]
        rfl
      · have z : (if q.1 < n then .inl q.1 else .inr q.2 : Nat ⊕ List Nat) = .inr l := z
        rw [if_neg e1] at z
        injection z with z
        subst z
        rw [List.nil_append] at t2
        exact ⟨t2, hx3⟩
def wkP (c k : Nat) : Prop := c = 146 ∧ 35 ≤ k ∧ k ≤ 39
theorem workOut_m {N n xx : Nat} {T : Nat → Nat} {bs : Int} {m : Mc} {S : St} (hN : 200 ≤ N) (hn : n ≤ 60) (hT : ∀ i, T i < 256) (hb : -1 ≤ bs ∧ bs ≤ 540) (hm : ∀ i, i < n → (bs < 0 → S.1 162 i = zI (T i)) ∧ (0 ≤ bs → S.1 163 (bs.toNat + i) = zI (T i))) (hE : EV S m xx) :
    ∃ v S2, f12_workOut N (zI bs) (zI n) S = some (v, S2) ∧ S2.1 146 38 = zI (fres (pAll T n)) ∧ (∀ l, pAll T n = .inr l → (∀ st, ev (vn m xx) l st = v :: st) ∧ (v = zI 0 ∨ v = zI 1)) ∧ Same wkP S S2 := by
  have hs : Same wkP S (wI (wI (wI (wI (wI S 146 35 (zI bs)) 146 36 (zI ((0 : Nat) : Int))) 146 37 (zI n)) 146 38 (zI (-1))) 146 39 (zI ((0 : Nat) : Int))) := (Same.rfl' (P := wkP)) |>.wI (by unfold wkP; omega) |>.wI (by unfold wkP; omega) |>.wI (by unfold wkP; omega) |>.wI (by unfold wkP; omega) |>.wI (by unfold wkP; omega)
  have hst : f12_workOut N (zI bs) (zI n) S = bnd (f12_either N (f12_turned N 8) (wI (wI (wI (wI (wI S 146 35 (zI bs)) 146 36 (zI ((0 : Nat) : Int))) 146 37 (zI n)) 146 38 (zI (-1))) 146 39 (zI ((0 : Nat) : Int)))) fun q6 S7 => if 0 ≤ (S7.1 146 38) then some (q6, S7) else if (S7.1 146 37) ≤ (S7.1 146 36) then some (q6, S7) else bnd (f12_wrong S7) fun q10 S11 => some (q10, S11) := rfl
  rw [hst]
  have hL : NL (wI (wI (wI (wI (wI S 146 35 (zI bs)) 146 36 (zI ((0 : Nat) : Int))) 146 37 (zI n)) 146 38 (zI (-1))) 146 39 (zI ((0 : Nat) : Int))) T n bs 0 0 := ⟨⟨hn, hb.1, hb.2, by simp (disch := omega) only [nI_z, zI_add, zI_sub, zI_mul, zI_m1, ckI_z, zI_clamp, Int.toNat_natCast, bnd_some, lt, rd_same, rd_ne, rdL_same, rdL_ne, wI_2, wL_1, if_true, if_false, iT_lt, iF_lt, iT_lt0, iF_lt0, iT_0lt, iF_0lt, iT_le, iF_le, iT_le0, iF_le0, iT_0le, iF_0le, iT_eq, iF_eq, iT_eq0, iF_eq0], by simp (disch := omega) only [nI_z, zI_add, zI_sub, zI_mul, zI_m1, ckI_z, zI_clamp, Int.toNat_natCast, bnd_some, lt, rd_same, rd_ne, rdL_same, rdL_ne, wI_2, wL_1, if_true, if_false, iT_lt, iF_lt, iT_lt0, iF_lt0, iT_0lt, iF_0lt, iT_le, iF_le, iT_le0, iF_le0, iT_0le, iF_0le, iT_eq, iF_eq, iT_eq0, iF_eq0], hT, fun i hi => ⟨fun q => by rw [hs.i (by unfold wkP; omega)]; exact (hm i hi).1 q, fun q => by rw [hs.i (by unfold wkP; omega)]; exact (hm i hi).2 q⟩⟩, by omega, by simp (disch := omega) only [nI_z, zI_add, zI_sub, zI_mul, zI_m1, ckI_z, zI_clamp, Int.toNat_natCast, bnd_some, lt, rd_same, rd_ne, rdL_same, rdL_ne, wI_2, wL_1, if_true, if_false, iT_lt, iF_lt, iT_lt0, iF_lt0, iT_0lt, iF_0lt, iT_le, iF_le, iT_le0, iF_le0, iT_0le, iF_0le, iT_eq, iF_eq, iT_eq0, iF_eq0], by simp (disch := omega) only [nI_z, zI_add, zI_sub, zI_mul, zI_m1, ckI_z, zI_clamp, Int.toNat_natCast, bnd_some, lt, rd_same, rd_ne, rdL_same, rdL_ne, wI_2, wL_1, if_true, if_false, iT_lt, iF_lt, iT_lt0, iF_lt0, iT_0lt, iF_0lt, iT_le, iF_le, iT_le0, iF_le0, iT_0le, iF_0le, iT_eq, iF_eq, iT_eq0, iF_eq0], by simp (disch := omega) only [nI_z, zI_add, zI_sub, zI_mul, zI_m1, ckI_z, zI_clamp, Int.toNat_natCast, bnd_some, lt, rd_same, rd_ne, rdL_same, rdL_ne, wI_2, wL_1, if_true, if_false, iT_lt, iF_lt, iT_lt0, iF_lt0, iT_0lt, iF_0lt, iT_le, iF_le, iT_le0, iF_le0, iT_0le, iF_0le, iT_eq, iF_eq, iT_eq0, iF_eq0]⟩
  have hE1 : EV (wI (wI (wI (wI (wI S 146 35 (zI bs)) 146 36 (zI ((0 : Nat) : Int))) 146 37 (zI n)) 146 38 (zI (-1))) 146 39 (zI ((0 : Nat) : Int))) m xx := hE.same hs (fun k => by unfold wkP; omega) (fun k => by unfold wkP; omega) (by unfold wkP; omega)
  generalize wI (wI (wI (wI (wI S 146 35 (zI bs)) 146 36 (zI ((0 : Nat) : Int))) 146 37 (zI n)) 146 38 (zI (-1))) 146 39 (zI ((0 : Nat) : Int)) = S1 at hs hL hE1
  have hv : PVm (f12_turned N 8) T n bs 0 m xx (pT T n 7 0) := by
    rcases turned_m (N := N) (T := T) (n := n) (bs := bs) (m := m) (xx := xx) hN 7 0 (by omega) (by omega) with q | q
    · exact q
    · omega
  obtain ⟨v, S2, b1, b2, b3⟩ := any_m (N := N) hN hv (turned_d (f := 7) hN) (fun p hp => pT_ok 7 0 p hp) hL hE1
  have b4 : Same wkP S1 S2 := b3.mono (fun c k z => by unfold npP at z; unfold wkP; omega)
  rw [b1, bnd_some]
  unfold pAll
  cases hx : pA T n (pT T n 7 0) 0 with
  | inl e =>
    rw [hx] at b2
    have b2 : ND S2 T n bs e := b2
    have h38 := b2.2.2.1
    have he := b2.2.1
    refine ⟨v, S2, ?_, h38, fun l q => by simp at q, hs.tr b4⟩
    rw [h38, iT_0le (by omega)]
  | inr q =>
    rw [hx] at b2
    obtain ⟨t1, t2, t3⟩ := b2
    have h38 := t1.2.2.2.1
    have h36 := t1.2.2.1
    have h37 := t1.1.2.2.2.2.1
    have hq := t1.2.1
    by_cases e1 : q.1 < n
    · obtain ⟨S3, c1, c2, c3⟩ := wrong_l t1
      refine ⟨zI 0, S3, ?_, ?_, fun l z => ?_, (hs.tr b4).tr (c3.mono (fun c k z => by unfold npP at z; unfold wkP; omega))⟩
      · rw [h38, iF_0le (by omega), h37, h36, iF_le (by omega), c1, bnd_some]
      · rw [c2.2.2.1]
        show zI (q.1 : Int) = zI (fres (if q.1 < n then .inl q.1 else .inr q.2))
        rw [if_pos e1]
        rfl
      · have z : (if q.1 < n then .inl q.1 else .inr q.2 : Nat ⊕ List Nat) = .inr l := z
        rw [if_pos e1] at z
        simp at z
    · refine ⟨v, S2, ?_, ?_, fun l z => ?_, hs.tr b4⟩
      · rw [h38, iF_0le (by omega), h37, h36, iT_le (by omega)]
      · rw [h38]
        show zI (-1) = zI (fres (if q.1 < n then .inl q.1 else .inr q.2))
        rw [if_neg e1]
        rfl
      · have z : (if q.1 < n then .inl q.1 else .inr q.2 : Nat ⊕ List Nat) = .inr l := z
        rw [if_neg e1] at z
        injection z with z
        subst z
        exact ⟨t2, t3⟩
