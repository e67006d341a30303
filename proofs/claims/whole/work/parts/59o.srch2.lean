/-! An ask's value for any machine; steps and phases on the class's side. -/
theorem ev_val {T : Nat → Nat} {n x : Nat} {l : List Nat} {m : Mc} (hn : n ≤ 60) (hT : ∀ i, T i < 256) (hp : pAll T n = .inr l) (hm : m.2.2.2.1.length ≤ 8) : ∃ v, (∀ st, ev (vn m x) l st = v :: st) ∧ (v = zI 0 ∨ v = zI 1) := by
  let S : St := (fun c k => if c = 146 then (if k = 11 then zI m.1 else if k = 12 then zI m.2.1 else if k = 15 then zI m.2.2.2.1.length else 0) else if c = 155 then zI (m.2.2.2.1.getD k 0 : Nat) else if c = 156 then zI x else if c = 162 then zI (T k) else 0, fun _ _ => 0)
  have hE : EV S m x := ⟨hm, rfl, rfl, rfl, fun i y hi => by
    show zI (m.2.2.2.1.getD (0 + i) 0 : Nat) = zI y
    rw [Nat.zero_add, List.getD_eq_getElem?_getD, hi]
    rfl, rfl⟩
  obtain ⟨v, S2, _, _, h3, _⟩ := workOut_m (N := 200) (n := n) (T := T) (bs := -1) (S := S) (by omega) hn hT (by omega) (fun i hi => ⟨fun _ => rfl, fun q => by omega⟩) hE
  exact ⟨v, h3 l hp⟩
theorem psd_iff {x : Nat} {l : List Nat} {m : Mc} {v : Int32} (hv : ∀ st, ev (vn m x) l st = v :: st) : psd x l m ↔ (m.2.2.2.1 ≠ [] ∧ v ≠ zI 0) := by
  unfold psd
  rw [hv []]
  constructor
  · exact fun q => ⟨q.1, fun e => q.2 (by rw [e])⟩
  · exact fun q => ⟨q.1, fun e => q.2 (by injection e)⟩
/-- after a run the class says whether it is an answer -/
theorem isp_ans {N a x K : Nat} {S : St} {w l : List Nat} {r : Mc × Nat × Nat} {T : Nat → Nat} {n : Nat} (hN : 200 ≤ N) (ha : 12 < a) (hn : n ≤ 60) (hT : ∀ i, T i < 256) (hp : pAll T n = .inr l) (hk : AK S a l) (hx : S.1 a 2 = zI x) (hc : CMr S w r.1 r.2.1 r.2.2 K) (hM : MIq r.1) (h2 : r.2.2 ≤ 2) : ∃ S2, ((r.2.2 = 0 ∧ psd x l r.1) → f1_isPassedBy N a S = some (zI 1, S2)) ∧ (¬ (r.2.2 = 0 ∧ psd x l r.1) → f1_isPassedBy N a S = some (zI 0, S2)) ∧ Same (skP a) S S2 := by
  obtain ⟨v, hv, hv01⟩ := ev_val (x := x) (m := r.1) hn hT hp hM.2.2.1
  obtain ⟨wd1, wd2⟩ := pAll_wf hn hp
  have hMV : MV S r.1 := ⟨hM.2.2.1, hc.2.2.2.1, hc.2.2.2.2.1, hc.2.2.2.2.2.2.2.1, hc.2.2.2.2.2.2.2.2.1⟩
  have h66 := hc.2.2.2.2.2.2.1
  have hps := psd_iff hv
  by_cases r0 : r.2.2 = 0
  · rw [r0] at h66
    by_cases r1 : r.1.2.2.2.1 = []
    · have h0 : r.1.2.2.2.1.length = 0 := by rw [r1]; rfl
      have h68 := hMV.2.2.2.1
      rw [h0] at h68
      refine ⟨S, fun q => absurd r1 (hps.mp q.2).1, fun _ => ?_, Same.rfl'⟩
      unfold f1_isPassedBy f4_state f4_saidCount
      simp (disch := omega) only [h66, h68, nI_z, zI_add, zI_sub, zI_mul, zI_m1, ckI_z, zI_clamp, Int.toNat_natCast, bnd_some, lt, rd_same, rd_ne, rdL_same, rdL_ne, wI_2, wL_1, if_true, if_false, iT_lt, iF_lt, iT_lt0, iF_lt0, iT_0lt, iF_0lt, iT_le, iF_le, iT_le0, iF_le0, iT_0le, iF_0le, iT_eq, iF_eq, iT_eq0, iF_eq0]
      rfl
    · obtain ⟨S3, f1, f2⟩ := isPassedBy_k (N := N) hN ha (by omega) hk hx hMV h66 r1 wd1 (hv [])
      refine ⟨S3, fun q => ?_, fun q => ?_, f2⟩
      · rw [f1, if_neg (hps.mp q.2).2]
      · have hz : v = zI 0 := by
          rcases hv01 with e | e
          · exact e
          · exact absurd ⟨r0, hps.mpr ⟨r1, by rw [e]; decide⟩⟩ q
        rw [f1, if_pos hz]
  · refine ⟨S, fun q => absurd q.1 r0, fun _ => ?_, Same.rfl'⟩
    unfold f1_isPassedBy f4_state
    simp (disch := omega) only [h66, nI_z, zI_add, zI_sub, zI_mul, zI_m1, ckI_z, zI_clamp, Int.toNat_natCast, bnd_some, lt, rd_same, rd_ne, rdL_same, rdL_ne, wI_2, wL_1, if_true, if_false, iT_lt, iF_lt, iT_lt0, iF_lt0, iT_0lt, iF_0lt, iT_le, iF_le, iT_le0, iF_le0, iT_0le, iF_0le, iT_eq, iF_eq, iT_eq0, iF_eq0]
    rfl
theorem stepsIn_ok {s k : Nat} {S : St} (h : s ≤ k) (hk : k ≤ 14) : f7_stepsIn (zI k) (zI s) S = some (zI ((2 ^ (k - s) : Nat) : Int), S) := by
  have h1 := sh1 h hk
  unfold f7_stepsIn
  rw [nI_z 1, nI_z 14, zI_sub]
  simp only [lt]
  rw [h1]
  generalize 2 ^ (k - s) = y
  simp (disch := omega) only [nI_z, zI_add, zI_sub, zI_mul, zI_m1, ckI_z, zI_clamp, Int.toNat_natCast, bnd_some, lt, rd_same, rd_ne, rdL_same, rdL_ne, wI_2, wL_1, if_true, if_false, iT_lt, iF_lt, iT_lt0, iF_lt0, iT_0lt, iF_0lt, iT_le, iF_le, iT_le0, iF_le0, iT_0le, iF_0le, iT_eq, iF_eq, iT_eq0, iF_eq0]
def phs (s r : Nat) : Nat → Nat → Nat
  | 0, k => k
  | f + 1, k => if r ≤ 2 ^ (k - s) then k else phs s r f (k + 1)
theorem phs_ok {s r : Nat} : ∀ (f k : Nat), r ≤ 2 ^ (k + f - s) → s ≤ k → (k = s ∨ ¬ r ≤ 2 ^ (k - 1 - s)) → k ≤ phs s r f k ∧ phs s r f k ≤ k + f ∧ r ≤ 2 ^ (phs s r f k - s) ∧ (phs s r f k = s ∨ ¬ r ≤ 2 ^ (phs s r f k - 1 - s))
  | 0, k, h, hs, hk => ⟨Nat.le_refl _, Nat.le_refl _, h, hk⟩
  | f + 1, k, h, hs, hk => by
    unfold phs
    by_cases c : r ≤ 2 ^ (k - s)
    · rw [if_pos c]
      exact ⟨Nat.le_refl _, by omega, c, hk⟩
    · rw [if_neg c]
      obtain ⟨q1, q2, q3, q4⟩ := phs_ok (s := s) (r := r) f (k + 1) (by rw [show k + 1 + f = k + (f + 1) by omega]; exact h) (by omega) (Or.inr (by rw [Nat.add_sub_cancel]; exact c))
      exact ⟨by omega, by omega, q3, q4⟩
theorem phaseOf_ok {N s r : Nat} {S : St} (hr : r < 2147483648) : ∀ (f k n : Nat), k + f = 14 → f < n → s ≤ k → f7_phaseOf_h2 N (zI s) (zI r) n (zI k) S = some (zI (phs s r f k), S) := by
  intro f
  induction f with
  | zero =>
    intro k n hk hn hs
    obtain ⟨n, rfl⟩ : ∃ z, n = z + 1 := ⟨n - 1, by omega⟩
    rw [f7_phaseOf_h2]
    simp (disch := omega) only [nI_z, zI_add, zI_sub, zI_mul, zI_m1, ckI_z, zI_clamp, Int.toNat_natCast, bnd_some, lt, rd_same, rd_ne, rdL_same, rdL_ne, wI_2, wL_1, if_true, if_false, iT_lt, iF_lt, iT_lt0, iF_lt0, iT_0lt, iF_0lt, iT_le, iF_le, iT_le0, iF_le0, iT_0le, iF_0le, iT_eq, iF_eq, iT_eq0, iF_eq0]
    rfl
  | succ f ih =>
    intro k n hk hn hs
    obtain ⟨n, rfl⟩ : ∃ z, n = z + 1 := ⟨n - 1, by omega⟩
    have hst := stepsIn_ok (S := S) hs (by omega : k ≤ 14)
    have hp : 2 ^ (k - s) ≤ 2 ^ 14 := Nat.pow_le_pow_right (by omega) (by omega)
    rw [f7_phaseOf_h2]
    unfold phs
    by_cases c : r ≤ 2 ^ (k - s)
    · rw [if_pos c]
      generalize 2 ^ (k - s) = y at hst hp c
      simp (disch := omega) only [hst, nI_z, zI_add, zI_sub, zI_mul, zI_m1, ckI_z, zI_clamp, Int.toNat_natCast, bnd_some, lt, rd_same, rd_ne, rdL_same, rdL_ne, wI_2, wL_1, if_true, if_false, iT_lt, iF_lt, iT_lt0, iF_lt0, iT_0lt, iF_0lt, iT_le, iF_le, iT_le0, iF_le0, iT_0le, iF_0le, iT_eq, iF_eq, iT_eq0, iF_eq0]
    · rw [if_neg c]
      have ih1 := ih (k + 1) n (by omega) (by omega) (by omega)
      generalize 2 ^ (k - s) = y at hst hp c
      simp (disch := omega) only [hst, nI_z, zI_add, zI_sub, zI_mul, zI_m1, ckI_z, zI_clamp, Int.toNat_natCast, bnd_some, lt, rd_same, rd_ne, rdL_same, rdL_ne, wI_2, wL_1, if_true, if_false, iT_lt, iF_lt, iT_lt0, iF_lt0, iT_0lt, iF_0lt, iT_le, iF_le, iT_le0, iF_le0, iT_0le, iF_0le, iT_eq, iF_eq, iT_eq0, iF_eq0]
      exact ih1
