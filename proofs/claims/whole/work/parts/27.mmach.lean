/-! The reference's machine. -/
def CS (S : St) (c pn : Nat) (cm : List (Nat × Nat)) : Prop := ∃ old : Nat, old + cm.length = c ∧ (∀ (j : Nat) (e : Nat × Nat), cm.reverse[j]? = some e → S.1 156 (old + j) = zI e.1 ∧ S.1 157 (old + j) = zI e.2 ∧ S.1 158 (old + j) = zI pn) ∧ (∀ j, j < old → ∃ v : Nat, v < pn ∧ S.1 158 j = zI v) ∧ (∀ e ∈ cm, e.1 < 1000 ∧ e.2 < 1000) ∧ S.1 146 20 = zI c
def RMr (S : St) (w : List Nat) (m : Mc) (s : Nat) : Prop :=
  S.1 146 10 = zI w.length ∧ Held (S.1 154) 0 w ∧ S.1 146 11 = zI m.1 ∧ S.1 146 12 = zI m.2.1 ∧ S.1 146 13 = zI m.2.2.1 ∧ S.1 146 14 = zI s ∧ S.1 146 15 = zI m.2.2.2.1.length ∧ Held (S.1 155) 0 m.2.2.2.1 ∧ ∃ c, (1 ≤ c ∧ c ≤ s + 1) ∧ CS S c m.2.2.2.1.length m.2.2.2.2
/-- what stays when the run is over -/
def RFr (S : St) (m : Mc) (s : Nat) : Prop := S.1 146 11 = zI m.1 ∧ S.1 146 12 = zI m.2.1 ∧ S.1 146 14 = zI s ∧ S.1 146 15 = zI m.2.2.2.1.length ∧ Held (S.1 155) 0 m.2.2.2.1
theorem RMr.fr {S : St} {w : List Nat} {m : Mc} {s : Nat} (h : RMr S w m s) : RFr S m s := ⟨h.2.2.1, h.2.2.2.1, h.2.2.2.2.2.1, h.2.2.2.2.2.2.1, h.2.2.2.2.2.2.2.1⟩
theorem cs_loop {N a b old pn : Nat} {S : St} {rs : List (Nat × Nat)} (h1 : ∀ (j : Nat) (e : Nat × Nat), rs[j]? = some e → S.1 156 (old + j) = zI e.1 ∧ S.1 157 (old + j) = zI e.2 ∧ S.1 158 (old + j) = zI pn) (h2 : ∀ j, j < old → ∃ v : Nat, v < pn ∧ S.1 158 j = zI v) (h3 : ∀ e ∈ rs, e.1 < 1000 ∧ e.2 < 1000) (ha : a < 1000) (hb : b < 1000) (hp : pn < 1000) (hl : old + rs.length ≤ 4200) (ea : S.1 146 11 = zI a) (eb : S.1 146 12 = zI b) (ep : S.1 146 15 = zI pn) : ∀ (k n : Nat) (z : Int), k ≤ rs.length → k + 1 < n → z = (old + k : Nat) - 1 → f12_cameSo_h9 N n (zI ((0 : Nat) : Int)) (zI z) S = some (bI ((a, b) ∈ rs.take k), S) := by
  intro k
  induction k with
  | zero =>
    intro n z hk hn hz
    obtain ⟨n, rfl⟩ : ∃ z, n = z + 1 := ⟨n - 1, by omega⟩
    rw [List.take_zero, bI_f (by simp), f12_cameSo_h9]
    by_cases e : old = 0
    · simp (disch := omega) only [ckB_n0, nI_z, zI_add, zI_sub, zI_mul, zI_m1, ckI_z, zI_clamp, Int.toNat_natCast, bnd_some, lt, rd_same, rd_ne, rdL_same, rdL_ne, wI_2, wL_1, if_true, if_false, iT_lt, iF_lt, iT_lt0, iF_lt0, iT_0lt, iF_0lt, iT_le, iF_le, iT_le0, iF_le0, iT_0le, iF_0le, iT_eq, iF_eq, iT_eq0, iF_eq0]
      rfl
    · obtain ⟨v, v1, v2⟩ := h2 (old - 1) (by omega)
      rw [show old - 1 = z.toNat by omega] at v2
      simp (disch := omega) only [ckB_n0, v2, ep, nI_z, zI_add, zI_sub, zI_mul, zI_m1, ckI_z, zI_clamp, Int.toNat_natCast, bnd_some, lt, rd_same, rd_ne, rdL_same, rdL_ne, wI_2, wL_1, if_true, if_false, iT_lt, iF_lt, iT_lt0, iF_lt0, iT_0lt, iF_0lt, iT_le, iF_le, iT_le0, iF_le0, iT_0le, iF_0le, iT_eq, iF_eq, iT_eq0, iF_eq0]
      rfl
  | succ k ih =>
    intro n z hk hn hz
    obtain ⟨n, rfl⟩ : ∃ z, n = z + 1 := ⟨n - 1, by omega⟩
    have hlt : k < rs.length := by omega
    have hr : rs[k]? = some rs[k] := List.getElem?_eq_getElem hlt
    have htk : rs.take (k + 1) = rs.take k ++ [rs[k]] := by rw [List.take_add_one, hr]; rfl
    rw [htk]
    generalize rs[k] = e at hr
    obtain ⟨x, y⟩ := e
    obtain ⟨q1, q2, q3⟩ := h1 k _ hr
    have hxy := h3 _ (List.mem_of_getElem? hr)
    have hx : x < 1000 := hxy.1
    have hy : y < 1000 := hxy.2
    rw [show old + k = z.toNat by omega] at q1 q2 q3
    have ih1 := ih n (z + -1) (by omega) (by omega) (by omega)
    by_cases e : a = x ∧ b = y
    · obtain ⟨rfl, rfl⟩ := e
      obtain ⟨n, rfl⟩ : ∃ z, n = z + 1 := ⟨n - 1, by omega⟩
      rw [bI_t (by simp), f12_cameSo_h9]
      simp (disch := omega) only [q1, q2, q3, ea, eb, ep, f12_cameSo_j61, nI_z, zI_add, zI_sub, zI_mul, zI_m1, ckI_z, zI_clamp, Int.toNat_natCast, bnd_some, lt, rd_same, rd_ne, rdL_same, rdL_ne, wI_2, wL_1, if_true, if_false, iT_lt, iF_lt, iT_lt0, iF_lt0, iT_0lt, iF_0lt, iT_le, iF_le, iT_le0, iF_le0, iT_0le, iF_0le, iT_eq, iF_eq, iT_eq0, iF_eq0]
      rw [f12_cameSo_h9]
      by_cases e0 : z + -1 < 0
      · simp (disch := omega) only [ckB_n1, nI_z, zI_add, zI_sub, zI_mul, zI_m1, ckI_z, zI_clamp, Int.toNat_natCast, bnd_some, lt, rd_same, rd_ne, rdL_same, rdL_ne, wI_2, wL_1, if_true, if_false, iT_lt, iF_lt, iT_lt0, iF_lt0, iT_0lt, iF_0lt, iT_le, iF_le, iT_le0, iF_le0, iT_0le, iF_0le, iT_eq, iF_eq, iT_eq0, iF_eq0]
        rfl
      · simp (disch := omega) only [ckB_n1, nI_z, zI_add, zI_sub, zI_mul, zI_m1, ckI_z, zI_clamp, Int.toNat_natCast, bnd_some, lt, rd_same, rd_ne, rdL_same, rdL_ne, wI_2, wL_1, if_true, if_false, iT_lt, iF_lt, iT_lt0, iF_lt0, iT_0lt, iF_0lt, iT_le, iF_le, iT_le0, iF_le0, iT_0le, iF_0le, iT_eq, iF_eq, iT_eq0, iF_eq0]
        rfl
    · have hiff : ((a, b) ∈ rs.take k ++ [(x, y)]) ↔ (a, b) ∈ rs.take k := by
        rw [List.mem_append, List.mem_singleton]
        refine ⟨fun q => ?_, Or.inl⟩
        rcases q with q | q
        · exact q
        · injection q with q4 q5
          exact absurd ⟨q4, q5⟩ e
      have hbi : bI ((a, b) ∈ rs.take k ++ [(x, y)]) = bI ((a, b) ∈ rs.take k) := by
        by_cases q : (a, b) ∈ rs.take k
        · rw [bI_t q, bI_t (hiff.mpr q)]
        · rw [bI_f q, bI_f (fun w => q (hiff.mp w))]
      rw [hbi, f12_cameSo_h9]
      by_cases e1 : a = x
      · simp (disch := omega) only [q1, q2, q3, ea, eb, ep, f12_cameSo_j61, f12_cameSo_j60, nI_z, zI_add, zI_sub, zI_mul, zI_m1, ckI_z, zI_clamp, Int.toNat_natCast, bnd_some, lt, rd_same, rd_ne, rdL_same, rdL_ne, wI_2, wL_1, if_true, if_false, iT_lt, iF_lt, iT_lt0, iF_lt0, iT_0lt, iF_0lt, iT_le, iF_le, iT_le0, iF_le0, iT_0le, iF_0le, iT_eq, iF_eq, iT_eq0, iF_eq0]
        exact ih1
      · simp (disch := omega) only [q1, q2, q3, ea, eb, ep, f12_cameSo_j61, f12_cameSo_j60, nI_z, zI_add, zI_sub, zI_mul, zI_m1, ckI_z, zI_clamp, Int.toNat_natCast, bnd_some, lt, rd_same, rd_ne, rdL_same, rdL_ne, wI_2, wL_1, if_true, if_false, iT_lt, iF_lt, iT_lt0, iF_lt0, iT_0lt, iF_0lt, iT_le, iF_le, iT_le0, iF_le0, iT_0le, iF_0le, iT_eq, iF_eq, iT_eq0, iF_eq0]
        exact ih1
theorem cameSo_ok {N a b c pn : Nat} {S : St} {cm : List (Nat × Nat)} (hN : 5000 ≤ N) (h : CS S c pn cm) (hc : c ≤ 4200) (ha : a < 1000) (hb : b < 1000) (hp : pn < 1000) (ea : S.1 146 11 = zI a) (eb : S.1 146 12 = zI b) (ep : S.1 146 15 = zI pn) : f12_cameSo N S = some (bI ((a, b) ∈ cm), S) := by
  obtain ⟨old, h0, h1, h2, h3, h4⟩ := h
  have hl : cm.reverse.length = cm.length := List.length_reverse
  have q := cs_loop (N := N) h1 h2 (fun e he => h3 e (List.mem_reverse.mp he)) ha hb hp (by omega) ea eb ep cm.length N ((c : Int) - ((1 : Nat) : Int)) (by omega) (by omega) (by omega)
  rw [List.take_of_length_le (by omega)] at q
  have hbi : bI ((a, b) ∈ cm.reverse) = bI ((a, b) ∈ cm) := by
    by_cases q : (a, b) ∈ cm
    · rw [bI_t q, bI_t (List.mem_reverse.mpr q)]
    · rw [bI_f q, bI_f (fun w => q (List.mem_reverse.mp w))]
  rw [hbi] at q
  unfold f12_cameSo
  simp (disch := omega) only [h4, nI_z, zI_add, zI_sub, zI_mul, zI_m1, ckI_z, zI_clamp, Int.toNat_natCast, bnd_some, lt, rd_same, rd_ne, rdL_same, rdL_ne, wI_2, wL_1, if_true, if_false, iT_lt, iF_lt, iT_lt0, iF_lt0, iT_0lt, iF_0lt, iT_le, iF_le, iT_le0, iF_le0, iT_0le, iF_0le, iT_eq, iF_eq, iT_eq0, iF_eq0]
  exact q
theorem CS.same {P : Nat → Nat → Prop} {S S2 : St} {c pn : Nat} {cm : List (Nat × Nat)} (h : CS S c pn cm) (hs : Same P S S2) (h1 : ∀ k, ¬ P 156 k ∧ ¬ P 157 k ∧ ¬ P 158 k) (h2 : S2.1 146 20 = S.1 146 20) : CS S2 c pn cm := by
  obtain ⟨old, a0, a1, a2, a3, a4⟩ := h
  refine ⟨old, a0, fun j e he => ?_, fun j hj => ?_, a3, by rw [h2]; exact a4⟩
  · rw [hs.i (h1 _).1, hs.i (h1 _).2.1, hs.i (h1 _).2.2]
    exact a1 j e he
  · rw [hs.i (h1 _).2.2]
    exact a2 j hj
/-- the cells of the reference's machine -/
def rmP (c k : Nat) : Prop := (c = 146 ∧ ((10 ≤ k ∧ k ≤ 15) ∨ k = 20)) ∨ c = 154 ∨ c = 155 ∨ (c = 156 ∧ 0 < k) ∨ c = 157 ∨ c = 158
def r6P (c k : Nat) : Prop := c = 146 ∧ 11 ≤ k ∧ k ≤ 14
theorem RMr.put {S S2 : St} {w : List Nat} {m : Mc} {s a b i s2 : Nat} (h : RMr S w m s) (hs : Same r6P S S2) (hs2 : s ≤ s2) (e3 : S2.1 146 11 = zI a) (e4 : S2.1 146 12 = zI b) (e5 : S2.1 146 13 = zI i) (e6 : S2.1 146 14 = zI s2) : RMr S2 w (a, b, i, m.2.2.2.1, m.2.2.2.2) s2 := by
  obtain ⟨h1, h2, h3, h4, h5, h6, h7, h8, c, h9, h10⟩ := h
  have r : ∀ c, c ≠ 146 → S2.1 c = S.1 c := fun c hc => hs.row (fun k e => hc e.1)
  refine ⟨by rw [hs.i (by unfold r6P; omega)]; exact h1, by rw [r 154 (by omega)]; exact h2, e3, e4, e5, e6, by rw [hs.i (by unfold r6P; omega)]; exact h7, by rw [r 155 (by omega)]; exact h8, c, by omega, h10.same hs (fun k => by unfold r6P; omega) (hs.i (by unfold r6P; omega))⟩
theorem r6_rm {S S2 : St} (h : Same r6P S S2) : Same rmP S S2 := h.mono (fun c k e => by unfold r6P at e; unfold rmP; omega)
/-- the end of a step: whether it goes on -/
theorem j276_ok {N : Nat} {S : St} {w : List Nat} {m : Mc} {s : Nat} (h : RMr S w m s) (hw : w.length ≤ 48) (hi : m.2.2.1 < 1000) : f12_step_j276 N S = some (zI ((if w.length ≤ m.2.2.1 then 0 else 2 : Nat) : Int), S) := by
  have h1 := h.1
  have h5 := h.2.2.2.2.1
  unfold f12_step_j276
  by_cases e : w.length ≤ m.2.2.1
  · rw [if_pos e]
    simp (disch := omega) only [h1, h5, nI_z, zI_add, zI_sub, zI_mul, zI_m1, ckI_z, zI_clamp, Int.toNat_natCast, bnd_some, lt, rd_same, rd_ne, rdL_same, rdL_ne, wI_2, wL_1, if_true, if_false, iT_lt, iF_lt, iT_lt0, iF_lt0, iT_0lt, iF_0lt, iT_le, iF_le, iT_le0, iF_le0, iT_0le, iF_0le, iT_eq, iF_eq, iT_eq0, iF_eq0]
  · rw [if_neg e]
    simp (disch := omega) only [h1, h5, nI_z, zI_add, zI_sub, zI_mul, zI_m1, ckI_z, zI_clamp, Int.toNat_natCast, bnd_some, lt, rd_same, rd_ne, rdL_same, rdL_ne, wI_2, wL_1, if_true, if_false, iT_lt, iF_lt, iT_lt0, iF_lt0, iT_0lt, iF_0lt, iT_le, iF_le, iT_le0, iF_le0, iT_0le, iF_0le, iT_eq, iF_eq, iT_eq0, iF_eq0]
theorem mstep_e {w : List Nat} {m : Mc} {o : Nat} (h : w.getD m.2.2.1 0 = o) : mstep w m = ((mact o m).1, if (mact o m).2 = 2 ∧ w.length ≤ (mact o m).1.2.2.1 then 0 else (mact o m).2) := by rw [← h]; rfl
theorem mstep_2 {w : List Nat} {m m2 : Mc} {o : Nat} (h : w.getD m.2.2.1 0 = o) (h2 : mact o m = (m2, 2)) : mstep w m = (m2, if w.length ≤ m2.2.2.1 then 0 else 2) := by
  rw [mstep_e h, h2]
  show (m2, if (2 : Nat) = 2 ∧ w.length ≤ m2.2.2.1 then 0 else 2) = _
  by_cases e : w.length ≤ m2.2.2.1
  · rw [if_pos e, if_pos ⟨rfl, e⟩]
  · rw [if_neg e, if_neg (fun q => e q.2)]
theorem mstep_n {w : List Nat} {m m2 : Mc} {o st : Nat} (h : w.getD m.2.2.1 0 = o) (h2 : mact o m = (m2, st)) (h3 : st ≠ 2) : mstep w m = (m2, st) := by
  rw [mstep_e h, h2]
  show (m2, if st = 2 ∧ w.length ≤ m2.2.2.1 then 0 else st) = _
  rw [if_neg (fun q => h3 q.1)]
def stepR (N : Nat) (S : St) (w : List Nat) (m : Mc) (s : Nat) : Prop := ∃ S2, f12_step N S = some (zI (mstep w m).2, S2) ∧ RFr S2 (mstep w m).1 (s + 1) ∧ ((mstep w m).2 = 2 → RMr S2 w (mstep w m).1 (s + 1)) ∧ Same rmP S S2
theorem step_lo {N s o : Nat} {S : St} {w : List Nat} {m : Mc} (h : RMr S w m s) (hm : MIq m) (hw : w.length ≤ 48) (hs : s < 100000) (hr : w[m.2.2.1]? = some o) (ho : o = 1 ∨ o = 2 ∨ o = 4 ∨ o = 5 ∨ o = 7) : stepR N S w m s := by
  have h' := h
  obtain ⟨h1, h2, h3, h4, h5, h6, h7, h8, c, h9, h10⟩ := h
  obtain ⟨m1, m2, m3, m4⟩ := hm
  have hi := (List.getElem?_eq_some_iff.mp hr).1
  have hgd : w.getD m.2.2.1 0 = o := by rw [List.getD_eq_getElem?_getD, hr]; rfl
  have hv := h2 _ _ hr
  rw [Nat.zero_add] at hv
  unfold stepR
  rcases ho with rfl | rfl | rfl | rfl | rfl
  · have hs6 : Same r6P S (wI (wI (wI S 146 14 (zI (s + ((1 : Nat) : Int)))) 146 13 (zI (m.2.2.1 + ((1 : Nat) : Int)))) 146 11 (zI (((m.1 + 1) % 1000 : Nat) : Int))) := (((Same.rfl' (P := r6P)).wI (by unfold r6P; omega)).wI (by unfold r6P; omega)).wI (by unfold r6P; omega)
    have hr : remI (zI ((m.1 : Int) + ((1 : Nat) : Int))) (zI ((1000 : Nat) : Int)) = zI (((m.1 + 1) % 1000 : Nat) : Int) := rem1000 (m.1 + 1) (by omega)
    have k : RMr _ w ((m.1 + 1) % 1000, m.2.1, m.2.2.1 + 1, m.2.2.2.1, m.2.2.2.2) (s + 1) := RMr.put h' hs6 (by omega) (by simp (disch := omega) only [nI_z, zI_add, zI_sub, zI_mul, zI_m1, ckI_z, zI_clamp, Int.toNat_natCast, bnd_some, lt, rd_same, rd_ne, rdL_same, rdL_ne, wI_2, wL_1, if_true, if_false, iT_lt, iF_lt, iT_lt0, iF_lt0, iT_0lt, iF_0lt, iT_le, iF_le, iT_le0, iF_le0, iT_0le, iF_0le, iT_eq, iF_eq, iT_eq0, iF_eq0]) (by simp (disch := omega) only [h4, nI_z, zI_add, zI_sub, zI_mul, zI_m1, ckI_z, zI_clamp, Int.toNat_natCast, bnd_some, lt, rd_same, rd_ne, rdL_same, rdL_ne, wI_2, wL_1, if_true, if_false, iT_lt, iF_lt, iT_lt0, iF_lt0, iT_0lt, iF_0lt, iT_le, iF_le, iT_le0, iF_le0, iT_0le, iF_0le, iT_eq, iF_eq, iT_eq0, iF_eq0]) (by simp (disch := omega) only [nI_z, zI_add, zI_sub, zI_mul, zI_m1, ckI_z, zI_clamp, Int.toNat_natCast, bnd_some, lt, rd_same, rd_ne, rdL_same, rdL_ne, wI_2, wL_1, if_true, if_false, iT_lt, iF_lt, iT_lt0, iF_lt0, iT_0lt, iF_0lt, iT_le, iF_le, iT_le0, iF_le0, iT_0le, iF_0le, iT_eq, iF_eq, iT_eq0, iF_eq0]; rfl) (by simp (disch := omega) only [nI_z, zI_add, zI_sub, zI_mul, zI_m1, ckI_z, zI_clamp, Int.toNat_natCast, bnd_some, lt, rd_same, rd_ne, rdL_same, rdL_ne, wI_2, wL_1, if_true, if_false, iT_lt, iF_lt, iT_lt0, iF_lt0, iT_0lt, iF_0lt, iT_le, iF_le, iT_le0, iF_le0, iT_0le, iF_0le, iT_eq, iF_eq, iT_eq0, iF_eq0]; rfl)
    have j := j276_ok (N := N) k hw (by show m.2.2.1 + 1 < 1000; omega)
    rw [mstep_2 hgd (m2 := ((m.1 + 1) % 1000, m.2.1, m.2.2.1 + 1, m.2.2.2.1, m.2.2.2.2)) rfl]
    refine ⟨_, ?_, k.fr, fun _ => k, r6_rm hs6⟩
    unfold f12_step
    simp (disch := omega) only [h5, h6, h3, hv, sw_t, sw_f, sw_n, hr, nI_z, zI_add, zI_sub, zI_mul, zI_m1, ckI_z, zI_clamp, Int.toNat_natCast, bnd_some, lt, rd_same, rd_ne, rdL_same, rdL_ne, wI_2, wL_1, if_true, if_false, iT_lt, iF_lt, iT_lt0, iF_lt0, iT_0lt, iF_0lt, iT_le, iF_le, iT_le0, iF_le0, iT_0le, iF_0le, iT_eq, iF_eq, iT_eq0, iF_eq0]
    exact j
  · have hs6 : Same r6P S (wI (wI (wI S 146 14 (zI (s + ((1 : Nat) : Int)))) 146 13 (zI (m.2.2.1 + ((1 : Nat) : Int)))) 146 11 (zI ((m.1 * 2 % 1000 : Nat) : Int))) := (((Same.rfl' (P := r6P)).wI (by unfold r6P; omega)).wI (by unfold r6P; omega)).wI (by unfold r6P; omega)
    have hr : remI (zI ((m.1 : Int) * ((2 : Nat) : Int))) (zI ((1000 : Nat) : Int)) = zI ((m.1 * 2 % 1000 : Nat) : Int) := rem1000 (m.1 * 2) (by omega)
    have k : RMr _ w (m.1 * 2 % 1000, m.2.1, m.2.2.1 + 1, m.2.2.2.1, m.2.2.2.2) (s + 1) := RMr.put h' hs6 (by omega) (by simp (disch := omega) only [nI_z, zI_add, zI_sub, zI_mul, zI_m1, ckI_z, zI_clamp, Int.toNat_natCast, bnd_some, lt, rd_same, rd_ne, rdL_same, rdL_ne, wI_2, wL_1, if_true, if_false, iT_lt, iF_lt, iT_lt0, iF_lt0, iT_0lt, iF_0lt, iT_le, iF_le, iT_le0, iF_le0, iT_0le, iF_0le, iT_eq, iF_eq, iT_eq0, iF_eq0]) (by simp (disch := omega) only [h4, nI_z, zI_add, zI_sub, zI_mul, zI_m1, ckI_z, zI_clamp, Int.toNat_natCast, bnd_some, lt, rd_same, rd_ne, rdL_same, rdL_ne, wI_2, wL_1, if_true, if_false, iT_lt, iF_lt, iT_lt0, iF_lt0, iT_0lt, iF_0lt, iT_le, iF_le, iT_le0, iF_le0, iT_0le, iF_0le, iT_eq, iF_eq, iT_eq0, iF_eq0]) (by simp (disch := omega) only [nI_z, zI_add, zI_sub, zI_mul, zI_m1, ckI_z, zI_clamp, Int.toNat_natCast, bnd_some, lt, rd_same, rd_ne, rdL_same, rdL_ne, wI_2, wL_1, if_true, if_false, iT_lt, iF_lt, iT_lt0, iF_lt0, iT_0lt, iF_0lt, iT_le, iF_le, iT_le0, iF_le0, iT_0le, iF_0le, iT_eq, iF_eq, iT_eq0, iF_eq0]; rfl) (by simp (disch := omega) only [nI_z, zI_add, zI_sub, zI_mul, zI_m1, ckI_z, zI_clamp, Int.toNat_natCast, bnd_some, lt, rd_same, rd_ne, rdL_same, rdL_ne, wI_2, wL_1, if_true, if_false, iT_lt, iF_lt, iT_lt0, iF_lt0, iT_0lt, iF_0lt, iT_le, iF_le, iT_le0, iF_le0, iT_0le, iF_0le, iT_eq, iF_eq, iT_eq0, iF_eq0]; rfl)
    have j := j276_ok (N := N) k hw (by show m.2.2.1 + 1 < 1000; omega)
    rw [mstep_2 hgd (m2 := (m.1 * 2 % 1000, m.2.1, m.2.2.1 + 1, m.2.2.2.1, m.2.2.2.2)) rfl]
    refine ⟨_, ?_, k.fr, fun _ => k, r6_rm hs6⟩
    unfold f12_step
    simp (disch := omega) only [h5, h6, h3, hv, sw_t, sw_f, sw_n, hr, nI_z, zI_add, zI_sub, zI_mul, zI_m1, ckI_z, zI_clamp, Int.toNat_natCast, bnd_some, lt, rd_same, rd_ne, rdL_same, rdL_ne, wI_2, wL_1, if_true, if_false, iT_lt, iF_lt, iT_lt0, iF_lt0, iT_0lt, iF_0lt, iT_le, iF_le, iT_le0, iF_le0, iT_0le, iF_0le, iT_eq, iF_eq, iT_eq0, iF_eq0]
    exact j
  · have hs6 : Same r6P S (wI (wI (wI (wI S 146 14 (zI (s + ((1 : Nat) : Int)))) 146 13 (zI (m.2.2.1 + ((1 : Nat) : Int)))) 146 11 (zI m.2.1)) 146 12 (zI m.1)) := ((((Same.rfl' (P := r6P)).wI (by unfold r6P; omega)).wI (by unfold r6P; omega)).wI (by unfold r6P; omega)).wI (by unfold r6P; omega)
    have k : RMr _ w (m.2.1, m.1, m.2.2.1 + 1, m.2.2.2.1, m.2.2.2.2) (s + 1) := RMr.put h' hs6 (by omega) (by simp (disch := omega) only [nI_z, zI_add, zI_sub, zI_mul, zI_m1, ckI_z, zI_clamp, Int.toNat_natCast, bnd_some, lt, rd_same, rd_ne, rdL_same, rdL_ne, wI_2, wL_1, if_true, if_false, iT_lt, iF_lt, iT_lt0, iF_lt0, iT_0lt, iF_0lt, iT_le, iF_le, iT_le0, iF_le0, iT_0le, iF_0le, iT_eq, iF_eq, iT_eq0, iF_eq0]) (by simp (disch := omega) only [h4, nI_z, zI_add, zI_sub, zI_mul, zI_m1, ckI_z, zI_clamp, Int.toNat_natCast, bnd_some, lt, rd_same, rd_ne, rdL_same, rdL_ne, wI_2, wL_1, if_true, if_false, iT_lt, iF_lt, iT_lt0, iF_lt0, iT_0lt, iF_0lt, iT_le, iF_le, iT_le0, iF_le0, iT_0le, iF_0le, iT_eq, iF_eq, iT_eq0, iF_eq0]) (by simp (disch := omega) only [nI_z, zI_add, zI_sub, zI_mul, zI_m1, ckI_z, zI_clamp, Int.toNat_natCast, bnd_some, lt, rd_same, rd_ne, rdL_same, rdL_ne, wI_2, wL_1, if_true, if_false, iT_lt, iF_lt, iT_lt0, iF_lt0, iT_0lt, iF_0lt, iT_le, iF_le, iT_le0, iF_le0, iT_0le, iF_0le, iT_eq, iF_eq, iT_eq0, iF_eq0]; rfl) (by simp (disch := omega) only [nI_z, zI_add, zI_sub, zI_mul, zI_m1, ckI_z, zI_clamp, Int.toNat_natCast, bnd_some, lt, rd_same, rd_ne, rdL_same, rdL_ne, wI_2, wL_1, if_true, if_false, iT_lt, iF_lt, iT_lt0, iF_lt0, iT_0lt, iF_0lt, iT_le, iF_le, iT_le0, iF_le0, iT_0le, iF_0le, iT_eq, iF_eq, iT_eq0, iF_eq0]; rfl)
    have j := j276_ok (N := N) k hw (by show m.2.2.1 + 1 < 1000; omega)
    rw [mstep_2 hgd (m2 := (m.2.1, m.1, m.2.2.1 + 1, m.2.2.2.1, m.2.2.2.2)) rfl]
    refine ⟨_, ?_, k.fr, fun _ => k, r6_rm hs6⟩
    unfold f12_step
    simp (disch := omega) only [h5, h6, h3, h4, hv, sw_t, sw_f, sw_n, nI_z, zI_add, zI_sub, zI_mul, zI_m1, ckI_z, zI_clamp, Int.toNat_natCast, bnd_some, lt, rd_same, rd_ne, rdL_same, rdL_ne, wI_2, wL_1, if_true, if_false, iT_lt, iF_lt, iT_lt0, iF_lt0, iT_0lt, iF_0lt, iT_le, iF_le, iT_le0, iF_le0, iT_0le, iF_0le, iT_eq, iF_eq, iT_eq0, iF_eq0]
    exact j
  · have hs6 : Same r6P S (wI (wI (wI S 146 14 (zI (s + ((1 : Nat) : Int)))) 146 13 (zI (m.2.2.1 + ((1 : Nat) : Int)))) 146 11 (zI (((m.1 + m.2.1) % 1000 : Nat) : Int))) := (((Same.rfl' (P := r6P)).wI (by unfold r6P; omega)).wI (by unfold r6P; omega)).wI (by unfold r6P; omega)
    have hr : remI (zI ((m.1 : Int) + (m.2.1 : Int))) (zI ((1000 : Nat) : Int)) = zI (((m.1 + m.2.1) % 1000 : Nat) : Int) := rem1000 (m.1 + m.2.1) (by omega)
    have k : RMr _ w ((m.1 + m.2.1) % 1000, m.2.1, m.2.2.1 + 1, m.2.2.2.1, m.2.2.2.2) (s + 1) := RMr.put h' hs6 (by omega) (by simp (disch := omega) only [nI_z, zI_add, zI_sub, zI_mul, zI_m1, ckI_z, zI_clamp, Int.toNat_natCast, bnd_some, lt, rd_same, rd_ne, rdL_same, rdL_ne, wI_2, wL_1, if_true, if_false, iT_lt, iF_lt, iT_lt0, iF_lt0, iT_0lt, iF_0lt, iT_le, iF_le, iT_le0, iF_le0, iT_0le, iF_0le, iT_eq, iF_eq, iT_eq0, iF_eq0]) (by simp (disch := omega) only [h4, nI_z, zI_add, zI_sub, zI_mul, zI_m1, ckI_z, zI_clamp, Int.toNat_natCast, bnd_some, lt, rd_same, rd_ne, rdL_same, rdL_ne, wI_2, wL_1, if_true, if_false, iT_lt, iF_lt, iT_lt0, iF_lt0, iT_0lt, iF_0lt, iT_le, iF_le, iT_le0, iF_le0, iT_0le, iF_0le, iT_eq, iF_eq, iT_eq0, iF_eq0]) (by simp (disch := omega) only [nI_z, zI_add, zI_sub, zI_mul, zI_m1, ckI_z, zI_clamp, Int.toNat_natCast, bnd_some, lt, rd_same, rd_ne, rdL_same, rdL_ne, wI_2, wL_1, if_true, if_false, iT_lt, iF_lt, iT_lt0, iF_lt0, iT_0lt, iF_0lt, iT_le, iF_le, iT_le0, iF_le0, iT_0le, iF_0le, iT_eq, iF_eq, iT_eq0, iF_eq0]; rfl) (by simp (disch := omega) only [nI_z, zI_add, zI_sub, zI_mul, zI_m1, ckI_z, zI_clamp, Int.toNat_natCast, bnd_some, lt, rd_same, rd_ne, rdL_same, rdL_ne, wI_2, wL_1, if_true, if_false, iT_lt, iF_lt, iT_lt0, iF_lt0, iT_0lt, iF_0lt, iT_le, iF_le, iT_le0, iF_le0, iT_0le, iF_0le, iT_eq, iF_eq, iT_eq0, iF_eq0]; rfl)
    have j := j276_ok (N := N) k hw (by show m.2.2.1 + 1 < 1000; omega)
    rw [mstep_2 hgd (m2 := ((m.1 + m.2.1) % 1000, m.2.1, m.2.2.1 + 1, m.2.2.2.1, m.2.2.2.2)) rfl]
    refine ⟨_, ?_, k.fr, fun _ => k, r6_rm hs6⟩
    unfold f12_step
    simp (disch := omega) only [h5, h6, h3, h4, hv, sw_t, sw_f, sw_n, hr, nI_z, zI_add, zI_sub, zI_mul, zI_m1, ckI_z, zI_clamp, Int.toNat_natCast, bnd_some, lt, rd_same, rd_ne, rdL_same, rdL_ne, wI_2, wL_1, if_true, if_false, iT_lt, iF_lt, iT_lt0, iF_lt0, iT_0lt, iF_0lt, iT_le, iF_le, iT_le0, iF_le0, iT_0le, iF_0le, iT_eq, iF_eq, iT_eq0, iF_eq0]
    exact j
  · have hs6 : Same r6P S (wI (wI (wI S 146 14 (zI (s + ((1 : Nat) : Int)))) 146 13 (zI (m.2.2.1 + ((1 : Nat) : Int)))) 146 13 (zI ((m.2.2.1 : Int) + ((1 : Nat) : Int) + ((m.1 % 2 : Nat) : Int)))) := (((Same.rfl' (P := r6P)).wI (by unfold r6P; omega)).wI (by unfold r6P; omega)).wI (by unfold r6P; omega)
    have hr := rem2 m.1 (by omega)
    have k : RMr _ w (m.1, m.2.1, m.2.2.1 + 1 + m.1 % 2, m.2.2.2.1, m.2.2.2.2) (s + 1) := RMr.put h' hs6 (by omega) (by simp (disch := omega) only [h3, nI_z, zI_add, zI_sub, zI_mul, zI_m1, ckI_z, zI_clamp, Int.toNat_natCast, bnd_some, lt, rd_same, rd_ne, rdL_same, rdL_ne, wI_2, wL_1, if_true, if_false, iT_lt, iF_lt, iT_lt0, iF_lt0, iT_0lt, iF_0lt, iT_le, iF_le, iT_le0, iF_le0, iT_0le, iF_0le, iT_eq, iF_eq, iT_eq0, iF_eq0]) (by simp (disch := omega) only [h4, nI_z, zI_add, zI_sub, zI_mul, zI_m1, ckI_z, zI_clamp, Int.toNat_natCast, bnd_some, lt, rd_same, rd_ne, rdL_same, rdL_ne, wI_2, wL_1, if_true, if_false, iT_lt, iF_lt, iT_lt0, iF_lt0, iT_0lt, iF_0lt, iT_le, iF_le, iT_le0, iF_le0, iT_0le, iF_0le, iT_eq, iF_eq, iT_eq0, iF_eq0]) (by simp (disch := omega) only [nI_z, zI_add, zI_sub, zI_mul, zI_m1, ckI_z, zI_clamp, Int.toNat_natCast, bnd_some, lt, rd_same, rd_ne, rdL_same, rdL_ne, wI_2, wL_1, if_true, if_false, iT_lt, iF_lt, iT_lt0, iF_lt0, iT_0lt, iF_0lt, iT_le, iF_le, iT_le0, iF_le0, iT_0le, iF_0le, iT_eq, iF_eq, iT_eq0, iF_eq0]; rfl) (by simp (disch := omega) only [nI_z, zI_add, zI_sub, zI_mul, zI_m1, ckI_z, zI_clamp, Int.toNat_natCast, bnd_some, lt, rd_same, rd_ne, rdL_same, rdL_ne, wI_2, wL_1, if_true, if_false, iT_lt, iF_lt, iT_lt0, iF_lt0, iT_0lt, iF_0lt, iT_le, iF_le, iT_le0, iF_le0, iT_0le, iF_0le, iT_eq, iF_eq, iT_eq0, iF_eq0]; rfl)
    have j := j276_ok (N := N) k hw (by show m.2.2.1 + 1 + m.1 % 2 < 1000; omega)
    rw [mstep_2 hgd (m2 := (m.1, m.2.1, m.2.2.1 + 1 + m.1 % 2, m.2.2.2.1, m.2.2.2.2)) rfl]
    refine ⟨_, ?_, k.fr, fun _ => k, r6_rm hs6⟩
    unfold f12_step
    simp (disch := omega) only [h5, h6, h3, h4, hv, sw_t, sw_f, sw_n, hr, nI_z, zI_add, zI_sub, zI_mul, zI_m1, ckI_z, zI_clamp, Int.toNat_natCast, bnd_some, lt, rd_same, rd_ne, rdL_same, rdL_ne, wI_2, wL_1, if_true, if_false, iT_lt, iF_lt, iT_lt0, iF_lt0, iT_0lt, iF_0lt, iT_le, iF_le, iT_le0, iF_le0, iT_0le, iF_0le, iT_eq, iF_eq, iT_eq0, iF_eq0]
    exact j
theorem step_0 {N s : Nat} {S : St} {w : List Nat} {m : Mc} (h : RMr S w m s) (hm : MIq m) (hw : w.length ≤ 48) (hs : s < 100000) (hr : w[m.2.2.1]? = some 0) : stepR N S w m s := by
  have h' := h
  obtain ⟨h1, h2, h3, h4, h5, h6, h7, h8, c, h9, h10⟩ := h
  have hi := (List.getElem?_eq_some_iff.mp hr).1
  have hgd : w.getD m.2.2.1 0 = 0 := by rw [List.getD_eq_getElem?_getD, hr]; rfl
  have hv := h2 _ _ hr
  rw [Nat.zero_add] at hv
  unfold stepR
  have hs6 : Same r6P S (wI (wI S 146 14 (zI (s + ((1 : Nat) : Int)))) 146 13 (zI (m.2.2.1 + ((1 : Nat) : Int)))) := ((Same.rfl' (P := r6P)).wI (by unfold r6P; omega)).wI (by unfold r6P; omega)
  rw [mstep_n hgd (m2 := (m.1, m.2.1, m.2.2.1 + 1, m.2.2.2.1, m.2.2.2.2)) (st := 0) rfl (by omega)]
  refine ⟨_, ?_, (RMr.put h' hs6 (by omega) (by simp (disch := omega) only [h3, nI_z, zI_add, zI_sub, zI_mul, zI_m1, ckI_z, zI_clamp, Int.toNat_natCast, bnd_some, lt, rd_same, rd_ne, rdL_same, rdL_ne, wI_2, wL_1, if_true, if_false, iT_lt, iF_lt, iT_lt0, iF_lt0, iT_0lt, iF_0lt, iT_le, iF_le, iT_le0, iF_le0, iT_0le, iF_0le, iT_eq, iF_eq, iT_eq0, iF_eq0]) (by simp (disch := omega) only [h4, nI_z, zI_add, zI_sub, zI_mul, zI_m1, ckI_z, zI_clamp, Int.toNat_natCast, bnd_some, lt, rd_same, rd_ne, rdL_same, rdL_ne, wI_2, wL_1, if_true, if_false, iT_lt, iF_lt, iT_lt0, iF_lt0, iT_0lt, iF_0lt, iT_le, iF_le, iT_le0, iF_le0, iT_0le, iF_0le, iT_eq, iF_eq, iT_eq0, iF_eq0]) (by simp (disch := omega) only [nI_z, zI_add, zI_sub, zI_mul, zI_m1, ckI_z, zI_clamp, Int.toNat_natCast, bnd_some, lt, rd_same, rd_ne, rdL_same, rdL_ne, wI_2, wL_1, if_true, if_false, iT_lt, iF_lt, iT_lt0, iF_lt0, iT_0lt, iF_0lt, iT_le, iF_le, iT_le0, iF_le0, iT_0le, iF_0le, iT_eq, iF_eq, iT_eq0, iF_eq0]; rfl) (by simp (disch := omega) only [nI_z, zI_add, zI_sub, zI_mul, zI_m1, ckI_z, zI_clamp, Int.toNat_natCast, bnd_some, lt, rd_same, rd_ne, rdL_same, rdL_ne, wI_2, wL_1, if_true, if_false, iT_lt, iF_lt, iT_lt0, iF_lt0, iT_0lt, iF_0lt, iT_le, iF_le, iT_le0, iF_le0, iT_0le, iF_0le, iT_eq, iF_eq, iT_eq0, iF_eq0]; rfl)).fr, fun _ => RMr.put h' hs6 (by omega) (by simp (disch := omega) only [h3, nI_z, zI_add, zI_sub, zI_mul, zI_m1, ckI_z, zI_clamp, Int.toNat_natCast, bnd_some, lt, rd_same, rd_ne, rdL_same, rdL_ne, wI_2, wL_1, if_true, if_false, iT_lt, iF_lt, iT_lt0, iF_lt0, iT_0lt, iF_0lt, iT_le, iF_le, iT_le0, iF_le0, iT_0le, iF_0le, iT_eq, iF_eq, iT_eq0, iF_eq0]) (by simp (disch := omega) only [h4, nI_z, zI_add, zI_sub, zI_mul, zI_m1, ckI_z, zI_clamp, Int.toNat_natCast, bnd_some, lt, rd_same, rd_ne, rdL_same, rdL_ne, wI_2, wL_1, if_true, if_false, iT_lt, iF_lt, iT_lt0, iF_lt0, iT_0lt, iF_0lt, iT_le, iF_le, iT_le0, iF_le0, iT_0le, iF_0le, iT_eq, iF_eq, iT_eq0, iF_eq0]) (by simp (disch := omega) only [nI_z, zI_add, zI_sub, zI_mul, zI_m1, ckI_z, zI_clamp, Int.toNat_natCast, bnd_some, lt, rd_same, rd_ne, rdL_same, rdL_ne, wI_2, wL_1, if_true, if_false, iT_lt, iF_lt, iT_lt0, iF_lt0, iT_0lt, iF_0lt, iT_le, iF_le, iT_le0, iF_le0, iT_0le, iF_0le, iT_eq, iF_eq, iT_eq0, iF_eq0]; rfl) (by simp (disch := omega) only [nI_z, zI_add, zI_sub, zI_mul, zI_m1, ckI_z, zI_clamp, Int.toNat_natCast, bnd_some, lt, rd_same, rd_ne, rdL_same, rdL_ne, wI_2, wL_1, if_true, if_false, iT_lt, iF_lt, iT_lt0, iF_lt0, iT_0lt, iF_0lt, iT_le, iF_le, iT_le0, iF_le0, iT_0le, iF_0le, iT_eq, iF_eq, iT_eq0, iF_eq0]; rfl), r6_rm hs6⟩
  unfold f12_step
  simp (disch := omega) only [h5, h6, h3, hv, sw_t, sw_f, sw_n, nI_z, zI_add, zI_sub, zI_mul, zI_m1, ckI_z, zI_clamp, Int.toNat_natCast, bnd_some, lt, rd_same, rd_ne, rdL_same, rdL_ne, wI_2, wL_1, if_true, if_false, iT_lt, iF_lt, iT_lt0, iF_lt0, iT_0lt, iF_0lt, iT_le, iF_le, iT_le0, iF_le0, iT_0le, iF_0le, iT_eq, iF_eq, iT_eq0, iF_eq0]
theorem step_3 {N s : Nat} {S : St} {w : List Nat} {m : Mc} (h : RMr S w m s) (hm : MIq m) (hw : w.length ≤ 48) (hs : s < 100000) (hr : w[m.2.2.1]? = some 3) : stepR N S w m s := by
  have h' := h
  obtain ⟨h1, h2, h3, h4, h5, h6, h7, h8, c, h9, h10⟩ := h
  obtain ⟨m1, m2, m3, m4⟩ := hm
  have hi := (List.getElem?_eq_some_iff.mp hr).1
  have hgd : w.getD m.2.2.1 0 = 3 := by rw [List.getD_eq_getElem?_getD, hr]; rfl
  have hv := h2 _ _ hr
  rw [Nat.zero_add] at hv
  have e0 : mact 3 m = (if m.2.2.2.1.length = 8 then ((m.1, m.2.1, m.2.2.1 + 1, m.2.2.2.1, m.2.2.2.2), 0) else ((m.1, m.2.1, m.2.2.1 + 1, m.2.2.2.1 ++ [m.1], []), 2)) := rfl
  unfold stepR
  have hs6 : Same r6P S (wI (wI S 146 14 (zI (s + ((1 : Nat) : Int)))) 146 13 (zI (m.2.2.1 + ((1 : Nat) : Int)))) := ((Same.rfl' (P := r6P)).wI (by unfold r6P; omega)).wI (by unfold r6P; omega)
  by_cases e : m.2.2.2.1.length = 8
  · rw [if_pos e] at e0
    rw [mstep_n hgd e0 (by omega)]
    refine ⟨_, ?_, (RMr.put h' hs6 (by omega) (by simp (disch := omega) only [h3, nI_z, zI_add, zI_sub, zI_mul, zI_m1, ckI_z, zI_clamp, Int.toNat_natCast, bnd_some, lt, rd_same, rd_ne, rdL_same, rdL_ne, wI_2, wL_1, if_true, if_false, iT_lt, iF_lt, iT_lt0, iF_lt0, iT_0lt, iF_0lt, iT_le, iF_le, iT_le0, iF_le0, iT_0le, iF_0le, iT_eq, iF_eq, iT_eq0, iF_eq0]) (by simp (disch := omega) only [h4, nI_z, zI_add, zI_sub, zI_mul, zI_m1, ckI_z, zI_clamp, Int.toNat_natCast, bnd_some, lt, rd_same, rd_ne, rdL_same, rdL_ne, wI_2, wL_1, if_true, if_false, iT_lt, iF_lt, iT_lt0, iF_lt0, iT_0lt, iF_0lt, iT_le, iF_le, iT_le0, iF_le0, iT_0le, iF_0le, iT_eq, iF_eq, iT_eq0, iF_eq0]) (by simp (disch := omega) only [nI_z, zI_add, zI_sub, zI_mul, zI_m1, ckI_z, zI_clamp, Int.toNat_natCast, bnd_some, lt, rd_same, rd_ne, rdL_same, rdL_ne, wI_2, wL_1, if_true, if_false, iT_lt, iF_lt, iT_lt0, iF_lt0, iT_0lt, iF_0lt, iT_le, iF_le, iT_le0, iF_le0, iT_0le, iF_0le, iT_eq, iF_eq, iT_eq0, iF_eq0]; rfl) (by simp (disch := omega) only [nI_z, zI_add, zI_sub, zI_mul, zI_m1, ckI_z, zI_clamp, Int.toNat_natCast, bnd_some, lt, rd_same, rd_ne, rdL_same, rdL_ne, wI_2, wL_1, if_true, if_false, iT_lt, iF_lt, iT_lt0, iF_lt0, iT_0lt, iF_0lt, iT_le, iF_le, iT_le0, iF_le0, iT_0le, iF_0le, iT_eq, iF_eq, iT_eq0, iF_eq0]; rfl)).fr, fun _ => RMr.put h' hs6 (by omega) (by simp (disch := omega) only [h3, nI_z, zI_add, zI_sub, zI_mul, zI_m1, ckI_z, zI_clamp, Int.toNat_natCast, bnd_some, lt, rd_same, rd_ne, rdL_same, rdL_ne, wI_2, wL_1, if_true, if_false, iT_lt, iF_lt, iT_lt0, iF_lt0, iT_0lt, iF_0lt, iT_le, iF_le, iT_le0, iF_le0, iT_0le, iF_0le, iT_eq, iF_eq, iT_eq0, iF_eq0]) (by simp (disch := omega) only [h4, nI_z, zI_add, zI_sub, zI_mul, zI_m1, ckI_z, zI_clamp, Int.toNat_natCast, bnd_some, lt, rd_same, rd_ne, rdL_same, rdL_ne, wI_2, wL_1, if_true, if_false, iT_lt, iF_lt, iT_lt0, iF_lt0, iT_0lt, iF_0lt, iT_le, iF_le, iT_le0, iF_le0, iT_0le, iF_0le, iT_eq, iF_eq, iT_eq0, iF_eq0]) (by simp (disch := omega) only [nI_z, zI_add, zI_sub, zI_mul, zI_m1, ckI_z, zI_clamp, Int.toNat_natCast, bnd_some, lt, rd_same, rd_ne, rdL_same, rdL_ne, wI_2, wL_1, if_true, if_false, iT_lt, iF_lt, iT_lt0, iF_lt0, iT_0lt, iF_0lt, iT_le, iF_le, iT_le0, iF_le0, iT_0le, iF_0le, iT_eq, iF_eq, iT_eq0, iF_eq0]; rfl) (by simp (disch := omega) only [nI_z, zI_add, zI_sub, zI_mul, zI_m1, ckI_z, zI_clamp, Int.toNat_natCast, bnd_some, lt, rd_same, rd_ne, rdL_same, rdL_ne, wI_2, wL_1, if_true, if_false, iT_lt, iF_lt, iT_lt0, iF_lt0, iT_0lt, iF_0lt, iT_le, iF_le, iT_le0, iF_le0, iT_0le, iF_0le, iT_eq, iF_eq, iT_eq0, iF_eq0]; rfl), r6_rm hs6⟩
    unfold f12_step
    simp (disch := omega) only [h5, h6, h3, h7, hv, sw_t, sw_f, sw_n, nI_z, zI_add, zI_sub, zI_mul, zI_m1, ckI_z, zI_clamp, Int.toNat_natCast, bnd_some, lt, rd_same, rd_ne, rdL_same, rdL_ne, wI_2, wL_1, if_true, if_false, iT_lt, iF_lt, iT_lt0, iF_lt0, iT_0lt, iF_0lt, iT_le, iF_le, iT_le0, iF_le0, iT_0le, iF_0le, iT_eq, iF_eq, iT_eq0, iF_eq0]
  · rw [if_neg e] at e0
    have hl : (m.2.2.2.1 ++ [m.1]).length = m.2.2.2.1.length + 1 := by simp
    have hsm : Same rmP S (wI (wI (wI (wI S 146 14 (zI (s + ((1 : Nat) : Int)))) 146 13 (zI (m.2.2.1 + ((1 : Nat) : Int)))) 155 m.2.2.2.1.length (zI m.1)) 146 15 (zI (m.2.2.2.1.length + ((1 : Nat) : Int)))) := ((((Same.rfl' (P := rmP)).wI (by unfold rmP; omega)).wI (by unfold rmP; omega)).wI (by unfold rmP; omega)).wI (by unfold rmP; omega)
    have hsx : Same (fun c k => (c = 146 ∧ k ≠ 20) ∨ c = 155) S (wI (wI (wI (wI S 146 14 (zI (s + ((1 : Nat) : Int)))) 146 13 (zI (m.2.2.1 + ((1 : Nat) : Int)))) 155 m.2.2.2.1.length (zI m.1)) 146 15 (zI (m.2.2.2.1.length + ((1 : Nat) : Int)))) := ((((Same.rfl' (P := fun c k => (c = 146 ∧ k ≠ 20) ∨ c = 155)).wI (by omega)).wI (by omega)).wI (by omega)).wI (by omega)
    have k : RMr (wI (wI (wI (wI S 146 14 (zI (s + ((1 : Nat) : Int)))) 146 13 (zI (m.2.2.1 + ((1 : Nat) : Int)))) 155 m.2.2.2.1.length (zI m.1)) 146 15 (zI (m.2.2.2.1.length + ((1 : Nat) : Int)))) w (m.1, m.2.1, m.2.2.1 + 1, m.2.2.2.1 ++ [m.1], []) (s + 1) := by
      refine ⟨by simp (disch := omega) only [h1, nI_z, zI_add, zI_sub, zI_mul, zI_m1, ckI_z, zI_clamp, Int.toNat_natCast, bnd_some, lt, rd_same, rd_ne, rdL_same, rdL_ne, wI_2, wL_1, if_true, if_false, iT_lt, iF_lt, iT_lt0, iF_lt0, iT_0lt, iF_0lt, iT_le, iF_le, iT_le0, iF_le0, iT_0le, iF_0le, iT_eq, iF_eq, iT_eq0, iF_eq0], fun i x hx => by simp (disch := omega) only [nI_z, zI_add, zI_sub, zI_mul, zI_m1, ckI_z, zI_clamp, Int.toNat_natCast, bnd_some, lt, rd_same, rd_ne, rdL_same, rdL_ne, wI_2, wL_1, if_true, if_false, iT_lt, iF_lt, iT_lt0, iF_lt0, iT_0lt, iF_0lt, iT_le, iF_le, iT_le0, iF_le0, iT_0le, iF_0le, iT_eq, iF_eq, iT_eq0, iF_eq0]; exact h2 i x hx, by simp (disch := omega) only [h3, nI_z, zI_add, zI_sub, zI_mul, zI_m1, ckI_z, zI_clamp, Int.toNat_natCast, bnd_some, lt, rd_same, rd_ne, rdL_same, rdL_ne, wI_2, wL_1, if_true, if_false, iT_lt, iF_lt, iT_lt0, iF_lt0, iT_0lt, iF_0lt, iT_le, iF_le, iT_le0, iF_le0, iT_0le, iF_0le, iT_eq, iF_eq, iT_eq0, iF_eq0], by simp (disch := omega) only [h4, nI_z, zI_add, zI_sub, zI_mul, zI_m1, ckI_z, zI_clamp, Int.toNat_natCast, bnd_some, lt, rd_same, rd_ne, rdL_same, rdL_ne, wI_2, wL_1, if_true, if_false, iT_lt, iF_lt, iT_lt0, iF_lt0, iT_0lt, iF_0lt, iT_le, iF_le, iT_le0, iF_le0, iT_0le, iF_0le, iT_eq, iF_eq, iT_eq0, iF_eq0], by simp (disch := omega) only [nI_z, zI_add, zI_sub, zI_mul, zI_m1, ckI_z, zI_clamp, Int.toNat_natCast, bnd_some, lt, rd_same, rd_ne, rdL_same, rdL_ne, wI_2, wL_1, if_true, if_false, iT_lt, iF_lt, iT_lt0, iF_lt0, iT_0lt, iF_0lt, iT_le, iF_le, iT_le0, iF_le0, iT_0le, iF_0le, iT_eq, iF_eq, iT_eq0, iF_eq0]; rfl, by simp (disch := omega) only [nI_z, zI_add, zI_sub, zI_mul, zI_m1, ckI_z, zI_clamp, Int.toNat_natCast, bnd_some, lt, rd_same, rd_ne, rdL_same, rdL_ne, wI_2, wL_1, if_true, if_false, iT_lt, iF_lt, iT_lt0, iF_lt0, iT_0lt, iF_0lt, iT_le, iF_le, iT_le0, iF_le0, iT_0le, iF_0le, iT_eq, iF_eq, iT_eq0, iF_eq0]; rfl, by rw [hl]; simp (disch := omega) only [nI_z, zI_add, zI_sub, zI_mul, zI_m1, ckI_z, zI_clamp, Int.toNat_natCast, bnd_some, lt, rd_same, rd_ne, rdL_same, rdL_ne, wI_2, wL_1, if_true, if_false, iT_lt, iF_lt, iT_lt0, iF_lt0, iT_0lt, iF_0lt, iT_le, iF_le, iT_le0, iF_le0, iT_0le, iF_0le, iT_eq, iF_eq, iT_eq0, iF_eq0]; rfl, h8.push2 (by simp (disch := omega) only [nI_z, zI_add, zI_sub, zI_mul, zI_m1, ckI_z, zI_clamp, Int.toNat_natCast, bnd_some, lt, rd_same, rd_ne, rdL_same, rdL_ne, wI_2, wL_1, if_true, if_false, iT_lt, iF_lt, iT_lt0, iF_lt0, iT_0lt, iF_0lt, iT_le, iF_le, iT_le0, iF_le0, iT_0le, iF_0le, iT_eq, iF_eq, iT_eq0, iF_eq0]) (fun k hk => by simp (disch := omega) only [nI_z, zI_add, zI_sub, zI_mul, zI_m1, ckI_z, zI_clamp, Int.toNat_natCast, bnd_some, lt, rd_same, rd_ne, rdL_same, rdL_ne, wI_2, wL_1, if_true, if_false, iT_lt, iF_lt, iT_lt0, iF_lt0, iT_0lt, iF_0lt, iT_le, iF_le, iT_le0, iF_le0, iT_0le, iF_0le, iT_eq, iF_eq, iT_eq0, iF_eq0]), c, by omega, ?_⟩
      obtain ⟨old, a0, a1, a2, a3, a4⟩ := h10
      refine ⟨c, rfl, fun j e he => (by cases he), fun j hj => ?_, fun e he => (by cases he), ?_⟩
      · rw [hl]
        by_cases q : j < old
        · obtain ⟨v, v1, v2⟩ := a2 j q
          exact ⟨v, by omega, by simp (disch := omega) only [v2, nI_z, zI_add, zI_sub, zI_mul, zI_m1, ckI_z, zI_clamp, Int.toNat_natCast, bnd_some, lt, rd_same, rd_ne, rdL_same, rdL_ne, wI_2, wL_1, if_true, if_false, iT_lt, iF_lt, iT_lt0, iF_lt0, iT_0lt, iF_0lt, iT_le, iF_le, iT_le0, iF_le0, iT_0le, iF_0le, iT_eq, iF_eq, iT_eq0, iF_eq0]⟩
        · have hlt : j - old < m.2.2.2.2.reverse.length := by rw [List.length_reverse]; omega
          have := (a1 (j - old) _ (List.getElem?_eq_getElem hlt)).2.2
          rw [show old + (j - old) = j by omega] at this
          exact ⟨m.2.2.2.1.length, by omega, by simp (disch := omega) only [this, nI_z, zI_add, zI_sub, zI_mul, zI_m1, ckI_z, zI_clamp, Int.toNat_natCast, bnd_some, lt, rd_same, rd_ne, rdL_same, rdL_ne, wI_2, wL_1, if_true, if_false, iT_lt, iF_lt, iT_lt0, iF_lt0, iT_0lt, iF_0lt, iT_le, iF_le, iT_le0, iF_le0, iT_0le, iF_0le, iT_eq, iF_eq, iT_eq0, iF_eq0]⟩
      · simp (disch := omega) only [a4, nI_z, zI_add, zI_sub, zI_mul, zI_m1, ckI_z, zI_clamp, Int.toNat_natCast, bnd_some, lt, rd_same, rd_ne, rdL_same, rdL_ne, wI_2, wL_1, if_true, if_false, iT_lt, iF_lt, iT_lt0, iF_lt0, iT_0lt, iF_0lt, iT_le, iF_le, iT_le0, iF_le0, iT_0le, iF_0le, iT_eq, iF_eq, iT_eq0, iF_eq0]
    have j := j276_ok (N := N) k hw (by show m.2.2.1 + 1 < 1000; omega)
    rw [mstep_2 hgd e0]
    refine ⟨_, ?_, k.fr, fun _ => k, hsm⟩
    unfold f12_step
    simp (disch := omega) only [h5, h6, h3, h4, h7, hv, sw_t, sw_f, sw_n, nI_z, zI_add, zI_sub, zI_mul, zI_m1, ckI_z, zI_clamp, Int.toNat_natCast, bnd_some, lt, rd_same, rd_ne, rdL_same, rdL_ne, wI_2, wL_1, if_true, if_false, iT_lt, iF_lt, iT_lt0, iF_lt0, iT_0lt, iF_0lt, iT_le, iF_le, iT_le0, iF_le0, iT_0le, iF_0le, iT_eq, iF_eq, iT_eq0, iF_eq0]
    exact j
theorem step_6 {N s : Nat} {S : St} {w : List Nat} {m : Mc} (hN : 5000 ≤ N) (h : RMr S w m s) (hm : MIq m) (hw : w.length ≤ 48) (hs : s < 4198) (hr : w[m.2.2.1]? = some 6) : stepR N S w m s := by
  have h' := h
  obtain ⟨h1, h2, h3, h4, h5, h6, h7, h8, c, h9, h10⟩ := h
  obtain ⟨m1, m2, m3, m4⟩ := hm
  have hi := (List.getElem?_eq_some_iff.mp hr).1
  have hgd : w.getD m.2.2.1 0 = 6 := by rw [List.getD_eq_getElem?_getD, hr]; rfl
  have hv := h2 _ _ hr
  rw [Nat.zero_add] at hv
  have e0 : mact 6 m = (if m.1 < 20 then ((m.1, m.2.1, 0, m.2.2.2.1, (m.1, m.2.1) :: m.2.2.2.2), if (m.1, m.2.1) ∈ m.2.2.2.2 then 1 else 2) else ((m.1, m.2.1, m.2.2.1 + 1, m.2.2.2.1, m.2.2.2.2), 2)) := rfl
  unfold stepR
  by_cases e : m.1 < 20
  · rw [if_pos e] at e0
    have hs6 : Same r6P S (wI (wI (wI S 146 14 (zI (s + ((1 : Nat) : Int)))) 146 13 (zI (m.2.2.1 + ((1 : Nat) : Int)))) 146 13 (zI ((0 : Nat) : Int))) := (((Same.rfl' (P := r6P)).wI (by unfold r6P; omega)).wI (by unfold r6P; omega)).wI (by unfold r6P; omega)
    have k : RMr _ w (m.1, m.2.1, 0, m.2.2.2.1, m.2.2.2.2) (s + 1) := RMr.put h' hs6 (by omega) (by simp (disch := omega) only [h3, nI_z, zI_add, zI_sub, zI_mul, zI_m1, ckI_z, zI_clamp, Int.toNat_natCast, bnd_some, lt, rd_same, rd_ne, rdL_same, rdL_ne, wI_2, wL_1, if_true, if_false, iT_lt, iF_lt, iT_lt0, iF_lt0, iT_0lt, iF_0lt, iT_le, iF_le, iT_le0, iF_le0, iT_0le, iF_0le, iT_eq, iF_eq, iT_eq0, iF_eq0]) (by simp (disch := omega) only [h4, nI_z, zI_add, zI_sub, zI_mul, zI_m1, ckI_z, zI_clamp, Int.toNat_natCast, bnd_some, lt, rd_same, rd_ne, rdL_same, rdL_ne, wI_2, wL_1, if_true, if_false, iT_lt, iF_lt, iT_lt0, iF_lt0, iT_0lt, iF_0lt, iT_le, iF_le, iT_le0, iF_le0, iT_0le, iF_0le, iT_eq, iF_eq, iT_eq0, iF_eq0]) (by simp (disch := omega) only [nI_z, zI_add, zI_sub, zI_mul, zI_m1, ckI_z, zI_clamp, Int.toNat_natCast, bnd_some, lt, rd_same, rd_ne, rdL_same, rdL_ne, wI_2, wL_1, if_true, if_false, iT_lt, iF_lt, iT_lt0, iF_lt0, iT_0lt, iF_0lt, iT_le, iF_le, iT_le0, iF_le0, iT_0le, iF_0le, iT_eq, iF_eq, iT_eq0, iF_eq0]) (by simp (disch := omega) only [nI_z, zI_add, zI_sub, zI_mul, zI_m1, ckI_z, zI_clamp, Int.toNat_natCast, bnd_some, lt, rd_same, rd_ne, rdL_same, rdL_ne, wI_2, wL_1, if_true, if_false, iT_lt, iF_lt, iT_lt0, iF_lt0, iT_0lt, iF_0lt, iT_le, iF_le, iT_le0, iF_le0, iT_0le, iF_0le, iT_eq, iF_eq, iT_eq0, iF_eq0]; rfl)
    generalize hS1 : wI (wI (wI S 146 14 (zI (s + ((1 : Nat) : Int)))) 146 13 (zI (m.2.2.1 + ((1 : Nat) : Int)))) 146 13 (zI ((0 : Nat) : Int)) = S1 at hs6 k
    have k' := k
    obtain ⟨k1, k2, k3, k4, k5, k6, k7, k8, _⟩ := k
    have k10 : CS S1 c m.2.2.2.1.length m.2.2.2.2 := h10.same hs6 (fun k => by unfold r6P; omega) (hs6.i (by unfold r6P; omega))
    have hca := cameSo_ok (N := N) hN k10 (by omega) m1 m2 (by show m.2.2.2.1.length < 1000; omega) k3 k4 k7
    by_cases q : (m.1, m.2.1) ∈ m.2.2.2.2
    · rw [if_pos q] at e0
      rw [bI_t q] at hca
      rw [mstep_n hgd e0 (by omega)]
      refine ⟨S1, ?_, k'.fr, fun z => absurd z (by show ¬ (1 : Nat) = 2; omega), r6_rm hs6⟩
      unfold f12_step
      simp (disch := omega) only [h5, h6, h3, h4, hv, sw_t, sw_f, sw_n, nI_z, zI_add, zI_sub, zI_mul, zI_m1, ckI_z, zI_clamp, Int.toNat_natCast, bnd_some, lt, rd_same, rd_ne, rdL_same, rdL_ne, wI_2, wL_1, if_true, if_false, iT_lt, iF_lt, iT_lt0, iF_lt0, iT_0lt, iF_0lt, iT_le, iF_le, iT_le0, iF_le0, iT_0le, iF_0le, iT_eq, iF_eq, iT_eq0, iF_eq0]
      rw [hS1, hca]
      rfl
    · rw [if_neg q] at e0
      rw [bI_f q] at hca
      have hsm : Same (fun a k => (a = 146 ∧ k = 20) ∨ (156 ≤ a ∧ a ≤ 158 ∧ k = c)) S1 (wI (wI (wI (wI S1 156 c (zI m.1)) 157 c (zI m.2.1)) 158 c (zI m.2.2.2.1.length)) 146 20 (zI (c + ((1 : Nat) : Int)))) := ((((Same.rfl' (P := fun a k => (a = 146 ∧ k = 20) ∨ (156 ≤ a ∧ a ≤ 158 ∧ k = c))).wI (by omega)).wI (by omega)).wI (by omega)).wI (by omega)
      have kk : RMr (wI (wI (wI (wI S1 156 c (zI m.1)) 157 c (zI m.2.1)) 158 c (zI m.2.2.2.1.length)) 146 20 (zI (c + ((1 : Nat) : Int)))) w (m.1, m.2.1, 0, m.2.2.2.1, (m.1, m.2.1) :: m.2.2.2.2) (s + 1) := by
        refine ⟨by simp (disch := omega) only [k1, nI_z, zI_add, zI_sub, zI_mul, zI_m1, ckI_z, zI_clamp, Int.toNat_natCast, bnd_some, lt, rd_same, rd_ne, rdL_same, rdL_ne, wI_2, wL_1, if_true, if_false, iT_lt, iF_lt, iT_lt0, iF_lt0, iT_0lt, iF_0lt, iT_le, iF_le, iT_le0, iF_le0, iT_0le, iF_0le, iT_eq, iF_eq, iT_eq0, iF_eq0], fun i x hx => by simp (disch := omega) only [nI_z, zI_add, zI_sub, zI_mul, zI_m1, ckI_z, zI_clamp, Int.toNat_natCast, bnd_some, lt, rd_same, rd_ne, rdL_same, rdL_ne, wI_2, wL_1, if_true, if_false, iT_lt, iF_lt, iT_lt0, iF_lt0, iT_0lt, iF_0lt, iT_le, iF_le, iT_le0, iF_le0, iT_0le, iF_0le, iT_eq, iF_eq, iT_eq0, iF_eq0]; exact k2 i x hx, by simp (disch := omega) only [k3, nI_z, zI_add, zI_sub, zI_mul, zI_m1, ckI_z, zI_clamp, Int.toNat_natCast, bnd_some, lt, rd_same, rd_ne, rdL_same, rdL_ne, wI_2, wL_1, if_true, if_false, iT_lt, iF_lt, iT_lt0, iF_lt0, iT_0lt, iF_0lt, iT_le, iF_le, iT_le0, iF_le0, iT_0le, iF_0le, iT_eq, iF_eq, iT_eq0, iF_eq0], by simp (disch := omega) only [k4, nI_z, zI_add, zI_sub, zI_mul, zI_m1, ckI_z, zI_clamp, Int.toNat_natCast, bnd_some, lt, rd_same, rd_ne, rdL_same, rdL_ne, wI_2, wL_1, if_true, if_false, iT_lt, iF_lt, iT_lt0, iF_lt0, iT_0lt, iF_0lt, iT_le, iF_le, iT_le0, iF_le0, iT_0le, iF_0le, iT_eq, iF_eq, iT_eq0, iF_eq0], by simp (disch := omega) only [k5, nI_z, zI_add, zI_sub, zI_mul, zI_m1, ckI_z, zI_clamp, Int.toNat_natCast, bnd_some, lt, rd_same, rd_ne, rdL_same, rdL_ne, wI_2, wL_1, if_true, if_false, iT_lt, iF_lt, iT_lt0, iF_lt0, iT_0lt, iF_0lt, iT_le, iF_le, iT_le0, iF_le0, iT_0le, iF_0le, iT_eq, iF_eq, iT_eq0, iF_eq0], by simp (disch := omega) only [k6, nI_z, zI_add, zI_sub, zI_mul, zI_m1, ckI_z, zI_clamp, Int.toNat_natCast, bnd_some, lt, rd_same, rd_ne, rdL_same, rdL_ne, wI_2, wL_1, if_true, if_false, iT_lt, iF_lt, iT_lt0, iF_lt0, iT_0lt, iF_0lt, iT_le, iF_le, iT_le0, iF_le0, iT_0le, iF_0le, iT_eq, iF_eq, iT_eq0, iF_eq0], by simp (disch := omega) only [k7, nI_z, zI_add, zI_sub, zI_mul, zI_m1, ckI_z, zI_clamp, Int.toNat_natCast, bnd_some, lt, rd_same, rd_ne, rdL_same, rdL_ne, wI_2, wL_1, if_true, if_false, iT_lt, iF_lt, iT_lt0, iF_lt0, iT_0lt, iF_0lt, iT_le, iF_le, iT_le0, iF_le0, iT_0le, iF_0le, iT_eq, iF_eq, iT_eq0, iF_eq0], fun i x hx => by simp (disch := omega) only [nI_z, zI_add, zI_sub, zI_mul, zI_m1, ckI_z, zI_clamp, Int.toNat_natCast, bnd_some, lt, rd_same, rd_ne, rdL_same, rdL_ne, wI_2, wL_1, if_true, if_false, iT_lt, iF_lt, iT_lt0, iF_lt0, iT_0lt, iF_0lt, iT_le, iF_le, iT_le0, iF_le0, iT_0le, iF_0le, iT_eq, iF_eq, iT_eq0, iF_eq0]; exact k8 i x hx, c + 1, ⟨by omega, by omega⟩, ?_⟩
        obtain ⟨old, a0, a1, a2, a3, a4⟩ := k10
        have hrl : m.2.2.2.2.reverse.length = m.2.2.2.2.length := List.length_reverse
        have a0 : old + m.2.2.2.2.length = c := a0
        refine ⟨old, ?_, fun j x hj => ?_, fun j hj => ?_, fun x hx => ?_, ?_⟩
        · rw [List.length_cons]; omega
        · rw [List.reverse_cons] at hj
          have hjl := (List.getElem?_eq_some_iff.mp hj).1
          rw [List.length_append, List.length_singleton] at hjl
          by_cases z : j = m.2.2.2.2.reverse.length
          · subst z
            have : x = (m.1, m.2.1) := by simpa [eq_comm] using hj
            rw [this, show old + m.2.2.2.2.reverse.length = c by omega]
            refine ⟨by simp (disch := omega) only [nI_z, zI_add, zI_sub, zI_mul, zI_m1, ckI_z, zI_clamp, Int.toNat_natCast, bnd_some, lt, rd_same, rd_ne, rdL_same, rdL_ne, wI_2, wL_1, if_true, if_false, iT_lt, iF_lt, iT_lt0, iF_lt0, iT_0lt, iF_0lt, iT_le, iF_le, iT_le0, iF_le0, iT_0le, iF_0le, iT_eq, iF_eq, iT_eq0, iF_eq0], by simp (disch := omega) only [nI_z, zI_add, zI_sub, zI_mul, zI_m1, ckI_z, zI_clamp, Int.toNat_natCast, bnd_some, lt, rd_same, rd_ne, rdL_same, rdL_ne, wI_2, wL_1, if_true, if_false, iT_lt, iF_lt, iT_lt0, iF_lt0, iT_0lt, iF_0lt, iT_le, iF_le, iT_le0, iF_le0, iT_0le, iF_0le, iT_eq, iF_eq, iT_eq0, iF_eq0], by simp (disch := omega) only [nI_z, zI_add, zI_sub, zI_mul, zI_m1, ckI_z, zI_clamp, Int.toNat_natCast, bnd_some, lt, rd_same, rd_ne, rdL_same, rdL_ne, wI_2, wL_1, if_true, if_false, iT_lt, iF_lt, iT_lt0, iF_lt0, iT_0lt, iF_0lt, iT_le, iF_le, iT_le0, iF_le0, iT_0le, iF_0le, iT_eq, iF_eq, iT_eq0, iF_eq0]⟩
          · rw [List.getElem?_append_left (by omega)] at hj
            obtain ⟨b1, b2, b3⟩ := a1 j x hj
            refine ⟨by simp (disch := omega) only [b1, nI_z, zI_add, zI_sub, zI_mul, zI_m1, ckI_z, zI_clamp, Int.toNat_natCast, bnd_some, lt, rd_same, rd_ne, rdL_same, rdL_ne, wI_2, wL_1, if_true, if_false, iT_lt, iF_lt, iT_lt0, iF_lt0, iT_0lt, iF_0lt, iT_le, iF_le, iT_le0, iF_le0, iT_0le, iF_0le, iT_eq, iF_eq, iT_eq0, iF_eq0], by simp (disch := omega) only [b2, nI_z, zI_add, zI_sub, zI_mul, zI_m1, ckI_z, zI_clamp, Int.toNat_natCast, bnd_some, lt, rd_same, rd_ne, rdL_same, rdL_ne, wI_2, wL_1, if_true, if_false, iT_lt, iF_lt, iT_lt0, iF_lt0, iT_0lt, iF_0lt, iT_le, iF_le, iT_le0, iF_le0, iT_0le, iF_0le, iT_eq, iF_eq, iT_eq0, iF_eq0], by simp (disch := omega) only [b3, nI_z, zI_add, zI_sub, zI_mul, zI_m1, ckI_z, zI_clamp, Int.toNat_natCast, bnd_some, lt, rd_same, rd_ne, rdL_same, rdL_ne, wI_2, wL_1, if_true, if_false, iT_lt, iF_lt, iT_lt0, iF_lt0, iT_0lt, iF_0lt, iT_le, iF_le, iT_le0, iF_le0, iT_0le, iF_0le, iT_eq, iF_eq, iT_eq0, iF_eq0]⟩
        · obtain ⟨v, v1, v2⟩ := a2 j hj
          exact ⟨v, v1, by simp (disch := omega) only [v2, nI_z, zI_add, zI_sub, zI_mul, zI_m1, ckI_z, zI_clamp, Int.toNat_natCast, bnd_some, lt, rd_same, rd_ne, rdL_same, rdL_ne, wI_2, wL_1, if_true, if_false, iT_lt, iF_lt, iT_lt0, iF_lt0, iT_0lt, iF_0lt, iT_le, iF_le, iT_le0, iF_le0, iT_0le, iF_0le, iT_eq, iF_eq, iT_eq0, iF_eq0]⟩
        · rcases List.mem_cons.mp hx with z | z
          · rw [z]; exact ⟨m1, m2⟩
          · exact a3 x z
        · simp (disch := omega) only [nI_z, zI_add, zI_sub, zI_mul, zI_m1, ckI_z, zI_clamp, Int.toNat_natCast, bnd_some, lt, rd_same, rd_ne, rdL_same, rdL_ne, wI_2, wL_1, if_true, if_false, iT_lt, iF_lt, iT_lt0, iF_lt0, iT_0lt, iF_0lt, iT_le, iF_le, iT_le0, iF_le0, iT_0le, iF_0le, iT_eq, iF_eq, iT_eq0, iF_eq0]
          rfl
      have hw0 : ¬ w.length ≤ 0 := by omega
      have j := j276_ok (N := N) kk hw (by show 0 < 1000; omega)
      rw [mstep_2 hgd e0]
      refine ⟨_, ?_, kk.fr, fun _ => kk, (r6_rm hs6).tr (hsm.mono (fun a k z => by unfold rmP; omega))⟩
      obtain ⟨old, a0, a1, a2, a3, a4⟩ := k10
      unfold f12_step
      simp (disch := omega) only [h5, h6, h3, h4, hv, sw_t, sw_f, sw_n, nI_z, zI_add, zI_sub, zI_mul, zI_m1, ckI_z, zI_clamp, Int.toNat_natCast, bnd_some, lt, rd_same, rd_ne, rdL_same, rdL_ne, wI_2, wL_1, if_true, if_false, iT_lt, iF_lt, iT_lt0, iF_lt0, iT_0lt, iF_0lt, iT_le, iF_le, iT_le0, iF_le0, iT_0le, iF_0le, iT_eq, iF_eq, iT_eq0, iF_eq0]
      rw [hS1, hca]
      simp only [bnd_some]
      have k3 : S1.1 146 11 = zI m.1 := k3
      have k4 : S1.1 146 12 = zI m.2.1 := k4
      have k7 : S1.1 146 15 = zI m.2.2.2.1.length := k7
      simp (disch := omega) only [a4, k3, k4, k7, nI_z, zI_add, zI_sub, zI_mul, zI_m1, ckI_z, zI_clamp, Int.toNat_natCast, bnd_some, lt, rd_same, rd_ne, rdL_same, rdL_ne, wI_2, wL_1, if_true, if_false, iT_lt, iF_lt, iT_lt0, iF_lt0, iT_0lt, iF_0lt, iT_le, iF_le, iT_le0, iF_le0, iT_0le, iF_0le, iT_eq, iF_eq, iT_eq0, iF_eq0]
      exact j
  · rw [if_neg e] at e0
    have hs6 : Same r6P S (wI (wI S 146 14 (zI (s + ((1 : Nat) : Int)))) 146 13 (zI (m.2.2.1 + ((1 : Nat) : Int)))) := ((Same.rfl' (P := r6P)).wI (by unfold r6P; omega)).wI (by unfold r6P; omega)
    have k : RMr _ w (m.1, m.2.1, m.2.2.1 + 1, m.2.2.2.1, m.2.2.2.2) (s + 1) := RMr.put h' hs6 (by omega) (by simp (disch := omega) only [h3, nI_z, zI_add, zI_sub, zI_mul, zI_m1, ckI_z, zI_clamp, Int.toNat_natCast, bnd_some, lt, rd_same, rd_ne, rdL_same, rdL_ne, wI_2, wL_1, if_true, if_false, iT_lt, iF_lt, iT_lt0, iF_lt0, iT_0lt, iF_0lt, iT_le, iF_le, iT_le0, iF_le0, iT_0le, iF_0le, iT_eq, iF_eq, iT_eq0, iF_eq0]) (by simp (disch := omega) only [h4, nI_z, zI_add, zI_sub, zI_mul, zI_m1, ckI_z, zI_clamp, Int.toNat_natCast, bnd_some, lt, rd_same, rd_ne, rdL_same, rdL_ne, wI_2, wL_1, if_true, if_false, iT_lt, iF_lt, iT_lt0, iF_lt0, iT_0lt, iF_0lt, iT_le, iF_le, iT_le0, iF_le0, iT_0le, iF_0le, iT_eq, iF_eq, iT_eq0, iF_eq0]) (by simp (disch := omega) only [nI_z, zI_add, zI_sub, zI_mul, zI_m1, ckI_z, zI_clamp, Int.toNat_natCast, bnd_some, lt, rd_same, rd_ne, rdL_same, rdL_ne, wI_2, wL_1, if_true, if_false, iT_lt, iF_lt, iT_lt0, iF_lt0, iT_0lt, iF_0lt, iT_le, iF_le, iT_le0, iF_le0, iT_0le, iF_0le, iT_eq, iF_eq, iT_eq0, iF_eq0]; rfl) (by simp (disch := omega) only [nI_z, zI_add, zI_sub, zI_mul, zI_m1, ckI_z, zI_clamp, Int.toNat_natCast, bnd_some, lt, rd_same, rd_ne, rdL_same, rdL_ne, wI_2, wL_1, if_true, if_false, iT_lt, iF_lt, iT_lt0, iF_lt0, iT_0lt, iF_0lt, iT_le, iF_le, iT_le0, iF_le0, iT_0le, iF_0le, iT_eq, iF_eq, iT_eq0, iF_eq0]; rfl)
    have j := j276_ok (N := N) k hw (by show m.2.2.1 + 1 < 1000; omega)
    rw [mstep_2 hgd e0]
    refine ⟨_, ?_, k.fr, fun _ => k, r6_rm hs6⟩
    unfold f12_step
    simp (disch := omega) only [h5, h6, h3, h4, hv, sw_t, sw_f, sw_n, nI_z, zI_add, zI_sub, zI_mul, zI_m1, ckI_z, zI_clamp, Int.toNat_natCast, bnd_some, lt, rd_same, rd_ne, rdL_same, rdL_ne, wI_2, wL_1, if_true, if_false, iT_lt, iF_lt, iT_lt0, iF_lt0, iT_0lt, iF_0lt, iT_le, iF_le, iT_le0, iF_le0, iT_0le, iF_0le, iT_eq, iF_eq, iT_eq0, iF_eq0]
    exact j
