/-! The reference's find, whole. -/
theorem fd_zero {N n : Nat} {g : Lg} {xi xj xn : Int32} (hg : LV g) (hn : n ≤ 14) : ∀ (C A : List Pg) (j m : Nat) (S : St), progs (bit g) (rkf g) n = A ++ C → j = A.length → C.length < m → LQ S (plist g n) → (∀ j2, j2 < j → S.1 166 j2 = zI ((0 : Nat) : Int)) →
    ∃ S2, f12_find_h9 N xi xj xn m (zI j) S = f12_find_h56 N xi xj xn N (zI ((1 : Nat) : Int)) S2 ∧ R41 S2 (0, 0, 0) ∧ S2.1 146 47 = zI (-2) ∧ (∀ j2, j2 < (progs (bit g) (rkf g) n).length → S2.1 166 j2 = zI ((0 : Nat) : Int)) ∧ Same (fun c k => c = 166 ∨ (c = 146 ∧ (k = 41 ∨ k = 45 ∨ k = 46 ∨ k = 47))) S S2 := by
  intro C
  induction C with
  | nil =>
    intro A j m S hp hk hm hq hz
    obtain ⟨m, rfl⟩ : ∃ z, m = z + 1 := ⟨m - 1, by omega⟩
    have hcap := progs_cap hg hn hp
    rw [List.length_nil] at hcap
    have h28 := plist_end hp hk hq
    rw [List.append_nil] at hp
    refine ⟨wI (wI (wI (wI S 146 41 (zI ((0 : Nat) : Int))) 146 45 (zI ((0 : Nat) : Int))) 146 46 (zI ((0 : Nat) : Int))) 146 47 (zI (-2)), ?_, ⟨?_, ?_, ?_⟩, rd_same, fun j2 hj2 => ?_, (((Same.rfl'.wI (by omega)).wI (by omega)).wI (by omega)).wI (by omega)⟩
    · rw [f12_find_h9]
      simp (disch := omega) only [h28, nI_z, zI_add, zI_sub, zI_mul, zI_m1, ckI_z, zI_clamp, Int.toNat_natCast, bnd_some, lt, rd_same, rd_ne, rdL_same, rdL_ne, wI_2, wL_1, if_true, if_false, iT_lt, iF_lt, iT_lt0, iF_lt0, iT_0lt, iF_0lt, iT_le, iF_le, iT_le0, iF_le0, iT_0le, iF_0le, iT_eq, iF_eq, iT_eq0, iF_eq0]
      rfl
    · rw [rd_ne (by omega), rd_ne (by omega), rd_ne (by omega), rd_same]
    · rw [rd_ne (by omega), rd_ne (by omega), rd_same]
    · rw [rd_ne (by omega), rd_same]
    · rw [rd_ne (by omega), rd_ne (by omega), rd_ne (by omega), rd_ne (by omega)]
      exact hz j2 (by rw [hk, ← hp]; exact hj2)
  | cons e C ih =>
    intro A j m S hp hk hm hq hz
    obtain ⟨m, rfl⟩ : ∃ z, m = z + 1 := ⟨m - 1, by omega⟩
    have hcap := progs_cap hg hn hp
    rw [List.length_cons] at hm hcap
    obtain ⟨h28, l1, l2, hr⟩ := plist_at hp hk hq
    have s1 : Same (fun c k => c = 166 ∨ (c = 146 ∧ (k = 41 ∨ k = 45 ∨ k = 46 ∨ k = 47))) S (wI S 166 j (zI ((0 : Nat) : Int))) := Same.rfl'.wI (by omega)
    obtain ⟨S2, x1, x2, x3, x4, x5⟩ := ih (A ++ [e]) (j + 1) m (wI S 166 j (zI ((0 : Nat) : Int))) (by rw [hp]; simp) (by rw [hk]; simp) (by omega) (hq.same s1 (fun c k z => by unfold liP at z; omega)) (fun j2 hj2 => by
      by_cases z : j2 = j
      · rw [z, rd_same]
      · rw [rd_ne (by omega)]
        exact hz j2 (by omega))
    refine ⟨S2, ?_, x2, x3, x4, s1.tr x5⟩
    rw [← x1, f12_find_h9]
    simp (disch := omega) only [h28, nI_z, zI_add, zI_sub, zI_mul, zI_m1, ckI_z, zI_clamp, Int.toNat_natCast, bnd_some, lt, rd_same, rd_ne, rdL_same, rdL_ne, wI_2, wL_1, if_true, if_false, iT_lt, iF_lt, iT_lt0, iF_lt0, iT_0lt, iF_0lt, iT_le, iF_le, iT_le0, iF_le0, iT_0le, iF_0le, iT_eq, iF_eq, iT_eq0, iF_eq0]
    rfl
def FB (S : St) (g : Lg) (x n : Nat) (l : List Nat) (b : Fb) : Prop := R41 S (fin3 g x n (progs (bit g) (rkf g) n) b) ∧ match b with
  | none => Non g x l (progs (bit g) (rkf g) n) n ∧ S.1 146 47 = zI (-2)
  | some (k, A, e, C) => Fnd g x l (progs (bit g) (rkf g) n) n k A e C ∧ RA S g x k e
def fz (b : Fb) : Int := match b with
  | none => 0
  | some _ => 1
theorem fd_out {N i jt n : Nat} {g : Lg} {q : Tk} (hg : LV g) (hN : 100000 ≤ N) (hi : i < 6) (hn : n ≤ 14) (hj : jt < 10) (hw : TW q) : ∀ (d k m : Nat) (S : St), k + d = n + 1 → d < m → 1 ≤ k → ML S i g → LQ S (plist g n) → TMt S jt q → R41 S (tots g q.1 (k - 1) (progs (bit g) (rkf g) n)) → R66 S g q.1 (progs (bit g) (rkf g) n) k 0 → S.1 146 47 = zI (-2) → (∀ f ∈ progs (bit g) (rkf g) n, f.1 ≤ k - 1 → ¬ ans g q.1 q.2.2 f (k - 1)) →
    ∃ b S2, f12_find_h56 N (zI i) (zI jt) (zI n) m (zI k) S = some (zI (fz b), S2) ∧ FB S2 g q.1 n q.2.2 b ∧ (V15 S → V15 S2) ∧ Same fnP S S2 := by
  intro d
  induction d with
  | zero =>
    intro k m S hkd hm hk hml hq hT h41 h66 h47 hno
    obtain ⟨m, rfl⟩ : ∃ z, m = z + 1 := ⟨m - 1, by omega⟩
    have hkn : k - 1 = n := by omega
    rw [hkn] at h41 hno
    refine ⟨none, S, ?_, ⟨h41, hno, h47⟩, fun z => z, Same.rfl'⟩
    rw [f12_find_h56]
    simp (disch := omega) only [nI_z, zI_add, zI_sub, zI_mul, zI_m1, ckI_z, zI_clamp, Int.toNat_natCast, bnd_some, lt, rd_same, rd_ne, rdL_same, rdL_ne, wI_2, wL_1, if_true, if_false, iT_lt, iF_lt, iT_lt0, iF_lt0, iT_0lt, iF_0lt, iT_le, iF_le, iT_le0, iF_le0, iT_0le, iF_0le, iT_eq, iF_eq, iT_eq0, iF_eq0]
    rfl
  | succ d ih =>
    intro k m S hkd hm hk hml hq hT h41 h66 h47 hno
    obtain ⟨m, rfl⟩ : ∃ z, m = z + 1 := ⟨m - 1, by omega⟩
    have hcap := progs_cap (A := []) (C := progs (bit g) (rkf g) n) hg hn rfl
    rw [List.length_nil, Nat.zero_add] at hcap
    have hst : f12_find_h56 N (zI i) (zI jt) (zI n) (m + 1) (zI k) S = f12_find_h65 N (zI i) (zI jt) (zI n) (zI k) (f12_find_h56 N (zI i) (zI jt) (zI n) m) N (zI ((0 : Nat) : Int)) S := by
      rw [f12_find_h56]
      simp (disch := omega) only [nI_z, zI_add, zI_sub, zI_mul, zI_m1, ckI_z, zI_clamp, Int.toNat_natCast, bnd_some, lt, rd_same, rd_ne, rdL_same, rdL_ne, wI_2, wL_1, if_true, if_false, iT_lt, iF_lt, iT_lt0, iF_lt0, iT_0lt, iF_0lt, iT_le, iF_le, iT_le0, iF_le0, iT_0le, iF_0le, iT_eq, iF_eq, iT_eq0, iF_eq0]
    rcases fd_in (N := N) (k := k) hg hN hi hn hj hw hk (by omega) (f12_find_h56 N (zI i) (zI jt) (zI n) m) hno (progs (bit g) (rkf g) n) [] 0 N S rfl rfl (by omega) hml hq hT (by
      show R41 S (tadd (0, 0, 0) _)
      rw [z_tadd]
      exact h41) h66 (fun f hf => by cases hf) with ⟨S2, A2, e, C2, x1, x2, x3, x4, x5, x6⟩ | ⟨S2, x1, x2, x3, x4, x5, x6⟩
    · exact ⟨some (k, A2, e, C2), S2, by rw [hst]; exact x1, ⟨x3, x2, x4⟩, x5, x6⟩
    · obtain ⟨b, S3, y1, y2, y3, y4⟩ := ih (k + 1) m S2 (by omega) (by omega) (by omega) (hml.same hg x6 (fun c p _ _ _ => by unfold flP rnP wkP; omega) (fun p _ _ => by unfold flP rnP wkP; omega) (fun p _ _ => by unfold flP rnP wkP; omega) (by unfold flP rnP wkP; omega)) (hq.same x6 (fun c k z => by unfold liP at z; unfold flP rnP wkP; omega)) (hT.same x6 (fun c k _ _ => by unfold flP rnP wkP; omega)) (by rw [Nat.add_sub_cancel]; exact x2) (fun j f hf => by
        have h := x3 j f hf
        rw [if_pos (List.getElem?_eq_some_iff.mp hf).1] at h
        rw [if_neg (by omega), Nat.add_sub_cancel]
        exact h) (by rw [x6.i (by unfold flP rnP wkP; omega)]; exact h47) (by rw [Nat.add_sub_cancel]; exact x4)
      exact ⟨b, S3, by rw [hst, x1]; exact y1, y2, fun z => y3 (x5 z), (x6.mono (fun c k z => Or.inl z)).tr y4⟩
/-- what find may write -/
def fdP (c k : Nat) : Prop := fnP c k ∨ liP c k
theorem find_ok {N i jt n : Nat} {g : Lg} {q : Tk} {S : St} (hg : LV g) (hN : 100000 ≤ N) (hi : i < 6) (hn : n ≤ 14) (hj : jt < 10) (hw : TW q) (hml : ML S i g) (hT : TMt S jt q) : ∃ b S2, f12_find N (zI i) (zI jt) (zI n) S = some (zI (fz b), S2) ∧ FB S2 g q.1 n q.2.2 b ∧ (V15 S → V15 S2) ∧ Same fdP S S2 := by
  have hcap := progs_cap (A := []) (C := progs (bit g) (rkf g) n) hg hn rfl
  rw [List.length_nil, Nat.zero_add] at hcap
  obtain ⟨S1, a1, a2, a3⟩ := f12_listAll_ok (N := N) (lim := n) hg hi (by omega) hn hml
  obtain ⟨S2, b1, b2, b3, b4, b5⟩ := fd_zero (N := N) (xi := zI i) (xj := zI jt) (xn := zI n) hg hn (progs (bit g) (rkf g) n) [] 0 N S1 rfl rfl (by omega) a2 (fun j2 h => by omega)
  have s2 : Same fdP S S2 := (a3.mono (fun c k z => Or.inr z)).tr (b5.mono (fun c k z => Or.inl (by unfold fnP flP; omega)))
  have h1s : ∀ f ∈ progs (bit g) (rkf g) n, 1 ≤ f.1 := fun f hf => (progs_mem hf).1
  obtain ⟨b, S3, c1, c2, c3, c4⟩ := fd_out (N := N) (i := i) (jt := jt) hg hN hi hn hj hw n 1 N S2 (by omega) (by omega) (Nat.le_refl 1) ((hml.li hg a3).same hg b5 (fun c p _ _ _ => by omega) (fun p _ _ => by omega) (fun p _ _ => by omega) (by omega)) (a2.same b5 (fun c k z => by unfold liP at z; omega)) ((hT.same a3 (fun c k _ _ => by unfold liP; omega)).same b5 (fun c k _ _ => by omega)) (by
    show R41 S2 (tots g q.1 0 _)
    rw [tots_0 (fun f hf => h1s f hf)]
    exact b2) (fun j f hf => by
    rw [if_neg (by omega)]
    have h := h1s f (List.mem_of_getElem? hf)
    refine ⟨fun z => ?_, fun _ => b4 j (List.getElem?_eq_some_iff.mp hf).1⟩
    have := z.1
    omega) b3 (fun f hf hf1 => by
    have := h1s f hf
    omega)
  refine ⟨b, S3, ?_, c2, fun z => c3 ((z.same a3 (by unfold liP; omega)).same b5 (by omega)), s2.tr (c4.mono (fun c k z => Or.inl z))⟩
  unfold f12_find
  rw [a1, bnd_some, nI_z 0, b1]
  exact c1
/-- both sides find the same -/
theorem fb_eq {S1 S2 : St} {a0 x n : Nat} {g : Lg} {l : List Nat} {b c : Fb} (h1 : FA S1 a0 g x n l b) (h2 : FB S2 g x n l c) : b = c := by
  cases b with
  | none =>
    cases c with
    | none => rfl
    | some q =>
      obtain ⟨k, A, e, C⟩ := q
      exact (h2.2.1.not_non h1.1).elim
  | some p =>
    obtain ⟨k, A, e, C⟩ := p
    cases c with
    | none => exact (h1.1.not_non h2.2.1).elim
    | some q =>
      obtain ⟨k2, A2, e2, C2⟩ := q
      obtain ⟨z1, z2, z3, z4⟩ := h1.1.uniq h2.2.1
      rw [z1, z2, z3, z4]
