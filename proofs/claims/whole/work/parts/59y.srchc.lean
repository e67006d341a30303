/-! The calls search and searched. -/
def Qsr (S : St) : Prop := (S.1 0 12 = zI ((0 : Nat) : Int) ∧ S.1 146 48 = zI (-1)) ∨ (S.1 0 12 = zI ((1 : Nat) : Int) ∧ ∃ s b h : Nat, s < 2147483648 ∧ S.1 14 6 = zI s ∧ S.1 146 48 = zI s ∧ S.1 14 7 = zI b ∧ S.1 146 51 = zI b ∧ S.1 14 8 = zI h ∧ S.1 146 52 = zI h ∧ ((S.1 14 2 = zI ((0 : Nat) : Int) ∧ S.1 146 49 = zI (-2) ∧ S.1 146 50 = zI (-2)) ∨ (S.1 14 2 = zI ((1 : Nat) : Int) ∧ ∃ u w : Nat, 0 < w ∧ w < 2147483648 ∧ S.1 14 4 = zI u ∧ S.1 146 49 = zI u ∧ shlI (S.1 14 4) (S.1 14 5) = zI w ∧ S.1 146 50 = (zI s + zI w - nI 1) / zI w)))
def srP (c k : Nat) : Prop := (c = 0 ∧ k = 12) ∨ c = 14 ∨ (c = 146 ∧ 48 ≤ k ∧ k ≤ 52)
theorem Qsr.same {P : Nat → Nat → Prop} {S S2 : St} (h : Qsr S) (hs : Same P S S2) (hd : ∀ c k, srP c k → ¬ P c k) : Qsr S2 := by
  unfold Qsr at h ⊢
  have e1 : ∀ k, S2.1 14 k = S.1 14 k := fun k => hs.i (hd 14 k (by unfold srP; omega))
  have e2 : S2.1 0 12 = S.1 0 12 := hs.i (hd 0 12 (by unfold srP; omega))
  have e3 : ∀ k, 48 ≤ k → k ≤ 52 → S2.1 146 k = S.1 146 k := fun k h1 h2 => hs.i (hd 146 k (by unfold srP; omega))
  rw [e2, e1 6, e1 7, e1 8, e1 2, e1 4, e1 5, e3 48 (by omega) (by omega), e3 49 (by omega) (by omega), e3 50 (by omega) (by omega), e3 51 (by omega) (by omega), e3 52 (by omega) (by omega)]
  exact h
theorem sw_some {S : St} {x : Int32} : ∀ {l : List (Int32 × Option (Int32 × St))} {d : Option (Int32 × St)}, (∀ q ∈ l, ∃ r, q.2 = some (r, S)) → (∃ r, d = some (r, S)) → ∃ r, sw x l d = some (r, S)
  | [], d, _, h => h
  | q :: l, d, h, hd => by
    unfold sw
    by_cases c : x = q.1
    · rw [if_pos c]
      exact h q List.mem_cons_self
    · rw [if_neg c]
      exact sw_some (fun p hp => h p (List.mem_cons_of_mem _ hp)) hd
theorem c_searched {S : St} (h : Qsr S) (x : Int32) : ∃ r, f11_searched x S = some (r, S) ∧ f12_searched x S = some (r, S) := by
  rcases h with ⟨h1, h2⟩ | ⟨h1, s, b, hg, hs, a1, a2, a3, a4, a5, a6, h3⟩
  · refine ⟨zI (-1), ?_, ?_⟩
    · unfold f11_searched
      rw [h1, iT_eq0 (a := ((0 : Nat) : Int)) rfl]
      rfl
    · unfold f12_searched
      rw [h2, iF_0le (by omega)]
      rfl
  · have key : ∃ e1 e2 : Int32, f11_searched x S = sw x [(nI 0, some (zI s, S)), (nI 1, some (e1, S)), (nI 2, some (e2, S)), (nI 3, some (zI b, S)), (nI 4, some (zI hg, S))] (some (-1, S)) ∧ f12_searched x S = sw x [(nI 0, some (zI s, S)), (nI 1, some (e1, S)), (nI 2, some (e2, S)), (nI 3, some (zI b, S)), (nI 4, some (zI hg, S))] (some (-1, S)) := by
      rcases h3 with ⟨b1, b2, b3⟩ | ⟨b1, u, w, w0, w1, b2, b3, b4, b5⟩
      · refine ⟨zI (-2), zI (-2), ?_, ?_⟩
        · unfold f11_searched f7_sum f7_hasAnswer f7_begun f7_hanging
          rw [h1, iF_eq0 (by omega), b1, ckB_n0]
          simp only [bnd_some]
          rw [iT_eq0 (a := ((0 : Nat) : Int)) rfl, iT_eq0 (a := ((0 : Nat) : Int)) rfl, a1, a3, a5]
          rfl
        · unfold f12_searched
          rw [a2, a4, a6, b2, b3, iT_0le (by omega)]
      · refine ⟨zI u, (zI s + zI w - nI 1) / zI w, ?_, ?_⟩
        · have hf : f7_factor 14 S = some ((zI s + zI w - nI 1) / zI w, S) := by
            unfold f7_factor
            simp only [lt]
            rw [b4, a1, iT_0lt (by omega), ckZ_ne (fun q => by have := (zI_eq0 (by omega)).mp q; omega)]
          unfold f11_searched f7_sum f7_hasAnswer f7_begun f7_hanging f7_answerSteps
          rw [h1, iF_eq0 (by omega), b1, ckB_n1]
          simp only [bnd_some]
          rw [iF_eq0 (by omega), iF_eq0 (by omega), hf, a1, a3, a5, b2]
          rfl
        · unfold f12_searched
          rw [a2, a4, a6, b3, b5, iT_0le (by omega)]
    obtain ⟨e1, e2, k1, k2⟩ := key
    rw [k1, k2]
    obtain ⟨r, hr⟩ := sw_some (S := S) (x := x) (l := [(nI 0, some (zI s, S)), (nI 1, some (e1, S)), (nI 2, some (e2, S)), (nI 3, some (zI b, S)), (nI 4, some (zI hg, S))]) (d := some (-1, S)) (fun q hq => by
      simp only [List.mem_cons, List.not_mem_nil, or_false] at hq
      rcases hq with z | z | z | z | z
      · rw [z]; exact ⟨_, rfl⟩
      · rw [z]; exact ⟨_, rfl⟩
      · rw [z]; exact ⟨_, rfl⟩
      · rw [z]; exact ⟨_, rfl⟩
      · rw [z]; exact ⟨_, rfl⟩) ⟨_, rfl⟩
    exact ⟨r, hr, hr⟩
theorem isPh (x : Int) (S : St) (hx : -2147483648 ≤ x ∧ x < 2147483648) : f11_isPhase (zI x) S = some (bI (1 ≤ x ∧ x ≤ 14), S) := by
  unfold f11_isPhase
  by_cases e : x < 1
  · rw [bI_f (by omega)]; simp (disch := omega) only [nI_z, zI_add, zI_sub, zI_mul, zI_m1, ckI_z, zI_clamp, Int.toNat_natCast, bnd_some, lt, rd_same, rd_ne, rdL_same, rdL_ne, wI_2, wL_1, if_true, if_false, iT_lt, iF_lt, iT_lt0, iF_lt0, iT_0lt, iF_0lt, iT_le, iF_le, iT_le0, iF_le0, iT_0le, iF_0le, iT_eq, iF_eq, iT_eq0, iF_eq0]; rfl
  · by_cases e1 : x ≤ 14
    · rw [bI_t (by omega)]; simp (disch := omega) only [nI_z, zI_add, zI_sub, zI_mul, zI_m1, ckI_z, zI_clamp, Int.toNat_natCast, bnd_some, lt, rd_same, rd_ne, rdL_same, rdL_ne, wI_2, wL_1, if_true, if_false, iT_lt, iF_lt, iT_lt0, iF_lt0, iT_0lt, iF_0lt, iT_le, iF_le, iT_le0, iF_le0, iT_0le, iF_0le, iT_eq, iF_eq, iT_eq0, iF_eq0]; rfl
    · rw [bI_f (by omega)]; simp (disch := omega) only [nI_z, zI_add, zI_sub, zI_mul, zI_m1, ckI_z, zI_clamp, Int.toNat_natCast, bnd_some, lt, rd_same, rd_ne, rdL_same, rdL_ne, wI_2, wL_1, if_true, if_false, iT_lt, iF_lt, iT_lt0, iF_lt0, iT_0lt, iF_0lt, iT_le, iF_le, iT_le0, iF_le0, iT_0le, iF_0le, iT_eq, iF_eq, iT_eq0, iF_eq0]; rfl
theorem isPh_m (x : Int) (S : St) (hx : -2147483648 ≤ x ∧ x < 2147483648) : f12_within ((zI x).toInt64) (lN 1) (lN 14) S = some (bI (1 ≤ x ∧ x ≤ 14), S) := within_n x 1 14 S hx (by omega) (by omega)
theorem tots_le {g : Lg} {x k : Nat} (hk : k ≤ 14) : ∀ L : List Pg, (tots g x k L).1 ≤ 16384 * L.length
  | [] => Nat.le_refl _
  | e :: L => by
    have h1 := tots_le hk L (g := g) (x := x)
    have h2 : (tot g x k e).1 ≤ 16384 := by
      unfold tot
      by_cases c : e.1 ≤ k
      · rw [if_pos c]
        have h3 := (rk_steps g x e k).1
        have h4 : 2 ^ (k - e.1) ≤ 2 ^ 14 := Nat.pow_le_pow_right (by omega) (by omega)
        show (rk g x e k).2.1 ≤ 16384
        omega
      · rw [if_neg c]
        exact Nat.zero_le _
    show (tot g x k e).1 + (tots g x k L).1 ≤ 16384 * (L.length + 1)
    omega
theorem fin3_le {g : Lg} {x n : Nat} {l : List Nat} {b : Fb} {S : St} {a0 : Nat} (hg : LV g) (hn : n ≤ 14) (h : FA S a0 g x n l b) : (fin3 g x n (progs (bit g) (rkf g) n) b).1 < 2147483648 := by
  have hcap := progs_cap (A := []) (C := progs (bit g) (rkf g) n) hg hn rfl
  rw [List.length_nil, Nat.zero_add] at hcap
  cases b with
  | none =>
    have := tots_le (g := g) (x := x) hn (progs (bit g) (rkf g) n)
    show (tots g x n (progs (bit g) (rkf g) n)).1 < 2147483648
    omega
  | some q =>
    obtain ⟨k, A, e, C⟩ := q
    have hL := h.1.1
    have hk := h.1.2.2.1
    have h1 := tots_le (g := g) (x := x) (by omega : k ≤ 14) (A ++ [e])
    have h2 := tots_le (g := g) (x := x) (by omega : k - 1 ≤ 14) C
    rw [List.length_append, List.length_singleton] at h1
    rw [hL, List.length_append, List.length_cons] at hcap
    show (tots g x k (A ++ [e])).1 + (tots g x (k - 1) C).1 < 2147483648
    omega
/-- what search may write -/
def seP (c k : Nat) : Prop := mcP c k ∨ (c = 0 ∧ k = 12) ∨ (14 ≤ c ∧ c ≤ 18) ∨ prP c k ∨ fdP c k ∨ (c = 146 ∧ 48 ≤ k ∧ k ≤ 52) ∨ (116 ≤ c ∧ c ≤ 145 ∧ ((c - 116) % 3 = 2 ∨ ((c - 116) % 3 = 0 ∧ k = 4)))
theorem lkP_se {j c k : Nat} (hj : j < 10) (h : lkP 14 (116 + 3 * j) c k) : mcP c k ∨ (14 ≤ c ∧ c ≤ 18) ∨ (116 ≤ c ∧ c ≤ 145 ∧ ((c - 116) % 3 = 2 ∨ ((c - 116) % 3 = 0 ∧ k = 4))) := by
  unfold lkP saP auP skP at h
  by_cases m : mcP c k
  · exact Or.inl m
  · right
    rcases h with (z | z | z | z) | (z | z | z)
    · exact absurd z m
    · left; omega
    · left; omega
    · right; omega
    · exact absurd z m
    · left; omega
    · left; omega
theorem ad6_17 : 17 ∈ ad6 := by decide
theorem c_search {N K : Nat} {S : St} {Ls : List Lg} {p : List Nat} {ts : List (Nat × List Nat × List Nat)} (hN : 100000 ≤ N) (h : Qlang S Ls) (hp : Qprog S p) (hk : Qtask S ts) (hR : Qsr S) (hK : CMq S K) (hKb : K + 400000 < 2147483648) (x y t : Int32) : ∃ r S1 S2 K2 p2, f11_search N x y t S = some (r, S1) ∧ f12_search N x y t S1 = some (r, S2) ∧ Qprog S2 p2 ∧ Qsr S2 ∧ CMq S2 K2 ∧ K ≤ K2 ∧ K2 ≤ K + 294912 ∧ (V15 S → V15 S2) ∧ Same seP S S2 := by
  have triv : ∀ r, f11_search N x y t S = some (r, S) → f12_search N x y t S = some (r, S) → ∃ r S1 S2 K2 p2, f11_search N x y t S = some (r, S1) ∧ f12_search N x y t S1 = some (r, S2) ∧ Qprog S2 p2 ∧ Qsr S2 ∧ CMq S2 K2 ∧ K ≤ K2 ∧ K2 ≤ K + 294912 ∧ (V15 S → V15 S2) ∧ Same seP S S2 := fun r a b => ⟨r, S, S, K, p, a, b, hp, hR, hK, by omega, by omega, fun q => q, Same.rfl'⟩
  have ht := xrng t
  rw [zI_of t] at triv ⊢
  generalize t.toInt = u at ht triv
  have n2 := fun S => isPh u S ht
  have k2 := fun S => isPh_m u S ht
  rcases lang_cases h x with ⟨e1, e2⟩ | ⟨i, g, hg, rfl, hi, e1, e2, hv, hc, hm⟩
  · refine triv (zI (-1)) ?_ ?_
    · unfold f11_search
      rcases task_cases hk y with ⟨q1, q2⟩ | ⟨j, q, hj, rfl, hj10, q1, q2, hA⟩
      · rw [e1, bnd_some, q1]; simp (disch := omega) only [ifN_none, nI_z, zI_add, zI_sub, zI_mul, zI_m1, ckI_z, zI_clamp, Int.toNat_natCast, bnd_some, lt, rd_same, rd_ne, rdL_same, rdL_ne, wI_2, wL_1, if_true, if_false, iT_lt, iF_lt, iT_lt0, iF_lt0, iT_0lt, iF_0lt, iT_le, iF_le, iT_le0, iF_le0, iT_0le, iF_0le, iT_eq, iF_eq, iT_eq0, iF_eq0]
      · rw [e1, bnd_some, q1]; simp (disch := omega) only [ifN_none, nI_z, zI_add, zI_sub, zI_mul, zI_m1, ckI_z, zI_clamp, Int.toNat_natCast, bnd_some, lt, rd_same, rd_ne, rdL_same, rdL_ne, wI_2, wL_1, if_true, if_false, iT_lt, iF_lt, iT_lt0, iF_lt0, iT_0lt, iF_0lt, iT_le, iF_le, iT_le0, iF_le0, iT_0le, iF_0le, iT_eq, iF_eq, iT_eq0, iF_eq0]
    · unfold f12_search; rw [e2]; simp (disch := omega) only [nI_z, zI_add, zI_sub, zI_mul, zI_m1, ckI_z, zI_clamp, Int.toNat_natCast, bnd_some, lt, rd_same, rd_ne, rdL_same, rdL_ne, wI_2, wL_1, if_true, if_false, iT_lt, iF_lt, iT_lt0, iF_lt0, iT_0lt, iF_0lt, iT_le, iF_le, iT_le0, iF_le0, iT_0le, iF_0le, iT_eq, iF_eq, iT_eq0, iF_eq0]
  · have ha := ad3_in i hi
    rcases task_cases hk y with ⟨q1, q2⟩ | ⟨j, q, hj, rfl, hj10, q1, q2, hA⟩
    · refine triv (zI (-1)) ?_ ?_
      · unfold f11_search; simp (disch := omega) only [e1, q1, ifN_some, ifN_none, ckA_in ha, nI_z, zI_add, zI_sub, zI_mul, zI_m1, ckI_z, zI_clamp, Int.toNat_natCast, bnd_some, lt, rd_same, rd_ne, rdL_same, rdL_ne, wI_2, wL_1, if_true, if_false, iT_lt, iF_lt, iT_lt0, iF_lt0, iT_0lt, iF_0lt, iT_le, iF_le, iT_le0, iF_le0, iT_0le, iF_0le, iT_eq, iF_eq, iT_eq0, iF_eq0]
      · unfold f12_search; rw [e2, bnd_some, if_neg (by decide), q2]; simp (disch := omega) only [nI_z, zI_add, zI_sub, zI_mul, zI_m1, ckI_z, zI_clamp, Int.toNat_natCast, bnd_some, lt, rd_same, rd_ne, rdL_same, rdL_ne, wI_2, wL_1, if_true, if_false, iT_lt, iF_lt, iT_lt0, iF_lt0, iT_0lt, iF_0lt, iT_le, iF_le, iT_le0, iF_le0, iT_0le, iF_0le, iT_eq, iF_eq, iT_eq0, iF_eq0]
    · have ha1 := ad1_in j hj10
      by_cases u0 : 1 ≤ u ∧ u ≤ 14
      · obtain ⟨n, rfl⟩ : ∃ b : Nat, u = b := ⟨u.toNat, by omega⟩
        obtain ⟨g1, g2, g3, g4, g5, g6, g7, g8, g9⟩ := hA
        obtain ⟨S2, K2, b, a1, a2, a3, a4, a5, a6, a7⟩ := look_ok (N := N) (a0 := 14) (n := n) (T := txt q.2.1) hv hN (by omega) (by omega : 50 ≤ 50 + 11 * i ∧ 50 + 11 * i + 10 < 116) (by omega : 116 ≤ 116 + 3 * j ∧ 116 + 3 * j < 146) (by omega) g1 g2 (txt_256 g3) g4 hc g5 g6 hK hKb
        have hfl := fin3_le hv (by omega) a2
        -- the class's end
        have s2 : Same (fun c k => mcP c k ∨ (c = 0 ∧ k = 12) ∨ (14 ≤ c ∧ c ≤ 18) ∨ (116 ≤ c ∧ c ≤ 145 ∧ ((c - 116) % 3 = 2 ∨ ((c - 116) % 3 = 0 ∧ k = 4)))) S (wI S2 0 12 (zI ((1 : Nat) : Int))) := (a7.mono (fun c k z => by
          rcases lkP_se hj10 z with z | z | z
          · exact Or.inl z
          · exact Or.inr (Or.inr (Or.inl z))
          · exact Or.inr (Or.inr (Or.inr z)))).wI (Or.inr (Or.inl ⟨rfl, rfl⟩))
        have s22 : Same (fun c k => c = 0 ∧ k = 12) S2 (wI S2 0 12 (zI ((1 : Nat) : Int))) := Same.rfl'.wI ⟨rfl, rfl⟩
        have hcl0 : f11_search N (zI i) (zI j) (zI n) S = bnd (f7_hasAnswer 14 (wI S2 0 12 (zI ((1 : Nat) : Int)))) fun q13 S14 => if q13 = 0 then some ((-2), S14) else bnd (f7_answer 14 S14) fun q16 S17 => onR q16 fun b18 => ckA ad6 b18 <| bnd (f6_become 2 b18 S17) fun q19 S20 => bnd (f7_phase 14 S20) fun q21 S22 => some (q21, S22) := by
          unfold f11_search
          rw [e1, bnd_some, q1, bnd_some, ifN_some, ckA_in ha, ifN_some, ckA_in ha1, n2, bnd_some, iF_b u0, a1, bnd_some]
          rfl
        have f2 := a2.same s22 (fun k hk => by omega) (fun k => by omega) (fun k => by omega)
        have f6 := a3.same s22 (fun k => by omega)
        have hK3 := a4.same s22 (fun c k z => by unfold mcP at z; omega)
        have e012 : (wI S2 0 12 (zI ((1 : Nat) : Int))).1 0 12 = zI ((1 : Nat) : Int) := rd_same
        have hp3 := hp.same s2 (fun c k z => by unfold prP at z; unfold mcP; omega)
        generalize wI S2 0 12 (zI ((1 : Nat) : Int)) = S3 at s2 s22 hcl0 f2 f6 hK3 e012 hp3
        have hcl : ∃ S4 r, f11_search N (zI i) (zI j) (zI n) S = some (r, S4) ∧ Same (rgP 2) S3 S4 ∧ ((b = none ∧ r = zI (-2) ∧ S4 = S3) ∨ ∃ k A e C, b = some (k, A, e, C) ∧ r = zI k ∧ PR S4 2 e.2) := by
          cases b with
          | none =>
            have h2 := f2.2
            refine ⟨S3, zI (-2), ?_, Same.rfl', Or.inl ⟨rfl, rfl, rfl⟩⟩
            rw [hcl0]
            unfold f7_hasAnswer
            rw [h2, ckB_n0, bnd_some, iT_eq0 (a := ((0 : Nat) : Int)) rfl]
            rfl
          | some w =>
            obtain ⟨k, A, e, C⟩ := w
            obtain ⟨w1, w2, w3, w4, w5, w6⟩ := f2
            obtain ⟨S4, z1, z2, z3⟩ := f6_become_ok (a0 := 2) (a1 := 17) (by omega) (by omega) w6
            refine ⟨S4, zI k, ?_, z3, Or.inr ⟨k, A, e, C, rfl, rfl, z2⟩⟩
            rw [hcl0]
            unfold f7_hasAnswer f7_answer f7_phase
            rw [w2, ckB_n1, bnd_some, iF_eq0 (by omega), bnd_some, onR_some, ckA_in ad6_17, z1, bnd_some, bnd_some, z3.i (by unfold rgP; omega), w3]
        obtain ⟨S4, r, d1, d2, d3⟩ := hcl
        have s4 : Same (fun c k => (mcP c k ∨ (c = 0 ∧ k = 12) ∨ (14 ≤ c ∧ c ≤ 18) ∨ (116 ≤ c ∧ c ≤ 145 ∧ ((c - 116) % 3 = 2 ∨ ((c - 116) % 3 = 0 ∧ k = 4)))) ∨ rgP 2 c k) S S4 := s2.trans d2
        have f2' := f2.same d2 (fun k hk => by unfold rgP; omega) (fun k => by unfold rgP; omega) (fun k => by unfold rgP; omega)
        have f6' := f6.same d2 (fun k => by unfold rgP; omega)
        have hK4 := hK3.same d2 (fun c k z => by unfold mcP at z; unfold rgP; omega)
        have e012' : S4.1 0 12 = zI ((1 : Nat) : Int) := by rw [d2.i (by unfold rgP; omega)]; exact e012
        -- the reference
        have hl4 := h.same s4 (fun c k z => by unfold laP at z; unfold mcP rgP; omega)
        have hk4 : Qtask S4 ts := hk.same s4 (fun c k z => by unfold tkP at z; unfold mcP rgP; omega)
        obtain ⟨_, hc4, hm4⟩ := hl4.2.2.2 i g hg
        have hil : i < Ls.length := (List.getElem?_eq_some_iff.mp hg).1
        have hjl : j < ts.length := (List.getElem?_eq_some_iff.mp hj).1
        have e24 := (lang_in hl4 hil).2
        have q24 := (task_in hk4 hjl).2
        obtain ⟨_, _, _, _, _, _, m7, m8, m9⟩ := hk4.2.2.2 j q hj
        obtain ⟨b2, S5, r1, r2, r3, r4⟩ := find_ok (N := N) (i := i) (jt := j) (n := n) hv hN hi (by omega) hj10 ⟨g1, g2, g3, g4⟩ hm4 ⟨m7, m8, m9⟩
        have hbb : b2 = b := (fb_eq f2' r2).symm
        subst hbb
        obtain ⟨⟨t1, t2, t3⟩, r2'⟩ := r2
        have s5 : Same (fun c k => ((mcP c k ∨ (c = 0 ∧ k = 12) ∨ (14 ≤ c ∧ c ≤ 18) ∨ (116 ≤ c ∧ c ≤ 145 ∧ ((c - 116) % 3 = 2 ∨ ((c - 116) % 3 = 0 ∧ k = 4)))) ∨ rgP 2 c k) ∨ fdP c k) S S5 := s4.trans r4
        have hv5 : V15 S → V15 S5 := fun q => r3 (q.same s4 (by unfold mcP rgP; omega))
        have hK5 := hK4.same r4 (fun c k z => by unfold mcP at z; unfold fdP fnP flP rnP wkP liP; omega)
        have c14 : ∀ k, S5.1 14 k = S4.1 14 k := fun k => r4.i (by unfold fdP fnP flP rnP wkP liP; omega)
        have c012 : S5.1 0 12 = zI ((1 : Nat) : Int) := by rw [r4.i (by unfold fdP fnP flP rnP wkP liP; omega)]; exact e012'
        have hmd0 : f12_search N (zI i) (zI j) (zI n) S4 = (if zI (fz b2) = 0 then f12_search_j78 N (zI (fz b2)) (-2) (wI (wI (wI S5 146 48 (S5.1 146 41)) 146 51 ((wI S5 146 48 (S5.1 146 41)).1 146 45)) 146 52 ((wI (wI S5 146 48 (S5.1 146 41)) 146 51 ((wI S5 146 48 (S5.1 146 41)).1 146 45)).1 146 46)) else f12_search_j78 N (zI (fz b2)) ((wI (wI (wI S5 146 48 (S5.1 146 41)) 146 51 ((wI S5 146 48 (S5.1 146 41)).1 146 45)) 146 52 ((wI (wI S5 146 48 (S5.1 146 41)) 146 51 ((wI S5 146 48 (S5.1 146 41)).1 146 45)).1 146 46)).1 146 42) (wI (wI (wI S5 146 48 (S5.1 146 41)) 146 51 ((wI S5 146 48 (S5.1 146 41)).1 146 45)) 146 52 ((wI (wI S5 146 48 (S5.1 146 41)) 146 51 ((wI S5 146 48 (S5.1 146 41)).1 146 45)).1 146 46))) := by
          unfold f12_search
          rw [e24, bnd_some, if_neg (by decide), q24, bnd_some, if_neg (by decide), k2, bnd_some, iF_b u0, r1, bnd_some]
          simp only [lt]
        have x45 : (wI S5 146 48 (S5.1 146 41)).1 146 45 = S5.1 146 45 := rd_ne (by omega)
        have x46 : ∀ v, (wI (wI S5 146 48 (S5.1 146 41)) 146 51 v).1 146 46 = S5.1 146 46 := fun v => by rw [rd_ne (by omega), rd_ne (by omega)]
        rw [x45, x46, t1, t2, t3] at hmd0
        have s6 : Same (fun c k => c = 146 ∧ 48 ≤ k ∧ k ≤ 52) S5 (wI (wI (wI S5 146 48 (zI ((fin3 g q.1 n (progs (bit g) (rkf g) n) b2).1 : Nat))) 146 51 (zI ((fin3 g q.1 n (progs (bit g) (rkf g) n) b2).2.1 : Nat))) 146 52 (zI ((fin3 g q.1 n (progs (bit g) (rkf g) n) b2).2.2 : Nat))) := (((Same.rfl' (P := fun c k => c = 146 ∧ 48 ≤ k ∧ k ≤ 52)).wI (by omega)).wI (by omega)).wI (by omega)
        have y48 : (wI (wI (wI S5 146 48 (zI ((fin3 g q.1 n (progs (bit g) (rkf g) n) b2).1 : Nat))) 146 51 (zI ((fin3 g q.1 n (progs (bit g) (rkf g) n) b2).2.1 : Nat))) 146 52 (zI ((fin3 g q.1 n (progs (bit g) (rkf g) n) b2).2.2 : Nat))).1 146 48 = zI ((fin3 g q.1 n (progs (bit g) (rkf g) n) b2).1 : Nat) := by rw [rd_ne (by omega), rd_ne (by omega), rd_same]
        have y51 : (wI (wI (wI S5 146 48 (zI ((fin3 g q.1 n (progs (bit g) (rkf g) n) b2).1 : Nat))) 146 51 (zI ((fin3 g q.1 n (progs (bit g) (rkf g) n) b2).2.1 : Nat))) 146 52 (zI ((fin3 g q.1 n (progs (bit g) (rkf g) n) b2).2.2 : Nat))).1 146 51 = zI ((fin3 g q.1 n (progs (bit g) (rkf g) n) b2).2.1 : Nat) := by rw [rd_ne (by omega), rd_same]
        have y52 : (wI (wI (wI S5 146 48 (zI ((fin3 g q.1 n (progs (bit g) (rkf g) n) b2).1 : Nat))) 146 51 (zI ((fin3 g q.1 n (progs (bit g) (rkf g) n) b2).2.1 : Nat))) 146 52 (zI ((fin3 g q.1 n (progs (bit g) (rkf g) n) b2).2.2 : Nat))).1 146 52 = zI ((fin3 g q.1 n (progs (bit g) (rkf g) n) b2).2.2 : Nat) := rd_same
        generalize wI (wI (wI S5 146 48 (zI ((fin3 g q.1 n (progs (bit g) (rkf g) n) b2).1 : Nat))) 146 51 (zI ((fin3 g q.1 n (progs (bit g) (rkf g) n) b2).2.1 : Nat))) 146 52 (zI ((fin3 g q.1 n (progs (bit g) (rkf g) n) b2).2.2 : Nat)) = S6 at hmd0 s6 y48 y51 y52
        obtain ⟨v6, v7, v8⟩ := f6'
        rw [← c14] at v6 v7 v8
        -- the reference's end
        have hmd : ∃ S7 p2, f12_search N (zI i) (zI j) (zI n) S4 = some (r, S7) ∧ Qprog S7 p2 ∧ Same (fun c k => (c = 146 ∧ 48 ≤ k ∧ k ≤ 52) ∨ loP c k) S6 S7 ∧ Qsr S7 := by
          rcases d3 with ⟨d3, d4, d5⟩ | ⟨k, A, e, C, d3, d4, d5⟩
          · subst d3
            have s67 : Same (fun c k => c = 146 ∧ 49 ≤ k ∧ k ≤ 50) S6 (wI (wI S6 146 49 (zI (-2))) 146 50 (zI (-2))) := ((Same.rfl' (P := fun c k => c = 146 ∧ 49 ≤ k ∧ k ≤ 50)).wI (by omega)).wI (by omega)
            have z47 : (wI (wI S6 146 49 (zI (-2))) 146 50 (zI (-2))).1 146 47 = zI (-2) := by rw [s67.i (by omega), s6.i (by omega)]; exact r2'.2
            have s57 : Same (fun c k => c = 146 ∧ 48 ≤ k ∧ k ≤ 52) S5 (wI (wI S6 146 49 (zI (-2))) 146 50 (zI (-2))) := s6.tr (s67.mono (fun c k z => by omega))
            refine ⟨wI (wI S6 146 49 (zI (-2))) 146 50 (zI (-2)), p, ?_, ?_, s67.mono (fun c k z => Or.inl (by omega)), ?_⟩
            · rw [hmd0, show fz none = ((0 : Nat) : Int) from rfl, iT_eq0 (a := ((0 : Nat) : Int)) rfl]
              unfold f12_search_j78 f12_search_j101 f12_search_j126 f12_search_j142
              simp only [lt]
              rw [iT_eq0 (a := ((0 : Nat) : Int)) rfl, iT_eq0 (a := ((0 : Nat) : Int)) rfl, iT_eq0 (a := ((0 : Nat) : Int)) rfl, d4]
              exact congrArg (fun v => some (v, wI (wI S6 146 49 (zI (-2))) 146 50 (zI (-2)))) z47
            · rw [d5] at r4
              exact ((hp3.same r4 (fun c k z => by unfold prP at z; unfold fdP fnP flP rnP wkP liP; omega)).same s57 (fun c k z => by unfold prP at z; omega))
            · right
              have hf0 : S5.1 14 2 = zI ((0 : Nat) : Int) := by rw [c14]; exact f2'.2
              refine ⟨by rw [s57.i (by omega)]; exact c012, _, _, _, hfl, by rw [s57.i (by omega)]; exact v6, by rw [s67.i (by omega)]; exact y48, by rw [s57.i (by omega)]; exact v7, by rw [s67.i (by omega)]; exact y51, by rw [s57.i (by omega)]; exact v8, by rw [s67.i (by omega)]; exact y52, Or.inl ⟨by rw [s57.i (by omega)]; exact hf0, by rw [rd_ne (by omega), rd_same], rd_same⟩⟩
          · subst d3
            obtain ⟨w1, w2, w3, w4, w5, w6⟩ := f2'
            obtain ⟨_, z1, z2, z3, z4⟩ := r2'
            have hL := w1.1
            have hek := w1.2.1
            have hkn := w1.2.2.1
            obtain ⟨p1, p2, p3, p4, p5⟩ := progs_wp hv hL
            have hst := (rk_steps g q.1 e k).1
            have hps := rk_pos g q.1 e k
            have hwb : (rk g q.1 e k).2.1 * 2 ^ e.1 ≤ 16384 := by
              have a := Nat.mul_le_mul_right (2 ^ e.1) hst
              rw [← Nat.pow_add, show k - e.1 + e.1 = k by omega] at a
              have b : 2 ^ k ≤ 2 ^ 14 := Nat.pow_le_pow_right (by omega) (by omega)
              omega
            have hw0 : 0 < (rk g q.1 e k).2.1 * 2 ^ e.1 := Nat.mul_pos (by omega) (Nat.two_pow_pos _)
            have h2e : 2 ^ e.1 ≤ 2 ^ 14 := Nat.pow_le_pow_right (by omega) (by omega)
            have sh1 := zI_shl (c := (rk g q.1 e k).2.1) (s := e.1) (by omega) (by omega)
            have sh2 := zI_shl (c := 1) (s := e.1) (by omega) (by omega)
            have hfx : shlI (zI ((1 : Nat) : Int)) (zI e.1) * zI (rk g q.1 e k).2.1 = zI ((rk g q.1 e k).2.1 * 2 ^ e.1 : Nat) := by
              rw [sh2, zI_mul]
              congr 1
              rw [Nat.one_mul, Int.natCast_mul, Int.mul_comm]
            have b1 : S6.1 146 42 = zI (rk g q.1 e k).2.1 := by rw [s6.i (by omega)]; exact z1
            have b2 : S6.1 146 43 = zI e.1 := by rw [s6.i (by omega)]; exact z2
            have b3 : S6.2 146 44 = lN (pack e.2) := by rw [s6.l (by omega)]; exact z3
            have b4 : S6.1 146 47 = zI k := by rw [s6.i (by omega)]; exact z4
            have b5 : S6.1 146 41 = zI ((fin3 g q.1 n (progs (bit g) (rkf g) n) (some (k, A, e, C))).1 : Nat) := by rw [s6.i (by omega)]; exact t1
            have s67 : Same (fun c k => c = 146 ∧ 49 ≤ k ∧ k ≤ 50) S6 (wI (wI S6 146 49 (zI (rk g q.1 e k).2.1)) 146 50 ((zI ((fin3 g q.1 n (progs (bit g) (rkf g) n) (some (k, A, e, C))).1 : Nat) + zI ((rk g q.1 e k).2.1 * 2 ^ e.1 : Nat) - nI 1) / zI ((rk g q.1 e k).2.1 * 2 ^ e.1 : Nat))) := ((Same.rfl' (P := fun c k => c = 146 ∧ 49 ≤ k ∧ k ≤ 50)).wI (by omega)).wI (by omega)
            have x49 : (wI (wI S6 146 49 (zI (rk g q.1 e k).2.1)) 146 50 ((zI ((fin3 g q.1 n (progs (bit g) (rkf g) n) (some (k, A, e, C))).1 : Nat) + zI ((rk g q.1 e k).2.1 * 2 ^ e.1 : Nat) - nI 1) / zI ((rk g q.1 e k).2.1 * 2 ^ e.1 : Nat))).1 146 49 = zI (rk g q.1 e k).2.1 := by rw [rd_ne (by omega), rd_same]
            have x50 : (wI (wI S6 146 49 (zI (rk g q.1 e k).2.1)) 146 50 ((zI ((fin3 g q.1 n (progs (bit g) (rkf g) n) (some (k, A, e, C))).1 : Nat) + zI ((rk g q.1 e k).2.1 * 2 ^ e.1 : Nat) - nI 1) / zI ((rk g q.1 e k).2.1 * 2 ^ e.1 : Nat))).1 146 50 = (zI ((fin3 g q.1 n (progs (bit g) (rkf g) n) (some (k, A, e, C))).1 : Nat) + zI ((rk g q.1 e k).2.1 * 2 ^ e.1 : Nat) - nI 1) / zI ((rk g q.1 e k).2.1 * 2 ^ e.1 : Nat) := rd_same
            have hst7 : f12_search N (zI i) (zI j) (zI n) S4 = bnd (f12_lookAt N (lN (pack e.2)) (wI (wI S6 146 49 (zI (rk g q.1 e k).2.1)) 146 50 ((zI ((fin3 g q.1 n (progs (bit g) (rkf g) n) (some (k, A, e, C))).1 : Nat) + zI ((rk g q.1 e k).2.1 * 2 ^ e.1 : Nat) - nI 1) / zI ((rk g q.1 e k).2.1 * 2 ^ e.1 : Nat)))) fun q3 S4 => some (S4.1 146 47, S4) := by
              rw [hmd0, show fz (some (k, A, e, C)) = ((1 : Nat) : Int) from rfl, iF_eq0 (by omega), b1]
              unfold f12_search_j78 f12_search_j101 f12_search_j126 f12_search_j142
              simp only [lt]
              have u43 : ∀ v, (wI S6 146 49 v).1 146 43 = zI e.1 := fun v => by rw [rd_ne (by omega)]; exact b2
              have u42 : ∀ v, (wI S6 146 49 v).1 146 42 = zI (rk g q.1 e k).2.1 := fun v => by rw [rd_ne (by omega)]; exact b1
              have u41 : ∀ v, (wI S6 146 49 v).1 146 41 = zI ((fin3 g q.1 n (progs (bit g) (rkf g) n) (some (k, A, e, C))).1 : Nat) := fun v => by rw [rd_ne (by omega)]; exact b5
              rw [iF_eq0 (by omega), iF_eq0 (by omega), u43, u42, nI_z 1, hfx, ckZ_ne (fun q => by have := (zI_eq0 (by omega)).mp q; omega), u41, iF_eq0 (by omega), wI_2, wI_2, b3]
            generalize wI (wI S6 146 49 (zI (rk g q.1 e k).2.1)) 146 50 ((zI ((fin3 g q.1 n (progs (bit g) (rkf g) n) (some (k, A, e, C))).1 : Nat) + zI ((rk g q.1 e k).2.1 * 2 ^ e.1 : Nat) - nI 1) / zI ((rk g q.1 e k).2.1 * 2 ^ e.1 : Nat)) = S7 at hst7 s67 x49 x50
            obtain ⟨S8, l1, l2, l3, l4⟩ := f12_lookAt_ok (N := N) (S := S7) (by omega) p3 p4 (fun x hx => by have := p3.2.1 x hx; have := hv.len; omega)
            have s58 : Same (fun c k => (c = 146 ∧ 48 ≤ k ∧ k ≤ 52) ∨ loP c k) S5 S8 := (s6.tr (s67.mono (fun c k z => by omega))).trans l4
            have s48 : Same (fun c k => fdP c k ∨ (c = 146 ∧ 48 ≤ k ∧ k ≤ 52) ∨ loP c k) S4 S8 := r4.trans s58
            refine ⟨S8, e.2, ?_, qprog_of (d5.same s48 (fun k => by unfold fdP fnP flP rnP wkP liP loP; omega) (fun k => by unfold fdP fnP flP rnP wkP liP loP; omega)) l2 l3 p3, (s67.mono (fun c k z => by omega)).trans l4, ?_⟩
            · rw [hst7, l1, bnd_some, l4.i (by unfold loP; omega), s67.i (by omega), b4, d4]
            · right
              rw [← c14] at w2 w4 w5
              refine ⟨by rw [s58.i (by unfold loP; omega)]; exact c012, _, _, _, hfl, by rw [s58.i (by unfold loP; omega)]; exact v6, by rw [l4.i (by unfold loP; omega), s67.i (by omega)]; exact y48, by rw [s58.i (by unfold loP; omega)]; exact v7, by rw [l4.i (by unfold loP; omega), s67.i (by omega)]; exact y51, by rw [s58.i (by unfold loP; omega)]; exact v8, by rw [l4.i (by unfold loP; omega), s67.i (by omega)]; exact y52, Or.inr ⟨by rw [s58.i (by unfold loP; omega)]; exact w2, (rk g q.1 e k).2.1, (rk g q.1 e k).2.1 * 2 ^ e.1, hw0, by omega, by rw [s58.i (by unfold loP; omega)]; exact w4, by rw [l4.i (by unfold loP; omega)]; exact x49, ?_, by rw [l4.i (by unfold loP; omega)]; exact x50⟩⟩
              rw [s58.i (by unfold loP; omega), s58.i (by unfold loP; omega), w4, w5]
              exact sh1
        obtain ⟨S7, p2, h1, h2, h3, h4⟩ := hmd
        refine ⟨r, S4, S7, K2, p2, d1, h1, h2, h4, (hK5.same s6 (fun c k z => by unfold mcP at z; omega)).same h3 (fun c k z => by unfold mcP at z; unfold loP; omega), a5, a6, fun z => ((hv5 z).same s6 (by omega)).same h3 (by unfold loP; omega), ((s5.mono (fun c k z => ?_)).tr (s6.mono (fun c k z => Or.inr (Or.inr (Or.inr (Or.inr (Or.inr (Or.inl z)))))))).tr (h3.mono (fun c k z => ?_))⟩
        · rcases z with ((z | z | z | z) | z) | z
          · exact Or.inl z
          · exact Or.inr (Or.inl z)
          · exact Or.inr (Or.inr (Or.inl z))
          · exact Or.inr (Or.inr (Or.inr (Or.inr (Or.inr (Or.inr z)))))
          · exact Or.inr (Or.inr (Or.inr (Or.inl (by unfold prP; unfold rgP at z; omega))))
          · exact Or.inr (Or.inr (Or.inr (Or.inr (Or.inl z))))
        · rcases z with z | z
          · exact Or.inr (Or.inr (Or.inr (Or.inr (Or.inr (Or.inl z)))))
          · exact Or.inr (Or.inr (Or.inr (Or.inl (by unfold prP; unfold loP at z; omega))))
      · refine triv (zI (-1)) ?_ ?_
        · unfold f11_search
          rw [e1, bnd_some, q1, bnd_some, ifN_some, ckA_in ha, ifN_some, ckA_in ha1, n2, bnd_some, iT_b u0]
          rfl
        · unfold f12_search
          rw [e2, bnd_some, if_neg (by decide), q2, bnd_some, if_neg (by decide), k2, bnd_some, iT_b u0]
          rfl
