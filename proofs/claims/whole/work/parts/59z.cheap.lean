/-! The call cheaper. -/
def chP (c k : Nat) : Prop := mcP c k ∨ (19 ≤ c ∧ c ≤ 23) ∨ fdP c k ∨ (116 ≤ c ∧ c ≤ 145 ∧ ((c - 116) % 3 = 2 ∨ ((c - 116) % 3 = 0 ∧ k = 4)))
def chcP (c k : Nat) : Prop := mcP c k ∨ (19 ≤ c ∧ c ≤ 23) ∨ (116 ≤ c ∧ c ≤ 145 ∧ ((c - 116) % 3 = 2 ∨ ((c - 116) % 3 = 0 ∧ k = 4)))
theorem lkP_ch {j c k : Nat} (hj : j < 10) (h : lkP 19 (116 + 3 * j) c k) : chcP c k := by
  unfold lkP saP auP skP at h
  unfold chcP
  by_cases m : mcP c k
  · exact Or.inl m
  · right
    rcases h with (z | z | z | z) | (z | z | z)
    · exact absurd z m
    · left; omega
    · left; omega
    · right; omega
    · exact absurd z m
    · left; omega
    · left; omega
theorem has_fz {S : St} {x n : Nat} {g : Lg} {l : List Nat} {b : Fb} (h : FA S 19 g x n l b) : f7_hasAnswer 19 S = some (zI (fz b), S) := by
  unfold f7_hasAnswer
  cases b with
  | none => rw [h.2, ckB_n0]; rfl
  | some q =>
    obtain ⟨k, A, e, C⟩ := q
    rw [h.2.1, ckB_n1]
    rfl
theorem fz_01 (b : Fb) : (b = none ∧ fz b = ((0 : Nat) : Int)) ∨ (b ≠ none ∧ fz b = ((1 : Nat) : Int)) := by
  cases b with
  | none => exact Or.inl ⟨rfl, rfl⟩
  | some q => exact Or.inr ⟨by simp, rfl⟩
theorem c_cheaper {N K : Nat} {S : St} {Ls : List Lg} {ts : List (Nat × List Nat × List Nat)} (hN : 100000 ≤ N) (h : Qlang S Ls) (hk : Qtask S ts) (hK : CMq S K) (hKb : K + 1000000 < 2147483648) (x x' y t : Int32) : ∃ r S1 S2 K2, f11_cheaper N x x' y t S = some (r, S1) ∧ f12_cheaper N x x' y t S1 = some (r, S2) ∧ CMq S2 K2 ∧ K ≤ K2 ∧ K2 ≤ K + 589824 ∧ (V15 S → V15 S2) ∧ Same chP S S2 := by
  have triv : ∀ r, f11_cheaper N x x' y t S = some (r, S) → f12_cheaper N x x' y t S = some (r, S) → ∃ r S1 S2 K2, f11_cheaper N x x' y t S = some (r, S1) ∧ f12_cheaper N x x' y t S1 = some (r, S2) ∧ CMq S2 K2 ∧ K ≤ K2 ∧ K2 ≤ K + 589824 ∧ (V15 S → V15 S2) ∧ Same chP S S2 := fun r a b => ⟨r, S, S, K, a, b, hK, by omega, by omega, fun q => q, Same.rfl'⟩
  have ht := xrng t
  rw [zI_of t] at triv ⊢
  generalize t.toInt = u at ht triv
  have n2 := fun S => isPh u S ht
  have k2 := fun S => isPh_m u S ht
  rcases lang_cases h x with ⟨e1, e2⟩ | ⟨i, g, hg, rfl, hi, e1, e2, hv, hc, hm⟩
  · refine triv (zI (-2000000000)) ?_ ?_
    · unfold f11_cheaper
      rcases lang_cases h x' with ⟨e1', e2'⟩ | ⟨i', g', hg', rfl, hi', e1', e2', hv', hc', hm'⟩
      · rcases task_cases hk y with ⟨q1, q2⟩ | ⟨j, q, hj, rfl, hj10, q1, q2, hA⟩
        · rw [e1, bnd_some, e1', bnd_some, q1]; rfl
        · rw [e1, bnd_some, e1', bnd_some, q1]; rfl
      · rcases task_cases hk y with ⟨q1, q2⟩ | ⟨j, q, hj, rfl, hj10, q1, q2, hA⟩
        · rw [e1, bnd_some, e1', bnd_some, q1]; rfl
        · rw [e1, bnd_some, e1', bnd_some, q1]; rfl
    · unfold f12_cheaper; rw [e2]; rfl
  · have ha := ad3_in i hi
    rcases lang_cases h x' with ⟨e1', e2'⟩ | ⟨i', g', hg', rfl, hi', e1', e2', hv', hc', hm'⟩
    · refine triv (zI (-2000000000)) ?_ ?_
      · unfold f11_cheaper
        rcases task_cases hk y with ⟨q1, q2⟩ | ⟨j, q, hj, rfl, hj10, q1, q2, hA⟩
        · rw [e1, bnd_some, e1', bnd_some, q1, bnd_some, ifN_some, ckA_in ha]; rfl
        · rw [e1, bnd_some, e1', bnd_some, q1, bnd_some, ifN_some, ckA_in ha]; rfl
      · unfold f12_cheaper; rw [e2, bnd_some, if_neg (by decide), e2']; rfl
    · have ha' := ad3_in i' hi'
      rcases task_cases hk y with ⟨q1, q2⟩ | ⟨j, q, hj, rfl, hj10, q1, q2, hA⟩
      · refine triv (zI (-2000000000)) ?_ ?_
        · unfold f11_cheaper; rw [e1, bnd_some, e1', bnd_some, q1, bnd_some, ifN_some, ckA_in ha, ifN_some, ckA_in ha']; rfl
        · unfold f12_cheaper; rw [e2, bnd_some, if_neg (by decide), e2', bnd_some, if_neg (by decide), q2]; rfl
      · have ha1 := ad1_in j hj10
        by_cases u0 : 1 ≤ u ∧ u ≤ 14
        · obtain ⟨n, rfl⟩ : ∃ b : Nat, u = b := ⟨u.toNat, by omega⟩
          obtain ⟨g1, g2, g3, g4, g5, g6, g7, g8, g9⟩ := hA
          -- the class's first look
          obtain ⟨S2, K2, b, a1, a2, a3, a4, a5, a6, a7⟩ := look_ok (N := N) (a0 := 19) (n := n) (T := txt q.2.1) hv hN (by omega) (by omega : 50 ≤ 50 + 11 * i ∧ 50 + 11 * i + 10 < 116) (by omega : 116 ≤ 116 + 3 * j ∧ 116 + 3 * j < 146) (by omega) g1 g2 (txt_256 g3) g4 hc g5 g6 hK (by omega)
          have s2 : Same chcP S S2 := a7.mono (fun c k z => lkP_ch hj10 z)
          have hh := has_fz a2
          have hcl0 : f11_cheaper N (zI i) (zI i') (zI j) (zI n) S = if zI (fz b) = 0 then some ((-2000000000), S2) else bnd (f7_sum 19 S2) fun q18 S19 => bnd (f7_look N 19 (50 + 11 * i') (116 + 3 * j) (zI n) S19) fun q20 S21 => bnd (f7_hasAnswer 19 S21) fun q22 S23 => if q22 = 0 then some ((-2000000000), S23) else bnd (f7_sum 19 S23) fun q25 S26 => some (q18 - q25, S26) := by
            unfold f11_cheaper
            rw [e1, bnd_some, e1', bnd_some, q1, bnd_some, ifN_some, ckA_in ha, ifN_some, ckA_in ha', ifN_some, ckA_in ha1, n2, bnd_some, iF_b u0, a1, bnd_some, hh, bnd_some]
          -- the reference behind the class's looks
          have refe : ∀ S4, Same chcP S S4 → ∃ S5, ∃ bb : Fb, f12_cheaper N (zI i) (zI i') (zI j) (zI n) S4 = (if zI (fz bb) = 0 then some ((-2000000000), S5) else bnd (f12_find N (zI i') (zI j) (zI n) S5) fun q17 S18 => if q17 = 0 then some ((-2000000000), S18) else some (S5.1 146 41 - S18.1 146 41, S18)) ∧ FB S5 g q.1 n q.2.2 bb ∧ (V15 S4 → V15 S5) ∧ Same fdP S4 S5 := fun S4 s4 => by
            have hl4 := h.same s4 (fun c k z => by unfold laP at z; unfold chcP mcP; omega)
            have hk4 : Qtask S4 ts := hk.same s4 (fun c k z => by unfold tkP at z; unfold chcP mcP; omega)
            obtain ⟨_, hc4, hm4⟩ := hl4.2.2.2 i g hg
            have hil : i < Ls.length := (List.getElem?_eq_some_iff.mp hg).1
            have hil' : i' < Ls.length := (List.getElem?_eq_some_iff.mp hg').1
            have hjl : j < ts.length := (List.getElem?_eq_some_iff.mp hj).1
            have e24 := (lang_in hl4 hil).2
            have e24' := (lang_in hl4 hil').2
            have q24 := (task_in hk4 hjl).2
            obtain ⟨_, _, _, _, _, _, m7, m8, m9⟩ := hk4.2.2.2 j q hj
            obtain ⟨b2, S5, r1, r2, r3, r4⟩ := find_ok (N := N) (i := i) (jt := j) (n := n) hv hN hi (by omega) hj10 ⟨g1, g2, g3, g4⟩ hm4 ⟨m7, m8, m9⟩
            refine ⟨S5, b2, ?_, r2, r3, r4⟩
            unfold f12_cheaper
            rw [e24, bnd_some, if_neg (by decide), e24', bnd_some, if_neg (by decide), q24, bnd_some, if_neg (by decide), k2, bnd_some, iF_b u0, r1, bnd_some]
            rfl
          rcases fz_01 b with ⟨b0, bz⟩ | ⟨b0, bz⟩
          · obtain ⟨S5, bb, r1, r2, r3, r4⟩ := refe S2 s2
            have hbb := fb_eq a2 r2
            rw [← hbb, bz, iT_eq0 (a := ((0 : Nat) : Int)) rfl] at r1
            rw [bz, iT_eq0 (a := ((0 : Nat) : Int)) rfl] at hcl0
            refine ⟨-2000000000, S2, S5, K2, hcl0, r1, a4.same r4 (fun c k z => by unfold mcP at z; unfold fdP fnP flP rnP wkP liP; omega), a5, by omega, fun z => r3 (z.same s2 (by unfold chcP mcP; omega)), (s2.mono (fun c k z => ?_)).tr (r4.mono (fun c k z => Or.inr (Or.inr (Or.inl z))))⟩
            rcases z with z | z | z
            · exact Or.inl z
            · exact Or.inr (Or.inl z)
            · exact Or.inr (Or.inr (Or.inr z))
          · -- the class's second look
            rw [bz, iF_eq0 (by omega)] at hcl0
            unfold f7_sum at hcl0
            rw [bnd_some, a3.1] at hcl0
            have hl2 := h.same s2 (fun c k z => by unfold laP at z; unfold chcP mcP; omega)
            obtain ⟨_, hc2', _⟩ := hl2.2.2.2 i' g' hg'
            have g52 : AK S2 (116 + 3 * j) q.2.2 := g5.same a7 (by unfold lkP saP auP mcP skP; omega) (fun k => by unfold lkP saP auP mcP skP; omega)
            have g62 : S2.1 (116 + 3 * j) 2 = zI q.1 := by rw [a7.i (by unfold lkP saP auP mcP skP; omega)]; exact g6
            obtain ⟨S3, K3, b', a1', a2', a3', a4', a5', a6', a7'⟩ := look_ok (N := N) (a0 := 19) (n := n) (T := txt q.2.1) hv' hN (by omega) (by omega : 50 ≤ 50 + 11 * i' ∧ 50 + 11 * i' + 10 < 116) (by omega : 116 ≤ 116 + 3 * j ∧ 116 + 3 * j < 146) (by omega) g1 g2 (txt_256 g3) g4 hc2' g52 g62 a4 (by omega)
            have s3 : Same chcP S S3 := s2.tr (a7'.mono (fun c k z => lkP_ch hj10 z))
            have hh' := has_fz a2'
            rw [a1', bnd_some, hh', bnd_some] at hcl0
            obtain ⟨S5, bb, r1, r2, r3, r4⟩ := refe S3 s3
            have hbb := fb_eq a2 r2
            subst hbb
            rw [bz, iF_eq0 (by omega), r2.1.1] at r1
            have hl3 := h.same s3 (fun c k z => by unfold laP at z; unfold chcP mcP; omega)
            have hk3 : Qtask S3 ts := hk.same s3 (fun c k z => by unfold tkP at z; unfold chcP mcP; omega)
            have hl5 := hl3.same r4 (fun c k z => by unfold laP at z; unfold fdP fnP flP rnP wkP liP; omega)
            have hk5 : Qtask S5 ts := hk3.same r4 (fun c k z => by unfold tkP at z; unfold fdP fnP flP rnP wkP liP; omega)
            obtain ⟨_, _, hm5⟩ := hl5.2.2.2 i' g' hg'
            obtain ⟨_, _, _, _, _, _, m7, m8, m9⟩ := hk5.2.2.2 j q hj
            obtain ⟨b2, S6, t1, t2, t3, t4⟩ := find_ok (N := N) (i := i') (jt := j) (n := n) hv' hN hi' (by omega) hj10 ⟨g1, g2, g3, g4⟩ hm5 ⟨m7, m8, m9⟩
            have hbb' := fb_eq a2' t2
            subst hbb'
            rw [t1, bnd_some] at r1
            have s36 : Same fdP S3 S6 := r4.tr t4
            have hK6 := a4'.same s36 (fun c k z => by unfold mcP at z; unfold fdP fnP flP rnP wkP liP; omega)
            have hv6 : V15 S → V15 S6 := fun z => t3 (r3 (z.same s3 (by unfold chcP mcP; omega)))
            have hfr : Same chP S S6 := (s3.mono (fun c k z => by
              rcases z with z | z | z
              · exact Or.inl z
              · exact Or.inr (Or.inl z)
              · exact Or.inr (Or.inr (Or.inr z)))).tr (s36.mono (fun c k z => Or.inr (Or.inr (Or.inl z))))
            rcases fz_01 b' with ⟨b0', bz'⟩ | ⟨b0', bz'⟩
            · rw [bz', iT_eq0 (a := ((0 : Nat) : Int)) rfl] at r1 hcl0
              exact ⟨-2000000000, S3, S6, K3, hcl0, r1, hK6, by omega, by omega, hv6, hfr⟩
            · rw [bz', iF_eq0 (by omega)] at r1 hcl0
              rw [t2.1.1] at r1
              rw [bnd_some, a3'.1] at hcl0
              exact ⟨_, S3, S6, K3, hcl0, r1, hK6, by omega, by omega, hv6, hfr⟩
        · refine triv (zI (-2000000000)) ?_ ?_
          · unfold f11_cheaper
            rw [e1, bnd_some, e1', bnd_some, q1, bnd_some, ifN_some, ckA_in ha, ifN_some, ckA_in ha', ifN_some, ckA_in ha1, n2, bnd_some, iT_b u0]
            rfl
          · unfold f12_cheaper
            rw [e2, bnd_some, if_neg (by decide), e2', bnd_some, if_neg (by decide), q2, bnd_some, if_neg (by decide), k2, bnd_some, iT_b u0]
            rfl
