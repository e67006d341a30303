/-! PURE: the class's search for the best answer so far. -/
theorem rk_less2 {g : Lg} {x k j : Nat} {e : Pg} (hk : k ≤ j) (h : (rk g x e j).2.2 ≠ 2) (hs : (rk g x e j).2.1 ≤ 2 ^ (k - e.1)) : (rk g x e k).2.2 ≠ 2 := by
  intro c
  have hp : 2 ^ (k - e.1) ≤ 2 ^ (j - e.1) := Nat.pow_le_pow_right (by omega) (by omega)
  obtain ⟨u, hu⟩ : ∃ u, 2 ^ (j - e.1) = 2 ^ (k - e.1) + u := ⟨2 ^ (j - e.1) - 2 ^ (k - e.1), by omega⟩
  have c' : (mgo (wr g e.2) (2 ^ (k - e.1)) (x, 0, 0, [], [(x, 0)]) 0).2.2 = 2 := c
  have hr : rk g x e j = mgo (wr g e.2) u (rk g x e k).1 (0 + 2 ^ (k - e.1)) := by
    unfold rk prun
    rw [hu, mgo_more, if_pos c']
  rw [Nat.zero_add] at hr
  cases u with
  | zero => exact h (by rw [hr]; rfl)
  | succ u =>
    rw [mgo_s] at hr
    by_cases q : (mstep (wr g e.2) (rk g x e k).1).2 = 2
    · rw [if_pos q] at hr
      have h2 := (mgo_steps (w := wr g e.2) u (mstep (wr g e.2) (rk g x e k).1).1 (2 ^ (k - e.1) + 1)).1
      rw [← hr] at h2
      omega
    · rw [if_neg q] at hr
      have h2 : (rk g x e j).2.1 = 2 ^ (k - e.1) + 1 := by rw [hr]
      omega
/-- the best so far: nothing, or what stands before it, it, what stands behind it -/
def Bst (g : Lg) (x : Nat) (l : List Nat) (n : Nat) (A : List Pg) (P : Nat) (b : Option (List Pg × Pg × List Pg)) : Prop := match b with
  | none => P = n + 1 ∧ ∀ f ∈ A, f.1 ≤ n → ¬ ans g x l f n
  | some (A1, e, A2) => A = A1 ++ e :: A2 ∧ e.1 ≤ P ∧ P ≤ n ∧ ans g x l e P ∧ (P = e.1 ∨ ¬ ans g x l e (P - 1)) ∧ (∀ f ∈ A1, f.1 ≤ P → ¬ ans g x l f P) ∧ ∀ f ∈ A2, f.1 ≤ P - 1 → ¬ ans g x l f (P - 1)
theorem Bst.P_le {g : Lg} {x n P : Nat} {l : List Nat} {A : List Pg} {b : Option (List Pg × Pg × List Pg)} (h : Bst g x l n A P b) : P ≤ n + 1 := by
  cases b with
  | none => have := h.1; omega
  | some q => obtain ⟨_, _, h3, _⟩ := h; omega
/-- none of those so far is an answer below the limit -/
theorem Bst.below {g : Lg} {x n P j : Nat} {l : List Nat} {A : List Pg} {b : Option (List Pg × Pg × List Pg)} (h : Bst g x l n A P b) (hj : j + 1 ≤ P) : ∀ f ∈ A, f.1 ≤ j → ¬ ans g x l f j := by
  intro f hf hfj ha
  cases b with
  | none =>
    obtain ⟨h1, h2⟩ := h
    exact h2 f hf (by omega) (ans_more (by omega) ha)
  | some q =>
    obtain ⟨h1, h2, h3, h4, h5, h6, h7⟩ := h
    rw [h1] at hf
    rcases List.mem_append.mp hf with z | z
    · exact h6 f z (by omega) (ans_more (by omega) ha)
    · rcases List.mem_cons.mp z with z | z
      · subst z
        rcases h5 with q | q
        · omega
        · exact q (ans_more (by omega) ha)
      · exact h7 f z (by omega) (ans_more (by omega) ha)
theorem Bst.no {g : Lg} {x n P : Nat} {l : List Nat} {A : List Pg} {e : Pg} {b : Option (List Pg × Pg × List Pg)} (h : Bst g x l n A P b) (ha : ¬ ans g x l e (P - 1)) : Bst g x l n (A ++ [e]) P (b.map (fun q => (q.1, q.2.1, q.2.2 ++ [e]))) := by
  cases b with
  | none =>
    obtain ⟨h1, h2⟩ := h
    refine ⟨h1, fun f hf hfn => ?_⟩
    rcases List.mem_append.mp hf with z | z
    · exact h2 f z hfn
    · rw [List.mem_singleton.mp z]
      rw [h1, Nat.add_sub_cancel] at ha
      exact ha
  | some q =>
    obtain ⟨h1, h2, h3, h4, h5, h6, h7⟩ := h
    refine ⟨by rw [h1]; simp, h2, h3, h4, h5, h6, fun f hf hfn => ?_⟩
    rcases List.mem_append.mp hf with z | z
    · exact h7 f z hfn
    · rw [List.mem_singleton.mp z]; exact ha
theorem Bst.yes {g : Lg} {x n P k : Nat} {l : List Nat} {A : List Pg} {e : Pg} {b : Option (List Pg × Pg × List Pg)} (h : Bst g x l n A P b) (he : e.1 ≤ P - 1) (hP : 1 ≤ P) (hn : n ≤ 14) (ha : ans g x l e (P - 1)) (hk : k = phs e.1 (rk g x e (P - 1)).2.1 (14 - e.1) e.1) : k + 1 ≤ P ∧ rk g x e k = rk g x e (P - 1) ∧ Bst g x l n (A ++ [e]) k (some (A, e, [])) := by
  have hPn := h.P_le
  have hst := (rk_steps g x e (P - 1)).1
  have hpw : 2 ^ (P - 1 - e.1) ≤ 2 ^ (14 - e.1) := Nat.pow_le_pow_right (by omega) (by omega)
  obtain ⟨q1, q2, q3, q4⟩ := phs_ok (s := e.1) (r := (rk g x e (P - 1)).2.1) (14 - e.1) e.1 (by rw [show e.1 + (14 - e.1) - e.1 = 14 - e.1 by omega]; omega) (Nat.le_refl _) (Or.inl rfl)
  rw [← hk] at q1 q2 q3 q4
  have hkP : k + 1 ≤ P := by
    rcases q4 with q | q
    · omega
    · rcases Nat.lt_or_ge k P with z | z
      · exact z
      · have : 2 ^ (P - 1 - e.1) ≤ 2 ^ (k - 1 - e.1) := Nat.pow_le_pow_right (by omega) (by omega)
        exact absurd (by omega) q
  have h2 : (rk g x e (P - 1)).2.2 ≠ 2 := by have := ha.1; omega
  have h3 := rk_less2 (k := k) (j := P - 1) (by omega) h2 q3
  have h4 := rk_more (k := k) (j := P - 1) (by omega) h3
  refine ⟨hkP, h4.symm, rfl, q1, by omega, by unfold ans at ha ⊢; rw [← h4]; exact ha, ?_, h.below hkP, fun f hf => by cases hf⟩
  rcases q4 with q | q
  · exact Or.inl q
  · right
    intro z
    have z2 : (rk g x e (k - 1)).2.2 ≠ 2 := by have := z.1; omega
    have h5 := rk_more (k := k - 1) (j := P - 1) (by omega) z2
    rw [h5] at q
    exact q (rk_steps g x e (k - 1)).1
theorem Bst.end_some {g : Lg} {x n P : Nat} {l : List Nat} {L A C A1 A2 : List Pg} {e : Pg} (h : Bst g x l n A P (some (A1, e, A2))) (h1 : ∀ f ∈ L, 1 ≤ f.1) (hL : L = A ++ C) (hC : ∀ f ∈ C, P - 1 < f.1) : Fnd g x l L n P A1 e (A2 ++ C) := by
  have hb : ∀ f ∈ A, f.1 ≤ P - 1 → ¬ ans g x l f (P - 1) := fun f hf hfp => by
    have hf1 := h1 f (by rw [hL]; exact List.mem_append.mpr (Or.inl hf))
    exact h.below (j := P - 1) (by omega) f hf hfp
  obtain ⟨a1, a2, a3, a4, a5, a6, a7⟩ := h
  refine ⟨by rw [hL, a1]; simp, a2, a3, a4, fun f hf hfp => ?_, a6⟩
  rw [hL] at hf
  rcases List.mem_append.mp hf with z | z
  · exact hb f z hfp
  · have := hC f z; omega
theorem Bst.end_none {g : Lg} {x n P : Nat} {l : List Nat} {L A C : List Pg} (h : Bst g x l n A P none) (hL : L = A ++ C) (hC : ∀ f ∈ C, P - 1 < f.1) : Non g x l L n := by
  obtain ⟨a1, a2⟩ := h
  intro f hf hfn
  rw [hL] at hf
  rcases List.mem_append.mp hf with z | z
  · exact a2 f z hfn
  · have := hC f z; omega
