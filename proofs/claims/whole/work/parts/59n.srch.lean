/-! PURE: the search by phases. -/
abbrev Pg : Type := Nat × List Nat
/-- a program's run in phase k -/
def rk (g : Lg) (x : Nat) (e : Pg) (k : Nat) : Mc × Nat × Nat := prun g e.2 x (2 ^ (k - e.1))
def psd (x : Nat) (l : List Nat) (m : Mc) : Prop := m.2.2.2.1 ≠ [] ∧ ev (vn m x) l [] ≠ [zI 0]
/-- it is an answer in phase k -/
def ans (g : Lg) (x : Nat) (l : List Nat) (e : Pg) (k : Nat) : Prop := (rk g x e k).2.2 = 0 ∧ psd x l (rk g x e k).1
theorem rk_steps (g : Lg) (x : Nat) (e : Pg) (k : Nat) : (rk g x e k).2.1 ≤ 2 ^ (k - e.1) ∧ ((rk g x e k).2.2 = 2 → (rk g x e k).2.1 = 2 ^ (k - e.1)) := by
  obtain ⟨h1, h2, h3⟩ := mgo_steps (w := wr g e.2) (2 ^ (k - e.1)) (x, 0, 0, [], [(x, 0)]) 0
  rw [Nat.zero_add] at h2 h3
  exact ⟨h2, h3⟩
/-- what is over stays so -/
theorem rk_more {g : Lg} {x k j : Nat} {e : Pg} (hk : k ≤ j) (h : (rk g x e k).2.2 ≠ 2) : rk g x e j = rk g x e k := by
  have hp : 2 ^ (k - e.1) ≤ 2 ^ (j - e.1) := Nat.pow_le_pow_right (by omega) (by omega)
  obtain ⟨u, hu⟩ : ∃ u, 2 ^ (j - e.1) = 2 ^ (k - e.1) + u := ⟨2 ^ (j - e.1) - 2 ^ (k - e.1), by omega⟩
  have h' : (mgo (wr g e.2) (2 ^ (k - e.1)) (x, 0, 0, [], [(x, 0)]) 0).2.2 ≠ 2 := h
  unfold rk prun
  rw [hu, mgo_more, if_neg h']
theorem ans_more {g : Lg} {x k j : Nat} {l : List Nat} {e : Pg} (hk : k ≤ j) (h : ans g x l e k) : ans g x l e j := by
  unfold ans at h ⊢
  rw [rk_more hk (by omega)]
  exact h
/-- fewer steps suffice where they were enough -/
theorem rk_less {g : Lg} {x k j : Nat} {e : Pg} (hk : k ≤ j) (h : (rk g x e j).2.2 ≠ 2) (hs : (rk g x e j).2.1 ≤ 2 ^ (k - e.1)) : (rk g x e k).2.2 ≠ 2 ∨ (rk g x e k).2.1 = (rk g x e j).2.1 := by
  by_cases c : (rk g x e k).2.2 = 2
  · right
    have h1 := (rk_steps g x e k).2 c
    have hp : 2 ^ (k - e.1) ≤ 2 ^ (j - e.1) := Nat.pow_le_pow_right (by omega) (by omega)
    obtain ⟨u, hu⟩ : ∃ u, 2 ^ (j - e.1) = 2 ^ (k - e.1) + u := ⟨2 ^ (j - e.1) - 2 ^ (k - e.1), by omega⟩
    have c' : (mgo (wr g e.2) (2 ^ (k - e.1)) (x, 0, 0, [], [(x, 0)]) 0).2.2 = 2 := c
    have hr : rk g x e j = mgo (wr g e.2) u (rk g x e k).1 (0 + 2 ^ (k - e.1)) := by
      unfold rk prun
      rw [hu, mgo_more, if_pos c']
    have h2 := (mgo_steps (w := wr g e.2) u (rk g x e k).1 (0 + 2 ^ (k - e.1))).1
    rw [← hr, Nat.zero_add] at h2
    omega
  · exact Or.inl c
/-- the first answer: the phase, what stands before it, it, what stands behind it -/
def Fnd (g : Lg) (x : Nat) (l : List Nat) (L : List Pg) (n k : Nat) (A : List Pg) (e : Pg) (C : List Pg) : Prop := L = A ++ e :: C ∧ e.1 ≤ k ∧ k ≤ n ∧ ans g x l e k ∧ (∀ f ∈ L, f.1 ≤ k - 1 → ¬ ans g x l f (k - 1)) ∧ ∀ f ∈ A, f.1 ≤ k → ¬ ans g x l f k
def Non (g : Lg) (x : Nat) (l : List Nat) (L : List Pg) (n : Nat) : Prop := ∀ f ∈ L, f.1 ≤ n → ¬ ans g x l f n
theorem Fnd.not_non {g : Lg} {x n k : Nat} {l : List Nat} {L A C : List Pg} {e : Pg} (h : Fnd g x l L n k A e C) (hn : Non g x l L n) : False := by
  obtain ⟨h1, h2, h3, h4, _, _⟩ := h
  exact hn e (by rw [h1]; exact List.mem_append.mpr (Or.inr List.mem_cons_self)) (by omega) (ans_more h3 h4)
theorem split_first {P : Pg → Prop} : ∀ {A1 A2 C1 C2 : List Pg} {e1 e2 : Pg}, A1 ++ e1 :: C1 = A2 ++ e2 :: C2 → P e1 → P e2 → (∀ f ∈ A1, ¬ P f) → (∀ f ∈ A2, ¬ P f) → A1 = A2 ∧ e1 = e2 ∧ C1 = C2
  | [], [], C1, C2, e1, e2, h, _, _, _, _ => by
    injection h with h1 h2
    exact ⟨rfl, h1, h2⟩
  | [], b :: A2, C1, C2, e1, e2, h, p1, _, _, n2 => by
    injection h with h1 h2
    exact absurd (h1 ▸ p1) (n2 b List.mem_cons_self)
  | a :: A1, [], C1, C2, e1, e2, h, _, p2, n1, _ => by
    injection h with h1 h2
    exact absurd (h1 ▸ p2) (n1 a List.mem_cons_self)
  | a :: A1, b :: A2, C1, C2, e1, e2, h, p1, p2, n1, n2 => by
    injection h with h1 h2
    obtain ⟨q1, q2, q3⟩ := split_first h2 p1 p2 (fun f hf => n1 f (List.mem_cons_of_mem _ hf)) (fun f hf => n2 f (List.mem_cons_of_mem _ hf))
    exact ⟨by rw [h1, q1], q2, q3⟩
theorem Fnd.uniq {g : Lg} {x n k j : Nat} {l : List Nat} {L A C A2 C2 : List Pg} {e e2 : Pg} (h : Fnd g x l L n k A e C) (h2 : Fnd g x l L n j A2 e2 C2) : k = j ∧ A = A2 ∧ e = e2 ∧ C = C2 := by
  have key : ∀ {k j : Nat} {A C A2 C2 : List Pg} {e e2 : Pg}, Fnd g x l L n k A e C → Fnd g x l L n j A2 e2 C2 → ¬ k < j := fun {k j A C A2 C2 e e2} h h2 hlt => by
    obtain ⟨a1, a2, a3, a4, a5, a6⟩ := h
    obtain ⟨b1, b2, b3, b4, b5, b6⟩ := h2
    exact b5 e (by rw [a1]; exact List.mem_append.mpr (Or.inr List.mem_cons_self)) (by omega) (ans_more (by omega) a4)
  have e1 := key h h2
  have e3 := key h2 h
  obtain rfl : k = j := by omega
  obtain ⟨a1, a2, a3, a4, a5, a6⟩ := h
  obtain ⟨b1, b2, b3, b4, b5, b6⟩ := h2
  exact ⟨rfl, split_first (P := fun f => f.1 ≤ k ∧ ans g x l f k) (a1.symm.trans b1) ⟨a2, a4⟩ ⟨b2, b4⟩ (fun f hf q => a6 f hf q.1 q.2) (fun f hf q => b6 f hf q.1 q.2)⟩
/-- what a program has come to by the end of phase k: steps, begun, hangs -/
def tot (g : Lg) (x k : Nat) (e : Pg) : Nat × Nat × Nat := if e.1 ≤ k then ((rk g x e k).2.1, 1, if (rk g x e k).2.2 = 1 then 1 else 0) else (0, 0, 0)
def tots (g : Lg) (x k : Nat) : List Pg → Nat × Nat × Nat
  | [] => (0, 0, 0)
  | e :: L => ((tot g x k e).1 + (tots g x k L).1, (tot g x k e).2.1 + (tots g x k L).2.1, (tot g x k e).2.2 + (tots g x k L).2.2)
theorem tots_app (g : Lg) (x k : Nat) : ∀ (A B : List Pg), tots g x k (A ++ B) = ((tots g x k A).1 + (tots g x k B).1, (tots g x k A).2.1 + (tots g x k B).2.1, (tots g x k A).2.2 + (tots g x k B).2.2)
  | [], B => by
    show tots g x k B = (0 + _, 0 + _, 0 + _)
    rw [Nat.zero_add, Nat.zero_add, Nat.zero_add]
  | e :: A, B => by
    show ((tot g x k e).1 + (tots g x k (A ++ B)).1, (tot g x k e).2.1 + (tots g x k (A ++ B)).2.1, (tot g x k e).2.2 + (tots g x k (A ++ B)).2.2) = ((tot g x k e).1 + (tots g x k A).1 + _, (tot g x k e).2.1 + (tots g x k A).2.1 + _, (tot g x k e).2.2 + (tots g x k A).2.2 + _)
    rw [tots_app g x k A B, Nat.add_assoc, Nat.add_assoc, Nat.add_assoc]
/-- over by the end of phase k -/
def ovr (g : Lg) (x k : Nat) (e : Pg) : Prop := e.1 ≤ k ∧ (rk g x e k).2.2 ≠ 2
/-- phase k adds nothing to what was over -/
theorem tot_over {g : Lg} {x k : Nat} {e : Pg} (h : ovr g x (k - 1) e) : tot g x k e = tot g x (k - 1) e ∧ ovr g x k e := by
  obtain ⟨h1, h2⟩ := h
  have hr := rk_more (g := g) (x := x) (e := e) (k := k - 1) (j := k) (by omega) h2
  refine ⟨?_, by omega, by rw [hr]; exact h2⟩
  unfold tot
  rw [if_pos (show e.1 ≤ k by omega), if_pos h1, hr]
/-- what phase k adds to what was not -/
theorem tot_step {g : Lg} {x k : Nat} {e : Pg} (h1 : 1 ≤ e.1) (hk : e.1 ≤ k) (h : ¬ ovr g x (k - 1) e) : (tot g x (k - 1) e).1 ≤ (rk g x e k).2.1 ∧ (tot g x (k - 1) e).1 = (if k ≤ e.1 then 0 else 2 ^ (k - e.1) / 2) ∧ tot g x k e = ((rk g x e k).2.1, (tot g x (k - 1) e).2.1 + (if k ≤ e.1 then 1 else 0), (tot g x (k - 1) e).2.2 + (if (rk g x e k).2.2 = 1 then 1 else 0)) := by
  have ht : tot g x k e = ((rk g x e k).2.1, 1, if (rk g x e k).2.2 = 1 then 1 else 0) := by unfold tot; rw [if_pos hk]
  by_cases c : k ≤ e.1
  · have h0 : tot g x (k - 1) e = (0, 0, 0) := by unfold tot; rw [if_neg (by omega)]
    rw [ht, h0, if_pos c, if_pos c]
    refine ⟨Nat.zero_le _, rfl, ?_⟩
    rw [Nat.zero_add, Nat.zero_add]
  · have h2 : (rk g x e (k - 1)).2.2 = 2 := by
      by_cases q : (rk g x e (k - 1)).2.2 = 2
      · exact q
      · exact absurd ⟨by omega, q⟩ h
    have h0 : tot g x (k - 1) e = (2 ^ (k - 1 - e.1), 1, 0) := by
      unfold tot
      rw [if_pos (by omega), (rk_steps g x e (k - 1)).2 h2, h2]
      rfl
    have hp : 2 ^ (k - e.1) = 2 ^ (k - 1 - e.1) * 2 := by
      rw [← Nat.pow_succ]
      congr 1
      omega
    have hle : 2 ^ (k - 1 - e.1) ≤ (rk g x e k).2.1 := by
      have hu : 2 ^ (k - e.1) = 2 ^ (k - 1 - e.1) + 2 ^ (k - 1 - e.1) := by omega
      have c' : (mgo (wr g e.2) (2 ^ (k - 1 - e.1)) (x, 0, 0, [], [(x, 0)]) 0).2.2 = 2 := h2
      have hr : rk g x e k = mgo (wr g e.2) (2 ^ (k - 1 - e.1)) (rk g x e (k - 1)).1 (0 + 2 ^ (k - 1 - e.1)) := by
        show mgo (wr g e.2) (2 ^ (k - e.1)) (x, 0, 0, [], [(x, 0)]) 0 = _
        rw [hu, mgo_more, if_pos c']
        rfl
      have h3 := (mgo_steps (w := wr g e.2) (2 ^ (k - 1 - e.1)) (rk g x e (k - 1)).1 (0 + 2 ^ (k - 1 - e.1))).1
      rw [← hr, Nat.zero_add] at h3
      exact h3
    rw [ht, h0, if_neg c, if_neg c]
    refine ⟨hle, by omega, ?_⟩
    rw [Nat.add_zero, Nat.zero_add]
