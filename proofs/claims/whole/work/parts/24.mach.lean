/-! PURE: the machine. A state: a, b, the place, what was printed, the pairs at the first order since the latest print. -/
abbrev Mc : Type := Nat × Nat × Nat × List Nat × List (Nat × Nat)
/-- an order is done: the state, and 0 ended, 1 hangs, 2 goes on -/
def mact (o : Nat) (m : Mc) : Mc × Nat :=
  if o = 0 then ((m.1, m.2.1, m.2.2.1 + 1, m.2.2.2.1, m.2.2.2.2), 0)
  else if o = 1 then (((m.1 + 1) % 1000, m.2.1, m.2.2.1 + 1, m.2.2.2.1, m.2.2.2.2), 2)
  else if o = 2 then ((m.1 * 2 % 1000, m.2.1, m.2.2.1 + 1, m.2.2.2.1, m.2.2.2.2), 2)
  else if o = 3 then (if m.2.2.2.1.length = 8 then ((m.1, m.2.1, m.2.2.1 + 1, m.2.2.2.1, m.2.2.2.2), 0) else ((m.1, m.2.1, m.2.2.1 + 1, m.2.2.2.1 ++ [m.1], []), 2))
  else if o = 4 then ((m.2.1, m.1, m.2.2.1 + 1, m.2.2.2.1, m.2.2.2.2), 2)
  else if o = 5 then (((m.1 + m.2.1) % 1000, m.2.1, m.2.2.1 + 1, m.2.2.2.1, m.2.2.2.2), 2)
  else if o = 6 then (if m.1 < 20 then ((m.1, m.2.1, 0, m.2.2.2.1, (m.1, m.2.1) :: m.2.2.2.2), if (m.1, m.2.1) ∈ m.2.2.2.2 then 1 else 2) else ((m.1, m.2.1, m.2.2.1 + 1, m.2.2.2.1, m.2.2.2.2), 2))
  else ((m.1, m.2.1, m.2.2.1 + 1 + m.1 % 2, m.2.2.2.1, m.2.2.2.2), 2)
def mstep (w : List Nat) (m : Mc) : Mc × Nat := ((mact (w.getD m.2.2.1 0) m).1, if (mact (w.getD m.2.2.1 0) m).2 = 2 ∧ w.length ≤ (mact (w.getD m.2.2.1 0) m).1.2.2.1 then 0 else (mact (w.getD m.2.2.1 0) m).2)
/-- t steps more at most: the state, the steps, how it stands -/
def mgo (w : List Nat) : Nat → Mc → Nat → Mc × Nat × Nat
  | 0, m, s => (m, s, 2)
  | t + 1, m, s => if (mstep w m).2 = 2 then mgo w t (mstep w m).1 (s + 1) else ((mstep w m).1, s + 1, (mstep w m).2)
def wo (g : Lg) (o : Nat) : List Nat := if o < 8 then [o] else g.2.getD (o - 8) []
/-- a program written out -/
def wr (g : Lg) (p : List Nat) : List Nat := p.flatMap (wo g)
def prun (g : Lg) (p : List Nat) (x t : Nat) : Mc × Nat × Nat := mgo (wr g p) t (x, 0, 0, [], [(x, 0)]) 0
def MIq (m : Mc) : Prop := m.1 < 1000 ∧ m.2.1 < 1000 ∧ m.2.2.2.1.length ≤ 8 ∧ ∀ x ∈ m.2.2.2.1, x < 1000
theorem mact_MI {o : Nat} {m : Mc} (h : MIq m) : MIq (mact o m).1 ∧ (mact o m).2 ≤ 2 ∧ (mact o m).1.2.2.1 ≤ m.2.2.1 + 2 := by
  obtain ⟨h1, h2, h3, h4⟩ := h
  unfold mact MIq
  by_cases e0 : o = 0
  · simp only [if_pos e0]; exact ⟨⟨h1, h2, h3, h4⟩, by omega, by omega⟩
  by_cases e1 : o = 1
  · simp only [if_neg e0, if_pos e1]; exact ⟨⟨by omega, h2, h3, h4⟩, by omega, by omega⟩
  by_cases e2 : o = 2
  · simp only [if_neg e0, if_neg e1, if_pos e2]; exact ⟨⟨by omega, h2, h3, h4⟩, by omega, by omega⟩
  by_cases e3 : o = 3
  · simp only [if_neg e0, if_neg e1, if_neg e2, if_pos e3]
    by_cases e : m.2.2.2.1.length = 8
    · simp only [if_pos e]; exact ⟨⟨h1, h2, h3, h4⟩, by omega, by omega⟩
    · simp only [if_neg e]
      refine ⟨⟨h1, h2, by rw [List.length_append, List.length_singleton]; omega, fun x hx => ?_⟩, by omega, by omega⟩
      rcases List.mem_append.mp hx with q | q
      · exact h4 x q
      · rw [List.mem_singleton.mp q]; exact h1
  by_cases e4 : o = 4
  · simp only [if_neg e0, if_neg e1, if_neg e2, if_neg e3, if_pos e4]; exact ⟨⟨h2, h1, h3, h4⟩, by omega, by omega⟩
  by_cases e5 : o = 5
  · simp only [if_neg e0, if_neg e1, if_neg e2, if_neg e3, if_neg e4, if_pos e5]; exact ⟨⟨by omega, h2, h3, h4⟩, by omega, by omega⟩
  by_cases e6 : o = 6
  · simp only [if_neg e0, if_neg e1, if_neg e2, if_neg e3, if_neg e4, if_neg e5, if_pos e6]
    by_cases e : m.1 < 20
    · simp only [if_pos e]
      refine ⟨⟨h1, h2, h3, h4⟩, ?_, by omega⟩
      by_cases q : (m.1, m.2.1) ∈ m.2.2.2.2
      · rw [if_pos q]; omega
      · rw [if_neg q]; omega
    · simp only [if_neg e]; exact ⟨⟨h1, h2, h3, h4⟩, by omega, by omega⟩
  · simp only [if_neg e0, if_neg e1, if_neg e2, if_neg e3, if_neg e4, if_neg e5, if_neg e6]; exact ⟨⟨h1, h2, h3, h4⟩, by omega, by omega⟩
theorem mstep_MI {w : List Nat} {m : Mc} (h : MIq m) : MIq (mstep w m).1 ∧ (mstep w m).2 ≤ 2 ∧ ((mstep w m).2 = 2 → (mstep w m).1.2.2.1 < w.length) ∧ (mstep w m).1.2.2.1 ≤ m.2.2.1 + 2 := by
  have q := mact_MI (o := w.getD m.2.2.1 0) h
  unfold mstep
  refine ⟨q.1, ?_, fun e => ?_, q.2.2⟩
  · show (if _ then 0 else _) ≤ 2
    split
    · omega
    · exact q.2.1
  · have e : (if (mact (w.getD m.2.2.1 0) m).2 = 2 ∧ w.length ≤ (mact (w.getD m.2.2.1 0) m).1.2.2.1 then 0 else (mact (w.getD m.2.2.1 0) m).2) = 2 := e
    show (mact (w.getD m.2.2.1 0) m).1.2.2.1 < w.length
    by_cases c : (mact (w.getD m.2.2.1 0) m).2 = 2 ∧ w.length ≤ (mact (w.getD m.2.2.1 0) m).1.2.2.1
    · rw [if_pos c] at e; omega
    · rw [if_neg c] at e
      rcases Nat.lt_or_ge (mact (w.getD m.2.2.1 0) m).1.2.2.1 w.length with z | z
      · exact z
      · exact absurd ⟨e, z⟩ c
theorem mgo_steps {w : List Nat} : ∀ (t : Nat) (m : Mc) (s : Nat), s ≤ (mgo w t m s).2.1 ∧ (mgo w t m s).2.1 ≤ s + t ∧ ((mgo w t m s).2.2 = 2 → (mgo w t m s).2.1 = s + t)
  | 0, m, s => ⟨Nat.le_refl _, Nat.le_refl _, fun _ => rfl⟩
  | t + 1, m, s => by
    have ih := mgo_steps (w := w) t (mstep w m).1 (s + 1)
    unfold mgo
    by_cases e : (mstep w m).2 = 2
    · rw [if_pos e]
      exact ⟨by omega, by omega, fun z => by have := ih.2.2 z; omega⟩
    · rw [if_neg e]
      exact ⟨Nat.le_succ _, by show s + 1 ≤ s + (t + 1); omega, fun z => absurd z e⟩
theorem mgo_MI {w : List Nat} : ∀ (t : Nat) (m : Mc) (s : Nat), MIq m → MIq (mgo w t m s).1 ∧ (mgo w t m s).2.2 ≤ 2
  | 0, m, s, h => ⟨h, Nat.le_refl _⟩
  | t + 1, m, s, h => by
    have q := mstep_MI (w := w) h
    unfold mgo
    by_cases e : (mstep w m).2 = 2
    · rw [if_pos e]
      exact mgo_MI t _ _ q.1
    · rw [if_neg e]
      exact ⟨q.1, q.2.1⟩
theorem mgo_s (w : List Nat) (t : Nat) (m : Mc) (s : Nat) : mgo w (t + 1) m s = if (mstep w m).2 = 2 then mgo w t (mstep w m).1 (s + 1) else ((mstep w m).1, s + 1, (mstep w m).2) := rfl
/-- more steps change nothing behind an end -/
theorem mgo_more {w : List Nat} : ∀ (t u : Nat) (m : Mc) (s : Nat), mgo w (t + u) m s = if (mgo w t m s).2.2 = 2 then mgo w u (mgo w t m s).1 (s + t) else mgo w t m s
  | 0, u, m, s => by
    rw [Nat.zero_add]
    show mgo w u m s = if (2 : Nat) = 2 then mgo w u m s else (m, s, 2)
    rw [if_pos rfl]
  | t + 1, u, m, s => by
    rw [show t + 1 + u = (t + u) + 1 by omega]
    rw [mgo_s, mgo_s]
    by_cases e : (mstep w m).2 = 2
    · rw [if_pos e, if_pos e, mgo_more t u, show s + 1 + t = s + (t + 1) by omega]
    · rw [if_neg e, if_neg e, if_neg e]
theorem wr_mem {g : Lg} {p : List Nat} (hg : LV g) (hw : WP g p) : ∀ x ∈ wr g p, x < 8 := fun x hx => by
  obtain ⟨o, ho, h⟩ := List.mem_flatMap.mp hx
  have h1 := hw.2.1 o ho
  have h2 := hg.1
  unfold wo at h
  by_cases e : o < 8
  · rw [if_pos e, List.mem_singleton] at h
    omega
  · rw [if_neg e, List.getD_eq_getElem?_getD, List.getElem?_eq_getElem (by omega)] at h
    have := (hg.2.2.2.2 _ (List.getElem_mem (by omega : o - 8 < g.2.length))).2.2 x h
    omega
theorem wo_len {g : Lg} (hg : LV g) {o : Nat} (ho : o < g.1.length) : 1 ≤ (wo g o).length ∧ (wo g o).length ≤ 4 := by
  have h2 := hg.1
  unfold wo
  by_cases e : o < 8
  · rw [if_pos e]; exact ⟨Nat.le_refl _, by show 1 ≤ 4; omega⟩
  · rw [if_neg e, List.getD_eq_getElem?_getD, List.getElem?_eq_getElem (by omega)]
    have := hg.2.2.2.2 _ (List.getElem_mem (by omega : o - 8 < g.2.length))
    exact ⟨by show 1 ≤ (g.2[o - 8]).length; omega, this.2.1⟩
theorem wr_len {g : Lg} (hg : LV g) : ∀ {p : List Nat}, (∀ x ∈ p, x < g.1.length) → p.length ≤ (wr g p).length ∧ (wr g p).length ≤ 4 * p.length
  | [], _ => ⟨Nat.le_refl _, Nat.le_refl _⟩
  | o :: q, h => by
    have h1 := wo_len hg (h o List.mem_cons_self)
    have h2 := wr_len hg (p := q) (fun x hx => h x (List.mem_cons_of_mem _ hx))
    have e : wr g (o :: q) = wo g o ++ wr g q := by unfold wr; rw [List.flatMap_cons]
    rw [e, List.length_append, List.length_cons]
    omega
