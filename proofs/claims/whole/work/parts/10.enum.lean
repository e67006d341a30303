/-! PURE: rows of orders that fill so many bits, in their order; how many there are (Kraft); the next one. rk: the orders by their codes; bit: the bits of an order. -/
def block (bit : Nat → Nat) (C : Nat → List (List Nat)) (left o : Nat) : List (List Nat) := if o = 0 then (if left = bit 0 then [[0]] else []) else (C (left - bit o)).map (fun q => o :: q)
/-- all rows of at most d orders, the last one 0, that fill just 'left' bits -/
def comp (bit : Nat → Nat) (rk : List Nat) : Nat → Nat → List (List Nat)
  | 0, _ => []
  | d + 1, left => rk.flatMap (block bit (comp bit rk d) left)
theorem comp_0 {bit : Nat → Nat} {rk : List Nat} (hb : ∀ o, 1 ≤ bit o) : ∀ d, comp bit rk d 0 = []
  | 0 => rfl
  | d + 1 => by
    have ih := comp_0 (rk := rk) hb d
    unfold comp
    rw [List.flatMap_eq_nil_iff]
    intro o _
    unfold block
    have := hb 0
    by_cases h : o = 0
    · rw [if_pos h, if_neg (by omega)]
    · rw [if_neg h, Nat.zero_sub, ih]; rfl
/-- how many, weighed -/
def kraft (bit : Nat → Nat) (rk : List Nat) (d : Nat) : Nat → Nat
  | 0 => (comp bit rk d 0).length
  | B + 1 => 2 * kraft bit rk d B + (comp bit rk d (B + 1)).length
def ktm (bit : Nat → Nat) (rk : List Nat) (d B o : Nat) : Nat := if o = 0 then (if bit 0 ≤ B then 2 ^ (B - bit 0) else 0) else (if bit o ≤ B then kraft bit rk d (B - bit o) else 0)
theorem sum_two (l : List Nat) (f g h : Nat → Nat) (e : ∀ o, f o = 2 * g o + h o) : (l.map f).sum = 2 * (l.map g).sum + (l.map h).sum := by
  induction l with
  | nil => rfl
  | cons a t ih => simp only [List.map_cons, List.sum_cons, ih, e a]; omega
theorem kraft_rec {bit : Nat → Nat} {rk : List Nat} (hb : ∀ o, 1 ≤ bit o) (d : Nat) : ∀ B, kraft bit rk (d + 1) B = (rk.map (ktm bit rk d B)).sum
  | 0 => by
    have e : ∀ o, ktm bit rk d 0 o = 0 := fun o => by
      unfold ktm
      have := hb 0
      have := hb o
      by_cases h : o = 0
      · rw [if_pos h, if_neg (by omega)]
      · rw [if_neg h, if_neg (by omega)]
    unfold kraft
    rw [comp_0 hb, show ktm bit rk d 0 = fun _ => 0 from funext e]
    have z : ∀ l : List Nat, 0 = (l.map (fun _ => 0)).sum := fun l => by
      induction l with
      | nil => rfl
      | cons a t ih => rw [List.map_cons, List.sum_cons, ← ih]
    exact z rk
  | B + 1 => by
    unfold kraft
    rw [kraft_rec hb d B]
    have e : ∀ o, ktm bit rk d (B + 1) o = 2 * ktm bit rk d B o + (block bit (comp bit rk d) (B + 1) o).length := fun o => by
      unfold ktm block
      by_cases h : o = 0
      · simp only [if_pos h]
        by_cases h1 : bit 0 ≤ B
        · rw [if_pos h1, if_pos (by omega), if_neg (by omega), show B + 1 - bit 0 = (B - bit 0) + 1 by omega, Nat.pow_succ]
          simp only [List.length_nil]; omega
        · by_cases h2 : B + 1 = bit 0
          · rw [if_neg h1, if_pos (by omega), if_pos h2, h2]; simp
          · rw [if_neg h1, if_neg (by omega), if_neg h2]; rfl
      · simp only [if_neg h, List.length_map]
        have := hb o
        by_cases h1 : bit o ≤ B
        · rw [if_pos h1, if_pos (by omega), show B + 1 - bit o = (B - bit o) + 1 by omega]
          rfl
        · by_cases h2 : bit o = B + 1
          · rw [if_neg h1, if_pos (by omega), h2, Nat.sub_self]
            unfold kraft
            omega
          · rw [if_neg h1, if_neg (by omega), show B + 1 - bit o = 0 by omega, comp_0 hb]
            rfl
    rw [sum_two rk _ _ _ e]
    congr 1
    unfold comp
    rw [List.length_flatMap]
theorem kraft_le {bit : Nat → Nat} {rk : List Nat} (hb : ∀ o, 1 ≤ bit o) (h6 : ∀ o, bit o ≤ 6) (hk : (rk.map (fun o => 2 ^ (6 - bit o))).sum ≤ 64) : ∀ d B, kraft bit rk d B ≤ 2 ^ B
  | 0, B => by
    have : ∀ B, kraft bit rk 0 B = 0 := fun B => by
      induction B with
      | zero => rfl
      | succ B ih => unfold kraft; rw [ih]; rfl
    rw [this]; exact Nat.zero_le _
  | d + 1, B => by
    rw [kraft_rec hb]
    have e : ∀ o, ktm bit rk d B o * 64 ≤ 2 ^ B * 2 ^ (6 - bit o) := fun o => by
      have key : bit o ≤ B → 2 ^ (B - bit o) * 64 = 2 ^ B * 2 ^ (6 - bit o) := fun h => by
        rw [show (64 : Nat) = 2 ^ 6 from rfl, ← Nat.pow_add, ← Nat.pow_add]
        congr 1
        have := h6 o
        omega
      unfold ktm
      by_cases h : o = 0
      · subst h
        rw [if_pos rfl]
        by_cases h1 : bit 0 ≤ B
        · rw [if_pos h1, key h1]; exact Nat.le_refl _
        · rw [if_neg h1, Nat.zero_mul]; exact Nat.zero_le _
      · rw [if_neg h]
        by_cases h1 : bit o ≤ B
        · rw [if_pos h1, ← key h1]
          exact Nat.mul_le_mul_right _ (kraft_le hb h6 hk d _)
        · rw [if_neg h1, Nat.zero_mul]; exact Nat.zero_le _
    have s : ∀ l : List Nat, (l.map (ktm bit rk d B)).sum * 64 ≤ 2 ^ B * (l.map (fun o => 2 ^ (6 - bit o))).sum := fun l => by
      induction l with
      | nil => simp
      | cons a t ih =>
        simp only [List.map_cons, List.sum_cons]
        rw [Nat.add_mul, Nat.mul_add]
        exact Nat.add_le_add (e a) ih
    have s2 := s rk
    have s3 : 2 ^ B * (rk.map (fun o => 2 ^ (6 - bit o))).sum ≤ 2 ^ B * 64 := Nat.mul_le_mul_left _ hk
    omega
/-- the programs to size B, in their order, each with its size -/
def progs (bit : Nat → Nat) (rk : List Nat) : Nat → List (Nat × List Nat)
  | 0 => []
  | B + 1 => progs bit rk B ++ (comp bit rk 12 (B + 1)).map (fun p => (B + 1, p))
theorem progs_weight {bit : Nat → Nat} {rk : List Nat} (hb : ∀ o, 1 ≤ bit o) : ∀ B, ((progs bit rk B).map (fun q => 2 ^ (B - q.1))).sum = kraft bit rk 12 B
  | 0 => by unfold progs kraft; rw [comp_0 hb]; rfl
  | B + 1 => by
    unfold progs kraft
    rw [List.map_append, List.sum_append, ← progs_weight hb B, List.map_map]
    have hs : ∀ q ∈ progs bit rk B, q.1 ≤ B := by
      have : ∀ B, ∀ q ∈ progs bit rk B, q.1 ≤ B := fun B => by
        induction B with
        | zero => intro q h; cases h
        | succ B ih =>
          intro q h
          unfold progs at h
          rcases List.mem_append.mp h with h | h
          · exact Nat.le_succ_of_le (ih q h)
          · obtain ⟨p, -, rfl⟩ := List.mem_map.mp h
            exact Nat.le_refl _
      exact this B
    have e1 : ∀ l : List (Nat × List Nat), (∀ q ∈ l, q.1 ≤ B) → (l.map (fun q => 2 ^ (B + 1 - q.1))).sum = 2 * (l.map (fun q => 2 ^ (B - q.1))).sum := fun l => by
      induction l with
      | nil => intro _; rfl
      | cons a t ih =>
        intro h
        have h1 := h a List.mem_cons_self
        simp only [List.map_cons, List.sum_cons]
        rw [ih (fun q hq => h q (List.mem_cons_of_mem _ hq)), show B + 1 - a.1 = (B - a.1) + 1 by omega, Nat.pow_succ]
        omega
    rw [e1 _ hs]
    congr 1
    have e2 : ∀ l : List (List Nat), (l.map ((fun q : Nat × List Nat => 2 ^ (B + 1 - q.1)) ∘ fun p => (B + 1, p))).sum = l.length := fun l => by
      induction l with
      | nil => rfl
      | cons a t ih => simp only [List.map_cons, List.sum_cons, ih, List.length_cons, Function.comp_apply, Nat.sub_self]; omega
    exact e2 _
theorem progs_len {bit : Nat → Nat} {rk : List Nat} (hb : ∀ o, 1 ≤ bit o) (h6 : ∀ o, bit o ≤ 6) (hk : (rk.map (fun o => 2 ^ (6 - bit o))).sum ≤ 64) (B : Nat) : (progs bit rk B).length ≤ 2 ^ B := by
  have h := kraft_le hb h6 hk 12 B
  rw [← progs_weight hb B] at h
  have e : ∀ l : List (Nat × List Nat), l.length ≤ (l.map (fun q => 2 ^ (B - q.1))).sum := fun l => by
    induction l with
    | nil => exact Nat.le_refl _
    | cons a t ih =>
      simp only [List.map_cons, List.sum_cons, List.length_cons]
      have : 1 ≤ 2 ^ (B - a.1) := Nat.one_le_two_pow
      omega
  exact Nat.le_trans (e _) h
/-- the next row of a list that begins with a later order than o -/
def after (o : Nat) : List Nat → List Nat
  | [] => []
  | a :: t => if a = o then t else after o t
def firstAfter (bit : Nat → Nat) (rk : List Nat) (d left o : Nat) : Option (List Nat) := ((after o rk).flatMap (block bit (comp bit rk d) left)).head?
def nxt (bit : Nat → Nat) (rk : List Nat) : Nat → Nat → List Nat → Option (List Nat)
  | 0, _, _ => none
  | _ + 1, _, [] => none
  | d + 1, left, o :: q => match (if o = 0 then none else nxt bit rk d (left - bit o) q) with
    | some r => some (o :: r)
    | none => firstAfter bit rk d left o
theorem after_split {o : Nat} {R1 R2 : List Nat} (h : o ∉ R1) : after o (R1 ++ o :: R2) = R2 := by
  induction R1 with
  | nil => simp [after]
  | cons a t ih =>
    have h2 : ¬ a = o ∧ o ∉ t := ⟨fun e => h (by rw [e]; exact List.mem_cons_self), fun e => h (List.mem_cons_of_mem _ e)⟩
    simp only [List.cons_append, after, if_neg h2.1]
    exact ih h2.2
theorem flat_split {f : Nat → List (List Nat)} : ∀ {rk : List Nat} {A B : List (List Nat)} {p : List Nat}, rk.flatMap f = A ++ p :: B → ∃ R1 o R2 A1 B1, rk = R1 ++ o :: R2 ∧ f o = A1 ++ p :: B1 ∧ A = R1.flatMap f ++ A1 ∧ B = B1 ++ R2.flatMap f
  | [], A, B, p, h => by simp at h
  | a :: t, A, B, p, h => by
    rw [List.flatMap_cons] at h
    rcases List.append_eq_append_iff.mp h with ⟨C, h1, h2⟩ | ⟨C, h1, h2⟩
    · obtain ⟨R1, o, R2, A1, B1, e1, e2, e3, e4⟩ := flat_split h2
      exact ⟨a :: R1, o, R2, A1, B1, by rw [e1]; rfl, e2, by rw [h1, e3, List.flatMap_cons, List.append_assoc], e4⟩
    · cases C with
      | nil =>
        have h3 : t.flatMap f = [] ++ p :: B := by simpa using h2.symm
        obtain ⟨R1, o, R2, A1, B1, e1, e2, e3, e4⟩ := flat_split h3
        refine ⟨a :: R1, o, R2, A1, B1, by rw [e1]; rfl, e2, ?_, e4⟩
        rw [List.flatMap_cons, List.append_assoc, ← e3]
        simpa using h1.symm
      | cons x C =>
        have h3 : p = x ∧ B = C ++ t.flatMap f := by simpa using h2
        exact ⟨[], a, t, A, C, rfl, by rw [h1, h3.1], by simp, h3.2⟩
theorem nodup_split {R1 R2 : List Nat} {o : Nat} (h : (R1 ++ o :: R2).Nodup) : o ∉ R1 := fun hm => by
  have := List.nodup_append.mp h
  exact this.2.2 o hm o List.mem_cons_self rfl
theorem head_app {α : Type} (a b : List α) : (a ++ b).head? = match a.head? with
    | some x => some x
    | none => b.head? := by cases a <;> rfl
/-- what is behind a row in the list is its next one -/
theorem nxt_spec {bit : Nat → Nat} {rk : List Nat} (hn : rk.Nodup) : ∀ (d left : Nat) (p : List Nat) (A B : List (List Nat)), comp bit rk d left = A ++ p :: B → nxt bit rk d left p = B.head?
  | 0, left, p, A, B, h => by simp [comp] at h
  | d + 1, left, p, A, B, h => by
    unfold comp at h
    obtain ⟨R1, o, R2, A1, B1, e1, e2, e3, e4⟩ := flat_split h
    have hno : o ∉ R1 := nodup_split (by rw [← e1]; exact hn)
    have haf : after o rk = R2 := by rw [e1]; exact after_split hno
    by_cases ho : o = 0
    · unfold block at e2
      rw [if_pos ho] at e2
      by_cases hl : left = bit 0
      · rw [if_pos hl] at e2
        have h2 : A1 = [] ∧ p = [0] ∧ B1 = [] := by
          cases A1 with
          | nil => simpa [eq_comm] using e2
          | cons a t => simp at e2
        obtain ⟨-, rfl, rfl⟩ := h2
        unfold nxt
        rw [if_pos rfl]
        unfold firstAfter
        rw [← ho, haf, e4]
        rfl
      · rw [if_neg hl] at e2
        simp at e2
    · unfold block at e2
      rw [if_neg ho] at e2
      obtain ⟨A2, T2, f1, f2, f3⟩ := List.map_eq_append_iff.mp e2
      obtain ⟨q, B2, g1, g2, g3⟩ := List.map_eq_cons_iff.mp f3
      subst g2
      have ih := nxt_spec hn d (left - bit o) q A2 B2 (by rw [f1, g1])
      unfold nxt
      rw [if_neg ho, ih]
      rw [e4, ← g3, head_app, List.head?_map]
      cases B2 with
      | nil =>
        show firstAfter bit rk d left o = _
        unfold firstAfter
        rw [haf]
        rfl
      | cons x t => rfl
