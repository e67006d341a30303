/-! PURE: how a text is read: an error's place, or the place behind and the codes. -/
abbrev Pr : Type := Nat ⊕ (Nat × List Nat)
def hr (T : Nat → Nat) (n p : Nat) : Nat := if p < n then T p else 0
def isN (c : Nat) : Prop := c = 110 ∨ c = 102 ∨ c = 108 ∨ c = 109 ∨ c = 120 ∨ c = 97 ∨ c = 98
def pdig (T : Nat → Nat) (n : Nat) : Nat → Nat → Nat → Nat → Nat × Nat × Nat
  | 0, v, c, p => (v, c, p)
  | m + 1, v, c, p => if 48 ≤ hr T n p ∧ hr T n p ≤ 57 then pdig T n m (10 * v + hr T n p - 48) (c + 1) (p + 1) else (v, c, p)
def isNb (c : Nat) : Bool := c == 110 || c == 102 || c == 108 || c == 109 || c == 120 || c == 97 || c == 98
theorem isNb_iff {c : Nat} : isNb c = true ↔ isN c := by
  unfold isNb isN
  simp [Bool.or_eq_true, beq_iff_eq, or_assoc]
def pOne (T : Nat → Nat) (n p : Nat) : Pr := if isNb (hr T n p) then .inr (p + 1, [hr T n p]) else if (pdig T n 3 0 0 p).2.1 = 0 then .inl p else .inr ((pdig T n 3 0 0 p).2.2, [256 + (pdig T n 3 0 0 p).1])
def wl (w : Nat) : List Nat := if w = 0 then [] else [w]
/-- X, then with place and codes K -/
def pb (X : Pr) (K : Nat → List Nat → Pr) : Pr := match X with
  | .inl e => .inl e
  | .inr q => K q.1 q.2
theorem pb_r (q : Nat × List Nat) (K : Nat → List Nat → Pr) : pb (.inr q) K = K q.1 q.2 := rfl
theorem pb_l (e : Nat) (K : Nat → List Nat → Pr) : pb (.inl e) K = .inl e := rfl
def pSumR (T : Nat → Nat) (n : Nat) : Nat → Nat → Nat → Pr
  | 0, p, _ => .inr (p, [])
  | f + 1, p, w => if hr T n p = 42 ∨ hr T n p = 37 then pb (pOne T n (p + 1)) (fun p2 c => pb (pSumR T n f p2 w) (fun p3 c3 => .inr (p3, c ++ [hr T n p] ++ c3)))
    else if hr T n p = 43 ∨ hr T n p = 45 then pb (pOne T n (p + 1)) (fun p2 c => pb (pSumR T n f p2 (hr T n p)) (fun p3 c3 => .inr (p3, wl w ++ c ++ c3)))
    else .inr (p, wl w)
def pSum (T : Nat → Nat) (n p : Nat) : Pr := pb (pOne T n p) (fun p2 c => pb (pSumR T n 61 p2 0) (fun p3 c3 => .inr (p3, c ++ c3)))
def pCmp (T : Nat → Nat) (n p : Nat) : Pr := pb (pSum T n p) (fun p1 c1 => if hr T n p1 = 61 ∨ hr T n p1 = 60 ∨ hr T n p1 = 62 then pb (pSum T n (p1 + 1)) (fun p2 c2 => .inr (p2, c1 ++ c2 ++ [hr T n p1])) else .inl p1)
def pAR (T : Nat → Nat) (n : Nat) (pv : Nat → Pr) : Nat → Nat → Nat → Pr
  | 0, p, _ => .inr (p, [])
  | f + 1, p, w => if hr T n p = 38 then pb (pv (p + 1)) (fun p2 c => pb (pAR T n pv f p2 w) (fun p3 c3 => .inr (p3, c ++ [38] ++ c3)))
    else if hr T n p = 124 then pb (pv (p + 1)) (fun p2 c => pb (pAR T n pv f p2 124) (fun p3 c3 => .inr (p3, wl w ++ c ++ c3)))
    else .inr (p, wl w)
def pA (T : Nat → Nat) (n : Nat) (pv : Nat → Pr) (p : Nat) : Pr := pb (pv p) (fun p2 c => pb (pAR T n pv 61 p2 0) (fun p3 c3 => .inr (p3, c ++ c3)))
/-- f levels of ! and ( are left, o are open -/
def pT (T : Nat → Nat) (n : Nat) : Nat → Nat → Nat → Pr
  | 0, _, p => .inl p
  | f + 1, o, p => if hr T n p = 33 ∨ hr T n p = 40 then (if 5 ≤ o then .inl p else if hr T n p = 33 then pb (pT T n f (o + 1) (p + 1)) (fun p2 c => .inr (p2, c ++ [33])) else pb (pA T n (pT T n f (o + 1)) (p + 1)) (fun p2 c => if hr T n p2 = 41 then .inr (p2 + 1, c) else .inl p2))
    else pCmp T n p
/-- how much is read, and how many codes come out: w of them wait -/
def okp (n : Nat) (X : Pr) (p w : Nat) : Prop := match X with
  | .inl e => e ≤ n
  | .inr q => q.2.length + p ≤ q.1 + w ∧ p ≤ q.1 ∧ q.1 ≤ n
theorem pdig_ok {T : Nat → Nat} {n : Nat} : ∀ (m v c p : Nat), p ≤ n → (pdig T n m v c p).2.2 = p + ((pdig T n m v c p).2.1 - c) ∧ c ≤ (pdig T n m v c p).2.1 ∧ (pdig T n m v c p).2.1 ≤ c + m ∧ (pdig T n m v c p).2.2 ≤ n ∧ (v + 1 ≤ 10 ^ (3 - m) → m ≤ 3 → (pdig T n m v c p).1 < 1000)
  | 0, v, c, p, h => ⟨by show p = p + (c - c); omega, Nat.le_refl _, Nat.le_refl _, h, fun q _ => by
      have q : v + 1 ≤ 1000 := q
      show v < 1000
      omega⟩
  | m + 1, v, c, p, h => by
    unfold pdig
    by_cases e : 48 ≤ hr T n p ∧ hr T n p ≤ 57
    · rw [if_pos e]
      have hp : p < n := by
        rcases Nat.lt_or_ge p n with q | q
        · exact q
        · unfold hr at e
          rw [if_neg (by omega)] at e
          omega
      obtain ⟨i1, i2, i3, i4, i5⟩ := pdig_ok (T := T) (n := n) m (10 * v + hr T n p - 48) (c + 1) (p + 1) (by omega)
      refine ⟨by omega, by omega, by omega, i4, fun q1 q2 => i5 ?_ (by omega)⟩
      rw [show 3 - m = (3 - (m + 1)) + 1 by omega, Nat.pow_succ]
      omega
    · rw [if_neg e]
      refine ⟨by show p = p + (c - c); omega, Nat.le_refl _, by show c ≤ c + (m + 1); omega, h, fun q1 q2 => ?_⟩
      have : 10 ^ (3 - (m + 1)) ≤ 10 ^ 3 := Nat.pow_le_pow_right (by omega) (by omega)
      show v < 1000
      omega
theorem hr_pos {T : Nat → Nat} {n p : Nat} (h : hr T n p ≠ 0) : p < n ∧ hr T n p = T p := by
  unfold hr at h ⊢
  by_cases e : p < n
  · exact ⟨e, if_pos e⟩
  · rw [if_neg e] at h; exact absurd rfl h
theorem pOne_ok {T : Nat → Nat} {n p : Nat} (h : p ≤ n) : okp n (pOne T n p) p 0 := by
  unfold pOne
  by_cases e : isNb (hr T n p) = true
  · rw [if_pos e]
    have hp := hr_pos (T := T) (n := n) (p := p) (fun q => by rw [q] at e; exact absurd e (by decide))
    exact ⟨by show 1 + p ≤ p + 1 + 0; omega, by show p ≤ p + 1; omega, by show p + 1 ≤ n; omega⟩
  · rw [if_neg e]
    obtain ⟨i1, i2, i3, i4, i5⟩ := pdig_ok (T := T) (n := n) 3 0 0 p h
    by_cases c : (pdig T n 3 0 0 p).2.1 = 0
    · rw [if_pos c]; exact h
    · rw [if_neg c]
      exact ⟨by show 1 + p ≤ _ + 0; omega, by show p ≤ (pdig T n 3 0 0 p).2.2; omega, i4⟩
theorem pb_ok {n p w : Nat} {X : Pr} {K : Nat → List Nat → Pr} (h : okp n X p 0) (hK : ∀ p2 c, X = .inr (p2, c) → c.length + p ≤ p2 → p ≤ p2 → p2 ≤ n → okp n (K p2 c) p w) : okp n (pb X K) p w := by
  cases X with
  | inl e => exact h
  | inr q => exact hK q.1 q.2 rfl (by have := h.1; omega) h.2.1 h.2.2
theorem wl_len (w : Nat) : (wl w).length ≤ 1 ∧ (w = 0 → (wl w).length = 0) := by
  unfold wl
  by_cases e : w = 0
  · rw [if_pos e]; exact ⟨by decide, fun _ => rfl⟩
  · rw [if_neg e]; exact ⟨Nat.le_refl _, fun q => absurd q e⟩
theorem pSumR_ok {T : Nat → Nat} {n : Nat} : ∀ (f p w : Nat), p ≤ n → okp n (pSumR T n f p w) p (wl w).length
  | 0, p, w, h => ⟨by show 0 + p ≤ p + _; omega, Nat.le_refl _, h⟩
  | f + 1, p, w, h => by
    unfold pSumR
    by_cases c1 : hr T n p = 42 ∨ hr T n p = 37
    · rw [if_pos c1]
      have hp := hr_pos (T := T) (n := n) (p := p) (by omega)
      have h1 := pOne_ok (T := T) (n := n) (p := p + 1) (by omega)
      cases hx : pOne T n (p + 1) with
      | inl e => rw [hx] at h1; exact h1
      | inr q =>
        rw [hx] at h1
        obtain ⟨a1, a2, a3⟩ := h1
        have h2 := pSumR_ok (T := T) (n := n) f q.1 w a3
        rw [pb_r]
        cases hy : pSumR T n f q.1 w with
        | inl e => rw [hy] at h2; exact h2
        | inr r =>
          rw [hy] at h2
          obtain ⟨b1, b2, b3⟩ := h2
          refine ⟨?_, by show p ≤ r.1; omega, b3⟩
          show (q.2 ++ [hr T n p] ++ r.2).length + p ≤ r.1 + _
          rw [List.length_append, List.length_append, List.length_singleton]; omega
    · rw [if_neg c1]
      by_cases c2 : hr T n p = 43 ∨ hr T n p = 45
      · rw [if_pos c2]
        have hp := hr_pos (T := T) (n := n) (p := p) (by omega)
        have h1 := pOne_ok (T := T) (n := n) (p := p + 1) (by omega)
        cases hx : pOne T n (p + 1) with
        | inl e => rw [hx] at h1; exact h1
        | inr q =>
          rw [hx] at h1
          obtain ⟨a1, a2, a3⟩ := h1
          have h2 := pSumR_ok (T := T) (n := n) f q.1 (hr T n p) a3
          rw [pb_r]
          cases hy : pSumR T n f q.1 (hr T n p) with
          | inl e => rw [hy] at h2; exact h2
          | inr r =>
            rw [hy] at h2
            obtain ⟨b1, b2, b3⟩ := h2
            have hw := (wl_len (hr T n p)).1
            refine ⟨?_, by show p ≤ r.1; omega, b3⟩
            show (wl w ++ q.2 ++ r.2).length + p ≤ r.1 + _
            rw [List.length_append, List.length_append]; omega
      · rw [if_neg c2]
        exact ⟨by show (wl w).length + p ≤ p + _; omega, Nat.le_refl _, h⟩
theorem pSum_ok {T : Nat → Nat} {n p : Nat} (h : p ≤ n) : okp n (pSum T n p) p 0 := by
  have h1 := pOne_ok (T := T) h
  unfold pSum
  cases hx : pOne T n p with
  | inl e => rw [hx] at h1; exact h1
  | inr q =>
    rw [hx] at h1
    obtain ⟨a1, a2, a3⟩ := h1
    have h2 := pSumR_ok (T := T) (n := n) 61 q.1 0 a3
    rw [pb_r]
    cases hy : pSumR T n 61 q.1 0 with
    | inl e => rw [hy] at h2; exact h2
    | inr r =>
      rw [hy] at h2
      obtain ⟨b1, b2, b3⟩ := h2
      have hw := (wl_len 0).2 rfl
      refine ⟨?_, by show p ≤ r.1; omega, b3⟩
      show (q.2 ++ r.2).length + p ≤ r.1 + 0
      rw [List.length_append]; omega
theorem pCmp_ok {T : Nat → Nat} {n p : Nat} (h : p ≤ n) : okp n (pCmp T n p) p 0 := by
  have h1 := pSum_ok (T := T) h
  unfold pCmp
  cases hx : pSum T n p with
  | inl e => rw [hx] at h1; exact h1
  | inr q =>
    rw [hx] at h1
    obtain ⟨a1, a2, a3⟩ := h1
    rw [pb_r]
    by_cases c : hr T n q.1 = 61 ∨ hr T n q.1 = 60 ∨ hr T n q.1 = 62
    · rw [if_pos c]
      have hp := hr_pos (T := T) (n := n) (p := q.1) (by omega)
      have h2 := pSum_ok (T := T) (n := n) (p := q.1 + 1) (by omega)
      cases hy : pSum T n (q.1 + 1) with
      | inl e => rw [hy] at h2; exact h2
      | inr r =>
        rw [hy] at h2
        obtain ⟨b1, b2, b3⟩ := h2
        refine ⟨?_, by show p ≤ r.1; omega, b3⟩
        show (q.2 ++ r.2 ++ [hr T n q.1]).length + p ≤ r.1 + 0
        rw [List.length_append, List.length_append, List.length_singleton]; omega
    · rw [if_neg c]; exact a3
theorem pAR_ok {T : Nat → Nat} {n : Nat} {pv : Nat → Pr} (hv : ∀ p, p ≤ n → okp n (pv p) p 0) : ∀ (f p w : Nat), p ≤ n → okp n (pAR T n pv f p w) p (wl w).length
  | 0, p, w, h => ⟨by show 0 + p ≤ p + _; omega, Nat.le_refl _, h⟩
  | f + 1, p, w, h => by
    unfold pAR
    by_cases c1 : hr T n p = 38
    · rw [if_pos c1]
      have hp := hr_pos (T := T) (n := n) (p := p) (by omega)
      have h1 := hv (p + 1) (by omega)
      cases hx : pv (p + 1) with
      | inl e => rw [hx] at h1; exact h1
      | inr q =>
        rw [hx] at h1
        obtain ⟨a1, a2, a3⟩ := h1
        have h2 := pAR_ok (T := T) hv f q.1 w a3
        rw [pb_r]
        cases hy : pAR T n pv f q.1 w with
        | inl e => rw [hy] at h2; exact h2
        | inr r =>
          rw [hy] at h2
          obtain ⟨b1, b2, b3⟩ := h2
          refine ⟨?_, by show p ≤ r.1; omega, b3⟩
          show (q.2 ++ [38] ++ r.2).length + p ≤ r.1 + _
          rw [List.length_append, List.length_append, List.length_singleton]; omega
    · rw [if_neg c1]
      by_cases c2 : hr T n p = 124
      · rw [if_pos c2]
        have hp := hr_pos (T := T) (n := n) (p := p) (by omega)
        have h1 := hv (p + 1) (by omega)
        cases hx : pv (p + 1) with
        | inl e => rw [hx] at h1; exact h1
        | inr q =>
          rw [hx] at h1
          obtain ⟨a1, a2, a3⟩ := h1
          have h2 := pAR_ok (T := T) hv f q.1 124 a3
          rw [pb_r]
          cases hy : pAR T n pv f q.1 124 with
          | inl e => rw [hy] at h2; exact h2
          | inr r =>
            rw [hy] at h2
            obtain ⟨b1, b2, b3⟩ := h2
            have hw := (wl_len 124).1
            refine ⟨?_, by show p ≤ r.1; omega, b3⟩
            show (wl w ++ q.2 ++ r.2).length + p ≤ r.1 + _
            rw [List.length_append, List.length_append]; omega
      · rw [if_neg c2]
        exact ⟨by show (wl w).length + p ≤ p + _; omega, Nat.le_refl _, h⟩
theorem pA_ok {T : Nat → Nat} {n p : Nat} {pv : Nat → Pr} (hv : ∀ p, p ≤ n → okp n (pv p) p 0) (h : p ≤ n) : okp n (pA T n pv p) p 0 := by
  have h1 := hv p h
  unfold pA
  cases hx : pv p with
  | inl e => rw [hx] at h1; exact h1
  | inr q =>
    rw [hx] at h1
    obtain ⟨a1, a2, a3⟩ := h1
    have h2 := pAR_ok (T := T) hv 61 q.1 0 a3
    rw [pb_r]
    cases hy : pAR T n pv 61 q.1 0 with
    | inl e => rw [hy] at h2; exact h2
    | inr r =>
      rw [hy] at h2
      obtain ⟨b1, b2, b3⟩ := h2
      have hw := (wl_len 0).2 rfl
      refine ⟨?_, by show p ≤ r.1; omega, b3⟩
      show (q.2 ++ r.2).length + p ≤ r.1 + 0
      rw [List.length_append]; omega
theorem pT_ok {T : Nat → Nat} {n : Nat} : ∀ (f o p : Nat), p ≤ n → okp n (pT T n f o p) p 0
  | 0, o, p, h => h
  | f + 1, o, p, h => by
    unfold pT
    by_cases c1 : hr T n p = 33 ∨ hr T n p = 40
    · rw [if_pos c1]
      have hp := hr_pos (T := T) (n := n) (p := p) (by omega)
      by_cases c2 : 5 ≤ o
      · rw [if_pos c2]; exact h
      · rw [if_neg c2]
        by_cases c3 : hr T n p = 33
        · rw [if_pos c3]
          have h1 := pT_ok (T := T) (n := n) f (o + 1) (p + 1) (by omega)
          cases hx : pT T n f (o + 1) (p + 1) with
          | inl e => rw [hx] at h1; exact h1
          | inr q =>
            rw [hx] at h1
            obtain ⟨a1, a2, a3⟩ := h1
            refine ⟨?_, by show p ≤ q.1; omega, a3⟩
            show (q.2 ++ [33]).length + p ≤ q.1 + 0
            rw [List.length_append, List.length_singleton]; omega
        · rw [if_neg c3]
          have h1 := pA_ok (T := T) (n := n) (p := p + 1) (fun p hp => pT_ok (T := T) (n := n) f (o + 1) p hp) (by omega)
          cases hx : pA T n (pT T n f (o + 1)) (p + 1) with
          | inl e => rw [hx] at h1; exact h1
          | inr q =>
            rw [hx] at h1
            obtain ⟨a1, a2, a3⟩ := h1
            rw [pb_r]
            by_cases c4 : hr T n q.1 = 41
            · rw [if_pos c4]
              have hp2 := hr_pos (T := T) (n := n) (p := q.1) (by omega)
              exact ⟨by show q.2.length + p ≤ q.1 + 1 + 0; omega, by show p ≤ q.1 + 1; omega, by show q.1 + 1 ≤ n; omega⟩
            · rw [if_neg c4]; exact a3
    · rw [if_neg c1]
      exact pCmp_ok h
