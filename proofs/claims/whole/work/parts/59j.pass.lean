/-! The class works an ask's codes out on its stack. -/
def isBb (c : Nat) : Bool := c == 42 || c == 37 || c == 43 || c == 45 || c == 61 || c == 60 || c == 62 || c == 38 || c == 124
theorem isBb_iff {c : Nat} : isBb c = true ↔ (c = 42 ∨ c = 37 ∨ c = 43 ∨ c = 45 ∨ c = 61 ∨ c = 60 ∨ c = 62 ∨ c = 38 ∨ c = 124) := by
  unfold isBb
  simp [Bool.or_eq_true, beq_iff_eq, or_assoc]
def dpt : List Nat → Nat → Option Nat
  | [], d => some d
  | c :: l, d => if 1256 ≤ c then none else if 256 ≤ c ∨ isNb c = true then dpt l (d + 1) else if c = 33 then (if d = 0 then none else dpt l d) else if d < 2 ∨ isBb c = false then none else dpt l (d - 1)
theorem dpt_app : ∀ (a b : List Nat) (d e : Nat), dpt a d = some e → dpt (a ++ b) d = dpt b e
  | [], b, d, e, h => by
    obtain rfl : d = e := by injection h
    rfl
  | c :: l, b, d, e, h => by
    have dc : ∀ l d, dpt (c :: l) d = (if 1256 ≤ c then none else if 256 ≤ c ∨ isNb c = true then dpt l (d + 1) else if c = 33 then (if d = 0 then none else dpt l d) else if d < 2 ∨ isBb c = false then none else dpt l (d - 1)) := fun _ _ => rfl
    show dpt (c :: (l ++ b)) d = _
    rw [dc] at h ⊢
    split
    · rename_i c1; rw [if_pos c1] at h; cases h
    · rename_i c1
      rw [if_neg c1] at h
      split
      · rename_i c2; rw [if_pos c2] at h; exact dpt_app l b _ e h
      · rename_i c2
        rw [if_neg c2] at h
        split
        · rename_i c3
          rw [if_pos c3] at h
          split
          · rename_i c4; rw [if_pos c4] at h; cases h
          · rename_i c4; rw [if_neg c4] at h; exact dpt_app l b _ e h
        · rename_i c3
          rw [if_neg c3] at h
          split
          · rename_i c4; rw [if_pos c4] at h; cases h
          · rename_i c4; rw [if_neg c4] at h; exact dpt_app l b _ e h
theorem dpt_bin {c d : Nat} (h : c = 42 ∨ c = 37 ∨ c = 43 ∨ c = 45 ∨ c = 61 ∨ c = 60 ∨ c = 62 ∨ c = 38 ∨ c = 124) : dpt [c] (d + 2) = some (d + 1) := by
  rcases h with rfl | rfl | rfl | rfl | rfl | rfl | rfl | rfl | rfl <;> rfl
theorem dpt_wl {w d : Nat} (h : w = 0 ∨ w = 43 ∨ w = 45 ∨ w = 124) : dpt (wl w) (d + 1 + (wl w).length) = some (d + 1) := by
  rcases h with rfl | rfl | rfl | rfl
  · rfl
  all_goals exact dpt_bin (by omega)
/-- the depth is one more after the codes: x lie there beforehand -/
def wfp (X : Pr) (x : Nat) : Prop := match X with
  | .inl _ => True
  | .inr q => ∀ d, dpt q.2 (d + x) = some (d + 1)
theorem pOne_wf {T : Nat → Nat} {n p : Nat} (h : p ≤ n) : wfp (pOne T n p) 0 := by
  unfold pOne
  by_cases c1 : isNb (hr T n p) = true
  · rw [if_pos c1]
    have hn := isNb_iff.mp c1
    unfold isN at hn
    intro d
    show dpt [hr T n p] (d + 0) = _
    unfold dpt
    rw [if_neg (by omega), if_pos (Or.inr c1)]
    rfl
  · rw [if_neg c1]
    by_cases c2 : (pdig T n 3 0 0 p).2.1 = 0
    · rw [if_pos c2]; trivial
    · rw [if_neg c2]
      have := (pdig_ok (T := T) (n := n) 3 0 0 p h).2.2.2.2 (by decide) (by omega)
      intro d
      show dpt [256 + (pdig T n 3 0 0 p).1] (d + 0) = _
      unfold dpt
      rw [if_neg (by omega), if_pos (Or.inl (by omega))]
      rfl
theorem pSumR_wf {T : Nat → Nat} {n : Nat} : ∀ (f p w : Nat), p ≤ n → n < p + f → (w = 0 ∨ w = 43 ∨ w = 45) → wfp (pSumR T n f p w) (1 + (wl w).length)
  | 0, p, w, h, hf, hw => by omega
  | f + 1, p, w, h, hf, hw => by
    unfold pSumR
    by_cases c1 : hr T n p = 42 ∨ hr T n p = 37
    · rw [if_pos c1]
      have hp := hr_pos (T := T) (n := n) (p := p) (by omega)
      have h1 := pOne_ok (T := T) (n := n) (p := p + 1) (by omega)
      have h1w := pOne_wf (T := T) (n := n) (p := p + 1) (by omega)
      cases hx : pOne T n (p + 1) with
      | inl e => trivial
      | inr q =>
        rw [hx] at h1 h1w
        obtain ⟨a1, a2, a3⟩ := h1
        have h2 := pSumR_wf (T := T) (n := n) f q.1 w a3 (by omega) hw
        rw [pb_r]
        cases hy : pSumR T n f q.1 w with
        | inl e => trivial
        | inr r =>
          rw [hy] at h2
          intro d
          show dpt (q.2 ++ [hr T n p] ++ r.2) _ = _
          have e1 := h1w (d + (1 + (wl w).length))
          rw [Nat.add_zero] at e1
          have e2 : dpt [hr T n p] (d + (1 + (wl w).length) + 1) = some (d + (1 + (wl w).length)) := dpt_bin (d := d + (wl w).length) (by omega) |> fun q => by
            rw [show d + (1 + (wl w).length) + 1 = d + (wl w).length + 2 by omega, q]; congr 1; omega
          rw [dpt_app _ _ _ _ (by rw [dpt_app _ _ _ _ e1]; exact e2)]
          exact h2 d
    · rw [if_neg c1]
      by_cases c2 : hr T n p = 43 ∨ hr T n p = 45
      · rw [if_pos c2]
        have hp := hr_pos (T := T) (n := n) (p := p) (by omega)
        have h1 := pOne_ok (T := T) (n := n) (p := p + 1) (by omega)
        have h1w := pOne_wf (T := T) (n := n) (p := p + 1) (by omega)
        cases hx : pOne T n (p + 1) with
        | inl e => trivial
        | inr q =>
          rw [hx] at h1 h1w
          obtain ⟨a1, a2, a3⟩ := h1
          have h2 := pSumR_wf (T := T) (n := n) f q.1 (hr T n p) a3 (by omega) (Or.inr c2)
          rw [pb_r]
          cases hy : pSumR T n f q.1 (hr T n p) with
          | inl e => trivial
          | inr r =>
            rw [hy] at h2
            intro d
            show dpt (wl w ++ q.2 ++ r.2) _ = _
            have e1 := dpt_wl (w := w) (d := d) (by omega)
            have e2 := h1w (d + 1)
            have e3 := h2 d
            have hl : (wl (hr T n p)).length = 1 := by unfold wl; rw [if_neg (by omega)]; rfl
            rw [hl] at e3
            rw [Nat.add_assoc] at e1
            rw [dpt_app _ _ _ _ (by rw [dpt_app _ _ _ _ e1]; exact e2)]
            exact e3
      · rw [if_neg c2]
        intro d
        show dpt (wl w) _ = _
        have e1 := dpt_wl (w := w) (d := d) (by omega)
        rw [Nat.add_assoc] at e1
        exact e1
theorem pSum_wf {T : Nat → Nat} {n p : Nat} (h60 : n ≤ 60) (h : p ≤ n) : wfp (pSum T n p) 0 := by
  have h1 := pOne_ok (T := T) h
  have h1w := pOne_wf (T := T) h
  unfold pSum
  cases hx : pOne T n p with
  | inl e => trivial
  | inr q =>
    rw [hx] at h1 h1w
    obtain ⟨a1, a2, a3⟩ := h1
    have h2 := pSumR_wf (T := T) (n := n) 61 q.1 0 a3 (by omega) (Or.inl rfl)
    rw [pb_r]
    cases hy : pSumR T n 61 q.1 0 with
    | inl e => trivial
    | inr r =>
      rw [hy] at h2
      intro d
      show dpt (q.2 ++ r.2) _ = _
      rw [dpt_app _ _ _ _ (h1w d)]
      exact h2 d
theorem pCmp_wf {T : Nat → Nat} {n p : Nat} (h60 : n ≤ 60) (h : p ≤ n) : wfp (pCmp T n p) 0 := by
  have h1 := pSum_ok (T := T) h
  have h1w := pSum_wf (T := T) h60 h
  unfold pCmp
  cases hx : pSum T n p with
  | inl e => trivial
  | inr q =>
    rw [hx] at h1 h1w
    obtain ⟨a1, a2, a3⟩ := h1
    rw [pb_r]
    by_cases c : hr T n q.1 = 61 ∨ hr T n q.1 = 60 ∨ hr T n q.1 = 62
    · rw [if_pos c]
      have hp := hr_pos (T := T) (n := n) (p := q.1) (by omega)
      have h2 := pSum_wf (T := T) (n := n) (p := q.1 + 1) h60 (by omega)
      cases hy : pSum T n (q.1 + 1) with
      | inl e => trivial
      | inr r =>
        rw [hy] at h2
        intro d
        show dpt (q.2 ++ r.2 ++ [hr T n q.1]) _ = _
        rw [dpt_app _ _ _ _ (by rw [dpt_app _ _ _ _ (h1w d)]; exact h2 (d + 1))]
        exact dpt_bin (by omega)
    · rw [if_neg c]; trivial
theorem pAR_wf {T : Nat → Nat} {n : Nat} {pv : Nat → Pr} (hv : ∀ p, p ≤ n → okp n (pv p) p 0) (hvw : ∀ p, p ≤ n → wfp (pv p) 0) : ∀ (f p w : Nat), p ≤ n → n < p + f → (w = 0 ∨ w = 124) → wfp (pAR T n pv f p w) (1 + (wl w).length)
  | 0, p, w, h, hf, hw => by omega
  | f + 1, p, w, h, hf, hw => by
    unfold pAR
    by_cases c1 : hr T n p = 38
    · rw [if_pos c1]
      have hp := hr_pos (T := T) (n := n) (p := p) (by omega)
      have h1 := hv (p + 1) (by omega)
      have h1w := hvw (p + 1) (by omega)
      cases hx : pv (p + 1) with
      | inl e => trivial
      | inr q =>
        rw [hx] at h1 h1w
        obtain ⟨a1, a2, a3⟩ := h1
        have h2 := pAR_wf (T := T) hv hvw f q.1 w a3 (by omega) hw
        rw [pb_r]
        cases hy : pAR T n pv f q.1 w with
        | inl e => trivial
        | inr r =>
          rw [hy] at h2
          intro d
          show dpt (q.2 ++ [38] ++ r.2) _ = _
          have e1 := h1w (d + (1 + (wl w).length))
          rw [Nat.add_zero] at e1
          have e2 : dpt [38] (d + (1 + (wl w).length) + 1) = some (d + (1 + (wl w).length)) := dpt_bin (c := 38) (d := d + (wl w).length) (by omega) |> fun q => by
            rw [show d + (1 + (wl w).length) + 1 = d + (wl w).length + 2 by omega, q]; congr 1; omega
          rw [dpt_app _ _ _ _ (by rw [dpt_app _ _ _ _ e1]; exact e2)]
          exact h2 d
    · rw [if_neg c1]
      by_cases c2 : hr T n p = 124
      · rw [if_pos c2]
        have hp := hr_pos (T := T) (n := n) (p := p) (by omega)
        have h1 := hv (p + 1) (by omega)
        have h1w := hvw (p + 1) (by omega)
        cases hx : pv (p + 1) with
        | inl e => trivial
        | inr q =>
          rw [hx] at h1 h1w
          obtain ⟨a1, a2, a3⟩ := h1
          have h2 := pAR_wf (T := T) hv hvw f q.1 124 a3 (by omega) (Or.inr rfl)
          rw [pb_r]
          cases hy : pAR T n pv f q.1 124 with
          | inl e => trivial
          | inr r =>
            rw [hy] at h2
            intro d
            show dpt (wl w ++ q.2 ++ r.2) _ = _
            have e1 := dpt_wl (w := w) (d := d) (by omega)
            have e2 := h1w (d + 1)
            have e3 := h2 d
            rw [Nat.add_assoc] at e1
            rw [dpt_app _ _ _ _ (by rw [dpt_app _ _ _ _ e1]; exact e2)]
            exact e3
      · rw [if_neg c2]
        intro d
        show dpt (wl w) _ = _
        have e1 := dpt_wl (w := w) (d := d) (by omega)
        rw [Nat.add_assoc] at e1
        exact e1
theorem pA_wf {T : Nat → Nat} {n p : Nat} {pv : Nat → Pr} (h60 : n ≤ 60) (hv : ∀ p, p ≤ n → okp n (pv p) p 0) (hvw : ∀ p, p ≤ n → wfp (pv p) 0) (h : p ≤ n) : wfp (pA T n pv p) 0 := by
  have h1 := hv p h
  have h1w := hvw p h
  unfold pA
  cases hx : pv p with
  | inl e => trivial
  | inr q =>
    rw [hx] at h1 h1w
    obtain ⟨a1, a2, a3⟩ := h1
    have h2 := pAR_wf (T := T) hv hvw 61 q.1 0 a3 (by omega) (Or.inl rfl)
    rw [pb_r]
    cases hy : pAR T n pv 61 q.1 0 with
    | inl e => trivial
    | inr r =>
      rw [hy] at h2
      intro d
      show dpt (q.2 ++ r.2) _ = _
      rw [dpt_app _ _ _ _ (h1w d)]
      exact h2 d
theorem pT_wf {T : Nat → Nat} {n : Nat} (h60 : n ≤ 60) : ∀ (f o p : Nat), p ≤ n → wfp (pT T n f o p) 0
  | 0, o, p, h => trivial
  | f + 1, o, p, h => by
    unfold pT
    by_cases c1 : hr T n p = 33 ∨ hr T n p = 40
    · rw [if_pos c1]
      have hp := hr_pos (T := T) (n := n) (p := p) (by omega)
      by_cases c2 : 5 ≤ o
      · rw [if_pos c2]; trivial
      · rw [if_neg c2]
        by_cases c3 : hr T n p = 33
        · rw [if_pos c3]
          have h1 := pT_wf (T := T) (n := n) h60 f (o + 1) (p + 1) (by omega)
          cases hx : pT T n f (o + 1) (p + 1) with
          | inl e => trivial
          | inr q =>
            rw [hx] at h1
            intro d
            show dpt (q.2 ++ [33]) _ = _
            rw [dpt_app _ _ _ _ (h1 d)]
            rfl
        · rw [if_neg c3]
          have h1 := pA_wf (T := T) (n := n) (p := p + 1) h60 (fun p hp => pT_ok (T := T) (n := n) f (o + 1) p hp) (fun p hp => pT_wf (T := T) (n := n) h60 f (o + 1) p hp) (by omega)
          cases hx : pA T n (pT T n f (o + 1)) (p + 1) with
          | inl e => trivial
          | inr q =>
            rw [hx] at h1
            rw [pb_r]
            by_cases c4 : hr T n q.1 = 41
            · rw [if_pos c4]; exact h1
            · rw [if_neg c4]; trivial
    · rw [if_neg c1]
      exact pCmp_wf h60 h
theorem pAll_wf {T : Nat → Nat} {n : Nat} {l : List Nat} (h60 : n ≤ 60) (h : pAll T n = .inr l) : dpt l 0 = some 1 ∧ l.length ≤ n := by
  have hk := pA_ok (T := T) (n := n) (p := 0) (pv := pT T n 7 0) (fun p hp => pT_ok 7 0 p hp) (by omega)
  have hw := pA_wf (T := T) (n := n) (p := 0) (pv := pT T n 7 0) h60 (fun p hp => pT_ok 7 0 p hp) (fun p hp => pT_wf h60 7 0 p hp) (by omega)
  unfold pAll at h
  cases hx : pA T n (pT T n 7 0) 0 with
  | inl e2 =>
    rw [hx] at h
    have h : (.inl e2 : Nat ⊕ List Nat) = .inr l := h
    cases h
  | inr q =>
    rw [hx] at h hk hw
    have h : (if q.1 < n then .inl q.1 else .inr q.2 : Nat ⊕ List Nat) = .inr l := h
    by_cases e3 : q.1 < n
    · rw [if_pos e3] at h; cases h
    · rw [if_neg e3] at h
      injection h with h
      subst h
      exact ⟨hw 0, by have := hk.1; have := hk.2.2; omega⟩
