/-! The reference's list of programs is progs. -/
def LQ (S : St) (L : List (Nat × Nat)) : Prop := S.1 146 28 = zI L.length ∧ ∀ j e, L[j]? = some e → S.2 160 j = lN e.1 ∧ S.1 161 j = zI e.2
def liP (c p : Nat) : Prop := c = 160 ∨ c = 161 ∨ (c = 146 ∧ p = 28)
theorem ML.li {S S2 : St} {k : Nat} {g : Lg} (h : ML S k g) (hv : LV g) (hs : Same liP S S2) : ML S2 k g := h.same hv hs (fun c p _ _ _ => by unfold liP; omega) (fun p _ _ => by unfold liP; omega) (fun p _ _ => by unfold liP; omega) (by unfold liP; omega)
theorem LQ.push {S : St} {L : List (Nat × Nat)} (h : LQ S L) (a b : Nat) : LQ (wI (wI (wL S 160 L.length (lN a)) 161 L.length (zI b)) 146 28 (zI ((L.length : Int) + ((1 : Nat) : Int)))) (L ++ [(a, b)]) ∧ Same liP S (wI (wI (wL S 160 L.length (lN a)) 161 L.length (zI b)) 146 28 (zI ((L.length : Int) + ((1 : Nat) : Int)))) := by
  refine ⟨⟨by rw [rd_same, List.length_append]; rfl, fun j e hj => ?_⟩, ((Same.rfl'.wL (Or.inl rfl)).wI (Or.inr (Or.inl rfl))).wI (Or.inr (Or.inr ⟨rfl, rfl⟩))⟩
  have hlt : j < L.length + 1 := by
    have := (List.getElem?_eq_some_iff.mp hj).1
    simpa using this
  by_cases q : j = L.length
  · subst q
    obtain rfl : e = (a, b) := by simpa [eq_comm] using hj
    exact ⟨by rw [wI_2, wI_2, rdL_same], by rw [rd_ne (by omega), rd_same]⟩
  · rw [List.getElem?_append_left (by omega)] at hj
    obtain ⟨h1, h2⟩ := h.2 j e hj
    exact ⟨by rw [wI_2, wI_2, rdL_ne (by omega), h1], by rw [rd_ne (by omega), rd_ne (by omega), wL_1, h2]⟩
