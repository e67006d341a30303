/-! The class's findAnswer whole. -/
/-- what it comes to: nothing, or the first answer -/
def FA (S : St) (a0 : Nat) (g : Lg) (x n : Nat) (l : List Nat) (b : Option (Nat × List Pg × Pg × List Pg)) : Prop := match b with
  | none => Non g x l (progs (bit g) (rkf g) n) n ∧ S.1 a0 2 = zI ((0 : Nat) : Int)
  | some (k, A, e, C) => Fnd g x l (progs (bit g) (rkf g) n) n k A e C ∧ S.1 a0 2 = zI ((1 : Nat) : Int) ∧ S.1 a0 3 = zI k ∧ S.1 a0 4 = zI (rk g x e k).2.1 ∧ S.1 a0 5 = zI e.1 ∧ PR S (a0 + 3) e.2
theorem findAnswer_ok {N a0 a1 a2 x n nT K : Nat} {T : Nat → Nat} {l p0 : List Nat} {g : Lg} {S : St} (hg : LV g) (hN : 100000 ≤ N) (h0 : 10 ≤ a0 ∧ a0 + 4 < 50) (h1 : 50 ≤ a1 ∧ a1 + 10 < 116) (h2 : 116 ≤ a2 ∧ a2 < 146) (hn : n ≤ 14) (hx : x < 1000) (hnT : nT ≤ 60) (hT : ∀ i, T i < 256) (hp : pAll T nT = .inr l) (hc : CL S a1 g) (hk : AK S a2 l) (hx2 : S.1 a2 2 = zI x) (hK : CMq S K) (hKb : K + 200000 < 2147483648) :
    ∃ S2 K2 b, f7_findAnswer N a0 a1 a2 (zI n) S = some ((), S2) ∧ FA S2 a0 g x n l b ∧ CMq S2 K2 ∧ K ≤ K2 ∧ K2 ≤ K + 147456 ∧ Same (saP a0 a2) S S2 := by
  have hcap := progs_cap (A := []) (C := progs (bit g) (rkf g) n) hg hn rfl
  rw [List.length_nil, Nat.zero_add] at hcap
  have s1 : Same (fun c _ => a0 ≤ c ∧ c ≤ a0 + 4) S (wI (wI S a0 2 (zI ((0 : Nat) : Int))) a0 3 (zI ((n + 1 : Nat) : Int))) := (Same.rfl' (P := fun c _ => a0 ≤ c ∧ c ≤ a0 + 4)) |>.wI (by omega) |>.wI (by omega)
  have s1w : Same (saP a0 a2) S (wI (wI S a0 2 (zI ((0 : Nat) : Int))) a0 3 (zI ((n + 1 : Nat) : Int))) := (Same.rfl' (P := saP a0 a2)) |>.wI (by unfold saP; omega) |>.wI (by unfold saP; omega)
  have e2 : (wI (wI S a0 2 (zI ((0 : Nat) : Int))) a0 3 (zI ((n + 1 : Nat) : Int))).1 a0 2 = zI ((0 : Nat) : Int) := by rw [rd_ne (by omega), rd_same]
  have e3 : (wI (wI S a0 2 (zI ((0 : Nat) : Int))) a0 3 (zI ((n + 1 : Nat) : Int))).1 a0 3 = zI ((n + 1 : Nat) : Int) := rd_same
  have hz : zI (n : Int) + nI 1 = zI ((n + 1 : Nat) : Int) := by rw [nI_z, zI_add]; rfl
  have hst : f7_findAnswer N a0 a1 a2 (zI n) S = bnd (f6_beEmpty (a0 + 1) (wI (wI S a0 2 (zI ((0 : Nat) : Int))) a0 3 (zI (n : Int) + nI 1))) fun q3 S4 => bnd (f3_follow N a1 (a0 + 1) ((S4.1 a0 3) - (nI 1)) S4) fun q5 S6 => f7_findAnswer_h38 N a0 a1 a2 N q5 (nI 0) S6 := rfl
  rw [hst, hz]
  generalize wI (wI S a0 2 (zI ((0 : Nat) : Int))) a0 3 (zI ((n + 1 : Nat) : Int)) = S1 at s1 s1w e2 e3
  obtain ⟨S3, b1, b2, b3⟩ := f6_beEmpty_ok (S := S1) (a := a0 + 1)
  have s3 : Same (fun c _ => a0 ≤ c ∧ c ≤ a0 + 4) S S3 := s1.tr (b3.mono (fun c k z => by unfold rgP at z; omega))
  have e2' : S3.1 a0 2 = zI ((0 : Nat) : Int) := by rw [b3.i (by unfold rgP; omega)]; exact e2
  have e3' : S3.1 a0 3 = zI ((n + 1 : Nat) : Int) := by rw [b3.i (by unfold rgP; omega)]; exact e3
  obtain ⟨S4, d1, d2, d3⟩ := follow_lim0 (N := N) (L := n) (n := n) hg (by omega : a0 + 1 + 1 < a1) (by omega) (hc.same hg s3 (fun c k z _ => by omega)) b2 hn (Nat.le_refl _)
  have s4 : Same (fun c _ => a0 ≤ c ∧ c ≤ a0 + 4) S S4 := s3.tr (d3.mono (fun c k z => by unfold rgP at z; omega))
  have hK4 : CMq S4 K := hK.same s4 (fun c k z => by unfold mcP at z; omega)
  have sw4 : Same (saP a0 a2) S S4 := (s1w.tr (b3.mono (fun c k z => by unfold rgP at z; exact Or.inr (Or.inr (Or.inl (by omega)))))).tr (d3.mono (fun c k z => by unfold rgP at z; exact Or.inr (Or.inr (Or.inl (by omega)))))
  have e2'' : S4.1 a0 2 = zI ((0 : Nat) : Int) := by rw [d3.i (by unfold rgP; omega)]; exact e2'
  have e3'' : S4.1 a0 3 = zI ((n + 1 : Nat) : Int) := by rw [d3.i (by unfold rgP; omega)]; exact e3'
  have hB : Bst g x l n [] (n + 1) none := ⟨rfl, fun f hf => by cases hf⟩
  obtain ⟨S5, K5, A5, C5, P5, b5, f1, f2, f3, f4, f5, f6, f7, f8, f9⟩ := fa_loop (N := N) (a0 := a0) (T := T) hg hN h0 h1 h2 hn hx hnT hT hp (progs (bit g) (rkf g) n) [] 0 N K (n + 1) S4 none rfl rfl (by omega) (by omega) (hc.same hg s4 (fun c k z _ => by omega)) (hk.same s4 (by omega) (fun k => by omega)) (by rw [s4.i (by omega)]; exact hx2) hB ⟨e3'', e2''⟩ d2 hK4 (by omega)
  have hrun : bnd (f6_beEmpty (a0 + 1) S1) (fun q3 S4 => bnd (f3_follow N a1 (a0 + 1) ((S4.1 a0 3) - (nI 1)) S4) fun q5 S6 => f7_findAnswer_h38 N a0 a1 a2 N q5 (nI 0) S6) = some ((), S5) := by
    have hz2 : ((n + 1 : Nat) : Int) - ((1 : Nat) : Int) = (n : Int) := by omega
    rw [b1, bnd_some, e3', nI_z 1, zI_sub, hz2, d1, bnd_some]
    exact f1
  have h1s : ∀ f ∈ progs (bit g) (rkf g) n, 1 ≤ f.1 := fun f hf => (progs_mem hf).1
  cases b5 with
  | none => exact ⟨S5, K5, none, hrun, ⟨f4.end_none f2 f3, f5.2⟩, f6, f7, by omega, sw4.tr f9⟩
  | some q =>
    obtain ⟨A1, e, A2⟩ := q
    exact ⟨S5, K5, some (P5, A1, e, A2 ++ C5), hrun, ⟨f4.end_some h1s f2 f3, f5.2.1, f5.1, f5.2.2⟩, f6, f7, by omega, sw4.tr f9⟩
