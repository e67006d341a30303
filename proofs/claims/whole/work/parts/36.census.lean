/-! The census on the class's side. -/
abbrev Ca : Type := Nat × Nat × Nat × Nat × Nat × Nat × Option (Nat × List Nat)
/-- ended, hanging, unsettled, most steps, share, what is not settled, the slowest -/
def cstr (A : Ca) (r : Mc × Nat × Nat) (wt : Nat) (e : Nat × List Nat) : Ca :=
  if r.2.2 = 1 then (A.1, A.2.1 + 1, A.2.2.1, A.2.2.2.1, A.2.2.2.2.1, A.2.2.2.2.2.1, A.2.2.2.2.2.2)
  else if r.2.2 = 2 then (A.1, A.2.1, A.2.2.1 + 1, A.2.2.2.1, A.2.2.2.2.1, A.2.2.2.2.2.1 + wt, A.2.2.2.2.2.2)
  else if A.2.2.2.1 < r.2.1 then (A.1 + 1, A.2.1, A.2.2.1, r.2.1, A.2.2.2.2.1 + wt, A.2.2.2.2.2.1, some e)
  else (A.1 + 1, A.2.1, A.2.2.1, A.2.2.2.1, A.2.2.2.2.1 + wt, A.2.2.2.2.2.1, A.2.2.2.2.2.2)
def cens1 (g : Lg) (x n t : Nat) (A : Ca) (e : Nat × List Nat) : Ca := cstr A (prun g e.2 x t) (2 ^ (n - e.1)) e
def ca0 : Ca := (0, 0, 0, 0, 0, 0, none)
def CC (S : St) (A : Ca) : Prop := S.1 32 2 = zI A.1 ∧ S.1 32 3 = zI A.2.1 ∧ S.1 32 4 = zI A.2.2.1 ∧ S.1 32 5 = zI A.2.2.2.1 ∧ S.1 32 6 = zI A.2.2.2.2.1 ∧ S.1 32 7 = zI A.2.2.2.2.2.1 ∧ (A.2.2.2.2.2.2 = none ↔ A.2.2.2.1 = 0) ∧ ∀ e, A.2.2.2.2.2.2 = some e → PR S 35 e.2
def ccP (c k : Nat) : Prop := rgP 35 c k ∨ (c = 32 ∧ 2 ≤ k ∧ k ≤ 7)
theorem CC.same {P : Nat → Nat → Prop} {S S2 : St} {A : Ca} (h : CC S A) (hs : Same P S S2) (hd : ∀ c k, ccP c k → ¬ P c k) : CC S2 A := by
  obtain ⟨h1, h2, h3, h4, h5, h6, h7, h8⟩ := h
  have r : ∀ k, 2 ≤ k → k ≤ 7 → S2.1 32 k = S.1 32 k := fun k a b => hs.i (hd 32 k (by unfold ccP; omega))
  exact ⟨by rw [r 2 (by omega) (by omega)]; exact h1, by rw [r 3 (by omega) (by omega)]; exact h2, by rw [r 4 (by omega) (by omega)]; exact h3, by rw [r 5 (by omega) (by omega)]; exact h4, by rw [r 6 (by omega) (by omega)]; exact h5, by rw [r 7 (by omega) (by omega)]; exact h6, h7, fun e he => (h8 e he).same hs (fun k => hd 35 k (by unfold ccP rgP; omega)) (fun k => hd 36 k (by unfold ccP rgP; omega))⟩
def ftP (c k : Nat) : Prop := mcP c k ∨ rgP 33 c k ∨ ccP c k
theorem enter_ok {K wt B : Nat} {S : St} {w p : List Nat} {r : Mc × Nat × Nat} {A : Ca} (h : CMr S w r.1 r.2.1 r.2.2 K) (hr2 : r.2.2 ≤ 2) (hst : r.2.1 ≤ 100000) (hA : CC S A) (hA2 : A.2.2.2.1 ≤ 100000) (hp : PR S 33 p) :
    ∃ S2, f2_enter (zI wt) S = some ((), S2) ∧ CC S2 (cstr A r wt (B, p)) ∧ Same ccP S S2 := by
  have h7 := h.2.2.2.2.2.2.1
  have h7' : ∀ S', S'.1 6 6 = S.1 6 6 → f4_state S' = some (zI r.2.2, S') := fun S' q => by unfold f4_state; rw [q, h7]
  have h6 := h.2.2.2.2.2.1
  have hA' := hA
  obtain ⟨a1, a2, a3, a4, a5, a6, a7, a8⟩ := hA
  have p35 : ∀ S2, Same (fun c _ => c = 32) S S2 → ∀ e, A.2.2.2.2.2.2 = some e → PR S2 35 e.2 := fun S2 s e he => (a8 e he).same s (fun k => by omega) (fun k => by omega)
  unfold cstr
  by_cases c1 : r.2.2 = 1
  · rw [if_pos c1]
    have h7s := h7' S rfl
    rw [c1] at h7s
    have hs : Same ccP S (wI S 32 3 (zI ((A.2.1 : Int) + ((1 : Nat) : Int)))) := (Same.rfl' (P := ccP)).wI (by unfold ccP; omega)
    refine ⟨_, ?_, ⟨by simp (disch := omega) only [a1, nI_z, zI_add, zI_sub, zI_mul, zI_m1, ckI_z, zI_clamp, Int.toNat_natCast, bnd_some, lt, rd_same, rd_ne, rdL_same, rdL_ne, wI_2, wL_1, if_true, if_false, iT_lt, iF_lt, iT_lt0, iF_lt0, iT_0lt, iF_0lt, iT_le, iF_le, iT_le0, iF_le0, iT_0le, iF_0le, iT_eq, iF_eq, iT_eq0, iF_eq0], by simp (disch := omega) only [nI_z, zI_add, zI_sub, zI_mul, zI_m1, ckI_z, zI_clamp, Int.toNat_natCast, bnd_some, lt, rd_same, rd_ne, rdL_same, rdL_ne, wI_2, wL_1, if_true, if_false, iT_lt, iF_lt, iT_lt0, iF_lt0, iT_0lt, iF_0lt, iT_le, iF_le, iT_le0, iF_le0, iT_0le, iF_0le, iT_eq, iF_eq, iT_eq0, iF_eq0]; rfl, by simp (disch := omega) only [a3, nI_z, zI_add, zI_sub, zI_mul, zI_m1, ckI_z, zI_clamp, Int.toNat_natCast, bnd_some, lt, rd_same, rd_ne, rdL_same, rdL_ne, wI_2, wL_1, if_true, if_false, iT_lt, iF_lt, iT_lt0, iF_lt0, iT_0lt, iF_0lt, iT_le, iF_le, iT_le0, iF_le0, iT_0le, iF_0le, iT_eq, iF_eq, iT_eq0, iF_eq0], by simp (disch := omega) only [a4, nI_z, zI_add, zI_sub, zI_mul, zI_m1, ckI_z, zI_clamp, Int.toNat_natCast, bnd_some, lt, rd_same, rd_ne, rdL_same, rdL_ne, wI_2, wL_1, if_true, if_false, iT_lt, iF_lt, iT_lt0, iF_lt0, iT_0lt, iF_0lt, iT_le, iF_le, iT_le0, iF_le0, iT_0le, iF_0le, iT_eq, iF_eq, iT_eq0, iF_eq0], by simp (disch := omega) only [a5, nI_z, zI_add, zI_sub, zI_mul, zI_m1, ckI_z, zI_clamp, Int.toNat_natCast, bnd_some, lt, rd_same, rd_ne, rdL_same, rdL_ne, wI_2, wL_1, if_true, if_false, iT_lt, iF_lt, iT_lt0, iF_lt0, iT_0lt, iF_0lt, iT_le, iF_le, iT_le0, iF_le0, iT_0le, iF_0le, iT_eq, iF_eq, iT_eq0, iF_eq0], by simp (disch := omega) only [a6, nI_z, zI_add, zI_sub, zI_mul, zI_m1, ckI_z, zI_clamp, Int.toNat_natCast, bnd_some, lt, rd_same, rd_ne, rdL_same, rdL_ne, wI_2, wL_1, if_true, if_false, iT_lt, iF_lt, iT_lt0, iF_lt0, iT_0lt, iF_0lt, iT_le, iF_le, iT_le0, iF_le0, iT_0le, iF_0le, iT_eq, iF_eq, iT_eq0, iF_eq0], a7, p35 _ ((Same.rfl' (P := fun c _ => c = 32)).wI rfl)⟩, hs⟩
    unfold f2_enter
    simp (disch := omega) only [h7s, a2, nI_z, zI_add, zI_sub, zI_mul, zI_m1, ckI_z, zI_clamp, Int.toNat_natCast, bnd_some, lt, rd_same, rd_ne, rdL_same, rdL_ne, wI_2, wL_1, if_true, if_false, iT_lt, iF_lt, iT_lt0, iF_lt0, iT_0lt, iF_0lt, iT_le, iF_le, iT_le0, iF_le0, iT_0le, iF_0le, iT_eq, iF_eq, iT_eq0, iF_eq0]
  · rw [if_neg c1]
    by_cases c2 : r.2.2 = 2
    · rw [if_pos c2]
      have h7s := h7' S rfl
      rw [c2] at h7s
      have hs : Same ccP S (wI (wI S 32 4 (zI ((A.2.2.1 : Int) + ((1 : Nat) : Int)))) 32 7 (zI ((A.2.2.2.2.2.1 : Int) + (wt : Int)))) := (Same.rfl' (P := ccP)) |>.wI (by unfold ccP; omega) |>.wI (by unfold ccP; omega)
      refine ⟨_, ?_, ⟨by simp (disch := omega) only [a1, nI_z, zI_add, zI_sub, zI_mul, zI_m1, ckI_z, zI_clamp, Int.toNat_natCast, bnd_some, lt, rd_same, rd_ne, rdL_same, rdL_ne, wI_2, wL_1, if_true, if_false, iT_lt, iF_lt, iT_lt0, iF_lt0, iT_0lt, iF_0lt, iT_le, iF_le, iT_le0, iF_le0, iT_0le, iF_0le, iT_eq, iF_eq, iT_eq0, iF_eq0], by simp (disch := omega) only [a2, nI_z, zI_add, zI_sub, zI_mul, zI_m1, ckI_z, zI_clamp, Int.toNat_natCast, bnd_some, lt, rd_same, rd_ne, rdL_same, rdL_ne, wI_2, wL_1, if_true, if_false, iT_lt, iF_lt, iT_lt0, iF_lt0, iT_0lt, iF_0lt, iT_le, iF_le, iT_le0, iF_le0, iT_0le, iF_0le, iT_eq, iF_eq, iT_eq0, iF_eq0], by simp (disch := omega) only [nI_z, zI_add, zI_sub, zI_mul, zI_m1, ckI_z, zI_clamp, Int.toNat_natCast, bnd_some, lt, rd_same, rd_ne, rdL_same, rdL_ne, wI_2, wL_1, if_true, if_false, iT_lt, iF_lt, iT_lt0, iF_lt0, iT_0lt, iF_0lt, iT_le, iF_le, iT_le0, iF_le0, iT_0le, iF_0le, iT_eq, iF_eq, iT_eq0, iF_eq0]; rfl, by simp (disch := omega) only [a4, nI_z, zI_add, zI_sub, zI_mul, zI_m1, ckI_z, zI_clamp, Int.toNat_natCast, bnd_some, lt, rd_same, rd_ne, rdL_same, rdL_ne, wI_2, wL_1, if_true, if_false, iT_lt, iF_lt, iT_lt0, iF_lt0, iT_0lt, iF_0lt, iT_le, iF_le, iT_le0, iF_le0, iT_0le, iF_0le, iT_eq, iF_eq, iT_eq0, iF_eq0], by simp (disch := omega) only [a5, nI_z, zI_add, zI_sub, zI_mul, zI_m1, ckI_z, zI_clamp, Int.toNat_natCast, bnd_some, lt, rd_same, rd_ne, rdL_same, rdL_ne, wI_2, wL_1, if_true, if_false, iT_lt, iF_lt, iT_lt0, iF_lt0, iT_0lt, iF_0lt, iT_le, iF_le, iT_le0, iF_le0, iT_0le, iF_0le, iT_eq, iF_eq, iT_eq0, iF_eq0], by simp (disch := omega) only [nI_z, zI_add, zI_sub, zI_mul, zI_m1, ckI_z, zI_clamp, Int.toNat_natCast, bnd_some, lt, rd_same, rd_ne, rdL_same, rdL_ne, wI_2, wL_1, if_true, if_false, iT_lt, iF_lt, iT_lt0, iF_lt0, iT_0lt, iF_0lt, iT_le, iF_le, iT_le0, iF_le0, iT_0le, iF_0le, iT_eq, iF_eq, iT_eq0, iF_eq0]; rfl, a7, p35 _ ((Same.rfl' (P := fun c _ => c = 32)) |>.wI rfl |>.wI rfl)⟩, hs⟩
      unfold f2_enter
      simp (disch := omega) only [h7s, a3, a6, nI_z, zI_add, zI_sub, zI_mul, zI_m1, ckI_z, zI_clamp, Int.toNat_natCast, bnd_some, lt, rd_same, rd_ne, rdL_same, rdL_ne, wI_2, wL_1, if_true, if_false, iT_lt, iF_lt, iT_lt0, iF_lt0, iT_0lt, iF_0lt, iT_le, iF_le, iT_le0, iF_le0, iT_0le, iF_0le, iT_eq, iF_eq, iT_eq0, iF_eq0]
    · rw [if_neg c2]
      have c0 : r.2.2 = 0 := by omega
      have h7s := h7' S rfl
      rw [c0] at h7s
      have hs : Same (fun c _ => c = 32) S (wI (wI S 32 2 (zI ((A.1 : Int) + ((1 : Nat) : Int)))) 32 6 (zI ((A.2.2.2.2.1 : Int) + (wt : Int)))) := (Same.rfl' (P := fun c _ => c = 32)) |>.wI rfl |>.wI rfl
      have hs' : Same ccP S (wI (wI S 32 2 (zI ((A.1 : Int) + ((1 : Nat) : Int)))) 32 6 (zI ((A.2.2.2.2.1 : Int) + (wt : Int)))) := (Same.rfl' (P := ccP)) |>.wI (by unfold ccP; omega) |>.wI (by unfold ccP; omega)
      by_cases c3 : A.2.2.2.1 < r.2.1
      · rw [if_pos c3]
        have hs3 : Same (fun c _ => c = 32) S (wI (wI (wI S 32 2 (zI ((A.1 : Int) + ((1 : Nat) : Int)))) 32 6 (zI ((A.2.2.2.2.1 : Int) + (wt : Int)))) 32 5 (zI r.2.1)) := hs.wI rfl
        have hs3' : Same ccP S (wI (wI (wI S 32 2 (zI ((A.1 : Int) + ((1 : Nat) : Int)))) 32 6 (zI ((A.2.2.2.2.1 : Int) + (wt : Int)))) 32 5 (zI r.2.1)) := hs'.wI (by unfold ccP; omega)
        have hv : (wI (wI (wI S 32 2 (zI ((A.1 : Int) + ((1 : Nat) : Int)))) 32 6 (zI ((A.2.2.2.2.1 : Int) + (wt : Int)))) 32 5 (zI r.2.1)).1 32 2 = zI ((A.1 + 1 : Nat) : Int) ∧ (wI (wI (wI S 32 2 (zI ((A.1 : Int) + ((1 : Nat) : Int)))) 32 6 (zI ((A.2.2.2.2.1 : Int) + (wt : Int)))) 32 5 (zI r.2.1)).1 32 3 = zI A.2.1 ∧ (wI (wI (wI S 32 2 (zI ((A.1 : Int) + ((1 : Nat) : Int)))) 32 6 (zI ((A.2.2.2.2.1 : Int) + (wt : Int)))) 32 5 (zI r.2.1)).1 32 4 = zI A.2.2.1 ∧ (wI (wI (wI S 32 2 (zI ((A.1 : Int) + ((1 : Nat) : Int)))) 32 6 (zI ((A.2.2.2.2.1 : Int) + (wt : Int)))) 32 5 (zI r.2.1)).1 32 5 = zI r.2.1 ∧ (wI (wI (wI S 32 2 (zI ((A.1 : Int) + ((1 : Nat) : Int)))) 32 6 (zI ((A.2.2.2.2.1 : Int) + (wt : Int)))) 32 5 (zI r.2.1)).1 32 6 = zI ((A.2.2.2.2.1 + wt : Nat) : Int) ∧ (wI (wI (wI S 32 2 (zI ((A.1 : Int) + ((1 : Nat) : Int)))) 32 6 (zI ((A.2.2.2.2.1 : Int) + (wt : Int)))) 32 5 (zI r.2.1)).1 32 7 = zI A.2.2.2.2.2.1 := ⟨by simp (disch := omega) only [nI_z, zI_add, zI_sub, zI_mul, zI_m1, ckI_z, zI_clamp, Int.toNat_natCast, bnd_some, lt, rd_same, rd_ne, rdL_same, rdL_ne, wI_2, wL_1, if_true, if_false, iT_lt, iF_lt, iT_lt0, iF_lt0, iT_0lt, iF_0lt, iT_le, iF_le, iT_le0, iF_le0, iT_0le, iF_0le, iT_eq, iF_eq, iT_eq0, iF_eq0]; rfl, by simp (disch := omega) only [a2, nI_z, zI_add, zI_sub, zI_mul, zI_m1, ckI_z, zI_clamp, Int.toNat_natCast, bnd_some, lt, rd_same, rd_ne, rdL_same, rdL_ne, wI_2, wL_1, if_true, if_false, iT_lt, iF_lt, iT_lt0, iF_lt0, iT_0lt, iF_0lt, iT_le, iF_le, iT_le0, iF_le0, iT_0le, iF_0le, iT_eq, iF_eq, iT_eq0, iF_eq0], by simp (disch := omega) only [a3, nI_z, zI_add, zI_sub, zI_mul, zI_m1, ckI_z, zI_clamp, Int.toNat_natCast, bnd_some, lt, rd_same, rd_ne, rdL_same, rdL_ne, wI_2, wL_1, if_true, if_false, iT_lt, iF_lt, iT_lt0, iF_lt0, iT_0lt, iF_0lt, iT_le, iF_le, iT_le0, iF_le0, iT_0le, iF_0le, iT_eq, iF_eq, iT_eq0, iF_eq0], by simp (disch := omega) only [nI_z, zI_add, zI_sub, zI_mul, zI_m1, ckI_z, zI_clamp, Int.toNat_natCast, bnd_some, lt, rd_same, rd_ne, rdL_same, rdL_ne, wI_2, wL_1, if_true, if_false, iT_lt, iF_lt, iT_lt0, iF_lt0, iT_0lt, iF_0lt, iT_le, iF_le, iT_le0, iF_le0, iT_0le, iF_0le, iT_eq, iF_eq, iT_eq0, iF_eq0], by simp (disch := omega) only [nI_z, zI_add, zI_sub, zI_mul, zI_m1, ckI_z, zI_clamp, Int.toNat_natCast, bnd_some, lt, rd_same, rd_ne, rdL_same, rdL_ne, wI_2, wL_1, if_true, if_false, iT_lt, iF_lt, iT_lt0, iF_lt0, iT_0lt, iF_0lt, iT_le, iF_le, iT_le0, iF_le0, iT_0le, iF_0le, iT_eq, iF_eq, iT_eq0, iF_eq0]; rfl, by simp (disch := omega) only [a6, nI_z, zI_add, zI_sub, zI_mul, zI_m1, ckI_z, zI_clamp, Int.toNat_natCast, bnd_some, lt, rd_same, rd_ne, rdL_same, rdL_ne, wI_2, wL_1, if_true, if_false, iT_lt, iF_lt, iT_lt0, iF_lt0, iT_0lt, iF_0lt, iT_le, iF_le, iT_le0, iF_le0, iT_0le, iF_0le, iT_eq, iF_eq, iT_eq0, iF_eq0]⟩
        have e1 : ∀ K2 : St → Option (Unit × St), True := fun _ => trivial
        generalize hS1 : wI (wI (wI S 32 2 (zI ((A.1 : Int) + ((1 : Nat) : Int)))) 32 6 (zI ((A.2.2.2.2.1 : Int) + (wt : Int)))) 32 5 (zI r.2.1) = S1 at hs3 hs3' hv
        obtain ⟨v1, v2, v3, v4, v5, v6⟩ := hv
        have hp1 : PR S1 33 p := hp.same hs3 (fun k => by omega) (fun k => by omega)
        obtain ⟨S2, b1, b2, b3⟩ := f6_become_ok (a0 := 35) (by omega) (by omega) hp1
        have q : ∀ k, S2.1 32 k = S1.1 32 k := fun k => b3.i (by unfold rgP; omega)
        refine ⟨S2, ?_, ⟨by rw [q]; exact v1, by rw [q]; exact v2, by rw [q]; exact v3, by rw [q]; exact v4, by rw [q]; exact v5, by rw [q]; exact v6, ⟨fun z => (by cases z), fun z => absurd z (by show ¬ r.2.1 = 0; omega)⟩, fun e he => ?_⟩, hs3'.tr (b3.mono (fun c k z => Or.inl z))⟩
        · unfold f2_enter
          simp (disch := omega) only [h7s, a1, a4, a5, f4_steps, h6, nI_z, zI_add, zI_sub, zI_mul, zI_m1, ckI_z, zI_clamp, Int.toNat_natCast, bnd_some, lt, rd_same, rd_ne, rdL_same, rdL_ne, wI_2, wL_1, if_true, if_false, iT_lt, iF_lt, iT_lt0, iF_lt0, iT_0lt, iF_0lt, iT_le, iF_le, iT_le0, iF_le0, iT_0le, iF_0le, iT_eq, iF_eq, iT_eq0, iF_eq0]
          rw [hS1, b1, bnd_some]
        · injection he with he
          rw [← he]
          exact b2
      · rw [if_neg c3]
        refine ⟨_, ?_, ⟨by simp (disch := omega) only [nI_z, zI_add, zI_sub, zI_mul, zI_m1, ckI_z, zI_clamp, Int.toNat_natCast, bnd_some, lt, rd_same, rd_ne, rdL_same, rdL_ne, wI_2, wL_1, if_true, if_false, iT_lt, iF_lt, iT_lt0, iF_lt0, iT_0lt, iF_0lt, iT_le, iF_le, iT_le0, iF_le0, iT_0le, iF_0le, iT_eq, iF_eq, iT_eq0, iF_eq0]; rfl, by simp (disch := omega) only [a2, nI_z, zI_add, zI_sub, zI_mul, zI_m1, ckI_z, zI_clamp, Int.toNat_natCast, bnd_some, lt, rd_same, rd_ne, rdL_same, rdL_ne, wI_2, wL_1, if_true, if_false, iT_lt, iF_lt, iT_lt0, iF_lt0, iT_0lt, iF_0lt, iT_le, iF_le, iT_le0, iF_le0, iT_0le, iF_0le, iT_eq, iF_eq, iT_eq0, iF_eq0], by simp (disch := omega) only [a3, nI_z, zI_add, zI_sub, zI_mul, zI_m1, ckI_z, zI_clamp, Int.toNat_natCast, bnd_some, lt, rd_same, rd_ne, rdL_same, rdL_ne, wI_2, wL_1, if_true, if_false, iT_lt, iF_lt, iT_lt0, iF_lt0, iT_0lt, iF_0lt, iT_le, iF_le, iT_le0, iF_le0, iT_0le, iF_0le, iT_eq, iF_eq, iT_eq0, iF_eq0], by simp (disch := omega) only [a4, nI_z, zI_add, zI_sub, zI_mul, zI_m1, ckI_z, zI_clamp, Int.toNat_natCast, bnd_some, lt, rd_same, rd_ne, rdL_same, rdL_ne, wI_2, wL_1, if_true, if_false, iT_lt, iF_lt, iT_lt0, iF_lt0, iT_0lt, iF_0lt, iT_le, iF_le, iT_le0, iF_le0, iT_0le, iF_0le, iT_eq, iF_eq, iT_eq0, iF_eq0], by simp (disch := omega) only [nI_z, zI_add, zI_sub, zI_mul, zI_m1, ckI_z, zI_clamp, Int.toNat_natCast, bnd_some, lt, rd_same, rd_ne, rdL_same, rdL_ne, wI_2, wL_1, if_true, if_false, iT_lt, iF_lt, iT_lt0, iF_lt0, iT_0lt, iF_0lt, iT_le, iF_le, iT_le0, iF_le0, iT_0le, iF_0le, iT_eq, iF_eq, iT_eq0, iF_eq0]; rfl, by simp (disch := omega) only [a6, nI_z, zI_add, zI_sub, zI_mul, zI_m1, ckI_z, zI_clamp, Int.toNat_natCast, bnd_some, lt, rd_same, rd_ne, rdL_same, rdL_ne, wI_2, wL_1, if_true, if_false, iT_lt, iF_lt, iT_lt0, iF_lt0, iT_0lt, iF_0lt, iT_le, iF_le, iT_le0, iF_le0, iT_0le, iF_0le, iT_eq, iF_eq, iT_eq0, iF_eq0], a7, p35 _ hs⟩, hs'⟩
        unfold f2_enter
        simp (disch := omega) only [h7s, a1, a4, a5, f4_steps, h6, nI_z, zI_add, zI_sub, zI_mul, zI_m1, ckI_z, zI_clamp, Int.toNat_natCast, bnd_some, lt, rd_same, rd_ne, rdL_same, rdL_ne, wI_2, wL_1, if_true, if_false, iT_lt, iF_lt, iT_lt0, iF_lt0, iT_0lt, iF_0lt, iT_le, iF_le, iT_le0, iF_le0, iT_0le, iF_0le, iT_eq, iF_eq, iT_eq0, iF_eq0]
theorem cstr_facts {A : Ca} {r : Mc × Nat × Nat} {wt : Nat} {e : Nat × List Nat} (hr : r.2.1 ≤ 100000) (hr2 : r.2.2 ≤ 2) (h : A.2.2.2.1 ≤ 100000) : (cstr A r wt e).2.2.2.1 ≤ 100000 ∧ (cstr A r wt e).1 + (cstr A r wt e).2.1 + (cstr A r wt e).2.2.1 = A.1 + A.2.1 + A.2.2.1 + 1 ∧ (cstr A r wt e).2.2.2.2.1 + (cstr A r wt e).2.2.2.2.2.1 ≤ A.2.2.2.2.1 + A.2.2.2.2.2.1 + wt := by
  unfold cstr
  split
  · exact ⟨h, by show A.1 + (A.2.1 + 1) + A.2.2.1 = _; omega, by show A.2.2.2.2.1 + A.2.2.2.2.2.1 ≤ _; omega⟩
  · split
    · exact ⟨h, by show A.1 + A.2.1 + (A.2.2.1 + 1) = _; omega, by show A.2.2.2.2.1 + (A.2.2.2.2.2.1 + wt) ≤ _; omega⟩
    · split
      · exact ⟨hr, by show A.1 + 1 + A.2.1 + A.2.2.1 = _; omega, by show A.2.2.2.2.1 + wt + A.2.2.2.2.2.1 ≤ _; omega⟩
      · exact ⟨h, by show A.1 + 1 + A.2.1 + A.2.2.1 = _; omega, by show A.2.2.2.2.1 + wt + A.2.2.2.2.2.1 ≤ _; omega⟩
theorem f2_take_loop {N a x t n : Nat} {g : Lg} (hg : LV g) (ha : 50 ≤ a) (hN : 100000 ≤ N) (hn : n ≤ 14) (hx : x < 1000) (ht : t < 100000) : ∀ (C A : List (Nat × List Nat)) (k m K : Nat) (S : St) (acc : Ca), progs (bit g) (rkf g) n = A ++ C → k = A.length → C.length < m → CL S a g → PRh S 33 C → CMq S K → K + 9 * C.length + 10 < 2147483648 → CC S acc → acc.2.2.2.1 ≤ 100000 →
    ∃ S2 K2, f2_take_h51 N a (zI n) (zI t) (zI x) m (zI (hdz C)) (zI k) S = some ((), S2) ∧ CC S2 (C.foldl (cens1 g x n t) acc) ∧ CMq S2 K2 ∧ K ≤ K2 ∧ K2 ≤ K + 9 * C.length ∧ Same ftP S S2 := by
  intro C
  induction C with
  | nil =>
    intro A k m K S acc hp hk hm hc hh hK hb hv hac
    obtain ⟨m, rfl⟩ : ∃ z, m = z + 1 := ⟨m - 1, by omega⟩
    have hcap := progs_cap hg hn hp
    refine ⟨S, K, ?_, hv, hK, by omega, by omega, Same.rfl'⟩
    rw [f2_take_h51]
    have hz : hdz [] = 0 := rfl
    rw [hz]
    simp (disch := omega) only [nI_z, zI_add, zI_sub, zI_mul, zI_m1, ckI_z, zI_clamp, Int.toNat_natCast, bnd_some, lt, rd_same, rd_ne, rdL_same, rdL_ne, wI_2, wL_1, if_true, if_false, iT_lt, iF_lt, iT_lt0, iF_lt0, iT_0lt, iF_0lt, iT_le, iF_le, iT_le0, iF_le0, iT_0le, iF_0le, iT_eq, iF_eq, iT_eq0, iF_eq0]
  | cons e C ih =>
    intro A k m K S acc hp hk hm hc hh hK hb hv hac
    obtain ⟨m, rfl⟩ : ∃ z, m = z + 1 := ⟨m - 1, by omega⟩
    have hcap := progs_cap hg hn hp
    obtain ⟨p1, p2, p3, p4, p5⟩ := progs_wp hg hp
    rw [List.length_cons] at hm hb hcap
    obtain ⟨S1, S2, a1, a2, a3, a4, a5⟩ := f4_run_ok (N := N) (x := x) (t := t) hg (by omega : 11 ≤ a) (by omega : 33 + 1 < 6 ∨ 9 < 33) hN p3 p4 hx (by omega) ht hc (hh e C rfl) hK
    obtain ⟨i1, i2, i3⟩ := prun_MI (g := g) (p := e.2) (x := x) (t := t) hx
    have hv2 := hv.same a5 (fun c k z => by unfold ccP rgP at z; unfold mcP; omega)
    have hp2 : PR S2 33 e.2 := (hh e C rfl).same a5 (fun k => by unfold mcP; omega) (fun k => by unfold mcP; omega)
    obtain ⟨S3, b1, b2, b3⟩ := enter_ok (wt := 2 ^ (n - e.1)) (B := e.1) a3 i2 (by omega) hv2 hac hp2
    have s3 : Same ftP S S3 := (a5.mono (fun c k z => Or.inl z)).tr (b3.mono (fun c k z => Or.inr (Or.inr z)))
    have hc3 : CL S3 a g := hc.same hg s3 (fun c k z _ => by unfold ftP mcP ccP rgP; omega)
    have hp3 : PR S3 33 e.2 := hp2.same b3 (fun k => by unfold ccP rgP; omega) (fun k => by unfold ccP rgP; omega)
    have hf := f3_follow_next (N := N) (L := n) (B := e.1) (p := e.2) hg (by omega : 33 + 1 < a) (by omega) hc3 hp3 hn hp
    obtain ⟨S4, d1, d2, d3⟩ := flw_go hf
    have s4 : Same ftP S S4 := s3.tr (d3.mono (fun c k z => Or.inr (Or.inl z)))
    have hq : CMq S4 (K + 1 + (prun g e.2 x t).1.2.2.2.1.length) := (a3.q.same b3 (fun c k z => by unfold mcP at z; unfold ccP rgP; omega)).same d3 (fun c k z => by unfold mcP at z; unfold rgP; omega)
    have hl8 := i1.2.2.1
    have hle := cstr_facts (A := acc) (r := prun g e.2 x t) (wt := 2 ^ (n - e.1)) (e := e) (by omega) i2 hac
    obtain ⟨S5, K5, f1, f2, f3, f4, f5, f6⟩ := ih (A ++ [e]) (k + 1) m _ S4 (cens1 g x n t acc e) (by rw [hp]; simp) (by rw [hk]; simp) (by omega) (hc.same hg s4 (fun c k z _ => by unfold ftP mcP ccP rgP; omega)) d2 hq (by omega) (CC.same b2 d3 (fun c k z => by unfold ccP rgP at z; unfold rgP; omega)) hle.1
    refine ⟨S5, K5, ?_, f2, f3, by omega, by rw [List.length_cons]; omega, s4.tr f6⟩
    have hz : hdz (e :: C) = e.1 := rfl
    rw [f2_take_h51, hz]
    simp (disch := omega) only [a1, a2, sh1 p2 hn, b1, d1, nI_z, zI_add, zI_sub, zI_mul, zI_m1, ckI_z, zI_clamp, Int.toNat_natCast, bnd_some, lt, rd_same, rd_ne, rdL_same, rdL_ne, wI_2, wL_1, if_true, if_false, iT_lt, iF_lt, iT_lt0, iF_lt0, iT_0lt, iF_0lt, iT_le, iF_le, iT_le0, iF_le0, iT_0le, iF_0le, iT_eq, iF_eq, iT_eq0, iF_eq0]
    exact f1
def censP (g : Lg) (x n t : Nat) : Ca := (progs (bit g) (rkf g) n).foldl (cens1 g x n t) ca0
theorem f2_take_ok {N a x t n K : Nat} {S : St} {g : Lg} (hg : LV g) (ha : 50 ≤ a) (hN : 100000 ≤ N) (hn : n ≤ 14) (hx : x < 1000) (ht : t < 100000) (hc : CL S a g) (hK : CMq S K) (hb : K + 200000 < 2147483648) : ∃ S2 K2, f2_take N a (zI n) (zI t) (zI x) S = some ((), S2) ∧ CC S2 (censP g x n t) ∧ CMq S2 K2 ∧ K ≤ K2 ∧ K2 ≤ K + 147456 ∧ Same ftP S S2 := by
  have s1 : Same (fun c k => c = 32 ∧ 2 ≤ k ∧ k ≤ 7) S (wI (wI (wI (wI (wI (wI S 32 2 (zI ((0 : Nat) : Int))) 32 3 (zI ((0 : Nat) : Int))) 32 4 (zI ((0 : Nat) : Int))) 32 5 (zI ((0 : Nat) : Int))) 32 6 (zI ((0 : Nat) : Int))) 32 7 (zI ((0 : Nat) : Int))) := (Same.rfl' (P := fun c k => c = 32 ∧ 2 ≤ k ∧ k ≤ 7)) |>.wI (by omega) |>.wI (by omega) |>.wI (by omega) |>.wI (by omega) |>.wI (by omega) |>.wI (by omega)
  have v1 : CC (wI (wI (wI (wI (wI (wI S 32 2 (zI ((0 : Nat) : Int))) 32 3 (zI ((0 : Nat) : Int))) 32 4 (zI ((0 : Nat) : Int))) 32 5 (zI ((0 : Nat) : Int))) 32 6 (zI ((0 : Nat) : Int))) 32 7 (zI ((0 : Nat) : Int))) ca0 := by
    refine ⟨?_, ?_, ?_, ?_, ?_, ?_, ⟨fun _ => rfl, fun _ => rfl⟩, fun e he => (by cases he)⟩
    all_goals simp (disch := omega) only [nI_z, zI_add, zI_sub, zI_mul, zI_m1, ckI_z, zI_clamp, Int.toNat_natCast, bnd_some, lt, rd_same, rd_ne, rdL_same, rdL_ne, wI_2, wL_1, if_true, if_false, iT_lt, iF_lt, iT_lt0, iF_lt0, iT_0lt, iF_0lt, iT_le, iF_le, iT_le0, iF_le0, iT_0le, iF_0le, iT_eq, iF_eq, iT_eq0, iF_eq0]
    all_goals rfl
  generalize hS1 : wI (wI (wI (wI (wI (wI S 32 2 (zI ((0 : Nat) : Int))) 32 3 (zI ((0 : Nat) : Int))) 32 4 (zI ((0 : Nat) : Int))) 32 5 (zI ((0 : Nat) : Int))) 32 6 (zI ((0 : Nat) : Int))) 32 7 (zI ((0 : Nat) : Int)) = S1 at s1 v1
  have s1' : Same ftP S S1 := s1.mono (fun c k z => Or.inr (Or.inr (Or.inr z)))
  obtain ⟨S2, b1, b2, b3⟩ := f6_beEmpty_ok (S := S1) (a := 33)
  have s2 : Same ftP S S2 := s1'.tr (b3.mono (fun c k z => Or.inr (Or.inl z)))
  have hf := f3_follow_first (N := N) (L := n) hg (by omega : 33 + 1 < a) (by omega) (hc.same hg s2 (fun c k z _ => by unfold ftP mcP ccP rgP; omega)) b2 hn
  obtain ⟨S3, d1, d2, d3⟩ := flw_go hf
  have s3 : Same ftP S S3 := s2.tr (d3.mono (fun c k z => Or.inr (Or.inl z)))
  have hcap := progs_cap (A := []) (C := progs (bit g) (rkf g) n) hg hn rfl
  rw [List.length_nil, Nat.zero_add] at hcap
  have hK3 : CMq S3 K := ((hK.same s1 (fun c k z => by unfold mcP at z; omega)).same b3 (fun c k z => by unfold mcP at z; unfold rgP; omega)).same d3 (fun c k z => by unfold mcP at z; unfold rgP; omega)
  obtain ⟨S4, K4, f1, f2, f3, f4, f5, f6⟩ := f2_take_loop (N := N) (t := t) hg ha hN hn hx ht (progs (bit g) (rkf g) n) [] 0 N K S3 ca0 rfl rfl (by omega) (hc.same hg s3 (fun c k z _ => by unfold ftP mcP ccP rgP; omega)) d2 hK3 (by omega) ((v1.same b3 (fun c k z => by unfold ccP rgP at z; unfold rgP; omega)).same d3 (fun c k z => by unfold ccP rgP at z; unfold rgP; omega)) (by decide)
  refine ⟨S4, K4, ?_, f2, f3, f4, by omega, s3.tr f6⟩
  unfold f2_take
  simp (disch := omega) only [nI_z, zI_add, zI_sub, zI_mul, zI_m1, ckI_z, zI_clamp, Int.toNat_natCast, bnd_some, lt, rd_same, rd_ne, rdL_same, rdL_ne, wI_2, wL_1, if_true, if_false, iT_lt, iF_lt, iT_lt0, iF_lt0, iT_0lt, iF_0lt, iT_le, iF_le, iT_le0, iF_le0, iT_0le, iF_0le, iT_eq, iF_eq, iT_eq0, iF_eq0]
  rw [hS1, b1, bnd_some, d1]
  exact f1
