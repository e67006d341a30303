/-! The call shortest on both sides. -/
theorem f6_become_ok {S : St} {a0 a1 : Nat} {p : List Nat} (hd : a1 ≠ a0 + 1) (h0 : a0 ≠ a1) (h : PR S a1 p) : ∃ S2, f6_become a0 a1 S = some ((), S2) ∧ PR S2 a0 p ∧ Same (rgP a0) S S2 := by
  obtain ⟨h1, h2, h3, h4⟩ := h
  have hs : Same (rgP a0) S (wI (cpI S (a1 + 1) 0 (a0 + 1) 0 12) a0 1 (zI p.length)) := (Same.cp (Same.rfl' (P := rgP a0)) (fun k _ _ => Or.inr rfl)).wI (Or.inl rfl)
  refine ⟨_, ?_, ⟨by simp (disch := omega) only [nI_z, zI_add, zI_sub, zI_mul, zI_m1, ckI_z, zI_clamp, Int.toNat_natCast, bnd_some, lt, rd_same, rd_ne, rdL_same, rdL_ne, wI_2, wL_1, if_true, if_false, iT_lt, iF_lt, iT_lt0, iF_lt0, iT_0lt, iF_0lt, iT_le, iF_le, iT_le0, iF_le0, iT_0le, iF_0le, iT_eq, iF_eq, iT_eq0, iF_eq0], h2, h3, fun i x hi => ?_⟩, hs⟩
  · unfold f6_become
    have e : (cpI S (a1 + 1) 0 (a0 + 1) 0 12).1 a1 1 = S.1 a1 1 := cp_out (Or.inl hd)
    simp (disch := omega) only [ckC_ok, nI_z, zI_add, zI_sub, zI_mul, zI_m1, ckI_z, zI_clamp, Int.toNat_natCast, bnd_some, lt, rd_same, rd_ne, rdL_same, rdL_ne, wI_2, wL_1, if_true, if_false, iT_lt, iF_lt, iT_lt0, iF_lt0, iT_0lt, iF_0lt, iT_le, iF_le, iT_le0, iF_le0, iT_0le, iF_0le, iT_eq, iF_eq, iT_eq0, iF_eq0]
    have e2 : (cpI S (a1 + 1) ((((0 : Nat) : Int)).toNat) (a0 + 1) ((((0 : Nat) : Int)).toNat) ((((12 : Nat) : Int)).toNat)).1 a1 1 = zI p.length := e.trans h1
    first | rw [e2]; rfl | (rw [e, h1])
  · have hl := (List.getElem?_eq_some_iff.mp hi).1
    have := h4 i x hi
    rw [Nat.zero_add] at this ⊢
    rw [rd_ne (by omega), cp_in (by omega), show 0 + (i - 0) = i by omega]
    exact this
abbrev Sa : Type := Option (Nat × List Nat) × Nat × Nat
def sstr (row : List Nat) (A : Sa) (r : Mc × Nat × Nat) (e : Nat × List Nat) : Sa :=
  if r.2.2 = 0 ∧ r.1.2.2.2.1.length = row.length ∧ lk r.1.2.2.2.1 row = row.length then ((match A.1 with | none => some e | some f => some f), A.2.1 + 1, A.2.2)
  else if A.1 = none ∧ r.2.2 = 2 then (A.1, A.2.1, 0) else A
def sst (g : Lg) (row : List Nat) (t : Nat) (A : Sa) (e : Nat × List Nat) : Sa := sstr row A (prun g e.2 0 t) e
def sa0 : Sa := (none, 0, 1)
def SC (S : St) (A : Sa) : Prop := S.1 26 5 = zI A.2.1 ∧ S.1 26 6 = zI A.2.2 ∧ (A.1 = none ↔ A.2.1 = 0) ∧ (∀ e, A.1 = some e → PR S 29 e.2) ∧ A.2.2 ≤ 1
def scP (c k : Nat) : Prop := rgP 29 c k ∨ (c = 26 ∧ 5 ≤ k ∧ k ≤ 6)
theorem SC.same {P : Nat → Nat → Prop} {S S2 : St} {A : Sa} (h : SC S A) (hs : Same P S S2) (hd : ∀ c k, scP c k → ¬ P c k) : SC S2 A := ⟨by rw [hs.i (hd 26 5 (by unfold scP; omega))]; exact h.1, by rw [hs.i (hd 26 6 (by unfold scP; omega))]; exact h.2.1, h.2.2.1, fun e he => (h.2.2.2.1 e he).same hs (fun k => hd 29 k (by unfold scP rgP; omega)) (fun k => hd 30 k (by unfold scP rgP; omega)), h.2.2.2.2⟩
def fsP (c k : Nat) : Prop := mcP c k ∨ rgP 27 c k ∨ scP c k
theorem f4_saidJust_ok {N : Nat} {S : St} {w row : List Nat} {m : Mc} {s st K : Nat} (hN : 20 ≤ N) (h : CMr S w m s st K) (hm : MIq m) (hr : Qsay S row) : f4_saidJust N S = some (bI (m.2.2.2.1.length = row.length ∧ lk m.2.2.2.1 row = row.length), S) := by
  have hl := f4_likeTold_ok (N := N) hN h hm hr
  have h8 := h.2.2.2.2.2.2.2.1
  have m3 := hm.2.2.1
  have hlk := lk_le m.2.2.2.1 row
  obtain ⟨r1, r2, r3, r4, r5, r6⟩ := hr
  unfold f4_saidJust
  by_cases e : m.2.2.2.1.length = row.length
  · by_cases e2 : lk m.2.2.2.1 row = row.length
    · rw [bI_t ⟨e, e2⟩]
      simp (disch := omega) only [f10_length, r3, h8, hl, nI_z, zI_add, zI_sub, zI_mul, zI_m1, ckI_z, zI_clamp, Int.toNat_natCast, bnd_some, lt, rd_same, rd_ne, rdL_same, rdL_ne, wI_2, wL_1, if_true, if_false, iT_lt, iF_lt, iT_lt0, iF_lt0, iT_0lt, iF_0lt, iT_le, iF_le, iT_le0, iF_le0, iT_0le, iF_0le, iT_eq, iF_eq, iT_eq0, iF_eq0]
      rfl
    · rw [bI_f (fun q => e2 q.2)]
      simp (disch := omega) only [f10_length, r3, h8, hl, nI_z, zI_add, zI_sub, zI_mul, zI_m1, ckI_z, zI_clamp, Int.toNat_natCast, bnd_some, lt, rd_same, rd_ne, rdL_same, rdL_ne, wI_2, wL_1, if_true, if_false, iT_lt, iF_lt, iT_lt0, iF_lt0, iT_0lt, iF_0lt, iT_le, iF_le, iT_le0, iF_le0, iT_0le, iF_0le, iT_eq, iF_eq, iT_eq0, iF_eq0]
      rfl
  · rw [bI_f (fun q => e q.1)]
    simp (disch := omega) only [f10_length, r3, h8, nI_z, zI_add, zI_sub, zI_mul, zI_m1, ckI_z, zI_clamp, Int.toNat_natCast, bnd_some, lt, rd_same, rd_ne, rdL_same, rdL_ne, wI_2, wL_1, if_true, if_false, iT_lt, iF_lt, iT_lt0, iF_lt0, iT_0lt, iF_0lt, iT_le, iF_le, iT_le0, iF_le0, iT_0le, iF_0le, iT_eq, iF_eq, iT_eq0, iF_eq0]
    rfl
/-- what becomes of a program at hand, on the class's side -/
theorem f5_short_body {N a t n K : Nat} {S : St} {w row p : List Nat} {r : Mc × Nat × Nat} {A : Sa} {B : Nat} {k31 : Int32 → Int32 → St → Option (Unit × St)} {x3 x4 x7 : Int32} (hN : 20 ≤ N) (h : CMr S w r.1 r.2.1 r.2.2 K) (hm : MIq r.1) (hr2 : r.2.2 ≤ 2) (hr : Qsay S row) (hA : SC S A) (hA2 : A.2.1 < 100000) (hp : PR S 27 p) :
    ∃ S2, (bnd (f4_state S) fun q7 S8 =>
      if q7 = 0 then
        bnd (f4_saidJust N S8) fun q10 S11 =>
        if q10 = 0 then
          f5_findShortest_j109 N a x3 x4 x7 k31 S11
        else
        if (S11.1 26 5) = 0 then
          bnd (f6_become 29 27 S11) fun q14 S15 =>
          f5_findShortest_j96 N a x3 x4 x7 k31 S15
        else
        f5_findShortest_j96 N a x3 x4 x7 k31 S11
      else
      f5_findShortest_j109 N a x3 x4 x7 k31 S8) = f5_findShortest_j130 N a x3 x4 x7 k31 S2 ∧ SC S2 (sstr row A r (B, p)) ∧ Same scP S S2 := by
  have hj := f4_saidJust_ok (N := N) hN h hm hr
  have h7 := h.2.2.2.2.2.2.1
  have h7' : f4_state S = some (zI r.2.2, S) := by unfold f4_state; rw [h7]
  have hA' := hA
  obtain ⟨a1, a2, a3, a4, a5⟩ := hA
  have jno : ∀ c1 : ¬ (r.2.2 = 0 ∧ r.1.2.2.2.1.length = row.length ∧ lk r.1.2.2.2.1 row = row.length), ∃ S2, f5_findShortest_j109 N a x3 x4 x7 k31 S = f5_findShortest_j130 N a x3 x4 x7 k31 S2 ∧ SC S2 (sstr row A r (B, p)) ∧ Same scP S S2 := fun c1 => by
    unfold sstr
    rw [if_neg c1]
    by_cases c2 : A.1 = none ∧ r.2.2 = 2
    · rw [if_pos c2]
      have a0 := a3.mp c2.1
      rw [a0] at a1
      rw [c2.2] at h7'
      have hs : Same scP S (wI S 26 6 (zI ((0 : Nat) : Int))) := (Same.rfl' (P := scP)).wI (by unfold scP; omega)
      refine ⟨_, ?_, ⟨by simp (disch := omega) only [a1, a0, nI_z, zI_add, zI_sub, zI_mul, zI_m1, ckI_z, zI_clamp, Int.toNat_natCast, bnd_some, lt, rd_same, rd_ne, rdL_same, rdL_ne, wI_2, wL_1, if_true, if_false, iT_lt, iF_lt, iT_lt0, iF_lt0, iT_0lt, iF_0lt, iT_le, iF_le, iT_le0, iF_le0, iT_0le, iF_0le, iT_eq, iF_eq, iT_eq0, iF_eq0], by simp (disch := omega) only [nI_z, zI_add, zI_sub, zI_mul, zI_m1, ckI_z, zI_clamp, Int.toNat_natCast, bnd_some, lt, rd_same, rd_ne, rdL_same, rdL_ne, wI_2, wL_1, if_true, if_false, iT_lt, iF_lt, iT_lt0, iF_lt0, iT_0lt, iF_0lt, iT_le, iF_le, iT_le0, iF_le0, iT_0le, iF_0le, iT_eq, iF_eq, iT_eq0, iF_eq0], a3, fun e he => ?_, by show 0 ≤ 1; omega⟩, hs⟩
      · unfold f5_findShortest_j109
        simp (disch := omega) only [a1, h7', nI_z, zI_add, zI_sub, zI_mul, zI_m1, ckI_z, zI_clamp, Int.toNat_natCast, bnd_some, lt, rd_same, rd_ne, rdL_same, rdL_ne, wI_2, wL_1, if_true, if_false, iT_lt, iF_lt, iT_lt0, iF_lt0, iT_0lt, iF_0lt, iT_le, iF_le, iT_le0, iF_le0, iT_0le, iF_0le, iT_eq, iF_eq, iT_eq0, iF_eq0]
      · rw [c2.1] at he; cases he
    · rw [if_neg c2]
      refine ⟨S, ?_, hA', Same.rfl'⟩
      unfold f5_findShortest_j109
      by_cases z : A.2.1 = 0
      · have z2 : r.2.2 ≠ 2 := fun q => c2 ⟨a3.mpr z, q⟩
        simp (disch := omega) only [a1, h7', nI_z, zI_add, zI_sub, zI_mul, zI_m1, ckI_z, zI_clamp, Int.toNat_natCast, bnd_some, lt, rd_same, rd_ne, rdL_same, rdL_ne, wI_2, wL_1, if_true, if_false, iT_lt, iF_lt, iT_lt0, iF_lt0, iT_0lt, iF_0lt, iT_le, iF_le, iT_le0, iF_le0, iT_0le, iF_0le, iT_eq, iF_eq, iT_eq0, iF_eq0]
      · simp (disch := omega) only [a1, nI_z, zI_add, zI_sub, zI_mul, zI_m1, ckI_z, zI_clamp, Int.toNat_natCast, bnd_some, lt, rd_same, rd_ne, rdL_same, rdL_ne, wI_2, wL_1, if_true, if_false, iT_lt, iF_lt, iT_lt0, iF_lt0, iT_0lt, iF_0lt, iT_le, iF_le, iT_le0, iF_le0, iT_0le, iF_0le, iT_eq, iF_eq, iT_eq0, iF_eq0]
  by_cases c0 : r.2.2 = 0
  · rw [h7', c0]
    by_cases c1 : r.1.2.2.2.1.length = row.length ∧ lk r.1.2.2.2.1 row = row.length
    · have jj : ∀ S3, S3.1 26 5 = zI A.2.1 → f5_findShortest_j96 N a x3 x4 x7 k31 S3 = f5_findShortest_j130 N a x3 x4 x7 k31 (wI S3 26 5 (zI ((A.2.1 : Int) + ((1 : Nat) : Int)))) := fun S3 q => by
        unfold f5_findShortest_j96
        simp (disch := omega) only [q, nI_z, zI_add, zI_sub, zI_mul, zI_m1, ckI_z, zI_clamp, Int.toNat_natCast, bnd_some, lt, rd_same, rd_ne, rdL_same, rdL_ne, wI_2, wL_1, if_true, if_false, iT_lt, iF_lt, iT_lt0, iF_lt0, iT_0lt, iF_0lt, iT_le, iF_le, iT_le0, iF_le0, iT_0le, iF_0le, iT_eq, iF_eq, iT_eq0, iF_eq0]
      rw [bI_t c1] at hj
      unfold sstr
      rw [if_pos ⟨c0, c1.1, c1.2⟩]
      by_cases z : A.2.1 = 0
      · have zn := a3.mpr z
        obtain ⟨S3, b1, b2, b3⟩ := f6_become_ok (a0 := 29) (by omega) (by omega) hp
        have q5 : S3.1 26 5 = zI A.2.1 := by rw [b3.i (by unfold rgP; omega)]; exact a1
        have q6 : S3.1 26 6 = zI A.2.2 := by rw [b3.i (by unfold rgP; omega)]; exact a2
        have hs : Same scP S3 (wI S3 26 5 (zI ((A.2.1 : Int) + ((1 : Nat) : Int)))) := (Same.rfl' (P := scP)).wI (by unfold scP; omega)
        have hs5 : Same (fun c k => c = 26) S3 (wI S3 26 5 (zI ((A.2.1 : Int) + ((1 : Nat) : Int)))) := (Same.rfl' (P := fun c k => c = 26)).wI rfl
        have js := jj S3 q5
        refine ⟨_, ?_, ⟨by simp (disch := omega) only [nI_z, zI_add, zI_sub, zI_mul, zI_m1, ckI_z, zI_clamp, Int.toNat_natCast, bnd_some, lt, rd_same, rd_ne, rdL_same, rdL_ne, wI_2, wL_1, if_true, if_false, iT_lt, iF_lt, iT_lt0, iF_lt0, iT_0lt, iF_0lt, iT_le, iF_le, iT_le0, iF_le0, iT_0le, iF_0le, iT_eq, iF_eq, iT_eq0, iF_eq0]; rfl, by simp (disch := omega) only [q6, nI_z, zI_add, zI_sub, zI_mul, zI_m1, ckI_z, zI_clamp, Int.toNat_natCast, bnd_some, lt, rd_same, rd_ne, rdL_same, rdL_ne, wI_2, wL_1, if_true, if_false, iT_lt, iF_lt, iT_lt0, iF_lt0, iT_0lt, iF_0lt, iT_le, iF_le, iT_le0, iF_le0, iT_0le, iF_0le, iT_eq, iF_eq, iT_eq0, iF_eq0], ?_, fun e he => ?_, a5⟩, (b3.mono (fun c k z => Or.inl z)).tr hs⟩
        · simp (disch := omega) only [hj, a1, b1, js, nI_z, zI_add, zI_sub, zI_mul, zI_m1, ckI_z, zI_clamp, Int.toNat_natCast, bnd_some, lt, rd_same, rd_ne, rdL_same, rdL_ne, wI_2, wL_1, if_true, if_false, iT_lt, iF_lt, iT_lt0, iF_lt0, iT_0lt, iF_0lt, iT_le, iF_le, iT_le0, iF_le0, iT_0le, iF_0le, iT_eq, iF_eq, iT_eq0, iF_eq0]
        · rw [zn]
          exact ⟨fun q => (by cases q), fun q => absurd q (by show ¬ A.2.1 + 1 = 0; omega)⟩
        · rw [zn] at he
          injection he with he
          rw [← he]
          exact b2.same hs5 (fun k => by omega) (fun k => by omega)
      · have hs : Same scP S (wI S 26 5 (zI ((A.2.1 : Int) + ((1 : Nat) : Int)))) := (Same.rfl' (P := scP)).wI (by unfold scP; omega)
        have hs5 : Same (fun c k => c = 26) S (wI S 26 5 (zI ((A.2.1 : Int) + ((1 : Nat) : Int)))) := (Same.rfl' (P := fun c k => c = 26)).wI rfl
        have js := jj S a1
        obtain ⟨f, hf⟩ : ∃ f, A.1 = some f := by
          cases hq : A.1 with
          | none => exact absurd (a3.mp hq) z
          | some f => exact ⟨f, rfl⟩
        refine ⟨_, ?_, ⟨by simp (disch := omega) only [nI_z, zI_add, zI_sub, zI_mul, zI_m1, ckI_z, zI_clamp, Int.toNat_natCast, bnd_some, lt, rd_same, rd_ne, rdL_same, rdL_ne, wI_2, wL_1, if_true, if_false, iT_lt, iF_lt, iT_lt0, iF_lt0, iT_0lt, iF_0lt, iT_le, iF_le, iT_le0, iF_le0, iT_0le, iF_0le, iT_eq, iF_eq, iT_eq0, iF_eq0]; rfl, by simp (disch := omega) only [a2, nI_z, zI_add, zI_sub, zI_mul, zI_m1, ckI_z, zI_clamp, Int.toNat_natCast, bnd_some, lt, rd_same, rd_ne, rdL_same, rdL_ne, wI_2, wL_1, if_true, if_false, iT_lt, iF_lt, iT_lt0, iF_lt0, iT_0lt, iF_0lt, iT_le, iF_le, iT_le0, iF_le0, iT_0le, iF_0le, iT_eq, iF_eq, iT_eq0, iF_eq0], ?_, fun e he => ?_, a5⟩, hs⟩
        · simp (disch := omega) only [hj, a1, js, nI_z, zI_add, zI_sub, zI_mul, zI_m1, ckI_z, zI_clamp, Int.toNat_natCast, bnd_some, lt, rd_same, rd_ne, rdL_same, rdL_ne, wI_2, wL_1, if_true, if_false, iT_lt, iF_lt, iT_lt0, iF_lt0, iT_0lt, iF_0lt, iT_le, iF_le, iT_le0, iF_le0, iT_0le, iF_0le, iT_eq, iF_eq, iT_eq0, iF_eq0]
        · rw [hf]
          exact ⟨fun q => (by cases q), fun q => absurd q (by show ¬ A.2.1 + 1 = 0; omega)⟩
        · rw [hf] at he
          injection he with he
          rw [← he]
          exact (a4 f hf).same hs5 (fun k => by omega) (fun k => by omega)
    · rw [bI_f c1] at hj
      obtain ⟨S2, g1, g2, g3⟩ := jno (fun q => c1 q.2)
      refine ⟨S2, ?_, g2, g3⟩
      simp (disch := omega) only [hj, nI_z, zI_add, zI_sub, zI_mul, zI_m1, ckI_z, zI_clamp, Int.toNat_natCast, bnd_some, lt, rd_same, rd_ne, rdL_same, rdL_ne, wI_2, wL_1, if_true, if_false, iT_lt, iF_lt, iT_lt0, iF_lt0, iT_0lt, iF_0lt, iT_le, iF_le, iT_le0, iF_le0, iT_0le, iF_0le, iT_eq, iF_eq, iT_eq0, iF_eq0]
      exact g1
  · obtain ⟨S2, g1, g2, g3⟩ := jno (fun q => c0 q.1)
    refine ⟨S2, ?_, g2, g3⟩
    simp (disch := omega) only [h7', nI_z, zI_add, zI_sub, zI_mul, zI_m1, ckI_z, zI_clamp, Int.toNat_natCast, bnd_some, lt, rd_same, rd_ne, rdL_same, rdL_ne, wI_2, wL_1, if_true, if_false, iT_lt, iF_lt, iT_lt0, iF_lt0, iT_0lt, iF_0lt, iT_le, iF_le, iT_le0, iF_le0, iT_0le, iF_0le, iT_eq, iF_eq, iT_eq0, iF_eq0]
    exact g1
theorem sstr_le {row : List Nat} {A : Sa} {r : Mc × Nat × Nat} {e : Nat × List Nat} : (sstr row A r e).2.1 ≤ A.2.1 + 1 ∧ (A.2.2 ≤ 1 → (sstr row A r e).2.2 ≤ 1) := by
  unfold sstr
  split
  · exact ⟨Nat.le_refl _, fun h => h⟩
  · split
    · exact ⟨Nat.le_succ _, fun _ => Nat.zero_le _⟩
    · exact ⟨Nat.le_succ _, fun h => h⟩
theorem f5_short_loop {N a t n : Nat} {g : Lg} {row : List Nat} (hg : LV g) (ha : 50 ≤ a) (hN : 100000 ≤ N) (hn : n ≤ 14) (ht : t < 100000) : ∀ (C A : List (Nat × List Nat)) (k m K : Nat) (S : St) (acc : Sa), progs (bit g) (rkf g) n = A ++ C → k = A.length → C.length < m → CL S a g → PRh S 27 C → CMq S K → K + 9 * C.length + 10 < 2147483648 → Qsay S row → SC S acc → acc.2.1 ≤ k →
    ∃ S2 K2, f5_findShortest_h31 N a (zI n) (zI t) m (zI (hdz C)) (zI k) S = some ((), S2) ∧ SC S2 (C.foldl (sst g row t) acc) ∧ CMq S2 K2 ∧ K ≤ K2 ∧ K2 ≤ K + 9 * C.length ∧ Same fsP S S2 := by
  intro C
  induction C with
  | nil =>
    intro A k m K S acc hp hk hm hc hh hK hb hs hv hac
    obtain ⟨m, rfl⟩ : ∃ z, m = z + 1 := ⟨m - 1, by omega⟩
    have hcap := progs_cap hg hn hp
    refine ⟨S, K, ?_, hv, hK, by omega, by omega, Same.rfl'⟩
    rw [f5_findShortest_h31]
    have hz : hdz [] = 0 := rfl
    rw [hz]
    simp (disch := omega) only [nI_z, zI_add, zI_sub, zI_mul, zI_m1, ckI_z, zI_clamp, Int.toNat_natCast, bnd_some, lt, rd_same, rd_ne, rdL_same, rdL_ne, wI_2, wL_1, if_true, if_false, iT_lt, iF_lt, iT_lt0, iF_lt0, iT_0lt, iF_0lt, iT_le, iF_le, iT_le0, iF_le0, iT_0le, iF_0le, iT_eq, iF_eq, iT_eq0, iF_eq0]
  | cons e C ih =>
    intro A k m K S acc hp hk hm hc hh hK hb hs hv hac
    obtain ⟨m, rfl⟩ : ∃ z, m = z + 1 := ⟨m - 1, by omega⟩
    have hcap := progs_cap hg hn hp
    obtain ⟨p1, p2, p3, p4, p5⟩ := progs_wp hg hp
    rw [List.length_cons] at hm hb hcap
    obtain ⟨S1, S2, a1, a2, a3, a4, a5⟩ := f4_run_ok (N := N) (x := 0) (t := t) hg (by omega : 11 ≤ a) (by omega : 27 + 1 < 6 ∨ 9 < 27) hN p3 p4 (by omega) (by omega) ht hc (hh e C rfl) hK
    obtain ⟨i1, i2, i3⟩ := prun_MI (g := g) (p := e.2) (x := 0) (t := t) (by omega)
    have hs2 := hs.same a5 (fun c k z => by unfold qsP at z; unfold mcP; omega)
    have hv2 := hv.same a5 (fun c k z => by unfold scP rgP at z; unfold mcP; omega)
    have hp2 : PR S2 27 e.2 := (hh e C rfl).same a5 (fun k => by unfold mcP; omega) (fun k => by unfold mcP; omega)
    obtain ⟨S3, b1, b2, b3⟩ := f5_short_body (N := N) (a := a) (t := t) (n := n) (B := e.1) (k31 := f5_findShortest_h31 N a (zI n) (zI t) m) (x3 := zI n) (x4 := zI t) (x7 := zI k) (by omega) a3 i1 i2 hs2 hv2 (by omega) hp2
    have s3 : Same fsP S S3 := (a5.mono (fun c k z => Or.inl z)).tr (b3.mono (fun c k z => Or.inr (Or.inr z)))
    have hc3 : CL S3 a g := hc.same hg s3 (fun c k z _ => by unfold fsP mcP scP rgP; omega)
    have hp3 : PR S3 27 e.2 := hp2.same b3 (fun k => by unfold scP rgP; omega) (fun k => by unfold scP rgP; omega)
    have hf := f3_follow_next (N := N) (L := n) (B := e.1) (p := e.2) hg (by omega : 27 + 1 < a) (by omega) hc3 hp3 hn hp
    obtain ⟨S4, d1, d2, d3⟩ := flw_go hf
    have s4 : Same fsP S S4 := s3.tr (d3.mono (fun c k z => Or.inr (Or.inl z)))
    have hq : CMq S4 (K + 1 + (prun g e.2 0 t).1.2.2.2.1.length) := (a3.q.same b3 (fun c k z => by unfold mcP at z; unfold scP rgP; omega)).same d3 (fun c k z => by unfold mcP at z; unfold rgP; omega)
    have hl8 := i1.2.2.1
    have hle := (sstr_le (row := row) (A := acc) (r := prun g e.2 0 t) (e := e)).1
    obtain ⟨S5, K5, f1, f2, f3, f4, f5, f6⟩ := ih (A ++ [e]) (k + 1) m _ S4 (sst g row t acc e) (by rw [hp]; simp) (by rw [hk]; simp) (by omega) (hc.same hg s4 (fun c k z _ => by unfold fsP mcP scP rgP; omega)) d2 hq (by omega) (hs.same s4 (fun c k z => by unfold qsP at z; unfold fsP mcP scP rgP; omega)) (SC.same b2 d3 (fun c k z => by unfold scP rgP at z; unfold rgP; omega)) (by unfold sst; omega)
    refine ⟨S5, K5, ?_, f2, f3, by omega, by rw [List.length_cons]; omega, s4.tr f6⟩
    have hz : hdz (e :: C) = e.1 := rfl
    rw [f5_findShortest_h31, hz]
    simp (disch := omega) only [a1, a2, nI_z, zI_add, zI_sub, zI_mul, zI_m1, ckI_z, zI_clamp, Int.toNat_natCast, bnd_some, lt, rd_same, rd_ne, rdL_same, rdL_ne, wI_2, wL_1, if_true, if_false, iT_lt, iF_lt, iT_lt0, iF_lt0, iT_0lt, iF_0lt, iT_le, iF_le, iT_le0, iF_le0, iT_0le, iF_0le, iT_eq, iF_eq, iT_eq0, iF_eq0]
    have b1' := b1
    rw [show (bnd (f4_state S2) fun q7 S8 =>
      if q7 = 0 then
        bnd (f4_saidJust N S8) fun q10 S11 =>
        if q10 = 0 then
          f5_findShortest_j109 N a (zI n) (zI t) (zI k) (f5_findShortest_h31 N a (zI n) (zI t) m) S11
        else
        if (S11.1 26 5) = 0 then
          bnd (f6_become 29 27 S11) fun q14 S15 =>
          f5_findShortest_j96 N a (zI n) (zI t) (zI k) (f5_findShortest_h31 N a (zI n) (zI t) m) S15
        else
        f5_findShortest_j96 N a (zI n) (zI t) (zI k) (f5_findShortest_h31 N a (zI n) (zI t) m) S11
      else
      f5_findShortest_j109 N a (zI n) (zI t) (zI k) (f5_findShortest_h31 N a (zI n) (zI t) m) S8) = _ from b1']
    unfold f5_findShortest_j130
    simp (disch := omega) only [d1, nI_z, zI_add, zI_sub, zI_mul, zI_m1, ckI_z, zI_clamp, Int.toNat_natCast, bnd_some, lt, rd_same, rd_ne, rdL_same, rdL_ne, wI_2, wL_1, if_true, if_false, iT_lt, iF_lt, iT_lt0, iF_lt0, iT_0lt, iF_0lt, iT_le, iF_le, iT_le0, iF_le0, iT_0le, iF_0le, iT_eq, iF_eq, iT_eq0, iF_eq0]
    exact f1
def shortP (g : Lg) (row : List Nat) (n t : Nat) : Sa := (progs (bit g) (rkf g) n).foldl (sst g row t) sa0
theorem f5_short_ok {N a t n K : Nat} {S : St} {g : Lg} {row : List Nat} (hg : LV g) (ha : 50 ≤ a) (hN : 100000 ≤ N) (hn : n ≤ 14) (ht : t < 100000) (hc : CL S a g) (hK : CMq S K) (hb : K + 200000 < 2147483648) (hs : Qsay S row) : ∃ S2 K2, f5_findShortest N a (zI n) (zI t) S = some ((), S2) ∧ SC S2 (shortP g row n t) ∧ CMq S2 K2 ∧ K ≤ K2 ∧ K2 ≤ K + 147456 ∧ Same fsP S S2 := by
  have s1 : Same (fun c k => c = 26) S (wI (wI S 26 5 (zI ((0 : Nat) : Int))) 26 6 (zI ((1 : Nat) : Int))) := (Same.rfl' (P := fun c k => c = 26)) |>.wI rfl |>.wI rfl
  have s1' : Same fsP S (wI (wI S 26 5 (zI ((0 : Nat) : Int))) 26 6 (zI ((1 : Nat) : Int))) := (Same.rfl' (P := fsP)) |>.wI (by unfold fsP scP; omega) |>.wI (by unfold fsP scP; omega)
  have v1 : SC (wI (wI S 26 5 (zI ((0 : Nat) : Int))) 26 6 (zI ((1 : Nat) : Int))) sa0 := by
    refine ⟨?_, ?_, ⟨fun _ => rfl, fun _ => rfl⟩, fun e he => (by cases he), by decide⟩
    · simp (disch := omega) only [nI_z, zI_add, zI_sub, zI_mul, zI_m1, ckI_z, zI_clamp, Int.toNat_natCast, bnd_some, lt, rd_same, rd_ne, rdL_same, rdL_ne, wI_2, wL_1, if_true, if_false, iT_lt, iF_lt, iT_lt0, iF_lt0, iT_0lt, iF_0lt, iT_le, iF_le, iT_le0, iF_le0, iT_0le, iF_0le, iT_eq, iF_eq, iT_eq0, iF_eq0]; rfl
    · simp (disch := omega) only [nI_z, zI_add, zI_sub, zI_mul, zI_m1, ckI_z, zI_clamp, Int.toNat_natCast, bnd_some, lt, rd_same, rd_ne, rdL_same, rdL_ne, wI_2, wL_1, if_true, if_false, iT_lt, iF_lt, iT_lt0, iF_lt0, iT_0lt, iF_0lt, iT_le, iF_le, iT_le0, iF_le0, iT_0le, iF_0le, iT_eq, iF_eq, iT_eq0, iF_eq0]; rfl
  generalize hS1 : wI (wI S 26 5 (zI ((0 : Nat) : Int))) 26 6 (zI ((1 : Nat) : Int)) = S1 at s1 s1' v1
  obtain ⟨S2, b1, b2, b3⟩ := f6_beEmpty_ok (S := S1) (a := 27)
  have s2 : Same fsP S S2 := s1'.tr (b3.mono (fun c k z => Or.inr (Or.inl z)))
  have hf := f3_follow_first (N := N) (L := n) hg (by omega : 27 + 1 < a) (by omega) (hc.same hg s2 (fun c k z _ => by unfold fsP mcP scP rgP; omega)) b2 hn
  obtain ⟨S3, d1, d2, d3⟩ := flw_go hf
  have s3 : Same fsP S S3 := s2.tr (d3.mono (fun c k z => Or.inr (Or.inl z)))
  have hcap := progs_cap (A := []) (C := progs (bit g) (rkf g) n) hg hn rfl
  rw [List.length_nil, Nat.zero_add] at hcap
  have hK3 : CMq S3 K := ((hK.same s1 (fun c k z => by unfold mcP at z; omega)).same b3 (fun c k z => by unfold mcP at z; unfold rgP; omega)).same d3 (fun c k z => by unfold mcP at z; unfold rgP; omega)
  obtain ⟨S4, K4, f1, f2, f3, f4, f5, f6⟩ := f5_short_loop (N := N) (t := t) hg ha hN hn ht (progs (bit g) (rkf g) n) [] 0 N K S3 sa0 rfl rfl (by omega) (hc.same hg s3 (fun c k z _ => by unfold fsP mcP scP rgP; omega)) d2 hK3 (by omega) (hs.same s3 (fun c k z => by unfold qsP at z; unfold fsP mcP scP rgP; omega)) ((v1.same b3 (fun c k z => by unfold scP rgP at z; unfold rgP; omega)).same d3 (fun c k z => by unfold scP rgP at z; unfold rgP; omega)) (Nat.le_refl _)
  refine ⟨S4, K4, ?_, f2, f3, f4, by omega, s3.tr f6⟩
  unfold f5_findShortest
  simp (disch := omega) only [nI_z, zI_add, zI_sub, zI_mul, zI_m1, ckI_z, zI_clamp, Int.toNat_natCast, bnd_some, lt, rd_same, rd_ne, rdL_same, rdL_ne, wI_2, wL_1, if_true, if_false, iT_lt, iF_lt, iT_lt0, iF_lt0, iT_0lt, iF_0lt, iT_le, iF_le, iT_le0, iF_le0, iT_0le, iF_0le, iT_eq, iF_eq, iT_eq0, iF_eq0]
  rw [hS1, b1, bnd_some, d1]
  exact f1
