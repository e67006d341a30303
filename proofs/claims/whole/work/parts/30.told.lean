/-! The row that is told: say, unsay; how far what was printed is like it. -/
def Qsay (S : St) (row : List Nat) : Prop := row.length ≤ 8 ∧ (∀ x ∈ row, x < 1000) ∧ S.1 24 1 = zI row.length ∧ Held (S.1 25) 0 row ∧ S.1 146 54 = zI row.length ∧ Held (S.1 167) 0 row
def qsP (c k : Nat) : Prop := (c = 24 ∧ k = 1) ∨ c = 25 ∨ (c = 146 ∧ k = 54) ∨ c = 167
theorem Qsay.same {P : Nat → Nat → Prop} {S S2 : St} {row : List Nat} (h : Qsay S row) (hs : Same P S S2) (hd : ∀ c k, qsP c k → ¬ P c k) : Qsay S2 row := by
  obtain ⟨h1, h2, h3, h4, h5, h6⟩ := h
  exact ⟨h1, h2, by rw [hs.i (hd 24 1 (by unfold qsP; omega))]; exact h3, h4.same hs (fun k => hd 25 k (by unfold qsP; omega)), by rw [hs.i (hd 146 54 (by unfold qsP; omega))]; exact h5, h6.same hs (fun k => hd 167 k (by unfold qsP; omega))⟩
theorem c_say {S : St} {row : List Nat} (h : Qsay S row) (x : Int32) : ∃ r S1 S2 row2, f11_say x S = some (r, S1) ∧ f12_say x S1 = some (r, S2) ∧ Qsay S2 row2 ∧ Same qsP S S2 := by
  have h' := h
  obtain ⟨h1, h2, h3, h4, h5, h6⟩ := h
  have hx := xrng x
  rw [zI_of x]
  generalize x.toInt = z at hx
  have n1 := fun S => isNum z S hx
  have k1 := fun S => isNum_m z S hx
  by_cases e : 0 ≤ z ∧ z ≤ 999
  · obtain ⟨v, rfl⟩ : ∃ v : Nat, z = v := ⟨z.toNat, by omega⟩
    by_cases e8 : row.length = 8
    · refine ⟨zI (-3), S, S, row, ?_, ?_, h', Same.rfl'⟩
      · unfold f11_say f10_push
        simp (disch := omega) only [iT_b, iF_b, n1, h3, nI_z, zI_add, zI_sub, zI_mul, zI_m1, ckI_z, zI_clamp, Int.toNat_natCast, bnd_some, lt, rd_same, rd_ne, rdL_same, rdL_ne, wI_2, wL_1, if_true, if_false, iT_lt, iF_lt, iT_lt0, iF_lt0, iT_0lt, iF_0lt, iT_le, iF_le, iT_le0, iF_le0, iT_0le, iF_0le, iT_eq, iF_eq, iT_eq0, iF_eq0]
        rfl
      · unfold f12_say
        simp (disch := omega) only [iT_b, iF_b, k1, h5, nI_z, zI_add, zI_sub, zI_mul, zI_m1, ckI_z, zI_clamp, Int.toNat_natCast, bnd_some, lt, rd_same, rd_ne, rdL_same, rdL_ne, wI_2, wL_1, if_true, if_false, iT_lt, iF_lt, iT_lt0, iF_lt0, iT_0lt, iF_0lt, iT_le, iF_le, iT_le0, iF_le0, iT_0le, iF_0le, iT_eq, iF_eq, iT_eq0, iF_eq0]
        rfl
    · have s1 : Same qsP S (wI (wI S 25 row.length (zI v)) 24 1 (zI (row.length + ((1 : Nat) : Int)))) := (Same.rfl' (P := qsP)) |>.wI (by unfold qsP; omega) |>.wI (by unfold qsP; omega)
      have hll : (row ++ [v]).length = row.length + 1 := by simp
      refine ⟨zI (row.length + ((1 : Nat) : Int)), wI (wI S 25 row.length (zI v)) 24 1 (zI (row.length + ((1 : Nat) : Int))), wI (wI (wI (wI S 25 row.length (zI v)) 24 1 (zI (row.length + ((1 : Nat) : Int)))) 167 row.length (zI v)) 146 54 (zI (row.length + ((1 : Nat) : Int))), row ++ [v], ?_, ?_, ⟨by omega, fun y hy => ?_, ?_, ?_, ?_, ?_⟩, s1 |>.wI (by unfold qsP; omega) |>.wI (by unfold qsP; omega)⟩
      · unfold f11_say f10_push
        simp (disch := omega) only [iT_b, iF_b, n1, h3, f10_length, nI_z, zI_add, zI_sub, zI_mul, zI_m1, ckI_z, zI_clamp, Int.toNat_natCast, bnd_some, lt, rd_same, rd_ne, rdL_same, rdL_ne, wI_2, wL_1, if_true, if_false, iT_lt, iF_lt, iT_lt0, iF_lt0, iT_0lt, iF_0lt, iT_le, iF_le, iT_le0, iF_le0, iT_0le, iF_0le, iT_eq, iF_eq, iT_eq0, iF_eq0]
      · unfold f12_say
        simp (disch := omega) only [iT_b, iF_b, k1, h5, nI_z, zI_add, zI_sub, zI_mul, zI_m1, ckI_z, zI_clamp, Int.toNat_natCast, bnd_some, lt, rd_same, rd_ne, rdL_same, rdL_ne, wI_2, wL_1, if_true, if_false, iT_lt, iF_lt, iT_lt0, iF_lt0, iT_0lt, iF_0lt, iT_le, iF_le, iT_le0, iF_le0, iT_0le, iF_0le, iT_eq, iF_eq, iT_eq0, iF_eq0]
      · rcases List.mem_append.mp hy with q | q
        · exact h2 y q
        · rw [List.mem_singleton.mp q]; omega
      · rw [hll]; simp (disch := omega) only [nI_z, zI_add, zI_sub, zI_mul, zI_m1, ckI_z, zI_clamp, Int.toNat_natCast, bnd_some, lt, rd_same, rd_ne, rdL_same, rdL_ne, wI_2, wL_1, if_true, if_false, iT_lt, iF_lt, iT_lt0, iF_lt0, iT_0lt, iF_0lt, iT_le, iF_le, iT_le0, iF_le0, iT_0le, iF_0le, iT_eq, iF_eq, iT_eq0, iF_eq0]; rfl
      · exact h4.push2 (by simp (disch := omega) only [nI_z, zI_add, zI_sub, zI_mul, zI_m1, ckI_z, zI_clamp, Int.toNat_natCast, bnd_some, lt, rd_same, rd_ne, rdL_same, rdL_ne, wI_2, wL_1, if_true, if_false, iT_lt, iF_lt, iT_lt0, iF_lt0, iT_0lt, iF_0lt, iT_le, iF_le, iT_le0, iF_le0, iT_0le, iF_0le, iT_eq, iF_eq, iT_eq0, iF_eq0]) (fun k hk => by simp (disch := omega) only [nI_z, zI_add, zI_sub, zI_mul, zI_m1, ckI_z, zI_clamp, Int.toNat_natCast, bnd_some, lt, rd_same, rd_ne, rdL_same, rdL_ne, wI_2, wL_1, if_true, if_false, iT_lt, iF_lt, iT_lt0, iF_lt0, iT_0lt, iF_0lt, iT_le, iF_le, iT_le0, iF_le0, iT_0le, iF_0le, iT_eq, iF_eq, iT_eq0, iF_eq0])
      · rw [hll]; simp (disch := omega) only [nI_z, zI_add, zI_sub, zI_mul, zI_m1, ckI_z, zI_clamp, Int.toNat_natCast, bnd_some, lt, rd_same, rd_ne, rdL_same, rdL_ne, wI_2, wL_1, if_true, if_false, iT_lt, iF_lt, iT_lt0, iF_lt0, iT_0lt, iF_0lt, iT_le, iF_le, iT_le0, iF_le0, iT_0le, iF_0le, iT_eq, iF_eq, iT_eq0, iF_eq0]; rfl
      · exact h6.push2 (by simp (disch := omega) only [nI_z, zI_add, zI_sub, zI_mul, zI_m1, ckI_z, zI_clamp, Int.toNat_natCast, bnd_some, lt, rd_same, rd_ne, rdL_same, rdL_ne, wI_2, wL_1, if_true, if_false, iT_lt, iF_lt, iT_lt0, iF_lt0, iT_0lt, iF_0lt, iT_le, iF_le, iT_le0, iF_le0, iT_0le, iF_0le, iT_eq, iF_eq, iT_eq0, iF_eq0]) (fun k hk => by simp (disch := omega) only [nI_z, zI_add, zI_sub, zI_mul, zI_m1, ckI_z, zI_clamp, Int.toNat_natCast, bnd_some, lt, rd_same, rd_ne, rdL_same, rdL_ne, wI_2, wL_1, if_true, if_false, iT_lt, iF_lt, iT_lt0, iF_lt0, iT_0lt, iF_0lt, iT_le, iF_le, iT_le0, iF_le0, iT_0le, iF_0le, iT_eq, iF_eq, iT_eq0, iF_eq0])
  · refine ⟨zI (-1), S, S, row, ?_, ?_, h', Same.rfl'⟩
    · unfold f11_say
      simp (disch := omega) only [iT_b, iF_b, n1, nI_z, zI_add, zI_sub, zI_mul, zI_m1, ckI_z, zI_clamp, Int.toNat_natCast, bnd_some, lt, rd_same, rd_ne, rdL_same, rdL_ne, wI_2, wL_1, if_true, if_false, iT_lt, iF_lt, iT_lt0, iF_lt0, iT_0lt, iF_0lt, iT_le, iF_le, iT_le0, iF_le0, iT_0le, iF_0le, iT_eq, iF_eq, iT_eq0, iF_eq0]
    · unfold f12_say
      simp (disch := omega) only [iT_b, iF_b, k1, nI_z, zI_add, zI_sub, zI_mul, zI_m1, ckI_z, zI_clamp, Int.toNat_natCast, bnd_some, lt, rd_same, rd_ne, rdL_same, rdL_ne, wI_2, wL_1, if_true, if_false, iT_lt, iF_lt, iT_lt0, iF_lt0, iT_0lt, iF_0lt, iT_le, iF_le, iT_le0, iF_le0, iT_0le, iF_0le, iT_eq, iF_eq, iT_eq0, iF_eq0]
theorem c_unsay {S : St} {row : List Nat} (h : Qsay S row) : ∃ r S1 S2, f11_unsay S = some (r, S1) ∧ f12_unsay S1 = some (r, S2) ∧ Qsay S2 [] ∧ Same qsP S S2 := by
  obtain ⟨h1, h2, h3, h4, h5, h6⟩ := h
  refine ⟨zI row.length, wI S 24 1 (zI ((0 : Nat) : Int)), wI (wI S 24 1 (zI ((0 : Nat) : Int))) 146 54 (zI ((0 : Nat) : Int)), ?_, ?_, ⟨by decide, fun y hy => (by cases hy), ?_, fun i x h => (by cases h), ?_, fun i x h => (by cases h)⟩, (Same.rfl' (P := qsP)) |>.wI (by unfold qsP; omega) |>.wI (by unfold qsP; omega)⟩
  · unfold f11_unsay
    simp (disch := omega) only [f10_length, f10_beEmpty, h3, nI_z, zI_add, zI_sub, zI_mul, zI_m1, ckI_z, zI_clamp, Int.toNat_natCast, bnd_some, lt, rd_same, rd_ne, rdL_same, rdL_ne, wI_2, wL_1, if_true, if_false, iT_lt, iF_lt, iT_lt0, iF_lt0, iT_0lt, iF_0lt, iT_le, iF_le, iT_le0, iF_le0, iT_0le, iF_0le, iT_eq, iF_eq, iT_eq0, iF_eq0]
  · unfold f12_unsay
    simp (disch := omega) only [h5, nI_z, zI_add, zI_sub, zI_mul, zI_m1, ckI_z, zI_clamp, Int.toNat_natCast, bnd_some, lt, rd_same, rd_ne, rdL_same, rdL_ne, wI_2, wL_1, if_true, if_false, iT_lt, iF_lt, iT_lt0, iF_lt0, iT_0lt, iF_0lt, iT_le, iF_le, iT_le0, iF_le0, iT_0le, iF_0le, iT_eq, iF_eq, iT_eq0, iF_eq0]
  · simp (disch := omega) only [nI_z, zI_add, zI_sub, zI_mul, zI_m1, ckI_z, zI_clamp, Int.toNat_natCast, bnd_some, lt, rd_same, rd_ne, rdL_same, rdL_ne, wI_2, wL_1, if_true, if_false, iT_lt, iF_lt, iT_lt0, iF_lt0, iT_0lt, iF_0lt, iT_le, iF_le, iT_le0, iF_le0, iT_0le, iF_0le, iT_eq, iF_eq, iT_eq0, iF_eq0]; rfl
  · simp (disch := omega) only [nI_z, zI_add, zI_sub, zI_mul, zI_m1, ckI_z, zI_clamp, Int.toNat_natCast, bnd_some, lt, rd_same, rd_ne, rdL_same, rdL_ne, wI_2, wL_1, if_true, if_false, iT_lt, iF_lt, iT_lt0, iF_lt0, iT_0lt, iF_0lt, iT_le, iF_le, iT_le0, iF_le0, iT_0le, iF_0le, iT_eq, iF_eq, iT_eq0, iF_eq0]; rfl
/-- how many of the first ones are alike -/
def lk : List Nat → List Nat → Nat
  | a :: s, b :: r => if a = b then lk s r + 1 else 0
  | _, _ => 0
theorem lk_le : ∀ (s r : List Nat), lk s r ≤ s.length ∧ lk s r ≤ r.length
  | [], _ => ⟨Nat.le_refl _, Nat.zero_le _⟩
  | a :: s, [] => ⟨Nat.zero_le _, Nat.le_refl _⟩
  | a :: s, b :: r => by
    have ih := lk_le s r
    unfold lk
    by_cases e : a = b
    · rw [if_pos e, List.length_cons, List.length_cons]; omega
    · rw [if_neg e]; exact ⟨Nat.zero_le _, Nat.zero_le _⟩
theorem lk_nil (s : List Nat) : lk s [] = 0 := by cases s <;> rfl
theorem lk_drop {s r : List Nat} {i x y : Nat} (h1 : s[i]? = some x) (h2 : r[i]? = some y) : lk (s.drop i) (r.drop i) = if x = y then lk (s.drop (i + 1)) (r.drop (i + 1)) + 1 else 0 := by
  obtain ⟨l1, e1⟩ := List.getElem?_eq_some_iff.mp h1
  obtain ⟨l2, e2⟩ := List.getElem?_eq_some_iff.mp h2
  rw [List.drop_eq_getElem_cons l1, List.drop_eq_getElem_cons l2, e1, e2]
  rfl
theorem f4_saidAt_in {S : St} {w : List Nat} {m : Mc} {s st K i x : Nat} (h : CMr S w m s st K) (hm : MIq m) (hi : m.2.2.2.1[i]? = some x) : f4_saidAt (zI i) S = some (zI x, S) := by
  have h8 := h.2.2.2.2.2.2.2.1
  have h9 := h.2.2.2.2.2.2.2.2.1 i x hi
  have hl := (List.getElem?_eq_some_iff.mp hi).1
  have h3 := hm.2.2.1
  rw [Nat.zero_add] at h9
  unfold f4_saidAt
  simp (disch := omega) only [h8, h9, nI_z, zI_add, zI_sub, zI_mul, zI_m1, ckI_z, zI_clamp, Int.toNat_natCast, bnd_some, lt, rd_same, rd_ne, rdL_same, rdL_ne, wI_2, wL_1, if_true, if_false, iT_lt, iF_lt, iT_lt0, iF_lt0, iT_0lt, iF_0lt, iT_le, iF_le, iT_le0, iF_le0, iT_0le, iF_0le, iT_eq, iF_eq, iT_eq0, iF_eq0]
theorem f4_likeTold_loop {N : Nat} {S : St} {w row : List Nat} {m : Mc} {s st K : Nat} (h : CMr S w m s st K) (hm : MIq m) (hr : Qsay S row) : ∀ (k i n : Nat), i + k = m.2.2.2.1.length → k < n → i ≤ row.length → f4_likeTold_h2 N n (zI i) S = some (zI ((i : Int) + (lk (m.2.2.2.1.drop i) (row.drop i) : Nat)), S) := by
  have h8 := h.2.2.2.2.2.2.2.1
  obtain ⟨r1, r2, r3, r4, r5, r6⟩ := hr
  have m3 := hm.2.2.1
  intro k
  induction k with
  | zero =>
    intro i n hi hn hl
    obtain ⟨n, rfl⟩ : ∃ z, n = z + 1 := ⟨n - 1, by omega⟩
    rw [List.drop_eq_nil_of_le (by omega)]
    rw [f4_likeTold_h2]
    simp (disch := omega) only [h8, nI_z, zI_add, zI_sub, zI_mul, zI_m1, ckI_z, zI_clamp, Int.toNat_natCast, bnd_some, lt, rd_same, rd_ne, rdL_same, rdL_ne, wI_2, wL_1, if_true, if_false, iT_lt, iF_lt, iT_lt0, iF_lt0, iT_0lt, iF_0lt, iT_le, iF_le, iT_le0, iF_le0, iT_0le, iF_0le, iT_eq, iF_eq, iT_eq0, iF_eq0]
    show some (zI (i : Int), S) = some (zI ((i : Int) + ((0 : Nat) : Int)), S)
    rw [show (i : Int) + ((0 : Nat) : Int) = (i : Int) by omega]
  | succ k ih =>
    intro i n hi hn hl
    obtain ⟨n, rfl⟩ : ∃ z, n = z + 1 := ⟨n - 1, by omega⟩
    by_cases e : i = row.length
    · rw [List.drop_eq_nil_of_le (by omega : row.length ≤ i), lk_nil]
      rw [f4_likeTold_h2]
      simp (disch := omega) only [h8, f10_length, r3, nI_z, zI_add, zI_sub, zI_mul, zI_m1, ckI_z, zI_clamp, Int.toNat_natCast, bnd_some, lt, rd_same, rd_ne, rdL_same, rdL_ne, wI_2, wL_1, if_true, if_false, iT_lt, iF_lt, iT_lt0, iF_lt0, iT_0lt, iF_0lt, iT_le, iF_le, iT_le0, iF_le0, iT_0le, iF_0le, iT_eq, iF_eq, iT_eq0, iF_eq0]
      rw [show (i : Int) + ((0 : Nat) : Int) = (i : Int) by omega]
    · have q1 : m.2.2.2.1[i]? = some m.2.2.2.1[i] := List.getElem?_eq_getElem (by omega)
      have q2 : row[i]? = some row[i] := List.getElem?_eq_getElem (by omega)
      have hx := hm.2.2.2 _ (List.mem_of_getElem? q1)
      have hy := r2 _ (List.mem_of_getElem? q2)
      rw [lk_drop q1 q2]
      have g1 := f4_saidAt_in h hm q1
      generalize m.2.2.2.1[i] = x at q1 hx g1
      generalize row[i] = y at q2 hy
      have g2 := r4 i y q2
      rw [Nat.zero_add] at g2
      have g3 : f10_numberAt (zI i) S = some (zI y, S) := by
        unfold f10_numberAt
        simp (disch := omega) only [r3, g2, nI_z, zI_add, zI_sub, zI_mul, zI_m1, ckI_z, zI_clamp, Int.toNat_natCast, bnd_some, lt, rd_same, rd_ne, rdL_same, rdL_ne, wI_2, wL_1, if_true, if_false, iT_lt, iF_lt, iT_lt0, iF_lt0, iT_0lt, iF_0lt, iT_le, iF_le, iT_le0, iF_le0, iT_0le, iF_0le, iT_eq, iF_eq, iT_eq0, iF_eq0]
      by_cases exy : x = y
      · have ih1 := ih (i + 1) n (by omega) (by omega) (by omega)
        rw [if_pos exy]
        rw [f4_likeTold_h2]
        simp (disch := omega) only [h8, f10_length, r3, g1, g3, nI_z, zI_add, zI_sub, zI_mul, zI_m1, ckI_z, zI_clamp, Int.toNat_natCast, bnd_some, lt, rd_same, rd_ne, rdL_same, rdL_ne, wI_2, wL_1, if_true, if_false, iT_lt, iF_lt, iT_lt0, iF_lt0, iT_0lt, iF_0lt, iT_le, iF_le, iT_le0, iF_le0, iT_0le, iF_0le, iT_eq, iF_eq, iT_eq0, iF_eq0]
        rw [show (i : Int) + ((lk (m.2.2.2.1.drop (i + 1)) (row.drop (i + 1)) + 1 : Nat) : Int) = ((i + 1 : Nat) : Int) + (lk (m.2.2.2.1.drop (i + 1)) (row.drop (i + 1)) : Nat) by omega]
        exact ih1
      · rw [if_neg exy]
        rw [f4_likeTold_h2]
        simp (disch := omega) only [h8, f10_length, r3, g1, g3, nI_z, zI_add, zI_sub, zI_mul, zI_m1, ckI_z, zI_clamp, Int.toNat_natCast, bnd_some, lt, rd_same, rd_ne, rdL_same, rdL_ne, wI_2, wL_1, if_true, if_false, iT_lt, iF_lt, iT_lt0, iF_lt0, iT_0lt, iF_0lt, iT_le, iF_le, iT_le0, iF_le0, iT_0le, iF_0le, iT_eq, iF_eq, iT_eq0, iF_eq0]
        rw [show (i : Int) + ((0 : Nat) : Int) = (i : Int) by omega]
theorem f4_likeTold_ok {N : Nat} {S : St} {w row : List Nat} {m : Mc} {s st K : Nat} (hN : 20 ≤ N) (h : CMr S w m s st K) (hm : MIq m) (hr : Qsay S row) : f4_likeTold N S = some (zI (lk m.2.2.2.1 row), S) := by
  have q := f4_likeTold_loop (N := N) h hm hr m.2.2.2.1.length 0 N (by omega) (by have := hm.2.2.1; omega) (by omega)
  rw [List.drop_zero, List.drop_zero, show ((0 : Nat) : Int) + (lk m.2.2.2.1 row : Nat) = (lk m.2.2.2.1 row : Nat) by omega] at q
  exact q
theorem f12_alike_loop {N : Nat} {S : St} {row : List Nat} {m : Mc} {s : Nat} (h : RFr S m s) (hm : MIq m) (hr : Qsay S row) : ∀ (k i n : Nat), i + k = m.2.2.2.1.length → k < n → i ≤ row.length → f12_alike_h2 N n (zI i) S = some (zI ((i : Int) + (lk (m.2.2.2.1.drop i) (row.drop i) : Nat)), S) := by
  obtain ⟨h1, h2, h3, h8, h9⟩ := h
  obtain ⟨r1, r2, r3, r4, r5, r6⟩ := hr
  have m3 := hm.2.2.1
  intro k
  induction k with
  | zero =>
    intro i n hi hn hl
    obtain ⟨n, rfl⟩ : ∃ z, n = z + 1 := ⟨n - 1, by omega⟩
    rw [List.drop_eq_nil_of_le (by omega)]
    rw [f12_alike_h2]
    simp (disch := omega) only [h8, nI_z, zI_add, zI_sub, zI_mul, zI_m1, ckI_z, zI_clamp, Int.toNat_natCast, bnd_some, lt, rd_same, rd_ne, rdL_same, rdL_ne, wI_2, wL_1, if_true, if_false, iT_lt, iF_lt, iT_lt0, iF_lt0, iT_0lt, iF_0lt, iT_le, iF_le, iT_le0, iF_le0, iT_0le, iF_0le, iT_eq, iF_eq, iT_eq0, iF_eq0]
    show some (zI (i : Int), S) = some (zI ((i : Int) + ((0 : Nat) : Int)), S)
    rw [show (i : Int) + ((0 : Nat) : Int) = (i : Int) by omega]
  | succ k ih =>
    intro i n hi hn hl
    obtain ⟨n, rfl⟩ : ∃ z, n = z + 1 := ⟨n - 1, by omega⟩
    by_cases e : i = row.length
    · rw [List.drop_eq_nil_of_le (by omega : row.length ≤ i), lk_nil]
      rw [f12_alike_h2]
      simp (disch := omega) only [h8, r5, nI_z, zI_add, zI_sub, zI_mul, zI_m1, ckI_z, zI_clamp, Int.toNat_natCast, bnd_some, lt, rd_same, rd_ne, rdL_same, rdL_ne, wI_2, wL_1, if_true, if_false, iT_lt, iF_lt, iT_lt0, iF_lt0, iT_0lt, iF_0lt, iT_le, iF_le, iT_le0, iF_le0, iT_0le, iF_0le, iT_eq, iF_eq, iT_eq0, iF_eq0]
      rw [show (i : Int) + ((0 : Nat) : Int) = (i : Int) by omega]
    · have q1 : m.2.2.2.1[i]? = some m.2.2.2.1[i] := List.getElem?_eq_getElem (by omega)
      have q2 : row[i]? = some row[i] := List.getElem?_eq_getElem (by omega)
      have hx := hm.2.2.2 _ (List.mem_of_getElem? q1)
      have hy := r2 _ (List.mem_of_getElem? q2)
      rw [lk_drop q1 q2]
      have g1 := h9 i _ q1
      generalize m.2.2.2.1[i] = x at q1 hx g1
      generalize row[i] = y at q2 hy
      have g2 := r6 i y q2
      rw [Nat.zero_add] at g1 g2
      by_cases exy : x = y
      · have ih1 := ih (i + 1) n (by omega) (by omega) (by omega)
        rw [if_pos exy]
        rw [f12_alike_h2]
        simp (disch := omega) only [h8, r5, g1, g2, nI_z, zI_add, zI_sub, zI_mul, zI_m1, ckI_z, zI_clamp, Int.toNat_natCast, bnd_some, lt, rd_same, rd_ne, rdL_same, rdL_ne, wI_2, wL_1, if_true, if_false, iT_lt, iF_lt, iT_lt0, iF_lt0, iT_0lt, iF_0lt, iT_le, iF_le, iT_le0, iF_le0, iT_0le, iF_0le, iT_eq, iF_eq, iT_eq0, iF_eq0]
        rw [show (i : Int) + ((lk (m.2.2.2.1.drop (i + 1)) (row.drop (i + 1)) + 1 : Nat) : Int) = ((i + 1 : Nat) : Int) + (lk (m.2.2.2.1.drop (i + 1)) (row.drop (i + 1)) : Nat) by omega]
        exact ih1
      · rw [if_neg exy]
        rw [f12_alike_h2]
        simp (disch := omega) only [h8, r5, g1, g2, nI_z, zI_add, zI_sub, zI_mul, zI_m1, ckI_z, zI_clamp, Int.toNat_natCast, bnd_some, lt, rd_same, rd_ne, rdL_same, rdL_ne, wI_2, wL_1, if_true, if_false, iT_lt, iF_lt, iT_lt0, iF_lt0, iT_0lt, iF_0lt, iT_le, iF_le, iT_le0, iF_le0, iT_0le, iF_0le, iT_eq, iF_eq, iT_eq0, iF_eq0]
        rw [show (i : Int) + ((0 : Nat) : Int) = (i : Int) by omega]
theorem f12_alike_ok {N : Nat} {S : St} {row : List Nat} {m : Mc} {s : Nat} (hN : 20 ≤ N) (h : RFr S m s) (hm : MIq m) (hr : Qsay S row) : f12_alike N S = some (zI (lk m.2.2.2.1 row), S) := by
  have q := f12_alike_loop (N := N) h hm hr m.2.2.2.1.length 0 N (by omega) (by have := hm.2.2.1; omega) (by omega)
  rw [List.drop_zero, List.drop_zero, show ((0 : Nat) : Int) + (lk m.2.2.2.1 row : Nat) = (lk m.2.2.2.1 row : Nat) by omega] at q
  exact q
