/-! The call 'next' on both sides. -/
theorem cmpL_eq {x y : Nat} (hx : x < 2 ^ 63) (hy : y < 2 ^ 63) : cmpL (lN x) (lN y) = 0 ↔ x = y := by
  have he : lN x = lN y ↔ x = y := by
    rw [← Int64.toInt_inj, lN_toI hx, lN_toI hy]
    omega
  have hlt : lN y < lN x ↔ y < x := by
    rw [Int64.lt_iff_toInt_lt, lN_toI hx, lN_toI hy]
    omega
  unfold cmpL
  by_cases h1 : y < x
  · rw [if_pos (hlt.mpr h1)]
    exact ⟨fun q => absurd q (by decide), fun q => by omega⟩
  · rw [if_neg (fun q => h1 (hlt.mp q))]
    by_cases h2 : x = y
    · rw [if_pos (he.mpr h2)]
      exact ⟨fun _ => h2, fun _ => rfl⟩
    · rw [if_neg (fun q => h2 (he.mp q))]
      exact ⟨fun q => absurd q (by decide), fun q => absurd q h2⟩
theorem f12_find_loop {N j X : Nat} {S : St} {L : List (Nat × Nat)} (hq : LQ S L) (hL : L.length ≤ 16384) (hb : ∀ e ∈ L, e.1 < 2 ^ 63) (hX : X < 2 ^ 63) (hj : ∃ B, L[j]? = some (X, B)) (hne : ∀ (i : Nat) (e : Nat × Nat), i < j → L[i]? = some e → e.1 ≠ X) : ∀ (m i n : Nat), i + m = j → m < n → f12_next_h69 N (lN X) n (zI i) S = f12_next_j89 N (zI ((j : Int) + ((1 : Nat) : Int))) S := by
  obtain ⟨B, hj⟩ := hj
  have hjl := (List.getElem?_eq_some_iff.mp hj).1
  intro m
  induction m with
  | zero =>
    intro i n hi hn
    obtain ⟨n, rfl⟩ : ∃ z, n = z + 1 := ⟨n - 1, by omega⟩
    obtain rfl : i = j := by omega
    have h1 := (hq.2 i _ hj).1
    have hc := (cmpL_eq hX hX).mpr rfl
    rw [f12_next_h69]
    simp (disch := omega) only [h1, nI_z, zI_add, zI_sub, zI_mul, zI_m1, ckI_z, zI_clamp, Int.toNat_natCast, bnd_some, lt, rd_same, rd_ne, rdL_same, rdL_ne, wI_2, wL_1, if_true, if_false, iT_lt, iF_lt, iT_lt0, iF_lt0, iT_0lt, iF_0lt, iT_le, iF_le, iT_le0, iF_le0, iT_0le, iF_0le, iT_eq, iF_eq, iT_eq0, iF_eq0]
    rw [if_pos hc]
  | succ m ih =>
    intro i n hi hn
    obtain ⟨n, rfl⟩ : ∃ z, n = z + 1 := ⟨n - 1, by omega⟩
    have hr : L[i]? = some L[i] := List.getElem?_eq_getElem (by omega)
    generalize L[i] = e at hr
    have h1 := (hq.2 i _ hr).1
    have hc : ¬ cmpL (lN e.1) (lN X) = 0 := fun q => hne i e (by omega) hr ((cmpL_eq (hb e (List.mem_of_getElem? hr)) hX).mp q)
    have ih1 := ih (i + 1) n (by omega) (by omega)
    rw [f12_next_h69]
    simp (disch := omega) only [h1, nI_z, zI_add, zI_sub, zI_mul, zI_m1, ckI_z, zI_clamp, Int.toNat_natCast, bnd_some, lt, rd_same, rd_ne, rdL_same, rdL_ne, wI_2, wL_1, if_true, if_false, iT_lt, iF_lt, iT_lt0, iF_lt0, iT_0lt, iF_0lt, iT_le, iF_le, iT_le0, iF_le0, iT_0le, iF_0le, iT_eq, iF_eq, iT_eq0, iF_eq0]
    rw [if_neg hc]
    exact ih1
