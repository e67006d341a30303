/-! The call 'next' on both sides. -/
theorem cmpL_eq {x y : Nat} (hx : x < 2 ^ 63) (hy : y < 2 ^ 63) : cmpL (lN x) (lN y) = 0 ↔ x = y := by
  have he : lN x = lN y ↔ x = y := by
    rw [← Int64.toInt_inj, lN_toI hx, lN_toI hy]
    omega
  have hlt : lN y < lN x ↔ y < x := by
    rw [Int64.lt_iff_toInt_lt, lN_toI hx, lN_toI hy]
    omega
  unfold cmpL
  by_cases h1 : y < x
  · rw [if_pos (hlt.mpr h1)]
    exact ⟨fun q => absurd q (by decide), fun q => by omega⟩
  · rw [if_neg (fun q => h1 (hlt.mp q))]
    by_cases h2 : x = y
    · rw [if_pos (he.mpr h2)]
      exact ⟨fun _ => h2, fun _ => rfl⟩
    · rw [if_neg (fun q => h2 (he.mp q))]
      exact ⟨fun q => absurd q (by decide), fun q => absurd q h2⟩
theorem f12_find_loop {N j X : Nat} {S : St} {L : List (Nat × Nat)} (hq : LQ S L) (hL : L.length ≤ 16384) (hb : ∀ e ∈ L, e.1 < 2 ^ 63) (hX : X < 2 ^ 63) (hj : ∃ B, L[j]? = some (X, B)) (hne : ∀ (i : Nat) (e : Nat × Nat), i < j → L[i]? = some e → e.1 ≠ X) : ∀ (m i n : Nat), i + m = j → m < n → f12_next_h69 N (lN X) n (zI i) S = f12_next_j89 N (zI ((j : Int) + ((1 : Nat) : Int))) S := by
  obtain ⟨B, hj⟩ := hj
  have hjl := (List.getElem?_eq_some_iff.mp hj).1
  intro m
  induction m with
  | zero =>
    intro i n hi hn
    obtain ⟨n, rfl⟩ : ∃ z, n = z + 1 := ⟨n - 1, by omega⟩
    obtain rfl : i = j := by omega
    have h1 := (hq.2 i _ hj).1
    have hc := (cmpL_eq hX hX).mpr rfl
    rw [f12_next_h69]
    simp (disch := omega) only [h1, nI_z, zI_add, zI_sub, zI_mul, zI_m1, ckI_z, zI_clamp, Int.toNat_natCast, bnd_some, lt, rd_same, rd_ne, rdL_same, rdL_ne, wI_2, wL_1, if_true, if_false, iT_lt, iF_lt, iT_lt0, iF_lt0, iT_0lt, iF_0lt, iT_le, iF_le, iT_le0, iF_le0, iT_0le, iF_0le, iT_eq, iF_eq, iT_eq0, iF_eq0]
    rw [if_pos hc]
  | succ m ih =>
    intro i n hi hn
    obtain ⟨n, rfl⟩ : ∃ z, n = z + 1 := ⟨n - 1, by omega⟩
    have hr : L[i]? = some L[i] := List.getElem?_eq_getElem (by omega)
    generalize L[i] = e at hr
    have h1 := (hq.2 i _ hr).1
    have hc : ¬ cmpL (lN e.1) (lN X) = 0 := fun q => hne i e (by omega) hr ((cmpL_eq (hb e (List.mem_of_getElem? hr)) hX).mp q)
    have ih1 := ih (i + 1) n (by omega) (by omega)
    rw [f12_next_h69]
    simp (disch := omega) only [h1, nI_z, zI_add, zI_sub, zI_mul, zI_m1, ckI_z, zI_clamp, Int.toNat_natCast, bnd_some, lt, rd_same, rd_ne, rdL_same, rdL_ne, wI_2, wL_1, if_true, if_false, iT_lt, iF_lt, iT_lt0, iF_lt0, iT_0lt, iF_0lt, iT_le, iF_le, iT_le0, iF_le0, iT_0le, iF_0le, iT_eq, iF_eq, iT_eq0, iF_eq0]
    rw [if_neg hc]
    exact ih1
/-- the reference goes to place j of its list -/
theorem f12_next_at {N j lim : Nat} {S : St} {g : Lg} (hN : 20 ≤ N) (hg : LV g) (hq : LQ S (plist g lim)) (hl : lim ≤ 14) :
    (∀ s q C, (progs (bit g) (rkf g) lim).drop j = (s, q) :: C → ∃ S2, f12_next_j89 N (zI j) S = some (zI s, S2) ∧ S2.1 146 8 = zI q.length ∧ Held (S2.1 153) 0 q ∧ Same loP S S2) ∧
    ((progs (bit g) (rkf g) lim).drop j = [] → j ≤ 16384 → f12_next_j89 N (zI j) S = some (zI (-2), S)) := by
  have hlen := progs_len (fun o => (bit_pos hg o).1) (fun o => (bit_pos hg o).2) (rkf_kraft hg) lim
  have h2 : 2 ^ lim ≤ 2 ^ 14 := Nat.pow_le_pow_right (by omega) hl
  have hpl : (plist g lim).length = (progs (bit g) (rkf g) lim).length := by unfold plist; rw [List.length_map]
  have hq1 := hq.1
  have hgl := hg.len
  rw [hpl] at hq1
  refine ⟨fun s q C h => ?_, fun h hj => ?_⟩
  · have hjl : j < (progs (bit g) (rkf g) lim).length := by
      rcases Nat.lt_or_ge j (progs (bit g) (rkf g) lim).length with e | e
      · exact e
      · rw [List.drop_eq_nil_of_le e] at h; cases h
    have hr : (progs (bit g) (rkf g) lim)[j]? = some (s, q) := by
      rw [List.drop_eq_getElem_cons hjl] at h
      injection h with h1 h2
      rw [List.getElem?_eq_getElem hjl, h1]
    have hpj : (plist g lim)[j]? = some (pack q, s) := by unfold plist; rw [List.getElem?_map, hr]; rfl
    obtain ⟨a1, a2⟩ := hq.2 j _ hpj
    obtain ⟨b1, b2, b3⟩ := progs_mem (List.mem_of_getElem? hr)
    obtain ⟨c1, c2, c3⟩ := comp_mem hg 12 s q b3
    obtain ⟨S2, e1, e2, e3, e4⟩ := f12_lookAt_ok (N := N) (S := S) hN c2 c1 (fun x hx => by have := c2.2.1 x hx; omega)
    have a3 : S2.1 161 j = zI s := by rw [e4.i (by unfold loP; omega)]; exact a2
    refine ⟨S2, ?_, e2, e3, e4⟩
    unfold f12_next_j89
    simp (disch := omega) only [hq1, a1, e1, a3, nI_z, zI_add, zI_sub, zI_mul, zI_m1, ckI_z, zI_clamp, Int.toNat_natCast, bnd_some, lt, rd_same, rd_ne, rdL_same, rdL_ne, wI_2, wL_1, if_true, if_false, iT_lt, iF_lt, iT_lt0, iF_lt0, iT_0lt, iF_0lt, iT_le, iF_le, iT_le0, iF_le0, iT_0le, iF_0le, iT_eq, iF_eq, iT_eq0, iF_eq0]
  · have hl2 := List.drop_eq_nil_iff.mp h
    unfold f12_next_j89
    simp (disch := omega) only [hq1, nI_z, zI_add, zI_sub, zI_mul, zI_m1, ckI_z, zI_clamp, Int.toNat_natCast, bnd_some, lt, rd_same, rd_ne, rdL_same, rdL_ne, wI_2, wL_1, if_true, if_false, iT_lt, iF_lt, iT_lt0, iF_lt0, iT_0lt, iF_0lt, iT_le, iF_le, iT_le0, iF_le0, iT_0le, iF_0le, iT_eq, iF_eq, iT_eq0, iF_eq0]
    rfl
theorem Qprog.wp {S : St} {p : List Nat} {g : Lg} (h : Qprog S p) (h1 : p.getLast? = some 0) (h2 : p.all (fun x => decide (x < g.1.length)) = true) : WP g p := by
  have hp : p ≠ [] := fun e => by rw [e] at h1; cases h1
  refine ⟨hp, fun x hx => of_decide_eq_true (List.all_eq_true.mp h2 x hx), fun i x hi => ⟨fun e => ?_, fun e => ?_⟩⟩
  · have hl := (List.getElem?_eq_some_iff.mp hi).1
    rcases Nat.lt_or_ge (i + 1) p.length with q | q
    · exact absurd e (h.2.2.2 i x hi q)
    · omega
  · rw [List.getLast?_eq_getElem?, show p.length - 1 = i by omega, hi] at h1
    injection h1
theorem progs_has {g : Lg} {p : List Nat} {B lim : Nat} (hB : 1 ≤ B) (hl : B ≤ lim) (hp : p ∈ comp (bit g) (rkf g) 12 B) : ∃ A C, progs (bit g) (rkf g) lim = A ++ (B, p) :: C := by
  have h := progs_prf g (lim - B) B
  rw [show B + (lim - B) = lim by omega] at h
  obtain ⟨b, rfl⟩ : ∃ b, B = b + 1 := ⟨B - 1, by omega⟩
  obtain ⟨X, Y, e⟩ := List.append_of_mem hp
  refine ⟨progs (bit g) (rkf g) b ++ X.map (fun p => (b + 1, p)), Y.map (fun p => (b + 1, p)) ++ prf g (b + 1) (lim - (b + 1)), ?_⟩
  rw [h]
  show progs (bit g) (rkf g) b ++ (comp (bit g) (rkf g) 12 (b + 1)).map (fun p => (b + 1, p)) ++ _ = _
  rw [e, List.map_append, List.map_cons]
  simp only [List.append_assoc, List.cons_append]
/-- both sides from the same place of the list on -/
theorem next_both {N i j : Nat} {S : St} {g : Lg} {Ls : List Lg} {p : List Nat} {C : List (Nat × List Nat)} (hN : 20 ≤ N) (hi : i < 6) (hv : LV g) (h : Qlang S Ls) (hp : Qprog S p) (hg : Ls[i]? = some g) (hf : Flw N (50 + 11 * i) 2 14 S C) (hC : (progs (bit g) (rkf g) 14).drop j = C) (hj : j ≤ 16384)
    (hr : ∀ S1, ML S1 i g → S1.1 146 8 = zI p.length → Held (S1.1 153) 0 p → ∃ S2, f12_next_j48 N (zI i) S1 = f12_next_j89 N (zI j) S2 ∧ LQ S2 (plist g 14) ∧ Same liP S1 S2) :
    ∃ r S1 S2 p2, f11_next_j36 N (50 + 11 * i) S = some (r, S1) ∧ f12_next_j48 N (zI i) S1 = some (r, S2) ∧ Qprog S2 p2 ∧ Same (fun c k => prP c k ∨ liP c k) S S2 ∧ Same (rgP 2) S S1 := by
  obtain ⟨p1, p2, p3, p4⟩ := hp
  have hm := (h.2.2.2 i g hg).2.2
  have hgl := hv.len
  cases C with
  | nil =>
    have hf1 := hf.1 rfl
    obtain ⟨S2, e1, e2, e3⟩ := hr S hm p2 p3
    have hn := (f12_next_at (N := N) (j := j) hN hv e2 (by omega)).2 hC hj
    refine ⟨zI (-2), S, S2, p, ?_, by rw [e1]; exact hn, Qprog.same ⟨p1, p2, p3, p4⟩ e3 (fun c k a b => by unfold prP at a; unfold liP at b; omega), e3.mono (fun c k a => Or.inr a), Same.rfl'⟩
    unfold f11_next_j36
    have hf2 : f3_follow N (50 + 11 * i) 2 (nI 14) S = some (zI ((0 : Nat) : Int), S) := by rw [nI_z]; exact hf1
    rw [hf2]
    simp (disch := omega) only [nI_z, zI_add, zI_sub, zI_mul, zI_m1, ckI_z, zI_clamp, Int.toNat_natCast, bnd_some, lt, rd_same, rd_ne, rdL_same, rdL_ne, wI_2, wL_1, if_true, if_false, iT_lt, iF_lt, iT_lt0, iF_lt0, iT_0lt, iF_0lt, iT_le, iF_le, iT_le0, iF_le0, iT_0le, iF_0le, iT_eq, iF_eq, iT_eq0, iF_eq0]
    rfl
  | cons e C =>
    obtain ⟨s, q⟩ := e
    obtain ⟨S1, f1, f2, f3⟩ := hf.2 s q C rfl
    have hmem : (s, q) ∈ progs (bit g) (rkf g) 14 := List.mem_of_mem_drop (by rw [hC]; exact List.mem_cons_self)
    obtain ⟨b1, b2, b3⟩ := progs_mem hmem
    have b1 : 1 ≤ s := b1
    have b2 : s ≤ 14 := b2
    obtain ⟨c1, c2, c3⟩ := comp_mem hv 12 s q b3
    have hm1 : ML S1 i g := hm.same hv f3 (fun c p _ _ _ => by unfold rgP; omega) (fun p _ _ => by unfold rgP; omega) (fun p _ _ => by unfold rgP; omega) (by unfold rgP; omega)
    obtain ⟨S2, e1, e2, e3⟩ := hr S1 hm1 (by rw [f3.i (by unfold rgP; omega)]; exact p2) (by rw [f3.row (fun k => by unfold rgP; omega)]; exact p3)
    obtain ⟨S3, n1, n2, n3, n4⟩ := (f12_next_at (N := N) (j := j) hN hv e2 (by omega)).1 s q C hC
    refine ⟨zI s, S1, S3, q, ?_, by rw [e1]; exact n1, ⟨(f2.same e3 (fun k => by unfold liP; omega) (fun k => by unfold liP; omega)).same n4 (fun k => by unfold loP; omega) (fun k => by unfold loP; omega), n2, n3, fun a x ha hl => ?_⟩, ((f3.mono (fun c k a => Or.inl (by unfold rgP at a; unfold prP; omega))).tr (e3.mono (fun c k a => Or.inr a))).tr (n4.mono (fun c k a => Or.inl (by unfold loP at a; unfold prP; omega))), f3⟩
    · unfold f11_next_j36
      have hf2 : f3_follow N (50 + 11 * i) 2 (nI 14) S = some (zI s, S1) := by rw [nI_z]; exact f1
      rw [hf2]
      simp (disch := omega) only [nI_z, zI_add, zI_sub, zI_mul, zI_m1, ckI_z, zI_clamp, Int.toNat_natCast, bnd_some, lt, rd_same, rd_ne, rdL_same, rdL_ne, wI_2, wL_1, if_true, if_false, iT_lt, iF_lt, iT_lt0, iF_lt0, iT_0lt, iF_0lt, iT_le, iF_le, iT_le0, iF_le0, iT_0le, iF_0le, iT_eq, iF_eq, iT_eq0, iF_eq0]
    · exact fun z => by have := (c2.2.2 a x ha).mp z; omega
theorem next_first {N i : Nat} {S : St} {g : Lg} {Ls : List Lg} (hN : 20 ≤ N) (hi : i < 6) (hv : LV g) (h : Qlang S Ls) (hp : Qprog S []) (hg : Ls[i]? = some g) : ∃ r S1 S2 p2, f11_next_j36 N (50 + 11 * i) S = some (r, S1) ∧ f12_next_j48 N (zI i) S1 = some (r, S2) ∧ Qprog S2 p2 ∧ Same (fun c k => prP c k ∨ liP c k) S S2 ∧ Same (rgP 2) S S1 := by
  obtain ⟨_, hc, _⟩ := h.2.2.2 i g hg
  have hf := f3_follow_first (N := N) (L := 14) hv (by omega : 2 + 1 < 50 + 11 * i) hN hc hp.1 (by omega)
  refine next_both (j := 0) hN hi hv h hp hg hf List.drop_zero (by omega) (fun S1 m1 m2 m3 => ?_)
  obtain ⟨S2, e1, e2, e3⟩ := f12_listAll_ok (N := N) (lim := 14) hv hi hN (by omega) m1
  refine ⟨S2, ?_, e2, e3⟩
  have m2' : S2.1 146 8 = zI ((0 : Nat) : Int) := by rw [e3.i (by unfold liP; omega)]; exact m2
  unfold f12_next_j48
  simp (disch := omega) only [e1, m2', nI_z, zI_add, zI_sub, zI_mul, zI_m1, ckI_z, zI_clamp, Int.toNat_natCast, bnd_some, lt, rd_same, rd_ne, rdL_same, rdL_ne, wI_2, wL_1, if_true, if_false, iT_lt, iF_lt, iT_lt0, iF_lt0, iT_0lt, iF_0lt, iT_le, iF_le, iT_le0, iF_le0, iT_0le, iF_0le, iT_eq, iF_eq, iT_eq0, iF_eq0]
theorem nodup_flat2 {α β : Type} {f : α → List β} : ∀ {l : List α}, l.Nodup → (∀ i ∈ l, (f i).Nodup) → (∀ i ∈ l, ∀ j ∈ l, i ≠ j → ∀ x ∈ f i, x ∉ f j) → (l.flatMap f).Nodup
  | [], _, _, _ => List.nodup_nil
  | a :: t, h1, h2, h3 => by
    rw [List.flatMap_cons, List.nodup_append]
    have hn := List.nodup_cons.mp h1
    refine ⟨h2 a List.mem_cons_self, nodup_flat2 hn.2 (fun i hi => h2 i (List.mem_cons_of_mem _ hi)) (fun i hi j hj => h3 i (List.mem_cons_of_mem _ hi) j (List.mem_cons_of_mem _ hj)), ?_⟩
    intro x hx y hy e
    subst e
    obtain ⟨j, hj, hy⟩ := List.mem_flatMap.mp hy
    exact h3 a List.mem_cons_self j (List.mem_cons_of_mem _ hj) (fun e => hn.1 (by rw [e]; exact hj)) x hx hy
theorem block_head {g : Lg} {d left o : Nat} {x : List Nat} (h : x ∈ block (bit g) (comp (bit g) (rkf g) d) left o) : x.head? = some o := by
  unfold block at h
  by_cases h0 : o = 0
  · rw [if_pos h0] at h
    by_cases h1 : left = bit g 0
    · rw [if_pos h1] at h
      rw [List.mem_singleton.mp h, h0]
      rfl
    · rw [if_neg h1] at h; cases h
  · rw [if_neg h0] at h
    obtain ⟨q, _, rfl⟩ := List.mem_map.mp h
    rfl
theorem comp_nodup (g : Lg) : ∀ d left, (comp (bit g) (rkf g) d left).Nodup
  | 0, _ => List.nodup_nil
  | d + 1, left => by
    unfold comp
    refine nodup_flat2 (rkf_nodup g) (fun o _ => ?_) (fun i _ j _ hij x hx hy => ?_)
    · unfold block
      by_cases h0 : o = 0
      · rw [if_pos h0]
        by_cases h1 : left = bit g 0
        · rw [if_pos h1]; simp
        · rw [if_neg h1]; exact List.nodup_nil
      · rw [if_neg h0]
        have hc := comp_nodup g d (left - bit g o)
        exact List.Pairwise.map _ (fun a b hab e => hab (by injection e)) hc
    · have h1 := block_head hx
      have h2 := block_head hy
      rw [h1] at h2
      exact hij (by injection h2)
theorem progs_nodup (g : Lg) : ∀ B, (progs (bit g) (rkf g) B).Nodup
  | 0 => List.nodup_nil
  | B + 1 => by
    show (progs (bit g) (rkf g) B ++ (comp (bit g) (rkf g) 12 (B + 1)).map (fun p => (B + 1, p))).Nodup
    rw [List.nodup_append]
    refine ⟨progs_nodup g B, List.Pairwise.map _ (fun a b hab e => hab (by injection e)) (comp_nodup g 12 (B + 1)), fun x hx y hy e => ?_⟩
    have h1 := (progs_mem hx).2.1
    obtain ⟨q, _, rfl⟩ := List.mem_map.mp hy
    rw [e] at h1
    have h1 : B + 1 ≤ B := h1
    omega
theorem progs_once {g : Lg} {A C : List (Nat × List Nat)} {e : Nat × List Nat} {B : Nat} (h : progs (bit g) (rkf g) B = A ++ e :: C) : e ∉ A := fun hm => by
  have hn := progs_nodup g B
  rw [h, List.nodup_append] at hn
  exact hn.2.2 e hm e List.mem_cons_self rfl
theorem next_later {N i B : Nat} {S : St} {g : Lg} {Ls : List Lg} {p : List Nat} (hN : 20000 ≤ N) (hi : i < 6) (hv : LV g) (h : Qlang S Ls) (hp : Qprog S p) (hg : Ls[i]? = some g) (hw : WP g p) (hB : bsum g p = B) (hB2 : B ≤ 14) : ∃ r S1 S2 p2, f11_next_j36 N (50 + 11 * i) S = some (r, S1) ∧ f12_next_j48 N (zI i) S1 = some (r, S2) ∧ Qprog S2 p2 ∧ Same (fun c k => prP c k ∨ liP c k) S S2 ∧ Same (rgP 2) S S1 := by
  obtain ⟨_, hc, _⟩ := h.2.2.2 i g hg
  have h12 := hp.1.2.1
  have hx12 := hp.1.2.2.1
  have hl0 : 0 < p.length := List.length_pos_iff.mpr hw.1
  have hwl := wp_len hv hw
  have hmem := mem_comp hv 12 p hw h12
  rw [hB] at hmem
  obtain ⟨A, C, hAC⟩ := progs_has (lim := 14) (by omega) hB2 hmem
  have hf := f3_follow_next (N := N) (L := 14) hv (by omega : 2 + 1 < 50 + 11 * i) (by omega) hc hp.1 (by omega) hAC
  have hlen := progs_len (fun o => (bit_pos hv o).1) (fun o => (bit_pos hv o).2) (rkf_kraft hv) 14
  have hAl : A.length + 1 ≤ 16384 := by
    rw [hAC, List.length_append, List.length_cons] at hlen
    omega
  have hCd : (progs (bit g) (rkf g) 14).drop (A.length + 1) = C := by
    rw [hAC, List.drop_append]
    simp
  refine next_both (j := A.length + 1) (by omega) hi hv h hp hg hf hCd hAl (fun S1 m1 m2 m3 => ?_)
  obtain ⟨S2, e1, e2, e3⟩ := f12_listAll_ok (N := N) (lim := 14) hv hi (by omega) (by omega) m1
  refine ⟨S2, ?_, e2, e3⟩
  have m2' : S2.1 146 8 = zI p.length := by rw [e3.i (by unfold liP; omega)]; exact m2
  have m3' : Held (S2.1 153) 0 p := by rw [e3.row (fun k => by unfold liP; omega)]; exact m3
  have hpk := f12_packed_ok (N := N) (by omega) m2' m3' h12 hx12
  have hgl := hv.len
  have hwp : ∀ e ∈ progs (bit g) (rkf g) 14, e.2.length ≤ 12 ∧ WP g e.2 ∧ bsum g e.2 = e.1 := fun e he => by
    obtain ⟨_, _, b3⟩ := progs_mem he
    exact comp_mem hv 12 e.1 e.2 b3
  have h63 : ∀ q : List Nat, q.length ≤ 12 → WP g q → pack q < 2 ^ 63 := fun q q1 q2 => by
    have := pack_48 q1 (fun x hx => by have := q2.2.1 x hx; omega)
    omega
  have hpl : (plist g 14).length = (progs (bit g) (rkf g) 14).length := by unfold plist; rw [List.length_map]
  have hnd : ∀ (a : Nat) (e : Nat × Nat), a < A.length → (plist g 14)[a]? = some e → e.1 ≠ pack p := fun a e ha he q => by
    unfold plist at he
    rw [List.getElem?_map] at he
    cases hy : (progs (bit g) (rkf g) 14)[a]? with
    | none => rw [hy] at he; cases he
    | some y =>
      rw [hy] at he
      have hye0 : (pack y.2, y.1) = e := Option.some.inj he
      have hye : pack y.2 = e.1 := congrArg Prod.fst hye0
      obtain ⟨_, hy2, hy3⟩ := hwp y (List.mem_of_getElem? hy)
      have hpe := pack_inj hv hy2 hw (hye.trans q)
      have hye2 : y = (B, p) := by
        rw [hpe, hB] at hy3
        exact Prod.ext hy3.symm hpe
      rw [hAC, List.getElem?_append_left ha, hye2] at hy
      exact progs_once hAC (List.mem_of_getElem? hy)
  have hfind := f12_find_loop (N := N) (j := A.length) (X := pack p) e2 (by omega) (fun e he => by
    unfold plist at he
    obtain ⟨y, hy, rfl⟩ := List.mem_map.mp he
    obtain ⟨y1, y2, _⟩ := hwp y hy
    exact h63 _ y1 y2) (h63 p h12 hw) ⟨B, by unfold plist; rw [hAC, List.map_append, List.getElem?_append_right (by simp)]; simp⟩ hnd A.length 0 N (by omega) (by omega)
  unfold f12_next_j48
  have hfind2 : f12_next_h69 N (lN (pack p)) N (zI ((0 : Nat) : Int)) S2 = f12_next_j89 N (zI ((A.length : Int) + ((1 : Nat) : Int))) S2 := hfind
  simp (disch := omega) only [e1, m2', hpk, hfind2, nI_z, zI_add, zI_sub, zI_mul, zI_m1, ckI_z, zI_clamp, Int.toNat_natCast, bnd_some, lt, rd_same, rd_ne, rdL_same, rdL_ne, wI_2, wL_1, if_true, if_false, iT_lt, iF_lt, iT_lt0, iF_lt0, iT_0lt, iF_0lt, iT_le, iF_le, iT_le0, iF_le0, iT_0le, iF_0le, iT_eq, iF_eq, iT_eq0, iF_eq0]
  rfl
