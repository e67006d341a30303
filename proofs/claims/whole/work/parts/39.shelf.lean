/-! SHELVES on both sides. -/
abbrev Sf : Type := Nat × Nat × Nat
/-- what the reference has for a shelf of kind k with order o -/
def shI (q : Sf) : Int := if q.1 = 6 then -1 else if q.1 = 5 then (q.2.1 : Int) else 1000 + (q.1 : Int)
def Sh1 (S : St) (d : Nat) (q : Sf) : Prop := q.1 ≤ 6 ∧ q.2.1 < 600 ∧ q.2.2 ≤ 60 ∧ S.1 40 d = zI q.1 ∧ S.1 41 d = zI q.2.1 ∧ S.1 42 d = zI q.2.2 ∧ S.1 170 d = zI (shI q) ∧ S.1 171 d = zI q.2.2 ∧ (q.1 ≤ 4 → ∀ i, i < q.2.2 → S.2 (44 + d) i = S.2 172 (60 * d + i)) ∧ (q.1 = 4 → ∀ i, i < q.2.2 → S.2 172 (60 * d + i) = lN 0 ∨ S.2 172 (60 * d + i) = lN 1)
def Qsh (S : St) (F : Nat → Sf) : Prop := ∀ d, d < 6 → Sh1 S d (F d)
def qhP (c _k : Nat) : Prop := (40 ≤ c ∧ c ≤ 42) ∨ (44 ≤ c ∧ c ≤ 49) ∨ (170 ≤ c ∧ c ≤ 173)
theorem Sh1.same {P : Nat → Nat → Prop} {S S2 : St} {d : Nat} {q : Sf} (hd : d < 6) (h : Sh1 S d q) (hs : Same P S S2) (h1 : ∀ c, (40 ≤ c ∧ c ≤ 42) ∨ c = 170 ∨ c = 171 → ¬ P c d) (h2 : ∀ i, i < 60 → ¬ P (44 + d) i ∧ ¬ P 172 (60 * d + i)) : Sh1 S2 d q := by
  obtain ⟨a1, a2, a3, a4, a5, a6, a7, a8, a9, a10⟩ := h
  refine ⟨a1, a2, a3, by rw [hs.i (h1 40 (by omega))]; exact a4, by rw [hs.i (h1 41 (by omega))]; exact a5, by rw [hs.i (h1 42 (by omega))]; exact a6, by rw [hs.i (h1 170 (by omega))]; exact a7, by rw [hs.i (h1 171 (by omega))]; exact a8, fun q1 i hi => ?_, fun q1 i hi => ?_⟩
  · rw [hs.l (h2 i (by omega)).1, hs.l (h2 i (by omega)).2]; exact a9 q1 i hi
  · rw [hs.l (h2 i (by omega)).2]; exact a10 q1 i hi
theorem Qsh.same {P : Nat → Nat → Prop} {S S2 : St} {F : Nat → Sf} (h : Qsh S F) (hs : Same P S S2) (hd : ∀ c k, qhP c k → ¬ P c k) : Qsh S2 F := fun d hd6 => (h d hd6).same hd6 hs (fun c hc => hd c d (by unfold qhP; omega)) (fun i _ => ⟨hd _ i (by unfold qhP; omega), hd _ _ (by unfold qhP; omega)⟩)
def updF (F : Nat → Sf) (d : Nat) (q : Sf) : Nat → Sf := fun e => if e = d then q else F e
/-- one shelf is another now -/
theorem Qsh.upd {P : Nat → Nat → Prop} {S S2 : St} {F : Nat → Sf} {d : Nat} {q : Sf} (h : Qsh S F) (hs : Same P S S2) (h1 : Sh1 S2 d q) (h2 : ∀ e, e < 6 → e ≠ d → (∀ c, (40 ≤ c ∧ c ≤ 42) ∨ c = 170 ∨ c = 171 → ¬ P c e) ∧ ∀ i, i < 60 → ¬ P (44 + e) i ∧ ¬ P 172 (60 * e + i)) : Qsh S2 (updF F d q) := fun e he => by
  unfold updF
  by_cases q : e = d
  · rw [if_pos q, q]; exact h1
  · rw [if_neg q]
    exact (h e he).same he hs (h2 e he q).1 (h2 e he q).2
theorem shelf_cases (x : Int32) : (∀ S, f8_isShelf x S = some (zI 0, S) ∧ f12_isShelf x S = some (zI 0, S)) ∨ ∃ d : Nat, d < 6 ∧ x = zI d ∧ ∀ S, f8_isShelf x S = some (zI 1, S) ∧ f12_isShelf x S = some (zI 1, S) := by
  have hx := xrng x
  rw [zI_of x]
  generalize x.toInt = z at hx
  have k1 := fun S => within_n z 0 5 S hx (by omega) (by omega)
  by_cases e : 0 ≤ z ∧ z ≤ 5
  · right
    refine ⟨z.toNat, by omega, by congr 1; omega, fun S => ⟨?_, ?_⟩⟩
    · unfold f8_isShelf; simp (disch := omega) only [nI_z, zI_add, zI_sub, zI_mul, zI_m1, ckI_z, zI_clamp, Int.toNat_natCast, bnd_some, lt, rd_same, rd_ne, rdL_same, rdL_ne, wI_2, wL_1, if_true, if_false, iT_lt, iF_lt, iT_lt0, iF_lt0, iT_0lt, iF_0lt, iT_le, iF_le, iT_le0, iF_le0, iT_0le, iF_0le, iT_eq, iF_eq, iT_eq0, iF_eq0]; rfl
    · have k2 := k1 S
      rw [bI_t (by omega)] at k2
      unfold f12_isShelf
      rw [k2, bnd_some]
      exact ckB_01 (Or.inr rfl)
  · left
    refine fun S => ⟨?_, ?_⟩
    · unfold f8_isShelf
      by_cases e0 : z < 0
      · simp (disch := omega) only [nI_z, zI_add, zI_sub, zI_mul, zI_m1, ckI_z, zI_clamp, Int.toNat_natCast, bnd_some, lt, rd_same, rd_ne, rdL_same, rdL_ne, wI_2, wL_1, if_true, if_false, iT_lt, iF_lt, iT_lt0, iF_lt0, iT_0lt, iF_0lt, iT_le, iF_le, iT_le0, iF_le0, iT_0le, iF_0le, iT_eq, iF_eq, iT_eq0, iF_eq0]; rfl
      · simp (disch := omega) only [nI_z, zI_add, zI_sub, zI_mul, zI_m1, ckI_z, zI_clamp, Int.toNat_natCast, bnd_some, lt, rd_same, rd_ne, rdL_same, rdL_ne, wI_2, wL_1, if_true, if_false, iT_lt, iF_lt, iT_lt0, iF_lt0, iT_0lt, iF_0lt, iT_le, iF_le, iT_le0, iF_le0, iT_0le, iF_0le, iT_eq, iF_eq, iT_eq0, iF_eq0]; rfl
    · have k2 := k1 S
      rw [bI_f (by omega)] at k2
      unfold f12_isShelf
      rw [k2, bnd_some]
      exact ckB_01 (Or.inl rfl)
theorem f8_is {S : St} {d : Nat} (hd : d < 6) : f8_isShelf (zI d) S = some (zI 1, S) := by
  unfold f8_isShelf; simp (disch := omega) only [nI_z, zI_add, zI_sub, zI_mul, zI_m1, ckI_z, zI_clamp, Int.toNat_natCast, bnd_some, lt, rd_same, rd_ne, rdL_same, rdL_ne, wI_2, wL_1, if_true, if_false, iT_lt, iF_lt, iT_lt0, iF_lt0, iT_0lt, iF_0lt, iT_le, iF_le, iT_le0, iF_le0, iT_0le, iF_0le, iT_eq, iF_eq, iT_eq0, iF_eq0]; rfl
theorem f12_is {S : St} {d : Nat} (hd : d < 6) : f12_isShelf (zI d) S = some (zI 1, S) := by
  have k2 := within_n (d : Int) 0 5 S (by omega) (by omega) (by omega)
  rw [bI_t (by omega)] at k2
  unfold f12_isShelf
  rw [k2, bnd_some]
  exact ckB_01 (Or.inr rfl)
theorem f8_sort_in {S : St} {d : Nat} {q : Sf} (hd : d < 6) (h : Sh1 S d q) : f8_sort (zI d) S = some (zI q.1, S) := by
  have h4 := h.2.2.2.1
  unfold f8_sort
  simp (disch := omega) only [f8_is hd, h4, nI_z, zI_add, zI_sub, zI_mul, zI_m1, ckI_z, zI_clamp, Int.toNat_natCast, bnd_some, lt, rd_same, rd_ne, rdL_same, rdL_ne, wI_2, wL_1, if_true, if_false, iT_lt, iF_lt, iT_lt0, iF_lt0, iT_0lt, iF_0lt, iT_le, iF_le, iT_le0, iF_le0, iT_0le, iF_0le, iT_eq, iF_eq, iT_eq0, iF_eq0]
theorem f8_nothing_in {S : St} {d : Nat} {q : Sf} (hd : d < 6) (h : Sh1 S d q) : f8_holdsNothing (zI d) S = some (bI (q.1 = 6), S) := by
  have h1 := h.1
  have hs := f8_sort_in hd h
  unfold f8_holdsNothing
  by_cases e : q.1 = 6
  · rw [bI_t e]; simp (disch := omega) only [hs, nI_z, zI_add, zI_sub, zI_mul, zI_m1, ckI_z, zI_clamp, Int.toNat_natCast, bnd_some, lt, rd_same, rd_ne, rdL_same, rdL_ne, wI_2, wL_1, if_true, if_false, iT_lt, iF_lt, iT_lt0, iF_lt0, iT_0lt, iF_0lt, iT_le, iF_le, iT_le0, iF_le0, iT_0le, iF_0le, iT_eq, iF_eq, iT_eq0, iF_eq0]; rfl
  · rw [bI_f e]; simp (disch := omega) only [hs, nI_z, zI_add, zI_sub, zI_mul, zI_m1, ckI_z, zI_clamp, Int.toNat_natCast, bnd_some, lt, rd_same, rd_ne, rdL_same, rdL_ne, wI_2, wL_1, if_true, if_false, iT_lt, iF_lt, iT_lt0, iF_lt0, iT_0lt, iF_0lt, iT_le, iF_le, iT_le0, iF_le0, iT_0le, iF_0le, iT_eq, iF_eq, iT_eq0, iF_eq0]; rfl
theorem f8_row_in {S : St} {d : Nat} {q : Sf} (hd : d < 6) (h : Sh1 S d q) : f8_holdsRow (zI d) S = some (bI (q.1 ≤ 4), S) := by
  have h1 := h.1
  have hs := f8_sort_in hd h
  unfold f8_holdsRow
  by_cases e : q.1 ≤ 4
  · rw [bI_t e]; simp (disch := omega) only [hs, nI_z, zI_add, zI_sub, zI_mul, zI_m1, ckI_z, zI_clamp, Int.toNat_natCast, bnd_some, lt, rd_same, rd_ne, rdL_same, rdL_ne, wI_2, wL_1, if_true, if_false, iT_lt, iF_lt, iT_lt0, iF_lt0, iT_0lt, iF_0lt, iT_le, iF_le, iT_le0, iF_le0, iT_0le, iF_0le, iT_eq, iF_eq, iT_eq0, iF_eq0]; rfl
  · rw [bI_f e]; simp (disch := omega) only [hs, nI_z, zI_add, zI_sub, zI_mul, zI_m1, ckI_z, zI_clamp, Int.toNat_natCast, bnd_some, lt, rd_same, rd_ne, rdL_same, rdL_ne, wI_2, wL_1, if_true, if_false, iT_lt, iF_lt, iT_lt0, iF_lt0, iT_0lt, iF_0lt, iT_le, iF_le, iT_le0, iF_le0, iT_0le, iF_0le, iT_eq, iF_eq, iT_eq0, iF_eq0]; rfl
theorem f8_len_in {S : St} {d : Nat} {q : Sf} (hd : d < 6) (h : Sh1 S d q) : f8_length (zI d) S = some (zI q.2.2, S) := by
  have h6 := h.2.2.2.2.2.1
  unfold f8_length
  simp (disch := omega) only [f8_is hd, h6, nI_z, zI_add, zI_sub, zI_mul, zI_m1, ckI_z, zI_clamp, Int.toNat_natCast, bnd_some, lt, rd_same, rd_ne, rdL_same, rdL_ne, wI_2, wL_1, if_true, if_false, iT_lt, iF_lt, iT_lt0, iF_lt0, iT_0lt, iF_0lt, iT_le, iF_le, iT_le0, iF_le0, iT_0le, iF_0le, iT_eq, iF_eq, iT_eq0, iF_eq0]
theorem places_in {S : St} {d : Nat} {q : Sf} (hd : d < 6) (h : Sh1 S d q) (i n : Int) (hi : -2147483648 ≤ i ∧ i < 2147483648) (hn : 0 ≤ n ∧ n < 2147483648) : f11_hasPlaces (zI d) (zI i) (zI n) S = some (bI (0 ≤ i ∧ i + n ≤ q.2.2), S) := by
  have hl := f8_len_in hd h
  have h3 := h.2.2.1
  unfold f11_hasPlaces
  by_cases e0 : i < 0
  · rw [bI_f (by omega)]; simp (disch := omega) only [nI_z, zI_add, zI_sub, zI_mul, zI_m1, ckI_z, zI_clamp, Int.toNat_natCast, bnd_some, lt, rd_same, rd_ne, rdL_same, rdL_ne, wI_2, wL_1, if_true, if_false, iT_lt, iF_lt, iT_lt0, iF_lt0, iT_0lt, iF_0lt, iT_le, iF_le, iT_le0, iF_le0, iT_0le, iF_0le, iT_eq, iF_eq, iT_eq0, iF_eq0]; rfl
  · by_cases e1 : (q.2.2 : Int) < i
    · rw [bI_f (by omega)]; simp (disch := omega) only [hl, nI_z, zI_add, zI_sub, zI_mul, zI_m1, ckI_z, zI_clamp, Int.toNat_natCast, bnd_some, lt, rd_same, rd_ne, rdL_same, rdL_ne, wI_2, wL_1, if_true, if_false, iT_lt, iF_lt, iT_lt0, iF_lt0, iT_0lt, iF_0lt, iT_le, iF_le, iT_le0, iF_le0, iT_0le, iF_0le, iT_eq, iF_eq, iT_eq0, iF_eq0]; rfl
    · by_cases e2 : (q.2.2 : Int) - i < n
      · rw [bI_f (by omega)]; simp (disch := omega) only [hl, nI_z, zI_add, zI_sub, zI_mul, zI_m1, ckI_z, zI_clamp, Int.toNat_natCast, bnd_some, lt, rd_same, rd_ne, rdL_same, rdL_ne, wI_2, wL_1, if_true, if_false, iT_lt, iF_lt, iT_lt0, iF_lt0, iT_0lt, iF_0lt, iT_le, iF_le, iT_le0, iF_le0, iT_0le, iF_0le, iT_eq, iF_eq, iT_eq0, iF_eq0]; rfl
      · rw [bI_t (by omega)]; simp (disch := omega) only [hl, nI_z, zI_add, zI_sub, zI_mul, zI_m1, ckI_z, zI_clamp, Int.toNat_natCast, bnd_some, lt, rd_same, rd_ne, rdL_same, rdL_ne, wI_2, wL_1, if_true, if_false, iT_lt, iF_lt, iT_lt0, iF_lt0, iT_0lt, iF_0lt, iT_le, iF_le, iT_le0, iF_le0, iT_0le, iF_0le, iT_eq, iF_eq, iT_eq0, iF_eq0]; rfl
theorem shI_rng {q : Sf} (h1 : q.1 ≤ 6) (h2 : q.2.1 < 600) : -1 ≤ shI q ∧ shI q ≤ 1004 ∧ (shI q < 0 ↔ q.1 = 6) ∧ (1000 ≤ shI q ↔ q.1 ≤ 4) ∧ (q.1 ≤ 4 → shI q = 1000 + (q.1 : Int)) ∧ (q.1 = 5 → shI q = (q.2.1 : Int)) := by
  unfold shI
  by_cases e6 : q.1 = 6
  · rw [if_pos e6]; omega
  · rw [if_neg e6]
    by_cases e5 : q.1 = 5
    · rw [if_pos e5]; omega
    · rw [if_neg e5]; omega
/-- why an element is not there -/
theorem refusal_both {S : St} {F : Nat → Sf} (h : Qsh S F) (x y : Int32) : (∃ r, ¬ r = 0 ∧ f11_refusalAt x y S = some (r, S) ∧ f12_refusal x y S = some (r, S)) ∨ ∃ d i : Nat, d < 6 ∧ x = zI d ∧ y = zI i ∧ (F d).1 ≤ 4 ∧ i < (F d).2.2 ∧ f11_refusalAt x y S = some (zI 0, S) ∧ f12_refusal x y S = some (zI 0, S) := by
  have hy := xrng y
  rw [zI_of y]
  generalize y.toInt = z at hy
  rcases shelf_cases x with hc | ⟨d, hd, rfl, hc⟩
  · left
    obtain ⟨c1, c2⟩ := hc S
    refine ⟨zI (-1), by decide, ?_, ?_⟩
    · unfold f11_refusalAt; simp (disch := omega) only [c1, nI_z, zI_add, zI_sub, zI_mul, zI_m1, ckI_z, zI_clamp, Int.toNat_natCast, bnd_some, lt, rd_same, rd_ne, rdL_same, rdL_ne, wI_2, wL_1, if_true, if_false, iT_lt, iF_lt, iT_lt0, iF_lt0, iT_0lt, iF_0lt, iT_le, iF_le, iT_le0, iF_le0, iT_0le, iF_0le, iT_eq, iF_eq, iT_eq0, iF_eq0]
    · unfold f12_refusal; simp (disch := omega) only [c2, nI_z, zI_add, zI_sub, zI_mul, zI_m1, ckI_z, zI_clamp, Int.toNat_natCast, bnd_some, lt, rd_same, rd_ne, rdL_same, rdL_ne, wI_2, wL_1, if_true, if_false, iT_lt, iF_lt, iT_lt0, iF_lt0, iT_0lt, iF_0lt, iT_le, iF_le, iT_le0, iF_le0, iT_0le, iF_0le, iT_eq, iF_eq, iT_eq0, iF_eq0]
  · obtain ⟨c1, c2⟩ := hc S
    have h1 := h d hd
    have q1 := f8_nothing_in hd h1
    have q2 := f8_row_in hd h1
    have q3 := places_in hd h1 z 1 hy (by omega)
    obtain ⟨s1, s2, s3, s4, s5, s6⟩ := shI_rng h1.1 h1.2.1
    have h70 := h1.2.2.2.2.2.2.1
    have h71 := h1.2.2.2.2.2.2.2.1
    have h60 := h1.2.2.1
    by_cases k6 : (F d).1 = 6
    · left
      refine ⟨zI (-11), by decide, ?_, ?_⟩
      · unfold f11_refusalAt; simp (disch := omega) only [iT_b, iF_b, c1, q1, nI_z, zI_add, zI_sub, zI_mul, zI_m1, ckI_z, zI_clamp, Int.toNat_natCast, bnd_some, lt, rd_same, rd_ne, rdL_same, rdL_ne, wI_2, wL_1, if_true, if_false, iT_lt, iF_lt, iT_lt0, iF_lt0, iT_0lt, iF_0lt, iT_le, iF_le, iT_le0, iF_le0, iT_0le, iF_0le, iT_eq, iF_eq, iT_eq0, iF_eq0]; rfl
      · unfold f12_refusal; simp (disch := omega) only [c2, h70, nI_z, zI_add, zI_sub, zI_mul, zI_m1, ckI_z, zI_clamp, Int.toNat_natCast, bnd_some, lt, rd_same, rd_ne, rdL_same, rdL_ne, wI_2, wL_1, if_true, if_false, iT_lt, iF_lt, iT_lt0, iF_lt0, iT_0lt, iF_0lt, iT_le, iF_le, iT_le0, iF_le0, iT_0le, iF_0le, iT_eq, iF_eq, iT_eq0, iF_eq0]; rfl
    · by_cases k4 : (F d).1 ≤ 4
      · by_cases zi : 0 ≤ z ∧ z < (F d).2.2
        · right
          have q3' : f11_hasPlaces (zI d) (zI z) (nI 1) S = some (bI (0 ≤ z ∧ z + 1 ≤ (F d).2.2), S) := by rw [nI_z]; exact q3
          refine ⟨d, z.toNat, hd, rfl, by congr 1; omega, k4, by omega, ?_, ?_⟩
          · unfold f11_refusalAt; rw [c1]; simp only [bnd_some]; rw [if_neg (by decide), q1]; simp only [bnd_some]; rw [iT_b k6, q2]; simp only [bnd_some]; rw [iF_b k4, q3']; simp only [bnd_some]; rw [iF_b (by omega)]; rfl
          · unfold f12_refusal; simp (disch := omega) only [c2, h70, h71, nI_z, zI_add, zI_sub, zI_mul, zI_m1, ckI_z, zI_clamp, Int.toNat_natCast, bnd_some, lt, rd_same, rd_ne, rdL_same, rdL_ne, wI_2, wL_1, if_true, if_false, iT_lt, iF_lt, iT_lt0, iF_lt0, iT_0lt, iF_0lt, iT_le, iF_le, iT_le0, iF_le0, iT_0le, iF_0le, iT_eq, iF_eq, iT_eq0, iF_eq0]; rfl
        · left
          have q3' : f11_hasPlaces (zI d) (zI z) (nI 1) S = some (bI (0 ≤ z ∧ z + 1 ≤ (F d).2.2), S) := by rw [nI_z]; exact q3
          refine ⟨zI (-13), by decide, ?_, ?_⟩
          · unfold f11_refusalAt; rw [c1]; simp only [bnd_some]; rw [if_neg (by decide), q1]; simp only [bnd_some]; rw [iT_b k6, q2]; simp only [bnd_some]; rw [iF_b k4, q3']; simp only [bnd_some]; rw [iT_b (by omega)]; rfl
          · unfold f12_refusal
            by_cases z0 : z < 0
            · simp (disch := omega) only [c2, h70, h71, nI_z, zI_add, zI_sub, zI_mul, zI_m1, ckI_z, zI_clamp, Int.toNat_natCast, bnd_some, lt, rd_same, rd_ne, rdL_same, rdL_ne, wI_2, wL_1, if_true, if_false, iT_lt, iF_lt, iT_lt0, iF_lt0, iT_0lt, iF_0lt, iT_le, iF_le, iT_le0, iF_le0, iT_0le, iF_0le, iT_eq, iF_eq, iT_eq0, iF_eq0]; rfl
            · simp (disch := omega) only [c2, h70, h71, nI_z, zI_add, zI_sub, zI_mul, zI_m1, ckI_z, zI_clamp, Int.toNat_natCast, bnd_some, lt, rd_same, rd_ne, rdL_same, rdL_ne, wI_2, wL_1, if_true, if_false, iT_lt, iF_lt, iT_lt0, iF_lt0, iT_0lt, iF_0lt, iT_le, iF_le, iT_le0, iF_le0, iT_0le, iF_0le, iT_eq, iF_eq, iT_eq0, iF_eq0]; rfl
      · left
        refine ⟨zI (-12), by decide, ?_, ?_⟩
        · unfold f11_refusalAt; simp (disch := omega) only [iT_b, iF_b, c1, q1, q2, nI_z, zI_add, zI_sub, zI_mul, zI_m1, ckI_z, zI_clamp, Int.toNat_natCast, bnd_some, lt, rd_same, rd_ne, rdL_same, rdL_ne, wI_2, wL_1, if_true, if_false, iT_lt, iF_lt, iT_lt0, iF_lt0, iT_0lt, iF_0lt, iT_le, iF_le, iT_le0, iF_le0, iT_0le, iF_0le, iT_eq, iF_eq, iT_eq0, iF_eq0]; rfl
        · unfold f12_refusal; simp (disch := omega) only [c2, h70, nI_z, zI_add, zI_sub, zI_mul, zI_m1, ckI_z, zI_clamp, Int.toNat_natCast, bnd_some, lt, rd_same, rd_ne, rdL_same, rdL_ne, wI_2, wL_1, if_true, if_false, iT_lt, iF_lt, iT_lt0, iF_lt0, iT_0lt, iF_0lt, iT_le, iF_le, iT_le0, iF_le0, iT_0le, iF_0le, iT_eq, iF_eq, iT_eq0, iF_eq0]; rfl
theorem lp60 (d i : Nat) : (((60 : Nat) : Int) * (d : Int) + (i : Int)).toNat = 60 * d + i := by omega
theorem c_element {S : St} {F : Nat → Sf} (h : Qsh S F) (x y : Int32) : ∃ r, f11_element x y S = some (r, S) ∧ f12_element x y S = some (r, S) := by
  rcases refusal_both h x y with ⟨r, r0, r1, r2⟩ | ⟨d, i, hd, rfl, rfl, k4, hi, r1, r2⟩
  · refine ⟨(-9223372036854775808), ?_, ?_⟩
    · unfold f11_element
      rw [r1, bnd_some, if_neg r0]
    · unfold f12_element
      rw [r2, bnd_some, if_neg r0]
  · obtain ⟨a1, a2, a3, a4, a5, a6, a7, a8, a9, a10⟩ := h d hd
    have q := a9 k4 i hi
    refine ⟨S.2 172 (60 * d + i), ?_, ?_⟩
    · unfold f11_element f8_get
      simp (disch := omega) only [r1, f8_is hd, a6, q, nI_z, zI_add, zI_sub, zI_mul, zI_m1, ckI_z, zI_clamp, Int.toNat_natCast, bnd_some, lt, rd_same, rd_ne, rdL_same, rdL_ne, wI_2, wL_1, if_true, if_false, iT_lt, iF_lt, iT_lt0, iF_lt0, iT_0lt, iF_0lt, iT_le, iF_le, iT_le0, iF_le0, iT_0le, iF_0le, iT_eq, iF_eq, iT_eq0, iF_eq0]
    · unfold f12_element
      simp (disch := omega) only [r2, lp60, nI_z, zI_add, zI_sub, zI_mul, zI_m1, ckI_z, zI_clamp, Int.toNat_natCast, bnd_some, lt, rd_same, rd_ne, rdL_same, rdL_ne, wI_2, wL_1, if_true, if_false, iT_lt, iF_lt, iT_lt0, iF_lt0, iT_0lt, iF_0lt, iT_le, iF_le, iT_le0, iF_le0, iT_0le, iF_0le, iT_eq, iF_eq, iT_eq0, iF_eq0]
/-- what a row of that sort keeps -/
def asS (k : Nat) (v : Int64) : Int64 := if k = 0 then v.toInt32.toInt8.toInt32.toInt64 else if k = 1 then v.toInt32.toInt16.toInt32.toInt64 else if k = 2 then v.toInt32.toInt64 else if k = 3 then v else if cmpL v (lN 0) = 0 then lN 0 else lN 1
theorem f8_held_in {S : St} {k : Nat} (hk : k ≤ 4) (v : Int64) : f8_held v (zI k) S = some (asS k v, S) := by
  unfold f8_held asS
  by_cases e0 : k = 0
  · rw [if_pos e0]; simp (disch := omega) only [sw_t, sw_f, sw_n, nI_z, zI_add, zI_sub, zI_mul, zI_m1, ckI_z, zI_clamp, Int.toNat_natCast, bnd_some, lt, rd_same, rd_ne, rdL_same, rdL_ne, wI_2, wL_1, if_true, if_false, iT_lt, iF_lt, iT_lt0, iF_lt0, iT_0lt, iF_0lt, iT_le, iF_le, iT_le0, iF_le0, iT_0le, iF_0le, iT_eq, iF_eq, iT_eq0, iF_eq0]
  rw [if_neg e0]
  by_cases e1 : k = 1
  · rw [if_pos e1]; simp (disch := omega) only [sw_t, sw_f, sw_n, nI_z, zI_add, zI_sub, zI_mul, zI_m1, ckI_z, zI_clamp, Int.toNat_natCast, bnd_some, lt, rd_same, rd_ne, rdL_same, rdL_ne, wI_2, wL_1, if_true, if_false, iT_lt, iF_lt, iT_lt0, iF_lt0, iT_0lt, iF_0lt, iT_le, iF_le, iT_le0, iF_le0, iT_0le, iF_0le, iT_eq, iF_eq, iT_eq0, iF_eq0]
  rw [if_neg e1]
  by_cases e2 : k = 2
  · rw [if_pos e2]; simp (disch := omega) only [sw_t, sw_f, sw_n, nI_z, zI_add, zI_sub, zI_mul, zI_m1, ckI_z, zI_clamp, Int.toNat_natCast, bnd_some, lt, rd_same, rd_ne, rdL_same, rdL_ne, wI_2, wL_1, if_true, if_false, iT_lt, iF_lt, iT_lt0, iF_lt0, iT_0lt, iF_0lt, iT_le, iF_le, iT_le0, iF_le0, iT_0le, iF_0le, iT_eq, iF_eq, iT_eq0, iF_eq0]
  rw [if_neg e2]
  by_cases e3 : k = 3
  · rw [if_pos e3]; simp (disch := omega) only [sw_t, sw_f, sw_n, nI_z, zI_add, zI_sub, zI_mul, zI_m1, ckI_z, zI_clamp, Int.toNat_natCast, bnd_some, lt, rd_same, rd_ne, rdL_same, rdL_ne, wI_2, wL_1, if_true, if_false, iT_lt, iF_lt, iT_lt0, iF_lt0, iT_0lt, iF_0lt, iT_le, iF_le, iT_le0, iF_le0, iT_0le, iF_0le, iT_eq, iF_eq, iT_eq0, iF_eq0]
  rw [if_neg e3]
  simp (disch := omega) only [sw_t, sw_f, sw_n, nI_z, zI_add, zI_sub, zI_mul, zI_m1, ckI_z, zI_clamp, Int.toNat_natCast, bnd_some, lt, rd_same, rd_ne, rdL_same, rdL_ne, wI_2, wL_1, if_true, if_false, iT_lt, iF_lt, iT_lt0, iF_lt0, iT_0lt, iF_0lt, iT_le, iF_le, iT_le0, iF_le0, iT_0le, iF_0le, iT_eq, iF_eq, iT_eq0, iF_eq0]
  by_cases q : cmpL v (lN 0) = 0
  · rw [if_pos q, if_pos q]
  · rw [if_neg q, if_neg q]
theorem f12_as_in {S : St} {k : Nat} (hk : k ≤ 4) (v : Int64) : f12_asSort (zI k) v S = some (asS k v, S) := by
  unfold f12_asSort asS
  by_cases e0 : k = 0
  · rw [if_pos e0]; simp (disch := omega) only [nI_z, zI_add, zI_sub, zI_mul, zI_m1, ckI_z, zI_clamp, Int.toNat_natCast, bnd_some, lt, rd_same, rd_ne, rdL_same, rdL_ne, wI_2, wL_1, if_true, if_false, iT_lt, iF_lt, iT_lt0, iF_lt0, iT_0lt, iF_0lt, iT_le, iF_le, iT_le0, iF_le0, iT_0le, iF_0le, iT_eq, iF_eq, iT_eq0, iF_eq0]
  rw [if_neg e0]
  by_cases e1 : k = 1
  · rw [if_pos e1]; simp (disch := omega) only [nI_z, zI_add, zI_sub, zI_mul, zI_m1, ckI_z, zI_clamp, Int.toNat_natCast, bnd_some, lt, rd_same, rd_ne, rdL_same, rdL_ne, wI_2, wL_1, if_true, if_false, iT_lt, iF_lt, iT_lt0, iF_lt0, iT_0lt, iF_0lt, iT_le, iF_le, iT_le0, iF_le0, iT_0le, iF_0le, iT_eq, iF_eq, iT_eq0, iF_eq0]
  rw [if_neg e1]
  by_cases e2 : k = 2
  · rw [if_pos e2]; simp (disch := omega) only [nI_z, zI_add, zI_sub, zI_mul, zI_m1, ckI_z, zI_clamp, Int.toNat_natCast, bnd_some, lt, rd_same, rd_ne, rdL_same, rdL_ne, wI_2, wL_1, if_true, if_false, iT_lt, iF_lt, iT_lt0, iF_lt0, iT_0lt, iF_0lt, iT_le, iF_le, iT_le0, iF_le0, iT_0le, iF_0le, iT_eq, iF_eq, iT_eq0, iF_eq0]
  rw [if_neg e2]
  by_cases e3 : k = 3
  · rw [if_pos e3]; simp (disch := omega) only [nI_z, zI_add, zI_sub, zI_mul, zI_m1, ckI_z, zI_clamp, Int.toNat_natCast, bnd_some, lt, rd_same, rd_ne, rdL_same, rdL_ne, wI_2, wL_1, if_true, if_false, iT_lt, iF_lt, iT_lt0, iF_lt0, iT_0lt, iF_0lt, iT_le, iF_le, iT_le0, iF_le0, iT_0le, iF_0le, iT_eq, iF_eq, iT_eq0, iF_eq0]
  rw [if_neg e3]
  simp (disch := omega) only [nI_z, zI_add, zI_sub, zI_mul, zI_m1, ckI_z, zI_clamp, Int.toNat_natCast, bnd_some, lt, rd_same, rd_ne, rdL_same, rdL_ne, wI_2, wL_1, if_true, if_false, iT_lt, iF_lt, iT_lt0, iF_lt0, iT_0lt, iF_0lt, iT_le, iF_le, iT_le0, iF_le0, iT_0le, iF_0le, iT_eq, iF_eq, iT_eq0, iF_eq0]
  by_cases q : cmpL v (lN 0) = 0
  · rw [if_pos q, if_pos q]
  · rw [if_neg q, if_neg q]
theorem c_put {S : St} {F : Nat → Sf} (h : Qsh S F) (x y : Int32) (v : Int64) : ∃ r S1 S2, f11_put x y v S = some (r, S1) ∧ f12_put x y v S1 = some (r, S2) ∧ Qsh S2 F ∧ Same qhP S S2 := by
  rcases refusal_both h x y with ⟨r, r0, r1, r2⟩ | ⟨d, i, hd, rfl, rfl, k4, hi, r1, r2⟩
  · refine ⟨r, S, S, ?_, ?_, h, Same.rfl'⟩
    · unfold f11_put
      rw [r1, bnd_some, if_neg r0]
    · unfold f12_put f12_put_j38
      rw [r2, bnd_some, if_neg r0, if_neg r0]
  · obtain ⟨a1, a2, a3, a4, a5, a6, a7, a8, a9, a10⟩ := h d hd
    obtain ⟨s1, s2, s3, s4, s5, s6⟩ := shI_rng a1 a2
    have hs1 : Same (fun c k => c = 44 + d ∧ k = i) S (wL S (44 + d) i (asS (F d).1 v)) := (Same.rfl' (P := fun c k => c = 44 + d ∧ k = i)).wL ⟨rfl, rfl⟩
    have s5' := s5 k4
    -- the reference's refusal in the new state
    have r2' : f12_refusal (zI d) (zI i) (wL S (44 + d) i (asS (F d).1 v)) = some (zI 0, wL S (44 + d) i (asS (F d).1 v)) := by
      have h70 : (wL S (44 + d) i (asS (F d).1 v)).1 170 d = zI (shI (F d)) := a7
      have h71 : (wL S (44 + d) i (asS (F d).1 v)).1 171 d = zI (F d).2.2 := a8
      unfold f12_refusal
      simp (disch := omega) only [f12_is hd, h70, h71, nI_z, zI_add, zI_sub, zI_mul, zI_m1, ckI_z, zI_clamp, Int.toNat_natCast, bnd_some, lt, rd_same, rd_ne, rdL_same, rdL_ne, wI_2, wL_1, if_true, if_false, iT_lt, iF_lt, iT_lt0, iF_lt0, iT_0lt, iF_0lt, iT_le, iF_le, iT_le0, iF_le0, iT_0le, iF_0le, iT_eq, iF_eq, iT_eq0, iF_eq0]
      rfl
    have hs2 : Same (fun c k => (c = 44 + d ∧ k = i) ∨ (c = 172 ∧ k = 60 * d + i)) S (wL (wL S (44 + d) i (asS (F d).1 v)) 172 (60 * d + i) (asS (F d).1 v)) := (Same.rfl' (P := fun c k => (c = 44 + d ∧ k = i) ∨ (c = 172 ∧ k = 60 * d + i))) |>.wL (Or.inl ⟨rfl, rfl⟩) |>.wL (Or.inr ⟨rfl, rfl⟩)
    have hq : Sh1 (wL (wL S (44 + d) i (asS (F d).1 v)) 172 (60 * d + i) (asS (F d).1 v)) d (F d) := by
      refine ⟨a1, a2, a3, a4, a5, a6, a7, a8, fun _ j hj => ?_, fun kk j hj => ?_⟩
      · by_cases e : j = i
        · subst e
          rw [rdL_ne (by omega), rdL_same, rdL_same]
        · rw [rdL_ne (by omega), rdL_ne (by omega), rdL_ne (by omega), rdL_ne (by omega)]
          exact a9 k4 j hj
      · by_cases e : j = i
        · subst e
          rw [rdL_same, kk]
          unfold asS
          rw [if_neg (by omega), if_neg (by omega), if_neg (by omega), if_neg (by omega)]
          by_cases q : cmpL v (lN 0) = 0
          · rw [if_pos q]; exact Or.inl rfl
          · rw [if_neg q]; exact Or.inr rfl
        · rw [rdL_ne (by omega), rdL_ne (by omega)]
          exact a10 kk j hj
    have hall : Qsh (wL (wL S (44 + d) i (asS (F d).1 v)) 172 (60 * d + i) (asS (F d).1 v)) F := by
      have := Qsh.upd (d := d) (q := F d) h hs2 hq (fun e he hne => ⟨fun c hc => by omega, fun j hj => by omega⟩)
      intro e he
      have q := this e he
      unfold updF at q
      by_cases ee : e = d
      · rw [if_pos ee] at q; rw [ee] at q ⊢; exact q
      · rw [if_neg ee] at q; exact q
    refine ⟨zI 1, wL S (44 + d) i (asS (F d).1 v), wL (wL S (44 + d) i (asS (F d).1 v)) 172 (60 * d + i) (asS (F d).1 v), ?_, ?_, hall, hs2.mono (fun c k z => by unfold qhP; omega)⟩
    · unfold f11_put f8_set
      simp (disch := omega) only [r1, f8_is hd, a6, a4, f8_held_in k4, nI_z, zI_add, zI_sub, zI_mul, zI_m1, ckI_z, zI_clamp, Int.toNat_natCast, bnd_some, lt, rd_same, rd_ne, rdL_same, rdL_ne, wI_2, wL_1, if_true, if_false, iT_lt, iF_lt, iT_lt0, iF_lt0, iT_0lt, iF_0lt, iT_le, iF_le, iT_le0, iF_le0, iT_0le, iF_0le, iT_eq, iF_eq, iT_eq0, iF_eq0]
      rfl
    · have h70 : (wL S (44 + d) i (asS (F d).1 v)).1 170 d = zI (shI (F d)) := a7
      have hz : shI (F d) - ((1000 : Nat) : Int) = ((F d).1 : Int) := by omega
      unfold f12_put f12_put_j38
      simp (disch := omega) only [r2', h70, hz, f12_as_in k4, lp60, nI_z, zI_add, zI_sub, zI_mul, zI_m1, ckI_z, zI_clamp, Int.toNat_natCast, bnd_some, lt, rd_same, rd_ne, rdL_same, rdL_ne, wI_2, wL_1, if_true, if_false, iT_lt, iF_lt, iT_lt0, iF_lt0, iT_0lt, iF_0lt, iT_le, iF_le, iT_le0, iF_le0, iT_0le, iF_0le, iT_eq, iF_eq, iT_eq0, iF_eq0]
      rfl
-- an ORDER's number
theorem order_cases {S : St} {Ls : List Lg} (h : Qlang S Ls) (x : Int32) : (f11_languageOfOrder x S = some (none, S) ∧ f12_isOrder x S = some (zI 0, S)) ∨ ∃ (i o : Nat) (g : Lg), Ls[i]? = some g ∧ i < 6 ∧ x = zI ((100 * i + o : Nat) : Int) ∧ o < g.1.length ∧ LV g ∧ f11_languageOfOrder x S = some (some (50 + 11 * i), S) ∧ f12_isOrder x S = some (zI 1, S) := by
  have hx := xrng x
  rw [zI_of x]
  generalize x.toInt = z at hx
  by_cases h0 : z < 0
  · left
    refine ⟨?_, ?_⟩
    · unfold f11_languageOfOrder f11_languageOfOrder_j16; simp (disch := omega) only [ifN_none, nI_z, zI_add, zI_sub, zI_mul, zI_m1, ckI_z, zI_clamp, Int.toNat_natCast, bnd_some, lt, rd_same, rd_ne, rdL_same, rdL_ne, wI_2, wL_1, if_true, if_false, iT_lt, iF_lt, iT_lt0, iF_lt0, iT_0lt, iF_0lt, iT_le, iF_le, iT_le0, iF_le0, iT_0le, iF_0le, iT_eq, iF_eq, iT_eq0, iF_eq0]
    · unfold f12_isOrder; simp (disch := omega) only [nI_z, zI_add, zI_sub, zI_mul, zI_m1, ckI_z, zI_clamp, Int.toNat_natCast, bnd_some, lt, rd_same, rd_ne, rdL_same, rdL_ne, wI_2, wL_1, if_true, if_false, iT_lt, iF_lt, iT_lt0, iF_lt0, iT_0lt, iF_0lt, iT_le, iF_le, iT_le0, iF_le0, iT_0le, iF_0le, iT_eq, iF_eq, iT_eq0, iF_eq0]; rfl
  · have hd := zI_div (a := z) (b := ((100 : Nat) : Int)) (by omega) (by omega) (by omega)
    have hr := zI_rem (a := z) (b := ((100 : Nat) : Int)) (by omega) (by omega) (by omega)
    rcases lang_cases h (zI (z / ((100 : Nat) : Int))) with ⟨e1, e2⟩ | ⟨i, g, hg, hi1, hi, e1, e2, hv, hc, hm⟩
    · left
      refine ⟨?_, ?_⟩
      · unfold f11_languageOfOrder f11_languageOfOrder_j16; simp (disch := omega) only [hd, e1, ifN_none, nI_z, zI_add, zI_sub, zI_mul, zI_m1, ckI_z, zI_clamp, Int.toNat_natCast, bnd_some, lt, rd_same, rd_ne, rdL_same, rdL_ne, wI_2, wL_1, if_true, if_false, iT_lt, iF_lt, iT_lt0, iF_lt0, iT_0lt, iF_0lt, iT_le, iF_le, iT_le0, iF_le0, iT_0le, iF_0le, iT_eq, iF_eq, iT_eq0, iF_eq0]
      · unfold f12_isOrder; simp (disch := omega) only [hd, e2, nI_z, zI_add, zI_sub, zI_mul, zI_m1, ckI_z, zI_clamp, Int.toNat_natCast, bnd_some, lt, rd_same, rd_ne, rdL_same, rdL_ne, wI_2, wL_1, if_true, if_false, iT_lt, iF_lt, iT_lt0, iF_lt0, iT_0lt, iF_0lt, iT_le, iF_le, iT_le0, iF_le0, iT_0le, iF_0le, iT_eq, iF_eq, iT_eq0, iF_eq0]; rfl
    · have ha := ad3_in i hi
      have hgl := hv.len
      have hiz : z / ((100 : Nat) : Int) = (i : Int) := (zI_eq (by omega) (by omega)).mp hi1
      have k1 := f3_has_z hc hv (z % ((100 : Nat) : Int)) (by omega)
      have k2 := f12_has_eq hm hv hi (z % ((100 : Nat) : Int)) (by omega)
      rw [hiz] at e1 e2 hd
      by_cases ho : z % ((100 : Nat) : Int) < g.1.length
      · right
        refine ⟨i, (z % 100).toNat, g, hg, hi, by congr 1; omega, by omega, hv, ?_, ?_⟩
        · unfold f11_languageOfOrder f11_languageOfOrder_j16; simp (disch := omega) only [iT_b, iF_b, hd, hr, e1, ifN_some, ckA_in ha, k1, nI_z, zI_add, zI_sub, zI_mul, zI_m1, ckI_z, zI_clamp, Int.toNat_natCast, bnd_some, lt, rd_same, rd_ne, rdL_same, rdL_ne, wI_2, wL_1, if_true, if_false, iT_lt, iF_lt, iT_lt0, iF_lt0, iT_0lt, iF_0lt, iT_le, iF_le, iT_le0, iF_le0, iT_0le, iF_0le, iT_eq, iF_eq, iT_eq0, iF_eq0]
        · unfold f12_isOrder f12_isOrder_j35; simp (disch := omega) only [iT_b, iF_b, hd, hr, e2, k2, nI_z, zI_add, zI_sub, zI_mul, zI_m1, ckI_z, zI_clamp, Int.toNat_natCast, bnd_some, lt, rd_same, rd_ne, rdL_same, rdL_ne, wI_2, wL_1, if_true, if_false, iT_lt, iF_lt, iT_lt0, iF_lt0, iT_0lt, iF_0lt, iT_le, iF_le, iT_le0, iF_le0, iT_0le, iF_0le, iT_eq, iF_eq, iT_eq0, iF_eq0]; rfl
      · left
        refine ⟨?_, ?_⟩
        · unfold f11_languageOfOrder f11_languageOfOrder_j16; simp (disch := omega) only [iT_b, iF_b, hd, hr, e1, ifN_some, ckA_in ha, k1, nI_z, zI_add, zI_sub, zI_mul, zI_m1, ckI_z, zI_clamp, Int.toNat_natCast, bnd_some, lt, rd_same, rd_ne, rdL_same, rdL_ne, wI_2, wL_1, if_true, if_false, iT_lt, iF_lt, iT_lt0, iF_lt0, iT_0lt, iF_0lt, iT_le, iF_le, iT_le0, iF_le0, iT_0le, iF_0le, iT_eq, iF_eq, iT_eq0, iF_eq0]
        · unfold f12_isOrder f12_isOrder_j35; simp (disch := omega) only [iT_b, iF_b, hd, hr, e2, k2, nI_z, zI_add, zI_sub, zI_mul, zI_m1, ckI_z, zI_clamp, Int.toNat_natCast, bnd_some, lt, rd_same, rd_ne, rdL_same, rdL_ne, wI_2, wL_1, if_true, if_false, iT_lt, iF_lt, iT_lt0, iF_lt0, iT_0lt, iF_0lt, iT_le, iF_le, iT_le0, iF_le0, iT_0le, iF_0le, iT_eq, iF_eq, iT_eq0, iF_eq0]; rfl
theorem fiL_in {S : St} {a n k : Nat} {x : Int64} (h : k < n) : (fiL S a n x).2 a k = x := if_pos ⟨rfl, h⟩
theorem fiL_out {S : St} {a n q k : Nat} {x : Int64} (h : q ≠ a ∨ n ≤ k) : (fiL S a n x).2 q k = S.2 q k := if_neg (by omega)
theorem Same.fiL {P : Nat → Nat → Prop} {S S2 : St} {a n : Nat} {x : Int64} (h : Same P S S2) (hp : ∀ k, k < n → P a k) : Same P S (fiL S2 a n x) := fun q k hn => by
  refine ⟨(h q k hn).1, ?_⟩
  by_cases e : q = a ∧ k < n
  · obtain ⟨rfl, e1⟩ := e
    exact absurd (hp k e1) hn
  · rw [fiL_out (by omega)]
    exact (h q k hn).2
def s1P (d c k : Nat) : Prop := (((40 ≤ c ∧ c ≤ 42) ∨ c = 170 ∨ c = 171) ∧ k = d) ∨ c = 44 + d ∨ (c = 172 ∧ 60 * d ≤ k ∧ k < 60 * d + 60)
theorem f8_become_ok {S : St} {d : Nat} (hd : d < 6) (k o n : Int32) : ∃ S2, f8_become (zI d) k o n S = some ((), S2) ∧ S2.1 40 d = k ∧ S2.1 41 d = o ∧ S2.1 42 d = n ∧ (∀ i, i < 60 → S2.2 (44 + d) i = lN 0) ∧ Same (fun c j => ((40 ≤ c ∧ c ≤ 42) ∧ j = d) ∨ c = 44 + d) S S2 := by
  have hs : Same (fun c j => ((40 ≤ c ∧ c ≤ 42) ∧ j = d) ∨ c = 44 + d) S (fiL (wI (wI (wI S 40 d k) 41 d o) 42 d n) (44 + d) 60 (lN 0)) := Same.fiL ((Same.rfl' (P := fun c j => ((40 ≤ c ∧ c ≤ 42) ∧ j = d) ∨ c = 44 + d)) |>.wI (by omega) |>.wI (by omega) |>.wI (by omega)) (fun k _ => Or.inr rfl)
  refine ⟨_, ?_, ?_, ?_, ?_, fun i hi => fiL_in hi, hs⟩
  · unfold f8_become
    simp (disch := omega) only [f8_is hd, nI_z, zI_add, zI_sub, zI_mul, zI_m1, ckI_z, zI_clamp, Int.toNat_natCast, bnd_some, lt, rd_same, rd_ne, rdL_same, rdL_ne, wI_2, wL_1, if_true, if_false, iT_lt, iF_lt, iT_lt0, iF_lt0, iT_0lt, iF_0lt, iT_le, iF_le, iT_le0, iF_le0, iT_0le, iF_0le, iT_eq, iF_eq, iT_eq0, iF_eq0]
  · show (wI (wI (wI S 40 d k) 41 d o) 42 d n).1 40 d = k
    simp (disch := omega) only [nI_z, zI_add, zI_sub, zI_mul, zI_m1, ckI_z, zI_clamp, Int.toNat_natCast, bnd_some, lt, rd_same, rd_ne, rdL_same, rdL_ne, wI_2, wL_1, if_true, if_false, iT_lt, iF_lt, iT_lt0, iF_lt0, iT_0lt, iF_0lt, iT_le, iF_le, iT_le0, iF_le0, iT_0le, iF_0le, iT_eq, iF_eq, iT_eq0, iF_eq0]
  · show (wI (wI (wI S 40 d k) 41 d o) 42 d n).1 41 d = o
    simp (disch := omega) only [nI_z, zI_add, zI_sub, zI_mul, zI_m1, ckI_z, zI_clamp, Int.toNat_natCast, bnd_some, lt, rd_same, rd_ne, rdL_same, rdL_ne, wI_2, wL_1, if_true, if_false, iT_lt, iF_lt, iT_lt0, iF_lt0, iT_0lt, iF_0lt, iT_le, iF_le, iT_le0, iF_le0, iT_0le, iF_0le, iT_eq, iF_eq, iT_eq0, iF_eq0]
  · show (wI (wI (wI S 40 d k) 41 d o) 42 d n).1 42 d = n
    simp (disch := omega) only [nI_z, zI_add, zI_sub, zI_mul, zI_m1, ckI_z, zI_clamp, Int.toNat_natCast, bnd_some, lt, rd_same, rd_ne, rdL_same, rdL_ne, wI_2, wL_1, if_true, if_false, iT_lt, iF_lt, iT_lt0, iF_lt0, iT_0lt, iF_0lt, iT_le, iF_le, iT_le0, iF_le0, iT_0le, iF_0le, iT_eq, iF_eq, iT_eq0, iF_eq0]
theorem s1_upd {S S2 : St} {F : Nat → Sf} {d : Nat} {q : Sf} (h : Qsh S F) (hd : d < 6) (hs : Same (s1P d) S S2) (h1 : Sh1 S2 d q) : Qsh S2 (updF F d q) := h.upd hs h1 (fun e he hne => ⟨fun c hc => by unfold s1P; omega, fun i hi => by unfold s1P; omega⟩)
theorem keep_both {S : St} {F : Nat → Sf} {d : Nat} (hd : d < 6) (h : Qsh S F) (q : Sf) (hq : q.1 = 6 ∨ q.1 = 5) (h2 : q.2.1 < 600) (h3 : q.2.2 = 0) : ∃ S1 S2, f8_become (zI d) (zI q.1) (zI q.2.1) (zI ((0 : Nat) : Int)) S = some ((), S1) ∧ f12_keep_j22 (zI d) (zI (shI q)) S1 = some (nI 1, S2) ∧ Qsh S2 (updF F d q) ∧ Same (s1P d) S S2 ∧ Same (fun c j => ((40 ≤ c ∧ c ≤ 42) ∧ j = d) ∨ c = 44 + d) S S1 := by
  obtain ⟨S1, a1, a2, a3, a4, a5, a6⟩ := f8_become_ok (S := S) hd (zI q.1) (zI q.2.1) (zI ((0 : Nat) : Int))
  have hs2 : Same (fun c j => (c = 170 ∨ c = 171) ∧ j = d) S1 (wI (wI S1 170 d (zI (shI q))) 171 d (zI ((0 : Nat) : Int))) := (Same.rfl' (P := fun c j => (c = 170 ∨ c = 171) ∧ j = d)) |>.wI (by omega) |>.wI (by omega)
  have hs : Same (s1P d) S (wI (wI S1 170 d (zI (shI q))) 171 d (zI ((0 : Nat) : Int))) := (a6.mono (fun c j z => by unfold s1P; omega)).tr (hs2.mono (fun c j z => by unfold s1P; omega))
  refine ⟨S1, _, a1, ?_, s1_upd h hd hs ⟨by omega, h2, by omega, by simp (disch := omega) only [a2, nI_z, zI_add, zI_sub, zI_mul, zI_m1, ckI_z, zI_clamp, Int.toNat_natCast, bnd_some, lt, rd_same, rd_ne, rdL_same, rdL_ne, wI_2, wL_1, if_true, if_false, iT_lt, iF_lt, iT_lt0, iF_lt0, iT_0lt, iF_0lt, iT_le, iF_le, iT_le0, iF_le0, iT_0le, iF_0le, iT_eq, iF_eq, iT_eq0, iF_eq0], by simp (disch := omega) only [a3, nI_z, zI_add, zI_sub, zI_mul, zI_m1, ckI_z, zI_clamp, Int.toNat_natCast, bnd_some, lt, rd_same, rd_ne, rdL_same, rdL_ne, wI_2, wL_1, if_true, if_false, iT_lt, iF_lt, iT_lt0, iF_lt0, iT_0lt, iF_0lt, iT_le, iF_le, iT_le0, iF_le0, iT_0le, iF_0le, iT_eq, iF_eq, iT_eq0, iF_eq0], by rw [h3]; simp (disch := omega) only [a4, nI_z, zI_add, zI_sub, zI_mul, zI_m1, ckI_z, zI_clamp, Int.toNat_natCast, bnd_some, lt, rd_same, rd_ne, rdL_same, rdL_ne, wI_2, wL_1, if_true, if_false, iT_lt, iF_lt, iT_lt0, iF_lt0, iT_0lt, iF_0lt, iT_le, iF_le, iT_le0, iF_le0, iT_0le, iF_0le, iT_eq, iF_eq, iT_eq0, iF_eq0], by simp (disch := omega) only [nI_z, zI_add, zI_sub, zI_mul, zI_m1, ckI_z, zI_clamp, Int.toNat_natCast, bnd_some, lt, rd_same, rd_ne, rdL_same, rdL_ne, wI_2, wL_1, if_true, if_false, iT_lt, iF_lt, iT_lt0, iF_lt0, iT_0lt, iF_0lt, iT_le, iF_le, iT_le0, iF_le0, iT_0le, iF_0le, iT_eq, iF_eq, iT_eq0, iF_eq0], by rw [h3]; simp (disch := omega) only [nI_z, zI_add, zI_sub, zI_mul, zI_m1, ckI_z, zI_clamp, Int.toNat_natCast, bnd_some, lt, rd_same, rd_ne, rdL_same, rdL_ne, wI_2, wL_1, if_true, if_false, iT_lt, iF_lt, iT_lt0, iF_lt0, iT_0lt, iF_0lt, iT_le, iF_le, iT_le0, iF_le0, iT_0le, iF_0le, iT_eq, iF_eq, iT_eq0, iF_eq0], fun z => by omega, fun z => by omega⟩, hs, a6⟩
  unfold f12_keep_j22
  simp (disch := omega) only [nI_z, zI_add, zI_sub, zI_mul, zI_m1, ckI_z, zI_clamp, Int.toNat_natCast, bnd_some, lt, rd_same, rd_ne, rdL_same, rdL_ne, wI_2, wL_1, if_true, if_false, iT_lt, iF_lt, iT_lt0, iF_lt0, iT_0lt, iF_0lt, iT_le, iF_le, iT_le0, iF_le0, iT_0le, iF_0le, iT_eq, iF_eq, iT_eq0, iF_eq0]
theorem c_keep {S : St} {Ls : List Lg} {F : Nat → Sf} (hl : Qlang S Ls) (h : Qsh S F) (x y : Int32) : ∃ r S1 S2 F2, f11_keep x y S = some (r, S1) ∧ f12_keep x y S1 = some (r, S2) ∧ Qsh S2 F2 ∧ Same qhP S S2 := by
  rcases shelf_cases x with hc | ⟨d, hd, rfl, hc⟩
  · obtain ⟨c1, c2⟩ := hc S
    refine ⟨zI (-1), S, S, F, ?_, ?_, h, Same.rfl'⟩
    · unfold f11_keep; simp (disch := omega) only [c1, nI_z, zI_add, zI_sub, zI_mul, zI_m1, ckI_z, zI_clamp, Int.toNat_natCast, bnd_some, lt, rd_same, rd_ne, rdL_same, rdL_ne, wI_2, wL_1, if_true, if_false, iT_lt, iF_lt, iT_lt0, iF_lt0, iT_0lt, iF_0lt, iT_le, iF_le, iT_le0, iF_le0, iT_0le, iF_0le, iT_eq, iF_eq, iT_eq0, iF_eq0]
    · unfold f12_keep; simp (disch := omega) only [c2, nI_z, zI_add, zI_sub, zI_mul, zI_m1, ckI_z, zI_clamp, Int.toNat_natCast, bnd_some, lt, rd_same, rd_ne, rdL_same, rdL_ne, wI_2, wL_1, if_true, if_false, iT_lt, iF_lt, iT_lt0, iF_lt0, iT_0lt, iF_0lt, iT_le, iF_le, iT_le0, iF_le0, iT_0le, iF_0le, iT_eq, iF_eq, iT_eq0, iF_eq0]
  · obtain ⟨c1, c2⟩ := hc S
    by_cases hy : y = zI (-1)
    · subst hy
      obtain ⟨S1, S2, a1, a2, a3, a4, a5⟩ := keep_both hd h (6, 0, 0) (Or.inl rfl) (by decide) rfl
      have c2' := (hc S1).2
      refine ⟨nI 1, S1, S2, _, ?_, ?_, a3, a4.mono (fun c j z => by unfold s1P at z; unfold qhP; omega)⟩
      · have a1' : f8_become (zI d) (zI ((6 : Nat) : Int)) (zI ((0 : Nat) : Int)) (zI ((0 : Nat) : Int)) S = some ((), S1) := a1
        unfold f11_keep f8_holdNothing
        simp (disch := omega) only [c1, a1', nI_z, zI_add, zI_sub, zI_mul, zI_m1, ckI_z, zI_clamp, Int.toNat_natCast, bnd_some, lt, rd_same, rd_ne, rdL_same, rdL_ne, wI_2, wL_1, if_true, if_false, iT_lt, iF_lt, iT_lt0, iF_lt0, iT_0lt, iF_0lt, iT_le, iF_le, iT_le0, iF_le0, iT_0le, iF_0le, iT_eq, iF_eq, iT_eq0, iF_eq0]
      · unfold f12_keep
        simp (disch := omega) only [c2', nI_z, zI_add, zI_sub, zI_mul, zI_m1, ckI_z, zI_clamp, Int.toNat_natCast, bnd_some, lt, rd_same, rd_ne, rdL_same, rdL_ne, wI_2, wL_1, if_true, if_false, iT_lt, iF_lt, iT_lt0, iF_lt0, iT_0lt, iF_0lt, iT_le, iF_le, iT_le0, iF_le0, iT_0le, iF_0le, iT_eq, iF_eq, iT_eq0, iF_eq0]
        exact a2
    · have hy' : ¬ y = -1 := hy
      rcases order_cases hl y with ⟨e1, e2⟩ | ⟨i, o, g, hg, hi, rfl, ho, hv, e1, e2⟩
      · refine ⟨zI (-1), S, S, F, ?_, ?_, h, Same.rfl'⟩
        · unfold f11_keep; rw [c1]; simp only [bnd_some]; rw [if_neg (by decide), if_neg hy', e1]; rfl
        · unfold f12_keep; rw [c2]; simp only [bnd_some]; rw [if_neg (by decide), if_neg hy', e2]; rfl
      · have hgl := hv.len
        have ha := ad3_in i hi
        obtain ⟨S1, S2, a1, a2, a3, a4, a5⟩ := keep_both hd h (5, 100 * i + o, 0) (Or.inr rfl) (by show 100 * i + o < 600; omega) rfl
        have c2' := (hc S1).2
        have hl1 := hl.same a5 (fun c k z => by unfold laP at z; omega)
        have e2' : f12_isOrder (zI ((100 * i + o : Nat) : Int)) S1 = some (zI 1, S1) := by
          rcases order_cases hl1 (zI ((100 * i + o : Nat) : Int)) with ⟨f1, f2⟩ | ⟨i2, o2, g2, _, _, _, _, _, f1, f2⟩
          · exfalso
            have hil : i < Ls.length := (List.getElem?_eq_some_iff.mp hg).1
            have q0 := (lang_in hl1 hil).1
            obtain ⟨_, hc1, _⟩ := hl1.2.2.2 i g hg
            have k1 := f3_has_z hc1 hv (o : Int) (by omega)
            have hd1 := zI_div (a := ((100 * i + o : Nat) : Int)) (b := ((100 : Nat) : Int)) (by omega) (by omega) (by omega)
            have hr1 := zI_rem (a := ((100 * i + o : Nat) : Int)) (b := ((100 : Nat) : Int)) (by omega) (by omega) (by omega)
            rw [show ((100 * i + o : Nat) : Int) / ((100 : Nat) : Int) = (i : Int) by omega] at hd1
            rw [show ((100 * i + o : Nat) : Int) % ((100 : Nat) : Int) = (o : Int) by omega] at hr1
            have q1 : f11_languageOfOrder (zI ((100 * i + o : Nat) : Int)) S1 = some (some (50 + 11 * i), S1) := by
              unfold f11_languageOfOrder f11_languageOfOrder_j16; simp (disch := omega) only [iT_b, iF_b, hd1, hr1, q0, ifN_some, ckA_in ha, k1, nI_z, zI_add, zI_sub, zI_mul, zI_m1, ckI_z, zI_clamp, Int.toNat_natCast, bnd_some, lt, rd_same, rd_ne, rdL_same, rdL_ne, wI_2, wL_1, if_true, if_false, iT_lt, iF_lt, iT_lt0, iF_lt0, iT_0lt, iF_0lt, iT_le, iF_le, iT_le0, iF_le0, iT_0le, iF_0le, iT_eq, iF_eq, iT_eq0, iF_eq0]
            rw [q1] at f1
            injection f1 with f1
            injection f1 with f1 _
            cases f1
          · exact f2
        refine ⟨nI 1, S1, S2, _, ?_, ?_, a3, a4.mono (fun c j z => by unfold s1P at z; unfold qhP; omega)⟩
        · have a1' : f8_become (zI d) (zI ((5 : Nat) : Int)) (zI ((100 * i + o : Nat) : Int)) (zI ((0 : Nat) : Int)) S = some ((), S1) := a1
          unfold f11_keep f8_holdOrder
          rw [c1]; simp only [bnd_some]; rw [if_neg (by decide), if_neg hy', e1]; simp only [bnd_some]; rw [ifN_some, ckA_in ha]
          simp (disch := omega) only [a1', nI_z, zI_add, zI_sub, zI_mul, zI_m1, ckI_z, zI_clamp, Int.toNat_natCast, bnd_some, lt, rd_same, rd_ne, rdL_same, rdL_ne, wI_2, wL_1, if_true, if_false, iT_lt, iF_lt, iT_lt0, iF_lt0, iT_0lt, iF_0lt, iT_le, iF_le, iT_le0, iF_le0, iT_0le, iF_0le, iT_eq, iF_eq, iT_eq0, iF_eq0]
        · unfold f12_keep
          rw [c2']; simp only [bnd_some]; rw [if_neg (by decide), if_neg hy', e2']; simp only [bnd_some]; rw [if_neg (by decide)]
          have hsh : shI (5, 100 * i + o, 0) = ((100 * i + o : Nat) : Int) := rfl
          rw [hsh] at a2
          exact a2
