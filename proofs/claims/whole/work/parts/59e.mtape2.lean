/-! The reference's sums and comparisons. -/
theorem prod_d {N n e f : Nat} {T : Nat → Nat} {bs : Int} {S : St} {x : Int32} (h : ND S T n bs e) : f12_product_h5 N (f + 1) x S = some (x, S) := by
  have h38 := h.2.2.1
  have h60 := h.1.1
  have he := h.2.1
  rw [f12_product_h5]
  simp (disch := omega) only [h38, nI_z, zI_add, zI_sub, zI_mul, zI_m1, ckI_z, zI_clamp, Int.toNat_natCast, bnd_some, lt, rd_same, rd_ne, rdL_same, rdL_ne, wI_2, wL_1, if_true, if_false, iT_lt, iF_lt, iT_lt0, iF_lt0, iT_0lt, iF_0lt, iT_le, iF_le, iT_le0, iF_le0, iT_0le, iF_0le, iT_eq, iF_eq, iT_eq0, iF_eq0]
theorem sums_d {N n e f : Nat} {T : Nat → Nat} {bs : Int} {S : St} {x : Int32} (h : ND S T n bs e) : f12_sums_h5 N (f + 1) x S = some (x, S) := by
  have h38 := h.2.2.1
  have h60 := h.1.1
  have he := h.2.1
  rw [f12_sums_h5]
  simp (disch := omega) only [h38, nI_z, zI_add, zI_sub, zI_mul, zI_m1, ckI_z, zI_clamp, Int.toNat_natCast, bnd_some, lt, rd_same, rd_ne, rdL_same, rdL_ne, wI_2, wL_1, if_true, if_false, iT_lt, iF_lt, iT_lt0, iF_lt0, iT_0lt, iF_0lt, iT_le, iF_le, iT_le0, iF_le0, iT_0le, iF_0le, iT_eq, iF_eq, iT_eq0, iF_eq0]
theorem one_dm {N n e : Nat} {T : Nat → Nat} {bs : Int} {S : St} (h : ND S T n bs e) : f12_one N S = some (zI ((0 : Nat) : Int), S) := by
  have h38 := h.2.2.1
  have h60 := h.1.1
  have he := h.2.1
  unfold f12_one
  simp (disch := omega) only [h38, nI_z, zI_add, zI_sub, zI_mul, zI_m1, ckI_z, zI_clamp, Int.toNat_natCast, bnd_some, lt, rd_same, rd_ne, rdL_same, rdL_ne, wI_2, wL_1, if_true, if_false, iT_lt, iF_lt, iT_lt0, iF_lt0, iT_0lt, iF_0lt, iT_le, iF_le, iT_le0, iF_le0, iT_0le, iF_0le, iT_eq, iF_eq, iT_eq0, iF_eq0]
theorem sum_dm {N n e : Nat} {T : Nat → Nat} {bs : Int} {S : St} (hN : 50 ≤ N) (h : ND S T n bs e) : f12_sums N S = some (zI ((0 : Nat) : Int), S) := by
  obtain ⟨M, rfl⟩ : ∃ z, N = z + 1 := ⟨N - 1, by omega⟩
  unfold f12_sums f12_product
  rw [one_dm h, bnd_some, prod_d h, bnd_some, sums_d h]
def comb (w : Nat) (y q : Int32) : Int32 := if w = 0 then q else if w = 43 then y + q else y - q
/-- the values on the stack in the middle of a sum -/
def stk (w : Nat) (y x : Int32) (st : List Int32) : List Int32 := if w = 0 then x :: st else x :: y :: st
theorem ev_wl {v : Nat → Int32} {w : Nat} {x y : Int32} {st : List Int32} (hw : w = 0 ∨ w = 43 ∨ w = 45) : ev v (wl w) (stk w y x st) = comb w y x :: st := by
  rcases hw with rfl | rfl | rfl
  · rfl
  · show ev1 v 43 (x :: y :: st) = _
    rw [ev1_j (by omega)]
    rfl
  · show ev1 v 45 (x :: y :: st) = _
    rw [ev1_j (by omega)]
    rfl
theorem sumRm {N n o xx : Nat} {T : Nat → Nat} {bs : Int} {m : Mc} (hN : 200 ≤ N) : ∀ (f p w : Nat) (x y : Int32) (n1 n2 : Nat) (S : St), NL S T n bs p o → EV S m xx → n < p + f → f < n1 → f < n2 → f < 100 → (w = 0 ∨ w = 43 ∨ w = 45) →
    ∃ v S2, bnd (f12_product_h5 N n1 x S) (fun q S3 => f12_sums_h5 N n2 (comb w y q) S3) = some (v, S2) ∧ RMv S2 T n bs o (vn m xx) (pSumR T n f p w) (stk w y x) v ∧ Same npP S S2 := by
  intro f
  induction f with
  | zero =>
    intro p w x y n1 n2 S h hE hf h1 h2 h3 hw
    have := h.2.1
    omega
  | succ f ih =>
    intro p w x y n1 n2 S h hE hf h1 h2 h3 hw
    obtain ⟨n1, rfl⟩ : ∃ z, n1 = z + 1 := ⟨n1 - 1, by omega⟩
    obtain ⟨n2, rfl⟩ : ∃ z, n2 = z + 1 := ⟨n2 - 1, by omega⟩
    have hb := h.byte
    have h256 := hr_256 (n := n) (p := p) h.1.2.2.2.2.2.1
    have h38 := h.2.2.2.1
    have h36 := h.2.2.1
    have hpn := h.2.1
    have hn60 := h.1.1
    unfold pSumR
    by_cases c1 : hr T n p = 42 ∨ hr T n p = 37
    · rw [if_pos c1]
      have hp := (hr_pos (T := T) (n := n) (p := p) (by omega)).1
      obtain ⟨g1, g2⟩ := h.go hp
      obtain ⟨v1, S1, a1, a2, a3⟩ := one_m (N := N) (by omega) g1 (hE.np g2)
      have hok := pOne_ok (T := T) (n := n) (p := p + 1) (by omega)
      have step : f12_product_h5 N (n1 + 1) x S = f12_product_h5 N n1 (jn x (hr T n p) v1) S1 := by
        rw [f12_product_h5]
        rcases c1 with c1 | c1
        · rw [c1] at hb ⊢
          have hj : jn x 42 v1 = x * v1 := rfl
          simp (disch := omega) only [h38, hb, f12_product_j30, f12_product_j44, h36, a1, f12_product_j81, hj, nI_z, zI_add, zI_sub, zI_mul, zI_m1, ckI_z, zI_clamp, Int.toNat_natCast, bnd_some, lt, rd_same, rd_ne, rdL_same, rdL_ne, wI_2, wL_1, if_true, if_false, iT_lt, iF_lt, iT_lt0, iF_lt0, iT_0lt, iF_0lt, iT_le, iF_le, iT_le0, iF_le0, iT_0le, iF_0le, iT_eq, iF_eq, iT_eq0, iF_eq0]
        · rw [c1] at hb ⊢
          have hj : jn x 37 v1 = if v1 = 0 then zI 0 else remI x v1 := rfl
          rw [hj]
          by_cases v0 : v1 = 0
          · rw [if_pos v0]
            simp (disch := omega) only [h38, hb, f12_product_j30, f12_product_j44, h36, a1, f12_product_j81, nI_z, zI_add, zI_sub, zI_mul, zI_m1, ckI_z, zI_clamp, Int.toNat_natCast, bnd_some, lt, rd_same, rd_ne, rdL_same, rdL_ne, wI_2, wL_1, if_true, if_false, iT_lt, iF_lt, iT_lt0, iF_lt0, iT_0lt, iF_0lt, iT_le, iF_le, iT_le0, iF_le0, iT_0le, iF_0le, iT_eq, iF_eq, iT_eq0, iF_eq0]
            rw [if_pos v0]
            rfl
          · rw [if_neg v0]
            simp (disch := omega) only [h38, hb, f12_product_j30, f12_product_j44, h36, a1, f12_product_j81, nI_z, zI_add, zI_sub, zI_mul, zI_m1, ckI_z, zI_clamp, Int.toNat_natCast, bnd_some, lt, rd_same, rd_ne, rdL_same, rdL_ne, wI_2, wL_1, if_true, if_false, iT_lt, iF_lt, iT_lt0, iF_lt0, iT_0lt, iF_0lt, iT_le, iF_le, iT_le0, iF_le0, iT_0le, iF_0le, iT_eq, iF_eq, iT_eq0, iF_eq0]
            rw [if_neg v0, ckZ_ne v0]
      rw [step]
      cases hx : pOne T n (p + 1) with
      | inl e =>
        rw [hx] at a2
        have a2 : ND S1 T n bs e := a2
        obtain ⟨k1, rfl⟩ : ∃ z, n1 = z + 1 := ⟨n1 - 1, by omega⟩
        refine ⟨comb w y (jn x (hr T n p) v1), S1, ?_, a2, g2.tr a3⟩
        rw [prod_d a2, bnd_some, sums_d a2]
      | inr q =>
        rw [hx] at a2 hok
        obtain ⟨t1, t2⟩ := a2
        obtain ⟨o1, o2, o3⟩ := hok
        obtain ⟨v, S2, b1, b2, b3⟩ := ih q.1 w (jn x (hr T n p) v1) y n1 (n2 + 1) S1 t1 ((hE.np g2).np a3) (by omega) (by omega) (by omega) (by omega) hw
        refine ⟨v, S2, b1, ?_, (g2.tr a3).tr b3⟩
        rw [pb_r]
        cases hy : pSumR T n f q.1 w with
        | inl e => rw [hy] at b2; exact b2
        | inr r =>
          rw [hy] at b2
          obtain ⟨e1, e2⟩ := b2
          refine ⟨e1, fun st => ?_⟩
          show ev (vn m xx) (q.2 ++ [hr T n p] ++ r.2) (stk w y x st) = _
          rw [ev_app, ev_app, t2, ← e2 st]
          congr 1
          show ev1 (vn m xx) (hr T n p) (v1 :: stk w y x st) = _
          unfold stk
          by_cases w0 : w = 0
          · rw [if_pos w0, if_pos w0, ev1_j (by omega)]
          · rw [if_neg w0, if_neg w0, ev1_j (by omega)]
    · rw [if_neg c1]
      have pend : f12_product_h5 N (n1 + 1) x S = some (x, S) := by
        rw [f12_product_h5]
        simp (disch := omega) only [h38, hb, nI_z, zI_add, zI_sub, zI_mul, zI_m1, ckI_z, zI_clamp, Int.toNat_natCast, bnd_some, lt, rd_same, rd_ne, rdL_same, rdL_ne, wI_2, wL_1, if_true, if_false, iT_lt, iF_lt, iT_lt0, iF_lt0, iT_0lt, iF_0lt, iT_le, iF_le, iT_le0, iF_le0, iT_0le, iF_0le, iT_eq, iF_eq, iT_eq0, iF_eq0]
      rw [pend, bnd_some]
      by_cases c2 : hr T n p = 43 ∨ hr T n p = 45
      · rw [if_pos c2]
        have hp := (hr_pos (T := T) (n := n) (p := p) (by omega)).1
        obtain ⟨g1, g2⟩ := h.go hp
        obtain ⟨v1, S1, a1, a2, a3⟩ := one_m (N := N) (by omega) g1 (hE.np g2)
        have hok := pOne_ok (T := T) (n := n) (p := p + 1) (by omega)
        have step : f12_sums_h5 N (n2 + 1) (comb w y x) S = bnd (f12_product_h5 N N v1 S1) (fun q S3 => f12_sums_h5 N n2 (comb (hr T n p) (comb w y x) q) S3) := by
          rw [f12_sums_h5]
          rcases c2 with c2 | c2
          · rw [c2] at hb ⊢
            have hj : ∀ q, comb 43 (comb w y x) q = comb w y x + q := fun q => rfl
            simp (disch := omega) only [h38, hb, f12_sums_j30, f12_sums_j44, h36, f12_product, a1, f12_sums_j73, hj, nI_z, zI_add, zI_sub, zI_mul, zI_m1, ckI_z, zI_clamp, Int.toNat_natCast, bnd_some, lt, rd_same, rd_ne, rdL_same, rdL_ne, wI_2, wL_1, if_true, if_false, iT_lt, iF_lt, iT_lt0, iF_lt0, iT_0lt, iF_0lt, iT_le, iF_le, iT_le0, iF_le0, iT_0le, iF_0le, iT_eq, iF_eq, iT_eq0, iF_eq0]
          · rw [c2] at hb ⊢
            have hj : ∀ q, comb 45 (comb w y x) q = comb w y x - q := fun q => rfl
            simp (disch := omega) only [h38, hb, f12_sums_j30, f12_sums_j44, h36, f12_product, a1, f12_sums_j73, hj, nI_z, zI_add, zI_sub, zI_mul, zI_m1, ckI_z, zI_clamp, Int.toNat_natCast, bnd_some, lt, rd_same, rd_ne, rdL_same, rdL_ne, wI_2, wL_1, if_true, if_false, iT_lt, iF_lt, iT_lt0, iF_lt0, iT_0lt, iF_0lt, iT_le, iF_le, iT_le0, iF_le0, iT_0le, iF_0le, iT_eq, iF_eq, iT_eq0, iF_eq0]
        rw [step]
        cases hx : pOne T n (p + 1) with
        | inl e =>
          rw [hx] at a2
          have a2 : ND S1 T n bs e := a2
          obtain ⟨k1, hk1⟩ : ∃ z, N = z + 1 := ⟨N - 1, by omega⟩
          obtain ⟨k2, rfl⟩ : ∃ z, n2 = z + 1 := ⟨n2 - 1, by omega⟩
          refine ⟨comb (hr T n p) (comb w y x) v1, S1, ?_, a2, g2.tr a3⟩
          have hpd : f12_product_h5 N N v1 S1 = some (v1, S1) := by
            conv => lhs; rw [hk1]
            rw [← hk1]
            exact (by rw [hk1]; exact prod_d a2)
          rw [hpd, bnd_some, sums_d a2]
        | inr q =>
          rw [hx] at a2 hok
          obtain ⟨t1, t2⟩ := a2
          obtain ⟨o1, o2, o3⟩ := hok
          obtain ⟨v, S2, b1, b2, b3⟩ := ih q.1 (hr T n p) v1 (comb w y x) N n2 S1 t1 ((hE.np g2).np a3) (by omega) (by omega) (by omega) (by omega) (by omega)
          refine ⟨v, S2, b1, ?_, (g2.tr a3).tr b3⟩
          rw [pb_r]
          cases hy : pSumR T n f q.1 (hr T n p) with
          | inl e => rw [hy] at b2; exact b2
          | inr r =>
            rw [hy] at b2
            obtain ⟨e1, e2⟩ := b2
            refine ⟨e1, fun st => ?_⟩
            show ev (vn m xx) (wl w ++ q.2 ++ r.2) (stk w y x st) = _
            rw [ev_app, ev_app, ev_wl hw, t2, ← e2 st]
            congr 1
            unfold stk
            rw [if_neg (by omega)]
      · rw [if_neg c2]
        refine ⟨comb w y x, S, ?_, ⟨h, fun st => ev_wl hw⟩, Same.rfl'⟩
        rw [f12_sums_h5]
        simp (disch := omega) only [h38, hb, nI_z, zI_add, zI_sub, zI_mul, zI_m1, ckI_z, zI_clamp, Int.toNat_natCast, bnd_some, lt, rd_same, rd_ne, rdL_same, rdL_ne, wI_2, wL_1, if_true, if_false, iT_lt, iF_lt, iT_lt0, iF_lt0, iT_0lt, iF_0lt, iT_le, iF_le, iT_le0, iF_le0, iT_0le, iF_0le, iT_eq, iF_eq, iT_eq0, iF_eq0]
theorem sum_m {N n o p xx : Nat} {T : Nat → Nat} {bs : Int} {m : Mc} {S : St} (hN : 200 ≤ N) (h : NL S T n bs p o) (hE : EV S m xx) : ∃ v S2, f12_sums N S = some (v, S2) ∧ RMv S2 T n bs o (vn m xx) (pSum T n p) (fun st => st) v ∧ Same npP S S2 := by
  obtain ⟨v1, S1, a1, a2, a3⟩ := one_m (N := N) (by omega) h hE
  have hok := pOne_ok (T := T) (n := n) (p := p) h.2.1
  have hn60 := h.1.1
  have st0 : f12_sums N S = bnd (f12_product_h5 N N v1 S1) (fun q S3 => f12_sums_h5 N N (comb 0 0 q) S3) := by
    unfold f12_sums f12_product
    rw [a1, bnd_some]
    rfl
  rw [st0]
  unfold pSum
  cases hx : pOne T n p with
  | inl e =>
    rw [hx] at a2
    have a2 : ND S1 T n bs e := a2
    obtain ⟨k1, hk1⟩ : ∃ z, N = z + 1 := ⟨N - 1, by omega⟩
    refine ⟨v1, S1, ?_, a2, a3⟩
    rw [hk1, prod_d a2, bnd_some, sums_d a2]
    rfl
  | inr q =>
    rw [hx] at a2 hok
    obtain ⟨t1, t2⟩ := a2
    obtain ⟨o1, o2, o3⟩ := hok
    obtain ⟨v, S2, b1, b2, b3⟩ := sumRm (N := N) hN 61 q.1 0 v1 0 N N S1 t1 (hE.np a3) (by omega) (by omega) (by omega) (by omega) (Or.inl rfl)
    refine ⟨v, S2, b1, ?_, a3.tr b3⟩
    rw [pb_r]
    cases hy : pSumR T n 61 q.1 0 with
    | inl e => rw [hy] at b2; exact b2
    | inr r =>
      rw [hy] at b2
      obtain ⟨e1, e2⟩ := b2
      refine ⟨e1, fun st => ?_⟩
      show ev (vn m xx) (q.2 ++ r.2) st = _
      rw [ev_app, t2, ← e2 st]
      rfl
/-- a truth value, too -/
def RMb (S2 : St) (T : Nat → Nat) (n : Nat) (bs : Int) (o : Nat) (vv : Nat → Int32) (X : Pr) (st0 : List Int32 → List Int32) (v : Int32) : Prop := match X with
  | .inl e => ND S2 T n bs e
  | .inr q => NL S2 T n bs q.1 o ∧ (∀ st, ev vv q.2 (st0 st) = v :: st) ∧ (v = zI 0 ∨ v = zI 1)
theorem cmp_dm {N n e : Nat} {T : Nat → Nat} {bs : Int} {S : St} {pv : St → Option (Int32 × St)} (hN : 50 ≤ N) (h : ND S T n bs e) : ∃ v S2, f12_turned_j125 N pv S = some (v, S2) ∧ ND S2 T n bs e ∧ Same npP S S2 := by
  obtain ⟨z, z1, z2⟩ := h.byte
  have h38 := h.2.2.1
  have h60 := h.1.1
  have he := h.2.1
  obtain ⟨S2, b1, b2, b3⟩ := wrong_d h
  refine ⟨zI 0, S2, ?_, b2, b3⟩
  unfold f12_turned_j125 f12_turned_j160
  rw [sum_dm hN h]
  simp (disch := omega) only [z2, h38, b1, nI_z, zI_add, zI_sub, zI_mul, zI_m1, ckI_z, zI_clamp, Int.toNat_natCast, bnd_some, lt, rd_same, rd_ne, rdL_same, rdL_ne, wI_2, wL_1, if_true, if_false, iT_lt, iF_lt, iT_lt0, iF_lt0, iT_0lt, iF_0lt, iT_le, iF_le, iT_le0, iF_le0, iT_0le, iF_0le, iT_eq, iF_eq, iT_eq0, iF_eq0]
theorem cmp_m {N n o p xx : Nat} {T : Nat → Nat} {bs : Int} {m : Mc} {S : St} {pv : St → Option (Int32 × St)} (hN : 200 ≤ N) (h : NL S T n bs p o) (hE : EV S m xx) : ∃ v S2, f12_turned_j125 N pv S = some (v, S2) ∧ RMb S2 T n bs o (vn m xx) (pCmp T n p) (fun st => st) v ∧ Same npP S S2 := by
  obtain ⟨v1, S1, a1, a2, a3⟩ := sum_m (N := N) hN h hE
  have hok := pSum_ok (T := T) (n := n) (p := p) h.2.1
  have hn60 := h.1.1
  unfold pCmp
  cases hx : pSum T n p with
  | inl e =>
    rw [hx] at a2
    have a2 : ND S1 T n bs e := a2
    obtain ⟨z, z1, z2⟩ := a2.byte
    have h38 := a2.2.2.1
    have he := a2.2.1
    obtain ⟨S2, b1, b2, b3⟩ := wrong_d a2
    refine ⟨zI 0, S2, ?_, b2, a3.tr b3⟩
    unfold f12_turned_j125 f12_turned_j160
    rw [a1, bnd_some]
    simp (disch := omega) only [z2, h38, b1, nI_z, zI_add, zI_sub, zI_mul, zI_m1, ckI_z, zI_clamp, Int.toNat_natCast, bnd_some, lt, rd_same, rd_ne, rdL_same, rdL_ne, wI_2, wL_1, if_true, if_false, iT_lt, iF_lt, iT_lt0, iF_lt0, iT_0lt, iF_0lt, iT_le, iF_le, iT_le0, iF_le0, iT_0le, iF_0le, iT_eq, iF_eq, iT_eq0, iF_eq0]
  | inr q =>
    rw [hx] at a2 hok
    obtain ⟨t1, t2⟩ := a2
    obtain ⟨o1, o2, o3⟩ := hok
    have hb := t1.byte
    have h256 := hr_256 (n := n) (p := q.1) t1.1.2.2.2.2.2.1
    have h38 := t1.2.2.2.1
    have h36 := t1.2.2.1
    rw [pb_r]
    by_cases c : hr T n q.1 = 61 ∨ hr T n q.1 = 60 ∨ hr T n q.1 = 62
    · rw [if_pos c]
      have hp := (hr_pos (T := T) (n := n) (p := q.1) (by omega)).1
      obtain ⟨g1, g2⟩ := t1.go hp
      obtain ⟨v2, S2, b1, b2, b3⟩ := sum_m (N := N) hN g1 ((hE.np a3).np g2)
      have hok2 := pSum_ok (T := T) (n := n) (p := q.1 + 1) (by omega)
      have s2 : Same npP S S2 := (a3.tr g2).tr b3
      have hval : f12_turned_j125 N pv S = some (jn v1 (hr T n q.1) v2, S2) := by
        unfold f12_turned_j125
        rw [a1, bnd_some]
        rcases c with c | c | c
        · rw [c] at hb ⊢
          have hj : jn v1 61 v2 = if v1 = v2 then zI 1 else zI 0 := rfl
          rw [hj]
          simp (disch := omega) only [hb, h38, f12_turned_j165, h36, b1, nI_z, zI_add, zI_sub, zI_mul, zI_m1, ckI_z, zI_clamp, Int.toNat_natCast, bnd_some, lt, rd_same, rd_ne, rdL_same, rdL_ne, wI_2, wL_1, if_true, if_false, iT_lt, iF_lt, iT_lt0, iF_lt0, iT_0lt, iF_0lt, iT_le, iF_le, iT_le0, iF_le0, iT_0le, iF_0le, iT_eq, iF_eq, iT_eq0, iF_eq0]
          by_cases e : v1 = v2
          · rw [if_pos e, if_pos e]; rfl
          · rw [if_neg e, if_neg e]; rfl
        · rw [c] at hb ⊢
          have hj : jn v1 60 v2 = if v2 ≤ v1 then zI 0 else zI 1 := rfl
          rw [hj]
          simp (disch := omega) only [hb, h38, f12_turned_j165, h36, b1, nI_z, zI_add, zI_sub, zI_mul, zI_m1, ckI_z, zI_clamp, Int.toNat_natCast, bnd_some, lt, rd_same, rd_ne, rdL_same, rdL_ne, wI_2, wL_1, if_true, if_false, iT_lt, iF_lt, iT_lt0, iF_lt0, iT_0lt, iF_0lt, iT_le, iF_le, iT_le0, iF_le0, iT_0le, iF_0le, iT_eq, iF_eq, iT_eq0, iF_eq0]
          by_cases e : v2 ≤ v1
          · rw [if_pos e, if_pos e]; rfl
          · rw [if_neg e, if_neg e]; rfl
        · rw [c] at hb ⊢
          have hj : jn v1 62 v2 = if v1 ≤ v2 then zI 0 else zI 1 := rfl
          rw [hj]
          simp (disch := omega) only [hb, h38, f12_turned_j165, h36, b1, nI_z, zI_add, zI_sub, zI_mul, zI_m1, ckI_z, zI_clamp, Int.toNat_natCast, bnd_some, lt, rd_same, rd_ne, rdL_same, rdL_ne, wI_2, wL_1, if_true, if_false, iT_lt, iF_lt, iT_lt0, iF_lt0, iT_0lt, iF_0lt, iT_le, iF_le, iT_le0, iF_le0, iT_0le, iF_0le, iT_eq, iF_eq, iT_eq0, iF_eq0]
          by_cases e : v1 ≤ v2
          · rw [if_pos e, if_pos e]; rfl
          · rw [if_neg e, if_neg e]; rfl
      have h01 : jn v1 (hr T n q.1) v2 = zI 0 ∨ jn v1 (hr T n q.1) v2 = zI 1 := by
        rcases c with c | c | c
        · rw [c]
          show (if v1 = v2 then zI 1 else zI 0) = _ ∨ (if v1 = v2 then zI 1 else zI 0) = _
          split
          · exact Or.inr rfl
          · exact Or.inl rfl
        · rw [c]
          show (if v2 ≤ v1 then zI 0 else zI 1) = _ ∨ (if v2 ≤ v1 then zI 0 else zI 1) = _
          split
          · exact Or.inl rfl
          · exact Or.inr rfl
        · rw [c]
          show (if v1 ≤ v2 then zI 0 else zI 1) = _ ∨ (if v1 ≤ v2 then zI 0 else zI 1) = _
          split
          · exact Or.inl rfl
          · exact Or.inr rfl
      refine ⟨_, S2, hval, ?_, s2⟩
      cases hy : pSum T n (q.1 + 1) with
      | inl e => rw [hy] at b2; exact b2
      | inr r =>
        rw [hy] at b2
        obtain ⟨u1, u2⟩ := b2
        refine ⟨u1, fun st => ?_, h01⟩
        show ev (vn m xx) (q.2 ++ r.2 ++ [hr T n q.1]) st = _
        rw [ev_app, ev_app, t2, u2]
        show ev1 (vn m xx) (hr T n q.1) (v2 :: v1 :: st) = _
        rw [ev1_j (by omega)]
    · rw [if_neg c]
      obtain ⟨S2, b1, b2, b3⟩ := wrong_l t1
      refine ⟨zI 0, S2, ?_, b2, a3.tr b3⟩
      unfold f12_turned_j125 f12_turned_j160
      rw [a1, bnd_some]
      simp (disch := omega) only [hb, h38, b1, nI_z, zI_add, zI_sub, zI_mul, zI_m1, ckI_z, zI_clamp, Int.toNat_natCast, bnd_some, lt, rd_same, rd_ne, rdL_same, rdL_ne, wI_2, wL_1, if_true, if_false, iT_lt, iF_lt, iT_lt0, iF_lt0, iT_0lt, iF_0lt, iT_le, iF_le, iT_le0, iF_le0, iT_0le, iF_0le, iT_eq, iF_eq, iT_eq0, iF_eq0]
