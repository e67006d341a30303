/-! The reference's whole asks. -/
def PVm (pv : St → Option (Int32 × St)) (T : Nat → Nat) (n : Nat) (bs : Int) (o : Nat) (m : Mc) (xx : Nat) (pvp : Nat → Pr) : Prop := ∀ (p : Nat) (S : St), NL S T n bs p o → EV S m xx → ∃ v S2, pv S = some (v, S2) ∧ RMb S2 T n bs o (vn m xx) (pvp p) (fun st => st) v ∧ Same npP S S2
def PVd (pv : St → Option (Int32 × St)) (T : Nat → Nat) (n : Nat) (bs : Int) : Prop := ∀ (e : Nat) (S : St), ND S T n bs e → ∃ v S2, pv S = some (v, S2) ∧ ND S2 T n bs e ∧ Same npP S S2
theorem takes_l {S : St} {T : Nat → Nat} {n p o c : Nat} {bs : Int} (h : NL S T n bs p o) (hc : c < 256) : (hr T n p = c → f12_takes (zI c) S = some (zI 1, wI S 146 36 (zI ((p : Int) + ((1 : Nat) : Int))))) ∧ (hr T n p ≠ c → f12_takes (zI c) S = some (zI 0, S)) := by
  have hb := h.byte
  have h256 := hr_256 (n := n) (p := p) h.1.2.2.2.2.2.1
  have h38 := h.2.2.2.1
  have h36 := h.2.2.1
  have hn60 := h.1.1
  have hpn := h.2.1
  refine ⟨fun e => ?_, fun e => ?_⟩
  · unfold f12_takes; simp (disch := omega) only [h38, hb, h36, nI_z, zI_add, zI_sub, zI_mul, zI_m1, ckI_z, zI_clamp, Int.toNat_natCast, bnd_some, lt, rd_same, rd_ne, rdL_same, rdL_ne, wI_2, wL_1, if_true, if_false, iT_lt, iF_lt, iT_lt0, iF_lt0, iT_0lt, iF_0lt, iT_le, iF_le, iT_le0, iF_le0, iT_0le, iF_0le, iT_eq, iF_eq, iT_eq0, iF_eq0]; rfl
  · unfold f12_takes; simp (disch := omega) only [h38, hb, nI_z, zI_add, zI_sub, zI_mul, zI_m1, ckI_z, zI_clamp, Int.toNat_natCast, bnd_some, lt, rd_same, rd_ne, rdL_same, rdL_ne, wI_2, wL_1, if_true, if_false, iT_lt, iF_lt, iT_lt0, iF_lt0, iT_0lt, iF_0lt, iT_le, iF_le, iT_le0, iF_le0, iT_0le, iF_0le, iT_eq, iF_eq, iT_eq0, iF_eq0]; rfl
theorem takes_d {S : St} {T : Nat → Nat} {n e : Nat} {bs : Int} {x : Int32} (h : ND S T n bs e) : f12_takes x S = some (zI 0, S) := by
  have h38 := h.2.2.1
  have hn60 := h.1.1
  have he := h.2.1
  unfold f12_takes; simp (disch := omega) only [h38, nI_z, zI_add, zI_sub, zI_mul, zI_m1, ckI_z, zI_clamp, Int.toNat_natCast, bnd_some, lt, rd_same, rd_ne, rdL_same, rdL_ne, wI_2, wL_1, if_true, if_false, iT_lt, iF_lt, iT_lt0, iF_lt0, iT_0lt, iF_0lt, iT_le, iF_le, iT_le0, iF_le0, iT_0le, iF_0le, iT_eq, iF_eq, iT_eq0, iF_eq0]; rfl
theorem both_d {N n e f : Nat} {T : Nat → Nat} {bs : Int} {S : St} {x : Int32} {pv : St → Option (Int32 × St)} (h : ND S T n bs e) : f12_both_h5 N pv (f + 1) x S = some (x, S) := by
  rw [f12_both_h5, takes_d h, bnd_some]
  rfl
theorem either_d {N n e f : Nat} {T : Nat → Nat} {bs : Int} {S : St} {x : Int32} {pv : St → Option (Int32 × St)} (h : ND S T n bs e) : f12_either_h5 N pv (f + 1) x S = some (x, S) := by
  rw [f12_either_h5, takes_d h, bnd_some]
  rfl
def cmbo (w : Nat) (y q : Int32) : Int32 := if w = 0 then q else if y = zI 0 then (if q = zI 0 then zI 0 else zI 1) else zI 1
def andv (x q : Int32) : Int32 := if x = zI 0 then zI 0 else if q = zI 0 then zI 0 else zI 1
theorem and_01 {x q : Int32} (hx : x = zI 0 ∨ x = zI 1) (hq : q = zI 0 ∨ q = zI 1) : jn x 38 q = andv x q ∧ (andv x q = zI 0 ∨ andv x q = zI 1) := by
  rcases hx with rfl | rfl <;> rcases hq with rfl | rfl <;> decide
theorem or_01 {x q : Int32} (hx : x = zI 0 ∨ x = zI 1) (hq : q = zI 0 ∨ q = zI 1) : jn x 124 q = cmbo 124 x q ∧ (cmbo 124 x q = zI 0 ∨ cmbo 124 x q = zI 1) := by
  rcases hx with rfl | rfl <;> rcases hq with rfl | rfl <;> decide
theorem ev_wlo {v : Nat → Int32} {w : Nat} {x y : Int32} {st : List Int32} (hw : w = 0 ∨ w = 124) (hx : x = zI 0 ∨ x = zI 1) (hy : y = zI 0 ∨ y = zI 1) : ev v (wl w) (stk w y x st) = cmbo w y x :: st ∧ (cmbo w y x = zI 0 ∨ cmbo w y x = zI 1) := by
  rcases hw with rfl | rfl
  · exact ⟨rfl, hx⟩
  · refine ⟨?_, (or_01 hy hx).2⟩
    show ev1 v 124 (x :: y :: st) = _
    rw [ev1_j (by omega), (or_01 hy hx).1]
theorem anyRm {N n o xx : Nat} {T : Nat → Nat} {bs : Int} {m : Mc} {pv : St → Option (Int32 × St)} {pvp : Nat → Pr} (hN : 200 ≤ N) (hv : PVm pv T n bs o m xx pvp) (hvd : PVd pv T n bs) (hvo : ∀ p, p ≤ n → okp n (pvp p) p 0) : ∀ (f p w : Nat) (x y : Int32) (n1 n2 : Nat) (S : St), NL S T n bs p o → EV S m xx → n < p + f → f < n1 → f < n2 → f < 100 → (w = 0 ∨ w = 124) → (x = zI 0 ∨ x = zI 1) → (y = zI 0 ∨ y = zI 1) →
    ∃ v S2, bnd (f12_both_h5 N pv n1 x S) (fun q S3 => f12_either_h5 N pv n2 (cmbo w y q) S3) = some (v, S2) ∧ RMb S2 T n bs o (vn m xx) (pAR T n pvp f p w) (stk w y x) v ∧ Same npP S S2 := by
  intro f
  induction f with
  | zero =>
    intro p w x y n1 n2 S h hE hf h1 h2 h3 hw hx hy
    have := h.2.1
    omega
  | succ f ih =>
    intro p w x y n1 n2 S h hE hf h1 h2 h3 hw hx hy
    obtain ⟨n1, rfl⟩ : ∃ z, n1 = z + 1 := ⟨n1 - 1, by omega⟩
    obtain ⟨n2, rfl⟩ : ∃ z, n2 = z + 1 := ⟨n2 - 1, by omega⟩
    have hpn := h.2.1
    have hn60 := h.1.1
    obtain ⟨ta1, ta2⟩ := takes_l (c := 38) h (by omega)
    obtain ⟨tb1, tb2⟩ := takes_l (c := 124) h (by omega)
    unfold pAR
    by_cases c1 : hr T n p = 38
    · rw [if_pos c1]
      have hp := (hr_pos (T := T) (n := n) (p := p) (by omega)).1
      have hgo := ta1 c1
      obtain ⟨g1, g2⟩ := h.go hp
      generalize wI S 146 36 (zI ((p : Int) + ((1 : Nat) : Int))) = S0 at hgo g1 g2
      obtain ⟨v1, S1, a1, a2, a3⟩ := hv (p + 1) S0 g1 (hE.np g2)
      have hok := hvo (p + 1) (by omega)
      have step : f12_both_h5 N pv (n1 + 1) x S = f12_both_h5 N pv n1 (andv x v1) S1 := by
        rw [f12_both_h5, nI_z, hgo, bnd_some, if_neg (by decide), a1, bnd_some]
        unfold andv f12_both_j31 f12_both_j32
        by_cases x0 : x = zI 0
        · have x0' : x = 0 := x0
          rw [if_pos x0', if_pos x0]; rfl
        · have x0' : ¬ x = 0 := fun q => x0 q
          rw [if_neg x0', if_neg x0]
          by_cases v0 : v1 = zI 0
          · have v0' : v1 = 0 := v0
            rw [if_pos v0', if_pos v0]; rfl
          · have v0' : ¬ v1 = 0 := fun q => v0 q
            rw [if_neg v0', if_neg v0]; rfl
      rw [step]
      cases hxx : pvp (p + 1) with
      | inl e =>
        rw [hxx] at a2
        have a2 : ND S1 T n bs e := a2
        obtain ⟨k1, rfl⟩ : ∃ z, n1 = z + 1 := ⟨n1 - 1, by omega⟩
        refine ⟨cmbo w y (andv x v1), S1, ?_, a2, g2.tr a3⟩
        rw [both_d a2, bnd_some, either_d a2]
      | inr q =>
        rw [hxx] at a2 hok
        obtain ⟨t1, t2, t3⟩ := a2
        obtain ⟨o1, o2, o3⟩ := hok
        obtain ⟨k1, k2⟩ := and_01 hx t3
        obtain ⟨v, S2, b1, b2, b3⟩ := ih q.1 w (andv x v1) y n1 (n2 + 1) S1 t1 ((hE.np g2).np a3) (by omega) (by omega) (by omega) (by omega) hw k2 hy
        refine ⟨v, S2, b1, ?_, (g2.tr a3).tr b3⟩
        rw [pb_r]
        cases hyy : pAR T n pvp f q.1 w with
        | inl e => rw [hyy] at b2; exact b2
        | inr r =>
          rw [hyy] at b2
          obtain ⟨e1, e2, e3⟩ := b2
          refine ⟨e1, fun st => ?_, e3⟩
          show ev (vn m xx) (q.2 ++ [38] ++ r.2) (stk w y x st) = _
          rw [ev_app, ev_app, t2, ← e2 st]
          congr 1
          show ev1 (vn m xx) 38 (v1 :: stk w y x st) = _
          unfold stk
          by_cases w0 : w = 0
          · rw [if_pos w0, if_pos w0, ev1_j (by omega), k1]
          · rw [if_neg w0, if_neg w0, ev1_j (by omega), k1]
    · rw [if_neg c1]
      have pend : f12_both_h5 N pv (n1 + 1) x S = some (x, S) := by
        rw [f12_both_h5, nI_z, ta2 c1, bnd_some]; rfl
      rw [pend, bnd_some]
      obtain ⟨ew1, ew2⟩ := ev_wlo (v := vn m xx) (w := w) (x := x) (y := y) (st := []) hw hx hy
      by_cases c2 : hr T n p = 124
      · rw [if_pos c2]
        have hp := (hr_pos (T := T) (n := n) (p := p) (by omega)).1
        have hgo := tb1 c2
        obtain ⟨g1, g2⟩ := h.go hp
        generalize wI S 146 36 (zI ((p : Int) + ((1 : Nat) : Int))) = S0 at hgo g1 g2
        obtain ⟨v1, S1, a1, a2, a3⟩ := hv (p + 1) S0 g1 (hE.np g2)
        have hok := hvo (p + 1) (by omega)
        have cont : ∀ (q4 : Int32) (S5 : St), (if cmbo w y x = 0 then (if q4 = 0 then f12_either_j32 N pv (f12_either_h5 N pv n2) (nI 0) S5 else f12_either_j27 N pv (f12_either_h5 N pv n2) S5) else f12_either_j27 N pv (f12_either_h5 N pv n2) S5) = f12_either_h5 N pv n2 (cmbo 124 (cmbo w y x) q4) S5 := fun q4 S5 => by
          have hcb : cmbo 124 (cmbo w y x) q4 = if cmbo w y x = zI 0 then (if q4 = zI 0 then zI 0 else zI 1) else zI 1 := rfl
          rw [hcb]
          generalize cmbo w y x = yy
          unfold f12_either_j32 f12_either_j27 f12_either_j32
          by_cases y0 : yy = zI 0
          · have y0' : yy = 0 := y0
            rw [if_pos y0', if_pos y0]
            by_cases q0 : q4 = zI 0
            · have q0' : q4 = 0 := q0
              rw [if_pos q0', if_pos q0]; rfl
            · have q0' : ¬ q4 = 0 := fun q => q0 q
              rw [if_neg q0', if_neg q0]; rfl
          · have y0' : ¬ yy = 0 := fun q => y0 q
            rw [if_neg y0', if_neg y0]; rfl
        have step : f12_either_h5 N pv (n2 + 1) (cmbo w y x) S = bnd (f12_both_h5 N pv N v1 S1) (fun q S3 => f12_either_h5 N pv n2 (cmbo 124 (cmbo w y x) q) S3) := by
          rw [f12_either_h5, nI_z, hgo, bnd_some, if_neg (by decide)]
          unfold f12_both
          rw [a1, bnd_some]
          cases f12_both_h5 N pv N v1 S1 with
          | none => rfl
          | some q => exact cont q.1 q.2
        rw [step]
        cases hxx : pvp (p + 1) with
        | inl e =>
          rw [hxx] at a2
          have a2 : ND S1 T n bs e := a2
          obtain ⟨k1, hk1⟩ : ∃ z, N = z + 1 := ⟨N - 1, by omega⟩
          obtain ⟨k2, rfl⟩ : ∃ z, n2 = z + 1 := ⟨n2 - 1, by omega⟩
          refine ⟨cmbo 124 (cmbo w y x) v1, S1, ?_, a2, g2.tr a3⟩
          have hpd : f12_both_h5 N pv N v1 S1 = some (v1, S1) := by
            rw [hk1]; exact both_d a2
          rw [hpd, bnd_some, either_d a2]
        | inr q =>
          rw [hxx] at a2 hok
          obtain ⟨t1, t2, t3⟩ := a2
          obtain ⟨o1, o2, o3⟩ := hok
          obtain ⟨v, S2, b1, b2, b3⟩ := ih q.1 124 v1 (cmbo w y x) N n2 S1 t1 ((hE.np g2).np a3) (by omega) (by omega) (by omega) (by omega) (Or.inr rfl) t3 ew2
          refine ⟨v, S2, b1, ?_, (g2.tr a3).tr b3⟩
          rw [pb_r]
          cases hyy : pAR T n pvp f q.1 124 with
          | inl e => rw [hyy] at b2; exact b2
          | inr r =>
            rw [hyy] at b2
            obtain ⟨e1, e2, e3⟩ := b2
            refine ⟨e1, fun st => ?_, e3⟩
            show ev (vn m xx) (wl w ++ q.2 ++ r.2) (stk w y x st) = _
            rw [ev_app, ev_app, (ev_wlo hw hx hy).1, t2, ← e2 st]
            rfl
      · rw [if_neg c2]
        refine ⟨cmbo w y x, S, ?_, ⟨h, fun st => (ev_wlo hw hx hy).1, ew2⟩, Same.rfl'⟩
        rw [f12_either_h5, nI_z, tb2 c2, bnd_some]; rfl
theorem any_m {N n o p xx : Nat} {T : Nat → Nat} {bs : Int} {m : Mc} {S : St} {pv : St → Option (Int32 × St)} {pvp : Nat → Pr} (hN : 200 ≤ N) (hv : PVm pv T n bs o m xx pvp) (hvd : PVd pv T n bs) (hvo : ∀ p, p ≤ n → okp n (pvp p) p 0) (h : NL S T n bs p o) (hE : EV S m xx) : ∃ v S2, f12_either N pv S = some (v, S2) ∧ RMb S2 T n bs o (vn m xx) (pA T n pvp p) (fun st => st) v ∧ Same npP S S2 := by
  obtain ⟨v1, S1, a1, a2, a3⟩ := hv p S h hE
  have hok := hvo p h.2.1
  have hn60 := h.1.1
  have st0 : f12_either N pv S = bnd (f12_both_h5 N pv N v1 S1) (fun q S3 => f12_either_h5 N pv N (cmbo 0 (zI 0) q) S3) := by
    unfold f12_either f12_both
    rw [a1, bnd_some]
    rfl
  rw [st0]
  unfold pA
  cases hx : pvp p with
  | inl e =>
    rw [hx] at a2
    have a2 : ND S1 T n bs e := a2
    obtain ⟨k1, hk1⟩ : ∃ z, N = z + 1 := ⟨N - 1, by omega⟩
    refine ⟨v1, S1, ?_, a2, a3⟩
    rw [hk1, both_d a2, bnd_some, either_d a2]
    rfl
  | inr q =>
    rw [hx] at a2 hok
    obtain ⟨t1, t2, t3⟩ := a2
    obtain ⟨o1, o2, o3⟩ := hok
    obtain ⟨v, S2, b1, b2, b3⟩ := anyRm (N := N) hN hv hvd hvo 61 q.1 0 v1 (zI 0) N N S1 t1 (hE.np a3) (by omega) (by omega) (by omega) (by omega) (Or.inl rfl) t3 (Or.inl rfl)
    refine ⟨v, S2, b1, ?_, a3.tr b3⟩
    rw [pb_r]
    cases hy : pAR T n pvp 61 q.1 0 with
    | inl e => rw [hy] at b2; exact b2
    | inr r =>
      rw [hy] at b2
      obtain ⟨e1, e2, e3⟩ := b2
      refine ⟨e1, fun st => ?_, e3⟩
      show ev (vn m xx) (q.2 ++ r.2) st = _
      rw [ev_app, t2, ← e2 st]
      rfl
theorem either_dd {N n : Nat} {T : Nat → Nat} {bs : Int} {pv : St → Option (Int32 × St)} (hN : 200 ≤ N) (hvd : PVd pv T n bs) : PVd (f12_either N pv) T n bs := by
  intro e S h
  obtain ⟨v1, S1, a1, a2, a3⟩ := hvd e S h
  obtain ⟨k1, hk1⟩ : ∃ z, N = z + 1 := ⟨N - 1, by omega⟩
  refine ⟨v1, S1, ?_, a2, a3⟩
  unfold f12_either f12_both
  rw [a1, bnd_some, hk1, both_d a2, bnd_some, either_d a2]
theorem turned_d {N n f : Nat} {T : Nat → Nat} {bs : Int} (hN : 200 ≤ N) : PVd (f12_turned N (f + 1)) T n bs := by
  intro e S h
  obtain ⟨z, z1, z2⟩ := h.byte
  have h38 := h.2.2.1
  have hn60 := h.1.1
  have he := h.2.1
  obtain ⟨v, S2, b1, b2, b3⟩ := cmp_dm (N := N) (pv := f12_turned N f) (by omega) h
  refine ⟨v, S2, ?_, b2, b3⟩
  show f12_turned_b N (f12_turned N f) S = _
  unfold f12_turned_b
  simp (disch := omega) only [z2, h38, nI_z, zI_add, zI_sub, zI_mul, zI_m1, ckI_z, zI_clamp, Int.toNat_natCast, bnd_some, lt, rd_same, rd_ne, rdL_same, rdL_ne, wI_2, wL_1, if_true, if_false, iT_lt, iF_lt, iT_lt0, iF_lt0, iT_0lt, iF_0lt, iT_le, iF_le, iT_le0, iF_le0, iT_0le, iF_0le, iT_eq, iF_eq, iT_eq0, iF_eq0]
  exact b1
theorem turned_m {N n xx : Nat} {T : Nat → Nat} {bs : Int} {m : Mc} (hN : 200 ≤ N) : ∀ (f o : Nat), o + f = 7 → o ≤ 5 → PVm (f12_turned N (f + 1)) T n bs o m xx (pT T n f o) ∨ f = 0 := by
  intro f
  induction f with
  | zero => intro o _ _; exact Or.inr rfl
  | succ f ih =>
    intro o ho ho5
    left
    intro p S h hE
    have hpn := h.2.1
    have hn60 := h.1.1
    have hb := h.byte
    have h256 := hr_256 (n := n) (p := p) h.1.2.2.2.2.2.1
    have h38 := h.2.2.2.1
    have h36 := h.2.2.1
    have h39 := h.2.2.2.2
    show ∃ v S2, f12_turned_b N (f12_turned N (f + 1)) S = some (v, S2) ∧ _ ∧ _
    unfold pT
    by_cases c1 : hr T n p = 33 ∨ hr T n p = 40
    · rw [if_pos c1]
      have hp := (hr_pos (T := T) (n := n) (p := p) (by omega)).1
      have hj : f12_turned_b N (f12_turned N (f + 1)) S = f12_turned_j24 N (f12_turned N (f + 1)) (zI (hr T n p)) S := by
        unfold f12_turned_b
        rcases c1 with c | c
        · rw [c] at hb ⊢; simp (disch := omega) only [hb, h38, nI_z, zI_add, zI_sub, zI_mul, zI_m1, ckI_z, zI_clamp, Int.toNat_natCast, bnd_some, lt, rd_same, rd_ne, rdL_same, rdL_ne, wI_2, wL_1, if_true, if_false, iT_lt, iF_lt, iT_lt0, iF_lt0, iT_0lt, iF_0lt, iT_le, iF_le, iT_le0, iF_le0, iT_0le, iF_0le, iT_eq, iF_eq, iT_eq0, iF_eq0]
        · rw [c] at hb ⊢; simp (disch := omega) only [hb, h38, nI_z, zI_add, zI_sub, zI_mul, zI_m1, ckI_z, zI_clamp, Int.toNat_natCast, bnd_some, lt, rd_same, rd_ne, rdL_same, rdL_ne, wI_2, wL_1, if_true, if_false, iT_lt, iF_lt, iT_lt0, iF_lt0, iT_0lt, iF_0lt, iT_le, iF_le, iT_le0, iF_le0, iT_0le, iF_0le, iT_eq, iF_eq, iT_eq0, iF_eq0]
      rw [hj]
      by_cases c2 : 5 ≤ o
      · rw [if_pos c2]
        have o5 : o = 5 := by omega
        subst o5
        obtain ⟨S3, b1, b2, b3⟩ := wrong_l h
        refine ⟨zI 0, S3, ?_, b2, b3⟩
        unfold f12_turned_j24
        simp (disch := omega) only [h39, b1, nI_z, zI_add, zI_sub, zI_mul, zI_m1, ckI_z, zI_clamp, Int.toNat_natCast, bnd_some, lt, rd_same, rd_ne, rdL_same, rdL_ne, wI_2, wL_1, if_true, if_false, iT_lt, iF_lt, iT_lt0, iF_lt0, iT_0lt, iF_0lt, iT_le, iF_le, iT_le0, iF_le0, iT_0le, iF_0le, iT_eq, iF_eq, iT_eq0, iF_eq0]
      · rw [if_neg c2]
        have hf : f ≠ 0 := by omega
        have hv : PVm (f12_turned N (f + 1)) T n bs (o + 1) m xx (pT T n f (o + 1)) := by
          rcases ih (o + 1) (by omega) (by omega) with q | q
          · exact q
          · exact absurd q hf
        have hvd : PVd (f12_turned N (f + 1)) T n bs := turned_d hN
        have hs1 : Same npP S (wI (wI S 146 39 (zI ((o : Int) + ((1 : Nat) : Int)))) 146 36 (zI ((p : Int) + ((1 : Nat) : Int)))) := (Same.rfl' (P := npP)) |>.wI (by unfold npP; omega) |>.wI (by unfold npP; omega)
        have g1 : NL (wI (wI S 146 39 (zI ((o : Int) + ((1 : Nat) : Int)))) 146 36 (zI ((p : Int) + ((1 : Nat) : Int)))) T n bs (p + 1) (o + 1) := ⟨h.1.np hs1, by omega, by simp (disch := omega) only [nI_z, zI_add, zI_sub, zI_mul, zI_m1, ckI_z, zI_clamp, Int.toNat_natCast, bnd_some, lt, rd_same, rd_ne, rdL_same, rdL_ne, wI_2, wL_1, if_true, if_false, iT_lt, iF_lt, iT_lt0, iF_lt0, iT_0lt, iF_0lt, iT_le, iF_le, iT_le0, iF_le0, iT_0le, iF_0le, iT_eq, iF_eq, iT_eq0, iF_eq0]; rfl, by simp (disch := omega) only [h38, nI_z, zI_add, zI_sub, zI_mul, zI_m1, ckI_z, zI_clamp, Int.toNat_natCast, bnd_some, lt, rd_same, rd_ne, rdL_same, rdL_ne, wI_2, wL_1, if_true, if_false, iT_lt, iF_lt, iT_lt0, iF_lt0, iT_0lt, iF_0lt, iT_le, iF_le, iT_le0, iF_le0, iT_0le, iF_0le, iT_eq, iF_eq, iT_eq0, iF_eq0], by simp (disch := omega) only [nI_z, zI_add, zI_sub, zI_mul, zI_m1, ckI_z, zI_clamp, Int.toNat_natCast, bnd_some, lt, rd_same, rd_ne, rdL_same, rdL_ne, wI_2, wL_1, if_true, if_false, iT_lt, iF_lt, iT_lt0, iF_lt0, iT_0lt, iF_0lt, iT_le, iF_le, iT_le0, iF_le0, iT_0le, iF_0le, iT_eq, iF_eq, iT_eq0, iF_eq0]; rfl⟩
        by_cases c3 : hr T n p = 33
        · rw [if_pos c3]
          obtain ⟨v1, S2, a1, a2, a3⟩ := hv (p + 1) _ g1 (hE.np hs1)
          have step : f12_turned_j24 N (f12_turned N (f + 1)) (zI (hr T n p)) S = f12_turned_j95 N (f12_turned N (f + 1)) (zI ((33 : Nat) : Int)) v1 S2 := by
            rw [c3]
            unfold f12_turned_j24 f12_turned_j74
            simp (disch := omega) only [h39, h36, a1, nI_z, zI_add, zI_sub, zI_mul, zI_m1, ckI_z, zI_clamp, Int.toNat_natCast, bnd_some, lt, rd_same, rd_ne, rdL_same, rdL_ne, wI_2, wL_1, if_true, if_false, iT_lt, iF_lt, iT_lt0, iF_lt0, iT_0lt, iF_0lt, iT_le, iF_le, iT_le0, iF_le0, iT_0le, iF_0le, iT_eq, iF_eq, iT_eq0, iF_eq0]
          rw [step]
          have hs3 : Same npP S2 (wI S2 146 39 (S2.1 146 39 - nI 1)) := (Same.rfl' (P := npP)).wI (by unfold npP; omega)
          have e95 : f12_turned_j95 N (f12_turned N (f + 1)) (zI ((33 : Nat) : Int)) v1 S2 = some (if v1 = zI 0 then zI 1 else zI 0, wI S2 146 39 (S2.1 146 39 - nI 1)) := by
            unfold f12_turned_j95
            simp only [lt]
            rw [nI_z 40, iF_eq (by omega)]
            by_cases v0 : v1 = zI 0
            · have v0' : v1 = 0 := v0
              rw [if_pos v0', if_pos v0]; rfl
            · have v0' : ¬ v1 = 0 := fun q => v0 q
              rw [if_neg v0', if_neg v0]; rfl
          refine ⟨_, _, e95, ?_, (hs1.tr a3).tr hs3⟩
          cases hx : pT T n f (o + 1) (p + 1) with
          | inl e =>
            rw [hx] at a2
            have a2 : ND S2 T n bs e := a2
            obtain ⟨d1, d2, d3, pp, d4, d5⟩ := a2
            exact ⟨d1.np hs3, d2, by simp (disch := omega) only [d3, nI_z, zI_add, zI_sub, zI_mul, zI_m1, ckI_z, zI_clamp, Int.toNat_natCast, bnd_some, lt, rd_same, rd_ne, rdL_same, rdL_ne, wI_2, wL_1, if_true, if_false, iT_lt, iF_lt, iT_lt0, iF_lt0, iT_0lt, iF_0lt, iT_le, iF_le, iT_le0, iF_le0, iT_0le, iF_0le, iT_eq, iF_eq, iT_eq0, iF_eq0], pp, d4, by simp (disch := omega) only [d5, nI_z, zI_add, zI_sub, zI_mul, zI_m1, ckI_z, zI_clamp, Int.toNat_natCast, bnd_some, lt, rd_same, rd_ne, rdL_same, rdL_ne, wI_2, wL_1, if_true, if_false, iT_lt, iF_lt, iT_lt0, iF_lt0, iT_0lt, iF_0lt, iT_le, iF_le, iT_le0, iF_le0, iT_0le, iF_0le, iT_eq, iF_eq, iT_eq0, iF_eq0]⟩
          | inr q =>
            rw [hx] at a2
            obtain ⟨⟨t1, t1b, t1c, t1d, t1e⟩, t2, t3⟩ := a2
            refine ⟨⟨t1.np hs3, t1b, by simp (disch := omega) only [t1c, nI_z, zI_add, zI_sub, zI_mul, zI_m1, ckI_z, zI_clamp, Int.toNat_natCast, bnd_some, lt, rd_same, rd_ne, rdL_same, rdL_ne, wI_2, wL_1, if_true, if_false, iT_lt, iF_lt, iT_lt0, iF_lt0, iT_0lt, iF_0lt, iT_le, iF_le, iT_le0, iF_le0, iT_0le, iF_0le, iT_eq, iF_eq, iT_eq0, iF_eq0], by simp (disch := omega) only [t1d, nI_z, zI_add, zI_sub, zI_mul, zI_m1, ckI_z, zI_clamp, Int.toNat_natCast, bnd_some, lt, rd_same, rd_ne, rdL_same, rdL_ne, wI_2, wL_1, if_true, if_false, iT_lt, iF_lt, iT_lt0, iF_lt0, iT_0lt, iF_0lt, iT_le, iF_le, iT_le0, iF_le0, iT_0le, iF_0le, iT_eq, iF_eq, iT_eq0, iF_eq0], ?_⟩, fun st => ?_, ?_⟩
            · rw [rd_same, t1e, nI_z, zI_sub]; congr 1; omega
            · show ev (vn m xx) (q.2 ++ [33]) st = _
              rw [ev_app, t2]
              show ev1 (vn m xx) 33 (v1 :: st) = _
              rcases t3 with rfl | rfl <;> rfl
            · split
              · exact Or.inr rfl
              · exact Or.inl rfl
        · rw [if_neg c3]
          have c40 : hr T n p = 40 := by omega
          obtain ⟨v1, S2, a1, a2, a3⟩ := any_m (N := N) hN hv hvd (fun p hp => pT_ok (T := T) (n := n) f (o + 1) p hp) g1 (hE.np hs1)
          have step : f12_turned_j24 N (f12_turned N (f + 1)) (zI (hr T n p)) S = f12_turned_j74 N (f12_turned N (f + 1)) (zI ((40 : Nat) : Int)) v1 S2 := by
            rw [c40]
            unfold f12_turned_j24
            simp (disch := omega) only [h39, h36, a1, nI_z, zI_add, zI_sub, zI_mul, zI_m1, ckI_z, zI_clamp, Int.toNat_natCast, bnd_some, lt, rd_same, rd_ne, rdL_same, rdL_ne, wI_2, wL_1, if_true, if_false, iT_lt, iF_lt, iT_lt0, iF_lt0, iT_0lt, iF_0lt, iT_le, iF_le, iT_le0, iF_le0, iT_0le, iF_0le, iT_eq, iF_eq, iT_eq0, iF_eq0]
          rw [step]
          cases hx : pA T n (pT T n f (o + 1)) (p + 1) with
          | inl e =>
            rw [hx] at a2
            have a2 : ND S2 T n bs e := a2
            obtain ⟨S3, b1, b2, b3⟩ := wrong_d a2
            have ht := takes_d (x := nI 41) a2
            refine ⟨zI 0, S3, ?_, b2, (hs1.tr a3).tr b3⟩
            unfold f12_turned_j74
            rw [nI_z 40, iT_eq rfl, ht]
            simp only [bnd_some]
            rw [if_pos (by decide), b1]
            rfl
          | inr q =>
            rw [hx] at a2
            obtain ⟨t1, t2, t3⟩ := a2
            obtain ⟨ta1, ta2⟩ := takes_l (c := 41) t1 (by omega)
            rw [pb_r]
            by_cases c4 : hr T n q.1 = 41
            · rw [if_pos c4]
              have ht := ta1 c4
              have hp2 := (hr_pos (T := T) (n := n) (p := q.1) (by omega)).1
              obtain ⟨u1, u2⟩ := t1.go hp2
              generalize wI S2 146 36 (zI ((q.1 : Int) + ((1 : Nat) : Int))) = S3 at ht u1 u2
              have hs3 : Same npP S3 (wI S3 146 39 (S3.1 146 39 - nI 1)) := (Same.rfl' (P := npP)).wI (by unfold npP; omega)
              refine ⟨v1, wI S3 146 39 (S3.1 146 39 - nI 1), ?_, ?_, ((hs1.tr a3).tr u2).tr hs3⟩
              · unfold f12_turned_j74 f12_turned_j95
                rw [nI_z 40, iT_eq rfl, nI_z 41, ht]
                simp only [bnd_some, lt]
                rw [if_neg (by decide), if_pos True.intro]
              · obtain ⟨w1, w2, w3, w4, w5⟩ := u1
                refine ⟨⟨w1.np hs3, w2, by simp (disch := omega) only [w3, nI_z, zI_add, zI_sub, zI_mul, zI_m1, ckI_z, zI_clamp, Int.toNat_natCast, bnd_some, lt, rd_same, rd_ne, rdL_same, rdL_ne, wI_2, wL_1, if_true, if_false, iT_lt, iF_lt, iT_lt0, iF_lt0, iT_0lt, iF_0lt, iT_le, iF_le, iT_le0, iF_le0, iT_0le, iF_0le, iT_eq, iF_eq, iT_eq0, iF_eq0], by simp (disch := omega) only [w4, nI_z, zI_add, zI_sub, zI_mul, zI_m1, ckI_z, zI_clamp, Int.toNat_natCast, bnd_some, lt, rd_same, rd_ne, rdL_same, rdL_ne, wI_2, wL_1, if_true, if_false, iT_lt, iF_lt, iT_lt0, iF_lt0, iT_0lt, iF_0lt, iT_le, iF_le, iT_le0, iF_le0, iT_0le, iF_0le, iT_eq, iF_eq, iT_eq0, iF_eq0], ?_⟩, t2, t3⟩
                rw [rd_same, w5, nI_z, zI_sub]; congr 1; omega
            · rw [if_neg c4]
              have ht := ta2 c4
              obtain ⟨S3, b1, b2, b3⟩ := wrong_l t1
              refine ⟨zI 0, S3, ?_, b2, (hs1.tr a3).tr b3⟩
              unfold f12_turned_j74
              rw [nI_z 40, iT_eq rfl, nI_z 41, ht]
              simp only [bnd_some]
              rw [if_pos (by decide), b1]
              rfl
    · rw [if_neg c1]
      obtain ⟨v, S2, b1, b2, b3⟩ := cmp_m (N := N) (pv := f12_turned N (f + 1)) hN h hE
      refine ⟨v, S2, ?_, b2, b3⟩
      unfold f12_turned_b
      simp (disch := omega) only [hb, h38, nI_z, zI_add, zI_sub, zI_mul, zI_m1, ckI_z, zI_clamp, Int.toNat_natCast, bnd_some, lt, rd_same, rd_ne, rdL_same, rdL_ne, wI_2, wL_1, if_true, if_false, iT_lt, iF_lt, iT_lt0, iF_lt0, iT_0lt, iF_0lt, iT_le, iF_le, iT_le0, iF_le0, iT_0le, iF_0le, iT_eq, iF_eq, iT_eq0, iF_eq0]
      exact b1
