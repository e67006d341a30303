/-! The next program within a limit that may be lower than the list's. -/
def hdl (L : Nat) : List Pg → Nat
  | [] => 0
  | f :: _ => if f.1 ≤ L then f.1 else 0
theorem progs_cut {g : Lg} {L n : Nat} (h : L ≤ n) : ∃ D, progs (bit g) (rkf g) n = progs (bit g) (rkf g) L ++ D ∧ ∀ f ∈ D, L < f.1 := by
  obtain ⟨m, rfl⟩ : ∃ m, n = L + m := ⟨n - L, by omega⟩
  exact ⟨prf g L m, progs_prf g m L, fun f hf => by have := (prf_mem hf).1; omega⟩
theorem progs_split {g : Lg} {L n : Nat} {A C : List Pg} {e : Pg} (h : L ≤ n) (hp : progs (bit g) (rkf g) n = A ++ e :: C) : (L < e.1 ∧ ∀ f ∈ C, L < f.1) ∨ (e.1 ≤ L ∧ ∃ C1 D, C = C1 ++ D ∧ progs (bit g) (rkf g) L = A ++ e :: C1 ∧ ∀ f ∈ D, L < f.1) := by
  obtain ⟨D, h1, h2⟩ := progs_cut (g := g) h
  have hq : A ++ e :: C = progs (bit g) (rkf g) L ++ D := hp.symm.trans h1
  rcases List.append_eq_append_iff.mp hq with ⟨a, q1, q2⟩ | ⟨c, q1, q2⟩
  · cases a with
    | nil =>
      rw [List.nil_append] at q2
      left
      exact ⟨h2 e (by rw [← q2]; exact List.mem_cons_self), fun f hf => h2 f (by rw [← q2]; exact List.mem_cons_of_mem _ hf)⟩
    | cons b a =>
      injection q2 with q3 q4
      right
      subst q3
      refine ⟨(progs_mem (g := g) (B := L) (e := e) (by rw [q1]; exact List.mem_append.mpr (Or.inr List.mem_cons_self))).2.1, a, D, q4, q1, h2⟩
  · left
    exact ⟨h2 e (by rw [q2]; exact List.mem_append.mpr (Or.inr List.mem_cons_self)), fun f hf => h2 f (by rw [q2]; exact List.mem_append.mpr (Or.inr (List.mem_cons_of_mem _ hf)))⟩
def PRl (S : St) (a1 L : Nat) (C : List Pg) : Prop := ∀ f C2, C = f :: C2 → f.1 ≤ L → PR S a1 f.2
theorem flw_low {N a a1 L : Nat} {g : Lg} {S : St} {p : List Nat} (hg : LV g) (hN : 20 ≤ N) (hc : CL S a g) (hp : PR S a1 p) (hw : WP g p) (hb : L < bsum g p) (hL : L ≤ 14) : f3_follow N a a1 (zI L) S = some (zI 0, S) := by
  have hsz := f3_sizeOf_in (N := N) hg hc hp (by omega)
  have q := wp_isp hw
  have h12 := hp.2.1
  have hbl := bsum_le hg p
  have hl0 : 0 < p.length := List.length_pos_iff.mpr hw.1
  unfold szI at hsz
  rw [if_pos q.1, if_pos q.2] at hsz
  have hlen := f6_length_eq hp
  unfold f3_follow f3_follow_j16
  simp (disch := omega) only [hlen, hsz, nI_z, zI_add, zI_sub, zI_mul, zI_m1, ckI_z, zI_clamp, Int.toNat_natCast, bnd_some, lt, rd_same, rd_ne, rdL_same, rdL_ne, wI_2, wL_1, if_true, if_false, iT_lt, iF_lt, iT_lt0, iF_lt0, iT_0lt, iF_0lt, iT_le, iF_le, iT_le0, iF_le0, iT_0le, iF_0le, iT_eq, iF_eq, iT_eq0, iF_eq0]
  rfl
theorem follow_lim {N a a1 L n : Nat} {g : Lg} {S : St} {A C : List Pg} {e : Pg} (hg : LV g) (ha : a1 + 1 < a) (hN : 20 ≤ N) (hc : CL S a g) (hp : PR S a1 e.2) (hn : n ≤ 14) (hL : L ≤ n) (hs : progs (bit g) (rkf g) n = A ++ e :: C) : ∃ S2, f3_follow N a a1 (zI L) S = some (zI (hdl L C), S2) ∧ PRl S2 a1 L C ∧ Same (rgP a1) S S2 := by
  obtain ⟨p1, p2, p3, p4, p5⟩ := progs_wp hg hs
  rcases progs_split hL hs with ⟨c1, c2⟩ | ⟨c1, C1, D, c2, c3, c4⟩
  · have hf := flw_low (N := N) (L := L) hg hN hc hp p3 (by rw [p5]; exact c1) (by omega)
    have h0 : hdl L C = 0 := by
      cases C with
      | nil => rfl
      | cons f C =>
        have := c2 f List.mem_cons_self
        show (if f.1 ≤ L then f.1 else 0) = 0
        rw [if_neg (by omega)]
    refine ⟨S, by rw [h0]; exact hf, fun f C2 q hq => ?_, Same.rfl'⟩
    have := c2 f (by rw [q]; exact List.mem_cons_self)
    omega
  · obtain ⟨S2, f1, f2, f3⟩ := flw_go (f3_follow_next (N := N) (B := e.1) hg ha hN hc hp (by omega : L ≤ 14) c3)
    have h0 : hdz C1 = hdl L C := by
      cases C1 with
      | nil =>
        rw [List.nil_append] at c2
        subst c2
        cases C with
        | nil => rfl
        | cons f C =>
          have := c4 f List.mem_cons_self
          show 0 = (if f.1 ≤ L then f.1 else 0)
          rw [if_neg (by omega)]
      | cons f C1 =>
        rw [c2]
        have := (progs_mem (g := g) (B := L) (e := f) (by rw [c3]; exact List.mem_append.mpr (Or.inr (List.mem_cons_of_mem _ List.mem_cons_self)))).2.1
        show f.1 = (if f.1 ≤ L then f.1 else 0)
        rw [if_pos this]
    refine ⟨S2, by rw [← h0]; exact f1, fun f C2 q hq => ?_, f3⟩
    cases C1 with
    | nil =>
      rw [List.nil_append] at c2
      subst c2
      have := c4 f (by rw [q]; exact List.mem_cons_self)
      omega
    | cons b C1 =>
      rw [c2] at q
      injection q with q1 q2
      subst q1
      exact f2 b C1 rfl
theorem follow_lim0 {N a a1 L n : Nat} {g : Lg} {S : St} (hg : LV g) (ha : a1 + 1 < a) (hN : 20 ≤ N) (hc : CL S a g) (hp : PR S a1 []) (hn : n ≤ 14) (hL : L ≤ n) : ∃ S2, f3_follow N a a1 (zI L) S = some (zI (hdl L (progs (bit g) (rkf g) n)), S2) ∧ PRl S2 a1 L (progs (bit g) (rkf g) n) ∧ Same (rgP a1) S S2 := by
  obtain ⟨S2, f1, f2, f3⟩ := flw_go (f3_follow_first (N := N) (L := L) hg ha hN hc hp (by omega))
  obtain ⟨D, h1, h2⟩ := progs_cut (g := g) hL
  have h0 : hdz (progs (bit g) (rkf g) L) = hdl L (progs (bit g) (rkf g) n) := by
    rw [h1]
    cases hx : progs (bit g) (rkf g) L with
    | nil =>
      cases D with
      | nil => rfl
      | cons f D =>
        have := h2 f List.mem_cons_self
        show 0 = (if f.1 ≤ L then f.1 else 0)
        rw [if_neg (by omega)]
    | cons f C =>
      have := (progs_mem (g := g) (B := L) (e := f) (by rw [hx]; exact List.mem_cons_self)).2.1
      show f.1 = (if f.1 ≤ L then f.1 else 0)
      rw [if_pos this]
  refine ⟨S2, by rw [← h0]; exact f1, fun f C2 q hq => ?_, f3⟩
  rw [h1] at q
  cases hx : progs (bit g) (rkf g) L with
  | nil =>
    rw [hx, List.nil_append] at q
    have := h2 f (by rw [q]; exact List.mem_cons_self)
    omega
  | cons b C =>
    rw [hx] at q
    injection q with q1 q2
    rw [← q1]
    exact f2 b C hx
