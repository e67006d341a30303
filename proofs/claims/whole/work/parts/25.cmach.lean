/-! The class's Machine. -/
def mcP (c _k : Nat) : Prop := 6 ≤ c ∧ c ≤ 9
def MK (f : Nat → Int32) (mk : Nat) (cm : List (Nat × Nat)) : Prop := (∀ k, k < 20000 → ∃ v : Nat, v ≤ mk ∧ f k = zI v) ∧ ∀ x y, x < 20 → y < 1000 → (f (1000 * x + y) = zI mk ↔ (x, y) ∈ cm)
theorem MK.new {f : Nat → Int32} {mk : Nat} {cm : List (Nat × Nat)} (h : MK f mk cm) (hb : mk + 1 < 2147483648) : MK f (mk + 1) [] := by
  refine ⟨fun k hk => ?_, fun x y hx hy => ⟨fun q => ?_, fun q => (by cases q)⟩⟩
  · obtain ⟨v, h1, h2⟩ := h.1 k hk
    exact ⟨v, by omega, h2⟩
  · obtain ⟨v, h1, h2⟩ := h.1 (1000 * x + y) (by omega)
    rw [h2, zI_eq (by omega) (by omega)] at q
    omega
theorem MK.old {f : Nat → Int32} {mk mk2 : Nat} {cm : List (Nat × Nat)} (h : MK f mk cm) (hl : mk < mk2) (hb : mk2 < 2147483648) : MK f mk2 [] := by
  refine ⟨fun k hk => ?_, fun x y hx hy => ⟨fun q => ?_, fun q => (by cases q)⟩⟩
  · obtain ⟨v, h1, h2⟩ := h.1 k hk
    exact ⟨v, by omega, h2⟩
  · obtain ⟨v, h1, h2⟩ := h.1 (1000 * x + y) (by omega)
    rw [h2, zI_eq (by omega) (by omega)] at q
    omega
theorem MK.add {f f2 : Nat → Int32} {mk a b : Nat} {cm : List (Nat × Nat)} (h : MK f mk cm) (ha : a < 20) (hb : b < 1000) (h1 : f2 (1000 * a + b) = zI mk) (h2 : ∀ k, k ≠ 1000 * a + b → f2 k = f k) : MK f2 mk ((a, b) :: cm) := by
  refine ⟨fun k hk => ?_, fun x y hx hy => ?_⟩
  · by_cases e : k = 1000 * a + b
    · exact ⟨mk, Nat.le_refl _, by rw [e]; exact h1⟩
    · rw [h2 k e]; exact h.1 k hk
  · by_cases e : 1000 * x + y = 1000 * a + b
    · obtain rfl : x = a := by omega
      obtain rfl : y = b := by omega
      rw [h1]
      exact ⟨fun _ => List.mem_cons_self, fun _ => rfl⟩
    · rw [h2 _ e, h.2 x y hx hy, List.mem_cons]
      refine ⟨fun q => Or.inr q, fun q => ?_⟩
      rcases q with q | q
      · injection q with q1 q2
        omega
      · exact q
/-- a big a marks nothing -/
theorem MK.big {f : Nat → Int32} {mk a b : Nat} {cm : List (Nat × Nat)} (h : MK f mk cm) (ha : 20 ≤ a) : MK f mk ((a, b) :: cm) := by
  refine ⟨h.1, fun x y hx hy => ?_⟩
  rw [h.2 x y hx hy, List.mem_cons]
  refine ⟨fun q => Or.inr q, fun q => ?_⟩
  rcases q with q | q
  · injection q with q1 q2
    omega
  · exact q
def CMr (S : St) (w : List Nat) (m : Mc) (s st K : Nat) : Prop :=
  S.1 6 1 = zI w.length ∧ Held (S.1 7) 0 w ∧ S.1 6 2 = zI m.2.2.1 ∧ S.1 6 3 = zI m.1 ∧ S.1 6 4 = zI m.2.1 ∧ S.1 6 5 = zI s ∧ S.1 6 6 = zI st ∧ S.1 6 8 = zI m.2.2.2.1.length ∧ Held (S.1 8) 0 m.2.2.2.1 ∧ S.1 6 10 = zI (K + m.2.2.2.1.length : Nat) ∧ MK (S.1 9) (K + m.2.2.2.1.length) m.2.2.2.2
theorem hb_ok {S : St} {a b mk : Nat} {cm : List (Nat × Nat)} (ha : a < 1000) (hb : b < 1000) (h3 : S.1 6 3 = zI a) (h4 : S.1 6 4 = zI b) (h10 : S.1 6 10 = zI mk) (hm : MK (S.1 9) mk cm) : ∃ S2, f4_wasHereBefore S = some (bI (a < 20 ∧ (a, b) ∈ cm), S2) ∧ MK (S2.1 9) mk ((a, b) :: cm) ∧ Same (fun c _ => c = 9) S S2 := by
  by_cases e : a < 20
  · have hs : Same (fun c _ => c = 9) S (wI S 9 (1000 * a + b) (zI mk)) := Same.rfl'.wI rfl
    have hk := hm.2 a b e hb
    have ht : ((a : Int) * ((1000 : Nat) : Int) + (b : Int)).toNat = 1000 * a + b := by omega
    refine ⟨wI S 9 (1000 * a + b) (zI mk), ?_, hm.add e hb rd_same (fun k hk => rd_ne (by omega)), hs⟩
    by_cases q : (a, b) ∈ cm
    · rw [bI_t ⟨e, q⟩]
      unfold f4_wasHereBefore
      simp (disch := omega) only [h3, h4, nI_z, zI_add, zI_sub, zI_mul, zI_m1, ckI_z, zI_clamp, Int.toNat_natCast, bnd_some, lt, rd_same, rd_ne, rdL_same, rdL_ne, wI_2, wL_1, if_true, if_false, iT_lt, iF_lt, iT_lt0, iF_lt0, iT_0lt, iF_0lt, iT_le, iF_le, iT_le0, iF_le0, iT_0le, iF_0le, iT_eq, iF_eq, iT_eq0, iF_eq0]
      rw [ht, hk.mpr q, h10, if_pos rfl]
      unfold f4_wasHereBefore_j67
      simp (disch := omega) only [ckB_n1, ht, h10, nI_z, zI_add, zI_sub, zI_mul, zI_m1, ckI_z, zI_clamp, Int.toNat_natCast, bnd_some, lt, rd_same, rd_ne, rdL_same, rdL_ne, wI_2, wL_1, if_true, if_false, iT_lt, iF_lt, iT_lt0, iF_lt0, iT_0lt, iF_0lt, iT_le, iF_le, iT_le0, iF_le0, iT_0le, iF_0le, iT_eq, iF_eq, iT_eq0, iF_eq0]
      rfl
    · rw [bI_f (fun z => q z.2)]
      unfold f4_wasHereBefore
      simp (disch := omega) only [h3, h4, nI_z, zI_add, zI_sub, zI_mul, zI_m1, ckI_z, zI_clamp, Int.toNat_natCast, bnd_some, lt, rd_same, rd_ne, rdL_same, rdL_ne, wI_2, wL_1, if_true, if_false, iT_lt, iF_lt, iT_lt0, iF_lt0, iT_0lt, iF_0lt, iT_le, iF_le, iT_le0, iF_le0, iT_0le, iF_0le, iT_eq, iF_eq, iT_eq0, iF_eq0]
      rw [ht, h10, if_neg (fun z => q (hk.mp z))]
      unfold f4_wasHereBefore_j67
      simp (disch := omega) only [ckB_n0, ht, h10, nI_z, zI_add, zI_sub, zI_mul, zI_m1, ckI_z, zI_clamp, Int.toNat_natCast, bnd_some, lt, rd_same, rd_ne, rdL_same, rdL_ne, wI_2, wL_1, if_true, if_false, iT_lt, iF_lt, iT_lt0, iF_lt0, iT_0lt, iF_0lt, iT_le, iF_le, iT_le0, iF_le0, iT_0le, iF_0le, iT_eq, iF_eq, iT_eq0, iF_eq0]
      rfl
  · refine ⟨S, ?_, hm.big (by omega), Same.rfl'⟩
    rw [bI_f (fun z => e z.1)]
    unfold f4_wasHereBefore
    simp (disch := omega) only [h3, nI_z, zI_add, zI_sub, zI_mul, zI_m1, ckI_z, zI_clamp, Int.toNat_natCast, bnd_some, lt, rd_same, rd_ne, rdL_same, rdL_ne, wI_2, wL_1, if_true, if_false, iT_lt, iF_lt, iT_lt0, iF_lt0, iT_0lt, iF_0lt, iT_le, iF_le, iT_le0, iF_le0, iT_0le, iF_0le, iT_eq, iF_eq, iT_eq0, iF_eq0]
    rfl
theorem sw_t {β : Type} {a b : Int} {X : Option β} {l : List (Int32 × Option β)} {d : Option β} (h : a = b) : sw (zI a) ((zI b, X) :: l) d = X := by unfold sw; rw [if_pos (congrArg zI h)]
theorem sw_f {β : Type} {a b : Int} {X : Option β} {l : List (Int32 × Option β)} {d : Option β} (h : -2147483648 ≤ a ∧ a < 2147483648 ∧ -2147483648 ≤ b ∧ b < 2147483648 ∧ (a < b ∨ b < a)) : sw (zI a) ((zI b, X) :: l) d = sw (zI a) l d := by
  conv => lhs; unfold sw
  exact if_neg (fun q => by have := (zI_eq (by omega) (by omega)).mp q; omega)
theorem sw_n {β : Type} {x : Int32} {d : Option β} : sw x [] d = d := rfl
theorem rem1000 (z : Nat) (h : z < 2147483648) : remI (zI z) (zI ((1000 : Nat) : Int)) = zI ((z % 1000 : Nat) : Int) := zI_rem (by omega) (by omega) (by omega)
theorem rem2 (z : Nat) (h : z < 2147483648) : remI (zI z) (zI ((2 : Nat) : Int)) = zI ((z % 2 : Nat) : Int) := zI_rem (by omega) (by omega) (by omega)
theorem CMr.put {S S2 : St} {w : List Nat} {m : Mc} {s st K a b i s2 st2 : Nat} (h : CMr S w m s st K) (hs : Same (fun c _ => c = 6) S S2) (e1 : S2.1 6 1 = S.1 6 1) (e8 : S2.1 6 8 = S.1 6 8) (e10 : S2.1 6 10 = S.1 6 10) (e2 : S2.1 6 2 = zI i) (e3 : S2.1 6 3 = zI a) (e4 : S2.1 6 4 = zI b) (e5 : S2.1 6 5 = zI s2) (e6 : S2.1 6 6 = zI st2) : CMr S2 w (a, b, i, m.2.2.2.1, m.2.2.2.2) s2 st2 K := by
  obtain ⟨h1, h2, h3, h4, h5, h6, h7, h8, h9, h10, h11⟩ := h
  have r : ∀ c, c ≠ 6 → S2.1 c = S.1 c := fun c hc => hs.row (fun k => hc)
  exact ⟨by rw [e1]; exact h1, by rw [r 7 (by omega)]; exact h2, e2, e3, e4, e5, e6, by rw [e8]; exact h8, by rw [r 8 (by omega)]; exact h9, by rw [e10]; exact h10, by rw [r 9 (by omega)]; exact h11⟩
theorem f4_do_lo {S : St} {w : List Nat} {m : Mc} {s K o : Nat} (h : CMr S w m s 2 K) (hm : MIq m) (hi : m.2.2.1 ≤ 47) (ho : o = 0 ∨ o = 1 ∨ o = 2 ∨ o = 4 ∨ o = 5 ∨ o = 7) : ∃ S2, f4_doOrder (zI o) S = some ((), S2) ∧ CMr S2 w (mact o m).1 s (mact o m).2 K ∧ Same mcP S S2 := by
  have h' := h
  obtain ⟨h1, h2, h3, h4, h5, h6, h7, h8, h9, h10, h11⟩ := h
  obtain ⟨m1, m2, m3, m4⟩ := hm
  have six : ∀ S2, Same (fun c _ => c = 6) S S2 → Same mcP S S2 := fun S2 q => q.mono (fun c k e => by unfold mcP; omega)
  have w6 : ∀ (k : Nat) (x : Int32), Same (fun c _ => c = 6) S (wI S 6 k x) := fun k x => Same.rfl'.wI rfl
  rcases ho with rfl | rfl | rfl | rfl | rfl | rfl
  · have hs := (w6 2 (zI (m.2.2.1 + ((1 : Nat) : Int)))).wI (a := 6) (k := 6) (x := zI ((0 : Nat) : Int)) rfl
    refine ⟨_, ?_, CMr.put h' hs ?_ ?_ ?_ ?_ ?_ ?_ ?_ ?_, six _ hs⟩
    · unfold f4_doOrder
      simp (disch := omega) only [h3, sw_t, sw_f, sw_n, nI_z, zI_add, zI_sub, zI_mul, zI_m1, ckI_z, zI_clamp, Int.toNat_natCast, bnd_some, lt, rd_same, rd_ne, rdL_same, rdL_ne, wI_2, wL_1, if_true, if_false, iT_lt, iF_lt, iT_lt0, iF_lt0, iT_0lt, iF_0lt, iT_le, iF_le, iT_le0, iF_le0, iT_0le, iF_0le, iT_eq, iF_eq, iT_eq0, iF_eq0]
    all_goals simp (disch := omega) only [h1, h3, h4, h5, h6, h7, h8, h10, nI_z, zI_add, zI_sub, zI_mul, zI_m1, ckI_z, zI_clamp, Int.toNat_natCast, bnd_some, lt, rd_same, rd_ne, rdL_same, rdL_ne, wI_2, wL_1, if_true, if_false, iT_lt, iF_lt, iT_lt0, iF_lt0, iT_0lt, iF_0lt, iT_le, iF_le, iT_le0, iF_le0, iT_0le, iF_0le, iT_eq, iF_eq, iT_eq0, iF_eq0]
    all_goals rfl
  · have hs := (w6 2 (zI (m.2.2.1 + ((1 : Nat) : Int)))).wI (a := 6) (k := 3) (x := zI (((m.1 + 1) % 1000 : Nat) : Int)) rfl
    have hr : remI (zI ((m.1 : Int) + ((1 : Nat) : Int))) (zI ((1000 : Nat) : Int)) = zI (((m.1 + 1) % 1000 : Nat) : Int) := rem1000 (m.1 + 1) (by omega)
    refine ⟨_, ?_, CMr.put h' hs ?_ ?_ ?_ ?_ ?_ ?_ ?_ ?_, six _ hs⟩
    · unfold f4_doOrder
      simp (disch := omega) only [h3, h4, sw_t, sw_f, sw_n, hr, nI_z, zI_add, zI_sub, zI_mul, zI_m1, ckI_z, zI_clamp, Int.toNat_natCast, bnd_some, lt, rd_same, rd_ne, rdL_same, rdL_ne, wI_2, wL_1, if_true, if_false, iT_lt, iF_lt, iT_lt0, iF_lt0, iT_0lt, iF_0lt, iT_le, iF_le, iT_le0, iF_le0, iT_0le, iF_0le, iT_eq, iF_eq, iT_eq0, iF_eq0]
    all_goals simp (disch := omega) only [h1, h3, h4, h5, h6, h7, h8, h10, nI_z, zI_add, zI_sub, zI_mul, zI_m1, ckI_z, zI_clamp, Int.toNat_natCast, bnd_some, lt, rd_same, rd_ne, rdL_same, rdL_ne, wI_2, wL_1, if_true, if_false, iT_lt, iF_lt, iT_lt0, iF_lt0, iT_0lt, iF_0lt, iT_le, iF_le, iT_le0, iF_le0, iT_0le, iF_0le, iT_eq, iF_eq, iT_eq0, iF_eq0]
    all_goals rfl
  · have hs := (w6 2 (zI (m.2.2.1 + ((1 : Nat) : Int)))).wI (a := 6) (k := 3) (x := zI ((m.1 * 2 % 1000 : Nat) : Int)) rfl
    have hr : remI (zI ((m.1 : Int) * ((2 : Nat) : Int))) (zI ((1000 : Nat) : Int)) = zI ((m.1 * 2 % 1000 : Nat) : Int) := rem1000 (m.1 * 2) (by omega)
    refine ⟨_, ?_, CMr.put h' hs ?_ ?_ ?_ ?_ ?_ ?_ ?_ ?_, six _ hs⟩
    · unfold f4_doOrder
      simp (disch := omega) only [h3, h4, sw_t, sw_f, sw_n, hr, nI_z, zI_add, zI_sub, zI_mul, zI_m1, ckI_z, zI_clamp, Int.toNat_natCast, bnd_some, lt, rd_same, rd_ne, rdL_same, rdL_ne, wI_2, wL_1, if_true, if_false, iT_lt, iF_lt, iT_lt0, iF_lt0, iT_0lt, iF_0lt, iT_le, iF_le, iT_le0, iF_le0, iT_0le, iF_0le, iT_eq, iF_eq, iT_eq0, iF_eq0]
    all_goals simp (disch := omega) only [h1, h3, h4, h5, h6, h7, h8, h10, nI_z, zI_add, zI_sub, zI_mul, zI_m1, ckI_z, zI_clamp, Int.toNat_natCast, bnd_some, lt, rd_same, rd_ne, rdL_same, rdL_ne, wI_2, wL_1, if_true, if_false, iT_lt, iF_lt, iT_lt0, iF_lt0, iT_0lt, iF_0lt, iT_le, iF_le, iT_le0, iF_le0, iT_0le, iF_0le, iT_eq, iF_eq, iT_eq0, iF_eq0]
    all_goals rfl
  · have hs := ((w6 2 (zI (m.2.2.1 + ((1 : Nat) : Int)))).wI (a := 6) (k := 3) (x := zI m.2.1) rfl).wI (a := 6) (k := 4) (x := zI m.1) rfl
    refine ⟨_, ?_, CMr.put h' hs ?_ ?_ ?_ ?_ ?_ ?_ ?_ ?_, six _ hs⟩
    · unfold f4_doOrder
      simp (disch := omega) only [h3, h4, h5, sw_t, sw_f, sw_n, f4_swap, nI_z, zI_add, zI_sub, zI_mul, zI_m1, ckI_z, zI_clamp, Int.toNat_natCast, bnd_some, lt, rd_same, rd_ne, rdL_same, rdL_ne, wI_2, wL_1, if_true, if_false, iT_lt, iF_lt, iT_lt0, iF_lt0, iT_0lt, iF_0lt, iT_le, iF_le, iT_le0, iF_le0, iT_0le, iF_0le, iT_eq, iF_eq, iT_eq0, iF_eq0]
    all_goals simp (disch := omega) only [h1, h3, h4, h5, h6, h7, h8, h10, nI_z, zI_add, zI_sub, zI_mul, zI_m1, ckI_z, zI_clamp, Int.toNat_natCast, bnd_some, lt, rd_same, rd_ne, rdL_same, rdL_ne, wI_2, wL_1, if_true, if_false, iT_lt, iF_lt, iT_lt0, iF_lt0, iT_0lt, iF_0lt, iT_le, iF_le, iT_le0, iF_le0, iT_0le, iF_0le, iT_eq, iF_eq, iT_eq0, iF_eq0]
    all_goals rfl
  · have hs := (w6 2 (zI (m.2.2.1 + ((1 : Nat) : Int)))).wI (a := 6) (k := 3) (x := zI (((m.1 + m.2.1) % 1000 : Nat) : Int)) rfl
    have hr : remI (zI ((m.1 : Int) + (m.2.1 : Int))) (zI ((1000 : Nat) : Int)) = zI (((m.1 + m.2.1) % 1000 : Nat) : Int) := rem1000 (m.1 + m.2.1) (by omega)
    refine ⟨_, ?_, CMr.put h' hs ?_ ?_ ?_ ?_ ?_ ?_ ?_ ?_, six _ hs⟩
    · unfold f4_doOrder
      simp (disch := omega) only [h3, h4, h5, sw_t, sw_f, sw_n, hr, nI_z, zI_add, zI_sub, zI_mul, zI_m1, ckI_z, zI_clamp, Int.toNat_natCast, bnd_some, lt, rd_same, rd_ne, rdL_same, rdL_ne, wI_2, wL_1, if_true, if_false, iT_lt, iF_lt, iT_lt0, iF_lt0, iT_0lt, iF_0lt, iT_le, iF_le, iT_le0, iF_le0, iT_0le, iF_0le, iT_eq, iF_eq, iT_eq0, iF_eq0]
    all_goals simp (disch := omega) only [h1, h3, h4, h5, h6, h7, h8, h10, nI_z, zI_add, zI_sub, zI_mul, zI_m1, ckI_z, zI_clamp, Int.toNat_natCast, bnd_some, lt, rd_same, rd_ne, rdL_same, rdL_ne, wI_2, wL_1, if_true, if_false, iT_lt, iF_lt, iT_lt0, iF_lt0, iT_0lt, iF_0lt, iT_le, iF_le, iT_le0, iF_le0, iT_0le, iF_0le, iT_eq, iF_eq, iT_eq0, iF_eq0]
    all_goals rfl
  · have hs := (w6 2 (zI (m.2.2.1 + ((1 : Nat) : Int)))).wI (a := 6) (k := 2) (x := zI (((m.2.2.1 : Int) + ((1 : Nat) : Int)) + ((m.1 % 2 : Nat) : Int))) rfl
    have hr := rem2 m.1 (by omega)
    refine ⟨_, ?_, CMr.put h' hs ?_ ?_ ?_ ?_ ?_ ?_ ?_ ?_, six _ hs⟩
    · unfold f4_doOrder
      simp (disch := omega) only [h3, h4, h5, sw_t, sw_f, sw_n, hr, nI_z, zI_add, zI_sub, zI_mul, zI_m1, ckI_z, zI_clamp, Int.toNat_natCast, bnd_some, lt, rd_same, rd_ne, rdL_same, rdL_ne, wI_2, wL_1, if_true, if_false, iT_lt, iF_lt, iT_lt0, iF_lt0, iT_0lt, iF_0lt, iT_le, iF_le, iT_le0, iF_le0, iT_0le, iF_0le, iT_eq, iF_eq, iT_eq0, iF_eq0]
    all_goals simp (disch := omega) only [h1, h3, h4, h5, h6, h7, h8, h10, nI_z, zI_add, zI_sub, zI_mul, zI_m1, ckI_z, zI_clamp, Int.toNat_natCast, bnd_some, lt, rd_same, rd_ne, rdL_same, rdL_ne, wI_2, wL_1, if_true, if_false, iT_lt, iF_lt, iT_lt0, iF_lt0, iT_0lt, iF_0lt, iT_le, iF_le, iT_le0, iF_le0, iT_0le, iF_0le, iT_eq, iF_eq, iT_eq0, iF_eq0]
    all_goals rfl
theorem Held.push2 {f f2 : Nat → Int32} {l : List Nat} {x : Nat} (h : Held f 0 l) (h1 : f2 l.length = zI x) (h2 : ∀ k, k < l.length → f2 k = f k) : Held f2 0 (l ++ [x]) := fun i y hi => by
  have hlt : i < l.length + 1 := by
    have := (List.getElem?_eq_some_iff.mp hi).1
    simpa using this
  rw [Nat.zero_add]
  by_cases e : i = l.length
  · subst e
    have : y = x := by simpa [eq_comm] using hi
    rw [h1, this]
  · rw [List.getElem?_append_left (by omega)] at hi
    have := h i y hi
    rw [Nat.zero_add] at this
    rw [h2 i (by omega), this]
theorem f4_do_3 {S : St} {w : List Nat} {m : Mc} {s K : Nat} (hK : K + 9 < 2147483648) (h : CMr S w m s 2 K) (hm : MIq m) (hi : m.2.2.1 ≤ 47) : ∃ S2, f4_doOrder (zI ((3 : Nat) : Int)) S = some ((), S2) ∧ CMr S2 w (mact 3 m).1 s (mact 3 m).2 K ∧ Same mcP S S2 := by
  have h' := h
  obtain ⟨h1, h2, h3, h4, h5, h6, h7, h8, h9, h10, h11⟩ := h
  obtain ⟨m1, m2, m3, m4⟩ := hm
  have e0 : mact 3 m = (if m.2.2.2.1.length = 8 then ((m.1, m.2.1, m.2.2.1 + 1, m.2.2.2.1, m.2.2.2.2), 0) else ((m.1, m.2.1, m.2.2.1 + 1, m.2.2.2.1 ++ [m.1], []), 2)) := rfl
  by_cases e : m.2.2.2.1.length = 8
  · rw [e0, if_pos e]
    have hs : Same (fun c _ => c = 6) S (wI (wI S 6 2 (zI (m.2.2.1 + ((1 : Nat) : Int)))) 6 6 (zI ((0 : Nat) : Int))) := ((Same.rfl' (P := fun c _ => c = 6)).wI rfl).wI rfl
    refine ⟨_, ?_, CMr.put h' hs ?_ ?_ ?_ ?_ ?_ ?_ ?_ ?_, hs.mono (fun c k e => by unfold mcP; omega)⟩
    · unfold f4_doOrder
      simp (disch := omega) only [h3, sw_t, sw_f, sw_n, f4_print, h8, nI_z, zI_add, zI_sub, zI_mul, zI_m1, ckI_z, zI_clamp, Int.toNat_natCast, bnd_some, lt, rd_same, rd_ne, rdL_same, rdL_ne, wI_2, wL_1, if_true, if_false, iT_lt, iF_lt, iT_lt0, iF_lt0, iT_0lt, iF_0lt, iT_le, iF_le, iT_le0, iF_le0, iT_0le, iF_0le, iT_eq, iF_eq, iT_eq0, iF_eq0]
    all_goals simp (disch := omega) only [h1, h3, h4, h5, h6, h7, h8, h10, nI_z, zI_add, zI_sub, zI_mul, zI_m1, ckI_z, zI_clamp, Int.toNat_natCast, bnd_some, lt, rd_same, rd_ne, rdL_same, rdL_ne, wI_2, wL_1, if_true, if_false, iT_lt, iF_lt, iT_lt0, iF_lt0, iT_0lt, iF_0lt, iT_le, iF_le, iT_le0, iF_le0, iT_0le, iF_0le, iT_eq, iF_eq, iT_eq0, iF_eq0]
    all_goals rfl
  · rw [e0, if_neg e]
    have hs : Same mcP S (wI (wI (wI (wI S 6 2 (zI (m.2.2.1 + ((1 : Nat) : Int)))) 8 m.2.2.2.1.length (zI m.1)) 6 8 (zI (m.2.2.2.1.length + ((1 : Nat) : Int)))) 6 10 (zI ((K + m.2.2.2.1.length : Nat) + ((1 : Nat) : Int)))) := (((Same.rfl'.wI (by unfold mcP; omega)).wI (by unfold mcP; omega)).wI (by unfold mcP; omega)).wI (by unfold mcP; omega)
    have hl : (m.2.2.2.1 ++ [m.1]).length = m.2.2.2.1.length + 1 := by simp
    have hmk := h11.new (by omega)
    refine ⟨_, ?_, ⟨?_, ?_, ?_, ?_, ?_, ?_, ?_, ?_, ?_, ?_, ?_⟩, hs⟩
    · unfold f4_doOrder
      simp (disch := omega) only [h3, h4, sw_t, sw_f, sw_n, f4_print, h8, h10, nI_z, zI_add, zI_sub, zI_mul, zI_m1, ckI_z, zI_clamp, Int.toNat_natCast, bnd_some, lt, rd_same, rd_ne, rdL_same, rdL_ne, wI_2, wL_1, if_true, if_false, iT_lt, iF_lt, iT_lt0, iF_lt0, iT_0lt, iF_0lt, iT_le, iF_le, iT_le0, iF_le0, iT_0le, iF_0le, iT_eq, iF_eq, iT_eq0, iF_eq0]
    · simp (disch := omega) only [h1, nI_z, zI_add, zI_sub, zI_mul, zI_m1, ckI_z, zI_clamp, Int.toNat_natCast, bnd_some, lt, rd_same, rd_ne, rdL_same, rdL_ne, wI_2, wL_1, if_true, if_false, iT_lt, iF_lt, iT_lt0, iF_lt0, iT_0lt, iF_0lt, iT_le, iF_le, iT_le0, iF_le0, iT_0le, iF_0le, iT_eq, iF_eq, iT_eq0, iF_eq0]
    · intro i x hx
      simp (disch := omega) only [nI_z, zI_add, zI_sub, zI_mul, zI_m1, ckI_z, zI_clamp, Int.toNat_natCast, bnd_some, lt, rd_same, rd_ne, rdL_same, rdL_ne, wI_2, wL_1, if_true, if_false, iT_lt, iF_lt, iT_lt0, iF_lt0, iT_0lt, iF_0lt, iT_le, iF_le, iT_le0, iF_le0, iT_0le, iF_0le, iT_eq, iF_eq, iT_eq0, iF_eq0]
      exact h2 i x hx
    · simp (disch := omega) only [nI_z, zI_add, zI_sub, zI_mul, zI_m1, ckI_z, zI_clamp, Int.toNat_natCast, bnd_some, lt, rd_same, rd_ne, rdL_same, rdL_ne, wI_2, wL_1, if_true, if_false, iT_lt, iF_lt, iT_lt0, iF_lt0, iT_0lt, iF_0lt, iT_le, iF_le, iT_le0, iF_le0, iT_0le, iF_0le, iT_eq, iF_eq, iT_eq0, iF_eq0]; rfl
    · simp (disch := omega) only [h4, nI_z, zI_add, zI_sub, zI_mul, zI_m1, ckI_z, zI_clamp, Int.toNat_natCast, bnd_some, lt, rd_same, rd_ne, rdL_same, rdL_ne, wI_2, wL_1, if_true, if_false, iT_lt, iF_lt, iT_lt0, iF_lt0, iT_0lt, iF_0lt, iT_le, iF_le, iT_le0, iF_le0, iT_0le, iF_0le, iT_eq, iF_eq, iT_eq0, iF_eq0]
    · simp (disch := omega) only [h5, nI_z, zI_add, zI_sub, zI_mul, zI_m1, ckI_z, zI_clamp, Int.toNat_natCast, bnd_some, lt, rd_same, rd_ne, rdL_same, rdL_ne, wI_2, wL_1, if_true, if_false, iT_lt, iF_lt, iT_lt0, iF_lt0, iT_0lt, iF_0lt, iT_le, iF_le, iT_le0, iF_le0, iT_0le, iF_0le, iT_eq, iF_eq, iT_eq0, iF_eq0]
    · simp (disch := omega) only [h6, nI_z, zI_add, zI_sub, zI_mul, zI_m1, ckI_z, zI_clamp, Int.toNat_natCast, bnd_some, lt, rd_same, rd_ne, rdL_same, rdL_ne, wI_2, wL_1, if_true, if_false, iT_lt, iF_lt, iT_lt0, iF_lt0, iT_0lt, iF_0lt, iT_le, iF_le, iT_le0, iF_le0, iT_0le, iF_0le, iT_eq, iF_eq, iT_eq0, iF_eq0]
    · simp (disch := omega) only [h7, nI_z, zI_add, zI_sub, zI_mul, zI_m1, ckI_z, zI_clamp, Int.toNat_natCast, bnd_some, lt, rd_same, rd_ne, rdL_same, rdL_ne, wI_2, wL_1, if_true, if_false, iT_lt, iF_lt, iT_lt0, iF_lt0, iT_0lt, iF_0lt, iT_le, iF_le, iT_le0, iF_le0, iT_0le, iF_0le, iT_eq, iF_eq, iT_eq0, iF_eq0]
    · rw [hl]; simp (disch := omega) only [nI_z, zI_add, zI_sub, zI_mul, zI_m1, ckI_z, zI_clamp, Int.toNat_natCast, bnd_some, lt, rd_same, rd_ne, rdL_same, rdL_ne, wI_2, wL_1, if_true, if_false, iT_lt, iF_lt, iT_lt0, iF_lt0, iT_0lt, iF_0lt, iT_le, iF_le, iT_le0, iF_le0, iT_0le, iF_0le, iT_eq, iF_eq, iT_eq0, iF_eq0]; rfl
    · refine h9.push2 ?_ (fun k hk => ?_)
      · simp (disch := omega) only [nI_z, zI_add, zI_sub, zI_mul, zI_m1, ckI_z, zI_clamp, Int.toNat_natCast, bnd_some, lt, rd_same, rd_ne, rdL_same, rdL_ne, wI_2, wL_1, if_true, if_false, iT_lt, iF_lt, iT_lt0, iF_lt0, iT_0lt, iF_0lt, iT_le, iF_le, iT_le0, iF_le0, iT_0le, iF_0le, iT_eq, iF_eq, iT_eq0, iF_eq0]
      · simp (disch := omega) only [nI_z, zI_add, zI_sub, zI_mul, zI_m1, ckI_z, zI_clamp, Int.toNat_natCast, bnd_some, lt, rd_same, rd_ne, rdL_same, rdL_ne, wI_2, wL_1, if_true, if_false, iT_lt, iF_lt, iT_lt0, iF_lt0, iT_0lt, iF_0lt, iT_le, iF_le, iT_le0, iF_le0, iT_0le, iF_0le, iT_eq, iF_eq, iT_eq0, iF_eq0]
    · rw [hl]; simp (disch := omega) only [nI_z, zI_add, zI_sub, zI_mul, zI_m1, ckI_z, zI_clamp, Int.toNat_natCast, bnd_some, lt, rd_same, rd_ne, rdL_same, rdL_ne, wI_2, wL_1, if_true, if_false, iT_lt, iF_lt, iT_lt0, iF_lt0, iT_0lt, iF_0lt, iT_le, iF_le, iT_le0, iF_le0, iT_0le, iF_0le, iT_eq, iF_eq, iT_eq0, iF_eq0]; rfl
    · show MK _ (K + (m.2.2.2.1 ++ [m.1]).length) []
      rw [hl, ← Nat.add_assoc]
      have : (wI (wI (wI (wI S 6 2 (zI (m.2.2.1 + ((1 : Nat) : Int)))) 8 m.2.2.2.1.length (zI m.1)) 6 8 (zI (m.2.2.2.1.length + ((1 : Nat) : Int)))) 6 10 (zI ((K + m.2.2.2.1.length : Nat) + ((1 : Nat) : Int)))).1 9 = S.1 9 := funext fun k => by simp (disch := omega) only [nI_z, zI_add, zI_sub, zI_mul, zI_m1, ckI_z, zI_clamp, Int.toNat_natCast, bnd_some, lt, rd_same, rd_ne, rdL_same, rdL_ne, wI_2, wL_1, if_true, if_false, iT_lt, iF_lt, iT_lt0, iF_lt0, iT_0lt, iF_0lt, iT_le, iF_le, iT_le0, iF_le0, iT_0le, iF_0le, iT_eq, iF_eq, iT_eq0, iF_eq0]
      rw [this]
      exact hmk
theorem f4_do_6 {S : St} {w : List Nat} {m : Mc} {s K : Nat} (h : CMr S w m s 2 K) (hm : MIq m) (hi : m.2.2.1 ≤ 47) : ∃ S2, f4_doOrder (zI ((6 : Nat) : Int)) S = some ((), S2) ∧ CMr S2 w (mact 6 m).1 s (mact 6 m).2 K ∧ Same mcP S S2 := by
  have h' := h
  obtain ⟨h1, h2, h3, h4, h5, h6, h7, h8, h9, h10, h11⟩ := h
  obtain ⟨m1, m2, m3, m4⟩ := hm
  have e0 : mact 6 m = (if m.1 < 20 then ((m.1, m.2.1, 0, m.2.2.2.1, (m.1, m.2.1) :: m.2.2.2.2), if (m.1, m.2.1) ∈ m.2.2.2.2 then 1 else 2) else ((m.1, m.2.1, m.2.2.1 + 1, m.2.2.2.1, m.2.2.2.2), 2)) := rfl
  by_cases e : m.1 < 20
  · rw [e0, if_pos e]
    have hs : Same (fun c _ => c = 6) S (wI (wI S 6 2 (zI (m.2.2.1 + ((1 : Nat) : Int)))) 6 2 (zI ((0 : Nat) : Int))) := ((Same.rfl' (P := fun c _ => c = 6)).wI rfl).wI rfl
    have k : CMr (wI (wI S 6 2 (zI (m.2.2.1 + ((1 : Nat) : Int)))) 6 2 (zI ((0 : Nat) : Int))) w (m.1, m.2.1, 0, m.2.2.2.1, m.2.2.2.2) s 2 K := by
      refine CMr.put h' hs ?_ ?_ ?_ ?_ ?_ ?_ ?_ ?_
      all_goals simp (disch := omega) only [h1, h3, h4, h5, h6, h7, h8, h10, nI_z, zI_add, zI_sub, zI_mul, zI_m1, ckI_z, zI_clamp, Int.toNat_natCast, bnd_some, lt, rd_same, rd_ne, rdL_same, rdL_ne, wI_2, wL_1, if_true, if_false, iT_lt, iF_lt, iT_lt0, iF_lt0, iT_0lt, iF_0lt, iT_le, iF_le, iT_le0, iF_le0, iT_0le, iF_0le, iT_eq, iF_eq, iT_eq0, iF_eq0]
    generalize hS1 : wI (wI S 6 2 (zI (m.2.2.1 + ((1 : Nat) : Int)))) 6 2 (zI ((0 : Nat) : Int)) = S1 at hs k
    obtain ⟨k1, k2, k3, k4, k5, k6, k7, k8, k9, k10, k11⟩ := k
    obtain ⟨S2, b1, b2, b3⟩ := hb_ok m1 m2 k4 k5 k10 k11
    have r : ∀ c, c ≠ 9 → S2.1 c = S1.1 c := fun c hc => b3.row (fun k => hc)
    have r6 := r 6 (by omega)
    have kk : CMr S2 w (m.1, m.2.1, 0, m.2.2.2.1, (m.1, m.2.1) :: m.2.2.2.2) s 2 K := ⟨by rw [r6]; exact k1, by rw [r 7 (by omega)]; exact k2, by rw [r6]; exact k3, by rw [r6]; exact k4, by rw [r6]; exact k5, by rw [r6]; exact k6, by rw [r6]; exact k7, by rw [r6]; exact k8, by rw [r 8 (by omega)]; exact k9, by rw [r6]; exact k10, b2⟩
    have hs2 : Same mcP S S2 := (hs.mono (fun c k e => by unfold mcP; omega)).tr (b3.mono (fun c k e => by unfold mcP; omega))
    by_cases q : (m.1, m.2.1) ∈ m.2.2.2.2
    · rw [if_pos q]
      have hs3 : Same (fun c _ => c = 6) S2 (wI S2 6 6 (zI ((1 : Nat) : Int))) := Same.rfl'.wI rfl
      obtain ⟨l1, l2, l3, l4, l5, l6, l7, l8, l9, l10, l11⟩ := kk
      refine ⟨_, ?_, CMr.put (m := (m.1, m.2.1, 0, m.2.2.2.1, (m.1, m.2.1) :: m.2.2.2.2)) ⟨l1, l2, l3, l4, l5, l6, l7, l8, l9, l10, l11⟩ hs3 ?_ ?_ ?_ ?_ ?_ ?_ ?_ ?_, hs2.tr (hs3.mono (fun c k e => by unfold mcP; omega))⟩
      · unfold f4_doOrder
        simp (disch := omega) only [h3, h4, sw_t, sw_f, sw_n, f4_goBack, nI_z, zI_add, zI_sub, zI_mul, zI_m1, ckI_z, zI_clamp, Int.toNat_natCast, bnd_some, lt, rd_same, rd_ne, rdL_same, rdL_ne, wI_2, wL_1, if_true, if_false, iT_lt, iF_lt, iT_lt0, iF_lt0, iT_0lt, iF_0lt, iT_le, iF_le, iT_le0, iF_le0, iT_0le, iF_0le, iT_eq, iF_eq, iT_eq0, iF_eq0]
        rw [hS1, b1]
        simp only [bnd_some]
        rw [iF_b ⟨e, q⟩]
        rfl
      all_goals simp (disch := omega) only [l1, l3, l4, l5, l6, l7, l8, l10, nI_z, zI_add, zI_sub, zI_mul, zI_m1, ckI_z, zI_clamp, Int.toNat_natCast, bnd_some, lt, rd_same, rd_ne, rdL_same, rdL_ne, wI_2, wL_1, if_true, if_false, iT_lt, iF_lt, iT_lt0, iF_lt0, iT_0lt, iF_0lt, iT_le, iF_le, iT_le0, iF_le0, iT_0le, iF_0le, iT_eq, iF_eq, iT_eq0, iF_eq0]
    · rw [if_neg q]
      refine ⟨S2, ?_, kk, hs2⟩
      unfold f4_doOrder
      simp (disch := omega) only [h3, h4, sw_t, sw_f, sw_n, f4_goBack, nI_z, zI_add, zI_sub, zI_mul, zI_m1, ckI_z, zI_clamp, Int.toNat_natCast, bnd_some, lt, rd_same, rd_ne, rdL_same, rdL_ne, wI_2, wL_1, if_true, if_false, iT_lt, iF_lt, iT_lt0, iF_lt0, iT_0lt, iF_0lt, iT_le, iF_le, iT_le0, iF_le0, iT_0le, iF_0le, iT_eq, iF_eq, iT_eq0, iF_eq0]
      rw [hS1, b1]
      simp only [bnd_some]
      rw [iT_b (fun z => q z.2)]
      rfl
  · rw [e0, if_neg e]
    have hs : Same (fun c _ => c = 6) S (wI S 6 2 (zI (m.2.2.1 + ((1 : Nat) : Int)))) := Same.rfl'.wI rfl
    refine ⟨_, ?_, CMr.put h' hs ?_ ?_ ?_ ?_ ?_ ?_ ?_ ?_, hs.mono (fun c k e => by unfold mcP; omega)⟩
    · unfold f4_doOrder
      simp (disch := omega) only [h3, h4, sw_t, sw_f, sw_n, f4_goBack, nI_z, zI_add, zI_sub, zI_mul, zI_m1, ckI_z, zI_clamp, Int.toNat_natCast, bnd_some, lt, rd_same, rd_ne, rdL_same, rdL_ne, wI_2, wL_1, if_true, if_false, iT_lt, iF_lt, iT_lt0, iF_lt0, iT_0lt, iF_0lt, iT_le, iF_le, iT_le0, iF_le0, iT_0le, iF_0le, iT_eq, iF_eq, iT_eq0, iF_eq0]
    all_goals simp (disch := omega) only [h1, h3, h4, h5, h6, h7, h8, h10, nI_z, zI_add, zI_sub, zI_mul, zI_m1, ckI_z, zI_clamp, Int.toNat_natCast, bnd_some, lt, rd_same, rd_ne, rdL_same, rdL_ne, wI_2, wL_1, if_true, if_false, iT_lt, iF_lt, iT_lt0, iF_lt0, iT_0lt, iF_0lt, iT_le, iF_le, iT_le0, iF_le0, iT_0le, iF_0le, iT_eq, iF_eq, iT_eq0, iF_eq0]
    all_goals rfl
theorem f4_doOrder_ok {S : St} {w : List Nat} {m : Mc} {s K o : Nat} (hK : K + 9 < 2147483648) (h : CMr S w m s 2 K) (hm : MIq m) (hi : m.2.2.1 ≤ 47) (ho : o < 8) : ∃ S2, f4_doOrder (zI o) S = some ((), S2) ∧ CMr S2 w (mact o m).1 s (mact o m).2 K ∧ Same mcP S S2 := by
  by_cases e3 : o = 3
  · subst e3; exact f4_do_3 hK h hm hi
  · by_cases e6 : o = 6
    · subst e6; exact f4_do_6 h hm hi
    · exact f4_do_lo h hm hi (by omega)
theorem CMr.st {S : St} {w : List Nat} {m : Mc} {s st K : Nat} (h : CMr S w m s st K) (s2 st2 : Nat) : CMr (wI (wI S 6 5 (zI s2)) 6 6 (zI st2)) w m s2 st2 K := by
  have h' := h
  obtain ⟨h1, h2, h3, h4, h5, h6, h7, h8, h9, h10, h11⟩ := h
  have hs : Same (fun c _ => c = 6) S (wI (wI S 6 5 (zI s2)) 6 6 (zI st2)) := ((Same.rfl' (P := fun c _ => c = 6)).wI rfl).wI rfl
  refine CMr.put h' hs ?_ ?_ ?_ ?_ ?_ ?_ ?_ ?_
  all_goals simp (disch := omega) only [h1, h3, h4, h5, h6, h7, h8, h10, nI_z, zI_add, zI_sub, zI_mul, zI_m1, ckI_z, zI_clamp, Int.toNat_natCast, bnd_some, lt, rd_same, rd_ne, rdL_same, rdL_ne, wI_2, wL_1, if_true, if_false, iT_lt, iF_lt, iT_lt0, iF_lt0, iT_0lt, iF_0lt, iT_le, iF_le, iT_le0, iF_le0, iT_0le, iF_0le, iT_eq, iF_eq, iT_eq0, iF_eq0]
theorem CMr.st5 {S : St} {w : List Nat} {m : Mc} {s st K : Nat} (h : CMr S w m s st K) (s2 : Nat) : CMr (wI S 6 5 (zI s2)) w m s2 st K := by
  have h' := h
  obtain ⟨h1, h2, h3, h4, h5, h6, h7, h8, h9, h10, h11⟩ := h
  have hs : Same (fun c _ => c = 6) S (wI S 6 5 (zI s2)) := (Same.rfl' (P := fun c _ => c = 6)).wI rfl
  refine CMr.put h' hs ?_ ?_ ?_ ?_ ?_ ?_ ?_ ?_
  all_goals simp (disch := omega) only [h1, h3, h4, h5, h6, h7, h8, h10, nI_z, zI_add, zI_sub, zI_mul, zI_m1, ckI_z, zI_clamp, Int.toNat_natCast, bnd_some, lt, rd_same, rd_ne, rdL_same, rdL_ne, wI_2, wL_1, if_true, if_false, iT_lt, iF_lt, iT_lt0, iF_lt0, iT_0lt, iF_0lt, iT_le, iF_le, iT_le0, iF_le0, iT_0le, iF_0le, iT_eq, iF_eq, iT_eq0, iF_eq0]
theorem CMr.st6 {S : St} {w : List Nat} {m : Mc} {s st K : Nat} (h : CMr S w m s st K) (st2 : Nat) : CMr (wI S 6 6 (zI st2)) w m s st2 K := by
  have h' := h
  obtain ⟨h1, h2, h3, h4, h5, h6, h7, h8, h9, h10, h11⟩ := h
  have hs : Same (fun c _ => c = 6) S (wI S 6 6 (zI st2)) := (Same.rfl' (P := fun c _ => c = 6)).wI rfl
  refine CMr.put h' hs ?_ ?_ ?_ ?_ ?_ ?_ ?_ ?_
  all_goals simp (disch := omega) only [h1, h3, h4, h5, h6, h7, h8, h10, nI_z, zI_add, zI_sub, zI_mul, zI_m1, ckI_z, zI_clamp, Int.toNat_natCast, bnd_some, lt, rd_same, rd_ne, rdL_same, rdL_ne, wI_2, wL_1, if_true, if_false, iT_lt, iF_lt, iT_lt0, iF_lt0, iT_0lt, iF_0lt, iT_le, iF_le, iT_le0, iF_le0, iT_0le, iF_0le, iT_eq, iF_eq, iT_eq0, iF_eq0]
theorem f4_goOn_loop {N K t : Nat} {w : List Nat} (hK : K + 9 < 2147483648) (ht : t < 100000) (hw : w.length ≤ 48) (hx : ∀ x ∈ w, x < 8) : ∀ (t' n : Nat) (S : St) (m : Mc) (s : Nat), CMr S w m s 2 K → MIq m → m.2.2.1 < w.length → s + t' = t → t' < n →
    ∃ S2, f4_goOn_h0 N (zI t) n S = some ((), S2) ∧ CMr S2 w (mgo w t' m s).1 (mgo w t' m s).2.1 (mgo w t' m s).2.2 K ∧ Same mcP S S2 := by
  intro t'
  induction t' with
  | zero =>
    intro n S m s h hm hi hs hn
    obtain ⟨n, rfl⟩ : ∃ z, n = z + 1 := ⟨n - 1, by omega⟩
    refine ⟨S, ?_, h, Same.rfl'⟩
    have h6 := h.2.2.2.2.2.1
    rw [f4_goOn_h0]
    simp (disch := omega) only [h6, nI_z, zI_add, zI_sub, zI_mul, zI_m1, ckI_z, zI_clamp, Int.toNat_natCast, bnd_some, lt, rd_same, rd_ne, rdL_same, rdL_ne, wI_2, wL_1, if_true, if_false, iT_lt, iF_lt, iT_lt0, iF_lt0, iT_0lt, iF_0lt, iT_le, iF_le, iT_le0, iF_le0, iT_0le, iF_0le, iT_eq, iF_eq, iT_eq0, iF_eq0]
  | succ t' ih =>
    intro n S m s h hm hi hs hn
    obtain ⟨n, rfl⟩ : ∃ z, n = z + 1 := ⟨n - 1, by omega⟩
    have h2 := h.2.1
    have h3 := h.2.2.1
    have h6 := h.2.2.2.2.2.1
    have h7 := h.2.2.2.2.2.2.1
    have hr : w[m.2.2.1]? = some w[m.2.2.1] := List.getElem?_eq_getElem hi
    have hgd : w.getD m.2.2.1 0 = w[m.2.2.1] := by rw [List.getD_eq_getElem?_getD, hr]; rfl
    have ho := hx _ (List.getElem_mem hi)
    have h4 := h2 _ _ hr
    rw [Nat.zero_add] at h4
    rw [← hgd] at h4 ho
    have hMI := mact_MI (o := w.getD m.2.2.1 0) hm
    have hst := mstep_MI (w := w) hm
    have hms : mstep w m = ((mact (w.getD m.2.2.1 0) m).1, if (mact (w.getD m.2.2.1 0) m).2 = 2 ∧ w.length ≤ (mact (w.getD m.2.2.1 0) m).1.2.2.1 then 0 else (mact (w.getD m.2.2.1 0) m).2) := rfl
    rw [mgo_s]
    generalize w.getD m.2.2.1 0 = o at h4 ho hMI hms
    obtain ⟨S1, a1, a2, a3⟩ := f4_doOrder_ok hK (h.st5 (s + 1)) hm (by omega) ho
    have hs1 : Same mcP S S1 := ((Same.rfl' (P := mcP)).wI (by unfold mcP; omega)).tr a3
    have a7 := a2.2.2.2.2.2.2.1
    have a31 := a2.2.2.1
    have a11 := a2.1
    have hz : zI ((s : Int) + ((1 : Nat) : Int)) = zI ((s + 1 : Nat) : Int) := rfl
    have fin : ∀ (S2 : St) (st : Nat), CMr S2 w (mact o m).1 (s + 1) st K → st ≠ 2 → st ≤ 2 → f4_goOn_h0 N (zI t) n S2 = some ((), S2) := fun S2 st q q2 q3 => by
      obtain ⟨n, rfl⟩ : ∃ z, n = z + 1 := ⟨n - 1, by omega⟩
      have q6 := q.2.2.2.2.2.1
      have q7 := q.2.2.2.2.2.2.1
      rw [f4_goOn_h0]
      by_cases e : t ≤ s + 1
      · simp (disch := omega) only [q6, nI_z, zI_add, zI_sub, zI_mul, zI_m1, ckI_z, zI_clamp, Int.toNat_natCast, bnd_some, lt, rd_same, rd_ne, rdL_same, rdL_ne, wI_2, wL_1, if_true, if_false, iT_lt, iF_lt, iT_lt0, iF_lt0, iT_0lt, iF_0lt, iT_le, iF_le, iT_le0, iF_le0, iT_0le, iF_0le, iT_eq, iF_eq, iT_eq0, iF_eq0]
      · simp (disch := omega) only [q6, q7, nI_z, zI_add, zI_sub, zI_mul, zI_m1, ckI_z, zI_clamp, Int.toNat_natCast, bnd_some, lt, rd_same, rd_ne, rdL_same, rdL_ne, wI_2, wL_1, if_true, if_false, iT_lt, iF_lt, iT_lt0, iF_lt0, iT_0lt, iF_0lt, iT_le, iF_le, iT_le0, iF_le0, iT_0le, iF_0le, iT_eq, iF_eq, iT_eq0, iF_eq0]
    rw [hms]
    by_cases c2 : (mact o m).2 = 2
    · by_cases c : w.length ≤ (mact o m).1.2.2.1
      · have e2 : (if (mact o m).2 = 2 ∧ w.length ≤ (mact o m).1.2.2.1 then 0 else (mact o m).2) = 0 := if_pos ⟨c2, c⟩
        rw [e2, if_neg (by omega)]
        have b := a2.st6 0
        refine ⟨wI S1 6 6 (zI ((0 : Nat) : Int)), ?_, b, hs1.wI (by unfold mcP; omega)⟩
        rw [c2] at a7
        rw [f4_goOn_h0]
        simp (disch := omega) only [h6, h7, h3, h4, hz, f4_goOn_j59, a1, a7, a31, a11, nI_z, zI_add, zI_sub, zI_mul, zI_m1, ckI_z, zI_clamp, Int.toNat_natCast, bnd_some, lt, rd_same, rd_ne, rdL_same, rdL_ne, wI_2, wL_1, if_true, if_false, iT_lt, iF_lt, iT_lt0, iF_lt0, iT_0lt, iF_0lt, iT_le, iF_le, iT_le0, iF_le0, iT_0le, iF_0le, iT_eq, iF_eq, iT_eq0, iF_eq0]
        exact fin _ 0 b (by omega) (by omega)
      · have e2 : (if (mact o m).2 = 2 ∧ w.length ≤ (mact o m).1.2.2.1 then 0 else (mact o m).2) = 2 := by rw [if_neg (fun q => c q.2)]; exact c2
        rw [e2, if_pos rfl]
        rw [c2] at a2 a7
        obtain ⟨S2, g1, g2, g3⟩ := ih n S1 _ (s + 1) a2 hMI.1 (by omega) (by omega) (by omega)
        refine ⟨S2, ?_, g2, hs1.tr g3⟩
        rw [f4_goOn_h0]
        simp (disch := omega) only [h6, h7, h3, h4, hz, f4_goOn_j59, a1, a7, a31, a11, nI_z, zI_add, zI_sub, zI_mul, zI_m1, ckI_z, zI_clamp, Int.toNat_natCast, bnd_some, lt, rd_same, rd_ne, rdL_same, rdL_ne, wI_2, wL_1, if_true, if_false, iT_lt, iF_lt, iT_lt0, iF_lt0, iT_0lt, iF_0lt, iT_le, iF_le, iT_le0, iF_le0, iT_0le, iF_0le, iT_eq, iF_eq, iT_eq0, iF_eq0]
        exact g1
    · have e2 : (if (mact o m).2 = 2 ∧ w.length ≤ (mact o m).1.2.2.1 then 0 else (mact o m).2) = (mact o m).2 := if_neg (fun q => c2 q.1)
      rw [e2, if_neg c2]
      refine ⟨S1, ?_, a2, hs1⟩
      have hle := hMI.2.1
      rw [f4_goOn_h0]
      simp (disch := omega) only [h6, h7, h3, h4, hz, f4_goOn_j59, a1, a7, nI_z, zI_add, zI_sub, zI_mul, zI_m1, ckI_z, zI_clamp, Int.toNat_natCast, bnd_some, lt, rd_same, rd_ne, rdL_same, rdL_ne, wI_2, wL_1, if_true, if_false, iT_lt, iF_lt, iT_lt0, iF_lt0, iT_0lt, iF_0lt, iT_le, iF_le, iT_le0, iF_le0, iT_0le, iF_0le, iT_eq, iF_eq, iT_eq0, iF_eq0]
      exact fin S1 _ a2 c2 hle
