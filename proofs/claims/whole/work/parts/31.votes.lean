/-! Over all programs: the walker of the class; votes. -/
def hdz : List (Nat × List Nat) → Nat
  | [] => 0
  | e :: _ => e.1
def PRh (S : St) (a1 : Nat) (C : List (Nat × List Nat)) : Prop := ∀ e C2, C = e :: C2 → PR S a1 e.2
theorem flw_go {N a a1 L : Nat} {S : St} {C : List (Nat × List Nat)} (h : Flw N a a1 L S C) : ∃ S2, f3_follow N a a1 (zI L) S = some (zI (hdz C), S2) ∧ PRh S2 a1 C ∧ Same (rgP a1) S S2 := by
  cases C with
  | nil => exact ⟨S, h.1 rfl, fun e C2 q => (by cases q), Same.rfl'⟩
  | cons e C =>
    obtain ⟨S2, h1, h2, h3⟩ := h.2 e.1 e.2 C rfl
    exact ⟨S2, h1, fun e2 C2 q => by injection q with q1 q2; rw [← q1]; exact h2, h3⟩
theorem progs_wp {g : Lg} {L : Nat} {A C : List (Nat × List Nat)} {e : Nat × List Nat} (hg : LV g) (h : progs (bit g) (rkf g) L = A ++ e :: C) : 1 ≤ e.1 ∧ e.1 ≤ L ∧ WP g e.2 ∧ e.2.length ≤ 12 ∧ bsum g e.2 = e.1 := by
  have hm : e ∈ progs (bit g) (rkf g) L := by rw [h]; exact List.mem_append.mpr (Or.inr List.mem_cons_self)
  obtain ⟨a1, a2, a3⟩ := progs_mem hm
  obtain ⟨b1, b2, b3⟩ := comp_mem hg 12 e.1 e.2 a3
  exact ⟨a1, a2, b2, b1, b3⟩
theorem progs_cap {g : Lg} {L : Nat} {A C : List (Nat × List Nat)} (hg : LV g) (hL : L ≤ 14) (h : progs (bit g) (rkf g) L = A ++ C) : A.length + C.length ≤ 16384 := by
  have hlen := progs_len (fun o => (bit_pos hg o).1) (fun o => (bit_pos hg o).2) (rkf_kraft hg) L
  have h2 : 2 ^ L ≤ 2 ^ 14 := Nat.pow_le_pow_right (by omega) hL
  rw [h, List.length_append] at hlen
  omega
theorem sh1 {n b : Nat} (h : b ≤ n) (hn : n ≤ 14) : shlI (zI ((1 : Nat) : Int)) (zI ((n : Int) - (b : Int))) = zI ((2 ^ (n - b) : Nat) : Int) := by
  have h2 : 2 ^ (n - b) ≤ 2 ^ 14 := Nat.pow_le_pow_right (by omega) (by omega)
  have q := zI_shl (c := 1) (s := n - b) (by omega) (by omega)
  rw [Nat.one_mul] at q
  rw [show (n : Int) - (b : Int) = ((n - b : Nat) : Int) by omega]
  exact q
abbrev Va : Type := (Nat → Nat) × Nat × Nat
def upv (f : Nat → Nat) (v w : Nat) : Nat → Nat := fun k => if k = v then f k + w else f k
theorem upv_s {f : Nat → Nat} {v w : Nat} : upv f v w v = f v + w := if_pos rfl
theorem upv_n {f : Nat → Nat} {v w k : Nat} (h : k ≠ v) : upv f v w k = f k := if_neg h
/-- one program's vote, of weight wt -/
def vstr (row : List Nat) (A : Va) (r : Mc × Nat × Nat) (wt : Nat) : Va :=
  if lk r.1.2.2.2.1 row = row.length ∧ row.length < r.1.2.2.2.1.length then (upv A.1 (r.1.2.2.2.1.getD row.length 0) wt, A.2.1 + wt, A.2.2)
  else if lk r.1.2.2.2.1 row = r.1.2.2.2.1.length ∧ r.2.2 = 2 then (A.1, A.2.1, A.2.2 + wt) else A
def vst (g : Lg) (row : List Nat) (n t : Nat) (A : Va) (e : Nat × List Nat) : Va := vstr row A (prun g e.2 0 t) (2 ^ (n - e.1))
def VC (S : St) (A : Va) : Prop := (∀ v, v < 1000 → S.1 31 v = zI (A.1 v)) ∧ S.1 26 3 = zI A.2.1 ∧ S.1 26 4 = zI A.2.2
def vcP (c k : Nat) : Prop := c = 31 ∨ (c = 26 ∧ 3 ≤ k ∧ k ≤ 4)
theorem VC.same {P : Nat → Nat → Prop} {S S2 : St} {A : Va} (h : VC S A) (hs : Same P S S2) (hd : ∀ c k, vcP c k → ¬ P c k) : VC S2 A := ⟨fun v hv => by rw [hs.i (hd 31 v (by unfold vcP; omega))]; exact h.1 v hv, by rw [hs.i (hd 26 3 (by unfold vcP; omega))]; exact h.2.1, by rw [hs.i (hd 26 4 (by unfold vcP; omega))]; exact h.2.2⟩
theorem takeVote_ok {N K wt : Nat} {S : St} {w row : List Nat} {r : Mc × Nat × Nat} {A : Va} (hN : 20 ≤ N) (h : CMr S w r.1 r.2.1 r.2.2 K) (hm : MIq r.1) (hr2 : r.2.2 ≤ 2) (hr : Qsay S row) (hA : VC S A) : ∃ S2, f5_takeVote N (zI wt) S = some ((), S2) ∧ VC S2 (vstr row A r wt) ∧ Same vcP S S2 := by
  have hl := f4_likeTold_ok (N := N) hN h hm hr
  have h8 := h.2.2.2.2.2.2.2.1
  have h7 := h.2.2.2.2.2.2.1
  obtain ⟨m1, m2, m3, m4⟩ := hm
  have hlk := lk_le r.1.2.2.2.1 row
  obtain ⟨r1, r2, r3, r4, r5, r6⟩ := hr
  obtain ⟨a1, a2, a3⟩ := hA
  unfold vstr
  by_cases c1 : lk r.1.2.2.2.1 row = row.length ∧ row.length < r.1.2.2.2.1.length
  · rw [if_pos c1]
    have hq : r.1.2.2.2.1[row.length]? = some r.1.2.2.2.1[row.length] := List.getElem?_eq_getElem c1.2
    have hgd : r.1.2.2.2.1.getD row.length 0 = r.1.2.2.2.1[row.length] := by rw [List.getD_eq_getElem?_getD, hq]; rfl
    rw [hgd]
    have hs := f4_saidAt_in h ⟨m1, m2, m3, m4⟩ hq
    have hx := m4 _ (List.mem_of_getElem? hq)
    generalize r.1.2.2.2.1[row.length] = x at hs hx
    have a4 := a1 x hx
    have hsm : Same vcP S (wI (wI S 31 x (zI ((A.1 x : Int) + (wt : Int)))) 26 3 (zI ((A.2.1 : Int) + (wt : Int)))) := (Same.rfl' (P := vcP)) |>.wI (by unfold vcP; omega) |>.wI (by unfold vcP; omega)
    refine ⟨_, ?_, ⟨fun v hv => ?_, ?_, ?_⟩, hsm⟩
    · unfold f5_takeVote
      rw [hl, c1.1]
      simp (disch := omega) only [f10_length, r3, f4_saidCount, h8, hs, a4, a2, nI_z, zI_add, zI_sub, zI_mul, zI_m1, ckI_z, zI_clamp, Int.toNat_natCast, bnd_some, lt, rd_same, rd_ne, rdL_same, rdL_ne, wI_2, wL_1, if_true, if_false, iT_lt, iF_lt, iT_lt0, iF_lt0, iT_0lt, iF_0lt, iT_le, iF_le, iT_le0, iF_le0, iT_0le, iF_0le, iT_eq, iF_eq, iT_eq0, iF_eq0]
    · show _ = zI ((upv A.1 x wt v : Nat) : Int)
      by_cases e : v = x
      · subst e; rw [upv_s]; simp (disch := omega) only [nI_z, zI_add, zI_sub, zI_mul, zI_m1, ckI_z, zI_clamp, Int.toNat_natCast, bnd_some, lt, rd_same, rd_ne, rdL_same, rdL_ne, wI_2, wL_1, if_true, if_false, iT_lt, iF_lt, iT_lt0, iF_lt0, iT_0lt, iF_0lt, iT_le, iF_le, iT_le0, iF_le0, iT_0le, iF_0le, iT_eq, iF_eq, iT_eq0, iF_eq0]; rfl
      · rw [upv_n e]; simp (disch := omega) only [a1 v hv, nI_z, zI_add, zI_sub, zI_mul, zI_m1, ckI_z, zI_clamp, Int.toNat_natCast, bnd_some, lt, rd_same, rd_ne, rdL_same, rdL_ne, wI_2, wL_1, if_true, if_false, iT_lt, iF_lt, iT_lt0, iF_lt0, iT_0lt, iF_0lt, iT_le, iF_le, iT_le0, iF_le0, iT_0le, iF_0le, iT_eq, iF_eq, iT_eq0, iF_eq0]
    · simp (disch := omega) only [nI_z, zI_add, zI_sub, zI_mul, zI_m1, ckI_z, zI_clamp, Int.toNat_natCast, bnd_some, lt, rd_same, rd_ne, rdL_same, rdL_ne, wI_2, wL_1, if_true, if_false, iT_lt, iF_lt, iT_lt0, iF_lt0, iT_0lt, iF_0lt, iT_le, iF_le, iT_le0, iF_le0, iT_0le, iF_0le, iT_eq, iF_eq, iT_eq0, iF_eq0]; rfl
    · simp (disch := omega) only [a3, nI_z, zI_add, zI_sub, zI_mul, zI_m1, ckI_z, zI_clamp, Int.toNat_natCast, bnd_some, lt, rd_same, rd_ne, rdL_same, rdL_ne, wI_2, wL_1, if_true, if_false, iT_lt, iF_lt, iT_lt0, iF_lt0, iT_0lt, iF_0lt, iT_le, iF_le, iT_le0, iF_le0, iT_0le, iF_0le, iT_eq, iF_eq, iT_eq0, iF_eq0]
  · rw [if_neg c1]
    have hj : f5_takeVote N (zI wt) S = f5_takeVote_j72 N (zI wt) (zI (lk r.1.2.2.2.1 row)) S := by
      unfold f5_takeVote
      rw [hl]
      by_cases e : lk r.1.2.2.2.1 row = row.length
      · simp (disch := omega) only [f10_length, r3, f4_saidCount, h8, nI_z, zI_add, zI_sub, zI_mul, zI_m1, ckI_z, zI_clamp, Int.toNat_natCast, bnd_some, lt, rd_same, rd_ne, rdL_same, rdL_ne, wI_2, wL_1, if_true, if_false, iT_lt, iF_lt, iT_lt0, iF_lt0, iT_0lt, iF_0lt, iT_le, iF_le, iT_le0, iF_le0, iT_0le, iF_0le, iT_eq, iF_eq, iT_eq0, iF_eq0]
      · simp (disch := omega) only [f10_length, r3, nI_z, zI_add, zI_sub, zI_mul, zI_m1, ckI_z, zI_clamp, Int.toNat_natCast, bnd_some, lt, rd_same, rd_ne, rdL_same, rdL_ne, wI_2, wL_1, if_true, if_false, iT_lt, iF_lt, iT_lt0, iF_lt0, iT_0lt, iF_0lt, iT_le, iF_le, iT_le0, iF_le0, iT_0le, iF_0le, iT_eq, iF_eq, iT_eq0, iF_eq0]
    rw [hj]
    by_cases c2 : lk r.1.2.2.2.1 row = r.1.2.2.2.1.length
    · by_cases c3 : r.2.2 = 2
      · rw [if_pos ⟨c2, c3⟩]
        rw [c3] at h7
        have hsm : Same vcP S (wI S 26 4 (zI ((A.2.2 : Int) + (wt : Int)))) := (Same.rfl' (P := vcP)).wI (by unfold vcP; omega)
        refine ⟨_, ?_, ⟨fun v hv => by simp (disch := omega) only [a1 v hv, nI_z, zI_add, zI_sub, zI_mul, zI_m1, ckI_z, zI_clamp, Int.toNat_natCast, bnd_some, lt, rd_same, rd_ne, rdL_same, rdL_ne, wI_2, wL_1, if_true, if_false, iT_lt, iF_lt, iT_lt0, iF_lt0, iT_0lt, iF_0lt, iT_le, iF_le, iT_le0, iF_le0, iT_0le, iF_0le, iT_eq, iF_eq, iT_eq0, iF_eq0], by simp (disch := omega) only [a2, nI_z, zI_add, zI_sub, zI_mul, zI_m1, ckI_z, zI_clamp, Int.toNat_natCast, bnd_some, lt, rd_same, rd_ne, rdL_same, rdL_ne, wI_2, wL_1, if_true, if_false, iT_lt, iF_lt, iT_lt0, iF_lt0, iT_0lt, iF_0lt, iT_le, iF_le, iT_le0, iF_le0, iT_0le, iF_0le, iT_eq, iF_eq, iT_eq0, iF_eq0], by simp (disch := omega) only [nI_z, zI_add, zI_sub, zI_mul, zI_m1, ckI_z, zI_clamp, Int.toNat_natCast, bnd_some, lt, rd_same, rd_ne, rdL_same, rdL_ne, wI_2, wL_1, if_true, if_false, iT_lt, iF_lt, iT_lt0, iF_lt0, iT_0lt, iF_0lt, iT_le, iF_le, iT_le0, iF_le0, iT_0le, iF_0le, iT_eq, iF_eq, iT_eq0, iF_eq0]; rfl⟩, hsm⟩
        unfold f5_takeVote_j72
        simp (disch := omega) only [f4_saidCount, h8, f4_state, h7, a3, nI_z, zI_add, zI_sub, zI_mul, zI_m1, ckI_z, zI_clamp, Int.toNat_natCast, bnd_some, lt, rd_same, rd_ne, rdL_same, rdL_ne, wI_2, wL_1, if_true, if_false, iT_lt, iF_lt, iT_lt0, iF_lt0, iT_0lt, iF_0lt, iT_le, iF_le, iT_le0, iF_le0, iT_0le, iF_0le, iT_eq, iF_eq, iT_eq0, iF_eq0]
      · rw [if_neg (fun q => c3 q.2)]
        refine ⟨S, ?_, ⟨a1, a2, a3⟩, Same.rfl'⟩
        unfold f5_takeVote_j72
        simp (disch := omega) only [f4_saidCount, h8, f4_state, h7, nI_z, zI_add, zI_sub, zI_mul, zI_m1, ckI_z, zI_clamp, Int.toNat_natCast, bnd_some, lt, rd_same, rd_ne, rdL_same, rdL_ne, wI_2, wL_1, if_true, if_false, iT_lt, iF_lt, iT_lt0, iF_lt0, iT_0lt, iF_0lt, iT_le, iF_le, iT_le0, iF_le0, iT_0le, iF_0le, iT_eq, iF_eq, iT_eq0, iF_eq0]
    · rw [if_neg (fun q => c2 q.1)]
      refine ⟨S, ?_, ⟨a1, a2, a3⟩, Same.rfl'⟩
      unfold f5_takeVote_j72
      simp (disch := omega) only [f4_saidCount, h8, nI_z, zI_add, zI_sub, zI_mul, zI_m1, ckI_z, zI_clamp, Int.toNat_natCast, bnd_some, lt, rd_same, rd_ne, rdL_same, rdL_ne, wI_2, wL_1, if_true, if_false, iT_lt, iF_lt, iT_lt0, iF_lt0, iT_0lt, iF_0lt, iT_le, iF_le, iT_le0, iF_le0, iT_0le, iF_0le, iT_eq, iF_eq, iT_eq0, iF_eq0]
def hoP (c k : Nat) : Prop := mcP c k ∨ rgP 27 c k ∨ vcP c k
theorem prun_MI {g : Lg} {p : List Nat} {x t : Nat} (hx : x < 1000) : MIq (prun g p x t).1 ∧ (prun g p x t).2.2 ≤ 2 ∧ (prun g p x t).2.1 ≤ t := by
  have h := mgo_MI (w := wr g p) t (x, 0, 0, [], [(x, 0)]) 0 ⟨hx, by show 0 < 1000; omega, by show 0 ≤ 8; omega, fun y hy => (by cases hy)⟩
  have h2 := (mgo_steps (w := wr g p) t (x, 0, 0, [], [(x, 0)]) 0).2.1
  exact ⟨h.1, h.2, by rw [Nat.zero_add] at h2; exact h2⟩
theorem f5_hold_loop {N a t n : Nat} {g : Lg} {row : List Nat} (hg : LV g) (ha : 50 ≤ a) (hN : 100000 ≤ N) (hn : n ≤ 14) (ht : t < 100000) : ∀ (C A : List (Nat × List Nat)) (k m K : Nat) (S : St) (acc : Va), progs (bit g) (rkf g) n = A ++ C → k = A.length → C.length < m → CL S a g → PRh S 27 C → CMq S K → K + 9 * C.length + 10 < 2147483648 → Qsay S row → VC S acc →
    ∃ S2 K2, f5_hold_h39 N a (zI n) (zI t) m (zI (hdz C)) (zI k) S = some ((), S2) ∧ VC S2 (C.foldl (vst g row n t) acc) ∧ CMq S2 K2 ∧ K ≤ K2 ∧ K2 ≤ K + 9 * C.length ∧ Same hoP S S2 := by
  intro C
  induction C with
  | nil =>
    intro A k m K S acc hp hk hm hc hh hK hb hs hv
    obtain ⟨m, rfl⟩ : ∃ z, m = z + 1 := ⟨m - 1, by omega⟩
    have hcap := progs_cap hg hn hp
    refine ⟨S, K, ?_, hv, hK, by omega, by omega, Same.rfl'⟩
    rw [f5_hold_h39]
    have hz : hdz [] = 0 := rfl
    rw [hz]
    simp (disch := omega) only [nI_z, zI_add, zI_sub, zI_mul, zI_m1, ckI_z, zI_clamp, Int.toNat_natCast, bnd_some, lt, rd_same, rd_ne, rdL_same, rdL_ne, wI_2, wL_1, if_true, if_false, iT_lt, iF_lt, iT_lt0, iF_lt0, iT_0lt, iF_0lt, iT_le, iF_le, iT_le0, iF_le0, iT_0le, iF_0le, iT_eq, iF_eq, iT_eq0, iF_eq0]
  | cons e C ih =>
    intro A k m K S acc hp hk hm hc hh hK hb hs hv
    obtain ⟨m, rfl⟩ : ∃ z, m = z + 1 := ⟨m - 1, by omega⟩
    have hcap := progs_cap hg hn hp
    obtain ⟨p1, p2, p3, p4, p5⟩ := progs_wp hg hp
    rw [List.length_cons] at hm hb hcap
    obtain ⟨S1, S2, a1, a2, a3, a4, a5⟩ := f4_run_ok (N := N) (x := 0) (t := t) hg (by omega : 11 ≤ a) (by omega : 27 + 1 < 6 ∨ 9 < 27) hN p3 p4 (by omega) (by omega) ht hc (hh e C rfl) hK
    obtain ⟨i1, i2, i3⟩ := prun_MI (g := g) (p := e.2) (x := 0) (t := t) (by omega)
    have hs2 := hs.same a5 (fun c k z => by unfold qsP at z; unfold mcP; omega)
    have hv2 := hv.same a5 (fun c k z => by unfold vcP at z; unfold mcP; omega)
    obtain ⟨S3, b1, b2, b3⟩ := takeVote_ok (N := N) (wt := 2 ^ (n - e.1)) (by omega) a3 i1 i2 hs2 hv2
    have s3 : Same hoP S S3 := (a5.mono (fun c k z => Or.inl z)).tr (b3.mono (fun c k z => Or.inr (Or.inr z)))
    have hc3 : CL S3 a g := hc.same hg s3 (fun c k z _ => by unfold hoP mcP rgP vcP; omega)
    have hp3 : PR S3 27 e.2 := ((hh e C rfl).same a5 (fun k => by unfold mcP; omega) (fun k => by unfold mcP; omega)).same b3 (fun k => by unfold vcP; omega) (fun k => by unfold vcP; omega)
    have hf := f3_follow_next (N := N) (L := n) (B := e.1) (p := e.2) hg (by omega : 27 + 1 < a) (by omega) hc3 hp3 hn hp
    obtain ⟨S4, d1, d2, d3⟩ := flw_go hf
    have s4 : Same hoP S S4 := s3.tr (d3.mono (fun c k z => Or.inr (Or.inl z)))
    have hq : CMq S4 (K + 1 + (prun g e.2 0 t).1.2.2.2.1.length) := (a3.q.same b3 (fun c k z => by unfold mcP at z; unfold vcP; omega)).same d3 (fun c k z => by unfold mcP at z; unfold rgP; omega)
    have hl8 := i1.2.2.1
    obtain ⟨S5, K5, f1, f2, f3, f4, f5, f6⟩ := ih (A ++ [e]) (k + 1) m _ S4 (vst g row n t acc e) (by rw [hp]; simp) (by rw [hk]; simp) (by omega) (hc.same hg s4 (fun c k z _ => by unfold hoP mcP rgP vcP; omega)) d2 hq (by omega) (hs.same s4 (fun c k z => by unfold qsP at z; unfold hoP mcP rgP vcP; omega)) (VC.same b2 d3 (fun c k z => by unfold vcP at z; unfold rgP; omega))
    refine ⟨S5, K5, ?_, f2, f3, by omega, by rw [List.length_cons]; omega, s4.tr f6⟩
    have hz : hdz (e :: C) = e.1 := rfl
    rw [f5_hold_h39, hz]
    simp (disch := omega) only [a1, a2, sh1 p2 hn, b1, d1, nI_z, zI_add, zI_sub, zI_mul, zI_m1, ckI_z, zI_clamp, Int.toNat_natCast, bnd_some, lt, rd_same, rd_ne, rdL_same, rdL_ne, wI_2, wL_1, if_true, if_false, iT_lt, iF_lt, iT_lt0, iF_lt0, iT_0lt, iF_0lt, iT_le, iF_le, iT_le0, iF_le0, iT_0le, iF_0le, iT_eq, iF_eq, iT_eq0, iF_eq0]
    exact f1
theorem fi_in {S : St} {a n k : Nat} {x : Int32} (h : k < n) : (fiI S a n x).1 a k = x := if_pos ⟨rfl, h⟩
theorem fi_out {S : St} {a n q k : Nat} {x : Int32} (h : q ≠ a ∨ n ≤ k) : (fiI S a n x).1 q k = S.1 q k := if_neg (by omega)
theorem Same.fi {P : Nat → Nat → Prop} {S S2 : St} {a n : Nat} {x : Int32} (h : Same P S S2) (hp : ∀ k, k < n → P a k) : Same P S (fiI S2 a n x) := fun q k hn => by
  refine ⟨?_, (h q k hn).2⟩
  by_cases e : q = a ∧ k < n
  · obtain ⟨rfl, e1⟩ := e
    exact absurd (hp k e1) hn
  · rw [fi_out (by omega)]
    exact (h q k hn).1
def va0 : Va := (fun _ => 0, 0, 0)
def votesP (g : Lg) (row : List Nat) (n t : Nat) : Va := (progs (bit g) (rkf g) n).foldl (vst g row n t) va0
theorem f5_hold_ok {N a t n K : Nat} {S : St} {g : Lg} {row : List Nat} (hg : LV g) (ha : 50 ≤ a) (hN : 100000 ≤ N) (hn : n ≤ 14) (ht : t < 100000) (hc : CL S a g) (hK : CMq S K) (hb : K + 200000 < 2147483648) (hs : Qsay S row) : ∃ S2 K2, f5_hold N a (zI n) (zI t) S = some ((), S2) ∧ VC S2 (votesP g row n t) ∧ CMq S2 K2 ∧ K ≤ K2 ∧ K2 ≤ K + 147456 ∧ Same hoP S S2 := by
  have s1 : Same hoP S (wI (wI (fiI S 31 1000 (zI ((0 : Nat) : Int))) 26 3 (zI ((0 : Nat) : Int))) 26 4 (zI ((0 : Nat) : Int))) := ((Same.rfl' (P := hoP)).fi (fun k _ => by unfold hoP vcP; omega)) |>.wI (by unfold hoP vcP; omega) |>.wI (by unfold hoP vcP; omega)
  have v1 : VC (wI (wI (fiI S 31 1000 (zI ((0 : Nat) : Int))) 26 3 (zI ((0 : Nat) : Int))) 26 4 (zI ((0 : Nat) : Int))) va0 := by
    refine ⟨fun v hv => ?_, ?_, ?_⟩
    · simp (disch := omega) only [fi_in, nI_z, zI_add, zI_sub, zI_mul, zI_m1, ckI_z, zI_clamp, Int.toNat_natCast, bnd_some, lt, rd_same, rd_ne, rdL_same, rdL_ne, wI_2, wL_1, if_true, if_false, iT_lt, iF_lt, iT_lt0, iF_lt0, iT_0lt, iF_0lt, iT_le, iF_le, iT_le0, iF_le0, iT_0le, iF_0le, iT_eq, iF_eq, iT_eq0, iF_eq0]; rfl
    · simp (disch := omega) only [nI_z, zI_add, zI_sub, zI_mul, zI_m1, ckI_z, zI_clamp, Int.toNat_natCast, bnd_some, lt, rd_same, rd_ne, rdL_same, rdL_ne, wI_2, wL_1, if_true, if_false, iT_lt, iF_lt, iT_lt0, iF_lt0, iT_0lt, iF_0lt, iT_le, iF_le, iT_le0, iF_le0, iT_0le, iF_0le, iT_eq, iF_eq, iT_eq0, iF_eq0]; rfl
    · simp (disch := omega) only [nI_z, zI_add, zI_sub, zI_mul, zI_m1, ckI_z, zI_clamp, Int.toNat_natCast, bnd_some, lt, rd_same, rd_ne, rdL_same, rdL_ne, wI_2, wL_1, if_true, if_false, iT_lt, iF_lt, iT_lt0, iF_lt0, iT_0lt, iF_0lt, iT_le, iF_le, iT_le0, iF_le0, iT_0le, iF_0le, iT_eq, iF_eq, iT_eq0, iF_eq0]; rfl
  generalize hS1 : wI (wI (fiI S 31 1000 (zI ((0 : Nat) : Int))) 26 3 (zI ((0 : Nat) : Int))) 26 4 (zI ((0 : Nat) : Int)) = S1 at s1 v1
  obtain ⟨S2, b1, b2, b3⟩ := f6_beEmpty_ok (S := S1) (a := 27)
  have s2 : Same hoP S S2 := s1.tr (b3.mono (fun c k z => Or.inr (Or.inl z)))
  have hf := f3_follow_first (N := N) (L := n) hg (by omega : 27 + 1 < a) (by omega) (hc.same hg s2 (fun c k z _ => by unfold hoP mcP rgP vcP; omega)) b2 hn
  obtain ⟨S3, d1, d2, d3⟩ := flw_go hf
  have s3 : Same hoP S S3 := s2.tr (d3.mono (fun c k z => Or.inr (Or.inl z)))
  have hcap := progs_cap (A := []) (C := progs (bit g) (rkf g) n) hg hn rfl
  rw [List.length_nil, Nat.zero_add] at hcap
  have s13 : Same (rgP 27) S S3 ∨ True := Or.inr trivial
  have hK3 : CMq S3 K := by
    have k1 : CMq S1 K := by
      refine ⟨?_, ?_⟩
      · rw [← hS1]
        have := hK.1
        simp (disch := omega) only [fi_out, this, nI_z, zI_add, zI_sub, zI_mul, zI_m1, ckI_z, zI_clamp, Int.toNat_natCast, bnd_some, lt, rd_same, rd_ne, rdL_same, rdL_ne, wI_2, wL_1, if_true, if_false, iT_lt, iF_lt, iT_lt0, iF_lt0, iT_0lt, iF_0lt, iT_le, iF_le, iT_le0, iF_le0, iT_0le, iF_0le, iT_eq, iF_eq, iT_eq0, iF_eq0]
      · obtain ⟨cm, h⟩ := hK.2
        refine ⟨cm, ?_⟩
        have : S1.1 9 = S.1 9 := by
          rw [← hS1]
          funext k
          simp (disch := omega) only [fi_out, nI_z, zI_add, zI_sub, zI_mul, zI_m1, ckI_z, zI_clamp, Int.toNat_natCast, bnd_some, lt, rd_same, rd_ne, rdL_same, rdL_ne, wI_2, wL_1, if_true, if_false, iT_lt, iF_lt, iT_lt0, iF_lt0, iT_0lt, iF_0lt, iT_le, iF_le, iT_le0, iF_le0, iT_0le, iF_0le, iT_eq, iF_eq, iT_eq0, iF_eq0]
        rw [this]; exact h
    exact (k1.same b3 (fun c k z => by unfold mcP at z; unfold rgP; omega)).same d3 (fun c k z => by unfold mcP at z; unfold rgP; omega)
  obtain ⟨S4, K4, f1, f2, f3, f4, f5, f6⟩ := f5_hold_loop (N := N) (t := t) hg ha hN hn ht (progs (bit g) (rkf g) n) [] 0 N K S3 va0 rfl rfl (by omega) (hc.same hg s3 (fun c k z _ => by unfold hoP mcP rgP vcP; omega)) d2 hK3 (by omega) (hs.same s3 (fun c k z => by unfold qsP at z; unfold hoP mcP rgP vcP; omega)) ((v1.same b3 (fun c k z => by unfold vcP at z; unfold rgP; omega)).same d3 (fun c k z => by unfold vcP at z; unfold rgP; omega))
  refine ⟨S4, K4, ?_, f2, f3, f4, by omega, s3.tr f6⟩
  unfold f5_hold
  simp (disch := omega) only [nI_z, zI_add, zI_sub, zI_mul, zI_m1, ckI_z, zI_clamp, Int.toNat_natCast, bnd_some, lt, rd_same, rd_ne, rdL_same, rdL_ne, wI_2, wL_1, if_true, if_false, iT_lt, iF_lt, iT_lt0, iF_lt0, iT_0lt, iF_0lt, iT_le, iF_le, iT_le0, iF_le0, iT_0le, iF_0le, iT_eq, iF_eq, iT_eq0, iF_eq0]
  rw [hS1, b1, bnd_some, d1]
  exact f1
-- the reference's votes
def VM (S : St) (f : Nat → Nat) : Prop := ∀ v, v < 1000 → S.1 168 v = zI (f v)
def vmP (c k : Nat) : Prop := rnP c k ∨ c = 168
theorem f12_votes_loop {N i t n : Nat} {nt x3 x4 : Int32} {g : Lg} {row : List Nat} (hg : LV g) (hi : i < 6) (hN : 100000 ≤ N) (hn : n ≤ 14) (ht : t ≤ 4198) (hnt : remI nt (zI ((1000 : Nat) : Int)) = zI t) : ∀ (C A : List (Nat × List Nat)) (k m : Nat) (S : St) (acc : Va), progs (bit g) (rkf g) n = A ++ C → k = A.length → C.length < m → ML S i g → LQ S (plist g n) → Qsay S row → VM S acc.1 →
    ∃ S2, f12_votes_h94 N (zI i) nt x3 x4 (zI n) m (zI acc.2.2) (zI acc.2.1) (zI k) S = f12_votes_h224 N x3 x4 (zI (C.foldl (vst g row n t) acc).2.2) (zI (C.foldl (vst g row n t) acc).2.1) N (zI ((0 : Nat) : Int)) (zI ((1 : Nat) : Int)) S2 ∧ VM S2 (C.foldl (vst g row n t) acc).1 ∧ (V15 S → V15 S2) ∧ Same vmP S S2 := by
  intro C
  induction C with
  | nil =>
    intro A k m S acc hp hk hm hml hq hs hv
    obtain ⟨m, rfl⟩ : ∃ z, m = z + 1 := ⟨m - 1, by omega⟩
    have hcap := progs_cap hg hn hp
    have h28 := hq.1
    have hpl : (plist g n).length = (progs (bit g) (rkf g) n).length := by unfold plist; rw [List.length_map]
    rw [hpl, hp, List.append_nil, ← hk] at h28
    refine ⟨S, ?_, hv, fun q => q, Same.rfl'⟩
    rw [f12_votes_h94]
    simp (disch := omega) only [h28, nI_z, zI_add, zI_sub, zI_mul, zI_m1, ckI_z, zI_clamp, Int.toNat_natCast, bnd_some, lt, rd_same, rd_ne, rdL_same, rdL_ne, wI_2, wL_1, if_true, if_false, iT_lt, iF_lt, iT_lt0, iF_lt0, iT_0lt, iF_0lt, iT_le, iF_le, iT_le0, iF_le0, iT_0le, iF_0le, iT_eq, iF_eq, iT_eq0, iF_eq0]
    rfl
  | cons e C ih =>
    intro A k m S acc hp hk hm hml hq hs hv
    obtain ⟨m, rfl⟩ : ∃ z, m = z + 1 := ⟨m - 1, by omega⟩
    have hcap := progs_cap hg hn hp
    obtain ⟨p1, p2, p3, p4, p5⟩ := progs_wp hg hp
    have h28 := hq.1
    have hpl : (plist g n).length = (progs (bit g) (rkf g) n).length := by unfold plist; rw [List.length_map]
    rw [List.length_cons] at hm hcap
    rw [hpl, hp, List.length_append, List.length_cons] at h28
    have hr : (progs (bit g) (rkf g) n)[k]? = some e := by rw [hp, hk, List.getElem?_append_right (Nat.le_refl _)]; simp
    have hpj : (plist g n)[k]? = some (pack e.2, e.1) := by unfold plist; rw [List.getElem?_map, hr]; rfl
    obtain ⟨l1, l2⟩ := hq.2 k _ hpj
    obtain ⟨i1, i2, i3⟩ := prun_MI (g := g) (p := e.2) (x := 0) (t := t) (by omega)
    obtain ⟨S2, a1, a2, a3, a4⟩ := f12_runFor_ok (N := N) (x := 0) (t := t) hN hg hi p3 p4 hml (by omega) (by omega) (by omega)
    have hs2 := hs.same a4 (fun c k z => by unfold qsP at z; unfold rnP; omega)
    have hal := f12_alike_ok (N := N) (by omega) a2 i1 hs2
    have hlk := lk_le (prun g e.2 0 t).1.2.2.2.1 row
    obtain ⟨r1, r2, r3, r4, r5, r6⟩ := hs2
    have m3 := i1.2.2.1
    have q8 := a2.2.2.2.1
    have hml2 := hml.rn hg a4
    have hq2 : LQ S2 (plist g n) := ⟨by rw [a4.i (by unfold rnP; omega)]; exact hq.1, fun j e he => ⟨by rw [a4.l (by unfold rnP; omega)]; exact (hq.2 j e he).1, by rw [a4.i (by unfold rnP; omega)]; exact (hq.2 j e he).2⟩⟩
    have hv2 : VM S2 acc.1 := fun v hv2 => by rw [a4.i (by unfold rnP; omega)]; exact hv v hv2
    have hz1 : zI ((k : Int) + ((1 : Nat) : Int)) = zI ((k + 1 : Nat) : Int) := rfl
    have hmod : vst g row n t acc e = vstr row acc (prun g e.2 0 t) (2 ^ (n - e.1)) := rfl
    rw [List.foldl_cons, hmod]
    have hlt : zI ((A.length + (C.length + 1) : Nat) : Int) = zI ((k : Int) + ((C.length + 1 : Nat) : Int)) := by congr 1; omega
    rw [hlt] at h28
    have go : ∀ (S3 : St) (acc3 : Va), Same (fun c _ => c = 168) S2 S3 → VM S3 acc3.1 → vstr row acc (prun g e.2 0 t) (2 ^ (n - e.1)) = acc3 → f12_votes_h94 N (zI i) nt x3 x4 (zI n) (m + 1) (zI acc.2.2) (zI acc.2.1) (zI k) S = f12_votes_h94 N (zI i) nt x3 x4 (zI n) m (zI acc3.2.2) (zI acc3.2.1) (zI ((k + 1 : Nat) : Int)) S3 →
        ∃ S2, f12_votes_h94 N (zI i) nt x3 x4 (zI n) (m + 1) (zI acc.2.2) (zI acc.2.1) (zI k) S = f12_votes_h224 N x3 x4 (zI (C.foldl (vst g row n t) (vstr row acc (prun g e.2 0 t) (2 ^ (n - e.1)))).2.2) (zI (C.foldl (vst g row n t) (vstr row acc (prun g e.2 0 t) (2 ^ (n - e.1)))).2.1) N (zI ((0 : Nat) : Int)) (zI ((1 : Nat) : Int)) S2 ∧ VM S2 (C.foldl (vst g row n t) (vstr row acc (prun g e.2 0 t) (2 ^ (n - e.1)))).1 ∧ (V15 S → V15 S2) ∧ Same vmP S S2 := fun S3 acc3 s3 v3 ev eq => by
      have hq3 : LQ S3 (plist g n) := ⟨by rw [s3.i (by omega)]; exact hq2.1, fun j e he => ⟨by rw [s3.l (by omega)]; exact (hq2.2 j e he).1, by rw [s3.i (by omega)]; exact (hq2.2 j e he).2⟩⟩
      have hml3 : ML S3 i g := hml2.same hg s3 (fun c p _ _ _ => by omega) (fun p _ _ => by omega) (fun p _ _ => by omega) (by omega)
      obtain ⟨S4, f1, f2, f4, f3⟩ := ih (A ++ [e]) (k + 1) m S3 acc3 (by rw [hp]; simp) (by rw [hk]; simp) (by omega) hml3 hq3 (Qsay.same ⟨r1, r2, r3, r4, r5, r6⟩ s3 (fun c k z => by unfold qsP at z; omega)) v3
      rw [ev]
      exact ⟨S4, by rw [eq]; exact f1, f2, fun _ => f4 ((V15.of a2 i1).same s3 (by omega)), ((a4.mono (fun c k z => Or.inl z)).tr (s3.mono (fun c k z => Or.inr z))).tr f3⟩
    by_cases c1 : lk (prun g e.2 0 t).1.2.2.2.1 row = row.length ∧ row.length < (prun g e.2 0 t).1.2.2.2.1.length
    · have hqq : (prun g e.2 0 t).1.2.2.2.1[row.length]? = some (prun g e.2 0 t).1.2.2.2.1[row.length] := List.getElem?_eq_getElem c1.2
      have hgd : (prun g e.2 0 t).1.2.2.2.1.getD row.length 0 = (prun g e.2 0 t).1.2.2.2.1[row.length] := by rw [List.getD_eq_getElem?_getD, hqq]; rfl
      have hx := i1.2.2.2 _ (List.mem_of_getElem? hqq)
      have h155 := a2.2.2.2.2 _ _ hqq
      rw [Nat.zero_add] at h155
      have ev : vstr row acc (prun g e.2 0 t) (2 ^ (n - e.1)) = (upv acc.1 ((prun g e.2 0 t).1.2.2.2.1[row.length]) (2 ^ (n - e.1)), acc.2.1 + 2 ^ (n - e.1), acc.2.2) := by
        unfold vstr
        rw [if_pos c1, hgd]
      generalize (prun g e.2 0 t).1.2.2.2.1[row.length] = x at hx h155 ev
      have hv3 := hv2 x hx
      have s3 : Same (fun c _ => c = 168) S2 (wI S2 168 x (zI ((acc.1 x : Int) + ((2 ^ (n - e.1) : Nat) : Int)))) := (Same.rfl' (P := fun c _ => c = 168)).wI rfl
      refine go _ _ s3 (fun v hv => ?_) ev ?_
      · show _ = zI ((upv acc.1 x (2 ^ (n - e.1)) v : Nat) : Int)
        by_cases e : v = x
        · subst e; rw [upv_s]; simp (disch := omega) only [nI_z, zI_add, zI_sub, zI_mul, zI_m1, ckI_z, zI_clamp, Int.toNat_natCast, bnd_some, lt, rd_same, rd_ne, rdL_same, rdL_ne, wI_2, wL_1, if_true, if_false, iT_lt, iF_lt, iT_lt0, iF_lt0, iT_0lt, iF_0lt, iT_le, iF_le, iT_le0, iF_le0, iT_0le, iF_0le, iT_eq, iF_eq, iT_eq0, iF_eq0]; rfl
        · rw [upv_n e]; simp (disch := omega) only [hv2 v hv, nI_z, zI_add, zI_sub, zI_mul, zI_m1, ckI_z, zI_clamp, Int.toNat_natCast, bnd_some, lt, rd_same, rd_ne, rdL_same, rdL_ne, wI_2, wL_1, if_true, if_false, iT_lt, iF_lt, iT_lt0, iF_lt0, iT_0lt, iF_0lt, iT_le, iF_le, iT_le0, iF_le0, iT_0le, iF_0le, iT_eq, iF_eq, iT_eq0, iF_eq0]
      · rw [c1.1] at hal
        rw [f12_votes_h94]
        simp (disch := omega) only [h28, l1, l2, sh1 p2 hn, hnt, a1, hal, r5, q8, h155, hv3, nI_z, zI_add, zI_sub, zI_mul, zI_m1, ckI_z, zI_clamp, Int.toNat_natCast, bnd_some, lt, rd_same, rd_ne, rdL_same, rdL_ne, wI_2, wL_1, if_true, if_false, iT_lt, iF_lt, iT_lt0, iF_lt0, iT_0lt, iF_0lt, iT_le, iF_le, iT_le0, iF_le0, iT_0le, iF_0le, iT_eq, iF_eq, iT_eq0, iF_eq0]
        rfl
    · by_cases c2 : lk (prun g e.2 0 t).1.2.2.2.1 row = (prun g e.2 0 t).1.2.2.2.1.length
      · by_cases c3 : (prun g e.2 0 t).2.2 = 2
        · refine go S2 (acc.1, acc.2.1, acc.2.2 + 2 ^ (n - e.1)) Same.rfl' hv2 (by unfold vstr; rw [if_neg c1, if_pos ⟨c2, c3⟩]) ?_
          rw [c3] at a1
          rw [f12_votes_h94]
          by_cases c4 : lk (prun g e.2 0 t).1.2.2.2.1 row = row.length
          · simp (disch := omega) only [h28, l1, l2, sh1 p2 hn, hnt, a1, hal, r5, q8, f12_votes_j188, nI_z, zI_add, zI_sub, zI_mul, zI_m1, ckI_z, zI_clamp, Int.toNat_natCast, bnd_some, lt, rd_same, rd_ne, rdL_same, rdL_ne, wI_2, wL_1, if_true, if_false, iT_lt, iF_lt, iT_lt0, iF_lt0, iT_0lt, iF_0lt, iT_le, iF_le, iT_le0, iF_le0, iT_0le, iF_0le, iT_eq, iF_eq, iT_eq0, iF_eq0]
            rfl
          · simp (disch := omega) only [h28, l1, l2, sh1 p2 hn, hnt, a1, hal, r5, q8, f12_votes_j188, nI_z, zI_add, zI_sub, zI_mul, zI_m1, ckI_z, zI_clamp, Int.toNat_natCast, bnd_some, lt, rd_same, rd_ne, rdL_same, rdL_ne, wI_2, wL_1, if_true, if_false, iT_lt, iF_lt, iT_lt0, iF_lt0, iT_0lt, iF_0lt, iT_le, iF_le, iT_le0, iF_le0, iT_0le, iF_0le, iT_eq, iF_eq, iT_eq0, iF_eq0]
            rfl
        · refine go S2 acc Same.rfl' hv2 (by unfold vstr; rw [if_neg c1, if_neg (fun q => c3 q.2)]) ?_
          rw [f12_votes_h94]
          by_cases c4 : lk (prun g e.2 0 t).1.2.2.2.1 row = row.length
          · simp (disch := omega) only [h28, l1, l2, sh1 p2 hn, hnt, a1, hal, r5, q8, f12_votes_j188, nI_z, zI_add, zI_sub, zI_mul, zI_m1, ckI_z, zI_clamp, Int.toNat_natCast, bnd_some, lt, rd_same, rd_ne, rdL_same, rdL_ne, wI_2, wL_1, if_true, if_false, iT_lt, iF_lt, iT_lt0, iF_lt0, iT_0lt, iF_0lt, iT_le, iF_le, iT_le0, iF_le0, iT_0le, iF_0le, iT_eq, iF_eq, iT_eq0, iF_eq0]
            rfl
          · simp (disch := omega) only [h28, l1, l2, sh1 p2 hn, hnt, a1, hal, r5, q8, f12_votes_j188, nI_z, zI_add, zI_sub, zI_mul, zI_m1, ckI_z, zI_clamp, Int.toNat_natCast, bnd_some, lt, rd_same, rd_ne, rdL_same, rdL_ne, wI_2, wL_1, if_true, if_false, iT_lt, iF_lt, iT_lt0, iF_lt0, iT_0lt, iF_0lt, iT_le, iF_le, iT_le0, iF_le0, iT_0le, iF_0le, iT_eq, iF_eq, iT_eq0, iF_eq0]
            rfl
      · refine go S2 acc Same.rfl' hv2 (by unfold vstr; rw [if_neg c1, if_neg (fun q => c2 q.1)]) ?_
        rw [f12_votes_h94]
        by_cases c4 : lk (prun g e.2 0 t).1.2.2.2.1 row = row.length
        · exfalso; omega
        · simp (disch := omega) only [h28, l1, l2, sh1 p2 hn, hnt, a1, hal, r5, q8, f12_votes_j188, nI_z, zI_add, zI_sub, zI_mul, zI_m1, ckI_z, zI_clamp, Int.toNat_natCast, bnd_some, lt, rd_same, rd_ne, rdL_same, rdL_ne, wI_2, wL_1, if_true, if_false, iT_lt, iF_lt, iT_lt0, iF_lt0, iT_0lt, iF_0lt, iT_le, iF_le, iT_le0, iF_le0, iT_0le, iF_0le, iT_eq, iF_eq, iT_eq0, iF_eq0]
          rfl
-- which number has the most
def bm (f : Nat → Nat) : Nat → Nat
  | 0 => 0
  | k + 1 => if f (bm f k) < f (k + 1) then k + 1 else bm f k
theorem bm_le (f : Nat → Nat) : ∀ k, bm f k ≤ k
  | 0 => Nat.le_refl _
  | k + 1 => by
    have := bm_le f k
    unfold bm
    split <;> omega
theorem bm_max (f : Nat → Nat) : ∀ k j, j ≤ k → f j ≤ f (bm f k)
  | 0, j, h => by
    have : j = 0 := by omega
    subst this
    exact Nat.le_refl _
  | k + 1, j, h => by
    have ih := bm_max f k
    unfold bm
    by_cases e : f (bm f k) < f (k + 1)
    · rw [if_pos e]
      by_cases q : j = k + 1
      · rw [q]; exact Nat.le_refl _
      · have := ih j (by omega); omega
    · rw [if_neg e]
      by_cases q : j = k + 1
      · rw [q]; omega
      · exact ih j (by omega)
/-- what the class has as the best so far -/
def bmI (f : Nat → Nat) (k : Nat) : Int := if f (bm f k) = 0 then -2 else (bm f k : Int)
theorem f5_most_loop {N : Nat} {S : St} {f : Nat → Nat} (h : ∀ v, v < 1000 → S.1 31 v = zI (f v)) (hb : ∀ v, f v < 2147483648) : ∀ (m k n : Nat), k + m = 999 → m + 1 < n → f5_most_h5 N n (zI (bmI f k)) (zI ((k + 1 : Nat) : Int)) S = some (zI (bmI f 999), S) := by
  have hvf : ∀ k, k ≤ 999 → f5_votesFor (zI (bmI f k)) S = some (zI (f (bm f k)), S) := fun k hk => by
    have h1 := bm_le f k
    have h2 := h (bm f k) (by omega)
    unfold f5_votesFor bmI
    by_cases e : f (bm f k) = 0
    · rw [if_pos e, e]
      simp (disch := omega) only [nI_z, zI_add, zI_sub, zI_mul, zI_m1, ckI_z, zI_clamp, Int.toNat_natCast, bnd_some, lt, rd_same, rd_ne, rdL_same, rdL_ne, wI_2, wL_1, if_true, if_false, iT_lt, iF_lt, iT_lt0, iF_lt0, iT_0lt, iF_0lt, iT_le, iF_le, iT_le0, iF_le0, iT_0le, iF_0le, iT_eq, iF_eq, iT_eq0, iF_eq0]
    · rw [if_neg e]
      simp (disch := omega) only [h2, nI_z, zI_add, zI_sub, zI_mul, zI_m1, ckI_z, zI_clamp, Int.toNat_natCast, bnd_some, lt, rd_same, rd_ne, rdL_same, rdL_ne, wI_2, wL_1, if_true, if_false, iT_lt, iF_lt, iT_lt0, iF_lt0, iT_0lt, iF_0lt, iT_le, iF_le, iT_le0, iF_le0, iT_0le, iF_0le, iT_eq, iF_eq, iT_eq0, iF_eq0]
  intro m
  induction m with
  | zero =>
    intro k n hk hn
    obtain ⟨n, rfl⟩ : ∃ z, n = z + 1 := ⟨n - 1, by omega⟩
    obtain rfl : k = 999 := by omega
    rw [f5_most_h5]
    simp (disch := omega) only [nI_z, zI_add, zI_sub, zI_mul, zI_m1, ckI_z, zI_clamp, Int.toNat_natCast, bnd_some, lt, rd_same, rd_ne, rdL_same, rdL_ne, wI_2, wL_1, if_true, if_false, iT_lt, iF_lt, iT_lt0, iF_lt0, iT_0lt, iF_0lt, iT_le, iF_le, iT_le0, iF_le0, iT_0le, iF_0le, iT_eq, iF_eq, iT_eq0, iF_eq0]
  | succ m ih =>
    intro k n hk hn
    obtain ⟨n, rfl⟩ : ∃ z, n = z + 1 := ⟨n - 1, by omega⟩
    have h1 := hvf k (by omega)
    have h2 := h (k + 1) (by omega)
    have b1 := hb (bm f k)
    have b2 := hb (k + 1)
    have ih1 := ih (k + 1) n (by omega) (by omega)
    have hz : zI (((k + 1 : Nat) : Int) + ((1 : Nat) : Int)) = zI ((k + 1 + 1 : Nat) : Int) := rfl
    rw [f5_most_h5]
    by_cases e : f (bm f k) < f (k + 1)
    · have hbm : bm f (k + 1) = k + 1 := by
        show (if f (bm f k) < f (k + 1) then k + 1 else bm f k) = k + 1
        rw [if_pos e]
      have hbi : bmI f (k + 1) = ((k + 1 : Nat) : Int) := by
        unfold bmI
        rw [hbm, if_neg (by omega)]
      rw [hbi] at ih1
      simp (disch := omega) only [h1, h2, hz, nI_z, zI_add, zI_sub, zI_mul, zI_m1, ckI_z, zI_clamp, Int.toNat_natCast, bnd_some, lt, rd_same, rd_ne, rdL_same, rdL_ne, wI_2, wL_1, if_true, if_false, iT_lt, iF_lt, iT_lt0, iF_lt0, iT_0lt, iF_0lt, iT_le, iF_le, iT_le0, iF_le0, iT_0le, iF_0le, iT_eq, iF_eq, iT_eq0, iF_eq0]
      exact ih1
    · have hbm : bm f (k + 1) = bm f k := by
        show (if f (bm f k) < f (k + 1) then k + 1 else bm f k) = bm f k
        rw [if_neg e]
      have hbi : bmI f (k + 1) = bmI f k := by
        unfold bmI
        rw [hbm]
      rw [hbi] at ih1
      simp (disch := omega) only [h1, h2, hz, nI_z, zI_add, zI_sub, zI_mul, zI_m1, ckI_z, zI_clamp, Int.toNat_natCast, bnd_some, lt, rd_same, rd_ne, rdL_same, rdL_ne, wI_2, wL_1, if_true, if_false, iT_lt, iF_lt, iT_lt0, iF_lt0, iT_0lt, iF_0lt, iT_le, iF_le, iT_le0, iF_le0, iT_0le, iF_0le, iT_eq, iF_eq, iT_eq0, iF_eq0]
      exact ih1
theorem f5_most_ok {N : Nat} {S : St} {f : Nat → Nat} (hN : 5000 ≤ N) (h : ∀ v, v < 1000 → S.1 31 v = zI (f v)) (hb : ∀ v, f v < 2147483648) : f5_most N S = some (zI (bmI f 999), S) := by
  obtain ⟨n, rfl⟩ : ∃ z, N = z + 1 := ⟨N - 1, by omega⟩
  have q := f5_most_loop (N := n + 1) h hb 999 0 n (by omega) (by omega)
  have h2 := h 0 (by omega)
  have b1 := hb 0
  unfold f5_most
  rw [f5_most_h5]
  by_cases e : f 0 = 0
  · have e' : f (bm f 0) = 0 := e
    have hbi : bmI f 0 = -2 := by unfold bmI; rw [if_pos e']
    rw [hbi] at q
    rw [e] at h2
    have hm2 : ((-2 : Int32)) = zI (-2) := rfl
    rw [hm2]
    simp (disch := omega) only [f5_votesFor, h2, nI_z, zI_add, zI_sub, zI_mul, zI_m1, ckI_z, zI_clamp, Int.toNat_natCast, bnd_some, lt, rd_same, rd_ne, rdL_same, rdL_ne, wI_2, wL_1, if_true, if_false, iT_lt, iF_lt, iT_lt0, iF_lt0, iT_0lt, iF_0lt, iT_le, iF_le, iT_le0, iF_le0, iT_0le, iF_0le, iT_eq, iF_eq, iT_eq0, iF_eq0]
    exact q
  · have e' : ¬ f (bm f 0) = 0 := e
    have hbi : bmI f 0 = ((0 : Nat) : Int) := by unfold bmI; rw [if_neg e']; rfl
    rw [hbi] at q
    have hm2 : ((-2 : Int32)) = zI (-2) := rfl
    rw [hm2]
    simp (disch := omega) only [f5_votesFor, h2, nI_z, zI_add, zI_sub, zI_mul, zI_m1, ckI_z, zI_clamp, Int.toNat_natCast, bnd_some, lt, rd_same, rd_ne, rdL_same, rdL_ne, wI_2, wL_1, if_true, if_false, iT_lt, iF_lt, iT_lt0, iF_lt0, iT_0lt, iF_0lt, iT_le, iF_le, iT_le0, iF_le0, iT_0le, iF_0le, iT_eq, iF_eq, iT_eq0, iF_eq0]
    exact q
def vansI (f : Nat → Nat) (w : Int) (v all op : Nat) : Int := if w = 0 then (f v : Int) else if w = 2 then (all : Int) else if w = 3 then (op : Int) else if all = 0 then -2 else (bm f 999 : Int)
theorem f12_most_loop {N v all op : Nat} {w : Int} {S : St} {f : Nat → Nat} (h : ∀ v, v < 1000 → S.1 168 v = zI (f v)) (hb : ∀ v, f v < 2147483648) (hw : 0 ≤ w ∧ w ≤ 3) {x4 : Int32} (hv : w = 0 → v < 1000 ∧ x4 = zI v) (ha : all < 2147483648) : ∀ (m k n : Nat), k + m = 999 → m + 1 < n → f12_votes_h224 N (zI w) x4 (zI op) (zI all) n (zI (bm f k)) (zI ((k + 1 : Nat) : Int)) S = some (zI (vansI f w v all op), S) := by
  intro m
  induction m with
  | zero =>
    intro k n hk hn
    obtain ⟨n, rfl⟩ : ∃ z, n = z + 1 := ⟨n - 1, by omega⟩
    obtain rfl : k = 999 := by omega
    unfold vansI
    rw [f12_votes_h224]
    by_cases w0 : w = 0
    · obtain ⟨v1, v2⟩ := hv w0
      rw [if_pos w0, v2]
      have := h v v1
      simp (disch := omega) only [this, nI_z, zI_add, zI_sub, zI_mul, zI_m1, ckI_z, zI_clamp, Int.toNat_natCast, bnd_some, lt, rd_same, rd_ne, rdL_same, rdL_ne, wI_2, wL_1, if_true, if_false, iT_lt, iF_lt, iT_lt0, iF_lt0, iT_0lt, iF_0lt, iT_le, iF_le, iT_le0, iF_le0, iT_0le, iF_0le, iT_eq, iF_eq, iT_eq0, iF_eq0]
    by_cases w2 : w = 2
    · rw [if_neg w0, if_pos w2]
      simp (disch := omega) only [nI_z, zI_add, zI_sub, zI_mul, zI_m1, ckI_z, zI_clamp, Int.toNat_natCast, bnd_some, lt, rd_same, rd_ne, rdL_same, rdL_ne, wI_2, wL_1, if_true, if_false, iT_lt, iF_lt, iT_lt0, iF_lt0, iT_0lt, iF_0lt, iT_le, iF_le, iT_le0, iF_le0, iT_0le, iF_0le, iT_eq, iF_eq, iT_eq0, iF_eq0]
    by_cases w3 : w = 3
    · rw [if_neg w0, if_neg w2, if_pos w3]
      simp (disch := omega) only [nI_z, zI_add, zI_sub, zI_mul, zI_m1, ckI_z, zI_clamp, Int.toNat_natCast, bnd_some, lt, rd_same, rd_ne, rdL_same, rdL_ne, wI_2, wL_1, if_true, if_false, iT_lt, iF_lt, iT_lt0, iF_lt0, iT_0lt, iF_0lt, iT_le, iF_le, iT_le0, iF_le0, iT_0le, iF_0le, iT_eq, iF_eq, iT_eq0, iF_eq0]
    · rw [if_neg w0, if_neg w2, if_neg w3]
      by_cases e : all = 0
      · rw [if_pos e]
        simp (disch := omega) only [nI_z, zI_add, zI_sub, zI_mul, zI_m1, ckI_z, zI_clamp, Int.toNat_natCast, bnd_some, lt, rd_same, rd_ne, rdL_same, rdL_ne, wI_2, wL_1, if_true, if_false, iT_lt, iF_lt, iT_lt0, iF_lt0, iT_0lt, iF_0lt, iT_le, iF_le, iT_le0, iF_le0, iT_0le, iF_0le, iT_eq, iF_eq, iT_eq0, iF_eq0]
        rfl
      · rw [if_neg e]
        simp (disch := omega) only [nI_z, zI_add, zI_sub, zI_mul, zI_m1, ckI_z, zI_clamp, Int.toNat_natCast, bnd_some, lt, rd_same, rd_ne, rdL_same, rdL_ne, wI_2, wL_1, if_true, if_false, iT_lt, iF_lt, iT_lt0, iF_lt0, iT_0lt, iF_0lt, iT_le, iF_le, iT_le0, iF_le0, iT_0le, iF_0le, iT_eq, iF_eq, iT_eq0, iF_eq0]
  | succ m ih =>
    intro k n hk hn
    obtain ⟨n, rfl⟩ : ∃ z, n = z + 1 := ⟨n - 1, by omega⟩
    have h0 := bm_le f k
    have h1 := h (bm f k) (by omega)
    have h2 := h (k + 1) (by omega)
    have b1 := hb (bm f k)
    have b2 := hb (k + 1)
    have ih1 := ih (k + 1) n (by omega) (by omega)
    have hz : zI (((k + 1 : Nat) : Int) + ((1 : Nat) : Int)) = zI ((k + 1 + 1 : Nat) : Int) := rfl
    have hbm : bm f (k + 1) = if f (bm f k) < f (k + 1) then k + 1 else bm f k := rfl
    rw [hbm] at ih1
    rw [f12_votes_h224]
    by_cases e : f (bm f k) < f (k + 1)
    · rw [if_pos e] at ih1
      simp (disch := omega) only [h1, h2, hz, f12_votes_j256, nI_z, zI_add, zI_sub, zI_mul, zI_m1, ckI_z, zI_clamp, Int.toNat_natCast, bnd_some, lt, rd_same, rd_ne, rdL_same, rdL_ne, wI_2, wL_1, if_true, if_false, iT_lt, iF_lt, iT_lt0, iF_lt0, iT_0lt, iF_0lt, iT_le, iF_le, iT_le0, iF_le0, iT_0le, iF_0le, iT_eq, iF_eq, iT_eq0, iF_eq0]
      exact ih1
    · rw [if_neg e] at ih1
      simp (disch := omega) only [h1, h2, hz, f12_votes_j256, nI_z, zI_add, zI_sub, zI_mul, zI_m1, ckI_z, zI_clamp, Int.toNat_natCast, bnd_some, lt, rd_same, rd_ne, rdL_same, rdL_ne, wI_2, wL_1, if_true, if_false, iT_lt, iF_lt, iT_lt0, iF_lt0, iT_0lt, iF_0lt, iT_le, iF_le, iT_le0, iF_le0, iT_0le, iF_0le, iT_eq, iF_eq, iT_eq0, iF_eq0]
      exact ih1
-- bounds of the sums
theorem vst_bound {g : Lg} {row : List Nat} {n t : Nat} : ∀ (l : List (Nat × List Nat)) (A : Va) (W : Nat), (∀ v, A.1 v ≤ A.2.1) → A.2.1 + A.2.2 ≤ W → (A.2.1 = 0 ∨ ∃ v, v < 1000 ∧ 0 < A.1 v) →
    (∀ v, (l.foldl (vst g row n t) A).1 v ≤ (l.foldl (vst g row n t) A).2.1) ∧ (l.foldl (vst g row n t) A).2.1 + (l.foldl (vst g row n t) A).2.2 ≤ W + (l.map (fun q => 2 ^ (n - q.1))).sum ∧ ((l.foldl (vst g row n t) A).2.1 = 0 ∨ ∃ v, v < 1000 ∧ 0 < (l.foldl (vst g row n t) A).1 v)
  | [], A, W, h1, h2, h3 => ⟨h1, h2, h3⟩
  | e :: l, A, W, h1, h2, h3 => by
    have hp : 0 < 2 ^ (n - e.1) := Nat.two_pow_pos _
    obtain ⟨i1, i2, i3⟩ := prun_MI (g := g) (p := e.2) (x := 0) (t := t) (by omega)
    have key : (∀ v, (vst g row n t A e).1 v ≤ (vst g row n t A e).2.1) ∧ (vst g row n t A e).2.1 + (vst g row n t A e).2.2 ≤ W + 2 ^ (n - e.1) ∧ ((vst g row n t A e).2.1 = 0 ∨ ∃ v, v < 1000 ∧ 0 < (vst g row n t A e).1 v) := by
      unfold vst vstr
      by_cases c1 : lk (prun g e.2 0 t).1.2.2.2.1 row = row.length ∧ row.length < (prun g e.2 0 t).1.2.2.2.1.length
      · rw [if_pos c1]
        have hqq : (prun g e.2 0 t).1.2.2.2.1[row.length]? = some (prun g e.2 0 t).1.2.2.2.1[row.length] := List.getElem?_eq_getElem c1.2
        have hgd : (prun g e.2 0 t).1.2.2.2.1.getD row.length 0 = (prun g e.2 0 t).1.2.2.2.1[row.length] := by rw [List.getD_eq_getElem?_getD, hqq]; rfl
        have hx := i1.2.2.2 _ (List.mem_of_getElem? hqq)
        rw [hgd]
        generalize (prun g e.2 0 t).1.2.2.2.1[row.length] = x at hx
        refine ⟨fun v => ?_, ?_, Or.inr ⟨x, hx, ?_⟩⟩
        · show upv A.1 x (2 ^ (n - e.1)) v ≤ A.2.1 + 2 ^ (n - e.1)
          have := h1 v
          by_cases q : v = x
          · rw [q, upv_s]; have := h1 x; omega
          · rw [upv_n q]; omega
        · show A.2.1 + 2 ^ (n - e.1) + A.2.2 ≤ _
          omega
        · show 0 < upv A.1 x (2 ^ (n - e.1)) x
          rw [upv_s]; omega
      · rw [if_neg c1]
        by_cases c2 : lk (prun g e.2 0 t).1.2.2.2.1 row = (prun g e.2 0 t).1.2.2.2.1.length ∧ (prun g e.2 0 t).2.2 = 2
        · rw [if_pos c2]
          refine ⟨h1, ?_, h3⟩
          show A.2.1 + (A.2.2 + 2 ^ (n - e.1)) ≤ _
          omega
        · rw [if_neg c2]
          exact ⟨h1, by omega, h3⟩
    have ih := vst_bound (g := g) (row := row) (n := n) (t := t) l (vst g row n t A e) (W + 2 ^ (n - e.1)) key.1 key.2.1 key.2.2
    rw [List.foldl_cons, List.map_cons, List.sum_cons, ← Nat.add_assoc]
    exact ih
theorem votesP_bound {g : Lg} {row : List Nat} {n t : Nat} (hg : LV g) (hn : n ≤ 14) : (∀ v, (votesP g row n t).1 v ≤ (votesP g row n t).2.1) ∧ (votesP g row n t).2.1 ≤ 16384 ∧ ((votesP g row n t).2.1 = 0 ∨ ∃ v, v < 1000 ∧ 0 < (votesP g row n t).1 v) := by
  have h := vst_bound (g := g) (row := row) (n := n) (t := t) (progs (bit g) (rkf g) n) va0 0 (fun v => Nat.le_refl _) (Nat.le_refl _) (Or.inl rfl)
  have h2 := kraft_le (fun o => (bit_pos hg o).1) (fun o => (bit_pos hg o).2) (rkf_kraft hg) 12 n
  rw [← progs_weight (fun o => (bit_pos hg o).1) n] at h2
  have h3 : 2 ^ n ≤ 2 ^ 14 := Nat.pow_le_pow_right (by omega) hn
  refine ⟨h.1, ?_, h.2.2⟩
  have h4 := h.2.1
  show ((progs (bit g) (rkf g) n).foldl (vst g row n t) va0).2.1 ≤ 16384
  omega
