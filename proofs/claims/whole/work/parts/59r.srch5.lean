/-! The class's findAnswer. -/
def SB (S : St) (a0 : Nat) (g : Lg) (x P : Nat) (b : Option (List Pg × Pg × List Pg)) : Prop := S.1 a0 3 = zI P ∧ match b with
  | none => S.1 a0 2 = zI ((0 : Nat) : Int)
  | some (_, e, _) => S.1 a0 2 = zI ((1 : Nat) : Int) ∧ S.1 a0 4 = zI (rk g x e P).2.1 ∧ S.1 a0 5 = zI e.1 ∧ PR S (a0 + 3) e.2
def saP (a0 a2 c k : Nat) : Prop := mcP c k ∨ (c = a0 ∧ 2 ≤ k ∧ k ≤ 5) ∨ (a0 + 1 ≤ c ∧ c ≤ a0 + 4) ∨ skP a2 c k
theorem SB.same {Q : Nat → Nat → Prop} {S S2 : St} {a0 x P : Nat} {g : Lg} {b : Option (List Pg × Pg × List Pg)} (h : SB S a0 g x P b) (hs : Same Q S S2) (h1 : ∀ k, ¬ Q a0 k) (h2 : ∀ k, ¬ Q (a0 + 3) k) (h3 : ∀ k, ¬ Q (a0 + 3 + 1) k) : SB S2 a0 g x P b := by
  cases b with
  | none => exact ⟨by rw [hs.i (h1 3)]; exact h.1, by have := h.2; show S2.1 a0 2 = _; rw [hs.i (h1 2)]; exact this⟩
  | some q =>
    obtain ⟨a1, a2, a3, a4, a5⟩ := h
    exact ⟨by rw [hs.i (h1 3)]; exact a1, by rw [hs.i (h1 2)]; exact a2, by rw [hs.i (h1 4)]; exact a3, by rw [hs.i (h1 5)]; exact a4, a5.same hs h2 h3⟩
theorem fa_loop {N a0 a1 a2 x n nT : Nat} {T : Nat → Nat} {l : List Nat} {g : Lg} (hg : LV g) (hN : 100000 ≤ N) (h0 : 10 ≤ a0 ∧ a0 + 4 < 50) (h1 : 50 ≤ a1 ∧ a1 + 10 < 116) (h2 : 116 ≤ a2 ∧ a2 < 146) (hn : n ≤ 14) (hx : x < 1000) (hnT : nT ≤ 60) (hT : ∀ i, T i < 256) (hp : pAll T nT = .inr l) :
    ∀ (C A : List Pg) (i m K P : Nat) (S : St) (b : Option (List Pg × Pg × List Pg)), progs (bit g) (rkf g) n = A ++ C → i = A.length → C.length < m → 1 ≤ P → CL S a1 g → AK S a2 l → S.1 a2 2 = zI x → Bst g x l n A P b → SB S a0 g x P b → PRl S (a0 + 1) (P - 1) C → CMq S K → K + 9 * C.length + 10 < 2147483648 →
    ∃ S2 K2 A2 C2 P2 b2, f7_findAnswer_h38 N a0 a1 a2 m (zI (hdl (P - 1) C)) (zI i) S = some ((), S2) ∧ progs (bit g) (rkf g) n = A2 ++ C2 ∧ (∀ f ∈ C2, P2 - 1 < f.1) ∧ Bst g x l n A2 P2 b2 ∧ SB S2 a0 g x P2 b2 ∧ CMq S2 K2 ∧ K ≤ K2 ∧ K2 ≤ K + 9 * C.length ∧ Same (saP a0 a2) S S2 := by
  intro C
  induction C with
  | nil =>
    intro A i m K P S b hL hi hm hP hc hk hx2 hB hS hR hK hKb
    obtain ⟨m, rfl⟩ : ∃ z, m = z + 1 := ⟨m - 1, by omega⟩
    have hcap := progs_cap hg hn hL
    rw [List.length_nil] at hcap
    refine ⟨S, K, A, [], P, b, ?_, hL, (fun f hf => by cases hf), hB, hS, hK, by omega, by omega, Same.rfl'⟩
    have hz : hdl (P - 1) [] = 0 := rfl
    rw [hz, f7_findAnswer_h38]
    simp (disch := omega) only [nI_z, zI_add, zI_sub, zI_mul, zI_m1, ckI_z, zI_clamp, Int.toNat_natCast, bnd_some, lt, rd_same, rd_ne, rdL_same, rdL_ne, wI_2, wL_1, if_true, if_false, iT_lt, iF_lt, iT_lt0, iF_lt0, iT_0lt, iF_0lt, iT_le, iF_le, iT_le0, iF_le0, iT_0le, iF_0le, iT_eq, iF_eq, iT_eq0, iF_eq0]
  | cons e C ih =>
    intro A i m K P S b hL hi hm hP hc hk hx2 hB hS hR hK hKb
    obtain ⟨m, rfl⟩ : ∃ z, m = z + 1 := ⟨m - 1, by omega⟩
    have hcap := progs_cap hg hn hL
    obtain ⟨p1, p2, p3, p4, p5⟩ := progs_wp hg hL
    rw [List.length_cons] at hm hKb hcap
    have hPn := hB.P_le
    have hP3 := hS.1
    by_cases c : e.1 ≤ P - 1
    · have hz : hdl (P - 1) (e :: C) = e.1 := if_pos c
      rw [hz]
      have hpr := hR e C rfl c
      have hpw : 2 ^ (P - 1 - e.1) ≤ 2 ^ 14 := Nat.pow_le_pow_right (by omega) (by omega)
      obtain ⟨S1, S2, r1, r2, r3, r4, r5⟩ := f4_run_ok (N := N) (x := x) (t := 2 ^ (P - 1 - e.1)) hg (by omega : 11 ≤ a1) (by omega : a0 + 1 + 1 < 6 ∨ 9 < a0 + 1) hN p3 p4 hx (by omega) (by omega) hc hpr hK
      obtain ⟨i1, i2, i3⟩ := prun_MI (g := g) (p := e.2) (x := x) (t := 2 ^ (P - 1 - e.1)) hx
      have hP3' : S1.1 a0 3 = zI P := by rw [r4.i (by unfold mcP; omega)]; exact hP3
      have hz1 : (P : Int) - ((1 : Nat) : Int) = ((P - 1 : Nat) : Int) := by omega
      have hst := stepsIn_ok (S := S1) c (by omega : P - 1 ≤ 14)
      have hk2 : AK S2 a2 l := hk.same r5 (by unfold mcP; omega) (fun k => by unfold mcP; omega)
      have hx3 : S2.1 a2 2 = zI x := by rw [r5.i (by unfold mcP; omega)]; exact hx2
      obtain ⟨S3, t1, t2, t3⟩ := isp_ans (N := N) (r := prun g e.2 x (2 ^ (P - 1 - e.1))) (by omega) (by omega) hnT hT hp hk2 hx3 r3 i1 i2
      have s3 : Same (saP a0 a2) S S3 := (r5.mono (fun c k z => Or.inl z)).tr (t3.mono (fun c k z => Or.inr (Or.inr (Or.inr z))))
      have s3n : Same (fun c k => mcP c k ∨ skP a2 c k) S S3 := (r5.mono (fun c k z => Or.inl z)).tr (t3.mono (fun c k z => Or.inr z))
      have hq3 : CMq S3 (K + 1 + (prun g e.2 x (2 ^ (P - 1 - e.1))).1.2.2.2.1.length) := r3.q.same t3 (fun c k z => by unfold mcP at z; unfold skP; omega)
      have hl8 := i1.2.2.1
      have hS3 : SB S3 a0 g x P b := hS.same s3n (fun k => by unfold mcP skP; omega) (fun k => by unfold mcP skP; omega) (fun k => by unfold mcP skP; omega)
      have hpr3 : PR S3 (a0 + 1) e.2 := hpr.same s3n (fun k => by unfold mcP skP; omega) (fun k => by unfold mcP skP; omega)
      have h65 : S3.1 6 5 = zI (rk g x e (P - 1)).2.1 := by rw [t3.i (by unfold skP; omega)]; exact r3.2.2.2.2.2.1
      -- the walk goes on
      have next : ∀ (S4 : St) (P2 : Nat) (b2 : Option (List Pg × Pg × List Pg)), Same (saP a0 a2) S S4 → CMq S4 (K + 1 + (prun g e.2 x (2 ^ (P - 1 - e.1))).1.2.2.2.1.length) → 1 ≤ P2 → Bst g x l n (A ++ [e]) P2 b2 → SB S4 a0 g x P2 b2 → PR S4 (a0 + 1) e.2 →
          ∃ S2 K2 A2 C2 P3 b3, f7_findAnswer_j133 N a0 a1 a2 (zI i) (f7_findAnswer_h38 N a0 a1 a2 m) S4 = some ((), S2) ∧ progs (bit g) (rkf g) n = A2 ++ C2 ∧ (∀ f ∈ C2, P3 - 1 < f.1) ∧ Bst g x l n A2 P3 b3 ∧ SB S2 a0 g x P3 b3 ∧ CMq S2 K2 ∧ K ≤ K2 ∧ K2 ≤ K + 9 * (C.length + 1) ∧ Same (saP a0 a2) S S2 := fun S4 P2 b2 s4 q4 u1 u2 u3 u4 => by
        have hPn2 := u2.P_le
        have hc4 : CL S4 a1 g := hc.same hg s4 (fun c k z _ => by unfold saP mcP skP; omega)
        obtain ⟨S5, d1, d2, d3⟩ := follow_lim (N := N) (L := P2 - 1) hg (by omega : a0 + 1 + 1 < a1) (by omega) hc4 u4 hn (by omega) hL
        have s5 : Same (saP a0 a2) S S5 := s4.tr (d3.mono (fun c k z => by unfold rgP at z; exact Or.inr (Or.inr (Or.inl (by omega)))))
        obtain ⟨S6, K6, A6, C6, P6, b6, f1, f2, f3, f4, f5, f6, f7, f8, f9⟩ := ih (A ++ [e]) (i + 1) m _ P2 S5 b2 (by rw [hL]; simp) (by rw [hi]; simp) (by omega) u1 (hc.same hg s5 (fun c k z _ => by unfold saP mcP skP; omega)) (hk.same s5 (by unfold saP mcP skP; omega) (fun k => by unfold saP mcP skP; omega)) (by rw [s5.i (by unfold saP mcP skP; omega)]; exact hx2) u2 (u3.same d3 (fun k => by unfold rgP; omega) (fun k => by unfold rgP; omega) (fun k => by unfold rgP; omega)) d2 (q4.same d3 (fun c k z => by unfold mcP at z; unfold rgP; omega)) (by omega)
        refine ⟨S6, K6, A6, C6, P6, b6, ?_, f2, f3, f4, f5, f6, by omega, by omega, s5.tr f9⟩
        unfold f7_findAnswer_j133
        have hz2 : (P2 : Int) - ((1 : Nat) : Int) = ((P2 - 1 : Nat) : Int) := by omega
        rw [u3.1, nI_z 1, zI_sub, hz2, d1, bnd_some, zI_add]
        exact f1
      have hstep : f7_findAnswer_h38 N a0 a1 a2 (m + 1) (zI e.1) (zI i) S = bnd (f1_isPassedBy N a2 S2) fun q11 S12 => if q11 = 0 then f7_findAnswer_j133 N a0 a1 a2 (zI i) (f7_findAnswer_h38 N a0 a1 a2 m) S12 else lt (wI S12 a0 2 (nI 1)) fun S14 => bnd (f6_become (a0 + 3) (a0 + 1) S14) fun q15 S16 => lt (wI S16 a0 5 (zI e.1)) fun S17 => bnd (f4_steps S17) fun q18 S19 => lt (wI S19 a0 4 q18) fun S20 => bnd (f7_phaseOf N (zI e.1) (S20.1 a0 4) S20) fun q21 S22 => lt (wI S22 a0 3 q21) fun S23 => f7_findAnswer_j133 N a0 a1 a2 (zI i) (f7_findAnswer_h38 N a0 a1 a2 m) S23 := by
        rw [f7_findAnswer_h38, nI_z 1000000, iF_le (by omega), iF_le0 (by omega)]
        unfold f1_input
        rw [bnd_some, hx2, r1, bnd_some, hP3', nI_z 1, zI_sub, hz1, hst, bnd_some, r2, bnd_some]
      rw [List.length_cons, hstep]
      by_cases ca : ans g x l e (P - 1)
      · have hyes := hB.yes (k := phs e.1 (rk g x e (P - 1)).2.1 (14 - e.1) e.1) c hP hn ca rfl
        have hrl := (rk_steps g x e (P - 1)).1
        have hph := fun S => phaseOf_ok (N := N) (S := S) (s := e.1) (r := (rk g x e (P - 1)).2.1) (by omega) (14 - e.1) e.1 N
        generalize phs e.1 (rk g x e (P - 1)).2.1 (14 - e.1) e.1 = k at hyes hph
        obtain ⟨y1, y2, y3⟩ := hyes
        rw [t1 ca, bnd_some, if_neg (by decide)]
        have sA : Same (saP a0 a2) S3 (wI S3 a0 2 (nI 1)) := (Same.rfl' (P := saP a0 a2)).wI (by unfold saP; omega)
        have hprA : PR (wI S3 a0 2 (nI 1)) (a0 + 1) e.2 := hpr3.same ((Same.rfl' (P := fun c k => c = a0 ∧ k = 2)).wI ⟨rfl, rfl⟩) (fun k => by omega) (fun k => by omega)
        obtain ⟨S4, g1, g2, g3⟩ := f6_become_ok (a0 := a0 + 3) (a1 := a0 + 1) (by omega) (by omega) hprA
        have h65' : S4.1 6 5 = zI (rk g x e (P - 1)).2.1 := by rw [g3.i (by unfold rgP; omega), rd_ne (by omega)]; exact h65
        have h42 : S4.1 a0 2 = zI ((1 : Nat) : Int) := by rw [g3.i (by unfold rgP; omega), rd_same]; rfl
        have sB : Same (fun c k => c = a0 ∧ 3 ≤ k ∧ k ≤ 5) S4 (wI (wI (wI S4 a0 5 (zI e.1)) a0 4 (zI (rk g x e (P - 1)).2.1)) a0 3 (zI k)) := ((Same.rfl' (P := fun c k => c = a0 ∧ 3 ≤ k ∧ k ≤ 5)) |>.wI (by omega) |>.wI (by omega)).wI (by omega)
        have s34 : Same (saP a0 a2) S3 (wI (wI (wI S4 a0 5 (zI e.1)) a0 4 (zI (rk g x e (P - 1)).2.1)) a0 3 (zI k)) := (sA.tr (g3.mono (fun c k z => by unfold rgP at z; exact Or.inr (Or.inr (Or.inl (by omega)))))).tr (sB.mono (fun c k z => Or.inr (Or.inl (by omega))))
        have s34m : Same (fun c k => a0 ≤ c ∧ c ≤ a0 + 4 ∧ ¬ (c = a0 + 1 ∨ c = a0 + 2)) S3 (wI (wI (wI S4 a0 5 (zI e.1)) a0 4 (zI (rk g x e (P - 1)).2.1)) a0 3 (zI k)) := (((Same.rfl' (P := fun c k => a0 ≤ c ∧ c ≤ a0 + 4 ∧ ¬ (c = a0 + 1 ∨ c = a0 + 2))).wI (by omega)).tr (g3.mono (fun c k z => by unfold rgP at z; omega))).tr (sB.mono (fun c k z => by omega))
        have hfin := next (wI (wI (wI S4 a0 5 (zI e.1)) a0 4 (zI (rk g x e (P - 1)).2.1)) a0 3 (zI k)) k (some (A, e, [])) (s3.tr s34) (hq3.same s34m (fun c k z => by unfold mcP at z; omega)) (by have := y3.2.1; omega) y3 ⟨rd_same, by show (wI (wI (wI S4 a0 5 (zI e.1)) a0 4 (zI (rk g x e (P - 1)).2.1)) a0 3 (zI k)).1 a0 2 = _; rw [sB.i (by omega)]; exact h42, by rw [rd_ne (by omega), rd_same, y2], by rw [rd_ne (by omega), rd_ne (by omega), rd_same], g2.same sB (fun k => by omega) (fun k => by omega)⟩ (hpr3.same s34m (fun k => by omega) (fun k => by omega))
        obtain ⟨S5, K5, A5, C5, P5, b5, f1, f2⟩ := hfin
        have e65 : (wI S4 a0 5 (zI e.1)).1 6 5 = zI (rk g x e (P - 1)).2.1 := by rw [rd_ne (by omega)]; exact h65'
        refine ⟨S5, K5, A5, C5, P5, b5, ?_, f2⟩
        simp only [lt]
        rw [g1, bnd_some]
        unfold f4_steps f7_phaseOf
        rw [bnd_some, e65, rd_same, hph _ (by omega) (by omega) (Nat.le_refl _), bnd_some]
        exact f1
      · rw [t2 ca, bnd_some, iT_eq0 rfl]
        exact next S3 P _ s3 hq3 hP (hB.no ca) (by
          cases b with
          | none => exact hS3
          | some q => exact hS3) hpr3
    · have hz : hdl (P - 1) (e :: C) = 0 := if_neg c
      rw [hz]
      refine ⟨S, K, A, e :: C, P, b, ?_, hL, fun f hf => ?_, hB, hS, hK, by omega, by omega, Same.rfl'⟩
      · rw [f7_findAnswer_h38]
        simp (disch := omega) only [nI_z, zI_add, zI_sub, zI_mul, zI_m1, ckI_z, zI_clamp, Int.toNat_natCast, bnd_some, lt, rd_same, rd_ne, rdL_same, rdL_ne, wI_2, wL_1, if_true, if_false, iT_lt, iF_lt, iT_lt0, iF_lt0, iT_0lt, iF_0lt, iT_le, iF_le, iT_le0, iF_le0, iT_0le, iF_0le, iT_eq, iF_eq, iT_eq0, iF_eq0]
      · rcases progs_split (L := P - 1) (by omega) hL with ⟨d1, d2⟩ | ⟨d1, _⟩
        · rcases List.mem_cons.mp hf with z | z
          · rw [z]; exact d1
          · exact d2 f z
        · omega
