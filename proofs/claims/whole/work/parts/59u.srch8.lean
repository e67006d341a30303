/-! PURE: no row twice; what the class's addUp adds. -/
theorem progs_apart {g : Lg} {n : Nat} {A C : List Pg} {e : Pg} (h : progs (bit g) (rkf g) n = A ++ e :: C) : e ∉ A ∧ e ∉ C := by
  have hn := progs_nodup g n
  rw [h, List.nodup_append] at hn
  refine ⟨fun q => hn.2.2 e q e List.mem_cons_self rfl, fun q => ?_⟩
  exact (List.nodup_cons.mp hn.2.1).1 q
def tadd (a b : Nat × Nat × Nat) : Nat × Nat × Nat := (a.1 + b.1, a.2.1 + b.2.1, a.2.2 + b.2.2)
theorem tadd_z (a : Nat × Nat × Nat) : tadd a (0, 0, 0) = a := rfl
theorem z_tadd (a : Nat × Nat × Nat) : tadd (0, 0, 0) a = a := by
  show (0 + a.1, 0 + a.2.1, 0 + a.2.2) = a
  rw [Nat.zero_add, Nat.zero_add, Nat.zero_add]
theorem tadd_a (a b c : Nat × Nat × Nat) : tadd (tadd a b) c = tadd a (tadd b c) := by
  show (a.1 + b.1 + c.1, a.2.1 + b.2.1 + c.2.1, a.2.2 + b.2.2 + c.2.2) = (a.1 + (b.1 + c.1), a.2.1 + (b.2.1 + c.2.1), a.2.2 + (b.2.2 + c.2.2))
  rw [Nat.add_assoc, Nat.add_assoc, Nat.add_assoc]
theorem tadd_c (a b : Nat × Nat × Nat) : tadd a b = tadd b a := by
  show (a.1 + b.1, a.2.1 + b.2.1, a.2.2 + b.2.2) = (b.1 + a.1, b.2.1 + a.2.1, b.2.2 + a.2.2)
  rw [Nat.add_comm a.1, Nat.add_comm a.2.1, Nat.add_comm a.2.2]
theorem tots_t (g : Lg) (x k : Nat) (A B : List Pg) : tots g x k (A ++ B) = tadd (tots g x k A) (tots g x k B) := tots_app g x k A B
theorem tots_c (g : Lg) (x k : Nat) (e : Pg) (L : List Pg) : tots g x k (e :: L) = tadd (tot g x k e) (tots g x k L) := rfl
theorem tots_1 (g : Lg) (x k : Nat) (e : Pg) : tots g x k [e] = tot g x k e := rfl
theorem tots_0 {g : Lg} {x k : Nat} : ∀ {L : List Pg}, (∀ f ∈ L, k < f.1) → tots g x k L = (0, 0, 0)
  | [], _ => rfl
  | e :: L, h => by
    have h1 := h e List.mem_cons_self
    rw [tots_c, tots_0 (fun f hf => h f (List.mem_cons_of_mem _ hf)), tadd_z]
    unfold tot
    rw [if_neg (by omega)]
/-- what addUp adds: with the answer the limit falls by one -/
noncomputable def adds (g : Lg) (x : Nat) (o : Option Pg) : Nat → List Pg → Nat × Nat × Nat
  | _, [] => (0, 0, 0)
  | P, f :: C => tadd (tot g x P f) (adds g x o (if o = some f then P - 1 else P) C)
theorem adds_0 {g : Lg} {x : Nat} {o : Option Pg} : ∀ {L : List Pg} {P : Nat}, (∀ f ∈ L, P < f.1) → adds g x o P L = (0, 0, 0)
  | [], _, _ => rfl
  | e :: L, P, h => by
    have h1 := h e List.mem_cons_self
    have h2 : tot g x P e = (0, 0, 0) := by unfold tot; rw [if_neg (by omega)]
    have h3 : ∀ f ∈ L, (if o = some e then P - 1 else P) < f.1 := fun f hf => by
      have := h f (List.mem_cons_of_mem _ hf)
      by_cases c : o = some e
      · rw [if_pos c]; omega
      · rw [if_neg c]; exact this
    unfold adds
    rw [adds_0 h3, h2]
    rfl
theorem adds_not {g : Lg} {x P : Nat} {o : Option Pg} : ∀ {L : List Pg}, (∀ f ∈ L, o ≠ some f) → adds g x o P L = tots g x P L
  | [], _ => rfl
  | e :: L, h => by
    unfold adds
    rw [if_neg (h e List.mem_cons_self), adds_not (fun f hf => h f (List.mem_cons_of_mem _ hf))]
    rfl
theorem adds_at {g : Lg} {x P : Nat} {e : Pg} {C : List Pg} (hC : e ∉ C) : ∀ {A : List Pg}, e ∉ A → adds g x (some e) P (A ++ e :: C) = tadd (tots g x P (A ++ [e])) (tots g x (P - 1) C)
  | [], _ => by
    show adds g x (some e) P (e :: C) = tadd (tots g x P [e]) (tots g x (P - 1) C)
    unfold adds
    rw [if_pos rfl, adds_not (fun f hf q => hC (by injection q with q; rw [q]; exact hf)), tots_1]
  | a :: A, h => by
    have h1 : a ≠ e := fun q => h (by rw [q]; exact List.mem_cons_self)
    show adds g x (some e) P (a :: (A ++ e :: C)) = tadd (tots g x P (a :: (A ++ [e]))) (tots g x (P - 1) C)
    unfold adds
    rw [if_neg (fun q => h1 (by injection q with q; exact q.symm)), adds_at hC (fun q => h (List.mem_cons_of_mem _ q)), tots_c, tadd_a]
/-! The class's addUp. -/
def AO (S : St) (a0 : Nat) (o : Option Pg) : Prop := match o with
  | none => S.1 a0 2 = zI ((0 : Nat) : Int)
  | some e => S.1 a0 2 = zI ((1 : Nat) : Int) ∧ PR S (a0 + 3) e.2
theorem AO.same {Q : Nat → Nat → Prop} {S S2 : St} {a0 : Nat} {o : Option Pg} (h : AO S a0 o) (hs : Same Q S S2) (h1 : ¬ Q a0 2) (h2 : ∀ k, ¬ Q (a0 + 3) k) (h3 : ∀ k, ¬ Q (a0 + 3 + 1) k) : AO S2 a0 o := by
  cases o with
  | none => show S2.1 a0 2 = _; rw [hs.i h1]; exact h
  | some e => exact ⟨by rw [hs.i h1]; exact h.1, h.2.same hs h2 h3⟩
def A6 (S : St) (a0 : Nat) (t : Nat × Nat × Nat) : Prop := S.1 a0 6 = zI (t.1 : Nat) ∧ S.1 a0 7 = zI (t.2.1 : Nat) ∧ S.1 a0 8 = zI (t.2.2 : Nat)
theorem A6.same {Q : Nat → Nat → Prop} {S S2 : St} {a0 : Nat} {t : Nat × Nat × Nat} (h : A6 S a0 t) (hs : Same Q S S2) (h1 : ∀ k, ¬ Q a0 k) : A6 S2 a0 t := ⟨by rw [hs.i (h1 6)]; exact h.1, by rw [hs.i (h1 7)]; exact h.2.1, by rw [hs.i (h1 8)]; exact h.2.2⟩
def auP (a0 c k : Nat) : Prop := mcP c k ∨ (c = a0 ∧ 6 ≤ k ∧ k ≤ 8) ∨ (a0 + 1 ≤ c ∧ c ≤ a0 + 2)
theorem au_loop {N a0 a1 n x : Nat} {g : Lg} {o : Option Pg} (hg : LV g) (hN : 100000 ≤ N) (h0 : 10 ≤ a0 ∧ a0 + 4 < 50) (h1 : 50 ≤ a1 ∧ a1 + 10 < 116) (hn : n ≤ 14) (hx : x < 1000) (ho : ∀ e, o = some e → bsum g e.2 = e.1) :
    ∀ (C A : List Pg) (i m K P : Nat) (S : St) (acc : Nat × Nat × Nat), progs (bit g) (rkf g) n = A ++ C → i = A.length → C.length < m → P ≤ n → CL S a1 g → AO S a0 o → PRl S (a0 + 1) P C → CMq S K → K + 9 * C.length + 10 < 2147483648 → A6 S a0 acc →
    ∃ S2 K2, f7_addUp_h54 N a0 a1 (zI x) m (zI P) (zI (hdl P C)) (zI i) S = some ((), S2) ∧ A6 S2 a0 (tadd acc (adds g x o P C)) ∧ CMq S2 K2 ∧ K ≤ K2 ∧ K2 ≤ K + 9 * C.length ∧ Same (auP a0) S S2 := by
  intro C
  induction C with
  | nil =>
    intro A i m K P S acc hL hi hm hP hc hO hR hK hKb h6
    obtain ⟨m, rfl⟩ : ∃ z, m = z + 1 := ⟨m - 1, by omega⟩
    have hcap := progs_cap hg hn hL
    rw [List.length_nil] at hcap
    refine ⟨S, K, ?_, h6, hK, by omega, by omega, Same.rfl'⟩
    have hz : hdl P [] = 0 := rfl
    rw [hz, f7_addUp_h54]
    simp (disch := omega) only [nI_z, zI_add, zI_sub, zI_mul, zI_m1, ckI_z, zI_clamp, Int.toNat_natCast, bnd_some, lt, rd_same, rd_ne, rdL_same, rdL_ne, wI_2, wL_1, if_true, if_false, iT_lt, iF_lt, iT_lt0, iF_lt0, iT_0lt, iF_0lt, iT_le, iF_le, iT_le0, iF_le0, iT_0le, iF_0le, iT_eq, iF_eq, iT_eq0, iF_eq0]
  | cons e C ih =>
    intro A i m K P S acc hL hi hm hP hc hO hR hK hKb h6
    obtain ⟨m, rfl⟩ : ∃ z, m = z + 1 := ⟨m - 1, by omega⟩
    have hcap := progs_cap hg hn hL
    obtain ⟨p1, p2, p3, p4, p5⟩ := progs_wp hg hL
    rw [List.length_cons] at hm hKb hcap
    by_cases c : e.1 ≤ P
    · have hz : hdl P (e :: C) = e.1 := if_pos c
      rw [hz]
      have hpr := hR e C rfl c
      have hpw : 2 ^ (P - e.1) ≤ 2 ^ 14 := Nat.pow_le_pow_right (by omega) (by omega)
      obtain ⟨S1, S2, r1, r2, r3, r4, r5⟩ := f4_run_ok (N := N) (x := x) (t := 2 ^ (P - e.1)) hg (by omega : 11 ≤ a1) (by omega : a0 + 1 + 1 < 6 ∨ 9 < a0 + 1) hN p3 p4 hx (by omega) (by omega) hc hpr hK
      obtain ⟨i1, i2, i3⟩ := prun_MI (g := g) (p := e.2) (x := x) (t := 2 ^ (P - e.1)) hx
      have hst := stepsIn_ok (S := S1) c (by omega : P ≤ 14)
      have hl8 := i1.2.2.1
      have h65 : S2.1 6 5 = zI (rk g x e P).2.1 := r3.2.2.2.2.2.1
      have h66 : S2.1 6 6 = zI (rk g x e P).2.2 := r3.2.2.2.2.2.2.1
      have hq2 : CMq S2 (K + 1 + (prun g e.2 x (2 ^ (P - e.1))).1.2.2.2.1.length) := r3.q
      have h62 : A6 S2 a0 acc := h6.same r5 (fun k => by unfold mcP; omega)
      have hO2 : AO S2 a0 o := hO.same r5 (by unfold mcP; omega) (fun k => by unfold mcP; omega) (fun k => by unfold mcP; omega)
      have hpr2 : PR S2 (a0 + 1) e.2 := hpr.same r5 (fun k => by unfold mcP; omega) (fun k => by unfold mcP; omega)
      have hc2 : CL S2 a1 g := hc.same hg r5 (fun c k z _ => by unfold mcP; omega)
      have htot : tot g x P e = ((rk g x e P).2.1, 1, if (rk g x e P).2.2 = 1 then 1 else 0) := by unfold tot; rw [if_pos c]
      -- behind the numbers
      have go : ∀ S3 : St, Same (fun c k => c = a0 ∧ 6 ≤ k ∧ k ≤ 8) S2 S3 → A6 S3 a0 (tadd acc (tot g x P e)) →
          ∃ S4 K4, f7_addUp_j132 N a0 a1 (zI x) (zI P) (zI i) (f7_addUp_h54 N a0 a1 (zI x) m) S3 = some ((), S4) ∧ A6 S4 a0 (tadd acc (adds g x o P (e :: C))) ∧ CMq S4 K4 ∧ K ≤ K4 ∧ K4 ≤ K + 9 * (C.length + 1) ∧ Same (auP a0) S S4 := fun S3 s3 h63 => by
        have hO3 : AO S3 a0 o := hO2.same s3 (by omega) (fun k => by omega) (fun k => by omega)
        have hpr3 : PR S3 (a0 + 1) e.2 := hpr2.same s3 (fun k => by omega) (fun k => by omega)
        have hc3 : CL S3 a1 g := hc2.same hg s3 (fun c k z _ => by omega)
        have hq3 := hq2.same s3 (fun c k z => by unfold mcP at z; omega)
        have s03 : Same (auP a0) S S3 := (r5.mono (fun c k z => Or.inl z)).tr (s3.mono (fun c k z => Or.inr (Or.inl z)))
        have next : ∀ P2 : Nat, P2 ≤ n → P2 = (if o = some e then P - 1 else P) → ∃ S4 K4, f7_addUp_j149 N a0 a1 (zI x) (zI P2) (zI i) (f7_addUp_h54 N a0 a1 (zI x) m) S3 = some ((), S4) ∧ A6 S4 a0 (tadd acc (adds g x o P (e :: C))) ∧ CMq S4 K4 ∧ K ≤ K4 ∧ K4 ≤ K + 9 * (C.length + 1) ∧ Same (auP a0) S S4 := fun P2 hP2 hPe => by
          obtain ⟨S5, d1, d2, d3⟩ := follow_lim (N := N) (L := P2) hg (by omega : a0 + 1 + 1 < a1) (by omega) hc3 hpr3 hn hP2 hL
          have s5 : Same (auP a0) S S5 := s03.tr (d3.mono (fun c k z => by unfold rgP at z; exact Or.inr (Or.inr (by omega))))
          obtain ⟨S6, K6, f1, f2, f3, f4, f5, f6⟩ := ih (A ++ [e]) (i + 1) m _ P2 S5 (tadd acc (tot g x P e)) (by rw [hL]; simp) (by rw [hi]; simp) (by omega) hP2 (hc.same hg s5 (fun c k z _ => by unfold auP mcP; omega)) (hO3.same d3 (by unfold rgP; omega) (fun k => by unfold rgP; omega) (fun k => by unfold rgP; omega)) d2 (hq3.same d3 (fun c k z => by unfold mcP at z; unfold rgP; omega)) (by omega) (h63.same d3 (fun k => by unfold rgP; omega))
          refine ⟨S6, K6, ?_, ?_, f3, by omega, by omega, s5.tr f6⟩
          · unfold f7_addUp_j149
            rw [d1, bnd_some, nI_z 1, zI_add]
            exact f1
          · unfold adds
            rw [← hPe, ← tadd_a]
            exact f2
        unfold f7_addUp_j132
        cases o with
        | none =>
          have hO3 : S3.1 a0 2 = zI ((0 : Nat) : Int) := hO3
          rw [hO3, iT_eq0 (a := ((0 : Nat) : Int)) rfl]
          exact next P hP (by rw [if_neg (fun q => by cases q)])
        | some f =>
          obtain ⟨o1, o2⟩ := hO3
          rw [o1, iF_eq0 (by omega), isAns_ok (N := N) (by omega) hpr3 o2, bnd_some]
          by_cases d : e.2 = f.2
          · have hfe : (some f : Option Pg) = some e := by
              have := ho f rfl
              rw [← d, p5] at this
              rw [show f = e from Prod.ext this.symm d.symm]
            rw [bI_t d, if_neg (by decide)]
            have hPm : zI (P : Int) + (-1) = zI ((P - 1 : Nat) : Int) := by
              rw [zI_m1, zI_add]
              congr 1
              omega
            rw [hPm]
            exact next (P - 1) (by omega) (by rw [if_pos hfe])
          · have hfe : (some f : Option Pg) ≠ some e := fun q => d (by injection q with q; rw [q])
            rw [bI_f d, iT_eq0 rfl]
            exact next P hP (by rw [if_neg hfe])
      have hstep : f7_addUp_h54 N a0 a1 (zI x) (m + 1) (zI P) (zI e.1) (zI i) S = lt (wI S2 a0 6 ((S2.1 a0 6) + (S2.1 6 5))) fun S11 => lt (wI S11 a0 7 ((S11.1 a0 7) + (nI 1))) fun S12 => bnd (f4_state S12) fun q13 S14 => if q13 = (nI 1) then lt (wI S14 a0 8 ((S14.1 a0 8) + (nI 1))) fun S16 => f7_addUp_j132 N a0 a1 (zI x) (zI P) (zI i) (f7_addUp_h54 N a0 a1 (zI x) m) S16 else f7_addUp_j132 N a0 a1 (zI x) (zI P) (zI i) (f7_addUp_h54 N a0 a1 (zI x) m) S14 := by
        rw [f7_addUp_h54, nI_z 1000000, iF_le (by omega), iF_le0 (by omega), r1, bnd_some, hst, bnd_some, r2, bnd_some]
        rfl
      obtain ⟨q6, q7, q8⟩ := h62
      rw [List.length_cons, hstep, q6, h65, zI_add]
      simp only [lt]
      have e7 : (wI S2 a0 6 (zI ((acc.1 : Int) + ((rk g x e P).2.1 : Int)))).1 a0 7 = zI (acc.2.1 : Nat) := by rw [rd_ne (by omega)]; exact q7
      rw [e7, nI_z 1, zI_add]
      have sB : Same (fun c k => c = a0 ∧ 6 ≤ k ∧ k ≤ 8) S2 (wI (wI S2 a0 6 (zI ((acc.1 : Int) + ((rk g x e P).2.1 : Int)))) a0 7 (zI ((acc.2.1 : Int) + ((1 : Nat) : Int)))) := ((Same.rfl' (P := fun c k => c = a0 ∧ 6 ≤ k ∧ k ≤ 8)) |>.wI (by omega)) |>.wI (by omega)
      have e6 : (wI (wI S2 a0 6 (zI ((acc.1 : Int) + ((rk g x e P).2.1 : Int)))) a0 7 (zI ((acc.2.1 : Int) + ((1 : Nat) : Int)))).1 a0 6 = zI ((acc.1 : Int) + ((rk g x e P).2.1 : Int)) := by rw [rd_ne (by omega), rd_same]
      have e7 : (wI (wI S2 a0 6 (zI ((acc.1 : Int) + ((rk g x e P).2.1 : Int)))) a0 7 (zI ((acc.2.1 : Int) + ((1 : Nat) : Int)))).1 a0 7 = zI ((acc.2.1 : Int) + ((1 : Nat) : Int)) := rd_same
      have e8 : (wI (wI S2 a0 6 (zI ((acc.1 : Int) + ((rk g x e P).2.1 : Int)))) a0 7 (zI ((acc.2.1 : Int) + ((1 : Nat) : Int)))).1 a0 8 = zI (acc.2.2 : Nat) := by rw [rd_ne (by omega), rd_ne (by omega)]; exact q8
      have e66 : (wI (wI S2 a0 6 (zI ((acc.1 : Int) + ((rk g x e P).2.1 : Int)))) a0 7 (zI ((acc.2.1 : Int) + ((1 : Nat) : Int)))).1 6 6 = zI (rk g x e P).2.2 := by rw [rd_ne (by omega), rd_ne (by omega)]; exact h66
      generalize wI (wI S2 a0 6 (zI ((acc.1 : Int) + ((rk g x e P).2.1 : Int)))) a0 7 (zI ((acc.2.1 : Int) + ((1 : Nat) : Int))) = S3 at sB e6 e7 e8 e66
      unfold f4_state
      rw [bnd_some, e66]
      have h222 : (rk g x e P).2.2 ≤ 2 := i2
      by_cases c1 : (rk g x e P).2.2 = 1
      · rw [iT_eq (by omega), e8, zI_add]
        refine go _ (sB.wI (by omega)) ?_
        rw [htot, if_pos c1]
        refine ⟨?_, ?_, ?_⟩
        · rw [rd_ne (by omega), e6]; rfl
        · rw [rd_ne (by omega), e7]; rfl
        · rw [rd_same]; rfl
      · rw [iF_eq (by omega)]
        refine go _ sB ?_
        rw [htot, if_neg c1]
        exact ⟨e6, e7, e8⟩
    · have hz : hdl P (e :: C) = 0 := if_neg c
      rw [hz]
      have hall : ∀ f ∈ e :: C, P < f.1 := by
        rcases progs_split (L := P) hP hL with ⟨d1, d2⟩ | ⟨d1, _⟩
        · intro f hf
          rcases List.mem_cons.mp hf with z | z
          · rw [z]; exact d1
          · exact d2 f z
        · omega
      refine ⟨S, K, ?_, ?_, hK, by omega, by omega, Same.rfl'⟩
      · rw [f7_addUp_h54]
        simp (disch := omega) only [nI_z, zI_add, zI_sub, zI_mul, zI_m1, ckI_z, zI_clamp, Int.toNat_natCast, bnd_some, lt, rd_same, rd_ne, rdL_same, rdL_ne, wI_2, wL_1, if_true, if_false, iT_lt, iF_lt, iT_lt0, iF_lt0, iT_0lt, iF_0lt, iT_le, iF_le, iT_le0, iF_le0, iT_0le, iF_0le, iT_eq, iF_eq, iT_eq0, iF_eq0]
      · rw [adds_0 hall]
        exact h6
