/-! The class's look. -/
abbrev Fb : Type := Option (Nat × List Pg × Pg × List Pg)
def fin3 (g : Lg) (x n : Nat) (L : List Pg) (b : Fb) : Nat × Nat × Nat := match b with
  | none => tots g x n L
  | some (k, A, e, C) => tadd (tots g x k (A ++ [e])) (tots g x (k - 1) C)
theorem FA.same {Q : Nat → Nat → Prop} {S S2 : St} {a0 x n : Nat} {g : Lg} {l : List Nat} {b : Fb} (h : FA S a0 g x n l b) (hs : Same Q S S2) (h1 : ∀ k, k ≤ 5 → ¬ Q a0 k) (h2 : ∀ k, ¬ Q (a0 + 3) k) (h3 : ∀ k, ¬ Q (a0 + 3 + 1) k) : FA S2 a0 g x n l b := by
  cases b with
  | none => exact ⟨h.1, by rw [hs.i (h1 2 (by omega))]; exact h.2⟩
  | some q =>
    obtain ⟨k, A, e, C⟩ := q
    obtain ⟨a1, a2, a3, a4, a5, a6⟩ := h
    exact ⟨a1, by rw [hs.i (h1 2 (by omega))]; exact a2, by rw [hs.i (h1 3 (by omega))]; exact a3, by rw [hs.i (h1 4 (by omega))]; exact a4, by rw [hs.i (h1 5 (by omega))]; exact a5, a6.same hs h2 h3⟩
theorem au_j30 {N a0 a1 n x K P : Nat} {g : Lg} {o : Option Pg} {S : St} (hg : LV g) (hN : 100000 ≤ N) (h0 : 10 ≤ a0 ∧ a0 + 4 < 50) (h1 : 50 ≤ a1 ∧ a1 + 10 < 116) (hn : n ≤ 14) (hx : x < 1000) (ho : ∀ e, o = some e → bsum g e.2 = e.1) (hP : P ≤ n) (hc : CL S a1 g) (hO : AO S a0 o) (hK : CMq S K) (hKb : K + 200000 < 2147483648) (h6 : A6 S a0 (0, 0, 0)) :
    ∃ S2 K2, f7_addUp_j30 N a0 a1 (zI x) (zI P) S = some ((), S2) ∧ A6 S2 a0 (adds g x o P (progs (bit g) (rkf g) n)) ∧ CMq S2 K2 ∧ K ≤ K2 ∧ K2 ≤ K + 147456 ∧ Same (auP a0) S S2 := by
  have hcap := progs_cap (A := []) (C := progs (bit g) (rkf g) n) hg hn rfl
  rw [List.length_nil, Nat.zero_add] at hcap
  obtain ⟨S3, b1, b2, b3⟩ := f6_beEmpty_ok (S := S) (a := a0 + 1)
  obtain ⟨S4, d1, d2, d3⟩ := follow_lim0 (N := N) (L := P) (n := n) hg (by omega : a0 + 1 + 1 < a1) (by omega) (hc.same hg b3 (fun c k z _ => by unfold rgP; omega)) b2 hn hP
  have s4 : Same (rgP (a0 + 1)) S S4 := b3.tr d3
  obtain ⟨S5, K5, f1, f2, f3, f4, f5, f6⟩ := au_loop (N := N) (a0 := a0) (o := o) hg hN h0 h1 hn hx ho (progs (bit g) (rkf g) n) [] 0 N K P S4 (0, 0, 0) rfl rfl (by omega) hP (hc.same hg s4 (fun c k z _ => by unfold rgP; omega)) (hO.same s4 (by unfold rgP; omega) (fun k => by unfold rgP; omega) (fun k => by unfold rgP; omega)) d2 (hK.same s4 (fun c k z => by unfold mcP at z; unfold rgP; omega)) (by omega) (h6.same s4 (fun k => by unfold rgP; omega))
  refine ⟨S5, K5, ?_, by rw [z_tadd] at f2; exact f2, f3, f4, by omega, (s4.mono (fun c k z => by unfold rgP at z; exact Or.inr (Or.inr (by omega)))).tr f6⟩
  unfold f7_addUp_j30
  rw [b1, bnd_some, d1, bnd_some, nI_z 0]
  exact f1
theorem addUp_ok {N a0 a1 n x K : Nat} {g : Lg} {l : List Nat} {b : Fb} {S : St} (hg : LV g) (hN : 100000 ≤ N) (h0 : 10 ≤ a0 ∧ a0 + 4 < 50) (h1 : 50 ≤ a1 ∧ a1 + 10 < 116) (hn : n ≤ 14) (hx : x < 1000) (hc : CL S a1 g) (hF : FA S a0 g x n l b) (hK : CMq S K) (hKb : K + 200000 < 2147483648) :
    ∃ S2 K2, f7_addUp N a0 a1 (zI x) (zI n) S = some ((), S2) ∧ FA S2 a0 g x n l b ∧ A6 S2 a0 (fin3 g x n (progs (bit g) (rkf g) n) b) ∧ CMq S2 K2 ∧ K ≤ K2 ∧ K2 ≤ K + 147456 ∧ Same (auP a0) S S2 := by
  have s3 : Same (fun c k => c = a0 ∧ 6 ≤ k ∧ k ≤ 8) S (wI (wI (wI S a0 6 (zI ((0 : Nat) : Int))) a0 7 (zI ((0 : Nat) : Int))) a0 8 (zI ((0 : Nat) : Int))) := ((Same.rfl' (P := fun c k => c = a0 ∧ 6 ≤ k ∧ k ≤ 8)) |>.wI (by omega)) |>.wI (by omega) |>.wI (by omega)
  have h6 : A6 (wI (wI (wI S a0 6 (zI ((0 : Nat) : Int))) a0 7 (zI ((0 : Nat) : Int))) a0 8 (zI ((0 : Nat) : Int))) a0 (0, 0, 0) := ⟨by rw [rd_ne (by omega), rd_ne (by omega), rd_same], by rw [rd_ne (by omega), rd_same], rd_same⟩
  have hst : f7_addUp N a0 a1 (zI x) (zI n) S = (if (wI (wI (wI S a0 6 (nI 0)) a0 7 (nI 0)) a0 8 (nI 0)).1 a0 2 = 0 then f7_addUp_j30 N a0 a1 (zI x) (zI n) (wI (wI (wI S a0 6 (nI 0)) a0 7 (nI 0)) a0 8 (nI 0)) else f7_addUp_j30 N a0 a1 (zI x) ((wI (wI (wI S a0 6 (nI 0)) a0 7 (nI 0)) a0 8 (nI 0)).1 a0 3) (wI (wI (wI S a0 6 (nI 0)) a0 7 (nI 0)) a0 8 (nI 0))) := rfl
  rw [hst, nI_z 0]
  generalize wI (wI (wI S a0 6 (zI ((0 : Nat) : Int))) a0 7 (zI ((0 : Nat) : Int))) a0 8 (zI ((0 : Nat) : Int)) = S3 at s3 h6
  have hF3 := hF.same s3 (fun k hk => by omega) (fun k => by omega) (fun k => by omega)
  have hc3 := hc.same hg s3 (fun c k z _ => by omega)
  have hK3 := hK.same s3 (fun c k z => by unfold mcP at z; omega)
  have s3' : Same (auP a0) S S3 := s3.mono (fun c k z => Or.inr (Or.inl z))
  cases b with
  | none =>
    have h2 : S3.1 a0 2 = zI ((0 : Nat) : Int) := hF3.2
    obtain ⟨S4, K4, f1, f2, f3, f4, f5, f6⟩ := au_j30 (N := N) (o := none) hg hN h0 h1 hn hx (fun e q => by cases q) (Nat.le_refl n) hc3 h2 hK3 hKb h6
    refine ⟨S4, K4, ?_, hF3.same f6 (fun k hk => by unfold auP mcP; omega) (fun k => by unfold auP mcP; omega) (fun k => by unfold auP mcP; omega), ?_, f3, f4, f5, s3'.tr f6⟩
    · rw [h2, iT_eq0 (a := ((0 : Nat) : Int)) rfl]
      exact f1
    · rw [adds_not (fun f _ q => by cases q)] at f2
      exact f2
  | some q =>
    obtain ⟨k, A, e, C⟩ := q
    have hF4 := hF3
    obtain ⟨a1', a2, a3, a4, a5, a6⟩ := hF3
    have hL := a1'.1
    have hk := a1'.2.2.1
    have hap := progs_apart hL
    have hb := (progs_wp hg hL).2.2.2.2
    obtain ⟨S4, K4, f1, f2, f3, f4, f5, f6⟩ := au_j30 (N := N) (o := some e) hg hN h0 h1 hn hx (fun e' q => by injection q with q; rw [← q]; exact hb) hk hc3 ⟨a2, a6⟩ hK3 hKb h6
    refine ⟨S4, K4, ?_, hF4.same f6 (fun k hk => by unfold auP mcP; omega) (fun k => by unfold auP mcP; omega) (fun k => by unfold auP mcP; omega), ?_, f3, f4, f5, s3'.tr f6⟩
    · rw [a2, iF_eq0 (by omega), a3]
      exact f1
    · rw [hL, adds_at hap.2 hap.1] at f2
      exact f2
/-- what look may write -/
def lkP (a0 a2 c k : Nat) : Prop := saP a0 a2 c k ∨ auP a0 c k
theorem look_ok {N a0 a1 a2 x n nT K : Nat} {T : Nat → Nat} {l : List Nat} {g : Lg} {S : St} (hg : LV g) (hN : 100000 ≤ N) (h0 : 10 ≤ a0 ∧ a0 + 4 < 50) (h1 : 50 ≤ a1 ∧ a1 + 10 < 116) (h2 : 116 ≤ a2 ∧ a2 < 146) (hn : n ≤ 14) (hx : x < 1000) (hnT : nT ≤ 60) (hT : ∀ i, T i < 256) (hp : pAll T nT = .inr l) (hc : CL S a1 g) (hk : AK S a2 l) (hx2 : S.1 a2 2 = zI x) (hK : CMq S K) (hKb : K + 400000 < 2147483648) :
    ∃ S2 K2 b, f7_look N a0 a1 a2 (zI n) S = some ((), S2) ∧ FA S2 a0 g x n l b ∧ A6 S2 a0 (fin3 g x n (progs (bit g) (rkf g) n) b) ∧ CMq S2 K2 ∧ K ≤ K2 ∧ K2 ≤ K + 294912 ∧ Same (lkP a0 a2) S S2 := by
  obtain ⟨S2, K2, b, a1', a2', a3, a4, a5, a6⟩ := findAnswer_ok (N := N) (p0 := []) hg hN h0 h1 h2 hn hx hnT hT hp hc hk hx2 hK (by omega)
  have hx3 : S2.1 a2 2 = zI x := by rw [a6.i (by unfold saP mcP skP; omega)]; exact hx2
  obtain ⟨S3, K3, b1, b2, b3, b4, b5, b6, b7⟩ := addUp_ok (N := N) hg hN h0 h1 hn hx (hc.same hg a6 (fun c k z _ => by unfold saP mcP skP; omega)) a2' a3 (by omega)
  refine ⟨S3, K3, b, ?_, b2, b3, b4, by omega, by omega, (a6.mono (fun c k z => Or.inl z)).tr (b7.mono (fun c k z => Or.inr z))⟩
  unfold f7_look f1_input
  rw [a1', bnd_some, bnd_some, hx3, b1, bnd_some]
/-! PURE: steps of an answer. -/
theorem rk_pos (g : Lg) (x : Nat) (e : Pg) (k : Nat) : 1 ≤ (rk g x e k).2.1 := by
  obtain ⟨t, ht⟩ : ∃ t, 2 ^ (k - e.1) = t + 1 := ⟨2 ^ (k - e.1) - 1, by have := Nat.two_pow_pos (k - e.1); omega⟩
  unfold rk prun
  rw [ht, mgo_s]
  split
  · exact (mgo_steps t _ 1).1
  · exact Nat.le_refl _
theorem wp_one {g : Lg} {p : List Nat} (hg : LV g) (hw : WP g p) (hb : bsum g p = 1) : p = [0] := by
  obtain ⟨h1, h2, h3⟩ := hw
  cases p with
  | nil => exact absurd rfl h1
  | cons a q =>
    cases q with
    | nil => rw [(h3 0 a rfl).mpr rfl]
    | cons b r =>
      have e : bsum g (a :: b :: r) = bit g a + (bit g b + bsum g r) := by unfold bsum; simp only [List.map_cons, List.sum_cons]
      have := (bit_pos hg a).1
      have := (bit_pos hg b).1
      omega
theorem rk_cap {g : Lg} {x k : Nat} {e : Pg} (hg : LV g) (hk : k ≤ 14) (hw : WP g e.2) (hb : bsum g e.2 = e.1) (h1 : 1 ≤ e.1) : (rk g x e k).2.1 ≤ 4198 := by
  have hs := (rk_steps g x e k).1
  by_cases c : e.1 = 1
  · have hp := wp_one hg hw (by omega)
    obtain ⟨t, ht⟩ : ∃ t, 2 ^ (k - e.1) = t + 1 := ⟨2 ^ (k - e.1) - 1, by have := Nat.two_pow_pos (k - e.1); omega⟩
    have hwr : wr g e.2 = [0] := by rw [hp]; rfl
    have : (rk g x e k).2.1 = 1 := by
      unfold rk prun
      rw [ht, mgo_s, hwr]
      rfl
    omega
  · have : 2 ^ (k - e.1) ≤ 2 ^ 12 := Nat.pow_le_pow_right (by omega) (by omega)
    omega
