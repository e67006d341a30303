/-! The reference's find. -/
def R41 (S : St) (t : Nat × Nat × Nat) : Prop := S.1 146 41 = zI (t.1 : Nat) ∧ S.1 146 45 = zI (t.2.1 : Nat) ∧ S.1 146 46 = zI (t.2.2 : Nat)
def R66 (S : St) (g : Lg) (x : Nat) (L : List Pg) (k q : Nat) : Prop := ∀ j e, L[j]? = some e → (ovr g x (if j < q then k else k - 1) e → S.1 166 j = zI ((1 : Nat) : Int)) ∧ (¬ ovr g x (if j < q then k else k - 1) e → S.1 166 j = zI ((0 : Nat) : Int))
abbrev Tk : Type := Nat × List Nat × List Nat
def TMt (S : St) (j : Nat) (q : Tk) : Prop := Held (S.1 163) (60 * j) q.2.1 ∧ S.1 164 j = zI q.2.1.length ∧ S.1 165 j = zI q.1
def TW (q : Tk) : Prop := q.1 < 1000 ∧ q.2.1.length ≤ 60 ∧ (∀ y ∈ q.2.1, y < 256) ∧ pAll (txt q.2.1) q.2.1.length = .inr q.2.2
def RA (S : St) (g : Lg) (x k : Nat) (e : Pg) : Prop := S.1 146 42 = zI (rk g x e k).2.1 ∧ S.1 146 43 = zI e.1 ∧ S.2 146 44 = lN (pack e.2) ∧ S.1 146 47 = zI k
def flP (c k : Nat) : Prop := rnP c k ∨ wkP c k ∨ c = 166 ∨ (c = 146 ∧ (k = 41 ∨ k = 45 ∨ k = 46))
def fnP (c k : Nat) : Prop := flP c k ∨ (c = 146 ∧ (k = 42 ∨ k = 43 ∨ k = 44 ∨ k = 47))
theorem TMt.same {P : Nat → Nat → Prop} {S S2 : St} {j : Nat} {q : Tk} (h : TMt S j q) (hs : Same P S S2) (hd : ∀ c k, 163 ≤ c → c ≤ 165 → ¬ P c k) : TMt S2 j q := ⟨h.1.same hs (fun k => hd 163 k (by omega) (by omega)), by rw [hs.i (hd 164 j (by omega) (by omega))]; exact h.2.1, by rw [hs.i (hd 165 j (by omega) (by omega))]; exact h.2.2⟩
theorem ispm_ok {N j : Nat} {q : Tk} {S : St} {m : Mc} (hN : 100000 ≤ N) (hj : j < 10) (hw : TW q) (hT : TMt S j q) (hE : EV S m q.1) : ∃ S2, (psd q.1 q.2.2 m → f12_isPassed N (zI j) S = some (zI 1, S2)) ∧ (¬ psd q.1 q.2.2 m → f12_isPassed N (zI j) S = some (zI 0, S2)) ∧ Same wkP S S2 := by
  obtain ⟨g1, g2, g3, g4⟩ := hw
  obtain ⟨m7, m8, m9⟩ := hT
  have hE' := hE
  obtain ⟨h8, _, _, d24, _, _⟩ := hE'
  by_cases r1 : m.2.2.2.1 = []
  · have h0 : m.2.2.2.1.length = 0 := by rw [r1]; rfl
    rw [h0] at d24
    refine ⟨S, fun p => absurd r1 p.1, fun _ => ?_, Same.rfl'⟩
    unfold f12_isPassed
    simp (disch := omega) only [d24, nI_z, zI_add, zI_sub, zI_mul, zI_m1, ckI_z, zI_clamp, Int.toNat_natCast, bnd_some, lt, rd_same, rd_ne, rdL_same, rdL_ne, wI_2, wL_1, if_true, if_false, iT_lt, iF_lt, iT_lt0, iF_lt0, iT_0lt, iF_0lt, iT_le, iF_le, iT_le0, iF_le0, iT_0le, iF_0le, iT_eq, iF_eq, iT_eq0, iF_eq0]
    rfl
  · have h0 : 0 < m.2.2.2.1.length := List.length_pos_iff.mpr r1
    obtain ⟨v, S5, b1, b2, b3, b4⟩ := workOut_m (N := N) (n := q.2.1.length) (T := txt q.2.1) (bs := ((60 * j : Nat) : Int)) (by omega) g2 (txt_256 g3) (by omega) (fun y hy => ⟨fun z => by omega, fun _ => m7.txt hy⟩) hE
    have b3' := b3 q.2.2 g4
    have hz60 : ((60 : Nat) : Int) * (j : Int) = ((60 * j : Nat) : Int) := by omega
    have hps := psd_iff b3'.1
    have hip : f12_isPassed N (zI j) S = (if v = 0 then some (nI 0, S5) else some (nI 1, S5)) := by
      unfold f12_isPassed
      simp (disch := omega) only [d24, m8, hz60, b1, nI_z, zI_add, zI_sub, zI_mul, zI_m1, ckI_z, zI_clamp, Int.toNat_natCast, bnd_some, lt, rd_same, rd_ne, rdL_same, rdL_ne, wI_2, wL_1, if_true, if_false, iT_lt, iF_lt, iT_lt0, iF_lt0, iT_0lt, iF_0lt, iT_le, iF_le, iT_le0, iF_le0, iT_0le, iF_0le, iT_eq, iF_eq, iT_eq0, iF_eq0]
    refine ⟨S5, fun p => ?_, fun p => ?_, b4⟩
    · have hv := (hps.mp p).2
      rw [hip, if_neg (show ¬ v = 0 from hv)]
      rfl
    · have hv : v = zI 0 := by
        rcases b3'.2 with e | e
        · exact e
        · exact absurd (hps.mpr ⟨r1, by rw [e]; decide⟩) p
      rw [hip, if_pos (show v = 0 from hv)]
      rfl
theorem fd_in {N i jt n k : Nat} {g : Lg} {q : Tk} (hg : LV g) (hN : 100000 ≤ N) (hi : i < 6) (hn : n ≤ 14) (hj : jt < 10) (hw : TW q) (hk1 : 1 ≤ k) (hkn : k ≤ n) (k56 : Int32 → St → Option (Int32 × St)) (hno : ∀ f ∈ progs (bit g) (rkf g) n, f.1 ≤ k - 1 → ¬ ans g q.1 q.2.2 f (k - 1)) :
    ∀ (C A : List Pg) (j m : Nat) (S : St), progs (bit g) (rkf g) n = A ++ C → j = A.length → C.length < m → ML S i g → LQ S (plist g n) → TMt S jt q → R41 S (tadd (tots g q.1 k A) (tots g q.1 (k - 1) C)) → R66 S g q.1 (progs (bit g) (rkf g) n) k j → (∀ f ∈ A, f.1 ≤ k → ¬ ans g q.1 q.2.2 f k) →
    (∃ S2 A2 e C2, f12_find_h65 N (zI i) (zI jt) (zI n) (zI k) k56 m (zI j) S = some (zI 1, S2) ∧ Fnd g q.1 q.2.2 (progs (bit g) (rkf g) n) n k A2 e C2 ∧ R41 S2 (tadd (tots g q.1 k (A2 ++ [e])) (tots g q.1 (k - 1) C2)) ∧ RA S2 g q.1 k e ∧ (V15 S → V15 S2) ∧ Same fnP S S2) ∨
    (∃ S2, f12_find_h65 N (zI i) (zI jt) (zI n) (zI k) k56 m (zI j) S = k56 (zI ((k + 1 : Nat) : Int)) S2 ∧ R41 S2 (tots g q.1 k (progs (bit g) (rkf g) n)) ∧ R66 S2 g q.1 (progs (bit g) (rkf g) n) k (progs (bit g) (rkf g) n).length ∧ (∀ f ∈ progs (bit g) (rkf g) n, f.1 ≤ k → ¬ ans g q.1 q.2.2 f k) ∧ (V15 S → V15 S2) ∧ Same flP S S2) := by
  have hk1z : zI (k : Int) + nI 1 = zI ((k + 1 : Nat) : Int) := by rw [nI_z, zI_add]; rfl
  intro C
  induction C with
  | nil =>
    intro A j m S hp hk hm hml hq hT h41 h66 hA
    obtain ⟨m, rfl⟩ : ∃ z, m = z + 1 := ⟨m - 1, by omega⟩
    have hcap := progs_cap hg hn hp
    rw [List.length_nil] at hcap
    have h28 := plist_end hp hk hq
    right
    rw [List.append_nil] at hp
    refine ⟨S, ?_, ?_, ?_, ?_, fun z => z, Same.rfl'⟩
    · rw [f12_find_h65, hk1z]
      simp (disch := omega) only [h28, nI_z, zI_add, zI_sub, zI_mul, zI_m1, ckI_z, zI_clamp, Int.toNat_natCast, bnd_some, lt, rd_same, rd_ne, rdL_same, rdL_ne, wI_2, wL_1, if_true, if_false, iT_lt, iF_lt, iT_lt0, iF_lt0, iT_0lt, iF_0lt, iT_le, iF_le, iT_le0, iF_le0, iT_0le, iF_0le, iT_eq, iF_eq, iT_eq0, iF_eq0]
    · rw [hp]
      exact h41
    · rw [hp, ← hk, ← hp]
      exact h66
    · rw [hp]
      exact hA
  | cons e C ih =>
    intro A j m S hp hk hm hml hq hT h41 h66 hA
    obtain ⟨m, rfl⟩ : ∃ z, m = z + 1 := ⟨m - 1, by omega⟩
    have hcap := progs_cap hg hn hp
    obtain ⟨p1, p2, p3, p4, p5⟩ := progs_wp hg hp
    rw [List.length_cons] at hm hcap
    obtain ⟨h28, l1, l2, hr⟩ := plist_at hp hk hq
    have hem : e ∈ progs (bit g) (rkf g) n := List.mem_of_getElem? hr
    obtain ⟨h66t, h66f⟩ := h66 j e hr
    rw [if_neg (by omega)] at h66t h66f
    by_cases c : k < e.1
    · -- larger than the phase: so are all behind it
      have hall : ∀ f ∈ e :: C, k < f.1 := by
        rcases progs_split (L := k) hkn hp with ⟨d1, d2⟩ | ⟨d1, _⟩
        · intro f hf
          rcases List.mem_cons.mp hf with z | z
          · rw [z]; exact d1
          · exact d2 f z
        · omega
      right
      refine ⟨S, ?_, ?_, ?_, ?_, fun z => z, Same.rfl'⟩
      · rw [f12_find_h65, hk1z]
        simp (disch := omega) only [h28, l2, nI_z, zI_add, zI_sub, zI_mul, zI_m1, ckI_z, zI_clamp, Int.toNat_natCast, bnd_some, lt, rd_same, rd_ne, rdL_same, rdL_ne, wI_2, wL_1, if_true, if_false, iT_lt, iF_lt, iT_lt0, iF_lt0, iT_0lt, iF_0lt, iT_le, iF_le, iT_le0, iF_le0, iT_0le, iF_0le, iT_eq, iF_eq, iT_eq0, iF_eq0]
      · rw [hp, tots_t, tots_0 hall, tadd_z]
        rw [tots_0 (k := k - 1) (fun f hf => by have := hall f hf; omega), tadd_z] at h41
        exact h41
      · intro j2 f hf
        have h := h66 j2 f hf
        have hj2 := (List.getElem?_eq_some_iff.mp hf).1
        rw [if_pos hj2]
        by_cases d : j2 < j
        · rw [if_pos d] at h
          exact h
        · rw [if_neg d] at h
          have hfm : f ∈ e :: C := by
            rw [hp, List.getElem?_append_right (by omega)] at hf
            exact List.mem_of_getElem? hf
          have hbig := hall f hfm
          have e1 : ¬ ovr g q.1 k f := fun z => by have := z.1; omega
          have e2 : ¬ ovr g q.1 (k - 1) f := fun z => by have := z.1; omega
          exact ⟨fun z => absurd z e1, fun _ => h.2 e2⟩
      · intro f hf hfk
        rw [hp] at hf
        rcases List.mem_append.mp hf with z | z
        · exact hA f z hfk
        · have := hall f z
          omega
    · by_cases d : ovr g q.1 (k - 1) e
      · -- over before
        have h1 := h66t d
        obtain ⟨t1, t2⟩ := tot_over d
        have hna : ¬ ans g q.1 q.2.2 e k := fun z => by
          have hrk := rk_more (g := g) (x := q.1) (e := e) (k := k - 1) (j := k) (by omega) d.2
          refine hno e hem d.1 ?_
          unfold ans at z ⊢
          rw [← hrk]
          exact z
        have hgo := ih (A ++ [e]) (j + 1) m S (by rw [hp]; simp) (by rw [hk]; simp) (by omega) hml hq hT (by
          rw [tots_t, tots_1, t1, tadd_a, ← tots_c]
          exact h41) (by
          intro j2 f hf
          have h := h66 j2 f hf
          by_cases z : j2 = j
          · subst z
            rw [hr] at hf
            injection hf with hf
            subst hf
            rw [if_pos (by omega)]
            exact ⟨fun _ => h1, fun z => absurd t2 z⟩
          · by_cases z2 : j2 < j
            · rw [if_pos z2] at h
              rw [if_pos (by omega)]
              exact h
            · rw [if_neg z2] at h
              rw [if_neg (by omega)]
              exact h) (fun f hf hfk => by
          rcases List.mem_append.mp hf with z | z
          · exact hA f z hfk
          · rw [List.mem_singleton.mp z]
            exact hna)
        have hst : f12_find_h65 N (zI i) (zI jt) (zI n) (zI k) k56 (m + 1) (zI j) S = f12_find_h65 N (zI i) (zI jt) (zI n) (zI k) k56 m (zI ((j + 1 : Nat) : Int)) S := by
          rw [f12_find_h65]
          simp (disch := omega) only [h28, l2, h1, nI_z, zI_add, zI_sub, zI_mul, zI_m1, ckI_z, zI_clamp, Int.toNat_natCast, bnd_some, lt, rd_same, rd_ne, rdL_same, rdL_ne, wI_2, wL_1, if_true, if_false, iT_lt, iF_lt, iT_lt0, iF_lt0, iT_0lt, iF_0lt, iT_le, iF_le, iT_le0, iF_le0, iT_0le, iF_0le, iT_eq, iF_eq, iT_eq0, iF_eq0]
          rfl
        rw [hst]
        exact hgo
      · -- run now
        have h0 := h66f d
        obtain ⟨u1, u2, u3⟩ := tot_step (g := g) (x := q.1) p1 (by omega : e.1 ≤ k) d
        generalize hu : tot g q.1 (k - 1) e = w at u1 u2 u3
        obtain ⟨wa, wb, wc⟩ := w
        have u1 : wa ≤ (rk g q.1 e k).2.1 := u1
        have u2 : wa = (if k ≤ e.1 then 0 else 2 ^ (k - e.1) / 2) := u2
        have u3 : tot g q.1 k e = ((rk g q.1 e k).2.1, wb + (if k ≤ e.1 then 1 else 0), wc + (if (rk g q.1 e k).2.2 = 1 then 1 else 0)) := u3
        have hpw : 2 ^ (k - e.1) ≤ 2 ^ 14 := Nat.pow_le_pow_right (by omega) (by omega)
        have hsh := sh1 (b := e.1) (n := k) (by omega) (by omega)
        rw [tots_c, hu] at h41
        generalize hTA : tots g q.1 k A = ta at h41
        generalize hTC : tots g q.1 (k - 1) C = tc at h41
        obtain ⟨a1, a2, a3⟩ := ta
        obtain ⟨c1, c2, c3⟩ := tc
        obtain ⟨m1, m2, m3⟩ := h41
        have m1 : S.1 146 41 = zI ((a1 + (wa + c1) : Nat) : Int) := m1
        have m2 : S.1 146 45 = zI ((a2 + (wb + c2) : Nat) : Int) := m2
        have m3 : S.1 146 46 = zI ((a3 + (wc + c3) : Nat) : Int) := m3
        -- into the run
        have hst : f12_find_h65 N (zI i) (zI jt) (zI n) (zI k) k56 (m + 1) (zI j) S = f12_find_j147 N (zI i) (zI jt) (zI n) (zI k) (zI j) (zI ((2 ^ (k - e.1) : Nat) : Int)) (zI wa) k56 (f12_find_h65 N (zI i) (zI jt) (zI n) (zI k) k56 m) (zI ((if k ≤ e.1 then 1 else 0 : Nat) : Int)) (S.1 146 45) S := by
          rw [f12_find_h65]
          by_cases z : k ≤ e.1
          · rw [if_pos z] at u2 ⊢
            subst u2
            simp (disch := omega) only [h28, l2, h0, hsh, f12_find_j130, nI_z, zI_add, zI_sub, zI_mul, zI_m1, ckI_z, zI_clamp, Int.toNat_natCast, bnd_some, lt, rd_same, rd_ne, rdL_same, rdL_ne, wI_2, wL_1, if_true, if_false, iT_lt, iF_lt, iT_lt0, iF_lt0, iT_0lt, iF_0lt, iT_le, iF_le, iT_le0, iF_le0, iT_0le, iF_0le, iT_eq, iF_eq, iT_eq0, iF_eq0]
          · rw [if_neg z] at u2 ⊢
            obtain ⟨y, hy⟩ : ∃ y, k - e.1 = y + 1 := ⟨k - e.1 - 1, by omega⟩
            have hy0 := Nat.two_pow_pos y
            have hwa : wa = 2 ^ y := by rw [u2, hy, Nat.pow_succ]; omega
            have hp2 : 2 ^ (k - e.1) = 2 ^ y * 2 := by rw [hy, Nat.pow_succ]
            rw [hp2] at hpw hsh ⊢
            have hdv : zI ((2 ^ y * 2 : Nat) : Int) / zI ((2 : Nat) : Int) = zI wa := by
              rw [zI_div (by omega) (by omega) (by omega), hwa]
              congr 1
              omega
            have hwb : 0 < wa ∧ wa ≤ 16384 := by omega
            generalize 2 ^ y * 2 = v at hpw hsh hdv ⊢
            generalize 2 ^ y = v2 at hwa hy0
            simp (disch := omega) only [h28, l2, h0, hsh, hdv, f12_find_j130, nI_z, zI_add, zI_sub, zI_mul, zI_m1, ckI_z, zI_clamp, Int.toNat_natCast, bnd_some, lt, rd_same, rd_ne, rdL_same, rdL_ne, wI_2, wL_1, if_true, if_false, iT_lt, iF_lt, iT_lt0, iF_lt0, iT_0lt, iF_0lt, iT_le, iF_le, iT_le0, iF_le0, iT_0le, iF_0le, iT_eq, iF_eq, iT_eq0, iF_eq0]
        -- the run
        have s1 : Same flP S (wI S 146 45 (zI ((a2 + (wb + c2) + (if k ≤ e.1 then 1 else 0) : Nat) : Int))) := (Same.rfl' (P := flP)).wI (by unfold flP; omega)
        have e1l : (wI S 146 45 (zI ((a2 + (wb + c2) + (if k ≤ e.1 then 1 else 0) : Nat) : Int))).2 = S.2 := rfl
        have e45 : (wI S 146 45 (zI ((a2 + (wb + c2) + (if k ≤ e.1 then 1 else 0) : Nat) : Int))).1 146 45 = zI ((a2 + (wb + c2) + (if k ≤ e.1 then 1 else 0) : Nat) : Int) := rd_same
        have e41 : (wI S 146 45 (zI ((a2 + (wb + c2) + (if k ≤ e.1 then 1 else 0) : Nat) : Int))).1 146 41 = zI ((a1 + (wa + c1) : Nat) : Int) := by rw [rd_ne (by omega)]; exact m1
        have e46 : (wI S 146 45 (zI ((a2 + (wb + c2) + (if k ≤ e.1 then 1 else 0) : Nat) : Int))).1 146 46 = zI ((a3 + (wc + c3) : Nat) : Int) := by rw [rd_ne (by omega)]; exact m3
        have e66 : ∀ j2, (wI S 146 45 (zI ((a2 + (wb + c2) + (if k ≤ e.1 then 1 else 0) : Nat) : Int))).1 166 j2 = S.1 166 j2 := fun j2 => rd_ne (by omega)
        have hS1 : wI S 146 45 (S.1 146 45 + zI ((if k ≤ e.1 then 1 else 0 : Nat) : Int)) = wI S 146 45 (zI ((a2 + (wb + c2) + (if k ≤ e.1 then 1 else 0) : Nat) : Int)) := by
          rw [m2, zI_add]
          rfl
        have hstA : f12_find_h65 N (zI i) (zI jt) (zI n) (zI k) k56 (m + 1) (zI j) S = bnd (f12_runFor N (zI i) ((wI S 146 45 (zI ((a2 + (wb + c2) + (if k ≤ e.1 then 1 else 0) : Nat) : Int))).2 160 j) ((wI S 146 45 (zI ((a2 + (wb + c2) + (if k ≤ e.1 then 1 else 0) : Nat) : Int))).1 165 jt) (zI ((2 ^ (k - e.1) : Nat) : Int)) (wI S 146 45 (zI ((a2 + (wb + c2) + (if k ≤ e.1 then 1 else 0) : Nat) : Int)))) (fun q2 S3 => lt (wI S3 146 41 ((S3.1 146 41) + ((S3.1 146 14) - zI wa))) fun S4 => if q2 = (nI 2) then f12_find_j206 N (zI i) (zI jt) (zI n) (zI k) (zI j) q2 k56 (f12_find_h65 N (zI i) (zI jt) (zI n) (zI k) k56 m) (nI 0) (zI j) S4 else f12_find_j206 N (zI i) (zI jt) (zI n) (zI k) (zI j) q2 k56 (f12_find_h65 N (zI i) (zI jt) (zI n) (zI k) k56 m) (nI 1) (zI j) S4) := by
          rw [hst]
          unfold f12_find_j147
          simp only [lt]
          rw [hS1, ckI_z (by omega), ckI_z (by omega), zI_clamp (by omega), zI_clamp (by omega), Int.toNat_natCast, Int.toNat_natCast]
        generalize wI S 146 45 (zI ((a2 + (wb + c2) + (if k ≤ e.1 then 1 else 0) : Nat) : Int)) = S1 at s1 e1l e45 e41 e46 e66 hstA
        have hml1 : ML S1 i g := hml.same hg s1 (fun c p _ _ _ => by unfold flP rnP wkP; omega) (fun p _ _ => by unfold flP rnP wkP; omega) (fun p _ _ => by unfold flP rnP wkP; omega) (by unfold flP rnP wkP; omega)
        have hT1 := hT.same s1 (fun c k _ _ => by unfold flP rnP wkP; omega)
        have hcap2 : (prun g e.2 q.1 (2 ^ (k - e.1))).2.1 ≤ 4198 := rk_cap hg (by omega) p3 p5 p1
        obtain ⟨S3, b1, b2, b3, b4⟩ := f12_runFor_ok (N := N) (x := q.1) (t := 2 ^ (k - e.1)) hN hg hi p3 p4 hml1 hw.1 (by omega) hcap2
        obtain ⟨i1, i2, i3⟩ := prun_MI (g := g) (p := e.2) (x := q.1) (t := 2 ^ (k - e.1)) hw.1
        have hrkd : prun g e.2 q.1 (2 ^ (k - e.1)) = rk g q.1 e k := rfl
        rw [hrkd] at b1 b2 i1 i2 hcap2
        have s3 : Same flP S S3 := s1.tr (b4.mono (fun c k z => Or.inl z))
        rw [e1l, l1, hT1.2.2, b1, bnd_some] at hstA
        have e41 : S3.1 146 41 = zI ((a1 + (wa + c1) : Nat) : Int) := by rw [b4.i (by unfold rnP; omega)]; exact e41
        have e45 : S3.1 146 45 = zI ((a2 + (wb + c2) + (if k ≤ e.1 then 1 else 0) : Nat) : Int) := by rw [b4.i (by unfold rnP; omega)]; exact e45
        have e46 : S3.1 146 46 = zI ((a3 + (wc + c3) : Nat) : Int) := by rw [b4.i (by unfold rnP; omega)]; exact e46
        have e66 : ∀ j2, S3.1 166 j2 = S.1 166 j2 := fun j2 => by rw [b4.i (by unfold rnP; omega)]; exact e66 j2
        have e14 := b2.2.2.1
        have hS4 : wI S3 146 41 (S3.1 146 41 + (S3.1 146 14 - zI wa)) = wI S3 146 41 (zI ((a1 + (rk g q.1 e k).2.1 + c1 : Nat) : Int)) := by
          rw [e41, e14, zI_sub, zI_add]
          congr 2
          omega
        -- the three numbers behind the run
        have hstB : f12_find_h65 N (zI i) (zI jt) (zI n) (zI k) k56 (m + 1) (zI j) S = (if zI (rk g q.1 e k).2.2 = 0 then bnd (f12_isPassed N (zI jt) (wI (wI (wI S3 146 41 (zI ((a1 + (rk g q.1 e k).2.1 + c1 : Nat) : Int))) 166 j (zI ((if (rk g q.1 e k).2.2 = 2 then 0 else 1 : Nat) : Int))) 146 46 (zI ((a3 + (wc + c3) + (if (rk g q.1 e k).2.2 = 1 then 1 else 0) : Nat) : Int)))) (fun q3 S4 => if q3 = 0 then f12_find_h65 N (zI i) (zI jt) (zI n) (zI k) k56 m (zI j + nI 1) S4 else lt (wI S4 146 42 (S4.1 146 14)) fun S6 => ckI (zI j) 16385 <| lt (wI S6 146 43 (S6.1 161 (zI j).toNatClampNeg)) fun S7 => ckI (zI j) 16385 <| lt (wL S7 146 44 (S7.2 160 (zI j).toNatClampNeg)) fun S8 => lt (wI S8 146 47 (zI k)) fun S9 => some (nI 1, S9)) else f12_find_h65 N (zI i) (zI jt) (zI n) (zI k) k56 m (zI j + nI 1) (wI (wI (wI S3 146 41 (zI ((a1 + (rk g q.1 e k).2.1 + c1 : Nat) : Int))) 166 j (zI ((if (rk g q.1 e k).2.2 = 2 then 0 else 1 : Nat) : Int))) 146 46 (zI ((a3 + (wc + c3) + (if (rk g q.1 e k).2.2 = 1 then 1 else 0) : Nat) : Int)))) := by
          rw [hstA]
          simp only [lt]
          rw [hS4]
          have x46 : ∀ z, (wI (wI S3 146 41 (zI ((a1 + (rk g q.1 e k).2.1 + c1 : Nat) : Int))) 166 j z).1 146 46 = zI ((a3 + (wc + c3) : Nat) : Int) := fun z => by rw [rd_ne (by omega), rd_ne (by omega)]; exact e46
          generalize wI S3 146 41 (zI ((a1 + (rk g q.1 e k).2.1 + c1 : Nat) : Int)) = S4 at x46
          generalize (rk g q.1 e k).2.2 = r at i2
          have hr3 : r = 0 ∨ r = 1 ∨ r = 2 := by omega
          have hadd : ∀ y : Nat, zI ((a3 + (wc + c3) : Nat) : Int) + zI (y : Int) = zI ((a3 + (wc + c3) + y : Nat) : Int) := fun y => by rw [zI_add]; rfl
          rcases hr3 with z | z | z
          · subst z
            rw [nI_z 2, iF_eq (by omega), if_neg (show ¬ (0 : Nat) = 2 by omega), if_neg (show ¬ (0 : Nat) = 1 by omega)]
            unfold f12_find_j206 f12_find_j223
            rw [nI_z 1, nI_z 0, ckB_01 (x := zI ((1 : Nat) : Int)) (Or.inr rfl), ckI_z (by omega), zI_clamp (by omega), Int.toNat_natCast]
            simp only [lt]
            rw [iF_eq (by omega), x46, hadd]
          · subst z
            rw [nI_z 2, iF_eq (by omega), if_neg (show ¬ (1 : Nat) = 2 by omega), if_pos (show (1 : Nat) = 1 from rfl)]
            unfold f12_find_j206 f12_find_j223
            rw [nI_z 1, nI_z 0, ckB_01 (x := zI ((1 : Nat) : Int)) (Or.inr rfl), ckI_z (by omega), zI_clamp (by omega), Int.toNat_natCast]
            simp only [lt]
            rw [if_pos trivial, x46, hadd]
          · subst z
            rw [nI_z 2, iT_eq rfl, if_pos (show (2 : Nat) = 2 from rfl), if_neg (show ¬ (2 : Nat) = 1 by omega)]
            unfold f12_find_j206 f12_find_j223
            rw [nI_z 1, nI_z 0, ckB_01 (x := zI ((0 : Nat) : Int)) (Or.inl rfl), ckI_z (by omega), zI_clamp (by omega), Int.toNat_natCast]
            simp only [lt]
            rw [iF_eq (by omega), x46, hadd]
        clear hstA hst
        have s6 : Same flP S (wI (wI (wI S3 146 41 (zI ((a1 + (rk g q.1 e k).2.1 + c1 : Nat) : Int))) 166 j (zI ((if (rk g q.1 e k).2.2 = 2 then 0 else 1 : Nat) : Int))) 146 46 (zI ((a3 + (wc + c3) + (if (rk g q.1 e k).2.2 = 1 then 1 else 0) : Nat) : Int))) := ((s3.wI (by unfold flP; omega)).wI (by unfold flP; omega)).wI (by unfold flP; omega)
        have s36 : Same (fun c k => c = 166 ∨ (c = 146 ∧ (k = 41 ∨ k = 46))) S3 (wI (wI (wI S3 146 41 (zI ((a1 + (rk g q.1 e k).2.1 + c1 : Nat) : Int))) 166 j (zI ((if (rk g q.1 e k).2.2 = 2 then 0 else 1 : Nat) : Int))) 146 46 (zI ((a3 + (wc + c3) + (if (rk g q.1 e k).2.2 = 1 then 1 else 0) : Nat) : Int))) := (((Same.rfl' (P := fun c k => c = 166 ∨ (c = 146 ∧ (k = 41 ∨ k = 46)))).wI (by omega)).wI (by omega)).wI (by omega)
        have y41 : (wI (wI (wI S3 146 41 (zI ((a1 + (rk g q.1 e k).2.1 + c1 : Nat) : Int))) 166 j (zI ((if (rk g q.1 e k).2.2 = 2 then 0 else 1 : Nat) : Int))) 146 46 (zI ((a3 + (wc + c3) + (if (rk g q.1 e k).2.2 = 1 then 1 else 0) : Nat) : Int))).1 146 41 = zI ((a1 + (rk g q.1 e k).2.1 + c1 : Nat) : Int) := by rw [rd_ne (by omega), rd_ne (by omega), rd_same]
        have y46 : (wI (wI (wI S3 146 41 (zI ((a1 + (rk g q.1 e k).2.1 + c1 : Nat) : Int))) 166 j (zI ((if (rk g q.1 e k).2.2 = 2 then 0 else 1 : Nat) : Int))) 146 46 (zI ((a3 + (wc + c3) + (if (rk g q.1 e k).2.2 = 1 then 1 else 0) : Nat) : Int))).1 146 46 = zI ((a3 + (wc + c3) + (if (rk g q.1 e k).2.2 = 1 then 1 else 0) : Nat) : Int) := rd_same
        have y66 : (wI (wI (wI S3 146 41 (zI ((a1 + (rk g q.1 e k).2.1 + c1 : Nat) : Int))) 166 j (zI ((if (rk g q.1 e k).2.2 = 2 then 0 else 1 : Nat) : Int))) 146 46 (zI ((a3 + (wc + c3) + (if (rk g q.1 e k).2.2 = 1 then 1 else 0) : Nat) : Int))).1 166 j = zI ((if (rk g q.1 e k).2.2 = 2 then 0 else 1 : Nat) : Int) := by rw [rd_ne (by omega), rd_same]
        have y66n : ∀ j2, j2 ≠ j → (wI (wI (wI S3 146 41 (zI ((a1 + (rk g q.1 e k).2.1 + c1 : Nat) : Int))) 166 j (zI ((if (rk g q.1 e k).2.2 = 2 then 0 else 1 : Nat) : Int))) 146 46 (zI ((a3 + (wc + c3) + (if (rk g q.1 e k).2.2 = 1 then 1 else 0) : Nat) : Int))).1 166 j2 = S.1 166 j2 := fun j2 h => by rw [rd_ne (by omega), rd_ne (by omega), rd_ne (by omega)]; exact e66 j2
        generalize wI (wI (wI S3 146 41 (zI ((a1 + (rk g q.1 e k).2.1 + c1 : Nat) : Int))) 166 j (zI ((if (rk g q.1 e k).2.2 = 2 then 0 else 1 : Nat) : Int))) 146 46 (zI ((a3 + (wc + c3) + (if (rk g q.1 e k).2.2 = 1 then 1 else 0) : Nat) : Int)) = S6 at hstB s6 s36 y41 y46 y66 y66n
        have y45 : S6.1 146 45 = zI ((a2 + (wb + c2) + (if k ≤ e.1 then 1 else 0) : Nat) : Int) := by rw [s36.i (by omega)]; exact e45
        have hnew : tadd (tots g q.1 k (A ++ [e])) (tots g q.1 (k - 1) C) = (a1 + (rk g q.1 e k).2.1 + c1, a2 + (wb + (if k ≤ e.1 then 1 else 0)) + c2, a3 + (wc + (if (rk g q.1 e k).2.2 = 1 then 1 else 0)) + c3) := by
          rw [tots_t, tots_1, u3, hTA, hTC]
          rfl
        have h41n : R41 S6 (tadd (tots g q.1 k (A ++ [e])) (tots g q.1 (k - 1) C)) := by
          rw [hnew]
          refine ⟨y41, ?_, ?_⟩
          · rw [y45]
            congr 1
            show ((a2 + (wb + c2) + (if k ≤ e.1 then 1 else 0) : Nat) : Int) = ((a2 + (wb + (if k ≤ e.1 then 1 else 0)) + c2 : Nat) : Int)
            omega
          · rw [y46]
            congr 1
            show ((a3 + (wc + c3) + (if (rk g q.1 e k).2.2 = 1 then 1 else 0) : Nat) : Int) = ((a3 + (wc + (if (rk g q.1 e k).2.2 = 1 then 1 else 0)) + c3 : Nat) : Int)
            omega
        have h66n : R66 S6 g q.1 (progs (bit g) (rkf g) n) k (j + 1) := by
          intro j2 f hf
          by_cases z : j2 = j
          · subst z
            rw [hr] at hf
            injection hf with hf
            subst hf
            rw [if_pos (by omega), y66]
            refine ⟨fun o => ?_, fun o => ?_⟩
            · rw [if_neg o.2]
            · have : (rk g q.1 e k).2.2 = 2 := by
                by_cases y : (rk g q.1 e k).2.2 = 2
                · exact y
                · exact absurd ⟨by omega, y⟩ o
              rw [if_pos this]
          · have h := h66 j2 f hf
            rw [y66n j2 z]
            by_cases z2 : j2 < j
            · rw [if_pos z2] at h
              rw [if_pos (by omega)]
              exact h
            · rw [if_neg z2] at h
              rw [if_neg (by omega)]
              exact h
        have e14 : S6.1 146 14 = zI (rk g q.1 e k).2.1 := by rw [s36.i (by omega)]; exact e14
        have hv6 : V15 S6 := (V15.of b2 i1).same s36 (by omega)
        have hE : EV S6 (rk g q.1 e k).1 q.1 := by
          obtain ⟨d21, d22, d23, d24, d25⟩ := b2
          exact ⟨i1.2.2.1, by rw [s36.i (by omega)]; exact d21, by rw [s36.i (by omega)]; exact d22, by rw [s36.i (by omega)]; exact d24, d25.same s36 (fun k => by omega), by rw [s36.i (by omega)]; exact b3⟩
        have next : ∀ S7 : St, Same wkP S6 S7 → ¬ ans g q.1 q.2.2 e k → f12_find_h65 N (zI i) (zI jt) (zI n) (zI k) k56 (m + 1) (zI j) S = f12_find_h65 N (zI i) (zI jt) (zI n) (zI k) k56 m (zI j + nI 1) S7 →
            (∃ S2 A2 e C2, f12_find_h65 N (zI i) (zI jt) (zI n) (zI k) k56 (m + 1) (zI j) S = some (zI 1, S2) ∧ Fnd g q.1 q.2.2 (progs (bit g) (rkf g) n) n k A2 e C2 ∧ R41 S2 (tadd (tots g q.1 k (A2 ++ [e])) (tots g q.1 (k - 1) C2)) ∧ RA S2 g q.1 k e ∧ (V15 S → V15 S2) ∧ Same fnP S S2) ∨
            (∃ S2, f12_find_h65 N (zI i) (zI jt) (zI n) (zI k) k56 (m + 1) (zI j) S = k56 (zI ((k + 1 : Nat) : Int)) S2 ∧ R41 S2 (tots g q.1 k (progs (bit g) (rkf g) n)) ∧ R66 S2 g q.1 (progs (bit g) (rkf g) n) k (progs (bit g) (rkf g) n).length ∧ (∀ f ∈ progs (bit g) (rkf g) n, f.1 ≤ k → ¬ ans g q.1 q.2.2 f k) ∧ (V15 S → V15 S2) ∧ Same flP S S2) := fun S7 s67 hna hst7 => by
          have s7 : Same flP S S7 := s6.tr (s67.mono (fun c k z => Or.inr (Or.inl z)))
          have hgo := ih (A ++ [e]) (j + 1) m S7 (by rw [hp]; simp) (by rw [hk]; simp) (by omega) (hml.same hg s7 (fun c p _ _ _ => by unfold flP rnP wkP; omega) (fun p _ _ => by unfold flP rnP wkP; omega) (fun p _ _ => by unfold flP rnP wkP; omega) (by unfold flP rnP wkP; omega)) (hq.same s7 (fun c k z => by unfold liP at z; unfold flP rnP wkP; omega)) (hT.same s7 (fun c k _ _ => by unfold flP rnP wkP; omega)) ⟨by rw [s67.i (by unfold wkP; omega)]; exact h41n.1, by rw [s67.i (by unfold wkP; omega)]; exact h41n.2.1, by rw [s67.i (by unfold wkP; omega)]; exact h41n.2.2⟩ (fun j2 f hf => by
            rw [s67.i (by unfold wkP; omega)]
            exact h66n j2 f hf) (fun f hf hfk => by
            rcases List.mem_append.mp hf with z | z
            · exact hA f z hfk
            · rw [List.mem_singleton.mp z]
              exact hna)
          have hz : zI (j : Int) + nI 1 = zI ((j + 1 : Nat) : Int) := by rw [nI_z, zI_add]; rfl
          rw [hst7, hz]
          have hv7 : V15 S7 := hv6.same s67 (by unfold wkP; omega)
          rcases hgo with ⟨S2, A2, e2, C2, x1, x2, x3, x4, x5, x6⟩ | ⟨S2, x1, x2, x3, x4, x5, x6⟩
          · left
            exact ⟨S2, A2, e2, C2, x1, x2, x3, x4, fun _ => x5 hv7, (s7.mono (fun c k z => Or.inl z)).tr x6⟩
          · right
            exact ⟨S2, x1, x2, x3, x4, fun _ => x5 hv7, s7.tr x6⟩
        by_cases r0 : (rk g q.1 e k).2.2 = 0
        · obtain ⟨S7, x1, x2, x3⟩ := ispm_ok (N := N) (j := jt) hN hj hw (hT.same s6 (fun c k _ _ => by unfold flP rnP wkP; omega)) hE
          by_cases ps : psd q.1 q.2.2 (rk g q.1 e k).1
          · left
            have s7 : Same fnP S S7 := (s6.mono (fun c k z => Or.inl z)).tr (x3.mono (fun c k z => Or.inl (Or.inr (Or.inl z))))
            have l1' : S7.2 160 j = lN (pack e.2) := by rw [s7.l (by unfold fnP flP rnP wkP; omega)]; exact l1
            have l2' : S7.1 161 j = zI e.1 := by rw [s7.i (by unfold fnP flP rnP wkP; omega)]; exact l2
            have e14' : S7.1 146 14 = zI (rk g q.1 e k).2.1 := by rw [x3.i (by unfold wkP; omega)]; exact e14
            have s9 : Same (fun c k => c = 146 ∧ (k = 42 ∨ k = 43 ∨ k = 44 ∨ k = 47)) S7 (wI (wL (wI (wI S7 146 42 (zI (rk g q.1 e k).2.1)) 146 43 (zI e.1)) 146 44 (lN (pack e.2))) 146 47 (zI k)) := ((((Same.rfl' (P := fun c k => c = 146 ∧ (k = 42 ∨ k = 43 ∨ k = 44 ∨ k = 47))).wI (by omega)).wI (by omega)).wL (by omega)).wI (by omega)
            refine ⟨wI (wL (wI (wI S7 146 42 (zI (rk g q.1 e k).2.1)) 146 43 (zI e.1)) 146 44 (lN (pack e.2))) 146 47 (zI k), A, e, C, ?_, ⟨hp, by omega, hkn, ⟨r0, ps⟩, hno, hA⟩, ?_, ⟨?_, ?_, ?_, rd_same⟩, fun _ => (hv6.same x3 (by unfold wkP; omega)).same s9 (by omega), s7.tr (s9.mono (fun c k z => Or.inr z))⟩
            · rw [hstB, r0, iT_eq0 (a := ((0 : Nat) : Int)) rfl, x1 ps, bnd_some, if_neg (by decide)]
              simp only [lt]
              have z1 : (wI S7 146 42 (zI (rk g q.1 e k).2.1)).1 161 j = zI e.1 := by rw [rd_ne (by omega)]; exact l2'
              have z2 : (wI (wI S7 146 42 (zI (rk g q.1 e k).2.1)) 146 43 (zI e.1)).2 160 j = lN (pack e.2) := l1'
              rw [e14', ckI_z (by omega), ckI_z (by omega), zI_clamp (by omega), Int.toNat_natCast, z1, z2]
              rfl
            · obtain ⟨n1, n2, n3⟩ := h41n
              exact ⟨by rw [s9.i (by omega), x3.i (by unfold wkP; omega)]; exact n1, by rw [s9.i (by omega), x3.i (by unfold wkP; omega)]; exact n2, by rw [s9.i (by omega), x3.i (by unfold wkP; omega)]; exact n3⟩
            · rw [rd_ne (by omega), wL_1, rd_ne (by omega), rd_same]
            · rw [rd_ne (by omega), wL_1, rd_same]
            · rw [wI_2, rdL_same]
          · refine next S7 x3 (fun z => ps z.2) ?_
            rw [hstB, r0, iT_eq0 (a := ((0 : Nat) : Int)) rfl, x2 ps, bnd_some, iT_eq0 rfl]
        · refine next S6 Same.rfl' (fun z => r0 z.1) ?_
          rw [hstB, iF_eq0 (by omega)]
