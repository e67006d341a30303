/-! The calls act and trace. -/
def Qact (S : St) (B : List Nat) : Prop := B.length ≤ 100 ∧ S.1 37 1 = zI B.length ∧ (∀ (i b : Nat), i < 24 → B[i]? = some b → S.1 38 i = zI b) ∧ S.1 146 57 = zI B.length ∧ ∀ (i b : Nat), i < 24 → B[i]? = some b → S.1 169 i = zI b
def qaP (c k : Nat) : Prop := (c = 37 ∧ 1 ≤ k ∧ k ≤ 4) ∨ c = 38 ∨ (c = 146 ∧ 57 ≤ k ∧ k ≤ 60) ∨ c = 169
theorem Qact.same {P : Nat → Nat → Prop} {S S2 : St} {B : List Nat} (h : Qact S B) (hs : Same P S S2) (hd : ∀ c k, qaP c k → ¬ P c k) : Qact S2 B := ⟨h.1, by rw [hs.i (hd 37 1 (by unfold qaP; omega))]; exact h.2.1, fun i b hi hb => by rw [hs.i (hd 38 i (by unfold qaP; omega))]; exact h.2.2.1 i b hi hb, by rw [hs.i (hd 146 57 (by unfold qaP; omega))]; exact h.2.2.2.1, fun i b hi hb => by rw [hs.i (hd 169 i (by unfold qaP; omega))]; exact h.2.2.2.2 i b hi hb⟩
theorem c_trace {S : St} {B : List Nat} (h : Qact S B) (x : Int32) : ∃ r, f11_trace x S = some (r, S) ∧ f12_trace x S = some (r, S) := by
  obtain ⟨h0, h1, h2, h3, h4⟩ := h
  have hx := xrng x
  rw [zI_of x]
  generalize x.toInt = z at hx
  by_cases e0 : z < 0
  · exact ⟨zI (-1), by unfold f11_trace f0_keptAt; simp (disch := omega) only [nI_z, zI_add, zI_sub, zI_mul, zI_m1, ckI_z, zI_clamp, Int.toNat_natCast, bnd_some, lt, rd_same, rd_ne, rdL_same, rdL_ne, wI_2, wL_1, if_true, if_false, iT_lt, iF_lt, iT_lt0, iF_lt0, iT_0lt, iF_0lt, iT_le, iF_le, iT_le0, iF_le0, iT_0le, iF_0le, iT_eq, iF_eq, iT_eq0, iF_eq0], by unfold f12_trace; simp (disch := omega) only [nI_z, zI_add, zI_sub, zI_mul, zI_m1, ckI_z, zI_clamp, Int.toNat_natCast, bnd_some, lt, rd_same, rd_ne, rdL_same, rdL_ne, wI_2, wL_1, if_true, if_false, iT_lt, iF_lt, iT_lt0, iF_lt0, iT_0lt, iF_0lt, iT_le, iF_le, iT_le0, iF_le0, iT_0le, iF_0le, iT_eq, iF_eq, iT_eq0, iF_eq0]⟩
  · by_cases e1 : z < B.length
    · by_cases e2 : z < 24
      · obtain ⟨i, rfl⟩ : ∃ i : Nat, z = i := ⟨z.toNat, by omega⟩
        have hr : B[i]? = some B[i] := List.getElem?_eq_getElem (by omega)
        have q1 := h2 i _ (by omega) hr
        have q2 := h4 i _ (by omega) hr
        exact ⟨zI B[i], by unfold f11_trace f0_keptAt; simp (disch := omega) only [h1, q1, nI_z, zI_add, zI_sub, zI_mul, zI_m1, ckI_z, zI_clamp, Int.toNat_natCast, bnd_some, lt, rd_same, rd_ne, rdL_same, rdL_ne, wI_2, wL_1, if_true, if_false, iT_lt, iF_lt, iT_lt0, iF_lt0, iT_0lt, iF_0lt, iT_le, iF_le, iT_le0, iF_le0, iT_0le, iF_0le, iT_eq, iF_eq, iT_eq0, iF_eq0], by unfold f12_trace; simp (disch := omega) only [h3, q2, nI_z, zI_add, zI_sub, zI_mul, zI_m1, ckI_z, zI_clamp, Int.toNat_natCast, bnd_some, lt, rd_same, rd_ne, rdL_same, rdL_ne, wI_2, wL_1, if_true, if_false, iT_lt, iF_lt, iT_lt0, iF_lt0, iT_0lt, iF_0lt, iT_le, iF_le, iT_le0, iF_le0, iT_0le, iF_0le, iT_eq, iF_eq, iT_eq0, iF_eq0]⟩
      · exact ⟨zI (-1), by unfold f11_trace f0_keptAt; simp (disch := omega) only [h1, nI_z, zI_add, zI_sub, zI_mul, zI_m1, ckI_z, zI_clamp, Int.toNat_natCast, bnd_some, lt, rd_same, rd_ne, rdL_same, rdL_ne, wI_2, wL_1, if_true, if_false, iT_lt, iF_lt, iT_lt0, iF_lt0, iT_0lt, iF_0lt, iT_le, iF_le, iT_le0, iF_le0, iT_0le, iF_0le, iT_eq, iF_eq, iT_eq0, iF_eq0], by unfold f12_trace; simp (disch := omega) only [h3, nI_z, zI_add, zI_sub, zI_mul, zI_m1, ckI_z, zI_clamp, Int.toNat_natCast, bnd_some, lt, rd_same, rd_ne, rdL_same, rdL_ne, wI_2, wL_1, if_true, if_false, iT_lt, iF_lt, iT_lt0, iF_lt0, iT_0lt, iF_0lt, iT_le, iF_le, iT_le0, iF_le0, iT_0le, iF_0le, iT_eq, iF_eq, iT_eq0, iF_eq0]⟩
    · exact ⟨zI (-1), by unfold f11_trace f0_keptAt; simp (disch := omega) only [h1, nI_z, zI_add, zI_sub, zI_mul, zI_m1, ckI_z, zI_clamp, Int.toNat_natCast, bnd_some, lt, rd_same, rd_ne, rdL_same, rdL_ne, wI_2, wL_1, if_true, if_false, iT_lt, iF_lt, iT_lt0, iF_lt0, iT_0lt, iF_0lt, iT_le, iF_le, iT_le0, iF_le0, iT_0le, iF_0le, iT_eq, iF_eq, iT_eq0, iF_eq0], by unfold f12_trace; simp (disch := omega) only [h3, nI_z, zI_add, zI_sub, zI_mul, zI_m1, ckI_z, zI_clamp, Int.toNat_natCast, bnd_some, lt, rd_same, rd_ne, rdL_same, rdL_ne, wI_2, wL_1, if_true, if_false, iT_lt, iF_lt, iT_lt0, iF_lt0, iT_0lt, iF_0lt, iT_le, iF_le, iT_le0, iF_le0, iT_0le, iF_0le, iT_eq, iF_eq, iT_eq0, iF_eq0]⟩
def acV (E : Ae) (a : Nat) (x : Int32) : Int32 := if a = 0 then stV E.1 E.2.2 x else if a = 1 then coV E E.2.2 x else if a = 2 then goV E E.2.2 x else teV E E.2.2 x
def acB (E : Ae) (a : Nat) : List Nat := if a = 0 then stB E.2.2 else if a = 1 then coB E E.2.2 else if a = 2 then goB E E.2.2 else teB E E.2.2
theorem acB_len (E : Ae) (a : Nat) : (acB E a).length ≤ 30 := by
  have h1 := stB_len E.2.2
  have h2 := coB_len E E.2.2
  have h3 := goB_len E E.2.2
  unfold acB
  split
  · omega
  split
  · omega
  split
  · omega
  · unfold teB
    split <;> simp <;> omega
theorem from_all {N a : Nat} {x : Int32} {S : St} {E : Ae} (hN : 10 ≤ N) (ha : a ≤ 3) (h : AC S E []) : ∃ S2, f0_from N 12 (zI E.2.2) (zI a) x (zI ((0 : Nat) : Int)) S = some (acV E a x, S2) ∧ AC S2 E (acB E a) ∧ Same acP S S2 := by
  have h0 := h.1
  unfold acV acB
  by_cases a0 : a = 0
  · subst a0
    rw [if_pos rfl, if_pos rfl]
    exact steps_all hN E.2.2 12 0 x S [] (by omega) (by omega) (by omega) h (by decide)
  rw [if_neg a0, if_neg a0]
  by_cases a1 : a = 1
  · subst a1
    rw [if_pos rfl, if_pos rfl]
    exact costs_all hN E.2.2 12 0 x S [] (by omega) (by omega) (by omega) h (by decide)
  rw [if_neg a1, if_neg a1]
  by_cases a2 : a = 2
  · subst a2
    rw [if_pos rfl, if_pos rfl]
    exact goes_all hN E.2.2 12 0 x S [] (by omega) (by omega) (by omega) h (by decide)
  rw [if_neg a2, if_neg a2]
  obtain rfl : a = 3 := by omega
  exact tells_all hN E.2.2 12 0 x S [] (by omega) (by omega) (by omega) h (by decide)
theorem c_act {N : Nat} {S : St} {Ls : List Lg} {B : List Nat} (hN : 20 ≤ N) (hl : Qlang S Ls) (h : Qact S B) (x y u : Int32) : ∃ r S1 S2 B2, f11_act N x y u S = some (r, S1) ∧ f12_act x y u S1 = some (r, S2) ∧ Qact S2 B2 ∧ Same qaP S S2 := by
  have hy := xrng y
  rw [zI_of y]
  generalize y.toInt = w at hy
  have s1 : Same (fun c k => c = 37 ∧ k = 1) S (wI S 37 1 (zI ((0 : Nat) : Int))) := (Same.rfl' (P := fun c k => c = 37 ∧ k = 1)).wI ⟨rfl, rfl⟩
  have v1 : (wI S 37 1 (zI ((0 : Nat) : Int))).1 37 1 = zI ((0 : Nat) : Int) := rd_same
  have hem : f0_beEmpty S = some ((), wI S 37 1 (zI ((0 : Nat) : Int))) := by unfold f0_beEmpty; simp (disch := omega) only [nI_z, zI_add, zI_sub, zI_mul, zI_m1, ckI_z, zI_clamp, Int.toNat_natCast, bnd_some, lt, rd_same, rd_ne, rdL_same, rdL_ne, wI_2, wL_1, if_true, if_false, iT_lt, iF_lt, iT_lt0, iF_lt0, iT_0lt, iF_0lt, iT_le, iF_le, iT_le0, iF_le0, iT_0le, iF_0le, iT_eq, iF_eq, iT_eq0, iF_eq0]
  generalize hS1 : wI S 37 1 (zI ((0 : Nat) : Int)) = S1 at s1 v1 hem
  have hl1 := hl.same s1 (fun c k z => by unfold laP at z; omega)
  have s2 : ∀ S', Same (fun c k => c = 146 ∧ k = 57) S' (wI S' 146 57 (zI ((0 : Nat) : Int))) := fun S' => (Same.rfl' (P := fun c k => c = 146 ∧ k = 57)).wI ⟨rfl, rfl⟩
  have k3 := fun S => within_n w 0 3 S hy (by omega) (by omega)
  -- nothing is done
  have triv : f11_act N x (zI w) u S = some (zI 0, S1) → f12_act x (zI w) u S1 = some (zI 0, wI S1 146 57 (zI ((0 : Nat) : Int))) → ∃ r S1 S2 B2, f11_act N x (zI w) u S = some (r, S1) ∧ f12_act x (zI w) u S1 = some (r, S2) ∧ Qact S2 B2 ∧ Same qaP S S2 := fun a b => ⟨zI 0, S1, _, [], a, b, ⟨by decide, by simp (disch := omega) only [v1, nI_z, zI_add, zI_sub, zI_mul, zI_m1, ckI_z, zI_clamp, Int.toNat_natCast, bnd_some, lt, rd_same, rd_ne, rdL_same, rdL_ne, wI_2, wL_1, if_true, if_false, iT_lt, iF_lt, iT_lt0, iF_lt0, iT_0lt, iF_0lt, iT_le, iF_le, iT_le0, iF_le0, iT_0le, iF_0le, iT_eq, iF_eq, iT_eq0, iF_eq0]; rfl, fun i b _ hb => (by cases hb), by simp (disch := omega) only [nI_z, zI_add, zI_sub, zI_mul, zI_m1, ckI_z, zI_clamp, Int.toNat_natCast, bnd_some, lt, rd_same, rd_ne, rdL_same, rdL_ne, wI_2, wL_1, if_true, if_false, iT_lt, iF_lt, iT_lt0, iF_lt0, iT_0lt, iF_0lt, iT_le, iF_le, iT_le0, iF_le0, iT_0le, iF_0le, iT_eq, iF_eq, iT_eq0, iF_eq0]; rfl, fun i b _ hb => (by cases hb)⟩, (s1.mono (fun c k z => by unfold qaP; omega)).tr ((s2 S1).mono (fun c k z => by unfold qaP; omega))⟩
  have hl2 := hl1.same (s2 S1) (fun c k z => by unfold laP at z; omega)
  rcases order_cases hl1 x with ⟨e1, e2⟩ | ⟨i, o, g, hg, hi, rfl, ho, hv, e1, e2⟩
  · have e2' : f12_isOrder x (wI S1 146 57 (zI ((0 : Nat) : Int))) = some (zI 0, wI S1 146 57 (zI ((0 : Nat) : Int))) := by
      rcases order_cases hl2 x with ⟨f1, f2⟩ | ⟨i, o, g, hg, hi, rfl, ho, hv, f1, f2⟩
      · exact f2
      · exfalso
        have ha := ad3_in i hi
        have hgl := hv.len
        have hil : i < Ls.length := (List.getElem?_eq_some_iff.mp hg).1
        have q0 := (lang_in hl1 hil).1
        obtain ⟨_, hc1, _⟩ := hl1.2.2.2 i g hg
        have k1 := f3_has_z hc1 hv (o : Int) (by omega)
        have hd1 := zI_div (a := ((100 * i + o : Nat) : Int)) (b := ((100 : Nat) : Int)) (by omega) (by omega) (by omega)
        have hr1 := zI_rem (a := ((100 * i + o : Nat) : Int)) (b := ((100 : Nat) : Int)) (by omega) (by omega) (by omega)
        rw [show ((100 * i + o : Nat) : Int) / ((100 : Nat) : Int) = (i : Int) by omega] at hd1
        rw [show ((100 * i + o : Nat) : Int) % ((100 : Nat) : Int) = (o : Int) by omega] at hr1
        have q1 : f11_languageOfOrder (zI ((100 * i + o : Nat) : Int)) S1 = some (some (50 + 11 * i), S1) := by
          unfold f11_languageOfOrder f11_languageOfOrder_j16; simp (disch := omega) only [iT_b, iF_b, hd1, hr1, q0, ifN_some, ckA_in ha, k1, nI_z, zI_add, zI_sub, zI_mul, zI_m1, ckI_z, zI_clamp, Int.toNat_natCast, bnd_some, lt, rd_same, rd_ne, rdL_same, rdL_ne, wI_2, wL_1, if_true, if_false, iT_lt, iF_lt, iT_lt0, iF_lt0, iT_0lt, iF_0lt, iT_le, iF_le, iT_le0, iF_le0, iT_0le, iF_0le, iT_eq, iF_eq, iT_eq0, iF_eq0]
        rw [q1] at e1
        injection e1 with e1
        injection e1 with e1 _
        cases e1
    refine triv ?_ ?_
    · unfold f11_act; rw [hem]; simp (disch := omega) only [e1, ifN_none, nI_z, zI_add, zI_sub, zI_mul, zI_m1, ckI_z, zI_clamp, Int.toNat_natCast, bnd_some, lt, rd_same, rd_ne, rdL_same, rdL_ne, wI_2, wL_1, if_true, if_false, iT_lt, iF_lt, iT_lt0, iF_lt0, iT_0lt, iF_0lt, iT_le, iF_le, iT_le0, iF_le0, iT_0le, iF_0le, iT_eq, iF_eq, iT_eq0, iF_eq0]
      rfl
    · unfold f12_act; simp (disch := omega) only [e2', nI_z, zI_add, zI_sub, zI_mul, zI_m1, ckI_z, zI_clamp, Int.toNat_natCast, bnd_some, lt, rd_same, rd_ne, rdL_same, rdL_ne, wI_2, wL_1, if_true, if_false, iT_lt, iF_lt, iT_lt0, iF_lt0, iT_0lt, iF_0lt, iT_le, iF_le, iT_le0, iF_le0, iT_0le, iF_0le, iT_eq, iF_eq, iT_eq0, iF_eq0]
      rfl
  · have ha := ad3_in i hi
    have hgl := hv.len
    have hil : i < Ls.length := (List.getElem?_eq_some_iff.mp hg).1
    have hd1 := zI_div (a := ((100 * i + o : Nat) : Int)) (b := ((100 : Nat) : Int)) (by omega) (by omega) (by omega)
    have hr1 := zI_rem (a := ((100 * i + o : Nat) : Int)) (b := ((100 : Nat) : Int)) (by omega) (by omega) (by omega)
    rw [show ((100 * i + o : Nat) : Int) / ((100 : Nat) : Int) = (i : Int) by omega] at hd1
    rw [show ((100 * i + o : Nat) : Int) % ((100 : Nat) : Int) = (o : Int) by omega] at hr1
    -- the reference's order, wherever
    have eo : ∀ S', Qlang S' Ls → f12_isOrder (zI ((100 * i + o : Nat) : Int)) S' = some (zI 1, S') := fun S' hq => by
      obtain ⟨_, _, hmm⟩ := hq.2.2.2 i g hg
      have q0 := (lang_in hq hil).2
      have k2 := f12_has_eq hmm hv hi (o : Int) (by omega)
      unfold f12_isOrder f12_isOrder_j35; simp (disch := omega) only [iT_b, iF_b, hd1, hr1, q0, k2, nI_z, zI_add, zI_sub, zI_mul, zI_m1, ckI_z, zI_clamp, Int.toNat_natCast, bnd_some, lt, rd_same, rd_ne, rdL_same, rdL_ne, wI_2, wL_1, if_true, if_false, iT_lt, iF_lt, iT_lt0, iF_lt0, iT_0lt, iF_0lt, iT_le, iF_le, iT_le0, iF_le0, iT_0le, iF_0le, iT_eq, iF_eq, iT_eq0, iF_eq0]; rfl
    by_cases w0 : 0 ≤ w ∧ w ≤ 3
    · obtain ⟨a, rfl⟩ : ∃ a : Nat, w = a := ⟨w.toNat, by omega⟩
      obtain ⟨_, hc1, _⟩ := hl1.2.2.2 i g hg
      have hb := f3_bitsOf_in hc1 hv ho
      have hbp := bit_pos hv o
      have hk := kind_c (S := S1) (o := o) (by omega)
      have hkr := kdN_rng o
      have s3 : Same qaP S1 (wI (wI (wI S1 37 2 (zI (kdN o))) 37 3 (zI o)) 37 4 (zI (bit g o))) := (Same.rfl' (P := qaP)) |>.wI (by unfold qaP; omega) |>.wI (by unfold qaP; omega) |>.wI (by unfold qaP; omega)
      have hac : AC (wI (wI (wI S1 37 2 (zI (kdN o))) 37 3 (zI o)) 37 4 (zI (bit g o))) (o, bit g o, kdN o) [] := ⟨⟨by show o < 12; omega, hbp.2, hkr.1, hkr.2⟩, by simp (disch := omega) only [v1, nI_z, zI_add, zI_sub, zI_mul, zI_m1, ckI_z, zI_clamp, Int.toNat_natCast, bnd_some, lt, rd_same, rd_ne, rdL_same, rdL_ne, wI_2, wL_1, if_true, if_false, iT_lt, iF_lt, iT_lt0, iF_lt0, iT_0lt, iF_0lt, iT_le, iF_le, iT_le0, iF_le0, iT_0le, iF_0le, iT_eq, iF_eq, iT_eq0, iF_eq0]; rfl, fun i b _ hb => (by cases hb), by simp (disch := omega) only [nI_z, zI_add, zI_sub, zI_mul, zI_m1, ckI_z, zI_clamp, Int.toNat_natCast, bnd_some, lt, rd_same, rd_ne, rdL_same, rdL_ne, wI_2, wL_1, if_true, if_false, iT_lt, iF_lt, iT_lt0, iF_lt0, iT_0lt, iF_0lt, iT_le, iF_le, iT_le0, iF_le0, iT_0le, iF_0le, iT_eq, iF_eq, iT_eq0, iF_eq0], by simp (disch := omega) only [nI_z, zI_add, zI_sub, zI_mul, zI_m1, ckI_z, zI_clamp, Int.toNat_natCast, bnd_some, lt, rd_same, rd_ne, rdL_same, rdL_ne, wI_2, wL_1, if_true, if_false, iT_lt, iF_lt, iT_lt0, iF_lt0, iT_0lt, iF_0lt, iT_le, iF_le, iT_le0, iF_le0, iT_0le, iF_0le, iT_eq, iF_eq, iT_eq0, iF_eq0], by simp (disch := omega) only [nI_z, zI_add, zI_sub, zI_mul, zI_m1, ckI_z, zI_clamp, Int.toNat_natCast, bnd_some, lt, rd_same, rd_ne, rdL_same, rdL_ne, wI_2, wL_1, if_true, if_false, iT_lt, iF_lt, iT_lt0, iF_lt0, iT_0lt, iF_0lt, iT_le, iF_le, iT_le0, iF_le0, iT_0le, iF_0le, iT_eq, iF_eq, iT_eq0, iF_eq0]⟩
      have v37 : (wI (wI (wI S1 37 2 (zI (kdN o))) 37 3 (zI o)) 37 4 (zI (bit g o))).1 37 2 = zI (kdN o) := by simp (disch := omega) only [nI_z, zI_add, zI_sub, zI_mul, zI_m1, ckI_z, zI_clamp, Int.toNat_natCast, bnd_some, lt, rd_same, rd_ne, rdL_same, rdL_ne, wI_2, wL_1, if_true, if_false, iT_lt, iF_lt, iT_lt0, iF_lt0, iT_0lt, iF_0lt, iT_le, iF_le, iT_le0, iF_le0, iT_0le, iF_0le, iT_eq, iF_eq, iT_eq0, iF_eq0]
      have e11p : ∀ S3, wI (wI (wI S1 37 2 (zI (kdN o))) 37 3 (zI o)) 37 4 (zI (bit g o)) = S3 → f11_act N (zI ((100 * i + o : Nat) : Int)) (zI a) u S = bnd (f0_from N 12 (zI (kdN o)) (zI a) u (zI ((0 : Nat) : Int)) S3) fun q6 S7 => some (q6, S7) := fun S3 q => by
        rw [← q]
        unfold f11_act f0_perform
        rw [hem]
        simp (disch := omega) only [e1, ifN_some, ckA_in ha, hr1, hb, hk, nI_z, zI_add, zI_sub, zI_mul, zI_m1, ckI_z, zI_clamp, Int.toNat_natCast, bnd_some, lt, rd_same, rd_ne, rdL_same, rdL_ne, wI_2, wL_1, if_true, if_false, iT_lt, iF_lt, iT_lt0, iF_lt0, iT_0lt, iF_0lt, iT_le, iF_le, iT_le0, iF_le0, iT_0le, iF_0le, iT_eq, iF_eq, iT_eq0, iF_eq0]
        cases f0_from N 12 (zI (kdN o)) (zI a) u (zI ((0 : Nat) : Int)) (wI (wI (wI S1 37 2 (zI (kdN o))) 37 3 (zI o)) 37 4 (zI (bit g o))) with
        | none => rfl
        | some q => rfl
      generalize hS3 : wI (wI (wI S1 37 2 (zI (kdN o))) 37 3 (zI o)) 37 4 (zI (bit g o)) = S3 at s3 hac v37
      obtain ⟨S4, a1, a2, a3⟩ := from_all (N := N) (a := a) (x := u) (by omega) (by omega) hac
      have e11 : f11_act N (zI ((100 * i + o : Nat) : Int)) (zI a) u S = some (acV (o, bit g o, kdN o) a u, S4) := by
        rw [e11p S3 hS3, a1, bnd_some]
      have s4 : Same (fun c k => (c = 37 ∧ 1 ≤ k ∧ k ≤ 4) ∨ c = 38) S S4 := ((s1.mono (fun c k z => Or.inl (by omega))).tr (by
        rw [← hS3]
        exact (Same.rfl' (P := fun c k => (c = 37 ∧ 1 ≤ k ∧ k ≤ 4) ∨ c = 38)) |>.wI (by omega) |>.wI (by omega) |>.wI (by omega))).tr (a3.mono (fun c k z => by unfold acP at z; omega))
      have hl4 := hl.same s4 (fun c k z => by unfold laP at z; omega)
      have s5 : Same (fun c k => c = 146 ∧ 57 ≤ k ∧ k ≤ 60) S4 (wI (wI (wI (wI S4 146 57 (zI ((0 : Nat) : Int))) 146 58 (zI o)) 146 59 (zI (bit g o))) 146 60 (zI (kdN o))) := (Same.rfl' (P := fun c k => c = 146 ∧ 57 ≤ k ∧ k ≤ 60)) |>.wI (by omega) |>.wI (by omega) |>.wI (by omega) |>.wI (by omega)
      have ham : AM (wI (wI (wI (wI S4 146 57 (zI ((0 : Nat) : Int))) 146 58 (zI o)) 146 59 (zI (bit g o))) 146 60 (zI (kdN o))) (o, bit g o, kdN o) [] := ⟨⟨by show o < 12; omega, hbp.2, hkr.1, hkr.2⟩, by simp (disch := omega) only [nI_z, zI_add, zI_sub, zI_mul, zI_m1, ckI_z, zI_clamp, Int.toNat_natCast, bnd_some, lt, rd_same, rd_ne, rdL_same, rdL_ne, wI_2, wL_1, if_true, if_false, iT_lt, iF_lt, iT_lt0, iF_lt0, iT_0lt, iF_0lt, iT_le, iF_le, iT_le0, iF_le0, iT_0le, iF_0le, iT_eq, iF_eq, iT_eq0, iF_eq0]; rfl, fun i b _ hb => (by cases hb), by simp (disch := omega) only [nI_z, zI_add, zI_sub, zI_mul, zI_m1, ckI_z, zI_clamp, Int.toNat_natCast, bnd_some, lt, rd_same, rd_ne, rdL_same, rdL_ne, wI_2, wL_1, if_true, if_false, iT_lt, iF_lt, iT_lt0, iF_lt0, iT_0lt, iF_0lt, iT_le, iF_le, iT_le0, iF_le0, iT_0le, iF_0le, iT_eq, iF_eq, iT_eq0, iF_eq0], by simp (disch := omega) only [nI_z, zI_add, zI_sub, zI_mul, zI_m1, ckI_z, zI_clamp, Int.toNat_natCast, bnd_some, lt, rd_same, rd_ne, rdL_same, rdL_ne, wI_2, wL_1, if_true, if_false, iT_lt, iF_lt, iT_lt0, iF_lt0, iT_0lt, iF_0lt, iT_le, iF_le, iT_le0, iF_le0, iT_0le, iF_0le, iT_eq, iF_eq, iT_eq0, iF_eq0], by simp (disch := omega) only [nI_z, zI_add, zI_sub, zI_mul, zI_m1, ckI_z, zI_clamp, Int.toNat_natCast, bnd_some, lt, rd_same, rd_ne, rdL_same, rdL_ne, wI_2, wL_1, if_true, if_false, iT_lt, iF_lt, iT_lt0, iF_lt0, iT_0lt, iF_0lt, iT_le, iF_le, iT_le0, iF_le0, iT_0le, iF_0le, iT_eq, iF_eq, iT_eq0, iF_eq0]⟩
      obtain ⟨_, _, hm4⟩ := hl4.2.2.2 i g hg
      have hb4 := hm4.2.1 o ho
      have e5 := eo _ (hl4.same (s2 S4) (fun c k z => by unfold laP at z; omega))
      have hkm := fun S => kind_m (S := S) (o := o) (by omega)
      have hz12 : (((12 : Nat) : Int) * (i : Int) + (o : Int)).toNat = 12 * i + o := by omega
      have v60 : (wI (wI (wI (wI S4 146 57 (zI ((0 : Nat) : Int))) 146 58 (zI o)) 146 59 (zI (bit g o))) 146 60 (zI (kdN o))).1 146 60 = zI (kdN o) := by simp (disch := omega) only [nI_z, zI_add, zI_sub, zI_mul, zI_m1, ckI_z, zI_clamp, Int.toNat_natCast, bnd_some, lt, rd_same, rd_ne, rdL_same, rdL_ne, wI_2, wL_1, if_true, if_false, iT_lt, iF_lt, iT_lt0, iF_lt0, iT_0lt, iF_0lt, iT_le, iF_le, iT_le0, iF_le0, iT_0le, iF_0le, iT_eq, iF_eq, iT_eq0, iF_eq0]
      have fin : ∀ S5, f12_act (zI ((100 * i + o : Nat) : Int)) (zI a) u S4 = some (acV (o, bit g o, kdN o) a u, S5) → AM S5 (o, bit g o, kdN o) (acB (o, bit g o, kdN o) a) → Same amP (wI (wI (wI (wI S4 146 57 (zI ((0 : Nat) : Int))) 146 58 (zI o)) 146 59 (zI (bit g o))) 146 60 (zI (kdN o))) S5 → ∃ r S1 S2 B2, f11_act N (zI ((100 * i + o : Nat) : Int)) (zI a) u S = some (r, S1) ∧ f12_act (zI ((100 * i + o : Nat) : Int)) (zI a) u S1 = some (r, S2) ∧ Qact S2 B2 ∧ Same qaP S S2 := fun S5 f1 f2 f3 => by
        have s45 : Same (fun c k => (c = 146 ∧ 57 ≤ k ∧ k ≤ 60) ∨ c = 169) S4 S5 := (s5.mono (fun c k z => Or.inl z)).tr (f3.mono (fun c k z => by unfold amP at z; omega))
        have hbl := acB_len (o, bit g o, kdN o) a
        refine ⟨_, S4, S5, _, e11, f1, ⟨by omega, by rw [s45.i (by omega)]; exact a2.2.1, fun i b hi hb => by rw [s45.i (by omega)]; exact a2.2.2.1 i b hi hb, f2.2.1, f2.2.2.1⟩, (s4.mono (fun c k z => by unfold qaP; omega)).tr (s45.mono (fun c k z => by unfold qaP; omega))⟩
      by_cases a0 : a = 0
      · subst a0
        obtain ⟨S5, c1, c2, c3⟩ := msteps_all (E := (o, bit g o, kdN o)) (kdN o) 6 u _ [] (by omega) (by omega) ham (by decide)
        refine fin S5 ?_ c2 c3
        unfold f12_act
        simp (disch := omega) only [iT_b, iF_b, e5, k3, hr1, hd1, hz12, hb4, hkm, v60, nI_z, zI_add, zI_sub, zI_mul, zI_m1, ckI_z, zI_clamp, Int.toNat_natCast, bnd_some, lt, rd_same, rd_ne, rdL_same, rdL_ne, wI_2, wL_1, if_true, if_false, iT_lt, iF_lt, iT_lt0, iF_lt0, iT_0lt, iF_0lt, iT_le, iF_le, iT_le0, iF_le0, iT_0le, iF_0le, iT_eq, iF_eq, iT_eq0, iF_eq0]
        rw [c1]
        rfl
      by_cases a1' : a = 1
      · subst a1'
        obtain ⟨S5, c1, c2, c3⟩ := mcosts_all (E := (o, bit g o, kdN o)) (kdN o) 6 u _ [] (by omega) (by omega) ham (by decide)
        refine fin S5 ?_ c2 c3
        unfold f12_act
        simp (disch := omega) only [iT_b, iF_b, e5, k3, hr1, hd1, hz12, hb4, hkm, v60, nI_z, zI_add, zI_sub, zI_mul, zI_m1, ckI_z, zI_clamp, Int.toNat_natCast, bnd_some, lt, rd_same, rd_ne, rdL_same, rdL_ne, wI_2, wL_1, if_true, if_false, iT_lt, iF_lt, iT_lt0, iF_lt0, iT_0lt, iF_0lt, iT_le, iF_le, iT_le0, iF_le0, iT_0le, iF_0le, iT_eq, iF_eq, iT_eq0, iF_eq0]
        rw [c1]
        rfl
      by_cases a2' : a = 2
      · subst a2'
        obtain ⟨S5, c1, c2, c3⟩ := mgoes_all (E := (o, bit g o, kdN o)) (kdN o) 6 u _ [] (by omega) (by omega) ham (by decide)
        refine fin S5 ?_ c2 c3
        unfold f12_act
        simp (disch := omega) only [iT_b, iF_b, e5, k3, hr1, hd1, hz12, hb4, hkm, v60, nI_z, zI_add, zI_sub, zI_mul, zI_m1, ckI_z, zI_clamp, Int.toNat_natCast, bnd_some, lt, rd_same, rd_ne, rdL_same, rdL_ne, wI_2, wL_1, if_true, if_false, iT_lt, iF_lt, iT_lt0, iF_lt0, iT_0lt, iF_0lt, iT_le, iF_le, iT_le0, iF_le0, iT_0le, iF_0le, iT_eq, iF_eq, iT_eq0, iF_eq0]
        rw [c1]
        rfl
      · obtain rfl : a = 3 := by omega
        obtain ⟨S5, c1, c2, c3⟩ := mtells_all (E := (o, bit g o, kdN o)) (kdN o) 6 u _ [] (by omega) (by omega) ham (by decide)
        refine fin S5 ?_ c2 c3
        unfold f12_act
        simp (disch := omega) only [iT_b, iF_b, e5, k3, hr1, hd1, hz12, hb4, hkm, v60, nI_z, zI_add, zI_sub, zI_mul, zI_m1, ckI_z, zI_clamp, Int.toNat_natCast, bnd_some, lt, rd_same, rd_ne, rdL_same, rdL_ne, wI_2, wL_1, if_true, if_false, iT_lt, iF_lt, iT_lt0, iF_lt0, iT_0lt, iF_0lt, iT_le, iF_le, iT_le0, iF_le0, iT_0le, iF_0le, iT_eq, iF_eq, iT_eq0, iF_eq0]
        rw [c1]
        rfl
    · have e5 := eo _ hl2
      refine triv ?_ ?_
      · unfold f11_act
        rw [hem]
        by_cases e : w < 0
        · simp (disch := omega) only [e1, ifN_some, ckA_in ha, nI_z, zI_add, zI_sub, zI_mul, zI_m1, ckI_z, zI_clamp, Int.toNat_natCast, bnd_some, lt, rd_same, rd_ne, rdL_same, rdL_ne, wI_2, wL_1, if_true, if_false, iT_lt, iF_lt, iT_lt0, iF_lt0, iT_0lt, iF_0lt, iT_le, iF_le, iT_le0, iF_le0, iT_0le, iF_0le, iT_eq, iF_eq, iT_eq0, iF_eq0]; rfl
        · simp (disch := omega) only [e1, ifN_some, ckA_in ha, nI_z, zI_add, zI_sub, zI_mul, zI_m1, ckI_z, zI_clamp, Int.toNat_natCast, bnd_some, lt, rd_same, rd_ne, rdL_same, rdL_ne, wI_2, wL_1, if_true, if_false, iT_lt, iF_lt, iT_lt0, iF_lt0, iT_0lt, iF_0lt, iT_le, iF_le, iT_le0, iF_le0, iT_0le, iF_0le, iT_eq, iF_eq, iT_eq0, iF_eq0]; rfl
      · unfold f12_act; simp (disch := omega) only [iT_b, iF_b, e5, k3, nI_z, zI_add, zI_sub, zI_mul, zI_m1, ckI_z, zI_clamp, Int.toNat_natCast, bnd_some, lt, rd_same, rd_ne, rdL_same, rdL_ne, wI_2, wL_1, if_true, if_false, iT_lt, iF_lt, iT_lt0, iF_lt0, iT_0lt, iF_0lt, iT_le, iF_le, iT_le0, iF_le0, iT_0le, iF_0le, iT_eq, iF_eq, iT_eq0, iF_eq0]; rfl
