/-! The reference writes a packed program out and runs it. -/
def wrP (c j : Nat) : Prop := (c = 146 ∧ j = 10) ∨ c = 154
theorem pk_head {o : Nat} {q : List Nat} (ho : o < 12) (hb : pack (o :: q) < 2 ^ 48) : (lN (pack (o :: q)) &&& lN 15).toInt32 = zI o ∧ shrL (lN (pack (o :: q))) (zI ((4 : Nat) : Int)) = lN (pack q) := by
  have hpk : pack (o :: q) = o + 16 * pack q := rfl
  rw [hpk] at hb ⊢
  refine ⟨?_, ?_⟩
  · rw [lN_and15 (by omega), lN_i32 _ (by omega)]
    congr 1
    omega
  · rw [← nI_z, lN_shr4 (by omega)]
    congr 1
    omega
theorem ML.wr {S S2 : St} {k : Nat} {g : Lg} (h : ML S k g) (hv : LV g) (hs : Same wrP S S2) : ML S2 k g := h.same hv hs (fun c p _ _ _ => by unfold wrP; omega) (fun p _ _ => by unfold wrP; omega) (fun p _ _ => by unfold wrP; omega) (by unfold wrP; omega)
theorem f12_wpart_loop {N i j : Nat} {g : Lg} {q : List Nat} (hv : LV g) (hi : i < 6) (hq : g.2[j]? = some q) (l : Int64) (x6 : Int32) (k11 : Int64 → Int32 → St → Option (Unit × St)) : ∀ (m a n : Nat) (S : St) (u : List Nat), a + m = q.length → m < n → ML S i g → S.1 146 10 = zI u.length → Held (S.1 154) 0 u → u.length + m ≤ 48 →
    ∃ S2, f12_write_h88 N (zI i) l x6 (zI ((4 * i + j : Nat) : Int)) k11 n (zI a) S = k11 l x6 S2 ∧ S2.1 146 10 = zI (u ++ q.drop a).length ∧ Held (S2.1 154) 0 (u ++ q.drop a) ∧ Same wrP S S2 := by
  have hjl := (List.getElem?_eq_some_iff.mp hq).1
  have hp4 := hv.2.1
  have hq4 := (hv.2.2.2.2 q (List.mem_of_getElem? hq)).2.1
  intro m
  induction m with
  | zero =>
    intro a n S u ha hn hm h1 h2 hl
    obtain ⟨n, rfl⟩ : ∃ z, n = z + 1 := ⟨n - 1, by omega⟩
    have b1 := (hm.2.2.2.2 j q hq).1
    rw [List.drop_eq_nil_of_le (by omega), List.append_nil]
    refine ⟨S, ?_, h1, h2, Same.rfl'⟩
    rw [f12_write_h88]
    simp (disch := omega) only [b1, nI_z, zI_add, zI_sub, zI_mul, zI_m1, ckI_z, zI_clamp, Int.toNat_natCast, bnd_some, lt, rd_same, rd_ne, rdL_same, rdL_ne, wI_2, wL_1, if_true, if_false, iT_lt, iF_lt, iT_lt0, iF_lt0, iT_0lt, iF_0lt, iT_le, iF_le, iT_le0, iF_le0, iT_0le, iF_0le, iT_eq, iF_eq, iT_eq0, iF_eq0]
  | succ m ih =>
    intro a n S u ha hn hm h1 h2 hl
    obtain ⟨n, rfl⟩ : ∃ z, n = z + 1 := ⟨n - 1, by omega⟩
    obtain ⟨b1, b2⟩ := hm.2.2.2.2 j q hq
    have hlt : a < q.length := by omega
    have hr : q[a]? = some q[a] := List.getElem?_eq_getElem hlt
    rw [List.drop_eq_getElem_cons hlt]
    generalize q[a] = x at hr
    have b3 := b2 a x hr
    have hix : (((4 : Nat) : Int) * ((4 * i + j : Nat) : Int) + (a : Int)).toNat = 4 * (4 * i + j) + a := by omega
    have hs : Same wrP S (wI (wI S 154 u.length (zI x)) 146 10 (zI (u.length + ((1 : Nat) : Int)))) := ((Same.rfl' (P := wrP)).wI (Or.inr rfl)).wI (Or.inl ⟨rfl, rfl⟩)
    have hll : (u ++ [x]).length = u.length + 1 := by simp
    obtain ⟨S2, g1, g2, g3, g4⟩ := ih (a + 1) n _ (u ++ [x]) (by omega) (by omega) (hm.wr hv hs) (by rw [rd_same, hll]; rfl) (h2.push2 (by simp (disch := omega) only [nI_z, zI_add, zI_sub, zI_mul, zI_m1, ckI_z, zI_clamp, Int.toNat_natCast, bnd_some, lt, rd_same, rd_ne, rdL_same, rdL_ne, wI_2, wL_1, if_true, if_false, iT_lt, iF_lt, iT_lt0, iF_lt0, iT_0lt, iF_0lt, iT_le, iF_le, iT_le0, iF_le0, iT_0le, iF_0le, iT_eq, iF_eq, iT_eq0, iF_eq0]) (fun k hk => by simp (disch := omega) only [nI_z, zI_add, zI_sub, zI_mul, zI_m1, ckI_z, zI_clamp, Int.toNat_natCast, bnd_some, lt, rd_same, rd_ne, rdL_same, rdL_ne, wI_2, wL_1, if_true, if_false, iT_lt, iF_lt, iT_lt0, iF_lt0, iT_0lt, iF_0lt, iT_le, iF_le, iT_le0, iF_le0, iT_0le, iF_0le, iT_eq, iF_eq, iT_eq0, iF_eq0])) (by omega)
    rw [List.append_assoc, List.singleton_append] at g2 g3
    refine ⟨S2, ?_, g2, g3, hs.tr g4⟩
    rw [f12_write_h88]
    simp (disch := omega) only [b1, hix, b3, h1, nI_z, zI_add, zI_sub, zI_mul, zI_m1, ckI_z, zI_clamp, Int.toNat_natCast, bnd_some, lt, rd_same, rd_ne, rdL_same, rdL_ne, wI_2, wL_1, if_true, if_false, iT_lt, iF_lt, iT_lt0, iF_lt0, iT_0lt, iF_0lt, iT_le, iF_le, iT_le0, iF_le0, iT_0le, iF_0le, iT_eq, iF_eq, iT_eq0, iF_eq0]
    exact g1
theorem f12_wone {N i o : Nat} {g : Lg} {S : St} {u : List Nat} (hN : 20 ≤ N) (hv : LV g) (hi : i < 6) (ho : o < g.1.length) (hm : ML S i g) (h1 : S.1 146 10 = zI u.length) (h2 : Held (S.1 154) 0 u) (hl : u.length + 4 ≤ 48) (l : Int64) (k11 : Int64 → Int32 → St → Option (Unit × St)) (x6 : Int32) :
    ∃ S2, f12_write_j41 N (zI i) l (zI o) k11 x6 S = k11 l x6 S2 ∧ S2.1 146 10 = zI (u ++ wo g o).length ∧ Held (S2.1 154) 0 (u ++ wo g o) ∧ Same wrP S S2 := by
  have hgl := hv.len
  have hg1 := hv.1
  have hp4 := hv.2.1
  unfold wo
  by_cases e : o < 8
  · rw [if_pos e]
    have hll : (u ++ [o]).length = u.length + 1 := by simp
    have hs : Same wrP S (wI (wI S 154 u.length (zI o)) 146 10 (zI (u.length + ((1 : Nat) : Int)))) := ((Same.rfl' (P := wrP)).wI (Or.inr rfl)).wI (Or.inl ⟨rfl, rfl⟩)
    refine ⟨_, ?_, by rw [rd_same, hll]; rfl, h2.push2 (by simp (disch := omega) only [nI_z, zI_add, zI_sub, zI_mul, zI_m1, ckI_z, zI_clamp, Int.toNat_natCast, bnd_some, lt, rd_same, rd_ne, rdL_same, rdL_ne, wI_2, wL_1, if_true, if_false, iT_lt, iF_lt, iT_lt0, iF_lt0, iT_0lt, iF_0lt, iT_le, iF_le, iT_le0, iF_le0, iT_0le, iF_0le, iT_eq, iF_eq, iT_eq0, iF_eq0]) (fun k hk => by simp (disch := omega) only [nI_z, zI_add, zI_sub, zI_mul, zI_m1, ckI_z, zI_clamp, Int.toNat_natCast, bnd_some, lt, rd_same, rd_ne, rdL_same, rdL_ne, wI_2, wL_1, if_true, if_false, iT_lt, iF_lt, iT_lt0, iF_lt0, iT_0lt, iF_0lt, iT_le, iF_le, iT_le0, iF_le0, iT_0le, iF_0le, iT_eq, iF_eq, iT_eq0, iF_eq0]), hs⟩
    unfold f12_write_j41
    simp (disch := omega) only [h1, nI_z, zI_add, zI_sub, zI_mul, zI_m1, ckI_z, zI_clamp, Int.toNat_natCast, bnd_some, lt, rd_same, rd_ne, rdL_same, rdL_ne, wI_2, wL_1, if_true, if_false, iT_lt, iF_lt, iT_lt0, iF_lt0, iT_0lt, iF_0lt, iT_le, iF_le, iT_le0, iF_le0, iT_0le, iF_0le, iT_eq, iF_eq, iT_eq0, iF_eq0]
  · obtain ⟨j, rfl⟩ : ∃ j, o = j + 8 := ⟨o - 8, by omega⟩
    have hq : g.2[j]? = some g.2[j] := List.getElem?_eq_getElem (by omega)
    rw [if_neg e, Nat.add_sub_cancel, List.getD_eq_getElem?_getD, hq]
    have hq4 := (hv.2.2.2.2 _ (List.mem_of_getElem? hq)).2.1
    obtain ⟨S2, a1, a2, a3, a4⟩ := f12_wpart_loop (N := N) hv hi hq l x6 k11 g.2[j].length 0 N S u (by omega) (by omega) hm h1 h2 (by omega)
    rw [List.drop_zero] at a2 a3
    refine ⟨S2, ?_, a2, a3, a4⟩
    have hz : ((4 : Nat) : Int) * (i : Int) + ((j + 8 : Nat) : Int) - ((8 : Nat) : Int) = ((4 * i + j : Nat) : Int) := by omega
    unfold f12_write_j41
    simp (disch := omega) only [hz, nI_z, zI_add, zI_sub, zI_mul, zI_m1, ckI_z, zI_clamp, Int.toNat_natCast, bnd_some, lt, rd_same, rd_ne, rdL_same, rdL_ne, wI_2, wL_1, if_true, if_false, iT_lt, iF_lt, iT_lt0, iF_lt0, iT_0lt, iF_0lt, iT_le, iF_le, iT_le0, iF_le0, iT_0le, iF_0le, iT_eq, iF_eq, iT_eq0, iF_eq0]
    exact a1
theorem f12_write_loop {N i : Nat} {g : Lg} {p : List Nat} (hN : 20 ≤ N) (hv : LV g) (hi : i < 6) (hw : WP g p) (h12 : p.length ≤ 12) : ∀ (m a n : Nat) (S : St), a + (m + 1) = p.length → m + 1 < n → ML S i g → S.1 146 10 = zI (wr g (p.take a)).length → Held (S.1 154) 0 (wr g (p.take a)) →
    ∃ S2, f12_write_h11 N (zI i) n (lN (pack (p.drop a))) (zI ((1 : Nat) : Int)) S = some ((), S2) ∧ S2.1 146 10 = zI (wr g p).length ∧ Held (S2.1 154) 0 (wr g p) ∧ Same wrP S S2 := by
  have hgl := hv.len
  intro m
  induction m with
  | zero =>
    intro a n S ha hn hm h1 h2
    obtain ⟨n, rfl⟩ : ∃ z, n = z + 1 := ⟨n - 1, by omega⟩
    obtain ⟨n, rfl⟩ : ∃ z, n = z + 1 := ⟨n - 1, by omega⟩
    have hlt : a < p.length := by omega
    have hr : p[a]? = some p[a] := List.getElem?_eq_getElem hlt
    have hdk : p.drop a = p[a] :: p.drop (a + 1) := List.drop_eq_getElem_cons hlt
    have htk : p.take (a + 1) = p.take a ++ [p[a]] := by rw [List.take_add_one, hr]; rfl
    have h0 := (hw.2.2 a _ hr).mpr (by omega)
    rw [h0] at hdk htk hr
    have hb := pack_48 (p := p.drop a) (by rw [List.length_drop]; omega) (fun x hh => by have := hw.2.1 x (List.mem_of_mem_drop hh); omega)
    have hpm : ∀ y ∈ p.take a, y < g.1.length := fun y hy => hw.2.1 y (List.mem_of_mem_take hy)
    have hwl := (wr_len hv hpm).2
    have htl : (p.take a).length = a := by rw [List.length_take]; omega
    have hwr : wr g p = wr g (p.take a) ++ wo g 0 := by
      conv => lhs; rw [← List.take_of_length_le (by omega : p.length ≤ a + 1), htk]
      unfold wr
      rw [List.flatMap_append, List.flatMap_cons, List.flatMap_nil, List.append_nil]
    rw [hdk] at hb ⊢
    obtain ⟨q1, q2⟩ := pk_head (by omega) hb
    obtain ⟨S2, a1, a2, a3, a4⟩ := f12_wone (N := N) (o := 0) hN hv hi (by omega) hm h1 h2 (by omega) (lN (pack (p.drop (a + 1)))) (f12_write_h11 N (zI i) (n + 1)) (zI ((0 : Nat) : Int))
    rw [← hwr] at a2 a3
    refine ⟨S2, ?_, a2, a3, a4⟩
    rw [f12_write_h11]
    simp (disch := omega) only [q1, q2, nI_z, zI_add, zI_sub, zI_mul, zI_m1, ckI_z, zI_clamp, Int.toNat_natCast, bnd_some, lt, rd_same, rd_ne, rdL_same, rdL_ne, wI_2, wL_1, if_true, if_false, iT_lt, iF_lt, iT_lt0, iF_lt0, iT_0lt, iF_0lt, iT_le, iF_le, iT_le0, iF_le0, iT_0le, iF_0le, iT_eq, iF_eq, iT_eq0, iF_eq0]
    rw [a1, f12_write_h11]
    simp (disch := omega) only [nI_z, zI_add, zI_sub, zI_mul, zI_m1, ckI_z, zI_clamp, Int.toNat_natCast, bnd_some, lt, rd_same, rd_ne, rdL_same, rdL_ne, wI_2, wL_1, if_true, if_false, iT_lt, iF_lt, iT_lt0, iF_lt0, iT_0lt, iF_0lt, iT_le, iF_le, iT_le0, iF_le0, iT_0le, iF_0le, iT_eq, iF_eq, iT_eq0, iF_eq0]
  | succ m ih =>
    intro a n S ha hn hm h1 h2
    obtain ⟨n, rfl⟩ : ∃ z, n = z + 1 := ⟨n - 1, by omega⟩
    have hlt : a < p.length := by omega
    have hr : p[a]? = some p[a] := List.getElem?_eq_getElem hlt
    have hdk : p.drop a = p[a] :: p.drop (a + 1) := List.drop_eq_getElem_cons hlt
    have htk : p.take (a + 1) = p.take a ++ [p[a]] := by rw [List.take_add_one, hr]; rfl
    have h0 := hw.2.2 a _ hr
    have ho := hw.2.1 _ (List.mem_of_getElem? hr)
    generalize p[a] = o at hr hdk htk h0 ho
    have hb := pack_48 (p := p.drop a) (by rw [List.length_drop]; omega) (fun x hh => by have := hw.2.1 x (List.mem_of_mem_drop hh); omega)
    have hpm : ∀ y ∈ p.take a, y < g.1.length := fun y hy => hw.2.1 y (List.mem_of_mem_take hy)
    have hwl := (wr_len hv hpm).2
    have htl : (p.take a).length = a := by rw [List.length_take]; omega
    have hwr : wr g (p.take (a + 1)) = wr g (p.take a) ++ wo g o := by
      unfold wr
      rw [htk, List.flatMap_append, List.flatMap_cons, List.flatMap_nil, List.append_nil]
    have ho0 : o ≠ 0 := fun q => by have := h0.mp q; omega
    rw [hdk] at hb ⊢
    obtain ⟨q1, q2⟩ := pk_head (by omega) hb
    obtain ⟨S1, a1, a2, a3, a4⟩ := f12_wone (N := N) (o := o) hN hv hi ho hm h1 h2 (by omega) (lN (pack (p.drop (a + 1)))) (f12_write_h11 N (zI i) n) (zI ((1 : Nat) : Int))
    rw [← hwr] at a2 a3
    obtain ⟨S2, b1, b2, b3, b4⟩ := ih (a + 1) n S1 (by omega) (by omega) (hm.wr hv a4) a2 a3
    refine ⟨S2, ?_, b2, b3, a4.tr b4⟩
    rw [f12_write_h11]
    simp (disch := omega) only [q1, q2, nI_z, zI_add, zI_sub, zI_mul, zI_m1, ckI_z, zI_clamp, Int.toNat_natCast, bnd_some, lt, rd_same, rd_ne, rdL_same, rdL_ne, wI_2, wL_1, if_true, if_false, iT_lt, iF_lt, iT_lt0, iF_lt0, iT_0lt, iF_0lt, iT_le, iF_le, iT_le0, iF_le0, iT_0le, iF_0le, iT_eq, iF_eq, iT_eq0, iF_eq0]
    rw [a1]
    exact b1
theorem f12_write_ok {N i : Nat} {S : St} {g : Lg} {p : List Nat} (hN : 20 ≤ N) (hv : LV g) (hi : i < 6) (hw : WP g p) (h12 : p.length ≤ 12) (hm : ML S i g) : ∃ S2, f12_write N (zI i) (lN (pack p)) S = some ((), S2) ∧ S2.1 146 10 = zI (wr g p).length ∧ Held (S2.1 154) 0 (wr g p) ∧ Same wrP S S2 := by
  have hl : 0 < p.length := List.length_pos_iff.mpr hw.1
  have hs : Same wrP S (wI S 146 10 (zI ((0 : Nat) : Int))) := (Same.rfl' (P := wrP)).wI (Or.inl ⟨rfl, rfl⟩)
  obtain ⟨S2, e1, e2, e3, e4⟩ := f12_write_loop (N := N) hN hv hi hw h12 (p.length - 1) 0 N (wI S 146 10 (zI ((0 : Nat) : Int))) (by omega) (by omega) (hm.wr hv hs) rd_same (fun i y h => by simp [wr] at h)
  refine ⟨S2, ?_, e2, e3, hs.tr e4⟩
  unfold f12_write
  simp (disch := omega) only [nI_z, zI_add, zI_sub, zI_mul, zI_m1, ckI_z, zI_clamp, Int.toNat_natCast, bnd_some, lt, rd_same, rd_ne, rdL_same, rdL_ne, wI_2, wL_1, if_true, if_false, iT_lt, iF_lt, iT_lt0, iF_lt0, iT_0lt, iF_0lt, iT_le, iF_le, iT_le0, iF_le0, iT_0le, iF_0le, iT_eq, iF_eq, iT_eq0, iF_eq0]
  exact e1
theorem step_ok {N s : Nat} {S : St} {w : List Nat} {m : Mc} (hN : 5000 ≤ N) (h : RMr S w m s) (hm : MIq m) (hw : w.length ≤ 48) (hx : ∀ x ∈ w, x < 8) (hi : m.2.2.1 < w.length) (hs : s < 4198) : stepR N S w m s := by
  have hr : w[m.2.2.1]? = some w[m.2.2.1] := List.getElem?_eq_getElem hi
  have ho := hx _ (List.getElem_mem hi)
  generalize w[m.2.2.1] = o at hr ho
  by_cases e0 : o = 0
  · subst e0; exact step_0 h hm hw (by omega) hr
  by_cases e3 : o = 3
  · subst e3; exact step_3 h hm hw (by omega) hr
  by_cases e6 : o = 6
  · subst e6; exact step_6 hN h hm hw hs hr
  exact step_lo h hm hw (by omega) hr (by omega)
theorem f12_run_loop {N t : Nat} {w : List Nat} (hN : 5000 ≤ N) (ht : t < 100000) (hw : w.length ≤ 48) (hx : ∀ x ∈ w, x < 8) : ∀ (t' n : Nat) (S : St) (m : Mc) (s : Nat), RMr S w m s → MIq m → m.2.2.1 < w.length → s + t' = t → t' < n → (mgo w t' m s).2.1 ≤ 4198 →
    ∃ S2, f12_runFor_h15 N (zI t) n (zI ((2 : Nat) : Int)) S = some (zI (mgo w t' m s).2.2, S2) ∧ RFr S2 (mgo w t' m s).1 (mgo w t' m s).2.1 ∧ Same rmP S S2 := by
  intro t'
  induction t' with
  | zero =>
    intro n S m s h hm hi hs hn hc
    obtain ⟨n, rfl⟩ : ∃ z, n = z + 1 := ⟨n - 1, by omega⟩
    refine ⟨S, ?_, h.fr, Same.rfl'⟩
    have h6 := h.2.2.2.2.2.1
    rw [f12_runFor_h15]
    simp (disch := omega) only [h6, nI_z, zI_add, zI_sub, zI_mul, zI_m1, ckI_z, zI_clamp, Int.toNat_natCast, bnd_some, lt, rd_same, rd_ne, rdL_same, rdL_ne, wI_2, wL_1, if_true, if_false, iT_lt, iF_lt, iT_lt0, iF_lt0, iT_0lt, iF_0lt, iT_le, iF_le, iT_le0, iF_le0, iT_0le, iF_0le, iT_eq, iF_eq, iT_eq0, iF_eq0]
    rfl
  | succ t' ih =>
    intro n S m s h hm hi hs hn hc
    obtain ⟨n, rfl⟩ : ∃ z, n = z + 1 := ⟨n - 1, by omega⟩
    have h6 := h.2.2.2.2.2.1
    have hst := mstep_MI (w := w) hm
    have hs1 : s < 4198 := by
      rw [mgo_s] at hc
      by_cases e : (mstep w m).2 = 2
      · rw [if_pos e] at hc
        have := (mgo_steps (w := w) t' (mstep w m).1 (s + 1)).1
        omega
      · rw [if_neg e] at hc
        exact hc
    obtain ⟨S1, a1, a2, a3, a4⟩ := step_ok hN h hm hw hx hi hs1
    rw [mgo_s] at hc ⊢
    by_cases e : (mstep w m).2 = 2
    · rw [if_pos e] at hc ⊢
      obtain ⟨S2, b1, b2, b3⟩ := ih n S1 _ (s + 1) (a3 e) hst.1 (hst.2.2.1 e) (by omega) (by omega) hc
      refine ⟨S2, ?_, b2, a4.tr b3⟩
      rw [e] at a1
      rw [f12_runFor_h15]
      simp (disch := omega) only [h6, a1, nI_z, zI_add, zI_sub, zI_mul, zI_m1, ckI_z, zI_clamp, Int.toNat_natCast, bnd_some, lt, rd_same, rd_ne, rdL_same, rdL_ne, wI_2, wL_1, if_true, if_false, iT_lt, iF_lt, iT_lt0, iF_lt0, iT_0lt, iF_0lt, iT_le, iF_le, iT_le0, iF_le0, iT_0le, iF_0le, iT_eq, iF_eq, iT_eq0, iF_eq0]
      exact b1
    · rw [if_neg e]
      refine ⟨S1, ?_, a2, a4⟩
      have h2 := hst.2.1
      obtain ⟨n, rfl⟩ : ∃ z, n = z + 1 := ⟨n - 1, by omega⟩
      rw [f12_runFor_h15]
      simp (disch := omega) only [h6, a1, nI_z, zI_add, zI_sub, zI_mul, zI_m1, ckI_z, zI_clamp, Int.toNat_natCast, bnd_some, lt, rd_same, rd_ne, rdL_same, rdL_ne, wI_2, wL_1, if_true, if_false, iT_lt, iF_lt, iT_lt0, iF_lt0, iT_0lt, iF_0lt, iT_le, iF_le, iT_le0, iF_le0, iT_0le, iF_0le, iT_eq, iF_eq, iT_eq0, iF_eq0]
      rw [f12_runFor_h15]
      simp (disch := omega) only [nI_z, zI_add, zI_sub, zI_mul, zI_m1, ckI_z, zI_clamp, Int.toNat_natCast, bnd_some, lt, rd_same, rd_ne, rdL_same, rdL_ne, wI_2, wL_1, if_true, if_false, iT_lt, iF_lt, iT_lt0, iF_lt0, iT_0lt, iF_0lt, iT_le, iF_le, iT_le0, iF_le0, iT_0le, iF_0le, iT_eq, iF_eq, iT_eq0, iF_eq0]
/-- all that a run on the reference's side may write -/
def rnP (c k : Nat) : Prop := (c = 146 ∧ ((10 ≤ k ∧ k ≤ 15) ∨ k = 20)) ∨ (154 ≤ c ∧ c ≤ 158)
theorem f12_runFor_ok {N i x t : Nat} {S : St} {g : Lg} {p : List Nat} (hN : 100000 ≤ N) (hv : LV g) (hi : i < 6) (hw : WP g p) (h12 : p.length ≤ 12) (hm : ML S i g) (hx : x < 1000) (ht : t < 100000) (hc : (prun g p x t).2.1 ≤ 4198) :
    ∃ S2, f12_runFor N (zI i) (lN (pack p)) (zI x) (zI t) S = some (zI (prun g p x t).2.2, S2) ∧ RFr S2 (prun g p x t).1 (prun g p x t).2.1 ∧ S2.1 156 0 = zI x ∧ Same rnP S S2 := by
  have hl := wr_len hv hw.2.1
  have hp0 : 0 < p.length := List.length_pos_iff.mpr hw.1
  obtain ⟨S1, a1, a2, a3, a4⟩ := f12_write_ok (N := N) (by omega) hv hi hw h12 hm
  have hs : Same rnP S1 (wI (wI (wI (wI (wI (wI (wI (wI (wI S1 146 11 (zI x)) 146 12 (zI ((0 : Nat) : Int))) 146 13 (zI ((0 : Nat) : Int))) 146 14 (zI ((0 : Nat) : Int))) 146 15 (zI ((0 : Nat) : Int))) 156 0 (zI x)) 157 0 (zI ((0 : Nat) : Int))) 158 0 (zI ((0 : Nat) : Int))) 146 20 (zI ((1 : Nat) : Int))) := (Same.rfl' (P := rnP)) |>.wI (by unfold rnP; omega) |>.wI (by unfold rnP; omega) |>.wI (by unfold rnP; omega) |>.wI (by unfold rnP; omega) |>.wI (by unfold rnP; omega) |>.wI (by unfold rnP; omega) |>.wI (by unfold rnP; omega) |>.wI (by unfold rnP; omega) |>.wI (by unfold rnP; omega)
  generalize hS2 : wI (wI (wI (wI (wI (wI (wI (wI (wI S1 146 11 (zI x)) 146 12 (zI ((0 : Nat) : Int))) 146 13 (zI ((0 : Nat) : Int))) 146 14 (zI ((0 : Nat) : Int))) 146 15 (zI ((0 : Nat) : Int))) 156 0 (zI x)) 157 0 (zI ((0 : Nat) : Int))) 158 0 (zI ((0 : Nat) : Int))) 146 20 (zI ((1 : Nat) : Int)) = S2 at hs
  have v : S2.1 146 10 = zI (wr g p).length ∧ S2.1 146 11 = zI x ∧ S2.1 146 12 = zI ((0 : Nat) : Int) ∧ S2.1 146 13 = zI ((0 : Nat) : Int) ∧ S2.1 146 14 = zI ((0 : Nat) : Int) ∧ S2.1 146 15 = zI ((0 : Nat) : Int) ∧ S2.1 156 0 = zI x ∧ S2.1 157 0 = zI ((0 : Nat) : Int) ∧ S2.1 158 0 = zI ((0 : Nat) : Int) ∧ S2.1 146 20 = zI ((1 : Nat) : Int) ∧ ∀ k, S2.1 154 k = S1.1 154 k := by
    rw [← hS2]
    refine ⟨?_, ?_, ?_, ?_, ?_, ?_, ?_, ?_, ?_, ?_, fun k => ?_⟩
    all_goals simp (disch := omega) only [a2, nI_z, zI_add, zI_sub, zI_mul, zI_m1, ckI_z, zI_clamp, Int.toNat_natCast, bnd_some, lt, rd_same, rd_ne, rdL_same, rdL_ne, wI_2, wL_1, if_true, if_false, iT_lt, iF_lt, iT_lt0, iF_lt0, iT_0lt, iF_0lt, iT_le, iF_le, iT_le0, iF_le0, iT_0le, iF_0le, iT_eq, iF_eq, iT_eq0, iF_eq0]
  obtain ⟨v0, v1, v2, v3, v4, v5, v6, v7, v8, v9, v10⟩ := v
  have hR : RMr S2 (wr g p) (x, 0, 0, [], [(x, 0)]) 0 := by
    refine ⟨v0, fun i y hy => by rw [v10]; exact a3 i y hy, v1, v2, v3, v4, v5, fun i y hy => (by cases hy), 1, ⟨by omega, by omega⟩, 0, rfl, fun j e he => ?_, fun j hj => absurd hj (by omega), fun e he => ?_, v9⟩
    · have hj : j < 1 := (List.getElem?_eq_some_iff.mp he).1
      obtain rfl : j = 0 := by omega
      obtain rfl : e = (x, 0) := by simpa [eq_comm] using he
      exact ⟨v6, v7, v8⟩
    · rw [List.mem_singleton.mp he]
      exact ⟨hx, by show 0 < 1000; omega⟩
  obtain ⟨S3, b1, b2, b3⟩ := f12_run_loop (N := N) (t := t) (w := wr g p) (by omega) ht (by omega) (wr_mem hv hw) t N S2 _ 0 hR ⟨hx, by show 0 < 1000; omega, by show 0 ≤ 8; omega, fun y hy => (by cases hy)⟩ (by show 0 < _; omega) (by omega) (by omega) hc
  refine ⟨S3, ?_, b2, by rw [b3.i (by unfold rmP; omega)]; exact v6, ((a4.mono (fun c k e => by unfold wrP at e; unfold rnP; omega)).tr hs).tr (b3.mono (fun c k e => by unfold rmP at e; unfold rnP; omega))⟩
  unfold f12_runFor
  rw [a1]
  unfold f12_start
  simp (disch := omega) only [nI_z, zI_add, zI_sub, zI_mul, zI_m1, ckI_z, zI_clamp, Int.toNat_natCast, bnd_some, lt, rd_same, rd_ne, rdL_same, rdL_ne, wI_2, wL_1, if_true, if_false, iT_lt, iF_lt, iT_lt0, iF_lt0, iT_0lt, iF_0lt, iT_le, iF_le, iT_le0, iF_le0, iT_0le, iF_0le, iT_eq, iF_eq, iT_eq0, iF_eq0]
  rw [hS2]
  exact b1
/-- the count of what a run said can be read again -/
def V15 (S : St) : Prop := ∃ k : Nat, k ≤ 8 ∧ S.1 146 15 = zI k
theorem V15.of {S : St} {m : Mc} {s : Nat} (h : RFr S m s) (hm : MIq m) : V15 S := ⟨_, hm.2.2.1, h.2.2.2.1⟩
theorem V15.same {P : Nat → Nat → Prop} {S S2 : St} (h : V15 S) (hs : Same P S S2) (hd : ¬ P 146 15) : V15 S2 := by
  obtain ⟨k, h1, h2⟩ := h
  exact ⟨k, h1, by rw [hs.i hd]; exact h2⟩
