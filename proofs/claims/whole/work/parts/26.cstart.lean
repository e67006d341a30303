/-! The class's Machine begins a program. -/
theorem f3_wl {S : St} {a o : Nat} {g : Lg} (h : CL S a g) (hg : LV g) (ho : o < g.1.length) : f3_writtenLength a (zI o) S = some (zI (wo g o).length, S) := by
  have hgl := hg.len
  have hg1 := hg.1
  unfold f3_writtenLength wo
  by_cases e : o < 8
  · rw [if_pos e]
    simp (disch := omega) only [nI_z, zI_add, zI_sub, zI_mul, zI_m1, ckI_z, zI_clamp, Int.toNat_natCast, bnd_some, lt, rd_same, rd_ne, rdL_same, rdL_ne, wI_2, wL_1, if_true, if_false, iT_lt, iF_lt, iT_lt0, iF_lt0, iT_0lt, iF_0lt, iT_le, iF_le, iT_le0, iF_le0, iT_0le, iF_0le, iT_eq, iF_eq, iT_eq0, iF_eq0]
    rfl
  · obtain ⟨j, rfl⟩ : ∃ j, o = j + 8 := ⟨o - 8, by omega⟩
    have hq : g.2[j]? = some g.2[j] := List.getElem?_eq_getElem (by omega)
    rw [if_neg e, Nat.add_sub_cancel, List.getD_eq_getElem?_getD, hq]
    have h1 := (h.2.2.2.2.1 j _ hq).1
    have hz : ((j + 8 : Nat) : Int) - ((8 : Nat) : Int) = (j : Int) := by omega
    simp (disch := omega) only [hz, h1, Option.getD_some, nI_z, zI_add, zI_sub, zI_mul, zI_m1, ckI_z, zI_clamp, Int.toNat_natCast, bnd_some, lt, rd_same, rd_ne, rdL_same, rdL_ne, wI_2, wL_1, if_true, if_false, iT_lt, iF_lt, iT_lt0, iF_lt0, iT_0lt, iF_0lt, iT_le, iF_le, iT_le0, iF_le0, iT_0le, iF_0le, iT_eq, iF_eq, iT_eq0, iF_eq0]
theorem f3_wr {S : St} {a o k x : Nat} {g : Lg} (h : CL S a g) (hg : LV g) (ho : o < g.1.length) (hk : (wo g o)[k]? = some x) : f3_written a (zI o) (zI k) S = some (zI x, S) := by
  have hgl := hg.len
  have hg1 := hg.1
  unfold wo at hk
  unfold f3_written
  by_cases e : o < 8
  · rw [if_pos e] at hk
    have hk0 : k < 1 := (List.getElem?_eq_some_iff.mp hk).1
    obtain rfl : k = 0 := by omega
    obtain rfl : o = x := by simpa using hk
    simp (disch := omega) only [nI_z, zI_add, zI_sub, zI_mul, zI_m1, ckI_z, zI_clamp, Int.toNat_natCast, bnd_some, lt, rd_same, rd_ne, rdL_same, rdL_ne, wI_2, wL_1, if_true, if_false, iT_lt, iF_lt, iT_lt0, iF_lt0, iT_0lt, iF_0lt, iT_le, iF_le, iT_le0, iF_le0, iT_0le, iF_0le, iT_eq, iF_eq, iT_eq0, iF_eq0]
  · obtain ⟨j, rfl⟩ : ∃ j, o = j + 8 := ⟨o - 8, by omega⟩
    have hq : g.2[j]? = some g.2[j] := List.getElem?_eq_getElem (by omega)
    rw [if_neg e, Nat.add_sub_cancel, List.getD_eq_getElem?_getD, hq] at hk
    have hk : g.2[j][k]? = some x := hk
    have h1 := (h.2.2.2.2.1 j _ hq).2 k x hk
    have hl := (List.getElem?_eq_some_iff.mp hk).1
    have h4 := (hg.2.2.2.2 _ (List.mem_of_getElem? hq)).2.1
    rw [Nat.zero_add] at h1
    have hz : ((j + 8 : Nat) : Int) - ((8 : Nat) : Int) = (j : Int) := by omega
    simp (disch := omega) only [hz, h1, nI_z, zI_add, zI_sub, zI_mul, zI_m1, ckI_z, zI_clamp, Int.toNat_natCast, bnd_some, lt, rd_same, rd_ne, rdL_same, rdL_ne, wI_2, wL_1, if_true, if_false, iT_lt, iF_lt, iT_lt0, iF_lt0, iT_0lt, iF_0lt, iT_le, iF_le, iT_le0, iF_le0, iT_0le, iF_0le, iT_eq, iF_eq, iT_eq0, iF_eq0]
/-- the part of the machine's cells that holds the written orders -/
def woP (c k : Nat) : Prop := (c = 6 ∧ k = 1) ∨ c = 7
theorem f4_writeOut_loop {N a o : Nat} {g : Lg} (hg : LV g) (ha : 11 ≤ a) (ho : o < g.1.length) : ∀ (m k n : Nat) (S : St) (u : List Nat), k + m = (wo g o).length → m < n → CL S a g → S.1 6 1 = zI u.length → Held (S.1 7) 0 u → u.length + m ≤ 48 →
    ∃ S2, f4_writeOut_h2 N a (zI o) n (zI k) S = some ((), S2) ∧ S2.1 6 1 = zI (u ++ (wo g o).drop k).length ∧ Held (S2.1 7) 0 (u ++ (wo g o).drop k) ∧ Same woP S S2 := by
  have hwl := wo_len hg ho
  intro m
  induction m with
  | zero =>
    intro k n S u hk hn hc h1 h2 hl
    obtain ⟨n, rfl⟩ : ∃ z, n = z + 1 := ⟨n - 1, by omega⟩
    have q := f3_wl hc hg ho
    rw [List.drop_eq_nil_of_le (by omega), List.append_nil]
    refine ⟨S, ?_, h1, h2, Same.rfl'⟩
    rw [f4_writeOut_h2]
    simp (disch := omega) only [q, nI_z, zI_add, zI_sub, zI_mul, zI_m1, ckI_z, zI_clamp, Int.toNat_natCast, bnd_some, lt, rd_same, rd_ne, rdL_same, rdL_ne, wI_2, wL_1, if_true, if_false, iT_lt, iF_lt, iT_lt0, iF_lt0, iT_0lt, iF_0lt, iT_le, iF_le, iT_le0, iF_le0, iT_0le, iF_0le, iT_eq, iF_eq, iT_eq0, iF_eq0]
  | succ m ih =>
    intro k n S u hk hn hc h1 h2 hl
    obtain ⟨n, rfl⟩ : ∃ z, n = z + 1 := ⟨n - 1, by omega⟩
    have q := f3_wl hc hg ho
    have hlt : k < (wo g o).length := by omega
    have hr : (wo g o)[k]? = some (wo g o)[k] := List.getElem?_eq_getElem hlt
    rw [List.drop_eq_getElem_cons hlt]
    generalize (wo g o)[k] = x at hr
    have q2 := f3_wr hc hg ho hr
    have hs : Same woP S (wI (wI S 7 u.length (zI x)) 6 1 (zI (u.length + ((1 : Nat) : Int)))) := ((Same.rfl' (P := woP)).wI (Or.inr rfl)).wI (Or.inl ⟨rfl, rfl⟩)
    have hll : (u ++ [x]).length = u.length + 1 := by simp
    obtain ⟨S2, g1, g2, g3, g4⟩ := ih (k + 1) n _ (u ++ [x]) (by omega) (by omega) (hc.same hg hs (fun c k _ _ => by unfold woP; omega)) (by rw [rd_same, hll]; rfl) (h2.push2 (by simp (disch := omega) only [nI_z, zI_add, zI_sub, zI_mul, zI_m1, ckI_z, zI_clamp, Int.toNat_natCast, bnd_some, lt, rd_same, rd_ne, rdL_same, rdL_ne, wI_2, wL_1, if_true, if_false, iT_lt, iF_lt, iT_lt0, iF_lt0, iT_0lt, iF_0lt, iT_le, iF_le, iT_le0, iF_le0, iT_0le, iF_0le, iT_eq, iF_eq, iT_eq0, iF_eq0]) (fun k hk => by simp (disch := omega) only [nI_z, zI_add, zI_sub, zI_mul, zI_m1, ckI_z, zI_clamp, Int.toNat_natCast, bnd_some, lt, rd_same, rd_ne, rdL_same, rdL_ne, wI_2, wL_1, if_true, if_false, iT_lt, iF_lt, iT_lt0, iF_lt0, iT_0lt, iF_0lt, iT_le, iF_le, iT_le0, iF_le0, iT_0le, iF_0le, iT_eq, iF_eq, iT_eq0, iF_eq0])) (by omega)
    rw [List.append_assoc, List.singleton_append] at g2 g3
    refine ⟨S2, ?_, g2, g3, hs.tr g4⟩
    rw [f4_writeOut_h2]
    simp (disch := omega) only [q, h1, q2, nI_z, zI_add, zI_sub, zI_mul, zI_m1, ckI_z, zI_clamp, Int.toNat_natCast, bnd_some, lt, rd_same, rd_ne, rdL_same, rdL_ne, wI_2, wL_1, if_true, if_false, iT_lt, iF_lt, iT_lt0, iF_lt0, iT_0lt, iF_0lt, iT_le, iF_le, iT_le0, iF_le0, iT_0le, iF_0le, iT_eq, iF_eq, iT_eq0, iF_eq0]
    exact g1
theorem f4_start_loop {N a a1 x K : Nat} {g : Lg} {p : List Nat} (hg : LV g) (ha : 11 ≤ a) (ha1 : a1 + 1 < 6 ∨ 9 < a1) (hN : 20 ≤ N) (hw : WP g p) (h12 : p.length ≤ 12) (hx : x < 1000) (hK : K + 9 < 2147483648) : ∀ (m i n : Nat) (S : St), i + m = p.length → m < n → CL S a g → PR S a1 p → S.1 6 1 = zI (wr g (p.take i)).length → Held (S.1 7) 0 (wr g (p.take i)) → S.1 6 10 = zI K → MK (S.1 9) K [] ∨ (∃ cm, MK (S.1 9) K cm) →
    ∃ S2, f4_start_h8 N a a1 (zI x) n (zI i) S = some ((), S2) ∧ CMr S2 (wr g p) (x, 0, 0, [], [(x, 0)]) 0 2 (K + 1) ∧ Same mcP S S2 := by
  intro m
  induction m with
  | zero =>
    intro i n S hi hn hc hp h1 h2 h3 h4
    obtain ⟨n, rfl⟩ : ∃ z, n = z + 1 := ⟨n - 1, by omega⟩
    have q := f6_length_eq hp
    rw [List.take_of_length_le (by omega)] at h1 h2
    obtain ⟨cm, h4⟩ : ∃ cm, MK (S.1 9) K cm := by
      rcases h4 with h4 | h4
      · exact ⟨_, h4⟩
      · exact h4
    have hs : Same mcP S (wI (wI (wI (wI (wI (wI (wI S 6 2 (zI ((0 : Nat) : Int))) 6 3 (zI x)) 6 4 (zI ((0 : Nat) : Int))) 6 5 (zI ((0 : Nat) : Int))) 6 6 (zI ((2 : Nat) : Int))) 6 8 (zI ((0 : Nat) : Int))) 6 10 (zI ((K : Int) + ((1 : Nat) : Int)))) := ((((((((Same.rfl' (P := mcP)).wI (by unfold mcP; omega)).wI (by unfold mcP; omega)).wI (by unfold mcP; omega)).wI (by unfold mcP; omega)).wI (by unfold mcP; omega)).wI (by unfold mcP; omega)).wI (by unfold mcP; omega))
    generalize hS1 : wI (wI (wI (wI (wI (wI (wI S 6 2 (zI ((0 : Nat) : Int))) 6 3 (zI x)) 6 4 (zI ((0 : Nat) : Int))) 6 5 (zI ((0 : Nat) : Int))) 6 6 (zI ((2 : Nat) : Int))) 6 8 (zI ((0 : Nat) : Int))) 6 10 (zI ((K : Int) + ((1 : Nat) : Int))) = S1 at hs
    have r : ∀ c, c ≠ 6 → S1.1 c = S.1 c := fun c hc => by
      rw [← hS1]
      funext k
      simp (disch := omega) only [nI_z, zI_add, zI_sub, zI_mul, zI_m1, ckI_z, zI_clamp, Int.toNat_natCast, bnd_some, lt, rd_same, rd_ne, rdL_same, rdL_ne, wI_2, wL_1, if_true, if_false, iT_lt, iF_lt, iT_lt0, iF_lt0, iT_0lt, iF_0lt, iT_le, iF_le, iT_le0, iF_le0, iT_0le, iF_0le, iT_eq, iF_eq, iT_eq0, iF_eq0]
    have v : S1.1 6 1 = zI (wr g p).length ∧ S1.1 6 2 = zI ((0 : Nat) : Int) ∧ S1.1 6 3 = zI x ∧ S1.1 6 4 = zI ((0 : Nat) : Int) ∧ S1.1 6 5 = zI ((0 : Nat) : Int) ∧ S1.1 6 6 = zI ((2 : Nat) : Int) ∧ S1.1 6 8 = zI ((0 : Nat) : Int) ∧ S1.1 6 10 = zI ((K + 1 : Nat) : Int) := by
      rw [← hS1]
      refine ⟨?_, ?_, ?_, ?_, ?_, ?_, ?_, ?_⟩
      all_goals simp (disch := omega) only [h1, nI_z, zI_add, zI_sub, zI_mul, zI_m1, ckI_z, zI_clamp, Int.toNat_natCast, bnd_some, lt, rd_same, rd_ne, rdL_same, rdL_ne, wI_2, wL_1, if_true, if_false, iT_lt, iF_lt, iT_lt0, iF_lt0, iT_0lt, iF_0lt, iT_le, iF_le, iT_le0, iF_le0, iT_0le, iF_0le, iT_eq, iF_eq, iT_eq0, iF_eq0]
      all_goals rfl
    obtain ⟨v1, v2, v3, v4, v5, v6, v8, v10⟩ := v
    have hmk : MK (S1.1 9) (K + 1) [] := by rw [r 9 (by omega)]; exact h4.new (by omega)
    obtain ⟨S2, b1, b2, b3⟩ := hb_ok (S := S1) (a := x) (b := 0) hx (by omega) v3 v4 v10 hmk
    have r2 : ∀ c, c ≠ 9 → S2.1 c = S1.1 c := fun c hc => b3.row (fun k => hc)
    have r6 := r2 6 (by omega)
    refine ⟨S2, ?_, ⟨by rw [r6]; exact v1, by rw [r2 7 (by omega), r 7 (by omega)]; exact h2, by rw [r6]; exact v2, by rw [r6]; exact v3, by rw [r6]; exact v4, by rw [r6]; exact v5, by rw [r6]; exact v6, by rw [r6]; exact v8, fun i x hx => (by cases hx), by rw [r6]; exact v10, b2⟩, hs.tr (b3.mono (fun c k e => by unfold mcP; omega))⟩
    rw [f4_start_h8]
    simp (disch := omega) only [q, h3, nI_z, zI_add, zI_sub, zI_mul, zI_m1, ckI_z, zI_clamp, Int.toNat_natCast, bnd_some, lt, rd_same, rd_ne, rdL_same, rdL_ne, wI_2, wL_1, if_true, if_false, iT_lt, iF_lt, iT_lt0, iF_lt0, iT_0lt, iF_0lt, iT_le, iF_le, iT_le0, iF_le0, iT_0le, iF_0le, iT_eq, iF_eq, iT_eq0, iF_eq0]
    rw [hS1, b1, bnd_some]
  | succ m ih =>
    intro i n S hi hn hc hp h1 h2 h3 h4
    obtain ⟨n, rfl⟩ : ∃ z, n = z + 1 := ⟨n - 1, by omega⟩
    have q := f6_length_eq hp
    have hlt : i < p.length := by omega
    have hr : p[i]? = some p[i] := List.getElem?_eq_getElem hlt
    have htk : p.take (i + 1) = p.take i ++ [p[i]] := by rw [List.take_add_one, hr]; rfl
    have hpm : ∀ y ∈ p.take i, y < g.1.length := fun y hy => hw.2.1 y (List.mem_of_mem_take hy)
    generalize p[i] = o at hr htk
    have ho := hw.2.1 o (List.mem_of_getElem? hr)
    have q2 := f6_orderAt_in hp hr
    have hwo := wo_len hg ho
    have hwl := (wr_len hg hpm).2
    have htl : (p.take i).length = i := by rw [List.length_take]; omega
    have hwr : wr g (p.take (i + 1)) = wr g (p.take i) ++ wo g o := by
      unfold wr
      rw [htk, List.flatMap_append, List.flatMap_cons, List.flatMap_nil, List.append_nil]
    obtain ⟨S1, g1, g2, g3, g4⟩ := f4_writeOut_loop (N := N) hg ha ho (wo g o).length 0 N S (wr g (p.take i)) (by omega) (by omega) hc h1 h2 (by omega)
    rw [List.drop_zero, ← hwr] at g2 g3
    obtain ⟨S2, k1, k2, k3⟩ := ih (i + 1) n S1 (by omega) (by omega) (hc.same hg g4 (fun c k _ _ => by unfold woP; omega)) (hp.same g4 (fun k => by unfold woP; omega) (fun k => by unfold woP; omega)) g2 g3 (by rw [g4.i (by unfold woP; omega)]; exact h3) (by rw [g4.row (fun k => by unfold woP; omega)]; exact h4)
    refine ⟨S2, ?_, k2, (g4.mono (fun c k e => by unfold woP at e; unfold mcP; omega)).tr k3⟩
    have g1' : f4_writeOut N a (zI o) S = some ((), S1) := g1
    rw [f4_start_h8]
    simp (disch := omega) only [q, q2, g1', nI_z, zI_add, zI_sub, zI_mul, zI_m1, ckI_z, zI_clamp, Int.toNat_natCast, bnd_some, lt, rd_same, rd_ne, rdL_same, rdL_ne, wI_2, wL_1, if_true, if_false, iT_lt, iF_lt, iT_lt0, iF_lt0, iT_0lt, iF_0lt, iT_le, iF_le, iT_le0, iF_le0, iT_0le, iF_0le, iT_eq, iF_eq, iT_eq0, iF_eq0]
    exact k1
/-- between two runs: the mark, and what bears it -/
def CMq (S : St) (K : Nat) : Prop := S.1 6 10 = zI K ∧ ∃ cm, MK (S.1 9) K cm
/-- a run on the class's side: from the start, t steps at most -/
theorem f4_run_ok {N a a1 x K t : Nat} {S : St} {g : Lg} {p : List Nat} (hg : LV g) (ha : 11 ≤ a) (ha1 : a1 + 1 < 6 ∨ 9 < a1) (hN : 100000 ≤ N) (hw : WP g p) (h12 : p.length ≤ 12) (hx : x < 1000) (hK : K + 10 < 2147483648) (ht : t < 100000) (hc : CL S a g) (hp : PR S a1 p) (hm : CMq S K) :
    ∃ S1 S2, f4_start N a a1 (zI x) S = some ((), S1) ∧ f4_goOn N (zI t) S1 = some ((), S2) ∧ CMr S2 (wr g p) (prun g p x t).1 (prun g p x t).2.1 (prun g p x t).2.2 (K + 1) ∧ Same mcP S S1 ∧ Same mcP S S2 := by
  have hs : Same mcP S (wI S 6 1 (zI ((0 : Nat) : Int))) := (Same.rfl' (P := mcP)).wI (by unfold mcP; omega)
  obtain ⟨S1, e1, e2, e3⟩ := f4_start_loop (N := N) (K := K) hg ha ha1 (by omega) hw h12 hx (by omega) p.length 0 N (wI S 6 1 (zI ((0 : Nat) : Int))) (by omega) (by omega) (hc.same hg hs (fun c k _ _ => by unfold mcP; omega)) (hp.same hs (fun k => by unfold mcP; omega) (fun k => by unfold mcP; omega)) rd_same (fun i x h => by simp [wr] at h) (by simp (disch := omega) only [hm.1, nI_z, zI_add, zI_sub, zI_mul, zI_m1, ckI_z, zI_clamp, Int.toNat_natCast, bnd_some, lt, rd_same, rd_ne, rdL_same, rdL_ne, wI_2, wL_1, if_true, if_false, iT_lt, iF_lt, iT_lt0, iF_lt0, iT_0lt, iF_0lt, iT_le, iF_le, iT_le0, iF_le0, iT_0le, iF_0le, iT_eq, iF_eq, iT_eq0, iF_eq0]) (Or.inr (by
    obtain ⟨cm, h⟩ := hm.2
    exact ⟨cm, h⟩))
  have hl := wr_len hg hw.2.1
  have hp0 : 0 < p.length := List.length_pos_iff.mpr hw.1
  obtain ⟨S2, f1, f2, f3⟩ := f4_goOn_loop (N := N) (K := K + 1) (t := t) (w := wr g p) (by omega) ht (by omega) (wr_mem hg hw) t N S1 _ 0 e2 ⟨hx, by show 0 < 1000; omega, by show 0 ≤ 8; omega, fun y hy => (by cases hy)⟩ (by show 0 < _; omega) (by omega) (by omega)
  refine ⟨S1, S2, ?_, f1, f2, hs.tr e3, (hs.tr e3).tr f3⟩
  unfold f4_start
  simp (disch := omega) only [nI_z, zI_add, zI_sub, zI_mul, zI_m1, ckI_z, zI_clamp, Int.toNat_natCast, bnd_some, lt, rd_same, rd_ne, rdL_same, rdL_ne, wI_2, wL_1, if_true, if_false, iT_lt, iF_lt, iT_lt0, iF_lt0, iT_0lt, iF_0lt, iT_le, iF_le, iT_le0, iF_le0, iT_0le, iF_0le, iT_eq, iF_eq, iT_eq0, iF_eq0]
  exact e1
