/-! The call task. -/
def txt (t : List Nat) (i : Nat) : Nat := t.getD i 0
theorem txt_at {t : List Nat} {i x : Nat} (h : t[i]? = some x) : txt t i = x := by unfold txt; rw [List.getD_eq_getElem?_getD, h]; rfl
theorem txt_256 {t : List Nat} (h : ∀ y ∈ t, y < 256) (i : Nat) : txt t i < 256 := by
  unfold txt
  rw [List.getD_eq_getElem?_getD]
  cases e : t[i]? with
  | none => simp
  | some y => exact h y (List.mem_of_getElem? e)
theorem Held.txt {r : Nat → Int32} {o : Nat} {t : List Nat} (h : Held r o t) {i : Nat} (hi : i < t.length) : r (o + i) = zI (txt t i : Int) := by
  have e := List.getElem?_eq_getElem hi
  rw [txt_at e]
  exact h i _ e
/-- an ask, as both sides keep it -/
def ASK (S : St) (k : Nat) (q : Nat × List Nat × List Nat) : Prop := q.1 < 1000 ∧ q.2.1.length ≤ 60 ∧ (∀ y ∈ q.2.1, y < 256) ∧ pAll (txt q.2.1) q.2.1.length = .inr q.2.2 ∧ AK S (116 + 3 * k) q.2.2 ∧ S.1 (116 + 3 * k) 2 = zI q.1 ∧ Held (S.1 163) (60 * k) q.2.1 ∧ S.1 164 k = zI q.2.1.length ∧ S.1 165 k = zI q.1
def Qtask (S : St) (ts : List (Nat × List Nat × List Nat)) : Prop := ts.length ≤ 10 ∧ S.1 0 9 = zI ts.length ∧ S.1 146 34 = zI ts.length ∧ ∀ k q, ts[k]? = some q → ASK S k q
def tkP (c k : Nat) : Prop := (c = 0 ∧ k = 9) ∨ (c = 146 ∧ k = 34) ∨ (116 ≤ c ∧ c ≤ 145 ∧ (c - 116) % 3 ≠ 2 ∧ ¬ ((c - 116) % 3 = 0 ∧ k = 4)) ∨ (163 ≤ c ∧ c ≤ 165)
theorem Held.upto {r r2 : Nat → Int32} {o : Nat} {l : List Nat} (h : Held r o l) (he : ∀ i, i < l.length → r2 (o + i) = r (o + i)) : Held r2 o l := fun i x hi => by
  rw [he i (List.getElem?_eq_some_iff.mp hi).1]
  exact h i x hi
theorem Held.pushO {f f2 : Nat → Int32} {o : Nat} {l : List Nat} {x : Nat} (h : Held f o l) (h1 : f2 (o + l.length) = zI x) (h2 : ∀ k, k < l.length → f2 (o + k) = f (o + k)) : Held f2 o (l ++ [x]) := fun i y hi => by
  have hlt : i < l.length + 1 := by
    have := (List.getElem?_eq_some_iff.mp hi).1
    simpa using this
  by_cases e : i = l.length
  · subst e
    have : y = x := by simpa [eq_comm] using hi
    rw [h1, this]
  · rw [List.getElem?_append_left (by omega)] at hi
    rw [h2 i (by omega), h i y hi]
theorem ASK.upto {P : Nat → Nat → Prop} {S S2 : St} {k : Nat} {q : Nat × List Nat × List Nat} (h : ASK S k q) (hs : Same P S S2) (h1 : ¬ P (116 + 3 * k) 1) (h2 : ¬ P (116 + 3 * k) 2) (h3 : ∀ i, ¬ P (116 + 3 * k + 1) i) (h4 : ∀ i, i < 60 → ¬ P 163 (60 * k + i)) (h5 : ¬ P 164 k) (h6 : ¬ P 165 k) : ASK S2 k q := by
  obtain ⟨a1, a2, a3, a4, a5, a6, a7, a8, a9⟩ := h
  exact ⟨a1, a2, a3, a4, a5.same hs h1 h3, by rw [hs.i h2]; exact a6, a7.upto (fun i hi => hs.i (h4 i (by omega))), by rw [hs.i h5]; exact a8, by rw [hs.i h6]; exact a9⟩
theorem Qtask.same {P : Nat → Nat → Prop} {S S2 : St} {ts : List (Nat × List Nat × List Nat)} (h : Qtask S ts) (hs : Same P S S2) (hd : ∀ c k, tkP c k → ¬ P c k) : Qtask S2 ts := by
  obtain ⟨h1, h2, h3, h4⟩ := h
  refine ⟨h1, by rw [hs.i (hd 0 9 (by unfold tkP; omega))]; exact h2, by rw [hs.i (hd 146 34 (by unfold tkP; omega))]; exact h3, fun k q hq => ?_⟩
  have hk := (List.getElem?_eq_some_iff.mp hq).1
  refine (h4 k q hq).upto hs ?_ ?_ (fun i => ?_) (fun i _ => ?_) ?_ ?_ <;> refine hd _ _ ?_ <;> unfold tkP <;> omega
theorem task_loop {N n x : Nat} {S : St} {t : List Nat} (hn : n < 10) (hx : x < 1000) (ht : t.length ≤ 60) (h34 : S.1 146 34 = zI n) (h162 : Held (S.1 162) 0 t) : ∀ (k i m : Nat) (S1 : St), i + k = t.length → k < m → Same (fun c j => c = 163 ∧ 60 * n ≤ j ∧ j < 60 * n + 60) S S1 → Held (S1.1 163) (60 * n) (t.take i) →
    ∃ S2, f12_task_h64 N (zI x) (zI t.length) m (zI i) S1 = some (zI n, S2) ∧ S2.1 146 34 = zI ((n + 1 : Nat) : Int) ∧ Held (S2.1 163) (60 * n) t ∧ S2.1 164 n = zI t.length ∧ S2.1 165 n = zI x ∧ Same (fun c j => (c = 163 ∧ 60 * n ≤ j ∧ j < 60 * n + 60) ∨ (c = 164 ∧ j = n) ∨ (c = 165 ∧ j = n) ∨ (c = 146 ∧ j = 34)) S S2 := by
  intro k
  induction k with
  | zero =>
    intro i m S1 hi hm hs hh
    obtain ⟨m, rfl⟩ : ∃ z, m = z + 1 := ⟨m - 1, by omega⟩
    rw [List.take_of_length_le (by omega)] at hh
    have h34' : S1.1 146 34 = zI n := by rw [hs.i (by omega)]; exact h34
    have hs0 : Same (fun c j => (c = 163 ∧ 60 * n ≤ j ∧ j < 60 * n + 60) ∨ (c = 164 ∧ j = n) ∨ (c = 165 ∧ j = n) ∨ (c = 146 ∧ j = 34)) S1 (wI (wI (wI S1 164 n (zI t.length)) 165 n (zI x)) 146 34 (zI ((n : Int) + ((1 : Nat) : Int)))) := (Same.rfl' (P := fun c j => (c = 163 ∧ 60 * n ≤ j ∧ j < 60 * n + 60) ∨ (c = 164 ∧ j = n) ∨ (c = 165 ∧ j = n) ∨ (c = 146 ∧ j = 34))) |>.wI (by omega) |>.wI (by omega) |>.wI (by omega)
    refine ⟨_, ?_, ?_, ?_, ?_, ?_, (hs.mono (fun c j q => by omega)).tr hs0⟩
    · rw [f12_task_h64]
      simp (disch := omega) only [h34', nI_z, zI_add, zI_sub, zI_mul, zI_m1, ckI_z, zI_clamp, Int.toNat_natCast, bnd_some, lt, rd_same, rd_ne, rdL_same, rdL_ne, wI_2, wL_1, if_true, if_false, iT_lt, iF_lt, iT_lt0, iF_lt0, iT_0lt, iF_0lt, iT_le, iF_le, iT_le0, iF_le0, iT_0le, iF_0le, iT_eq, iF_eq, iT_eq0, iF_eq0]
      rw [show (n : Int) + ((1 : Nat) : Int) - ((1 : Nat) : Int) = (n : Int) by omega]
    · simp (disch := omega) only [nI_z, zI_add, zI_sub, zI_mul, zI_m1, ckI_z, zI_clamp, Int.toNat_natCast, bnd_some, lt, rd_same, rd_ne, rdL_same, rdL_ne, wI_2, wL_1, if_true, if_false, iT_lt, iF_lt, iT_lt0, iF_lt0, iT_0lt, iF_0lt, iT_le, iF_le, iT_le0, iF_le0, iT_0le, iF_0le, iT_eq, iF_eq, iT_eq0, iF_eq0]; rfl
    · exact hh.upto (fun i hi => by simp (disch := omega) only [nI_z, zI_add, zI_sub, zI_mul, zI_m1, ckI_z, zI_clamp, Int.toNat_natCast, bnd_some, lt, rd_same, rd_ne, rdL_same, rdL_ne, wI_2, wL_1, if_true, if_false, iT_lt, iF_lt, iT_lt0, iF_lt0, iT_0lt, iF_0lt, iT_le, iF_le, iT_le0, iF_le0, iT_0le, iF_0le, iT_eq, iF_eq, iT_eq0, iF_eq0])
    · simp (disch := omega) only [nI_z, zI_add, zI_sub, zI_mul, zI_m1, ckI_z, zI_clamp, Int.toNat_natCast, bnd_some, lt, rd_same, rd_ne, rdL_same, rdL_ne, wI_2, wL_1, if_true, if_false, iT_lt, iF_lt, iT_lt0, iF_lt0, iT_0lt, iF_0lt, iT_le, iF_le, iT_le0, iF_le0, iT_0le, iF_0le, iT_eq, iF_eq, iT_eq0, iF_eq0]
    · simp (disch := omega) only [nI_z, zI_add, zI_sub, zI_mul, zI_m1, ckI_z, zI_clamp, Int.toNat_natCast, bnd_some, lt, rd_same, rd_ne, rdL_same, rdL_ne, wI_2, wL_1, if_true, if_false, iT_lt, iF_lt, iT_lt0, iF_lt0, iT_0lt, iF_0lt, iT_le, iF_le, iT_le0, iF_le0, iT_0le, iF_0le, iT_eq, iF_eq, iT_eq0, iF_eq0]
  | succ k ih =>
    intro i m S1 hi hm hs hh
    obtain ⟨m, rfl⟩ : ∃ z, m = z + 1 := ⟨m - 1, by omega⟩
    have h34' : S1.1 146 34 = zI n := by rw [hs.i (by omega)]; exact h34
    have hlt : i < t.length := by omega
    have hr : t[i]? = some t[i] := List.getElem?_eq_getElem hlt
    have htk : t.take (i + 1) = t.take i ++ [t[i]] := by rw [List.take_add_one, hr]; rfl
    have htl : (t.take i).length = i := by rw [List.length_take]; omega
    have h5 := h162 i _ hr
    rw [Nat.zero_add] at h5
    generalize t[i] = y at hr htk h5
    have h5' : S1.1 162 i = zI y := by rw [hs.i (by omega)]; exact h5
    have hs1 : Same (fun c j => c = 163 ∧ 60 * n ≤ j ∧ j < 60 * n + 60) S1 (wI S1 163 (60 * n + i) (zI y)) := (Same.rfl' (P := fun c j => c = 163 ∧ 60 * n ≤ j ∧ j < 60 * n + 60)).wI (by omega)
    obtain ⟨S2, g1, g2⟩ := ih (i + 1) m (wI S1 163 (60 * n + i) (zI y)) (by omega) (by omega) (hs.tr hs1) (by
      rw [htk]
      refine hh.pushO ?_ (fun j hj => ?_)
      · rw [htl]; simp (disch := omega) only [nI_z, zI_add, zI_sub, zI_mul, zI_m1, ckI_z, zI_clamp, Int.toNat_natCast, bnd_some, lt, rd_same, rd_ne, rdL_same, rdL_ne, wI_2, wL_1, if_true, if_false, iT_lt, iF_lt, iT_lt0, iF_lt0, iT_0lt, iF_0lt, iT_le, iF_le, iT_le0, iF_le0, iT_0le, iF_0le, iT_eq, iF_eq, iT_eq0, iF_eq0]
      · rw [htl] at hj; simp (disch := omega) only [nI_z, zI_add, zI_sub, zI_mul, zI_m1, ckI_z, zI_clamp, Int.toNat_natCast, bnd_some, lt, rd_same, rd_ne, rdL_same, rdL_ne, wI_2, wL_1, if_true, if_false, iT_lt, iF_lt, iT_lt0, iF_lt0, iT_0lt, iF_0lt, iT_le, iF_le, iT_le0, iF_le0, iT_0le, iF_0le, iT_eq, iF_eq, iT_eq0, iF_eq0])
    refine ⟨S2, ?_, g2⟩
    rw [f12_task_h64]
    have ht1 : (((60 : Nat) : Int) * (n : Int) + (i : Int)).toNat = 60 * n + i := by omega
    simp (disch := omega) only [h34', h5', ht1, nI_z, zI_add, zI_sub, zI_mul, zI_m1, ckI_z, zI_clamp, Int.toNat_natCast, bnd_some, lt, rd_same, rd_ne, rdL_same, rdL_ne, wI_2, wL_1, if_true, if_false, iT_lt, iF_lt, iT_lt0, iF_lt0, iT_0lt, iF_0lt, iT_le, iF_le, iT_le0, iF_le0, iT_0le, iF_0le, iT_eq, iF_eq, iT_eq0, iF_eq0]
    exact g1
def Qev (S : St) : Prop := ∃ m x, EV S m x
def twP (c k : Nat) : Prop := c = 11 ∨ (c = 0 ∧ k = 9) ∨ (c = 146 ∧ (k = 30 ∨ (34 ≤ k ∧ k ≤ 39))) ∨ (116 ≤ c ∧ c ≤ 145) ∨ (163 ≤ c ∧ c ≤ 165)
theorem c_task {N : Nat} {S : St} {t : List Nat} {ts : List (Nat × List Nat × List Nat)} (hN : 200 ≤ N) (h : Qtape S t) (hk : Qtask S ts) (he : Qev S) (y : Int32) : ∃ r S1 S2 t2 ts2, f11_task N y S = some (r, S1) ∧ f12_task N y S1 = some (r, S2) ∧ Qtape S2 t2 ∧ Qtask S2 ts2 ∧ Qev S2 ∧ Same twP S S2 := by
  have hx := xrng y
  rw [zI_of y]
  generalize y.toInt = x at hx
  by_cases e1 : 0 ≤ x ∧ x ≤ 999
  · obtain ⟨x, rfl⟩ : ∃ w : Nat, x = (w : Int) := ⟨x.toNat, by omega⟩
    have hw : ∀ S, f12_within (zI (x : Int)).toInt64 (lN 0) (lN 999) S = some (zI 1, S) := fun S => by rw [isNum_m (x : Int) S (by omega), bI_t e1]
    have hw1 : f11_isNumber (zI (x : Int)) S = some (zI 1, S) := by rw [isNum (x : Int) S (by omega), bI_t e1]
    obtain ⟨q1, q2, q3, q4⟩ := hk
    by_cases e2 : ts.length < 10
    · obtain ⟨h1, h2, h3, h4, h5, h6⟩ := h
      have hTB : TB S (txt t) t.length := ⟨h1, h3, fun i hi => by have := h4.txt hi; rwa [Nat.zero_add] at this, txt_256 h2⟩
      obtain ⟨S1, a1, a2, a3, a4⟩ := writeTo_c (N := N) (a := 116 + 3 * ts.length) (x := zI (x : Int)) hN (by omega) hTB
      have hcl : f11_task N (zI (x : Int)) S = (if zI (fres (pAll (txt t) t.length)) < 0 then some (zI ts.length, wI (wI S1 11 1 (zI ((0 : Nat) : Int))) 0 9 (zI ((ts.length : Int) + ((1 : Nat) : Int)))) else some (zI (-100) - zI (fres (pAll (txt t) t.length)), wI S1 11 1 (zI ((0 : Nat) : Int)))) := by
        unfold f11_task
        rw [hw1, bnd_some, if_neg (by decide), q2]
        have h09 : S1.1 0 9 = zI ts.length := by rw [a4.i (by unfold wtP tpP; omega)]; exact q2
        have ht1 : (zI (ts.length : Int)).toNatClampNeg = ts.length := by rw [zI_clamp (by omega)]; rfl
        have hlt : zI (ts.length : Int) < nI 10 := by rw [nI_z]; exact (zI_lt (by omega) (by omega)).mpr (by omega)
        rw [if_pos hlt, ckI_z (by omega), ht1, a1]
        generalize zI (fres (pAll (txt t) t.length)) = v
        unfold f9_beEmpty
        simp (disch := omega) only [h09, nI_z, zI_add, zI_sub, zI_mul, zI_m1, ckI_z, zI_clamp, Int.toNat_natCast, bnd_some, lt, rd_same, rd_ne, rdL_same, rdL_ne, wI_2, wL_1, if_true, if_false, iT_lt, iF_lt, iT_lt0, iF_lt0, iT_0lt, iF_0lt, iT_le, iF_le, iT_le0, iF_le0, iT_0le, iF_0le, iT_eq, iF_eq, iT_eq0, iF_eq0]
        rw [show (ts.length : Int) + ((1 : Nat) : Int) - ((1 : Nat) : Int) = (ts.length : Int) by omega]
        rfl
      have q2' := q2
      obtain ⟨m, xx, hE⟩ := he
      cases hp : pAll (txt t) t.length with
      | inl e =>
        have he60 := pAll_l hp
        rw [hp] at hcl a1
        have hcl2 : f11_task N (zI (x : Int)) S = some (zI (-100) - zI (e : Int), wI S1 11 1 (zI ((0 : Nat) : Int))) := by
          rw [hcl]
          show (if zI (e : Int) < 0 then _ else _) = _
          rw [iF_lt0 (by omega)]
          rfl
        have hs1 : Same twP S (wI S1 11 1 (zI ((0 : Nat) : Int))) := (a4.mono (fun c k q => by unfold wtP tpP at q; unfold twP; omega)).wI (by unfold twP; omega)
        have hs1b : Same (fun c k => wtP (116 + 3 * ts.length) c k ∨ (c = 11 ∧ k = 1)) S (wI S1 11 1 (zI ((0 : Nat) : Int))) := (a4.mono (fun c k q => Or.inl q)).wI (Or.inr ⟨rfl, rfl⟩)
        have h11 : (wI S1 11 1 (zI ((0 : Nat) : Int))).1 11 1 = zI ((0 : Nat) : Int) := rd_same
        generalize wI S1 11 1 (zI ((0 : Nat) : Int)) = S2 at hcl2 hs1 hs1b h11
        have g30 : S2.1 146 30 = zI t.length := by rw [hs1b.i (by unfold wtP tpP; omega)]; exact h5
        have g34 : S2.1 146 34 = zI ts.length := by rw [hs1b.i (by unfold wtP tpP; omega)]; exact q3
        have g162 : Held (S2.1 162) 0 t := h6.same hs1b (fun k => by unfold wtP tpP; omega)
        have gE : EV S2 m xx := hE.same hs1b (fun k _ => by unfold wtP tpP; omega) (fun k => by unfold wtP tpP; omega) (by unfold wtP tpP; omega)
        obtain ⟨v, S3, b1, b2, b3, b4⟩ := workOut_m (N := N) (n := t.length) (T := txt t) (bs := -1) hN h1 (txt_256 h2) (by omega) (fun i hi => ⟨fun _ => by have := g162.txt hi; rwa [Nat.zero_add] at this, fun q => by omega⟩) gE
        rw [hp] at b2
        have hs3 : Same twP S3 (wI S3 146 30 (zI ((0 : Nat) : Int))) := (Same.rfl' (P := twP)).wI (by unfold twP; omega)
        have hs3b : Same (fun c k => c = 146 ∧ k = 30) S3 (wI S3 146 30 (zI ((0 : Nat) : Int))) := (Same.rfl' (P := fun c k => c = 146 ∧ k = 30)).wI ⟨rfl, rfl⟩
        refine ⟨zI (-100) - zI (e : Int), S2, wI S3 146 30 (zI ((0 : Nat) : Int)), [], ts, hcl2, ?_, ⟨by simp, by simp, ?_, fun i x hi => by simp at hi, by simp (disch := omega) only [nI_z, zI_add, zI_sub, zI_mul, zI_m1, ckI_z, zI_clamp, Int.toNat_natCast, bnd_some, lt, rd_same, rd_ne, rdL_same, rdL_ne, wI_2, wL_1, if_true, if_false, iT_lt, iF_lt, iT_lt0, iF_lt0, iT_0lt, iF_0lt, iT_le, iF_le, iT_le0, iF_le0, iT_0le, iF_0le, iT_eq, iF_eq, iT_eq0, iF_eq0]; rfl, fun i x hi => by simp at hi⟩, ⟨q1, ?_, ?_, fun k q hq => ?_⟩, ⟨m, xx, (gE.same b4 (fun k _ => by unfold wkP; omega) (fun k => by unfold wkP; omega) (by unfold wkP; omega)).same hs3b (fun k _ => by omega) (fun k => by omega) (by omega)⟩, (hs1.tr (b4.mono (fun c k q => by unfold wkP at q; unfold twP; omega))).tr hs3⟩
        · unfold f12_task
          have hb38 : S3.1 146 38 = zI (e : Int) := b2
          rw [hw, bnd_some, if_neg (by decide), g34, nI_z 10, iF_eq (by omega), zI_m1, g30, b1]
          have h100 : (-100 : Int32) = zI (-100) := by decide
          simp (disch := omega) only [hb38, h100, nI_z, zI_add, zI_sub, zI_mul, zI_m1, ckI_z, zI_clamp, Int.toNat_natCast, bnd_some, lt, rd_same, rd_ne, rdL_same, rdL_ne, wI_2, wL_1, if_true, if_false, iT_lt, iF_lt, iT_lt0, iF_lt0, iT_0lt, iF_0lt, iT_le, iF_le, iT_le0, iF_le0, iT_0le, iF_0le, iT_eq, iF_eq, iT_eq0, iF_eq0]
        · rw [hs3b.i (by omega), b4.i (by unfold wkP; omega)]; exact h11
        · rw [hs3b.i (by omega), b4.i (by unfold wkP; omega), hs1b.i (by unfold wtP tpP; omega)]; exact q2
        · rw [hs3b.i (by omega), b4.i (by unfold wkP; omega)]; exact g34
        · have hk := (List.getElem?_eq_some_iff.mp hq).1
          refine (((q4 k q hq).upto hs1b ?_ ?_ (fun i => ?_) (fun i _ => ?_) ?_ ?_).upto b4 ?_ ?_ (fun i => ?_) (fun i _ => ?_) ?_ ?_).upto hs3b ?_ ?_ (fun i => ?_) (fun i _ => ?_) ?_ ?_ <;> first | (unfold wtP tpP; omega) | (unfold wkP; omega) | omega
      | inr l =>
        rw [hp] at hcl a1
        obtain ⟨k1, k2⟩ := a2 l hp
        have hcl2 : f11_task N (zI (x : Int)) S = some (zI ts.length, wI (wI S1 11 1 (zI ((0 : Nat) : Int))) 0 9 (zI ((ts.length : Int) + ((1 : Nat) : Int)))) := by
          rw [hcl]
          show (if zI (-1) < 0 then _ else _) = _
          rw [iT_lt0 (by omega)]
        have hs1 : Same twP S (wI (wI S1 11 1 (zI ((0 : Nat) : Int))) 0 9 (zI ((ts.length : Int) + ((1 : Nat) : Int)))) := ((a4.mono (fun c k q => by unfold wtP tpP at q; unfold twP; omega)).wI (by unfold twP; omega)).wI (by unfold twP; omega)
        have hs0 : Same (fun c k => (c = 11 ∧ k = 1) ∨ (c = 0 ∧ k = 9)) S1 (wI (wI S1 11 1 (zI ((0 : Nat) : Int))) 0 9 (zI ((ts.length : Int) + ((1 : Nat) : Int)))) := ((Same.rfl' (P := fun c k => (c = 11 ∧ k = 1) ∨ (c = 0 ∧ k = 9))).wI (Or.inl ⟨rfl, rfl⟩)).wI (Or.inr ⟨rfl, rfl⟩)
        have hs1b : Same (fun c k => wtP (116 + 3 * ts.length) c k ∨ (c = 11 ∧ k = 1) ∨ (c = 0 ∧ k = 9)) S (wI (wI S1 11 1 (zI ((0 : Nat) : Int))) 0 9 (zI ((ts.length : Int) + ((1 : Nat) : Int)))) := (a4.mono (fun c k q => Or.inl q)).tr (hs0.mono (fun c k q => Or.inr q))
        have h11 : (wI (wI S1 11 1 (zI ((0 : Nat) : Int))) 0 9 (zI ((ts.length : Int) + ((1 : Nat) : Int)))).1 11 1 = zI ((0 : Nat) : Int) := by simp (disch := omega) only [nI_z, zI_add, zI_sub, zI_mul, zI_m1, ckI_z, zI_clamp, Int.toNat_natCast, bnd_some, lt, rd_same, rd_ne, rdL_same, rdL_ne, wI_2, wL_1, if_true, if_false, iT_lt, iF_lt, iT_lt0, iF_lt0, iT_0lt, iF_0lt, iT_le, iF_le, iT_le0, iF_le0, iT_0le, iF_0le, iT_eq, iF_eq, iT_eq0, iF_eq0]
        have h09 : (wI (wI S1 11 1 (zI ((0 : Nat) : Int))) 0 9 (zI ((ts.length : Int) + ((1 : Nat) : Int)))).1 0 9 = zI ((ts.length + 1 : Nat) : Int) := rd_same
        generalize wI (wI S1 11 1 (zI ((0 : Nat) : Int))) 0 9 (zI ((ts.length : Int) + ((1 : Nat) : Int))) = S2 at hcl2 hs1 hs1b h11 h09 hs0
        have k1' := k1.same hs0 (by omega) (fun k => by omega)
        have k2' : S2.1 (116 + 3 * ts.length) 2 = zI (x : Int) := by rw [hs0.i (by omega)]; exact k2
        have g30 : S2.1 146 30 = zI t.length := by rw [hs1b.i (by unfold wtP tpP; omega)]; exact h5
        have g34 : S2.1 146 34 = zI ts.length := by rw [hs1b.i (by unfold wtP tpP; omega)]; exact q3
        have g162 : Held (S2.1 162) 0 t := h6.same hs1b (fun k => by unfold wtP tpP; omega)
        have gE : EV S2 m xx := hE.same hs1b (fun k _ => by unfold wtP tpP; omega) (fun k => by unfold wtP tpP; omega) (by unfold wtP tpP; omega)
        obtain ⟨v, S3, b1, b2, b3, b4⟩ := workOut_m (N := N) (n := t.length) (T := txt t) (bs := -1) hN h1 (txt_256 h2) (by omega) (fun i hi => ⟨fun _ => by have := g162.txt hi; rwa [Nat.zero_add] at this, fun q => by omega⟩) gE
        rw [hp] at b2
        have hs3 : Same (fun c k => c = 146 ∧ k = 30) S3 (wI S3 146 30 (zI ((0 : Nat) : Int))) := (Same.rfl' (P := fun c k => c = 146 ∧ k = 30)).wI ⟨rfl, rfl⟩
        have w30 : (wI S3 146 30 (zI ((0 : Nat) : Int))).1 146 30 = zI ((0 : Nat) : Int) := rd_same
        have w38 : (wI S3 146 30 (zI ((0 : Nat) : Int))).1 146 38 = zI (-1) := by simp (disch := omega) only [nI_z, zI_add, zI_sub, zI_mul, zI_m1, ckI_z, zI_clamp, Int.toNat_natCast, bnd_some, lt, rd_same, rd_ne, rdL_same, rdL_ne, wI_2, wL_1, if_true, if_false, iT_lt, iF_lt, iT_lt0, iF_lt0, iT_0lt, iF_0lt, iT_le, iF_le, iT_le0, iF_le0, iT_0le, iF_0le, iT_eq, iF_eq, iT_eq0, iF_eq0]; exact b2
        have hst : f12_task N (zI (x : Int)) S2 = f12_task_h64 N (zI (x : Int)) (zI t.length) N (zI ((0 : Nat) : Int)) (wI S3 146 30 (zI ((0 : Nat) : Int))) := by
          unfold f12_task
          have p30 : S3.1 146 30 = zI t.length := by rw [b4.i (by unfold wkP; omega)]; exact g30
          rw [hw, bnd_some, if_neg (by decide), g34, nI_z 10, iF_eq (by omega), zI_m1, g30, b1]
          simp only [bnd_some, lt, nI_z, w38, p30]
          rw [iT_lt0 (by omega)]
        generalize wI S3 146 30 (zI ((0 : Nat) : Int)) = S4 at hs3 w30 w38 hst
        have p34 : S4.1 146 34 = zI ts.length := by rw [hs3.i (by omega), b4.i (by unfold wkP; omega)]; exact g34
        have p162 : Held (S4.1 162) 0 t := (g162.same b4 (fun k => by unfold wkP; omega)).same hs3 (fun k => by omega)
        obtain ⟨S5, d1, d2, d3, d4, d5, d6⟩ := task_loop (N := N) (n := ts.length) (x := x) (S := S4) (t := t) e2 (by omega) h1 p34 p162 t.length 0 N S4 (by omega) (by omega) Same.rfl' (fun i x hi => by simp at hi)
        refine ⟨zI ts.length, S2, S5, [], ts ++ [(x, t, l)], hcl2, by rw [hst]; exact d1, ⟨by simp, by simp, ?_, fun i x hi => by simp at hi, ?_, fun i x hi => by simp at hi⟩, ⟨by simp; omega, ?_, ?_, fun k q hq => ?_⟩, ⟨m, xx, ((gE.same b4 (fun k _ => by unfold wkP; omega) (fun k => by unfold wkP; omega) (by unfold wkP; omega)).same hs3 (fun k _ => by omega) (fun k => by omega) (by omega)).same d6 (fun k _ => by omega) (fun k => by omega) (by omega)⟩, ((hs1.tr (b4.mono (fun c k q => by unfold wkP at q; unfold twP; omega))).tr (hs3.mono (fun c k q => by unfold twP; omega))).tr (d6.mono (fun c k q => by unfold twP; omega))⟩
        · rw [d6.i (by omega), hs3.i (by omega), b4.i (by unfold wkP; omega)]; exact h11
        · rw [d6.i (by omega)]; exact w30
        · rw [d6.i (by omega), hs3.i (by omega), b4.i (by unfold wkP; omega), h09, List.length_append]; rfl
        · rw [d2, List.length_append]; rfl
        · by_cases ek : k < ts.length
          · rw [List.getElem?_append_left ek] at hq
            refine ((((q4 k q hq).upto hs1b ?_ ?_ (fun i => ?_) (fun i _ => ?_) ?_ ?_).upto b4 ?_ ?_ (fun i => ?_) (fun i _ => ?_) ?_ ?_).upto hs3 ?_ ?_ (fun i => ?_) (fun i _ => ?_) ?_ ?_).upto d6 ?_ ?_ (fun i => ?_) (fun i _ => ?_) ?_ ?_ <;> first | (unfold wtP tpP; omega) | (unfold wkP; omega) | omega
          · have hk := (List.getElem?_eq_some_iff.mp hq).1
            rw [List.length_append] at hk
            obtain rfl : k = ts.length := by simp at hk; omega
            rw [List.getElem?_append_right (by omega)] at hq
            simp at hq
            subst hq
            refine ⟨by omega, h1, h2, hp, ?_, ?_, d3, d4, d5⟩
            · refine ((k1'.same b4 ?_ (fun i => ?_)).same hs3 ?_ (fun i => ?_)).same d6 ?_ (fun i => ?_) <;> first | (unfold wkP; omega) | omega
            · rw [d6.i (by omega), hs3.i (by omega), b4.i (by unfold wkP; omega)]; exact k2'
    · refine ⟨zI (-3), S, S, t, ts, ?_, ?_, h, ⟨q1, q2, q3, q4⟩, he, Same.rfl'⟩
      · unfold f11_task
        rw [hw1, bnd_some, if_neg (by decide), q2]
        simp (disch := omega) only [nI_z, zI_add, zI_sub, zI_mul, zI_m1, ckI_z, zI_clamp, Int.toNat_natCast, bnd_some, lt, rd_same, rd_ne, rdL_same, rdL_ne, wI_2, wL_1, if_true, if_false, iT_lt, iF_lt, iT_lt0, iF_lt0, iT_0lt, iF_0lt, iT_le, iF_le, iT_le0, iF_le0, iT_0le, iF_0le, iT_eq, iF_eq, iT_eq0, iF_eq0]
        rfl
      · unfold f12_task
        rw [hw, bnd_some, if_neg (by decide), q3, nI_z 10, iT_eq (by omega)]
        rfl
  · refine ⟨zI (-1), S, S, t, ts, ?_, ?_, h, hk, he, Same.rfl'⟩
    · unfold f11_task
      rw [isNum x S hx, bI_f e1, bnd_some, iT_eq0 rfl]
      rfl
    · unfold f12_task
      rw [isNum_m x S hx, bI_f e1, bnd_some, iT_eq0 rfl]
      rfl
