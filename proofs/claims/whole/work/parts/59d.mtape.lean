/-! The reference reads and works out a text. -/
def NLb (S : St) (T : Nat → Nat) (n : Nat) (bs : Int) : Prop := n ≤ 60 ∧ -1 ≤ bs ∧ bs ≤ 540 ∧ S.1 146 35 = zI bs ∧ S.1 146 37 = zI n ∧ (∀ i, T i < 256) ∧ ∀ i, i < n → (bs < 0 → S.1 162 i = zI (T i)) ∧ (0 ≤ bs → S.1 163 (bs.toNat + i) = zI (T i))
def NL (S : St) (T : Nat → Nat) (n : Nat) (bs : Int) (p o : Nat) : Prop := NLb S T n bs ∧ p ≤ n ∧ S.1 146 36 = zI p ∧ S.1 146 38 = zI (-1) ∧ S.1 146 39 = zI o
def ND (S : St) (T : Nat → Nat) (n : Nat) (bs : Int) (e : Nat) : Prop := NLb S T n bs ∧ e ≤ n ∧ S.1 146 38 = zI e ∧ ∃ p : Nat, p ≤ n ∧ S.1 146 36 = zI p
/-- what the machine shows -/
def EV (S : St) (m : Mc) (x : Nat) : Prop := m.2.2.2.1.length ≤ 8 ∧ S.1 146 11 = zI m.1 ∧ S.1 146 12 = zI m.2.1 ∧ S.1 146 15 = zI m.2.2.2.1.length ∧ Held (S.1 155) 0 m.2.2.2.1 ∧ S.1 156 0 = zI x
def npP (c k : Nat) : Prop := c = 146 ∧ (k = 36 ∨ k = 38 ∨ k = 39)
theorem NLb.same {P : Nat → Nat → Prop} {S S2 : St} {T : Nat → Nat} {n : Nat} {bs : Int} (h : NLb S T n bs) (hs : Same P S S2) (h1 : ¬ P 146 35) (h2 : ¬ P 146 37) (h3 : ∀ k, ¬ P 162 k) (h4 : ∀ k, ¬ P 163 k) : NLb S2 T n bs := ⟨h.1, h.2.1, h.2.2.1, by rw [hs.i h1]; exact h.2.2.2.1, by rw [hs.i h2]; exact h.2.2.2.2.1, h.2.2.2.2.2.1, fun i hi => ⟨fun q => by rw [hs.i (h3 _)]; exact (h.2.2.2.2.2.2 i hi).1 q, fun q => by rw [hs.i (h4 _)]; exact (h.2.2.2.2.2.2 i hi).2 q⟩⟩
theorem EV.same {P : Nat → Nat → Prop} {S S2 : St} {m : Mc} {x : Nat} (h : EV S m x) (hs : Same P S S2) (h1 : ∀ k, k = 11 ∨ k = 12 ∨ k = 15 → ¬ P 146 k) (h2 : ∀ k, ¬ P 155 k) (h3 : ¬ P 156 0) : EV S2 m x := ⟨h.1, by rw [hs.i (h1 11 (by omega))]; exact h.2.1, by rw [hs.i (h1 12 (by omega))]; exact h.2.2.1, by rw [hs.i (h1 15 (by omega))]; exact h.2.2.2.1, h.2.2.2.2.1.same hs h2, by rw [hs.i h3]; exact h.2.2.2.2.2⟩
theorem EV.np {S S2 : St} {m : Mc} {x : Nat} (h : EV S m x) (hs : Same npP S S2) : EV S2 m x := h.same hs (fun k _ => by unfold npP; omega) (fun k => by unfold npP; omega) (by unfold npP; omega)
theorem NLb.np {S S2 : St} {T : Nat → Nat} {n : Nat} {bs : Int} (h : NLb S T n bs) (hs : Same npP S S2) : NLb S2 T n bs := h.same hs (by unfold npP; omega) (by unfold npP; omega) (fun k => by unfold npP; omega) (fun k => by unfold npP; omega)
theorem byte_b {S : St} {T : Nat → Nat} {n p : Nat} {bs : Int} (h : NLb S T n bs) (hp : S.1 146 36 = zI p) (hpn : p ≤ n) : f12_byteAt S = some (zI (hr T n p), S) := by
  obtain ⟨h1, h2, h3, h4, h5, h6, h7⟩ := h
  unfold f12_byteAt hr
  by_cases e : p < n
  · rw [if_pos e]
    obtain ⟨q1, q2⟩ := h7 p e
    by_cases b : bs < 0
    · simp (disch := omega) only [h5, hp, h4, q1 b, nI_z, zI_add, zI_sub, zI_mul, zI_m1, ckI_z, zI_clamp, Int.toNat_natCast, bnd_some, lt, rd_same, rd_ne, rdL_same, rdL_ne, wI_2, wL_1, if_true, if_false, iT_lt, iF_lt, iT_lt0, iF_lt0, iT_0lt, iF_0lt, iT_le, iF_le, iT_le0, iF_le0, iT_0le, iF_0le, iT_eq, iF_eq, iT_eq0, iF_eq0]
    · have hz : (bs + (p : Int)).toNat = bs.toNat + p := by omega
      simp (disch := omega) only [h5, hp, h4, hz, q2 (by omega), nI_z, zI_add, zI_sub, zI_mul, zI_m1, ckI_z, zI_clamp, Int.toNat_natCast, bnd_some, lt, rd_same, rd_ne, rdL_same, rdL_ne, wI_2, wL_1, if_true, if_false, iT_lt, iF_lt, iT_lt0, iF_lt0, iT_0lt, iF_0lt, iT_le, iF_le, iT_le0, iF_le0, iT_0le, iF_0le, iT_eq, iF_eq, iT_eq0, iF_eq0]
  · rw [if_neg e]
    simp (disch := omega) only [h5, hp, nI_z, zI_add, zI_sub, zI_mul, zI_m1, ckI_z, zI_clamp, Int.toNat_natCast, bnd_some, lt, rd_same, rd_ne, rdL_same, rdL_ne, wI_2, wL_1, if_true, if_false, iT_lt, iF_lt, iT_lt0, iF_lt0, iT_0lt, iF_0lt, iT_le, iF_le, iT_le0, iF_le0, iT_0le, iF_0le, iT_eq, iF_eq, iT_eq0, iF_eq0]
theorem hr_256 {T : Nat → Nat} {n p : Nat} (h : ∀ i, T i < 256) : hr T n p < 256 := by
  unfold hr
  split
  · exact h p
  · omega
theorem NL.byte {S : St} {T : Nat → Nat} {n p o : Nat} {bs : Int} (h : NL S T n bs p o) : f12_byteAt S = some (zI (hr T n p), S) := byte_b h.1 h.2.2.1 h.2.1
theorem ND.byte {S : St} {T : Nat → Nat} {n e : Nat} {bs : Int} (h : ND S T n bs e) : ∃ z : Nat, z < 256 ∧ f12_byteAt S = some (zI z, S) := by
  obtain ⟨h1, h2, h3, p, h4, h5⟩ := h
  exact ⟨_, hr_256 h1.2.2.2.2.2.1, byte_b h1 h5 h4⟩
theorem NL.go {S : St} {T : Nat → Nat} {n p o : Nat} {bs : Int} (h : NL S T n bs p o) (hp : p < n) : NL (wI S 146 36 (zI ((p : Int) + ((1 : Nat) : Int)))) T n bs (p + 1) o ∧ Same npP S (wI S 146 36 (zI ((p : Int) + ((1 : Nat) : Int)))) := by
  have hs : Same npP S (wI S 146 36 (zI ((p : Int) + ((1 : Nat) : Int)))) := (Same.rfl' (P := npP)).wI (by unfold npP; omega)
  exact ⟨⟨h.1.np hs, by omega, by simp (disch := omega) only [nI_z, zI_add, zI_sub, zI_mul, zI_m1, ckI_z, zI_clamp, Int.toNat_natCast, bnd_some, lt, rd_same, rd_ne, rdL_same, rdL_ne, wI_2, wL_1, if_true, if_false, iT_lt, iF_lt, iT_lt0, iF_lt0, iT_0lt, iF_0lt, iT_le, iF_le, iT_le0, iF_le0, iT_0le, iF_0le, iT_eq, iF_eq, iT_eq0, iF_eq0]; rfl, by simp (disch := omega) only [h.2.2.2.1, nI_z, zI_add, zI_sub, zI_mul, zI_m1, ckI_z, zI_clamp, Int.toNat_natCast, bnd_some, lt, rd_same, rd_ne, rdL_same, rdL_ne, wI_2, wL_1, if_true, if_false, iT_lt, iF_lt, iT_lt0, iF_lt0, iT_0lt, iF_0lt, iT_le, iF_le, iT_le0, iF_le0, iT_0le, iF_0le, iT_eq, iF_eq, iT_eq0, iF_eq0], by simp (disch := omega) only [h.2.2.2.2, nI_z, zI_add, zI_sub, zI_mul, zI_m1, ckI_z, zI_clamp, Int.toNat_natCast, bnd_some, lt, rd_same, rd_ne, rdL_same, rdL_ne, wI_2, wL_1, if_true, if_false, iT_lt, iF_lt, iT_lt0, iF_lt0, iT_0lt, iF_0lt, iT_le, iF_le, iT_le0, iF_le0, iT_0le, iF_0le, iT_eq, iF_eq, iT_eq0, iF_eq0]⟩, hs⟩
theorem wrong_l {S : St} {T : Nat → Nat} {n p o : Nat} {bs : Int} (h : NL S T n bs p o) : ∃ S2, f12_wrong S = some (zI 0, S2) ∧ ND S2 T n bs p ∧ Same npP S S2 := by
  obtain ⟨h1, h2, h3, h4, h5⟩ := h
  have hs : Same npP S (wI S 146 38 (zI p)) := (Same.rfl' (P := npP)).wI (by unfold npP; omega)
  have h60 := h1.1
  refine ⟨_, ?_, ⟨h1.np hs, h2, by simp (disch := omega) only [nI_z, zI_add, zI_sub, zI_mul, zI_m1, ckI_z, zI_clamp, Int.toNat_natCast, bnd_some, lt, rd_same, rd_ne, rdL_same, rdL_ne, wI_2, wL_1, if_true, if_false, iT_lt, iF_lt, iT_lt0, iF_lt0, iT_0lt, iF_0lt, iT_le, iF_le, iT_le0, iF_le0, iT_0le, iF_0le, iT_eq, iF_eq, iT_eq0, iF_eq0], p, h2, by simp (disch := omega) only [h3, nI_z, zI_add, zI_sub, zI_mul, zI_m1, ckI_z, zI_clamp, Int.toNat_natCast, bnd_some, lt, rd_same, rd_ne, rdL_same, rdL_ne, wI_2, wL_1, if_true, if_false, iT_lt, iF_lt, iT_lt0, iF_lt0, iT_0lt, iF_0lt, iT_le, iF_le, iT_le0, iF_le0, iT_0le, iF_0le, iT_eq, iF_eq, iT_eq0, iF_eq0]⟩, hs⟩
  unfold f12_wrong f12_wrong_j19
  simp (disch := omega) only [h4, h3, nI_z, zI_add, zI_sub, zI_mul, zI_m1, ckI_z, zI_clamp, Int.toNat_natCast, bnd_some, lt, rd_same, rd_ne, rdL_same, rdL_ne, wI_2, wL_1, if_true, if_false, iT_lt, iF_lt, iT_lt0, iF_lt0, iT_0lt, iF_0lt, iT_le, iF_le, iT_le0, iF_le0, iT_0le, iF_0le, iT_eq, iF_eq, iT_eq0, iF_eq0]
  rfl
theorem wrong_d {S : St} {T : Nat → Nat} {n e : Nat} {bs : Int} (h : ND S T n bs e) : ∃ S2, f12_wrong S = some (zI 0, S2) ∧ ND S2 T n bs e ∧ Same npP S S2 := by
  obtain ⟨h1, h2, h3, p, h4, h5⟩ := h
  have hs : Same npP S (wI S 146 38 (zI e)) := (Same.rfl' (P := npP)).wI (by unfold npP; omega)
  have h60 := h1.1
  refine ⟨_, ?_, ⟨h1.np hs, h2, by simp (disch := omega) only [nI_z, zI_add, zI_sub, zI_mul, zI_m1, ckI_z, zI_clamp, Int.toNat_natCast, bnd_some, lt, rd_same, rd_ne, rdL_same, rdL_ne, wI_2, wL_1, if_true, if_false, iT_lt, iF_lt, iT_lt0, iF_lt0, iT_0lt, iF_0lt, iT_le, iF_le, iT_le0, iF_le0, iT_0le, iF_0le, iT_eq, iF_eq, iT_eq0, iF_eq0], p, h4, by simp (disch := omega) only [h5, nI_z, zI_add, zI_sub, zI_mul, zI_m1, ckI_z, zI_clamp, Int.toNat_natCast, bnd_some, lt, rd_same, rd_ne, rdL_same, rdL_ne, wI_2, wL_1, if_true, if_false, iT_lt, iF_lt, iT_lt0, iF_lt0, iT_0lt, iF_0lt, iT_le, iF_le, iT_le0, iF_le0, iT_0le, iF_0le, iT_eq, iF_eq, iT_eq0, iF_eq0]⟩, hs⟩
  unfold f12_wrong f12_wrong_j19
  simp (disch := omega) only [h3, nI_z, zI_add, zI_sub, zI_mul, zI_m1, ckI_z, zI_clamp, Int.toNat_natCast, bnd_some, lt, rd_same, rd_ne, rdL_same, rdL_ne, wI_2, wL_1, if_true, if_false, iT_lt, iF_lt, iT_lt0, iF_lt0, iT_0lt, iF_0lt, iT_le, iF_le, iT_le0, iF_le0, iT_0le, iF_0le, iT_eq, iF_eq, iT_eq0, iF_eq0]
  rfl
-- values
def lsm (l : List Nat) : Nat := l.sum
def vn (m : Mc) (x c : Nat) : Int32 := if c = 110 then zI m.2.2.2.1.length else if c = 102 then (match m.2.2.2.1.head? with | some y => zI y | none => zI (-1)) else if c = 108 then (match m.2.2.2.1.getLast? with | some y => zI y | none => zI (-1)) else if c = 109 then zI m.2.2.2.1.sum else if c = 97 then zI m.1 else if c = 98 then zI m.2.1 else zI x
def jn (l : Int32) (c : Nat) (r : Int32) : Int32 := if c = 42 then l * r else if c = 37 then (if r = 0 then zI 0 else remI l r) else if c = 43 then l + r else if c = 45 then l - r else if c = 61 then (if l = r then zI 1 else zI 0) else if c = 60 then (if r ≤ l then zI 0 else zI 1) else if c = 62 then (if l ≤ r then zI 0 else zI 1) else if c = 38 then l &&& r else l ||| r
def ev1 (v : Nat → Int32) (c : Nat) (st : List Int32) : List Int32 := if 256 ≤ c then zI ((c - 256 : Nat) : Int) :: st else if isNb c then v c :: st else if c = 33 then (match st with | y :: t => (zI 1 - y) :: t | [] => []) else (match st with | r :: l :: t => jn l c r :: t | _ => [])
def ev (v : Nat → Int32) : List Nat → List Int32 → List Int32
  | [], st => st
  | c :: cs, st => ev v cs (ev1 v c st)
theorem ev_app (v : Nat → Int32) : ∀ (a b : List Nat) (st : List Int32), ev v (a ++ b) st = ev v b (ev v a st)
  | [], b, st => rfl
  | c :: a, b, st => ev_app v a b _
theorem ev1_j {v : Nat → Int32} {c : Nat} {l r : Int32} {t : List Int32} (h : c = 42 ∨ c = 37 ∨ c = 43 ∨ c = 45 ∨ c = 61 ∨ c = 60 ∨ c = 62 ∨ c = 38 ∨ c = 124) : ev1 v c (r :: l :: t) = jn l c r :: t := by
  unfold ev1
  rw [if_neg (by omega), if_neg (by rw [isNb_iff]; unfold isN; omega), if_neg (by omega)]
theorem named_loop {N c : Nat} {S : St} {m : Mc} {x : Nat} (h : EV S m x) (hc : isN c) : ∀ (k i n : Nat), i + k = m.2.2.2.1.length → k < n → f12_named_h4 N (zI c) n (zI (m.2.2.2.1.take i).sum) (zI i) S = some (vn m x c, S) := by
  obtain ⟨m3, h1, h2, h3, h4, h5⟩ := h
  intro k
  induction k with
  | zero =>
    intro i n hi hn
    obtain ⟨n, rfl⟩ : ∃ z, n = z + 1 := ⟨n - 1, by omega⟩
    have hil : zI (i : Int) = zI m.2.2.2.1.length := by congr 1; omega
    rw [List.take_of_length_le (by omega), hil, f12_named_h4]
    unfold isN at hc
    rcases hc with rfl | rfl | rfl | rfl | rfl | rfl | rfl
    · have e : vn m x 110 = zI m.2.2.2.1.length := rfl
      rw [e]
      simp (disch := omega) only [h3, sw_t, sw_f, sw_n, nI_z, zI_add, zI_sub, zI_mul, zI_m1, ckI_z, zI_clamp, Int.toNat_natCast, bnd_some, lt, rd_same, rd_ne, rdL_same, rdL_ne, wI_2, wL_1, if_true, if_false, iT_lt, iF_lt, iT_lt0, iF_lt0, iT_0lt, iF_0lt, iT_le, iF_le, iT_le0, iF_le0, iT_0le, iF_0le, iT_eq, iF_eq, iT_eq0, iF_eq0]
    · have e : vn m x 102 = (match m.2.2.2.1.head? with | some y => zI y | none => zI (-1)) := rfl
      rw [e]
      by_cases hl : m.2.2.2.1.length = 0
      · have hn : m.2.2.2.1 = [] := List.length_eq_zero_iff.mp hl
        have hh : m.2.2.2.1.head? = none := by rw [hn]; rfl
        rw [hh]
        simp (disch := omega) only [h3, sw_t, sw_f, sw_n, nI_z, zI_add, zI_sub, zI_mul, zI_m1, ckI_z, zI_clamp, Int.toNat_natCast, bnd_some, lt, rd_same, rd_ne, rdL_same, rdL_ne, wI_2, wL_1, if_true, if_false, iT_lt, iF_lt, iT_lt0, iF_lt0, iT_0lt, iF_0lt, iT_le, iF_le, iT_le0, iF_le0, iT_0le, iF_0le, iT_eq, iF_eq, iT_eq0, iF_eq0]
      · have hr := List.getElem?_eq_getElem (l := m.2.2.2.1) (i := 0) (by omega)
        have h40 := h4 _ _ hr
        have hh : m.2.2.2.1.head? = some m.2.2.2.1[0] := by rw [List.head?_eq_getElem?, hr]
        rw [hh]
        simp (disch := omega) only [h3, sw_t, sw_f, sw_n, nI_z, zI_add, zI_sub, zI_mul, zI_m1, ckI_z, zI_clamp, Int.toNat_natCast, bnd_some, lt, rd_same, rd_ne, rdL_same, rdL_ne, wI_2, wL_1, if_true, if_false, iT_lt, iF_lt, iT_lt0, iF_lt0, iT_0lt, iF_0lt, iT_le, iF_le, iT_le0, iF_le0, iT_0le, iF_0le, iT_eq, iF_eq, iT_eq0, iF_eq0]
        exact congrArg some (Prod.ext h40 rfl)
    · have e : vn m x 108 = (match m.2.2.2.1.getLast? with | some y => zI y | none => zI (-1)) := rfl
      rw [e]
      by_cases hl : m.2.2.2.1.length = 0
      · have hn : m.2.2.2.1 = [] := List.length_eq_zero_iff.mp hl
        have hh : m.2.2.2.1.getLast? = none := by rw [hn]; rfl
        rw [hh]
        simp (disch := omega) only [h3, sw_t, sw_f, sw_n, nI_z, zI_add, zI_sub, zI_mul, zI_m1, ckI_z, zI_clamp, Int.toNat_natCast, bnd_some, lt, rd_same, rd_ne, rdL_same, rdL_ne, wI_2, wL_1, if_true, if_false, iT_lt, iF_lt, iT_lt0, iF_lt0, iT_0lt, iF_0lt, iT_le, iF_le, iT_le0, iF_le0, iT_0le, iF_0le, iT_eq, iF_eq, iT_eq0, iF_eq0]
      · have hr := List.getElem?_eq_getElem (l := m.2.2.2.1) (i := m.2.2.2.1.length - 1) (by omega)
        have h40 := h4 _ _ hr
        have hh : m.2.2.2.1.getLast? = some m.2.2.2.1[m.2.2.2.1.length - 1] := by rw [List.getLast?_eq_getElem?, hr]
        rw [Nat.zero_add] at h40
        have hz : ((m.2.2.2.1.length : Int) - ((1 : Nat) : Int)).toNat = m.2.2.2.1.length - 1 := by omega
        rw [hh]
        simp (disch := omega) only [h3, sw_t, sw_f, sw_n, hz, h40, nI_z, zI_add, zI_sub, zI_mul, zI_m1, ckI_z, zI_clamp, Int.toNat_natCast, bnd_some, lt, rd_same, rd_ne, rdL_same, rdL_ne, wI_2, wL_1, if_true, if_false, iT_lt, iF_lt, iT_lt0, iF_lt0, iT_0lt, iF_0lt, iT_le, iF_le, iT_le0, iF_le0, iT_0le, iF_0le, iT_eq, iF_eq, iT_eq0, iF_eq0]
    · have e : vn m x 109 = zI m.2.2.2.1.sum := rfl
      rw [e]
      simp (disch := omega) only [h3, sw_t, sw_f, sw_n, nI_z, zI_add, zI_sub, zI_mul, zI_m1, ckI_z, zI_clamp, Int.toNat_natCast, bnd_some, lt, rd_same, rd_ne, rdL_same, rdL_ne, wI_2, wL_1, if_true, if_false, iT_lt, iF_lt, iT_lt0, iF_lt0, iT_0lt, iF_0lt, iT_le, iF_le, iT_le0, iF_le0, iT_0le, iF_0le, iT_eq, iF_eq, iT_eq0, iF_eq0]
    · have e : vn m x 120 = zI x := rfl
      rw [e]
      unfold f12_named_j158
      simp (disch := omega) only [h3, sw_t, sw_f, sw_n, nI_z, zI_add, zI_sub, zI_mul, zI_m1, ckI_z, zI_clamp, Int.toNat_natCast, bnd_some, lt, rd_same, rd_ne, rdL_same, rdL_ne, wI_2, wL_1, if_true, if_false, iT_lt, iF_lt, iT_lt0, iF_lt0, iT_0lt, iF_0lt, iT_le, iF_le, iT_le0, iF_le0, iT_0le, iF_0le, iT_eq, iF_eq, iT_eq0, iF_eq0]
      exact congrArg some (Prod.ext h5 rfl)
    · have e : vn m x 97 = zI m.1 := rfl
      rw [e]
      simp (disch := omega) only [h3, sw_t, sw_f, sw_n, h1, nI_z, zI_add, zI_sub, zI_mul, zI_m1, ckI_z, zI_clamp, Int.toNat_natCast, bnd_some, lt, rd_same, rd_ne, rdL_same, rdL_ne, wI_2, wL_1, if_true, if_false, iT_lt, iF_lt, iT_lt0, iF_lt0, iT_0lt, iF_0lt, iT_le, iF_le, iT_le0, iF_le0, iT_0le, iF_0le, iT_eq, iF_eq, iT_eq0, iF_eq0]
    · have e : vn m x 98 = zI m.2.1 := rfl
      rw [e]
      simp (disch := omega) only [h3, sw_t, sw_f, sw_n, h2, nI_z, zI_add, zI_sub, zI_mul, zI_m1, ckI_z, zI_clamp, Int.toNat_natCast, bnd_some, lt, rd_same, rd_ne, rdL_same, rdL_ne, wI_2, wL_1, if_true, if_false, iT_lt, iF_lt, iT_lt0, iF_lt0, iT_0lt, iF_0lt, iT_le, iF_le, iT_le0, iF_le0, iT_0le, iF_0le, iT_eq, iF_eq, iT_eq0, iF_eq0]
  | succ k ih =>
    intro i n hi hn
    obtain ⟨n, rfl⟩ : ∃ z, n = z + 1 := ⟨n - 1, by omega⟩
    have hr : m.2.2.2.1[i]? = some m.2.2.2.1[i] := List.getElem?_eq_getElem (by omega)
    have htk : m.2.2.2.1.take (i + 1) = m.2.2.2.1.take i ++ [m.2.2.2.1[i]] := by rw [List.take_add_one, hr]; rfl
    have ih1 := ih (i + 1) n (by omega) (by omega)
    generalize m.2.2.2.1[i] = y at hr htk
    have h40 := h4 i y hr
    rw [Nat.zero_add] at h40
    rw [htk, List.sum_append, List.sum_cons, List.sum_nil, Nat.add_zero] at ih1
    rw [f12_named_h4]
    simp (disch := omega) only [h3, h40, nI_z, zI_add, zI_sub, zI_mul, zI_m1, ckI_z, zI_clamp, Int.toNat_natCast, bnd_some, lt, rd_same, rd_ne, rdL_same, rdL_ne, wI_2, wL_1, if_true, if_false, iT_lt, iF_lt, iT_lt0, iF_lt0, iT_0lt, iF_0lt, iT_le, iF_le, iT_le0, iF_le0, iT_0le, iF_0le, iT_eq, iF_eq, iT_eq0, iF_eq0]
    exact ih1
theorem named_ok {N c : Nat} {S : St} {m : Mc} {x : Nat} (hN : 20 ≤ N) (h : EV S m x) (hc : isN c) : f12_named N (zI c) S = some (vn m x c, S) := by
  have := h.1
  have q := named_loop (N := N) h hc m.2.2.2.1.length 0 N (by omega) (by omega)
  rw [List.take_zero] at q
  unfold f12_named
  rw [nI_z]
  exact q
/-- what a reading comes to on the reference's side -/
def RMv (S2 : St) (T : Nat → Nat) (n : Nat) (bs : Int) (o : Nat) (vv : Nat → Int32) (X : Pr) (st0 : List Int32 → List Int32) (v : Int32) : Prop := match X with
  | .inl e => ND S2 T n bs e
  | .inr q => NL S2 T n bs q.1 o ∧ ∀ st, ev vv q.2 (st0 st) = v :: st
theorem digm {N n o : Nat} {T : Nat → Nat} {bs : Int} : ∀ (m v c p k : Nat) (S : St), c + m = 3 → m < k → NL S T n bs p o → v + 1 ≤ 10 ^ c → ∃ S2, f12_one_h76 N k (zI v) (zI c) S = f12_one_j128 N (zI (pdig T n m v c p).1) (zI (pdig T n m v c p).2.1) S2 ∧ NL S2 T n bs (pdig T n m v c p).2.2 o ∧ Same npP S S2 := by
  intro m
  induction m with
  | zero =>
    intro v c p k S hc hk h hv
    obtain ⟨k, rfl⟩ : ∃ z, k = z + 1 := ⟨k - 1, by omega⟩
    obtain rfl : c = 3 := by omega
    refine ⟨S, ?_, h, Same.rfl'⟩
    have hpd : pdig T n 0 v 3 p = (v, 3, p) := rfl
    rw [hpd, f12_one_h76]
    simp (disch := omega) only [nI_z, zI_add, zI_sub, zI_mul, zI_m1, ckI_z, zI_clamp, Int.toNat_natCast, bnd_some, lt, rd_same, rd_ne, rdL_same, rdL_ne, wI_2, wL_1, if_true, if_false, iT_lt, iF_lt, iT_lt0, iF_lt0, iT_0lt, iF_0lt, iT_le, iF_le, iT_le0, iF_le0, iT_0le, iF_0le, iT_eq, iF_eq, iT_eq0, iF_eq0]
  | succ m ih =>
    intro v c p k S hc hk h hv
    obtain ⟨k, rfl⟩ : ∃ z, k = z + 1 := ⟨k - 1, by omega⟩
    have hb := h.byte
    have h256 := hr_256 (n := n) (p := p) h.1.2.2.2.2.2.1
    have hv3 : 10 ^ c ≤ 10 ^ 3 := Nat.pow_le_pow_right (by omega) (by omega)
    have hpn := h.2.1
    have hn60 := h.1.1
    unfold pdig
    by_cases e : 48 ≤ hr T n p ∧ hr T n p ≤ 57
    · rw [if_pos e]
      have hp := (hr_pos (T := T) (n := n) (p := p) (by omega)).1
      obtain ⟨g1, g2⟩ := h.go hp
      have h2 := h.2.2.1
      obtain ⟨S2, f1, f2, f3⟩ := ih (10 * v + hr T n p - 48) (c + 1) (p + 1) k _ (by omega) (by omega) g1 (by rw [Nat.pow_succ]; omega)
      refine ⟨S2, ?_, f2, g2.tr f3⟩
      have hzz : zI (((10 : Nat) : Int) * (v : Int) + (hr T n p : Int) - ((48 : Nat) : Int)) = zI ((10 * v + hr T n p - 48 : Nat) : Int) := by congr 1; omega
      have hz1 : zI ((c : Int) + ((1 : Nat) : Int)) = zI ((c + 1 : Nat) : Int) := rfl
      rw [f12_one_h76]
      simp (disch := omega) only [hb, h2, hzz, hz1, nI_z, zI_add, zI_sub, zI_mul, zI_m1, ckI_z, zI_clamp, Int.toNat_natCast, bnd_some, lt, rd_same, rd_ne, rdL_same, rdL_ne, wI_2, wL_1, if_true, if_false, iT_lt, iF_lt, iT_lt0, iF_lt0, iT_0lt, iF_0lt, iT_le, iF_le, iT_le0, iF_le0, iT_0le, iF_0le, iT_eq, iF_eq, iT_eq0, iF_eq0]
      exact f1
    · rw [if_neg e]
      refine ⟨S, ?_, h, Same.rfl'⟩
      rw [f12_one_h76]
      by_cases c1 : hr T n p < 48
      · simp (disch := omega) only [hb, nI_z, zI_add, zI_sub, zI_mul, zI_m1, ckI_z, zI_clamp, Int.toNat_natCast, bnd_some, lt, rd_same, rd_ne, rdL_same, rdL_ne, wI_2, wL_1, if_true, if_false, iT_lt, iF_lt, iT_lt0, iF_lt0, iT_0lt, iF_0lt, iT_le, iF_le, iT_le0, iF_le0, iT_0le, iF_0le, iT_eq, iF_eq, iT_eq0, iF_eq0]
      · simp (disch := omega) only [hb, nI_z, zI_add, zI_sub, zI_mul, zI_m1, ckI_z, zI_clamp, Int.toNat_natCast, bnd_some, lt, rd_same, rd_ne, rdL_same, rdL_ne, wI_2, wL_1, if_true, if_false, iT_lt, iF_lt, iT_lt0, iF_lt0, iT_0lt, iF_0lt, iT_le, iF_le, iT_le0, iF_le0, iT_0le, iF_0le, iT_eq, iF_eq, iT_eq0, iF_eq0]
theorem one_m {N n o p x : Nat} {T : Nat → Nat} {bs : Int} {S : St} {m : Mc} (hN : 50 ≤ N) (h : NL S T n bs p o) (hE : EV S m x) : ∃ v S2, f12_one N S = some (v, S2) ∧ RMv S2 T n bs o (vn m x) (pOne T n p) (fun st => st) v ∧ Same npP S S2 := by
  have hb := h.byte
  have h256 := hr_256 (n := n) (p := p) h.1.2.2.2.2.2.1
  have h38 := h.2.2.2.1
  have h36 := h.2.2.1
  have hpn := h.2.1
  have hn60 := h.1.1
  unfold pOne
  by_cases e : isNb (hr T n p) = true
  · rw [if_pos e]
    have hin : isN (hr T n p) := isNb_iff.mp e
    have hp := (hr_pos (T := T) (n := n) (p := p) (by unfold isN at hin; omega)).1
    obtain ⟨g1, g2⟩ := h.go hp
    have hnm := named_ok (N := N) (by omega) (hE.np g2) hin
    refine ⟨vn m x (hr T n p), _, ?_, ⟨g1, fun st => ?_⟩, g2⟩
    · have hj : f12_one_j56 N (zI (hr T n p)) S = some (vn m x (hr T n p), wI S 146 36 (zI ((p : Int) + ((1 : Nat) : Int)))) := by
        unfold f12_one_j56
        simp (disch := omega) only [h36, hnm, nI_z, zI_add, zI_sub, zI_mul, zI_m1, ckI_z, zI_clamp, Int.toNat_natCast, bnd_some, lt, rd_same, rd_ne, rdL_same, rdL_ne, wI_2, wL_1, if_true, if_false, iT_lt, iF_lt, iT_lt0, iF_lt0, iT_0lt, iF_0lt, iT_le, iF_le, iT_le0, iF_le0, iT_0le, iF_0le, iT_eq, iF_eq, iT_eq0, iF_eq0]
      unfold f12_one
      unfold isN at hin
      rcases hin with q | q | q | q | q | q | q
      all_goals (rw [q] at hb hj ⊢; simp (disch := omega) only [h38, hb, hj, nI_z, zI_add, zI_sub, zI_mul, zI_m1, ckI_z, zI_clamp, Int.toNat_natCast, bnd_some, lt, rd_same, rd_ne, rdL_same, rdL_ne, wI_2, wL_1, if_true, if_false, iT_lt, iF_lt, iT_lt0, iF_lt0, iT_0lt, iF_0lt, iT_le, iF_le, iT_le0, iF_le0, iT_0le, iF_0le, iT_eq, iF_eq, iT_eq0, iF_eq0])
    · show ev (vn m x) [hr T n p] st = _
      unfold ev ev1
      rw [if_neg (by omega), if_pos e]
      rfl
  · rw [if_neg e]
    have hin : ¬ isN (hr T n p) := fun q => e (isNb_iff.mpr q)
    obtain ⟨S1, a1, a2, a3⟩ := digm (N := N) 3 0 0 p N S (by omega) (by omega) h (by decide)
    have a1' : f12_one N S = f12_one_j128 N (zI (pdig T n 3 0 0 p).1) (zI (pdig T n 3 0 0 p).2.1) S1 := by
      unfold f12_one
      unfold isN at hin
      simp (disch := omega) only [h38, hb, nI_z, zI_add, zI_sub, zI_mul, zI_m1, ckI_z, zI_clamp, Int.toNat_natCast, bnd_some, lt, rd_same, rd_ne, rdL_same, rdL_ne, wI_2, wL_1, if_true, if_false, iT_lt, iF_lt, iT_lt0, iF_lt0, iT_0lt, iF_0lt, iT_le, iF_le, iT_le0, iF_le0, iT_0le, iF_0le, iT_eq, iF_eq, iT_eq0, iF_eq0]
      exact a1
    obtain ⟨d1, d2, d3, d4, d5⟩ := pdig_ok (T := T) (n := n) 3 0 0 p hpn
    have d6 := d5 (by decide) (by omega)
    by_cases c : (pdig T n 3 0 0 p).2.1 = 0
    · rw [if_pos c]
      have hp0 : (pdig T n 3 0 0 p).2.2 = p := by omega
      rw [hp0] at a2
      obtain ⟨S2, b1, b2, b3⟩ := wrong_l a2
      refine ⟨zI 0, S2, ?_, b2, a3.tr b3⟩
      rw [a1', c]
      unfold f12_one_j128
      simp (disch := omega) only [b1, nI_z, zI_add, zI_sub, zI_mul, zI_m1, ckI_z, zI_clamp, Int.toNat_natCast, bnd_some, lt, rd_same, rd_ne, rdL_same, rdL_ne, wI_2, wL_1, if_true, if_false, iT_lt, iF_lt, iT_lt0, iF_lt0, iT_0lt, iF_0lt, iT_le, iF_le, iT_le0, iF_le0, iT_0le, iF_0le, iT_eq, iF_eq, iT_eq0, iF_eq0]
    · rw [if_neg c]
      refine ⟨zI (pdig T n 3 0 0 p).1, S1, ?_, ⟨a2, fun st => ?_⟩, a3⟩
      · rw [a1']
        unfold f12_one_j128
        simp (disch := omega) only [nI_z, zI_add, zI_sub, zI_mul, zI_m1, ckI_z, zI_clamp, Int.toNat_natCast, bnd_some, lt, rd_same, rd_ne, rdL_same, rdL_ne, wI_2, wL_1, if_true, if_false, iT_lt, iF_lt, iT_lt0, iF_lt0, iT_0lt, iF_0lt, iT_le, iF_le, iT_le0, iF_le0, iT_0le, iF_0le, iT_eq, iF_eq, iT_eq0, iF_eq0]
      · show ev (vn m x) [256 + (pdig T n 3 0 0 p).1] st = _
        unfold ev ev1
        rw [if_pos (by omega), show 256 + (pdig T n 3 0 0 p).1 - 256 = (pdig T n 3 0 0 p).1 by omega]
        rfl
