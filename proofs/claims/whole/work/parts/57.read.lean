/-! BITS FROM A ROW read as a program. -/
def dec (g : Lg) (bv : Nat → Nat) : Nat → Nat → Nat → Nat → List Nat → Nat × List Nat
  | 0, _, _, _, _ => (0, [])
  | m + 1, i, c, k, acc => match fo g (2 * c + bv i) (k + 1) with
    | some o => if acc.length = 12 then (1, []) else if o = 0 then (2, acc ++ [0]) else dec g bv m (i + 1) 0 0 (acc ++ [o])
    | none => if k + 1 < 6 then dec g bv m (i + 1) (2 * c + bv i) (k + 1) acc else (1, [])
theorem dec_some {g : Lg} {bv : Nat → Nat} {m i c k o : Nat} {acc : List Nat} (h : fo g (2 * c + bv i) (k + 1) = some o) : dec g bv (m + 1) i c k acc = if acc.length = 12 then (1, []) else if o = 0 then (2, acc ++ [0]) else dec g bv m (i + 1) 0 0 (acc ++ [o]) := by
  conv => lhs; unfold dec
  rw [h]
theorem dec_none {g : Lg} {bv : Nat → Nat} {m i c k : Nat} {acc : List Nat} (h : fo g (2 * c + bv i) (k + 1) = none) : dec g bv (m + 1) i c k acc = if k + 1 < 6 then dec g bv m (i + 1) (2 * c + bv i) (k + 1) acc else (1, []) := by
  conv => lhs; unfold dec
  rw [h]
def rdI (g : Lg) (D : Nat × List Nat) : Int := if D.1 = 0 then -2 else if D.1 = 1 then -5 else (bsum g D.2 : Int)
def accok (g : Lg) (acc : List Nat) : Prop := acc.length ≤ 12 ∧ ∀ x ∈ acc, x ≠ 0 ∧ x < g.1.length
theorem acc_wp {g : Lg} {acc : List Nat} (hg : LV g) (h : accok g acc) : WP g (acc ++ [0]) := by
  have hgl := hg.len
  refine ⟨by simp, fun x hx => ?_, fun i x hi => ?_⟩
  · rcases List.mem_append.mp hx with q | q
    · exact (h.2 x q).2
    · rw [List.mem_singleton.mp q]; omega
  · have hl := (List.getElem?_eq_some_iff.mp hi).1
    rw [List.length_append, List.length_singleton] at hl ⊢
    by_cases e : i = acc.length
    · subst e
      have : x = 0 := by simpa [eq_comm] using hi
      rw [this]; simp
    · rw [List.getElem?_append_left (by omega)] at hi
      have := (h.2 x (List.mem_of_getElem? hi)).1
      constructor
      · intro q; exact absurd q this
      · intro q; omega
/-- a row of booleans on a shelf -/
def Bv (S : St) (d n : Nat) (bv : Nat → Nat) : Prop := n ≤ 60 ∧ S.1 40 d = zI ((4 : Nat) : Int) ∧ S.1 42 d = zI n ∧ S.1 170 d = zI ((1004 : Nat) : Int) ∧ S.1 171 d = zI n ∧ (∀ t, t < n → S.2 (44 + d) t = lN (bv t) ∧ S.2 172 (60 * d + t) = lN (bv t)) ∧ ∀ t, bv t ≤ 1
theorem Bv.same {P : Nat → Nat → Prop} {S S2 : St} {d n : Nat} {bv : Nat → Nat} (hd : d < 6) (h : Bv S d n bv) (hs : Same P S S2) (h1 : ∀ c k, qhP c k → ¬ P c k) : Bv S2 d n bv := by
  obtain ⟨a1, a2, a3, a4, a5, a6, a7⟩ := h
  refine ⟨a1, by rw [hs.i (h1 40 d (by unfold qhP; omega))]; exact a2, by rw [hs.i (h1 42 d (by unfold qhP; omega))]; exact a3, by rw [hs.i (h1 170 d (by unfold qhP; omega))]; exact a4, by rw [hs.i (h1 171 d (by unfold qhP; omega))]; exact a5, fun t ht => ⟨by rw [hs.l (h1 _ t (by unfold qhP; omega))]; exact (a6 t ht).1, by rw [hs.l (h1 172 _ (by unfold qhP; omega))]; exact (a6 t ht).2⟩, a7⟩
theorem cmp_bit : ∀ b : Nat, b ≤ 1 → (cmpL (lN b) (lN 0) = 0 ↔ b = 0) := fun b hb => by
  have : b = 0 ∨ b = 1 := by omega
  rcases this with rfl | rfl <;> decide
theorem read_c {N a d n0 : Nat} {g : Lg} {bv : Nat → Nat} (hN : 100 ≤ N) (hg : LV g) (ha : 50 ≤ a) (hd : d < 6) : ∀ (m i n c k : Nat) (acc : List Nat) (S : St), (i + m = n0 ∨ (m = 0 ∧ n0 ≤ i)) → i < 2147483648 → m < n → c < 2 ^ k → k < 6 → accok g acc → PR S 4 acc → CL S a g → Bv S d n0 bv →
    ∃ S2, f11_decoded_h23 N a (zI d) n (zI c) (zI k) (zI i) S = some (zI (rdI g (dec g bv m i c k acc)), S2) ∧ Same (rgP 4) S S2 ∧ ((dec g bv m i c k acc).1 = 2 → PR S2 4 (dec g bv m i c k acc).2 ∧ WP g (dec g bv m i c k acc).2) ∧ (dec g bv m i c k acc).1 ≤ 2 := by
  intro m
  induction m with
  | zero =>
    intro i n c k acc S hi hi2 hn hc hk hac hp hcl hb
    obtain ⟨n, rfl⟩ : ∃ z, n = z + 1 := ⟨n - 1, by omega⟩
    obtain ⟨b1, b2, b3, b4, b5, b6, b7⟩ := hb
    have hle : f8_length (zI d) S = some (zI n0, S) := by unfold f8_length; simp (disch := omega) only [f8_is hd, b3, nI_z, zI_add, zI_sub, zI_mul, zI_m1, ckI_z, zI_clamp, Int.toNat_natCast, bnd_some, lt, rd_same, rd_ne, rdL_same, rdL_ne, wI_2, wL_1, if_true, if_false, iT_lt, iF_lt, iT_lt0, iF_lt0, iT_0lt, iF_0lt, iT_le, iF_le, iT_le0, iF_le0, iT_0le, iF_0le, iT_eq, iF_eq, iT_eq0, iF_eq0]
    refine ⟨S, ?_, Same.rfl', fun q => absurd q (by show ¬ (0 : Nat) = 2; omega), by show (0 : Nat) ≤ 2; omega⟩
    rw [f11_decoded_h23]
    simp (disch := omega) only [hle, nI_z, zI_add, zI_sub, zI_mul, zI_m1, ckI_z, zI_clamp, Int.toNat_natCast, bnd_some, lt, rd_same, rd_ne, rdL_same, rdL_ne, wI_2, wL_1, if_true, if_false, iT_lt, iF_lt, iT_lt0, iF_lt0, iT_0lt, iF_0lt, iT_le, iF_le, iT_le0, iF_le0, iT_0le, iF_0le, iT_eq, iF_eq, iT_eq0, iF_eq0]
    rfl
  | succ m ih =>
    intro i n c k acc S hi hi2 hn hc hk hac hp hcl hb
    obtain ⟨n, rfl⟩ : ∃ z, n = z + 1 := ⟨n - 1, by omega⟩
    have hb' := hb
    obtain ⟨b1, b2, b3, b4, b5, b6, b7⟩ := hb
    have hgl := hg.len
    have hlt : i < n0 := by omega
    have hle : f8_length (zI d) S = some (zI n0, S) := by unfold f8_length; simp (disch := omega) only [f8_is hd, b3, nI_z, zI_add, zI_sub, zI_mul, zI_m1, ckI_z, zI_clamp, Int.toNat_natCast, bnd_some, lt, rd_same, rd_ne, rdL_same, rdL_ne, wI_2, wL_1, if_true, if_false, iT_lt, iF_lt, iT_lt0, iF_lt0, iT_0lt, iF_0lt, iT_le, iF_le, iT_le0, iF_le0, iT_0le, iF_0le, iT_eq, iF_eq, iT_eq0, iF_eq0]
    have hge : f8_get (zI d) (zI i) S = some (lN (bv i), S) := by
      unfold f8_get
      simp (disch := omega) only [f8_is hd, b3, (b6 i hlt).1, nI_z, zI_add, zI_sub, zI_mul, zI_m1, ckI_z, zI_clamp, Int.toNat_natCast, bnd_some, lt, rd_same, rd_ne, rdL_same, rdL_ne, wI_2, wL_1, if_true, if_false, iT_lt, iF_lt, iT_lt0, iF_lt0, iT_0lt, iF_0lt, iT_le, iF_le, iT_le0, iF_le0, iT_0le, iF_0le, iT_eq, iF_eq, iT_eq0, iF_eq0]
    have h2k : 2 ^ k ≤ 2 ^ 5 := Nat.pow_le_pow_right (by omega) (by omega)
    have hb01 := b7 i
    have hcb := cmp_bit (bv i) hb01
    have hcc : 2 * c + bv i < 2 ^ (k + 1) := by rw [Nat.pow_succ]; omega
    have hz2 : zI ((c : Int) * ((2 : Nat) : Int) + (bv i : Int)) = zI ((2 * c + bv i : Nat) : Int) := by congr 1; omega
    obtain ⟨o1, o2⟩ := ow_c (N := N) (c := 2 * c + bv i) (k := k + 1) hg hcl (by omega) (by omega) g.1.length 0 N (by omega) (by omega)
    have step : f11_decoded_h23 N a (zI d) (n + 1) (zI c) (zI k) (zI i) S = f11_decoded_j60 N a (zI d) (zI k) (zI i) (f11_decoded_h23 N a (zI d) n) (zI (bv i)) (zI ((c : Int) * ((2 : Nat) : Int))) S := by
      rw [f11_decoded_h23]
      simp (disch := omega) only [hle, hge, nI_z, zI_add, zI_sub, zI_mul, zI_m1, ckI_z, zI_clamp, Int.toNat_natCast, bnd_some, lt, rd_same, rd_ne, rdL_same, rdL_ne, wI_2, wL_1, if_true, if_false, iT_lt, iF_lt, iT_lt0, iF_lt0, iT_0lt, iF_0lt, iT_le, iF_le, iT_le0, iF_le0, iT_0le, iF_0le, iT_eq, iF_eq, iT_eq0, iF_eq0]
      by_cases q : bv i = 0
      · rw [if_pos (hcb.mpr q), q]
      · have q1 : bv i = 1 := by omega
        rw [if_neg (fun w => q (hcb.mp w)), q1]
    have hzk : zI ((k : Int) + ((1 : Nat) : Int)) = zI ((k + 1 : Nat) : Int) := rfl
    have hzi : zI ((i : Int) + ((1 : Nat) : Int)) = zI ((i + 1 : Nat) : Int) := rfl
    rw [step]
    cases hfo : fo g (2 * c + bv i) (k + 1) with
    | some o =>
      obtain ⟨f1, f2, f3⟩ := fo_some hfo
      have hor : f3_orderWith N a (zI ((2 * c + bv i : Nat) : Int)) (zI ((k + 1 : Nat) : Int)) S = some (zI o, S) := o1 o (by omega) f1 f2 f3
      rw [dec_some hfo]
      by_cases c12 : acc.length = 12
      · rw [if_pos c12]
        have hpu := tr_push (x := o) hp c12
        refine ⟨S, ?_, Same.rfl', fun q => absurd q (by show ¬ (1 : Nat) = 2; omega), by show (1 : Nat) ≤ 2; omega⟩
        unfold f11_decoded_j60 f11_decoded_j91
        simp (disch := omega) only [hz2, hzk, hor, hpu, nI_z, zI_add, zI_sub, zI_mul, zI_m1, ckI_z, zI_clamp, Int.toNat_natCast, bnd_some, lt, rd_same, rd_ne, rdL_same, rdL_ne, wI_2, wL_1, if_true, if_false, iT_lt, iF_lt, iT_lt0, iF_lt0, iT_0lt, iF_0lt, iT_le, iF_le, iT_le0, iF_le0, iT_0le, iF_0le, iT_eq, iF_eq, iT_eq0, iF_eq0]
        rfl
      · rw [if_neg c12]
        have h12 := hac.1
        obtain ⟨S1, p1, p2, p3⟩ := f6_push_ok hp (x := o) (by omega) (by omega)
        by_cases o0 : o = 0
        · rw [if_pos o0]
          subst o0
          have hwp := acc_wp hg hac
          have hcl1 := hcl.same hg p3 (fun c k _ _ => by unfold rgP; omega)
          have hs := f3_sizeOf_in (N := N) hg hcl1 p2 (by omega)
          have q := wp_isp hwp
          unfold szI at hs
          rw [if_pos q.1, if_pos q.2] at hs
          refine ⟨S1, ?_, p3, fun _ => ⟨p2, hwp⟩, by show (2 : Nat) ≤ 2; omega⟩
          unfold f11_decoded_j60 f11_decoded_j91
          simp (disch := omega) only [hz2, hzk, hor, p1, hs, nI_z, zI_add, zI_sub, zI_mul, zI_m1, ckI_z, zI_clamp, Int.toNat_natCast, bnd_some, lt, rd_same, rd_ne, rdL_same, rdL_ne, wI_2, wL_1, if_true, if_false, iT_lt, iF_lt, iT_lt0, iF_lt0, iT_0lt, iF_0lt, iT_le, iF_le, iT_le0, iF_le0, iT_0le, iF_0le, iT_eq, iF_eq, iT_eq0, iF_eq0]
          rfl
        · rw [if_neg o0]
          obtain ⟨S2, g1, g2, g3, g4⟩ := ih (i + 1) n 0 0 (acc ++ [o]) S1 (by omega) (by omega) (by omega) (by decide) (by omega) ⟨by rw [List.length_append, List.length_singleton]; omega, fun x hx => by
            rcases List.mem_append.mp hx with q | q
            · exact hac.2 x q
            · rw [List.mem_singleton.mp q]; exact ⟨o0, f1⟩⟩ p2 (hcl.same hg p3 (fun c k _ _ => by unfold rgP; omega)) (hb'.same hd p3 (fun c k z => by unfold qhP at z; unfold rgP; omega))
          refine ⟨S2, ?_, p3.tr g2, g3, g4⟩
          unfold f11_decoded_j60 f11_decoded_j91
          simp (disch := omega) only [hz2, hzk, hor, p1, hzi, nI_z, zI_add, zI_sub, zI_mul, zI_m1, ckI_z, zI_clamp, Int.toNat_natCast, bnd_some, lt, rd_same, rd_ne, rdL_same, rdL_ne, wI_2, wL_1, if_true, if_false, iT_lt, iF_lt, iT_lt0, iF_lt0, iT_0lt, iF_0lt, iT_le, iF_le, iT_le0, iF_le0, iT_0le, iF_0le, iT_eq, iF_eq, iT_eq0, iF_eq0]
          exact g1
    | none =>
      have hno := fo_none hfo
      have hor : f3_orderWith N a (zI ((2 * c + bv i : Nat) : Int)) (zI ((k + 1 : Nat) : Int)) S = some (zI (-1), S) := o2 (fun o _ b => hno o b)
      rw [dec_none hfo]
      by_cases c6 : k + 1 < 6
      · rw [if_pos c6]
        obtain ⟨S2, g1, g2, g3, g4⟩ := ih (i + 1) n (2 * c + bv i) (k + 1) acc S (by omega) (by omega) (by omega) hcc c6 hac hp hcl hb'
        refine ⟨S2, ?_, g2, g3, g4⟩
        unfold f11_decoded_j60
        simp (disch := omega) only [hz2, hzk, hor, hzi, nI_z, zI_add, zI_sub, zI_mul, zI_m1, ckI_z, zI_clamp, Int.toNat_natCast, bnd_some, lt, rd_same, rd_ne, rdL_same, rdL_ne, wI_2, wL_1, if_true, if_false, iT_lt, iF_lt, iT_lt0, iF_lt0, iT_0lt, iF_0lt, iT_le, iF_le, iT_le0, iF_le0, iT_0le, iF_0le, iT_eq, iF_eq, iT_eq0, iF_eq0]
        exact g1
      · rw [if_neg c6]
        refine ⟨S, ?_, Same.rfl', fun q => absurd q (by show ¬ (1 : Nat) = 2; omega), by show (1 : Nat) ≤ 2; omega⟩
        unfold f11_decoded_j60 f11_decoded_j91
        simp (disch := omega) only [hz2, hzk, hor, nI_z, zI_add, zI_sub, zI_mul, zI_m1, ckI_z, zI_clamp, Int.toNat_natCast, bnd_some, lt, rd_same, rd_ne, rdL_same, rdL_ne, wI_2, wL_1, if_true, if_false, iT_lt, iF_lt, iT_lt0, iF_lt0, iT_0lt, iF_0lt, iT_le, iF_le, iT_le0, iF_le0, iT_0le, iF_0le, iT_eq, iF_eq, iT_eq0, iF_eq0]
        rfl
