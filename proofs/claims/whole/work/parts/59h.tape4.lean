/-! The tape, and the call feed. -/
def by8 (x : Int32) (i : Nat) : Nat := (x.toBitVec.toNat / 2 ^ (8 * i)) % 256
theorem b255 : ∀ j : Nat, j < 32 → 8 ≤ j → (255#32).getLsbD j = false := by decide
theorem zI_tb (n : Nat) : (zI n).toBitVec = BitVec.ofNat 32 n := by
  rw [← nI_z]; rfl
theorem and255 (y : Int32) : y &&& nI 255 = zI ((y.toBitVec.toNat % 256 : Nat) : Int) := by
  apply Int32.toBitVec_inj.mp
  rw [zI_tb, Int32.toBitVec_and]
  apply BitVec.eq_of_toNat_eq
  rw [BitVec.toNat_and, BitVec.toNat_ofNat]
  show y.toBitVec.toNat &&& 255 = _
  rw [show (255 : Nat) = 2 ^ 8 - 1 by rfl, Nat.and_two_pow_sub_one_eq_mod]
  omega
theorem ushr8 (y : Int32) : (ushrI y (nI 8)).toBitVec.toNat = y.toBitVec.toNat / 2 ^ 8 := by
  show (y.toBitVec >>> (8#32)).toNat = _
  rw [BitVec.ushiftRight_eq', BitVec.toNat_ushiftRight, Nat.shiftRight_eq_div_pow]
  rfl
theorem sh_byte (x : Int32) {i : Nat} (h : i < 4) : shrI x (zI ((8 * i : Nat) : Int)) &&& nI 255 = zI (by8 x i : Int) := by
  rw [and255]
  have hb : (shrI x (zI ((8 * i : Nat) : Int))).toBitVec = x.toBitVec.sshiftRight (8 * i) := by
    rw [← nI_z]
    show x.toBitVec.sshiftRight ((nI (8 * i) &&& 31).toBitVec.smod 32).toNat = _
    rw [sh_amt (8 * i) (by omega)]
  rw [hb]
  have he : x.toBitVec.sshiftRight (8 * i) &&& 255#32 = (x.toBitVec >>> (8 * i)) &&& 255#32 := by
    apply BitVec.eq_of_getLsbD_eq
    intro j hj
    rw [BitVec.getLsbD_and, BitVec.getLsbD_and]
    by_cases e : j < 8
    · rw [BitVec.getLsbD_sshiftRight, BitVec.getLsbD_ushiftRight, if_pos (by omega)]
      have hj2 : ¬ 32 ≤ j := by omega
      simp [hj2]
    · rw [b255 j hj (by omega), Bool.and_false, Bool.and_false]
  have hn := congrArg BitVec.toNat he
  rw [BitVec.toNat_and, BitVec.toNat_and] at hn
  have h5 : (255#32).toNat = 2 ^ 8 - 1 := rfl
  rw [h5, Nat.and_two_pow_sub_one_eq_mod, Nat.and_two_pow_sub_one_eq_mod, BitVec.toNat_ushiftRight, Nat.shiftRight_eq_div_pow] at hn
  have hn2 : (x.toBitVec.sshiftRight (8 * i)).toNat % 256 = by8 x i := hn
  rw [hn2]
/-- the tape, as both sides keep it -/
def Qtape (S : St) (t : List Nat) : Prop := t.length ≤ 60 ∧ (∀ y ∈ t, y < 256) ∧ S.1 11 1 = zI t.length ∧ Held (S.1 12) 0 t ∧ S.1 146 30 = zI t.length ∧ Held (S.1 162) 0 t
def tqP (c k : Nat) : Prop := (c = 11 ∧ k = 1) ∨ c = 12 ∨ (c = 146 ∧ k = 30) ∨ c = 162
theorem Qtape.same {P : Nat → Nat → Prop} {S S2 : St} {t : List Nat} (h : Qtape S t) (hs : Same P S S2) (hd : ∀ c k, tqP c k → ¬ P c k) : Qtape S2 t := by
  obtain ⟨h1, h2, h3, h4, h5, h6⟩ := h
  exact ⟨h1, h2, by rw [hs.i (hd 11 1 (by unfold tqP; omega))]; exact h3, h4.same hs (fun k => hd 12 k (by unfold tqP; omega)), by rw [hs.i (hd 146 30 (by unfold tqP; omega))]; exact h5, h6.same hs (fun k => hd 162 k (by unfold tqP; omega))⟩
theorem feed_cl {N n : Nat} (hn : n ≤ 4) : ∀ (k i m : Nat) (x y : Int32) (S : St) (t : List Nat), i + k = n → k < m → y.toBitVec.toNat = x.toBitVec.toNat / 2 ^ (8 * i) → S.1 11 1 = zI t.length → Held (S.1 12) 0 t → t.length + k ≤ 60 → ∃ S2, f11_feed_h34 N (zI n) m y (zI i) S = some (zI (t.length + k : Nat), S2) ∧ S2.1 11 1 = zI (t.length + k : Nat) ∧ Held (S2.1 12) 0 (t ++ (List.range' i k).map (by8 x)) ∧ Same (fun c k => (c = 11 ∧ k = 1) ∨ c = 12) S S2 := by
  intro k
  induction k with
  | zero =>
    intro i m x y S t hi hm hy h1 h2 h3
    obtain ⟨m, rfl⟩ : ∃ z, m = z + 1 := ⟨m - 1, by omega⟩
    obtain rfl : i = n := by omega
    refine ⟨S, ?_, h1, by simpa using h2, Same.rfl'⟩
    rw [f11_feed_h34]
    unfold f9_length
    simp (disch := omega) only [h1, nI_z, zI_add, zI_sub, zI_mul, zI_m1, ckI_z, zI_clamp, Int.toNat_natCast, bnd_some, lt, rd_same, rd_ne, rdL_same, rdL_ne, wI_2, wL_1, if_true, if_false, iT_lt, iF_lt, iT_lt0, iF_lt0, iT_0lt, iF_0lt, iT_le, iF_le, iT_le0, iF_le0, iT_0le, iF_0le, iT_eq, iF_eq, iT_eq0, iF_eq0]
    rfl
  | succ k ih =>
    intro i m x y S t hi hm hy h1 h2 h3
    obtain ⟨m, rfl⟩ : ∃ z, m = z + 1 := ⟨m - 1, by omega⟩
    have hb : y &&& nI 255 = zI (by8 x i : Int) := by rw [and255, hy]; rfl
    have hu := ushr8 y
    have hs : Same (fun c k => (c = 11 ∧ k = 1) ∨ c = 12) S (wI (wI S 12 t.length (zI (by8 x i : Int))) 11 1 (zI ((t.length : Int) + ((1 : Nat) : Int)))) := (Same.rfl' (P := fun c k => (c = 11 ∧ k = 1) ∨ c = 12)) |>.wI (by omega) |>.wI (by omega)
    have hp : f9_push (zI (by8 x i : Int)) S = some ((), wI (wI S 12 t.length (zI (by8 x i : Int))) 11 1 (zI ((t.length : Int) + ((1 : Nat) : Int)))) := by
      unfold f9_push
      simp (disch := omega) only [h1, nI_z, zI_add, zI_sub, zI_mul, zI_m1, ckI_z, zI_clamp, Int.toNat_natCast, bnd_some, lt, rd_same, rd_ne, rdL_same, rdL_ne, wI_2, wL_1, if_true, if_false, iT_lt, iF_lt, iT_lt0, iF_lt0, iT_0lt, iF_0lt, iT_le, iF_le, iT_le0, iF_le0, iT_0le, iF_0le, iT_eq, iF_eq, iT_eq0, iF_eq0]
    have hh : Held ((wI (wI S 12 t.length (zI (by8 x i : Int))) 11 1 (zI ((t.length : Int) + ((1 : Nat) : Int)))).1 12) 0 (t ++ [by8 x i]) := h2.push2 (by simp (disch := omega) only [nI_z, zI_add, zI_sub, zI_mul, zI_m1, ckI_z, zI_clamp, Int.toNat_natCast, bnd_some, lt, rd_same, rd_ne, rdL_same, rdL_ne, wI_2, wL_1, if_true, if_false, iT_lt, iF_lt, iT_lt0, iF_lt0, iT_0lt, iF_0lt, iT_le, iF_le, iT_le0, iF_le0, iT_0le, iF_0le, iT_eq, iF_eq, iT_eq0, iF_eq0]) (fun k hk => by simp (disch := omega) only [nI_z, zI_add, zI_sub, zI_mul, zI_m1, ckI_z, zI_clamp, Int.toNat_natCast, bnd_some, lt, rd_same, rd_ne, rdL_same, rdL_ne, wI_2, wL_1, if_true, if_false, iT_lt, iF_lt, iT_lt0, iF_lt0, iT_0lt, iF_0lt, iT_le, iF_le, iT_le0, iF_le0, iT_0le, iF_0le, iT_eq, iF_eq, iT_eq0, iF_eq0])
    have h11 : (wI (wI S 12 t.length (zI (by8 x i : Int))) 11 1 (zI ((t.length : Int) + ((1 : Nat) : Int)))).1 11 1 = zI ((t ++ [by8 x i]).length : Int) := by
      rw [List.length_append, rd_same]
      rfl
    generalize wI (wI S 12 t.length (zI (by8 x i : Int))) 11 1 (zI ((t.length : Int) + ((1 : Nat) : Int))) = S1 at hs hp hh h11
    have hl : (t ++ [by8 x i]).length = t.length + 1 := by simp
    obtain ⟨S2, g1, g2, g3, g4⟩ := ih (i + 1) m x (ushrI y (nI 8)) S1 (t ++ [by8 x i]) (by omega) (by omega) (by
      rw [hu, hy, Nat.div_div_eq_div_mul, ← Nat.pow_add]
      congr 2) h11 hh (by omega)
    rw [hl, show t.length + 1 + k = t.length + (k + 1) by omega] at g1 g2
    refine ⟨S2, ?_, g2, ?_, hs.tr g4⟩
    · rw [f11_feed_h34, hb, hp]
      have hi1 : (zI ((i : Int) + ((1 : Nat) : Int)) : Int32) = zI ((i + 1 : Nat) : Int) := rfl
      generalize by8 x i = b at g1
      simp (disch := omega) only [bnd_some, lt, iF_le, nI_z 1, zI_add, hi1]
      exact g1
    · rw [List.range'_succ, List.map_cons]
      rw [List.append_assoc] at g3
      exact g3
theorem feed_ml {N n : Nat} (hn : n ≤ 4) (x : Int32) : ∀ (k i m : Nat) (S : St) (t : List Nat), i + k = n → k < m → S.1 146 30 = zI t.length → Held (S.1 162) 0 t → t.length + k ≤ 60 → ∃ S2, f12_feed_h30 N (zI n) x m (zI i) S = some (zI (t.length + k : Nat), S2) ∧ S2.1 146 30 = zI (t.length + k : Nat) ∧ Held (S2.1 162) 0 (t ++ (List.range' i k).map (by8 x)) ∧ Same (fun c k => (c = 146 ∧ k = 30) ∨ c = 162) S S2 := by
  intro k
  induction k with
  | zero =>
    intro i m S t hi hm h1 h2 h3
    obtain ⟨m, rfl⟩ : ∃ z, m = z + 1 := ⟨m - 1, by omega⟩
    obtain rfl : i = n := by omega
    refine ⟨S, ?_, h1, by simpa using h2, Same.rfl'⟩
    rw [f12_feed_h30]
    simp (disch := omega) only [h1, nI_z, zI_add, zI_sub, zI_mul, zI_m1, ckI_z, zI_clamp, Int.toNat_natCast, bnd_some, lt, rd_same, rd_ne, rdL_same, rdL_ne, wI_2, wL_1, if_true, if_false, iT_lt, iF_lt, iT_lt0, iF_lt0, iT_0lt, iF_0lt, iT_le, iF_le, iT_le0, iF_le0, iT_0le, iF_0le, iT_eq, iF_eq, iT_eq0, iF_eq0]
    rfl
  | succ k ih =>
    intro i m S t hi hm h1 h2 h3
    obtain ⟨m, rfl⟩ : ∃ z, m = z + 1 := ⟨m - 1, by omega⟩
    have hb : shrI x (zI (((8 : Nat) : Int) * (i : Int))) &&& nI 255 = zI (by8 x i : Int) := sh_byte x (by omega)
    have hs : Same (fun c k => (c = 146 ∧ k = 30) ∨ c = 162) S (wI (wI S 162 t.length (zI (by8 x i : Int))) 146 30 (zI ((t.length : Int) + ((1 : Nat) : Int)))) := (Same.rfl' (P := fun c k => (c = 146 ∧ k = 30) ∨ c = 162)) |>.wI (by omega) |>.wI (by omega)
    have hp : f12_feed_h30 N (zI n) x (m + 1) (zI i) S = f12_feed_h30 N (zI n) x m (zI ((i + 1 : Nat) : Int)) (wI (wI S 162 t.length (zI (by8 x i : Int))) 146 30 (zI ((t.length : Int) + ((1 : Nat) : Int)))) := by
      rw [f12_feed_h30, nI_z 8, zI_mul, hb]
      generalize by8 x i = b
      simp (disch := omega) only [h1, nI_z, zI_add, zI_sub, zI_mul, zI_m1, ckI_z, zI_clamp, Int.toNat_natCast, bnd_some, lt, rd_same, rd_ne, rdL_same, rdL_ne, wI_2, wL_1, if_true, if_false, iT_lt, iF_lt, iT_lt0, iF_lt0, iT_0lt, iF_0lt, iT_le, iF_le, iT_le0, iF_le0, iT_0le, iF_0le, iT_eq, iF_eq, iT_eq0, iF_eq0]
      rfl
    have hh : Held ((wI (wI S 162 t.length (zI (by8 x i : Int))) 146 30 (zI ((t.length : Int) + ((1 : Nat) : Int)))).1 162) 0 (t ++ [by8 x i]) := h2.push2 (by simp (disch := omega) only [nI_z, zI_add, zI_sub, zI_mul, zI_m1, ckI_z, zI_clamp, Int.toNat_natCast, bnd_some, lt, rd_same, rd_ne, rdL_same, rdL_ne, wI_2, wL_1, if_true, if_false, iT_lt, iF_lt, iT_lt0, iF_lt0, iT_0lt, iF_0lt, iT_le, iF_le, iT_le0, iF_le0, iT_0le, iF_0le, iT_eq, iF_eq, iT_eq0, iF_eq0]) (fun k hk => by simp (disch := omega) only [nI_z, zI_add, zI_sub, zI_mul, zI_m1, ckI_z, zI_clamp, Int.toNat_natCast, bnd_some, lt, rd_same, rd_ne, rdL_same, rdL_ne, wI_2, wL_1, if_true, if_false, iT_lt, iF_lt, iT_lt0, iF_lt0, iT_0lt, iF_0lt, iT_le, iF_le, iT_le0, iF_le0, iT_0le, iF_0le, iT_eq, iF_eq, iT_eq0, iF_eq0])
    have h11 : (wI (wI S 162 t.length (zI (by8 x i : Int))) 146 30 (zI ((t.length : Int) + ((1 : Nat) : Int)))).1 146 30 = zI ((t ++ [by8 x i]).length : Int) := by
      rw [List.length_append, rd_same]
      rfl
    generalize wI (wI S 162 t.length (zI (by8 x i : Int))) 146 30 (zI ((t.length : Int) + ((1 : Nat) : Int))) = S1 at hs hp hh h11
    have hl : (t ++ [by8 x i]).length = t.length + 1 := by simp
    obtain ⟨S2, g1, g2, g3, g4⟩ := ih (i + 1) m S1 (t ++ [by8 x i]) (by omega) (by omega) h11 hh (by omega)
    rw [hl, show t.length + 1 + k = t.length + (k + 1) by omega] at g1 g2
    refine ⟨S2, ?_, g2, ?_, hs.tr g4⟩
    · rw [hp]; exact g1
    · rw [List.range'_succ, List.map_cons]
      rw [List.append_assoc] at g3
      exact g3
theorem c_feed {N : Nat} {S : St} {t : List Nat} (hN : 200 ≤ N) (h : Qtape S t) (n x : Int32) : ∃ r S1 S2 t2, f11_feed N n x S = some (r, S1) ∧ f12_feed N n x S1 = some (r, S2) ∧ Qtape S2 t2 ∧ Same tqP S S2 := by
  have hx := xrng n
  rw [zI_of n]
  generalize n.toInt = z at hx
  by_cases e1 : 1 ≤ z ∧ z ≤ 4
  · obtain ⟨z, rfl⟩ : ∃ w : Nat, z = (w : Int) := ⟨z.toNat, by omega⟩
    obtain ⟨h1, h2, h3, h4, h5, h6⟩ := h
    have hw : f12_within (zI (z : Int)).toInt64 (lN 1) (lN 4) = fun S => some (zI 1, S) := by
      funext S
      rw [within_n (z : Int) 1 4 S (by omega) (by omega) (by omega), bI_t (by omega)]
    by_cases e2 : t.length + z ≤ 60
    · obtain ⟨S1, a1, a2, a3, a4⟩ := feed_cl (N := N) (n := z) (by omega) z 0 N x x S t (by omega) (by omega) (by simp) h3 h4 (by omega)
      obtain ⟨S2, b1, b2, b3, b4⟩ := feed_ml (N := N) (n := z) (by omega) x z 0 N S1 t (by omega) (by omega) (by rw [a4.i (by omega)]; exact h5) (h6.same a4 (fun k => by omega)) (by omega)
      have hl : (t ++ (List.range' 0 z).map (by8 x)).length = t.length + z := by simp
      refine ⟨zI (t.length + z : Nat), S1, S2, t ++ (List.range' 0 z).map (by8 x), ?_, ?_, ⟨by omega, ?_, ?_, ?_, ?_, b3⟩, (a4.mono (fun c k q => by unfold tqP; omega)).tr (b4.mono (fun c k q => by unfold tqP; omega))⟩
      · unfold f11_feed f9_length
        simp (disch := omega) only [h3, nI_z, zI_add, zI_sub, zI_mul, zI_m1, ckI_z, zI_clamp, Int.toNat_natCast, bnd_some, lt, rd_same, rd_ne, rdL_same, rdL_ne, wI_2, wL_1, if_true, if_false, iT_lt, iF_lt, iT_lt0, iF_lt0, iT_0lt, iF_0lt, iT_le, iF_le, iT_le0, iF_le0, iT_0le, iF_0le, iT_eq, iF_eq, iT_eq0, iF_eq0]
        exact a1
      · unfold f12_feed
        have h5' : S1.1 146 30 = zI (t.length : Int) := by rw [a4.i (by omega)]; exact h5
        rw [hw, bnd_some, if_neg (by decide), h5']
        simp (disch := omega) only [nI_z, zI_add, zI_sub, zI_mul, zI_m1, ckI_z, zI_clamp, Int.toNat_natCast, bnd_some, lt, rd_same, rd_ne, rdL_same, rdL_ne, wI_2, wL_1, if_true, if_false, iT_lt, iF_lt, iT_lt0, iF_lt0, iT_0lt, iF_0lt, iT_le, iF_le, iT_le0, iF_le0, iT_0le, iF_0le, iT_eq, iF_eq, iT_eq0, iF_eq0]
        exact b1
      · intro y hy
        rcases List.mem_append.mp hy with q | q
        · exact h2 y q
        · obtain ⟨i, _, rfl⟩ := List.mem_map.mp q
          unfold by8
          omega
      · rw [hl, b4.i (by omega)]; exact a2
      · exact a3.same b4 (fun k => by omega)
      · rw [hl]; exact b2
    · refine ⟨zI (-3), S, S, t, ?_, ?_, ⟨h1, h2, h3, h4, h5, h6⟩, Same.rfl'⟩
      · unfold f11_feed f9_length
        simp (disch := omega) only [h3, nI_z, zI_add, zI_sub, zI_mul, zI_m1, ckI_z, zI_clamp, Int.toNat_natCast, bnd_some, lt, rd_same, rd_ne, rdL_same, rdL_ne, wI_2, wL_1, if_true, if_false, iT_lt, iF_lt, iT_lt0, iF_lt0, iT_0lt, iF_0lt, iT_le, iF_le, iT_le0, iF_le0, iT_0le, iF_0le, iT_eq, iF_eq, iT_eq0, iF_eq0]
        rfl
      · unfold f12_feed
        rw [hw, bnd_some, if_neg (by decide), h5]
        simp (disch := omega) only [nI_z, zI_add, zI_sub, zI_mul, zI_m1, ckI_z, zI_clamp, Int.toNat_natCast, bnd_some, lt, rd_same, rd_ne, rdL_same, rdL_ne, wI_2, wL_1, if_true, if_false, iT_lt, iF_lt, iT_lt0, iF_lt0, iT_0lt, iF_0lt, iT_le, iF_le, iT_le0, iF_le0, iT_0le, iF_0le, iT_eq, iF_eq, iT_eq0, iF_eq0]
        rfl
  · refine ⟨zI (-1), S, S, t, ?_, ?_, h, Same.rfl'⟩
    · unfold f11_feed
      by_cases e3 : z < 1
      · simp (disch := omega) only [nI_z, zI_add, zI_sub, zI_mul, zI_m1, ckI_z, zI_clamp, Int.toNat_natCast, bnd_some, lt, rd_same, rd_ne, rdL_same, rdL_ne, wI_2, wL_1, if_true, if_false, iT_lt, iF_lt, iT_lt0, iF_lt0, iT_0lt, iF_0lt, iT_le, iF_le, iT_le0, iF_le0, iT_0le, iF_0le, iT_eq, iF_eq, iT_eq0, iF_eq0]
      · simp (disch := omega) only [nI_z, zI_add, zI_sub, zI_mul, zI_m1, ckI_z, zI_clamp, Int.toNat_natCast, bnd_some, lt, rd_same, rd_ne, rdL_same, rdL_ne, wI_2, wL_1, if_true, if_false, iT_lt, iF_lt, iT_lt0, iF_lt0, iT_0lt, iF_0lt, iT_le, iF_le, iT_le0, iF_le0, iT_0le, iF_0le, iT_eq, iF_eq, iT_eq0, iF_eq0]
    · unfold f12_feed
      rw [within_n z 1 4 S (by omega) (by omega) (by omega), bI_f (by omega), bnd_some, iT_eq0 rfl]
      rfl
