/-! The reference's list of programs is progs. -/
def LQ (S : St) (L : List (Nat × Nat)) : Prop := S.1 146 28 = zI L.length ∧ ∀ j e, L[j]? = some e → S.2 160 j = lN e.1 ∧ S.1 161 j = zI e.2
def liP (c p : Nat) : Prop := c = 160 ∨ c = 161 ∨ (c = 146 ∧ p = 28)
theorem ML.li {S S2 : St} {k : Nat} {g : Lg} (h : ML S k g) (hv : LV g) (hs : Same liP S S2) : ML S2 k g := h.same hv hs (fun c p _ _ _ => by unfold liP; omega) (fun p _ _ => by unfold liP; omega) (fun p _ _ => by unfold liP; omega) (by unfold liP; omega)
theorem LQ.push {S : St} {L : List (Nat × Nat)} (h : LQ S L) (a b : Nat) : LQ (wI (wI (wL S 160 L.length (lN a)) 161 L.length (zI b)) 146 28 (zI ((L.length : Int) + ((1 : Nat) : Int)))) (L ++ [(a, b)]) ∧ Same liP S (wI (wI (wL S 160 L.length (lN a)) 161 L.length (zI b)) 146 28 (zI ((L.length : Int) + ((1 : Nat) : Int)))) := by
  refine ⟨⟨by rw [rd_same, List.length_append]; rfl, fun j e hj => ?_⟩, ((Same.rfl'.wL (Or.inl rfl)).wI (Or.inr (Or.inl rfl))).wI (Or.inr (Or.inr ⟨rfl, rfl⟩))⟩
  have hlt : j < L.length + 1 := by
    have := (List.getElem?_eq_some_iff.mp hj).1
    simpa using this
  by_cases q : j = L.length
  · subst q
    obtain rfl : e = (a, b) := by simpa [eq_comm] using hj
    exact ⟨by rw [wI_2, wI_2, rdL_same], by rw [rd_ne (by omega), rd_same]⟩
  · rw [List.getElem?_append_left (by omega)] at hj
    obtain ⟨h1, h2⟩ := h.2 j e hj
    exact ⟨by rw [wI_2, wI_2, rdL_ne (by omega), h1], by rw [rd_ne (by omega), rd_ne (by omega), wL_1, h2]⟩
theorem pack_snoc {u : List Nat} {o : Nat} (hu : u.length < 11) (hux : ∀ x ∈ u, x < 12) (ho : o < 12) : lN (pack u) ||| shlL (zI o).toInt64 (zI (((4 : Nat) : Int) * (u.length : Int))) = lN (pack (u ++ [o])) := by
  have h1 := pack_lt u (fun x hx => by have := hux x hx; omega)
  have h16 : (16 : Nat) ^ u.length = 2 ^ (4 * u.length) := by rw [Nat.pow_mul]
  have h2 : 2 ^ (4 * u.length) ≤ 2 ^ 40 := Nat.pow_le_pow_right (by omega) (by omega)
  have h3 : 2 ^ (4 * u.length) * o ≤ 2 ^ 40 * 12 := Nat.mul_le_mul h2 (by omega)
  have hz : (zI o).toInt64 = lN o := (lN_z o (by omega)).symm
  have hn : zI (((4 : Nat) : Int) * (u.length : Int)) = nI (4 * u.length) := by rw [nI_z]; rfl
  rw [hz, hn, lN_shl (by omega) (by rw [Nat.mul_comm]; omega), Nat.mul_comm o, lN_or (by omega) (by omega), pack_app, h16, Nat.add_comm]
  rfl
theorem f12_list_rank {N k B d : Nat} {g : Lg} {u : List Nat} {left : Nat} (hv : LV g) (hk : k < 6) (hB : B ≤ 14) (hu : u.length + d = 11) (hl : left ≤ 14) (hux : ∀ x ∈ u, x < 12) (pv : Int32 → Int64 → Int32 → Int32 → Int32 → St → Option (Unit × St))
    (hpv : ∀ (o : Nat) (S : St) (L : List (Nat × Nat)), o < g.1.length → bit g o < left → 1 ≤ d → ML S k g → LQ S L → L.length + (comp (bit g) (rkf g) d (left - bit g o)).length ≤ 16384 → ∃ S2, pv (zI k) (lN (pack (u ++ [o]))) (zI ((u.length : Int) + ((1 : Nat) : Int))) (zI ((left : Int) - (bit g o : Int))) (zI B) S = some ((), S2) ∧ LQ S2 (L ++ (comp (bit g) (rkf g) d (left - bit g o)).map (fun q => (pack (u ++ [o] ++ q), B))) ∧ Same liP S S2) :
    ∀ (m i n : Nat) (S : St) (L : List (Nat × Nat)), ML S k g → LQ S L → i + m = g.1.length → m < n → L.length + (((rkf g).drop i).flatMap (block (bit g) (comp (bit g) (rkf g) d) left)).length ≤ 16384 →
    ∃ S2, f12_listFrom_h3 N pv (zI k) (lN (pack u)) (zI u.length) (zI left) (zI B) n (zI i) S = some ((), S2) ∧ LQ S2 (L ++ (((rkf g).drop i).flatMap (block (bit g) (comp (bit g) (rkf g) d) left)).map (fun q => (pack (u ++ q), B))) ∧ Same liP S S2 := by
  have hgl := hv.len
  intro m
  induction m with
  | zero =>
    intro i n S L hm hq hi hn hcap
    obtain ⟨n, rfl⟩ : ∃ z, n = z + 1 := ⟨n - 1, by omega⟩
    refine ⟨S, ?_, ?_, Same.rfl'⟩
    · rw [f12_listFrom_h3]
      simp (disch := omega) only [f12_ordersOf_in hm.1 hv hk, nI_z, zI_add, zI_sub, zI_mul, zI_m1, ckI_z, zI_clamp, Int.toNat_natCast, bnd_some, lt, rd_same, rd_ne, rdL_same, rdL_ne, wI_2, wL_1, if_true, if_false, iT_lt, iF_lt, iT_lt0, iF_lt0, iT_0lt, iF_0lt, iT_le, iF_le, iT_le0, iF_le0, iT_0le, iF_0le, iT_eq, iF_eq, iT_eq0, iF_eq0]
    · rw [List.drop_eq_nil_of_le (by rw [rkf_len hv]; omega)]
      simpa using hq
  | succ m ih =>
    intro i n S L hm hq hi hn hcap
    obtain ⟨n, rfl⟩ : ∃ z, n = z + 1 := ⟨n - 1, by omega⟩
    have hlt : i < (rkf g).length := by rw [rkf_len hv]; omega
    have hr : (rkf g)[i]? = some (rkf g)[i] := List.getElem?_eq_getElem hlt
    rw [List.drop_eq_getElem_cons hlt, List.flatMap_cons, List.length_append] at hcap
    rw [List.drop_eq_getElem_cons hlt, List.flatMap_cons]
    generalize (rkf g)[i] = o at hr hcap
    have ho : o < g.1.length := (mem_rkf hv).mp (List.mem_of_getElem? hr)
    have h4 := hm.2.2.2.1 i o hr
    have h5 := hm.2.1 o ho
    have hb := bit_pos hv o
    have key : ∀ S1, f12_listFrom_h3 N pv (zI k) (lN (pack u)) (zI u.length) (zI left) (zI B) (n + 1) (zI i) S = f12_listFrom_h3 N pv (zI k) (lN (pack u)) (zI u.length) (zI left) (zI B) n (zI ((i : Int) + ((1 : Nat) : Int))) S1 → LQ S1 (L ++ (block (bit g) (comp (bit g) (rkf g) d) left o).map (fun q => (pack (u ++ q), B))) → Same liP S S1 → ∃ S2, f12_listFrom_h3 N pv (zI k) (lN (pack u)) (zI u.length) (zI left) (zI B) (n + 1) (zI i) S = some ((), S2) ∧ LQ S2 (L ++ (block (bit g) (comp (bit g) (rkf g) d) left o ++ ((rkf g).drop (i + 1)).flatMap (block (bit g) (comp (bit g) (rkf g) d) left)).map (fun q => (pack (u ++ q), B))) ∧ Same liP S S2 := fun S1 e1 e2 e3 => by
      obtain ⟨S2, f1, f2, f3⟩ := ih (i + 1) n S1 _ (hm.li hv e3) e2 (by omega) (by omega) (by rw [List.length_append, List.length_map]; omega)
      refine ⟨S2, ?_, ?_, e3.tr f3⟩
      · rw [e1]; exact f1
      · rw [List.map_append, ← List.append_assoc]; exact f2
    have hz : ∀ l : List (List Nat), l = [] → L ++ l.map (fun q => (pack (u ++ q), B)) = L := fun l e => by rw [e]; simp
    by_cases h0 : o = 0
    · subst h0
      by_cases hlb : left = bit g 0
      · have hbl : block (bit g) (comp (bit g) (rkf g) d) left 0 = [[0]] := by unfold block; rw [if_pos rfl, if_pos hlb]
        have hL : L.length < 16385 := by rw [hbl] at hcap; simp at hcap; omega
        have hq1 := hq.1
        obtain ⟨p1, p2⟩ := LQ.push hq (pack u) B
        have hp0 : pack (u ++ [0]) = pack u := by rw [pack_app]; simp [pack]
        refine key _ ?_ (by rw [hbl]; simpa [hp0] using p1) p2
        rw [f12_listFrom_h3]
        simp (disch := omega) only [f12_ordersOf_in hm.1 hv hk, pl12, h4, h5, hq1, nI_z, zI_add, zI_sub, zI_mul, zI_m1, ckI_z, zI_clamp, Int.toNat_natCast, bnd_some, lt, rd_same, rd_ne, rdL_same, rdL_ne, wI_2, wL_1, if_true, if_false, iT_lt, iF_lt, iT_lt0, iF_lt0, iT_0lt, iF_0lt, iT_le, iF_le, iT_le0, iF_le0, iT_0le, iF_0le, iT_eq, iF_eq, iT_eq0, iF_eq0]
      · have hbl : block (bit g) (comp (bit g) (rkf g) d) left 0 = [] := by unfold block; rw [if_pos rfl, if_neg hlb]
        refine key S ?_ (by rw [hz _ hbl]; exact hq) Same.rfl'
        rw [f12_listFrom_h3]
        simp (disch := omega) only [f12_ordersOf_in hm.1 hv hk, pl12, h4, h5, nI_z, zI_add, zI_sub, zI_mul, zI_m1, ckI_z, zI_clamp, Int.toNat_natCast, bnd_some, lt, rd_same, rd_ne, rdL_same, rdL_ne, wI_2, wL_1, if_true, if_false, iT_lt, iF_lt, iT_lt0, iF_lt0, iT_0lt, iF_0lt, iT_le, iF_le, iT_le0, iF_le0, iT_0le, iF_0le, iT_eq, iF_eq, iT_eq0, iF_eq0]
    · have hbl : block (bit g) (comp (bit g) (rkf g) d) left o = (comp (bit g) (rkf g) d (left - bit g o)).map (fun q => o :: q) := by unfold block; rw [if_neg h0]
      by_cases hle : left ≤ bit g o
      · have hc0 : block (bit g) (comp (bit g) (rkf g) d) left o = [] := by rw [hbl, show left - bit g o = 0 by omega, comp_0 (fun o => (bit_pos hv o).1)]; rfl
        refine key S ?_ (by rw [hz _ hc0]; exact hq) Same.rfl'
        rw [f12_listFrom_h3]
        simp (disch := omega) only [f12_ordersOf_in hm.1 hv hk, pl12, h4, h5, nI_z, zI_add, zI_sub, zI_mul, zI_m1, ckI_z, zI_clamp, Int.toNat_natCast, bnd_some, lt, rd_same, rd_ne, rdL_same, rdL_ne, wI_2, wL_1, if_true, if_false, iT_lt, iF_lt, iT_lt0, iF_lt0, iT_0lt, iF_0lt, iT_le, iF_le, iT_le0, iF_le0, iT_0le, iF_0le, iT_eq, iF_eq, iT_eq0, iF_eq0]
      · by_cases hd : d = 0
        · have hc0 : block (bit g) (comp (bit g) (rkf g) d) left o = [] := by rw [hbl, hd]; rfl
          refine key S ?_ (by rw [hz _ hc0]; exact hq) Same.rfl'
          rw [f12_listFrom_h3]
          simp (disch := omega) only [f12_ordersOf_in hm.1 hv hk, pl12, h4, h5, nI_z, zI_add, zI_sub, zI_mul, zI_m1, ckI_z, zI_clamp, Int.toNat_natCast, bnd_some, lt, rd_same, rd_ne, rdL_same, rdL_ne, wI_2, wL_1, if_true, if_false, iT_lt, iF_lt, iT_lt0, iF_lt0, iT_0lt, iF_0lt, iT_le, iF_le, iT_le0, iF_le0, iT_0le, iF_0le, iT_eq, iF_eq, iT_eq0, iF_eq0]
        · obtain ⟨S1, g1, g2, g3⟩ := hpv o S L ho (by omega) (by omega) hm hq (by rw [hbl, List.length_map] at hcap; omega)
          have hps := pack_snoc (u := u) (o := o) (by omega) hux (by omega)
          refine key S1 ?_ (by rw [hbl, List.map_map]; simpa [Function.comp_def] using g2) g3
          rw [f12_listFrom_h3]
          simp (disch := omega) only [f12_ordersOf_in hm.1 hv hk, pl12, h4, h5, hps, g1, nI_z, zI_add, zI_sub, zI_mul, zI_m1, ckI_z, zI_clamp, Int.toNat_natCast, bnd_some, lt, rd_same, rd_ne, rdL_same, rdL_ne, wI_2, wL_1, if_true, if_false, iT_lt, iF_lt, iT_lt0, iF_lt0, iT_0lt, iF_0lt, iT_le, iF_le, iT_le0, iF_le0, iT_0le, iF_0le, iT_eq, iF_eq, iT_eq0, iF_eq0]
theorem f12_listFrom_ok {N k B : Nat} {g : Lg} (hv : LV g) (hk : k < 6) (hB : B ≤ 14) (hN : 20 ≤ N) : ∀ (d f : Nat), d < f → ∀ (u : List Nat) (left : Nat), u.length + d = 11 → left ≤ 14 → (∀ x ∈ u, x < 12) → ∀ (S : St) (L : List (Nat × Nat)), ML S k g → LQ S L → L.length + (comp (bit g) (rkf g) (d + 1) left).length ≤ 16384 →
    ∃ S2, f12_listFrom N f (zI k) (lN (pack u)) (zI u.length) (zI left) (zI B) S = some ((), S2) ∧ LQ S2 (L ++ (comp (bit g) (rkf g) (d + 1) left).map (fun q => (pack (u ++ q), B))) ∧ Same liP S S2 := by
  have hgl := hv.len
  intro d
  induction d with
  | zero =>
    intro f hf u left hu hl hux S L hm hq hcap
    obtain ⟨f, rfl⟩ : ∃ z, f = z + 1 := ⟨f - 1, by omega⟩
    have h := f12_list_rank (N := N) hv hk hB hu hl hux (f12_listFrom N f) (fun o S L _ _ h1 => absurd h1 (by omega)) g.1.length 0 N S L hm hq (by omega) (by omega) (by rw [List.drop_zero]; exact hcap)
    rw [List.drop_zero] at h
    exact h
  | succ d ih =>
    intro f hf u left hu hl hux S L hm hq hcap
    obtain ⟨f, rfl⟩ : ∃ z, f = z + 1 := ⟨f - 1, by omega⟩
    have h := f12_list_rank (N := N) hv hk hB hu hl hux (f12_listFrom N f) (fun o S L ho hlt _ hm hq hc => by
      have hh := ih f (by omega) (u ++ [o]) (left - bit g o) (by rw [List.length_append, List.length_singleton]; omega) (by omega) (fun x hx => by
        rcases List.mem_append.mp hx with e | e
        · exact hux x e
        · rw [List.mem_singleton.mp e]; omega) S L hm hq hc
      rw [List.length_append, List.length_singleton, show ((left - bit g o : Nat) : Int) = (left : Int) - (bit g o : Int) by omega] at hh
      exact hh) g.1.length 0 N S L hm hq (by omega) (by omega) (by rw [List.drop_zero]; exact hcap)
    rw [List.drop_zero] at h
    exact h
/-- the list as the reference holds it -/
def plist (g : Lg) (B : Nat) : List (Nat × Nat) := (progs (bit g) (rkf g) B).map (fun e => (pack e.2, e.1))
theorem plist_s (g : Lg) (B : Nat) : plist g (B + 1) = plist g B ++ (comp (bit g) (rkf g) 12 (B + 1)).map (fun q => (pack q, B + 1)) := by
  unfold plist
  show (progs (bit g) (rkf g) B ++ (comp (bit g) (rkf g) 12 (B + 1)).map (fun p => (B + 1, p))).map _ = _
  rw [List.map_append, List.map_map]
  rfl
theorem f12_all_loop {N k lim : Nat} {g : Lg} (hv : LV g) (hk : k < 6) (hN : 20 ≤ N) (hl : lim ≤ 14) : ∀ (m s n : Nat) (S : St), ML S k g → LQ S (plist g s) → s + m = lim → m < n → ∃ S2, f12_listAll_h7 N (zI k) (zI lim) n (zI ((s : Int) + ((1 : Nat) : Int))) S = some ((), S2) ∧ LQ S2 (plist g lim) ∧ Same liP S S2 := by
  intro m
  induction m with
  | zero =>
    intro s n S hm hq hs hn
    obtain ⟨n, rfl⟩ : ∃ z, n = z + 1 := ⟨n - 1, by omega⟩
    obtain rfl : s = lim := by omega
    refine ⟨S, ?_, hq, Same.rfl'⟩
    rw [f12_listAll_h7]
    simp (disch := omega) only [nI_z, zI_add, zI_sub, zI_mul, zI_m1, ckI_z, zI_clamp, Int.toNat_natCast, bnd_some, lt, rd_same, rd_ne, rdL_same, rdL_ne, wI_2, wL_1, if_true, if_false, iT_lt, iF_lt, iT_lt0, iF_lt0, iT_0lt, iF_0lt, iT_le, iF_le, iT_le0, iF_le0, iT_0le, iF_0le, iT_eq, iF_eq, iT_eq0, iF_eq0]
  | succ m ih =>
    intro s n S hm hq hs hn
    obtain ⟨n, rfl⟩ : ∃ z, n = z + 1 := ⟨n - 1, by omega⟩
    have hlen := progs_len (fun o => (bit_pos hv o).1) (fun o => (bit_pos hv o).2) (rkf_kraft hv) (s + 1)
    have h2 : 2 ^ (s + 1) ≤ 2 ^ 14 := Nat.pow_le_pow_right (by omega) (by omega)
    have hcap : (plist g s).length + (comp (bit g) (rkf g) (11 + 1) (s + 1)).length ≤ 16384 := by
      have e : (plist g (s + 1)).length = (progs (bit g) (rkf g) (s + 1)).length := by unfold plist; rw [List.length_map]
      rw [plist_s, List.length_append, List.length_map] at e
      show (plist g s).length + (comp (bit g) (rkf g) 12 (s + 1)).length ≤ 16384
      omega
    obtain ⟨S1, e1, e2, e3⟩ := f12_listFrom_ok (N := N) (B := s + 1) hv hk (by omega) hN 11 14 (by omega) [] (s + 1) (by simp) (by omega) (fun x h => (by cases h)) S _ hm hq hcap
    have e2' : LQ S1 (plist g (s + 1)) := by rw [plist_s]; exact e2
    obtain ⟨S2, f1, f2, f3⟩ := ih (s + 1) n S1 (hm.li hv e3) e2' (by omega) (by omega)
    refine ⟨S2, ?_, f2, e3.tr f3⟩
    have e1' : f12_listFrom N 14 (zI k) (lN 0) (zI ((0 : Nat) : Int)) (zI ((s : Int) + ((1 : Nat) : Int))) (zI ((s : Int) + ((1 : Nat) : Int))) S = some ((), S1) := e1
    rw [f12_listAll_h7]
    simp (disch := omega) only [e1', nI_z, zI_add, zI_sub, zI_mul, zI_m1, ckI_z, zI_clamp, Int.toNat_natCast, bnd_some, lt, rd_same, rd_ne, rdL_same, rdL_ne, wI_2, wL_1, if_true, if_false, iT_lt, iF_lt, iT_lt0, iF_lt0, iT_0lt, iF_0lt, iT_le, iF_le, iT_le0, iF_le0, iT_0le, iF_0le, iT_eq, iF_eq, iT_eq0, iF_eq0]
    exact f1
theorem f12_listAll_ok {N k lim : Nat} {g : Lg} {S : St} (hv : LV g) (hk : k < 6) (hN : 20 ≤ N) (hl : lim ≤ 14) (hm : ML S k g) : ∃ S2, f12_listAll N (zI k) (zI lim) S = some ((), S2) ∧ LQ S2 (plist g lim) ∧ Same liP S S2 := by
  have hs : Same liP S (wI S 146 28 (zI ((0 : Nat) : Int))) := Same.rfl'.wI (Or.inr (Or.inr ⟨rfl, rfl⟩))
  obtain ⟨S2, e1, e2, e3⟩ := f12_all_loop (N := N) hv hk hN hl lim 0 N _ (hm.li hv hs) ⟨rd_same, fun j e h => (by cases h)⟩ (by omega) (by omega)
  refine ⟨S2, ?_, e2, hs.tr e3⟩
  unfold f12_listAll
  simp (disch := omega) only [nI_z, zI_add, zI_sub, zI_mul, zI_m1, ckI_z, zI_clamp, Int.toNat_natCast, bnd_some, lt, rd_same, rd_ne, rdL_same, rdL_ne, wI_2, wL_1, if_true, if_false, iT_lt, iF_lt, iT_lt0, iF_lt0, iT_0lt, iF_0lt, iT_le, iF_le, iT_le0, iF_le0, iT_0le, iF_0le, iT_eq, iF_eq, iT_eq0, iF_eq0]
  exact e1
