/-! The constructors (by program, ctor.py): what each makes, and that the machine does just that. -/
def finH (M' : Hm) : Option V × Hm := (none, M')
theorem w_oi1 : Cond.instanceMethod objectInit ∈ TT := in1 23 (by rfl) rfl
theorem w_oi2 : Cond.code objectInit ⟨#[0xb1]⟩ 1 none ∈ TT := in1 24 (by rfl) rfl
theorem Fr.fiI {M : Hm} (h : Fr M) {a n : Nat} {x : Int32} (ha : a < M.1.length) : Fr (M.1, M.2.1, fiI M.2.2 a n x) := fun c hc j => by
  have hc : M.1.length ≤ c := hc
  refine ⟨(h c hc j).1, ?_, (h c hc j).2.2⟩
  show (if c = a ∧ j < n then x else M.2.2.1 c j) = 0
  rw [if_neg (fun q => by omega)]
  exact (h c hc j).2.1
section
variable {G : Gm} {Y : MD} {d mc ms : Nat} {T : Type} {fin : T → Option V × Hm} {k n pc : Nat} {L : List (Option V)} {st : List V} {M : Hm} {X : Option T}
theorem J_cN {y : MethodName} {Y2 : MD} {idx a d2 mc2 ms2 : Nat} (u2 : Hm) {st0 : List V} (hm : MC y Y2 0) (hi : Cond.instanceMethod y ∈ TT) (hnw : (Y.1, idx, y) ∈ nwl) (hname : y.name = "<init>") (hret : Y2.2.2.2.1 = none) (hM : Ct G Y2 y d2 mc2 ms2 finH (some u2) [vR (some a)] M) (hna : ([] : List V).length = 0) (hst : st0 = vR (some a) :: st) (hw : wid st ≤ 8) (hd2 : d2 + 1 ≤ d) (hY2 : Y2.2.2.1 ≤ 61) (hk : k + mc2 ≤ mc) (hn : n + ms2 ≤ ms) (hd : decode Y.2.1 pc = .ok (.invokespecial idx, 3)) (kk : J G Y d mc ms fin (k + mc2) (n + ms2) (pc + 3) L st u2 X) : J G Y d mc ms fin k n pc L st0 M X :=
  J_callN (F := some u2) (K := fun _ => X) [] hm hi hnw hname hret hM hna hst hw hd2 hY2 hk hn hd (fun u h => by cases h; exact kk)
theorem J_cI {y : MethodName} {Y2 : MD} {idx a d2 mc2 ms2 : Nat} (u2 : Hm) {st0 : List V} (hm : MC y Y2 0) (hi : Cond.instanceMethod y ∈ TT) (hl : Cond.methodLink Y.1 idx y ∈ TT) (hname : y.name = "<init>") (hret : Y2.2.2.2.1 = none) (hM : Ct G Y2 y d2 mc2 ms2 finH (some u2) [vR (some a)] M) (hna : ([] : List V).length = 0) (hst : st0 = vR (some a) :: st) (hw : wid st ≤ 8) (hd2 : d2 + 1 ≤ d) (hY2 : Y2.2.2.1 ≤ 61) (hk : k + mc2 ≤ mc) (hn : n + ms2 ≤ ms) (hd : decode Y.2.1 pc = .ok (.invokespecial idx, 3)) (kk : J G Y d mc ms fin (k + mc2) (n + ms2) (pc + 3) L st u2 X) : J G Y d mc ms fin k n pc L st0 M X :=
  J_callI (F := some u2) (K := fun _ => X) [] hm hi hl hname hret hM hna hst hw hd2 hY2 hk hn hd (fun u h => by cases h; exact kk)
theorem J_cS {y : MethodName} {Y2 : MD} {na idx d2 mc2 ms2 : Nat} (u2 : Hm) {As st0 : List V} (hm : MC y Y2 na) (hi : Cond.static y ∈ TT) (hl : Cond.methodLink Y.1 idx y ∈ TT) (hM : Ct G Y2 y d2 mc2 ms2 finH (some u2) As M) (hna : As.length = na) (hst : st0 = As.reverse ++ st) (hw : wid st ≤ 8) (hd2 : d2 + 1 ≤ d) (hY2 : Y2.2.2.1 ≤ 61) (hk : k + mc2 ≤ mc) (hn : n + ms2 ≤ ms) (hd : decode Y.2.1 pc = .ok (.invokestatic idx, 3)) (kk : J G Y d mc ms fin (k + mc2) (n + ms2) (pc + 3) L st u2 X) : J G Y d mc ms fin k n pc L st0 M X :=
  J_callS (F := some u2) (K := fun _ => X) As hm hi hl hM hna hst hw hd2 hY2 hk hn hd (fun u h => by cases h; exact kk)
theorem J_iast2 {a N j : Nat} {i x : Int32} (ha : M.1[a]? = some (13, N)) (h0 : ¬ i < 0) (hj : i.toNatClampNeg = j) (hN : j < N) (hd : decode Y.2.1 pc = .ok (.iastore, 1)) (kk : J G Y d mc ms fin k n (pc + 1) L st (M.1, M.2.1, wI M.2.2 a j x) X) : J G Y d mc ms fin k n pc L (vI x :: vI i :: vR (some a) :: st) M X := by
  subst hj
  have e : ckI i N X = X := if_neg (fun q => by rcases q with q | q; exact h0 q; omega)
  rw [← e]
  exact J_iast ha hd kk
end
theorem jF_fill (G : Gm) {M : Hm} {a N : Nat} (h : M.1[a]? = some (13, N)) (hN : N < 2147483648) (x : Int32) : ∀ (m i : Nat), i + m = N → J G YJ7_fill_53178 1 0 0 finH 0 0 5 [some (vR (some a)), some (vI x), some (vI (nI i)), some (vI (Int32.ofNat N))] [] (M.1, M.2.1, fiI M.2.2 a i x) (some (M.1, M.2.1, fiI M.2.2 a N x)) := by
  intro m
  induction m with
  | zero =>
    intro i hi
    refine J_iload_n dJ7_fill_53178_5 rfl rfl ?_
    refine J_iload_n dJ7_fill_53178_6 rfl rfl ?_
    refine J_step_ge (tgt := 20) (nI_le (Nat.le_of_eq hi.symm) (by omega)) dJ7_fill_53178_7 (by decide) ?_
    rw [show i = N from hi]
    exact J_return rfl (Nat.le_refl _) (Nat.le_refl _) rfl dJ7_fill_53178_20
  | succ m ih =>
    intro i hi
    refine J_iload_n dJ7_fill_53178_5 rfl rfl ?_
    refine J_iload_n dJ7_fill_53178_6 rfl rfl ?_
    refine J_step_lt (nI_ge (a := i) (b := N) (by omega) (by omega)) (tgt := 20) dJ7_fill_53178_7 (by decide) ?_
    refine J_aload_n dJ7_fill_53178_10 rfl rfl ?_
    refine J_iload_n dJ7_fill_53178_11 rfl rfl ?_
    refine J_iload_n dJ7_fill_53178_12 rfl rfl ?_
    have e : ckI (nI i) N (some (M.1, M.2.1, fiI M.2.2 a N x)) = some (M.1, M.2.1, fiI M.2.2 a N x) := if_neg (nI_in (by omega) (by omega))
    rw [← e]
    refine J_iast h dJ7_fill_53178_13 ?_
    rw [nI_clamp (by omega), fiI_s]
    refine J_iinc (v := nI (i + 1)) [some (vR (some a)), some (vI x), some (vI (nI (i + 1))), some (vI (Int32.ofNat N))] dJ7_fill_53178_14 rfl (nI_1 i) (Nat.le_of_ble_eq_true rfl) rfl rfl ?_
    refine J_goto (tgt := 5) dJ7_fill_53178_17 (by decide) ?_
    exact ih (i + 1) (by omega)
theorem ctF_fill (G : Gm) {M : Hm} {a N : Nat} (h : M.1[a]? = some (13, N)) (hN : N < 2147483648) {x : Int32} : Ct G YJ7_fill_53178 yJ7_fill_53178 1 0 0 finH (some (M.1, M.2.1, fiI M.2.2 a N x)) [vR (some a), vI x] M := by
  refine Ct_of_J [some (vR (some a)), some (vI x), none, none] (by decide) rfl (fun h => by cases h) (Nat.le_of_ble_eq_true rfl) (And.intro rfl (And.intro rfl trivial)) ?_
  refine J_iconst (v := 0) dJ7_fill_53178_0 (by decide) ?_
  refine J_istore_n [some (vR (some a)), some (vI x), some (vI 0), none] dJ7_fill_53178_1 rfl (Nat.le_of_ble_eq_true rfl) rfl rfl ?_
  refine J_aload_n dJ7_fill_53178_2 rfl rfl ?_
  refine J_alen (kd := 13) h (by decide) rfl dJ7_fill_53178_3 ?_
  refine J_istore_n [some (vR (some a)), some (vI x), some (vI 0), some (vI (Int32.ofNat N))] dJ7_fill_53178_4 rfl (Nat.le_of_ble_eq_true rfl) rfl rfl ?_
  have k := jF_fill G h hN x N 0 (by omega)
  rw [fiI_0] at k
  exact k
abbrev YX6_init : MD := (RX6, cX6_init, 1, none, true)
set_option maxRecDepth 100000 in
theorem mcX6_init : MC yX6_init YX6_init 0 := ⟨rfl, ⟨by decide, by decide, by decide +kernel⟩, in1 2 (by rfl) rfl, in1 31 (by rfl) rfl⟩
set_option maxRecDepth 100000 in
theorem miX6_init : Cond.instanceMethod yX6_init ∈ TT := in1 30 (by rfl) rfl
theorem dX6_init_0 : decode cX6_init 0 = .ok (.aload_n 0, 1) := by decide +kernel
theorem dX6_init_1 : decode cX6_init 1 = .ok (.invokespecial 3, 3) := by decide +kernel
theorem dX6_init_4 : decode cX6_init 4 = .ok (.aload_n 0, 1) := by decide +kernel
theorem dX6_init_5 : decode cX6_init 5 = .ok (.bipush 12, 2) := by decide +kernel
theorem dX6_init_7 : decode cX6_init 7 = .ok (.newarray .int, 2) := by decide +kernel
theorem dX6_init_9 : decode cX6_init 9 = .ok (.putfield 9, 3) := by decide +kernel
theorem dX6_init_12 : decode cX6_init 12 = .ok (.aload_n 0, 1) := by decide +kernel
theorem dX6_init_13 : decode cX6_init 13 = .ok (.iconst 0, 1) := by decide +kernel
theorem dX6_init_14 : decode cX6_init 14 = .ok (.putfield 15, 3) := by decide +kernel
theorem dX6_init_17 : decode cX6_init 17 = .ok (.return_, 1) := by decide +kernel
set_option maxRecDepth 100000 in
theorem klX6_9 : FL RX6 9 6 0 true := ⟨_, rfl, by decide, in1 33 (by rfl) rfl, rfl, rfl⟩
set_option maxRecDepth 100000 in
theorem klX6_15 : FL RX6 15 6 1 false := ⟨_, rfl, by decide, in1 34 (by rfl) rfl, rfl, rfl⟩
abbrev cXr6 (a : Nat) (M : Hm) : Hm := (M.1 ++ [(13, 12)], upR (M.2.1) (a) 0 (some (a + 1)), wI (M.2.2) (a) 1 (0))
theorem ctX6_init (G : Gm) {a : Nat} {M : Hm} (hF : Fr M) (hl : M.1.length = a + 1) (h0 : M.1[a]? = some (6, nF 6)) : Ct G YX6_init yX6_init 1 1 12 finH (some (cXr6 a M)) [vR (some a)] M := by
  refine Ct_of_J [some (vR (some a))] (by decide) rfl (fun _ => rfl) (Nat.le_of_ble_eq_true rfl) (And.intro rfl trivial) ?_
  refine J_aload_n dX6_init_0 rfl rfl ?_
  refine J_objInit (in1 32 (by rfl) rfl) w_oi1 w_oi2 (Nat.le_of_ble_eq_true rfl) (Nat.le_of_ble_eq_true rfl) dX6_init_1 ?_
  refine J_aload_n dX6_init_4 rfl rfl ?_
  refine J_bipush (v := 12) dX6_init_5 (by decide) ?_
  refine J_newI (a := a + 1) (N := 12) (by decide) (by decide) (by decide) hF hl (Nat.le_of_ble_eq_true rfl) (Nat.le_of_ble_eq_true rfl) dX6_init_7 ?_
  intro hF
  have hl1 : (M.1 ++ [(13, 12)]).length = a + 2 := ap_len hl rfl
  have hg2 : (M.1 ++ [(13, 12)])[a]? = some (6, nF 6) := ap_old h0
  have hF : Fr (M.1 ++ [(13, 12)], M.2.1, M.2.2) := hF
  show J _ _ _ _ _ _ _ _ _ _ _ (M.1 ++ [(13, 12)], M.2.1, M.2.2) _
  refine J_putRF rfl cf6 klX6_9 hF hg2 (Or.inr ⟨_, rfl⟩) dX6_init_9 ?_
  intro hF
  have hF : Fr (M.1 ++ [(13, 12)], upR (M.2.1) (a) 0 (some (a + 1)), M.2.2) := hF
  show J _ _ _ _ _ _ _ _ _ _ _ (M.1 ++ [(13, 12)], upR (M.2.1) (a) 0 (some (a + 1)), M.2.2) _
  refine J_aload_n dX6_init_12 rfl rfl ?_
  refine J_iconst (v := 0) dX6_init_13 (by decide) ?_
  refine J_putI cf6 klX6_15 hg2 rfl dX6_init_14 ?_
  have hF := hF.wI (a := a) (k := 1) (x := 0) (List.getElem?_eq_some_iff.mp hg2).1
  have hF : Fr (M.1 ++ [(13, 12)], upR (M.2.1) (a) 0 (some (a + 1)), wI (M.2.2) (a) 1 (0)) := hF
  show J _ _ _ _ _ _ _ _ _ _ _ (M.1 ++ [(13, 12)], upR (M.2.1) (a) 0 (some (a + 1)), wI (M.2.2) (a) 1 (0)) _
  exact J_return rfl (Nat.le_of_ble_eq_true rfl) (Nat.le_of_ble_eq_true rfl) rfl dX6_init_17
theorem frX6 {a : Nat} {M : Hm} (hF : Fr M) (hl : M.1.length = a + 1) : Fr (cXr6 a M) := by
  have hs : (cXr6 a M).1.length = a + 2 := by show (M.1 ++ [(13, 12)]).length = _; simp [hl]
  intro q hq j
  rw [hs] at hq
  have h := hF q (by omega) j
  refine ⟨?_, ?_, h.2.2⟩
  · show (upR (M.2.1) (a) 0 (some (a + 1))) q j = none
    simp only [upR, rfM]
    repeat rw [if_neg (by omega)]
    exact h.1
  · show (wI (M.2.2) (a) 1 (0)).1 q j = 0
    simp only [wI, fiI]
    repeat rw [if_neg (by omega)]
    exact h.2.1
abbrev YX10_init : MD := (RX10, cX10_init, 1, none, true)
set_option maxRecDepth 100000 in
theorem mcX10_init : MC yX10_init YX10_init 0 := ⟨rfl, ⟨by decide, by decide, by decide +kernel⟩, in1 6 (by rfl) rfl, in1 142 (by rfl) rfl⟩
set_option maxRecDepth 100000 in
theorem miX10_init : Cond.instanceMethod yX10_init ∈ TT := in1 141 (by rfl) rfl
theorem dX10_init_0 : decode cX10_init 0 = .ok (.aload_n 0, 1) := by decide +kernel
theorem dX10_init_1 : decode cX10_init 1 = .ok (.invokespecial 1, 3) := by decide +kernel
theorem dX10_init_4 : decode cX10_init 4 = .ok (.aload_n 0, 1) := by decide +kernel
theorem dX10_init_5 : decode cX10_init 5 = .ok (.bipush 8, 2) := by decide +kernel
theorem dX10_init_7 : decode cX10_init 7 = .ok (.newarray .int, 2) := by decide +kernel
theorem dX10_init_9 : decode cX10_init 9 = .ok (.putfield 9, 3) := by decide +kernel
theorem dX10_init_12 : decode cX10_init 12 = .ok (.aload_n 0, 1) := by decide +kernel
theorem dX10_init_13 : decode cX10_init 13 = .ok (.iconst 0, 1) := by decide +kernel
theorem dX10_init_14 : decode cX10_init 14 = .ok (.putfield 15, 3) := by decide +kernel
theorem dX10_init_17 : decode cX10_init 17 = .ok (.return_, 1) := by decide +kernel
set_option maxRecDepth 100000 in
theorem klX10_9 : FL RX10 9 10 0 true := ⟨_, rfl, by decide, in1 144 (by rfl) rfl, rfl, rfl⟩
set_option maxRecDepth 100000 in
theorem klX10_15 : FL RX10 15 10 1 false := ⟨_, rfl, by decide, in1 145 (by rfl) rfl, rfl, rfl⟩
abbrev cXr10 (a : Nat) (M : Hm) : Hm := (M.1 ++ [(13, 8)], upR (M.2.1) (a) 0 (some (a + 1)), wI (M.2.2) (a) 1 (0))
theorem ctX10_init (G : Gm) {a : Nat} {M : Hm} (hF : Fr M) (hl : M.1.length = a + 1) (h0 : M.1[a]? = some (10, nF 10)) : Ct G YX10_init yX10_init 1 1 8 finH (some (cXr10 a M)) [vR (some a)] M := by
  refine Ct_of_J [some (vR (some a))] (by decide) rfl (fun _ => rfl) (Nat.le_of_ble_eq_true rfl) (And.intro rfl trivial) ?_
  refine J_aload_n dX10_init_0 rfl rfl ?_
  refine J_objInit (in1 143 (by rfl) rfl) w_oi1 w_oi2 (Nat.le_of_ble_eq_true rfl) (Nat.le_of_ble_eq_true rfl) dX10_init_1 ?_
  refine J_aload_n dX10_init_4 rfl rfl ?_
  refine J_bipush (v := 8) dX10_init_5 (by decide) ?_
  refine J_newI (a := a + 1) (N := 8) (by decide) (by decide) (by decide) hF hl (Nat.le_of_ble_eq_true rfl) (Nat.le_of_ble_eq_true rfl) dX10_init_7 ?_
  intro hF
  have hl1 : (M.1 ++ [(13, 8)]).length = a + 2 := ap_len hl rfl
  have hg2 : (M.1 ++ [(13, 8)])[a]? = some (10, nF 10) := ap_old h0
  have hF : Fr (M.1 ++ [(13, 8)], M.2.1, M.2.2) := hF
  show J _ _ _ _ _ _ _ _ _ _ _ (M.1 ++ [(13, 8)], M.2.1, M.2.2) _
  refine J_putRF rfl cf10 klX10_9 hF hg2 (Or.inr ⟨_, rfl⟩) dX10_init_9 ?_
  intro hF
  have hF : Fr (M.1 ++ [(13, 8)], upR (M.2.1) (a) 0 (some (a + 1)), M.2.2) := hF
  show J _ _ _ _ _ _ _ _ _ _ _ (M.1 ++ [(13, 8)], upR (M.2.1) (a) 0 (some (a + 1)), M.2.2) _
  refine J_aload_n dX10_init_12 rfl rfl ?_
  refine J_iconst (v := 0) dX10_init_13 (by decide) ?_
  refine J_putI cf10 klX10_15 hg2 rfl dX10_init_14 ?_
  have hF := hF.wI (a := a) (k := 1) (x := 0) (List.getElem?_eq_some_iff.mp hg2).1
  have hF : Fr (M.1 ++ [(13, 8)], upR (M.2.1) (a) 0 (some (a + 1)), wI (M.2.2) (a) 1 (0)) := hF
  show J _ _ _ _ _ _ _ _ _ _ _ (M.1 ++ [(13, 8)], upR (M.2.1) (a) 0 (some (a + 1)), wI (M.2.2) (a) 1 (0)) _
  exact J_return rfl (Nat.le_of_ble_eq_true rfl) (Nat.le_of_ble_eq_true rfl) rfl dX10_init_17
theorem frX10 {a : Nat} {M : Hm} (hF : Fr M) (hl : M.1.length = a + 1) : Fr (cXr10 a M) := by
  have hs : (cXr10 a M).1.length = a + 2 := by show (M.1 ++ [(13, 8)]).length = _; simp [hl]
  intro q hq j
  rw [hs] at hq
  have h := hF q (by omega) j
  refine ⟨?_, ?_, h.2.2⟩
  · show (upR (M.2.1) (a) 0 (some (a + 1))) q j = none
    simp only [upR, rfM]
    repeat rw [if_neg (by omega)]
    exact h.1
  · show (wI (M.2.2) (a) 1 (0)).1 q j = 0
    simp only [wI, fiI]
    repeat rw [if_neg (by omega)]
    exact h.2.1
abbrev YX9_init : MD := (RX9, cX9_init, 1, none, true)
set_option maxRecDepth 100000 in
theorem mcX9_init : MC yX9_init YX9_init 0 := ⟨rfl, ⟨by decide, by decide, by decide +kernel⟩, in1 4 (by rfl) rfl, in1 85 (by rfl) rfl⟩
set_option maxRecDepth 100000 in
theorem miX9_init : Cond.instanceMethod yX9_init ∈ TT := in1 84 (by rfl) rfl
theorem dX9_init_0 : decode cX9_init 0 = .ok (.aload_n 0, 1) := by decide +kernel
theorem dX9_init_1 : decode cX9_init 1 = .ok (.invokespecial 1, 3) := by decide +kernel
theorem dX9_init_4 : decode cX9_init 4 = .ok (.aload_n 0, 1) := by decide +kernel
theorem dX9_init_5 : decode cX9_init 5 = .ok (.bipush 60, 2) := by decide +kernel
theorem dX9_init_7 : decode cX9_init 7 = .ok (.newarray .int, 2) := by decide +kernel
theorem dX9_init_9 : decode cX9_init 9 = .ok (.putfield 9, 3) := by decide +kernel
theorem dX9_init_12 : decode cX9_init 12 = .ok (.aload_n 0, 1) := by decide +kernel
theorem dX9_init_13 : decode cX9_init 13 = .ok (.iconst 0, 1) := by decide +kernel
theorem dX9_init_14 : decode cX9_init 14 = .ok (.putfield 13, 3) := by decide +kernel
theorem dX9_init_17 : decode cX9_init 17 = .ok (.aload_n 0, 1) := by decide +kernel
theorem dX9_init_18 : decode cX9_init 18 = .ok (.iconst 0, 1) := by decide +kernel
theorem dX9_init_19 : decode cX9_init 19 = .ok (.putfield 17, 3) := by decide +kernel
theorem dX9_init_22 : decode cX9_init 22 = .ok (.aload_n 0, 1) := by decide +kernel
theorem dX9_init_23 : decode cX9_init 23 = .ok (.iconst (-1), 1) := by decide +kernel
theorem dX9_init_24 : decode cX9_init 24 = .ok (.putfield 20, 3) := by decide +kernel
theorem dX9_init_27 : decode cX9_init 27 = .ok (.return_, 1) := by decide +kernel
set_option maxRecDepth 100000 in
theorem klX9_9 : FL RX9 9 9 0 true := ⟨_, rfl, by decide, in1 87 (by rfl) rfl, rfl, rfl⟩
set_option maxRecDepth 100000 in
theorem klX9_13 : FL RX9 13 9 1 false := ⟨_, rfl, by decide, in1 88 (by rfl) rfl, rfl, rfl⟩
set_option maxRecDepth 100000 in
theorem klX9_17 : FL RX9 17 9 2 false := ⟨_, rfl, by decide, in1 89 (by rfl) rfl, rfl, rfl⟩
set_option maxRecDepth 100000 in
theorem klX9_20 : FL RX9 20 9 3 false := ⟨_, rfl, by decide, in1 90 (by rfl) rfl, rfl, rfl⟩
abbrev cXr9 (a : Nat) (M : Hm) : Hm := (M.1 ++ [(13, 60)], upR (M.2.1) (a) 0 (some (a + 1)), wI (wI (wI (M.2.2) (a) 1 (0)) (a) 2 (0)) (a) 3 (-1))
theorem ctX9_init (G : Gm) {a : Nat} {M : Hm} (hF : Fr M) (hl : M.1.length = a + 1) (h0 : M.1[a]? = some (9, nF 9)) : Ct G YX9_init yX9_init 1 1 60 finH (some (cXr9 a M)) [vR (some a)] M := by
  refine Ct_of_J [some (vR (some a))] (by decide) rfl (fun _ => rfl) (Nat.le_of_ble_eq_true rfl) (And.intro rfl trivial) ?_
  refine J_aload_n dX9_init_0 rfl rfl ?_
  refine J_objInit (in1 86 (by rfl) rfl) w_oi1 w_oi2 (Nat.le_of_ble_eq_true rfl) (Nat.le_of_ble_eq_true rfl) dX9_init_1 ?_
  refine J_aload_n dX9_init_4 rfl rfl ?_
  refine J_bipush (v := 60) dX9_init_5 (by decide) ?_
  refine J_newI (a := a + 1) (N := 60) (by decide) (by decide) (by decide) hF hl (Nat.le_of_ble_eq_true rfl) (Nat.le_of_ble_eq_true rfl) dX9_init_7 ?_
  intro hF
  have hl1 : (M.1 ++ [(13, 60)]).length = a + 2 := ap_len hl rfl
  have hg2 : (M.1 ++ [(13, 60)])[a]? = some (9, nF 9) := ap_old h0
  have hF : Fr (M.1 ++ [(13, 60)], M.2.1, M.2.2) := hF
  show J _ _ _ _ _ _ _ _ _ _ _ (M.1 ++ [(13, 60)], M.2.1, M.2.2) _
  refine J_putRF rfl cf9 klX9_9 hF hg2 (Or.inr ⟨_, rfl⟩) dX9_init_9 ?_
  intro hF
  have hF : Fr (M.1 ++ [(13, 60)], upR (M.2.1) (a) 0 (some (a + 1)), M.2.2) := hF
  show J _ _ _ _ _ _ _ _ _ _ _ (M.1 ++ [(13, 60)], upR (M.2.1) (a) 0 (some (a + 1)), M.2.2) _
  refine J_aload_n dX9_init_12 rfl rfl ?_
  refine J_iconst (v := 0) dX9_init_13 (by decide) ?_
  refine J_putI cf9 klX9_13 hg2 rfl dX9_init_14 ?_
  have hF := hF.wI (a := a) (k := 1) (x := 0) (List.getElem?_eq_some_iff.mp hg2).1
  have hF : Fr (M.1 ++ [(13, 60)], upR (M.2.1) (a) 0 (some (a + 1)), wI (M.2.2) (a) 1 (0)) := hF
  show J _ _ _ _ _ _ _ _ _ _ _ (M.1 ++ [(13, 60)], upR (M.2.1) (a) 0 (some (a + 1)), wI (M.2.2) (a) 1 (0)) _
  refine J_aload_n dX9_init_17 rfl rfl ?_
  refine J_iconst (v := 0) dX9_init_18 (by decide) ?_
  refine J_putI cf9 klX9_17 hg2 rfl dX9_init_19 ?_
  have hF := hF.wI (a := a) (k := 2) (x := 0) (List.getElem?_eq_some_iff.mp hg2).1
  have hF : Fr (M.1 ++ [(13, 60)], upR (M.2.1) (a) 0 (some (a + 1)), wI (wI (M.2.2) (a) 1 (0)) (a) 2 (0)) := hF
  show J _ _ _ _ _ _ _ _ _ _ _ (M.1 ++ [(13, 60)], upR (M.2.1) (a) 0 (some (a + 1)), wI (wI (M.2.2) (a) 1 (0)) (a) 2 (0)) _
  refine J_aload_n dX9_init_22 rfl rfl ?_
  refine J_iconst (v := -1) dX9_init_23 (by decide) ?_
  refine J_putI cf9 klX9_20 hg2 rfl dX9_init_24 ?_
  have hF := hF.wI (a := a) (k := 3) (x := -1) (List.getElem?_eq_some_iff.mp hg2).1
  have hF : Fr (M.1 ++ [(13, 60)], upR (M.2.1) (a) 0 (some (a + 1)), wI (wI (wI (M.2.2) (a) 1 (0)) (a) 2 (0)) (a) 3 (-1)) := hF
  show J _ _ _ _ _ _ _ _ _ _ _ (M.1 ++ [(13, 60)], upR (M.2.1) (a) 0 (some (a + 1)), wI (wI (wI (M.2.2) (a) 1 (0)) (a) 2 (0)) (a) 3 (-1)) _
  exact J_return rfl (Nat.le_of_ble_eq_true rfl) (Nat.le_of_ble_eq_true rfl) rfl dX9_init_27
theorem frX9 {a : Nat} {M : Hm} (hF : Fr M) (hl : M.1.length = a + 1) : Fr (cXr9 a M) := by
  have hs : (cXr9 a M).1.length = a + 2 := by show (M.1 ++ [(13, 60)]).length = _; simp [hl]
  intro q hq j
  rw [hs] at hq
  have h := hF q (by omega) j
  refine ⟨?_, ?_, h.2.2⟩
  · show (upR (M.2.1) (a) 0 (some (a + 1))) q j = none
    simp only [upR, rfM]
    repeat rw [if_neg (by omega)]
    exact h.1
  · show (wI (wI (wI (M.2.2) (a) 1 (0)) (a) 2 (0)) (a) 3 (-1)).1 q j = 0
    simp only [wI, fiI]
    repeat rw [if_neg (by omega)]
    exact h.2.1
abbrev YX4_init : MD := (RX4, cX4_init, 1, none, true)
set_option maxRecDepth 100000 in
theorem mcX4_init : MC yX4_init YX4_init 0 := ⟨rfl, ⟨by decide, by decide, by decide +kernel⟩, in1 3 (by rfl) rfl, in1 45 (by rfl) rfl⟩
set_option maxRecDepth 100000 in
theorem miX4_init : Cond.instanceMethod yX4_init ∈ TT := in1 44 (by rfl) rfl
theorem dX4_init_0 : decode cX4_init 0 = .ok (.aload_n 0, 1) := by decide +kernel
theorem dX4_init_1 : decode cX4_init 1 = .ok (.invokespecial 3, 3) := by decide +kernel
theorem dX4_init_4 : decode cX4_init 4 = .ok (.aload_n 0, 1) := by decide +kernel
theorem dX4_init_5 : decode cX4_init 5 = .ok (.bipush 48, 2) := by decide +kernel
theorem dX4_init_7 : decode cX4_init 7 = .ok (.newarray .int, 2) := by decide +kernel
theorem dX4_init_9 : decode cX4_init 9 = .ok (.putfield 11, 3) := by decide +kernel
theorem dX4_init_12 : decode cX4_init 12 = .ok (.aload_n 0, 1) := by decide +kernel
theorem dX4_init_13 : decode cX4_init 13 = .ok (.iconst 0, 1) := by decide +kernel
theorem dX4_init_14 : decode cX4_init 14 = .ok (.putfield 17, 3) := by decide +kernel
theorem dX4_init_17 : decode cX4_init 17 = .ok (.aload_n 0, 1) := by decide +kernel
theorem dX4_init_18 : decode cX4_init 18 = .ok (.iconst 0, 1) := by decide +kernel
theorem dX4_init_19 : decode cX4_init 19 = .ok (.putfield 21, 3) := by decide +kernel
theorem dX4_init_22 : decode cX4_init 22 = .ok (.aload_n 0, 1) := by decide +kernel
theorem dX4_init_23 : decode cX4_init 23 = .ok (.iconst 0, 1) := by decide +kernel
theorem dX4_init_24 : decode cX4_init 24 = .ok (.putfield 24, 3) := by decide +kernel
theorem dX4_init_27 : decode cX4_init 27 = .ok (.aload_n 0, 1) := by decide +kernel
theorem dX4_init_28 : decode cX4_init 28 = .ok (.iconst 0, 1) := by decide +kernel
theorem dX4_init_29 : decode cX4_init 29 = .ok (.putfield 27, 3) := by decide +kernel
theorem dX4_init_32 : decode cX4_init 32 = .ok (.aload_n 0, 1) := by decide +kernel
theorem dX4_init_33 : decode cX4_init 33 = .ok (.iconst 0, 1) := by decide +kernel
theorem dX4_init_34 : decode cX4_init 34 = .ok (.putfield 30, 3) := by decide +kernel
theorem dX4_init_37 : decode cX4_init 37 = .ok (.aload_n 0, 1) := by decide +kernel
theorem dX4_init_38 : decode cX4_init 38 = .ok (.iconst 2, 1) := by decide +kernel
theorem dX4_init_39 : decode cX4_init 39 = .ok (.putfield 33, 3) := by decide +kernel
theorem dX4_init_42 : decode cX4_init 42 = .ok (.aload_n 0, 1) := by decide +kernel
theorem dX4_init_43 : decode cX4_init 43 = .ok (.bipush 8, 2) := by decide +kernel
theorem dX4_init_45 : decode cX4_init 45 = .ok (.newarray .int, 2) := by decide +kernel
theorem dX4_init_47 : decode cX4_init 47 = .ok (.putfield 36, 3) := by decide +kernel
theorem dX4_init_50 : decode cX4_init 50 = .ok (.aload_n 0, 1) := by decide +kernel
theorem dX4_init_51 : decode cX4_init 51 = .ok (.iconst 0, 1) := by decide +kernel
theorem dX4_init_52 : decode cX4_init 52 = .ok (.putfield 39, 3) := by decide +kernel
theorem dX4_init_55 : decode cX4_init 55 = .ok (.aload_n 0, 1) := by decide +kernel
theorem dX4_init_56 : decode cX4_init 56 = .ok (.sipush 20000, 3) := by decide +kernel
theorem dX4_init_59 : decode cX4_init 59 = .ok (.newarray .int, 2) := by decide +kernel
theorem dX4_init_61 : decode cX4_init 61 = .ok (.putfield 42, 3) := by decide +kernel
theorem dX4_init_64 : decode cX4_init 64 = .ok (.aload_n 0, 1) := by decide +kernel
theorem dX4_init_65 : decode cX4_init 65 = .ok (.iconst 0, 1) := by decide +kernel
theorem dX4_init_66 : decode cX4_init 66 = .ok (.putfield 45, 3) := by decide +kernel
theorem dX4_init_69 : decode cX4_init 69 = .ok (.return_, 1) := by decide +kernel
set_option maxRecDepth 100000 in
theorem klX4_11 : FL RX4 11 4 0 true := ⟨_, rfl, by decide, in1 47 (by rfl) rfl, rfl, rfl⟩
set_option maxRecDepth 100000 in
theorem klX4_17 : FL RX4 17 4 1 false := ⟨_, rfl, by decide, in1 48 (by rfl) rfl, rfl, rfl⟩
set_option maxRecDepth 100000 in
theorem klX4_21 : FL RX4 21 4 2 false := ⟨_, rfl, by decide, in1 49 (by rfl) rfl, rfl, rfl⟩
set_option maxRecDepth 100000 in
theorem klX4_24 : FL RX4 24 4 3 false := ⟨_, rfl, by decide, in1 50 (by rfl) rfl, rfl, rfl⟩
set_option maxRecDepth 100000 in
theorem klX4_27 : FL RX4 27 4 4 false := ⟨_, rfl, by decide, in1 51 (by rfl) rfl, rfl, rfl⟩
set_option maxRecDepth 100000 in
theorem klX4_30 : FL RX4 30 4 5 false := ⟨_, rfl, by decide, in1 52 (by rfl) rfl, rfl, rfl⟩
set_option maxRecDepth 100000 in
theorem klX4_33 : FL RX4 33 4 6 false := ⟨_, rfl, by decide, in1 53 (by rfl) rfl, rfl, rfl⟩
set_option maxRecDepth 100000 in
theorem klX4_36 : FL RX4 36 4 7 true := ⟨_, rfl, by decide, in1 54 (by rfl) rfl, rfl, rfl⟩
set_option maxRecDepth 100000 in
theorem klX4_39 : FL RX4 39 4 8 false := ⟨_, rfl, by decide, in1 55 (by rfl) rfl, rfl, rfl⟩
set_option maxRecDepth 100000 in
theorem klX4_42 : FL RX4 42 4 9 true := ⟨_, rfl, by decide, in1 56 (by rfl) rfl, rfl, rfl⟩
set_option maxRecDepth 100000 in
theorem klX4_45 : FL RX4 45 4 10 false := ⟨_, rfl, by decide, in1 57 (by rfl) rfl, rfl, rfl⟩
abbrev cXr4 (a : Nat) (M : Hm) : Hm := (M.1 ++ [(13, 48)] ++ [(13, 8)] ++ [(13, 20000)], upR (upR (upR (M.2.1) (a) 0 (some (a + 1))) (a) 7 (some (a + 2))) (a) 9 (some (a + 3)), wI (wI (wI (wI (wI (wI (wI (wI (M.2.2) (a) 1 (0)) (a) 2 (0)) (a) 3 (0)) (a) 4 (0)) (a) 5 (0)) (a) 6 (2)) (a) 8 (0)) (a) 10 (0))
theorem ctX4_init (G : Gm) {a : Nat} {M : Hm} (hF : Fr M) (hl : M.1.length = a + 1) (h0 : M.1[a]? = some (4, nF 4)) : Ct G YX4_init yX4_init 1 3 20056 finH (some (cXr4 a M)) [vR (some a)] M := by
  refine Ct_of_J [some (vR (some a))] (by decide) rfl (fun _ => rfl) (Nat.le_of_ble_eq_true rfl) (And.intro rfl trivial) ?_
  refine J_aload_n dX4_init_0 rfl rfl ?_
  refine J_objInit (in1 46 (by rfl) rfl) w_oi1 w_oi2 (Nat.le_of_ble_eq_true rfl) (Nat.le_of_ble_eq_true rfl) dX4_init_1 ?_
  refine J_aload_n dX4_init_4 rfl rfl ?_
  refine J_bipush (v := 48) dX4_init_5 (by decide) ?_
  refine J_newI (a := a + 1) (N := 48) (by decide) (by decide) (by decide) hF hl (Nat.le_of_ble_eq_true rfl) (Nat.le_of_ble_eq_true rfl) dX4_init_7 ?_
  intro hF
  have hl1 : (M.1 ++ [(13, 48)]).length = a + 2 := ap_len hl rfl
  have hg2 : (M.1 ++ [(13, 48)])[a]? = some (4, nF 4) := ap_old h0
  have hF : Fr (M.1 ++ [(13, 48)], M.2.1, M.2.2) := hF
  show J _ _ _ _ _ _ _ _ _ _ _ (M.1 ++ [(13, 48)], M.2.1, M.2.2) _
  refine J_putRF rfl cf4 klX4_11 hF hg2 (Or.inr ⟨_, rfl⟩) dX4_init_9 ?_
  intro hF
  have hF : Fr (M.1 ++ [(13, 48)], upR (M.2.1) (a) 0 (some (a + 1)), M.2.2) := hF
  show J _ _ _ _ _ _ _ _ _ _ _ (M.1 ++ [(13, 48)], upR (M.2.1) (a) 0 (some (a + 1)), M.2.2) _
  refine J_aload_n dX4_init_12 rfl rfl ?_
  refine J_iconst (v := 0) dX4_init_13 (by decide) ?_
  refine J_putI cf4 klX4_17 hg2 rfl dX4_init_14 ?_
  have hF := hF.wI (a := a) (k := 1) (x := 0) (List.getElem?_eq_some_iff.mp hg2).1
  have hF : Fr (M.1 ++ [(13, 48)], upR (M.2.1) (a) 0 (some (a + 1)), wI (M.2.2) (a) 1 (0)) := hF
  show J _ _ _ _ _ _ _ _ _ _ _ (M.1 ++ [(13, 48)], upR (M.2.1) (a) 0 (some (a + 1)), wI (M.2.2) (a) 1 (0)) _
  refine J_aload_n dX4_init_17 rfl rfl ?_
  refine J_iconst (v := 0) dX4_init_18 (by decide) ?_
  refine J_putI cf4 klX4_21 hg2 rfl dX4_init_19 ?_
  have hF := hF.wI (a := a) (k := 2) (x := 0) (List.getElem?_eq_some_iff.mp hg2).1
  have hF : Fr (M.1 ++ [(13, 48)], upR (M.2.1) (a) 0 (some (a + 1)), wI (wI (M.2.2) (a) 1 (0)) (a) 2 (0)) := hF
  show J _ _ _ _ _ _ _ _ _ _ _ (M.1 ++ [(13, 48)], upR (M.2.1) (a) 0 (some (a + 1)), wI (wI (M.2.2) (a) 1 (0)) (a) 2 (0)) _
  refine J_aload_n dX4_init_22 rfl rfl ?_
  refine J_iconst (v := 0) dX4_init_23 (by decide) ?_
  refine J_putI cf4 klX4_24 hg2 rfl dX4_init_24 ?_
  have hF := hF.wI (a := a) (k := 3) (x := 0) (List.getElem?_eq_some_iff.mp hg2).1
  have hF : Fr (M.1 ++ [(13, 48)], upR (M.2.1) (a) 0 (some (a + 1)), wI (wI (wI (M.2.2) (a) 1 (0)) (a) 2 (0)) (a) 3 (0)) := hF
  show J _ _ _ _ _ _ _ _ _ _ _ (M.1 ++ [(13, 48)], upR (M.2.1) (a) 0 (some (a + 1)), wI (wI (wI (M.2.2) (a) 1 (0)) (a) 2 (0)) (a) 3 (0)) _
  refine J_aload_n dX4_init_27 rfl rfl ?_
  refine J_iconst (v := 0) dX4_init_28 (by decide) ?_
  refine J_putI cf4 klX4_27 hg2 rfl dX4_init_29 ?_
  have hF := hF.wI (a := a) (k := 4) (x := 0) (List.getElem?_eq_some_iff.mp hg2).1
  have hF : Fr (M.1 ++ [(13, 48)], upR (M.2.1) (a) 0 (some (a + 1)), wI (wI (wI (wI (M.2.2) (a) 1 (0)) (a) 2 (0)) (a) 3 (0)) (a) 4 (0)) := hF
  show J _ _ _ _ _ _ _ _ _ _ _ (M.1 ++ [(13, 48)], upR (M.2.1) (a) 0 (some (a + 1)), wI (wI (wI (wI (M.2.2) (a) 1 (0)) (a) 2 (0)) (a) 3 (0)) (a) 4 (0)) _
  refine J_aload_n dX4_init_32 rfl rfl ?_
  refine J_iconst (v := 0) dX4_init_33 (by decide) ?_
  refine J_putI cf4 klX4_30 hg2 rfl dX4_init_34 ?_
  have hF := hF.wI (a := a) (k := 5) (x := 0) (List.getElem?_eq_some_iff.mp hg2).1
  have hF : Fr (M.1 ++ [(13, 48)], upR (M.2.1) (a) 0 (some (a + 1)), wI (wI (wI (wI (wI (M.2.2) (a) 1 (0)) (a) 2 (0)) (a) 3 (0)) (a) 4 (0)) (a) 5 (0)) := hF
  show J _ _ _ _ _ _ _ _ _ _ _ (M.1 ++ [(13, 48)], upR (M.2.1) (a) 0 (some (a + 1)), wI (wI (wI (wI (wI (M.2.2) (a) 1 (0)) (a) 2 (0)) (a) 3 (0)) (a) 4 (0)) (a) 5 (0)) _
  refine J_aload_n dX4_init_37 rfl rfl ?_
  refine J_iconst (v := 2) dX4_init_38 (by decide) ?_
  refine J_putI cf4 klX4_33 hg2 rfl dX4_init_39 ?_
  have hF := hF.wI (a := a) (k := 6) (x := 2) (List.getElem?_eq_some_iff.mp hg2).1
  have hF : Fr (M.1 ++ [(13, 48)], upR (M.2.1) (a) 0 (some (a + 1)), wI (wI (wI (wI (wI (wI (M.2.2) (a) 1 (0)) (a) 2 (0)) (a) 3 (0)) (a) 4 (0)) (a) 5 (0)) (a) 6 (2)) := hF
  show J _ _ _ _ _ _ _ _ _ _ _ (M.1 ++ [(13, 48)], upR (M.2.1) (a) 0 (some (a + 1)), wI (wI (wI (wI (wI (wI (M.2.2) (a) 1 (0)) (a) 2 (0)) (a) 3 (0)) (a) 4 (0)) (a) 5 (0)) (a) 6 (2)) _
  refine J_aload_n dX4_init_42 rfl rfl ?_
  refine J_bipush (v := 8) dX4_init_43 (by decide) ?_
  refine J_newI (a := a + 2) (N := 8) (by decide) (by decide) (by decide) hF hl1 (Nat.le_of_ble_eq_true rfl) (Nat.le_of_ble_eq_true rfl) dX4_init_45 ?_
  intro hF
  have hl3 : (M.1 ++ [(13, 48)] ++ [(13, 8)]).length = a + 3 := ap_len hl1 rfl
  have hg4 : (M.1 ++ [(13, 48)] ++ [(13, 8)])[a]? = some (4, nF 4) := ap_old hg2
  have hF : Fr (M.1 ++ [(13, 48)] ++ [(13, 8)], upR (M.2.1) (a) 0 (some (a + 1)), wI (wI (wI (wI (wI (wI (M.2.2) (a) 1 (0)) (a) 2 (0)) (a) 3 (0)) (a) 4 (0)) (a) 5 (0)) (a) 6 (2)) := hF
  show J _ _ _ _ _ _ _ _ _ _ _ (M.1 ++ [(13, 48)] ++ [(13, 8)], upR (M.2.1) (a) 0 (some (a + 1)), wI (wI (wI (wI (wI (wI (M.2.2) (a) 1 (0)) (a) 2 (0)) (a) 3 (0)) (a) 4 (0)) (a) 5 (0)) (a) 6 (2)) _
  refine J_putRF rfl cf4 klX4_36 hF hg4 (Or.inr ⟨_, rfl⟩) dX4_init_47 ?_
  intro hF
  have hF : Fr (M.1 ++ [(13, 48)] ++ [(13, 8)], upR (upR (M.2.1) (a) 0 (some (a + 1))) (a) 7 (some (a + 2)), wI (wI (wI (wI (wI (wI (M.2.2) (a) 1 (0)) (a) 2 (0)) (a) 3 (0)) (a) 4 (0)) (a) 5 (0)) (a) 6 (2)) := hF
  show J _ _ _ _ _ _ _ _ _ _ _ (M.1 ++ [(13, 48)] ++ [(13, 8)], upR (upR (M.2.1) (a) 0 (some (a + 1))) (a) 7 (some (a + 2)), wI (wI (wI (wI (wI (wI (M.2.2) (a) 1 (0)) (a) 2 (0)) (a) 3 (0)) (a) 4 (0)) (a) 5 (0)) (a) 6 (2)) _
  refine J_aload_n dX4_init_50 rfl rfl ?_
  refine J_iconst (v := 0) dX4_init_51 (by decide) ?_
  refine J_putI cf4 klX4_39 hg4 rfl dX4_init_52 ?_
  have hF := hF.wI (a := a) (k := 8) (x := 0) (List.getElem?_eq_some_iff.mp hg4).1
  have hF : Fr (M.1 ++ [(13, 48)] ++ [(13, 8)], upR (upR (M.2.1) (a) 0 (some (a + 1))) (a) 7 (some (a + 2)), wI (wI (wI (wI (wI (wI (wI (M.2.2) (a) 1 (0)) (a) 2 (0)) (a) 3 (0)) (a) 4 (0)) (a) 5 (0)) (a) 6 (2)) (a) 8 (0)) := hF
  show J _ _ _ _ _ _ _ _ _ _ _ (M.1 ++ [(13, 48)] ++ [(13, 8)], upR (upR (M.2.1) (a) 0 (some (a + 1))) (a) 7 (some (a + 2)), wI (wI (wI (wI (wI (wI (wI (M.2.2) (a) 1 (0)) (a) 2 (0)) (a) 3 (0)) (a) 4 (0)) (a) 5 (0)) (a) 6 (2)) (a) 8 (0)) _
  refine J_aload_n dX4_init_55 rfl rfl ?_
  refine J_sipush (v := 20000) dX4_init_56 (by decide) ?_
  refine J_newI (a := a + 3) (N := 20000) (by decide) (by decide) (by decide) hF hl3 (Nat.le_of_ble_eq_true rfl) (Nat.le_of_ble_eq_true rfl) dX4_init_59 ?_
  intro hF
  have hl5 : (M.1 ++ [(13, 48)] ++ [(13, 8)] ++ [(13, 20000)]).length = a + 4 := ap_len hl3 rfl
  have hg6 : (M.1 ++ [(13, 48)] ++ [(13, 8)] ++ [(13, 20000)])[a]? = some (4, nF 4) := ap_old hg4
  have hF : Fr (M.1 ++ [(13, 48)] ++ [(13, 8)] ++ [(13, 20000)], upR (upR (M.2.1) (a) 0 (some (a + 1))) (a) 7 (some (a + 2)), wI (wI (wI (wI (wI (wI (wI (M.2.2) (a) 1 (0)) (a) 2 (0)) (a) 3 (0)) (a) 4 (0)) (a) 5 (0)) (a) 6 (2)) (a) 8 (0)) := hF
  show J _ _ _ _ _ _ _ _ _ _ _ (M.1 ++ [(13, 48)] ++ [(13, 8)] ++ [(13, 20000)], upR (upR (M.2.1) (a) 0 (some (a + 1))) (a) 7 (some (a + 2)), wI (wI (wI (wI (wI (wI (wI (M.2.2) (a) 1 (0)) (a) 2 (0)) (a) 3 (0)) (a) 4 (0)) (a) 5 (0)) (a) 6 (2)) (a) 8 (0)) _
  refine J_putRF rfl cf4 klX4_42 hF hg6 (Or.inr ⟨_, rfl⟩) dX4_init_61 ?_
  intro hF
  have hF : Fr (M.1 ++ [(13, 48)] ++ [(13, 8)] ++ [(13, 20000)], upR (upR (upR (M.2.1) (a) 0 (some (a + 1))) (a) 7 (some (a + 2))) (a) 9 (some (a + 3)), wI (wI (wI (wI (wI (wI (wI (M.2.2) (a) 1 (0)) (a) 2 (0)) (a) 3 (0)) (a) 4 (0)) (a) 5 (0)) (a) 6 (2)) (a) 8 (0)) := hF
  show J _ _ _ _ _ _ _ _ _ _ _ (M.1 ++ [(13, 48)] ++ [(13, 8)] ++ [(13, 20000)], upR (upR (upR (M.2.1) (a) 0 (some (a + 1))) (a) 7 (some (a + 2))) (a) 9 (some (a + 3)), wI (wI (wI (wI (wI (wI (wI (M.2.2) (a) 1 (0)) (a) 2 (0)) (a) 3 (0)) (a) 4 (0)) (a) 5 (0)) (a) 6 (2)) (a) 8 (0)) _
  refine J_aload_n dX4_init_64 rfl rfl ?_
  refine J_iconst (v := 0) dX4_init_65 (by decide) ?_
  refine J_putI cf4 klX4_45 hg6 rfl dX4_init_66 ?_
  have hF := hF.wI (a := a) (k := 10) (x := 0) (List.getElem?_eq_some_iff.mp hg6).1
  have hF : Fr (M.1 ++ [(13, 48)] ++ [(13, 8)] ++ [(13, 20000)], upR (upR (upR (M.2.1) (a) 0 (some (a + 1))) (a) 7 (some (a + 2))) (a) 9 (some (a + 3)), wI (wI (wI (wI (wI (wI (wI (wI (M.2.2) (a) 1 (0)) (a) 2 (0)) (a) 3 (0)) (a) 4 (0)) (a) 5 (0)) (a) 6 (2)) (a) 8 (0)) (a) 10 (0)) := hF
  show J _ _ _ _ _ _ _ _ _ _ _ (M.1 ++ [(13, 48)] ++ [(13, 8)] ++ [(13, 20000)], upR (upR (upR (M.2.1) (a) 0 (some (a + 1))) (a) 7 (some (a + 2))) (a) 9 (some (a + 3)), wI (wI (wI (wI (wI (wI (wI (wI (M.2.2) (a) 1 (0)) (a) 2 (0)) (a) 3 (0)) (a) 4 (0)) (a) 5 (0)) (a) 6 (2)) (a) 8 (0)) (a) 10 (0)) _
  exact J_return rfl (Nat.le_of_ble_eq_true rfl) (Nat.le_of_ble_eq_true rfl) rfl dX4_init_69
theorem frX4 {a : Nat} {M : Hm} (hF : Fr M) (hl : M.1.length = a + 1) : Fr (cXr4 a M) := by
  have hs : (cXr4 a M).1.length = a + 4 := by show (M.1 ++ [(13, 48)] ++ [(13, 8)] ++ [(13, 20000)]).length = _; simp [hl]
  intro q hq j
  rw [hs] at hq
  have h := hF q (by omega) j
  refine ⟨?_, ?_, h.2.2⟩
  · show (upR (upR (upR (M.2.1) (a) 0 (some (a + 1))) (a) 7 (some (a + 2))) (a) 9 (some (a + 3))) q j = none
    simp only [upR, rfM]
    repeat rw [if_neg (by omega)]
    exact h.1
  · show (wI (wI (wI (wI (wI (wI (wI (wI (M.2.2) (a) 1 (0)) (a) 2 (0)) (a) 3 (0)) (a) 4 (0)) (a) 5 (0)) (a) 6 (2)) (a) 8 (0)) (a) 10 (0)).1 q j = 0
    simp only [wI, fiI]
    repeat rw [if_neg (by omega)]
    exact h.2.1
abbrev YX0_init : MD := (RX0, cX0_init, 1, none, true)
set_option maxRecDepth 100000 in
theorem mcX0_init : MC yX0_init YX0_init 0 := ⟨rfl, ⟨by decide, by decide, by decide +kernel⟩, in1 9 (by rfl) rfl, in1 218 (by rfl) rfl⟩
set_option maxRecDepth 100000 in
theorem miX0_init : Cond.instanceMethod yX0_init ∈ TT := in1 217 (by rfl) rfl
theorem dX0_init_0 : decode cX0_init 0 = .ok (.aload_n 0, 1) := by decide +kernel
theorem dX0_init_1 : decode cX0_init 1 = .ok (.invokespecial 3, 3) := by decide +kernel
theorem dX0_init_4 : decode cX0_init 4 = .ok (.aload_n 0, 1) := by decide +kernel
theorem dX0_init_5 : decode cX0_init 5 = .ok (.bipush 24, 2) := by decide +kernel
theorem dX0_init_7 : decode cX0_init 7 = .ok (.newarray .int, 2) := by decide +kernel
theorem dX0_init_9 : decode cX0_init 9 = .ok (.putfield 11, 3) := by decide +kernel
theorem dX0_init_12 : decode cX0_init 12 = .ok (.aload_n 0, 1) := by decide +kernel
theorem dX0_init_13 : decode cX0_init 13 = .ok (.iconst 0, 1) := by decide +kernel
theorem dX0_init_14 : decode cX0_init 14 = .ok (.putfield 15, 3) := by decide +kernel
theorem dX0_init_17 : decode cX0_init 17 = .ok (.aload_n 0, 1) := by decide +kernel
theorem dX0_init_18 : decode cX0_init 18 = .ok (.iconst 0, 1) := by decide +kernel
theorem dX0_init_19 : decode cX0_init 19 = .ok (.putfield 19, 3) := by decide +kernel
theorem dX0_init_22 : decode cX0_init 22 = .ok (.aload_n 0, 1) := by decide +kernel
theorem dX0_init_23 : decode cX0_init 23 = .ok (.iconst 0, 1) := by decide +kernel
theorem dX0_init_24 : decode cX0_init 24 = .ok (.putfield 22, 3) := by decide +kernel
theorem dX0_init_27 : decode cX0_init 27 = .ok (.aload_n 0, 1) := by decide +kernel
theorem dX0_init_28 : decode cX0_init 28 = .ok (.iconst 0, 1) := by decide +kernel
theorem dX0_init_29 : decode cX0_init 29 = .ok (.putfield 25, 3) := by decide +kernel
theorem dX0_init_32 : decode cX0_init 32 = .ok (.return_, 1) := by decide +kernel
set_option maxRecDepth 100000 in
theorem klX0_11 : FL RX0 11 0 0 true := ⟨_, rfl, by decide, in1 220 (by rfl) rfl, rfl, rfl⟩
set_option maxRecDepth 100000 in
theorem klX0_15 : FL RX0 15 0 1 false := ⟨_, rfl, by decide, in1 221 (by rfl) rfl, rfl, rfl⟩
set_option maxRecDepth 100000 in
theorem klX0_19 : FL RX0 19 0 2 false := ⟨_, rfl, by decide, in1 222 (by rfl) rfl, rfl, rfl⟩
set_option maxRecDepth 100000 in
theorem klX0_22 : FL RX0 22 0 3 false := ⟨_, rfl, by decide, in1 223 (by rfl) rfl, rfl, rfl⟩
set_option maxRecDepth 100000 in
theorem klX0_25 : FL RX0 25 0 4 false := ⟨_, rfl, by decide, in1 224 (by rfl) rfl, rfl, rfl⟩
abbrev cXr0 (a : Nat) (M : Hm) : Hm := (M.1 ++ [(13, 24)], upR (M.2.1) (a) 0 (some (a + 1)), wI (wI (wI (wI (M.2.2) (a) 1 (0)) (a) 2 (0)) (a) 3 (0)) (a) 4 (0))
theorem ctX0_init (G : Gm) {a : Nat} {M : Hm} (hF : Fr M) (hl : M.1.length = a + 1) (h0 : M.1[a]? = some (0, nF 0)) : Ct G YX0_init yX0_init 1 1 24 finH (some (cXr0 a M)) [vR (some a)] M := by
  refine Ct_of_J [some (vR (some a))] (by decide) rfl (fun _ => rfl) (Nat.le_of_ble_eq_true rfl) (And.intro rfl trivial) ?_
  refine J_aload_n dX0_init_0 rfl rfl ?_
  refine J_objInit (in1 219 (by rfl) rfl) w_oi1 w_oi2 (Nat.le_of_ble_eq_true rfl) (Nat.le_of_ble_eq_true rfl) dX0_init_1 ?_
  refine J_aload_n dX0_init_4 rfl rfl ?_
  refine J_bipush (v := 24) dX0_init_5 (by decide) ?_
  refine J_newI (a := a + 1) (N := 24) (by decide) (by decide) (by decide) hF hl (Nat.le_of_ble_eq_true rfl) (Nat.le_of_ble_eq_true rfl) dX0_init_7 ?_
  intro hF
  have hl1 : (M.1 ++ [(13, 24)]).length = a + 2 := ap_len hl rfl
  have hg2 : (M.1 ++ [(13, 24)])[a]? = some (0, nF 0) := ap_old h0
  have hF : Fr (M.1 ++ [(13, 24)], M.2.1, M.2.2) := hF
  show J _ _ _ _ _ _ _ _ _ _ _ (M.1 ++ [(13, 24)], M.2.1, M.2.2) _
  refine J_putRF rfl cf0 klX0_11 hF hg2 (Or.inr ⟨_, rfl⟩) dX0_init_9 ?_
  intro hF
  have hF : Fr (M.1 ++ [(13, 24)], upR (M.2.1) (a) 0 (some (a + 1)), M.2.2) := hF
  show J _ _ _ _ _ _ _ _ _ _ _ (M.1 ++ [(13, 24)], upR (M.2.1) (a) 0 (some (a + 1)), M.2.2) _
  refine J_aload_n dX0_init_12 rfl rfl ?_
  refine J_iconst (v := 0) dX0_init_13 (by decide) ?_
  refine J_putI cf0 klX0_15 hg2 rfl dX0_init_14 ?_
  have hF := hF.wI (a := a) (k := 1) (x := 0) (List.getElem?_eq_some_iff.mp hg2).1
  have hF : Fr (M.1 ++ [(13, 24)], upR (M.2.1) (a) 0 (some (a + 1)), wI (M.2.2) (a) 1 (0)) := hF
  show J _ _ _ _ _ _ _ _ _ _ _ (M.1 ++ [(13, 24)], upR (M.2.1) (a) 0 (some (a + 1)), wI (M.2.2) (a) 1 (0)) _
  refine J_aload_n dX0_init_17 rfl rfl ?_
  refine J_iconst (v := 0) dX0_init_18 (by decide) ?_
  refine J_putI cf0 klX0_19 hg2 rfl dX0_init_19 ?_
  have hF := hF.wI (a := a) (k := 2) (x := 0) (List.getElem?_eq_some_iff.mp hg2).1
  have hF : Fr (M.1 ++ [(13, 24)], upR (M.2.1) (a) 0 (some (a + 1)), wI (wI (M.2.2) (a) 1 (0)) (a) 2 (0)) := hF
  show J _ _ _ _ _ _ _ _ _ _ _ (M.1 ++ [(13, 24)], upR (M.2.1) (a) 0 (some (a + 1)), wI (wI (M.2.2) (a) 1 (0)) (a) 2 (0)) _
  refine J_aload_n dX0_init_22 rfl rfl ?_
  refine J_iconst (v := 0) dX0_init_23 (by decide) ?_
  refine J_putI cf0 klX0_22 hg2 rfl dX0_init_24 ?_
  have hF := hF.wI (a := a) (k := 3) (x := 0) (List.getElem?_eq_some_iff.mp hg2).1
  have hF : Fr (M.1 ++ [(13, 24)], upR (M.2.1) (a) 0 (some (a + 1)), wI (wI (wI (M.2.2) (a) 1 (0)) (a) 2 (0)) (a) 3 (0)) := hF
  show J _ _ _ _ _ _ _ _ _ _ _ (M.1 ++ [(13, 24)], upR (M.2.1) (a) 0 (some (a + 1)), wI (wI (wI (M.2.2) (a) 1 (0)) (a) 2 (0)) (a) 3 (0)) _
  refine J_aload_n dX0_init_27 rfl rfl ?_
  refine J_iconst (v := 0) dX0_init_28 (by decide) ?_
  refine J_putI cf0 klX0_25 hg2 rfl dX0_init_29 ?_
  have hF := hF.wI (a := a) (k := 4) (x := 0) (List.getElem?_eq_some_iff.mp hg2).1
  have hF : Fr (M.1 ++ [(13, 24)], upR (M.2.1) (a) 0 (some (a + 1)), wI (wI (wI (wI (M.2.2) (a) 1 (0)) (a) 2 (0)) (a) 3 (0)) (a) 4 (0)) := hF
  show J _ _ _ _ _ _ _ _ _ _ _ (M.1 ++ [(13, 24)], upR (M.2.1) (a) 0 (some (a + 1)), wI (wI (wI (wI (M.2.2) (a) 1 (0)) (a) 2 (0)) (a) 3 (0)) (a) 4 (0)) _
  exact J_return rfl (Nat.le_of_ble_eq_true rfl) (Nat.le_of_ble_eq_true rfl) rfl dX0_init_32
theorem frX0 {a : Nat} {M : Hm} (hF : Fr M) (hl : M.1.length = a + 1) : Fr (cXr0 a M) := by
  have hs : (cXr0 a M).1.length = a + 2 := by show (M.1 ++ [(13, 24)]).length = _; simp [hl]
  intro q hq j
  rw [hs] at hq
  have h := hF q (by omega) j
  refine ⟨?_, ?_, h.2.2⟩
  · show (upR (M.2.1) (a) 0 (some (a + 1))) q j = none
    simp only [upR, rfM]
    repeat rw [if_neg (by omega)]
    exact h.1
  · show (wI (wI (wI (wI (M.2.2) (a) 1 (0)) (a) 2 (0)) (a) 3 (0)) (a) 4 (0)).1 q j = 0
    simp only [wI, fiI]
    repeat rw [if_neg (by omega)]
    exact h.2.1
abbrev YX1_init : MD := (RX1, cX1_init, 1, none, true)
set_option maxRecDepth 100000 in
theorem mcX1_init : MC yX1_init YX1_init 0 := ⟨rfl, ⟨by decide, by decide, by decide +kernel⟩, in1 13 (by rfl) rfl, in2 53 (by rfl) rfl⟩
set_option maxRecDepth 100000 in
theorem miX1_init : Cond.instanceMethod yX1_init ∈ TT := in2 52 (by rfl) rfl
theorem dX1_init_0 : decode cX1_init 0 = .ok (.aload_n 0, 1) := by decide +kernel
theorem dX1_init_1 : decode cX1_init 1 = .ok (.invokespecial 1, 3) := by decide +kernel
theorem dX1_init_4 : decode cX1_init 4 = .ok (.aload_n 0, 1) := by decide +kernel
theorem dX1_init_5 : decode cX1_init 5 = .ok (.bipush 60, 2) := by decide +kernel
theorem dX1_init_7 : decode cX1_init 7 = .ok (.newarray .int, 2) := by decide +kernel
theorem dX1_init_9 : decode cX1_init 9 = .ok (.putfield 9, 3) := by decide +kernel
theorem dX1_init_12 : decode cX1_init 12 = .ok (.aload_n 0, 1) := by decide +kernel
theorem dX1_init_13 : decode cX1_init 13 = .ok (.iconst 0, 1) := by decide +kernel
theorem dX1_init_14 : decode cX1_init 14 = .ok (.putfield 15, 3) := by decide +kernel
theorem dX1_init_17 : decode cX1_init 17 = .ok (.aload_n 0, 1) := by decide +kernel
theorem dX1_init_18 : decode cX1_init 18 = .ok (.iconst 0, 1) := by decide +kernel
theorem dX1_init_19 : decode cX1_init 19 = .ok (.putfield 19, 3) := by decide +kernel
theorem dX1_init_22 : decode cX1_init 22 = .ok (.aload_n 0, 1) := by decide +kernel
theorem dX1_init_23 : decode cX1_init 23 = .ok (.bipush 60, 2) := by decide +kernel
theorem dX1_init_25 : decode cX1_init 25 = .ok (.newarray .int, 2) := by decide +kernel
theorem dX1_init_27 : decode cX1_init 27 = .ok (.putfield 22, 3) := by decide +kernel
theorem dX1_init_30 : decode cX1_init 30 = .ok (.aload_n 0, 1) := by decide +kernel
theorem dX1_init_31 : decode cX1_init 31 = .ok (.iconst 0, 1) := by decide +kernel
theorem dX1_init_32 : decode cX1_init 32 = .ok (.putfield 25, 3) := by decide +kernel
theorem dX1_init_35 : decode cX1_init 35 = .ok (.return_, 1) := by decide +kernel
set_option maxRecDepth 100000 in
theorem klX1_9 : FL RX1 9 1 0 true := ⟨_, rfl, by decide, in2 55 (by rfl) rfl, rfl, rfl⟩
set_option maxRecDepth 100000 in
theorem klX1_15 : FL RX1 15 1 1 false := ⟨_, rfl, by decide, in2 56 (by rfl) rfl, rfl, rfl⟩
set_option maxRecDepth 100000 in
theorem klX1_19 : FL RX1 19 1 2 false := ⟨_, rfl, by decide, in2 57 (by rfl) rfl, rfl, rfl⟩
set_option maxRecDepth 100000 in
theorem klX1_22 : FL RX1 22 1 3 true := ⟨_, rfl, by decide, in2 58 (by rfl) rfl, rfl, rfl⟩
set_option maxRecDepth 100000 in
theorem klX1_25 : FL RX1 25 1 4 false := ⟨_, rfl, by decide, in2 59 (by rfl) rfl, rfl, rfl⟩
abbrev cXr1 (a : Nat) (M : Hm) : Hm := (M.1 ++ [(13, 60)] ++ [(13, 60)], upR (upR (M.2.1) (a) 0 (some (a + 1))) (a) 3 (some (a + 2)), wI (wI (wI (M.2.2) (a) 1 (0)) (a) 2 (0)) (a) 4 (0))
theorem ctX1_init (G : Gm) {a : Nat} {M : Hm} (hF : Fr M) (hl : M.1.length = a + 1) (h0 : M.1[a]? = some (1, nF 1)) : Ct G YX1_init yX1_init 1 2 120 finH (some (cXr1 a M)) [vR (some a)] M := by
  refine Ct_of_J [some (vR (some a))] (by decide) rfl (fun _ => rfl) (Nat.le_of_ble_eq_true rfl) (And.intro rfl trivial) ?_
  refine J_aload_n dX1_init_0 rfl rfl ?_
  refine J_objInit (in2 54 (by rfl) rfl) w_oi1 w_oi2 (Nat.le_of_ble_eq_true rfl) (Nat.le_of_ble_eq_true rfl) dX1_init_1 ?_
  refine J_aload_n dX1_init_4 rfl rfl ?_
  refine J_bipush (v := 60) dX1_init_5 (by decide) ?_
  refine J_newI (a := a + 1) (N := 60) (by decide) (by decide) (by decide) hF hl (Nat.le_of_ble_eq_true rfl) (Nat.le_of_ble_eq_true rfl) dX1_init_7 ?_
  intro hF
  have hl1 : (M.1 ++ [(13, 60)]).length = a + 2 := ap_len hl rfl
  have hg2 : (M.1 ++ [(13, 60)])[a]? = some (1, nF 1) := ap_old h0
  have hF : Fr (M.1 ++ [(13, 60)], M.2.1, M.2.2) := hF
  show J _ _ _ _ _ _ _ _ _ _ _ (M.1 ++ [(13, 60)], M.2.1, M.2.2) _
  refine J_putRF rfl cf1 klX1_9 hF hg2 (Or.inr ⟨_, rfl⟩) dX1_init_9 ?_
  intro hF
  have hF : Fr (M.1 ++ [(13, 60)], upR (M.2.1) (a) 0 (some (a + 1)), M.2.2) := hF
  show J _ _ _ _ _ _ _ _ _ _ _ (M.1 ++ [(13, 60)], upR (M.2.1) (a) 0 (some (a + 1)), M.2.2) _
  refine J_aload_n dX1_init_12 rfl rfl ?_
  refine J_iconst (v := 0) dX1_init_13 (by decide) ?_
  refine J_putI cf1 klX1_15 hg2 rfl dX1_init_14 ?_
  have hF := hF.wI (a := a) (k := 1) (x := 0) (List.getElem?_eq_some_iff.mp hg2).1
  have hF : Fr (M.1 ++ [(13, 60)], upR (M.2.1) (a) 0 (some (a + 1)), wI (M.2.2) (a) 1 (0)) := hF
  show J _ _ _ _ _ _ _ _ _ _ _ (M.1 ++ [(13, 60)], upR (M.2.1) (a) 0 (some (a + 1)), wI (M.2.2) (a) 1 (0)) _
  refine J_aload_n dX1_init_17 rfl rfl ?_
  refine J_iconst (v := 0) dX1_init_18 (by decide) ?_
  refine J_putI cf1 klX1_19 hg2 rfl dX1_init_19 ?_
  have hF := hF.wI (a := a) (k := 2) (x := 0) (List.getElem?_eq_some_iff.mp hg2).1
  have hF : Fr (M.1 ++ [(13, 60)], upR (M.2.1) (a) 0 (some (a + 1)), wI (wI (M.2.2) (a) 1 (0)) (a) 2 (0)) := hF
  show J _ _ _ _ _ _ _ _ _ _ _ (M.1 ++ [(13, 60)], upR (M.2.1) (a) 0 (some (a + 1)), wI (wI (M.2.2) (a) 1 (0)) (a) 2 (0)) _
  refine J_aload_n dX1_init_22 rfl rfl ?_
  refine J_bipush (v := 60) dX1_init_23 (by decide) ?_
  refine J_newI (a := a + 2) (N := 60) (by decide) (by decide) (by decide) hF hl1 (Nat.le_of_ble_eq_true rfl) (Nat.le_of_ble_eq_true rfl) dX1_init_25 ?_
  intro hF
  have hl3 : (M.1 ++ [(13, 60)] ++ [(13, 60)]).length = a + 3 := ap_len hl1 rfl
  have hg4 : (M.1 ++ [(13, 60)] ++ [(13, 60)])[a]? = some (1, nF 1) := ap_old hg2
  have hF : Fr (M.1 ++ [(13, 60)] ++ [(13, 60)], upR (M.2.1) (a) 0 (some (a + 1)), wI (wI (M.2.2) (a) 1 (0)) (a) 2 (0)) := hF
  show J _ _ _ _ _ _ _ _ _ _ _ (M.1 ++ [(13, 60)] ++ [(13, 60)], upR (M.2.1) (a) 0 (some (a + 1)), wI (wI (M.2.2) (a) 1 (0)) (a) 2 (0)) _
  refine J_putRF rfl cf1 klX1_22 hF hg4 (Or.inr ⟨_, rfl⟩) dX1_init_27 ?_
  intro hF
  have hF : Fr (M.1 ++ [(13, 60)] ++ [(13, 60)], upR (upR (M.2.1) (a) 0 (some (a + 1))) (a) 3 (some (a + 2)), wI (wI (M.2.2) (a) 1 (0)) (a) 2 (0)) := hF
  show J _ _ _ _ _ _ _ _ _ _ _ (M.1 ++ [(13, 60)] ++ [(13, 60)], upR (upR (M.2.1) (a) 0 (some (a + 1))) (a) 3 (some (a + 2)), wI (wI (M.2.2) (a) 1 (0)) (a) 2 (0)) _
  refine J_aload_n dX1_init_30 rfl rfl ?_
  refine J_iconst (v := 0) dX1_init_31 (by decide) ?_
  refine J_putI cf1 klX1_25 hg4 rfl dX1_init_32 ?_
  have hF := hF.wI (a := a) (k := 4) (x := 0) (List.getElem?_eq_some_iff.mp hg4).1
  have hF : Fr (M.1 ++ [(13, 60)] ++ [(13, 60)], upR (upR (M.2.1) (a) 0 (some (a + 1))) (a) 3 (some (a + 2)), wI (wI (wI (M.2.2) (a) 1 (0)) (a) 2 (0)) (a) 4 (0)) := hF
  show J _ _ _ _ _ _ _ _ _ _ _ (M.1 ++ [(13, 60)] ++ [(13, 60)], upR (upR (M.2.1) (a) 0 (some (a + 1))) (a) 3 (some (a + 2)), wI (wI (wI (M.2.2) (a) 1 (0)) (a) 2 (0)) (a) 4 (0)) _
  exact J_return rfl (Nat.le_of_ble_eq_true rfl) (Nat.le_of_ble_eq_true rfl) rfl dX1_init_35
theorem frX1 {a : Nat} {M : Hm} (hF : Fr M) (hl : M.1.length = a + 1) : Fr (cXr1 a M) := by
  have hs : (cXr1 a M).1.length = a + 3 := by show (M.1 ++ [(13, 60)] ++ [(13, 60)]).length = _; simp [hl]
  intro q hq j
  rw [hs] at hq
  have h := hF q (by omega) j
  refine ⟨?_, ?_, h.2.2⟩
  · show (upR (upR (M.2.1) (a) 0 (some (a + 1))) (a) 3 (some (a + 2))) q j = none
    simp only [upR, rfM]
    repeat rw [if_neg (by omega)]
    exact h.1
  · show (wI (wI (wI (M.2.2) (a) 1 (0)) (a) 2 (0)) (a) 4 (0)).1 q j = 0
    simp only [wI, fiI]
    repeat rw [if_neg (by omega)]
    exact h.2.1
abbrev YX3_init : MD := (RX3, cX3_init, 1, none, true)
set_option maxRecDepth 100000 in
theorem mcX3_init : MC yX3_init YX3_init 0 := ⟨rfl, ⟨by decide, by decide, by decide +kernel⟩, in1 12 (by rfl) rfl, in2 24 (by rfl) rfl⟩
set_option maxRecDepth 100000 in
theorem miX3_init : Cond.instanceMethod yX3_init ∈ TT := in2 23 (by rfl) rfl
theorem dX3_init_0 : decode cX3_init 0 = .ok (.aload_n 0, 1) := by decide +kernel
theorem dX3_init_1 : decode cX3_init 1 = .ok (.invokespecial 3, 3) := by decide +kernel
theorem dX3_init_4 : decode cX3_init 4 = .ok (.aload_n 0, 1) := by decide +kernel
theorem dX3_init_5 : decode cX3_init 5 = .ok (.iconst 0, 1) := by decide +kernel
theorem dX3_init_6 : decode cX3_init 6 = .ok (.putfield 9, 3) := by decide +kernel
theorem dX3_init_9 : decode cX3_init 9 = .ok (.aload_n 0, 1) := by decide +kernel
theorem dX3_init_10 : decode cX3_init 10 = .ok (.bipush 12, 2) := by decide +kernel
theorem dX3_init_12 : decode cX3_init 12 = .ok (.newarray .int, 2) := by decide +kernel
theorem dX3_init_14 : decode cX3_init 14 = .ok (.putfield 15, 3) := by decide +kernel
theorem dX3_init_17 : decode cX3_init 17 = .ok (.aload_n 0, 1) := by decide +kernel
theorem dX3_init_18 : decode cX3_init 18 = .ok (.bipush 12, 2) := by decide +kernel
theorem dX3_init_20 : decode cX3_init 20 = .ok (.newarray .int, 2) := by decide +kernel
theorem dX3_init_22 : decode cX3_init 22 = .ok (.putfield 19, 3) := by decide +kernel
theorem dX3_init_25 : decode cX3_init 25 = .ok (.aload_n 0, 1) := by decide +kernel
theorem dX3_init_26 : decode cX3_init 26 = .ok (.bipush 12, 2) := by decide +kernel
theorem dX3_init_28 : decode cX3_init 28 = .ok (.newarray .int, 2) := by decide +kernel
theorem dX3_init_30 : decode cX3_init 30 = .ok (.putfield 22, 3) := by decide +kernel
theorem dX3_init_33 : decode cX3_init 33 = .ok (.aload_n 0, 1) := by decide +kernel
theorem dX3_init_34 : decode cX3_init 34 = .ok (.iconst 4, 1) := by decide +kernel
theorem dX3_init_35 : decode cX3_init 35 = .ok (.iconst 4, 1) := by decide +kernel
theorem dX3_init_36 : decode cX3_init 36 = .ok (.multianewarray 25 2, 4) := by decide +kernel
theorem dX3_init_40 : decode cX3_init 40 = .ok (.putfield 27, 3) := by decide +kernel
theorem dX3_init_43 : decode cX3_init 43 = .ok (.aload_n 0, 1) := by decide +kernel
theorem dX3_init_44 : decode cX3_init 44 = .ok (.iconst 4, 1) := by decide +kernel
theorem dX3_init_45 : decode cX3_init 45 = .ok (.newarray .int, 2) := by decide +kernel
theorem dX3_init_47 : decode cX3_init 47 = .ok (.putfield 30, 3) := by decide +kernel
theorem dX3_init_50 : decode cX3_init 50 = .ok (.aload_n 0, 1) := by decide +kernel
theorem dX3_init_51 : decode cX3_init 51 = .ok (.bipush 15, 2) := by decide +kernel
theorem dX3_init_53 : decode cX3_init 53 = .ok (.newarray .int, 2) := by decide +kernel
theorem dX3_init_55 : decode cX3_init 55 = .ok (.putfield 33, 3) := by decide +kernel
theorem dX3_init_58 : decode cX3_init 58 = .ok (.return_, 1) := by decide +kernel
set_option maxRecDepth 100000 in
theorem klX3_9 : FL RX3 9 3 0 false := ⟨_, rfl, by decide, in2 28 (by rfl) rfl, rfl, rfl⟩
set_option maxRecDepth 100000 in
theorem klX3_15 : FL RX3 15 3 1 true := ⟨_, rfl, by decide, in2 29 (by rfl) rfl, rfl, rfl⟩
set_option maxRecDepth 100000 in
theorem klX3_19 : FL RX3 19 3 2 true := ⟨_, rfl, by decide, in2 30 (by rfl) rfl, rfl, rfl⟩
set_option maxRecDepth 100000 in
theorem klX3_22 : FL RX3 22 3 3 true := ⟨_, rfl, by decide, in2 31 (by rfl) rfl, rfl, rfl⟩
set_option maxRecDepth 100000 in
theorem klX3_27 : FL RX3 27 3 4 true := ⟨_, rfl, by decide, in2 32 (by rfl) rfl, rfl, rfl⟩
set_option maxRecDepth 100000 in
theorem klX3_30 : FL RX3 30 3 5 true := ⟨_, rfl, by decide, in2 33 (by rfl) rfl, rfl, rfl⟩
set_option maxRecDepth 100000 in
theorem klX3_33 : FL RX3 33 3 6 true := ⟨_, rfl, by decide, in2 34 (by rfl) rfl, rfl, rfl⟩
abbrev cXr3 (a : Nat) (M : Hm) : Hm := (M.1 ++ [(13, 12)] ++ [(13, 12)] ++ [(13, 12)] ++ ((18, 4) :: List.replicate 4 (13, 4)) ++ [(13, 4)] ++ [(13, 15)], upR (upR (upR (rfM (upR (upR (upR (M.2.1) (a) 1 (some (a + 1))) (a) 2 (some (a + 2))) (a) 3 (some (a + 3))) (a + 4) 4) (a) 4 (some (a + 4))) (a) 5 (some (a + 9))) (a) 6 (some (a + 10)), wI (M.2.2) (a) 0 (0))
theorem ctX3_init (G : Gm) {a : Nat} {M : Hm} (hF : Fr M) (hl : M.1.length = a + 1) (h0 : M.1[a]? = some (3, nF 3)) : Ct G YX3_init yX3_init 1 10 75 finH (some (cXr3 a M)) [vR (some a)] M := by
  refine Ct_of_J [some (vR (some a))] (by decide) rfl (fun _ => rfl) (Nat.le_of_ble_eq_true rfl) (And.intro rfl trivial) ?_
  refine J_aload_n dX3_init_0 rfl rfl ?_
  refine J_objInit (in2 25 (by rfl) rfl) w_oi1 w_oi2 (Nat.le_of_ble_eq_true rfl) (Nat.le_of_ble_eq_true rfl) dX3_init_1 ?_
  refine J_aload_n dX3_init_4 rfl rfl ?_
  refine J_iconst (v := 0) dX3_init_5 (by decide) ?_
  refine J_putI cf3 klX3_9 h0 rfl dX3_init_6 ?_
  have hF := hF.wI (a := a) (k := 0) (x := 0) (List.getElem?_eq_some_iff.mp h0).1
  have hF : Fr (M.1, M.2.1, wI (M.2.2) (a) 0 (0)) := hF
  show J _ _ _ _ _ _ _ _ _ _ _ (M.1, M.2.1, wI (M.2.2) (a) 0 (0)) _
  refine J_aload_n dX3_init_9 rfl rfl ?_
  refine J_bipush (v := 12) dX3_init_10 (by decide) ?_
  refine J_newI (a := a + 1) (N := 12) (by decide) (by decide) (by decide) hF hl (Nat.le_of_ble_eq_true rfl) (Nat.le_of_ble_eq_true rfl) dX3_init_12 ?_
  intro hF
  have hl1 : (M.1 ++ [(13, 12)]).length = a + 2 := ap_len hl rfl
  have hg2 : (M.1 ++ [(13, 12)])[a]? = some (3, nF 3) := ap_old h0
  have hF : Fr (M.1 ++ [(13, 12)], M.2.1, wI (M.2.2) (a) 0 (0)) := hF
  show J _ _ _ _ _ _ _ _ _ _ _ (M.1 ++ [(13, 12)], M.2.1, wI (M.2.2) (a) 0 (0)) _
  refine J_putRF rfl cf3 klX3_15 hF hg2 (Or.inr ⟨_, rfl⟩) dX3_init_14 ?_
  intro hF
  have hF : Fr (M.1 ++ [(13, 12)], upR (M.2.1) (a) 1 (some (a + 1)), wI (M.2.2) (a) 0 (0)) := hF
  show J _ _ _ _ _ _ _ _ _ _ _ (M.1 ++ [(13, 12)], upR (M.2.1) (a) 1 (some (a + 1)), wI (M.2.2) (a) 0 (0)) _
  refine J_aload_n dX3_init_17 rfl rfl ?_
  refine J_bipush (v := 12) dX3_init_18 (by decide) ?_
  refine J_newI (a := a + 2) (N := 12) (by decide) (by decide) (by decide) hF hl1 (Nat.le_of_ble_eq_true rfl) (Nat.le_of_ble_eq_true rfl) dX3_init_20 ?_
  intro hF
  have hl3 : (M.1 ++ [(13, 12)] ++ [(13, 12)]).length = a + 3 := ap_len hl1 rfl
  have hg4 : (M.1 ++ [(13, 12)] ++ [(13, 12)])[a]? = some (3, nF 3) := ap_old hg2
  have hF : Fr (M.1 ++ [(13, 12)] ++ [(13, 12)], upR (M.2.1) (a) 1 (some (a + 1)), wI (M.2.2) (a) 0 (0)) := hF
  show J _ _ _ _ _ _ _ _ _ _ _ (M.1 ++ [(13, 12)] ++ [(13, 12)], upR (M.2.1) (a) 1 (some (a + 1)), wI (M.2.2) (a) 0 (0)) _
  refine J_putRF rfl cf3 klX3_19 hF hg4 (Or.inr ⟨_, rfl⟩) dX3_init_22 ?_
  intro hF
  have hF : Fr (M.1 ++ [(13, 12)] ++ [(13, 12)], upR (upR (M.2.1) (a) 1 (some (a + 1))) (a) 2 (some (a + 2)), wI (M.2.2) (a) 0 (0)) := hF
  show J _ _ _ _ _ _ _ _ _ _ _ (M.1 ++ [(13, 12)] ++ [(13, 12)], upR (upR (M.2.1) (a) 1 (some (a + 1))) (a) 2 (some (a + 2)), wI (M.2.2) (a) 0 (0)) _
  refine J_aload_n dX3_init_25 rfl rfl ?_
  refine J_bipush (v := 12) dX3_init_26 (by decide) ?_
  refine J_newI (a := a + 3) (N := 12) (by decide) (by decide) (by decide) hF hl3 (Nat.le_of_ble_eq_true rfl) (Nat.le_of_ble_eq_true rfl) dX3_init_28 ?_
  intro hF
  have hl5 : (M.1 ++ [(13, 12)] ++ [(13, 12)] ++ [(13, 12)]).length = a + 4 := ap_len hl3 rfl
  have hg6 : (M.1 ++ [(13, 12)] ++ [(13, 12)] ++ [(13, 12)])[a]? = some (3, nF 3) := ap_old hg4
  have hF : Fr (M.1 ++ [(13, 12)] ++ [(13, 12)] ++ [(13, 12)], upR (upR (M.2.1) (a) 1 (some (a + 1))) (a) 2 (some (a + 2)), wI (M.2.2) (a) 0 (0)) := hF
  show J _ _ _ _ _ _ _ _ _ _ _ (M.1 ++ [(13, 12)] ++ [(13, 12)] ++ [(13, 12)], upR (upR (M.2.1) (a) 1 (some (a + 1))) (a) 2 (some (a + 2)), wI (M.2.2) (a) 0 (0)) _
  refine J_putRF rfl cf3 klX3_22 hF hg6 (Or.inr ⟨_, rfl⟩) dX3_init_30 ?_
  intro hF
  have hF : Fr (M.1 ++ [(13, 12)] ++ [(13, 12)] ++ [(13, 12)], upR (upR (upR (M.2.1) (a) 1 (some (a + 1))) (a) 2 (some (a + 2))) (a) 3 (some (a + 3)), wI (M.2.2) (a) 0 (0)) := hF
  show J _ _ _ _ _ _ _ _ _ _ _ (M.1 ++ [(13, 12)] ++ [(13, 12)] ++ [(13, 12)], upR (upR (upR (M.2.1) (a) 1 (some (a + 1))) (a) 2 (some (a + 2))) (a) 3 (some (a + 3)), wI (M.2.2) (a) 0 (0)) _
  refine J_aload_n dX3_init_33 rfl rfl ?_
  refine J_iconst (v := 4) dX3_init_34 (by decide) ?_
  refine J_iconst (v := 4) dX3_init_35 (by decide) ?_
  refine J_multi (a := a + 4) (N := 4) (K := 4) (kd := 18) (kd2 := 13) (ty := .int) (by simp) (in2 26 (by rfl) rfl) (by decide) (by decide) (by decide) (by decide) (by decide) (by decide) hF hl5 (Nat.le_of_ble_eq_true rfl) (Nat.le_of_ble_eq_true rfl) dX3_init_36 ?_
  intro hF
  have hl7 : (M.1 ++ [(13, 12)] ++ [(13, 12)] ++ [(13, 12)] ++ ((18, 4) :: List.replicate 4 (13, 4))).length = a + 9 := ap_len hl5 rfl
  have hg8 : (M.1 ++ [(13, 12)] ++ [(13, 12)] ++ [(13, 12)] ++ ((18, 4) :: List.replicate 4 (13, 4)))[a]? = some (3, nF 3) := ap_old hg6
  have hF : Fr (M.1 ++ [(13, 12)] ++ [(13, 12)] ++ [(13, 12)] ++ ((18, 4) :: List.replicate 4 (13, 4)), rfM (upR (upR (upR (M.2.1) (a) 1 (some (a + 1))) (a) 2 (some (a + 2))) (a) 3 (some (a + 3))) (a + 4) 4, wI (M.2.2) (a) 0 (0)) := hF
  show J _ _ _ _ _ _ _ _ _ _ _ (M.1 ++ [(13, 12)] ++ [(13, 12)] ++ [(13, 12)] ++ ((18, 4) :: List.replicate 4 (13, 4)), rfM (upR (upR (upR (M.2.1) (a) 1 (some (a + 1))) (a) 2 (some (a + 2))) (a) 3 (some (a + 3))) (a + 4) 4, wI (M.2.2) (a) 0 (0)) _
  refine J_putRF rfl cf3 klX3_27 hF hg8 (Or.inr ⟨_, rfl⟩) dX3_init_40 ?_
  intro hF
  have hF : Fr (M.1 ++ [(13, 12)] ++ [(13, 12)] ++ [(13, 12)] ++ ((18, 4) :: List.replicate 4 (13, 4)), upR (rfM (upR (upR (upR (M.2.1) (a) 1 (some (a + 1))) (a) 2 (some (a + 2))) (a) 3 (some (a + 3))) (a + 4) 4) (a) 4 (some (a + 4)), wI (M.2.2) (a) 0 (0)) := hF
  show J _ _ _ _ _ _ _ _ _ _ _ (M.1 ++ [(13, 12)] ++ [(13, 12)] ++ [(13, 12)] ++ ((18, 4) :: List.replicate 4 (13, 4)), upR (rfM (upR (upR (upR (M.2.1) (a) 1 (some (a + 1))) (a) 2 (some (a + 2))) (a) 3 (some (a + 3))) (a + 4) 4) (a) 4 (some (a + 4)), wI (M.2.2) (a) 0 (0)) _
  refine J_aload_n dX3_init_43 rfl rfl ?_
  refine J_iconst (v := 4) dX3_init_44 (by decide) ?_
  refine J_newI (a := a + 9) (N := 4) (by decide) (by decide) (by decide) hF hl7 (Nat.le_of_ble_eq_true rfl) (Nat.le_of_ble_eq_true rfl) dX3_init_45 ?_
  intro hF
  have hl9 : (M.1 ++ [(13, 12)] ++ [(13, 12)] ++ [(13, 12)] ++ ((18, 4) :: List.replicate 4 (13, 4)) ++ [(13, 4)]).length = a + 10 := ap_len hl7 rfl
  have hg10 : (M.1 ++ [(13, 12)] ++ [(13, 12)] ++ [(13, 12)] ++ ((18, 4) :: List.replicate 4 (13, 4)) ++ [(13, 4)])[a]? = some (3, nF 3) := ap_old hg8
  have hF : Fr (M.1 ++ [(13, 12)] ++ [(13, 12)] ++ [(13, 12)] ++ ((18, 4) :: List.replicate 4 (13, 4)) ++ [(13, 4)], upR (rfM (upR (upR (upR (M.2.1) (a) 1 (some (a + 1))) (a) 2 (some (a + 2))) (a) 3 (some (a + 3))) (a + 4) 4) (a) 4 (some (a + 4)), wI (M.2.2) (a) 0 (0)) := hF
  show J _ _ _ _ _ _ _ _ _ _ _ (M.1 ++ [(13, 12)] ++ [(13, 12)] ++ [(13, 12)] ++ ((18, 4) :: List.replicate 4 (13, 4)) ++ [(13, 4)], upR (rfM (upR (upR (upR (M.2.1) (a) 1 (some (a + 1))) (a) 2 (some (a + 2))) (a) 3 (some (a + 3))) (a + 4) 4) (a) 4 (some (a + 4)), wI (M.2.2) (a) 0 (0)) _
  refine J_putRF rfl cf3 klX3_30 hF hg10 (Or.inr ⟨_, rfl⟩) dX3_init_47 ?_
  intro hF
  have hF : Fr (M.1 ++ [(13, 12)] ++ [(13, 12)] ++ [(13, 12)] ++ ((18, 4) :: List.replicate 4 (13, 4)) ++ [(13, 4)], upR (upR (rfM (upR (upR (upR (M.2.1) (a) 1 (some (a + 1))) (a) 2 (some (a + 2))) (a) 3 (some (a + 3))) (a + 4) 4) (a) 4 (some (a + 4))) (a) 5 (some (a + 9)), wI (M.2.2) (a) 0 (0)) := hF
  show J _ _ _ _ _ _ _ _ _ _ _ (M.1 ++ [(13, 12)] ++ [(13, 12)] ++ [(13, 12)] ++ ((18, 4) :: List.replicate 4 (13, 4)) ++ [(13, 4)], upR (upR (rfM (upR (upR (upR (M.2.1) (a) 1 (some (a + 1))) (a) 2 (some (a + 2))) (a) 3 (some (a + 3))) (a + 4) 4) (a) 4 (some (a + 4))) (a) 5 (some (a + 9)), wI (M.2.2) (a) 0 (0)) _
  refine J_aload_n dX3_init_50 rfl rfl ?_
  refine J_bipush (v := 15) dX3_init_51 (by decide) ?_
  refine J_newI (a := a + 10) (N := 15) (by decide) (by decide) (by decide) hF hl9 (Nat.le_of_ble_eq_true rfl) (Nat.le_of_ble_eq_true rfl) dX3_init_53 ?_
  intro hF
  have hl11 : (M.1 ++ [(13, 12)] ++ [(13, 12)] ++ [(13, 12)] ++ ((18, 4) :: List.replicate 4 (13, 4)) ++ [(13, 4)] ++ [(13, 15)]).length = a + 11 := ap_len hl9 rfl
  have hg12 : (M.1 ++ [(13, 12)] ++ [(13, 12)] ++ [(13, 12)] ++ ((18, 4) :: List.replicate 4 (13, 4)) ++ [(13, 4)] ++ [(13, 15)])[a]? = some (3, nF 3) := ap_old hg10
  have hF : Fr (M.1 ++ [(13, 12)] ++ [(13, 12)] ++ [(13, 12)] ++ ((18, 4) :: List.replicate 4 (13, 4)) ++ [(13, 4)] ++ [(13, 15)], upR (upR (rfM (upR (upR (upR (M.2.1) (a) 1 (some (a + 1))) (a) 2 (some (a + 2))) (a) 3 (some (a + 3))) (a + 4) 4) (a) 4 (some (a + 4))) (a) 5 (some (a + 9)), wI (M.2.2) (a) 0 (0)) := hF
  show J _ _ _ _ _ _ _ _ _ _ _ (M.1 ++ [(13, 12)] ++ [(13, 12)] ++ [(13, 12)] ++ ((18, 4) :: List.replicate 4 (13, 4)) ++ [(13, 4)] ++ [(13, 15)], upR (upR (rfM (upR (upR (upR (M.2.1) (a) 1 (some (a + 1))) (a) 2 (some (a + 2))) (a) 3 (some (a + 3))) (a + 4) 4) (a) 4 (some (a + 4))) (a) 5 (some (a + 9)), wI (M.2.2) (a) 0 (0)) _
  refine J_putRF rfl cf3 klX3_33 hF hg12 (Or.inr ⟨_, rfl⟩) dX3_init_55 ?_
  intro hF
  have hF : Fr (M.1 ++ [(13, 12)] ++ [(13, 12)] ++ [(13, 12)] ++ ((18, 4) :: List.replicate 4 (13, 4)) ++ [(13, 4)] ++ [(13, 15)], upR (upR (upR (rfM (upR (upR (upR (M.2.1) (a) 1 (some (a + 1))) (a) 2 (some (a + 2))) (a) 3 (some (a + 3))) (a + 4) 4) (a) 4 (some (a + 4))) (a) 5 (some (a + 9))) (a) 6 (some (a + 10)), wI (M.2.2) (a) 0 (0)) := hF
  show J _ _ _ _ _ _ _ _ _ _ _ (M.1 ++ [(13, 12)] ++ [(13, 12)] ++ [(13, 12)] ++ ((18, 4) :: List.replicate 4 (13, 4)) ++ [(13, 4)] ++ [(13, 15)], upR (upR (upR (rfM (upR (upR (upR (M.2.1) (a) 1 (some (a + 1))) (a) 2 (some (a + 2))) (a) 3 (some (a + 3))) (a + 4) 4) (a) 4 (some (a + 4))) (a) 5 (some (a + 9))) (a) 6 (some (a + 10)), wI (M.2.2) (a) 0 (0)) _
  exact J_return rfl (Nat.le_of_ble_eq_true rfl) (Nat.le_of_ble_eq_true rfl) rfl dX3_init_58
theorem frX3 {a : Nat} {M : Hm} (hF : Fr M) (hl : M.1.length = a + 1) : Fr (cXr3 a M) := by
  have hs : (cXr3 a M).1.length = a + 11 := by show (M.1 ++ [(13, 12)] ++ [(13, 12)] ++ [(13, 12)] ++ ((18, 4) :: List.replicate 4 (13, 4)) ++ [(13, 4)] ++ [(13, 15)]).length = _; simp [hl]
  intro q hq j
  rw [hs] at hq
  have h := hF q (by omega) j
  refine ⟨?_, ?_, h.2.2⟩
  · show (upR (upR (upR (rfM (upR (upR (upR (M.2.1) (a) 1 (some (a + 1))) (a) 2 (some (a + 2))) (a) 3 (some (a + 3))) (a + 4) 4) (a) 4 (some (a + 4))) (a) 5 (some (a + 9))) (a) 6 (some (a + 10))) q j = none
    simp only [upR, rfM]
    repeat rw [if_neg (by omega)]
    exact h.1
  · show (wI (M.2.2) (a) 0 (0)).1 q j = 0
    simp only [wI, fiI]
    repeat rw [if_neg (by omega)]
    exact h.2.1
abbrev YX8_init : MD := (RX8, cX8_init, 1, none, true)
set_option maxRecDepth 100000 in
theorem mcX8_init : MC yX8_init YX8_init 0 := ⟨rfl, ⟨by decide, by decide, by decide +kernel⟩, in1 10 (by rfl) rfl, in2 0 (by rfl) rfl⟩
set_option maxRecDepth 100000 in
theorem miX8_init : Cond.instanceMethod yX8_init ∈ TT := in1 239 (by rfl) rfl
theorem dX8_init_0 : decode cX8_init 0 = .ok (.aload_n 0, 1) := by decide +kernel
theorem dX8_init_1 : decode cX8_init 1 = .ok (.invokespecial 1, 3) := by decide +kernel
theorem dX8_init_4 : decode cX8_init 4 = .ok (.aload_n 0, 1) := by decide +kernel
theorem dX8_init_5 : decode cX8_init 5 = .ok (.bipush 6, 2) := by decide +kernel
theorem dX8_init_7 : decode cX8_init 7 = .ok (.newarray .int, 2) := by decide +kernel
theorem dX8_init_9 : decode cX8_init 9 = .ok (.putfield 9, 3) := by decide +kernel
theorem dX8_init_12 : decode cX8_init 12 = .ok (.aload_n 0, 1) := by decide +kernel
theorem dX8_init_13 : decode cX8_init 13 = .ok (.bipush 6, 2) := by decide +kernel
theorem dX8_init_15 : decode cX8_init 15 = .ok (.newarray .int, 2) := by decide +kernel
theorem dX8_init_17 : decode cX8_init 17 = .ok (.putfield 13, 3) := by decide +kernel
theorem dX8_init_20 : decode cX8_init 20 = .ok (.aload_n 0, 1) := by decide +kernel
theorem dX8_init_21 : decode cX8_init 21 = .ok (.bipush 6, 2) := by decide +kernel
theorem dX8_init_23 : decode cX8_init 23 = .ok (.newarray .int, 2) := by decide +kernel
theorem dX8_init_25 : decode cX8_init 25 = .ok (.putfield 16, 3) := by decide +kernel
theorem dX8_init_28 : decode cX8_init 28 = .ok (.aload_n 0, 1) := by decide +kernel
theorem dX8_init_29 : decode cX8_init 29 = .ok (.bipush 6, 2) := by decide +kernel
theorem dX8_init_31 : decode cX8_init 31 = .ok (.bipush 60, 2) := by decide +kernel
theorem dX8_init_33 : decode cX8_init 33 = .ok (.multianewarray 19 2, 4) := by decide +kernel
theorem dX8_init_37 : decode cX8_init 37 = .ok (.putfield 21, 3) := by decide +kernel
theorem dX8_init_40 : decode cX8_init 40 = .ok (.aload_n 0, 1) := by decide +kernel
theorem dX8_init_41 : decode cX8_init 41 = .ok (.getfield 9, 3) := by decide +kernel
theorem dX8_init_44 : decode cX8_init 44 = .ok (.bipush 6, 2) := by decide +kernel
theorem dX8_init_46 : decode cX8_init 46 = .ok (.invokestatic 24, 3) := by decide +kernel
theorem dX8_init_49 : decode cX8_init 49 = .ok (.return_, 1) := by decide +kernel
set_option maxRecDepth 100000 in
theorem klX8_9 : FL RX8 9 8 0 true := ⟨_, rfl, by decide, in2 7 (by rfl) rfl, rfl, rfl⟩
set_option maxRecDepth 100000 in
theorem klX8_13 : FL RX8 13 8 1 true := ⟨_, rfl, by decide, in2 8 (by rfl) rfl, rfl, rfl⟩
set_option maxRecDepth 100000 in
theorem klX8_16 : FL RX8 16 8 2 true := ⟨_, rfl, by decide, in2 9 (by rfl) rfl, rfl, rfl⟩
set_option maxRecDepth 100000 in
theorem klX8_21 : FL RX8 21 8 3 true := ⟨_, rfl, by decide, in2 10 (by rfl) rfl, rfl, rfl⟩
abbrev cXr8 (a : Nat) (M : Hm) : Hm := (M.1 ++ [(13, 6)] ++ [(13, 6)] ++ [(13, 6)] ++ ((19, 6) :: List.replicate 6 (14, 60)), upR (rfM (upR (upR (upR (M.2.1) (a) 0 (some (a + 1))) (a) 1 (some (a + 2))) (a) 2 (some (a + 3))) (a + 4) 6) (a) 3 (some (a + 4)), fiI (M.2.2) (a + 1) 6 6)
theorem ctX8_init (G : Gm) {a : Nat} {M : Hm} (hF : Fr M) (hl : M.1.length = a + 1) (h0 : M.1[a]? = some (8, nF 8)) : Ct G YX8_init yX8_init 2 10 384 finH (some (cXr8 a M)) [vR (some a)] M := by
  refine Ct_of_J [some (vR (some a))] (by decide) rfl (fun _ => rfl) (Nat.le_of_ble_eq_true rfl) (And.intro rfl trivial) ?_
  refine J_aload_n dX8_init_0 rfl rfl ?_
  refine J_objInit (in2 1 (by rfl) rfl) w_oi1 w_oi2 (Nat.le_of_ble_eq_true rfl) (Nat.le_of_ble_eq_true rfl) dX8_init_1 ?_
  refine J_aload_n dX8_init_4 rfl rfl ?_
  refine J_bipush (v := 6) dX8_init_5 (by decide) ?_
  refine J_newI (a := a + 1) (N := 6) (by decide) (by decide) (by decide) hF hl (Nat.le_of_ble_eq_true rfl) (Nat.le_of_ble_eq_true rfl) dX8_init_7 ?_
  intro hF
  have hl1 : (M.1 ++ [(13, 6)]).length = a + 2 := ap_len hl rfl
  have hg2 : (M.1 ++ [(13, 6)])[a]? = some (8, nF 8) := ap_old h0
  have hg3 : (M.1 ++ [(13, 6)])[a + 1]? = some (13, 6) := ap_new hl
  have hF : Fr (M.1 ++ [(13, 6)], M.2.1, M.2.2) := hF
  show J _ _ _ _ _ _ _ _ _ _ _ (M.1 ++ [(13, 6)], M.2.1, M.2.2) _
  refine J_putRF rfl cf8 klX8_9 hF hg2 (Or.inr ⟨_, rfl⟩) dX8_init_9 ?_
  intro hF
  have hF : Fr (M.1 ++ [(13, 6)], upR (M.2.1) (a) 0 (some (a + 1)), M.2.2) := hF
  show J _ _ _ _ _ _ _ _ _ _ _ (M.1 ++ [(13, 6)], upR (M.2.1) (a) 0 (some (a + 1)), M.2.2) _
  refine J_aload_n dX8_init_12 rfl rfl ?_
  refine J_bipush (v := 6) dX8_init_13 (by decide) ?_
  refine J_newI (a := a + 2) (N := 6) (by decide) (by decide) (by decide) hF hl1 (Nat.le_of_ble_eq_true rfl) (Nat.le_of_ble_eq_true rfl) dX8_init_15 ?_
  intro hF
  have hl4 : (M.1 ++ [(13, 6)] ++ [(13, 6)]).length = a + 3 := ap_len hl1 rfl
  have hg5 : (M.1 ++ [(13, 6)] ++ [(13, 6)])[a]? = some (8, nF 8) := ap_old hg2
  have hg6 : (M.1 ++ [(13, 6)] ++ [(13, 6)])[a + 1]? = some (13, 6) := ap_old hg3
  have hF : Fr (M.1 ++ [(13, 6)] ++ [(13, 6)], upR (M.2.1) (a) 0 (some (a + 1)), M.2.2) := hF
  show J _ _ _ _ _ _ _ _ _ _ _ (M.1 ++ [(13, 6)] ++ [(13, 6)], upR (M.2.1) (a) 0 (some (a + 1)), M.2.2) _
  refine J_putRF rfl cf8 klX8_13 hF hg5 (Or.inr ⟨_, rfl⟩) dX8_init_17 ?_
  intro hF
  have hF : Fr (M.1 ++ [(13, 6)] ++ [(13, 6)], upR (upR (M.2.1) (a) 0 (some (a + 1))) (a) 1 (some (a + 2)), M.2.2) := hF
  show J _ _ _ _ _ _ _ _ _ _ _ (M.1 ++ [(13, 6)] ++ [(13, 6)], upR (upR (M.2.1) (a) 0 (some (a + 1))) (a) 1 (some (a + 2)), M.2.2) _
  refine J_aload_n dX8_init_20 rfl rfl ?_
  refine J_bipush (v := 6) dX8_init_21 (by decide) ?_
  refine J_newI (a := a + 3) (N := 6) (by decide) (by decide) (by decide) hF hl4 (Nat.le_of_ble_eq_true rfl) (Nat.le_of_ble_eq_true rfl) dX8_init_23 ?_
  intro hF
  have hl7 : (M.1 ++ [(13, 6)] ++ [(13, 6)] ++ [(13, 6)]).length = a + 4 := ap_len hl4 rfl
  have hg8 : (M.1 ++ [(13, 6)] ++ [(13, 6)] ++ [(13, 6)])[a]? = some (8, nF 8) := ap_old hg5
  have hg9 : (M.1 ++ [(13, 6)] ++ [(13, 6)] ++ [(13, 6)])[a + 1]? = some (13, 6) := ap_old hg6
  have hF : Fr (M.1 ++ [(13, 6)] ++ [(13, 6)] ++ [(13, 6)], upR (upR (M.2.1) (a) 0 (some (a + 1))) (a) 1 (some (a + 2)), M.2.2) := hF
  show J _ _ _ _ _ _ _ _ _ _ _ (M.1 ++ [(13, 6)] ++ [(13, 6)] ++ [(13, 6)], upR (upR (M.2.1) (a) 0 (some (a + 1))) (a) 1 (some (a + 2)), M.2.2) _
  refine J_putRF rfl cf8 klX8_16 hF hg8 (Or.inr ⟨_, rfl⟩) dX8_init_25 ?_
  intro hF
  have hF : Fr (M.1 ++ [(13, 6)] ++ [(13, 6)] ++ [(13, 6)], upR (upR (upR (M.2.1) (a) 0 (some (a + 1))) (a) 1 (some (a + 2))) (a) 2 (some (a + 3)), M.2.2) := hF
  show J _ _ _ _ _ _ _ _ _ _ _ (M.1 ++ [(13, 6)] ++ [(13, 6)] ++ [(13, 6)], upR (upR (upR (M.2.1) (a) 0 (some (a + 1))) (a) 1 (some (a + 2))) (a) 2 (some (a + 3)), M.2.2) _
  refine J_aload_n dX8_init_28 rfl rfl ?_
  refine J_bipush (v := 6) dX8_init_29 (by decide) ?_
  refine J_bipush (v := 60) dX8_init_31 (by decide) ?_
  refine J_multi (a := a + 4) (N := 6) (K := 60) (kd := 19) (kd2 := 14) (ty := .long) (by simp) (in2 2 (by rfl) rfl) (by decide) (by decide) (by decide) (by decide) (by decide) (by decide) hF hl7 (Nat.le_of_ble_eq_true rfl) (Nat.le_of_ble_eq_true rfl) dX8_init_33 ?_
  intro hF
  have hl10 : (M.1 ++ [(13, 6)] ++ [(13, 6)] ++ [(13, 6)] ++ ((19, 6) :: List.replicate 6 (14, 60))).length = a + 11 := ap_len hl7 rfl
  have hg11 : (M.1 ++ [(13, 6)] ++ [(13, 6)] ++ [(13, 6)] ++ ((19, 6) :: List.replicate 6 (14, 60)))[a]? = some (8, nF 8) := ap_old hg8
  have hg12 : (M.1 ++ [(13, 6)] ++ [(13, 6)] ++ [(13, 6)] ++ ((19, 6) :: List.replicate 6 (14, 60)))[a + 1]? = some (13, 6) := ap_old hg9
  have hF : Fr (M.1 ++ [(13, 6)] ++ [(13, 6)] ++ [(13, 6)] ++ ((19, 6) :: List.replicate 6 (14, 60)), rfM (upR (upR (upR (M.2.1) (a) 0 (some (a + 1))) (a) 1 (some (a + 2))) (a) 2 (some (a + 3))) (a + 4) 6, M.2.2) := hF
  show J _ _ _ _ _ _ _ _ _ _ _ (M.1 ++ [(13, 6)] ++ [(13, 6)] ++ [(13, 6)] ++ ((19, 6) :: List.replicate 6 (14, 60)), rfM (upR (upR (upR (M.2.1) (a) 0 (some (a + 1))) (a) 1 (some (a + 2))) (a) 2 (some (a + 3))) (a + 4) 6, M.2.2) _
  refine J_putRF rfl cf8 klX8_21 hF hg11 (Or.inr ⟨_, rfl⟩) dX8_init_37 ?_
  intro hF
  have hF : Fr (M.1 ++ [(13, 6)] ++ [(13, 6)] ++ [(13, 6)] ++ ((19, 6) :: List.replicate 6 (14, 60)), upR (rfM (upR (upR (upR (M.2.1) (a) 0 (some (a + 1))) (a) 1 (some (a + 2))) (a) 2 (some (a + 3))) (a + 4) 6) (a) 3 (some (a + 4)), M.2.2) := hF
  show J _ _ _ _ _ _ _ _ _ _ _ (M.1 ++ [(13, 6)] ++ [(13, 6)] ++ [(13, 6)] ++ ((19, 6) :: List.replicate 6 (14, 60)), upR (rfM (upR (upR (upR (M.2.1) (a) 0 (some (a + 1))) (a) 1 (some (a + 2))) (a) 2 (some (a + 3))) (a + 4) 6) (a) 3 (some (a + 4)), M.2.2) _
  refine J_aload_n dX8_init_40 rfl rfl ?_
  refine J_getR (r := some (a + 1)) cf8 klX8_9 hg11 (by simp [upR, rfM]) (Or.inr ⟨_, rfl⟩) dX8_init_41 ?_
  refine J_bipush (v := 6) dX8_init_44 (by decide) ?_
  refine J_cS (M.1 ++ [(13, 6)] ++ [(13, 6)] ++ [(13, 6)] ++ ((19, 6) :: List.replicate 6 (14, 60)), upR (rfM (upR (upR (upR (M.2.1) (a) 0 (some (a + 1))) (a) 1 (some (a + 2))) (a) 2 (some (a + 3))) (a + 4) 6) (a) 3 (some (a + 4)), fiI (M.2.2) (a + 1) 6 6) (As := [vR (some (a + 1)), vI 6]) (d2 := 1) (mc2 := 0) (ms2 := 0) mcJ7_fill_53178.1 mcJ7_fill_53178.2 (in2 4 (by rfl) rfl) (ctF_fill (M := (M.1 ++ [(13, 6)] ++ [(13, 6)] ++ [(13, 6)] ++ ((19, 6) :: List.replicate 6 (14, 60)), upR (rfM (upR (upR (upR (M.2.1) (a) 0 (some (a + 1))) (a) 1 (some (a + 2))) (a) 2 (some (a + 3))) (a + 4) 6) (a) 3 (some (a + 4)), M.2.2)) (N := 6) G hg12 (by decide)) rfl rfl (Nat.le_of_ble_eq_true rfl) (Nat.le_of_ble_eq_true rfl) (Nat.le_of_ble_eq_true rfl) (Nat.le_of_ble_eq_true rfl) (Nat.le_of_ble_eq_true rfl) dX8_init_46 ?_
  have hF := hF.fiI (a := a + 1) (n := 6) (x := 6) (List.getElem?_eq_some_iff.mp hg12).1
  have hF : Fr (M.1 ++ [(13, 6)] ++ [(13, 6)] ++ [(13, 6)] ++ ((19, 6) :: List.replicate 6 (14, 60)), upR (rfM (upR (upR (upR (M.2.1) (a) 0 (some (a + 1))) (a) 1 (some (a + 2))) (a) 2 (some (a + 3))) (a + 4) 6) (a) 3 (some (a + 4)), fiI (M.2.2) (a + 1) 6 6) := hF
  show J _ _ _ _ _ _ _ _ _ _ _ (M.1 ++ [(13, 6)] ++ [(13, 6)] ++ [(13, 6)] ++ ((19, 6) :: List.replicate 6 (14, 60)), upR (rfM (upR (upR (upR (M.2.1) (a) 0 (some (a + 1))) (a) 1 (some (a + 2))) (a) 2 (some (a + 3))) (a + 4) 6) (a) 3 (some (a + 4)), fiI (M.2.2) (a + 1) 6 6) _
  exact J_return rfl (Nat.le_of_ble_eq_true rfl) (Nat.le_of_ble_eq_true rfl) rfl dX8_init_49
theorem frX8 {a : Nat} {M : Hm} (hF : Fr M) (hl : M.1.length = a + 1) : Fr (cXr8 a M) := by
  have hs : (cXr8 a M).1.length = a + 11 := by show (M.1 ++ [(13, 6)] ++ [(13, 6)] ++ [(13, 6)] ++ ((19, 6) :: List.replicate 6 (14, 60))).length = _; simp [hl]
  intro q hq j
  rw [hs] at hq
  have h := hF q (by omega) j
  refine ⟨?_, ?_, h.2.2⟩
  · show (upR (rfM (upR (upR (upR (M.2.1) (a) 0 (some (a + 1))) (a) 1 (some (a + 2))) (a) 2 (some (a + 3))) (a + 4) 6) (a) 3 (some (a + 4))) q j = none
    simp only [upR, rfM]
    repeat rw [if_neg (by omega)]
    exact h.1
  · show (fiI (M.2.2) (a + 1) 6 6).1 q j = 0
    simp only [wI, fiI]
    repeat rw [if_neg (by omega)]
    exact h.2.1
abbrev YX7_init : MD := (RX7, cX7_init, 1, none, true)
set_option maxRecDepth 100000 in
theorem mcX7_init : MC yX7_init YX7_init 0 := ⟨rfl, ⟨by decide, by decide, by decide +kernel⟩, in1 5 (by rfl) rfl, in1 106 (by rfl) rfl⟩
set_option maxRecDepth 100000 in
theorem miX7_init : Cond.instanceMethod yX7_init ∈ TT := in1 105 (by rfl) rfl
theorem dX7_init_0 : decode cX7_init 0 = .ok (.aload_n 0, 1) := by decide +kernel
theorem dX7_init_1 : decode cX7_init 1 = .ok (.invokespecial 3, 3) := by decide +kernel
theorem dX7_init_4 : decode cX7_init 4 = .ok (.aload_n 0, 1) := by decide +kernel
theorem dX7_init_5 : decode cX7_init 5 = .ok (.new 9, 3) := by decide +kernel
theorem dX7_init_8 : decode cX7_init 8 = .ok (.dup, 1) := by decide +kernel
theorem dX7_init_9 : decode cX7_init 9 = .ok (.invokespecial 11, 3) := by decide +kernel
theorem dX7_init_12 : decode cX7_init 12 = .ok (.putfield 12, 3) := by decide +kernel
theorem dX7_init_15 : decode cX7_init 15 = .ok (.aload_n 0, 1) := by decide +kernel
theorem dX7_init_16 : decode cX7_init 16 = .ok (.new 9, 3) := by decide +kernel
theorem dX7_init_19 : decode cX7_init 19 = .ok (.dup, 1) := by decide +kernel
theorem dX7_init_20 : decode cX7_init 20 = .ok (.invokespecial 11, 3) := by decide +kernel
theorem dX7_init_23 : decode cX7_init 23 = .ok (.putfield 18, 3) := by decide +kernel
theorem dX7_init_26 : decode cX7_init 26 = .ok (.aload_n 0, 1) := by decide +kernel
theorem dX7_init_27 : decode cX7_init 27 = .ok (.iconst 0, 1) := by decide +kernel
theorem dX7_init_28 : decode cX7_init 28 = .ok (.putfield 21, 3) := by decide +kernel
theorem dX7_init_31 : decode cX7_init 31 = .ok (.aload_n 0, 1) := by decide +kernel
theorem dX7_init_32 : decode cX7_init 32 = .ok (.iconst 0, 1) := by decide +kernel
theorem dX7_init_33 : decode cX7_init 33 = .ok (.putfield 25, 3) := by decide +kernel
theorem dX7_init_36 : decode cX7_init 36 = .ok (.aload_n 0, 1) := by decide +kernel
theorem dX7_init_37 : decode cX7_init 37 = .ok (.iconst 0, 1) := by decide +kernel
theorem dX7_init_38 : decode cX7_init 38 = .ok (.putfield 29, 3) := by decide +kernel
theorem dX7_init_41 : decode cX7_init 41 = .ok (.aload_n 0, 1) := by decide +kernel
theorem dX7_init_42 : decode cX7_init 42 = .ok (.iconst 0, 1) := by decide +kernel
theorem dX7_init_43 : decode cX7_init 43 = .ok (.putfield 32, 3) := by decide +kernel
theorem dX7_init_46 : decode cX7_init 46 = .ok (.aload_n 0, 1) := by decide +kernel
theorem dX7_init_47 : decode cX7_init 47 = .ok (.iconst 0, 1) := by decide +kernel
theorem dX7_init_48 : decode cX7_init 48 = .ok (.putfield 35, 3) := by decide +kernel
theorem dX7_init_51 : decode cX7_init 51 = .ok (.aload_n 0, 1) := by decide +kernel
theorem dX7_init_52 : decode cX7_init 52 = .ok (.iconst 0, 1) := by decide +kernel
theorem dX7_init_53 : decode cX7_init 53 = .ok (.putfield 38, 3) := by decide +kernel
theorem dX7_init_56 : decode cX7_init 56 = .ok (.aload_n 0, 1) := by decide +kernel
theorem dX7_init_57 : decode cX7_init 57 = .ok (.iconst 0, 1) := by decide +kernel
theorem dX7_init_58 : decode cX7_init 58 = .ok (.putfield 41, 3) := by decide +kernel
theorem dX7_init_61 : decode cX7_init 61 = .ok (.return_, 1) := by decide +kernel
set_option maxRecDepth 100000 in
theorem klX7_12 : FL RX7 12 7 0 true := ⟨_, rfl, by decide, in1 110 (by rfl) rfl, rfl, rfl⟩
set_option maxRecDepth 100000 in
theorem klX7_18 : FL RX7 18 7 1 true := ⟨_, rfl, by decide, in1 111 (by rfl) rfl, rfl, rfl⟩
set_option maxRecDepth 100000 in
theorem klX7_21 : FL RX7 21 7 2 false := ⟨_, rfl, by decide, in1 112 (by rfl) rfl, rfl, rfl⟩
set_option maxRecDepth 100000 in
theorem klX7_25 : FL RX7 25 7 3 false := ⟨_, rfl, by decide, in1 113 (by rfl) rfl, rfl, rfl⟩
set_option maxRecDepth 100000 in
theorem klX7_29 : FL RX7 29 7 4 false := ⟨_, rfl, by decide, in1 114 (by rfl) rfl, rfl, rfl⟩
set_option maxRecDepth 100000 in
theorem klX7_32 : FL RX7 32 7 5 false := ⟨_, rfl, by decide, in1 115 (by rfl) rfl, rfl, rfl⟩
set_option maxRecDepth 100000 in
theorem klX7_35 : FL RX7 35 7 6 false := ⟨_, rfl, by decide, in1 116 (by rfl) rfl, rfl, rfl⟩
set_option maxRecDepth 100000 in
theorem klX7_38 : FL RX7 38 7 7 false := ⟨_, rfl, by decide, in1 117 (by rfl) rfl, rfl, rfl⟩
set_option maxRecDepth 100000 in
theorem klX7_41 : FL RX7 41 7 8 false := ⟨_, rfl, by decide, in1 118 (by rfl) rfl, rfl, rfl⟩
abbrev cXr7 (a : Nat) (M : Hm) : Hm := (M.1 ++ [(6, nF 6)] ++ [(13, 12)] ++ [(6, nF 6)] ++ [(13, 12)], upR (upR (upR (upR (M.2.1) (a + 1) 0 (some (a + 2))) (a) 0 (some (a + 1))) (a + 3) 0 (some (a + 4))) (a) 1 (some (a + 3)), wI (wI (wI (wI (wI (wI (wI (wI (wI (M.2.2) (a + 1) 1 (0)) (a + 3) 1 (0)) (a) 2 (0)) (a) 3 (0)) (a) 4 (0)) (a) 5 (0)) (a) 6 (0)) (a) 7 (0)) (a) 8 (0))
theorem ctX7_init (G : Gm) {a : Nat} {M : Hm} (hF : Fr M) (hl : M.1.length = a + 1) (h0 : M.1[a]? = some (7, nF 7)) : Ct G YX7_init yX7_init 2 4 28 finH (some (cXr7 a M)) [vR (some a)] M := by
  refine Ct_of_J [some (vR (some a))] (by decide) rfl (fun _ => rfl) (Nat.le_of_ble_eq_true rfl) (And.intro rfl trivial) ?_
  refine J_aload_n dX7_init_0 rfl rfl ?_
  refine J_objInit (in1 107 (by rfl) rfl) w_oi1 w_oi2 (Nat.le_of_ble_eq_true rfl) (Nat.le_of_ble_eq_true rfl) dX7_init_1 ?_
  refine J_aload_n dX7_init_4 rfl rfl ?_
  refine J_new (a := a + 1) (C := RX6) cf6 rfl (in1 108 (by rfl) rfl) (in1 28 (by rfl) rfl) (in1 2 (by rfl) rfl) (by decide) hF hl (Nat.le_of_ble_eq_true rfl) (Nat.le_of_ble_eq_true rfl) dX7_init_5 ?_
  intro hF
  have hl1 : (M.1 ++ [(6, nF 6)]).length = a + 2 := ap_len hl rfl
  have hg2 : (M.1 ++ [(6, nF 6)])[a]? = some (7, nF 7) := ap_old h0
  have hg3 : (M.1 ++ [(6, nF 6)])[a + 1]? = some (6, nF 6) := ap_new hl
  have hF : Fr (M.1 ++ [(6, nF 6)], M.2.1, M.2.2) := hF
  show J _ _ _ _ _ _ _ _ _ _ _ (M.1 ++ [(6, nF 6)], M.2.1, M.2.2) _
  refine J_dup dX7_init_8 rfl ?_
  refine J_cN (cXr6 (a + 1) (M.1 ++ [(6, nF 6)], M.2.1, M.2.2)) mcX6_init miX6_init (List.mem_of_getElem? (i := 4) rfl) rfl rfl (ctX6_init G hF hl1 hg3) rfl rfl (Nat.le_of_ble_eq_true rfl) (Nat.le_of_ble_eq_true rfl) (Nat.le_of_ble_eq_true rfl) (Nat.le_of_ble_eq_true rfl) (Nat.le_of_ble_eq_true rfl) dX7_init_9 ?_
  have hF := frX6 hF hl1
  have hl4 : (M.1 ++ [(6, nF 6)] ++ [(13, 12)]).length = a + 3 := ap_len hl1 rfl
  have hg5 : (M.1 ++ [(6, nF 6)] ++ [(13, 12)])[a]? = some (7, nF 7) := ap_old hg2
  have hg6 : (M.1 ++ [(6, nF 6)] ++ [(13, 12)])[a + 1]? = some (6, nF 6) := ap_old hg3
  have hF : Fr (M.1 ++ [(6, nF 6)] ++ [(13, 12)], upR (M.2.1) (a + 1) 0 (some (a + 2)), wI (M.2.2) (a + 1) 1 (0)) := hF
  show J _ _ _ _ _ _ _ _ _ _ _ (M.1 ++ [(6, nF 6)] ++ [(13, 12)], upR (M.2.1) (a + 1) 0 (some (a + 2)), wI (M.2.2) (a + 1) 1 (0)) _
  refine J_putRF rfl cf7 klX7_12 hF hg5 (Or.inl ⟨_, rfl⟩) dX7_init_12 ?_
  intro hF
  have hF : Fr (M.1 ++ [(6, nF 6)] ++ [(13, 12)], upR (upR (M.2.1) (a + 1) 0 (some (a + 2))) (a) 0 (some (a + 1)), wI (M.2.2) (a + 1) 1 (0)) := hF
  show J _ _ _ _ _ _ _ _ _ _ _ (M.1 ++ [(6, nF 6)] ++ [(13, 12)], upR (upR (M.2.1) (a + 1) 0 (some (a + 2))) (a) 0 (some (a + 1)), wI (M.2.2) (a + 1) 1 (0)) _
  refine J_aload_n dX7_init_15 rfl rfl ?_
  refine J_new (a := a + 3) (C := RX6) cf6 rfl (in1 108 (by rfl) rfl) (in1 28 (by rfl) rfl) (in1 2 (by rfl) rfl) (by decide) hF hl4 (Nat.le_of_ble_eq_true rfl) (Nat.le_of_ble_eq_true rfl) dX7_init_16 ?_
  intro hF
  have hl7 : (M.1 ++ [(6, nF 6)] ++ [(13, 12)] ++ [(6, nF 6)]).length = a + 4 := ap_len hl4 rfl
  have hg8 : (M.1 ++ [(6, nF 6)] ++ [(13, 12)] ++ [(6, nF 6)])[a]? = some (7, nF 7) := ap_old hg5
  have hg9 : (M.1 ++ [(6, nF 6)] ++ [(13, 12)] ++ [(6, nF 6)])[a + 3]? = some (6, nF 6) := ap_new hl4
  have hF : Fr (M.1 ++ [(6, nF 6)] ++ [(13, 12)] ++ [(6, nF 6)], upR (upR (M.2.1) (a + 1) 0 (some (a + 2))) (a) 0 (some (a + 1)), wI (M.2.2) (a + 1) 1 (0)) := hF
  show J _ _ _ _ _ _ _ _ _ _ _ (M.1 ++ [(6, nF 6)] ++ [(13, 12)] ++ [(6, nF 6)], upR (upR (M.2.1) (a + 1) 0 (some (a + 2))) (a) 0 (some (a + 1)), wI (M.2.2) (a + 1) 1 (0)) _
  refine J_dup dX7_init_19 rfl ?_
  refine J_cN (cXr6 (a + 3) (M.1 ++ [(6, nF 6)] ++ [(13, 12)] ++ [(6, nF 6)], upR (upR (M.2.1) (a + 1) 0 (some (a + 2))) (a) 0 (some (a + 1)), wI (M.2.2) (a + 1) 1 (0))) mcX6_init miX6_init (List.mem_of_getElem? (i := 4) rfl) rfl rfl (ctX6_init G hF hl7 hg9) rfl rfl (Nat.le_of_ble_eq_true rfl) (Nat.le_of_ble_eq_true rfl) (Nat.le_of_ble_eq_true rfl) (Nat.le_of_ble_eq_true rfl) (Nat.le_of_ble_eq_true rfl) dX7_init_20 ?_
  have hF := frX6 hF hl7
  have hl10 : (M.1 ++ [(6, nF 6)] ++ [(13, 12)] ++ [(6, nF 6)] ++ [(13, 12)]).length = a + 5 := ap_len hl7 rfl
  have hg11 : (M.1 ++ [(6, nF 6)] ++ [(13, 12)] ++ [(6, nF 6)] ++ [(13, 12)])[a]? = some (7, nF 7) := ap_old hg8
  have hg12 : (M.1 ++ [(6, nF 6)] ++ [(13, 12)] ++ [(6, nF 6)] ++ [(13, 12)])[a + 3]? = some (6, nF 6) := ap_old hg9
  have hF : Fr (M.1 ++ [(6, nF 6)] ++ [(13, 12)] ++ [(6, nF 6)] ++ [(13, 12)], upR (upR (upR (M.2.1) (a + 1) 0 (some (a + 2))) (a) 0 (some (a + 1))) (a + 3) 0 (some (a + 4)), wI (wI (M.2.2) (a + 1) 1 (0)) (a + 3) 1 (0)) := hF
  show J _ _ _ _ _ _ _ _ _ _ _ (M.1 ++ [(6, nF 6)] ++ [(13, 12)] ++ [(6, nF 6)] ++ [(13, 12)], upR (upR (upR (M.2.1) (a + 1) 0 (some (a + 2))) (a) 0 (some (a + 1))) (a + 3) 0 (some (a + 4)), wI (wI (M.2.2) (a + 1) 1 (0)) (a + 3) 1 (0)) _
  refine J_putRF rfl cf7 klX7_18 hF hg11 (Or.inl ⟨_, rfl⟩) dX7_init_23 ?_
  intro hF
  have hF : Fr (M.1 ++ [(6, nF 6)] ++ [(13, 12)] ++ [(6, nF 6)] ++ [(13, 12)], upR (upR (upR (upR (M.2.1) (a + 1) 0 (some (a + 2))) (a) 0 (some (a + 1))) (a + 3) 0 (some (a + 4))) (a) 1 (some (a + 3)), wI (wI (M.2.2) (a + 1) 1 (0)) (a + 3) 1 (0)) := hF
  show J _ _ _ _ _ _ _ _ _ _ _ (M.1 ++ [(6, nF 6)] ++ [(13, 12)] ++ [(6, nF 6)] ++ [(13, 12)], upR (upR (upR (upR (M.2.1) (a + 1) 0 (some (a + 2))) (a) 0 (some (a + 1))) (a + 3) 0 (some (a + 4))) (a) 1 (some (a + 3)), wI (wI (M.2.2) (a + 1) 1 (0)) (a + 3) 1 (0)) _
  refine J_aload_n dX7_init_26 rfl rfl ?_
  refine J_iconst (v := 0) dX7_init_27 (by decide) ?_
  refine J_putZ (by decide) cf7 klX7_21 hg11 rfl dX7_init_28 ?_
  have hF := hF.wI (a := a) (k := 2) (x := 0) (List.getElem?_eq_some_iff.mp hg11).1
  have hF : Fr (M.1 ++ [(6, nF 6)] ++ [(13, 12)] ++ [(6, nF 6)] ++ [(13, 12)], upR (upR (upR (upR (M.2.1) (a + 1) 0 (some (a + 2))) (a) 0 (some (a + 1))) (a + 3) 0 (some (a + 4))) (a) 1 (some (a + 3)), wI (wI (wI (M.2.2) (a + 1) 1 (0)) (a + 3) 1 (0)) (a) 2 (0)) := hF
  show J _ _ _ _ _ _ _ _ _ _ _ (M.1 ++ [(6, nF 6)] ++ [(13, 12)] ++ [(6, nF 6)] ++ [(13, 12)], upR (upR (upR (upR (M.2.1) (a + 1) 0 (some (a + 2))) (a) 0 (some (a + 1))) (a + 3) 0 (some (a + 4))) (a) 1 (some (a + 3)), wI (wI (wI (M.2.2) (a + 1) 1 (0)) (a + 3) 1 (0)) (a) 2 (0)) _
  refine J_aload_n dX7_init_31 rfl rfl ?_
  refine J_iconst (v := 0) dX7_init_32 (by decide) ?_
  refine J_putI cf7 klX7_25 hg11 rfl dX7_init_33 ?_
  have hF := hF.wI (a := a) (k := 3) (x := 0) (List.getElem?_eq_some_iff.mp hg11).1
  have hF : Fr (M.1 ++ [(6, nF 6)] ++ [(13, 12)] ++ [(6, nF 6)] ++ [(13, 12)], upR (upR (upR (upR (M.2.1) (a + 1) 0 (some (a + 2))) (a) 0 (some (a + 1))) (a + 3) 0 (some (a + 4))) (a) 1 (some (a + 3)), wI (wI (wI (wI (M.2.2) (a + 1) 1 (0)) (a + 3) 1 (0)) (a) 2 (0)) (a) 3 (0)) := hF
  show J _ _ _ _ _ _ _ _ _ _ _ (M.1 ++ [(6, nF 6)] ++ [(13, 12)] ++ [(6, nF 6)] ++ [(13, 12)], upR (upR (upR (upR (M.2.1) (a + 1) 0 (some (a + 2))) (a) 0 (some (a + 1))) (a + 3) 0 (some (a + 4))) (a) 1 (some (a + 3)), wI (wI (wI (wI (M.2.2) (a + 1) 1 (0)) (a + 3) 1 (0)) (a) 2 (0)) (a) 3 (0)) _
  refine J_aload_n dX7_init_36 rfl rfl ?_
  refine J_iconst (v := 0) dX7_init_37 (by decide) ?_
  refine J_putI cf7 klX7_29 hg11 rfl dX7_init_38 ?_
  have hF := hF.wI (a := a) (k := 4) (x := 0) (List.getElem?_eq_some_iff.mp hg11).1
  have hF : Fr (M.1 ++ [(6, nF 6)] ++ [(13, 12)] ++ [(6, nF 6)] ++ [(13, 12)], upR (upR (upR (upR (M.2.1) (a + 1) 0 (some (a + 2))) (a) 0 (some (a + 1))) (a + 3) 0 (some (a + 4))) (a) 1 (some (a + 3)), wI (wI (wI (wI (wI (M.2.2) (a + 1) 1 (0)) (a + 3) 1 (0)) (a) 2 (0)) (a) 3 (0)) (a) 4 (0)) := hF
  show J _ _ _ _ _ _ _ _ _ _ _ (M.1 ++ [(6, nF 6)] ++ [(13, 12)] ++ [(6, nF 6)] ++ [(13, 12)], upR (upR (upR (upR (M.2.1) (a + 1) 0 (some (a + 2))) (a) 0 (some (a + 1))) (a + 3) 0 (some (a + 4))) (a) 1 (some (a + 3)), wI (wI (wI (wI (wI (M.2.2) (a + 1) 1 (0)) (a + 3) 1 (0)) (a) 2 (0)) (a) 3 (0)) (a) 4 (0)) _
  refine J_aload_n dX7_init_41 rfl rfl ?_
  refine J_iconst (v := 0) dX7_init_42 (by decide) ?_
  refine J_putI cf7 klX7_32 hg11 rfl dX7_init_43 ?_
  have hF := hF.wI (a := a) (k := 5) (x := 0) (List.getElem?_eq_some_iff.mp hg11).1
  have hF : Fr (M.1 ++ [(6, nF 6)] ++ [(13, 12)] ++ [(6, nF 6)] ++ [(13, 12)], upR (upR (upR (upR (M.2.1) (a + 1) 0 (some (a + 2))) (a) 0 (some (a + 1))) (a + 3) 0 (some (a + 4))) (a) 1 (some (a + 3)), wI (wI (wI (wI (wI (wI (M.2.2) (a + 1) 1 (0)) (a + 3) 1 (0)) (a) 2 (0)) (a) 3 (0)) (a) 4 (0)) (a) 5 (0)) := hF
  show J _ _ _ _ _ _ _ _ _ _ _ (M.1 ++ [(6, nF 6)] ++ [(13, 12)] ++ [(6, nF 6)] ++ [(13, 12)], upR (upR (upR (upR (M.2.1) (a + 1) 0 (some (a + 2))) (a) 0 (some (a + 1))) (a + 3) 0 (some (a + 4))) (a) 1 (some (a + 3)), wI (wI (wI (wI (wI (wI (M.2.2) (a + 1) 1 (0)) (a + 3) 1 (0)) (a) 2 (0)) (a) 3 (0)) (a) 4 (0)) (a) 5 (0)) _
  refine J_aload_n dX7_init_46 rfl rfl ?_
  refine J_iconst (v := 0) dX7_init_47 (by decide) ?_
  refine J_putI cf7 klX7_35 hg11 rfl dX7_init_48 ?_
  have hF := hF.wI (a := a) (k := 6) (x := 0) (List.getElem?_eq_some_iff.mp hg11).1
  have hF : Fr (M.1 ++ [(6, nF 6)] ++ [(13, 12)] ++ [(6, nF 6)] ++ [(13, 12)], upR (upR (upR (upR (M.2.1) (a + 1) 0 (some (a + 2))) (a) 0 (some (a + 1))) (a + 3) 0 (some (a + 4))) (a) 1 (some (a + 3)), wI (wI (wI (wI (wI (wI (wI (M.2.2) (a + 1) 1 (0)) (a + 3) 1 (0)) (a) 2 (0)) (a) 3 (0)) (a) 4 (0)) (a) 5 (0)) (a) 6 (0)) := hF
  show J _ _ _ _ _ _ _ _ _ _ _ (M.1 ++ [(6, nF 6)] ++ [(13, 12)] ++ [(6, nF 6)] ++ [(13, 12)], upR (upR (upR (upR (M.2.1) (a + 1) 0 (some (a + 2))) (a) 0 (some (a + 1))) (a + 3) 0 (some (a + 4))) (a) 1 (some (a + 3)), wI (wI (wI (wI (wI (wI (wI (M.2.2) (a + 1) 1 (0)) (a + 3) 1 (0)) (a) 2 (0)) (a) 3 (0)) (a) 4 (0)) (a) 5 (0)) (a) 6 (0)) _
  refine J_aload_n dX7_init_51 rfl rfl ?_
  refine J_iconst (v := 0) dX7_init_52 (by decide) ?_
  refine J_putI cf7 klX7_38 hg11 rfl dX7_init_53 ?_
  have hF := hF.wI (a := a) (k := 7) (x := 0) (List.getElem?_eq_some_iff.mp hg11).1
  have hF : Fr (M.1 ++ [(6, nF 6)] ++ [(13, 12)] ++ [(6, nF 6)] ++ [(13, 12)], upR (upR (upR (upR (M.2.1) (a + 1) 0 (some (a + 2))) (a) 0 (some (a + 1))) (a + 3) 0 (some (a + 4))) (a) 1 (some (a + 3)), wI (wI (wI (wI (wI (wI (wI (wI (M.2.2) (a + 1) 1 (0)) (a + 3) 1 (0)) (a) 2 (0)) (a) 3 (0)) (a) 4 (0)) (a) 5 (0)) (a) 6 (0)) (a) 7 (0)) := hF
  show J _ _ _ _ _ _ _ _ _ _ _ (M.1 ++ [(6, nF 6)] ++ [(13, 12)] ++ [(6, nF 6)] ++ [(13, 12)], upR (upR (upR (upR (M.2.1) (a + 1) 0 (some (a + 2))) (a) 0 (some (a + 1))) (a + 3) 0 (some (a + 4))) (a) 1 (some (a + 3)), wI (wI (wI (wI (wI (wI (wI (wI (M.2.2) (a + 1) 1 (0)) (a + 3) 1 (0)) (a) 2 (0)) (a) 3 (0)) (a) 4 (0)) (a) 5 (0)) (a) 6 (0)) (a) 7 (0)) _
  refine J_aload_n dX7_init_56 rfl rfl ?_
  refine J_iconst (v := 0) dX7_init_57 (by decide) ?_
  refine J_putI cf7 klX7_41 hg11 rfl dX7_init_58 ?_
  have hF := hF.wI (a := a) (k := 8) (x := 0) (List.getElem?_eq_some_iff.mp hg11).1
  have hF : Fr (M.1 ++ [(6, nF 6)] ++ [(13, 12)] ++ [(6, nF 6)] ++ [(13, 12)], upR (upR (upR (upR (M.2.1) (a + 1) 0 (some (a + 2))) (a) 0 (some (a + 1))) (a + 3) 0 (some (a + 4))) (a) 1 (some (a + 3)), wI (wI (wI (wI (wI (wI (wI (wI (wI (M.2.2) (a + 1) 1 (0)) (a + 3) 1 (0)) (a) 2 (0)) (a) 3 (0)) (a) 4 (0)) (a) 5 (0)) (a) 6 (0)) (a) 7 (0)) (a) 8 (0)) := hF
  show J _ _ _ _ _ _ _ _ _ _ _ (M.1 ++ [(6, nF 6)] ++ [(13, 12)] ++ [(6, nF 6)] ++ [(13, 12)], upR (upR (upR (upR (M.2.1) (a + 1) 0 (some (a + 2))) (a) 0 (some (a + 1))) (a + 3) 0 (some (a + 4))) (a) 1 (some (a + 3)), wI (wI (wI (wI (wI (wI (wI (wI (wI (M.2.2) (a + 1) 1 (0)) (a + 3) 1 (0)) (a) 2 (0)) (a) 3 (0)) (a) 4 (0)) (a) 5 (0)) (a) 6 (0)) (a) 7 (0)) (a) 8 (0)) _
  exact J_return rfl (Nat.le_of_ble_eq_true rfl) (Nat.le_of_ble_eq_true rfl) rfl dX7_init_61
theorem frX7 {a : Nat} {M : Hm} (hF : Fr M) (hl : M.1.length = a + 1) : Fr (cXr7 a M) := by
  have hs : (cXr7 a M).1.length = a + 5 := by show (M.1 ++ [(6, nF 6)] ++ [(13, 12)] ++ [(6, nF 6)] ++ [(13, 12)]).length = _; simp [hl]
  intro q hq j
  rw [hs] at hq
  have h := hF q (by omega) j
  refine ⟨?_, ?_, h.2.2⟩
  · show (upR (upR (upR (upR (M.2.1) (a + 1) 0 (some (a + 2))) (a) 0 (some (a + 1))) (a + 3) 0 (some (a + 4))) (a) 1 (some (a + 3))) q j = none
    simp only [upR, rfM]
    repeat rw [if_neg (by omega)]
    exact h.1
  · show (wI (wI (wI (wI (wI (wI (wI (wI (wI (M.2.2) (a + 1) 1 (0)) (a + 3) 1 (0)) (a) 2 (0)) (a) 3 (0)) (a) 4 (0)) (a) 5 (0)) (a) 6 (0)) (a) 7 (0)) (a) 8 (0)).1 q j = 0
    simp only [wI, fiI]
    repeat rw [if_neg (by omega)]
    exact h.2.1
abbrev YX5_init : MD := (RX5, cX5_init, 1, none, true)
set_option maxRecDepth 100000 in
theorem mcX5_init : MC yX5_init YX5_init 0 := ⟨rfl, ⟨by decide, by decide, by decide +kernel⟩, in1 7 (by rfl) rfl, in1 155 (by rfl) rfl⟩
set_option maxRecDepth 100000 in
theorem miX5_init : Cond.instanceMethod yX5_init ∈ TT := in1 154 (by rfl) rfl
theorem dX5_init_0 : decode cX5_init 0 = .ok (.aload_n 0, 1) := by decide +kernel
theorem dX5_init_1 : decode cX5_init 1 = .ok (.invokespecial 3, 3) := by decide +kernel
theorem dX5_init_4 : decode cX5_init 4 = .ok (.aload_n 0, 1) := by decide +kernel
theorem dX5_init_5 : decode cX5_init 5 = .ok (.new 9, 3) := by decide +kernel
theorem dX5_init_8 : decode cX5_init 8 = .ok (.dup, 1) := by decide +kernel
theorem dX5_init_9 : decode cX5_init 9 = .ok (.invokespecial 11, 3) := by decide +kernel
theorem dX5_init_12 : decode cX5_init 12 = .ok (.putfield 12, 3) := by decide +kernel
theorem dX5_init_15 : decode cX5_init 15 = .ok (.aload_n 0, 1) := by decide +kernel
theorem dX5_init_16 : decode cX5_init 16 = .ok (.new 9, 3) := by decide +kernel
theorem dX5_init_19 : decode cX5_init 19 = .ok (.dup, 1) := by decide +kernel
theorem dX5_init_20 : decode cX5_init 20 = .ok (.invokespecial 11, 3) := by decide +kernel
theorem dX5_init_23 : decode cX5_init 23 = .ok (.putfield 18, 3) := by decide +kernel
theorem dX5_init_26 : decode cX5_init 26 = .ok (.aload_n 0, 1) := by decide +kernel
theorem dX5_init_27 : decode cX5_init 27 = .ok (.sipush 1000, 3) := by decide +kernel
theorem dX5_init_30 : decode cX5_init 30 = .ok (.newarray .int, 2) := by decide +kernel
theorem dX5_init_32 : decode cX5_init 32 = .ok (.putfield 21, 3) := by decide +kernel
theorem dX5_init_35 : decode cX5_init 35 = .ok (.aload_n 0, 1) := by decide +kernel
theorem dX5_init_36 : decode cX5_init 36 = .ok (.iconst 0, 1) := by decide +kernel
theorem dX5_init_37 : decode cX5_init 37 = .ok (.putfield 25, 3) := by decide +kernel
theorem dX5_init_40 : decode cX5_init 40 = .ok (.aload_n 0, 1) := by decide +kernel
theorem dX5_init_41 : decode cX5_init 41 = .ok (.iconst 0, 1) := by decide +kernel
theorem dX5_init_42 : decode cX5_init 42 = .ok (.putfield 29, 3) := by decide +kernel
theorem dX5_init_45 : decode cX5_init 45 = .ok (.aload_n 0, 1) := by decide +kernel
theorem dX5_init_46 : decode cX5_init 46 = .ok (.iconst 0, 1) := by decide +kernel
theorem dX5_init_47 : decode cX5_init 47 = .ok (.putfield 32, 3) := by decide +kernel
theorem dX5_init_50 : decode cX5_init 50 = .ok (.aload_n 0, 1) := by decide +kernel
theorem dX5_init_51 : decode cX5_init 51 = .ok (.iconst 0, 1) := by decide +kernel
theorem dX5_init_52 : decode cX5_init 52 = .ok (.putfield 35, 3) := by decide +kernel
theorem dX5_init_55 : decode cX5_init 55 = .ok (.return_, 1) := by decide +kernel
set_option maxRecDepth 100000 in
theorem klX5_12 : FL RX5 12 5 0 true := ⟨_, rfl, by decide, in1 159 (by rfl) rfl, rfl, rfl⟩
set_option maxRecDepth 100000 in
theorem klX5_18 : FL RX5 18 5 1 true := ⟨_, rfl, by decide, in1 160 (by rfl) rfl, rfl, rfl⟩
set_option maxRecDepth 100000 in
theorem klX5_21 : FL RX5 21 5 2 true := ⟨_, rfl, by decide, in1 161 (by rfl) rfl, rfl, rfl⟩
set_option maxRecDepth 100000 in
theorem klX5_25 : FL RX5 25 5 3 false := ⟨_, rfl, by decide, in1 162 (by rfl) rfl, rfl, rfl⟩
set_option maxRecDepth 100000 in
theorem klX5_29 : FL RX5 29 5 4 false := ⟨_, rfl, by decide, in1 163 (by rfl) rfl, rfl, rfl⟩
set_option maxRecDepth 100000 in
theorem klX5_32 : FL RX5 32 5 5 false := ⟨_, rfl, by decide, in1 164 (by rfl) rfl, rfl, rfl⟩
set_option maxRecDepth 100000 in
theorem klX5_35 : FL RX5 35 5 6 false := ⟨_, rfl, by decide, in1 165 (by rfl) rfl, rfl, rfl⟩
abbrev cXr5 (a : Nat) (M : Hm) : Hm := (M.1 ++ [(6, nF 6)] ++ [(13, 12)] ++ [(6, nF 6)] ++ [(13, 12)] ++ [(13, 1000)], upR (upR (upR (upR (upR (M.2.1) (a + 1) 0 (some (a + 2))) (a) 0 (some (a + 1))) (a + 3) 0 (some (a + 4))) (a) 1 (some (a + 3))) (a) 2 (some (a + 5)), wI (wI (wI (wI (wI (wI (M.2.2) (a + 1) 1 (0)) (a + 3) 1 (0)) (a) 3 (0)) (a) 4 (0)) (a) 5 (0)) (a) 6 (0))
theorem ctX5_init (G : Gm) {a : Nat} {M : Hm} (hF : Fr M) (hl : M.1.length = a + 1) (h0 : M.1[a]? = some (5, nF 5)) : Ct G YX5_init yX5_init 2 5 1028 finH (some (cXr5 a M)) [vR (some a)] M := by
  refine Ct_of_J [some (vR (some a))] (by decide) rfl (fun _ => rfl) (Nat.le_of_ble_eq_true rfl) (And.intro rfl trivial) ?_
  refine J_aload_n dX5_init_0 rfl rfl ?_
  refine J_objInit (in1 156 (by rfl) rfl) w_oi1 w_oi2 (Nat.le_of_ble_eq_true rfl) (Nat.le_of_ble_eq_true rfl) dX5_init_1 ?_
  refine J_aload_n dX5_init_4 rfl rfl ?_
  refine J_new (a := a + 1) (C := RX6) cf6 rfl (in1 157 (by rfl) rfl) (in1 28 (by rfl) rfl) (in1 2 (by rfl) rfl) (by decide) hF hl (Nat.le_of_ble_eq_true rfl) (Nat.le_of_ble_eq_true rfl) dX5_init_5 ?_
  intro hF
  have hl1 : (M.1 ++ [(6, nF 6)]).length = a + 2 := ap_len hl rfl
  have hg2 : (M.1 ++ [(6, nF 6)])[a]? = some (5, nF 5) := ap_old h0
  have hg3 : (M.1 ++ [(6, nF 6)])[a + 1]? = some (6, nF 6) := ap_new hl
  have hF : Fr (M.1 ++ [(6, nF 6)], M.2.1, M.2.2) := hF
  show J _ _ _ _ _ _ _ _ _ _ _ (M.1 ++ [(6, nF 6)], M.2.1, M.2.2) _
  refine J_dup dX5_init_8 rfl ?_
  refine J_cN (cXr6 (a + 1) (M.1 ++ [(6, nF 6)], M.2.1, M.2.2)) mcX6_init miX6_init (List.mem_of_getElem? (i := 7) rfl) rfl rfl (ctX6_init G hF hl1 hg3) rfl rfl (Nat.le_of_ble_eq_true rfl) (Nat.le_of_ble_eq_true rfl) (Nat.le_of_ble_eq_true rfl) (Nat.le_of_ble_eq_true rfl) (Nat.le_of_ble_eq_true rfl) dX5_init_9 ?_
  have hF := frX6 hF hl1
  have hl4 : (M.1 ++ [(6, nF 6)] ++ [(13, 12)]).length = a + 3 := ap_len hl1 rfl
  have hg5 : (M.1 ++ [(6, nF 6)] ++ [(13, 12)])[a]? = some (5, nF 5) := ap_old hg2
  have hg6 : (M.1 ++ [(6, nF 6)] ++ [(13, 12)])[a + 1]? = some (6, nF 6) := ap_old hg3
  have hF : Fr (M.1 ++ [(6, nF 6)] ++ [(13, 12)], upR (M.2.1) (a + 1) 0 (some (a + 2)), wI (M.2.2) (a + 1) 1 (0)) := hF
  show J _ _ _ _ _ _ _ _ _ _ _ (M.1 ++ [(6, nF 6)] ++ [(13, 12)], upR (M.2.1) (a + 1) 0 (some (a + 2)), wI (M.2.2) (a + 1) 1 (0)) _
  refine J_putRF rfl cf5 klX5_12 hF hg5 (Or.inl ⟨_, rfl⟩) dX5_init_12 ?_
  intro hF
  have hF : Fr (M.1 ++ [(6, nF 6)] ++ [(13, 12)], upR (upR (M.2.1) (a + 1) 0 (some (a + 2))) (a) 0 (some (a + 1)), wI (M.2.2) (a + 1) 1 (0)) := hF
  show J _ _ _ _ _ _ _ _ _ _ _ (M.1 ++ [(6, nF 6)] ++ [(13, 12)], upR (upR (M.2.1) (a + 1) 0 (some (a + 2))) (a) 0 (some (a + 1)), wI (M.2.2) (a + 1) 1 (0)) _
  refine J_aload_n dX5_init_15 rfl rfl ?_
  refine J_new (a := a + 3) (C := RX6) cf6 rfl (in1 157 (by rfl) rfl) (in1 28 (by rfl) rfl) (in1 2 (by rfl) rfl) (by decide) hF hl4 (Nat.le_of_ble_eq_true rfl) (Nat.le_of_ble_eq_true rfl) dX5_init_16 ?_
  intro hF
  have hl7 : (M.1 ++ [(6, nF 6)] ++ [(13, 12)] ++ [(6, nF 6)]).length = a + 4 := ap_len hl4 rfl
  have hg8 : (M.1 ++ [(6, nF 6)] ++ [(13, 12)] ++ [(6, nF 6)])[a]? = some (5, nF 5) := ap_old hg5
  have hg9 : (M.1 ++ [(6, nF 6)] ++ [(13, 12)] ++ [(6, nF 6)])[a + 3]? = some (6, nF 6) := ap_new hl4
  have hF : Fr (M.1 ++ [(6, nF 6)] ++ [(13, 12)] ++ [(6, nF 6)], upR (upR (M.2.1) (a + 1) 0 (some (a + 2))) (a) 0 (some (a + 1)), wI (M.2.2) (a + 1) 1 (0)) := hF
  show J _ _ _ _ _ _ _ _ _ _ _ (M.1 ++ [(6, nF 6)] ++ [(13, 12)] ++ [(6, nF 6)], upR (upR (M.2.1) (a + 1) 0 (some (a + 2))) (a) 0 (some (a + 1)), wI (M.2.2) (a + 1) 1 (0)) _
  refine J_dup dX5_init_19 rfl ?_
  refine J_cN (cXr6 (a + 3) (M.1 ++ [(6, nF 6)] ++ [(13, 12)] ++ [(6, nF 6)], upR (upR (M.2.1) (a + 1) 0 (some (a + 2))) (a) 0 (some (a + 1)), wI (M.2.2) (a + 1) 1 (0))) mcX6_init miX6_init (List.mem_of_getElem? (i := 7) rfl) rfl rfl (ctX6_init G hF hl7 hg9) rfl rfl (Nat.le_of_ble_eq_true rfl) (Nat.le_of_ble_eq_true rfl) (Nat.le_of_ble_eq_true rfl) (Nat.le_of_ble_eq_true rfl) (Nat.le_of_ble_eq_true rfl) dX5_init_20 ?_
  have hF := frX6 hF hl7
  have hl10 : (M.1 ++ [(6, nF 6)] ++ [(13, 12)] ++ [(6, nF 6)] ++ [(13, 12)]).length = a + 5 := ap_len hl7 rfl
  have hg11 : (M.1 ++ [(6, nF 6)] ++ [(13, 12)] ++ [(6, nF 6)] ++ [(13, 12)])[a]? = some (5, nF 5) := ap_old hg8
  have hg12 : (M.1 ++ [(6, nF 6)] ++ [(13, 12)] ++ [(6, nF 6)] ++ [(13, 12)])[a + 3]? = some (6, nF 6) := ap_old hg9
  have hF : Fr (M.1 ++ [(6, nF 6)] ++ [(13, 12)] ++ [(6, nF 6)] ++ [(13, 12)], upR (upR (upR (M.2.1) (a + 1) 0 (some (a + 2))) (a) 0 (some (a + 1))) (a + 3) 0 (some (a + 4)), wI (wI (M.2.2) (a + 1) 1 (0)) (a + 3) 1 (0)) := hF
  show J _ _ _ _ _ _ _ _ _ _ _ (M.1 ++ [(6, nF 6)] ++ [(13, 12)] ++ [(6, nF 6)] ++ [(13, 12)], upR (upR (upR (M.2.1) (a + 1) 0 (some (a + 2))) (a) 0 (some (a + 1))) (a + 3) 0 (some (a + 4)), wI (wI (M.2.2) (a + 1) 1 (0)) (a + 3) 1 (0)) _
  refine J_putRF rfl cf5 klX5_18 hF hg11 (Or.inl ⟨_, rfl⟩) dX5_init_23 ?_
  intro hF
  have hF : Fr (M.1 ++ [(6, nF 6)] ++ [(13, 12)] ++ [(6, nF 6)] ++ [(13, 12)], upR (upR (upR (upR (M.2.1) (a + 1) 0 (some (a + 2))) (a) 0 (some (a + 1))) (a + 3) 0 (some (a + 4))) (a) 1 (some (a + 3)), wI (wI (M.2.2) (a + 1) 1 (0)) (a + 3) 1 (0)) := hF
  show J _ _ _ _ _ _ _ _ _ _ _ (M.1 ++ [(6, nF 6)] ++ [(13, 12)] ++ [(6, nF 6)] ++ [(13, 12)], upR (upR (upR (upR (M.2.1) (a + 1) 0 (some (a + 2))) (a) 0 (some (a + 1))) (a + 3) 0 (some (a + 4))) (a) 1 (some (a + 3)), wI (wI (M.2.2) (a + 1) 1 (0)) (a + 3) 1 (0)) _
  refine J_aload_n dX5_init_26 rfl rfl ?_
  refine J_sipush (v := 1000) dX5_init_27 (by decide) ?_
  refine J_newI (a := a + 5) (N := 1000) (by decide) (by decide) (by decide) hF hl10 (Nat.le_of_ble_eq_true rfl) (Nat.le_of_ble_eq_true rfl) dX5_init_30 ?_
  intro hF
  have hl13 : (M.1 ++ [(6, nF 6)] ++ [(13, 12)] ++ [(6, nF 6)] ++ [(13, 12)] ++ [(13, 1000)]).length = a + 6 := ap_len hl10 rfl
  have hg14 : (M.1 ++ [(6, nF 6)] ++ [(13, 12)] ++ [(6, nF 6)] ++ [(13, 12)] ++ [(13, 1000)])[a]? = some (5, nF 5) := ap_old hg11
  have hF : Fr (M.1 ++ [(6, nF 6)] ++ [(13, 12)] ++ [(6, nF 6)] ++ [(13, 12)] ++ [(13, 1000)], upR (upR (upR (upR (M.2.1) (a + 1) 0 (some (a + 2))) (a) 0 (some (a + 1))) (a + 3) 0 (some (a + 4))) (a) 1 (some (a + 3)), wI (wI (M.2.2) (a + 1) 1 (0)) (a + 3) 1 (0)) := hF
  show J _ _ _ _ _ _ _ _ _ _ _ (M.1 ++ [(6, nF 6)] ++ [(13, 12)] ++ [(6, nF 6)] ++ [(13, 12)] ++ [(13, 1000)], upR (upR (upR (upR (M.2.1) (a + 1) 0 (some (a + 2))) (a) 0 (some (a + 1))) (a + 3) 0 (some (a + 4))) (a) 1 (some (a + 3)), wI (wI (M.2.2) (a + 1) 1 (0)) (a + 3) 1 (0)) _
  refine J_putRF rfl cf5 klX5_21 hF hg14 (Or.inr ⟨_, rfl⟩) dX5_init_32 ?_
  intro hF
  have hF : Fr (M.1 ++ [(6, nF 6)] ++ [(13, 12)] ++ [(6, nF 6)] ++ [(13, 12)] ++ [(13, 1000)], upR (upR (upR (upR (upR (M.2.1) (a + 1) 0 (some (a + 2))) (a) 0 (some (a + 1))) (a + 3) 0 (some (a + 4))) (a) 1 (some (a + 3))) (a) 2 (some (a + 5)), wI (wI (M.2.2) (a + 1) 1 (0)) (a + 3) 1 (0)) := hF
  show J _ _ _ _ _ _ _ _ _ _ _ (M.1 ++ [(6, nF 6)] ++ [(13, 12)] ++ [(6, nF 6)] ++ [(13, 12)] ++ [(13, 1000)], upR (upR (upR (upR (upR (M.2.1) (a + 1) 0 (some (a + 2))) (a) 0 (some (a + 1))) (a + 3) 0 (some (a + 4))) (a) 1 (some (a + 3))) (a) 2 (some (a + 5)), wI (wI (M.2.2) (a + 1) 1 (0)) (a + 3) 1 (0)) _
  refine J_aload_n dX5_init_35 rfl rfl ?_
  refine J_iconst (v := 0) dX5_init_36 (by decide) ?_
  refine J_putI cf5 klX5_25 hg14 rfl dX5_init_37 ?_
  have hF := hF.wI (a := a) (k := 3) (x := 0) (List.getElem?_eq_some_iff.mp hg14).1
  have hF : Fr (M.1 ++ [(6, nF 6)] ++ [(13, 12)] ++ [(6, nF 6)] ++ [(13, 12)] ++ [(13, 1000)], upR (upR (upR (upR (upR (M.2.1) (a + 1) 0 (some (a + 2))) (a) 0 (some (a + 1))) (a + 3) 0 (some (a + 4))) (a) 1 (some (a + 3))) (a) 2 (some (a + 5)), wI (wI (wI (M.2.2) (a + 1) 1 (0)) (a + 3) 1 (0)) (a) 3 (0)) := hF
  show J _ _ _ _ _ _ _ _ _ _ _ (M.1 ++ [(6, nF 6)] ++ [(13, 12)] ++ [(6, nF 6)] ++ [(13, 12)] ++ [(13, 1000)], upR (upR (upR (upR (upR (M.2.1) (a + 1) 0 (some (a + 2))) (a) 0 (some (a + 1))) (a + 3) 0 (some (a + 4))) (a) 1 (some (a + 3))) (a) 2 (some (a + 5)), wI (wI (wI (M.2.2) (a + 1) 1 (0)) (a + 3) 1 (0)) (a) 3 (0)) _
  refine J_aload_n dX5_init_40 rfl rfl ?_
  refine J_iconst (v := 0) dX5_init_41 (by decide) ?_
  refine J_putI cf5 klX5_29 hg14 rfl dX5_init_42 ?_
  have hF := hF.wI (a := a) (k := 4) (x := 0) (List.getElem?_eq_some_iff.mp hg14).1
  have hF : Fr (M.1 ++ [(6, nF 6)] ++ [(13, 12)] ++ [(6, nF 6)] ++ [(13, 12)] ++ [(13, 1000)], upR (upR (upR (upR (upR (M.2.1) (a + 1) 0 (some (a + 2))) (a) 0 (some (a + 1))) (a + 3) 0 (some (a + 4))) (a) 1 (some (a + 3))) (a) 2 (some (a + 5)), wI (wI (wI (wI (M.2.2) (a + 1) 1 (0)) (a + 3) 1 (0)) (a) 3 (0)) (a) 4 (0)) := hF
  show J _ _ _ _ _ _ _ _ _ _ _ (M.1 ++ [(6, nF 6)] ++ [(13, 12)] ++ [(6, nF 6)] ++ [(13, 12)] ++ [(13, 1000)], upR (upR (upR (upR (upR (M.2.1) (a + 1) 0 (some (a + 2))) (a) 0 (some (a + 1))) (a + 3) 0 (some (a + 4))) (a) 1 (some (a + 3))) (a) 2 (some (a + 5)), wI (wI (wI (wI (M.2.2) (a + 1) 1 (0)) (a + 3) 1 (0)) (a) 3 (0)) (a) 4 (0)) _
  refine J_aload_n dX5_init_45 rfl rfl ?_
  refine J_iconst (v := 0) dX5_init_46 (by decide) ?_
  refine J_putI cf5 klX5_32 hg14 rfl dX5_init_47 ?_
  have hF := hF.wI (a := a) (k := 5) (x := 0) (List.getElem?_eq_some_iff.mp hg14).1
  have hF : Fr (M.1 ++ [(6, nF 6)] ++ [(13, 12)] ++ [(6, nF 6)] ++ [(13, 12)] ++ [(13, 1000)], upR (upR (upR (upR (upR (M.2.1) (a + 1) 0 (some (a + 2))) (a) 0 (some (a + 1))) (a + 3) 0 (some (a + 4))) (a) 1 (some (a + 3))) (a) 2 (some (a + 5)), wI (wI (wI (wI (wI (M.2.2) (a + 1) 1 (0)) (a + 3) 1 (0)) (a) 3 (0)) (a) 4 (0)) (a) 5 (0)) := hF
  show J _ _ _ _ _ _ _ _ _ _ _ (M.1 ++ [(6, nF 6)] ++ [(13, 12)] ++ [(6, nF 6)] ++ [(13, 12)] ++ [(13, 1000)], upR (upR (upR (upR (upR (M.2.1) (a + 1) 0 (some (a + 2))) (a) 0 (some (a + 1))) (a + 3) 0 (some (a + 4))) (a) 1 (some (a + 3))) (a) 2 (some (a + 5)), wI (wI (wI (wI (wI (M.2.2) (a + 1) 1 (0)) (a + 3) 1 (0)) (a) 3 (0)) (a) 4 (0)) (a) 5 (0)) _
  refine J_aload_n dX5_init_50 rfl rfl ?_
  refine J_iconst (v := 0) dX5_init_51 (by decide) ?_
  refine J_putZ (by decide) cf5 klX5_35 hg14 rfl dX5_init_52 ?_
  have hF := hF.wI (a := a) (k := 6) (x := 0) (List.getElem?_eq_some_iff.mp hg14).1
  have hF : Fr (M.1 ++ [(6, nF 6)] ++ [(13, 12)] ++ [(6, nF 6)] ++ [(13, 12)] ++ [(13, 1000)], upR (upR (upR (upR (upR (M.2.1) (a + 1) 0 (some (a + 2))) (a) 0 (some (a + 1))) (a + 3) 0 (some (a + 4))) (a) 1 (some (a + 3))) (a) 2 (some (a + 5)), wI (wI (wI (wI (wI (wI (M.2.2) (a + 1) 1 (0)) (a + 3) 1 (0)) (a) 3 (0)) (a) 4 (0)) (a) 5 (0)) (a) 6 (0)) := hF
  show J _ _ _ _ _ _ _ _ _ _ _ (M.1 ++ [(6, nF 6)] ++ [(13, 12)] ++ [(6, nF 6)] ++ [(13, 12)] ++ [(13, 1000)], upR (upR (upR (upR (upR (M.2.1) (a + 1) 0 (some (a + 2))) (a) 0 (some (a + 1))) (a + 3) 0 (some (a + 4))) (a) 1 (some (a + 3))) (a) 2 (some (a + 5)), wI (wI (wI (wI (wI (wI (M.2.2) (a + 1) 1 (0)) (a + 3) 1 (0)) (a) 3 (0)) (a) 4 (0)) (a) 5 (0)) (a) 6 (0)) _
  exact J_return rfl (Nat.le_of_ble_eq_true rfl) (Nat.le_of_ble_eq_true rfl) rfl dX5_init_55
theorem frX5 {a : Nat} {M : Hm} (hF : Fr M) (hl : M.1.length = a + 1) : Fr (cXr5 a M) := by
  have hs : (cXr5 a M).1.length = a + 6 := by show (M.1 ++ [(6, nF 6)] ++ [(13, 12)] ++ [(6, nF 6)] ++ [(13, 12)] ++ [(13, 1000)]).length = _; simp [hl]
  intro q hq j
  rw [hs] at hq
  have h := hF q (by omega) j
  refine ⟨?_, ?_, h.2.2⟩
  · show (upR (upR (upR (upR (upR (M.2.1) (a + 1) 0 (some (a + 2))) (a) 0 (some (a + 1))) (a + 3) 0 (some (a + 4))) (a) 1 (some (a + 3))) (a) 2 (some (a + 5))) q j = none
    simp only [upR, rfM]
    repeat rw [if_neg (by omega)]
    exact h.1
  · show (wI (wI (wI (wI (wI (wI (M.2.2) (a + 1) 1 (0)) (a + 3) 1 (0)) (a) 3 (0)) (a) 4 (0)) (a) 5 (0)) (a) 6 (0)).1 q j = 0
    simp only [wI, fiI]
    repeat rw [if_neg (by omega)]
    exact h.2.1
abbrev YX2_init : MD := (RX2, cX2_init, 1, none, true)
set_option maxRecDepth 100000 in
theorem mcX2_init : MC yX2_init YX2_init 0 := ⟨rfl, ⟨by decide, by decide, by decide +kernel⟩, in1 8 (by rfl) rfl, in1 185 (by rfl) rfl⟩
set_option maxRecDepth 100000 in
theorem miX2_init : Cond.instanceMethod yX2_init ∈ TT := in1 184 (by rfl) rfl
theorem dX2_init_0 : decode cX2_init 0 = .ok (.aload_n 0, 1) := by decide +kernel
theorem dX2_init_1 : decode cX2_init 1 = .ok (.invokespecial 3, 3) := by decide +kernel
theorem dX2_init_4 : decode cX2_init 4 = .ok (.aload_n 0, 1) := by decide +kernel
theorem dX2_init_5 : decode cX2_init 5 = .ok (.new 9, 3) := by decide +kernel
theorem dX2_init_8 : decode cX2_init 8 = .ok (.dup, 1) := by decide +kernel
theorem dX2_init_9 : decode cX2_init 9 = .ok (.invokespecial 11, 3) := by decide +kernel
theorem dX2_init_12 : decode cX2_init 12 = .ok (.putfield 12, 3) := by decide +kernel
theorem dX2_init_15 : decode cX2_init 15 = .ok (.aload_n 0, 1) := by decide +kernel
theorem dX2_init_16 : decode cX2_init 16 = .ok (.new 9, 3) := by decide +kernel
theorem dX2_init_19 : decode cX2_init 19 = .ok (.dup, 1) := by decide +kernel
theorem dX2_init_20 : decode cX2_init 20 = .ok (.invokespecial 11, 3) := by decide +kernel
theorem dX2_init_23 : decode cX2_init 23 = .ok (.putfield 18, 3) := by decide +kernel
theorem dX2_init_26 : decode cX2_init 26 = .ok (.aload_n 0, 1) := by decide +kernel
theorem dX2_init_27 : decode cX2_init 27 = .ok (.iconst 0, 1) := by decide +kernel
theorem dX2_init_28 : decode cX2_init 28 = .ok (.putfield 21, 3) := by decide +kernel
theorem dX2_init_31 : decode cX2_init 31 = .ok (.aload_n 0, 1) := by decide +kernel
theorem dX2_init_32 : decode cX2_init 32 = .ok (.iconst 0, 1) := by decide +kernel
theorem dX2_init_33 : decode cX2_init 33 = .ok (.putfield 25, 3) := by decide +kernel
theorem dX2_init_36 : decode cX2_init 36 = .ok (.aload_n 0, 1) := by decide +kernel
theorem dX2_init_37 : decode cX2_init 37 = .ok (.iconst 0, 1) := by decide +kernel
theorem dX2_init_38 : decode cX2_init 38 = .ok (.putfield 28, 3) := by decide +kernel
theorem dX2_init_41 : decode cX2_init 41 = .ok (.aload_n 0, 1) := by decide +kernel
theorem dX2_init_42 : decode cX2_init 42 = .ok (.iconst 0, 1) := by decide +kernel
theorem dX2_init_43 : decode cX2_init 43 = .ok (.putfield 31, 3) := by decide +kernel
theorem dX2_init_46 : decode cX2_init 46 = .ok (.aload_n 0, 1) := by decide +kernel
theorem dX2_init_47 : decode cX2_init 47 = .ok (.iconst 0, 1) := by decide +kernel
theorem dX2_init_48 : decode cX2_init 48 = .ok (.putfield 34, 3) := by decide +kernel
theorem dX2_init_51 : decode cX2_init 51 = .ok (.aload_n 0, 1) := by decide +kernel
theorem dX2_init_52 : decode cX2_init 52 = .ok (.iconst 0, 1) := by decide +kernel
theorem dX2_init_53 : decode cX2_init 53 = .ok (.putfield 37, 3) := by decide +kernel
theorem dX2_init_56 : decode cX2_init 56 = .ok (.return_, 1) := by decide +kernel
set_option maxRecDepth 100000 in
theorem klX2_12 : FL RX2 12 2 0 true := ⟨_, rfl, by decide, in1 189 (by rfl) rfl, rfl, rfl⟩
set_option maxRecDepth 100000 in
theorem klX2_18 : FL RX2 18 2 1 true := ⟨_, rfl, by decide, in1 190 (by rfl) rfl, rfl, rfl⟩
set_option maxRecDepth 100000 in
theorem klX2_21 : FL RX2 21 2 2 false := ⟨_, rfl, by decide, in1 191 (by rfl) rfl, rfl, rfl⟩
set_option maxRecDepth 100000 in
theorem klX2_25 : FL RX2 25 2 3 false := ⟨_, rfl, by decide, in1 192 (by rfl) rfl, rfl, rfl⟩
set_option maxRecDepth 100000 in
theorem klX2_28 : FL RX2 28 2 4 false := ⟨_, rfl, by decide, in1 193 (by rfl) rfl, rfl, rfl⟩
set_option maxRecDepth 100000 in
theorem klX2_31 : FL RX2 31 2 5 false := ⟨_, rfl, by decide, in1 194 (by rfl) rfl, rfl, rfl⟩
set_option maxRecDepth 100000 in
theorem klX2_34 : FL RX2 34 2 6 false := ⟨_, rfl, by decide, in1 195 (by rfl) rfl, rfl, rfl⟩
set_option maxRecDepth 100000 in
theorem klX2_37 : FL RX2 37 2 7 false := ⟨_, rfl, by decide, in1 196 (by rfl) rfl, rfl, rfl⟩
abbrev cXr2 (a : Nat) (M : Hm) : Hm := (M.1 ++ [(6, nF 6)] ++ [(13, 12)] ++ [(6, nF 6)] ++ [(13, 12)], upR (upR (upR (upR (M.2.1) (a + 1) 0 (some (a + 2))) (a) 0 (some (a + 1))) (a + 3) 0 (some (a + 4))) (a) 1 (some (a + 3)), wI (wI (wI (wI (wI (wI (wI (wI (M.2.2) (a + 1) 1 (0)) (a + 3) 1 (0)) (a) 2 (0)) (a) 3 (0)) (a) 4 (0)) (a) 5 (0)) (a) 6 (0)) (a) 7 (0))
theorem ctX2_init (G : Gm) {a : Nat} {M : Hm} (hF : Fr M) (hl : M.1.length = a + 1) (h0 : M.1[a]? = some (2, nF 2)) : Ct G YX2_init yX2_init 2 4 28 finH (some (cXr2 a M)) [vR (some a)] M := by
  refine Ct_of_J [some (vR (some a))] (by decide) rfl (fun _ => rfl) (Nat.le_of_ble_eq_true rfl) (And.intro rfl trivial) ?_
  refine J_aload_n dX2_init_0 rfl rfl ?_
  refine J_objInit (in1 186 (by rfl) rfl) w_oi1 w_oi2 (Nat.le_of_ble_eq_true rfl) (Nat.le_of_ble_eq_true rfl) dX2_init_1 ?_
  refine J_aload_n dX2_init_4 rfl rfl ?_
  refine J_new (a := a + 1) (C := RX6) cf6 rfl (in1 187 (by rfl) rfl) (in1 28 (by rfl) rfl) (in1 2 (by rfl) rfl) (by decide) hF hl (Nat.le_of_ble_eq_true rfl) (Nat.le_of_ble_eq_true rfl) dX2_init_5 ?_
  intro hF
  have hl1 : (M.1 ++ [(6, nF 6)]).length = a + 2 := ap_len hl rfl
  have hg2 : (M.1 ++ [(6, nF 6)])[a]? = some (2, nF 2) := ap_old h0
  have hg3 : (M.1 ++ [(6, nF 6)])[a + 1]? = some (6, nF 6) := ap_new hl
  have hF : Fr (M.1 ++ [(6, nF 6)], M.2.1, M.2.2) := hF
  show J _ _ _ _ _ _ _ _ _ _ _ (M.1 ++ [(6, nF 6)], M.2.1, M.2.2) _
  refine J_dup dX2_init_8 rfl ?_
  refine J_cN (cXr6 (a + 1) (M.1 ++ [(6, nF 6)], M.2.1, M.2.2)) mcX6_init miX6_init (List.mem_of_getElem? (i := 9) rfl) rfl rfl (ctX6_init G hF hl1 hg3) rfl rfl (Nat.le_of_ble_eq_true rfl) (Nat.le_of_ble_eq_true rfl) (Nat.le_of_ble_eq_true rfl) (Nat.le_of_ble_eq_true rfl) (Nat.le_of_ble_eq_true rfl) dX2_init_9 ?_
  have hF := frX6 hF hl1
  have hl4 : (M.1 ++ [(6, nF 6)] ++ [(13, 12)]).length = a + 3 := ap_len hl1 rfl
  have hg5 : (M.1 ++ [(6, nF 6)] ++ [(13, 12)])[a]? = some (2, nF 2) := ap_old hg2
  have hg6 : (M.1 ++ [(6, nF 6)] ++ [(13, 12)])[a + 1]? = some (6, nF 6) := ap_old hg3
  have hF : Fr (M.1 ++ [(6, nF 6)] ++ [(13, 12)], upR (M.2.1) (a + 1) 0 (some (a + 2)), wI (M.2.2) (a + 1) 1 (0)) := hF
  show J _ _ _ _ _ _ _ _ _ _ _ (M.1 ++ [(6, nF 6)] ++ [(13, 12)], upR (M.2.1) (a + 1) 0 (some (a + 2)), wI (M.2.2) (a + 1) 1 (0)) _
  refine J_putRF rfl cf2 klX2_12 hF hg5 (Or.inl ⟨_, rfl⟩) dX2_init_12 ?_
  intro hF
  have hF : Fr (M.1 ++ [(6, nF 6)] ++ [(13, 12)], upR (upR (M.2.1) (a + 1) 0 (some (a + 2))) (a) 0 (some (a + 1)), wI (M.2.2) (a + 1) 1 (0)) := hF
  show J _ _ _ _ _ _ _ _ _ _ _ (M.1 ++ [(6, nF 6)] ++ [(13, 12)], upR (upR (M.2.1) (a + 1) 0 (some (a + 2))) (a) 0 (some (a + 1)), wI (M.2.2) (a + 1) 1 (0)) _
  refine J_aload_n dX2_init_15 rfl rfl ?_
  refine J_new (a := a + 3) (C := RX6) cf6 rfl (in1 187 (by rfl) rfl) (in1 28 (by rfl) rfl) (in1 2 (by rfl) rfl) (by decide) hF hl4 (Nat.le_of_ble_eq_true rfl) (Nat.le_of_ble_eq_true rfl) dX2_init_16 ?_
  intro hF
  have hl7 : (M.1 ++ [(6, nF 6)] ++ [(13, 12)] ++ [(6, nF 6)]).length = a + 4 := ap_len hl4 rfl
  have hg8 : (M.1 ++ [(6, nF 6)] ++ [(13, 12)] ++ [(6, nF 6)])[a]? = some (2, nF 2) := ap_old hg5
  have hg9 : (M.1 ++ [(6, nF 6)] ++ [(13, 12)] ++ [(6, nF 6)])[a + 3]? = some (6, nF 6) := ap_new hl4
  have hF : Fr (M.1 ++ [(6, nF 6)] ++ [(13, 12)] ++ [(6, nF 6)], upR (upR (M.2.1) (a + 1) 0 (some (a + 2))) (a) 0 (some (a + 1)), wI (M.2.2) (a + 1) 1 (0)) := hF
  show J _ _ _ _ _ _ _ _ _ _ _ (M.1 ++ [(6, nF 6)] ++ [(13, 12)] ++ [(6, nF 6)], upR (upR (M.2.1) (a + 1) 0 (some (a + 2))) (a) 0 (some (a + 1)), wI (M.2.2) (a + 1) 1 (0)) _
  refine J_dup dX2_init_19 rfl ?_
  refine J_cN (cXr6 (a + 3) (M.1 ++ [(6, nF 6)] ++ [(13, 12)] ++ [(6, nF 6)], upR (upR (M.2.1) (a + 1) 0 (some (a + 2))) (a) 0 (some (a + 1)), wI (M.2.2) (a + 1) 1 (0))) mcX6_init miX6_init (List.mem_of_getElem? (i := 9) rfl) rfl rfl (ctX6_init G hF hl7 hg9) rfl rfl (Nat.le_of_ble_eq_true rfl) (Nat.le_of_ble_eq_true rfl) (Nat.le_of_ble_eq_true rfl) (Nat.le_of_ble_eq_true rfl) (Nat.le_of_ble_eq_true rfl) dX2_init_20 ?_
  have hF := frX6 hF hl7
  have hl10 : (M.1 ++ [(6, nF 6)] ++ [(13, 12)] ++ [(6, nF 6)] ++ [(13, 12)]).length = a + 5 := ap_len hl7 rfl
  have hg11 : (M.1 ++ [(6, nF 6)] ++ [(13, 12)] ++ [(6, nF 6)] ++ [(13, 12)])[a]? = some (2, nF 2) := ap_old hg8
  have hg12 : (M.1 ++ [(6, nF 6)] ++ [(13, 12)] ++ [(6, nF 6)] ++ [(13, 12)])[a + 3]? = some (6, nF 6) := ap_old hg9
  have hF : Fr (M.1 ++ [(6, nF 6)] ++ [(13, 12)] ++ [(6, nF 6)] ++ [(13, 12)], upR (upR (upR (M.2.1) (a + 1) 0 (some (a + 2))) (a) 0 (some (a + 1))) (a + 3) 0 (some (a + 4)), wI (wI (M.2.2) (a + 1) 1 (0)) (a + 3) 1 (0)) := hF
  show J _ _ _ _ _ _ _ _ _ _ _ (M.1 ++ [(6, nF 6)] ++ [(13, 12)] ++ [(6, nF 6)] ++ [(13, 12)], upR (upR (upR (M.2.1) (a + 1) 0 (some (a + 2))) (a) 0 (some (a + 1))) (a + 3) 0 (some (a + 4)), wI (wI (M.2.2) (a + 1) 1 (0)) (a + 3) 1 (0)) _
  refine J_putRF rfl cf2 klX2_18 hF hg11 (Or.inl ⟨_, rfl⟩) dX2_init_23 ?_
  intro hF
  have hF : Fr (M.1 ++ [(6, nF 6)] ++ [(13, 12)] ++ [(6, nF 6)] ++ [(13, 12)], upR (upR (upR (upR (M.2.1) (a + 1) 0 (some (a + 2))) (a) 0 (some (a + 1))) (a + 3) 0 (some (a + 4))) (a) 1 (some (a + 3)), wI (wI (M.2.2) (a + 1) 1 (0)) (a + 3) 1 (0)) := hF
  show J _ _ _ _ _ _ _ _ _ _ _ (M.1 ++ [(6, nF 6)] ++ [(13, 12)] ++ [(6, nF 6)] ++ [(13, 12)], upR (upR (upR (upR (M.2.1) (a + 1) 0 (some (a + 2))) (a) 0 (some (a + 1))) (a + 3) 0 (some (a + 4))) (a) 1 (some (a + 3)), wI (wI (M.2.2) (a + 1) 1 (0)) (a + 3) 1 (0)) _
  refine J_aload_n dX2_init_26 rfl rfl ?_
  refine J_iconst (v := 0) dX2_init_27 (by decide) ?_
  refine J_putI cf2 klX2_21 hg11 rfl dX2_init_28 ?_
  have hF := hF.wI (a := a) (k := 2) (x := 0) (List.getElem?_eq_some_iff.mp hg11).1
  have hF : Fr (M.1 ++ [(6, nF 6)] ++ [(13, 12)] ++ [(6, nF 6)] ++ [(13, 12)], upR (upR (upR (upR (M.2.1) (a + 1) 0 (some (a + 2))) (a) 0 (some (a + 1))) (a + 3) 0 (some (a + 4))) (a) 1 (some (a + 3)), wI (wI (wI (M.2.2) (a + 1) 1 (0)) (a + 3) 1 (0)) (a) 2 (0)) := hF
  show J _ _ _ _ _ _ _ _ _ _ _ (M.1 ++ [(6, nF 6)] ++ [(13, 12)] ++ [(6, nF 6)] ++ [(13, 12)], upR (upR (upR (upR (M.2.1) (a + 1) 0 (some (a + 2))) (a) 0 (some (a + 1))) (a + 3) 0 (some (a + 4))) (a) 1 (some (a + 3)), wI (wI (wI (M.2.2) (a + 1) 1 (0)) (a + 3) 1 (0)) (a) 2 (0)) _
  refine J_aload_n dX2_init_31 rfl rfl ?_
  refine J_iconst (v := 0) dX2_init_32 (by decide) ?_
  refine J_putI cf2 klX2_25 hg11 rfl dX2_init_33 ?_
  have hF := hF.wI (a := a) (k := 3) (x := 0) (List.getElem?_eq_some_iff.mp hg11).1
  have hF : Fr (M.1 ++ [(6, nF 6)] ++ [(13, 12)] ++ [(6, nF 6)] ++ [(13, 12)], upR (upR (upR (upR (M.2.1) (a + 1) 0 (some (a + 2))) (a) 0 (some (a + 1))) (a + 3) 0 (some (a + 4))) (a) 1 (some (a + 3)), wI (wI (wI (wI (M.2.2) (a + 1) 1 (0)) (a + 3) 1 (0)) (a) 2 (0)) (a) 3 (0)) := hF
  show J _ _ _ _ _ _ _ _ _ _ _ (M.1 ++ [(6, nF 6)] ++ [(13, 12)] ++ [(6, nF 6)] ++ [(13, 12)], upR (upR (upR (upR (M.2.1) (a + 1) 0 (some (a + 2))) (a) 0 (some (a + 1))) (a + 3) 0 (some (a + 4))) (a) 1 (some (a + 3)), wI (wI (wI (wI (M.2.2) (a + 1) 1 (0)) (a + 3) 1 (0)) (a) 2 (0)) (a) 3 (0)) _
  refine J_aload_n dX2_init_36 rfl rfl ?_
  refine J_iconst (v := 0) dX2_init_37 (by decide) ?_
  refine J_putI cf2 klX2_28 hg11 rfl dX2_init_38 ?_
  have hF := hF.wI (a := a) (k := 4) (x := 0) (List.getElem?_eq_some_iff.mp hg11).1
  have hF : Fr (M.1 ++ [(6, nF 6)] ++ [(13, 12)] ++ [(6, nF 6)] ++ [(13, 12)], upR (upR (upR (upR (M.2.1) (a + 1) 0 (some (a + 2))) (a) 0 (some (a + 1))) (a + 3) 0 (some (a + 4))) (a) 1 (some (a + 3)), wI (wI (wI (wI (wI (M.2.2) (a + 1) 1 (0)) (a + 3) 1 (0)) (a) 2 (0)) (a) 3 (0)) (a) 4 (0)) := hF
  show J _ _ _ _ _ _ _ _ _ _ _ (M.1 ++ [(6, nF 6)] ++ [(13, 12)] ++ [(6, nF 6)] ++ [(13, 12)], upR (upR (upR (upR (M.2.1) (a + 1) 0 (some (a + 2))) (a) 0 (some (a + 1))) (a + 3) 0 (some (a + 4))) (a) 1 (some (a + 3)), wI (wI (wI (wI (wI (M.2.2) (a + 1) 1 (0)) (a + 3) 1 (0)) (a) 2 (0)) (a) 3 (0)) (a) 4 (0)) _
  refine J_aload_n dX2_init_41 rfl rfl ?_
  refine J_iconst (v := 0) dX2_init_42 (by decide) ?_
  refine J_putI cf2 klX2_31 hg11 rfl dX2_init_43 ?_
  have hF := hF.wI (a := a) (k := 5) (x := 0) (List.getElem?_eq_some_iff.mp hg11).1
  have hF : Fr (M.1 ++ [(6, nF 6)] ++ [(13, 12)] ++ [(6, nF 6)] ++ [(13, 12)], upR (upR (upR (upR (M.2.1) (a + 1) 0 (some (a + 2))) (a) 0 (some (a + 1))) (a + 3) 0 (some (a + 4))) (a) 1 (some (a + 3)), wI (wI (wI (wI (wI (wI (M.2.2) (a + 1) 1 (0)) (a + 3) 1 (0)) (a) 2 (0)) (a) 3 (0)) (a) 4 (0)) (a) 5 (0)) := hF
  show J _ _ _ _ _ _ _ _ _ _ _ (M.1 ++ [(6, nF 6)] ++ [(13, 12)] ++ [(6, nF 6)] ++ [(13, 12)], upR (upR (upR (upR (M.2.1) (a + 1) 0 (some (a + 2))) (a) 0 (some (a + 1))) (a + 3) 0 (some (a + 4))) (a) 1 (some (a + 3)), wI (wI (wI (wI (wI (wI (M.2.2) (a + 1) 1 (0)) (a + 3) 1 (0)) (a) 2 (0)) (a) 3 (0)) (a) 4 (0)) (a) 5 (0)) _
  refine J_aload_n dX2_init_46 rfl rfl ?_
  refine J_iconst (v := 0) dX2_init_47 (by decide) ?_
  refine J_putI cf2 klX2_34 hg11 rfl dX2_init_48 ?_
  have hF := hF.wI (a := a) (k := 6) (x := 0) (List.getElem?_eq_some_iff.mp hg11).1
  have hF : Fr (M.1 ++ [(6, nF 6)] ++ [(13, 12)] ++ [(6, nF 6)] ++ [(13, 12)], upR (upR (upR (upR (M.2.1) (a + 1) 0 (some (a + 2))) (a) 0 (some (a + 1))) (a + 3) 0 (some (a + 4))) (a) 1 (some (a + 3)), wI (wI (wI (wI (wI (wI (wI (M.2.2) (a + 1) 1 (0)) (a + 3) 1 (0)) (a) 2 (0)) (a) 3 (0)) (a) 4 (0)) (a) 5 (0)) (a) 6 (0)) := hF
  show J _ _ _ _ _ _ _ _ _ _ _ (M.1 ++ [(6, nF 6)] ++ [(13, 12)] ++ [(6, nF 6)] ++ [(13, 12)], upR (upR (upR (upR (M.2.1) (a + 1) 0 (some (a + 2))) (a) 0 (some (a + 1))) (a + 3) 0 (some (a + 4))) (a) 1 (some (a + 3)), wI (wI (wI (wI (wI (wI (wI (M.2.2) (a + 1) 1 (0)) (a + 3) 1 (0)) (a) 2 (0)) (a) 3 (0)) (a) 4 (0)) (a) 5 (0)) (a) 6 (0)) _
  refine J_aload_n dX2_init_51 rfl rfl ?_
  refine J_iconst (v := 0) dX2_init_52 (by decide) ?_
  refine J_putI cf2 klX2_37 hg11 rfl dX2_init_53 ?_
  have hF := hF.wI (a := a) (k := 7) (x := 0) (List.getElem?_eq_some_iff.mp hg11).1
  have hF : Fr (M.1 ++ [(6, nF 6)] ++ [(13, 12)] ++ [(6, nF 6)] ++ [(13, 12)], upR (upR (upR (upR (M.2.1) (a + 1) 0 (some (a + 2))) (a) 0 (some (a + 1))) (a + 3) 0 (some (a + 4))) (a) 1 (some (a + 3)), wI (wI (wI (wI (wI (wI (wI (wI (M.2.2) (a + 1) 1 (0)) (a + 3) 1 (0)) (a) 2 (0)) (a) 3 (0)) (a) 4 (0)) (a) 5 (0)) (a) 6 (0)) (a) 7 (0)) := hF
  show J _ _ _ _ _ _ _ _ _ _ _ (M.1 ++ [(6, nF 6)] ++ [(13, 12)] ++ [(6, nF 6)] ++ [(13, 12)], upR (upR (upR (upR (M.2.1) (a + 1) 0 (some (a + 2))) (a) 0 (some (a + 1))) (a + 3) 0 (some (a + 4))) (a) 1 (some (a + 3)), wI (wI (wI (wI (wI (wI (wI (wI (M.2.2) (a + 1) 1 (0)) (a + 3) 1 (0)) (a) 2 (0)) (a) 3 (0)) (a) 4 (0)) (a) 5 (0)) (a) 6 (0)) (a) 7 (0)) _
  exact J_return rfl (Nat.le_of_ble_eq_true rfl) (Nat.le_of_ble_eq_true rfl) rfl dX2_init_56
theorem frX2 {a : Nat} {M : Hm} (hF : Fr M) (hl : M.1.length = a + 1) : Fr (cXr2 a M) := by
  have hs : (cXr2 a M).1.length = a + 5 := by show (M.1 ++ [(6, nF 6)] ++ [(13, 12)] ++ [(6, nF 6)] ++ [(13, 12)]).length = _; simp [hl]
  intro q hq j
  rw [hs] at hq
  have h := hF q (by omega) j
  refine ⟨?_, ?_, h.2.2⟩
  · show (upR (upR (upR (upR (M.2.1) (a + 1) 0 (some (a + 2))) (a) 0 (some (a + 1))) (a + 3) 0 (some (a + 4))) (a) 1 (some (a + 3))) q j = none
    simp only [upR, rfM]
    repeat rw [if_neg (by omega)]
    exact h.1
  · show (wI (wI (wI (wI (wI (wI (wI (wI (M.2.2) (a + 1) 1 (0)) (a + 3) 1 (0)) (a) 2 (0)) (a) 3 (0)) (a) 4 (0)) (a) 5 (0)) (a) 6 (0)) (a) 7 (0)).1 q j = 0
    simp only [wI, fiI]
    repeat rw [if_neg (by omega)]
    exact h.2.1
abbrev YX12_init : MD := (RX12, cX12_init, 2, none, true)
set_option maxRecDepth 100000 in
theorem mcX12_init : MC yX12_init YX12_init 0 := ⟨rfl, ⟨by decide, by decide, by decide +kernel⟩, in1 14 (by rfl) rfl, in5 202 (by rfl) rfl⟩
set_option maxRecDepth 100000 in
theorem miX12_init : Cond.instanceMethod yX12_init ∈ TT := in5 201 (by rfl) rfl
theorem dX12_init_0 : decode cX12_init 0 = .ok (.aload_n 0, 1) := by decide +kernel
theorem dX12_init_1 : decode cX12_init 1 = .ok (.invokespecial 1, 3) := by decide +kernel
theorem dX12_init_4 : decode cX12_init 4 = .ok (.aload_n 0, 1) := by decide +kernel
theorem dX12_init_5 : decode cX12_init 5 = .ok (.bipush 72, 2) := by decide +kernel
theorem dX12_init_7 : decode cX12_init 7 = .ok (.newarray .int, 2) := by decide +kernel
theorem dX12_init_9 : decode cX12_init 9 = .ok (.putfield 9, 3) := by decide +kernel
theorem dX12_init_12 : decode cX12_init 12 = .ok (.aload_n 0, 1) := by decide +kernel
theorem dX12_init_13 : decode cX12_init 13 = .ok (.bipush 72, 2) := by decide +kernel
theorem dX12_init_15 : decode cX12_init 15 = .ok (.newarray .int, 2) := by decide +kernel
theorem dX12_init_17 : decode cX12_init 17 = .ok (.putfield 13, 3) := by decide +kernel
theorem dX12_init_20 : decode cX12_init 20 = .ok (.aload_n 0, 1) := by decide +kernel
theorem dX12_init_21 : decode cX12_init 21 = .ok (.bipush 72, 2) := by decide +kernel
theorem dX12_init_23 : decode cX12_init 23 = .ok (.newarray .int, 2) := by decide +kernel
theorem dX12_init_25 : decode cX12_init 25 = .ok (.putfield 16, 3) := by decide +kernel
theorem dX12_init_28 : decode cX12_init 28 = .ok (.aload_n 0, 1) := by decide +kernel
theorem dX12_init_29 : decode cX12_init 29 = .ok (.bipush 96, 2) := by decide +kernel
theorem dX12_init_31 : decode cX12_init 31 = .ok (.newarray .int, 2) := by decide +kernel
theorem dX12_init_33 : decode cX12_init 33 = .ok (.putfield 19, 3) := by decide +kernel
theorem dX12_init_36 : decode cX12_init 36 = .ok (.aload_n 0, 1) := by decide +kernel
theorem dX12_init_37 : decode cX12_init 37 = .ok (.bipush 24, 2) := by decide +kernel
theorem dX12_init_39 : decode cX12_init 39 = .ok (.newarray .int, 2) := by decide +kernel
theorem dX12_init_41 : decode cX12_init 41 = .ok (.putfield 22, 3) := by decide +kernel
theorem dX12_init_44 : decode cX12_init 44 = .ok (.aload_n 0, 1) := by decide +kernel
theorem dX12_init_45 : decode cX12_init 45 = .ok (.bipush 6, 2) := by decide +kernel
theorem dX12_init_47 : decode cX12_init 47 = .ok (.newarray .int, 2) := by decide +kernel
theorem dX12_init_49 : decode cX12_init 49 = .ok (.putfield 25, 3) := by decide +kernel
theorem dX12_init_52 : decode cX12_init 52 = .ok (.aload_n 0, 1) := by decide +kernel
theorem dX12_init_53 : decode cX12_init 53 = .ok (.bipush 12, 2) := by decide +kernel
theorem dX12_init_55 : decode cX12_init 55 = .ok (.newarray .int, 2) := by decide +kernel
theorem dX12_init_57 : decode cX12_init 57 = .ok (.putfield 28, 3) := by decide +kernel
theorem dX12_init_60 : decode cX12_init 60 = .ok (.aload_n 0, 1) := by decide +kernel
theorem dX12_init_61 : decode cX12_init 61 = .ok (.bipush 48, 2) := by decide +kernel
theorem dX12_init_63 : decode cX12_init 63 = .ok (.newarray .int, 2) := by decide +kernel
theorem dX12_init_65 : decode cX12_init 65 = .ok (.putfield 31, 3) := by decide +kernel
theorem dX12_init_68 : decode cX12_init 68 = .ok (.aload_n 0, 1) := by decide +kernel
theorem dX12_init_69 : decode cX12_init 69 = .ok (.bipush 8, 2) := by decide +kernel
theorem dX12_init_71 : decode cX12_init 71 = .ok (.newarray .int, 2) := by decide +kernel
theorem dX12_init_73 : decode cX12_init 73 = .ok (.putfield 34, 3) := by decide +kernel
theorem dX12_init_76 : decode cX12_init 76 = .ok (.aload_n 0, 1) := by decide +kernel
theorem dX12_init_77 : decode cX12_init 77 = .ok (.sipush 4200, 3) := by decide +kernel
theorem dX12_init_80 : decode cX12_init 80 = .ok (.newarray .int, 2) := by decide +kernel
theorem dX12_init_82 : decode cX12_init 82 = .ok (.putfield 37, 3) := by decide +kernel
theorem dX12_init_85 : decode cX12_init 85 = .ok (.aload_n 0, 1) := by decide +kernel
theorem dX12_init_86 : decode cX12_init 86 = .ok (.sipush 4200, 3) := by decide +kernel
theorem dX12_init_89 : decode cX12_init 89 = .ok (.newarray .int, 2) := by decide +kernel
theorem dX12_init_91 : decode cX12_init 91 = .ok (.putfield 40, 3) := by decide +kernel
theorem dX12_init_94 : decode cX12_init 94 = .ok (.aload_n 0, 1) := by decide +kernel
theorem dX12_init_95 : decode cX12_init 95 = .ok (.sipush 4200, 3) := by decide +kernel
theorem dX12_init_98 : decode cX12_init 98 = .ok (.newarray .int, 2) := by decide +kernel
theorem dX12_init_100 : decode cX12_init 100 = .ok (.putfield 43, 3) := by decide +kernel
theorem dX12_init_103 : decode cX12_init 103 = .ok (.aload_n 0, 1) := by decide +kernel
theorem dX12_init_104 : decode cX12_init 104 = .ok (.iconst (-1), 1) := by decide +kernel
theorem dX12_init_105 : decode cX12_init 105 = .ok (.putfield 46, 3) := by decide +kernel
theorem dX12_init_108 : decode cX12_init 108 = .ok (.aload_n 0, 1) := by decide +kernel
theorem dX12_init_109 : decode cX12_init 109 = .ok (.bipush 8, 2) := by decide +kernel
theorem dX12_init_111 : decode cX12_init 111 = .ok (.newarray .int, 2) := by decide +kernel
theorem dX12_init_113 : decode cX12_init 113 = .ok (.putfield 50, 3) := by decide +kernel
theorem dX12_init_116 : decode cX12_init 116 = .ok (.aload_n 0, 1) := by decide +kernel
theorem dX12_init_117 : decode cX12_init 117 = .ok (.sipush 16385, 3) := by decide +kernel
theorem dX12_init_120 : decode cX12_init 120 = .ok (.newarray .long, 2) := by decide +kernel
theorem dX12_init_122 : decode cX12_init 122 = .ok (.putfield 53, 3) := by decide +kernel
theorem dX12_init_125 : decode cX12_init 125 = .ok (.aload_n 0, 1) := by decide +kernel
theorem dX12_init_126 : decode cX12_init 126 = .ok (.sipush 16385, 3) := by decide +kernel
theorem dX12_init_129 : decode cX12_init 129 = .ok (.newarray .int, 2) := by decide +kernel
theorem dX12_init_131 : decode cX12_init 131 = .ok (.putfield 57, 3) := by decide +kernel
theorem dX12_init_134 : decode cX12_init 134 = .ok (.aload_n 0, 1) := by decide +kernel
theorem dX12_init_135 : decode cX12_init 135 = .ok (.bipush 60, 2) := by decide +kernel
theorem dX12_init_137 : decode cX12_init 137 = .ok (.newarray .int, 2) := by decide +kernel
theorem dX12_init_139 : decode cX12_init 139 = .ok (.putfield 60, 3) := by decide +kernel
theorem dX12_init_142 : decode cX12_init 142 = .ok (.aload_n 0, 1) := by decide +kernel
theorem dX12_init_143 : decode cX12_init 143 = .ok (.sipush 600, 3) := by decide +kernel
theorem dX12_init_146 : decode cX12_init 146 = .ok (.newarray .int, 2) := by decide +kernel
theorem dX12_init_148 : decode cX12_init 148 = .ok (.putfield 63, 3) := by decide +kernel
theorem dX12_init_151 : decode cX12_init 151 = .ok (.aload_n 0, 1) := by decide +kernel
theorem dX12_init_152 : decode cX12_init 152 = .ok (.bipush 10, 2) := by decide +kernel
theorem dX12_init_154 : decode cX12_init 154 = .ok (.newarray .int, 2) := by decide +kernel
theorem dX12_init_156 : decode cX12_init 156 = .ok (.putfield 66, 3) := by decide +kernel
theorem dX12_init_159 : decode cX12_init 159 = .ok (.aload_n 0, 1) := by decide +kernel
theorem dX12_init_160 : decode cX12_init 160 = .ok (.bipush 10, 2) := by decide +kernel
theorem dX12_init_162 : decode cX12_init 162 = .ok (.newarray .int, 2) := by decide +kernel
theorem dX12_init_164 : decode cX12_init 164 = .ok (.putfield 69, 3) := by decide +kernel
theorem dX12_init_167 : decode cX12_init 167 = .ok (.aload_n 0, 1) := by decide +kernel
theorem dX12_init_168 : decode cX12_init 168 = .ok (.sipush 16385, 3) := by decide +kernel
theorem dX12_init_171 : decode cX12_init 171 = .ok (.newarray .boolean, 2) := by decide +kernel
theorem dX12_init_173 : decode cX12_init 173 = .ok (.putfield 72, 3) := by decide +kernel
theorem dX12_init_176 : decode cX12_init 176 = .ok (.aload_n 0, 1) := by decide +kernel
theorem dX12_init_177 : decode cX12_init 177 = .ok (.iconst (-1), 1) := by decide +kernel
theorem dX12_init_178 : decode cX12_init 178 = .ok (.putfield 76, 3) := by decide +kernel
theorem dX12_init_181 : decode cX12_init 181 = .ok (.aload_n 0, 1) := by decide +kernel
theorem dX12_init_182 : decode cX12_init 182 = .ok (.bipush 8, 2) := by decide +kernel
theorem dX12_init_184 : decode cX12_init 184 = .ok (.newarray .int, 2) := by decide +kernel
theorem dX12_init_186 : decode cX12_init 186 = .ok (.putfield 79, 3) := by decide +kernel
theorem dX12_init_189 : decode cX12_init 189 = .ok (.aload_n 0, 1) := by decide +kernel
theorem dX12_init_190 : decode cX12_init 190 = .ok (.sipush 1000, 3) := by decide +kernel
theorem dX12_init_193 : decode cX12_init 193 = .ok (.newarray .int, 2) := by decide +kernel
theorem dX12_init_195 : decode cX12_init 195 = .ok (.putfield 82, 3) := by decide +kernel
theorem dX12_init_198 : decode cX12_init 198 = .ok (.aload_n 0, 1) := by decide +kernel
theorem dX12_init_199 : decode cX12_init 199 = .ok (.bipush 24, 2) := by decide +kernel
theorem dX12_init_201 : decode cX12_init 201 = .ok (.newarray .int, 2) := by decide +kernel
theorem dX12_init_203 : decode cX12_init 203 = .ok (.putfield 85, 3) := by decide +kernel
theorem dX12_init_206 : decode cX12_init 206 = .ok (.aload_n 0, 1) := by decide +kernel
theorem dX12_init_207 : decode cX12_init 207 = .ok (.bipush 6, 2) := by decide +kernel
theorem dX12_init_209 : decode cX12_init 209 = .ok (.newarray .int, 2) := by decide +kernel
theorem dX12_init_211 : decode cX12_init 211 = .ok (.putfield 88, 3) := by decide +kernel
theorem dX12_init_214 : decode cX12_init 214 = .ok (.aload_n 0, 1) := by decide +kernel
theorem dX12_init_215 : decode cX12_init 215 = .ok (.bipush 6, 2) := by decide +kernel
theorem dX12_init_217 : decode cX12_init 217 = .ok (.newarray .int, 2) := by decide +kernel
theorem dX12_init_219 : decode cX12_init 219 = .ok (.putfield 91, 3) := by decide +kernel
theorem dX12_init_222 : decode cX12_init 222 = .ok (.aload_n 0, 1) := by decide +kernel
theorem dX12_init_223 : decode cX12_init 223 = .ok (.sipush 360, 3) := by decide +kernel
theorem dX12_init_226 : decode cX12_init 226 = .ok (.newarray .long, 2) := by decide +kernel
theorem dX12_init_228 : decode cX12_init 228 = .ok (.putfield 94, 3) := by decide +kernel
theorem dX12_init_231 : decode cX12_init 231 = .ok (.aload_n 0, 1) := by decide +kernel
theorem dX12_init_232 : decode cX12_init 232 = .ok (.bipush 60, 2) := by decide +kernel
theorem dX12_init_234 : decode cX12_init 234 = .ok (.newarray .long, 2) := by decide +kernel
theorem dX12_init_236 : decode cX12_init 236 = .ok (.putfield 97, 3) := by decide +kernel
theorem dX12_init_239 : decode cX12_init 239 = .ok (.iconst 0, 1) := by decide +kernel
theorem dX12_init_240 : decode cX12_init 240 = .ok (.istore_n 1, 1) := by decide +kernel
theorem dX12_init_241 : decode cX12_init 241 = .ok (.iload_n 1, 1) := by decide +kernel
theorem dX12_init_242 : decode cX12_init 242 = .ok (.bipush 6, 2) := by decide +kernel
theorem dX12_init_244 : decode cX12_init 244 = .ok (.if_icmp .ge 16, 3) := by decide +kernel
theorem dX12_init_247 : decode cX12_init 247 = .ok (.aload_n 0, 1) := by decide +kernel
theorem dX12_init_248 : decode cX12_init 248 = .ok (.getfield 88, 3) := by decide +kernel
theorem dX12_init_251 : decode cX12_init 251 = .ok (.iload_n 1, 1) := by decide +kernel
theorem dX12_init_252 : decode cX12_init 252 = .ok (.iconst (-1), 1) := by decide +kernel
theorem dX12_init_253 : decode cX12_init 253 = .ok (.iastore, 1) := by decide +kernel
theorem dX12_init_254 : decode cX12_init 254 = .ok (.iinc 1 1, 3) := by decide +kernel
theorem dX12_init_257 : decode cX12_init 257 = .ok (.goto (-16), 3) := by decide +kernel
theorem dX12_init_260 : decode cX12_init 260 = .ok (.return_, 1) := by decide +kernel
set_option maxRecDepth 100000 in
theorem klX12_9 : FL RX12 9 12 0 true := ⟨_, rfl, by decide, in5 204 (by rfl) rfl, rfl, rfl⟩
set_option maxRecDepth 100000 in
theorem klX12_13 : FL RX12 13 12 1 true := ⟨_, rfl, by decide, in5 205 (by rfl) rfl, rfl, rfl⟩
set_option maxRecDepth 100000 in
theorem klX12_16 : FL RX12 16 12 2 true := ⟨_, rfl, by decide, in5 206 (by rfl) rfl, rfl, rfl⟩
set_option maxRecDepth 100000 in
theorem klX12_19 : FL RX12 19 12 3 true := ⟨_, rfl, by decide, in5 207 (by rfl) rfl, rfl, rfl⟩
set_option maxRecDepth 100000 in
theorem klX12_22 : FL RX12 22 12 4 true := ⟨_, rfl, by decide, in5 208 (by rfl) rfl, rfl, rfl⟩
set_option maxRecDepth 100000 in
theorem klX12_25 : FL RX12 25 12 5 true := ⟨_, rfl, by decide, in5 209 (by rfl) rfl, rfl, rfl⟩
set_option maxRecDepth 100000 in
theorem klX12_28 : FL RX12 28 12 7 true := ⟨_, rfl, by decide, in5 211 (by rfl) rfl, rfl, rfl⟩
set_option maxRecDepth 100000 in
theorem klX12_31 : FL RX12 31 12 9 true := ⟨_, rfl, by decide, in5 213 (by rfl) rfl, rfl, rfl⟩
set_option maxRecDepth 100000 in
theorem klX12_34 : FL RX12 34 12 16 true := ⟨_, rfl, by decide, in5 220 (by rfl) rfl, rfl, rfl⟩
set_option maxRecDepth 100000 in
theorem klX12_37 : FL RX12 37 12 17 true := ⟨_, rfl, by decide, in5 221 (by rfl) rfl, rfl, rfl⟩
set_option maxRecDepth 100000 in
theorem klX12_40 : FL RX12 40 12 18 true := ⟨_, rfl, by decide, in5 222 (by rfl) rfl, rfl, rfl⟩
set_option maxRecDepth 100000 in
theorem klX12_43 : FL RX12 43 12 19 true := ⟨_, rfl, by decide, in5 223 (by rfl) rfl, rfl, rfl⟩
set_option maxRecDepth 100000 in
theorem klX12_46 : FL RX12 46 12 21 false := ⟨_, rfl, by decide, in5 225 (by rfl) rfl, rfl, rfl⟩
set_option maxRecDepth 100000 in
theorem klX12_50 : FL RX12 50 12 25 true := ⟨_, rfl, by decide, in5 229 (by rfl) rfl, rfl, rfl⟩
set_option maxRecDepth 100000 in
theorem klX12_53 : FL RX12 53 12 26 true := ⟨_, rfl, by decide, in5 230 (by rfl) rfl, rfl, rfl⟩
set_option maxRecDepth 100000 in
theorem klX12_57 : FL RX12 57 12 27 true := ⟨_, rfl, by decide, in5 231 (by rfl) rfl, rfl, rfl⟩
set_option maxRecDepth 100000 in
theorem klX12_60 : FL RX12 60 12 29 true := ⟨_, rfl, by decide, in5 233 (by rfl) rfl, rfl, rfl⟩
set_option maxRecDepth 100000 in
theorem klX12_63 : FL RX12 63 12 31 true := ⟨_, rfl, by decide, in5 235 (by rfl) rfl, rfl, rfl⟩
set_option maxRecDepth 100000 in
theorem klX12_66 : FL RX12 66 12 32 true := ⟨_, rfl, by decide, in5 236 (by rfl) rfl, rfl, rfl⟩
set_option maxRecDepth 100000 in
theorem klX12_69 : FL RX12 69 12 33 true := ⟨_, rfl, by decide, in5 237 (by rfl) rfl, rfl, rfl⟩
set_option maxRecDepth 100000 in
theorem klX12_72 : FL RX12 72 12 40 true := ⟨_, rfl, by decide, in6 4 (by rfl) rfl, rfl, rfl⟩
set_option maxRecDepth 100000 in
theorem klX12_76 : FL RX12 76 12 48 false := ⟨_, rfl, by decide, in6 12 (by rfl) rfl, rfl, rfl⟩
set_option maxRecDepth 100000 in
theorem klX12_79 : FL RX12 79 12 53 true := ⟨_, rfl, by decide, in6 17 (by rfl) rfl, rfl, rfl⟩
set_option maxRecDepth 100000 in
theorem klX12_82 : FL RX12 82 12 55 true := ⟨_, rfl, by decide, in6 19 (by rfl) rfl, rfl, rfl⟩
set_option maxRecDepth 100000 in
theorem klX12_85 : FL RX12 85 12 56 true := ⟨_, rfl, by decide, in6 20 (by rfl) rfl, rfl, rfl⟩
set_option maxRecDepth 100000 in
theorem klX12_88 : FL RX12 88 12 61 true := ⟨_, rfl, by decide, in6 25 (by rfl) rfl, rfl, rfl⟩
set_option maxRecDepth 100000 in
theorem klX12_91 : FL RX12 91 12 62 true := ⟨_, rfl, by decide, in6 26 (by rfl) rfl, rfl, rfl⟩
set_option maxRecDepth 100000 in
theorem klX12_94 : FL RX12 94 12 63 true := ⟨_, rfl, by decide, in6 27 (by rfl) rfl, rfl, rfl⟩
set_option maxRecDepth 100000 in
theorem klX12_97 : FL RX12 97 12 64 true := ⟨_, rfl, by decide, in6 28 (by rfl) rfl, rfl, rfl⟩
abbrev cXr12 (a : Nat) (M : Hm) : Hm := (M.1 ++ [(13, 72)] ++ [(13, 72)] ++ [(13, 72)] ++ [(13, 96)] ++ [(13, 24)] ++ [(13, 6)] ++ [(13, 12)] ++ [(13, 48)] ++ [(13, 8)] ++ [(13, 4200)] ++ [(13, 4200)] ++ [(13, 4200)] ++ [(13, 8)] ++ [(14, 16385)] ++ [(13, 16385)] ++ [(13, 60)] ++ [(13, 600)] ++ [(13, 10)] ++ [(13, 10)] ++ [(15, 16385)] ++ [(13, 8)] ++ [(13, 1000)] ++ [(13, 24)] ++ [(13, 6)] ++ [(13, 6)] ++ [(14, 360)] ++ [(14, 60)], upR (upR (upR (upR (upR (upR (upR (upR (upR (upR (upR (upR (upR (upR (upR (upR (upR (upR (upR (upR (upR (upR (upR (upR (upR (upR (upR (M.2.1) (a) 0 (some (a + 1))) (a) 1 (some (a + 2))) (a) 2 (some (a + 3))) (a) 3 (some (a + 4))) (a) 4 (some (a + 5))) (a) 5 (some (a + 6))) (a) 7 (some (a + 7))) (a) 9 (some (a + 8))) (a) 16 (some (a + 9))) (a) 17 (some (a + 10))) (a) 18 (some (a + 11))) (a) 19 (some (a + 12))) (a) 25 (some (a + 13))) (a) 26 (some (a + 14))) (a) 27 (some (a + 15))) (a) 29 (some (a + 16))) (a) 31 (some (a + 17))) (a) 32 (some (a + 18))) (a) 33 (some (a + 19))) (a) 40 (some (a + 20))) (a) 53 (some (a + 21))) (a) 55 (some (a + 22))) (a) 56 (some (a + 23))) (a) 61 (some (a + 24))) (a) 62 (some (a + 25))) (a) 63 (some (a + 26))) (a) 64 (some (a + 27)), wI (wI (wI (wI (wI (wI (wI (wI (M.2.2) (a) 21 (-1)) (a) 48 (-1)) (a + 24) 0 (-1)) (a + 24) 1 (-1)) (a + 24) 2 (-1)) (a + 24) 3 (-1)) (a + 24) 4 (-1)) (a + 24) 5 (-1))
set_option maxHeartbeats 8000000 in
theorem ctX12_init (G : Gm) {a : Nat} {M : Hm} (hF : Fr M) (hl : M.1.length = a + 1) (h0 : M.1[a]? = some (12, nF 12)) : Ct G YX12_init yX12_init 1 27 64317 finH (some (cXr12 a M)) [vR (some a)] M := by
  refine Ct_of_J [some (vR (some a)), none] (by decide) rfl (fun _ => rfl) (Nat.le_of_ble_eq_true rfl) (And.intro rfl trivial) ?_
  refine J_aload_n dX12_init_0 rfl rfl ?_
  refine J_objInit (in5 203 (by rfl) rfl) w_oi1 w_oi2 (Nat.le_of_ble_eq_true rfl) (Nat.le_of_ble_eq_true rfl) dX12_init_1 ?_
  refine J_aload_n dX12_init_4 rfl rfl ?_
  refine J_bipush (v := 72) dX12_init_5 (by decide) ?_
  refine J_newI (a := a + 1) (N := 72) (by decide) (by decide) (by decide) hF hl (Nat.le_of_ble_eq_true rfl) (Nat.le_of_ble_eq_true rfl) dX12_init_7 ?_
  intro hF
  have hl1 : (M.1 ++ [(13, 72)]).length = a + 2 := ap_len hl rfl
  have hg2 : (M.1 ++ [(13, 72)])[a]? = some (12, nF 12) := ap_old h0
  have hF : Fr (M.1 ++ [(13, 72)], M.2.1, M.2.2) := hF
  show J _ _ _ _ _ _ _ _ _ _ _ (M.1 ++ [(13, 72)], M.2.1, M.2.2) _
  refine J_putRF rfl cf12 klX12_9 hF hg2 (Or.inr ⟨_, rfl⟩) dX12_init_9 ?_
  intro hF
  have hF : Fr (M.1 ++ [(13, 72)], upR (M.2.1) (a) 0 (some (a + 1)), M.2.2) := hF
  show J _ _ _ _ _ _ _ _ _ _ _ (M.1 ++ [(13, 72)], upR (M.2.1) (a) 0 (some (a + 1)), M.2.2) _
  refine J_aload_n dX12_init_12 rfl rfl ?_
  refine J_bipush (v := 72) dX12_init_13 (by decide) ?_
  refine J_newI (a := a + 2) (N := 72) (by decide) (by decide) (by decide) hF hl1 (Nat.le_of_ble_eq_true rfl) (Nat.le_of_ble_eq_true rfl) dX12_init_15 ?_
  intro hF
  have hl3 : (M.1 ++ [(13, 72)] ++ [(13, 72)]).length = a + 3 := ap_len hl1 rfl
  have hg4 : (M.1 ++ [(13, 72)] ++ [(13, 72)])[a]? = some (12, nF 12) := ap_old hg2
  have hF : Fr (M.1 ++ [(13, 72)] ++ [(13, 72)], upR (M.2.1) (a) 0 (some (a + 1)), M.2.2) := hF
  show J _ _ _ _ _ _ _ _ _ _ _ (M.1 ++ [(13, 72)] ++ [(13, 72)], upR (M.2.1) (a) 0 (some (a + 1)), M.2.2) _
  refine J_putRF rfl cf12 klX12_13 hF hg4 (Or.inr ⟨_, rfl⟩) dX12_init_17 ?_
  intro hF
  have hF : Fr (M.1 ++ [(13, 72)] ++ [(13, 72)], upR (upR (M.2.1) (a) 0 (some (a + 1))) (a) 1 (some (a + 2)), M.2.2) := hF
  show J _ _ _ _ _ _ _ _ _ _ _ (M.1 ++ [(13, 72)] ++ [(13, 72)], upR (upR (M.2.1) (a) 0 (some (a + 1))) (a) 1 (some (a + 2)), M.2.2) _
  refine J_aload_n dX12_init_20 rfl rfl ?_
  refine J_bipush (v := 72) dX12_init_21 (by decide) ?_
  refine J_newI (a := a + 3) (N := 72) (by decide) (by decide) (by decide) hF hl3 (Nat.le_of_ble_eq_true rfl) (Nat.le_of_ble_eq_true rfl) dX12_init_23 ?_
  intro hF
  have hl5 : (M.1 ++ [(13, 72)] ++ [(13, 72)] ++ [(13, 72)]).length = a + 4 := ap_len hl3 rfl
  have hg6 : (M.1 ++ [(13, 72)] ++ [(13, 72)] ++ [(13, 72)])[a]? = some (12, nF 12) := ap_old hg4
  have hF : Fr (M.1 ++ [(13, 72)] ++ [(13, 72)] ++ [(13, 72)], upR (upR (M.2.1) (a) 0 (some (a + 1))) (a) 1 (some (a + 2)), M.2.2) := hF
  show J _ _ _ _ _ _ _ _ _ _ _ (M.1 ++ [(13, 72)] ++ [(13, 72)] ++ [(13, 72)], upR (upR (M.2.1) (a) 0 (some (a + 1))) (a) 1 (some (a + 2)), M.2.2) _
  refine J_putRF rfl cf12 klX12_16 hF hg6 (Or.inr ⟨_, rfl⟩) dX12_init_25 ?_
  intro hF
  have hF : Fr (M.1 ++ [(13, 72)] ++ [(13, 72)] ++ [(13, 72)], upR (upR (upR (M.2.1) (a) 0 (some (a + 1))) (a) 1 (some (a + 2))) (a) 2 (some (a + 3)), M.2.2) := hF
  show J _ _ _ _ _ _ _ _ _ _ _ (M.1 ++ [(13, 72)] ++ [(13, 72)] ++ [(13, 72)], upR (upR (upR (M.2.1) (a) 0 (some (a + 1))) (a) 1 (some (a + 2))) (a) 2 (some (a + 3)), M.2.2) _
  refine J_aload_n dX12_init_28 rfl rfl ?_
  refine J_bipush (v := 96) dX12_init_29 (by decide) ?_
  refine J_newI (a := a + 4) (N := 96) (by decide) (by decide) (by decide) hF hl5 (Nat.le_of_ble_eq_true rfl) (Nat.le_of_ble_eq_true rfl) dX12_init_31 ?_
  intro hF
  have hl7 : (M.1 ++ [(13, 72)] ++ [(13, 72)] ++ [(13, 72)] ++ [(13, 96)]).length = a + 5 := ap_len hl5 rfl
  have hg8 : (M.1 ++ [(13, 72)] ++ [(13, 72)] ++ [(13, 72)] ++ [(13, 96)])[a]? = some (12, nF 12) := ap_old hg6
  have hF : Fr (M.1 ++ [(13, 72)] ++ [(13, 72)] ++ [(13, 72)] ++ [(13, 96)], upR (upR (upR (M.2.1) (a) 0 (some (a + 1))) (a) 1 (some (a + 2))) (a) 2 (some (a + 3)), M.2.2) := hF
  show J _ _ _ _ _ _ _ _ _ _ _ (M.1 ++ [(13, 72)] ++ [(13, 72)] ++ [(13, 72)] ++ [(13, 96)], upR (upR (upR (M.2.1) (a) 0 (some (a + 1))) (a) 1 (some (a + 2))) (a) 2 (some (a + 3)), M.2.2) _
  refine J_putRF rfl cf12 klX12_19 hF hg8 (Or.inr ⟨_, rfl⟩) dX12_init_33 ?_
  intro hF
  have hF : Fr (M.1 ++ [(13, 72)] ++ [(13, 72)] ++ [(13, 72)] ++ [(13, 96)], upR (upR (upR (upR (M.2.1) (a) 0 (some (a + 1))) (a) 1 (some (a + 2))) (a) 2 (some (a + 3))) (a) 3 (some (a + 4)), M.2.2) := hF
  show J _ _ _ _ _ _ _ _ _ _ _ (M.1 ++ [(13, 72)] ++ [(13, 72)] ++ [(13, 72)] ++ [(13, 96)], upR (upR (upR (upR (M.2.1) (a) 0 (some (a + 1))) (a) 1 (some (a + 2))) (a) 2 (some (a + 3))) (a) 3 (some (a + 4)), M.2.2) _
  refine J_aload_n dX12_init_36 rfl rfl ?_
  refine J_bipush (v := 24) dX12_init_37 (by decide) ?_
  refine J_newI (a := a + 5) (N := 24) (by decide) (by decide) (by decide) hF hl7 (Nat.le_of_ble_eq_true rfl) (Nat.le_of_ble_eq_true rfl) dX12_init_39 ?_
  intro hF
  have hl9 : (M.1 ++ [(13, 72)] ++ [(13, 72)] ++ [(13, 72)] ++ [(13, 96)] ++ [(13, 24)]).length = a + 6 := ap_len hl7 rfl
  have hg10 : (M.1 ++ [(13, 72)] ++ [(13, 72)] ++ [(13, 72)] ++ [(13, 96)] ++ [(13, 24)])[a]? = some (12, nF 12) := ap_old hg8
  have hF : Fr (M.1 ++ [(13, 72)] ++ [(13, 72)] ++ [(13, 72)] ++ [(13, 96)] ++ [(13, 24)], upR (upR (upR (upR (M.2.1) (a) 0 (some (a + 1))) (a) 1 (some (a + 2))) (a) 2 (some (a + 3))) (a) 3 (some (a + 4)), M.2.2) := hF
  show J _ _ _ _ _ _ _ _ _ _ _ (M.1 ++ [(13, 72)] ++ [(13, 72)] ++ [(13, 72)] ++ [(13, 96)] ++ [(13, 24)], upR (upR (upR (upR (M.2.1) (a) 0 (some (a + 1))) (a) 1 (some (a + 2))) (a) 2 (some (a + 3))) (a) 3 (some (a + 4)), M.2.2) _
  refine J_putRF rfl cf12 klX12_22 hF hg10 (Or.inr ⟨_, rfl⟩) dX12_init_41 ?_
  intro hF
  have hF : Fr (M.1 ++ [(13, 72)] ++ [(13, 72)] ++ [(13, 72)] ++ [(13, 96)] ++ [(13, 24)], upR (upR (upR (upR (upR (M.2.1) (a) 0 (some (a + 1))) (a) 1 (some (a + 2))) (a) 2 (some (a + 3))) (a) 3 (some (a + 4))) (a) 4 (some (a + 5)), M.2.2) := hF
  show J _ _ _ _ _ _ _ _ _ _ _ (M.1 ++ [(13, 72)] ++ [(13, 72)] ++ [(13, 72)] ++ [(13, 96)] ++ [(13, 24)], upR (upR (upR (upR (upR (M.2.1) (a) 0 (some (a + 1))) (a) 1 (some (a + 2))) (a) 2 (some (a + 3))) (a) 3 (some (a + 4))) (a) 4 (some (a + 5)), M.2.2) _
  refine J_aload_n dX12_init_44 rfl rfl ?_
  refine J_bipush (v := 6) dX12_init_45 (by decide) ?_
  refine J_newI (a := a + 6) (N := 6) (by decide) (by decide) (by decide) hF hl9 (Nat.le_of_ble_eq_true rfl) (Nat.le_of_ble_eq_true rfl) dX12_init_47 ?_
  intro hF
  have hl11 : (M.1 ++ [(13, 72)] ++ [(13, 72)] ++ [(13, 72)] ++ [(13, 96)] ++ [(13, 24)] ++ [(13, 6)]).length = a + 7 := ap_len hl9 rfl
  have hg12 : (M.1 ++ [(13, 72)] ++ [(13, 72)] ++ [(13, 72)] ++ [(13, 96)] ++ [(13, 24)] ++ [(13, 6)])[a]? = some (12, nF 12) := ap_old hg10
  have hg13 : (M.1 ++ [(13, 72)] ++ [(13, 72)] ++ [(13, 72)] ++ [(13, 96)] ++ [(13, 24)] ++ [(13, 6)])[a + 6]? = some (13, 6) := ap_new hl9
  have hF : Fr (M.1 ++ [(13, 72)] ++ [(13, 72)] ++ [(13, 72)] ++ [(13, 96)] ++ [(13, 24)] ++ [(13, 6)], upR (upR (upR (upR (upR (M.2.1) (a) 0 (some (a + 1))) (a) 1 (some (a + 2))) (a) 2 (some (a + 3))) (a) 3 (some (a + 4))) (a) 4 (some (a + 5)), M.2.2) := hF
  show J _ _ _ _ _ _ _ _ _ _ _ (M.1 ++ [(13, 72)] ++ [(13, 72)] ++ [(13, 72)] ++ [(13, 96)] ++ [(13, 24)] ++ [(13, 6)], upR (upR (upR (upR (upR (M.2.1) (a) 0 (some (a + 1))) (a) 1 (some (a + 2))) (a) 2 (some (a + 3))) (a) 3 (some (a + 4))) (a) 4 (some (a + 5)), M.2.2) _
  refine J_putRF rfl cf12 klX12_25 hF hg12 (Or.inr ⟨_, rfl⟩) dX12_init_49 ?_
  intro hF
  have hF : Fr (M.1 ++ [(13, 72)] ++ [(13, 72)] ++ [(13, 72)] ++ [(13, 96)] ++ [(13, 24)] ++ [(13, 6)], upR (upR (upR (upR (upR (upR (M.2.1) (a) 0 (some (a + 1))) (a) 1 (some (a + 2))) (a) 2 (some (a + 3))) (a) 3 (some (a + 4))) (a) 4 (some (a + 5))) (a) 5 (some (a + 6)), M.2.2) := hF
  show J _ _ _ _ _ _ _ _ _ _ _ (M.1 ++ [(13, 72)] ++ [(13, 72)] ++ [(13, 72)] ++ [(13, 96)] ++ [(13, 24)] ++ [(13, 6)], upR (upR (upR (upR (upR (upR (M.2.1) (a) 0 (some (a + 1))) (a) 1 (some (a + 2))) (a) 2 (some (a + 3))) (a) 3 (some (a + 4))) (a) 4 (some (a + 5))) (a) 5 (some (a + 6)), M.2.2) _
  refine J_aload_n dX12_init_52 rfl rfl ?_
  refine J_bipush (v := 12) dX12_init_53 (by decide) ?_
  refine J_newI (a := a + 7) (N := 12) (by decide) (by decide) (by decide) hF hl11 (Nat.le_of_ble_eq_true rfl) (Nat.le_of_ble_eq_true rfl) dX12_init_55 ?_
  intro hF
  have hl14 : (M.1 ++ [(13, 72)] ++ [(13, 72)] ++ [(13, 72)] ++ [(13, 96)] ++ [(13, 24)] ++ [(13, 6)] ++ [(13, 12)]).length = a + 8 := ap_len hl11 rfl
  have hg15 : (M.1 ++ [(13, 72)] ++ [(13, 72)] ++ [(13, 72)] ++ [(13, 96)] ++ [(13, 24)] ++ [(13, 6)] ++ [(13, 12)])[a]? = some (12, nF 12) := ap_old hg12
  have hg16 : (M.1 ++ [(13, 72)] ++ [(13, 72)] ++ [(13, 72)] ++ [(13, 96)] ++ [(13, 24)] ++ [(13, 6)] ++ [(13, 12)])[a + 6]? = some (13, 6) := ap_old hg13
  have hF : Fr (M.1 ++ [(13, 72)] ++ [(13, 72)] ++ [(13, 72)] ++ [(13, 96)] ++ [(13, 24)] ++ [(13, 6)] ++ [(13, 12)], upR (upR (upR (upR (upR (upR (M.2.1) (a) 0 (some (a + 1))) (a) 1 (some (a + 2))) (a) 2 (some (a + 3))) (a) 3 (some (a + 4))) (a) 4 (some (a + 5))) (a) 5 (some (a + 6)), M.2.2) := hF
  show J _ _ _ _ _ _ _ _ _ _ _ (M.1 ++ [(13, 72)] ++ [(13, 72)] ++ [(13, 72)] ++ [(13, 96)] ++ [(13, 24)] ++ [(13, 6)] ++ [(13, 12)], upR (upR (upR (upR (upR (upR (M.2.1) (a) 0 (some (a + 1))) (a) 1 (some (a + 2))) (a) 2 (some (a + 3))) (a) 3 (some (a + 4))) (a) 4 (some (a + 5))) (a) 5 (some (a + 6)), M.2.2) _
  refine J_putRF rfl cf12 klX12_28 hF hg15 (Or.inr ⟨_, rfl⟩) dX12_init_57 ?_
  intro hF
  have hF : Fr (M.1 ++ [(13, 72)] ++ [(13, 72)] ++ [(13, 72)] ++ [(13, 96)] ++ [(13, 24)] ++ [(13, 6)] ++ [(13, 12)], upR (upR (upR (upR (upR (upR (upR (M.2.1) (a) 0 (some (a + 1))) (a) 1 (some (a + 2))) (a) 2 (some (a + 3))) (a) 3 (some (a + 4))) (a) 4 (some (a + 5))) (a) 5 (some (a + 6))) (a) 7 (some (a + 7)), M.2.2) := hF
  show J _ _ _ _ _ _ _ _ _ _ _ (M.1 ++ [(13, 72)] ++ [(13, 72)] ++ [(13, 72)] ++ [(13, 96)] ++ [(13, 24)] ++ [(13, 6)] ++ [(13, 12)], upR (upR (upR (upR (upR (upR (upR (M.2.1) (a) 0 (some (a + 1))) (a) 1 (some (a + 2))) (a) 2 (some (a + 3))) (a) 3 (some (a + 4))) (a) 4 (some (a + 5))) (a) 5 (some (a + 6))) (a) 7 (some (a + 7)), M.2.2) _
  refine J_aload_n dX12_init_60 rfl rfl ?_
  refine J_bipush (v := 48) dX12_init_61 (by decide) ?_
  refine J_newI (a := a + 8) (N := 48) (by decide) (by decide) (by decide) hF hl14 (Nat.le_of_ble_eq_true rfl) (Nat.le_of_ble_eq_true rfl) dX12_init_63 ?_
  intro hF
  have hl17 : (M.1 ++ [(13, 72)] ++ [(13, 72)] ++ [(13, 72)] ++ [(13, 96)] ++ [(13, 24)] ++ [(13, 6)] ++ [(13, 12)] ++ [(13, 48)]).length = a + 9 := ap_len hl14 rfl
  have hg18 : (M.1 ++ [(13, 72)] ++ [(13, 72)] ++ [(13, 72)] ++ [(13, 96)] ++ [(13, 24)] ++ [(13, 6)] ++ [(13, 12)] ++ [(13, 48)])[a]? = some (12, nF 12) := ap_old hg15
  have hg19 : (M.1 ++ [(13, 72)] ++ [(13, 72)] ++ [(13, 72)] ++ [(13, 96)] ++ [(13, 24)] ++ [(13, 6)] ++ [(13, 12)] ++ [(13, 48)])[a + 6]? = some (13, 6) := ap_old hg16
  have hF : Fr (M.1 ++ [(13, 72)] ++ [(13, 72)] ++ [(13, 72)] ++ [(13, 96)] ++ [(13, 24)] ++ [(13, 6)] ++ [(13, 12)] ++ [(13, 48)], upR (upR (upR (upR (upR (upR (upR (M.2.1) (a) 0 (some (a + 1))) (a) 1 (some (a + 2))) (a) 2 (some (a + 3))) (a) 3 (some (a + 4))) (a) 4 (some (a + 5))) (a) 5 (some (a + 6))) (a) 7 (some (a + 7)), M.2.2) := hF
  show J _ _ _ _ _ _ _ _ _ _ _ (M.1 ++ [(13, 72)] ++ [(13, 72)] ++ [(13, 72)] ++ [(13, 96)] ++ [(13, 24)] ++ [(13, 6)] ++ [(13, 12)] ++ [(13, 48)], upR (upR (upR (upR (upR (upR (upR (M.2.1) (a) 0 (some (a + 1))) (a) 1 (some (a + 2))) (a) 2 (some (a + 3))) (a) 3 (some (a + 4))) (a) 4 (some (a + 5))) (a) 5 (some (a + 6))) (a) 7 (some (a + 7)), M.2.2) _
  refine J_putRF rfl cf12 klX12_31 hF hg18 (Or.inr ⟨_, rfl⟩) dX12_init_65 ?_
  intro hF
  have hF : Fr (M.1 ++ [(13, 72)] ++ [(13, 72)] ++ [(13, 72)] ++ [(13, 96)] ++ [(13, 24)] ++ [(13, 6)] ++ [(13, 12)] ++ [(13, 48)], upR (upR (upR (upR (upR (upR (upR (upR (M.2.1) (a) 0 (some (a + 1))) (a) 1 (some (a + 2))) (a) 2 (some (a + 3))) (a) 3 (some (a + 4))) (a) 4 (some (a + 5))) (a) 5 (some (a + 6))) (a) 7 (some (a + 7))) (a) 9 (some (a + 8)), M.2.2) := hF
  show J _ _ _ _ _ _ _ _ _ _ _ (M.1 ++ [(13, 72)] ++ [(13, 72)] ++ [(13, 72)] ++ [(13, 96)] ++ [(13, 24)] ++ [(13, 6)] ++ [(13, 12)] ++ [(13, 48)], upR (upR (upR (upR (upR (upR (upR (upR (M.2.1) (a) 0 (some (a + 1))) (a) 1 (some (a + 2))) (a) 2 (some (a + 3))) (a) 3 (some (a + 4))) (a) 4 (some (a + 5))) (a) 5 (some (a + 6))) (a) 7 (some (a + 7))) (a) 9 (some (a + 8)), M.2.2) _
  refine J_aload_n dX12_init_68 rfl rfl ?_
  refine J_bipush (v := 8) dX12_init_69 (by decide) ?_
  refine J_newI (a := a + 9) (N := 8) (by decide) (by decide) (by decide) hF hl17 (Nat.le_of_ble_eq_true rfl) (Nat.le_of_ble_eq_true rfl) dX12_init_71 ?_
  intro hF
  have hl20 : (M.1 ++ [(13, 72)] ++ [(13, 72)] ++ [(13, 72)] ++ [(13, 96)] ++ [(13, 24)] ++ [(13, 6)] ++ [(13, 12)] ++ [(13, 48)] ++ [(13, 8)]).length = a + 10 := ap_len hl17 rfl
  have hg21 : (M.1 ++ [(13, 72)] ++ [(13, 72)] ++ [(13, 72)] ++ [(13, 96)] ++ [(13, 24)] ++ [(13, 6)] ++ [(13, 12)] ++ [(13, 48)] ++ [(13, 8)])[a]? = some (12, nF 12) := ap_old hg18
  have hg22 : (M.1 ++ [(13, 72)] ++ [(13, 72)] ++ [(13, 72)] ++ [(13, 96)] ++ [(13, 24)] ++ [(13, 6)] ++ [(13, 12)] ++ [(13, 48)] ++ [(13, 8)])[a + 6]? = some (13, 6) := ap_old hg19
  have hF : Fr (M.1 ++ [(13, 72)] ++ [(13, 72)] ++ [(13, 72)] ++ [(13, 96)] ++ [(13, 24)] ++ [(13, 6)] ++ [(13, 12)] ++ [(13, 48)] ++ [(13, 8)], upR (upR (upR (upR (upR (upR (upR (upR (M.2.1) (a) 0 (some (a + 1))) (a) 1 (some (a + 2))) (a) 2 (some (a + 3))) (a) 3 (some (a + 4))) (a) 4 (some (a + 5))) (a) 5 (some (a + 6))) (a) 7 (some (a + 7))) (a) 9 (some (a + 8)), M.2.2) := hF
  show J _ _ _ _ _ _ _ _ _ _ _ (M.1 ++ [(13, 72)] ++ [(13, 72)] ++ [(13, 72)] ++ [(13, 96)] ++ [(13, 24)] ++ [(13, 6)] ++ [(13, 12)] ++ [(13, 48)] ++ [(13, 8)], upR (upR (upR (upR (upR (upR (upR (upR (M.2.1) (a) 0 (some (a + 1))) (a) 1 (some (a + 2))) (a) 2 (some (a + 3))) (a) 3 (some (a + 4))) (a) 4 (some (a + 5))) (a) 5 (some (a + 6))) (a) 7 (some (a + 7))) (a) 9 (some (a + 8)), M.2.2) _
  refine J_putRF rfl cf12 klX12_34 hF hg21 (Or.inr ⟨_, rfl⟩) dX12_init_73 ?_
  intro hF
  have hF : Fr (M.1 ++ [(13, 72)] ++ [(13, 72)] ++ [(13, 72)] ++ [(13, 96)] ++ [(13, 24)] ++ [(13, 6)] ++ [(13, 12)] ++ [(13, 48)] ++ [(13, 8)], upR (upR (upR (upR (upR (upR (upR (upR (upR (M.2.1) (a) 0 (some (a + 1))) (a) 1 (some (a + 2))) (a) 2 (some (a + 3))) (a) 3 (some (a + 4))) (a) 4 (some (a + 5))) (a) 5 (some (a + 6))) (a) 7 (some (a + 7))) (a) 9 (some (a + 8))) (a) 16 (some (a + 9)), M.2.2) := hF
  show J _ _ _ _ _ _ _ _ _ _ _ (M.1 ++ [(13, 72)] ++ [(13, 72)] ++ [(13, 72)] ++ [(13, 96)] ++ [(13, 24)] ++ [(13, 6)] ++ [(13, 12)] ++ [(13, 48)] ++ [(13, 8)], upR (upR (upR (upR (upR (upR (upR (upR (upR (M.2.1) (a) 0 (some (a + 1))) (a) 1 (some (a + 2))) (a) 2 (some (a + 3))) (a) 3 (some (a + 4))) (a) 4 (some (a + 5))) (a) 5 (some (a + 6))) (a) 7 (some (a + 7))) (a) 9 (some (a + 8))) (a) 16 (some (a + 9)), M.2.2) _
  refine J_aload_n dX12_init_76 rfl rfl ?_
  refine J_sipush (v := 4200) dX12_init_77 (by decide) ?_
  refine J_newI (a := a + 10) (N := 4200) (by decide) (by decide) (by decide) hF hl20 (Nat.le_of_ble_eq_true rfl) (Nat.le_of_ble_eq_true rfl) dX12_init_80 ?_
  intro hF
  have hl23 : (M.1 ++ [(13, 72)] ++ [(13, 72)] ++ [(13, 72)] ++ [(13, 96)] ++ [(13, 24)] ++ [(13, 6)] ++ [(13, 12)] ++ [(13, 48)] ++ [(13, 8)] ++ [(13, 4200)]).length = a + 11 := ap_len hl20 rfl
  have hg24 : (M.1 ++ [(13, 72)] ++ [(13, 72)] ++ [(13, 72)] ++ [(13, 96)] ++ [(13, 24)] ++ [(13, 6)] ++ [(13, 12)] ++ [(13, 48)] ++ [(13, 8)] ++ [(13, 4200)])[a]? = some (12, nF 12) := ap_old hg21
  have hg25 : (M.1 ++ [(13, 72)] ++ [(13, 72)] ++ [(13, 72)] ++ [(13, 96)] ++ [(13, 24)] ++ [(13, 6)] ++ [(13, 12)] ++ [(13, 48)] ++ [(13, 8)] ++ [(13, 4200)])[a + 6]? = some (13, 6) := ap_old hg22
  have hF : Fr (M.1 ++ [(13, 72)] ++ [(13, 72)] ++ [(13, 72)] ++ [(13, 96)] ++ [(13, 24)] ++ [(13, 6)] ++ [(13, 12)] ++ [(13, 48)] ++ [(13, 8)] ++ [(13, 4200)], upR (upR (upR (upR (upR (upR (upR (upR (upR (M.2.1) (a) 0 (some (a + 1))) (a) 1 (some (a + 2))) (a) 2 (some (a + 3))) (a) 3 (some (a + 4))) (a) 4 (some (a + 5))) (a) 5 (some (a + 6))) (a) 7 (some (a + 7))) (a) 9 (some (a + 8))) (a) 16 (some (a + 9)), M.2.2) := hF
  show J _ _ _ _ _ _ _ _ _ _ _ (M.1 ++ [(13, 72)] ++ [(13, 72)] ++ [(13, 72)] ++ [(13, 96)] ++ [(13, 24)] ++ [(13, 6)] ++ [(13, 12)] ++ [(13, 48)] ++ [(13, 8)] ++ [(13, 4200)], upR (upR (upR (upR (upR (upR (upR (upR (upR (M.2.1) (a) 0 (some (a + 1))) (a) 1 (some (a + 2))) (a) 2 (some (a + 3))) (a) 3 (some (a + 4))) (a) 4 (some (a + 5))) (a) 5 (some (a + 6))) (a) 7 (some (a + 7))) (a) 9 (some (a + 8))) (a) 16 (some (a + 9)), M.2.2) _
  refine J_putRF rfl cf12 klX12_37 hF hg24 (Or.inr ⟨_, rfl⟩) dX12_init_82 ?_
  intro hF
  have hF : Fr (M.1 ++ [(13, 72)] ++ [(13, 72)] ++ [(13, 72)] ++ [(13, 96)] ++ [(13, 24)] ++ [(13, 6)] ++ [(13, 12)] ++ [(13, 48)] ++ [(13, 8)] ++ [(13, 4200)], upR (upR (upR (upR (upR (upR (upR (upR (upR (upR (M.2.1) (a) 0 (some (a + 1))) (a) 1 (some (a + 2))) (a) 2 (some (a + 3))) (a) 3 (some (a + 4))) (a) 4 (some (a + 5))) (a) 5 (some (a + 6))) (a) 7 (some (a + 7))) (a) 9 (some (a + 8))) (a) 16 (some (a + 9))) (a) 17 (some (a + 10)), M.2.2) := hF
  show J _ _ _ _ _ _ _ _ _ _ _ (M.1 ++ [(13, 72)] ++ [(13, 72)] ++ [(13, 72)] ++ [(13, 96)] ++ [(13, 24)] ++ [(13, 6)] ++ [(13, 12)] ++ [(13, 48)] ++ [(13, 8)] ++ [(13, 4200)], upR (upR (upR (upR (upR (upR (upR (upR (upR (upR (M.2.1) (a) 0 (some (a + 1))) (a) 1 (some (a + 2))) (a) 2 (some (a + 3))) (a) 3 (some (a + 4))) (a) 4 (some (a + 5))) (a) 5 (some (a + 6))) (a) 7 (some (a + 7))) (a) 9 (some (a + 8))) (a) 16 (some (a + 9))) (a) 17 (some (a + 10)), M.2.2) _
  refine J_aload_n dX12_init_85 rfl rfl ?_
  refine J_sipush (v := 4200) dX12_init_86 (by decide) ?_
  refine J_newI (a := a + 11) (N := 4200) (by decide) (by decide) (by decide) hF hl23 (Nat.le_of_ble_eq_true rfl) (Nat.le_of_ble_eq_true rfl) dX12_init_89 ?_
  intro hF
  have hl26 : (M.1 ++ [(13, 72)] ++ [(13, 72)] ++ [(13, 72)] ++ [(13, 96)] ++ [(13, 24)] ++ [(13, 6)] ++ [(13, 12)] ++ [(13, 48)] ++ [(13, 8)] ++ [(13, 4200)] ++ [(13, 4200)]).length = a + 12 := ap_len hl23 rfl
  have hg27 : (M.1 ++ [(13, 72)] ++ [(13, 72)] ++ [(13, 72)] ++ [(13, 96)] ++ [(13, 24)] ++ [(13, 6)] ++ [(13, 12)] ++ [(13, 48)] ++ [(13, 8)] ++ [(13, 4200)] ++ [(13, 4200)])[a]? = some (12, nF 12) := ap_old hg24
  have hg28 : (M.1 ++ [(13, 72)] ++ [(13, 72)] ++ [(13, 72)] ++ [(13, 96)] ++ [(13, 24)] ++ [(13, 6)] ++ [(13, 12)] ++ [(13, 48)] ++ [(13, 8)] ++ [(13, 4200)] ++ [(13, 4200)])[a + 6]? = some (13, 6) := ap_old hg25
  have hF : Fr (M.1 ++ [(13, 72)] ++ [(13, 72)] ++ [(13, 72)] ++ [(13, 96)] ++ [(13, 24)] ++ [(13, 6)] ++ [(13, 12)] ++ [(13, 48)] ++ [(13, 8)] ++ [(13, 4200)] ++ [(13, 4200)], upR (upR (upR (upR (upR (upR (upR (upR (upR (upR (M.2.1) (a) 0 (some (a + 1))) (a) 1 (some (a + 2))) (a) 2 (some (a + 3))) (a) 3 (some (a + 4))) (a) 4 (some (a + 5))) (a) 5 (some (a + 6))) (a) 7 (some (a + 7))) (a) 9 (some (a + 8))) (a) 16 (some (a + 9))) (a) 17 (some (a + 10)), M.2.2) := hF
  show J _ _ _ _ _ _ _ _ _ _ _ (M.1 ++ [(13, 72)] ++ [(13, 72)] ++ [(13, 72)] ++ [(13, 96)] ++ [(13, 24)] ++ [(13, 6)] ++ [(13, 12)] ++ [(13, 48)] ++ [(13, 8)] ++ [(13, 4200)] ++ [(13, 4200)], upR (upR (upR (upR (upR (upR (upR (upR (upR (upR (M.2.1) (a) 0 (some (a + 1))) (a) 1 (some (a + 2))) (a) 2 (some (a + 3))) (a) 3 (some (a + 4))) (a) 4 (some (a + 5))) (a) 5 (some (a + 6))) (a) 7 (some (a + 7))) (a) 9 (some (a + 8))) (a) 16 (some (a + 9))) (a) 17 (some (a + 10)), M.2.2) _
  refine J_putRF rfl cf12 klX12_40 hF hg27 (Or.inr ⟨_, rfl⟩) dX12_init_91 ?_
  intro hF
  have hF : Fr (M.1 ++ [(13, 72)] ++ [(13, 72)] ++ [(13, 72)] ++ [(13, 96)] ++ [(13, 24)] ++ [(13, 6)] ++ [(13, 12)] ++ [(13, 48)] ++ [(13, 8)] ++ [(13, 4200)] ++ [(13, 4200)], upR (upR (upR (upR (upR (upR (upR (upR (upR (upR (upR (M.2.1) (a) 0 (some (a + 1))) (a) 1 (some (a + 2))) (a) 2 (some (a + 3))) (a) 3 (some (a + 4))) (a) 4 (some (a + 5))) (a) 5 (some (a + 6))) (a) 7 (some (a + 7))) (a) 9 (some (a + 8))) (a) 16 (some (a + 9))) (a) 17 (some (a + 10))) (a) 18 (some (a + 11)), M.2.2) := hF
  show J _ _ _ _ _ _ _ _ _ _ _ (M.1 ++ [(13, 72)] ++ [(13, 72)] ++ [(13, 72)] ++ [(13, 96)] ++ [(13, 24)] ++ [(13, 6)] ++ [(13, 12)] ++ [(13, 48)] ++ [(13, 8)] ++ [(13, 4200)] ++ [(13, 4200)], upR (upR (upR (upR (upR (upR (upR (upR (upR (upR (upR (M.2.1) (a) 0 (some (a + 1))) (a) 1 (some (a + 2))) (a) 2 (some (a + 3))) (a) 3 (some (a + 4))) (a) 4 (some (a + 5))) (a) 5 (some (a + 6))) (a) 7 (some (a + 7))) (a) 9 (some (a + 8))) (a) 16 (some (a + 9))) (a) 17 (some (a + 10))) (a) 18 (some (a + 11)), M.2.2) _
  refine J_aload_n dX12_init_94 rfl rfl ?_
  refine J_sipush (v := 4200) dX12_init_95 (by decide) ?_
  refine J_newI (a := a + 12) (N := 4200) (by decide) (by decide) (by decide) hF hl26 (Nat.le_of_ble_eq_true rfl) (Nat.le_of_ble_eq_true rfl) dX12_init_98 ?_
  intro hF
  have hl29 : (M.1 ++ [(13, 72)] ++ [(13, 72)] ++ [(13, 72)] ++ [(13, 96)] ++ [(13, 24)] ++ [(13, 6)] ++ [(13, 12)] ++ [(13, 48)] ++ [(13, 8)] ++ [(13, 4200)] ++ [(13, 4200)] ++ [(13, 4200)]).length = a + 13 := ap_len hl26 rfl
  have hg30 : (M.1 ++ [(13, 72)] ++ [(13, 72)] ++ [(13, 72)] ++ [(13, 96)] ++ [(13, 24)] ++ [(13, 6)] ++ [(13, 12)] ++ [(13, 48)] ++ [(13, 8)] ++ [(13, 4200)] ++ [(13, 4200)] ++ [(13, 4200)])[a]? = some (12, nF 12) := ap_old hg27
  have hg31 : (M.1 ++ [(13, 72)] ++ [(13, 72)] ++ [(13, 72)] ++ [(13, 96)] ++ [(13, 24)] ++ [(13, 6)] ++ [(13, 12)] ++ [(13, 48)] ++ [(13, 8)] ++ [(13, 4200)] ++ [(13, 4200)] ++ [(13, 4200)])[a + 6]? = some (13, 6) := ap_old hg28
  have hF : Fr (M.1 ++ [(13, 72)] ++ [(13, 72)] ++ [(13, 72)] ++ [(13, 96)] ++ [(13, 24)] ++ [(13, 6)] ++ [(13, 12)] ++ [(13, 48)] ++ [(13, 8)] ++ [(13, 4200)] ++ [(13, 4200)] ++ [(13, 4200)], upR (upR (upR (upR (upR (upR (upR (upR (upR (upR (upR (M.2.1) (a) 0 (some (a + 1))) (a) 1 (some (a + 2))) (a) 2 (some (a + 3))) (a) 3 (some (a + 4))) (a) 4 (some (a + 5))) (a) 5 (some (a + 6))) (a) 7 (some (a + 7))) (a) 9 (some (a + 8))) (a) 16 (some (a + 9))) (a) 17 (some (a + 10))) (a) 18 (some (a + 11)), M.2.2) := hF
  show J _ _ _ _ _ _ _ _ _ _ _ (M.1 ++ [(13, 72)] ++ [(13, 72)] ++ [(13, 72)] ++ [(13, 96)] ++ [(13, 24)] ++ [(13, 6)] ++ [(13, 12)] ++ [(13, 48)] ++ [(13, 8)] ++ [(13, 4200)] ++ [(13, 4200)] ++ [(13, 4200)], upR (upR (upR (upR (upR (upR (upR (upR (upR (upR (upR (M.2.1) (a) 0 (some (a + 1))) (a) 1 (some (a + 2))) (a) 2 (some (a + 3))) (a) 3 (some (a + 4))) (a) 4 (some (a + 5))) (a) 5 (some (a + 6))) (a) 7 (some (a + 7))) (a) 9 (some (a + 8))) (a) 16 (some (a + 9))) (a) 17 (some (a + 10))) (a) 18 (some (a + 11)), M.2.2) _
  refine J_putRF rfl cf12 klX12_43 hF hg30 (Or.inr ⟨_, rfl⟩) dX12_init_100 ?_
  intro hF
  have hF : Fr (M.1 ++ [(13, 72)] ++ [(13, 72)] ++ [(13, 72)] ++ [(13, 96)] ++ [(13, 24)] ++ [(13, 6)] ++ [(13, 12)] ++ [(13, 48)] ++ [(13, 8)] ++ [(13, 4200)] ++ [(13, 4200)] ++ [(13, 4200)], upR (upR (upR (upR (upR (upR (upR (upR (upR (upR (upR (upR (M.2.1) (a) 0 (some (a + 1))) (a) 1 (some (a + 2))) (a) 2 (some (a + 3))) (a) 3 (some (a + 4))) (a) 4 (some (a + 5))) (a) 5 (some (a + 6))) (a) 7 (some (a + 7))) (a) 9 (some (a + 8))) (a) 16 (some (a + 9))) (a) 17 (some (a + 10))) (a) 18 (some (a + 11))) (a) 19 (some (a + 12)), M.2.2) := hF
  show J _ _ _ _ _ _ _ _ _ _ _ (M.1 ++ [(13, 72)] ++ [(13, 72)] ++ [(13, 72)] ++ [(13, 96)] ++ [(13, 24)] ++ [(13, 6)] ++ [(13, 12)] ++ [(13, 48)] ++ [(13, 8)] ++ [(13, 4200)] ++ [(13, 4200)] ++ [(13, 4200)], upR (upR (upR (upR (upR (upR (upR (upR (upR (upR (upR (upR (M.2.1) (a) 0 (some (a + 1))) (a) 1 (some (a + 2))) (a) 2 (some (a + 3))) (a) 3 (some (a + 4))) (a) 4 (some (a + 5))) (a) 5 (some (a + 6))) (a) 7 (some (a + 7))) (a) 9 (some (a + 8))) (a) 16 (some (a + 9))) (a) 17 (some (a + 10))) (a) 18 (some (a + 11))) (a) 19 (some (a + 12)), M.2.2) _
  refine J_aload_n dX12_init_103 rfl rfl ?_
  refine J_iconst (v := -1) dX12_init_104 (by decide) ?_
  refine J_putI cf12 klX12_46 hg30 rfl dX12_init_105 ?_
  have hF := hF.wI (a := a) (k := 21) (x := -1) (List.getElem?_eq_some_iff.mp hg30).1
  have hF : Fr (M.1 ++ [(13, 72)] ++ [(13, 72)] ++ [(13, 72)] ++ [(13, 96)] ++ [(13, 24)] ++ [(13, 6)] ++ [(13, 12)] ++ [(13, 48)] ++ [(13, 8)] ++ [(13, 4200)] ++ [(13, 4200)] ++ [(13, 4200)], upR (upR (upR (upR (upR (upR (upR (upR (upR (upR (upR (upR (M.2.1) (a) 0 (some (a + 1))) (a) 1 (some (a + 2))) (a) 2 (some (a + 3))) (a) 3 (some (a + 4))) (a) 4 (some (a + 5))) (a) 5 (some (a + 6))) (a) 7 (some (a + 7))) (a) 9 (some (a + 8))) (a) 16 (some (a + 9))) (a) 17 (some (a + 10))) (a) 18 (some (a + 11))) (a) 19 (some (a + 12)), wI (M.2.2) (a) 21 (-1)) := hF
  show J _ _ _ _ _ _ _ _ _ _ _ (M.1 ++ [(13, 72)] ++ [(13, 72)] ++ [(13, 72)] ++ [(13, 96)] ++ [(13, 24)] ++ [(13, 6)] ++ [(13, 12)] ++ [(13, 48)] ++ [(13, 8)] ++ [(13, 4200)] ++ [(13, 4200)] ++ [(13, 4200)], upR (upR (upR (upR (upR (upR (upR (upR (upR (upR (upR (upR (M.2.1) (a) 0 (some (a + 1))) (a) 1 (some (a + 2))) (a) 2 (some (a + 3))) (a) 3 (some (a + 4))) (a) 4 (some (a + 5))) (a) 5 (some (a + 6))) (a) 7 (some (a + 7))) (a) 9 (some (a + 8))) (a) 16 (some (a + 9))) (a) 17 (some (a + 10))) (a) 18 (some (a + 11))) (a) 19 (some (a + 12)), wI (M.2.2) (a) 21 (-1)) _
  refine J_aload_n dX12_init_108 rfl rfl ?_
  refine J_bipush (v := 8) dX12_init_109 (by decide) ?_
  refine J_newI (a := a + 13) (N := 8) (by decide) (by decide) (by decide) hF hl29 (Nat.le_of_ble_eq_true rfl) (Nat.le_of_ble_eq_true rfl) dX12_init_111 ?_
  intro hF
  have hl32 : (M.1 ++ [(13, 72)] ++ [(13, 72)] ++ [(13, 72)] ++ [(13, 96)] ++ [(13, 24)] ++ [(13, 6)] ++ [(13, 12)] ++ [(13, 48)] ++ [(13, 8)] ++ [(13, 4200)] ++ [(13, 4200)] ++ [(13, 4200)] ++ [(13, 8)]).length = a + 14 := ap_len hl29 rfl
  have hg33 : (M.1 ++ [(13, 72)] ++ [(13, 72)] ++ [(13, 72)] ++ [(13, 96)] ++ [(13, 24)] ++ [(13, 6)] ++ [(13, 12)] ++ [(13, 48)] ++ [(13, 8)] ++ [(13, 4200)] ++ [(13, 4200)] ++ [(13, 4200)] ++ [(13, 8)])[a]? = some (12, nF 12) := ap_old hg30
  have hg34 : (M.1 ++ [(13, 72)] ++ [(13, 72)] ++ [(13, 72)] ++ [(13, 96)] ++ [(13, 24)] ++ [(13, 6)] ++ [(13, 12)] ++ [(13, 48)] ++ [(13, 8)] ++ [(13, 4200)] ++ [(13, 4200)] ++ [(13, 4200)] ++ [(13, 8)])[a + 6]? = some (13, 6) := ap_old hg31
  have hF : Fr (M.1 ++ [(13, 72)] ++ [(13, 72)] ++ [(13, 72)] ++ [(13, 96)] ++ [(13, 24)] ++ [(13, 6)] ++ [(13, 12)] ++ [(13, 48)] ++ [(13, 8)] ++ [(13, 4200)] ++ [(13, 4200)] ++ [(13, 4200)] ++ [(13, 8)], upR (upR (upR (upR (upR (upR (upR (upR (upR (upR (upR (upR (M.2.1) (a) 0 (some (a + 1))) (a) 1 (some (a + 2))) (a) 2 (some (a + 3))) (a) 3 (some (a + 4))) (a) 4 (some (a + 5))) (a) 5 (some (a + 6))) (a) 7 (some (a + 7))) (a) 9 (some (a + 8))) (a) 16 (some (a + 9))) (a) 17 (some (a + 10))) (a) 18 (some (a + 11))) (a) 19 (some (a + 12)), wI (M.2.2) (a) 21 (-1)) := hF
  show J _ _ _ _ _ _ _ _ _ _ _ (M.1 ++ [(13, 72)] ++ [(13, 72)] ++ [(13, 72)] ++ [(13, 96)] ++ [(13, 24)] ++ [(13, 6)] ++ [(13, 12)] ++ [(13, 48)] ++ [(13, 8)] ++ [(13, 4200)] ++ [(13, 4200)] ++ [(13, 4200)] ++ [(13, 8)], upR (upR (upR (upR (upR (upR (upR (upR (upR (upR (upR (upR (M.2.1) (a) 0 (some (a + 1))) (a) 1 (some (a + 2))) (a) 2 (some (a + 3))) (a) 3 (some (a + 4))) (a) 4 (some (a + 5))) (a) 5 (some (a + 6))) (a) 7 (some (a + 7))) (a) 9 (some (a + 8))) (a) 16 (some (a + 9))) (a) 17 (some (a + 10))) (a) 18 (some (a + 11))) (a) 19 (some (a + 12)), wI (M.2.2) (a) 21 (-1)) _
  refine J_putRF rfl cf12 klX12_50 hF hg33 (Or.inr ⟨_, rfl⟩) dX12_init_113 ?_
  intro hF
  have hF : Fr (M.1 ++ [(13, 72)] ++ [(13, 72)] ++ [(13, 72)] ++ [(13, 96)] ++ [(13, 24)] ++ [(13, 6)] ++ [(13, 12)] ++ [(13, 48)] ++ [(13, 8)] ++ [(13, 4200)] ++ [(13, 4200)] ++ [(13, 4200)] ++ [(13, 8)], upR (upR (upR (upR (upR (upR (upR (upR (upR (upR (upR (upR (upR (M.2.1) (a) 0 (some (a + 1))) (a) 1 (some (a + 2))) (a) 2 (some (a + 3))) (a) 3 (some (a + 4))) (a) 4 (some (a + 5))) (a) 5 (some (a + 6))) (a) 7 (some (a + 7))) (a) 9 (some (a + 8))) (a) 16 (some (a + 9))) (a) 17 (some (a + 10))) (a) 18 (some (a + 11))) (a) 19 (some (a + 12))) (a) 25 (some (a + 13)), wI (M.2.2) (a) 21 (-1)) := hF
  show J _ _ _ _ _ _ _ _ _ _ _ (M.1 ++ [(13, 72)] ++ [(13, 72)] ++ [(13, 72)] ++ [(13, 96)] ++ [(13, 24)] ++ [(13, 6)] ++ [(13, 12)] ++ [(13, 48)] ++ [(13, 8)] ++ [(13, 4200)] ++ [(13, 4200)] ++ [(13, 4200)] ++ [(13, 8)], upR (upR (upR (upR (upR (upR (upR (upR (upR (upR (upR (upR (upR (M.2.1) (a) 0 (some (a + 1))) (a) 1 (some (a + 2))) (a) 2 (some (a + 3))) (a) 3 (some (a + 4))) (a) 4 (some (a + 5))) (a) 5 (some (a + 6))) (a) 7 (some (a + 7))) (a) 9 (some (a + 8))) (a) 16 (some (a + 9))) (a) 17 (some (a + 10))) (a) 18 (some (a + 11))) (a) 19 (some (a + 12))) (a) 25 (some (a + 13)), wI (M.2.2) (a) 21 (-1)) _
  refine J_aload_n dX12_init_116 rfl rfl ?_
  refine J_sipush (v := 16385) dX12_init_117 (by decide) ?_
  refine J_newL (a := a + 14) (N := 16385) (by decide) (by decide) (by decide) hF hl32 (Nat.le_of_ble_eq_true rfl) (Nat.le_of_ble_eq_true rfl) dX12_init_120 ?_
  intro hF
  have hl35 : (M.1 ++ [(13, 72)] ++ [(13, 72)] ++ [(13, 72)] ++ [(13, 96)] ++ [(13, 24)] ++ [(13, 6)] ++ [(13, 12)] ++ [(13, 48)] ++ [(13, 8)] ++ [(13, 4200)] ++ [(13, 4200)] ++ [(13, 4200)] ++ [(13, 8)] ++ [(14, 16385)]).length = a + 15 := ap_len hl32 rfl
  have hg36 : (M.1 ++ [(13, 72)] ++ [(13, 72)] ++ [(13, 72)] ++ [(13, 96)] ++ [(13, 24)] ++ [(13, 6)] ++ [(13, 12)] ++ [(13, 48)] ++ [(13, 8)] ++ [(13, 4200)] ++ [(13, 4200)] ++ [(13, 4200)] ++ [(13, 8)] ++ [(14, 16385)])[a]? = some (12, nF 12) := ap_old hg33
  have hg37 : (M.1 ++ [(13, 72)] ++ [(13, 72)] ++ [(13, 72)] ++ [(13, 96)] ++ [(13, 24)] ++ [(13, 6)] ++ [(13, 12)] ++ [(13, 48)] ++ [(13, 8)] ++ [(13, 4200)] ++ [(13, 4200)] ++ [(13, 4200)] ++ [(13, 8)] ++ [(14, 16385)])[a + 6]? = some (13, 6) := ap_old hg34
  have hF : Fr (M.1 ++ [(13, 72)] ++ [(13, 72)] ++ [(13, 72)] ++ [(13, 96)] ++ [(13, 24)] ++ [(13, 6)] ++ [(13, 12)] ++ [(13, 48)] ++ [(13, 8)] ++ [(13, 4200)] ++ [(13, 4200)] ++ [(13, 4200)] ++ [(13, 8)] ++ [(14, 16385)], upR (upR (upR (upR (upR (upR (upR (upR (upR (upR (upR (upR (upR (M.2.1) (a) 0 (some (a + 1))) (a) 1 (some (a + 2))) (a) 2 (some (a + 3))) (a) 3 (some (a + 4))) (a) 4 (some (a + 5))) (a) 5 (some (a + 6))) (a) 7 (some (a + 7))) (a) 9 (some (a + 8))) (a) 16 (some (a + 9))) (a) 17 (some (a + 10))) (a) 18 (some (a + 11))) (a) 19 (some (a + 12))) (a) 25 (some (a + 13)), wI (M.2.2) (a) 21 (-1)) := hF
  show J _ _ _ _ _ _ _ _ _ _ _ (M.1 ++ [(13, 72)] ++ [(13, 72)] ++ [(13, 72)] ++ [(13, 96)] ++ [(13, 24)] ++ [(13, 6)] ++ [(13, 12)] ++ [(13, 48)] ++ [(13, 8)] ++ [(13, 4200)] ++ [(13, 4200)] ++ [(13, 4200)] ++ [(13, 8)] ++ [(14, 16385)], upR (upR (upR (upR (upR (upR (upR (upR (upR (upR (upR (upR (upR (M.2.1) (a) 0 (some (a + 1))) (a) 1 (some (a + 2))) (a) 2 (some (a + 3))) (a) 3 (some (a + 4))) (a) 4 (some (a + 5))) (a) 5 (some (a + 6))) (a) 7 (some (a + 7))) (a) 9 (some (a + 8))) (a) 16 (some (a + 9))) (a) 17 (some (a + 10))) (a) 18 (some (a + 11))) (a) 19 (some (a + 12))) (a) 25 (some (a + 13)), wI (M.2.2) (a) 21 (-1)) _
  refine J_putRF rfl cf12 klX12_53 hF hg36 (Or.inr ⟨_, rfl⟩) dX12_init_122 ?_
  intro hF
  have hF : Fr (M.1 ++ [(13, 72)] ++ [(13, 72)] ++ [(13, 72)] ++ [(13, 96)] ++ [(13, 24)] ++ [(13, 6)] ++ [(13, 12)] ++ [(13, 48)] ++ [(13, 8)] ++ [(13, 4200)] ++ [(13, 4200)] ++ [(13, 4200)] ++ [(13, 8)] ++ [(14, 16385)], upR (upR (upR (upR (upR (upR (upR (upR (upR (upR (upR (upR (upR (upR (M.2.1) (a) 0 (some (a + 1))) (a) 1 (some (a + 2))) (a) 2 (some (a + 3))) (a) 3 (some (a + 4))) (a) 4 (some (a + 5))) (a) 5 (some (a + 6))) (a) 7 (some (a + 7))) (a) 9 (some (a + 8))) (a) 16 (some (a + 9))) (a) 17 (some (a + 10))) (a) 18 (some (a + 11))) (a) 19 (some (a + 12))) (a) 25 (some (a + 13))) (a) 26 (some (a + 14)), wI (M.2.2) (a) 21 (-1)) := hF
  show J _ _ _ _ _ _ _ _ _ _ _ (M.1 ++ [(13, 72)] ++ [(13, 72)] ++ [(13, 72)] ++ [(13, 96)] ++ [(13, 24)] ++ [(13, 6)] ++ [(13, 12)] ++ [(13, 48)] ++ [(13, 8)] ++ [(13, 4200)] ++ [(13, 4200)] ++ [(13, 4200)] ++ [(13, 8)] ++ [(14, 16385)], upR (upR (upR (upR (upR (upR (upR (upR (upR (upR (upR (upR (upR (upR (M.2.1) (a) 0 (some (a + 1))) (a) 1 (some (a + 2))) (a) 2 (some (a + 3))) (a) 3 (some (a + 4))) (a) 4 (some (a + 5))) (a) 5 (some (a + 6))) (a) 7 (some (a + 7))) (a) 9 (some (a + 8))) (a) 16 (some (a + 9))) (a) 17 (some (a + 10))) (a) 18 (some (a + 11))) (a) 19 (some (a + 12))) (a) 25 (some (a + 13))) (a) 26 (some (a + 14)), wI (M.2.2) (a) 21 (-1)) _
  refine J_aload_n dX12_init_125 rfl rfl ?_
  refine J_sipush (v := 16385) dX12_init_126 (by decide) ?_
  refine J_newI (a := a + 15) (N := 16385) (by decide) (by decide) (by decide) hF hl35 (Nat.le_of_ble_eq_true rfl) (Nat.le_of_ble_eq_true rfl) dX12_init_129 ?_
  intro hF
  have hl38 : (M.1 ++ [(13, 72)] ++ [(13, 72)] ++ [(13, 72)] ++ [(13, 96)] ++ [(13, 24)] ++ [(13, 6)] ++ [(13, 12)] ++ [(13, 48)] ++ [(13, 8)] ++ [(13, 4200)] ++ [(13, 4200)] ++ [(13, 4200)] ++ [(13, 8)] ++ [(14, 16385)] ++ [(13, 16385)]).length = a + 16 := ap_len hl35 rfl
  have hg39 : (M.1 ++ [(13, 72)] ++ [(13, 72)] ++ [(13, 72)] ++ [(13, 96)] ++ [(13, 24)] ++ [(13, 6)] ++ [(13, 12)] ++ [(13, 48)] ++ [(13, 8)] ++ [(13, 4200)] ++ [(13, 4200)] ++ [(13, 4200)] ++ [(13, 8)] ++ [(14, 16385)] ++ [(13, 16385)])[a]? = some (12, nF 12) := ap_old hg36
  have hg40 : (M.1 ++ [(13, 72)] ++ [(13, 72)] ++ [(13, 72)] ++ [(13, 96)] ++ [(13, 24)] ++ [(13, 6)] ++ [(13, 12)] ++ [(13, 48)] ++ [(13, 8)] ++ [(13, 4200)] ++ [(13, 4200)] ++ [(13, 4200)] ++ [(13, 8)] ++ [(14, 16385)] ++ [(13, 16385)])[a + 6]? = some (13, 6) := ap_old hg37
  have hF : Fr (M.1 ++ [(13, 72)] ++ [(13, 72)] ++ [(13, 72)] ++ [(13, 96)] ++ [(13, 24)] ++ [(13, 6)] ++ [(13, 12)] ++ [(13, 48)] ++ [(13, 8)] ++ [(13, 4200)] ++ [(13, 4200)] ++ [(13, 4200)] ++ [(13, 8)] ++ [(14, 16385)] ++ [(13, 16385)], upR (upR (upR (upR (upR (upR (upR (upR (upR (upR (upR (upR (upR (upR (M.2.1) (a) 0 (some (a + 1))) (a) 1 (some (a + 2))) (a) 2 (some (a + 3))) (a) 3 (some (a + 4))) (a) 4 (some (a + 5))) (a) 5 (some (a + 6))) (a) 7 (some (a + 7))) (a) 9 (some (a + 8))) (a) 16 (some (a + 9))) (a) 17 (some (a + 10))) (a) 18 (some (a + 11))) (a) 19 (some (a + 12))) (a) 25 (some (a + 13))) (a) 26 (some (a + 14)), wI (M.2.2) (a) 21 (-1)) := hF
  show J _ _ _ _ _ _ _ _ _ _ _ (M.1 ++ [(13, 72)] ++ [(13, 72)] ++ [(13, 72)] ++ [(13, 96)] ++ [(13, 24)] ++ [(13, 6)] ++ [(13, 12)] ++ [(13, 48)] ++ [(13, 8)] ++ [(13, 4200)] ++ [(13, 4200)] ++ [(13, 4200)] ++ [(13, 8)] ++ [(14, 16385)] ++ [(13, 16385)], upR (upR (upR (upR (upR (upR (upR (upR (upR (upR (upR (upR (upR (upR (M.2.1) (a) 0 (some (a + 1))) (a) 1 (some (a + 2))) (a) 2 (some (a + 3))) (a) 3 (some (a + 4))) (a) 4 (some (a + 5))) (a) 5 (some (a + 6))) (a) 7 (some (a + 7))) (a) 9 (some (a + 8))) (a) 16 (some (a + 9))) (a) 17 (some (a + 10))) (a) 18 (some (a + 11))) (a) 19 (some (a + 12))) (a) 25 (some (a + 13))) (a) 26 (some (a + 14)), wI (M.2.2) (a) 21 (-1)) _
  refine J_putRF rfl cf12 klX12_57 hF hg39 (Or.inr ⟨_, rfl⟩) dX12_init_131 ?_
  intro hF
  have hF : Fr (M.1 ++ [(13, 72)] ++ [(13, 72)] ++ [(13, 72)] ++ [(13, 96)] ++ [(13, 24)] ++ [(13, 6)] ++ [(13, 12)] ++ [(13, 48)] ++ [(13, 8)] ++ [(13, 4200)] ++ [(13, 4200)] ++ [(13, 4200)] ++ [(13, 8)] ++ [(14, 16385)] ++ [(13, 16385)], upR (upR (upR (upR (upR (upR (upR (upR (upR (upR (upR (upR (upR (upR (upR (M.2.1) (a) 0 (some (a + 1))) (a) 1 (some (a + 2))) (a) 2 (some (a + 3))) (a) 3 (some (a + 4))) (a) 4 (some (a + 5))) (a) 5 (some (a + 6))) (a) 7 (some (a + 7))) (a) 9 (some (a + 8))) (a) 16 (some (a + 9))) (a) 17 (some (a + 10))) (a) 18 (some (a + 11))) (a) 19 (some (a + 12))) (a) 25 (some (a + 13))) (a) 26 (some (a + 14))) (a) 27 (some (a + 15)), wI (M.2.2) (a) 21 (-1)) := hF
  show J _ _ _ _ _ _ _ _ _ _ _ (M.1 ++ [(13, 72)] ++ [(13, 72)] ++ [(13, 72)] ++ [(13, 96)] ++ [(13, 24)] ++ [(13, 6)] ++ [(13, 12)] ++ [(13, 48)] ++ [(13, 8)] ++ [(13, 4200)] ++ [(13, 4200)] ++ [(13, 4200)] ++ [(13, 8)] ++ [(14, 16385)] ++ [(13, 16385)], upR (upR (upR (upR (upR (upR (upR (upR (upR (upR (upR (upR (upR (upR (upR (M.2.1) (a) 0 (some (a + 1))) (a) 1 (some (a + 2))) (a) 2 (some (a + 3))) (a) 3 (some (a + 4))) (a) 4 (some (a + 5))) (a) 5 (some (a + 6))) (a) 7 (some (a + 7))) (a) 9 (some (a + 8))) (a) 16 (some (a + 9))) (a) 17 (some (a + 10))) (a) 18 (some (a + 11))) (a) 19 (some (a + 12))) (a) 25 (some (a + 13))) (a) 26 (some (a + 14))) (a) 27 (some (a + 15)), wI (M.2.2) (a) 21 (-1)) _
  refine J_aload_n dX12_init_134 rfl rfl ?_
  refine J_bipush (v := 60) dX12_init_135 (by decide) ?_
  refine J_newI (a := a + 16) (N := 60) (by decide) (by decide) (by decide) hF hl38 (Nat.le_of_ble_eq_true rfl) (Nat.le_of_ble_eq_true rfl) dX12_init_137 ?_
  intro hF
  have hl41 : (M.1 ++ [(13, 72)] ++ [(13, 72)] ++ [(13, 72)] ++ [(13, 96)] ++ [(13, 24)] ++ [(13, 6)] ++ [(13, 12)] ++ [(13, 48)] ++ [(13, 8)] ++ [(13, 4200)] ++ [(13, 4200)] ++ [(13, 4200)] ++ [(13, 8)] ++ [(14, 16385)] ++ [(13, 16385)] ++ [(13, 60)]).length = a + 17 := ap_len hl38 rfl
  have hg42 : (M.1 ++ [(13, 72)] ++ [(13, 72)] ++ [(13, 72)] ++ [(13, 96)] ++ [(13, 24)] ++ [(13, 6)] ++ [(13, 12)] ++ [(13, 48)] ++ [(13, 8)] ++ [(13, 4200)] ++ [(13, 4200)] ++ [(13, 4200)] ++ [(13, 8)] ++ [(14, 16385)] ++ [(13, 16385)] ++ [(13, 60)])[a]? = some (12, nF 12) := ap_old hg39
  have hg43 : (M.1 ++ [(13, 72)] ++ [(13, 72)] ++ [(13, 72)] ++ [(13, 96)] ++ [(13, 24)] ++ [(13, 6)] ++ [(13, 12)] ++ [(13, 48)] ++ [(13, 8)] ++ [(13, 4200)] ++ [(13, 4200)] ++ [(13, 4200)] ++ [(13, 8)] ++ [(14, 16385)] ++ [(13, 16385)] ++ [(13, 60)])[a + 6]? = some (13, 6) := ap_old hg40
  have hF : Fr (M.1 ++ [(13, 72)] ++ [(13, 72)] ++ [(13, 72)] ++ [(13, 96)] ++ [(13, 24)] ++ [(13, 6)] ++ [(13, 12)] ++ [(13, 48)] ++ [(13, 8)] ++ [(13, 4200)] ++ [(13, 4200)] ++ [(13, 4200)] ++ [(13, 8)] ++ [(14, 16385)] ++ [(13, 16385)] ++ [(13, 60)], upR (upR (upR (upR (upR (upR (upR (upR (upR (upR (upR (upR (upR (upR (upR (M.2.1) (a) 0 (some (a + 1))) (a) 1 (some (a + 2))) (a) 2 (some (a + 3))) (a) 3 (some (a + 4))) (a) 4 (some (a + 5))) (a) 5 (some (a + 6))) (a) 7 (some (a + 7))) (a) 9 (some (a + 8))) (a) 16 (some (a + 9))) (a) 17 (some (a + 10))) (a) 18 (some (a + 11))) (a) 19 (some (a + 12))) (a) 25 (some (a + 13))) (a) 26 (some (a + 14))) (a) 27 (some (a + 15)), wI (M.2.2) (a) 21 (-1)) := hF
  show J _ _ _ _ _ _ _ _ _ _ _ (M.1 ++ [(13, 72)] ++ [(13, 72)] ++ [(13, 72)] ++ [(13, 96)] ++ [(13, 24)] ++ [(13, 6)] ++ [(13, 12)] ++ [(13, 48)] ++ [(13, 8)] ++ [(13, 4200)] ++ [(13, 4200)] ++ [(13, 4200)] ++ [(13, 8)] ++ [(14, 16385)] ++ [(13, 16385)] ++ [(13, 60)], upR (upR (upR (upR (upR (upR (upR (upR (upR (upR (upR (upR (upR (upR (upR (M.2.1) (a) 0 (some (a + 1))) (a) 1 (some (a + 2))) (a) 2 (some (a + 3))) (a) 3 (some (a + 4))) (a) 4 (some (a + 5))) (a) 5 (some (a + 6))) (a) 7 (some (a + 7))) (a) 9 (some (a + 8))) (a) 16 (some (a + 9))) (a) 17 (some (a + 10))) (a) 18 (some (a + 11))) (a) 19 (some (a + 12))) (a) 25 (some (a + 13))) (a) 26 (some (a + 14))) (a) 27 (some (a + 15)), wI (M.2.2) (a) 21 (-1)) _
  refine J_putRF rfl cf12 klX12_60 hF hg42 (Or.inr ⟨_, rfl⟩) dX12_init_139 ?_
  intro hF
  have hF : Fr (M.1 ++ [(13, 72)] ++ [(13, 72)] ++ [(13, 72)] ++ [(13, 96)] ++ [(13, 24)] ++ [(13, 6)] ++ [(13, 12)] ++ [(13, 48)] ++ [(13, 8)] ++ [(13, 4200)] ++ [(13, 4200)] ++ [(13, 4200)] ++ [(13, 8)] ++ [(14, 16385)] ++ [(13, 16385)] ++ [(13, 60)], upR (upR (upR (upR (upR (upR (upR (upR (upR (upR (upR (upR (upR (upR (upR (upR (M.2.1) (a) 0 (some (a + 1))) (a) 1 (some (a + 2))) (a) 2 (some (a + 3))) (a) 3 (some (a + 4))) (a) 4 (some (a + 5))) (a) 5 (some (a + 6))) (a) 7 (some (a + 7))) (a) 9 (some (a + 8))) (a) 16 (some (a + 9))) (a) 17 (some (a + 10))) (a) 18 (some (a + 11))) (a) 19 (some (a + 12))) (a) 25 (some (a + 13))) (a) 26 (some (a + 14))) (a) 27 (some (a + 15))) (a) 29 (some (a + 16)), wI (M.2.2) (a) 21 (-1)) := hF
  show J _ _ _ _ _ _ _ _ _ _ _ (M.1 ++ [(13, 72)] ++ [(13, 72)] ++ [(13, 72)] ++ [(13, 96)] ++ [(13, 24)] ++ [(13, 6)] ++ [(13, 12)] ++ [(13, 48)] ++ [(13, 8)] ++ [(13, 4200)] ++ [(13, 4200)] ++ [(13, 4200)] ++ [(13, 8)] ++ [(14, 16385)] ++ [(13, 16385)] ++ [(13, 60)], upR (upR (upR (upR (upR (upR (upR (upR (upR (upR (upR (upR (upR (upR (upR (upR (M.2.1) (a) 0 (some (a + 1))) (a) 1 (some (a + 2))) (a) 2 (some (a + 3))) (a) 3 (some (a + 4))) (a) 4 (some (a + 5))) (a) 5 (some (a + 6))) (a) 7 (some (a + 7))) (a) 9 (some (a + 8))) (a) 16 (some (a + 9))) (a) 17 (some (a + 10))) (a) 18 (some (a + 11))) (a) 19 (some (a + 12))) (a) 25 (some (a + 13))) (a) 26 (some (a + 14))) (a) 27 (some (a + 15))) (a) 29 (some (a + 16)), wI (M.2.2) (a) 21 (-1)) _
  refine J_aload_n dX12_init_142 rfl rfl ?_
  refine J_sipush (v := 600) dX12_init_143 (by decide) ?_
  refine J_newI (a := a + 17) (N := 600) (by decide) (by decide) (by decide) hF hl41 (Nat.le_of_ble_eq_true rfl) (Nat.le_of_ble_eq_true rfl) dX12_init_146 ?_
  intro hF
  have hl44 : (M.1 ++ [(13, 72)] ++ [(13, 72)] ++ [(13, 72)] ++ [(13, 96)] ++ [(13, 24)] ++ [(13, 6)] ++ [(13, 12)] ++ [(13, 48)] ++ [(13, 8)] ++ [(13, 4200)] ++ [(13, 4200)] ++ [(13, 4200)] ++ [(13, 8)] ++ [(14, 16385)] ++ [(13, 16385)] ++ [(13, 60)] ++ [(13, 600)]).length = a + 18 := ap_len hl41 rfl
  have hg45 : (M.1 ++ [(13, 72)] ++ [(13, 72)] ++ [(13, 72)] ++ [(13, 96)] ++ [(13, 24)] ++ [(13, 6)] ++ [(13, 12)] ++ [(13, 48)] ++ [(13, 8)] ++ [(13, 4200)] ++ [(13, 4200)] ++ [(13, 4200)] ++ [(13, 8)] ++ [(14, 16385)] ++ [(13, 16385)] ++ [(13, 60)] ++ [(13, 600)])[a]? = some (12, nF 12) := ap_old hg42
  have hg46 : (M.1 ++ [(13, 72)] ++ [(13, 72)] ++ [(13, 72)] ++ [(13, 96)] ++ [(13, 24)] ++ [(13, 6)] ++ [(13, 12)] ++ [(13, 48)] ++ [(13, 8)] ++ [(13, 4200)] ++ [(13, 4200)] ++ [(13, 4200)] ++ [(13, 8)] ++ [(14, 16385)] ++ [(13, 16385)] ++ [(13, 60)] ++ [(13, 600)])[a + 6]? = some (13, 6) := ap_old hg43
  have hF : Fr (M.1 ++ [(13, 72)] ++ [(13, 72)] ++ [(13, 72)] ++ [(13, 96)] ++ [(13, 24)] ++ [(13, 6)] ++ [(13, 12)] ++ [(13, 48)] ++ [(13, 8)] ++ [(13, 4200)] ++ [(13, 4200)] ++ [(13, 4200)] ++ [(13, 8)] ++ [(14, 16385)] ++ [(13, 16385)] ++ [(13, 60)] ++ [(13, 600)], upR (upR (upR (upR (upR (upR (upR (upR (upR (upR (upR (upR (upR (upR (upR (upR (M.2.1) (a) 0 (some (a + 1))) (a) 1 (some (a + 2))) (a) 2 (some (a + 3))) (a) 3 (some (a + 4))) (a) 4 (some (a + 5))) (a) 5 (some (a + 6))) (a) 7 (some (a + 7))) (a) 9 (some (a + 8))) (a) 16 (some (a + 9))) (a) 17 (some (a + 10))) (a) 18 (some (a + 11))) (a) 19 (some (a + 12))) (a) 25 (some (a + 13))) (a) 26 (some (a + 14))) (a) 27 (some (a + 15))) (a) 29 (some (a + 16)), wI (M.2.2) (a) 21 (-1)) := hF
  show J _ _ _ _ _ _ _ _ _ _ _ (M.1 ++ [(13, 72)] ++ [(13, 72)] ++ [(13, 72)] ++ [(13, 96)] ++ [(13, 24)] ++ [(13, 6)] ++ [(13, 12)] ++ [(13, 48)] ++ [(13, 8)] ++ [(13, 4200)] ++ [(13, 4200)] ++ [(13, 4200)] ++ [(13, 8)] ++ [(14, 16385)] ++ [(13, 16385)] ++ [(13, 60)] ++ [(13, 600)], upR (upR (upR (upR (upR (upR (upR (upR (upR (upR (upR (upR (upR (upR (upR (upR (M.2.1) (a) 0 (some (a + 1))) (a) 1 (some (a + 2))) (a) 2 (some (a + 3))) (a) 3 (some (a + 4))) (a) 4 (some (a + 5))) (a) 5 (some (a + 6))) (a) 7 (some (a + 7))) (a) 9 (some (a + 8))) (a) 16 (some (a + 9))) (a) 17 (some (a + 10))) (a) 18 (some (a + 11))) (a) 19 (some (a + 12))) (a) 25 (some (a + 13))) (a) 26 (some (a + 14))) (a) 27 (some (a + 15))) (a) 29 (some (a + 16)), wI (M.2.2) (a) 21 (-1)) _
  refine J_putRF rfl cf12 klX12_63 hF hg45 (Or.inr ⟨_, rfl⟩) dX12_init_148 ?_
  intro hF
  have hF : Fr (M.1 ++ [(13, 72)] ++ [(13, 72)] ++ [(13, 72)] ++ [(13, 96)] ++ [(13, 24)] ++ [(13, 6)] ++ [(13, 12)] ++ [(13, 48)] ++ [(13, 8)] ++ [(13, 4200)] ++ [(13, 4200)] ++ [(13, 4200)] ++ [(13, 8)] ++ [(14, 16385)] ++ [(13, 16385)] ++ [(13, 60)] ++ [(13, 600)], upR (upR (upR (upR (upR (upR (upR (upR (upR (upR (upR (upR (upR (upR (upR (upR (upR (M.2.1) (a) 0 (some (a + 1))) (a) 1 (some (a + 2))) (a) 2 (some (a + 3))) (a) 3 (some (a + 4))) (a) 4 (some (a + 5))) (a) 5 (some (a + 6))) (a) 7 (some (a + 7))) (a) 9 (some (a + 8))) (a) 16 (some (a + 9))) (a) 17 (some (a + 10))) (a) 18 (some (a + 11))) (a) 19 (some (a + 12))) (a) 25 (some (a + 13))) (a) 26 (some (a + 14))) (a) 27 (some (a + 15))) (a) 29 (some (a + 16))) (a) 31 (some (a + 17)), wI (M.2.2) (a) 21 (-1)) := hF
  show J _ _ _ _ _ _ _ _ _ _ _ (M.1 ++ [(13, 72)] ++ [(13, 72)] ++ [(13, 72)] ++ [(13, 96)] ++ [(13, 24)] ++ [(13, 6)] ++ [(13, 12)] ++ [(13, 48)] ++ [(13, 8)] ++ [(13, 4200)] ++ [(13, 4200)] ++ [(13, 4200)] ++ [(13, 8)] ++ [(14, 16385)] ++ [(13, 16385)] ++ [(13, 60)] ++ [(13, 600)], upR (upR (upR (upR (upR (upR (upR (upR (upR (upR (upR (upR (upR (upR (upR (upR (upR (M.2.1) (a) 0 (some (a + 1))) (a) 1 (some (a + 2))) (a) 2 (some (a + 3))) (a) 3 (some (a + 4))) (a) 4 (some (a + 5))) (a) 5 (some (a + 6))) (a) 7 (some (a + 7))) (a) 9 (some (a + 8))) (a) 16 (some (a + 9))) (a) 17 (some (a + 10))) (a) 18 (some (a + 11))) (a) 19 (some (a + 12))) (a) 25 (some (a + 13))) (a) 26 (some (a + 14))) (a) 27 (some (a + 15))) (a) 29 (some (a + 16))) (a) 31 (some (a + 17)), wI (M.2.2) (a) 21 (-1)) _
  refine J_aload_n dX12_init_151 rfl rfl ?_
  refine J_bipush (v := 10) dX12_init_152 (by decide) ?_
  refine J_newI (a := a + 18) (N := 10) (by decide) (by decide) (by decide) hF hl44 (Nat.le_of_ble_eq_true rfl) (Nat.le_of_ble_eq_true rfl) dX12_init_154 ?_
  intro hF
  have hl47 : (M.1 ++ [(13, 72)] ++ [(13, 72)] ++ [(13, 72)] ++ [(13, 96)] ++ [(13, 24)] ++ [(13, 6)] ++ [(13, 12)] ++ [(13, 48)] ++ [(13, 8)] ++ [(13, 4200)] ++ [(13, 4200)] ++ [(13, 4200)] ++ [(13, 8)] ++ [(14, 16385)] ++ [(13, 16385)] ++ [(13, 60)] ++ [(13, 600)] ++ [(13, 10)]).length = a + 19 := ap_len hl44 rfl
  have hg48 : (M.1 ++ [(13, 72)] ++ [(13, 72)] ++ [(13, 72)] ++ [(13, 96)] ++ [(13, 24)] ++ [(13, 6)] ++ [(13, 12)] ++ [(13, 48)] ++ [(13, 8)] ++ [(13, 4200)] ++ [(13, 4200)] ++ [(13, 4200)] ++ [(13, 8)] ++ [(14, 16385)] ++ [(13, 16385)] ++ [(13, 60)] ++ [(13, 600)] ++ [(13, 10)])[a]? = some (12, nF 12) := ap_old hg45
  have hg49 : (M.1 ++ [(13, 72)] ++ [(13, 72)] ++ [(13, 72)] ++ [(13, 96)] ++ [(13, 24)] ++ [(13, 6)] ++ [(13, 12)] ++ [(13, 48)] ++ [(13, 8)] ++ [(13, 4200)] ++ [(13, 4200)] ++ [(13, 4200)] ++ [(13, 8)] ++ [(14, 16385)] ++ [(13, 16385)] ++ [(13, 60)] ++ [(13, 600)] ++ [(13, 10)])[a + 6]? = some (13, 6) := ap_old hg46
  have hF : Fr (M.1 ++ [(13, 72)] ++ [(13, 72)] ++ [(13, 72)] ++ [(13, 96)] ++ [(13, 24)] ++ [(13, 6)] ++ [(13, 12)] ++ [(13, 48)] ++ [(13, 8)] ++ [(13, 4200)] ++ [(13, 4200)] ++ [(13, 4200)] ++ [(13, 8)] ++ [(14, 16385)] ++ [(13, 16385)] ++ [(13, 60)] ++ [(13, 600)] ++ [(13, 10)], upR (upR (upR (upR (upR (upR (upR (upR (upR (upR (upR (upR (upR (upR (upR (upR (upR (M.2.1) (a) 0 (some (a + 1))) (a) 1 (some (a + 2))) (a) 2 (some (a + 3))) (a) 3 (some (a + 4))) (a) 4 (some (a + 5))) (a) 5 (some (a + 6))) (a) 7 (some (a + 7))) (a) 9 (some (a + 8))) (a) 16 (some (a + 9))) (a) 17 (some (a + 10))) (a) 18 (some (a + 11))) (a) 19 (some (a + 12))) (a) 25 (some (a + 13))) (a) 26 (some (a + 14))) (a) 27 (some (a + 15))) (a) 29 (some (a + 16))) (a) 31 (some (a + 17)), wI (M.2.2) (a) 21 (-1)) := hF
  show J _ _ _ _ _ _ _ _ _ _ _ (M.1 ++ [(13, 72)] ++ [(13, 72)] ++ [(13, 72)] ++ [(13, 96)] ++ [(13, 24)] ++ [(13, 6)] ++ [(13, 12)] ++ [(13, 48)] ++ [(13, 8)] ++ [(13, 4200)] ++ [(13, 4200)] ++ [(13, 4200)] ++ [(13, 8)] ++ [(14, 16385)] ++ [(13, 16385)] ++ [(13, 60)] ++ [(13, 600)] ++ [(13, 10)], upR (upR (upR (upR (upR (upR (upR (upR (upR (upR (upR (upR (upR (upR (upR (upR (upR (M.2.1) (a) 0 (some (a + 1))) (a) 1 (some (a + 2))) (a) 2 (some (a + 3))) (a) 3 (some (a + 4))) (a) 4 (some (a + 5))) (a) 5 (some (a + 6))) (a) 7 (some (a + 7))) (a) 9 (some (a + 8))) (a) 16 (some (a + 9))) (a) 17 (some (a + 10))) (a) 18 (some (a + 11))) (a) 19 (some (a + 12))) (a) 25 (some (a + 13))) (a) 26 (some (a + 14))) (a) 27 (some (a + 15))) (a) 29 (some (a + 16))) (a) 31 (some (a + 17)), wI (M.2.2) (a) 21 (-1)) _
  refine J_putRF rfl cf12 klX12_66 hF hg48 (Or.inr ⟨_, rfl⟩) dX12_init_156 ?_
  intro hF
  have hF : Fr (M.1 ++ [(13, 72)] ++ [(13, 72)] ++ [(13, 72)] ++ [(13, 96)] ++ [(13, 24)] ++ [(13, 6)] ++ [(13, 12)] ++ [(13, 48)] ++ [(13, 8)] ++ [(13, 4200)] ++ [(13, 4200)] ++ [(13, 4200)] ++ [(13, 8)] ++ [(14, 16385)] ++ [(13, 16385)] ++ [(13, 60)] ++ [(13, 600)] ++ [(13, 10)], upR (upR (upR (upR (upR (upR (upR (upR (upR (upR (upR (upR (upR (upR (upR (upR (upR (upR (M.2.1) (a) 0 (some (a + 1))) (a) 1 (some (a + 2))) (a) 2 (some (a + 3))) (a) 3 (some (a + 4))) (a) 4 (some (a + 5))) (a) 5 (some (a + 6))) (a) 7 (some (a + 7))) (a) 9 (some (a + 8))) (a) 16 (some (a + 9))) (a) 17 (some (a + 10))) (a) 18 (some (a + 11))) (a) 19 (some (a + 12))) (a) 25 (some (a + 13))) (a) 26 (some (a + 14))) (a) 27 (some (a + 15))) (a) 29 (some (a + 16))) (a) 31 (some (a + 17))) (a) 32 (some (a + 18)), wI (M.2.2) (a) 21 (-1)) := hF
  show J _ _ _ _ _ _ _ _ _ _ _ (M.1 ++ [(13, 72)] ++ [(13, 72)] ++ [(13, 72)] ++ [(13, 96)] ++ [(13, 24)] ++ [(13, 6)] ++ [(13, 12)] ++ [(13, 48)] ++ [(13, 8)] ++ [(13, 4200)] ++ [(13, 4200)] ++ [(13, 4200)] ++ [(13, 8)] ++ [(14, 16385)] ++ [(13, 16385)] ++ [(13, 60)] ++ [(13, 600)] ++ [(13, 10)], upR (upR (upR (upR (upR (upR (upR (upR (upR (upR (upR (upR (upR (upR (upR (upR (upR (upR (M.2.1) (a) 0 (some (a + 1))) (a) 1 (some (a + 2))) (a) 2 (some (a + 3))) (a) 3 (some (a + 4))) (a) 4 (some (a + 5))) (a) 5 (some (a + 6))) (a) 7 (some (a + 7))) (a) 9 (some (a + 8))) (a) 16 (some (a + 9))) (a) 17 (some (a + 10))) (a) 18 (some (a + 11))) (a) 19 (some (a + 12))) (a) 25 (some (a + 13))) (a) 26 (some (a + 14))) (a) 27 (some (a + 15))) (a) 29 (some (a + 16))) (a) 31 (some (a + 17))) (a) 32 (some (a + 18)), wI (M.2.2) (a) 21 (-1)) _
  refine J_aload_n dX12_init_159 rfl rfl ?_
  refine J_bipush (v := 10) dX12_init_160 (by decide) ?_
  refine J_newI (a := a + 19) (N := 10) (by decide) (by decide) (by decide) hF hl47 (Nat.le_of_ble_eq_true rfl) (Nat.le_of_ble_eq_true rfl) dX12_init_162 ?_
  intro hF
  have hl50 : (M.1 ++ [(13, 72)] ++ [(13, 72)] ++ [(13, 72)] ++ [(13, 96)] ++ [(13, 24)] ++ [(13, 6)] ++ [(13, 12)] ++ [(13, 48)] ++ [(13, 8)] ++ [(13, 4200)] ++ [(13, 4200)] ++ [(13, 4200)] ++ [(13, 8)] ++ [(14, 16385)] ++ [(13, 16385)] ++ [(13, 60)] ++ [(13, 600)] ++ [(13, 10)] ++ [(13, 10)]).length = a + 20 := ap_len hl47 rfl
  have hg51 : (M.1 ++ [(13, 72)] ++ [(13, 72)] ++ [(13, 72)] ++ [(13, 96)] ++ [(13, 24)] ++ [(13, 6)] ++ [(13, 12)] ++ [(13, 48)] ++ [(13, 8)] ++ [(13, 4200)] ++ [(13, 4200)] ++ [(13, 4200)] ++ [(13, 8)] ++ [(14, 16385)] ++ [(13, 16385)] ++ [(13, 60)] ++ [(13, 600)] ++ [(13, 10)] ++ [(13, 10)])[a]? = some (12, nF 12) := ap_old hg48
  have hg52 : (M.1 ++ [(13, 72)] ++ [(13, 72)] ++ [(13, 72)] ++ [(13, 96)] ++ [(13, 24)] ++ [(13, 6)] ++ [(13, 12)] ++ [(13, 48)] ++ [(13, 8)] ++ [(13, 4200)] ++ [(13, 4200)] ++ [(13, 4200)] ++ [(13, 8)] ++ [(14, 16385)] ++ [(13, 16385)] ++ [(13, 60)] ++ [(13, 600)] ++ [(13, 10)] ++ [(13, 10)])[a + 6]? = some (13, 6) := ap_old hg49
  have hF : Fr (M.1 ++ [(13, 72)] ++ [(13, 72)] ++ [(13, 72)] ++ [(13, 96)] ++ [(13, 24)] ++ [(13, 6)] ++ [(13, 12)] ++ [(13, 48)] ++ [(13, 8)] ++ [(13, 4200)] ++ [(13, 4200)] ++ [(13, 4200)] ++ [(13, 8)] ++ [(14, 16385)] ++ [(13, 16385)] ++ [(13, 60)] ++ [(13, 600)] ++ [(13, 10)] ++ [(13, 10)], upR (upR (upR (upR (upR (upR (upR (upR (upR (upR (upR (upR (upR (upR (upR (upR (upR (upR (M.2.1) (a) 0 (some (a + 1))) (a) 1 (some (a + 2))) (a) 2 (some (a + 3))) (a) 3 (some (a + 4))) (a) 4 (some (a + 5))) (a) 5 (some (a + 6))) (a) 7 (some (a + 7))) (a) 9 (some (a + 8))) (a) 16 (some (a + 9))) (a) 17 (some (a + 10))) (a) 18 (some (a + 11))) (a) 19 (some (a + 12))) (a) 25 (some (a + 13))) (a) 26 (some (a + 14))) (a) 27 (some (a + 15))) (a) 29 (some (a + 16))) (a) 31 (some (a + 17))) (a) 32 (some (a + 18)), wI (M.2.2) (a) 21 (-1)) := hF
  show J _ _ _ _ _ _ _ _ _ _ _ (M.1 ++ [(13, 72)] ++ [(13, 72)] ++ [(13, 72)] ++ [(13, 96)] ++ [(13, 24)] ++ [(13, 6)] ++ [(13, 12)] ++ [(13, 48)] ++ [(13, 8)] ++ [(13, 4200)] ++ [(13, 4200)] ++ [(13, 4200)] ++ [(13, 8)] ++ [(14, 16385)] ++ [(13, 16385)] ++ [(13, 60)] ++ [(13, 600)] ++ [(13, 10)] ++ [(13, 10)], upR (upR (upR (upR (upR (upR (upR (upR (upR (upR (upR (upR (upR (upR (upR (upR (upR (upR (M.2.1) (a) 0 (some (a + 1))) (a) 1 (some (a + 2))) (a) 2 (some (a + 3))) (a) 3 (some (a + 4))) (a) 4 (some (a + 5))) (a) 5 (some (a + 6))) (a) 7 (some (a + 7))) (a) 9 (some (a + 8))) (a) 16 (some (a + 9))) (a) 17 (some (a + 10))) (a) 18 (some (a + 11))) (a) 19 (some (a + 12))) (a) 25 (some (a + 13))) (a) 26 (some (a + 14))) (a) 27 (some (a + 15))) (a) 29 (some (a + 16))) (a) 31 (some (a + 17))) (a) 32 (some (a + 18)), wI (M.2.2) (a) 21 (-1)) _
  refine J_putRF rfl cf12 klX12_69 hF hg51 (Or.inr ⟨_, rfl⟩) dX12_init_164 ?_
  intro hF
  have hF : Fr (M.1 ++ [(13, 72)] ++ [(13, 72)] ++ [(13, 72)] ++ [(13, 96)] ++ [(13, 24)] ++ [(13, 6)] ++ [(13, 12)] ++ [(13, 48)] ++ [(13, 8)] ++ [(13, 4200)] ++ [(13, 4200)] ++ [(13, 4200)] ++ [(13, 8)] ++ [(14, 16385)] ++ [(13, 16385)] ++ [(13, 60)] ++ [(13, 600)] ++ [(13, 10)] ++ [(13, 10)], upR (upR (upR (upR (upR (upR (upR (upR (upR (upR (upR (upR (upR (upR (upR (upR (upR (upR (upR (M.2.1) (a) 0 (some (a + 1))) (a) 1 (some (a + 2))) (a) 2 (some (a + 3))) (a) 3 (some (a + 4))) (a) 4 (some (a + 5))) (a) 5 (some (a + 6))) (a) 7 (some (a + 7))) (a) 9 (some (a + 8))) (a) 16 (some (a + 9))) (a) 17 (some (a + 10))) (a) 18 (some (a + 11))) (a) 19 (some (a + 12))) (a) 25 (some (a + 13))) (a) 26 (some (a + 14))) (a) 27 (some (a + 15))) (a) 29 (some (a + 16))) (a) 31 (some (a + 17))) (a) 32 (some (a + 18))) (a) 33 (some (a + 19)), wI (M.2.2) (a) 21 (-1)) := hF
  show J _ _ _ _ _ _ _ _ _ _ _ (M.1 ++ [(13, 72)] ++ [(13, 72)] ++ [(13, 72)] ++ [(13, 96)] ++ [(13, 24)] ++ [(13, 6)] ++ [(13, 12)] ++ [(13, 48)] ++ [(13, 8)] ++ [(13, 4200)] ++ [(13, 4200)] ++ [(13, 4200)] ++ [(13, 8)] ++ [(14, 16385)] ++ [(13, 16385)] ++ [(13, 60)] ++ [(13, 600)] ++ [(13, 10)] ++ [(13, 10)], upR (upR (upR (upR (upR (upR (upR (upR (upR (upR (upR (upR (upR (upR (upR (upR (upR (upR (upR (M.2.1) (a) 0 (some (a + 1))) (a) 1 (some (a + 2))) (a) 2 (some (a + 3))) (a) 3 (some (a + 4))) (a) 4 (some (a + 5))) (a) 5 (some (a + 6))) (a) 7 (some (a + 7))) (a) 9 (some (a + 8))) (a) 16 (some (a + 9))) (a) 17 (some (a + 10))) (a) 18 (some (a + 11))) (a) 19 (some (a + 12))) (a) 25 (some (a + 13))) (a) 26 (some (a + 14))) (a) 27 (some (a + 15))) (a) 29 (some (a + 16))) (a) 31 (some (a + 17))) (a) 32 (some (a + 18))) (a) 33 (some (a + 19)), wI (M.2.2) (a) 21 (-1)) _
  refine J_aload_n dX12_init_167 rfl rfl ?_
  refine J_sipush (v := 16385) dX12_init_168 (by decide) ?_
  refine J_newZ (a := a + 20) (N := 16385) (by decide) (by decide) (by decide) hF hl50 (Nat.le_of_ble_eq_true rfl) (Nat.le_of_ble_eq_true rfl) dX12_init_171 ?_
  intro hF
  have hl53 : (M.1 ++ [(13, 72)] ++ [(13, 72)] ++ [(13, 72)] ++ [(13, 96)] ++ [(13, 24)] ++ [(13, 6)] ++ [(13, 12)] ++ [(13, 48)] ++ [(13, 8)] ++ [(13, 4200)] ++ [(13, 4200)] ++ [(13, 4200)] ++ [(13, 8)] ++ [(14, 16385)] ++ [(13, 16385)] ++ [(13, 60)] ++ [(13, 600)] ++ [(13, 10)] ++ [(13, 10)] ++ [(15, 16385)]).length = a + 21 := ap_len hl50 rfl
  have hg54 : (M.1 ++ [(13, 72)] ++ [(13, 72)] ++ [(13, 72)] ++ [(13, 96)] ++ [(13, 24)] ++ [(13, 6)] ++ [(13, 12)] ++ [(13, 48)] ++ [(13, 8)] ++ [(13, 4200)] ++ [(13, 4200)] ++ [(13, 4200)] ++ [(13, 8)] ++ [(14, 16385)] ++ [(13, 16385)] ++ [(13, 60)] ++ [(13, 600)] ++ [(13, 10)] ++ [(13, 10)] ++ [(15, 16385)])[a]? = some (12, nF 12) := ap_old hg51
  have hg55 : (M.1 ++ [(13, 72)] ++ [(13, 72)] ++ [(13, 72)] ++ [(13, 96)] ++ [(13, 24)] ++ [(13, 6)] ++ [(13, 12)] ++ [(13, 48)] ++ [(13, 8)] ++ [(13, 4200)] ++ [(13, 4200)] ++ [(13, 4200)] ++ [(13, 8)] ++ [(14, 16385)] ++ [(13, 16385)] ++ [(13, 60)] ++ [(13, 600)] ++ [(13, 10)] ++ [(13, 10)] ++ [(15, 16385)])[a + 6]? = some (13, 6) := ap_old hg52
  have hF : Fr (M.1 ++ [(13, 72)] ++ [(13, 72)] ++ [(13, 72)] ++ [(13, 96)] ++ [(13, 24)] ++ [(13, 6)] ++ [(13, 12)] ++ [(13, 48)] ++ [(13, 8)] ++ [(13, 4200)] ++ [(13, 4200)] ++ [(13, 4200)] ++ [(13, 8)] ++ [(14, 16385)] ++ [(13, 16385)] ++ [(13, 60)] ++ [(13, 600)] ++ [(13, 10)] ++ [(13, 10)] ++ [(15, 16385)], upR (upR (upR (upR (upR (upR (upR (upR (upR (upR (upR (upR (upR (upR (upR (upR (upR (upR (upR (M.2.1) (a) 0 (some (a + 1))) (a) 1 (some (a + 2))) (a) 2 (some (a + 3))) (a) 3 (some (a + 4))) (a) 4 (some (a + 5))) (a) 5 (some (a + 6))) (a) 7 (some (a + 7))) (a) 9 (some (a + 8))) (a) 16 (some (a + 9))) (a) 17 (some (a + 10))) (a) 18 (some (a + 11))) (a) 19 (some (a + 12))) (a) 25 (some (a + 13))) (a) 26 (some (a + 14))) (a) 27 (some (a + 15))) (a) 29 (some (a + 16))) (a) 31 (some (a + 17))) (a) 32 (some (a + 18))) (a) 33 (some (a + 19)), wI (M.2.2) (a) 21 (-1)) := hF
  show J _ _ _ _ _ _ _ _ _ _ _ (M.1 ++ [(13, 72)] ++ [(13, 72)] ++ [(13, 72)] ++ [(13, 96)] ++ [(13, 24)] ++ [(13, 6)] ++ [(13, 12)] ++ [(13, 48)] ++ [(13, 8)] ++ [(13, 4200)] ++ [(13, 4200)] ++ [(13, 4200)] ++ [(13, 8)] ++ [(14, 16385)] ++ [(13, 16385)] ++ [(13, 60)] ++ [(13, 600)] ++ [(13, 10)] ++ [(13, 10)] ++ [(15, 16385)], upR (upR (upR (upR (upR (upR (upR (upR (upR (upR (upR (upR (upR (upR (upR (upR (upR (upR (upR (M.2.1) (a) 0 (some (a + 1))) (a) 1 (some (a + 2))) (a) 2 (some (a + 3))) (a) 3 (some (a + 4))) (a) 4 (some (a + 5))) (a) 5 (some (a + 6))) (a) 7 (some (a + 7))) (a) 9 (some (a + 8))) (a) 16 (some (a + 9))) (a) 17 (some (a + 10))) (a) 18 (some (a + 11))) (a) 19 (some (a + 12))) (a) 25 (some (a + 13))) (a) 26 (some (a + 14))) (a) 27 (some (a + 15))) (a) 29 (some (a + 16))) (a) 31 (some (a + 17))) (a) 32 (some (a + 18))) (a) 33 (some (a + 19)), wI (M.2.2) (a) 21 (-1)) _
  refine J_putRF rfl cf12 klX12_72 hF hg54 (Or.inr ⟨_, rfl⟩) dX12_init_173 ?_
  intro hF
  have hF : Fr (M.1 ++ [(13, 72)] ++ [(13, 72)] ++ [(13, 72)] ++ [(13, 96)] ++ [(13, 24)] ++ [(13, 6)] ++ [(13, 12)] ++ [(13, 48)] ++ [(13, 8)] ++ [(13, 4200)] ++ [(13, 4200)] ++ [(13, 4200)] ++ [(13, 8)] ++ [(14, 16385)] ++ [(13, 16385)] ++ [(13, 60)] ++ [(13, 600)] ++ [(13, 10)] ++ [(13, 10)] ++ [(15, 16385)], upR (upR (upR (upR (upR (upR (upR (upR (upR (upR (upR (upR (upR (upR (upR (upR (upR (upR (upR (upR (M.2.1) (a) 0 (some (a + 1))) (a) 1 (some (a + 2))) (a) 2 (some (a + 3))) (a) 3 (some (a + 4))) (a) 4 (some (a + 5))) (a) 5 (some (a + 6))) (a) 7 (some (a + 7))) (a) 9 (some (a + 8))) (a) 16 (some (a + 9))) (a) 17 (some (a + 10))) (a) 18 (some (a + 11))) (a) 19 (some (a + 12))) (a) 25 (some (a + 13))) (a) 26 (some (a + 14))) (a) 27 (some (a + 15))) (a) 29 (some (a + 16))) (a) 31 (some (a + 17))) (a) 32 (some (a + 18))) (a) 33 (some (a + 19))) (a) 40 (some (a + 20)), wI (M.2.2) (a) 21 (-1)) := hF
  show J _ _ _ _ _ _ _ _ _ _ _ (M.1 ++ [(13, 72)] ++ [(13, 72)] ++ [(13, 72)] ++ [(13, 96)] ++ [(13, 24)] ++ [(13, 6)] ++ [(13, 12)] ++ [(13, 48)] ++ [(13, 8)] ++ [(13, 4200)] ++ [(13, 4200)] ++ [(13, 4200)] ++ [(13, 8)] ++ [(14, 16385)] ++ [(13, 16385)] ++ [(13, 60)] ++ [(13, 600)] ++ [(13, 10)] ++ [(13, 10)] ++ [(15, 16385)], upR (upR (upR (upR (upR (upR (upR (upR (upR (upR (upR (upR (upR (upR (upR (upR (upR (upR (upR (upR (M.2.1) (a) 0 (some (a + 1))) (a) 1 (some (a + 2))) (a) 2 (some (a + 3))) (a) 3 (some (a + 4))) (a) 4 (some (a + 5))) (a) 5 (some (a + 6))) (a) 7 (some (a + 7))) (a) 9 (some (a + 8))) (a) 16 (some (a + 9))) (a) 17 (some (a + 10))) (a) 18 (some (a + 11))) (a) 19 (some (a + 12))) (a) 25 (some (a + 13))) (a) 26 (some (a + 14))) (a) 27 (some (a + 15))) (a) 29 (some (a + 16))) (a) 31 (some (a + 17))) (a) 32 (some (a + 18))) (a) 33 (some (a + 19))) (a) 40 (some (a + 20)), wI (M.2.2) (a) 21 (-1)) _
  refine J_aload_n dX12_init_176 rfl rfl ?_
  refine J_iconst (v := -1) dX12_init_177 (by decide) ?_
  refine J_putI cf12 klX12_76 hg54 rfl dX12_init_178 ?_
  have hF := hF.wI (a := a) (k := 48) (x := -1) (List.getElem?_eq_some_iff.mp hg54).1
  have hF : Fr (M.1 ++ [(13, 72)] ++ [(13, 72)] ++ [(13, 72)] ++ [(13, 96)] ++ [(13, 24)] ++ [(13, 6)] ++ [(13, 12)] ++ [(13, 48)] ++ [(13, 8)] ++ [(13, 4200)] ++ [(13, 4200)] ++ [(13, 4200)] ++ [(13, 8)] ++ [(14, 16385)] ++ [(13, 16385)] ++ [(13, 60)] ++ [(13, 600)] ++ [(13, 10)] ++ [(13, 10)] ++ [(15, 16385)], upR (upR (upR (upR (upR (upR (upR (upR (upR (upR (upR (upR (upR (upR (upR (upR (upR (upR (upR (upR (M.2.1) (a) 0 (some (a + 1))) (a) 1 (some (a + 2))) (a) 2 (some (a + 3))) (a) 3 (some (a + 4))) (a) 4 (some (a + 5))) (a) 5 (some (a + 6))) (a) 7 (some (a + 7))) (a) 9 (some (a + 8))) (a) 16 (some (a + 9))) (a) 17 (some (a + 10))) (a) 18 (some (a + 11))) (a) 19 (some (a + 12))) (a) 25 (some (a + 13))) (a) 26 (some (a + 14))) (a) 27 (some (a + 15))) (a) 29 (some (a + 16))) (a) 31 (some (a + 17))) (a) 32 (some (a + 18))) (a) 33 (some (a + 19))) (a) 40 (some (a + 20)), wI (wI (M.2.2) (a) 21 (-1)) (a) 48 (-1)) := hF
  show J _ _ _ _ _ _ _ _ _ _ _ (M.1 ++ [(13, 72)] ++ [(13, 72)] ++ [(13, 72)] ++ [(13, 96)] ++ [(13, 24)] ++ [(13, 6)] ++ [(13, 12)] ++ [(13, 48)] ++ [(13, 8)] ++ [(13, 4200)] ++ [(13, 4200)] ++ [(13, 4200)] ++ [(13, 8)] ++ [(14, 16385)] ++ [(13, 16385)] ++ [(13, 60)] ++ [(13, 600)] ++ [(13, 10)] ++ [(13, 10)] ++ [(15, 16385)], upR (upR (upR (upR (upR (upR (upR (upR (upR (upR (upR (upR (upR (upR (upR (upR (upR (upR (upR (upR (M.2.1) (a) 0 (some (a + 1))) (a) 1 (some (a + 2))) (a) 2 (some (a + 3))) (a) 3 (some (a + 4))) (a) 4 (some (a + 5))) (a) 5 (some (a + 6))) (a) 7 (some (a + 7))) (a) 9 (some (a + 8))) (a) 16 (some (a + 9))) (a) 17 (some (a + 10))) (a) 18 (some (a + 11))) (a) 19 (some (a + 12))) (a) 25 (some (a + 13))) (a) 26 (some (a + 14))) (a) 27 (some (a + 15))) (a) 29 (some (a + 16))) (a) 31 (some (a + 17))) (a) 32 (some (a + 18))) (a) 33 (some (a + 19))) (a) 40 (some (a + 20)), wI (wI (M.2.2) (a) 21 (-1)) (a) 48 (-1)) _
  refine J_aload_n dX12_init_181 rfl rfl ?_
  refine J_bipush (v := 8) dX12_init_182 (by decide) ?_
  refine J_newI (a := a + 21) (N := 8) (by decide) (by decide) (by decide) hF hl53 (Nat.le_of_ble_eq_true rfl) (Nat.le_of_ble_eq_true rfl) dX12_init_184 ?_
  intro hF
  have hl56 : (M.1 ++ [(13, 72)] ++ [(13, 72)] ++ [(13, 72)] ++ [(13, 96)] ++ [(13, 24)] ++ [(13, 6)] ++ [(13, 12)] ++ [(13, 48)] ++ [(13, 8)] ++ [(13, 4200)] ++ [(13, 4200)] ++ [(13, 4200)] ++ [(13, 8)] ++ [(14, 16385)] ++ [(13, 16385)] ++ [(13, 60)] ++ [(13, 600)] ++ [(13, 10)] ++ [(13, 10)] ++ [(15, 16385)] ++ [(13, 8)]).length = a + 22 := ap_len hl53 rfl
  have hg57 : (M.1 ++ [(13, 72)] ++ [(13, 72)] ++ [(13, 72)] ++ [(13, 96)] ++ [(13, 24)] ++ [(13, 6)] ++ [(13, 12)] ++ [(13, 48)] ++ [(13, 8)] ++ [(13, 4200)] ++ [(13, 4200)] ++ [(13, 4200)] ++ [(13, 8)] ++ [(14, 16385)] ++ [(13, 16385)] ++ [(13, 60)] ++ [(13, 600)] ++ [(13, 10)] ++ [(13, 10)] ++ [(15, 16385)] ++ [(13, 8)])[a]? = some (12, nF 12) := ap_old hg54
  have hg58 : (M.1 ++ [(13, 72)] ++ [(13, 72)] ++ [(13, 72)] ++ [(13, 96)] ++ [(13, 24)] ++ [(13, 6)] ++ [(13, 12)] ++ [(13, 48)] ++ [(13, 8)] ++ [(13, 4200)] ++ [(13, 4200)] ++ [(13, 4200)] ++ [(13, 8)] ++ [(14, 16385)] ++ [(13, 16385)] ++ [(13, 60)] ++ [(13, 600)] ++ [(13, 10)] ++ [(13, 10)] ++ [(15, 16385)] ++ [(13, 8)])[a + 6]? = some (13, 6) := ap_old hg55
  have hF : Fr (M.1 ++ [(13, 72)] ++ [(13, 72)] ++ [(13, 72)] ++ [(13, 96)] ++ [(13, 24)] ++ [(13, 6)] ++ [(13, 12)] ++ [(13, 48)] ++ [(13, 8)] ++ [(13, 4200)] ++ [(13, 4200)] ++ [(13, 4200)] ++ [(13, 8)] ++ [(14, 16385)] ++ [(13, 16385)] ++ [(13, 60)] ++ [(13, 600)] ++ [(13, 10)] ++ [(13, 10)] ++ [(15, 16385)] ++ [(13, 8)], upR (upR (upR (upR (upR (upR (upR (upR (upR (upR (upR (upR (upR (upR (upR (upR (upR (upR (upR (upR (M.2.1) (a) 0 (some (a + 1))) (a) 1 (some (a + 2))) (a) 2 (some (a + 3))) (a) 3 (some (a + 4))) (a) 4 (some (a + 5))) (a) 5 (some (a + 6))) (a) 7 (some (a + 7))) (a) 9 (some (a + 8))) (a) 16 (some (a + 9))) (a) 17 (some (a + 10))) (a) 18 (some (a + 11))) (a) 19 (some (a + 12))) (a) 25 (some (a + 13))) (a) 26 (some (a + 14))) (a) 27 (some (a + 15))) (a) 29 (some (a + 16))) (a) 31 (some (a + 17))) (a) 32 (some (a + 18))) (a) 33 (some (a + 19))) (a) 40 (some (a + 20)), wI (wI (M.2.2) (a) 21 (-1)) (a) 48 (-1)) := hF
  show J _ _ _ _ _ _ _ _ _ _ _ (M.1 ++ [(13, 72)] ++ [(13, 72)] ++ [(13, 72)] ++ [(13, 96)] ++ [(13, 24)] ++ [(13, 6)] ++ [(13, 12)] ++ [(13, 48)] ++ [(13, 8)] ++ [(13, 4200)] ++ [(13, 4200)] ++ [(13, 4200)] ++ [(13, 8)] ++ [(14, 16385)] ++ [(13, 16385)] ++ [(13, 60)] ++ [(13, 600)] ++ [(13, 10)] ++ [(13, 10)] ++ [(15, 16385)] ++ [(13, 8)], upR (upR (upR (upR (upR (upR (upR (upR (upR (upR (upR (upR (upR (upR (upR (upR (upR (upR (upR (upR (M.2.1) (a) 0 (some (a + 1))) (a) 1 (some (a + 2))) (a) 2 (some (a + 3))) (a) 3 (some (a + 4))) (a) 4 (some (a + 5))) (a) 5 (some (a + 6))) (a) 7 (some (a + 7))) (a) 9 (some (a + 8))) (a) 16 (some (a + 9))) (a) 17 (some (a + 10))) (a) 18 (some (a + 11))) (a) 19 (some (a + 12))) (a) 25 (some (a + 13))) (a) 26 (some (a + 14))) (a) 27 (some (a + 15))) (a) 29 (some (a + 16))) (a) 31 (some (a + 17))) (a) 32 (some (a + 18))) (a) 33 (some (a + 19))) (a) 40 (some (a + 20)), wI (wI (M.2.2) (a) 21 (-1)) (a) 48 (-1)) _
  refine J_putRF rfl cf12 klX12_79 hF hg57 (Or.inr ⟨_, rfl⟩) dX12_init_186 ?_
  intro hF
  have hF : Fr (M.1 ++ [(13, 72)] ++ [(13, 72)] ++ [(13, 72)] ++ [(13, 96)] ++ [(13, 24)] ++ [(13, 6)] ++ [(13, 12)] ++ [(13, 48)] ++ [(13, 8)] ++ [(13, 4200)] ++ [(13, 4200)] ++ [(13, 4200)] ++ [(13, 8)] ++ [(14, 16385)] ++ [(13, 16385)] ++ [(13, 60)] ++ [(13, 600)] ++ [(13, 10)] ++ [(13, 10)] ++ [(15, 16385)] ++ [(13, 8)], upR (upR (upR (upR (upR (upR (upR (upR (upR (upR (upR (upR (upR (upR (upR (upR (upR (upR (upR (upR (upR (M.2.1) (a) 0 (some (a + 1))) (a) 1 (some (a + 2))) (a) 2 (some (a + 3))) (a) 3 (some (a + 4))) (a) 4 (some (a + 5))) (a) 5 (some (a + 6))) (a) 7 (some (a + 7))) (a) 9 (some (a + 8))) (a) 16 (some (a + 9))) (a) 17 (some (a + 10))) (a) 18 (some (a + 11))) (a) 19 (some (a + 12))) (a) 25 (some (a + 13))) (a) 26 (some (a + 14))) (a) 27 (some (a + 15))) (a) 29 (some (a + 16))) (a) 31 (some (a + 17))) (a) 32 (some (a + 18))) (a) 33 (some (a + 19))) (a) 40 (some (a + 20))) (a) 53 (some (a + 21)), wI (wI (M.2.2) (a) 21 (-1)) (a) 48 (-1)) := hF
  show J _ _ _ _ _ _ _ _ _ _ _ (M.1 ++ [(13, 72)] ++ [(13, 72)] ++ [(13, 72)] ++ [(13, 96)] ++ [(13, 24)] ++ [(13, 6)] ++ [(13, 12)] ++ [(13, 48)] ++ [(13, 8)] ++ [(13, 4200)] ++ [(13, 4200)] ++ [(13, 4200)] ++ [(13, 8)] ++ [(14, 16385)] ++ [(13, 16385)] ++ [(13, 60)] ++ [(13, 600)] ++ [(13, 10)] ++ [(13, 10)] ++ [(15, 16385)] ++ [(13, 8)], upR (upR (upR (upR (upR (upR (upR (upR (upR (upR (upR (upR (upR (upR (upR (upR (upR (upR (upR (upR (upR (M.2.1) (a) 0 (some (a + 1))) (a) 1 (some (a + 2))) (a) 2 (some (a + 3))) (a) 3 (some (a + 4))) (a) 4 (some (a + 5))) (a) 5 (some (a + 6))) (a) 7 (some (a + 7))) (a) 9 (some (a + 8))) (a) 16 (some (a + 9))) (a) 17 (some (a + 10))) (a) 18 (some (a + 11))) (a) 19 (some (a + 12))) (a) 25 (some (a + 13))) (a) 26 (some (a + 14))) (a) 27 (some (a + 15))) (a) 29 (some (a + 16))) (a) 31 (some (a + 17))) (a) 32 (some (a + 18))) (a) 33 (some (a + 19))) (a) 40 (some (a + 20))) (a) 53 (some (a + 21)), wI (wI (M.2.2) (a) 21 (-1)) (a) 48 (-1)) _
  refine J_aload_n dX12_init_189 rfl rfl ?_
  refine J_sipush (v := 1000) dX12_init_190 (by decide) ?_
  refine J_newI (a := a + 22) (N := 1000) (by decide) (by decide) (by decide) hF hl56 (Nat.le_of_ble_eq_true rfl) (Nat.le_of_ble_eq_true rfl) dX12_init_193 ?_
  intro hF
  have hl59 : (M.1 ++ [(13, 72)] ++ [(13, 72)] ++ [(13, 72)] ++ [(13, 96)] ++ [(13, 24)] ++ [(13, 6)] ++ [(13, 12)] ++ [(13, 48)] ++ [(13, 8)] ++ [(13, 4200)] ++ [(13, 4200)] ++ [(13, 4200)] ++ [(13, 8)] ++ [(14, 16385)] ++ [(13, 16385)] ++ [(13, 60)] ++ [(13, 600)] ++ [(13, 10)] ++ [(13, 10)] ++ [(15, 16385)] ++ [(13, 8)] ++ [(13, 1000)]).length = a + 23 := ap_len hl56 rfl
  have hg60 : (M.1 ++ [(13, 72)] ++ [(13, 72)] ++ [(13, 72)] ++ [(13, 96)] ++ [(13, 24)] ++ [(13, 6)] ++ [(13, 12)] ++ [(13, 48)] ++ [(13, 8)] ++ [(13, 4200)] ++ [(13, 4200)] ++ [(13, 4200)] ++ [(13, 8)] ++ [(14, 16385)] ++ [(13, 16385)] ++ [(13, 60)] ++ [(13, 600)] ++ [(13, 10)] ++ [(13, 10)] ++ [(15, 16385)] ++ [(13, 8)] ++ [(13, 1000)])[a]? = some (12, nF 12) := ap_old hg57
  have hg61 : (M.1 ++ [(13, 72)] ++ [(13, 72)] ++ [(13, 72)] ++ [(13, 96)] ++ [(13, 24)] ++ [(13, 6)] ++ [(13, 12)] ++ [(13, 48)] ++ [(13, 8)] ++ [(13, 4200)] ++ [(13, 4200)] ++ [(13, 4200)] ++ [(13, 8)] ++ [(14, 16385)] ++ [(13, 16385)] ++ [(13, 60)] ++ [(13, 600)] ++ [(13, 10)] ++ [(13, 10)] ++ [(15, 16385)] ++ [(13, 8)] ++ [(13, 1000)])[a + 6]? = some (13, 6) := ap_old hg58
  have hF : Fr (M.1 ++ [(13, 72)] ++ [(13, 72)] ++ [(13, 72)] ++ [(13, 96)] ++ [(13, 24)] ++ [(13, 6)] ++ [(13, 12)] ++ [(13, 48)] ++ [(13, 8)] ++ [(13, 4200)] ++ [(13, 4200)] ++ [(13, 4200)] ++ [(13, 8)] ++ [(14, 16385)] ++ [(13, 16385)] ++ [(13, 60)] ++ [(13, 600)] ++ [(13, 10)] ++ [(13, 10)] ++ [(15, 16385)] ++ [(13, 8)] ++ [(13, 1000)], upR (upR (upR (upR (upR (upR (upR (upR (upR (upR (upR (upR (upR (upR (upR (upR (upR (upR (upR (upR (upR (M.2.1) (a) 0 (some (a + 1))) (a) 1 (some (a + 2))) (a) 2 (some (a + 3))) (a) 3 (some (a + 4))) (a) 4 (some (a + 5))) (a) 5 (some (a + 6))) (a) 7 (some (a + 7))) (a) 9 (some (a + 8))) (a) 16 (some (a + 9))) (a) 17 (some (a + 10))) (a) 18 (some (a + 11))) (a) 19 (some (a + 12))) (a) 25 (some (a + 13))) (a) 26 (some (a + 14))) (a) 27 (some (a + 15))) (a) 29 (some (a + 16))) (a) 31 (some (a + 17))) (a) 32 (some (a + 18))) (a) 33 (some (a + 19))) (a) 40 (some (a + 20))) (a) 53 (some (a + 21)), wI (wI (M.2.2) (a) 21 (-1)) (a) 48 (-1)) := hF
  show J _ _ _ _ _ _ _ _ _ _ _ (M.1 ++ [(13, 72)] ++ [(13, 72)] ++ [(13, 72)] ++ [(13, 96)] ++ [(13, 24)] ++ [(13, 6)] ++ [(13, 12)] ++ [(13, 48)] ++ [(13, 8)] ++ [(13, 4200)] ++ [(13, 4200)] ++ [(13, 4200)] ++ [(13, 8)] ++ [(14, 16385)] ++ [(13, 16385)] ++ [(13, 60)] ++ [(13, 600)] ++ [(13, 10)] ++ [(13, 10)] ++ [(15, 16385)] ++ [(13, 8)] ++ [(13, 1000)], upR (upR (upR (upR (upR (upR (upR (upR (upR (upR (upR (upR (upR (upR (upR (upR (upR (upR (upR (upR (upR (M.2.1) (a) 0 (some (a + 1))) (a) 1 (some (a + 2))) (a) 2 (some (a + 3))) (a) 3 (some (a + 4))) (a) 4 (some (a + 5))) (a) 5 (some (a + 6))) (a) 7 (some (a + 7))) (a) 9 (some (a + 8))) (a) 16 (some (a + 9))) (a) 17 (some (a + 10))) (a) 18 (some (a + 11))) (a) 19 (some (a + 12))) (a) 25 (some (a + 13))) (a) 26 (some (a + 14))) (a) 27 (some (a + 15))) (a) 29 (some (a + 16))) (a) 31 (some (a + 17))) (a) 32 (some (a + 18))) (a) 33 (some (a + 19))) (a) 40 (some (a + 20))) (a) 53 (some (a + 21)), wI (wI (M.2.2) (a) 21 (-1)) (a) 48 (-1)) _
  refine J_putRF rfl cf12 klX12_82 hF hg60 (Or.inr ⟨_, rfl⟩) dX12_init_195 ?_
  intro hF
  have hF : Fr (M.1 ++ [(13, 72)] ++ [(13, 72)] ++ [(13, 72)] ++ [(13, 96)] ++ [(13, 24)] ++ [(13, 6)] ++ [(13, 12)] ++ [(13, 48)] ++ [(13, 8)] ++ [(13, 4200)] ++ [(13, 4200)] ++ [(13, 4200)] ++ [(13, 8)] ++ [(14, 16385)] ++ [(13, 16385)] ++ [(13, 60)] ++ [(13, 600)] ++ [(13, 10)] ++ [(13, 10)] ++ [(15, 16385)] ++ [(13, 8)] ++ [(13, 1000)], upR (upR (upR (upR (upR (upR (upR (upR (upR (upR (upR (upR (upR (upR (upR (upR (upR (upR (upR (upR (upR (upR (M.2.1) (a) 0 (some (a + 1))) (a) 1 (some (a + 2))) (a) 2 (some (a + 3))) (a) 3 (some (a + 4))) (a) 4 (some (a + 5))) (a) 5 (some (a + 6))) (a) 7 (some (a + 7))) (a) 9 (some (a + 8))) (a) 16 (some (a + 9))) (a) 17 (some (a + 10))) (a) 18 (some (a + 11))) (a) 19 (some (a + 12))) (a) 25 (some (a + 13))) (a) 26 (some (a + 14))) (a) 27 (some (a + 15))) (a) 29 (some (a + 16))) (a) 31 (some (a + 17))) (a) 32 (some (a + 18))) (a) 33 (some (a + 19))) (a) 40 (some (a + 20))) (a) 53 (some (a + 21))) (a) 55 (some (a + 22)), wI (wI (M.2.2) (a) 21 (-1)) (a) 48 (-1)) := hF
  show J _ _ _ _ _ _ _ _ _ _ _ (M.1 ++ [(13, 72)] ++ [(13, 72)] ++ [(13, 72)] ++ [(13, 96)] ++ [(13, 24)] ++ [(13, 6)] ++ [(13, 12)] ++ [(13, 48)] ++ [(13, 8)] ++ [(13, 4200)] ++ [(13, 4200)] ++ [(13, 4200)] ++ [(13, 8)] ++ [(14, 16385)] ++ [(13, 16385)] ++ [(13, 60)] ++ [(13, 600)] ++ [(13, 10)] ++ [(13, 10)] ++ [(15, 16385)] ++ [(13, 8)] ++ [(13, 1000)], upR (upR (upR (upR (upR (upR (upR (upR (upR (upR (upR (upR (upR (upR (upR (upR (upR (upR (upR (upR (upR (upR (M.2.1) (a) 0 (some (a + 1))) (a) 1 (some (a + 2))) (a) 2 (some (a + 3))) (a) 3 (some (a + 4))) (a) 4 (some (a + 5))) (a) 5 (some (a + 6))) (a) 7 (some (a + 7))) (a) 9 (some (a + 8))) (a) 16 (some (a + 9))) (a) 17 (some (a + 10))) (a) 18 (some (a + 11))) (a) 19 (some (a + 12))) (a) 25 (some (a + 13))) (a) 26 (some (a + 14))) (a) 27 (some (a + 15))) (a) 29 (some (a + 16))) (a) 31 (some (a + 17))) (a) 32 (some (a + 18))) (a) 33 (some (a + 19))) (a) 40 (some (a + 20))) (a) 53 (some (a + 21))) (a) 55 (some (a + 22)), wI (wI (M.2.2) (a) 21 (-1)) (a) 48 (-1)) _
  refine J_aload_n dX12_init_198 rfl rfl ?_
  refine J_bipush (v := 24) dX12_init_199 (by decide) ?_
  refine J_newI (a := a + 23) (N := 24) (by decide) (by decide) (by decide) hF hl59 (Nat.le_of_ble_eq_true rfl) (Nat.le_of_ble_eq_true rfl) dX12_init_201 ?_
  intro hF
  have hl62 : (M.1 ++ [(13, 72)] ++ [(13, 72)] ++ [(13, 72)] ++ [(13, 96)] ++ [(13, 24)] ++ [(13, 6)] ++ [(13, 12)] ++ [(13, 48)] ++ [(13, 8)] ++ [(13, 4200)] ++ [(13, 4200)] ++ [(13, 4200)] ++ [(13, 8)] ++ [(14, 16385)] ++ [(13, 16385)] ++ [(13, 60)] ++ [(13, 600)] ++ [(13, 10)] ++ [(13, 10)] ++ [(15, 16385)] ++ [(13, 8)] ++ [(13, 1000)] ++ [(13, 24)]).length = a + 24 := ap_len hl59 rfl
  have hg63 : (M.1 ++ [(13, 72)] ++ [(13, 72)] ++ [(13, 72)] ++ [(13, 96)] ++ [(13, 24)] ++ [(13, 6)] ++ [(13, 12)] ++ [(13, 48)] ++ [(13, 8)] ++ [(13, 4200)] ++ [(13, 4200)] ++ [(13, 4200)] ++ [(13, 8)] ++ [(14, 16385)] ++ [(13, 16385)] ++ [(13, 60)] ++ [(13, 600)] ++ [(13, 10)] ++ [(13, 10)] ++ [(15, 16385)] ++ [(13, 8)] ++ [(13, 1000)] ++ [(13, 24)])[a]? = some (12, nF 12) := ap_old hg60
  have hg64 : (M.1 ++ [(13, 72)] ++ [(13, 72)] ++ [(13, 72)] ++ [(13, 96)] ++ [(13, 24)] ++ [(13, 6)] ++ [(13, 12)] ++ [(13, 48)] ++ [(13, 8)] ++ [(13, 4200)] ++ [(13, 4200)] ++ [(13, 4200)] ++ [(13, 8)] ++ [(14, 16385)] ++ [(13, 16385)] ++ [(13, 60)] ++ [(13, 600)] ++ [(13, 10)] ++ [(13, 10)] ++ [(15, 16385)] ++ [(13, 8)] ++ [(13, 1000)] ++ [(13, 24)])[a + 6]? = some (13, 6) := ap_old hg61
  have hF : Fr (M.1 ++ [(13, 72)] ++ [(13, 72)] ++ [(13, 72)] ++ [(13, 96)] ++ [(13, 24)] ++ [(13, 6)] ++ [(13, 12)] ++ [(13, 48)] ++ [(13, 8)] ++ [(13, 4200)] ++ [(13, 4200)] ++ [(13, 4200)] ++ [(13, 8)] ++ [(14, 16385)] ++ [(13, 16385)] ++ [(13, 60)] ++ [(13, 600)] ++ [(13, 10)] ++ [(13, 10)] ++ [(15, 16385)] ++ [(13, 8)] ++ [(13, 1000)] ++ [(13, 24)], upR (upR (upR (upR (upR (upR (upR (upR (upR (upR (upR (upR (upR (upR (upR (upR (upR (upR (upR (upR (upR (upR (M.2.1) (a) 0 (some (a + 1))) (a) 1 (some (a + 2))) (a) 2 (some (a + 3))) (a) 3 (some (a + 4))) (a) 4 (some (a + 5))) (a) 5 (some (a + 6))) (a) 7 (some (a + 7))) (a) 9 (some (a + 8))) (a) 16 (some (a + 9))) (a) 17 (some (a + 10))) (a) 18 (some (a + 11))) (a) 19 (some (a + 12))) (a) 25 (some (a + 13))) (a) 26 (some (a + 14))) (a) 27 (some (a + 15))) (a) 29 (some (a + 16))) (a) 31 (some (a + 17))) (a) 32 (some (a + 18))) (a) 33 (some (a + 19))) (a) 40 (some (a + 20))) (a) 53 (some (a + 21))) (a) 55 (some (a + 22)), wI (wI (M.2.2) (a) 21 (-1)) (a) 48 (-1)) := hF
  show J _ _ _ _ _ _ _ _ _ _ _ (M.1 ++ [(13, 72)] ++ [(13, 72)] ++ [(13, 72)] ++ [(13, 96)] ++ [(13, 24)] ++ [(13, 6)] ++ [(13, 12)] ++ [(13, 48)] ++ [(13, 8)] ++ [(13, 4200)] ++ [(13, 4200)] ++ [(13, 4200)] ++ [(13, 8)] ++ [(14, 16385)] ++ [(13, 16385)] ++ [(13, 60)] ++ [(13, 600)] ++ [(13, 10)] ++ [(13, 10)] ++ [(15, 16385)] ++ [(13, 8)] ++ [(13, 1000)] ++ [(13, 24)], upR (upR (upR (upR (upR (upR (upR (upR (upR (upR (upR (upR (upR (upR (upR (upR (upR (upR (upR (upR (upR (upR (M.2.1) (a) 0 (some (a + 1))) (a) 1 (some (a + 2))) (a) 2 (some (a + 3))) (a) 3 (some (a + 4))) (a) 4 (some (a + 5))) (a) 5 (some (a + 6))) (a) 7 (some (a + 7))) (a) 9 (some (a + 8))) (a) 16 (some (a + 9))) (a) 17 (some (a + 10))) (a) 18 (some (a + 11))) (a) 19 (some (a + 12))) (a) 25 (some (a + 13))) (a) 26 (some (a + 14))) (a) 27 (some (a + 15))) (a) 29 (some (a + 16))) (a) 31 (some (a + 17))) (a) 32 (some (a + 18))) (a) 33 (some (a + 19))) (a) 40 (some (a + 20))) (a) 53 (some (a + 21))) (a) 55 (some (a + 22)), wI (wI (M.2.2) (a) 21 (-1)) (a) 48 (-1)) _
  refine J_putRF rfl cf12 klX12_85 hF hg63 (Or.inr ⟨_, rfl⟩) dX12_init_203 ?_
  intro hF
  have hF : Fr (M.1 ++ [(13, 72)] ++ [(13, 72)] ++ [(13, 72)] ++ [(13, 96)] ++ [(13, 24)] ++ [(13, 6)] ++ [(13, 12)] ++ [(13, 48)] ++ [(13, 8)] ++ [(13, 4200)] ++ [(13, 4200)] ++ [(13, 4200)] ++ [(13, 8)] ++ [(14, 16385)] ++ [(13, 16385)] ++ [(13, 60)] ++ [(13, 600)] ++ [(13, 10)] ++ [(13, 10)] ++ [(15, 16385)] ++ [(13, 8)] ++ [(13, 1000)] ++ [(13, 24)], upR (upR (upR (upR (upR (upR (upR (upR (upR (upR (upR (upR (upR (upR (upR (upR (upR (upR (upR (upR (upR (upR (upR (M.2.1) (a) 0 (some (a + 1))) (a) 1 (some (a + 2))) (a) 2 (some (a + 3))) (a) 3 (some (a + 4))) (a) 4 (some (a + 5))) (a) 5 (some (a + 6))) (a) 7 (some (a + 7))) (a) 9 (some (a + 8))) (a) 16 (some (a + 9))) (a) 17 (some (a + 10))) (a) 18 (some (a + 11))) (a) 19 (some (a + 12))) (a) 25 (some (a + 13))) (a) 26 (some (a + 14))) (a) 27 (some (a + 15))) (a) 29 (some (a + 16))) (a) 31 (some (a + 17))) (a) 32 (some (a + 18))) (a) 33 (some (a + 19))) (a) 40 (some (a + 20))) (a) 53 (some (a + 21))) (a) 55 (some (a + 22))) (a) 56 (some (a + 23)), wI (wI (M.2.2) (a) 21 (-1)) (a) 48 (-1)) := hF
  show J _ _ _ _ _ _ _ _ _ _ _ (M.1 ++ [(13, 72)] ++ [(13, 72)] ++ [(13, 72)] ++ [(13, 96)] ++ [(13, 24)] ++ [(13, 6)] ++ [(13, 12)] ++ [(13, 48)] ++ [(13, 8)] ++ [(13, 4200)] ++ [(13, 4200)] ++ [(13, 4200)] ++ [(13, 8)] ++ [(14, 16385)] ++ [(13, 16385)] ++ [(13, 60)] ++ [(13, 600)] ++ [(13, 10)] ++ [(13, 10)] ++ [(15, 16385)] ++ [(13, 8)] ++ [(13, 1000)] ++ [(13, 24)], upR (upR (upR (upR (upR (upR (upR (upR (upR (upR (upR (upR (upR (upR (upR (upR (upR (upR (upR (upR (upR (upR (upR (M.2.1) (a) 0 (some (a + 1))) (a) 1 (some (a + 2))) (a) 2 (some (a + 3))) (a) 3 (some (a + 4))) (a) 4 (some (a + 5))) (a) 5 (some (a + 6))) (a) 7 (some (a + 7))) (a) 9 (some (a + 8))) (a) 16 (some (a + 9))) (a) 17 (some (a + 10))) (a) 18 (some (a + 11))) (a) 19 (some (a + 12))) (a) 25 (some (a + 13))) (a) 26 (some (a + 14))) (a) 27 (some (a + 15))) (a) 29 (some (a + 16))) (a) 31 (some (a + 17))) (a) 32 (some (a + 18))) (a) 33 (some (a + 19))) (a) 40 (some (a + 20))) (a) 53 (some (a + 21))) (a) 55 (some (a + 22))) (a) 56 (some (a + 23)), wI (wI (M.2.2) (a) 21 (-1)) (a) 48 (-1)) _
  refine J_aload_n dX12_init_206 rfl rfl ?_
  refine J_bipush (v := 6) dX12_init_207 (by decide) ?_
  refine J_newI (a := a + 24) (N := 6) (by decide) (by decide) (by decide) hF hl62 (Nat.le_of_ble_eq_true rfl) (Nat.le_of_ble_eq_true rfl) dX12_init_209 ?_
  intro hF
  have hl65 : (M.1 ++ [(13, 72)] ++ [(13, 72)] ++ [(13, 72)] ++ [(13, 96)] ++ [(13, 24)] ++ [(13, 6)] ++ [(13, 12)] ++ [(13, 48)] ++ [(13, 8)] ++ [(13, 4200)] ++ [(13, 4200)] ++ [(13, 4200)] ++ [(13, 8)] ++ [(14, 16385)] ++ [(13, 16385)] ++ [(13, 60)] ++ [(13, 600)] ++ [(13, 10)] ++ [(13, 10)] ++ [(15, 16385)] ++ [(13, 8)] ++ [(13, 1000)] ++ [(13, 24)] ++ [(13, 6)]).length = a + 25 := ap_len hl62 rfl
  have hg66 : (M.1 ++ [(13, 72)] ++ [(13, 72)] ++ [(13, 72)] ++ [(13, 96)] ++ [(13, 24)] ++ [(13, 6)] ++ [(13, 12)] ++ [(13, 48)] ++ [(13, 8)] ++ [(13, 4200)] ++ [(13, 4200)] ++ [(13, 4200)] ++ [(13, 8)] ++ [(14, 16385)] ++ [(13, 16385)] ++ [(13, 60)] ++ [(13, 600)] ++ [(13, 10)] ++ [(13, 10)] ++ [(15, 16385)] ++ [(13, 8)] ++ [(13, 1000)] ++ [(13, 24)] ++ [(13, 6)])[a]? = some (12, nF 12) := ap_old hg63
  have hg67 : (M.1 ++ [(13, 72)] ++ [(13, 72)] ++ [(13, 72)] ++ [(13, 96)] ++ [(13, 24)] ++ [(13, 6)] ++ [(13, 12)] ++ [(13, 48)] ++ [(13, 8)] ++ [(13, 4200)] ++ [(13, 4200)] ++ [(13, 4200)] ++ [(13, 8)] ++ [(14, 16385)] ++ [(13, 16385)] ++ [(13, 60)] ++ [(13, 600)] ++ [(13, 10)] ++ [(13, 10)] ++ [(15, 16385)] ++ [(13, 8)] ++ [(13, 1000)] ++ [(13, 24)] ++ [(13, 6)])[a + 6]? = some (13, 6) := ap_old hg64
  have hg68 : (M.1 ++ [(13, 72)] ++ [(13, 72)] ++ [(13, 72)] ++ [(13, 96)] ++ [(13, 24)] ++ [(13, 6)] ++ [(13, 12)] ++ [(13, 48)] ++ [(13, 8)] ++ [(13, 4200)] ++ [(13, 4200)] ++ [(13, 4200)] ++ [(13, 8)] ++ [(14, 16385)] ++ [(13, 16385)] ++ [(13, 60)] ++ [(13, 600)] ++ [(13, 10)] ++ [(13, 10)] ++ [(15, 16385)] ++ [(13, 8)] ++ [(13, 1000)] ++ [(13, 24)] ++ [(13, 6)])[a + 24]? = some (13, 6) := ap_new hl62
  have hF : Fr (M.1 ++ [(13, 72)] ++ [(13, 72)] ++ [(13, 72)] ++ [(13, 96)] ++ [(13, 24)] ++ [(13, 6)] ++ [(13, 12)] ++ [(13, 48)] ++ [(13, 8)] ++ [(13, 4200)] ++ [(13, 4200)] ++ [(13, 4200)] ++ [(13, 8)] ++ [(14, 16385)] ++ [(13, 16385)] ++ [(13, 60)] ++ [(13, 600)] ++ [(13, 10)] ++ [(13, 10)] ++ [(15, 16385)] ++ [(13, 8)] ++ [(13, 1000)] ++ [(13, 24)] ++ [(13, 6)], upR (upR (upR (upR (upR (upR (upR (upR (upR (upR (upR (upR (upR (upR (upR (upR (upR (upR (upR (upR (upR (upR (upR (M.2.1) (a) 0 (some (a + 1))) (a) 1 (some (a + 2))) (a) 2 (some (a + 3))) (a) 3 (some (a + 4))) (a) 4 (some (a + 5))) (a) 5 (some (a + 6))) (a) 7 (some (a + 7))) (a) 9 (some (a + 8))) (a) 16 (some (a + 9))) (a) 17 (some (a + 10))) (a) 18 (some (a + 11))) (a) 19 (some (a + 12))) (a) 25 (some (a + 13))) (a) 26 (some (a + 14))) (a) 27 (some (a + 15))) (a) 29 (some (a + 16))) (a) 31 (some (a + 17))) (a) 32 (some (a + 18))) (a) 33 (some (a + 19))) (a) 40 (some (a + 20))) (a) 53 (some (a + 21))) (a) 55 (some (a + 22))) (a) 56 (some (a + 23)), wI (wI (M.2.2) (a) 21 (-1)) (a) 48 (-1)) := hF
  show J _ _ _ _ _ _ _ _ _ _ _ (M.1 ++ [(13, 72)] ++ [(13, 72)] ++ [(13, 72)] ++ [(13, 96)] ++ [(13, 24)] ++ [(13, 6)] ++ [(13, 12)] ++ [(13, 48)] ++ [(13, 8)] ++ [(13, 4200)] ++ [(13, 4200)] ++ [(13, 4200)] ++ [(13, 8)] ++ [(14, 16385)] ++ [(13, 16385)] ++ [(13, 60)] ++ [(13, 600)] ++ [(13, 10)] ++ [(13, 10)] ++ [(15, 16385)] ++ [(13, 8)] ++ [(13, 1000)] ++ [(13, 24)] ++ [(13, 6)], upR (upR (upR (upR (upR (upR (upR (upR (upR (upR (upR (upR (upR (upR (upR (upR (upR (upR (upR (upR (upR (upR (upR (M.2.1) (a) 0 (some (a + 1))) (a) 1 (some (a + 2))) (a) 2 (some (a + 3))) (a) 3 (some (a + 4))) (a) 4 (some (a + 5))) (a) 5 (some (a + 6))) (a) 7 (some (a + 7))) (a) 9 (some (a + 8))) (a) 16 (some (a + 9))) (a) 17 (some (a + 10))) (a) 18 (some (a + 11))) (a) 19 (some (a + 12))) (a) 25 (some (a + 13))) (a) 26 (some (a + 14))) (a) 27 (some (a + 15))) (a) 29 (some (a + 16))) (a) 31 (some (a + 17))) (a) 32 (some (a + 18))) (a) 33 (some (a + 19))) (a) 40 (some (a + 20))) (a) 53 (some (a + 21))) (a) 55 (some (a + 22))) (a) 56 (some (a + 23)), wI (wI (M.2.2) (a) 21 (-1)) (a) 48 (-1)) _
  refine J_putRF rfl cf12 klX12_88 hF hg66 (Or.inr ⟨_, rfl⟩) dX12_init_211 ?_
  intro hF
  have hF : Fr (M.1 ++ [(13, 72)] ++ [(13, 72)] ++ [(13, 72)] ++ [(13, 96)] ++ [(13, 24)] ++ [(13, 6)] ++ [(13, 12)] ++ [(13, 48)] ++ [(13, 8)] ++ [(13, 4200)] ++ [(13, 4200)] ++ [(13, 4200)] ++ [(13, 8)] ++ [(14, 16385)] ++ [(13, 16385)] ++ [(13, 60)] ++ [(13, 600)] ++ [(13, 10)] ++ [(13, 10)] ++ [(15, 16385)] ++ [(13, 8)] ++ [(13, 1000)] ++ [(13, 24)] ++ [(13, 6)], upR (upR (upR (upR (upR (upR (upR (upR (upR (upR (upR (upR (upR (upR (upR (upR (upR (upR (upR (upR (upR (upR (upR (upR (M.2.1) (a) 0 (some (a + 1))) (a) 1 (some (a + 2))) (a) 2 (some (a + 3))) (a) 3 (some (a + 4))) (a) 4 (some (a + 5))) (a) 5 (some (a + 6))) (a) 7 (some (a + 7))) (a) 9 (some (a + 8))) (a) 16 (some (a + 9))) (a) 17 (some (a + 10))) (a) 18 (some (a + 11))) (a) 19 (some (a + 12))) (a) 25 (some (a + 13))) (a) 26 (some (a + 14))) (a) 27 (some (a + 15))) (a) 29 (some (a + 16))) (a) 31 (some (a + 17))) (a) 32 (some (a + 18))) (a) 33 (some (a + 19))) (a) 40 (some (a + 20))) (a) 53 (some (a + 21))) (a) 55 (some (a + 22))) (a) 56 (some (a + 23))) (a) 61 (some (a + 24)), wI (wI (M.2.2) (a) 21 (-1)) (a) 48 (-1)) := hF
  show J _ _ _ _ _ _ _ _ _ _ _ (M.1 ++ [(13, 72)] ++ [(13, 72)] ++ [(13, 72)] ++ [(13, 96)] ++ [(13, 24)] ++ [(13, 6)] ++ [(13, 12)] ++ [(13, 48)] ++ [(13, 8)] ++ [(13, 4200)] ++ [(13, 4200)] ++ [(13, 4200)] ++ [(13, 8)] ++ [(14, 16385)] ++ [(13, 16385)] ++ [(13, 60)] ++ [(13, 600)] ++ [(13, 10)] ++ [(13, 10)] ++ [(15, 16385)] ++ [(13, 8)] ++ [(13, 1000)] ++ [(13, 24)] ++ [(13, 6)], upR (upR (upR (upR (upR (upR (upR (upR (upR (upR (upR (upR (upR (upR (upR (upR (upR (upR (upR (upR (upR (upR (upR (upR (M.2.1) (a) 0 (some (a + 1))) (a) 1 (some (a + 2))) (a) 2 (some (a + 3))) (a) 3 (some (a + 4))) (a) 4 (some (a + 5))) (a) 5 (some (a + 6))) (a) 7 (some (a + 7))) (a) 9 (some (a + 8))) (a) 16 (some (a + 9))) (a) 17 (some (a + 10))) (a) 18 (some (a + 11))) (a) 19 (some (a + 12))) (a) 25 (some (a + 13))) (a) 26 (some (a + 14))) (a) 27 (some (a + 15))) (a) 29 (some (a + 16))) (a) 31 (some (a + 17))) (a) 32 (some (a + 18))) (a) 33 (some (a + 19))) (a) 40 (some (a + 20))) (a) 53 (some (a + 21))) (a) 55 (some (a + 22))) (a) 56 (some (a + 23))) (a) 61 (some (a + 24)), wI (wI (M.2.2) (a) 21 (-1)) (a) 48 (-1)) _
  refine J_aload_n dX12_init_214 rfl rfl ?_
  refine J_bipush (v := 6) dX12_init_215 (by decide) ?_
  refine J_newI (a := a + 25) (N := 6) (by decide) (by decide) (by decide) hF hl65 (Nat.le_of_ble_eq_true rfl) (Nat.le_of_ble_eq_true rfl) dX12_init_217 ?_
  intro hF
  have hl69 : (M.1 ++ [(13, 72)] ++ [(13, 72)] ++ [(13, 72)] ++ [(13, 96)] ++ [(13, 24)] ++ [(13, 6)] ++ [(13, 12)] ++ [(13, 48)] ++ [(13, 8)] ++ [(13, 4200)] ++ [(13, 4200)] ++ [(13, 4200)] ++ [(13, 8)] ++ [(14, 16385)] ++ [(13, 16385)] ++ [(13, 60)] ++ [(13, 600)] ++ [(13, 10)] ++ [(13, 10)] ++ [(15, 16385)] ++ [(13, 8)] ++ [(13, 1000)] ++ [(13, 24)] ++ [(13, 6)] ++ [(13, 6)]).length = a + 26 := ap_len hl65 rfl
  have hg70 : (M.1 ++ [(13, 72)] ++ [(13, 72)] ++ [(13, 72)] ++ [(13, 96)] ++ [(13, 24)] ++ [(13, 6)] ++ [(13, 12)] ++ [(13, 48)] ++ [(13, 8)] ++ [(13, 4200)] ++ [(13, 4200)] ++ [(13, 4200)] ++ [(13, 8)] ++ [(14, 16385)] ++ [(13, 16385)] ++ [(13, 60)] ++ [(13, 600)] ++ [(13, 10)] ++ [(13, 10)] ++ [(15, 16385)] ++ [(13, 8)] ++ [(13, 1000)] ++ [(13, 24)] ++ [(13, 6)] ++ [(13, 6)])[a]? = some (12, nF 12) := ap_old hg66
  have hg71 : (M.1 ++ [(13, 72)] ++ [(13, 72)] ++ [(13, 72)] ++ [(13, 96)] ++ [(13, 24)] ++ [(13, 6)] ++ [(13, 12)] ++ [(13, 48)] ++ [(13, 8)] ++ [(13, 4200)] ++ [(13, 4200)] ++ [(13, 4200)] ++ [(13, 8)] ++ [(14, 16385)] ++ [(13, 16385)] ++ [(13, 60)] ++ [(13, 600)] ++ [(13, 10)] ++ [(13, 10)] ++ [(15, 16385)] ++ [(13, 8)] ++ [(13, 1000)] ++ [(13, 24)] ++ [(13, 6)] ++ [(13, 6)])[a + 6]? = some (13, 6) := ap_old hg67
  have hg72 : (M.1 ++ [(13, 72)] ++ [(13, 72)] ++ [(13, 72)] ++ [(13, 96)] ++ [(13, 24)] ++ [(13, 6)] ++ [(13, 12)] ++ [(13, 48)] ++ [(13, 8)] ++ [(13, 4200)] ++ [(13, 4200)] ++ [(13, 4200)] ++ [(13, 8)] ++ [(14, 16385)] ++ [(13, 16385)] ++ [(13, 60)] ++ [(13, 600)] ++ [(13, 10)] ++ [(13, 10)] ++ [(15, 16385)] ++ [(13, 8)] ++ [(13, 1000)] ++ [(13, 24)] ++ [(13, 6)] ++ [(13, 6)])[a + 24]? = some (13, 6) := ap_old hg68
  have hg73 : (M.1 ++ [(13, 72)] ++ [(13, 72)] ++ [(13, 72)] ++ [(13, 96)] ++ [(13, 24)] ++ [(13, 6)] ++ [(13, 12)] ++ [(13, 48)] ++ [(13, 8)] ++ [(13, 4200)] ++ [(13, 4200)] ++ [(13, 4200)] ++ [(13, 8)] ++ [(14, 16385)] ++ [(13, 16385)] ++ [(13, 60)] ++ [(13, 600)] ++ [(13, 10)] ++ [(13, 10)] ++ [(15, 16385)] ++ [(13, 8)] ++ [(13, 1000)] ++ [(13, 24)] ++ [(13, 6)] ++ [(13, 6)])[a + 25]? = some (13, 6) := ap_new hl65
  have hF : Fr (M.1 ++ [(13, 72)] ++ [(13, 72)] ++ [(13, 72)] ++ [(13, 96)] ++ [(13, 24)] ++ [(13, 6)] ++ [(13, 12)] ++ [(13, 48)] ++ [(13, 8)] ++ [(13, 4200)] ++ [(13, 4200)] ++ [(13, 4200)] ++ [(13, 8)] ++ [(14, 16385)] ++ [(13, 16385)] ++ [(13, 60)] ++ [(13, 600)] ++ [(13, 10)] ++ [(13, 10)] ++ [(15, 16385)] ++ [(13, 8)] ++ [(13, 1000)] ++ [(13, 24)] ++ [(13, 6)] ++ [(13, 6)], upR (upR (upR (upR (upR (upR (upR (upR (upR (upR (upR (upR (upR (upR (upR (upR (upR (upR (upR (upR (upR (upR (upR (upR (M.2.1) (a) 0 (some (a + 1))) (a) 1 (some (a + 2))) (a) 2 (some (a + 3))) (a) 3 (some (a + 4))) (a) 4 (some (a + 5))) (a) 5 (some (a + 6))) (a) 7 (some (a + 7))) (a) 9 (some (a + 8))) (a) 16 (some (a + 9))) (a) 17 (some (a + 10))) (a) 18 (some (a + 11))) (a) 19 (some (a + 12))) (a) 25 (some (a + 13))) (a) 26 (some (a + 14))) (a) 27 (some (a + 15))) (a) 29 (some (a + 16))) (a) 31 (some (a + 17))) (a) 32 (some (a + 18))) (a) 33 (some (a + 19))) (a) 40 (some (a + 20))) (a) 53 (some (a + 21))) (a) 55 (some (a + 22))) (a) 56 (some (a + 23))) (a) 61 (some (a + 24)), wI (wI (M.2.2) (a) 21 (-1)) (a) 48 (-1)) := hF
  show J _ _ _ _ _ _ _ _ _ _ _ (M.1 ++ [(13, 72)] ++ [(13, 72)] ++ [(13, 72)] ++ [(13, 96)] ++ [(13, 24)] ++ [(13, 6)] ++ [(13, 12)] ++ [(13, 48)] ++ [(13, 8)] ++ [(13, 4200)] ++ [(13, 4200)] ++ [(13, 4200)] ++ [(13, 8)] ++ [(14, 16385)] ++ [(13, 16385)] ++ [(13, 60)] ++ [(13, 600)] ++ [(13, 10)] ++ [(13, 10)] ++ [(15, 16385)] ++ [(13, 8)] ++ [(13, 1000)] ++ [(13, 24)] ++ [(13, 6)] ++ [(13, 6)], upR (upR (upR (upR (upR (upR (upR (upR (upR (upR (upR (upR (upR (upR (upR (upR (upR (upR (upR (upR (upR (upR (upR (upR (M.2.1) (a) 0 (some (a + 1))) (a) 1 (some (a + 2))) (a) 2 (some (a + 3))) (a) 3 (some (a + 4))) (a) 4 (some (a + 5))) (a) 5 (some (a + 6))) (a) 7 (some (a + 7))) (a) 9 (some (a + 8))) (a) 16 (some (a + 9))) (a) 17 (some (a + 10))) (a) 18 (some (a + 11))) (a) 19 (some (a + 12))) (a) 25 (some (a + 13))) (a) 26 (some (a + 14))) (a) 27 (some (a + 15))) (a) 29 (some (a + 16))) (a) 31 (some (a + 17))) (a) 32 (some (a + 18))) (a) 33 (some (a + 19))) (a) 40 (some (a + 20))) (a) 53 (some (a + 21))) (a) 55 (some (a + 22))) (a) 56 (some (a + 23))) (a) 61 (some (a + 24)), wI (wI (M.2.2) (a) 21 (-1)) (a) 48 (-1)) _
  refine J_putRF rfl cf12 klX12_91 hF hg70 (Or.inr ⟨_, rfl⟩) dX12_init_219 ?_
  intro hF
  have hF : Fr (M.1 ++ [(13, 72)] ++ [(13, 72)] ++ [(13, 72)] ++ [(13, 96)] ++ [(13, 24)] ++ [(13, 6)] ++ [(13, 12)] ++ [(13, 48)] ++ [(13, 8)] ++ [(13, 4200)] ++ [(13, 4200)] ++ [(13, 4200)] ++ [(13, 8)] ++ [(14, 16385)] ++ [(13, 16385)] ++ [(13, 60)] ++ [(13, 600)] ++ [(13, 10)] ++ [(13, 10)] ++ [(15, 16385)] ++ [(13, 8)] ++ [(13, 1000)] ++ [(13, 24)] ++ [(13, 6)] ++ [(13, 6)], upR (upR (upR (upR (upR (upR (upR (upR (upR (upR (upR (upR (upR (upR (upR (upR (upR (upR (upR (upR (upR (upR (upR (upR (upR (M.2.1) (a) 0 (some (a + 1))) (a) 1 (some (a + 2))) (a) 2 (some (a + 3))) (a) 3 (some (a + 4))) (a) 4 (some (a + 5))) (a) 5 (some (a + 6))) (a) 7 (some (a + 7))) (a) 9 (some (a + 8))) (a) 16 (some (a + 9))) (a) 17 (some (a + 10))) (a) 18 (some (a + 11))) (a) 19 (some (a + 12))) (a) 25 (some (a + 13))) (a) 26 (some (a + 14))) (a) 27 (some (a + 15))) (a) 29 (some (a + 16))) (a) 31 (some (a + 17))) (a) 32 (some (a + 18))) (a) 33 (some (a + 19))) (a) 40 (some (a + 20))) (a) 53 (some (a + 21))) (a) 55 (some (a + 22))) (a) 56 (some (a + 23))) (a) 61 (some (a + 24))) (a) 62 (some (a + 25)), wI (wI (M.2.2) (a) 21 (-1)) (a) 48 (-1)) := hF
  show J _ _ _ _ _ _ _ _ _ _ _ (M.1 ++ [(13, 72)] ++ [(13, 72)] ++ [(13, 72)] ++ [(13, 96)] ++ [(13, 24)] ++ [(13, 6)] ++ [(13, 12)] ++ [(13, 48)] ++ [(13, 8)] ++ [(13, 4200)] ++ [(13, 4200)] ++ [(13, 4200)] ++ [(13, 8)] ++ [(14, 16385)] ++ [(13, 16385)] ++ [(13, 60)] ++ [(13, 600)] ++ [(13, 10)] ++ [(13, 10)] ++ [(15, 16385)] ++ [(13, 8)] ++ [(13, 1000)] ++ [(13, 24)] ++ [(13, 6)] ++ [(13, 6)], upR (upR (upR (upR (upR (upR (upR (upR (upR (upR (upR (upR (upR (upR (upR (upR (upR (upR (upR (upR (upR (upR (upR (upR (upR (M.2.1) (a) 0 (some (a + 1))) (a) 1 (some (a + 2))) (a) 2 (some (a + 3))) (a) 3 (some (a + 4))) (a) 4 (some (a + 5))) (a) 5 (some (a + 6))) (a) 7 (some (a + 7))) (a) 9 (some (a + 8))) (a) 16 (some (a + 9))) (a) 17 (some (a + 10))) (a) 18 (some (a + 11))) (a) 19 (some (a + 12))) (a) 25 (some (a + 13))) (a) 26 (some (a + 14))) (a) 27 (some (a + 15))) (a) 29 (some (a + 16))) (a) 31 (some (a + 17))) (a) 32 (some (a + 18))) (a) 33 (some (a + 19))) (a) 40 (some (a + 20))) (a) 53 (some (a + 21))) (a) 55 (some (a + 22))) (a) 56 (some (a + 23))) (a) 61 (some (a + 24))) (a) 62 (some (a + 25)), wI (wI (M.2.2) (a) 21 (-1)) (a) 48 (-1)) _
  refine J_aload_n dX12_init_222 rfl rfl ?_
  refine J_sipush (v := 360) dX12_init_223 (by decide) ?_
  refine J_newL (a := a + 26) (N := 360) (by decide) (by decide) (by decide) hF hl69 (Nat.le_of_ble_eq_true rfl) (Nat.le_of_ble_eq_true rfl) dX12_init_226 ?_
  intro hF
  have hl74 : (M.1 ++ [(13, 72)] ++ [(13, 72)] ++ [(13, 72)] ++ [(13, 96)] ++ [(13, 24)] ++ [(13, 6)] ++ [(13, 12)] ++ [(13, 48)] ++ [(13, 8)] ++ [(13, 4200)] ++ [(13, 4200)] ++ [(13, 4200)] ++ [(13, 8)] ++ [(14, 16385)] ++ [(13, 16385)] ++ [(13, 60)] ++ [(13, 600)] ++ [(13, 10)] ++ [(13, 10)] ++ [(15, 16385)] ++ [(13, 8)] ++ [(13, 1000)] ++ [(13, 24)] ++ [(13, 6)] ++ [(13, 6)] ++ [(14, 360)]).length = a + 27 := ap_len hl69 rfl
  have hg75 : (M.1 ++ [(13, 72)] ++ [(13, 72)] ++ [(13, 72)] ++ [(13, 96)] ++ [(13, 24)] ++ [(13, 6)] ++ [(13, 12)] ++ [(13, 48)] ++ [(13, 8)] ++ [(13, 4200)] ++ [(13, 4200)] ++ [(13, 4200)] ++ [(13, 8)] ++ [(14, 16385)] ++ [(13, 16385)] ++ [(13, 60)] ++ [(13, 600)] ++ [(13, 10)] ++ [(13, 10)] ++ [(15, 16385)] ++ [(13, 8)] ++ [(13, 1000)] ++ [(13, 24)] ++ [(13, 6)] ++ [(13, 6)] ++ [(14, 360)])[a]? = some (12, nF 12) := ap_old hg70
  have hg76 : (M.1 ++ [(13, 72)] ++ [(13, 72)] ++ [(13, 72)] ++ [(13, 96)] ++ [(13, 24)] ++ [(13, 6)] ++ [(13, 12)] ++ [(13, 48)] ++ [(13, 8)] ++ [(13, 4200)] ++ [(13, 4200)] ++ [(13, 4200)] ++ [(13, 8)] ++ [(14, 16385)] ++ [(13, 16385)] ++ [(13, 60)] ++ [(13, 600)] ++ [(13, 10)] ++ [(13, 10)] ++ [(15, 16385)] ++ [(13, 8)] ++ [(13, 1000)] ++ [(13, 24)] ++ [(13, 6)] ++ [(13, 6)] ++ [(14, 360)])[a + 6]? = some (13, 6) := ap_old hg71
  have hg77 : (M.1 ++ [(13, 72)] ++ [(13, 72)] ++ [(13, 72)] ++ [(13, 96)] ++ [(13, 24)] ++ [(13, 6)] ++ [(13, 12)] ++ [(13, 48)] ++ [(13, 8)] ++ [(13, 4200)] ++ [(13, 4200)] ++ [(13, 4200)] ++ [(13, 8)] ++ [(14, 16385)] ++ [(13, 16385)] ++ [(13, 60)] ++ [(13, 600)] ++ [(13, 10)] ++ [(13, 10)] ++ [(15, 16385)] ++ [(13, 8)] ++ [(13, 1000)] ++ [(13, 24)] ++ [(13, 6)] ++ [(13, 6)] ++ [(14, 360)])[a + 24]? = some (13, 6) := ap_old hg72
  have hg78 : (M.1 ++ [(13, 72)] ++ [(13, 72)] ++ [(13, 72)] ++ [(13, 96)] ++ [(13, 24)] ++ [(13, 6)] ++ [(13, 12)] ++ [(13, 48)] ++ [(13, 8)] ++ [(13, 4200)] ++ [(13, 4200)] ++ [(13, 4200)] ++ [(13, 8)] ++ [(14, 16385)] ++ [(13, 16385)] ++ [(13, 60)] ++ [(13, 600)] ++ [(13, 10)] ++ [(13, 10)] ++ [(15, 16385)] ++ [(13, 8)] ++ [(13, 1000)] ++ [(13, 24)] ++ [(13, 6)] ++ [(13, 6)] ++ [(14, 360)])[a + 25]? = some (13, 6) := ap_old hg73
  have hF : Fr (M.1 ++ [(13, 72)] ++ [(13, 72)] ++ [(13, 72)] ++ [(13, 96)] ++ [(13, 24)] ++ [(13, 6)] ++ [(13, 12)] ++ [(13, 48)] ++ [(13, 8)] ++ [(13, 4200)] ++ [(13, 4200)] ++ [(13, 4200)] ++ [(13, 8)] ++ [(14, 16385)] ++ [(13, 16385)] ++ [(13, 60)] ++ [(13, 600)] ++ [(13, 10)] ++ [(13, 10)] ++ [(15, 16385)] ++ [(13, 8)] ++ [(13, 1000)] ++ [(13, 24)] ++ [(13, 6)] ++ [(13, 6)] ++ [(14, 360)], upR (upR (upR (upR (upR (upR (upR (upR (upR (upR (upR (upR (upR (upR (upR (upR (upR (upR (upR (upR (upR (upR (upR (upR (upR (M.2.1) (a) 0 (some (a + 1))) (a) 1 (some (a + 2))) (a) 2 (some (a + 3))) (a) 3 (some (a + 4))) (a) 4 (some (a + 5))) (a) 5 (some (a + 6))) (a) 7 (some (a + 7))) (a) 9 (some (a + 8))) (a) 16 (some (a + 9))) (a) 17 (some (a + 10))) (a) 18 (some (a + 11))) (a) 19 (some (a + 12))) (a) 25 (some (a + 13))) (a) 26 (some (a + 14))) (a) 27 (some (a + 15))) (a) 29 (some (a + 16))) (a) 31 (some (a + 17))) (a) 32 (some (a + 18))) (a) 33 (some (a + 19))) (a) 40 (some (a + 20))) (a) 53 (some (a + 21))) (a) 55 (some (a + 22))) (a) 56 (some (a + 23))) (a) 61 (some (a + 24))) (a) 62 (some (a + 25)), wI (wI (M.2.2) (a) 21 (-1)) (a) 48 (-1)) := hF
  show J _ _ _ _ _ _ _ _ _ _ _ (M.1 ++ [(13, 72)] ++ [(13, 72)] ++ [(13, 72)] ++ [(13, 96)] ++ [(13, 24)] ++ [(13, 6)] ++ [(13, 12)] ++ [(13, 48)] ++ [(13, 8)] ++ [(13, 4200)] ++ [(13, 4200)] ++ [(13, 4200)] ++ [(13, 8)] ++ [(14, 16385)] ++ [(13, 16385)] ++ [(13, 60)] ++ [(13, 600)] ++ [(13, 10)] ++ [(13, 10)] ++ [(15, 16385)] ++ [(13, 8)] ++ [(13, 1000)] ++ [(13, 24)] ++ [(13, 6)] ++ [(13, 6)] ++ [(14, 360)], upR (upR (upR (upR (upR (upR (upR (upR (upR (upR (upR (upR (upR (upR (upR (upR (upR (upR (upR (upR (upR (upR (upR (upR (upR (M.2.1) (a) 0 (some (a + 1))) (a) 1 (some (a + 2))) (a) 2 (some (a + 3))) (a) 3 (some (a + 4))) (a) 4 (some (a + 5))) (a) 5 (some (a + 6))) (a) 7 (some (a + 7))) (a) 9 (some (a + 8))) (a) 16 (some (a + 9))) (a) 17 (some (a + 10))) (a) 18 (some (a + 11))) (a) 19 (some (a + 12))) (a) 25 (some (a + 13))) (a) 26 (some (a + 14))) (a) 27 (some (a + 15))) (a) 29 (some (a + 16))) (a) 31 (some (a + 17))) (a) 32 (some (a + 18))) (a) 33 (some (a + 19))) (a) 40 (some (a + 20))) (a) 53 (some (a + 21))) (a) 55 (some (a + 22))) (a) 56 (some (a + 23))) (a) 61 (some (a + 24))) (a) 62 (some (a + 25)), wI (wI (M.2.2) (a) 21 (-1)) (a) 48 (-1)) _
  refine J_putRF rfl cf12 klX12_94 hF hg75 (Or.inr ⟨_, rfl⟩) dX12_init_228 ?_
  intro hF
  have hF : Fr (M.1 ++ [(13, 72)] ++ [(13, 72)] ++ [(13, 72)] ++ [(13, 96)] ++ [(13, 24)] ++ [(13, 6)] ++ [(13, 12)] ++ [(13, 48)] ++ [(13, 8)] ++ [(13, 4200)] ++ [(13, 4200)] ++ [(13, 4200)] ++ [(13, 8)] ++ [(14, 16385)] ++ [(13, 16385)] ++ [(13, 60)] ++ [(13, 600)] ++ [(13, 10)] ++ [(13, 10)] ++ [(15, 16385)] ++ [(13, 8)] ++ [(13, 1000)] ++ [(13, 24)] ++ [(13, 6)] ++ [(13, 6)] ++ [(14, 360)], upR (upR (upR (upR (upR (upR (upR (upR (upR (upR (upR (upR (upR (upR (upR (upR (upR (upR (upR (upR (upR (upR (upR (upR (upR (upR (M.2.1) (a) 0 (some (a + 1))) (a) 1 (some (a + 2))) (a) 2 (some (a + 3))) (a) 3 (some (a + 4))) (a) 4 (some (a + 5))) (a) 5 (some (a + 6))) (a) 7 (some (a + 7))) (a) 9 (some (a + 8))) (a) 16 (some (a + 9))) (a) 17 (some (a + 10))) (a) 18 (some (a + 11))) (a) 19 (some (a + 12))) (a) 25 (some (a + 13))) (a) 26 (some (a + 14))) (a) 27 (some (a + 15))) (a) 29 (some (a + 16))) (a) 31 (some (a + 17))) (a) 32 (some (a + 18))) (a) 33 (some (a + 19))) (a) 40 (some (a + 20))) (a) 53 (some (a + 21))) (a) 55 (some (a + 22))) (a) 56 (some (a + 23))) (a) 61 (some (a + 24))) (a) 62 (some (a + 25))) (a) 63 (some (a + 26)), wI (wI (M.2.2) (a) 21 (-1)) (a) 48 (-1)) := hF
  show J _ _ _ _ _ _ _ _ _ _ _ (M.1 ++ [(13, 72)] ++ [(13, 72)] ++ [(13, 72)] ++ [(13, 96)] ++ [(13, 24)] ++ [(13, 6)] ++ [(13, 12)] ++ [(13, 48)] ++ [(13, 8)] ++ [(13, 4200)] ++ [(13, 4200)] ++ [(13, 4200)] ++ [(13, 8)] ++ [(14, 16385)] ++ [(13, 16385)] ++ [(13, 60)] ++ [(13, 600)] ++ [(13, 10)] ++ [(13, 10)] ++ [(15, 16385)] ++ [(13, 8)] ++ [(13, 1000)] ++ [(13, 24)] ++ [(13, 6)] ++ [(13, 6)] ++ [(14, 360)], upR (upR (upR (upR (upR (upR (upR (upR (upR (upR (upR (upR (upR (upR (upR (upR (upR (upR (upR (upR (upR (upR (upR (upR (upR (upR (M.2.1) (a) 0 (some (a + 1))) (a) 1 (some (a + 2))) (a) 2 (some (a + 3))) (a) 3 (some (a + 4))) (a) 4 (some (a + 5))) (a) 5 (some (a + 6))) (a) 7 (some (a + 7))) (a) 9 (some (a + 8))) (a) 16 (some (a + 9))) (a) 17 (some (a + 10))) (a) 18 (some (a + 11))) (a) 19 (some (a + 12))) (a) 25 (some (a + 13))) (a) 26 (some (a + 14))) (a) 27 (some (a + 15))) (a) 29 (some (a + 16))) (a) 31 (some (a + 17))) (a) 32 (some (a + 18))) (a) 33 (some (a + 19))) (a) 40 (some (a + 20))) (a) 53 (some (a + 21))) (a) 55 (some (a + 22))) (a) 56 (some (a + 23))) (a) 61 (some (a + 24))) (a) 62 (some (a + 25))) (a) 63 (some (a + 26)), wI (wI (M.2.2) (a) 21 (-1)) (a) 48 (-1)) _
  refine J_aload_n dX12_init_231 rfl rfl ?_
  refine J_bipush (v := 60) dX12_init_232 (by decide) ?_
  refine J_newL (a := a + 27) (N := 60) (by decide) (by decide) (by decide) hF hl74 (Nat.le_of_ble_eq_true rfl) (Nat.le_of_ble_eq_true rfl) dX12_init_234 ?_
  intro hF
  have hl79 : (M.1 ++ [(13, 72)] ++ [(13, 72)] ++ [(13, 72)] ++ [(13, 96)] ++ [(13, 24)] ++ [(13, 6)] ++ [(13, 12)] ++ [(13, 48)] ++ [(13, 8)] ++ [(13, 4200)] ++ [(13, 4200)] ++ [(13, 4200)] ++ [(13, 8)] ++ [(14, 16385)] ++ [(13, 16385)] ++ [(13, 60)] ++ [(13, 600)] ++ [(13, 10)] ++ [(13, 10)] ++ [(15, 16385)] ++ [(13, 8)] ++ [(13, 1000)] ++ [(13, 24)] ++ [(13, 6)] ++ [(13, 6)] ++ [(14, 360)] ++ [(14, 60)]).length = a + 28 := ap_len hl74 rfl
  have hg80 : (M.1 ++ [(13, 72)] ++ [(13, 72)] ++ [(13, 72)] ++ [(13, 96)] ++ [(13, 24)] ++ [(13, 6)] ++ [(13, 12)] ++ [(13, 48)] ++ [(13, 8)] ++ [(13, 4200)] ++ [(13, 4200)] ++ [(13, 4200)] ++ [(13, 8)] ++ [(14, 16385)] ++ [(13, 16385)] ++ [(13, 60)] ++ [(13, 600)] ++ [(13, 10)] ++ [(13, 10)] ++ [(15, 16385)] ++ [(13, 8)] ++ [(13, 1000)] ++ [(13, 24)] ++ [(13, 6)] ++ [(13, 6)] ++ [(14, 360)] ++ [(14, 60)])[a]? = some (12, nF 12) := ap_old hg75
  have hg81 : (M.1 ++ [(13, 72)] ++ [(13, 72)] ++ [(13, 72)] ++ [(13, 96)] ++ [(13, 24)] ++ [(13, 6)] ++ [(13, 12)] ++ [(13, 48)] ++ [(13, 8)] ++ [(13, 4200)] ++ [(13, 4200)] ++ [(13, 4200)] ++ [(13, 8)] ++ [(14, 16385)] ++ [(13, 16385)] ++ [(13, 60)] ++ [(13, 600)] ++ [(13, 10)] ++ [(13, 10)] ++ [(15, 16385)] ++ [(13, 8)] ++ [(13, 1000)] ++ [(13, 24)] ++ [(13, 6)] ++ [(13, 6)] ++ [(14, 360)] ++ [(14, 60)])[a + 6]? = some (13, 6) := ap_old hg76
  have hg82 : (M.1 ++ [(13, 72)] ++ [(13, 72)] ++ [(13, 72)] ++ [(13, 96)] ++ [(13, 24)] ++ [(13, 6)] ++ [(13, 12)] ++ [(13, 48)] ++ [(13, 8)] ++ [(13, 4200)] ++ [(13, 4200)] ++ [(13, 4200)] ++ [(13, 8)] ++ [(14, 16385)] ++ [(13, 16385)] ++ [(13, 60)] ++ [(13, 600)] ++ [(13, 10)] ++ [(13, 10)] ++ [(15, 16385)] ++ [(13, 8)] ++ [(13, 1000)] ++ [(13, 24)] ++ [(13, 6)] ++ [(13, 6)] ++ [(14, 360)] ++ [(14, 60)])[a + 24]? = some (13, 6) := ap_old hg77
  have hg83 : (M.1 ++ [(13, 72)] ++ [(13, 72)] ++ [(13, 72)] ++ [(13, 96)] ++ [(13, 24)] ++ [(13, 6)] ++ [(13, 12)] ++ [(13, 48)] ++ [(13, 8)] ++ [(13, 4200)] ++ [(13, 4200)] ++ [(13, 4200)] ++ [(13, 8)] ++ [(14, 16385)] ++ [(13, 16385)] ++ [(13, 60)] ++ [(13, 600)] ++ [(13, 10)] ++ [(13, 10)] ++ [(15, 16385)] ++ [(13, 8)] ++ [(13, 1000)] ++ [(13, 24)] ++ [(13, 6)] ++ [(13, 6)] ++ [(14, 360)] ++ [(14, 60)])[a + 25]? = some (13, 6) := ap_old hg78
  have hF : Fr (M.1 ++ [(13, 72)] ++ [(13, 72)] ++ [(13, 72)] ++ [(13, 96)] ++ [(13, 24)] ++ [(13, 6)] ++ [(13, 12)] ++ [(13, 48)] ++ [(13, 8)] ++ [(13, 4200)] ++ [(13, 4200)] ++ [(13, 4200)] ++ [(13, 8)] ++ [(14, 16385)] ++ [(13, 16385)] ++ [(13, 60)] ++ [(13, 600)] ++ [(13, 10)] ++ [(13, 10)] ++ [(15, 16385)] ++ [(13, 8)] ++ [(13, 1000)] ++ [(13, 24)] ++ [(13, 6)] ++ [(13, 6)] ++ [(14, 360)] ++ [(14, 60)], upR (upR (upR (upR (upR (upR (upR (upR (upR (upR (upR (upR (upR (upR (upR (upR (upR (upR (upR (upR (upR (upR (upR (upR (upR (upR (M.2.1) (a) 0 (some (a + 1))) (a) 1 (some (a + 2))) (a) 2 (some (a + 3))) (a) 3 (some (a + 4))) (a) 4 (some (a + 5))) (a) 5 (some (a + 6))) (a) 7 (some (a + 7))) (a) 9 (some (a + 8))) (a) 16 (some (a + 9))) (a) 17 (some (a + 10))) (a) 18 (some (a + 11))) (a) 19 (some (a + 12))) (a) 25 (some (a + 13))) (a) 26 (some (a + 14))) (a) 27 (some (a + 15))) (a) 29 (some (a + 16))) (a) 31 (some (a + 17))) (a) 32 (some (a + 18))) (a) 33 (some (a + 19))) (a) 40 (some (a + 20))) (a) 53 (some (a + 21))) (a) 55 (some (a + 22))) (a) 56 (some (a + 23))) (a) 61 (some (a + 24))) (a) 62 (some (a + 25))) (a) 63 (some (a + 26)), wI (wI (M.2.2) (a) 21 (-1)) (a) 48 (-1)) := hF
  show J _ _ _ _ _ _ _ _ _ _ _ (M.1 ++ [(13, 72)] ++ [(13, 72)] ++ [(13, 72)] ++ [(13, 96)] ++ [(13, 24)] ++ [(13, 6)] ++ [(13, 12)] ++ [(13, 48)] ++ [(13, 8)] ++ [(13, 4200)] ++ [(13, 4200)] ++ [(13, 4200)] ++ [(13, 8)] ++ [(14, 16385)] ++ [(13, 16385)] ++ [(13, 60)] ++ [(13, 600)] ++ [(13, 10)] ++ [(13, 10)] ++ [(15, 16385)] ++ [(13, 8)] ++ [(13, 1000)] ++ [(13, 24)] ++ [(13, 6)] ++ [(13, 6)] ++ [(14, 360)] ++ [(14, 60)], upR (upR (upR (upR (upR (upR (upR (upR (upR (upR (upR (upR (upR (upR (upR (upR (upR (upR (upR (upR (upR (upR (upR (upR (upR (upR (M.2.1) (a) 0 (some (a + 1))) (a) 1 (some (a + 2))) (a) 2 (some (a + 3))) (a) 3 (some (a + 4))) (a) 4 (some (a + 5))) (a) 5 (some (a + 6))) (a) 7 (some (a + 7))) (a) 9 (some (a + 8))) (a) 16 (some (a + 9))) (a) 17 (some (a + 10))) (a) 18 (some (a + 11))) (a) 19 (some (a + 12))) (a) 25 (some (a + 13))) (a) 26 (some (a + 14))) (a) 27 (some (a + 15))) (a) 29 (some (a + 16))) (a) 31 (some (a + 17))) (a) 32 (some (a + 18))) (a) 33 (some (a + 19))) (a) 40 (some (a + 20))) (a) 53 (some (a + 21))) (a) 55 (some (a + 22))) (a) 56 (some (a + 23))) (a) 61 (some (a + 24))) (a) 62 (some (a + 25))) (a) 63 (some (a + 26)), wI (wI (M.2.2) (a) 21 (-1)) (a) 48 (-1)) _
  refine J_putRF rfl cf12 klX12_97 hF hg80 (Or.inr ⟨_, rfl⟩) dX12_init_236 ?_
  intro hF
  have hF : Fr (M.1 ++ [(13, 72)] ++ [(13, 72)] ++ [(13, 72)] ++ [(13, 96)] ++ [(13, 24)] ++ [(13, 6)] ++ [(13, 12)] ++ [(13, 48)] ++ [(13, 8)] ++ [(13, 4200)] ++ [(13, 4200)] ++ [(13, 4200)] ++ [(13, 8)] ++ [(14, 16385)] ++ [(13, 16385)] ++ [(13, 60)] ++ [(13, 600)] ++ [(13, 10)] ++ [(13, 10)] ++ [(15, 16385)] ++ [(13, 8)] ++ [(13, 1000)] ++ [(13, 24)] ++ [(13, 6)] ++ [(13, 6)] ++ [(14, 360)] ++ [(14, 60)], upR (upR (upR (upR (upR (upR (upR (upR (upR (upR (upR (upR (upR (upR (upR (upR (upR (upR (upR (upR (upR (upR (upR (upR (upR (upR (upR (M.2.1) (a) 0 (some (a + 1))) (a) 1 (some (a + 2))) (a) 2 (some (a + 3))) (a) 3 (some (a + 4))) (a) 4 (some (a + 5))) (a) 5 (some (a + 6))) (a) 7 (some (a + 7))) (a) 9 (some (a + 8))) (a) 16 (some (a + 9))) (a) 17 (some (a + 10))) (a) 18 (some (a + 11))) (a) 19 (some (a + 12))) (a) 25 (some (a + 13))) (a) 26 (some (a + 14))) (a) 27 (some (a + 15))) (a) 29 (some (a + 16))) (a) 31 (some (a + 17))) (a) 32 (some (a + 18))) (a) 33 (some (a + 19))) (a) 40 (some (a + 20))) (a) 53 (some (a + 21))) (a) 55 (some (a + 22))) (a) 56 (some (a + 23))) (a) 61 (some (a + 24))) (a) 62 (some (a + 25))) (a) 63 (some (a + 26))) (a) 64 (some (a + 27)), wI (wI (M.2.2) (a) 21 (-1)) (a) 48 (-1)) := hF
  show J _ _ _ _ _ _ _ _ _ _ _ (M.1 ++ [(13, 72)] ++ [(13, 72)] ++ [(13, 72)] ++ [(13, 96)] ++ [(13, 24)] ++ [(13, 6)] ++ [(13, 12)] ++ [(13, 48)] ++ [(13, 8)] ++ [(13, 4200)] ++ [(13, 4200)] ++ [(13, 4200)] ++ [(13, 8)] ++ [(14, 16385)] ++ [(13, 16385)] ++ [(13, 60)] ++ [(13, 600)] ++ [(13, 10)] ++ [(13, 10)] ++ [(15, 16385)] ++ [(13, 8)] ++ [(13, 1000)] ++ [(13, 24)] ++ [(13, 6)] ++ [(13, 6)] ++ [(14, 360)] ++ [(14, 60)], upR (upR (upR (upR (upR (upR (upR (upR (upR (upR (upR (upR (upR (upR (upR (upR (upR (upR (upR (upR (upR (upR (upR (upR (upR (upR (upR (M.2.1) (a) 0 (some (a + 1))) (a) 1 (some (a + 2))) (a) 2 (some (a + 3))) (a) 3 (some (a + 4))) (a) 4 (some (a + 5))) (a) 5 (some (a + 6))) (a) 7 (some (a + 7))) (a) 9 (some (a + 8))) (a) 16 (some (a + 9))) (a) 17 (some (a + 10))) (a) 18 (some (a + 11))) (a) 19 (some (a + 12))) (a) 25 (some (a + 13))) (a) 26 (some (a + 14))) (a) 27 (some (a + 15))) (a) 29 (some (a + 16))) (a) 31 (some (a + 17))) (a) 32 (some (a + 18))) (a) 33 (some (a + 19))) (a) 40 (some (a + 20))) (a) 53 (some (a + 21))) (a) 55 (some (a + 22))) (a) 56 (some (a + 23))) (a) 61 (some (a + 24))) (a) 62 (some (a + 25))) (a) 63 (some (a + 26))) (a) 64 (some (a + 27)), wI (wI (M.2.2) (a) 21 (-1)) (a) 48 (-1)) _
  refine J_iconst (v := 0) dX12_init_239 (by decide) ?_
  refine J_istore_n [some (vR (some a)), some (vI (0))] dX12_init_240 rfl (Nat.le_of_ble_eq_true rfl) rfl rfl ?_
  refine J_iload_n dX12_init_241 rfl rfl ?_
  refine J_bipush (v := 6) dX12_init_242 (by decide) ?_
  refine J_step_lt (tgt := 260) (by decide) dX12_init_244 (by decide) ?_
  refine J_aload_n dX12_init_247 rfl rfl ?_
  refine J_getR (r := some (a + 24)) cf12 klX12_88 hg80 (by simp [upR, rfM]) (Or.inr ⟨_, rfl⟩) dX12_init_248 ?_
  refine J_iload_n dX12_init_251 rfl rfl ?_
  refine J_iconst (v := -1) dX12_init_252 (by decide) ?_
  refine J_iast2 (j := 0) hg82 (by decide) (by decide) (by decide) dX12_init_253 ?_
  have hF := hF.wI (a := a + 24) (k := 0) (x := -1) (List.getElem?_eq_some_iff.mp hg82).1
  have hF : Fr (M.1 ++ [(13, 72)] ++ [(13, 72)] ++ [(13, 72)] ++ [(13, 96)] ++ [(13, 24)] ++ [(13, 6)] ++ [(13, 12)] ++ [(13, 48)] ++ [(13, 8)] ++ [(13, 4200)] ++ [(13, 4200)] ++ [(13, 4200)] ++ [(13, 8)] ++ [(14, 16385)] ++ [(13, 16385)] ++ [(13, 60)] ++ [(13, 600)] ++ [(13, 10)] ++ [(13, 10)] ++ [(15, 16385)] ++ [(13, 8)] ++ [(13, 1000)] ++ [(13, 24)] ++ [(13, 6)] ++ [(13, 6)] ++ [(14, 360)] ++ [(14, 60)], upR (upR (upR (upR (upR (upR (upR (upR (upR (upR (upR (upR (upR (upR (upR (upR (upR (upR (upR (upR (upR (upR (upR (upR (upR (upR (upR (M.2.1) (a) 0 (some (a + 1))) (a) 1 (some (a + 2))) (a) 2 (some (a + 3))) (a) 3 (some (a + 4))) (a) 4 (some (a + 5))) (a) 5 (some (a + 6))) (a) 7 (some (a + 7))) (a) 9 (some (a + 8))) (a) 16 (some (a + 9))) (a) 17 (some (a + 10))) (a) 18 (some (a + 11))) (a) 19 (some (a + 12))) (a) 25 (some (a + 13))) (a) 26 (some (a + 14))) (a) 27 (some (a + 15))) (a) 29 (some (a + 16))) (a) 31 (some (a + 17))) (a) 32 (some (a + 18))) (a) 33 (some (a + 19))) (a) 40 (some (a + 20))) (a) 53 (some (a + 21))) (a) 55 (some (a + 22))) (a) 56 (some (a + 23))) (a) 61 (some (a + 24))) (a) 62 (some (a + 25))) (a) 63 (some (a + 26))) (a) 64 (some (a + 27)), wI (wI (wI (M.2.2) (a) 21 (-1)) (a) 48 (-1)) (a + 24) 0 (-1)) := hF
  show J _ _ _ _ _ _ _ _ _ _ _ (M.1 ++ [(13, 72)] ++ [(13, 72)] ++ [(13, 72)] ++ [(13, 96)] ++ [(13, 24)] ++ [(13, 6)] ++ [(13, 12)] ++ [(13, 48)] ++ [(13, 8)] ++ [(13, 4200)] ++ [(13, 4200)] ++ [(13, 4200)] ++ [(13, 8)] ++ [(14, 16385)] ++ [(13, 16385)] ++ [(13, 60)] ++ [(13, 600)] ++ [(13, 10)] ++ [(13, 10)] ++ [(15, 16385)] ++ [(13, 8)] ++ [(13, 1000)] ++ [(13, 24)] ++ [(13, 6)] ++ [(13, 6)] ++ [(14, 360)] ++ [(14, 60)], upR (upR (upR (upR (upR (upR (upR (upR (upR (upR (upR (upR (upR (upR (upR (upR (upR (upR (upR (upR (upR (upR (upR (upR (upR (upR (upR (M.2.1) (a) 0 (some (a + 1))) (a) 1 (some (a + 2))) (a) 2 (some (a + 3))) (a) 3 (some (a + 4))) (a) 4 (some (a + 5))) (a) 5 (some (a + 6))) (a) 7 (some (a + 7))) (a) 9 (some (a + 8))) (a) 16 (some (a + 9))) (a) 17 (some (a + 10))) (a) 18 (some (a + 11))) (a) 19 (some (a + 12))) (a) 25 (some (a + 13))) (a) 26 (some (a + 14))) (a) 27 (some (a + 15))) (a) 29 (some (a + 16))) (a) 31 (some (a + 17))) (a) 32 (some (a + 18))) (a) 33 (some (a + 19))) (a) 40 (some (a + 20))) (a) 53 (some (a + 21))) (a) 55 (some (a + 22))) (a) 56 (some (a + 23))) (a) 61 (some (a + 24))) (a) 62 (some (a + 25))) (a) 63 (some (a + 26))) (a) 64 (some (a + 27)), wI (wI (wI (M.2.2) (a) 21 (-1)) (a) 48 (-1)) (a + 24) 0 (-1)) _
  refine J_iinc (v := 1) [some (vR (some a)), some (vI (1))] dX12_init_254 rfl (by decide) (Nat.le_of_ble_eq_true rfl) rfl rfl ?_
  refine J_goto (tgt := 241) dX12_init_257 (by decide) ?_
  refine J_iload_n dX12_init_241 rfl rfl ?_
  refine J_bipush (v := 6) dX12_init_242 (by decide) ?_
  refine J_step_lt (tgt := 260) (by decide) dX12_init_244 (by decide) ?_
  refine J_aload_n dX12_init_247 rfl rfl ?_
  refine J_getR (r := some (a + 24)) cf12 klX12_88 hg80 (by simp [upR, rfM]) (Or.inr ⟨_, rfl⟩) dX12_init_248 ?_
  refine J_iload_n dX12_init_251 rfl rfl ?_
  refine J_iconst (v := -1) dX12_init_252 (by decide) ?_
  refine J_iast2 (j := 1) hg82 (by decide) (by decide) (by decide) dX12_init_253 ?_
  have hF := hF.wI (a := a + 24) (k := 1) (x := -1) (List.getElem?_eq_some_iff.mp hg82).1
  have hF : Fr (M.1 ++ [(13, 72)] ++ [(13, 72)] ++ [(13, 72)] ++ [(13, 96)] ++ [(13, 24)] ++ [(13, 6)] ++ [(13, 12)] ++ [(13, 48)] ++ [(13, 8)] ++ [(13, 4200)] ++ [(13, 4200)] ++ [(13, 4200)] ++ [(13, 8)] ++ [(14, 16385)] ++ [(13, 16385)] ++ [(13, 60)] ++ [(13, 600)] ++ [(13, 10)] ++ [(13, 10)] ++ [(15, 16385)] ++ [(13, 8)] ++ [(13, 1000)] ++ [(13, 24)] ++ [(13, 6)] ++ [(13, 6)] ++ [(14, 360)] ++ [(14, 60)], upR (upR (upR (upR (upR (upR (upR (upR (upR (upR (upR (upR (upR (upR (upR (upR (upR (upR (upR (upR (upR (upR (upR (upR (upR (upR (upR (M.2.1) (a) 0 (some (a + 1))) (a) 1 (some (a + 2))) (a) 2 (some (a + 3))) (a) 3 (some (a + 4))) (a) 4 (some (a + 5))) (a) 5 (some (a + 6))) (a) 7 (some (a + 7))) (a) 9 (some (a + 8))) (a) 16 (some (a + 9))) (a) 17 (some (a + 10))) (a) 18 (some (a + 11))) (a) 19 (some (a + 12))) (a) 25 (some (a + 13))) (a) 26 (some (a + 14))) (a) 27 (some (a + 15))) (a) 29 (some (a + 16))) (a) 31 (some (a + 17))) (a) 32 (some (a + 18))) (a) 33 (some (a + 19))) (a) 40 (some (a + 20))) (a) 53 (some (a + 21))) (a) 55 (some (a + 22))) (a) 56 (some (a + 23))) (a) 61 (some (a + 24))) (a) 62 (some (a + 25))) (a) 63 (some (a + 26))) (a) 64 (some (a + 27)), wI (wI (wI (wI (M.2.2) (a) 21 (-1)) (a) 48 (-1)) (a + 24) 0 (-1)) (a + 24) 1 (-1)) := hF
  show J _ _ _ _ _ _ _ _ _ _ _ (M.1 ++ [(13, 72)] ++ [(13, 72)] ++ [(13, 72)] ++ [(13, 96)] ++ [(13, 24)] ++ [(13, 6)] ++ [(13, 12)] ++ [(13, 48)] ++ [(13, 8)] ++ [(13, 4200)] ++ [(13, 4200)] ++ [(13, 4200)] ++ [(13, 8)] ++ [(14, 16385)] ++ [(13, 16385)] ++ [(13, 60)] ++ [(13, 600)] ++ [(13, 10)] ++ [(13, 10)] ++ [(15, 16385)] ++ [(13, 8)] ++ [(13, 1000)] ++ [(13, 24)] ++ [(13, 6)] ++ [(13, 6)] ++ [(14, 360)] ++ [(14, 60)], upR (upR (upR (upR (upR (upR (upR (upR (upR (upR (upR (upR (upR (upR (upR (upR (upR (upR (upR (upR (upR (upR (upR (upR (upR (upR (upR (M.2.1) (a) 0 (some (a + 1))) (a) 1 (some (a + 2))) (a) 2 (some (a + 3))) (a) 3 (some (a + 4))) (a) 4 (some (a + 5))) (a) 5 (some (a + 6))) (a) 7 (some (a + 7))) (a) 9 (some (a + 8))) (a) 16 (some (a + 9))) (a) 17 (some (a + 10))) (a) 18 (some (a + 11))) (a) 19 (some (a + 12))) (a) 25 (some (a + 13))) (a) 26 (some (a + 14))) (a) 27 (some (a + 15))) (a) 29 (some (a + 16))) (a) 31 (some (a + 17))) (a) 32 (some (a + 18))) (a) 33 (some (a + 19))) (a) 40 (some (a + 20))) (a) 53 (some (a + 21))) (a) 55 (some (a + 22))) (a) 56 (some (a + 23))) (a) 61 (some (a + 24))) (a) 62 (some (a + 25))) (a) 63 (some (a + 26))) (a) 64 (some (a + 27)), wI (wI (wI (wI (M.2.2) (a) 21 (-1)) (a) 48 (-1)) (a + 24) 0 (-1)) (a + 24) 1 (-1)) _
  refine J_iinc (v := 2) [some (vR (some a)), some (vI (2))] dX12_init_254 rfl (by decide) (Nat.le_of_ble_eq_true rfl) rfl rfl ?_
  refine J_goto (tgt := 241) dX12_init_257 (by decide) ?_
  refine J_iload_n dX12_init_241 rfl rfl ?_
  refine J_bipush (v := 6) dX12_init_242 (by decide) ?_
  refine J_step_lt (tgt := 260) (by decide) dX12_init_244 (by decide) ?_
  refine J_aload_n dX12_init_247 rfl rfl ?_
  refine J_getR (r := some (a + 24)) cf12 klX12_88 hg80 (by simp [upR, rfM]) (Or.inr ⟨_, rfl⟩) dX12_init_248 ?_
  refine J_iload_n dX12_init_251 rfl rfl ?_
  refine J_iconst (v := -1) dX12_init_252 (by decide) ?_
  refine J_iast2 (j := 2) hg82 (by decide) (by decide) (by decide) dX12_init_253 ?_
  have hF := hF.wI (a := a + 24) (k := 2) (x := -1) (List.getElem?_eq_some_iff.mp hg82).1
  have hF : Fr (M.1 ++ [(13, 72)] ++ [(13, 72)] ++ [(13, 72)] ++ [(13, 96)] ++ [(13, 24)] ++ [(13, 6)] ++ [(13, 12)] ++ [(13, 48)] ++ [(13, 8)] ++ [(13, 4200)] ++ [(13, 4200)] ++ [(13, 4200)] ++ [(13, 8)] ++ [(14, 16385)] ++ [(13, 16385)] ++ [(13, 60)] ++ [(13, 600)] ++ [(13, 10)] ++ [(13, 10)] ++ [(15, 16385)] ++ [(13, 8)] ++ [(13, 1000)] ++ [(13, 24)] ++ [(13, 6)] ++ [(13, 6)] ++ [(14, 360)] ++ [(14, 60)], upR (upR (upR (upR (upR (upR (upR (upR (upR (upR (upR (upR (upR (upR (upR (upR (upR (upR (upR (upR (upR (upR (upR (upR (upR (upR (upR (M.2.1) (a) 0 (some (a + 1))) (a) 1 (some (a + 2))) (a) 2 (some (a + 3))) (a) 3 (some (a + 4))) (a) 4 (some (a + 5))) (a) 5 (some (a + 6))) (a) 7 (some (a + 7))) (a) 9 (some (a + 8))) (a) 16 (some (a + 9))) (a) 17 (some (a + 10))) (a) 18 (some (a + 11))) (a) 19 (some (a + 12))) (a) 25 (some (a + 13))) (a) 26 (some (a + 14))) (a) 27 (some (a + 15))) (a) 29 (some (a + 16))) (a) 31 (some (a + 17))) (a) 32 (some (a + 18))) (a) 33 (some (a + 19))) (a) 40 (some (a + 20))) (a) 53 (some (a + 21))) (a) 55 (some (a + 22))) (a) 56 (some (a + 23))) (a) 61 (some (a + 24))) (a) 62 (some (a + 25))) (a) 63 (some (a + 26))) (a) 64 (some (a + 27)), wI (wI (wI (wI (wI (M.2.2) (a) 21 (-1)) (a) 48 (-1)) (a + 24) 0 (-1)) (a + 24) 1 (-1)) (a + 24) 2 (-1)) := hF
  show J _ _ _ _ _ _ _ _ _ _ _ (M.1 ++ [(13, 72)] ++ [(13, 72)] ++ [(13, 72)] ++ [(13, 96)] ++ [(13, 24)] ++ [(13, 6)] ++ [(13, 12)] ++ [(13, 48)] ++ [(13, 8)] ++ [(13, 4200)] ++ [(13, 4200)] ++ [(13, 4200)] ++ [(13, 8)] ++ [(14, 16385)] ++ [(13, 16385)] ++ [(13, 60)] ++ [(13, 600)] ++ [(13, 10)] ++ [(13, 10)] ++ [(15, 16385)] ++ [(13, 8)] ++ [(13, 1000)] ++ [(13, 24)] ++ [(13, 6)] ++ [(13, 6)] ++ [(14, 360)] ++ [(14, 60)], upR (upR (upR (upR (upR (upR (upR (upR (upR (upR (upR (upR (upR (upR (upR (upR (upR (upR (upR (upR (upR (upR (upR (upR (upR (upR (upR (M.2.1) (a) 0 (some (a + 1))) (a) 1 (some (a + 2))) (a) 2 (some (a + 3))) (a) 3 (some (a + 4))) (a) 4 (some (a + 5))) (a) 5 (some (a + 6))) (a) 7 (some (a + 7))) (a) 9 (some (a + 8))) (a) 16 (some (a + 9))) (a) 17 (some (a + 10))) (a) 18 (some (a + 11))) (a) 19 (some (a + 12))) (a) 25 (some (a + 13))) (a) 26 (some (a + 14))) (a) 27 (some (a + 15))) (a) 29 (some (a + 16))) (a) 31 (some (a + 17))) (a) 32 (some (a + 18))) (a) 33 (some (a + 19))) (a) 40 (some (a + 20))) (a) 53 (some (a + 21))) (a) 55 (some (a + 22))) (a) 56 (some (a + 23))) (a) 61 (some (a + 24))) (a) 62 (some (a + 25))) (a) 63 (some (a + 26))) (a) 64 (some (a + 27)), wI (wI (wI (wI (wI (M.2.2) (a) 21 (-1)) (a) 48 (-1)) (a + 24) 0 (-1)) (a + 24) 1 (-1)) (a + 24) 2 (-1)) _
  refine J_iinc (v := 3) [some (vR (some a)), some (vI (3))] dX12_init_254 rfl (by decide) (Nat.le_of_ble_eq_true rfl) rfl rfl ?_
  refine J_goto (tgt := 241) dX12_init_257 (by decide) ?_
  refine J_iload_n dX12_init_241 rfl rfl ?_
  refine J_bipush (v := 6) dX12_init_242 (by decide) ?_
  refine J_step_lt (tgt := 260) (by decide) dX12_init_244 (by decide) ?_
  refine J_aload_n dX12_init_247 rfl rfl ?_
  refine J_getR (r := some (a + 24)) cf12 klX12_88 hg80 (by simp [upR, rfM]) (Or.inr ⟨_, rfl⟩) dX12_init_248 ?_
  refine J_iload_n dX12_init_251 rfl rfl ?_
  refine J_iconst (v := -1) dX12_init_252 (by decide) ?_
  refine J_iast2 (j := 3) hg82 (by decide) (by decide) (by decide) dX12_init_253 ?_
  have hF := hF.wI (a := a + 24) (k := 3) (x := -1) (List.getElem?_eq_some_iff.mp hg82).1
  have hF : Fr (M.1 ++ [(13, 72)] ++ [(13, 72)] ++ [(13, 72)] ++ [(13, 96)] ++ [(13, 24)] ++ [(13, 6)] ++ [(13, 12)] ++ [(13, 48)] ++ [(13, 8)] ++ [(13, 4200)] ++ [(13, 4200)] ++ [(13, 4200)] ++ [(13, 8)] ++ [(14, 16385)] ++ [(13, 16385)] ++ [(13, 60)] ++ [(13, 600)] ++ [(13, 10)] ++ [(13, 10)] ++ [(15, 16385)] ++ [(13, 8)] ++ [(13, 1000)] ++ [(13, 24)] ++ [(13, 6)] ++ [(13, 6)] ++ [(14, 360)] ++ [(14, 60)], upR (upR (upR (upR (upR (upR (upR (upR (upR (upR (upR (upR (upR (upR (upR (upR (upR (upR (upR (upR (upR (upR (upR (upR (upR (upR (upR (M.2.1) (a) 0 (some (a + 1))) (a) 1 (some (a + 2))) (a) 2 (some (a + 3))) (a) 3 (some (a + 4))) (a) 4 (some (a + 5))) (a) 5 (some (a + 6))) (a) 7 (some (a + 7))) (a) 9 (some (a + 8))) (a) 16 (some (a + 9))) (a) 17 (some (a + 10))) (a) 18 (some (a + 11))) (a) 19 (some (a + 12))) (a) 25 (some (a + 13))) (a) 26 (some (a + 14))) (a) 27 (some (a + 15))) (a) 29 (some (a + 16))) (a) 31 (some (a + 17))) (a) 32 (some (a + 18))) (a) 33 (some (a + 19))) (a) 40 (some (a + 20))) (a) 53 (some (a + 21))) (a) 55 (some (a + 22))) (a) 56 (some (a + 23))) (a) 61 (some (a + 24))) (a) 62 (some (a + 25))) (a) 63 (some (a + 26))) (a) 64 (some (a + 27)), wI (wI (wI (wI (wI (wI (M.2.2) (a) 21 (-1)) (a) 48 (-1)) (a + 24) 0 (-1)) (a + 24) 1 (-1)) (a + 24) 2 (-1)) (a + 24) 3 (-1)) := hF
  show J _ _ _ _ _ _ _ _ _ _ _ (M.1 ++ [(13, 72)] ++ [(13, 72)] ++ [(13, 72)] ++ [(13, 96)] ++ [(13, 24)] ++ [(13, 6)] ++ [(13, 12)] ++ [(13, 48)] ++ [(13, 8)] ++ [(13, 4200)] ++ [(13, 4200)] ++ [(13, 4200)] ++ [(13, 8)] ++ [(14, 16385)] ++ [(13, 16385)] ++ [(13, 60)] ++ [(13, 600)] ++ [(13, 10)] ++ [(13, 10)] ++ [(15, 16385)] ++ [(13, 8)] ++ [(13, 1000)] ++ [(13, 24)] ++ [(13, 6)] ++ [(13, 6)] ++ [(14, 360)] ++ [(14, 60)], upR (upR (upR (upR (upR (upR (upR (upR (upR (upR (upR (upR (upR (upR (upR (upR (upR (upR (upR (upR (upR (upR (upR (upR (upR (upR (upR (M.2.1) (a) 0 (some (a + 1))) (a) 1 (some (a + 2))) (a) 2 (some (a + 3))) (a) 3 (some (a + 4))) (a) 4 (some (a + 5))) (a) 5 (some (a + 6))) (a) 7 (some (a + 7))) (a) 9 (some (a + 8))) (a) 16 (some (a + 9))) (a) 17 (some (a + 10))) (a) 18 (some (a + 11))) (a) 19 (some (a + 12))) (a) 25 (some (a + 13))) (a) 26 (some (a + 14))) (a) 27 (some (a + 15))) (a) 29 (some (a + 16))) (a) 31 (some (a + 17))) (a) 32 (some (a + 18))) (a) 33 (some (a + 19))) (a) 40 (some (a + 20))) (a) 53 (some (a + 21))) (a) 55 (some (a + 22))) (a) 56 (some (a + 23))) (a) 61 (some (a + 24))) (a) 62 (some (a + 25))) (a) 63 (some (a + 26))) (a) 64 (some (a + 27)), wI (wI (wI (wI (wI (wI (M.2.2) (a) 21 (-1)) (a) 48 (-1)) (a + 24) 0 (-1)) (a + 24) 1 (-1)) (a + 24) 2 (-1)) (a + 24) 3 (-1)) _
  refine J_iinc (v := 4) [some (vR (some a)), some (vI (4))] dX12_init_254 rfl (by decide) (Nat.le_of_ble_eq_true rfl) rfl rfl ?_
  refine J_goto (tgt := 241) dX12_init_257 (by decide) ?_
  refine J_iload_n dX12_init_241 rfl rfl ?_
  refine J_bipush (v := 6) dX12_init_242 (by decide) ?_
  refine J_step_lt (tgt := 260) (by decide) dX12_init_244 (by decide) ?_
  refine J_aload_n dX12_init_247 rfl rfl ?_
  refine J_getR (r := some (a + 24)) cf12 klX12_88 hg80 (by simp [upR, rfM]) (Or.inr ⟨_, rfl⟩) dX12_init_248 ?_
  refine J_iload_n dX12_init_251 rfl rfl ?_
  refine J_iconst (v := -1) dX12_init_252 (by decide) ?_
  refine J_iast2 (j := 4) hg82 (by decide) (by decide) (by decide) dX12_init_253 ?_
  have hF := hF.wI (a := a + 24) (k := 4) (x := -1) (List.getElem?_eq_some_iff.mp hg82).1
  have hF : Fr (M.1 ++ [(13, 72)] ++ [(13, 72)] ++ [(13, 72)] ++ [(13, 96)] ++ [(13, 24)] ++ [(13, 6)] ++ [(13, 12)] ++ [(13, 48)] ++ [(13, 8)] ++ [(13, 4200)] ++ [(13, 4200)] ++ [(13, 4200)] ++ [(13, 8)] ++ [(14, 16385)] ++ [(13, 16385)] ++ [(13, 60)] ++ [(13, 600)] ++ [(13, 10)] ++ [(13, 10)] ++ [(15, 16385)] ++ [(13, 8)] ++ [(13, 1000)] ++ [(13, 24)] ++ [(13, 6)] ++ [(13, 6)] ++ [(14, 360)] ++ [(14, 60)], upR (upR (upR (upR (upR (upR (upR (upR (upR (upR (upR (upR (upR (upR (upR (upR (upR (upR (upR (upR (upR (upR (upR (upR (upR (upR (upR (M.2.1) (a) 0 (some (a + 1))) (a) 1 (some (a + 2))) (a) 2 (some (a + 3))) (a) 3 (some (a + 4))) (a) 4 (some (a + 5))) (a) 5 (some (a + 6))) (a) 7 (some (a + 7))) (a) 9 (some (a + 8))) (a) 16 (some (a + 9))) (a) 17 (some (a + 10))) (a) 18 (some (a + 11))) (a) 19 (some (a + 12))) (a) 25 (some (a + 13))) (a) 26 (some (a + 14))) (a) 27 (some (a + 15))) (a) 29 (some (a + 16))) (a) 31 (some (a + 17))) (a) 32 (some (a + 18))) (a) 33 (some (a + 19))) (a) 40 (some (a + 20))) (a) 53 (some (a + 21))) (a) 55 (some (a + 22))) (a) 56 (some (a + 23))) (a) 61 (some (a + 24))) (a) 62 (some (a + 25))) (a) 63 (some (a + 26))) (a) 64 (some (a + 27)), wI (wI (wI (wI (wI (wI (wI (M.2.2) (a) 21 (-1)) (a) 48 (-1)) (a + 24) 0 (-1)) (a + 24) 1 (-1)) (a + 24) 2 (-1)) (a + 24) 3 (-1)) (a + 24) 4 (-1)) := hF
  show J _ _ _ _ _ _ _ _ _ _ _ (M.1 ++ [(13, 72)] ++ [(13, 72)] ++ [(13, 72)] ++ [(13, 96)] ++ [(13, 24)] ++ [(13, 6)] ++ [(13, 12)] ++ [(13, 48)] ++ [(13, 8)] ++ [(13, 4200)] ++ [(13, 4200)] ++ [(13, 4200)] ++ [(13, 8)] ++ [(14, 16385)] ++ [(13, 16385)] ++ [(13, 60)] ++ [(13, 600)] ++ [(13, 10)] ++ [(13, 10)] ++ [(15, 16385)] ++ [(13, 8)] ++ [(13, 1000)] ++ [(13, 24)] ++ [(13, 6)] ++ [(13, 6)] ++ [(14, 360)] ++ [(14, 60)], upR (upR (upR (upR (upR (upR (upR (upR (upR (upR (upR (upR (upR (upR (upR (upR (upR (upR (upR (upR (upR (upR (upR (upR (upR (upR (upR (M.2.1) (a) 0 (some (a + 1))) (a) 1 (some (a + 2))) (a) 2 (some (a + 3))) (a) 3 (some (a + 4))) (a) 4 (some (a + 5))) (a) 5 (some (a + 6))) (a) 7 (some (a + 7))) (a) 9 (some (a + 8))) (a) 16 (some (a + 9))) (a) 17 (some (a + 10))) (a) 18 (some (a + 11))) (a) 19 (some (a + 12))) (a) 25 (some (a + 13))) (a) 26 (some (a + 14))) (a) 27 (some (a + 15))) (a) 29 (some (a + 16))) (a) 31 (some (a + 17))) (a) 32 (some (a + 18))) (a) 33 (some (a + 19))) (a) 40 (some (a + 20))) (a) 53 (some (a + 21))) (a) 55 (some (a + 22))) (a) 56 (some (a + 23))) (a) 61 (some (a + 24))) (a) 62 (some (a + 25))) (a) 63 (some (a + 26))) (a) 64 (some (a + 27)), wI (wI (wI (wI (wI (wI (wI (M.2.2) (a) 21 (-1)) (a) 48 (-1)) (a + 24) 0 (-1)) (a + 24) 1 (-1)) (a + 24) 2 (-1)) (a + 24) 3 (-1)) (a + 24) 4 (-1)) _
  refine J_iinc (v := 5) [some (vR (some a)), some (vI (5))] dX12_init_254 rfl (by decide) (Nat.le_of_ble_eq_true rfl) rfl rfl ?_
  refine J_goto (tgt := 241) dX12_init_257 (by decide) ?_
  refine J_iload_n dX12_init_241 rfl rfl ?_
  refine J_bipush (v := 6) dX12_init_242 (by decide) ?_
  refine J_step_lt (tgt := 260) (by decide) dX12_init_244 (by decide) ?_
  refine J_aload_n dX12_init_247 rfl rfl ?_
  refine J_getR (r := some (a + 24)) cf12 klX12_88 hg80 (by simp [upR, rfM]) (Or.inr ⟨_, rfl⟩) dX12_init_248 ?_
  refine J_iload_n dX12_init_251 rfl rfl ?_
  refine J_iconst (v := -1) dX12_init_252 (by decide) ?_
  refine J_iast2 (j := 5) hg82 (by decide) (by decide) (by decide) dX12_init_253 ?_
  have hF := hF.wI (a := a + 24) (k := 5) (x := -1) (List.getElem?_eq_some_iff.mp hg82).1
  have hF : Fr (M.1 ++ [(13, 72)] ++ [(13, 72)] ++ [(13, 72)] ++ [(13, 96)] ++ [(13, 24)] ++ [(13, 6)] ++ [(13, 12)] ++ [(13, 48)] ++ [(13, 8)] ++ [(13, 4200)] ++ [(13, 4200)] ++ [(13, 4200)] ++ [(13, 8)] ++ [(14, 16385)] ++ [(13, 16385)] ++ [(13, 60)] ++ [(13, 600)] ++ [(13, 10)] ++ [(13, 10)] ++ [(15, 16385)] ++ [(13, 8)] ++ [(13, 1000)] ++ [(13, 24)] ++ [(13, 6)] ++ [(13, 6)] ++ [(14, 360)] ++ [(14, 60)], upR (upR (upR (upR (upR (upR (upR (upR (upR (upR (upR (upR (upR (upR (upR (upR (upR (upR (upR (upR (upR (upR (upR (upR (upR (upR (upR (M.2.1) (a) 0 (some (a + 1))) (a) 1 (some (a + 2))) (a) 2 (some (a + 3))) (a) 3 (some (a + 4))) (a) 4 (some (a + 5))) (a) 5 (some (a + 6))) (a) 7 (some (a + 7))) (a) 9 (some (a + 8))) (a) 16 (some (a + 9))) (a) 17 (some (a + 10))) (a) 18 (some (a + 11))) (a) 19 (some (a + 12))) (a) 25 (some (a + 13))) (a) 26 (some (a + 14))) (a) 27 (some (a + 15))) (a) 29 (some (a + 16))) (a) 31 (some (a + 17))) (a) 32 (some (a + 18))) (a) 33 (some (a + 19))) (a) 40 (some (a + 20))) (a) 53 (some (a + 21))) (a) 55 (some (a + 22))) (a) 56 (some (a + 23))) (a) 61 (some (a + 24))) (a) 62 (some (a + 25))) (a) 63 (some (a + 26))) (a) 64 (some (a + 27)), wI (wI (wI (wI (wI (wI (wI (wI (M.2.2) (a) 21 (-1)) (a) 48 (-1)) (a + 24) 0 (-1)) (a + 24) 1 (-1)) (a + 24) 2 (-1)) (a + 24) 3 (-1)) (a + 24) 4 (-1)) (a + 24) 5 (-1)) := hF
  show J _ _ _ _ _ _ _ _ _ _ _ (M.1 ++ [(13, 72)] ++ [(13, 72)] ++ [(13, 72)] ++ [(13, 96)] ++ [(13, 24)] ++ [(13, 6)] ++ [(13, 12)] ++ [(13, 48)] ++ [(13, 8)] ++ [(13, 4200)] ++ [(13, 4200)] ++ [(13, 4200)] ++ [(13, 8)] ++ [(14, 16385)] ++ [(13, 16385)] ++ [(13, 60)] ++ [(13, 600)] ++ [(13, 10)] ++ [(13, 10)] ++ [(15, 16385)] ++ [(13, 8)] ++ [(13, 1000)] ++ [(13, 24)] ++ [(13, 6)] ++ [(13, 6)] ++ [(14, 360)] ++ [(14, 60)], upR (upR (upR (upR (upR (upR (upR (upR (upR (upR (upR (upR (upR (upR (upR (upR (upR (upR (upR (upR (upR (upR (upR (upR (upR (upR (upR (M.2.1) (a) 0 (some (a + 1))) (a) 1 (some (a + 2))) (a) 2 (some (a + 3))) (a) 3 (some (a + 4))) (a) 4 (some (a + 5))) (a) 5 (some (a + 6))) (a) 7 (some (a + 7))) (a) 9 (some (a + 8))) (a) 16 (some (a + 9))) (a) 17 (some (a + 10))) (a) 18 (some (a + 11))) (a) 19 (some (a + 12))) (a) 25 (some (a + 13))) (a) 26 (some (a + 14))) (a) 27 (some (a + 15))) (a) 29 (some (a + 16))) (a) 31 (some (a + 17))) (a) 32 (some (a + 18))) (a) 33 (some (a + 19))) (a) 40 (some (a + 20))) (a) 53 (some (a + 21))) (a) 55 (some (a + 22))) (a) 56 (some (a + 23))) (a) 61 (some (a + 24))) (a) 62 (some (a + 25))) (a) 63 (some (a + 26))) (a) 64 (some (a + 27)), wI (wI (wI (wI (wI (wI (wI (wI (M.2.2) (a) 21 (-1)) (a) 48 (-1)) (a + 24) 0 (-1)) (a + 24) 1 (-1)) (a + 24) 2 (-1)) (a + 24) 3 (-1)) (a + 24) 4 (-1)) (a + 24) 5 (-1)) _
  refine J_iinc (v := 6) [some (vR (some a)), some (vI (6))] dX12_init_254 rfl (by decide) (Nat.le_of_ble_eq_true rfl) rfl rfl ?_
  refine J_goto (tgt := 241) dX12_init_257 (by decide) ?_
  refine J_iload_n dX12_init_241 rfl rfl ?_
  refine J_bipush (v := 6) dX12_init_242 (by decide) ?_
  refine J_step_ge (tgt := 260) (by decide) dX12_init_244 (by decide) ?_
  exact J_return rfl (Nat.le_of_ble_eq_true rfl) (Nat.le_of_ble_eq_true rfl) rfl dX12_init_260
theorem frX12 {a : Nat} {M : Hm} (hF : Fr M) (hl : M.1.length = a + 1) : Fr (cXr12 a M) := by
  have hs : (cXr12 a M).1.length = a + 28 := by show (M.1 ++ [(13, 72)] ++ [(13, 72)] ++ [(13, 72)] ++ [(13, 96)] ++ [(13, 24)] ++ [(13, 6)] ++ [(13, 12)] ++ [(13, 48)] ++ [(13, 8)] ++ [(13, 4200)] ++ [(13, 4200)] ++ [(13, 4200)] ++ [(13, 8)] ++ [(14, 16385)] ++ [(13, 16385)] ++ [(13, 60)] ++ [(13, 600)] ++ [(13, 10)] ++ [(13, 10)] ++ [(15, 16385)] ++ [(13, 8)] ++ [(13, 1000)] ++ [(13, 24)] ++ [(13, 6)] ++ [(13, 6)] ++ [(14, 360)] ++ [(14, 60)]).length = _; simp [hl]
  intro q hq j
  rw [hs] at hq
  have h := hF q (by omega) j
  refine ⟨?_, ?_, h.2.2⟩
  · show (upR (upR (upR (upR (upR (upR (upR (upR (upR (upR (upR (upR (upR (upR (upR (upR (upR (upR (upR (upR (upR (upR (upR (upR (upR (upR (upR (M.2.1) (a) 0 (some (a + 1))) (a) 1 (some (a + 2))) (a) 2 (some (a + 3))) (a) 3 (some (a + 4))) (a) 4 (some (a + 5))) (a) 5 (some (a + 6))) (a) 7 (some (a + 7))) (a) 9 (some (a + 8))) (a) 16 (some (a + 9))) (a) 17 (some (a + 10))) (a) 18 (some (a + 11))) (a) 19 (some (a + 12))) (a) 25 (some (a + 13))) (a) 26 (some (a + 14))) (a) 27 (some (a + 15))) (a) 29 (some (a + 16))) (a) 31 (some (a + 17))) (a) 32 (some (a + 18))) (a) 33 (some (a + 19))) (a) 40 (some (a + 20))) (a) 53 (some (a + 21))) (a) 55 (some (a + 22))) (a) 56 (some (a + 23))) (a) 61 (some (a + 24))) (a) 62 (some (a + 25))) (a) 63 (some (a + 26))) (a) 64 (some (a + 27))) q j = none
    simp only [upR, rfM]
    repeat rw [if_neg (by omega)]
    exact h.1
  · show (wI (wI (wI (wI (wI (wI (wI (wI (M.2.2) (a) 21 (-1)) (a) 48 (-1)) (a + 24) 0 (-1)) (a + 24) 1 (-1)) (a + 24) 2 (-1)) (a + 24) 3 (-1)) (a + 24) 4 (-1)) (a + 24) 5 (-1)).1 q j = 0
    simp only [wI, fiI]
    repeat rw [if_neg (by omega)]
    exact h.2.1
