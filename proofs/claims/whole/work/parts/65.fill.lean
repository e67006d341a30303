/-! Arrays.fill; a new array of three ints. -/
theorem J_step_ge {G : Gm} {Y : MD} {d mc ms : Nat} {T : Type} {fin : T → Option V × Hm} {k n pc : Nat} {L : List (Option V)} {st : List V} {M : Hm} {X : Option T} {x y : Int32} {off : Int} {tgt : Nat} (h : y ≤ x) (hd : decode Y.2.1 pc = .ok (.if_icmp .ge off, 3)) (ht : (pc : Int) + off = (tgt : Int)) (kk : J G Y d mc ms fin k n tgt L st M X) : J G Y d mc ms fin k n pc L (vI y :: vI x :: st) M X := by
  have := J_icmp_ge (X1 := X) (X2 := X) (x := x) (y := y) hd ht (fun _ => kk) (fun q => absurd h q)
  rwa [if_pos h] at this
theorem J_step_lt {G : Gm} {Y : MD} {d mc ms : Nat} {T : Type} {fin : T → Option V × Hm} {k n pc : Nat} {L : List (Option V)} {st : List V} {M : Hm} {X : Option T} {x y : Int32} {off : Int} {tgt : Nat} (h : ¬ y ≤ x) (hd : decode Y.2.1 pc = .ok (.if_icmp .ge off, 3)) (ht : (pc : Int) + off = (tgt : Int)) (kk : J G Y d mc ms fin k n (pc + 3) L st M X) : J G Y d mc ms fin k n pc L (vI y :: vI x :: st) M X := by
  have := J_icmp_ge (X1 := none) (X2 := X) (x := x) (y := y) hd ht (fun _ => J_none) (fun _ => kk)
  rwa [if_neg h] at this
theorem dJ7_fill_d0a16_0 : decode cJ7_fill_d0a16 0 = .ok (.iconst 0, 1) := by decide +kernel
theorem dJ7_fill_d0a16_1 : decode cJ7_fill_d0a16 1 = .ok (.istore_n 3, 1) := by decide +kernel
theorem dJ7_fill_d0a16_2 : decode cJ7_fill_d0a16 2 = .ok (.aload_n 0, 1) := by decide +kernel
theorem dJ7_fill_d0a16_3 : decode cJ7_fill_d0a16 3 = .ok (.arraylength, 1) := by decide +kernel
theorem dJ7_fill_d0a16_4 : decode cJ7_fill_d0a16 4 = .ok (.istore 4, 2) := by decide +kernel
theorem dJ7_fill_d0a16_6 : decode cJ7_fill_d0a16 6 = .ok (.iload_n 3, 1) := by decide +kernel
theorem dJ7_fill_d0a16_7 : decode cJ7_fill_d0a16 7 = .ok (.iload 4, 2) := by decide +kernel
theorem dJ7_fill_d0a16_9 : decode cJ7_fill_d0a16 9 = .ok (.if_icmp .ge 13, 3) := by decide +kernel
theorem dJ7_fill_d0a16_12 : decode cJ7_fill_d0a16 12 = .ok (.aload_n 0, 1) := by decide +kernel
theorem dJ7_fill_d0a16_13 : decode cJ7_fill_d0a16 13 = .ok (.iload_n 3, 1) := by decide +kernel
theorem dJ7_fill_d0a16_14 : decode cJ7_fill_d0a16 14 = .ok (.lload_n 1, 1) := by decide +kernel
theorem dJ7_fill_d0a16_15 : decode cJ7_fill_d0a16 15 = .ok (.lastore, 1) := by decide +kernel
theorem dJ7_fill_d0a16_16 : decode cJ7_fill_d0a16 16 = .ok (.iinc 3 1, 3) := by decide +kernel
theorem dJ7_fill_d0a16_19 : decode cJ7_fill_d0a16 19 = .ok (.goto (-13), 3) := by decide +kernel
theorem dJ7_fill_d0a16_22 : decode cJ7_fill_d0a16 22 = .ok (.return_, 1) := by decide +kernel
theorem dJ7_fill_53178_0 : decode cJ7_fill_53178 0 = .ok (.iconst 0, 1) := by decide +kernel
theorem dJ7_fill_53178_1 : decode cJ7_fill_53178 1 = .ok (.istore_n 2, 1) := by decide +kernel
theorem dJ7_fill_53178_2 : decode cJ7_fill_53178 2 = .ok (.aload_n 0, 1) := by decide +kernel
theorem dJ7_fill_53178_3 : decode cJ7_fill_53178 3 = .ok (.arraylength, 1) := by decide +kernel
theorem dJ7_fill_53178_4 : decode cJ7_fill_53178 4 = .ok (.istore_n 3, 1) := by decide +kernel
theorem dJ7_fill_53178_5 : decode cJ7_fill_53178 5 = .ok (.iload_n 2, 1) := by decide +kernel
theorem dJ7_fill_53178_6 : decode cJ7_fill_53178 6 = .ok (.iload_n 3, 1) := by decide +kernel
theorem dJ7_fill_53178_7 : decode cJ7_fill_53178 7 = .ok (.if_icmp .ge 13, 3) := by decide +kernel
theorem dJ7_fill_53178_10 : decode cJ7_fill_53178 10 = .ok (.aload_n 0, 1) := by decide +kernel
theorem dJ7_fill_53178_11 : decode cJ7_fill_53178 11 = .ok (.iload_n 2, 1) := by decide +kernel
theorem dJ7_fill_53178_12 : decode cJ7_fill_53178 12 = .ok (.iload_n 1, 1) := by decide +kernel
theorem dJ7_fill_53178_13 : decode cJ7_fill_53178 13 = .ok (.iastore, 1) := by decide +kernel
theorem dJ7_fill_53178_14 : decode cJ7_fill_53178 14 = .ok (.iinc 2 1, 3) := by decide +kernel
theorem dJ7_fill_53178_17 : decode cJ7_fill_53178 17 = .ok (.goto (-12), 3) := by decide +kernel
theorem dJ7_fill_53178_20 : decode cJ7_fill_53178 20 = .ok (.return_, 1) := by decide +kernel
theorem fiI_0 (S : St) (a : Nat) (x : Int32) : fiI S a 0 x = S := by
  unfold fiI
  simp
theorem fiI_s (S : St) (a i : Nat) (x : Int32) : wI (fiI S a i x) a i x = fiI S a (i + 1) x := by
  unfold wI fiI
  have h : (fun q k => if q = a ∧ k = i then x else if q = a ∧ k < i then x else S.1 q k) = (fun q k => if q = a ∧ k < i + 1 then x else S.1 q k) := by
    funext q k
    by_cases h1 : q = a
    · by_cases h2 : k = i
      · simp [h1, h2]
      · by_cases h3 : k < i
        · simp [h1, h3, Nat.lt_succ_of_lt h3]
        · have h4 : ¬ k < i + 1 := by omega
          simp [h1, h2, h3, h4]
    · simp [h1]
  first | exact congrArg (fun f => (f, S.2)) h | exact congrArg (fun f => (S.1, f)) h
theorem jJ7_fill_53178 (G : Gm) (t : Nat) {a N : Nat} (h : (SHt t)[a]? = some (13, N)) (hN : N < 2147483648) (x : Int32) (S : St) : ∀ (m i : Nat), i + m = N → J G YJ7_fill_53178 1 0 0 (fV t) 0 0 5 [some (vR (some a)), some (vI x), some (vI (nI i)), some (vI (Int32.ofNat N))] [] (MM t (fiI S a i x)) (some ((), fiI S a N x)) := by
  intro m
  induction m with
  | zero =>
    intro i hi
    refine J_iload_n dJ7_fill_53178_5 rfl rfl ?_
    refine J_iload_n dJ7_fill_53178_6 rfl rfl ?_
    refine J_step_ge (tgt := 20) (nI_le (Nat.le_of_eq hi.symm) (by omega)) dJ7_fill_53178_7 (by decide) ?_
    rw [show i = N from hi]
    exact J_return rfl (Nat.le_refl _) (Nat.le_refl _) rfl dJ7_fill_53178_20
  | succ m ih =>
    intro i hi
    refine J_iload_n dJ7_fill_53178_5 rfl rfl ?_
    refine J_iload_n dJ7_fill_53178_6 rfl rfl ?_
    refine J_step_lt (nI_ge (a := i) (b := N) (by omega) (by omega)) (tgt := 20) dJ7_fill_53178_7 (by decide) ?_
    refine J_aload_n dJ7_fill_53178_10 rfl rfl ?_
    refine J_iload_n dJ7_fill_53178_11 rfl rfl ?_
    refine J_iload_n dJ7_fill_53178_12 rfl rfl ?_
    have e : ckI (nI i) N (some ((), fiI S a N x)) = some ((), fiI S a N x) := if_neg (nI_in (by omega) (by omega))
    rw [← e]
    refine K_iast h dJ7_fill_53178_13 ?_
    rw [nI_clamp (by omega), fiI_s]
    refine J_iinc (v := nI (i + 1)) [some (vR (some a)), some (vI x), some (vI (nI (i + 1))), some (vI (Int32.ofNat N))] dJ7_fill_53178_14 rfl (nI_1 i) (Nat.le_of_ble_eq_true rfl) rfl rfl ?_
    refine J_goto (tgt := 5) dJ7_fill_53178_17 (by decide) ?_
    exact ih (i + 1) (by omega)
theorem ctJ7_fill_53178 (G : Gm) (t : Nat) {a N : Nat} (h : (SHt t)[a]? = some (13, N)) (hN : N < 2147483648) {x : Int32} {S : St} : Ct G YJ7_fill_53178 yJ7_fill_53178 1 0 0 (fV t) (some ((), fiI S a N x)) [vR (some a), vI x] (MM t S) := by
  refine Ct_of_J [some (vR (some a)), some (vI x), none, none] (by decide) rfl (fun h => by cases h) (Nat.le_of_ble_eq_true rfl) (And.intro rfl (And.intro rfl trivial)) ?_
  refine J_iconst (v := 0) dJ7_fill_53178_0 (by decide) ?_
  refine J_istore_n [some (vR (some a)), some (vI x), some (vI 0), none] dJ7_fill_53178_1 rfl (Nat.le_of_ble_eq_true rfl) rfl rfl ?_
  refine J_aload_n dJ7_fill_53178_2 rfl rfl ?_
  refine K_alen (kd := 13) h (by decide) rfl dJ7_fill_53178_3 ?_
  refine J_istore_n [some (vR (some a)), some (vI x), some (vI 0), some (vI (Int32.ofNat N))] dJ7_fill_53178_4 rfl (Nat.le_of_ble_eq_true rfl) rfl rfl ?_
  have k := jJ7_fill_53178 G t h hN x S N 0 (by omega)
  rw [fiI_0] at k
  exact k
theorem fiL_0 (S : St) (a : Nat) (x : Int64) : fiL S a 0 x = S := by
  unfold fiL
  simp
theorem fiL_s (S : St) (a i : Nat) (x : Int64) : wL (fiL S a i x) a i x = fiL S a (i + 1) x := by
  unfold wL fiL
  have h : (fun q k => if q = a ∧ k = i then x else if q = a ∧ k < i then x else S.2 q k) = (fun q k => if q = a ∧ k < i + 1 then x else S.2 q k) := by
    funext q k
    by_cases h1 : q = a
    · by_cases h2 : k = i
      · simp [h1, h2]
      · by_cases h3 : k < i
        · simp [h1, h3, Nat.lt_succ_of_lt h3]
        · have h4 : ¬ k < i + 1 := by omega
          simp [h1, h2, h3, h4]
    · simp [h1]
  first | exact congrArg (fun f => (f, S.2)) h | exact congrArg (fun f => (S.1, f)) h
theorem jJ7_fill_d0a16 (G : Gm) (t : Nat) {a N : Nat} (h : (SHt t)[a]? = some (14, N)) (hN : N < 2147483648) (x : Int64) (S : St) : ∀ (m i : Nat), i + m = N → J G YJ7_fill_d0a16 1 0 0 (fV t) 0 0 6 [some (vR (some a)), some (vL x), none, some (vI (nI i)), some (vI (Int32.ofNat N))] [] (MM t (fiL S a i x)) (some ((), fiL S a N x)) := by
  intro m
  induction m with
  | zero =>
    intro i hi
    refine J_iload_n dJ7_fill_d0a16_6 rfl rfl ?_
    refine J_iload dJ7_fill_d0a16_7 rfl ?_
    refine J_step_ge (tgt := 22) (nI_le (Nat.le_of_eq hi.symm) (by omega)) dJ7_fill_d0a16_9 (by decide) ?_
    rw [show i = N from hi]
    exact J_return rfl (Nat.le_refl _) (Nat.le_refl _) rfl dJ7_fill_d0a16_22
  | succ m ih =>
    intro i hi
    refine J_iload_n dJ7_fill_d0a16_6 rfl rfl ?_
    refine J_iload dJ7_fill_d0a16_7 rfl ?_
    refine J_step_lt (nI_ge (a := i) (b := N) (by omega) (by omega)) (tgt := 22) dJ7_fill_d0a16_9 (by decide) ?_
    refine J_aload_n dJ7_fill_d0a16_12 rfl rfl ?_
    refine J_iload_n dJ7_fill_d0a16_13 rfl rfl ?_
    refine J_lload_n dJ7_fill_d0a16_14 rfl rfl ?_
    have e : ckI (nI i) N (some ((), fiL S a N x)) = some ((), fiL S a N x) := if_neg (nI_in (by omega) (by omega))
    rw [← e]
    refine K_last h dJ7_fill_d0a16_15 ?_
    rw [nI_clamp (by omega), fiL_s]
    refine J_iinc (v := nI (i + 1)) [some (vR (some a)), some (vL x), none, some (vI (nI (i + 1))), some (vI (Int32.ofNat N))] dJ7_fill_d0a16_16 rfl (nI_1 i) (Nat.le_of_ble_eq_true rfl) rfl rfl ?_
    refine J_goto (tgt := 6) dJ7_fill_d0a16_19 (by decide) ?_
    exact ih (i + 1) (by omega)
theorem ctJ7_fill_d0a16 (G : Gm) (t : Nat) {a N : Nat} (h : (SHt t)[a]? = some (14, N)) (hN : N < 2147483648) {x : Int64} {S : St} : Ct G YJ7_fill_d0a16 yJ7_fill_d0a16 1 0 0 (fV t) (some ((), fiL S a N x)) [vR (some a), vL x] (MM t S) := by
  refine Ct_of_J [some (vR (some a)), some (vL x), none, none, none] (by decide) rfl (fun h => by cases h) (Nat.le_of_ble_eq_true rfl) (And.intro rfl (And.intro rfl trivial)) ?_
  refine J_iconst (v := 0) dJ7_fill_d0a16_0 (by decide) ?_
  refine J_istore_n [some (vR (some a)), some (vL x), none, some (vI 0), none] dJ7_fill_d0a16_1 rfl (Nat.le_of_ble_eq_true rfl) rfl rfl ?_
  refine J_aload_n dJ7_fill_d0a16_2 rfl rfl ?_
  refine K_alen (kd := 14) h (by decide) rfl dJ7_fill_d0a16_3 ?_
  refine J_istore [some (vR (some a)), some (vL x), none, some (vI 0), some (vI (Int32.ofNat N))] dJ7_fill_d0a16_4 (Nat.le_of_ble_eq_true rfl) rfl rfl ?_
  have k := jJ7_fill_d0a16 G t h hN x S N 0 (by omega)
  rw [fiL_0] at k
  exact k
/-- a new array of three ints behind all that is there -/
theorem K_newi {G : Gm} {Y : MD} {d : Nat} {T : Type} {fin : T → Option V × Hm} {pc : Nat} {L : List (Option V)} {st : List V} {t : Nat} {S : St} {X : Option T} (hd : decode Y.2.1 pc = .ok (.newarray .int, 2)) (kk : J G Y d 1 3 fin 1 3 (pc + 2) L (vR (some (174 + t)) :: st) (MM (t + 1) (fiI S (174 + t) 3 0)) X) : J G Y d 1 3 fin 0 0 pc L (vI (nI 3) :: st) (MM t S) X := fun u hu p e s m args below meth c H locs ls hC hR hS hL => by
  have hlen : (SHt t).length = 174 + t := by unfold SHt; rw [List.length_append, sh0_len, List.length_replicate]
  have hlen1 : (SHt (t + 1)).length = 174 + t + 1 := by unfold SHt; rw [List.length_append, sh0_len, List.length_replicate]; omega
  have hH : H.size = G.2.2.2 + (174 + t) := by rw [hR.2]; show _ + (SHt t).length = _; rw [hlen]
  refine va_newaK (N := 3) hC.1 hC.2.1 (atype := .int) (hC.ts _ w_arrI) rfl hd rfl (by decide) (by decide) (by decide) (Nat.le_refl 1) (Nat.le_refl 3) hH (fun H1 cA e1 z1 o1 _ hcA => ?_)
  have hcA2 : cA = G.2.2.1 13 := by
    have h2 : s.vm.findClass ("[" ++ FieldType.int.toString) = some (G.2.2.1 13) := (hC.kn.2 0 _ rfl).2
    exact Option.some.inj (hcA.symm.trans h2)
  subst hcA2
  have hsh : ∀ c, c < 174 + t → (SHt (t + 1))[c]? = (SHt t)[c]? := by
    intro c hc
    unfold SHt
    by_cases h : c < 174
    · rw [List.getElem?_append_left (by rw [sh0_len]; exact h), List.getElem?_append_left (by rw [sh0_len]; exact h)]
    · rw [List.getElem?_append_right (by rw [sh0_len]; omega), List.getElem?_append_right (by rw [sh0_len]; omega), sh0_len, List.getElem?_replicate, List.getElem?_replicate, if_pos (by omega), if_pos (by omega)]
  have hce : ∀ c z, c ≠ 174 + t → ce G (MM (t + 1) (fiI S (174 + t) 3 0)) c z = ce G (MM t S) c z := by
    intro c z hc
    have e2 : (fiI S (174 + t) 3 0).1 c = S.1 c := funext fun q => by simp [fiI, hc]
    unfold ce fv MM
    simp only [e2]
    rfl
  refine kk u hu p e s m args below meth c H1 locs ls hC ⟨fun k x hk => ?_, by rw [z1]; show _ = _ + (SHt (t + 1)).length; rw [hlen1]; omega⟩ ⟨Nat.le_trans hS.1 (by omega), fun q h1 h2 => (o1 q (by rw [← hH]; exact Nat.lt_of_lt_of_le h1 hS.1)).trans (hS.2.1 q h1 h2), hS.2.2⟩ hL
  obtain ⟨z, g1, rfl⟩ := wsO_get hk
  by_cases h : k = 174 + t
  · subst h
    have g2 : z = (13, 3) := Option.some.inj (g1.symm.trans sqt)
    subst g2
    rw [ce_int (Or.inl rfl)]
    show H1[_]? = some (vp_cell _ _)
    rw [vp_cell_i]
    refine e1.trans (congrArg some ?_)
    unfold arrV
    congr 1
    apply Array.ext
    · simp
    · intro j j1 j2
      have j3 : j < 3 := by simpa using j1
      have : (fiI S (174 + t) 3 0).1 (174 + t) j = 0 := by simp [fiI, j3]
      simp only [Array.getElem_ofFn]
      show defaultValue (newarray.typeOf .int) = Value.int ((fiI S (174 + t) 3 0).1 (174 + t) j)
      rw [this]
      rfl
  · have g2 : k < 174 + t := by
      have := (List.getElem?_eq_some_iff.mp g1).1
      have h9 : (MM (t + 1) (fiI S (174 + t) 3 0)).1.length = 174 + t + 1 := hlen1
      omega
    rw [hce k z h]
    have g3 : (MM t S).1[k]? = some z := by rw [← g1]; exact (hsh k g2).symm
    exact (hR.at g3).kept (o1 _ (by omega))
