/-! Rules of J: constants, locals, arithmetic, branches. -/
section
variable {G : Gm} {Y : MD} {d mc ms : Nat} {T : Type} {fin : T → Option V × Hm} {k n pc : Nat} {L : List (Option V)} {st : List V} {M : Hm} {X : Option T}
theorem J_none : J G Y d mc ms fin k n pc L st M none := fun u hu => by cases hu
theorem J_pc {q : Nat} (h : pc = q) (kk : J G Y d mc ms fin k n q L st M X) : J G Y d mc ms fin k n pc L st M X := by rw [h]; exact kk
theorem J_iconst {i : Int} {v : Int32} (hd : decode Y.2.1 pc = .ok (.iconst i, 1)) (hv : Int32.ofInt i = v) (kk : J G Y d mc ms fin k n (pc + 1) L (vI v :: st) M X) : J G Y d mc ms fin k n pc L st M X := fun u hu p e s m args below meth c H locs ls hC hR hS hL => lv_iconst hC.1 hC.2.1 hd hv (kk u hu p e s m args below meth c H locs ls hC hR hS hL)
theorem J_bipush {i : Int} {v : Int32} (hd : decode Y.2.1 pc = .ok (.bipush i, 2)) (hv : (Int8.ofInt i).toInt32 = v) (kk : J G Y d mc ms fin k n (pc + 2) L (vI v :: st) M X) : J G Y d mc ms fin k n pc L st M X := fun u hu p e s m args below meth c H locs ls hC hR hS hL => lv_bipush hC.1 hC.2.1 hd hv (kk u hu p e s m args below meth c H locs ls hC hR hS hL)
theorem J_sipush {i : Int} {v : Int32} (hd : decode Y.2.1 pc = .ok (.sipush i, 3)) (hv : (Int16.ofInt i).toInt32 = v) (kk : J G Y d mc ms fin k n (pc + 3) L (vI v :: st) M X) : J G Y d mc ms fin k n pc L st M X := fun u hu p e s m args below meth c H locs ls hC hR hS hL => lv_sipush hC.1 hC.2.1 hd hv (kk u hu p e s m args below meth c H locs ls hC hR hS hL)
theorem J_lconst {i : Fin 2} {v : Int64} (hd : decode Y.2.1 pc = .ok (.lconst i, 1)) (hv : Int64.ofNat (i : Nat) = v) (kk : J G Y d mc ms fin k n (pc + 1) L (vL v :: st) M X) : J G Y d mc ms fin k n pc L st M X := fun u hu p e s m args below meth c H locs ls hC hR hS hL => lv_lconst hC.1 hC.2.1 hd hv (kk u hu p e s m args below meth c H locs ls hC hR hS hL)
theorem J_aconst_null (hd : decode Y.2.1 pc = .ok (.aconst_null, 1)) (kk : J G Y d mc ms fin k n (pc + 1) L (vR none :: st) M X) : J G Y d mc ms fin k n pc L st M X := fun u hu p e s m args below meth c H locs ls hC hR hS hL => lv_null hC.1 hC.2.1 hd (kk u hu p e s m args below meth c H locs ls hC hR hS hL)
theorem J_ldc {i : Nat} {v : Int32} (hw : Cond.constant Y.1 i v ∈ TT) (hd : decode Y.2.1 pc = .ok (.ldc i, 2)) (kk : J G Y d mc ms fin k n (pc + 2) L (vI v :: st) M X) : J G Y d mc ms fin k n pc L st M X := fun u hu p e s m args below meth c H locs ls hC hR hS hL => lv_ldc hC.1 hC.2.1 hC.2.2.2.2.1 (hC.2.2.2.2.2.1 _ hw) hd (kk u hu p e s m args below meth c H locs ls hC hR hS hL)
theorem J_ldc_w {i : Nat} {v : Int32} (hw : Cond.constant Y.1 i v ∈ TT) (hd : decode Y.2.1 pc = .ok (.ldc_w i, 3)) (kk : J G Y d mc ms fin k n (pc + 3) L (vI v :: st) M X) : J G Y d mc ms fin k n pc L st M X := fun u hu p e s m args below meth c H locs ls hC hR hS hL => lv_ldcw hC.1 hC.2.1 hC.2.2.2.2.1 (hC.2.2.2.2.2.1 _ hw) hd (kk u hu p e s m args below meth c H locs ls hC hR hS hL)
theorem J_ldc2_w {i : Nat} {v : Int64} (hw : Cond.constantLong Y.1 i v ∈ TT) (hd : decode Y.2.1 pc = .ok (.ldc2_w i, 3)) (kk : J G Y d mc ms fin k n (pc + 3) L (vL v :: st) M X) : J G Y d mc ms fin k n pc L st M X := fun u hu p e s m args below meth c H locs ls hC hR hS hL => lv_ldc2 hC.1 hC.2.1 hC.2.2.2.2.1 (hC.2.2.2.2.2.1 _ hw) hd (kk u hu p e s m args below meth c H locs ls hC hR hS hL)
theorem J_iload_n {kf : Fin 4} {i : Nat} {x : Int32} (hd : decode Y.2.1 pc = .ok (.iload_n kf, 1)) (hi : (kf : Nat) = i) (hl : L[i]? = some (some (vI x))) (kk : J G Y d mc ms fin k n (pc + 1) L (vI x :: st) M X) : J G Y d mc ms fin k n pc L st M X := fun u hu p e s m args below meth c H locs ls hC hR hS hL => lv_iload_n hC.1 hC.2.1 hd hi (hL.2.2 _ _ hl) (kk u hu p e s m args below meth c H locs ls hC hR hS hL)
theorem J_iload {i : Nat} {x : Int32} (hd : decode Y.2.1 pc = .ok (.iload i, 2)) (hl : L[i]? = some (some (vI x))) (kk : J G Y d mc ms fin k n (pc + 2) L (vI x :: st) M X) : J G Y d mc ms fin k n pc L st M X := fun u hu p e s m args below meth c H locs ls hC hR hS hL => lv_iload hC.1 hC.2.1 hd (hL.2.2 _ _ hl) (kk u hu p e s m args below meth c H locs ls hC hR hS hL)
theorem J_lload_n {kf : Fin 4} {i : Nat} {x : Int64} (hd : decode Y.2.1 pc = .ok (.lload_n kf, 1)) (hi : (kf : Nat) = i) (hl : L[i]? = some (some (vL x))) (kk : J G Y d mc ms fin k n (pc + 1) L (vL x :: st) M X) : J G Y d mc ms fin k n pc L st M X := fun u hu p e s m args below meth c H locs ls hC hR hS hL => lv_lload_n hC.1 hC.2.1 hd hi (hL.2.2 _ _ hl) (kk u hu p e s m args below meth c H locs ls hC hR hS hL)
theorem J_lload {i : Nat} {x : Int64} (hd : decode Y.2.1 pc = .ok (.lload i, 2)) (hl : L[i]? = some (some (vL x))) (kk : J G Y d mc ms fin k n (pc + 2) L (vL x :: st) M X) : J G Y d mc ms fin k n pc L st M X := fun u hu p e s m args below meth c H locs ls hC hR hS hL => lv_lload hC.1 hC.2.1 hd (hL.2.2 _ _ hl) (kk u hu p e s m args below meth c H locs ls hC hR hS hL)
theorem J_aload_n {kf : Fin 4} {i : Nat} {r : Option Nat} (hd : decode Y.2.1 pc = .ok (.aload_n kf, 1)) (hi : (kf : Nat) = i) (hl : L[i]? = some (some (vR r))) (kk : J G Y d mc ms fin k n (pc + 1) L (vR r :: st) M X) : J G Y d mc ms fin k n pc L st M X := fun u hu p e s m args below meth c H locs ls hC hR hS hL => by
  cases r with
  | none => exact lv_aload_nN hC.1 hC.2.1 hd hi (hL.2.2 _ _ hl) (kk u hu p e s m args below meth c H locs ls hC hR hS hL)
  | some a => exact lv_aload_n hC.1 hC.2.1 hd hi (hL.2.2 _ _ hl) (kk u hu p e s m args below meth c H locs ls hC hR hS hL)
theorem J_aload {i : Nat} {r : Option Nat} (hd : decode Y.2.1 pc = .ok (.aload i, 2)) (hl : L[i]? = some (some (vR r))) (kk : J G Y d mc ms fin k n (pc + 2) L (vR r :: st) M X) : J G Y d mc ms fin k n pc L st M X := fun u hu p e s m args below meth c H locs ls hC hR hS hL => by
  cases r with
  | none => exact lv_aloadN hC.1 hC.2.1 hd (hL.2.2 _ _ hl) (kk u hu p e s m args below meth c H locs ls hC hR hS hL)
  | some a => exact lv_aload hC.1 hC.2.1 hd (hL.2.2 _ _ hl) (kk u hu p e s m args below meth c H locs ls hC hR hS hL)
def toL (b : Nat) : Nat → List (Option V) → List (Nat × Value)
  | _, [] => []
  | i, none :: t => toL b (i + 1) t
  | i, some v :: t => (i, cv b v) :: toL b (i + 1) t
theorem mem_toL {b : Nat} : ∀ {L : List (Option V)} {i j : Nat} {v : V}, L[j]? = some (some v) → (i + j, cv b v) ∈ toL b i L
  | [], i, j, v, h => by cases h
  | o :: t, i, 0, v, h => by
    have h1 : some v = o := by simpa using h.symm
    subst h1
    exact List.mem_cons_self
  | o :: t, i, j + 1, v, h => by
    have h1 : t[j]? = some (some v) := by simpa using h
    have h2 := mem_toL (b := b) (i := i + 1) h1
    rw [show i + (j + 1) = i + 1 + j by omega]
    cases o with
    | none => exact h2
    | some w => exact List.mem_cons_of_mem _ h2
theorem toL_mem {b : Nat} : ∀ {L : List (Option V)} {i : Nat} {q : Nat × Value}, q ∈ toL b i L → ∃ j v, q = (i + j, cv b v) ∧ L[j]? = some (some v)
  | [], i, q, h => by cases h
  | none :: t, i, q, h => by
    obtain ⟨j, v, h1, h2⟩ := toL_mem (L := t) (i := i + 1) h
    exact ⟨j + 1, v, by rw [h1, show i + (j + 1) = i + 1 + j by omega], by simpa using h2⟩
  | some w :: t, i, q, h => by
    rcases List.mem_cons.mp h with h | h
    · exact ⟨0, w, h, by simp⟩
    · obtain ⟨j, v, h1, h2⟩ := toL_mem (L := t) (i := i + 1) h
      exact ⟨j + 1, v, by rw [h1, show i + (j + 1) = i + 1 + j by omega], by simpa using h2⟩
theorem LH.has {b : Nat} {ls : Array Slot} {nL : Nat} {L : List (Option V)} (h : LH b ls nL L) : lv_has ls nL (toL b 0 L) := by
  refine ⟨h.1, h.2.1, fun q hq => ?_⟩
  obtain ⟨j, v, rfl, h2⟩ := toL_mem hq
  rw [Nat.zero_add]
  exact h.2.2 j v h2
/-- the place ahead holds no long -/
def okW (L : List (Option V)) (i : Nat) : Bool := match i with
  | 0 => true
  | j + 1 => match L[j]? with
    | some (some (.inr (.inl _))) => false
    | _ => true
theorem LH.set1 {b : Nat} {ls : Array Slot} {nL i : Nat} {L : List (Option V)} {v : V} (hw : okW L i = true) (h : lv_has ls nL ((i, cv b v) :: (toL b 0 L).filter (fun q => !(q.1 == i) && !(q.1 + 1 == i && q.2.category == 2)))) : LH b ls nL (L.set i (some v)) := by
  refine ⟨h.1, h.2.1, fun j w hj => ?_⟩
  by_cases e : j = i
  · subst e
    have hlt : j < (L.set j (some v)).length := (List.getElem?_eq_some_iff.mp hj).1
    rw [List.length_set] at hlt
    rw [List.getElem?_set_self hlt] at hj
    cases hj
    exact h.2.2 (j, cv b v) List.mem_cons_self
  · rw [List.getElem?_set_ne (Ne.symm e)] at hj
    have hm := mem_toL (b := b) (i := 0) hj
    rw [Nat.zero_add] at hm
    refine h.2.2 (j, cv b w) (List.mem_cons_of_mem _ (List.mem_filter.mpr ⟨hm, ?_⟩))
    simp only [Bool.and_eq_true, Bool.not_eq_true', beq_eq_false_iff_ne, Bool.and_eq_false_iff, ne_eq]
    refine ⟨e, ?_⟩
    by_cases e2 : j + 1 = i
    · refine Or.inr ?_
      subst e2
      rw [cv_cat]
      simp only [okW, hj] at hw
      rcases w with x | x | x
      · simp
      · simp at hw
      · simp
    · exact Or.inl e2
theorem LH.set2 {b : Nat} {ls : Array Slot} {nL i : Nat} {L : List (Option V)} {v : V} (hw : okW L i = true) (h : lv_has ls nL ((i, cv b v) :: (toL b 0 L).filter (fun q => !(q.1 == i) && (!(q.1 == i + 1) && !(q.1 + 1 == i && q.2.category == 2))))) : LH b ls nL ((L.set i (some v)).set (i + 1) none) := by
  refine ⟨h.1, h.2.1, fun j w hj => ?_⟩
  by_cases e3 : j = i + 1
  · subst e3
    have hlt : i + 1 < ((L.set i (some v)).set (i + 1) none).length := (List.getElem?_eq_some_iff.mp hj).1
    rw [List.length_set] at hlt
    rw [List.getElem?_set_self hlt] at hj
    cases hj
  rw [List.getElem?_set_ne (Ne.symm e3)] at hj
  by_cases e : j = i
  · subst e
    have hlt : j < (L.set j (some v)).length := (List.getElem?_eq_some_iff.mp hj).1
    rw [List.length_set] at hlt
    rw [List.getElem?_set_self hlt] at hj
    cases hj
    exact h.2.2 (j, cv b v) List.mem_cons_self
  · rw [List.getElem?_set_ne (Ne.symm e)] at hj
    have hm := mem_toL (b := b) (i := 0) hj
    rw [Nat.zero_add] at hm
    refine h.2.2 (j, cv b w) (List.mem_cons_of_mem _ (List.mem_filter.mpr ⟨hm, ?_⟩))
    simp only [Bool.and_eq_true, Bool.not_eq_true', beq_eq_false_iff_ne, Bool.and_eq_false_iff, ne_eq]
    refine ⟨e, e3, ?_⟩
    by_cases e2 : j + 1 = i
    · refine Or.inr ?_
      subst e2
      rw [cv_cat]
      simp only [okW, hj] at hw
      rcases w with x | x | x
      · simp
      · simp at hw
      · simp
    · exact Or.inl e2
/-- fewer locals -/
def subL : List (Option V) → List (Option V) → Prop
  | [], _ => True
  | none :: t, [] => subL t []
  | none :: t, _ :: t2 => subL t t2
  | some v :: t, some w :: t2 => v = w ∧ subL t t2
  | some _ :: _, _ => False
theorem subL.at : ∀ {L L2 : List (Option V)}, subL L L2 → ∀ {i : Nat} {v : V}, L[i]? = some (some v) → L2[i]? = some (some v)
  | [], _, _, i, v, h => by cases h
  | none :: t, [], hs, 0, v, h => by simp at h
  | none :: t, [], hs, i + 1, v, h => by
    have h1 := subL.at (L := t) (L2 := []) hs (i := i) (v := v) (by simpa using h)
    cases h1
  | none :: t, _ :: t2, hs, 0, v, h => by simp at h
  | none :: t, _ :: t2, hs, i + 1, v, h => by
    have h1 := subL.at (L := t) (L2 := t2) hs (i := i) (v := v) (by simpa using h)
    simpa using h1
  | some w :: t, some w2 :: t2, hs, 0, v, h => by
    have e : w = v := by simpa using h
    have e2 : w = w2 := hs.1
    subst e; subst e2; rfl
  | some w :: t, some w2 :: t2, hs, i + 1, v, h => by
    have h1 := subL.at (L := t) (L2 := t2) hs.2 (i := i) (v := v) (by simpa using h)
    simpa using h1
  | some w :: t, none :: t2, hs, i, v, h => hs.elim
  | some w :: t, [], hs, i, v, h => hs.elim
theorem J_sub {L2 : List (Option V)} (h : subL L2 L) (kk : J G Y d mc ms fin k n pc L2 st M X) : J G Y d mc ms fin k n pc L st M X :=
  fun u hu p e s m args below meth c H locs ls hC hR hS hL => kk u hu p e s m args below meth c H locs ls hC hR hS ⟨hL.1, hL.2.1, fun i v hi => hL.2.2 i v (h.at hi)⟩
theorem J_sb {L2 : List (Option V)} (kk : J G Y d mc ms fin k n pc L2 st M X) (h : subL L2 L) : J G Y d mc ms fin k n pc L st M X := J_sub h kk
theorem J_istore_n {kf : Fin 4} {i : Nat} {x : Int32} (L2 : List (Option V)) (hd : decode Y.2.1 pc = .ok (.istore_n kf, 1)) (hi : (kf : Nat) = i) (hn : i < Y.2.2.1) (hw : okW L i = true) (h2 : L.set i (some (vI x)) = L2) (kk : J G Y d mc ms fin k n (pc + 1) L2 st M X) : J G Y d mc ms fin k n pc L (vI x :: st) M X := fun u hu p e s m args below meth c H locs ls hC hR hS hL => by
  subst h2
  exact lv_istore_n hC.1 hC.2.1 hd hi hL.has hn rfl (fun ls2 h => kk u hu p e s m args below meth c H locs ls2 hC hR hS (LH.set1 (v := vI x) hw h))
theorem J_istore {i : Nat} {x : Int32} (L2 : List (Option V)) (hd : decode Y.2.1 pc = .ok (.istore i, 2)) (hn : i < Y.2.2.1) (hw : okW L i = true) (h2 : L.set i (some (vI x)) = L2) (kk : J G Y d mc ms fin k n (pc + 2) L2 st M X) : J G Y d mc ms fin k n pc L (vI x :: st) M X := fun u hu p e s m args below meth c H locs ls hC hR hS hL => by
  subst h2
  exact lv_istore hC.1 hC.2.1 hd hL.has hn rfl (fun ls2 h => kk u hu p e s m args below meth c H locs ls2 hC hR hS (LH.set1 (v := vI x) hw h))
theorem J_lstore_n {kf : Fin 4} {i : Nat} {x : Int64} (L2 : List (Option V)) (hd : decode Y.2.1 pc = .ok (.lstore_n kf, 1)) (hi : (kf : Nat) = i) (hn : i + 1 < Y.2.2.1) (hw : okW L i = true) (h2 : (L.set i (some (vL x))).set (i + 1) none = L2) (kk : J G Y d mc ms fin k n (pc + 1) L2 st M X) : J G Y d mc ms fin k n pc L (vL x :: st) M X := fun u hu p e s m args below meth c H locs ls hC hR hS hL => by
  subst h2
  exact lv_lstore_n hC.1 hC.2.1 hd hi hL.has hn rfl (fun ls2 h => kk u hu p e s m args below meth c H locs ls2 hC hR hS (LH.set2 (v := vL x) hw h))
theorem J_lstore {i : Nat} {x : Int64} (L2 : List (Option V)) (hd : decode Y.2.1 pc = .ok (.lstore i, 2)) (hn : i + 1 < Y.2.2.1) (hw : okW L i = true) (h2 : (L.set i (some (vL x))).set (i + 1) none = L2) (kk : J G Y d mc ms fin k n (pc + 2) L2 st M X) : J G Y d mc ms fin k n pc L (vL x :: st) M X := fun u hu p e s m args below meth c H locs ls hC hR hS hL => by
  subst h2
  exact lv_lstore hC.1 hC.2.1 hd hL.has hn rfl (fun ls2 h => kk u hu p e s m args below meth c H locs ls2 hC hR hS (LH.set2 (v := vL x) hw h))
theorem J_astore_n {kf : Fin 4} {i : Nat} {r : Option Nat} (L2 : List (Option V)) (hd : decode Y.2.1 pc = .ok (.astore_n kf, 1)) (hi : (kf : Nat) = i) (hn : i < Y.2.2.1) (hw : okW L i = true) (h2 : L.set i (some (vR r)) = L2) (kk : J G Y d mc ms fin k n (pc + 1) L2 st M X) : J G Y d mc ms fin k n pc L (vR r :: st) M X := fun u hu p e s m args below meth c H locs ls hC hR hS hL => by
  subst h2
  cases r with
  | none => exact lv_astore_nN hC.1 hC.2.1 hd hi hL.has hn rfl (fun ls2 h => kk u hu p e s m args below meth c H locs ls2 hC hR hS (LH.set1 (v := vR none) hw h))
  | some a => exact lv_astore_n hC.1 hC.2.1 hd hi hL.has hn rfl (fun ls2 h => kk u hu p e s m args below meth c H locs ls2 hC hR hS (LH.set1 (v := vR (some a)) hw h))
theorem J_astore {i : Nat} {r : Option Nat} (L2 : List (Option V)) (hd : decode Y.2.1 pc = .ok (.astore i, 2)) (hn : i < Y.2.2.1) (hw : okW L i = true) (h2 : L.set i (some (vR r)) = L2) (kk : J G Y d mc ms fin k n (pc + 2) L2 st M X) : J G Y d mc ms fin k n pc L (vR r :: st) M X := fun u hu p e s m args below meth c H locs ls hC hR hS hL => by
  subst h2
  cases r with
  | none => exact lv_astoreN hC.1 hC.2.1 hd hL.has hn rfl (fun ls2 h => kk u hu p e s m args below meth c H locs ls2 hC hR hS (LH.set1 (v := vR none) hw h))
  | some a => exact lv_astore hC.1 hC.2.1 hd hL.has hn rfl (fun ls2 h => kk u hu p e s m args below meth c H locs ls2 hC hR hS (LH.set1 (v := vR (some a)) hw h))
theorem J_iinc {i : Nat} {z : Int} {x v : Int32} (L2 : List (Option V)) (hd : decode Y.2.1 pc = .ok (.iinc i z, 3)) (hl : L[i]? = some (some (vI x))) (hv : x + Int32.ofInt z = v) (hn : i < Y.2.2.1) (hw : okW L i = true) (h2 : L.set i (some (vI v)) = L2) (kk : J G Y d mc ms fin k n (pc + 3) L2 st M X) : J G Y d mc ms fin k n pc L st M X := fun u hu p e s m args below meth c H locs ls hC hR hS hL => by
  subst h2
  have hm := mem_toL (b := G.2.2.2) (i := 0) hl
  rw [Nat.zero_add] at hm
  obtain ⟨q, hq⟩ := List.getElem?_of_mem hm
  exact lv_iinc hC.1 hC.2.1 hd hL.has hq hv hn rfl (fun ls2 h => kk u hu p e s m args below meth c H locs ls2 hC hR hS (LH.set1 (v := vI v) hw h))
theorem J_iadd {x y : Int32} (hd : decode Y.2.1 pc = .ok (.iadd, 1)) (kk : J G Y d mc ms fin k n (pc + 1) L (vI (x + y) :: st) M X) : J G Y d mc ms fin k n pc L (vI y :: vI x :: st) M X := fun u hu p e s m args below meth c H locs ls hC hR hS hL => lv_iadd hC.1 hC.2.1 hd  (kk u hu p e s m args below meth c H locs ls hC hR hS hL)
theorem J_isub {x y : Int32} (hd : decode Y.2.1 pc = .ok (.isub, 1)) (kk : J G Y d mc ms fin k n (pc + 1) L (vI (x - y) :: st) M X) : J G Y d mc ms fin k n pc L (vI y :: vI x :: st) M X := fun u hu p e s m args below meth c H locs ls hC hR hS hL => lv_isub hC.1 hC.2.1 hd  (kk u hu p e s m args below meth c H locs ls hC hR hS hL)
theorem J_imul {x y : Int32} (hd : decode Y.2.1 pc = .ok (.imul, 1)) (kk : J G Y d mc ms fin k n (pc + 1) L (vI (x * y) :: st) M X) : J G Y d mc ms fin k n pc L (vI y :: vI x :: st) M X := fun u hu p e s m args below meth c H locs ls hC hR hS hL => lv_imul hC.1 hC.2.1 hd  (kk u hu p e s m args below meth c H locs ls hC hR hS hL)
theorem J_iand {x y : Int32} (hd : decode Y.2.1 pc = .ok (.iand, 1)) (kk : J G Y d mc ms fin k n (pc + 1) L (vI (x &&& y) :: st) M X) : J G Y d mc ms fin k n pc L (vI y :: vI x :: st) M X := fun u hu p e s m args below meth c H locs ls hC hR hS hL => lv_iand hC.1 hC.2.1 hd  (kk u hu p e s m args below meth c H locs ls hC hR hS hL)
theorem J_ior {x y : Int32} (hd : decode Y.2.1 pc = .ok (.ior, 1)) (kk : J G Y d mc ms fin k n (pc + 1) L (vI (x ||| y) :: st) M X) : J G Y d mc ms fin k n pc L (vI y :: vI x :: st) M X := fun u hu p e s m args below meth c H locs ls hC hR hS hL => lv_ior hC.1 hC.2.1 hd  (kk u hu p e s m args below meth c H locs ls hC hR hS hL)
theorem J_ixor {x y : Int32} (hd : decode Y.2.1 pc = .ok (.ixor, 1)) (kk : J G Y d mc ms fin k n (pc + 1) L (vI (x ^^^ y) :: st) M X) : J G Y d mc ms fin k n pc L (vI y :: vI x :: st) M X := fun u hu p e s m args below meth c H locs ls hC hR hS hL => lv_ixor hC.1 hC.2.1 hd  (kk u hu p e s m args below meth c H locs ls hC hR hS hL)
theorem J_ishl {x y : Int32} (hd : decode Y.2.1 pc = .ok (.ishl, 1)) (kk : J G Y d mc ms fin k n (pc + 1) L (vI (shlI x y) :: st) M X) : J G Y d mc ms fin k n pc L (vI y :: vI x :: st) M X := fun u hu p e s m args below meth c H locs ls hC hR hS hL => lv_ishl hC.1 hC.2.1 hd  (kk u hu p e s m args below meth c H locs ls hC hR hS hL)
theorem J_ishr {x y : Int32} (hd : decode Y.2.1 pc = .ok (.ishr, 1)) (kk : J G Y d mc ms fin k n (pc + 1) L (vI (shrI x y) :: st) M X) : J G Y d mc ms fin k n pc L (vI y :: vI x :: st) M X := fun u hu p e s m args below meth c H locs ls hC hR hS hL => lv_ishr hC.1 hC.2.1 hd  (kk u hu p e s m args below meth c H locs ls hC hR hS hL)
theorem J_ladd {x y : Int64} (hd : decode Y.2.1 pc = .ok (.ladd, 1)) (kk : J G Y d mc ms fin k n (pc + 1) L (vL (x + y) :: st) M X) : J G Y d mc ms fin k n pc L (vL y :: vL x :: st) M X := fun u hu p e s m args below meth c H locs ls hC hR hS hL => lv_ladd hC.1 hC.2.1 hd  (kk u hu p e s m args below meth c H locs ls hC hR hS hL)
theorem J_lsub {x y : Int64} (hd : decode Y.2.1 pc = .ok (.lsub, 1)) (kk : J G Y d mc ms fin k n (pc + 1) L (vL (x - y) :: st) M X) : J G Y d mc ms fin k n pc L (vL y :: vL x :: st) M X := fun u hu p e s m args below meth c H locs ls hC hR hS hL => lv_lsub hC.1 hC.2.1 hd  (kk u hu p e s m args below meth c H locs ls hC hR hS hL)
theorem J_land {x y : Int64} (hd : decode Y.2.1 pc = .ok (.land, 1)) (kk : J G Y d mc ms fin k n (pc + 1) L (vL (x &&& y) :: st) M X) : J G Y d mc ms fin k n pc L (vL y :: vL x :: st) M X := fun u hu p e s m args below meth c H locs ls hC hR hS hL => lv_land hC.1 hC.2.1 hd  (kk u hu p e s m args below meth c H locs ls hC hR hS hL)
theorem J_lor {x y : Int64} (hd : decode Y.2.1 pc = .ok (.lor, 1)) (kk : J G Y d mc ms fin k n (pc + 1) L (vL (x ||| y) :: st) M X) : J G Y d mc ms fin k n pc L (vL y :: vL x :: st) M X := fun u hu p e s m args below meth c H locs ls hC hR hS hL => lv_lor hC.1 hC.2.1 hd  (kk u hu p e s m args below meth c H locs ls hC hR hS hL)
theorem J_ineg {x : Int32} (hd : decode Y.2.1 pc = .ok (.ineg, 1)) (kk : J G Y d mc ms fin k n (pc + 1) L (vI (-x) :: st) M X) : J G Y d mc ms fin k n pc L (vI x :: st) M X := fun u hu p e s m args below meth c H locs ls hC hR hS hL => lv_ineg hC.1 hC.2.1 hd  (kk u hu p e s m args below meth c H locs ls hC hR hS hL)
theorem J_idiv {x y : Int32} (hne : ¬ y = 0) (hd : decode Y.2.1 pc = .ok (.idiv, 1)) (kk : J G Y d mc ms fin k n (pc + 1) L (vI (x / y) :: st) M X) : J G Y d mc ms fin k n pc L (vI y :: vI x :: st) M X := fun u hu p e s m args below meth c H locs ls hC hR hS hL => lv_idiv hC.1 hC.2.1 hd hne (kk u hu p e s m args below meth c H locs ls hC hR hS hL)
theorem J_idivZ {x y : Int32} (hd : decode Y.2.1 pc = .ok (.idiv, 1)) (kk : J G Y d mc ms fin k n (pc + 1) L (vI (x / y) :: st) M X) : J G Y d mc ms fin k n pc L (vI y :: vI x :: st) M (ckZ y X) := fun u hu => by
  unfold ckZ at hu
  by_cases h : y = 0
  · rw [if_pos h] at hu; cases hu
  · rw [if_neg h] at hu; exact J_idiv h hd kk u hu
theorem J_irem {x y : Int32} (hne : ¬ y = 0) (hd : decode Y.2.1 pc = .ok (.irem, 1)) (kk : J G Y d mc ms fin k n (pc + 1) L (vI (remI x y) :: st) M X) : J G Y d mc ms fin k n pc L (vI y :: vI x :: st) M X := fun u hu p e s m args below meth c H locs ls hC hR hS hL => lv_irem hC.1 hC.2.1 hd hne (kk u hu p e s m args below meth c H locs ls hC hR hS hL)
theorem J_iremZ {x y : Int32} (hd : decode Y.2.1 pc = .ok (.irem, 1)) (kk : J G Y d mc ms fin k n (pc + 1) L (vI (remI x y) :: st) M X) : J G Y d mc ms fin k n pc L (vI y :: vI x :: st) M (ckZ y X) := fun u hu => by
  unfold ckZ at hu
  by_cases h : y = 0
  · rw [if_pos h] at hu; cases hu
  · rw [if_neg h] at hu; exact J_irem h hd kk u hu
theorem J_i2l {x : Int32} (hd : decode Y.2.1 pc = .ok (.i2l, 1)) (kk : J G Y d mc ms fin k n (pc + 1) L (vL (x.toInt64) :: st) M X) : J G Y d mc ms fin k n pc L (vI x :: st) M X := fun u hu p e s m args below meth c H locs ls hC hR hS hL => lv_i2l hC.1 hC.2.1 hd rfl (kk u hu p e s m args below meth c H locs ls hC hR hS hL)
theorem J_l2i {x : Int64} (hd : decode Y.2.1 pc = .ok (.l2i, 1)) (kk : J G Y d mc ms fin k n (pc + 1) L (vI (x.toInt32) :: st) M X) : J G Y d mc ms fin k n pc L (vL x :: st) M X := fun u hu p e s m args below meth c H locs ls hC hR hS hL => lv_l2i hC.1 hC.2.1 hd rfl (kk u hu p e s m args below meth c H locs ls hC hR hS hL)
theorem J_i2b {x : Int32} (hd : decode Y.2.1 pc = .ok (.i2b, 1)) (kk : J G Y d mc ms fin k n (pc + 1) L (vI (x.toInt8.toInt32) :: st) M X) : J G Y d mc ms fin k n pc L (vI x :: st) M X := fun u hu p e s m args below meth c H locs ls hC hR hS hL => lv_i2b hC.1 hC.2.1 hd rfl (kk u hu p e s m args below meth c H locs ls hC hR hS hL)
theorem J_i2s {x : Int32} (hd : decode Y.2.1 pc = .ok (.i2s, 1)) (kk : J G Y d mc ms fin k n (pc + 1) L (vI (x.toInt16.toInt32) :: st) M X) : J G Y d mc ms fin k n pc L (vI x :: st) M X := fun u hu p e s m args below meth c H locs ls hC hR hS hL => lv_i2s hC.1 hC.2.1 hd rfl (kk u hu p e s m args below meth c H locs ls hC hR hS hL)
theorem J_iushr {x y : Int32} (hd : decode Y.2.1 pc = .ok (.iushr, 1)) (kk : J G Y d mc ms fin k n (pc + 1) L (vI (ushrI x y) :: st) M X) : J G Y d mc ms fin k n pc L (vI y :: vI x :: st) M X := fun u hu p e s m args below meth c H locs ls hC hR hS hL => lv_iushr hC.1 hC.2.1 hd rfl (kk u hu p e s m args below meth c H locs ls hC hR hS hL)
theorem J_lshl {x : Int64} {y : Int32} (hd : decode Y.2.1 pc = .ok (.lshl, 1)) (kk : J G Y d mc ms fin k n (pc + 1) L (vL (shlL x y) :: st) M X) : J G Y d mc ms fin k n pc L (vI y :: vL x :: st) M X := fun u hu p e s m args below meth c H locs ls hC hR hS hL => lv_lshl hC.1 hC.2.1 hd rfl (kk u hu p e s m args below meth c H locs ls hC hR hS hL)
theorem J_lshr {x : Int64} {y : Int32} (hd : decode Y.2.1 pc = .ok (.lshr, 1)) (kk : J G Y d mc ms fin k n (pc + 1) L (vL (shrL x y) :: st) M X) : J G Y d mc ms fin k n pc L (vI y :: vL x :: st) M X := fun u hu p e s m args below meth c H locs ls hC hR hS hL => lv_lshr hC.1 hC.2.1 hd rfl (kk u hu p e s m args below meth c H locs ls hC hR hS hL)
theorem J_lcmp {x y : Int64} (hd : decode Y.2.1 pc = .ok (.lcmp, 1)) (kk : J G Y d mc ms fin k n (pc + 1) L (vI (cmpL x y) :: st) M X) : J G Y d mc ms fin k n pc L (vL y :: vL x :: st) M X := fun u hu p e s m args below meth c H locs ls hC hR hS hL => W.lcmp hC.1 hC.2.1 hd  (kk u hu p e s m args below meth c H locs ls hC hR hS hL)
theorem J_dup {v : V} (hd : decode Y.2.1 pc = .ok (.dup, 1)) (hv : (match v with | .inr (.inl _) => 2 | _ => 1) = 1) (kk : J G Y d mc ms fin k n (pc + 1) L (v :: v :: st) M X) : J G Y d mc ms fin k n pc L (v :: st) M X := fun u hu p e s m args below meth c H locs ls hC hR hS hL => lv_dup hC.1 hC.2.1 hd (by rw [cv_cat]; exact hv) (kk u hu p e s m args below meth c H locs ls hC hR hS hL)
theorem J_pop {v : V} (hd : decode Y.2.1 pc = .ok (.pop, 1)) (hv : (match v with | .inr (.inl _) => 2 | _ => 1) = 1) (kk : J G Y d mc ms fin k n (pc + 1) L st M X) : J G Y d mc ms fin k n pc L (v :: st) M X := fun u hu p e s m args below meth c H locs ls hC hR hS hL => lv_pop hC.1 hC.2.1 hd (by rw [cv_cat]; exact hv) (kk u hu p e s m args below meth c H locs ls hC hR hS hL)
theorem J_dup2 {v v2 : V} (hd : decode Y.2.1 pc = .ok (.dup2, 1)) (hv : (match v with | .inr (.inl _) => 2 | _ => 1) = 1) (hv2 : (match v2 with | .inr (.inl _) => 2 | _ => 1) = 1) (kk : J G Y d mc ms fin k n (pc + 1) L (v :: v2 :: v :: v2 :: st) M X) : J G Y d mc ms fin k n pc L (v :: v2 :: st) M X := fun u hu p e s m args below meth c H locs ls hC hR hS hL => lv_dup2_11 hC.1 hC.2.1 hd (by rw [cv_cat]; exact hv) (by rw [cv_cat]; exact hv2) (kk u hu p e s m args below meth c H locs ls hC hR hS hL)
theorem J_if_eq {x : Int32} {off : Int} {tgt : Nat} {X1 X2 : Option T} (hd : decode Y.2.1 pc = .ok (.ifCond .eq off, 3)) (ht : (pc : Int) + off = (tgt : Int)) (k1 : x = 0 → J G Y d mc ms fin k n tgt L st M X1) (k2 : ¬ x = 0 → J G Y d mc ms fin k n (pc + 3) L st M X2) : J G Y d mc ms fin k n pc L (vI x :: st) M (if x = 0 then X1 else X2) := fun u hu p e s m args below meth c H locs ls hC hR hS hL => lv_if_eq hC.1 hC.2.1 hd ht (fun h => k1 h u (by rw [if_pos h] at hu; exact hu) p e s m args below meth c H locs ls hC hR hS hL) (fun h => k2 h u (by rw [if_neg h] at hu; exact hu) p e s m args below meth c H locs ls hC hR hS hL)
theorem J_icmp_eq {x y : Int32} {off : Int} {tgt : Nat} {X1 X2 : Option T} (hd : decode Y.2.1 pc = .ok (.if_icmp .eq off, 3)) (ht : (pc : Int) + off = (tgt : Int)) (k1 : x = y → J G Y d mc ms fin k n tgt L st M X1) (k2 : ¬ x = y → J G Y d mc ms fin k n (pc + 3) L st M X2) : J G Y d mc ms fin k n pc L (vI y :: vI x :: st) M (if x = y then X1 else X2) := fun u hu p e s m args below meth c H locs ls hC hR hS hL => lv_icmp_eq hC.1 hC.2.1 hd ht (fun h => k1 h u (by rw [if_pos h] at hu; exact hu) p e s m args below meth c H locs ls hC hR hS hL) (fun h => k2 h u (by rw [if_neg h] at hu; exact hu) p e s m args below meth c H locs ls hC hR hS hL)
theorem J_if_ne {x : Int32} {off : Int} {tgt : Nat} {X1 X2 : Option T} (hd : decode Y.2.1 pc = .ok (.ifCond .ne off, 3)) (ht : (pc : Int) + off = (tgt : Int)) (k2 : x = 0 → J G Y d mc ms fin k n (pc + 3) L st M X1) (k1 : ¬ x = 0 → J G Y d mc ms fin k n tgt L st M X2) : J G Y d mc ms fin k n pc L (vI x :: st) M (if x = 0 then X1 else X2) := fun u hu p e s m args below meth c H locs ls hC hR hS hL => lv_if_ne hC.1 hC.2.1 hd ht (fun h => k1 h u (by rw [if_neg h] at hu; exact hu) p e s m args below meth c H locs ls hC hR hS hL) (fun h => k2 h u (by rw [if_pos h] at hu; exact hu) p e s m args below meth c H locs ls hC hR hS hL)
theorem J_icmp_ne {x y : Int32} {off : Int} {tgt : Nat} {X1 X2 : Option T} (hd : decode Y.2.1 pc = .ok (.if_icmp .ne off, 3)) (ht : (pc : Int) + off = (tgt : Int)) (k2 : x = y → J G Y d mc ms fin k n (pc + 3) L st M X1) (k1 : ¬ x = y → J G Y d mc ms fin k n tgt L st M X2) : J G Y d mc ms fin k n pc L (vI y :: vI x :: st) M (if x = y then X1 else X2) := fun u hu p e s m args below meth c H locs ls hC hR hS hL => lv_icmp_ne hC.1 hC.2.1 hd ht (fun h => k1 h u (by rw [if_neg h] at hu; exact hu) p e s m args below meth c H locs ls hC hR hS hL) (fun h => k2 h u (by rw [if_pos h] at hu; exact hu) p e s m args below meth c H locs ls hC hR hS hL)
theorem J_if_lt {x : Int32} {off : Int} {tgt : Nat} {X1 X2 : Option T} (hd : decode Y.2.1 pc = .ok (.ifCond .lt off, 3)) (ht : (pc : Int) + off = (tgt : Int)) (k1 : x < 0 → J G Y d mc ms fin k n tgt L st M X1) (k2 : ¬ x < 0 → J G Y d mc ms fin k n (pc + 3) L st M X2) : J G Y d mc ms fin k n pc L (vI x :: st) M (if x < 0 then X1 else X2) := fun u hu p e s m args below meth c H locs ls hC hR hS hL => lv_if_lt hC.1 hC.2.1 hd ht (fun h => k1 h u (by rw [if_pos h] at hu; exact hu) p e s m args below meth c H locs ls hC hR hS hL) (fun h => k2 h u (by rw [if_neg h] at hu; exact hu) p e s m args below meth c H locs ls hC hR hS hL)
theorem J_icmp_lt {x y : Int32} {off : Int} {tgt : Nat} {X1 X2 : Option T} (hd : decode Y.2.1 pc = .ok (.if_icmp .lt off, 3)) (ht : (pc : Int) + off = (tgt : Int)) (k1 : x < y → J G Y d mc ms fin k n tgt L st M X1) (k2 : ¬ x < y → J G Y d mc ms fin k n (pc + 3) L st M X2) : J G Y d mc ms fin k n pc L (vI y :: vI x :: st) M (if x < y then X1 else X2) := fun u hu p e s m args below meth c H locs ls hC hR hS hL => lv_icmp_lt hC.1 hC.2.1 hd ht (fun h => k1 h u (by rw [if_pos h] at hu; exact hu) p e s m args below meth c H locs ls hC hR hS hL) (fun h => k2 h u (by rw [if_neg h] at hu; exact hu) p e s m args below meth c H locs ls hC hR hS hL)
theorem J_if_ge {x : Int32} {off : Int} {tgt : Nat} {X1 X2 : Option T} (hd : decode Y.2.1 pc = .ok (.ifCond .ge off, 3)) (ht : (pc : Int) + off = (tgt : Int)) (k1 : 0 ≤ x → J G Y d mc ms fin k n tgt L st M X1) (k2 : ¬ 0 ≤ x → J G Y d mc ms fin k n (pc + 3) L st M X2) : J G Y d mc ms fin k n pc L (vI x :: st) M (if 0 ≤ x then X1 else X2) := fun u hu p e s m args below meth c H locs ls hC hR hS hL => lv_if_ge hC.1 hC.2.1 hd ht (fun h => k1 h u (by rw [if_pos h] at hu; exact hu) p e s m args below meth c H locs ls hC hR hS hL) (fun h => k2 h u (by rw [if_neg h] at hu; exact hu) p e s m args below meth c H locs ls hC hR hS hL)
theorem J_icmp_ge {x y : Int32} {off : Int} {tgt : Nat} {X1 X2 : Option T} (hd : decode Y.2.1 pc = .ok (.if_icmp .ge off, 3)) (ht : (pc : Int) + off = (tgt : Int)) (k1 : y ≤ x → J G Y d mc ms fin k n tgt L st M X1) (k2 : ¬ y ≤ x → J G Y d mc ms fin k n (pc + 3) L st M X2) : J G Y d mc ms fin k n pc L (vI y :: vI x :: st) M (if y ≤ x then X1 else X2) := fun u hu p e s m args below meth c H locs ls hC hR hS hL => lv_icmp_ge hC.1 hC.2.1 hd ht (fun h => k1 h u (by rw [if_pos h] at hu; exact hu) p e s m args below meth c H locs ls hC hR hS hL) (fun h => k2 h u (by rw [if_neg h] at hu; exact hu) p e s m args below meth c H locs ls hC hR hS hL)
theorem J_if_gt {x : Int32} {off : Int} {tgt : Nat} {X1 X2 : Option T} (hd : decode Y.2.1 pc = .ok (.ifCond .gt off, 3)) (ht : (pc : Int) + off = (tgt : Int)) (k1 : 0 < x → J G Y d mc ms fin k n tgt L st M X1) (k2 : ¬ 0 < x → J G Y d mc ms fin k n (pc + 3) L st M X2) : J G Y d mc ms fin k n pc L (vI x :: st) M (if 0 < x then X1 else X2) := fun u hu p e s m args below meth c H locs ls hC hR hS hL => lv_if_gt hC.1 hC.2.1 hd ht (fun h => k1 h u (by rw [if_pos h] at hu; exact hu) p e s m args below meth c H locs ls hC hR hS hL) (fun h => k2 h u (by rw [if_neg h] at hu; exact hu) p e s m args below meth c H locs ls hC hR hS hL)
theorem J_icmp_gt {x y : Int32} {off : Int} {tgt : Nat} {X1 X2 : Option T} (hd : decode Y.2.1 pc = .ok (.if_icmp .gt off, 3)) (ht : (pc : Int) + off = (tgt : Int)) (k1 : y < x → J G Y d mc ms fin k n tgt L st M X1) (k2 : ¬ y < x → J G Y d mc ms fin k n (pc + 3) L st M X2) : J G Y d mc ms fin k n pc L (vI y :: vI x :: st) M (if y < x then X1 else X2) := fun u hu p e s m args below meth c H locs ls hC hR hS hL => lv_icmp_gt hC.1 hC.2.1 hd ht (fun h => k1 h u (by rw [if_pos h] at hu; exact hu) p e s m args below meth c H locs ls hC hR hS hL) (fun h => k2 h u (by rw [if_neg h] at hu; exact hu) p e s m args below meth c H locs ls hC hR hS hL)
theorem J_if_le {x : Int32} {off : Int} {tgt : Nat} {X1 X2 : Option T} (hd : decode Y.2.1 pc = .ok (.ifCond .le off, 3)) (ht : (pc : Int) + off = (tgt : Int)) (k1 : x ≤ 0 → J G Y d mc ms fin k n tgt L st M X1) (k2 : ¬ x ≤ 0 → J G Y d mc ms fin k n (pc + 3) L st M X2) : J G Y d mc ms fin k n pc L (vI x :: st) M (if x ≤ 0 then X1 else X2) := fun u hu p e s m args below meth c H locs ls hC hR hS hL => lv_if_le hC.1 hC.2.1 hd ht (fun h => k1 h u (by rw [if_pos h] at hu; exact hu) p e s m args below meth c H locs ls hC hR hS hL) (fun h => k2 h u (by rw [if_neg h] at hu; exact hu) p e s m args below meth c H locs ls hC hR hS hL)
theorem J_icmp_le {x y : Int32} {off : Int} {tgt : Nat} {X1 X2 : Option T} (hd : decode Y.2.1 pc = .ok (.if_icmp .le off, 3)) (ht : (pc : Int) + off = (tgt : Int)) (k1 : x ≤ y → J G Y d mc ms fin k n tgt L st M X1) (k2 : ¬ x ≤ y → J G Y d mc ms fin k n (pc + 3) L st M X2) : J G Y d mc ms fin k n pc L (vI y :: vI x :: st) M (if x ≤ y then X1 else X2) := fun u hu p e s m args below meth c H locs ls hC hR hS hL => lv_icmp_le hC.1 hC.2.1 hd ht (fun h => k1 h u (by rw [if_pos h] at hu; exact hu) p e s m args below meth c H locs ls hC hR hS hL) (fun h => k2 h u (by rw [if_neg h] at hu; exact hu) p e s m args below meth c H locs ls hC hR hS hL)
theorem J_goto {off : Int} {tgt : Nat} (hd : decode Y.2.1 pc = .ok (.goto off, 3)) (ht : (pc : Int) + off = (tgt : Int)) (kk : J G Y d mc ms fin k n tgt L st M X) : J G Y d mc ms fin k n pc L st M X := fun u hu p e s m args below meth c H locs ls hC hR hS hL => lv_goto hC.1 hC.2.1 hd ht (kk u hu p e s m args below meth c H locs ls hC hR hS hL)
theorem J_ifnull {r : Option Nat} {off : Int} {tgt : Nat} {X1 : Option T} {X2 : Nat → Option T} (hd : decode Y.2.1 pc = .ok (.ifnull off, 3)) (ht : (pc : Int) + off = (tgt : Int)) (k1 : r = none → J G Y d mc ms fin k n tgt L st M X1) (k2 : ∀ a, r = some a → J G Y d mc ms fin k n (pc + 3) L st M (X2 a)) : J G Y d mc ms fin k n pc L (vR r :: st) M (ifN r X1 X2) := fun u hu p e s m args below meth c H locs ls hC hR hS hL => by
  cases r with
  | none => exact lv_ifnullN hC.1 hC.2.1 hd ht (k1 rfl u hu p e s m args below meth c H locs ls hC hR hS hL)
  | some a => exact lv_ifnull hC.1 hC.2.1 hd (k2 a rfl u hu p e s m args below meth c H locs ls hC hR hS hL)
theorem J_ifnonnull {r : Option Nat} {off : Int} {tgt : Nat} {X1 : Option T} {X2 : Nat → Option T} (hd : decode Y.2.1 pc = .ok (.ifnonnull off, 3)) (ht : (pc : Int) + off = (tgt : Int)) (k1 : r = none → J G Y d mc ms fin k n (pc + 3) L st M X1) (k2 : ∀ a, r = some a → J G Y d mc ms fin k n tgt L st M (X2 a)) : J G Y d mc ms fin k n pc L (vR r :: st) M (ifN r X1 X2) := fun u hu p e s m args below meth c H locs ls hC hR hS hL => by
  cases r with
  | none => exact lv_ifnonnullN hC.1 hC.2.1 hd (k1 rfl u hu p e s m args below meth c H locs ls hC hR hS hL)
  | some a => exact lv_ifnonnull hC.1 hC.2.1 hd ht (k2 a rfl u hu p e s m args below meth c H locs ls hC hR hS hL)
theorem J_onR {r : Option Nat} {K : Nat → Option T} (kk : ∀ a, r = some a → J G Y d mc ms fin k n pc L st M (K a)) : J G Y d mc ms fin k n pc L st M (onR r K) := by
  cases r with
  | none => exact J_none
  | some a => exact kk a rfl
theorem J_ckA {l : List Nat} {a : Nat} (kk : a ∈ l → J G Y d mc ms fin k n pc L st M X) : J G Y d mc ms fin k n pc L st M (ckA l a X) := by
  unfold ckA
  by_cases h : a ∈ l
  · rw [if_pos h]; exact kk h
  · rw [if_neg h]; exact J_none
theorem J_ckI {i : Int32} {q : Nat} (kk : ¬ (i < 0 ∨ q ≤ i.toNatClampNeg) → J G Y d mc ms fin k n pc L st M X) : J G Y d mc ms fin k n pc L st M (ckI i q X) := by
  unfold ckI
  by_cases h : i < 0 ∨ q ≤ i.toNatClampNeg
  · rw [if_pos h]; exact J_none
  · rw [if_neg h]; exact kk h
theorem J_ckB {x : Int32} (kk : x = 0 ∨ x = 1 → J G Y d mc ms fin k n pc L st M X) : J G Y d mc ms fin k n pc L st M (ckB x X) := by
  unfold ckB
  by_cases h : x = 0 ∨ x = 1
  · rw [if_pos h]; exact kk h
  · rw [if_neg h]; exact J_none
/-- a tableswitch: the numbers told, in any order, cover lo .. hi -/
theorem J_table {x : Int32} {dflt lo hi : Int} {offs : Array Int} {len : Nat} (l : List (Int32 × Option T)) {Xd : Option T} {td : Nat} (hd : decode Y.2.1 pc = .ok (.tableswitch dflt lo hi offs, len)) (hcov : ∀ z : Int32, lo ≤ z.toInt → z.toInt ≤ hi → z ∈ l.map Prod.fst)
    (hl : ∀ q ∈ l, ∃ (o : Int) (tgt : Nat), lo ≤ q.1.toInt ∧ q.1.toInt ≤ hi ∧ offs[(q.1.toInt - lo).toNat]? = some o ∧ (pc : Int) + o = (tgt : Int) ∧ (x = q.1 → J G Y d mc ms fin k n tgt L st M q.2)) (htd : (pc : Int) + dflt = (td : Int)) (kd : J G Y d mc ms fin k n td L st M Xd) : J G Y d mc ms fin k n pc L (vI x :: st) M (sw x l Xd) := by
  have key : ∀ l2 : List (Int32 × Option T), (∀ q ∈ l2, q ∈ l) → ∀ u, sw x l2 Xd = some u → (∃ q ∈ l2, x = q.1 ∧ q.2 = some u) ∨ ((∀ q ∈ l2, ¬ x = q.1) ∧ Xd = some u) := by
    intro l2
    induction l2 with
    | nil => intro _ u h; exact Or.inr ⟨fun q hq => (by cases hq), h⟩
    | cons q t ih =>
      intro hs u h
      unfold sw at h
      by_cases e : x = q.1
      · rw [if_pos e] at h
        exact Or.inl ⟨q, List.mem_cons_self, e, h⟩
      · rw [if_neg e] at h
        rcases ih (fun z hz => hs z (List.mem_cons_of_mem _ hz)) u h with ⟨z, h1, h2⟩ | ⟨h1, h2⟩
        · exact Or.inl ⟨z, List.mem_cons_of_mem _ h1, h2⟩
        · refine Or.inr ⟨fun z hz => ?_, h2⟩
          rcases List.mem_cons.mp hz with rfl | hz
          · exact e
          · exact h1 z hz
  intro u hu p e s m args below meth c H locs ls hC hR hS hL
  rcases key l (fun _ h => h) u hu with ⟨q, h1, h2, h3⟩ | ⟨h1, h2⟩
  · obtain ⟨o, tgt, g1, g2, g3, g4, g5⟩ := hl q h1
    rw [← h2] at g1 g2 g3
    exact lv_tableIn hC.1 hC.2.1 hd (by omega) (by omega) g3 g4 (g5 h2 u h3 p e s m args below meth c H locs ls hC hR hS hL)
  · refine lv_tableOut hC.1 hC.2.1 hd ?_ htd (kd u h2 p e s m args below meth c H locs ls hC hR hS hL)
    by_cases a1 : x.toInt < lo
    · exact Or.inl a1
    · by_cases a2 : hi < x.toInt
      · exact Or.inr a2
      · obtain ⟨q, hq, hx⟩ := List.mem_map.mp (hcov x (by omega) (by omega))
        exact absurd hx.symm (h1 q hq)
theorem tb_mk {x κ : Int32} {lo hi o : Int} {offs : Array Int} {tgt : Nat} {X2 : Option T} (h : lo ≤ κ.toInt ∧ κ.toInt ≤ hi ∧ offs[(κ.toInt - lo).toNat]? = some o ∧ (pc : Int) + o = (tgt : Int)) (kk : x = κ → J G Y d mc ms fin k n tgt L st M X2) : ∃ (o : Int) (tgt : Nat), lo ≤ ((κ, X2) : Int32 × Option T).1.toInt ∧ ((κ, X2) : Int32 × Option T).1.toInt ≤ hi ∧ offs[(((κ, X2) : Int32 × Option T).1.toInt - lo).toNat]? = some o ∧ (pc : Int) + o = (tgt : Int) ∧ (x = ((κ, X2) : Int32 × Option T).1 → J G Y d mc ms fin k n tgt L st M ((κ, X2) : Int32 × Option T).2) := ⟨o, tgt, h.1, h.2.1, h.2.2.1, h.2.2.2, kk⟩
theorem lk_mk {x κ : Int32} {o : Int} {ps : Array (Int × Int)} {tgt : Nat} {X2 : Option T} (h : (κ.toInt, o) ∈ ps.toList ∧ (pc : Int) + o = (tgt : Int)) (kk : x = κ → J G Y d mc ms fin k n tgt L st M X2) : ∃ (o : Int) (tgt : Nat), (((κ, X2) : Int32 × Option T).1.toInt, o) ∈ ps.toList ∧ (pc : Int) + o = (tgt : Int) ∧ (x = ((κ, X2) : Int32 × Option T).1 → J G Y d mc ms fin k n tgt L st M ((κ, X2) : Int32 × Option T).2) := ⟨o, tgt, h.1, h.2, kk⟩
theorem cov_of {lo : Int} {N : Nat} {ks : List Int32} (h : (List.range N).all (fun i => ks.contains (Int32.ofInt (lo + i))) = true) (z : Int32) (h1 : lo ≤ z.toInt) (h2 : z.toInt < lo + N) : z ∈ ks := by
  have h3 := List.all_eq_true.mp h (z.toInt - lo).toNat (List.mem_range.mpr (by omega))
  have e : Int32.ofInt (lo + ((z.toInt - lo).toNat : Nat)) = z := by
    rw [show (lo + ((z.toInt - lo).toNat : Nat) : Int) = z.toInt by omega]
    exact Int32.ofInt_toInt z
  rw [e] at h3
  exact List.contains_iff_mem.mp h3
theorem offset_in {ps : List (Int × Int)} {dflt x o : Int} (hn : (ps.map Prod.fst).Nodup) (h : (x, o) ∈ ps) : Op.lookupswitch.offset ps dflt x = o := by
  induction ps with
  | nil => cases h
  | cons q t ih =>
    obtain ⟨a, b⟩ := q
    rcases List.mem_cons.mp h with h7 | h8
    · cases h7
      simp [Op.lookupswitch.offset]
    · have hn2 := List.nodup_cons.mp (by simpa using hn : (a :: t.map Prod.fst).Nodup)
      have hne : ¬ x = a := fun e => hn2.1 (by subst e; exact List.mem_map.mpr ⟨(x, o), h8, rfl⟩)
      have := ih hn2.2 h8
      simp only [Op.lookupswitch.offset] at this ⊢
      simp [Ne.symm hne, hne, this]
theorem offset_out {ps : List (Int × Int)} {dflt x : Int} (h : x ∉ ps.map Prod.fst) : Op.lookupswitch.offset ps dflt x = dflt := by
  induction ps with
  | nil => simp [Op.lookupswitch.offset]
  | cons q t ih =>
    obtain ⟨a, b⟩ := q
    have h2 : ¬ x = a ∧ x ∉ t.map Prod.fst := by simpa using h
    have := ih h2.2
    simp only [Op.lookupswitch.offset] at this ⊢
    simp [Ne.symm h2.1, h2.1, this]
theorem J_lookup {x : Int32} {dflt : Int} {ps : Array (Int × Int)} {len : Nat} (l : List (Int32 × Option T)) {Xd : Option T} {td : Nat} (hd : decode Y.2.1 pc = .ok (.lookupswitch dflt ps, len)) (hp : (ps.toList.zip (ps.toList.drop 1)).all (fun (a, next) => a.1 < next.1) = true) (hn : (ps.toList.map Prod.fst).Nodup) (hk : l.map (fun q => q.1.toInt) = ps.toList.map Prod.fst)
    (hl : ∀ q ∈ l, ∃ (o : Int) (tgt : Nat), (q.1.toInt, o) ∈ ps.toList ∧ (pc : Int) + o = (tgt : Int) ∧ (x = q.1 → J G Y d mc ms fin k n tgt L st M q.2)) (htd : (pc : Int) + dflt = (td : Int)) (kd : J G Y d mc ms fin k n td L st M Xd) : J G Y d mc ms fin k n pc L (vI x :: st) M (sw x l Xd) := by
  have key : ∀ l2 : List (Int32 × Option T), (∀ q ∈ l2, q ∈ l) → ∀ u, sw x l2 Xd = some u → (∃ q ∈ l2, x = q.1 ∧ q.2 = some u) ∨ ((∀ q ∈ l2, ¬ x = q.1) ∧ Xd = some u) := by
    intro l2
    induction l2 with
    | nil => intro _ u h; exact Or.inr ⟨fun q hq => (by cases hq), h⟩
    | cons q t ih =>
      intro hs u h
      unfold sw at h
      by_cases e : x = q.1
      · rw [if_pos e] at h
        exact Or.inl ⟨q, List.mem_cons_self, e, h⟩
      · rw [if_neg e] at h
        rcases ih (fun z hz => hs z (List.mem_cons_of_mem _ hz)) u h with ⟨z, h1, h2⟩ | ⟨h1, h2⟩
        · exact Or.inl ⟨z, List.mem_cons_of_mem _ h1, h2⟩
        · refine Or.inr ⟨fun z hz => ?_, h2⟩
          rcases List.mem_cons.mp hz with rfl | hz
          · exact e
          · exact h1 z hz
  intro u hu p e s m args below meth c H locs ls hC hR hS hL
  rcases key l (fun _ h => h) u hu with ⟨q, h1, h2, h3⟩ | ⟨h1, h2⟩
  · obtain ⟨o, tgt, g1, g4, g5⟩ := hl q h1
    rw [← h2] at g1
    exact lv_lookup hC.1 hC.2.1 hd hp (offset_in hn g1) g4 (g5 h2 u h3 p e s m args below meth c H locs ls hC hR hS hL)
  · refine lv_lookup hC.1 hC.2.1 hd hp (offset_out (fun hx => ?_)) htd (kd u h2 p e s m args below meth c H locs ls hC hR hS hL)
    rw [← hk] at hx
    obtain ⟨q, hq, e1⟩ := List.mem_map.mp hx
    exact h1 q hq (Int32.toInt_inj.mp e1.symm)
end
