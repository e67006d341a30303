/-! The rules of J where the layout stands: MM t S. -/
section
variable {G : Gm} {Y : MD} {d mc ms : Nat} {T : Type} {fin : T → Option V × Hm} {k n pc : Nat} {L : List (Option V)} {st : List V} {t : Nat} {S : St} {M : Hm} {X : Option T}
theorem J_ltI {e : Int32} {K : Int32 → Option T} (kk : ∀ x, x = e → J G Y d mc ms fin k n pc L (vI x :: st) M (K x)) : J G Y d mc ms fin k n pc L (vI e :: st) M (lt e K) := kk e rfl
theorem J_ltJ {e : Int64} {K : Int64 → Option T} (kk : ∀ x, x = e → J G Y d mc ms fin k n pc L (vL x :: st) M (K x)) : J G Y d mc ms fin k n pc L (vL e :: st) M (lt e K) := kk e rfl
theorem J_ltS {e : St} {K : St → Option T} (kk : ∀ S2, S2 = e → J G Y d mc ms fin k n pc L st (MM t S2) (K S2)) : J G Y d mc ms fin k n pc L st (MM t e) (lt e K) := kk e rfl
theorem K_getI {idx ci kf a : Nat} {fn : Bool} (hc : CF ci) (hf : FL Y.1 idx ci kf fn) (ha : (SHt t)[a]? = some (ci, nF ci)) (hty : fty ci kf = .int ∨ fty ci kf = .boolean) (hd : decode Y.2.1 pc = .ok (.getfield idx, 3)) (kk : J G Y d mc ms fin k n (pc + 3) L (vI (S.1 a kf) :: st) (MM t S) X) : J G Y d mc ms fin k n pc L (vR (some a) :: st) (MM t S) X := J_getI hc hf ha hty hd kk
theorem K_getL {idx ci kf a : Nat} {fn : Bool} (hc : CF ci) (hf : FL Y.1 idx ci kf fn) (ha : (SHt t)[a]? = some (ci, nF ci)) (hty : fty ci kf = .long) (hd : decode Y.2.1 pc = .ok (.getfield idx, 3)) (kk : J G Y d mc ms fin k n (pc + 3) L (vL (S.2 a kf) :: st) (MM t S) X) : J G Y d mc ms fin k n pc L (vR (some a) :: st) (MM t S) X := J_getL hc hf ha hty hd kk
theorem K_getR {idx ci kf a : Nat} {fn : Bool} {r : Option Nat} (hc : CF ci) (hf : FL Y.1 idx ci kf fn) (ha : (SHt t)[a]? = some (ci, nF ci)) (hr : rf0 a kf = r) (hty : (∃ z, fty ci kf = .object z) ∨ ∃ z, fty ci kf = .array z) (hd : decode Y.2.1 pc = .ok (.getfield idx, 3)) (kk : J G Y d mc ms fin k n (pc + 3) L (vR r :: st) (MM t S) X) : J G Y d mc ms fin k n pc L (vR (some a) :: st) (MM t S) X := J_getR hc hf ha hr hty hd kk
theorem K_putI {idx ci kf a : Nat} {x : Int32} (hc : CF ci) (hf : FL Y.1 idx ci kf false) (ha : (SHt t)[a]? = some (ci, nF ci)) (hty : fty ci kf = .int) (hd : decode Y.2.1 pc = .ok (.putfield idx, 3)) (kk : J G Y d mc ms fin k n (pc + 3) L st (MM t (wI S a kf x)) X) : J G Y d mc ms fin k n pc L (vI x :: vR (some a) :: st) (MM t S) X := J_putI hc hf ha hty hd kk
theorem K_putZ {idx ci kf a : Nat} {x : Int32} (hx : x = 0 ∨ x = 1) (hc : CF ci) (hf : FL Y.1 idx ci kf false) (ha : (SHt t)[a]? = some (ci, nF ci)) (hty : fty ci kf = .boolean) (hd : decode Y.2.1 pc = .ok (.putfield idx, 3)) (kk : J G Y d mc ms fin k n (pc + 3) L st (MM t (wI S a kf x)) X) : J G Y d mc ms fin k n pc L (vI x :: vR (some a) :: st) (MM t S) X := J_putZ hx hc hf ha hty hd kk
theorem K_putL {idx ci kf a : Nat} {x : Int64} (hc : CF ci) (hf : FL Y.1 idx ci kf false) (ha : (SHt t)[a]? = some (ci, nF ci)) (hty : fty ci kf = .long) (hd : decode Y.2.1 pc = .ok (.putfield idx, 3)) (kk : J G Y d mc ms fin k n (pc + 3) L st (MM t (wL S a kf x)) X) : J G Y d mc ms fin k n pc L (vL x :: vR (some a) :: st) (MM t S) X := J_putL hc hf ha hty hd kk
theorem K_iald {a N : Nat} {i : Int32} (ha : (SHt t)[a]? = some (13, N)) (hd : decode Y.2.1 pc = .ok (.iaload, 1)) (kk : J G Y d mc ms fin k n (pc + 1) L (vI (S.1 a i.toNatClampNeg) :: st) (MM t S) X) : J G Y d mc ms fin k n pc L (vI i :: vR (some a) :: st) (MM t S) (ckI i N X) := J_iald ha hd kk
theorem K_zald {a N : Nat} {i : Int32} (ha : (SHt t)[a]? = some (15, N)) (hd : decode Y.2.1 pc = .ok (.baload, 1)) (kk : J G Y d mc ms fin k n (pc + 1) L (vI (S.1 a i.toNatClampNeg) :: st) (MM t S) X) : J G Y d mc ms fin k n pc L (vI i :: vR (some a) :: st) (MM t S) (ckI i N X) := J_zald ha hd kk
theorem K_lald {a N : Nat} {i : Int32} (ha : (SHt t)[a]? = some (14, N)) (hd : decode Y.2.1 pc = .ok (.laload, 1)) (kk : J G Y d mc ms fin k n (pc + 1) L (vL (S.2 a i.toNatClampNeg) :: st) (MM t S) X) : J G Y d mc ms fin k n pc L (vI i :: vR (some a) :: st) (MM t S) (ckI i N X) := J_lald ha hd kk
theorem K_alen {a N kd : Nat} {v : Int32} (ha : (SHt t)[a]? = some (kd, N)) (hk : 13 ≤ kd ∧ kd < 20) (hv : Int32.ofNat N = v) (hd : decode Y.2.1 pc = .ok (.arraylength, 1)) (kk : J G Y d mc ms fin k n (pc + 1) L (vI v :: st) (MM t S) X) : J G Y d mc ms fin k n pc L (vR (some a) :: st) (MM t S) X := J_alen ha hk hv hd kk
theorem ckI_lt {i : Int32} {q : Nat} {u : T} (h : ckI i q X = some u) : i.toNatClampNeg < q := Nat.not_le.mp fun e => (ckI_some h).1 (Or.inr e)
theorem K_aald {a N kd : Nat} {i : Int32} {f : Nat → Option Nat} (ha : (SHt t)[a]? = some (kd, N)) (hk : 16 ≤ kd ∧ kd < 20) (hf : ∀ j, j < N → rf0 a j = f j) (hd : decode Y.2.1 pc = .ok (.aaload, 1)) (kk : i.toNatClampNeg < N → J G Y d mc ms fin k n (pc + 1) L (vR (f i.toNatClampNeg) :: st) (MM t S) X) : J G Y d mc ms fin k n pc L (vI i :: vR (some a) :: st) (MM t S) (ckI i N X) := fun u hu => J_aald (M := MM t S) ha hk hf hd (kk (ckI_lt hu)) u hu
theorem K_iast {a N : Nat} {i x : Int32} (ha : (SHt t)[a]? = some (13, N)) (hd : decode Y.2.1 pc = .ok (.iastore, 1)) (kk : J G Y d mc ms fin k n (pc + 1) L st (MM t (wI S a i.toNatClampNeg x)) X) : J G Y d mc ms fin k n pc L (vI x :: vI i :: vR (some a) :: st) (MM t S) (ckI i N X) := J_iast ha hd kk
theorem K_zast {a N : Nat} {i x : Int32} (hx : x = 0 ∨ x = 1) (ha : (SHt t)[a]? = some (15, N)) (hd : decode Y.2.1 pc = .ok (.bastore, 1)) (kk : J G Y d mc ms fin k n (pc + 1) L st (MM t (wI S a i.toNatClampNeg x)) X) : J G Y d mc ms fin k n pc L (vI x :: vI i :: vR (some a) :: st) (MM t S) (ckI i N X) := J_zast hx ha hd kk
theorem K_last {a N : Nat} {i : Int32} {x : Int64} (ha : (SHt t)[a]? = some (14, N)) (hd : decode Y.2.1 pc = .ok (.lastore, 1)) (kk : J G Y d mc ms fin k n (pc + 1) L st (MM t (wL S a i.toNatClampNeg x)) X) : J G Y d mc ms fin k n pc L (vL x :: vI i :: vR (some a) :: st) (MM t S) (ckI i N X) := J_last ha hd kk
theorem bnd_eq {α β : Type} (F : Option (α × St)) (K : α → St → Option β) : bnd F K = F.bind (fun q => K q.1 q.2) := by cases F <;> rfl
-- calls
theorem K_callV_i {y : MethodName} {Y2 : MD} {na idx a ci d2 : Nat} {C : String} {F : Option ((Int32) × St)} {K : (Int32) → St → Option T} {As st0 : List V} (hm : MI y Y2 na C) (hl : Cond.methodLink Y.1 idx y ∈ TT) (hcl : cls[ci]?.map (fun q => q.1) = some C) (hci : ci < 13) (ha : (SHt t)[a]? = some (ci, nF ci)) (hM : Ct G Y2 y d2 0 0 (fI t) F (vR (some a) :: As) (MM t S)) (hna : As.length = na) (hst : st0 = As.reverse ++ vR (some a) :: st) (hw : wid st ≤ 8) (hd2 : d2 + 1 ≤ d) (hY2 : Y2.2.2.1 ≤ 61) (hd : decode Y.2.1 pc = .ok (.invokevirtual idx, 3)) (kk : ∀ r S2, J G Y d mc ms fin k n (pc + 3) L (vI r :: st) (MM t S2) (K r S2)) (hkn : k ≤ mc ∧ n ≤ ms := by decide) : J G Y d mc ms fin k n pc L st0 (MM t S) (bnd F K) := by
  rw [bnd_eq]
  exact J_callV (mc2 := 0) (ms2 := 0) As hm.1 hm.2.1 hm.2.2 hl hcl hci ha hM hna hst hw hd2 hY2 hkn.1 hkn.2 hd (fun u2 _ => kk u2.1 u2.2)
theorem K_callS_i {y : MethodName} {Y2 : MD} {na idx d2 : Nat} {F : Option ((Int32) × St)} {K : (Int32) → St → Option T} {As st0 : List V} (hm : MSt y Y2 na) (hl : Cond.methodLink Y.1 idx y ∈ TT) (hM : Ct G Y2 y d2 0 0 (fI t) F As (MM t S)) (hna : As.length = na) (hst : st0 = As.reverse ++ st) (hw : wid st ≤ 8) (hd2 : d2 + 1 ≤ d) (hY2 : Y2.2.2.1 ≤ 61) (hd : decode Y.2.1 pc = .ok (.invokestatic idx, 3)) (kk : ∀ r S2, J G Y d mc ms fin k n (pc + 3) L (vI r :: st) (MM t S2) (K r S2)) (hkn : k ≤ mc ∧ n ≤ ms := by decide) : J G Y d mc ms fin k n pc L st0 (MM t S) (bnd F K) := by
  rw [bnd_eq]
  exact J_callS (mc2 := 0) (ms2 := 0) As hm.1 hm.2 hl hM hna hst hw hd2 hY2 hkn.1 hkn.2 hd (fun u2 _ => kk u2.1 u2.2)
theorem K_callV_l {y : MethodName} {Y2 : MD} {na idx a ci d2 : Nat} {C : String} {F : Option ((Int64) × St)} {K : (Int64) → St → Option T} {As st0 : List V} (hm : MI y Y2 na C) (hl : Cond.methodLink Y.1 idx y ∈ TT) (hcl : cls[ci]?.map (fun q => q.1) = some C) (hci : ci < 13) (ha : (SHt t)[a]? = some (ci, nF ci)) (hM : Ct G Y2 y d2 0 0 (fL t) F (vR (some a) :: As) (MM t S)) (hna : As.length = na) (hst : st0 = As.reverse ++ vR (some a) :: st) (hw : wid st ≤ 8) (hd2 : d2 + 1 ≤ d) (hY2 : Y2.2.2.1 ≤ 61) (hd : decode Y.2.1 pc = .ok (.invokevirtual idx, 3)) (kk : ∀ r S2, J G Y d mc ms fin k n (pc + 3) L (vL r :: st) (MM t S2) (K r S2)) (hkn : k ≤ mc ∧ n ≤ ms := by decide) : J G Y d mc ms fin k n pc L st0 (MM t S) (bnd F K) := by
  rw [bnd_eq]
  exact J_callV (mc2 := 0) (ms2 := 0) As hm.1 hm.2.1 hm.2.2 hl hcl hci ha hM hna hst hw hd2 hY2 hkn.1 hkn.2 hd (fun u2 _ => kk u2.1 u2.2)
theorem K_callS_l {y : MethodName} {Y2 : MD} {na idx d2 : Nat} {F : Option ((Int64) × St)} {K : (Int64) → St → Option T} {As st0 : List V} (hm : MSt y Y2 na) (hl : Cond.methodLink Y.1 idx y ∈ TT) (hM : Ct G Y2 y d2 0 0 (fL t) F As (MM t S)) (hna : As.length = na) (hst : st0 = As.reverse ++ st) (hw : wid st ≤ 8) (hd2 : d2 + 1 ≤ d) (hY2 : Y2.2.2.1 ≤ 61) (hd : decode Y.2.1 pc = .ok (.invokestatic idx, 3)) (kk : ∀ r S2, J G Y d mc ms fin k n (pc + 3) L (vL r :: st) (MM t S2) (K r S2)) (hkn : k ≤ mc ∧ n ≤ ms := by decide) : J G Y d mc ms fin k n pc L st0 (MM t S) (bnd F K) := by
  rw [bnd_eq]
  exact J_callS (mc2 := 0) (ms2 := 0) As hm.1 hm.2 hl hM hna hst hw hd2 hY2 hkn.1 hkn.2 hd (fun u2 _ => kk u2.1 u2.2)
theorem K_callV_r {y : MethodName} {Y2 : MD} {na idx a ci d2 : Nat} {C : String} {F : Option ((Option Nat) × St)} {K : (Option Nat) → St → Option T} {As st0 : List V} (hm : MI y Y2 na C) (hl : Cond.methodLink Y.1 idx y ∈ TT) (hcl : cls[ci]?.map (fun q => q.1) = some C) (hci : ci < 13) (ha : (SHt t)[a]? = some (ci, nF ci)) (hM : Ct G Y2 y d2 0 0 (fR t) F (vR (some a) :: As) (MM t S)) (hna : As.length = na) (hst : st0 = As.reverse ++ vR (some a) :: st) (hw : wid st ≤ 8) (hd2 : d2 + 1 ≤ d) (hY2 : Y2.2.2.1 ≤ 61) (hd : decode Y.2.1 pc = .ok (.invokevirtual idx, 3)) (kk : ∀ r S2, J G Y d mc ms fin k n (pc + 3) L (vR r :: st) (MM t S2) (K r S2)) (hkn : k ≤ mc ∧ n ≤ ms := by decide) : J G Y d mc ms fin k n pc L st0 (MM t S) (bnd F K) := by
  rw [bnd_eq]
  exact J_callV (mc2 := 0) (ms2 := 0) As hm.1 hm.2.1 hm.2.2 hl hcl hci ha hM hna hst hw hd2 hY2 hkn.1 hkn.2 hd (fun u2 _ => kk u2.1 u2.2)
theorem K_callS_r {y : MethodName} {Y2 : MD} {na idx d2 : Nat} {F : Option ((Option Nat) × St)} {K : (Option Nat) → St → Option T} {As st0 : List V} (hm : MSt y Y2 na) (hl : Cond.methodLink Y.1 idx y ∈ TT) (hM : Ct G Y2 y d2 0 0 (fR t) F As (MM t S)) (hna : As.length = na) (hst : st0 = As.reverse ++ st) (hw : wid st ≤ 8) (hd2 : d2 + 1 ≤ d) (hY2 : Y2.2.2.1 ≤ 61) (hd : decode Y.2.1 pc = .ok (.invokestatic idx, 3)) (kk : ∀ r S2, J G Y d mc ms fin k n (pc + 3) L (vR r :: st) (MM t S2) (K r S2)) (hkn : k ≤ mc ∧ n ≤ ms := by decide) : J G Y d mc ms fin k n pc L st0 (MM t S) (bnd F K) := by
  rw [bnd_eq]
  exact J_callS (mc2 := 0) (ms2 := 0) As hm.1 hm.2 hl hM hna hst hw hd2 hY2 hkn.1 hkn.2 hd (fun u2 _ => kk u2.1 u2.2)
theorem K_callV_v {y : MethodName} {Y2 : MD} {na idx a ci d2 : Nat} {C : String} {F : Option ((Unit) × St)} {K : (Unit) → St → Option T} {As st0 : List V} (hm : MI y Y2 na C) (hl : Cond.methodLink Y.1 idx y ∈ TT) (hcl : cls[ci]?.map (fun q => q.1) = some C) (hci : ci < 13) (ha : (SHt t)[a]? = some (ci, nF ci)) (hM : Ct G Y2 y d2 0 0 (fV t) F (vR (some a) :: As) (MM t S)) (hna : As.length = na) (hst : st0 = As.reverse ++ vR (some a) :: st) (hw : wid st ≤ 8) (hd2 : d2 + 1 ≤ d) (hY2 : Y2.2.2.1 ≤ 61) (hd : decode Y.2.1 pc = .ok (.invokevirtual idx, 3)) (kk : ∀ r S2, J G Y d mc ms fin k n (pc + 3) L (st) (MM t S2) (K r S2)) (hkn : k ≤ mc ∧ n ≤ ms := by decide) : J G Y d mc ms fin k n pc L st0 (MM t S) (bnd F K) := by
  rw [bnd_eq]
  exact J_callV (mc2 := 0) (ms2 := 0) As hm.1 hm.2.1 hm.2.2 hl hcl hci ha hM hna hst hw hd2 hY2 hkn.1 hkn.2 hd (fun u2 _ => kk u2.1 u2.2)
theorem K_callS_v {y : MethodName} {Y2 : MD} {na idx d2 : Nat} {F : Option ((Unit) × St)} {K : (Unit) → St → Option T} {As st0 : List V} (hm : MSt y Y2 na) (hl : Cond.methodLink Y.1 idx y ∈ TT) (hM : Ct G Y2 y d2 0 0 (fV t) F As (MM t S)) (hna : As.length = na) (hst : st0 = As.reverse ++ st) (hw : wid st ≤ 8) (hd2 : d2 + 1 ≤ d) (hY2 : Y2.2.2.1 ≤ 61) (hd : decode Y.2.1 pc = .ok (.invokestatic idx, 3)) (kk : ∀ r S2, J G Y d mc ms fin k n (pc + 3) L (st) (MM t S2) (K r S2)) (hkn : k ≤ mc ∧ n ≤ ms := by decide) : J G Y d mc ms fin k n pc L st0 (MM t S) (bnd F K) := by
  rw [bnd_eq]
  exact J_callS (mc2 := 0) (ms2 := 0) As hm.1 hm.2 hl hM hna hst hw hd2 hY2 hkn.1 hkn.2 hd (fun u2 _ => kk u2.1 u2.2)
end
-- copies
theorem W_le {p : Program} {l : Launch} {e : Env} {R : Room} {s : State} {m : MethodId} {args : Array Value} {below : List Frame} {meth : Method} {c : Code} {H : Heap} {locs : List Loc} {cells slots : Nat} {Q : State → Prop} {g : JFrame} (h : H.size ≤ s.heap.size + cells → W p l e R s m args below meth c H locs cells slots Q g) : W p l e R s m args below meth c H locs cells slots Q g :=
  fun T hT X => h (by rw [← hT]; exact X.heapSize) T hT X
theorem wsO_set {G : Gm} {M M' : Hm} {a : Nat} {q : Nat × Nat} (ha : M.1[a]? = some q) (hs : M'.1 = M.1) (hne : ∀ c z, c ≠ a → M.1[c]? = some z → ce G M' c z = ce G M c z) : (wsO G M).set a (G.2.2.2 + a, ce G M' a q) = wsO G M' := by
  apply List.ext_getElem?
  intro i
  by_cases e : i = a
  · subst e
    rw [List.getElem?_set_self (by simp only [wsO, List.length_mapIdx]; exact (List.getElem?_eq_some_iff.mp ha).1), wsO_at (by rw [hs]; exact ha)]
  · rw [List.getElem?_set_ne (Ne.symm e)]
    cases hz : M.1[i]? with
    | none => simp [wsO, hs, hz]
    | some z => rw [wsO_at hz, wsO_at (by rw [hs]; exact hz), hne i z e hz]
theorem ce_cpI {G : Gm} {M : Hm} {a0 a1 i j n c : Nat} {z : Nat × Nat} (h : c ≠ a1) : ce G (M.1, M.2.1, cpI M.2.2 a0 i a1 j n) c z = ce G M c z := by
  have e2 : (cpI M.2.2 a0 i a1 j n).1 c = M.2.2.1 c := funext fun q => by simp [cpI, h]
  have e3 : (cpI M.2.2 a0 i a1 j n).2 = M.2.2.2 := rfl
  unfold ce fv
  simp only [e2, e3]
theorem ce_cpL {G : Gm} {M : Hm} {a0 a1 i j n c : Nat} {z : Nat × Nat} (h : c ≠ a1) : ce G (M.1, M.2.1, cpL M.2.2 a0 i a1 j n) c z = ce G M c z := by
  have e2 : (cpL M.2.2 a0 i a1 j n).2 c = M.2.2.2 c := funext fun q => by simp [cpL, h]
  have e3 : (cpL M.2.2 a0 i a1 j n).1 = M.2.2.1 := rfl
  unfold ce fv
  simp only [e2, e3]
theorem native_words : nativeFrameWords "java/lang/System" "arraycopy" 5 ≤ 60 := by decide +kernel
section
variable {G : Gm} {Y : MD} {d : Nat} {T : Type} {fin : T → Option V × Hm} {pc : Nat} {L : List (Option V)} {st : List V} {M : Hm} {X : Option T}
theorem ckC_some {s0 t0 i : Int32} {n0 n1 : Nat} {u : T} (h : ckC s0 t0 i n0 n1 X = some u) : (¬ s0 < 0 ∧ ¬ t0 < 0 ∧ ¬ i < 0 ∧ s0.toNatClampNeg + i.toNatClampNeg ≤ n0 ∧ t0.toNatClampNeg + i.toNatClampNeg ≤ n1) ∧ X = some u := by
  unfold ckC at h
  by_cases e : s0 < 0 ∨ t0 < 0 ∨ i < 0 ∨ n0 < s0.toNatClampNeg + i.toNatClampNeg ∨ n1 < t0.toNatClampNeg + i.toNatClampNeg
  · rw [if_pos e] at h; cases h
  · rw [if_neg e] at h
    exact ⟨⟨fun z => e (Or.inl z), fun z => e (Or.inr (Or.inl z)), fun z => e (Or.inr (Or.inr (Or.inl z))), Nat.not_lt.mp fun z => e (Or.inr (Or.inr (Or.inr (Or.inl z)))), Nat.not_lt.mp fun z => e (Or.inr (Or.inr (Or.inr (Or.inr z))))⟩, h⟩
theorem J_copyI {idx a0 a1 n0 n1 : Nat} {s0 t0 i : Int32} (h0 : M.1[a0]? = some (13, n0)) (h1 : M.1[a1]? = some (13, n1)) (hl : Cond.methodLink Y.1 idx arraycopyName ∈ TT) (hw : wid st ≤ 8) (hdd : 1 ≤ d) (hd : decode Y.2.1 pc = .ok (.invokestatic idx, 3))
    (kk : J G Y d 0 0 fin 0 0 (pc + 3) L st (M.1, M.2.1, cpI M.2.2 a0 s0.toNatClampNeg a1 t0.toNatClampNeg i.toNatClampNeg) X) : J G Y d 0 0 fin 0 0 pc L (vI i :: vI t0 :: vR (some a1) :: vI s0 :: vR (some a0) :: st) M (ckC s0 t0 i n0 n1 X) := fun u hu p e s m args below meth c H locs ls hC hR hS hL => by
  obtain ⟨⟨g1, g2, g3, g4, g5⟩, hu⟩ := ckC_some hu
  have w0 := wsO_at (G := G) h0
  have w1 := wsO_at (G := G) h1
  rw [ce_int (Or.inl rfl)] at w0 w1
  refine W_le fun hz0 => ?_
  refine va_copyi (D := G.2.1) (cl := cls) (A := fun q => G.2.2.2 ≤ q) hC.1 hC.2.1 (by rw [hC.2.2.1]; exact hL.1.symm) hC.own (hC.ts _ hl) (hC.ts _ w_ac1) (hC.ts _ w_ac2) (hC.ts _ w_ac3) hC.kn hR.1 wsO_D hS a0 a1 0 0 w0 w1 rfl rfl rfl g1 g2 g3 g4 g5 (fun _ _ => rfl) hdd ?_ hd (fun H1 locs1 hP1 _ hS1 => ?_)
  · have h2 := native_words
    have h3 := wid_cat (b := G.2.2.2) st
    rw [h3]
    show _ ≤ 80 * d
    omega
  · refine W_le fun hz1 => ?_
    refine kk u hu p e s m args below meth c H1 locs1 ls hC ⟨?_, ?_⟩ hS1 hL
    · have e1 : wsO G (M.1, M.2.1, cpI M.2.2 a0 s0.toNatClampNeg a1 t0.toNatClampNeg i.toNatClampNeg) = _ := (wsO_set (M' := (M.1, M.2.1, cpI M.2.2 a0 s0.toNatClampNeg a1 t0.toNatClampNeg i.toNatClampNeg)) h1 rfl (fun c z h _ => ce_cpI h)).symm
      rw [e1, ce_int (Or.inl rfl)]
      have e2 : (cpI M.2.2 a0 s0.toNatClampNeg a1 t0.toNatClampNeg i.toNatClampNeg).1 a1 = va_cpy (M.2.2.1 a0) (M.2.2.1 a1) s0.toNatClampNeg t0.toNatClampNeg i.toNatClampNeg := by
        funext q
        simp [cpI, va_cpy]
      show va_P _ _ (_root_.List.set _ _ (_, .inl (_, _, .inl _))) _
      rw [e2]
      exact hP1
    · have h5 := hS1.1
      have h6 := hS.1
      have h7 := hR.2
      show H1.size = G.2.2.2 + M.1.length
      omega
theorem K_copyI {t : Nat} {S : St} {idx a0 a1 n0 n1 : Nat} {s0 t0 i : Int32} (h0 : (SHt t)[a0]? = some (13, n0)) (h1 : (SHt t)[a1]? = some (13, n1)) (hl : Cond.methodLink Y.1 idx arraycopyName ∈ TT) (hw : wid st ≤ 8) (hdd : 1 ≤ d) (hd : decode Y.2.1 pc = .ok (.invokestatic idx, 3))
    (kk : J G Y d 0 0 fin 0 0 (pc + 3) L st (MM t (cpI S a0 s0.toNatClampNeg a1 t0.toNatClampNeg i.toNatClampNeg)) X) : J G Y d 0 0 fin 0 0 pc L (vI i :: vI t0 :: vR (some a1) :: vI s0 :: vR (some a0) :: st) (MM t S) (ckC s0 t0 i n0 n1 X) := J_copyI h0 h1 hl hw hdd hd kk
theorem J_copyL {idx a0 a1 n0 n1 : Nat} {s0 t0 i : Int32} (h0 : M.1[a0]? = some (14, n0)) (h1 : M.1[a1]? = some (14, n1)) (hl : Cond.methodLink Y.1 idx arraycopyName ∈ TT) (hw : wid st ≤ 8) (hdd : 1 ≤ d) (hd : decode Y.2.1 pc = .ok (.invokestatic idx, 3))
    (kk : J G Y d 0 0 fin 0 0 (pc + 3) L st (M.1, M.2.1, cpL M.2.2 a0 s0.toNatClampNeg a1 t0.toNatClampNeg i.toNatClampNeg) X) : J G Y d 0 0 fin 0 0 pc L (vI i :: vI t0 :: vR (some a1) :: vI s0 :: vR (some a0) :: st) M (ckC s0 t0 i n0 n1 X) := fun u hu p e s m args below meth c H locs ls hC hR hS hL => by
  obtain ⟨⟨g1, g2, g3, g4, g5⟩, hu⟩ := ckC_some hu
  have w0 := wsO_at (G := G) h0
  have w1 := wsO_at (G := G) h1
  rw [ce_long] at w0 w1
  refine W_le fun hz0 => ?_
  refine va_copyl (D := G.2.1) (cl := cls) (A := fun q => G.2.2.2 ≤ q) hC.1 hC.2.1 (by rw [hC.2.2.1]; exact hL.1.symm) hC.own (hC.ts _ hl) (hC.ts _ w_ac1) (hC.ts _ w_ac2) (hC.ts _ w_ac3) hC.kn hR.1 wsO_D hS a0 a1 1 1 w0 w1 rfl rfl rfl g1 g2 g3 g4 g5 (fun _ _ => rfl) hdd ?_ hd (fun H1 locs1 hP1 _ hS1 => ?_)
  · have h2 := native_words
    have h3 := wid_cat (b := G.2.2.2) st
    rw [h3]
    show _ ≤ 80 * d
    omega
  · refine W_le fun hz1 => ?_
    refine kk u hu p e s m args below meth c H1 locs1 ls hC ⟨?_, ?_⟩ hS1 hL
    · have e1 : wsO G (M.1, M.2.1, cpL M.2.2 a0 s0.toNatClampNeg a1 t0.toNatClampNeg i.toNatClampNeg) = _ := (wsO_set (M' := (M.1, M.2.1, cpL M.2.2 a0 s0.toNatClampNeg a1 t0.toNatClampNeg i.toNatClampNeg)) h1 rfl (fun c z h _ => ce_cpL h)).symm
      rw [e1, ce_long]
      have e2 : (cpL M.2.2 a0 s0.toNatClampNeg a1 t0.toNatClampNeg i.toNatClampNeg).2 a1 = va_cpy (M.2.2.2 a0) (M.2.2.2 a1) s0.toNatClampNeg t0.toNatClampNeg i.toNatClampNeg := by
        funext q
        simp [cpL, va_cpy]
      show va_P _ _ (_root_.List.set _ _ (_, .inl (_, _, .inr (.inl _)))) _
      rw [e2]
      exact hP1
    · have h5 := hS1.1
      have h6 := hS.1
      have h7 := hR.2
      show H1.size = G.2.2.2 + M.1.length
      omega
theorem K_copyL {t : Nat} {S : St} {idx a0 a1 n0 n1 : Nat} {s0 t0 i : Int32} (h0 : (SHt t)[a0]? = some (14, n0)) (h1 : (SHt t)[a1]? = some (14, n1)) (hl : Cond.methodLink Y.1 idx arraycopyName ∈ TT) (hw : wid st ≤ 8) (hdd : 1 ≤ d) (hd : decode Y.2.1 pc = .ok (.invokestatic idx, 3))
    (kk : J G Y d 0 0 fin 0 0 (pc + 3) L st (MM t (cpL S a0 s0.toNatClampNeg a1 t0.toNatClampNeg i.toNatClampNeg)) X) : J G Y d 0 0 fin 0 0 pc L (vI i :: vI t0 :: vR (some a1) :: vI s0 :: vR (some a0) :: st) (MM t S) (ckC s0 t0 i n0 n1 X) := J_copyL h0 h1 hl hw hdd hd kk
theorem J_mmax {k n mc ms : Nat} {idx : Nat} {x y : Int32} (hl : Cond.methodLink Y.1 idx Lib.Math.max.name ∈ TT) (hw : wid st ≤ 8) (hdd : 1 ≤ d) (hd : decode Y.2.1 pc = .ok (.invokestatic idx, 3)) (kk : J G Y d mc ms fin k n (pc + 3) L (vI (maxI x y) :: st) M X) (hkn : k ≤ mc ∧ n ≤ ms := by decide) : J G Y d mc ms fin k n pc L (vI y :: vI x :: st) M X := fun u hu p e s m args below meth c H locs ls hC hR hS hL => va_mmax hC.1 hC.2.1 (by rw [hC.2.2.1]; exact hL.1.symm) hC.own (hC.ts _ hl) (hC.ts _ w_mmax1) (hC.ts _ w_m3) (hC.ts _ w_mmax2) hdd (by rw [wid_cat]; show _ ≤ 80 * d; omega) hkn.1 hkn.2 hd (kk u hu p e s m args below meth c H locs ls hC hR hS hL)
theorem J_mmin {k n mc ms : Nat} {idx : Nat} {x y : Int32} (hl : Cond.methodLink Y.1 idx Lib.Math.min.name ∈ TT) (hw : wid st ≤ 8) (hdd : 1 ≤ d) (hd : decode Y.2.1 pc = .ok (.invokestatic idx, 3)) (kk : J G Y d mc ms fin k n (pc + 3) L (vI (minI x y) :: st) M X) (hkn : k ≤ mc ∧ n ≤ ms := by decide) : J G Y d mc ms fin k n pc L (vI y :: vI x :: st) M X := fun u hu p e s m args below meth c H locs ls hC hR hS hL => va_mmin hC.1 hC.2.1 (by rw [hC.2.2.1]; exact hL.1.symm) hC.own (hC.ts _ hl) (hC.ts _ w_mmin1) (hC.ts _ w_m3) (hC.ts _ w_mmin2) hdd (by rw [wid_cat]; show _ ≤ 80 * d; omega) hkn.1 hkn.2 hd (kk u hu p e s m args below meth c H locs ls hC hR hS hL)
end
