/-! Rules of J: fields, arrays, calls, returns. -/
theorem ce_obj {G : Gm} {M : Hm} {a ci N : Nat} (h : ci < 13) : ce G M a (ci, N) = .inr (ci, (List.range N).map (fun k => fv G M (fty ci k) a k)) := by
  unfold ce
  rw [if_pos h]
theorem ce_int {G : Gm} {M : Hm} {a kd N : Nat} (h : kd = 13 ∨ kd = 15) : ce G M a (kd, N) = .inl (G.2.2.1 kd, N, .inl (M.2.2.1 a)) := by
  unfold ce
  rcases h with rfl | rfl
  · rfl
  · rfl
theorem ce_long {G : Gm} {M : Hm} {a N : Nat} : ce G M a (14, N) = .inl (G.2.2.1 14, N, .inr (.inl (M.2.2.2 a))) := rfl
theorem ce_ref {G : Gm} {M : Hm} {a kd N : Nat} (h : 16 ≤ kd) : ce G M a (kd, N) = .inl (G.2.2.1 kd, N, .inr (.inr (.inr (.inr (fun k => (M.2.1 a k).map (G.2.2.2 + ·)))))) := by
  unfold ce
  rw [if_neg (by omega), if_neg (by omega), if_neg (by omega)]
theorem vpV_range {N : Nat} {f : Nat → Value} {k : Nat} (h : k < N) : vp_V ((List.range N).map f) k = f k := by
  simp [vp_V, List.getD_eq_getElem?_getD, List.getElem?_range, h]
section
variable {G : Gm} {Y : MD} {d mc ms : Nat} {T : Type} {fin : T → Option V × Hm} {k n pc : Nat} {L : List (Option V)} {st : List V} {M : Hm} {X : Option T}
theorem Cx.ts {p : Program} {s : State} {m : MethodId} {args : Array Value} {meth : Method} {c : Code} (h : Cx G Y p s m args meth c) : ∀ w ∈ TT, w.before args s = true := h.2.2.2.2.2.1
theorem Cx.own {p : Program} {s : State} {m : MethodId} {args : Array Value} {meth : Method} {c : Code} (h : Cx G Y p s m args meth c) : s.vm.findClass Y.1 = some m.cls := h.2.2.2.2.1
theorem Cx.kn {p : Program} {s : State} {m : MethodId} {args : Array Value} {meth : Method} {c : Code} (h : Cx G Y p s m args meth c) : va_K G.2.1 cls (tysO G.2.2.1) s := h.2.2.2.2.2.2.2.2.1
theorem Cx.knn {p : Program} {s : State} {m : MethodId} {args : Array Value} {meth : Method} {c : Code} (h : Cx G Y p s m args meth c) : Kn G s := h.2.2.2.2.2.2.2.2
theorem J_getV {idx ci kf a : Nat} {fn : Bool} {v : V} (hc : CF ci) (hf : FL Y.1 idx ci kf fn) (ha : M.1[a]? = some (ci, nF ci)) (hv : cv G.2.2.2 v = fv G M (fty ci kf) a kf) (hd : decode Y.2.1 pc = .ok (.getfield idx, 3)) (kk : J G Y d mc ms fin k n (pc + 3) L (v :: st) M X) : J G Y d mc ms fin k n pc L (vR (some a) :: st) M X := fun u hu p e s m args below meth c H locs ls hC hR hS hL => by
  obtain ⟨q, hq, hin, -, -, hci⟩ := hc
  obtain ⟨q', hq', hk, hl, -, -⟩ := hf
  cases hq.symm.trans hq'
  have hw := wsO_at (G := G) ha
  rw [ce_obj hci, nF_of hq] at hw
  refine va_get (C := q.1) (T := q.2.1) (N := q.2.2) hC.1 hC.2.1 hC.ts hin hC.own hC.kn hR.1 a hw hq kf hk (hC.ts _ hl) (fun _ h => h) (v := cv G.2.2.2 v) ?_ hd (kk u hu p e s m args below meth c H locs ls hC hR hS hL)
  rw [hv]
  simp [hk]
theorem J_getI {idx ci kf a : Nat} {fn : Bool} (hc : CF ci) (hf : FL Y.1 idx ci kf fn) (ha : M.1[a]? = some (ci, nF ci)) (hty : fty ci kf = .int ∨ fty ci kf = .boolean) (hd : decode Y.2.1 pc = .ok (.getfield idx, 3)) (kk : J G Y d mc ms fin k n (pc + 3) L (vI (M.2.2.1 a kf) :: st) M X) : J G Y d mc ms fin k n pc L (vR (some a) :: st) M X :=
  J_getV hc hf ha (by rcases hty with h | h <;> rw [h] <;> rfl) hd kk
theorem J_getL {idx ci kf a : Nat} {fn : Bool} (hc : CF ci) (hf : FL Y.1 idx ci kf fn) (ha : M.1[a]? = some (ci, nF ci)) (hty : fty ci kf = .long) (hd : decode Y.2.1 pc = .ok (.getfield idx, 3)) (kk : J G Y d mc ms fin k n (pc + 3) L (vL (M.2.2.2 a kf) :: st) M X) : J G Y d mc ms fin k n pc L (vR (some a) :: st) M X :=
  J_getV hc hf ha (by rw [hty]; rfl) hd kk
theorem J_getR {idx ci kf a : Nat} {fn : Bool} {r : Option Nat} (hc : CF ci) (hf : FL Y.1 idx ci kf fn) (ha : M.1[a]? = some (ci, nF ci)) (hr : M.2.1 a kf = r) (hty : (∃ z, fty ci kf = .object z) ∨ ∃ z, fty ci kf = .array z) (hd : decode Y.2.1 pc = .ok (.getfield idx, 3)) (kk : J G Y d mc ms fin k n (pc + 3) L (vR r :: st) M X) : J G Y d mc ms fin k n pc L (vR (some a) :: st) M X :=
  J_getV hc hf ha (by subst hr; rcases hty with ⟨z, h⟩ | ⟨z, h⟩ <;> rw [h] <;> rfl) hd kk
/-- a field is written: what is needed of the new memory -/
theorem J_putV {idx ci kf a : Nat} {v : V} {M' : Hm} (hc : CF ci) (hf : FL Y.1 idx ci kf false) (ha : M.1[a]? = some (ci, nF ci)) (hs : M'.1 = M.1) (hne : ∀ c z, c ≠ a → M.1[c]? = some z → ce G M' c z = ce G M c z) (hat : ∀ j, j ≠ kf → fv G M' (fty ci j) a j = fv G M (fty ci j) a j) (hv : fv G M' (fty ci kf) a kf = cv G.2.2.2 v)
    (hn : narrow (fty ci kf) (cv G.2.2.2 v) = cv G.2.2.2 v) (hfit : fits (fty ci kf) (cv G.2.2.2 v) = true) (hd : decode Y.2.1 pc = .ok (.putfield idx, 3)) (kk : J G Y d mc ms fin k n (pc + 3) L st M' X) : J G Y d mc ms fin k n pc L (v :: vR (some a) :: st) M X := fun u hu p e s m args below meth c H locs ls hC hR hS hL => by
  obtain ⟨q, hq, hin, hty, hnm, hci⟩ := hc
  obtain ⟨q', hq', hk, hl, hfin, -⟩ := hf
  cases hq.symm.trans hq'
  have hap := va_apart (own := Y.1) hC.ts hin (fty ci) hty hnm hC.kn hq
  have hcell := hR.at ha
  rw [ce_obj hci, nF_of hq] at hcell
  obtain ⟨r, h1, cell, q1, q2, q3, q4⟩ := hcell
  cases h1.symm.trans hq
  obtain ⟨hSl, hfc, kC, hkC, hkind⟩ := hC.kn.1 ci _ hq
  obtain ⟨cf, kf', fi, f, hi, hsl⟩ := hSl kf hk
  have hlay := hC.ts _ (hin _ (u_in_lay hk))
  unfold u_lay at hlay
  rw [if_neg (by rw [hfin]; decide)] at hlay
  have hst := (u_facts hfc hkC (u_lays hC.ts hin hk) hi).1
  have h6 := u_store hfc hkC hkind hlay hi (hty kf hk) hn hfit
  refine W.putK hC.1 hC.2.1 (f := f) ⟨hC.own, hC.ts _ hl, ⟨_, _, _, hi⟩, hst⟩ (by rw [q2]; exact h6) q1 q3 (by rw [hsl]; exact k2_hasslot (q4 kf hk)) rfl rfl hd fun H' e1 e2 e3 => ?_
  rw [hsl] at e1 ⊢
  have hlast : va_at G.2.1 cls (G.2.2.2 + a, ce G M' a (ci, nF ci)) H' := by
    rw [ce_obj hci, nF_of hq]
    refine ⟨_, hq, t_OB.to (V := updV (vp_V ((List.range q.2.2).map (fun k => fv G M (fty ci k) a k))) kf (cv G.2.2.2 v)) ⟨_, e1, q2, q3, t_set q4 hap hk _⟩ (fun j hj => ?_)⟩
    by_cases e4 : j = kf
    · subst e4
      rw [vpV_range hj]
      simp only [updV, if_true]
      exact hv.symm
    · rw [vpV_range hj, hat j e4]
      simp only [updV, if_neg e4]
      exact vpV_range hj
  exact kk u hu p e s m args below meth c H' _ ls hC (hR.put ha hs hne hlast e2 e3) (hS.put e2 e3 (Nat.le_add_right _ _)) hL
theorem fv_wI_ne {ty : FieldType} {a kf j : Nat} {x : Int32} (h : j ≠ kf) : fv G (M.1, M.2.1, wI M.2.2 a kf x) ty a j = fv G M ty a j := by
  have e : (wI M.2.2 a kf x).1 a j = M.2.2.1 a j := by simp [wI, h]
  have e3 : (wI M.2.2 a kf x).2 = M.2.2.2 := rfl
  unfold fv
  simp only [e, e3]
theorem fv_wL_ne {ty : FieldType} {a kf j : Nat} {x : Int64} (h : j ≠ kf) : fv G (M.1, M.2.1, wL M.2.2 a kf x) ty a j = fv G M ty a j := by
  have e : (wL M.2.2 a kf x).2 a j = M.2.2.2 a j := by simp [wL, h]
  have e3 : (wL M.2.2 a kf x).1 = M.2.2.1 := rfl
  unfold fv
  simp only [e, e3]
theorem J_putI {idx ci kf a : Nat} {x : Int32} (hc : CF ci) (hf : FL Y.1 idx ci kf false) (ha : M.1[a]? = some (ci, nF ci)) (hty : fty ci kf = .int) (hd : decode Y.2.1 pc = .ok (.putfield idx, 3)) (kk : J G Y d mc ms fin k n (pc + 3) L st (M.1, M.2.1, wI M.2.2 a kf x) X) : J G Y d mc ms fin k n pc L (vI x :: vR (some a) :: st) M X :=
  J_putV (M' := (M.1, M.2.1, wI M.2.2 a kf x)) (v := vI x) hc hf ha rfl (fun c z h _ => ce_wI h) (fun j h => fv_wI_ne h) (by rw [hty]; show Value.int _ = Value.int x; simp [wI]) (by rw [hty]; rfl) (by rw [hty]; rfl) hd kk
theorem nar_bool {x : Int32} (h : x = 0 ∨ x = 1) : narrow .boolean (.int x) = .int x ∧ fits .boolean (.int x) = true := by
  rcases h with rfl | rfl <;> exact ⟨by rfl, by rfl⟩
theorem J_putZ {idx ci kf a : Nat} {x : Int32} (hx : x = 0 ∨ x = 1) (hc : CF ci) (hf : FL Y.1 idx ci kf false) (ha : M.1[a]? = some (ci, nF ci)) (hty : fty ci kf = .boolean) (hd : decode Y.2.1 pc = .ok (.putfield idx, 3)) (kk : J G Y d mc ms fin k n (pc + 3) L st (M.1, M.2.1, wI M.2.2 a kf x) X) : J G Y d mc ms fin k n pc L (vI x :: vR (some a) :: st) M X :=
  J_putV (M' := (M.1, M.2.1, wI M.2.2 a kf x)) (v := vI x) hc hf ha rfl (fun c z h _ => ce_wI h) (fun j h => fv_wI_ne h) (by rw [hty]; show Value.int _ = Value.int x; simp [wI]) (by rw [hty]; exact (nar_bool hx).1) (by rw [hty]; exact (nar_bool hx).2) hd kk
theorem J_putL {idx ci kf a : Nat} {x : Int64} (hc : CF ci) (hf : FL Y.1 idx ci kf false) (ha : M.1[a]? = some (ci, nF ci)) (hty : fty ci kf = .long) (hd : decode Y.2.1 pc = .ok (.putfield idx, 3)) (kk : J G Y d mc ms fin k n (pc + 3) L st (M.1, M.2.1, wL M.2.2 a kf x) X) : J G Y d mc ms fin k n pc L (vL x :: vR (some a) :: st) M X :=
  J_putV (M' := (M.1, M.2.1, wL M.2.2 a kf x)) (v := vL x) hc hf ha rfl (fun c z h _ => ce_wL h) (fun j h => fv_wL_ne h) (by rw [hty]; show Value.long _ = Value.long x; simp [wL]) (by rw [hty]; rfl) (by rw [hty]; rfl) hd kk
-- arrays
theorem ckI_some {i : Int32} {q : Nat} {u : T} (h : ckI i q X = some u) : vp_in i q ∧ X = some u := by
  unfold ckI at h
  by_cases e : i < 0 ∨ q ≤ i.toNatClampNeg
  · rw [if_pos e] at h; cases h
  · rw [if_neg e] at h; exact ⟨e, h⟩
theorem J_iald {a N : Nat} {i : Int32} (ha : M.1[a]? = some (13, N)) (hd : decode Y.2.1 pc = .ok (.iaload, 1)) (kk : J G Y d mc ms fin k n (pc + 1) L (vI (M.2.2.1 a i.toNatClampNeg) :: st) M X) : J G Y d mc ms fin k n pc L (vI i :: vR (some a) :: st) M (ckI i N X) := fun u hu p e s m args below meth c H locs ls hC hR hS hL => by
  obtain ⟨hin, hu⟩ := ckI_some hu
  have hw := wsO_at (G := G) ha
  rw [ce_int (Or.inl rfl)] at hw
  exact va_iald hC.1 hC.2.1 hC.kn hR.1 a 0 hw rfl hin hd (kk u hu p e s m args below meth c H locs ls hC hR hS hL)
theorem J_zald {a N : Nat} {i : Int32} (ha : M.1[a]? = some (15, N)) (hd : decode Y.2.1 pc = .ok (.baload, 1)) (kk : J G Y d mc ms fin k n (pc + 1) L (vI (M.2.2.1 a i.toNatClampNeg) :: st) M X) : J G Y d mc ms fin k n pc L (vI i :: vR (some a) :: st) M (ckI i N X) := fun u hu p e s m args below meth c H locs ls hC hR hS hL => by
  obtain ⟨hin, hu⟩ := ckI_some hu
  have hw := wsO_at (G := G) ha
  rw [ce_int (Or.inr rfl)] at hw
  exact va_zald hC.1 hC.2.1 hC.kn hR.1 a 2 hw rfl hin hd (kk u hu p e s m args below meth c H locs ls hC hR hS hL)
theorem J_lald {a N : Nat} {i : Int32} (ha : M.1[a]? = some (14, N)) (hd : decode Y.2.1 pc = .ok (.laload, 1)) (kk : J G Y d mc ms fin k n (pc + 1) L (vL (M.2.2.2 a i.toNatClampNeg) :: st) M X) : J G Y d mc ms fin k n pc L (vI i :: vR (some a) :: st) M (ckI i N X) := fun u hu p e s m args below meth c H locs ls hC hR hS hL => by
  obtain ⟨hin, hu⟩ := ckI_some hu
  have hw := wsO_at (G := G) ha
  rw [ce_long] at hw
  exact va_lald hC.1 hC.2.1 hC.kn hR.1 a 1 hw rfl hin hd (kk u hu p e s m args below meth c H locs ls hC hR hS hL)
theorem J_alen {a N kd : Nat} {v : Int32} (ha : M.1[a]? = some (kd, N)) (hk : 13 ≤ kd ∧ kd < 20) (hv : Int32.ofNat N = v) (hd : decode Y.2.1 pc = .ok (.arraylength, 1)) (kk : J G Y d mc ms fin k n (pc + 1) L (vI v :: st) M X) : J G Y d mc ms fin k n pc L (vR (some a) :: st) M X := fun u hu p e s m args below meth c H locs ls hC hR hS hL => by
  have hw := wsO_at (G := G) ha
  have hall : ∃ (x : vp_A) (ty : FieldType), ce G M a (kd, N) = .inl (G.2.2.1 kd, x) ∧ x.1 = N ∧ (tysO G.2.2.1)[kd - 13]? = some (G.2.2.1 kd, ty) := by
    rcases (show kd = 13 ∨ kd = 14 ∨ kd = 15 ∨ kd = 16 ∨ kd = 17 ∨ kd = 18 ∨ kd = 19 by omega) with rfl | rfl | rfl | rfl | rfl | rfl | rfl
    · exact ⟨_, _, rfl, rfl, rfl⟩
    · exact ⟨_, _, rfl, rfl, rfl⟩
    · exact ⟨_, _, rfl, rfl, rfl⟩
    · exact ⟨_, _, rfl, rfl, rfl⟩
    · exact ⟨_, _, rfl, rfl, rfl⟩
    · exact ⟨_, _, rfl, rfl, rfl⟩
    · exact ⟨_, _, rfl, rfl, rfl⟩
  obtain ⟨x, ty, h1, h2, h3⟩ := hall
  rw [h1] at hw
  exact va_alen hC.1 hC.2.1 hC.kn hR.1 a (kd - 13) hw h3 (by rw [h2]; exact hv) hd (kk u hu p e s m args below meth c H locs ls hC hR hS hL)
/-- an array of references -/
theorem J_aald {a N kd : Nat} {i : Int32} {f : Nat → Option Nat} (ha : M.1[a]? = some (kd, N)) (hk : 16 ≤ kd ∧ kd < 20) (hf : ∀ j, j < N → M.2.1 a j = f j) (hd : decode Y.2.1 pc = .ok (.aaload, 1)) (kk : J G Y d mc ms fin k n (pc + 1) L (vR (f i.toNatClampNeg) :: st) M X) : J G Y d mc ms fin k n pc L (vI i :: vR (some a) :: st) M (ckI i N X) := fun u hu p e s m args below meth c H locs ls hC hR hS hL => by
  obtain ⟨hin, hu⟩ := ckI_some hu
  have hlt : i.toNatClampNeg < N := Nat.not_le.mp fun q => hin (Or.inr q)
  have hcell := hR.at ha
  rw [ce_ref hk.1] at hcell
  have hty : ∃ ty : FieldType, ((∃ C, ty = .object C) ∨ ∃ z, ty = .array z) ∧ (tysO G.2.2.1)[kd - 13]? = some (G.2.2.1 kd, ty) := by
    rcases (show kd = 16 ∨ kd = 17 ∨ kd = 18 ∨ kd = 19 by omega) with rfl | rfl | rfl | rfl
    · exact ⟨_, Or.inl ⟨_, rfl⟩, rfl⟩
    · exact ⟨_, Or.inl ⟨_, rfl⟩, rfl⟩
    · exact ⟨_, Or.inr ⟨_, rfl⟩, rfl⟩
    · exact ⟨_, Or.inr ⟨_, rfl⟩, rfl⟩
  obtain ⟨ty, h1, h3⟩ := hty
  refine W.aald (v := va_rf ((f i.toNatClampNeg).map (G.2.2.2 + ·))) (ty := ty) hC.1 hC.2.1 hcell ((hC.kn.2 (kd - 13) _ h3).1 N (fun j => va_rf ((M.2.1 a j).map (G.2.2.2 + ·)))) (by rcases h1 with ⟨z, rfl⟩ | ⟨z, rfl⟩ <;> rfl) (fun q => by cases q) (by show ¬ (i < 0 ∨ (arrV _ _ _).slots.size ≤ _); rw [arrV_size]; exact hin) (by show (arrV _ _ _).slots[_]? = _; rw [arrV_read _ _ hlt]; show some (va_rf ((M.2.1 a i.toNatClampNeg).map _)) = _; rw [hf _ hlt]) rfl rfl hd (kk u hu p e s m args below meth c H locs ls hC hR hS hL)
theorem wI_row (S : St) (a k : Nat) (x : Int32) : (wI S a k x).1 a = fun j => if j = k then x else S.1 a j := by
  funext j; simp [wI]
theorem wL_row (S : St) (a k : Nat) (x : Int64) : (wL S a k x).2 a = fun j => if j = k then x else S.2 a j := by
  funext j; simp [wL]
theorem J_iast {a N : Nat} {i x : Int32} (ha : M.1[a]? = some (13, N)) (hd : decode Y.2.1 pc = .ok (.iastore, 1)) (kk : J G Y d mc ms fin k n (pc + 1) L st (M.1, M.2.1, wI M.2.2 a i.toNatClampNeg x) X) : J G Y d mc ms fin k n pc L (vI x :: vI i :: vR (some a) :: st) M (ckI i N X) := fun u hu p e s m args below meth c H locs ls hC hR hS hL => by
  obtain ⟨hin, hu⟩ := ckI_some hu
  have hcell := hR.at ha
  rw [ce_int (Or.inl rfl)] at hcell
  refine W.iast hC.1 hC.2.1 hcell ((hC.kn.2 0 _ rfl).1 N (fun j => .int (M.2.2.1 a j))) (fun q => by cases q) (by show ¬ (i < 0 ∨ (arrV _ _ _).slots.size ≤ _); rw [arrV_size]; exact hin) rfl rfl hd fun H1 e1 z oq => ?_
  refine kk u hu p e s m args below meth c H1 _ ls hC (hR.put ha rfl (fun c z h _ => ce_wI h) ?_ z oq) (hS.put z oq (Nat.le_add_right _ _)) hL
  rw [ce_int (Or.inl rfl)]
  show H1[G.2.2.2 + a]? = some (vp_cell _ _)
  rw [e1]
  simp only [vp_cell_i, arrV_store]
  congr 2
  funext q
  by_cases hq : q = i.toNatClampNeg <;> simp [updV, wI, hq]
theorem J_zast {a N : Nat} {i x : Int32} (hx : x = 0 ∨ x = 1) (ha : M.1[a]? = some (15, N)) (hd : decode Y.2.1 pc = .ok (.bastore, 1)) (kk : J G Y d mc ms fin k n (pc + 1) L st (M.1, M.2.1, wI M.2.2 a i.toNatClampNeg x) X) : J G Y d mc ms fin k n pc L (vI x :: vI i :: vR (some a) :: st) M (ckI i N X) := fun u hu p e s m args below meth c H locs ls hC hR hS hL => by
  obtain ⟨hin, hu⟩ := ckI_some hu
  have hcell := hR.at ha
  rw [ce_int (Or.inr rfl)] at hcell
  refine W.zast hC.1 hC.2.1 hcell ((hC.kn.2 2 _ rfl).1 N (fun j => .int (M.2.2.1 a j))) (fun q => by cases q) (by show ¬ (i < 0 ∨ (arrV _ _ _).slots.size ≤ _); rw [arrV_size]; exact hin) rfl rfl hd fun H1 e1 z oq => ?_
  refine kk u hu p e s m args below meth c H1 _ ls hC (hR.put ha rfl (fun c z h _ => ce_wI h) ?_ z oq) (hS.put z oq (Nat.le_add_right _ _)) hL
  rw [ce_int (Or.inr rfl)]
  show H1[G.2.2.2 + a]? = some (vp_cell _ _)
  rw [e1, (nar_bool hx).1]
  simp only [vp_cell_i, arrV_store]
  congr 2
  funext q
  by_cases hq : q = i.toNatClampNeg <;> simp [updV, wI, hq]
theorem J_last {a N : Nat} {i : Int32} {x : Int64} (ha : M.1[a]? = some (14, N)) (hd : decode Y.2.1 pc = .ok (.lastore, 1)) (kk : J G Y d mc ms fin k n (pc + 1) L st (M.1, M.2.1, wL M.2.2 a i.toNatClampNeg x) X) : J G Y d mc ms fin k n pc L (vL x :: vI i :: vR (some a) :: st) M (ckI i N X) := fun u hu p e s m args below meth c H locs ls hC hR hS hL => by
  obtain ⟨hin, hu⟩ := ckI_some hu
  have hcell := hR.at ha
  rw [ce_long] at hcell
  refine W.last hC.1 hC.2.1 hcell ((hC.kn.2 1 _ rfl).1 N (fun j => .long (M.2.2.2 a j))) (fun q => by cases q) (by show ¬ (i < 0 ∨ (arrV _ _ _).slots.size ≤ _); rw [arrV_size]; exact hin) rfl rfl hd fun H1 e1 z oq => ?_
  refine kk u hu p e s m args below meth c H1 _ ls hC (hR.put ha rfl (fun c z h _ => ce_wL h) ?_ z oq) (hS.put z oq (Nat.le_add_right _ _)) hL
  rw [ce_long]
  show H1[G.2.2.2 + a]? = some (vp_cell _ _)
  rw [e1]
  simp only [vp_cell_l, arrV_store]
  congr 2
  funext q
  by_cases hq : q = i.toNatClampNeg <;> simp [updV, wL, hq]
-- the end
theorem J_end {u : T} {H : Heap} (hk : k ≤ mc) (hn : n ≤ ms) {v : Option V} {M' : Hm} (hf : fin u = (v, M')) {p : Program} {e : Env} {s : State} {m : MethodId} {args : Array Value} {below : List Frame} {meth : Method} {c : Code} {locs : List Loc} {g : JFrame}
    (kk : W p G.1 e (Rm d mc ms) s m args below meth c H locs mc ms (MQ below (Qm G (v, M')) args s mc ms (fun q => G.2.2.2 ≤ q)) g) : W p G.1 e (Rm d mc ms) s m args below meth c H locs k n (MQ below (Qm G (fin u)) args s mc ms (fun q => G.2.2.2 ≤ q)) g := by
  rw [hf]
  exact W.widen hk hn kk
theorem J_ireturn {x : Int32} {u : T} (hY : Y.2.2.2.1 = some .int) (hk : k ≤ mc) (hn : n ≤ ms) (hf : fin u = (some (vI x), M)) (hd : decode Y.2.1 pc = .ok (.ireturn, 1)) : J G Y d mc ms fin k n pc L [vI x] M (some u) := fun u2 hu p e s m args below meth c H locs ls hC hR hS hL => by
  cases hu
  exact J_end hk hn hf (W.iret hC.1 hC.2.1 (by rw [hC.2.2.2.1, hY]) (fun t ht hW => ⟨rfl, by rw [ht]; exact hR, hS.F ht⟩) hS.2.2 hd hC.2.2.2.2.2.2.1)
theorem J_zreturn {x : Int32} {u : T} (hx : x = 0 ∨ x = 1) (hY : Y.2.2.2.1 = some .boolean) (hk : k ≤ mc) (hn : n ≤ ms) (hf : fin u = (some (vI x), M)) (hd : decode Y.2.1 pc = .ok (.ireturn, 1)) : J G Y d mc ms fin k n pc L [vI x] M (some u) := fun u2 hu p e s m args below meth c H locs ls hC hR hS hL => by
  cases hu
  exact J_end hk hn hf (W.zret hC.1 hC.2.1 (by rw [hC.2.2.2.1, hY]) (nar_bool hx).1 (fun t ht hW => ⟨rfl, by rw [ht]; exact hR, hS.F ht⟩) hS.2.2 hd hC.2.2.2.2.2.2.1)
theorem J_lreturn {x : Int64} {u : T} (hY : Y.2.2.2.1 = some .long) (hk : k ≤ mc) (hn : n ≤ ms) (hf : fin u = (some (vL x), M)) (hd : decode Y.2.1 pc = .ok (.lreturn, 1)) : J G Y d mc ms fin k n pc L [vL x] M (some u) := fun u2 hu p e s m args below meth c H locs ls hC hR hS hL => by
  cases hu
  exact J_end hk hn hf (W.lret hC.1 hC.2.1 (by rw [hC.2.2.2.1, hY]) (fun t ht hW => ⟨rfl, by rw [ht]; exact hR, hS.F ht⟩) hS.2.2 hd hC.2.2.2.2.2.2.1)
theorem J_areturn {r : Option Nat} {u : T} {C : String} (hY : Y.2.2.2.1 = some (.object C)) (hk : k ≤ mc) (hn : n ≤ ms) (hf : fin u = (some (vR r), M)) (hd : decode Y.2.1 pc = .ok (.areturn, 1)) : J G Y d mc ms fin k n pc L [vR r] M (some u) := fun u2 hu p e s m args below meth c H locs ls hC hR hS hL => by
  cases hu
  exact J_end hk hn hf (W.aret (v := cv G.2.2.2 (vR r)) hC.1 hC.2.1 (by rw [hC.2.2.2.1, hY]) (Or.inl ⟨C, rfl⟩) (by cases r with | none => exact Or.inl rfl | some a => exact Or.inr ⟨_, rfl⟩) (fun t ht hW => ⟨rfl, by rw [ht]; exact hR, hS.F ht⟩) hS.2.2 hd hC.2.2.2.2.2.2.1)
theorem J_return {u : T} (hY : Y.2.2.2.1 = none) (hk : k ≤ mc) (hn : n ≤ ms) (hf : fin u = (none, M)) (hd : decode Y.2.1 pc = .ok (.return_, 1)) : J G Y d mc ms fin k n pc L [] M (some u) := fun u2 hu p e s m args below meth c H locs ls hC hR hS hL => by
  cases hu
  exact J_end hk hn hf (W.vret hC.1 hC.2.1 (by rw [hC.2.2.2.1, hY]) (fun t ht hW => ⟨rfl, by rw [ht]; exact hR, hS.F ht⟩) hS.2.2 hd hC.2.2.2.2.2.2.1)
-- a method from its entry
def Lin : List V → List (Option V)
  | [] => []
  | v :: t => some v :: (match v with
    | .inr (.inl _) => none :: Lin t
    | _ => Lin t)
theorem Lin_args {b : Nat} : ∀ {av : List V} {q i : Nat} {v : V}, (Lin av)[i]? = some (some v) → (q + i, cv b v) ∈ lv_args q (av.map (cv b))
  | [], q, i, v, h => by cases h
  | x :: t, q, 0, v, h => by
    have e : x = v := by simpa [Lin] using h
    subst e
    exact List.mem_cons_self
  | x :: t, q, i + 1, v, h => by
    refine List.mem_cons_of_mem _ ?_
    rcases x with x | x | x
    · have h1 : (Lin t)[i]? = some (some v) := by simpa [Lin] using h
      have := Lin_args (b := b) (q := q + 1) h1
      rw [show q + 1 + i = q + (i + 1) by omega] at this
      simpa [cv, Value.category] using this
    · cases i with
      | zero => simp [Lin] at h
      | succ i =>
        have h1 : (Lin t)[i]? = some (some v) := by simpa [Lin] using h
        have := Lin_args (b := b) (q := q + 2) h1
        rw [show q + 2 + i = q + (i + 1 + 1) by omega] at this
        simpa [cv, Value.category] using this
    · have h1 : (Lin t)[i]? = some (some v) := by simpa [Lin] using h
      have := Lin_args (b := b) (q := q + 1) h1
      rw [show q + 1 + i = q + (i + 1) by omega] at this
      have e : (cv b (Sum.inr (Sum.inr x))).category = 1 := by rw [cv_cat]
      show _ ∈ lv_args (if (cv b (Sum.inr (Sum.inr x))).category = 2 then q + 2 else q + 1) _
      rw [e]
      exact this
def wid : List V → Nat
  | [] => 0
  | v :: t => (match v with
    | .inr (.inl _) => 2
    | _ => 1) + wid t
theorem wid_sl {b : Nat} : ∀ av : List V, (lg_sl (av.map (cv b))).length = wid av
  | [] => rfl
  | x :: t => by
    have ih := wid_sl (b := b) t
    rcases x with x | x | x
    · show (lg_sl (Value.int x :: _)).length = _
      simp only [lg_sl, Value.category, List.flatMap_cons, List.length_append] at ih ⊢
      simp [wid, ih]
    · show (lg_sl (Value.long x :: _)).length = _
      simp only [lg_sl, Value.category, List.flatMap_cons, List.length_append] at ih ⊢
      simp [wid, ih]
    · have e : (cv b (Sum.inr (Sum.inr x))).category = 1 := by rw [cv_cat]
      show (lg_sl (cv b (Sum.inr (Sum.inr x)) :: _)).length = _
      simp only [lg_sl, e, List.flatMap_cons, List.length_append] at ih ⊢
      simp [wid, ih]
theorem Ct_of_J {y : MethodName} {av : List V} (L0 : List (Option V)) (hy : plainName y.cls = true) (hY : y.cls = Y.1) (hni : Y.2.2.2.2 = true → y.name = "<init>") (hw : wid av ≤ Y.2.2.1) (hs : subL L0 (Lin av)) (kk : J G Y d mc ms fin 0 0 0 L0 [] M X) : Ct G Y y d mc ms fin X av M := fun u hu => by
  refine Met.ofW (cc := Y.2.1) (maxL := Y.2.2.1) (ret := Y.2.2.2.1) hy rfl ?_
  intro p e s m args below meth c s₁ B hml hv
  obtain ⟨rfl, hR, hK⟩ := hv
  have hts0 := atoms_spec (ws := Cond.code y Y.2.1 Y.2.2.1 Y.2.2.2.1 :: TT) B.pre
  have hown : s.vm.findClass Y.1 = some m.cls := by rw [← hY]; exact findClass_of_methodNamed B.named
  have hC : Cx G Y p s m ((av.map (cv G.2.2.2)).toArray) meth c := ⟨B.exec, B.bytes, hml, B.returns, hown, fun w hw => hts0 w (List.mem_cons_of_mem _ hw), B.notSynchronized, fun h => ((name_of_methodNamed B.named B.method).1).trans (hni h), hK⟩
  have hl := lv_entry (av.map (cv G.2.2.2)) (n := Y.2.2.1) (by rw [wid_sl]; exact hw)
  rw [lg_entry_eq]
  exact kk u hu p e s m _ below meth c s.heap [] _ hC hR va_S.rf ⟨hl.1, hl.2.1, fun i v hi => hl.2.2 (i, cv G.2.2.2 v) (by
    have := Lin_args (b := G.2.2.2) (q := 0) (hs.at hi)
    rwa [Nat.zero_add] at this)⟩
-- calls
theorem Pm_blind {av : List V} : FrameBlind (Pm G av M) := fun a U g mk q => by
  obtain ⟨q0, q1, q2⟩ := q
  exact ⟨q0, q1, Kn.same (u := U) (U := U.calling g mk a) rfl q2⟩
theorem J_run {mc2 ms2 : Nat} {T2 : Type} {fin2 : T2 → Option V × Hm} {F : Option T2} {K : T2 → Option T} {st0 : List V}
    (hcall : ∀ u2, F = some u2 → ∀ (p : Program) (e : Env) (s : State) (m : MethodId) (args : Array Value) (below : List Frame) (meth : Method) (c : Code) (H : Heap) (locs : List Loc) (ls : Array Slot), Cx G Y p s m args meth c → Rp G M H → LH G.2.2.2 ls Y.2.2.1 L → ∃ a, va_Run p G.1 e (Rm d mc ms) s m args below meth c H locs k n mc2 ms2 (F0 m pc ls (st0.map (cv G.2.2.2))) (st.map (cv G.2.2.2)) (Qm G (fin2 u2) a) (fun q => G.2.2.2 ≤ q))
    (kk : ∀ u2, F = some u2 → J G Y d mc ms fin (k + mc2) (n + ms2) (pc + 3) L ((fin2 u2).1.toList ++ st) (fin2 u2).2 (K u2)) : J G Y d mc ms fin k n pc L st0 M (F.bind K) := fun u hu p e s m args below meth c H locs ls hC hR hS hL => by
  cases hF : F with
  | none => rw [hF] at hu; cases hu
  | some u2 =>
    rw [hF] at hu
    obtain ⟨a, hr⟩ := hcall u2 hF p e s m args below meth c H locs ls hC hR hL
    intro T hT X
    obtain ⟨v, st₀, t, T', L1, h0, X', hL1, e1, e2, ⟨hv, hR1, hz, hk1⟩, stp⟩ := hr T hT X
    rw [h0] at hz hk1
    have hv2 : v = (fin2 u2).1.map (cv G.2.2.2) := Outcome.returned.inj hv
    obtain ⟨t2, a1, b1⟩ := kk u2 hF u hu p e s m args below meth c T'.heap (locs ++ L1) ls hC (by rw [e1]; exact hR1) ⟨Nat.le_trans hS.1 (by rw [e1]; exact hz), fun q h1 h2 => by rw [e1, hk1 q (Nat.lt_of_lt_of_le h1 hS.1) h2]; exact hS.2.1 q h1 h2, fun q hq => by
      rcases List.mem_append.mp hq with h | h
      · exact hS.2.2 q h
      · exact hL1 q h⟩ hL T' rfl X'
    refine ⟨t2, stp t2 ?_, b1⟩
    have e3 : ((fin2 u2).1.toList ++ st).map (cv G.2.2.2) = v.toList ++ st.map (cv G.2.2.2) := by
      rw [hv2, List.map_append]
      cases (fin2 u2).1 <;> rfl
    rw [e3] at a1
    exact a1
theorem wid_cat {b : Nat} : ∀ av : List V, ((av.map (cv b)).map (fun v => v.category)).sum = wid av
  | [] => rfl
  | x :: t => by
    rw [List.map_cons, List.map_cons, List.sum_cons, wid_cat t, cv_cat]
    rfl
theorem J_callV {y : MethodName} {Y2 : MD} {na idx a ci d2 mc2 ms2 : Nat} {C : String} {T2 : Type} {fin2 : T2 → Option V × Hm} {F : Option T2} {K : T2 → Option T} (As : List V) {st0 : List V}
    (hm : MC y Y2 na) (hi : Cond.instanceMethod y ∈ TT) (hsel : Cond.selects C y y ∈ TT) (hl : Cond.methodLink Y.1 idx y ∈ TT) (hcl : cls[ci]?.map (fun q => q.1) = some C) (hci : ci < 13) (ha : M.1[a]? = some (ci, nF ci)) (hM : Ct G Y2 y d2 mc2 ms2 fin2 F (vR (some a) :: As) M) (hna : As.length = na) (hst : st0 = As.reverse ++ vR (some a) :: st) (hw : wid st ≤ 8) (hd2 : d2 + 1 ≤ d) (hY2 : Y2.2.2.1 ≤ 61) (hk : k + mc2 ≤ mc) (hn : n + ms2 ≤ ms) (hd : decode Y.2.1 pc = .ok (.invokevirtual idx, 3))
    (kk : ∀ u2, F = some u2 → J G Y d mc ms fin (k + mc2) (n + ms2) (pc + 3) L ((fin2 u2).1.toList ++ st) (fin2 u2).2 (K u2)) : J G Y d mc ms fin k n pc L st0 M (F.bind K) := by
  refine J_run (fun u2 hF p e s m args below meth c H locs ls hC hR hL => ⟨#[], ?_⟩) kk
  have hcell := wsO_at (G := G) ha
  rw [ce_obj hci] at hcell
  obtain ⟨q, hq, hqC⟩ := Option.map_eq_some_iff.mp hcl
  have hrecv := va_recv hC.kn hR.1 hq hcell
  rw [hqC] at hrecv
  have hts := hC.ts
  have cw : CallW (Rm d mc ms) s args Y.1 C idx y Y2.2.1 Y2.2.2.1 Y2.2.2.2.1 (Cond.code y Y2.2.1 Y2.2.2.1 Y2.2.2.2.1 :: TT) (Rm d2 mc2 ms2) mc2 ms2 na :=
    ⟨callB_of na hts (goodT0 hm.2.2.2) rfl rfl rfl (hts _ hm.2.2.1) (hts _ hl) hm.2.1 ⟨hd2, by show 8 + (Y2.2.2.1 + 11) + 80 * d2 ≤ 80 * d; omega⟩, hts _ hi, hts _ hsel⟩
  exact va_runV (b := G.2.2.2 + a) (As := As.map (cv G.2.2.2)) ⟨hC.1, hC.2.1, hC.2.2.1, hC.own, hts⟩ (hM u2 hF) cw ⟨Pm_blind, hrecv, fun U hU hW => ⟨rfl, by rw [hU]; exact hR, Kn.warm hW hC.knn⟩⟩ rfl (by rw [List.length_map]; exact hna) hL.1 (by rw [hst, List.map_append, List.map_reverse]; rfl) (lv_room (rest := st0.map (cv G.2.2.2)) (st := st.map (cv G.2.2.2)) (by rw [wid_cat]; exact hw)) hd ⟨hk, hn⟩
theorem J_callS {y : MethodName} {Y2 : MD} {na idx d2 mc2 ms2 : Nat} {T2 : Type} {fin2 : T2 → Option V × Hm} {F : Option T2} {K : T2 → Option T} (As : List V) {st0 : List V}
    (hm : MC y Y2 na) (hi : Cond.static y ∈ TT) (hl : Cond.methodLink Y.1 idx y ∈ TT) (hM : Ct G Y2 y d2 mc2 ms2 fin2 F As M) (hna : As.length = na) (hst : st0 = As.reverse ++ st) (hw : wid st ≤ 8) (hd2 : d2 + 1 ≤ d) (hY2 : Y2.2.2.1 ≤ 61) (hk : k + mc2 ≤ mc) (hn : n + ms2 ≤ ms) (hd : decode Y.2.1 pc = .ok (.invokestatic idx, 3))
    (kk : ∀ u2, F = some u2 → J G Y d mc ms fin (k + mc2) (n + ms2) (pc + 3) L ((fin2 u2).1.toList ++ st) (fin2 u2).2 (K u2)) : J G Y d mc ms fin k n pc L st0 M (F.bind K) := by
  refine J_run (fun u2 hF p e s m args below meth c H locs ls hC hR hL => ⟨#[], ?_⟩) kk
  have hts := hC.ts
  have cw : CallB (Rm d mc ms) s args Y.1 idx y Y2.2.1 Y2.2.2.1 Y2.2.2.2.1 (Cond.code y Y2.2.1 Y2.2.2.1 Y2.2.2.2.1 :: TT) (Rm d2 mc2 ms2) mc2 ms2 na ∧ (Cond.static y).before args s = true :=
    ⟨callB_of na hts (goodT0 hm.2.2.2) rfl rfl rfl (hts _ hm.2.2.1) (hts _ hl) hm.2.1 ⟨hd2, by show 8 + (Y2.2.2.1 + 11) + 80 * d2 ≤ 80 * d; omega⟩, hts _ hi⟩
  exact va_runS (As := As.map (cv G.2.2.2)) ⟨hC.1, hC.2.1, hC.2.2.1, hC.own, hts⟩ (hM u2 hF) cw ⟨Pm_blind, fun U hU hW => ⟨rfl, by rw [hU]; exact hR, Kn.warm hW hC.knn⟩⟩ rfl (by rw [List.length_map]; exact hna) hL.1 (by rw [hst, List.map_append, List.map_reverse]) (lv_room (rest := st0.map (cv G.2.2.2)) (st := st.map (cv G.2.2.2)) (by rw [wid_cat]; exact hw)) hd ⟨hk, hn⟩
end
