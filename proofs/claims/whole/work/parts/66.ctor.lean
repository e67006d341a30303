/-! Rules of J for constructors: cells are made behind all that are there. -/
def upR (R : Nat → Nat → Option Nat) (a k : Nat) (v : Option Nat) : Nat → Nat → Option Nat := fun c j => if c = a ∧ j = k then v else R c j
def Fr (M : Hm) : Prop := ∀ c, M.1.length ≤ c → ∀ k, M.2.1 c k = none ∧ M.2.2.1 c k = 0 ∧ M.2.2.2 c k = 0
theorem Fr.app {M : Hm} (h : Fr M) (l : List (Nat × Nat)) : Fr (M.1 ++ l, M.2.1, M.2.2) := fun c hc k => h c (by
  have e : (M.1 ++ l).length ≤ c := hc
  rw [List.length_append] at e
  omega) k
theorem Fr.wI {M : Hm} (h : Fr M) {a k : Nat} {x : Int32} (ha : a < M.1.length) : Fr (M.1, M.2.1, wI M.2.2 a k x) := fun c hc j => by
  have hc : M.1.length ≤ c := hc
  refine ⟨(h c hc j).1, ?_, (h c hc j).2.2⟩
  show (if c = a ∧ j = k then x else M.2.2.1 c j) = 0
  rw [if_neg (fun q => by omega)]
  exact (h c hc j).2.1
theorem Fr.upR {M : Hm} (h : Fr M) {a k : Nat} {v : Option Nat} (ha : a < M.1.length) : Fr (M.1, upR M.2.1 a k v, M.2.2) := fun c hc j => by
  have hc : M.1.length ≤ c := hc
  refine ⟨?_, (h c hc j).2.1, (h c hc j).2.2⟩
  show (if c = a ∧ j = k then v else M.2.1 c j) = none
  rw [if_neg (fun q => by omega)]
  exact (h c hc j).1
theorem ap_new {l : List (Nat × Nat)} {x : Nat × Nat} {n : Nat} (h : l.length = n) : (l ++ [x])[n]? = some x := by
  rw [List.getElem?_append_right (by omega), h, Nat.sub_self]
  rfl
theorem ap_old {l l2 : List (Nat × Nat)} {i : Nat} {q : Nat × Nat} (h : l[i]? = some q) : (l ++ l2)[i]? = some q := by
  rw [List.getElem?_append_left (List.getElem?_eq_some_iff.mp h).1]
  exact h
theorem ap_len {l l2 : List (Nat × Nat)} {n m : Nat} (h : l.length = n) (h2 : n + l2.length = m) : (l ++ l2).length = m := by
  rw [List.length_append, h]
  exact h2
theorem ce_2 {G : Gm} {M M' : Hm} (h : M'.2 = M.2) (c : Nat) (z : Nat × Nat) : ce G M' c z = ce G M c z := by
  obtain ⟨a, b⟩ := M
  obtain ⟨a', b'⟩ := M'
  have h : b' = b := h
  subst h
  rfl
theorem Rp_app {G : Gm} {M M' : Hm} {l : List (Nat × Nat)} {H H1 : Heap} (hR : Rp G M H) (h1 : H1.size = H.size + l.length) (ho : ∀ q, q < H.size → H1[q]? = H[q]?) (hs : M'.1 = M.1 ++ l) (hce : ∀ c z, c < M.1.length → ce G M' c z = ce G M c z) (hn : ∀ i z, l[i]? = some z → va_at G.2.1 cls (G.2.2.2 + (M.1.length + i), ce G M' (M.1.length + i) z) H1) : Rp G M' H1 := by
  refine ⟨fun k x hk => ?_, by rw [h1, hR.2, hs, List.length_append]; omega⟩
  obtain ⟨z, g1, rfl⟩ := wsO_get hk
  rw [hs] at g1
  by_cases e : k < M.1.length
  · rw [List.getElem?_append_left e] at g1
    rw [hce k z e]
    exact (hR.at g1).kept (ho _ (by rw [hR.2]; omega))
  · rw [List.getElem?_append_right (by omega)] at g1
    have := hn (k - M.1.length) z g1
    rw [show M.1.length + (k - M.1.length) = k by omega] at this
    exact this
def dvO (ty : FieldType) : Bool := match ty with
  | .float => false
  | .double => false
  | _ => true
section
variable {G : Gm} {Y : MD} {d mc ms : Nat} {T : Type} {fin : T → Option V × Hm} {k n pc : Nat} {L : List (Option V)} {st : List V} {M : Hm} {X : Option T}
theorem fv_0 {M' : Hm} {ty : FieldType} {a j : Nat} (hd : dvO ty = true) (h : M'.2.1 a j = none ∧ M'.2.2.1 a j = 0 ∧ M'.2.2.2 a j = 0) : defaultValue ty = fv G M' ty a j := by
  obtain ⟨h1, h2, h3⟩ := h
  unfold fv
  cases ty <;> first | (simp only [h1, h2, h3]; rfl) | cases hd
theorem sS_app {A0 : Nat → Prop} {H0 H H1 : Heap} {locs : List Loc} (hS : va_S A0 H0 H locs) (h1 : H.size ≤ H1.size) (ho : ∀ q, q < H.size → H1[q]? = H[q]?) : va_S A0 H0 H1 locs := ⟨Nat.le_trans hS.1 h1, fun q h2 h3 => (ho q (Nat.lt_of_lt_of_le h2 hS.1)).trans (hS.2.1 q h2 h3), hS.2.2⟩
theorem J_new {ci idx a : Nat} {C : String} (hcf : CF ci) (hC' : cls[ci]?.map (fun q => q.1) = some C) (hlk : Cond.classLink Y.1 idx C ∈ TT) (hins : Cond.instantiable C (nF ci) ∈ TT) (hini : Cond.initialized C ∈ TT) (hdv : ∀ j, j < nF ci → dvO (fty ci j) = true) (hF : Fr M) (ha : M.1.length = a) (hk : k + 1 ≤ mc) (hn : n + nF ci ≤ ms) (hd : decode Y.2.1 pc = .ok (.new idx, 3))
    (kk : Fr (M.1 ++ [(ci, nF ci)], M.2.1, M.2.2) → J G Y d mc ms fin (k + 1) (n + nF ci) (pc + 3) L (vR (some a) :: st) (M.1 ++ [(ci, nF ci)], M.2.1, M.2.2) X) : J G Y d mc ms fin k n pc L st M X := fun u hu p e s m args below meth c H locs ls hC hR hS hL => by
  obtain ⟨q, hq, hin, hty, hnm, hci⟩ := hcf
  have hKn := hC.kn.1 ci _ hq
  have hqC : q.1 = C := by rw [hq] at hC'; exact Option.some.inj hC'
  have hnf := nF_of hq
  subst ha
  have hw1 := hC.ts _ hlk
  have hw2 := hC.ts _ hins
  have hw3 := hC.ts _ hini
  rw [← hqC] at hw1 hw2 hw3
  rw [hnf] at hw2
  refine W.newcK hC.1 hC.2.1 hC.own hw1 hw2 hw3 rfl hd hk (by rw [← hnf]; exact hn) hKn.2.1 hR.2 fun H1 kC hkC e1 z1 o1 => ?_
  rw [← hnf]
  refine kk (hF.app _) u hu p e s m args below meth c H1 locs ls hC (Rp_app (l := [(ci, nF ci)]) hR (by rw [z1, hR.2]; rfl) (fun x hx => o1 x (by rw [← hR.2]; exact hx)) rfl (fun c z _ => ce_2 rfl c z) (fun i z hi => ?_)) (sS_app hS (by rw [z1, hR.2]; omega) (fun x hx => o1 x (by rw [← hR.2]; exact hx))) hL
  have hi0 : i = 0 := by
    have := (List.getElem?_eq_some_iff.mp hi).1
    have : i < 1 := this
    omega
  subst hi0
  have hz : z = (ci, nF ci) := (Option.some.inj hi).symm
  subst hz
  rw [Nat.add_zero, ce_obj hci]
  refine ⟨_, hq, ?_⟩
  refine (u_born (fty ci) hC.ts hin hKn hkC e1 hty).to (fun j hj => ?_)
  rw [← hnf] at hj
  rw [vpV_range hj]
  exact fv_0 (hdv j hj) (hF M.1.length (Nat.le_refl _) j)
theorem J_newI {a N : Nat} {x : Int32} (hx : x.toNatClampNeg = N) (h0 : ¬ x < 0) (hb : N * 4 ≤ 536870912) (hF : Fr M) (ha : M.1.length = a) (hk : k + 1 ≤ mc) (hn : n + N ≤ ms) (hd : decode Y.2.1 pc = .ok (.newarray .int, 2))
    (kk : Fr (M.1 ++ [(13, N)], M.2.1, M.2.2) → J G Y d mc ms fin (k + 1) (n + N) (pc + 2) L (vR (some a) :: st) (M.1 ++ [(13, N)], M.2.1, M.2.2) X) : J G Y d mc ms fin k n pc L (vI x :: st) M X := fun u hu p e s m args below meth c H locs ls hC hR hS hL => by
  subst ha
  refine va_newaK (N := N) hC.1 hC.2.1 (atype := .int) (hC.ts _ w_arrI) rfl hd rfl h0 hx hb hk hn hR.2 (fun H1 cA e1 z1 o1 _ hcA => ?_)
  have h2 : s.vm.findClass ("[" ++ FieldType.int.toString) = some (G.2.2.1 13) := (hC.kn.2 0 _ rfl).2
  have hcA2 : cA = G.2.2.1 13 := Option.some.inj (hcA.symm.trans h2)
  subst hcA2
  refine kk (hF.app _) u hu p e s m args below meth c H1 locs ls hC (Rp_app (l := [(13, N)]) hR (by rw [z1, hR.2]; rfl) (fun x hx => o1 x (by rw [← hR.2]; exact hx)) rfl (fun c z _ => ce_2 rfl c z) (fun i z hi => ?_)) (sS_app hS (by rw [z1, hR.2]; omega) (fun x hx => o1 x (by rw [← hR.2]; exact hx))) hL
  have hi0 : i = 0 := by
    have : i < 1 := (List.getElem?_eq_some_iff.mp hi).1
    omega
  subst hi0
  have hz : z = (13, N) := (Option.some.inj hi).symm
  subst hz
  rw [Nat.add_zero, ce_int (Or.inl rfl)]
  show H1[_]? = some (vp_cell _ _)
  rw [vp_cell_i]
  refine e1.trans (congrArg some (congrArg (arrV _ N) (funext fun j => ?_)))
  show defaultValue (newarray.typeOf .int) = Value.int (M.2.2.1 M.1.length j)
  rw [(hF M.1.length (Nat.le_refl _) j).2.1]
  rfl
theorem J_newZ {a N : Nat} {x : Int32} (hx : x.toNatClampNeg = N) (h0 : ¬ x < 0) (hb : N * 4 ≤ 536870912) (hF : Fr M) (ha : M.1.length = a) (hk : k + 1 ≤ mc) (hn : n + N ≤ ms) (hd : decode Y.2.1 pc = .ok (.newarray .boolean, 2))
    (kk : Fr (M.1 ++ [(15, N)], M.2.1, M.2.2) → J G Y d mc ms fin (k + 1) (n + N) (pc + 2) L (vR (some a) :: st) (M.1 ++ [(15, N)], M.2.1, M.2.2) X) : J G Y d mc ms fin k n pc L (vI x :: st) M X := fun u hu p e s m args below meth c H locs ls hC hR hS hL => by
  subst ha
  refine va_newaK (N := N) hC.1 hC.2.1 (atype := .boolean) (hC.ts _ w_arrZ) rfl hd rfl h0 hx (by have : componentBytes (newarray.typeOf .boolean) ≤ 4 := (by decide); exact Nat.le_trans (Nat.mul_le_mul_left N this) hb) hk hn hR.2 (fun H1 cA e1 z1 o1 _ hcA => ?_)
  have h2 : s.vm.findClass ("[" ++ FieldType.boolean.toString) = some (G.2.2.1 15) := (hC.kn.2 2 _ rfl).2
  have hcA2 : cA = G.2.2.1 15 := Option.some.inj (hcA.symm.trans h2)
  subst hcA2
  refine kk (hF.app _) u hu p e s m args below meth c H1 locs ls hC (Rp_app (l := [(15, N)]) hR (by rw [z1, hR.2]; rfl) (fun x hx => o1 x (by rw [← hR.2]; exact hx)) rfl (fun c z _ => ce_2 rfl c z) (fun i z hi => ?_)) (sS_app hS (by rw [z1, hR.2]; omega) (fun x hx => o1 x (by rw [← hR.2]; exact hx))) hL
  have hi0 : i = 0 := by
    have : i < 1 := (List.getElem?_eq_some_iff.mp hi).1
    omega
  subst hi0
  have hz : z = (15, N) := (Option.some.inj hi).symm
  subst hz
  rw [Nat.add_zero, ce_int (Or.inr rfl)]
  show H1[_]? = some (vp_cell _ _)
  rw [vp_cell_i]
  refine e1.trans (congrArg some (congrArg (arrV _ N) (funext fun j => ?_)))
  show defaultValue (newarray.typeOf .boolean) = Value.int (M.2.2.1 M.1.length j)
  rw [(hF M.1.length (Nat.le_refl _) j).2.1]
  rfl
theorem J_newL {a N : Nat} {x : Int32} (hx : x.toNatClampNeg = N) (h0 : ¬ x < 0) (hb : N * 8 ≤ 536870912) (hF : Fr M) (ha : M.1.length = a) (hk : k + 1 ≤ mc) (hn : n + N ≤ ms) (hd : decode Y.2.1 pc = .ok (.newarray .long, 2))
    (kk : Fr (M.1 ++ [(14, N)], M.2.1, M.2.2) → J G Y d mc ms fin (k + 1) (n + N) (pc + 2) L (vR (some a) :: st) (M.1 ++ [(14, N)], M.2.1, M.2.2) X) : J G Y d mc ms fin k n pc L (vI x :: st) M X := fun u hu p e s m args below meth c H locs ls hC hR hS hL => by
  subst ha
  refine va_newaK (N := N) hC.1 hC.2.1 (atype := .long) (hC.ts _ w_arrJ) rfl hd rfl h0 hx hb hk hn hR.2 (fun H1 cA e1 z1 o1 _ hcA => ?_)
  have h2 : s.vm.findClass ("[" ++ FieldType.long.toString) = some (G.2.2.1 14) := (hC.kn.2 1 _ rfl).2
  have hcA2 : cA = G.2.2.1 14 := Option.some.inj (hcA.symm.trans h2)
  subst hcA2
  refine kk (hF.app _) u hu p e s m args below meth c H1 locs ls hC (Rp_app (l := [(14, N)]) hR (by rw [z1, hR.2]; rfl) (fun x hx => o1 x (by rw [← hR.2]; exact hx)) rfl (fun c z _ => ce_2 rfl c z) (fun i z hi => ?_)) (sS_app hS (by rw [z1, hR.2]; omega) (fun x hx => o1 x (by rw [← hR.2]; exact hx))) hL
  have hi0 : i = 0 := by
    have : i < 1 := (List.getElem?_eq_some_iff.mp hi).1
    omega
  subst hi0
  have hz : z = (14, N) := (Option.some.inj hi).symm
  subst hz
  rw [Nat.add_zero, ce_long]
  show H1[_]? = some (vp_cell _ _)
  rw [vp_cell_l]
  refine e1.trans (congrArg some (congrArg (arrV _ N) (funext fun j => ?_)))
  show defaultValue (newarray.typeOf .long) = Value.long (M.2.2.2 M.1.length j)
  rw [(hF M.1.length (Nat.le_refl _) j).2.2]
  rfl
/-- an array of references: kd is 16 (Ask) or 17 (Language) -/
theorem J_anew {a N kd idx : Nat} {C : String} {x : Int32} (hkd : 16 ≤ kd ∧ kd < 20) (hC' : (tysO G.2.2.1)[kd - 13]? = some (G.2.2.1 kd, .object C)) (hao : ∀ U, AOs U → va_AO C U) (hlk : Cond.classLink Y.1 idx C ∈ TT) (hx : x.toNatClampNeg = N) (h0 : ¬ x < 0) (hb : N * 4 ≤ 536870912) (hF : Fr M) (ha : M.1.length = a) (hk : k + 1 ≤ mc) (hn : n + N ≤ ms) (hd : decode Y.2.1 pc = .ok (.anewarray idx, 3))
    (kk : Fr (M.1 ++ [(kd, N)], M.2.1, M.2.2) → J G Y d mc ms fin (k + 1) (n + N) (pc + 3) L (vR (some a) :: st) (M.1 ++ [(kd, N)], M.2.1, M.2.2) X) : J G Y d mc ms fin k n pc L (vI x :: st) M X := fun u hu p e s m args below meth c H locs ls hC hR hS hL => by
  subst ha
  subst hx
  refine W.anew hC.1 hC.2.1 hC.own (hC.ts _ hlk) (va_AO.use (hao _ hC.knn.2.1)) rfl hd rfl h0 hb hk hn fun cA kA comp f1 f2 f3 f4 => ?_
  obtain ⟨_, _, _, _, _, h2⟩ := (hC.kn.2 (kd - 13) _ hC').2
  have hcA2 : cA = G.2.2.1 kd := Option.some.inj (f1.symm.trans h2)
  subst hcA2
  generalize hH1 : H.push ({ cls := G.2.2.1 kd, slots := Array.replicate x.toNatClampNeg .null, vm := .none } : Cell) = H1
  have z1 : H1.size = H.size + 1 := by rw [← hH1, Array.size_push]
  have e1 : H1[H.size]? = some (arrV (G.2.2.1 kd) x.toNatClampNeg (fun _ => .null)) := by rw [← hH1, Array.getElem?_push_size, ← arrV_new]
  have o1 : ∀ q : Nat, q < H.size → H1[q]? = H[q]? := fun q hq => by rw [← hH1, Array.getElem?_push, if_neg (Nat.ne_of_lt hq)]
  rw [hR.2]
  refine kk (hF.app _) u hu p e s m args below meth c H1 locs ls hC (Rp_app (l := [(kd, x.toNatClampNeg)]) hR (by rw [z1]; rfl) o1 rfl (fun c z _ => ce_2 rfl c z) (fun i z hi => ?_)) (sS_app hS (by omega) o1) hL
  have hi0 : i = 0 := by
    have : i < 1 := (List.getElem?_eq_some_iff.mp hi).1
    omega
  subst hi0
  have hz : z = (kd, x.toNatClampNeg) := (Option.some.inj hi).symm
  subst hz
  rw [Nat.add_zero, ce_ref hkd.1, ← hR.2]
  show H1[_]? = some (vp_cell _ _)
  rw [vp_cell_q]
  refine e1.trans (congrArg some (congrArg (arrV _ _) (funext fun j => ?_)))
  show Value.null = va_rf ((M.2.1 M.1.length j).map (G.2.2.2 + ·))
  rw [(hF M.1.length (Nat.le_refl _) j).1]
  rfl
/-- the first n places of cell a refer to the n cells behind it -/
def rfM (R : Nat → Nat → Option Nat) (a n : Nat) : Nat → Nat → Option Nat := fun c j => if c = a ∧ j < n then some (a + 1 + j) else R c j
theorem rfM_0 (R : Nat → Nat → Option Nat) (a : Nat) : rfM R a 0 = R := by
  unfold rfM
  funext c j
  rw [if_neg (fun q => Nat.not_lt_zero j q.2)]
theorem rfM_s (R : Nat → Nat → Option Nat) (a n : Nat) : rfM R a (n + 1) = upR (rfM R a n) a n (some (a + 1 + n)) := by
  unfold rfM upR
  funext c j
  by_cases h : c = a ∧ j = n
  · rw [if_pos h, if_pos ⟨h.1, by omega⟩, h.2]
  · rw [if_neg h]
    show (if c = a ∧ j < n + 1 then some (a + 1 + j) else R c j) = (if c = a ∧ j < n then some (a + 1 + j) else R c j)
    by_cases h2 : c = a ∧ j < n
    · rw [if_pos h2, if_pos ⟨h2.1, by omega⟩]
    · rw [if_neg h2, if_neg (fun q => h2 ⟨q.1, by
        have := q.2
        have h3 : j ≠ n := fun e => h ⟨q.1, e⟩
        omega⟩)]
theorem Fr.multi {M : Hm} (h : Fr M) {kd kd2 N K : Nat} : Fr (M.1 ++ ((kd, N) :: List.replicate N (kd2, K)), rfM M.2.1 M.1.length N, M.2.2) := fun c hc j => by
  have hc : (M.1 ++ ((kd, N) :: List.replicate N (kd2, K))).length ≤ c := hc
  rw [List.length_append, List.length_cons, List.length_replicate] at hc
  refine ⟨?_, (h c (by omega) j).2.1, (h c (by omega) j).2.2⟩
  show (if c = M.1.length ∧ j < N then some (M.1.length + 1 + j) else M.2.1 c j) = none
  rw [if_neg (fun q => by omega)]
  exact (h c (by omega) j).1
/-- rows of ints (18, 13) or longs (19, 14) -/
theorem J_multi {a N K kd kd2 idx : Nat} {ty : FieldType} {x y : Int32} (hkk : (kd = 18 ∧ kd2 = 13 ∧ ty = .int) ∨ (kd = 19 ∧ kd2 = 14 ∧ ty = .long)) (hlk : Cond.classLink Y.1 idx ("[" ++ (FieldType.array ty).toString) ∈ TT) (hx : x.toNatClampNeg = N) (hy : y.toNatClampNeg = K) (h0 : ¬ x < 0) (h0' : ¬ y < 0) (hb : N * 4 ≤ 536870912) (hb2 : K * 8 ≤ 536870912) (hF : Fr M) (ha : M.1.length = a) (hk : k + (1 + N) ≤ mc) (hn : n + (N + N * K) ≤ ms) (hd : decode Y.2.1 pc = .ok (.multianewarray idx 2, 4))
    (kk : Fr (M.1 ++ ((kd, N) :: List.replicate N (kd2, K)), rfM M.2.1 a N, M.2.2) → J G Y d mc ms fin (k + 1 + N) (n + N + N * K) (pc + 4) L (vR (some a) :: st) (M.1 ++ ((kd, N) :: List.replicate N (kd2, K)), rfM M.2.1 a N, M.2.2) X) : J G Y d mc ms fin k n pc L (vI y :: vI x :: st) M X := fun u hu p e s m args below meth c H locs ls hC hR hS hL => by
  subst ha
  have hty : ty = .int ∨ ty = .long := by rcases hkk with h | h <;> simp [h.2.2]
  have hover : (Cond.arrayOver (.array ty)).before args s = true := by
    rcases hty with rfl | rfl
    · exact aoA.use hC.knn.2.1.2.2.1
    · exact aoA.use hC.knn.2.1.2.2.2
  have harr : (Cond.arrayClass ty).before args s = true := by
    rcases hty with rfl | rfl
    · exact hC.ts _ w_arrI
    · exact hC.ts _ w_arrJ
  refine mj_W hC.1 hC.2.1 hC.own (hC.ts _ hlk) hover harr hd hx hy h0 h0' hb (by rcases hty with rfl | rfl <;> (show K * _ ≤ _; simp [componentBytes]; omega)) (by omega) (by rcases hty with rfl | rfl <;> rfl) (by rcases hty with rfl | rfl <;> rfl) hk hn hR.2 fun H1 cA cy f1 f2 z1 e1 e2 o1 => ?_
  have hk1 : kd = 18 ∨ kd = 19 := by rcases hkk with h | h <;> simp [h.1]
  have hcA : cA = G.2.2.1 kd := by
    rcases hkk with ⟨rfl, rfl, rfl⟩ | ⟨rfl, rfl, rfl⟩
    · have h2 : s.vm.findClass ("[" ++ (FieldType.array .int).toString) = some (G.2.2.1 18) := (hC.kn.2 5 _ rfl).2
      exact Option.some.inj (f1.symm.trans h2)
    · have h2 : s.vm.findClass ("[" ++ (FieldType.array .long).toString) = some (G.2.2.1 19) := (hC.kn.2 6 _ rfl).2
      exact Option.some.inj (f1.symm.trans h2)
  have hcy : cy = G.2.2.1 kd2 := by
    rcases hkk with ⟨rfl, rfl, rfl⟩ | ⟨rfl, rfl, rfl⟩
    · have h2 : s.vm.findClass ("[" ++ FieldType.int.toString) = some (G.2.2.1 13) := (hC.kn.2 0 _ rfl).2
      exact Option.some.inj (f2.symm.trans h2)
    · have h2 : s.vm.findClass ("[" ++ FieldType.long.toString) = some (G.2.2.1 14) := (hC.kn.2 1 _ rfl).2
      exact Option.some.inj (f2.symm.trans h2)
  subst hcA
  subst hcy
  have hfe : ∀ c j, c ≠ M.1.length → rfM M.2.1 M.1.length N c j = M.2.1 c j := fun c j h => by
    unfold rfM
    rw [if_neg (fun q => h q.1)]
  refine kk hF.multi u hu p e s m args below meth c H1 _ ls hC (Rp_app (l := (kd, N) :: List.replicate N (kd2, K)) hR (by rw [z1, hR.2, List.length_cons, List.length_replicate]; omega) (fun x hx => o1 x (by rw [← hR.2]; exact hx)) rfl (fun c z hc => ?_) (fun i z hi => ?_)) ⟨Nat.le_trans hS.1 (by rw [z1, hR.2]; omega), fun q h2 h3 => (o1 q (by rw [← hR.2]; exact Nat.lt_of_lt_of_le h2 hS.1)).trans (hS.2.1 q h2 h3), fun q hq => ?_⟩ hL
  · unfold ce fv
    have h9 : ∀ j, rfM M.2.1 M.1.length N c j = M.2.1 c j := fun j => hfe c j (by omega)
    simp only [h9]
  · cases i with
    | zero =>
      have hz : z = (kd, N) := (Option.some.inj hi).symm
      subst hz
      rw [Nat.add_zero, ce_ref (by omega)]
      show H1[_]? = some (vp_cell _ _)
      rw [vp_cell_q]
      refine e1.trans (congrArg some ?_)
      unfold arrV
      congr 1
      apply Array.ext
      · simp
      · intro j j1 j2
        have j3 : j < N := by simpa using j1
        simp only [Array.getElem_ofFn]
        show va_rf (if j < N then some (G.2.2.2 + M.1.length + 1 + j) else none) = va_rf ((if M.1.length = M.1.length ∧ j < N then some (M.1.length + 1 + j) else M.2.1 M.1.length j).map (G.2.2.2 + ·))
        rw [if_pos j3, if_pos ⟨rfl, j3⟩]
        exact congrArg Value.ref (show G.2.2.2 + M.1.length + 1 + j = G.2.2.2 + (M.1.length + 1 + j) by omega)
    | succ i =>
      have hi' : (List.replicate N (kd2, K))[i]? = some z := hi
      have hiN : i < N := by
        have := (List.getElem?_eq_some_iff.mp hi').1
        rw [List.length_replicate] at this
        exact this
      have hz : z = (kd2, K) := by
        rw [List.getElem?_replicate, if_pos hiN] at hi'
        exact (Option.some.inj hi').symm
      subst hz
      have e3 := e2 i hiN
      rw [show G.2.2.2 + M.1.length + 1 + i = G.2.2.2 + (M.1.length + (i + 1)) by omega] at e3
      rcases hkk with ⟨rfl, rfl, rfl⟩ | ⟨rfl, rfl, rfl⟩
      · rw [ce_int (Or.inl rfl)]
        show H1[_]? = some (vp_cell _ _)
        rw [vp_cell_i]
        refine e3.trans (congrArg some (congrArg (arrV _ _) (funext fun j => ?_)))
        show Value.int 0 = Value.int (M.2.2.1 (M.1.length + (i + 1)) j)
        rw [(hF (M.1.length + (i + 1)) (by omega) j).2.1]
      · rw [ce_long]
        show H1[_]? = some (vp_cell _ _)
        rw [vp_cell_l]
        refine e3.trans (congrArg some (congrArg (arrV _ _) (funext fun j => ?_)))
        show Value.long 0 = Value.long (M.2.2.2 (M.1.length + (i + 1)) j)
        rw [(hF (M.1.length + (i + 1)) (by omega) j).2.2]
  · rcases List.mem_append.mp hq with h | h
    · exact hS.2.2 q h
    · obtain ⟨j, -, rfl⟩ := List.mem_map.mp h
      show G.2.2.2 ≤ G.2.2.2 + M.1.length
      omega
-- references written
theorem fv_upR_ne {ty : FieldType} {a kf j : Nat} {v : Option Nat} (h : j ≠ kf) : fv G (M.1, upR M.2.1 a kf v, M.2.2) ty a j = fv G M ty a j := by
  have e : upR M.2.1 a kf v a j = M.2.1 a j := by
    unfold upR
    rw [if_neg (fun q => h q.2)]
  unfold fv
  simp only [e]
theorem ce_upR {a k : Nat} {v : Option Nat} {c : Nat} {z : Nat × Nat} (h : c ≠ a) : ce G (M.1, upR M.2.1 a k v, M.2.2) c z = ce G M c z := by
  have e : ∀ j, upR M.2.1 a k v c j = M.2.1 c j := fun j => by
    unfold upR
    rw [if_neg (fun q => h q.1)]
  unfold ce fv
  simp only [e]
/-- a final reference field, in its class's constructor -/
theorem J_putRF {idx ci kf a b : Nat} (hin2 : Y.2.2.2.2 = true) (hc : CF ci) (hf : FL Y.1 idx ci kf true) (hF : Fr M) (ha : M.1[a]? = some (ci, nF ci)) (hty : (∃ z, fty ci kf = .object z) ∨ ∃ z, fty ci kf = .array z) (hd : decode Y.2.1 pc = .ok (.putfield idx, 3))
    (kk : Fr (M.1, upR M.2.1 a kf (some b), M.2.2) → J G Y d mc ms fin k n (pc + 3) L st (M.1, upR M.2.1 a kf (some b), M.2.2) X) : J G Y d mc ms fin k n pc L (vR (some b) :: vR (some a) :: st) M X := fun u hu p e s m args below meth c H locs ls hC hR hS hL => by
  obtain ⟨q, hq, hin, htyp, hnm, hci⟩ := hc
  obtain ⟨q', hq', hk, hl, hfin, hdecl⟩ := hf
  cases hq.symm.trans hq'
  have hap := va_apart (own := Y.1) hC.ts hin (fty ci) htyp hnm hC.kn hq
  have hcell := hR.at ha
  rw [ce_obj hci, nF_of hq] at hcell
  obtain ⟨r, h1, cell, q1, q2, q3, q4⟩ := hcell
  cases h1.symm.trans hq
  obtain ⟨hSl, hfc, kC, hkC, hkind⟩ := hC.kn.1 ci _ hq
  obtain ⟨cf, kf', fi, f, hi, hsl⟩ := hSl kf hk
  have hlay := hC.ts _ (hin _ (u_in_lay hk))
  unfold u_lay at hlay
  rw [if_pos hfin] at hlay
  have hst := (u_facts hfc hkC (u_lays hC.ts hin hk) hi).1
  have hcf : m.cls = cf := by
    obtain ⟨_, _, c', _, _, _, -, -, hf', -, -, -, hown2, -⟩ := Cond.laysFinal_spec hlay
    have e1 : c' = cf := by have := hi.symm.trans hf'; simp at this; exact this.1.symm
    rw [hdecl] at hown2
    rw [← e1]; exact Option.some.inj (hC.own.symm.trans hown2)
  have hnf : narrow (fty ci kf) (cv G.2.2.2 (vR (some b))) = cv G.2.2.2 (vR (some b)) ∧ fits (fty ci kf) (cv G.2.2.2 (vR (some b))) = true := by
    rcases hty with ⟨z, h⟩ | ⟨z, h⟩ <;> rw [h] <;> exact ⟨rfl, rfl⟩
  have h6 := u_fits hfc hkC hkind (Or.inr hlay) hi (htyp kf hk) hnf.1 hnf.2
  refine W.putFinK hC.1 hC.2.1 hC.own (hC.ts _ hl) hi hst hcf (hC.2.2.2.2.2.2.2.1 hin2) (by rw [q2]; exact h6) q1 q3 (by rw [hsl]; exact k2_hasslot (q4 kf hk)) rfl rfl hd fun H' e1 e2 e3 => ?_
  rw [hsl] at e1 ⊢
  have hlast : va_at G.2.1 cls (G.2.2.2 + a, ce G (M.1, upR M.2.1 a kf (some b), M.2.2) a (ci, nF ci)) H' := by
    rw [ce_obj hci, nF_of hq]
    refine ⟨_, hq, t_OB.to (V := updV (vp_V ((List.range q.2.2).map (fun k => fv G M (fty ci k) a k))) kf (cv G.2.2.2 (vR (some b)))) ⟨_, e1, q2, q3, t_set q4 hap hk _⟩ (fun j hj => ?_)⟩
    by_cases e4 : j = kf
    · subst e4
      rw [vpV_range hj]
      simp only [updV, if_true]
      have hup : upR M.2.1 a j (some b) a j = some b := if_pos ⟨rfl, rfl⟩
      unfold fv
      rcases hty with ⟨z, h⟩ | ⟨z, h⟩ <;> rw [h] <;> simp only [hup] <;> rfl
    · rw [vpV_range hj, fv_upR_ne e4]
      simp only [updV, if_neg e4]
      exact vpV_range hj
  exact kk (hF.upR (List.getElem?_eq_some_iff.mp ha).1) u hu p e s m args below meth c H' _ ls hC (hR.put ha rfl (fun c z h _ => ce_upR h) hlast e2 e3) (hS.put e2 e3 (Nat.le_add_right _ _)) hL
/-- a cell into an array of references -/
theorem J_aast {a N kd b ci : Nat} {i : Int32} {C : String} (hkd : 16 ≤ kd ∧ kd < 20) (hC' : (tysO G.2.2.1)[kd - 13]? = some (G.2.2.1 kd, .object C)) (hcl : cls[ci]?.map (fun q => q.1) = some C) (hci : ci < 13) (hF : Fr M) (ha : M.1[a]? = some (kd, N)) (hb : M.1[b]? = some (ci, nF ci)) (h0 : ¬ i < 0) (hi : i.toNatClampNeg < N) (hd : decode Y.2.1 pc = .ok (.aastore, 1))
    (kk : Fr (M.1, upR M.2.1 a i.toNatClampNeg (some b), M.2.2) → J G Y d mc ms fin k n (pc + 1) L st (M.1, upR M.2.1 a i.toNatClampNeg (some b), M.2.2) X) : J G Y d mc ms fin k n pc L (vR (some b) :: vI i :: vR (some a) :: st) M X := fun u hu p e s m args below meth c H locs ls hC hR hS hL => by
  have hcell := hR.at ha
  rw [ce_ref hkd.1] at hcell
  have hcb := hR.at hb
  rw [ce_obj hci] at hcb
  obtain ⟨r', hr', cellV, g1, g2, g3, -⟩ := hcb
  have hrC : r'.1 = C := by rw [hr'] at hcl; exact Option.some.inj hcl
  have hcls := (hC.kn.1 ci r' hr').2
  obtain ⟨kA, comp, k1, k2, k3, -⟩ := (hC.kn.2 (kd - 13) _ hC').2
  have hcomp : comp = G.2.1.1 ci := by
    rw [← hrC] at k3
    exact Option.some.inj (k3.symm.trans hcls.1)
  subst hcomp
  obtain ⟨kC, hkC, -⟩ := hcls.2
  refine W.aast hC.1 hC.2.1 hcell (fun q h => by cases h) (fun h => by cases h) k1 k2 rfl hkC ⟨h0, by show _ < (arrV _ _ _).slots.size; rw [arrV_size]; exact hi⟩ g1 (fun q h => by rw [g3] at h; cases h) (by rw [g2]; exact hkC) (by rw [g2]; exact va_assign hcls) rfl rfl hd fun H1 e1 z oq => ?_
  refine kk (hF.upR (List.getElem?_eq_some_iff.mp ha).1) u hu p e s m args below meth c H1 _ ls hC (hR.put ha rfl (fun c z h _ => ce_upR h) ?_ z oq) (hS.put z oq (Nat.le_add_right _ _)) hL
  rw [ce_ref hkd.1]
  show H1[_]? = some (vp_cell _ _)
  rw [e1]
  rw [vp_cell_q, vp_cell_q, arrV_store]
  congr 2
  funext q
  by_cases hq : q = i.toNatClampNeg
  · subst hq
    simp [updV, upR, va_rf]
  · simp [updV, upR, hq]
theorem J_objInit {idx a : Nat} (hl : Cond.methodLink Y.1 idx objectInit ∈ TT) (h1 : Cond.instanceMethod objectInit ∈ TT) (h2 : Cond.code objectInit ⟨#[0xb1]⟩ 1 none ∈ TT) (hdd : 1 ≤ d) (hw : wid st ≤ 8) (hd : decode Y.2.1 pc = .ok (.invokespecial idx, 3)) (kk : J G Y d mc ms fin k n (pc + 3) L st M X) : J G Y d mc ms fin k n pc L (vR (some a) :: st) M X := fun u hu p e s m args below meth c H locs ls hC hR hS hL => by
  refine W.objInit hC.1 hC.2.1 hC.own (hC.ts _ hl) (hC.ts _ h1) (hC.ts _ h2) rfl (by rw [hC.2.2.1]; exact hL.1) rfl hd hdd ?_ (kk u hu p e s m args below meth c H locs ls hC hR hS hL)
  have hq := wid_cat (b := G.2.2.2) st
  show 2 * 0 + ((st.map (cv G.2.2.2)).map fun v => v.category).sum + 12 ≤ 80 * d
  rw [hq]
  omega
/-- a constructor of a nest mate -/
theorem J_callN {y : MethodName} {Y2 : MD} {na idx a d2 mc2 ms2 : Nat} {T2 : Type} {fin2 : T2 → Option V × Hm} {F : Option T2} {K : T2 → Option T} (As : List V) {st0 : List V}
    (hm : MC y Y2 na) (hi : Cond.instanceMethod y ∈ TT) (hnw : (Y.1, idx, y) ∈ nwl) (hname : y.name = "<init>") (hret : Y2.2.2.2.1 = none) (hM : Ct G Y2 y d2 mc2 ms2 fin2 F (vR (some a) :: As) M) (hna : As.length = na) (hst : st0 = As.reverse ++ vR (some a) :: st) (hw : wid st ≤ 8) (hd2 : d2 + 1 ≤ d) (hY2 : Y2.2.2.1 ≤ 61) (hk : k + mc2 ≤ mc) (hn : n + ms2 ≤ ms) (hd : decode Y.2.1 pc = .ok (.invokespecial idx, 3))
    (kk : ∀ u2, F = some u2 → J G Y d mc ms fin (k + mc2) (n + ms2) (pc + 3) L ((fin2 u2).1.toList ++ st) (fin2 u2).2 (K u2)) : J G Y d mc ms fin k n pc L st0 M (F.bind K) := by
  obtain ⟨c2, b2, l2, r2, f2⟩ := Y2
  have hret : r2 = none := hret
  subst hret
  refine J_run (fun u2 hF p e s m args below meth c H locs ls hC hR hL => ⟨#[], ?_⟩) kk
  have hts := hC.ts
  have cw : va_CN (Rm d mc ms) s args Y.1 idx y RX11 b2 l2 none (Cond.code y b2 l2 none :: TT) (Rm d2 mc2 ms2) mc2 ms2 na ∧ y.name = "<init>" ∧ (Cond.instanceMethod y).before args s = true :=
    ⟨va_cnB na hts (goodT0 hm.2.2.2) rfl rfl rfl (hC.knn.2.2 _ hnw) (hts _ hm.2.2.1) hm.2.1 ⟨hd2, by have hY2 : l2 ≤ 61 := hY2; show 8 + (l2 + 11) + 80 * d2 ≤ 80 * d; omega⟩, hname, hts _ hi⟩
  exact va_runIN (b := G.2.2.2 + a) (As := As.map (cv G.2.2.2)) ⟨hC.1, hC.2.1, hC.2.2.1, hC.own, hts⟩ (hM u2 hF) cw ⟨Pm_blind, fun U hU hW => ⟨by rfl, by rw [hU]; exact hR, Kn.warm hW hC.knn⟩⟩ rfl (by rw [List.length_map]; exact hna) hL.1 (by rw [hst, List.map_append, List.map_reverse]; rfl) (lv_room (rest := st0.map (cv G.2.2.2)) (st := st.map (cv G.2.2.2)) (by rw [wid_cat]; exact hw)) hd ⟨hk, hn⟩
/-- a constructor -/
theorem J_callI {y : MethodName} {Y2 : MD} {na idx a d2 mc2 ms2 : Nat} {T2 : Type} {fin2 : T2 → Option V × Hm} {F : Option T2} {K : T2 → Option T} (As : List V) {st0 : List V}
    (hm : MC y Y2 na) (hi : Cond.instanceMethod y ∈ TT) (hl : Cond.methodLink Y.1 idx y ∈ TT) (hname : y.name = "<init>") (hret : Y2.2.2.2.1 = none) (hM : Ct G Y2 y d2 mc2 ms2 fin2 F (vR (some a) :: As) M) (hna : As.length = na) (hst : st0 = As.reverse ++ vR (some a) :: st) (hw : wid st ≤ 8) (hd2 : d2 + 1 ≤ d) (hY2 : Y2.2.2.1 ≤ 61) (hk : k + mc2 ≤ mc) (hn : n + ms2 ≤ ms) (hd : decode Y.2.1 pc = .ok (.invokespecial idx, 3))
    (kk : ∀ u2, F = some u2 → J G Y d mc ms fin (k + mc2) (n + ms2) (pc + 3) L ((fin2 u2).1.toList ++ st) (fin2 u2).2 (K u2)) : J G Y d mc ms fin k n pc L st0 M (F.bind K) := by
  obtain ⟨c2, b2, l2, r2, f2⟩ := Y2
  have hret : r2 = none := hret
  subst hret
  refine J_run (fun u2 hF p e s m args below meth c H locs ls hC hR hL => ⟨#[], ?_⟩) kk
  have hts := hC.ts
  have cw := cwI (s := s) (args := args) (R := Rm d mc ms) (rm := Rm d2 mc2 ms2) (own := Y.1) (index := idx) (y := y) (bytes := b2) (maxL := l2) (mc := mc2) (ms := ms2) na hts (goodT0 hm.2.2.2) rfl rfl rfl (hts _ hm.2.2.1) (hts _ hl) (hts _ hi) hname hm.2.1 ⟨hd2, by have hY2 : l2 ≤ 61 := hY2; show 8 + (l2 + 11) + 80 * d2 ≤ 80 * d; omega⟩
  exact va_runI (b := G.2.2.2 + a) (As := As.map (cv G.2.2.2)) ⟨hC.1, hC.2.1, hC.2.2.1, hC.own, hts⟩ (hM u2 hF) cw ⟨Pm_blind, fun U hU hW => ⟨by rfl, by rw [hU]; exact hR, Kn.warm hW hC.knn⟩⟩ rfl (by rw [List.length_map]; exact hna) hL.1 (by rw [hst, List.map_append, List.map_reverse]; rfl) (lv_room (rest := st0.map (cv G.2.2.2)) (st := st.map (cv G.2.2.2)) (by rw [wid_cat]; exact hw)) hd ⟨hk, hn⟩
end
