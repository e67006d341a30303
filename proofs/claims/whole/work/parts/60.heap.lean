/-! The heap of the machine as a list of shapes (kind, length), what the reference places hold, and a state. -/
abbrev Gm : Type := Launch × va_G × (Nat → ClassId) × Nat
def cv (b : Nat) (v : V) : Value := match v with
  | .inl x => .int x
  | .inr (.inl y) => .long y
  | .inr (.inr r) => va_rf (r.map (b + ·))
def fv (G : Gm) (M : Hm) (ty : FieldType) (a k : Nat) : Value := match ty with
  | .long => .long (M.2.2.2 a k)
  | .object _ => va_rf ((M.2.1 a k).map (G.2.2.2 + ·))
  | .array _ => va_rf ((M.2.1 a k).map (G.2.2.2 + ·))
  | _ => .int (M.2.2.1 a k)
def ce (G : Gm) (M : Hm) (a : Nat) (q : Nat × Nat) : va_E :=
  if q.1 < 13 then .inr (q.1, (List.range q.2).map (fun k => fv G M (fty q.1 k) a k))
  else if q.1 = 14 then .inl (G.2.2.1 14, q.2, .inr (.inl (M.2.2.2 a)))
  else if q.1 < 16 then .inl (G.2.2.1 q.1, q.2, .inl (M.2.2.1 a))
  else .inl (G.2.2.1 q.1, q.2, .inr (.inr (.inr (.inr (fun k => (M.2.1 a k).map (G.2.2.2 + ·))))))
def wsO (G : Gm) (M : Hm) : va_W := M.1.mapIdx (fun a q => (G.2.2.2 + a, ce G M a q))
theorem wsO_at {G : Gm} {M : Hm} {a : Nat} {q : Nat × Nat} (h : M.1[a]? = some q) : (wsO G M)[a]? = some (G.2.2.2 + a, ce G M a q) := by
  simp [wsO, h]
theorem wsO_get {G : Gm} {M : Hm} {a : Nat} {q : Nat × va_E} (h : (wsO G M)[a]? = some q) : ∃ z, M.1[a]? = some z ∧ q = (G.2.2.2 + a, ce G M a z) := by
  simp only [wsO, List.getElem?_mapIdx, Option.map_eq_some_iff] at h
  obtain ⟨z, h1, h2⟩ := h
  exact ⟨z, h1, h2.symm⟩
theorem wsO_D {G : Gm} {M : Hm} : va_D (fun q => G.2.2.2 ≤ q) (wsO G M) := by
  refine ⟨fun i j p q hi hj h => ?_, fun k q hk => ?_⟩
  · obtain ⟨z, h1, rfl⟩ := wsO_get hi
    obtain ⟨z', h2, rfl⟩ := wsO_get hj
    exact Nat.add_left_cancel h
  · obtain ⟨z, h1, rfl⟩ := wsO_get hk
    exact Nat.le_add_right _ _
def Rp (G : Gm) (M : Hm) (H : Heap) : Prop := va_P G.2.1 cls (wsO G M) H ∧ H.size = G.2.2.2 + M.1.length
def tysO (aC : Nat → ClassId) : List (ClassId × FieldType) := [(aC 13, .int), (aC 14, .long), (aC 15, .boolean), (aC 16, .object "AllPrograms$Ask"), (aC 17, .object "AllPrograms$Language"), (aC 18, .array .int), (aC 19, .array .long)]
def aoA (ty : FieldType) (U : State) : Prop := (Cond.arrayOver (.array ty)).before #[] U = true
theorem aoA.use {ty : FieldType} {A : Array Value} {U : State} (h : aoA ty U) : (Cond.arrayOver (.array ty)).before A U = true := h
theorem aoA.of {ty : FieldType} {A : Array Value} {U : State} (h : (Cond.arrayOver (.array ty)).before A U = true) : aoA ty U := h
theorem aoA.moved {ty : FieldType} {u U : State} (hvm : u.vm.Alike U.vm) (h : aoA ty u) : aoA ty U := by
  obtain ⟨comp, c, k, h1, h2, h3, h4, h5⟩ := arrayOverA_spec h
  obtain ⟨k', hk', he⟩ := hvm.2.2 _ _ h3
  have hb : U.vm.bare = u.vm.bare := by first | exact hvm.bare_eq | exact hvm.bare_eq.symm
  have hi0 := va_idx_bare U.vm comp
  rw [hb] at hi0
  have hi := (hi0.symm.trans (va_idx_bare u.vm comp)).trans h2
  have hkind : k'.kind = .array comp (.array ty) := by rw [he]; exact h4
  have f1 : U.vm.findClass (FieldType.array ty).toString = some comp := by rw [hvm.findClass]; exact h1
  have f2 : U.vm.findClass ("[" ++ (FieldType.array ty).toString) = some c := by rw [hvm.findClass]; exact h5
  unfold aoA Cond.before Cond.holds
  simp only [Cond.value]
  rw [f1, Option.bind_some]
  refine (congrArg (fun o : Option Nat => (o.bind (fun c => (U.vm.classes[c]?).map fun (k : Class) => match k.kind with | .array _ t => decide (t = FieldType.array ty) && decide (U.vm.findClass ("[" ++ (FieldType.array ty).toString) = some c) | _ => false) == some true)) hi).trans ?_
  simp [hk', hkind, f2]
/-- the classes of the arrays of references are there -/
def AOs (U : State) : Prop := va_AO "AllPrograms$Language" U ∧ va_AO "AllPrograms$Ask" U ∧ aoA .int U ∧ aoA .long U
/-- the constructors that nest mates call: who calls, by which place of its constants, whose -/
def nwl : List (String × Nat × MethodName) := [(RX11, 21, yX6_init), (RX11, 31, yX4_init), (RX11, 46, yX9_init), (RX11, 62, yX7_init), (RX7, 11, yX6_init), (RX11, 75, yX10_init), (RX11, 82, yX5_init), (RX5, 11, yX6_init), (RX11, 89, yX2_init), (RX2, 11, yX6_init), (RX11, 96, yX0_init), (RX11, 108, yX3_init), (RX11, 109, yX1_init)]
def NWs (U : State) : Prop := ∀ q ∈ nwl, va_Nw (.methodLinkNest q.1 q.2.1 q.2.2 RX11) U
def Kn (G : Gm) (U : State) : Prop := va_K G.2.1 cls (tysO G.2.2.1) U ∧ AOs U ∧ NWs U
def Cx (G : Gm) (Y : MD) (p : Program) (s : State) (m : MethodId) (args : Array Value) (meth : Method) (c : Code) : Prop :=
  p.tables.exec = Jvm.exec ∧ c.code = Y.2.1 ∧ c.maxLocals = Y.2.2.1 ∧ meth.sig.returnType = Y.2.2.2.1 ∧ s.vm.findClass Y.1 = some m.cls ∧ (∀ w ∈ TT, w.before args s = true) ∧ meth.locks = false ∧ (Y.2.2.2.2 = true → meth.name = "<init>") ∧ Kn G s
def LH (b : Nat) (ls : Array Slot) (nL : Nat) (L : List (Option V)) : Prop := ls.size = nL ∧ lv_wf ls ∧ ∀ (i : Nat) (v : V), L[i]? = some (some v) → ls[i]? = some (.val (cv b v))
abbrev Rm (d mc ms : Nat) : Room := { frames := d, cells := mc, slots := ms, locals := 80 * d }
def Qm (G : Gm) (o : Option V × Hm) : Array Value → State → Outcome → State → Prop := fun _ st oc t => oc = .returned (o.1.map (cv G.2.2.2)) ∧ Rp G o.2 t.heap ∧ va_F (fun q => G.2.2.2 ≤ q) st t
def Pm (G : Gm) (av : List V) (M : Hm) : Array Value → State → Prop := fun v U => v = (av.map (cv G.2.2.2)).toArray ∧ Rp G M U.heap ∧ Kn G U
/-- from this place of the method, with these locals, this stack and this memory, the machine does what X says -/
def J (G : Gm) (Y : MD) (d mc ms : Nat) {T : Type} (fin : T → Option V × Hm) (k n pc : Nat) (L : List (Option V)) (st : List V) (M : Hm) (X : Option T) : Prop :=
  ∀ u : T, X = some u → ∀ (p : Program) (e : Env) (s : State) (m : MethodId) (args : Array Value) (below : List Frame) (meth : Method) (c : Code) (H : Heap) (locs : List Loc) (ls : Array Slot),
    Cx G Y p s m args meth c → Rp G M H → va_S (fun q => G.2.2.2 ≤ q) s.heap H locs → LH G.2.2.2 ls Y.2.2.1 L →
    W p G.1 e (Rm d mc ms) s m args below meth c H locs k n (MQ below (Qm G (fin u)) args s mc ms (fun q => G.2.2.2 ≤ q)) (F0 m pc ls (st.map (cv G.2.2.2)))
/-- a method, called on these values with this memory, does what X says -/
def Ct (G : Gm) (Y : MD) (y : MethodName) (d mc ms : Nat) {T : Type} (fin : T → Option V × Hm) (X : Option T) (av : List V) (M : Hm) : Prop :=
  ∀ u : T, X = some u → Met G.1 y (Cond.code y Y.2.1 Y.2.2.1 Y.2.2.2.1 :: TT) (Rm d mc ms) (Pm G av M) (Qm G (fin u)) mc ms (fun q => G.2.2.2 ≤ q)
theorem cv_cat (b : Nat) (v : V) : (cv b v).category = match v with | .inr (.inl _) => 2 | _ => 1 := by
  rcases v with x | x | x
  · rfl
  · rfl
  · cases x <;> rfl
theorem Rp.at {G : Gm} {M : Hm} {H : Heap} (h : Rp G M H) {a : Nat} {q : Nat × Nat} (ha : M.1[a]? = some q) : va_at G.2.1 cls (G.2.2.2 + a, ce G M a q) H := h.1 a _ (wsO_at ha)
theorem AOs.moved {u U : State} (hvm : u.vm.Alike U.vm) (h : AOs u) : AOs U := ⟨va_AO.moved hvm h.1, va_AO.moved hvm h.2.1, aoA.moved hvm h.2.2.1, aoA.moved hvm h.2.2.2⟩
theorem Kn.warm {G : Gm} {u U : State} (hW : u.WarmedH U.vm) (h : Kn G u) : Kn G U := ⟨va_K.moved hW.alike h.1, AOs.moved hW.alike h.2.1, fun q hq => va_Nw.warmM hW (h.2.2 q hq)⟩
theorem Kn.same {G : Gm} {u U : State} (hvm : u.vm = U.vm) (h : Kn G u) : Kn G U := ⟨va_K.moved (by rw [hvm]; exact Vm.Alike.refl _) h.1, AOs.moved (by rw [hvm]; exact Vm.Alike.refl _) h.2.1, fun q hq => va_Nw.same rfl hvm (h.2.2 q hq)⟩
/-- one cell is written: the others stay -/
theorem Rp.put {G : Gm} {M M' : Hm} {H H1 : Heap} (h : Rp G M H) {a : Nat} {q : Nat × Nat} (ha : M.1[a]? = some q) (hs : M'.1 = M.1) (hne : ∀ c z, c ≠ a → M.1[c]? = some z → ce G M' c z = ce G M c z) (hat : va_at G.2.1 cls (G.2.2.2 + a, ce G M' a q) H1) (z : H1.size = H.size) (oq : ∀ c : Nat, c ≠ G.2.2.2 + a → H1[c]? = H[c]?) : Rp G M' H1 := by
  refine ⟨fun k x hk => ?_, by rw [z, h.2, hs]⟩
  obtain ⟨y, h1, rfl⟩ := wsO_get hk
  rw [hs] at h1
  by_cases e : k = a
  · subst e
    cases ha.symm.trans h1
    exact hat
  · rw [hne k y e h1]
    exact (h.at h1).kept (oq _ (fun w => e (Nat.add_left_cancel w)))
theorem ce_wI {G : Gm} {M : Hm} {a k : Nat} {x : Int32} {c : Nat} {z : Nat × Nat} (h : c ≠ a) : ce G (M.1, M.2.1, wI M.2.2 a k x) c z = ce G M c z := by
  have e : ∀ j, (wI M.2.2 a k x).1 c j = M.2.2.1 c j := fun j => by simp [wI, h]
  have e2 : (wI M.2.2 a k x).1 c = M.2.2.1 c := funext e
  have e3 : (wI M.2.2 a k x).2 = M.2.2.2 := rfl
  unfold ce fv
  simp only [e2, e3]
theorem ce_wL {G : Gm} {M : Hm} {a k : Nat} {x : Int64} {c : Nat} {z : Nat × Nat} (h : c ≠ a) : ce G (M.1, M.2.1, wL M.2.2 a k x) c z = ce G M c z := by
  have e2 : (wL M.2.2 a k x).2 c = M.2.2.2 c := funext fun j => by simp [wL, h]
  have e3 : (wL M.2.2 a k x).1 = M.2.2.1 := rfl
  unfold ce fv
  simp only [e2, e3]
