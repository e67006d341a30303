/-! Rules for the law's own walk. -/
def Lx (G : Gm) (p : Program) (s : State) (m : MethodId) (meth : Method) (c : Code) (b L : Nat) (xs : Nat → Int32) : Prop := lw_At p s m meth c b L xs ∧ Kn G s ∧ G.2.2.2 = s.heap.size
def LW (G : Gm) (p : Program) (e : Env) (s : State) (m : MethodId) (below : List Frame) (meth : Method) (c : Code) (b k n : Nat) (M : Hm) (lv : List (Nat × Value)) (pc : Nat) (st : List Value) : Prop :=
  ∀ (H : Heap) (locs : List Loc) (ls : Array Slot), Rp G M H → va_S (fun q => G.2.2.2 ≤ q) s.heap H locs → lv_has ls 4 lv → W p G.1 e room_1 s m #[Value.ref b] below meth c H locs k n (lw_Z below #[Value.ref b] s) (F0 m pc ls st)
section
variable {G : Gm} {p : Program} {e : Env} {s : State} {m : MethodId} {below : List Frame} {meth : Method} {c : Code} {b L k n pc : Nat} {xs : Nat → Int32} {M : Hm} {lv : List (Nat × Value)} {st : List Value}
theorem Lx.ts (hx : Lx G p s m meth c b L xs) : ∀ w ∈ TT, w.before #[Value.ref b] s = true := fun w hw => hx.1.2.2.2.2.2.1 w (List.mem_filter.mp hw).1
theorem L_iconst {i : Int} {v : Int32} (hx : Lx G p s m meth c b L xs) (hd : decode code pc = .ok (.iconst i, 1)) (hv : Int32.ofInt i = v) (kk : LW G p e s m below meth c b k n M lv (pc + 1) (.int v :: st)) : LW G p e s m below meth c b k n M lv pc st := fun H locs ls hR hS hL => lv_iconst hx.1.1 hx.1.2.1 hd hv (kk H locs ls hR hS hL)
theorem L_bipush {i : Int} {v : Int32} (hx : Lx G p s m meth c b L xs) (hd : decode code pc = .ok (.bipush i, 2)) (hv : (Int8.ofInt i).toInt32 = v) (kk : LW G p e s m below meth c b k n M lv (pc + 2) (.int v :: st)) : LW G p e s m below meth c b k n M lv pc st := fun H locs ls hR hS hL => lv_bipush hx.1.1 hx.1.2.1 hd hv (kk H locs ls hR hS hL)
theorem L_iload {kf : Fin 4} {i j : Nat} {x : Int32} (hx : Lx G p s m meth c b L xs) (hd : decode code pc = .ok (.iload_n kf, 1)) (hi : (kf : Nat) = i) (hl : lv[j]? = some (i, .int x)) (kk : LW G p e s m below meth c b k n M lv (pc + 1) (.int x :: st)) : LW G p e s m below meth c b k n M lv pc st := fun H locs ls hR hS hL => lv_iload_n hx.1.1 hx.1.2.1 hd hi (lv_at hL j hl) (kk H locs ls hR hS hL)
theorem L_aload {kf : Fin 4} {i j x : Nat} (hx : Lx G p s m meth c b L xs) (hd : decode code pc = .ok (.aload_n kf, 1)) (hi : (kf : Nat) = i) (hl : lv[j]? = some (i, .ref x)) (kk : LW G p e s m below meth c b k n M lv (pc + 1) (.ref x :: st)) : LW G p e s m below meth c b k n M lv pc st := fun H locs ls hR hS hL => lv_aload_n hx.1.1 hx.1.2.1 hd hi (lv_at hL j hl) (kk H locs ls hR hS hL)
theorem L_istore {kf : Fin 4} {i : Nat} {x : Int32} (lv' : List (Nat × Value)) (hx : Lx G p s m meth c b L xs) (hd : decode code pc = .ok (.istore_n kf, 1)) (hi : (kf : Nat) = i) (hn : i < 4) (hl : (i, Value.int x) :: lv.filter (fun q => !(q.1 == i) && !(q.1 + 1 == i && q.2.category == 2)) = lv') (kk : LW G p e s m below meth c b k n M lv' (pc + 1) st) : LW G p e s m below meth c b k n M lv pc (.int x :: st) := fun H locs ls hR hS hL => lv_istore_n hx.1.1 hx.1.2.1 hd hi hL hn hl (fun ls' h => kk H locs ls' hR hS h)
theorem L_astore {kf : Fin 4} {i x : Nat} (lv' : List (Nat × Value)) (hx : Lx G p s m meth c b L xs) (hd : decode code pc = .ok (.astore_n kf, 1)) (hi : (kf : Nat) = i) (hn : i < 4) (hl : (i, Value.ref x) :: lv.filter (fun q => !(q.1 == i) && !(q.1 + 1 == i && q.2.category == 2)) = lv') (kk : LW G p e s m below meth c b k n M lv' (pc + 1) st) : LW G p e s m below meth c b k n M lv pc (.ref x :: st) := fun H locs ls hR hS hL => lv_astore_n hx.1.1 hx.1.2.1 hd hi hL hn hl (fun ls' h => kk H locs ls' hR hS h)
theorem L_iinc {i j : Nat} {z : Int} {x v : Int32} (lv' : List (Nat × Value)) (hx : Lx G p s m meth c b L xs) (hd : decode code pc = .ok (.iinc i z, 3)) (hj : lv[j]? = some (i, .int x)) (hv : x + Int32.ofInt z = v) (hn : i < 4) (hl : (i, Value.int v) :: lv.filter (fun q => !(q.1 == i) && !(q.1 + 1 == i && q.2.category == 2)) = lv') (kk : LW G p e s m below meth c b k n M lv' (pc + 3) st) : LW G p e s m below meth c b k n M lv pc st := fun H locs ls hR hS hL => lv_iinc hx.1.1 hx.1.2.1 hd hL hj hv hn hl (fun ls' h => kk H locs ls' hR hS h)
theorem L_iadd {x y : Int32} (hx : Lx G p s m meth c b L xs) (hd : decode code pc = .ok (.iadd, 1)) (kk : LW G p e s m below meth c b k n M lv (pc + 1) (.int (x + y) :: st)) : LW G p e s m below meth c b k n M lv pc (.int y :: .int x :: st) := fun H locs ls hR hS hL => lv_iadd hx.1.1 hx.1.2.1 hd (kk H locs ls hR hS hL)
theorem L_isub {x y : Int32} (hx : Lx G p s m meth c b L xs) (hd : decode code pc = .ok (.isub, 1)) (kk : LW G p e s m below meth c b k n M lv (pc + 1) (.int (x - y) :: st)) : LW G p e s m below meth c b k n M lv pc (.int y :: .int x :: st) := fun H locs ls hR hS hL => lv_isub hx.1.1 hx.1.2.1 hd (kk H locs ls hR hS hL)
theorem L_iand {x y : Int32} (hx : Lx G p s m meth c b L xs) (hd : decode code pc = .ok (.iand, 1)) (kk : LW G p e s m below meth c b k n M lv (pc + 1) (.int (x &&& y) :: st)) : LW G p e s m below meth c b k n M lv pc (.int y :: .int x :: st) := fun H locs ls hR hS hL => lv_iand hx.1.1 hx.1.2.1 hd (kk H locs ls hR hS hL)
theorem L_i2l {x : Int32} (hx : Lx G p s m meth c b L xs) (hd : decode code pc = .ok (.i2l, 1)) (kk : LW G p e s m below meth c b k n M lv (pc + 1) (.long x.toInt64 :: st)) : LW G p e s m below meth c b k n M lv pc (.int x :: st) := fun H locs ls hR hS hL => lv_i2l hx.1.1 hx.1.2.1 hd rfl (kk H locs ls hR hS hL)
theorem L_lshl {x : Int64} {y : Int32} (hx : Lx G p s m meth c b L xs) (hd : decode code pc = .ok (.lshl, 1)) (kk : LW G p e s m below meth c b k n M lv (pc + 1) (.long (x <<< (y.toInt64 &&& 63)) :: st)) : LW G p e s m below meth c b k n M lv pc (.int y :: .long x :: st) := fun H locs ls hR hS hL => lv_lshl hx.1.1 hx.1.2.1 hd rfl (kk H locs ls hR hS hL)
theorem L_land {x y : Int64} (hx : Lx G p s m meth c b L xs) (hd : decode code pc = .ok (.land, 1)) (kk : LW G p e s m below meth c b k n M lv (pc + 1) (.long (x &&& y) :: st)) : LW G p e s m below meth c b k n M lv pc (.long y :: .long x :: st) := fun H locs ls hR hS hL => lv_land hx.1.1 hx.1.2.1 hd (kk H locs ls hR hS hL)
theorem L_lor {x y : Int64} (hx : Lx G p s m meth c b L xs) (hd : decode code pc = .ok (.lor, 1)) (kk : LW G p e s m below meth c b k n M lv (pc + 1) (.long (x ||| y) :: st)) : LW G p e s m below meth c b k n M lv pc (.long y :: .long x :: st) := fun H locs ls hR hS hL => lv_lor hx.1.1 hx.1.2.1 hd (kk H locs ls hR hS hL)
theorem L_ldc2 {i : Nat} {v : Int64} (hx : Lx G p s m meth c b L xs) (hw : Cond.constantLong R_law i v ∈ TT) (hd : decode code pc = .ok (.ldc2_w i, 3)) (kk : LW G p e s m below meth c b k n M lv (pc + 3) (.long v :: st)) : LW G p e s m below meth c b k n M lv pc st := fun H locs ls hR hS hL => lv_ldc2 hx.1.1 hx.1.2.1 hx.1.2.2.2.2.1 (hx.ts _ hw) hd (kk H locs ls hR hS hL)
theorem L_goto {off : Int} {tgt : Nat} (hx : Lx G p s m meth c b L xs) (hd : decode code pc = .ok (.goto off, 3)) (ht : (pc : Int) + off = (tgt : Int)) (kk : LW G p e s m below meth c b k n M lv tgt st) : LW G p e s m below meth c b k n M lv pc st := fun H locs ls hR hS hL => lv_goto hx.1.1 hx.1.2.1 hd ht (kk H locs ls hR hS hL)
theorem L_dup {a : Nat} (hx : Lx G p s m meth c b L xs) (hd : decode code pc = .ok (.dup, 1)) (kk : LW G p e s m below meth c b k n M lv (pc + 1) (.ref a :: .ref a :: st)) : LW G p e s m below meth c b k n M lv pc (.ref a :: st) := fun H locs ls hR hS hL => lv_dup hx.1.1 hx.1.2.1 hd rfl (kk H locs ls hR hS hL)
/-- both answers alike: on to the next call -/
theorem L_eq {r : Int32} {off : Int} {tgt : Nat} (hx : Lx G p s m meth c b L xs) (hd : decode code pc = .ok (.if_icmp .eq off, 3)) (ht : (pc : Int) + off = (tgt : Int)) (kk : LW G p e s m below meth c b k n M lv tgt st) : LW G p e s m below meth c b k n M lv pc (.int r :: .int r :: st) := fun H locs ls hR hS hL => lv_icmp_eq hx.1.1 hx.1.2.1 hd ht (fun _ => kk H locs ls hR hS hL) (fun q => absurd rfl q)
theorem L_leq {r : Int64} {off : Int} {tgt : Nat} (hx : Lx G p s m meth c b L xs) (hd : decode code pc = .ok (.lcmp, 1)) (hd2 : decode code (pc + 1) = .ok (.ifCond .eq off, 3)) (ht : ((pc + 1 : Nat) : Int) + off = (tgt : Int)) (kk : LW G p e s m below meth c b k n M lv tgt st) : LW G p e s m below meth c b k n M lv pc (.long r :: .long r :: st) := fun H locs ls hR hS hL => by
  have e : cmpL r r = 0 := by
    unfold cmpL
    rw [if_neg Int64.lt_irrefl, if_pos rfl]
  have h := W.lcmp hx.1.1 hx.1.2.1 hd (lv_if_eq (x := cmpL r r) hx.1.1 hx.1.2.1 hd2 ht (fun _ => kk H locs ls hR hS hL) (fun q => absurd e q))
  exact h
/-- the head of the loop -/
theorem L_gt {x y : Int32} {off : Int} {tgt : Nat} (hx : Lx G p s m meth c b L xs) (hd : decode code pc = .ok (.if_icmp .gt off, 3)) (ht : (pc : Int) + off = (tgt : Int)) (k1 : y < x → LW G p e s m below meth c b k n M lv tgt st) (k2 : ¬ y < x → LW G p e s m below meth c b k n M lv (pc + 3) st) : LW G p e s m below meth c b k n M lv pc (.int y :: .int x :: st) := fun H locs ls hR hS hL => lv_icmp_gt hx.1.1 hx.1.2.1 hd ht (fun q => k1 q H locs ls hR hS hL) (fun q => k2 q H locs ls hR hS hL)
theorem L_slen (hx : Lx G p s m meth c b L xs) (hd : decode code pc = .ok (.arraylength, 1)) (kk : LW G p e s m below meth c b k n M lv (pc + 1) (.int (Int32.ofNat L) :: st)) : LW G p e s m below meth c b k n M lv pc (.ref b :: st) := fun H locs ls hR hS hL => va_slen hx.1.1 hx.1.2.1 hx.1.2.2.2.2.2.2.1 hx.1.2.2.2.2.2.2.2.1 (by have := hx.1.2.2.2.2.2.2.2.1; rw [hx.2.2]; omega) hS hd (kk H locs ls hR hS hL)
theorem L_sld {j : Nat} (hx : Lx G p s m meth c b L xs) (hj : j < L) (hL3 : L ≤ 3072) (hd : decode code pc = .ok (.iaload, 1)) (kk : LW G p e s m below meth c b k n M lv (pc + 1) (.int (xs j) :: st)) : LW G p e s m below meth c b k n M lv pc (.int (zI j) :: .ref b :: st) := fun H locs ls hR hS hL => by
  have hcl : (zI (j : Int)).toNatClampNeg = j := by rw [zI_clamp (by omega)]; exact Int.toNat_natCast j
  have h := va_sld (i := zI j) hx.1.1 hx.1.2.1 hx.1.2.2.2.2.2.2.1 hx.1.2.2.2.2.2.2.2.1 (by have := hx.1.2.2.2.2.2.2.2.1; rw [hx.2.2]; omega) hS (show vp_in (zI j) L from fun q => by
    rw [zI_lt0 (by omega), hcl] at q
    omega) hd (by rw [hcl]; exact kk H locs ls hR hS hL)
  exact h
/-- an argument: script[i + d] -/
theorem L_arg {v d : Nat} {r1 r2 : Nat × Value} (hx : Lx G p s m meth c b L xs) (hlv : lv = [(3, .int (zI v)), r1, r2, (0, .ref b)]) (hv : v + 6 ≤ L) (hL3 : L ≤ 3072) (hd5 : d ≤ 5) (d0 : decode code pc = .ok (.aload_n 0, 1)) (d1 : decode code (pc + 1) = .ok (.iload_n 3, 1)) (d2 : decode code (pc + 2) = .ok (.iconst d, 1)) (d3 : decode code (pc + 3) = .ok (.iadd, 1)) (d4 : decode code (pc + 4) = .ok (.iaload, 1)) (kk : LW G p e s m below meth c b k n M lv (pc + 5) (.int (xs (v + d)) :: st)) : LW G p e s m below meth c b k n M lv pc st := by
  subst hlv
  refine L_aload (j := 3) hx d0 rfl rfl ?_
  refine L_iload (j := 0) hx d1 rfl rfl ?_
  refine L_iconst (v := zI d) hx d2 rfl ?_
  refine L_iadd hx d3 ?_
  rw [zI_add, show (v : Int) + (d : Int) = ((v + d : Nat) : Int) from rfl]
  exact L_sld hx (by omega) hL3 d4 kk
/-- a call of a public method on one of the two objects -/
theorem L_call {y : MethodName} {Y2 : MD} {na idx a ci d2 mc2 ms2 : Nat} {C : String} {T2 : Type} {fin2 : T2 → Option V × Hm} {F : Option T2} {u : T2} {v : V} {M2 : Hm} (As : List V) {st0 : List Value} (hx : Lx G p s m meth c b L xs)
    (hm : MI y Y2 na C) (hl : Cond.methodLink R_law idx y ∈ TT) (hcl : cls[ci]?.map (fun q => q.1) = some C) (hci : ci < 13) (ha : M.1[a]? = some (ci, nF ci)) (hM : Ct G Y2 y d2 mc2 ms2 fin2 F (vR (some a) :: As) M) (hF : F = some u) (hfu : fin2 u = (some v, M2)) (hna : As.length = na) (hst : st0 = (As.map (cv G.2.2.2)).reverse ++ .ref (G.2.2.2 + a) :: st) (hw : (st.map fun v => v.category).sum ≤ 8) (hd2 : d2 ≤ 1000) (hY2 : Y2.2.2.1 ≤ 61) (hk : k + mc2 ≤ 600000) (hn : n + ms2 ≤ 7302250) (hd : decode code pc = .ok (.invokevirtual idx, 3))
    (kk : LW G p e s m below meth c b (k + mc2) (n + ms2) M2 lv (pc + 3) (cv G.2.2.2 v :: st)) : LW G p e s m below meth c b k n M lv pc st0 := fun H locs ls hR hS hL => by
  have hts := hx.ts
  have hC0 := hx.1
  have hcell := wsO_at (G := G) ha
  rw [ce_obj hci] at hcell
  obtain ⟨q, hq, hqC⟩ := Option.map_eq_some_iff.mp hcl
  have hrecv := va_recv hx.2.1.1 hR.1 hq hcell
  rw [hqC] at hrecv
  have cw : CallW room_1 s #[Value.ref b] R_law C idx y Y2.2.1 Y2.2.2.1 Y2.2.2.2.1 (Cond.code y Y2.2.1 Y2.2.2.1 Y2.2.2.2.1 :: TT) (Rm d2 mc2 ms2) mc2 ms2 na :=
    ⟨callB_of na hts (goodT0 hm.1.2.2.2) rfl rfl rfl (hts _ hm.1.2.2.1) (hts _ hl) hm.1.2.1 ⟨by show d2 + 1 ≤ 2048; omega, by show 8 + (Y2.2.2.1 + 11) + 80 * d2 ≤ 84000; omega⟩, hts _ hm.2.1, hts _ hm.2.2⟩
  have hr := va_runV (b := G.2.2.2 + a) (As := As.map (cv G.2.2.2)) (rest := st) (g := F0 m pc ls st0) (cells := k) (slots := n) (locs := locs) (H := H) (e := e) (below := below) (meth := meth) (l := G.1) (R := room_1) ⟨hC0.1, hC0.2.1, hC0.2.2.2.1, hC0.2.2.2.2.1, hts⟩ (hM u hF) cw ⟨Pm_blind, hrecv, fun U hU hW => ⟨rfl, by rw [hU]; exact hR, Kn.warm hW hx.2.1⟩⟩ rfl (by rw [List.length_map]; exact hna) hL.1 hst (lv_room (rest := st0) (st := st) hw) hd ⟨hk, hn⟩
  intro T hT X
  obtain ⟨v', st₀, t, T', L1, h0, X', hL1, e1, e2, ⟨hv, hR1, hz, hk1⟩, stp⟩ := hr T hT X
  rw [h0] at hz hk1
  rw [hfu] at hv hR1
  have hv2 : v' = some (cv G.2.2.2 v) := Outcome.returned.inj hv
  obtain ⟨t2, a1, b1⟩ := kk T'.heap (locs ++ L1) ls (by rw [e1]; exact hR1) ⟨Nat.le_trans hS.1 (by rw [e1]; exact hz), fun q h1 h2 => by rw [e1, hk1 q (Nat.lt_of_lt_of_le h1 hS.1) h2]; exact hS.2.1 q h1 h2, fun q hq => by
    rcases List.mem_append.mp hq with h | h
    · exact hS.2.2 q h
    · exact hL1 q h⟩ hL T' rfl X'
  refine ⟨t2, stp t2 ?_, b1⟩
  rw [hv2]
  exact a1
/-- a constructor of one of the two classes -/
theorem L_init {y : MethodName} {Y2 : MD} {idx a d2 mc2 ms2 : Nat} {M2 : Hm} (hx : Lx G p s m meth c b L xs) (hm : MC y Y2 0) (hi : Cond.instanceMethod y ∈ TT) (hl : Cond.methodLink R_law idx y ∈ TT) (hname : y.name = "<init>") (hret : Y2.2.2.2.1 = none) (hM : Ct G Y2 y d2 mc2 ms2 finH (some M2) [vR (some a)] M) (hw : (st.map fun v => v.category).sum ≤ 8) (hd2 : d2 ≤ 1000) (hY2 : Y2.2.2.1 ≤ 61) (hk : k + mc2 ≤ 600000) (hn : n + ms2 ≤ 7302250) (hd : decode code pc = .ok (.invokespecial idx, 3))
    (kk : LW G p e s m below meth c b (k + mc2) (n + ms2) M2 lv (pc + 3) st) : LW G p e s m below meth c b k n M lv pc (.ref (G.2.2.2 + a) :: st) := fun H locs ls hR hS hL => by
  obtain ⟨c2, b2, l2, r2, f2⟩ := Y2
  have hret : r2 = none := hret
  subst hret
  have hts := hx.ts
  have hC0 := hx.1
  have cw := cwI (s := s) (args := #[Value.ref b]) (R := room_1) (rm := Rm d2 mc2 ms2) (own := R_law) (index := idx) (y := y) (bytes := b2) (maxL := l2) (mc := mc2) (ms := ms2) 0 hts (goodT0 hm.2.2.2) rfl rfl rfl (hts _ hm.2.2.1) (hts _ hl) (hts _ hi) hname hm.2.1 ⟨by show d2 + 1 ≤ 2048; omega, by have hY2 : l2 ≤ 61 := hY2; show 8 + (l2 + 11) + 80 * d2 ≤ 84000; omega⟩
  have hr := va_runI (b := G.2.2.2 + a) (As := []) (rest := st) (g := F0 m pc ls (.ref (G.2.2.2 + a) :: st)) (cells := k) (slots := n) (locs := locs) (H := H) (e := e) (below := below) (meth := meth) (l := G.1) (R := room_1) ⟨hC0.1, hC0.2.1, hC0.2.2.2.1, hC0.2.2.2.2.1, hts⟩ (hM M2 rfl) cw ⟨Pm_blind, fun U hU hW => ⟨rfl, by rw [hU]; exact hR, Kn.warm hW hx.2.1⟩⟩ rfl rfl hL.1 rfl (lv_room (rest := .ref (G.2.2.2 + a) :: st) (st := st) hw) hd ⟨hk, hn⟩
  intro T hT X
  obtain ⟨v', st₀, t, T', L1, h0, X', hL1, e1, e2, ⟨hv, hR1, hz, hk1⟩, stp⟩ := hr T hT X
  rw [h0] at hz hk1
  have hv2 : v' = none := Outcome.returned.inj hv
  obtain ⟨t2, a1, b1⟩ := kk T'.heap (locs ++ L1) ls (by rw [e1]; exact hR1) ⟨Nat.le_trans hS.1 (by rw [e1]; exact hz), fun q h1 h2 => by rw [e1, hk1 q (Nat.lt_of_lt_of_le h1 hS.1) h2]; exact hS.2.1 q h1 h2, fun q hq => by
    rcases List.mem_append.mp hq with h | h
    · exact hS.2.2 q h
    · exact hL1 q h⟩ hL T' rfl X'
  refine ⟨t2, stp t2 ?_, b1⟩
  rw [hv2]
  exact a1
theorem L_new {ci idx a : Nat} {C : String} (hx : Lx G p s m meth c b L xs) (hcf : CF ci) (hC' : cls[ci]?.map (fun q => q.1) = some C) (hlk : Cond.classLink R_law idx C ∈ TT) (hins : Cond.instantiable C (nF ci) ∈ TT) (hini : Cond.initialized C ∈ TT) (hdv : ∀ j, j < nF ci → dvO (fty ci j) = true) (hF : Fr M) (ha : M.1.length = a) (hk : k + 1 ≤ 600000) (hn : n + nF ci ≤ 7302250) (hd : decode code pc = .ok (.new idx, 3))
    (kk : Fr (M.1 ++ [(ci, nF ci)], M.2.1, M.2.2) → LW G p e s m below meth c b (k + 1) (n + nF ci) (M.1 ++ [(ci, nF ci)], M.2.1, M.2.2) lv (pc + 3) (.ref (G.2.2.2 + a) :: st)) : LW G p e s m below meth c b k n M lv pc st := fun H locs ls hR hS hL => by
  obtain ⟨q, hq, hin, hty, hnm, hci⟩ := hcf
  have hts := hx.ts
  have hKn := hx.2.1.1.1 ci _ hq
  have hqC : q.1 = C := by rw [hq] at hC'; exact Option.some.inj hC'
  have hnf := nF_of hq
  subst ha
  have hw1 := hts _ hlk
  have hw2 := hts _ hins
  have hw3 := hts _ hini
  rw [← hqC] at hw1 hw2 hw3
  rw [hnf] at hw2
  refine W.newcK hx.1.1 hx.1.2.1 hx.1.2.2.2.2.1 hw1 hw2 hw3 rfl hd hk (by rw [← hnf]; exact hn) hKn.2.1 hR.2 fun H1 kC hkC e1 z1 o1 => ?_
  rw [← hnf]
  refine kk (hF.app _) H1 locs ls (Rp_app (l := [(ci, nF ci)]) hR (by rw [z1, hR.2]; rfl) (fun x hx => o1 x (by rw [← hR.2]; exact hx)) rfl (fun c z _ => ce_2 rfl c z) (fun i z hi => ?_)) (sS_app hS (by rw [z1, hR.2]; omega) (fun x hx => o1 x (by rw [← hR.2]; exact hx))) hL
  have hi0 : i = 0 := by
    have : i < 1 := (List.getElem?_eq_some_iff.mp hi).1
    omega
  subst hi0
  have hz : z = (ci, nF ci) := (Option.some.inj hi).symm
  subst hz
  rw [Nat.add_zero, ce_obj hci]
  refine ⟨_, hq, ?_⟩
  refine (u_born (fty ci) hts hin hKn hkC e1 hty).to (fun j hj => ?_)
  rw [← hnf] at hj
  rw [vpV_range hj]
  exact fv_0 (hdv j hj) (hF M.1.length (Nat.le_refl _) j)
/-- the law's end -/
theorem L_end (hx : Lx G p s m meth c b L xs) (hk : k ≤ 600000) (hn : n ≤ 7302250) (hd0 : decode code pc = .ok (.iconst 1, 1)) (hd : decode code (pc + 1) = .ok (.ireturn, 1)) : LW G p e s m below meth c b k n M lv pc [] := fun H locs ls hR hS hL => by
  refine lv_iconst (v := 1) hx.1.1 hx.1.2.1 hd0 (by decide) ?_
  refine va_forget (fun q hq => ?_) ?_
  · have := hS.2.2 q hq
    rw [hx.2.2] at this
    exact this
  · exact W.widen hk hn (lw_ret hx.1.1 hx.1.2.1 hx.1.2.2.1 hx.1.2.2.2.2.2.2.2.2.1 hd)
end
theorem and63 (x : Int32) : ∃ k : Nat, k < 64 ∧ x &&& 63 = zI k := by
  refine ⟨x.toBitVec.toNat % 64, Nat.mod_lt _ (by omega), ?_⟩
  apply Int32.toBitVec_inj.mp
  rw [zI_tb]
  apply BitVec.eq_of_toNat_eq
  rw [Int32.toBitVec_and, BitVec.toNat_and, BitVec.toNat_ofNat]
  show x.toBitVec.toNat &&& 63 = _
  rw [show (63 : Nat) = 2 ^ 6 - 1 from rfl, Nat.and_two_pow_sub_one_eq_mod, Nat.mod_eq_of_lt (b := 2 ^ 32) (by omega)]
