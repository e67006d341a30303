/-! The law's walk from its entry. -/
theorem arr_of {s : State} {cA comp : ClassId} {kA : Class} {ty : FieldType} (h2 : s.vm.classes[cA]? = some kA) (h3 : kA.kind = .array comp ty) : ArrOfT s cA ty := fun n z => ⟨fun x h => (by cases h), kA, h2, comp, h3⟩
theorem whole_start {p : Program} {e : Env} {s : State} {m : MethodId} {below : List Frame} {meth : Method} {c : Code} (l : Launch) (hflags : l.flags = flags0) {b L : Nat} {xs : Nat → Int32} (hL : L ≤ 3072) (C0 : lw_At p s m meth c b L xs) : W p l e room_1 s m #[Value.ref b] below meth c s.heap [] 0 0 (lw_Z below #[Value.ref b] s) (entryFrame m ([Value.ref b] : List Value).toArray 4) := by
  have hts : ∀ w ∈ lw_tbl, w.before #[Value.ref b] s = true := C0.2.2.2.2.2.1
  have hTT : ∀ w ∈ TT, w.before #[Value.ref b] s = true := fun w hw => hts w (List.mem_filter.mp hw).1
  have hall : ∀ ci : Nat, ∃ (cC : ClassId) (iS : Nat → Nat), ∀ q, cls[ci]? = some q → u_Kn s q.1 q.2.1 q.2.2 cC iS := fun ci => by
    cases e0 : cls[ci]? with
    | none => exact ⟨0, fun _ => 0, fun q h => by cases h⟩
    | some q =>
      obtain ⟨⟨q', h1, h2, -⟩, h3⟩ := cfi e0
      cases e0.symm.trans h1
      obtain ⟨cC, iS, h⟩ := u_known hTT h2 (hTT _ h3)
      exact ⟨cC, iS, fun r hr => by cases hr; exact h⟩
  obtain ⟨D1, hD1⟩ : ∃ D1 : Nat → ClassId, ∀ ci, ∃ iS : Nat → Nat, ∀ q, cls[ci]? = some q → u_Kn s q.1 q.2.1 q.2.2 (D1 ci) iS := ⟨fun ci => Classical.choose (hall ci), fun ci => Classical.choose_spec (hall ci)⟩
  obtain ⟨D2, hD2⟩ : ∃ D2 : Nat → Nat → Nat, ∀ ci q, cls[ci]? = some q → u_Kn s q.1 q.2.1 q.2.2 (D1 ci) (D2 ci) := ⟨fun ci => Classical.choose (hD1 ci), fun ci => Classical.choose_spec (hD1 ci)⟩
  obtain ⟨c13, k13, p13, a1, a2, a3⟩ := Cond.arrayClass_spec (hTT _ w_arrI)
  obtain ⟨c14, k14, p14, b1, b2, b3⟩ := Cond.arrayClass_spec (hTT _ w_arrJ)
  obtain ⟨c15, k15, p15, d1, d2, d3⟩ := Cond.arrayClass_spec (hTT _ w_arrZ)
  have ao17 : va_AO "AllPrograms$Language" s := va_AO.of (hts _ wao17)
  have ao16 : va_AO "AllPrograms$Ask" s := va_AO.of (hts _ wao16)
  have ao18 : aoA .int s := aoA.of (hts _ wao18)
  have ao19 : aoA .long s := aoA.of (hts _ wao19)
  obtain ⟨p17, c17, k17, f1, -, f3, f4, f5⟩ := Cond.arrayOver_spec ao17
  obtain ⟨p16, c16, k16, g1, -, g3, g4, g5⟩ := Cond.arrayOver_spec ao16
  obtain ⟨p18, c18, k18, i1, -, i3, i4, i5⟩ := arrayOverA_spec ao18
  obtain ⟨p19, c19, k19, j1, -, j3, j4, j5⟩ := arrayOverA_spec ao19
  obtain ⟨aC, h13, h14, h15, h16, h17, h18, h19⟩ : ∃ aC : Nat → ClassId, aC 13 = c13 ∧ aC 14 = c14 ∧ aC 15 = c15 ∧ aC 16 = c16 ∧ aC 17 = c17 ∧ aC 18 = c18 ∧ aC 19 = c19 := ⟨fun k => if k = 13 then c13 else if k = 14 then c14 else if k = 15 then c15 else if k = 16 then c16 else if k = 17 then c17 else if k = 18 then c18 else c19, by simp, by simp, by simp, by simp, by simp, by simp, by simp⟩
  have hK : va_K (D1, D2) cls (tysO aC) s := by
    refine ⟨hD2, fun k q hq => ?_⟩
    have hk7 : k < 7 := (List.getElem?_eq_some_iff.mp hq).1
    have h : k = 0 ∨ k = 1 ∨ k = 2 ∨ k = 3 ∨ k = 4 ∨ k = 5 ∨ k = 6 := by omega
    rcases h with rfl | rfl | rfl | rfl | rfl | rfl | rfl
    · have h : q = (aC 13, .int) := Option.some.inj hq.symm
      subst h
      show ArrOfT s (aC 13) .int ∧ s.vm.findClass ("[" ++ FieldType.int.toString) = some (aC 13)
      rw [h13]
      exact ⟨arr_of a2 a3, a1⟩
    · have h : q = (aC 14, .long) := Option.some.inj hq.symm
      subst h
      show ArrOfT s (aC 14) .long ∧ s.vm.findClass ("[" ++ FieldType.long.toString) = some (aC 14)
      rw [h14]
      exact ⟨arr_of b2 b3, b1⟩
    · have h : q = (aC 15, .boolean) := Option.some.inj hq.symm
      subst h
      show ArrOfT s (aC 15) .boolean ∧ s.vm.findClass ("[" ++ FieldType.boolean.toString) = some (aC 15)
      rw [h15]
      exact ⟨arr_of d2 d3, d1⟩
    · have h : q = (aC 16, .object "AllPrograms$Ask") := Option.some.inj hq.symm
      subst h
      show ArrOfT s (aC 16) (.object "AllPrograms$Ask") ∧ ∃ (kA : Class) (comp : ClassId), s.vm.classes[aC 16]? = some kA ∧ kA.kind = .array comp (.object "AllPrograms$Ask") ∧ s.vm.findClass "AllPrograms$Ask" = some comp ∧ s.vm.findClass ("[" ++ (FieldType.object "AllPrograms$Ask").toString) = some (aC 16)
      rw [h16]
      exact ⟨arr_of g3 g4, k16, p16, g3, g4, g1, g5⟩
    · have h : q = (aC 17, .object "AllPrograms$Language") := Option.some.inj hq.symm
      subst h
      show ArrOfT s (aC 17) (.object "AllPrograms$Language") ∧ ∃ (kA : Class) (comp : ClassId), s.vm.classes[aC 17]? = some kA ∧ kA.kind = .array comp (.object "AllPrograms$Language") ∧ s.vm.findClass "AllPrograms$Language" = some comp ∧ s.vm.findClass ("[" ++ (FieldType.object "AllPrograms$Language").toString) = some (aC 17)
      rw [h17]
      exact ⟨arr_of f3 f4, k17, p17, f3, f4, f1, f5⟩
    · have h : q = (aC 18, .array .int) := Option.some.inj hq.symm
      subst h
      show ArrOfT s (aC 18) (.array .int) ∧ s.vm.findClass ("[" ++ (FieldType.array .int).toString) = some (aC 18)
      rw [h18]
      exact ⟨arr_of i3 i4, i5⟩
    · have h : q = (aC 19, .array .long) := Option.some.inj hq.symm
      subst h
      show ArrOfT s (aC 19) (.array .long) ∧ s.vm.findClass ("[" ++ (FieldType.array .long).toString) = some (aC 19)
      rw [h19]
      exact ⟨arr_of j3 j4, j5⟩
  obtain ⟨G, hG⟩ : ∃ G : Gm, G = (l, (D1, D2), aC, s.heap.size) := ⟨_, rfl⟩
  have hKn : Kn G s := by
    rw [hG]
    exact ⟨hK, ⟨ao17, ao16, ao18, ao19⟩, nws hts⟩
  have hGb : G.2.2.2 = s.heap.size := by rw [hG]
  have hGl : G.1 = l := by rw [hG]
  have hx : Lx G p s m meth c b L xs := ⟨C0, hKn, hGb⟩
  have key : LW G p e s m below meth c b 0 0 ([], fun _ _ => none, (fun _ _ => 0, fun _ _ => 0)) [(0, .ref b)] 0 [] := by
    refine L_new (a := 0) (C := RX11) hx cf11 rfl wLc7 wins11 wLi11 (by decide) (fun _ _ _ => ⟨rfl, rfl, rfl⟩) rfl (Nat.le_of_ble_eq_true rfl) (Nat.le_of_ble_eq_true rfl) dL_law_0 (fun _ => ?_)
    refine L_dup hx dL_law_3 ?_
    refine L_init (M2 := m34) hx mcX11_init miX11_init wLm9 rfl rfl (ctX11_init G) (Nat.le_of_ble_eq_true rfl) (by decide) (Nat.le_of_ble_eq_true rfl) (Nat.le_of_ble_eq_true rfl) (Nat.le_of_ble_eq_true rfl) dL_law_4 ?_
    refine L_astore [(1, .ref (G.2.2.2 + 0)), (0, .ref b)] hx dL_law_7 rfl (by omega) rfl ?_
    refine L_new (a := 146) (C := RX12) hx cf12 rfl wLc10 wins12 wLi12 (by decide) frm34 lm34 (Nat.le_of_ble_eq_true rfl) (Nat.le_of_ble_eq_true rfl) dL_law_8 (fun hF => ?_)
    refine L_dup hx dL_law_11 ?_
    refine L_init (M2 := mE) hx mcX12_init miX12_init wLm12 rfl rfl (ctX12_init G hF (ap_len lm34 rfl) (ap_new lm34)) (Nat.le_of_ble_eq_true rfl) (by decide) (Nat.le_of_ble_eq_true rfl) (Nat.le_of_ble_eq_true rfl) (Nat.le_of_ble_eq_true rfl) dL_law_12 ?_
    refine L_astore [(2, .ref (G.2.2.2 + 146)), (1, .ref (G.2.2.2 + 0)), (0, .ref b)] hx dL_law_15 rfl (by omega) rfl ?_
    refine L_iconst (v := zI ((0 : Nat) : Int)) hx dL_law_16 (by decide) ?_
    refine L_istore (lvI G b 0) hx dL_law_17 rfl (by omega) rfl ?_
    rw [mE_eq]
    exact L_loop hx hL 600 0 _ _ 0 0 mE.2.2 (by omega) (by omega) qa_start (by omega) (Nat.le_of_ble_eq_true rfl) (Nat.le_of_ble_eq_true rfl)
  have hR0 : Rp G ([], fun _ _ => none, (fun _ _ => 0, fun _ _ => 0)) s.heap := ⟨fun k x hk => by simp [wsO] at hk, by rw [hGb]; rfl⟩
  have hl := lv_entry ([Value.ref b] : List Value) (n := 4) (Nat.le_of_ble_eq_true rfl)
  have hk := key s.heap [] _ hR0 va_S.rf hl
  rw [lg_entry_eq]
  rw [hGl] at hk
  exact hk
