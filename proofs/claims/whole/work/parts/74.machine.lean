theorem dX4_writeOut_0 : decode cX4_writeOut 0 = .ok (.iconst 0, 1) := by decide +kernel
theorem dX4_writeOut_1 : decode cX4_writeOut 1 = .ok (.istore_n 3, 1) := by decide +kernel
theorem dX4_writeOut_2 : decode cX4_writeOut 2 = .ok (.iload_n 3, 1) := by decide +kernel
theorem dX4_writeOut_3 : decode cX4_writeOut 3 = .ok (.aload_n 1, 1) := by decide +kernel
theorem dX4_writeOut_4 : decode cX4_writeOut 4 = .ok (.iload_n 2, 1) := by decide +kernel
theorem dX4_writeOut_5 : decode cX4_writeOut 5 = .ok (.invokevirtual 65, 3) := by decide +kernel
theorem dX4_writeOut_8 : decode cX4_writeOut 8 = .ok (.if_icmp .ge 46, 3) := by decide +kernel
theorem dX4_writeOut_11 : decode cX4_writeOut 11 = .ok (.aload_n 0, 1) := by decide +kernel
theorem dX4_writeOut_12 : decode cX4_writeOut 12 = .ok (.getfield 17, 3) := by decide +kernel
theorem dX4_writeOut_15 : decode cX4_writeOut 15 = .ok (.aload_n 0, 1) := by decide +kernel
theorem dX4_writeOut_16 : decode cX4_writeOut 16 = .ok (.getfield 11, 3) := by decide +kernel
theorem dX4_writeOut_19 : decode cX4_writeOut 19 = .ok (.arraylength, 1) := by decide +kernel
theorem dX4_writeOut_20 : decode cX4_writeOut 20 = .ok (.if_icmp .ge 34, 3) := by decide +kernel
theorem dX4_writeOut_23 : decode cX4_writeOut 23 = .ok (.aload_n 0, 1) := by decide +kernel
theorem dX4_writeOut_24 : decode cX4_writeOut 24 = .ok (.getfield 11, 3) := by decide +kernel
theorem dX4_writeOut_27 : decode cX4_writeOut 27 = .ok (.aload_n 0, 1) := by decide +kernel
theorem dX4_writeOut_28 : decode cX4_writeOut 28 = .ok (.getfield 17, 3) := by decide +kernel
theorem dX4_writeOut_31 : decode cX4_writeOut 31 = .ok (.aload_n 1, 1) := by decide +kernel
theorem dX4_writeOut_32 : decode cX4_writeOut 32 = .ok (.iload_n 2, 1) := by decide +kernel
theorem dX4_writeOut_33 : decode cX4_writeOut 33 = .ok (.iload_n 3, 1) := by decide +kernel
theorem dX4_writeOut_34 : decode cX4_writeOut 34 = .ok (.invokevirtual 68, 3) := by decide +kernel
theorem dX4_writeOut_37 : decode cX4_writeOut 37 = .ok (.iastore, 1) := by decide +kernel
theorem dX4_writeOut_38 : decode cX4_writeOut 38 = .ok (.aload_n 0, 1) := by decide +kernel
theorem dX4_writeOut_39 : decode cX4_writeOut 39 = .ok (.dup, 1) := by decide +kernel
theorem dX4_writeOut_40 : decode cX4_writeOut 40 = .ok (.getfield 17, 3) := by decide +kernel
theorem dX4_writeOut_43 : decode cX4_writeOut 43 = .ok (.iconst 1, 1) := by decide +kernel
theorem dX4_writeOut_44 : decode cX4_writeOut 44 = .ok (.iadd, 1) := by decide +kernel
theorem dX4_writeOut_45 : decode cX4_writeOut 45 = .ok (.putfield 17, 3) := by decide +kernel
theorem dX4_writeOut_48 : decode cX4_writeOut 48 = .ok (.iinc 3 1, 3) := by decide +kernel
theorem dX4_writeOut_51 : decode cX4_writeOut 51 = .ok (.goto (-49), 3) := by decide +kernel
theorem dX4_writeOut_54 : decode cX4_writeOut 54 = .ok (.return_, 1) := by decide +kernel
set_option maxRecDepth 100000 in
set_option maxHeartbeats 4000000 in
theorem t4_writeOut_h2 (G : Gm) (t : Nat) (N : Nat) (a1 : Nat) (x2 : Int32) (h1 : a1 ∈ ad3)   : ∀ (n : Nat) (x3 : Int32) (S : St), J G YX4_writeOut 2 0 0 (fV t) 0 0 2 [some (vR (some 6)), some (vR (some a1)), some (vI x2), some (vI x3)] [] (MM t S) (f4_writeOut_h2 N a1 x2 n x3 S) := by
  intro n
  induction n with
  | zero => intro x3 S; exact J_none
  | succ n ih =>
    intro x3 S
    rw [f4_writeOut_h2]
    refine J_iload_n dX4_writeOut_2 rfl rfl ?_
    refine J_aload_n dX4_writeOut_3 rfl rfl ?_
    refine J_iload_n dX4_writeOut_4 rfl rfl ?_
    refine K_callV_i (As := [vI x2]) mcX3_writtenLength mlX4_65 rfl (by decide) (sq3_0 h1) (ct3_writtenLength G t a1 x2 h1 S) rfl rfl (Nat.le_of_ble_eq_true rfl) (by decide) (Nat.le_of_ble_eq_true rfl) dX4_writeOut_5 (fun q1 S2 => ?_)
    refine J_icmp_ge (tgt := 54) dX4_writeOut_8 (by decide) (fun z3 => ?_) (fun z3 => ?_)
    · exact J_return rfl (Nat.le_refl _) (Nat.le_refl _) rfl dX4_writeOut_54
    · refine J_aload_n dX4_writeOut_11 rfl rfl ?_
      refine K_getI cf4 flX4_17 (sq 6 rfl) (Or.inl rfl) dX4_writeOut_12 ?_
      refine J_aload_n dX4_writeOut_15 rfl rfl ?_
      refine K_getR (r := some (7)) cf4 flX4_11 (sq 6 rfl) rfl (Or.inr ⟨_, rfl⟩) dX4_writeOut_16 ?_
      refine K_alen (v := nI 48) (sq 7 rfl) (by decide) rfl dX4_writeOut_19 ?_
      refine J_icmp_ge (tgt := 54) dX4_writeOut_20 (by decide) (fun z4 => ?_) (fun z4 => ?_)
      · exact J_return rfl (Nat.le_refl _) (Nat.le_refl _) rfl dX4_writeOut_54
      · refine J_aload_n dX4_writeOut_23 rfl rfl ?_
        refine K_getR (r := some (7)) cf4 flX4_11 (sq 6 rfl) rfl (Or.inr ⟨_, rfl⟩) dX4_writeOut_24 ?_
        refine J_aload_n dX4_writeOut_27 rfl rfl ?_
        refine K_getI cf4 flX4_17 (sq 6 rfl) (Or.inl rfl) dX4_writeOut_28 ?_
        refine J_aload_n dX4_writeOut_31 rfl rfl ?_
        refine J_iload_n dX4_writeOut_32 rfl rfl ?_
        refine J_iload_n dX4_writeOut_33 rfl rfl ?_
        refine K_callV_i (As := [vI x2, vI x3]) mcX3_written mlX4_68 rfl (by decide) (sq3_0 h1) (ct3_written G t a1 x2 x3 h1 S2) rfl rfl (Nat.le_of_ble_eq_true rfl) (by decide) (Nat.le_of_ble_eq_true rfl) dX4_writeOut_34 (fun q5 S6 => ?_)
        refine K_iast (sq 7 rfl) dX4_writeOut_37 ?_
        refine J_ltS (fun S7 _ => ?_)
        refine J_aload_n dX4_writeOut_38 rfl rfl ?_
        refine J_dup dX4_writeOut_39 rfl ?_
        refine K_getI cf4 flX4_17 (sq 6 rfl) (Or.inl rfl) dX4_writeOut_40 ?_
        refine J_iconst (v := nI 1) dX4_writeOut_43 (by decide) ?_
        refine J_iadd dX4_writeOut_44 ?_
        refine K_putI cf4 flX4_17 (sq 6 rfl) rfl dX4_writeOut_45 ?_
        refine J_ltS (fun S8 _ => ?_)
        refine J_iinc (v := x3 + nI 1) [some (vR (some 6)), some (vR (some a1)), some (vI x2), some (vI (x3 + nI 1))] dX4_writeOut_48 rfl rfl (Nat.le_of_ble_eq_true rfl) rfl rfl ?_
        refine J_goto (tgt := 2) dX4_writeOut_51 (by decide) ?_
        exact J_sb (ih (x3 + nI 1) S8) (And.intro rfl (And.intro rfl (And.intro rfl (And.intro rfl (trivial)))))
set_option maxRecDepth 100000 in
set_option maxHeartbeats 4000000 in
theorem ct4_writeOut (G : Gm) (t : Nat) (N : Nat) (a1 : Nat) (x2 : Int32) (h1 : a1 ∈ ad3) (S : St) : Ct G YX4_writeOut yX4_writeOut 2 0 0 (fV t) (f4_writeOut N a1 x2 S) [vR (some 6), vR (some a1), vI x2] (MM t S) := by
  refine Ct_of_J [some (vR (some 6)), some (vR (some a1)), some (vI x2), none] (by decide) rfl (fun h => by cases h) (Nat.le_of_ble_eq_true rfl) (And.intro rfl (And.intro rfl (And.intro rfl (trivial)))) ?_
  unfold f4_writeOut
  refine J_iconst (v := nI 0) dX4_writeOut_0 (by decide) ?_
  refine J_istore_n [some (vR (some 6)), some (vR (some a1)), some (vI x2), some (vI (nI 0))] dX4_writeOut_1 rfl (Nat.le_of_ble_eq_true rfl) rfl rfl ?_
  exact J_sb (t4_writeOut_h2 G t N a1 x2 h1 N (nI 0) S) (And.intro rfl (And.intro rfl (And.intro rfl (And.intro rfl (trivial)))))
theorem dX4_wasHereBefore_0 : decode cX4_wasHereBefore 0 = .ok (.aload_n 0, 1) := by decide +kernel
theorem dX4_wasHereBefore_1 : decode cX4_wasHereBefore 1 = .ok (.getfield 24, 3) := by decide +kernel
theorem dX4_wasHereBefore_4 : decode cX4_wasHereBefore 4 = .ok (.ifCond .lt 29, 3) := by decide +kernel
theorem dX4_wasHereBefore_7 : decode cX4_wasHereBefore 7 = .ok (.aload_n 0, 1) := by decide +kernel
theorem dX4_wasHereBefore_8 : decode cX4_wasHereBefore 8 = .ok (.getfield 24, 3) := by decide +kernel
theorem dX4_wasHereBefore_11 : decode cX4_wasHereBefore 11 = .ok (.bipush 20, 2) := by decide +kernel
theorem dX4_wasHereBefore_13 : decode cX4_wasHereBefore 13 = .ok (.if_icmp .ge 20, 3) := by decide +kernel
theorem dX4_wasHereBefore_16 : decode cX4_wasHereBefore 16 = .ok (.aload_n 0, 1) := by decide +kernel
theorem dX4_wasHereBefore_17 : decode cX4_wasHereBefore 17 = .ok (.getfield 27, 3) := by decide +kernel
theorem dX4_wasHereBefore_20 : decode cX4_wasHereBefore 20 = .ok (.ifCond .lt 13, 3) := by decide +kernel
theorem dX4_wasHereBefore_23 : decode cX4_wasHereBefore 23 = .ok (.aload_n 0, 1) := by decide +kernel
theorem dX4_wasHereBefore_24 : decode cX4_wasHereBefore 24 = .ok (.getfield 27, 3) := by decide +kernel
theorem dX4_wasHereBefore_27 : decode cX4_wasHereBefore 27 = .ok (.sipush 1000, 3) := by decide +kernel
theorem dX4_wasHereBefore_30 : decode cX4_wasHereBefore 30 = .ok (.if_icmp .lt 5, 3) := by decide +kernel
theorem dX4_wasHereBefore_33 : decode cX4_wasHereBefore 33 = .ok (.iconst 0, 1) := by decide +kernel
theorem dX4_wasHereBefore_34 : decode cX4_wasHereBefore 34 = .ok (.ireturn, 1) := by decide +kernel
theorem dX4_wasHereBefore_35 : decode cX4_wasHereBefore 35 = .ok (.aload_n 0, 1) := by decide +kernel
theorem dX4_wasHereBefore_36 : decode cX4_wasHereBefore 36 = .ok (.getfield 24, 3) := by decide +kernel
theorem dX4_wasHereBefore_39 : decode cX4_wasHereBefore 39 = .ok (.sipush 1000, 3) := by decide +kernel
theorem dX4_wasHereBefore_42 : decode cX4_wasHereBefore 42 = .ok (.imul, 1) := by decide +kernel
theorem dX4_wasHereBefore_43 : decode cX4_wasHereBefore 43 = .ok (.aload_n 0, 1) := by decide +kernel
theorem dX4_wasHereBefore_44 : decode cX4_wasHereBefore 44 = .ok (.getfield 27, 3) := by decide +kernel
theorem dX4_wasHereBefore_47 : decode cX4_wasHereBefore 47 = .ok (.iadd, 1) := by decide +kernel
theorem dX4_wasHereBefore_48 : decode cX4_wasHereBefore 48 = .ok (.istore_n 1, 1) := by decide +kernel
theorem dX4_wasHereBefore_49 : decode cX4_wasHereBefore 49 = .ok (.aload_n 0, 1) := by decide +kernel
theorem dX4_wasHereBefore_50 : decode cX4_wasHereBefore 50 = .ok (.getfield 42, 3) := by decide +kernel
theorem dX4_wasHereBefore_53 : decode cX4_wasHereBefore 53 = .ok (.iload_n 1, 1) := by decide +kernel
theorem dX4_wasHereBefore_54 : decode cX4_wasHereBefore 54 = .ok (.iaload, 1) := by decide +kernel
theorem dX4_wasHereBefore_55 : decode cX4_wasHereBefore 55 = .ok (.aload_n 0, 1) := by decide +kernel
theorem dX4_wasHereBefore_56 : decode cX4_wasHereBefore 56 = .ok (.getfield 45, 3) := by decide +kernel
theorem dX4_wasHereBefore_59 : decode cX4_wasHereBefore 59 = .ok (.if_icmp .ne 7, 3) := by decide +kernel
theorem dX4_wasHereBefore_62 : decode cX4_wasHereBefore 62 = .ok (.iconst 1, 1) := by decide +kernel
theorem dX4_wasHereBefore_63 : decode cX4_wasHereBefore 63 = .ok (.goto 4, 3) := by decide +kernel
theorem dX4_wasHereBefore_66 : decode cX4_wasHereBefore 66 = .ok (.iconst 0, 1) := by decide +kernel
theorem dX4_wasHereBefore_67 : decode cX4_wasHereBefore 67 = .ok (.istore_n 2, 1) := by decide +kernel
theorem dX4_wasHereBefore_68 : decode cX4_wasHereBefore 68 = .ok (.aload_n 0, 1) := by decide +kernel
theorem dX4_wasHereBefore_69 : decode cX4_wasHereBefore 69 = .ok (.getfield 42, 3) := by decide +kernel
theorem dX4_wasHereBefore_72 : decode cX4_wasHereBefore 72 = .ok (.iload_n 1, 1) := by decide +kernel
theorem dX4_wasHereBefore_73 : decode cX4_wasHereBefore 73 = .ok (.aload_n 0, 1) := by decide +kernel
theorem dX4_wasHereBefore_74 : decode cX4_wasHereBefore 74 = .ok (.getfield 45, 3) := by decide +kernel
theorem dX4_wasHereBefore_77 : decode cX4_wasHereBefore 77 = .ok (.iastore, 1) := by decide +kernel
theorem dX4_wasHereBefore_78 : decode cX4_wasHereBefore 78 = .ok (.iload_n 2, 1) := by decide +kernel
theorem dX4_wasHereBefore_79 : decode cX4_wasHereBefore 79 = .ok (.ireturn, 1) := by decide +kernel
set_option maxRecDepth 100000 in
set_option maxHeartbeats 4000000 in
theorem t4_wasHereBefore_j67 (G : Gm) (t : Nat)  (x1 : Int32)    : ∀ (xs0 : Int32) (S : St), J G YX4_wasHereBefore 1 0 0 (fI t) 0 0 67 [some (vR (some 6)), some (vI x1), none] [vI xs0] (MM t S) (f4_wasHereBefore_j67 x1 xs0 S) := by
  intro xs0 S
  unfold f4_wasHereBefore_j67
  refine J_istore_n [some (vR (some 6)), some (vI x1), some (vI xs0)] dX4_wasHereBefore_67 rfl (Nat.le_of_ble_eq_true rfl) rfl rfl ?_
  refine J_aload_n dX4_wasHereBefore_68 rfl rfl ?_
  refine K_getR (r := some (9)) cf4 flX4_42 (sq 6 rfl) rfl (Or.inr ⟨_, rfl⟩) dX4_wasHereBefore_69 ?_
  refine J_iload_n dX4_wasHereBefore_72 rfl rfl ?_
  refine J_aload_n dX4_wasHereBefore_73 rfl rfl ?_
  refine K_getI cf4 flX4_45 (sq 6 rfl) (Or.inl rfl) dX4_wasHereBefore_74 ?_
  refine K_iast (sq 9 rfl) dX4_wasHereBefore_77 ?_
  refine J_ltS (fun S1 _ => ?_)
  refine J_iload_n dX4_wasHereBefore_78 rfl rfl ?_
  refine J_ckB (fun hz => ?_)
  exact J_zreturn hz rfl (Nat.le_refl _) (Nat.le_refl _) rfl dX4_wasHereBefore_79
set_option maxRecDepth 100000 in
set_option maxHeartbeats 4000000 in
theorem ct4_wasHereBefore (G : Gm) (t : Nat)    (S : St) : Ct G YX4_wasHereBefore yX4_wasHereBefore 1 0 0 (fI t) (f4_wasHereBefore S) [vR (some 6)] (MM t S) := by
  refine Ct_of_J [some (vR (some 6)), none, none] (by decide) rfl (fun h => by cases h) (Nat.le_of_ble_eq_true rfl) (And.intro rfl (trivial)) ?_
  unfold f4_wasHereBefore
  refine J_aload_n dX4_wasHereBefore_0 rfl rfl ?_
  refine K_getI cf4 flX4_24 (sq 6 rfl) (Or.inl rfl) dX4_wasHereBefore_1 ?_
  refine J_if_lt (tgt := 33) dX4_wasHereBefore_4 (by decide) (fun z1 => ?_) (fun z1 => ?_)
  · refine J_iconst (v := nI 0) dX4_wasHereBefore_33 (by decide) ?_
    exact J_zreturn (by decide) rfl (Nat.le_refl _) (Nat.le_refl _) rfl dX4_wasHereBefore_34
  · refine J_aload_n dX4_wasHereBefore_7 rfl rfl ?_
    refine K_getI cf4 flX4_24 (sq 6 rfl) (Or.inl rfl) dX4_wasHereBefore_8 ?_
    refine J_bipush (v := nI 20) dX4_wasHereBefore_11 (by decide) ?_
    refine J_icmp_ge (tgt := 33) dX4_wasHereBefore_13 (by decide) (fun z2 => ?_) (fun z2 => ?_)
    · refine J_iconst (v := nI 0) dX4_wasHereBefore_33 (by decide) ?_
      exact J_zreturn (by decide) rfl (Nat.le_refl _) (Nat.le_refl _) rfl dX4_wasHereBefore_34
    · refine J_aload_n dX4_wasHereBefore_16 rfl rfl ?_
      refine K_getI cf4 flX4_27 (sq 6 rfl) (Or.inl rfl) dX4_wasHereBefore_17 ?_
      refine J_if_lt (tgt := 33) dX4_wasHereBefore_20 (by decide) (fun z3 => ?_) (fun z3 => ?_)
      · refine J_iconst (v := nI 0) dX4_wasHereBefore_33 (by decide) ?_
        exact J_zreturn (by decide) rfl (Nat.le_refl _) (Nat.le_refl _) rfl dX4_wasHereBefore_34
      · refine J_aload_n dX4_wasHereBefore_23 rfl rfl ?_
        refine K_getI cf4 flX4_27 (sq 6 rfl) (Or.inl rfl) dX4_wasHereBefore_24 ?_
        refine J_sipush (v := nI 1000) dX4_wasHereBefore_27 (by decide) ?_
        refine J_icmp_lt (tgt := 35) dX4_wasHereBefore_30 (by decide) (fun z4 => ?_) (fun z4 => ?_)
        · refine J_aload_n dX4_wasHereBefore_35 rfl rfl ?_
          refine K_getI cf4 flX4_24 (sq 6 rfl) (Or.inl rfl) dX4_wasHereBefore_36 ?_
          refine J_sipush (v := nI 1000) dX4_wasHereBefore_39 (by decide) ?_
          refine J_imul dX4_wasHereBefore_42 ?_
          refine J_aload_n dX4_wasHereBefore_43 rfl rfl ?_
          refine K_getI cf4 flX4_27 (sq 6 rfl) (Or.inl rfl) dX4_wasHereBefore_44 ?_
          refine J_iadd dX4_wasHereBefore_47 ?_
          refine J_ltI (fun v5 _ => ?_)
          refine J_istore_n [some (vR (some 6)), some (vI v5), none] dX4_wasHereBefore_48 rfl (Nat.le_of_ble_eq_true rfl) rfl rfl ?_
          refine J_aload_n dX4_wasHereBefore_49 rfl rfl ?_
          refine K_getR (r := some (9)) cf4 flX4_42 (sq 6 rfl) rfl (Or.inr ⟨_, rfl⟩) dX4_wasHereBefore_50 ?_
          refine J_iload_n dX4_wasHereBefore_53 rfl rfl ?_
          refine K_iald (sq 9 rfl) dX4_wasHereBefore_54 ?_
          refine J_aload_n dX4_wasHereBefore_55 rfl rfl ?_
          refine K_getI cf4 flX4_45 (sq 6 rfl) (Or.inl rfl) dX4_wasHereBefore_56 ?_
          refine J_icmp_ne (tgt := 66) dX4_wasHereBefore_59 (by decide) (fun z6 => ?_) (fun z6 => ?_)
          · refine J_iconst (v := nI 1) dX4_wasHereBefore_62 (by decide) ?_
            refine J_goto (tgt := 67) dX4_wasHereBefore_63 (by decide) ?_
            exact J_sb (t4_wasHereBefore_j67 G t v5 (nI 1) S) (And.intro rfl (And.intro rfl (trivial)))
          · refine J_iconst (v := nI 0) dX4_wasHereBefore_66 (by decide) ?_
            exact J_sb (t4_wasHereBefore_j67 G t v5 (nI 0) S) (And.intro rfl (And.intro rfl (trivial)))
        · refine J_iconst (v := nI 0) dX4_wasHereBefore_33 (by decide) ?_
          exact J_zreturn (by decide) rfl (Nat.le_refl _) (Nat.le_refl _) rfl dX4_wasHereBefore_34
theorem dX4_start_0 : decode cX4_start 0 = .ok (.aload_n 0, 1) := by decide +kernel
theorem dX4_start_1 : decode cX4_start 1 = .ok (.iconst 0, 1) := by decide +kernel
theorem dX4_start_2 : decode cX4_start 2 = .ok (.putfield 17, 3) := by decide +kernel
theorem dX4_start_5 : decode cX4_start 5 = .ok (.iconst 0, 1) := by decide +kernel
theorem dX4_start_6 : decode cX4_start 6 = .ok (.istore 4, 2) := by decide +kernel
theorem dX4_start_8 : decode cX4_start 8 = .ok (.iload 4, 2) := by decide +kernel
theorem dX4_start_10 : decode cX4_start 10 = .ok (.aload_n 2, 1) := by decide +kernel
theorem dX4_start_11 : decode cX4_start 11 = .ok (.invokevirtual 48, 3) := by decide +kernel
theorem dX4_start_14 : decode cX4_start 14 = .ok (.if_icmp .ge 20, 3) := by decide +kernel
theorem dX4_start_17 : decode cX4_start 17 = .ok (.aload_n 0, 1) := by decide +kernel
theorem dX4_start_18 : decode cX4_start 18 = .ok (.aload_n 1, 1) := by decide +kernel
theorem dX4_start_19 : decode cX4_start 19 = .ok (.aload_n 2, 1) := by decide +kernel
theorem dX4_start_20 : decode cX4_start 20 = .ok (.iload 4, 2) := by decide +kernel
theorem dX4_start_22 : decode cX4_start 22 = .ok (.invokevirtual 53, 3) := by decide +kernel
theorem dX4_start_25 : decode cX4_start 25 = .ok (.invokevirtual 57, 3) := by decide +kernel
theorem dX4_start_28 : decode cX4_start 28 = .ok (.iinc 4 1, 3) := by decide +kernel
theorem dX4_start_31 : decode cX4_start 31 = .ok (.goto (-23), 3) := by decide +kernel
theorem dX4_start_34 : decode cX4_start 34 = .ok (.aload_n 0, 1) := by decide +kernel
theorem dX4_start_35 : decode cX4_start 35 = .ok (.iconst 0, 1) := by decide +kernel
theorem dX4_start_36 : decode cX4_start 36 = .ok (.putfield 21, 3) := by decide +kernel
theorem dX4_start_39 : decode cX4_start 39 = .ok (.aload_n 0, 1) := by decide +kernel
theorem dX4_start_40 : decode cX4_start 40 = .ok (.iload_n 3, 1) := by decide +kernel
theorem dX4_start_41 : decode cX4_start 41 = .ok (.putfield 24, 3) := by decide +kernel
theorem dX4_start_44 : decode cX4_start 44 = .ok (.aload_n 0, 1) := by decide +kernel
theorem dX4_start_45 : decode cX4_start 45 = .ok (.iconst 0, 1) := by decide +kernel
theorem dX4_start_46 : decode cX4_start 46 = .ok (.putfield 27, 3) := by decide +kernel
theorem dX4_start_49 : decode cX4_start 49 = .ok (.aload_n 0, 1) := by decide +kernel
theorem dX4_start_50 : decode cX4_start 50 = .ok (.iconst 0, 1) := by decide +kernel
theorem dX4_start_51 : decode cX4_start 51 = .ok (.putfield 30, 3) := by decide +kernel
theorem dX4_start_54 : decode cX4_start 54 = .ok (.aload_n 0, 1) := by decide +kernel
theorem dX4_start_55 : decode cX4_start 55 = .ok (.iconst 2, 1) := by decide +kernel
theorem dX4_start_56 : decode cX4_start 56 = .ok (.putfield 33, 3) := by decide +kernel
theorem dX4_start_59 : decode cX4_start 59 = .ok (.aload_n 0, 1) := by decide +kernel
theorem dX4_start_60 : decode cX4_start 60 = .ok (.iconst 0, 1) := by decide +kernel
theorem dX4_start_61 : decode cX4_start 61 = .ok (.putfield 39, 3) := by decide +kernel
theorem dX4_start_64 : decode cX4_start 64 = .ok (.aload_n 0, 1) := by decide +kernel
theorem dX4_start_65 : decode cX4_start 65 = .ok (.dup, 1) := by decide +kernel
theorem dX4_start_66 : decode cX4_start 66 = .ok (.getfield 45, 3) := by decide +kernel
theorem dX4_start_69 : decode cX4_start 69 = .ok (.iconst 1, 1) := by decide +kernel
theorem dX4_start_70 : decode cX4_start 70 = .ok (.iadd, 1) := by decide +kernel
theorem dX4_start_71 : decode cX4_start 71 = .ok (.putfield 45, 3) := by decide +kernel
theorem dX4_start_74 : decode cX4_start 74 = .ok (.aload_n 0, 1) := by decide +kernel
theorem dX4_start_75 : decode cX4_start 75 = .ok (.invokevirtual 61, 3) := by decide +kernel
theorem dX4_start_78 : decode cX4_start 78 = .ok (.pop, 1) := by decide +kernel
theorem dX4_start_79 : decode cX4_start 79 = .ok (.return_, 1) := by decide +kernel
set_option maxRecDepth 100000 in
set_option maxHeartbeats 4000000 in
theorem t4_start_h8 (G : Gm) (t : Nat) (N : Nat) (a1 : Nat) (a2 : Nat) (x3 : Int32) (h1 : a1 ∈ ad3) (h2 : a2 ∈ ad6)   : ∀ (n : Nat) (x4 : Int32) (S : St), J G YX4_start 3 0 0 (fV t) 0 0 8 [some (vR (some 6)), some (vR (some a1)), some (vR (some a2)), some (vI x3), some (vI x4)] [] (MM t S) (f4_start_h8 N a1 a2 x3 n x4 S) := by
  intro n
  induction n with
  | zero => intro x4 S; exact J_none
  | succ n ih =>
    intro x4 S
    rw [f4_start_h8]
    refine J_iload dX4_start_8 rfl ?_
    refine J_aload_n dX4_start_10 rfl rfl ?_
    refine K_callV_i (As := []) mcX6_length mlX4_48 rfl (by decide) (sq6_0 h2) (ct6_length G t a2 h2 S) rfl rfl (Nat.le_of_ble_eq_true rfl) (by decide) (Nat.le_of_ble_eq_true rfl) dX4_start_11 (fun q1 S2 => ?_)
    refine J_icmp_ge (tgt := 34) dX4_start_14 (by decide) (fun z3 => ?_) (fun z3 => ?_)
    · refine J_aload_n dX4_start_34 rfl rfl ?_
      refine J_iconst (v := nI 0) dX4_start_35 (by decide) ?_
      refine K_putI cf4 flX4_21 (sq 6 rfl) rfl dX4_start_36 ?_
      refine J_ltS (fun S4 _ => ?_)
      refine J_aload_n dX4_start_39 rfl rfl ?_
      refine J_iload_n dX4_start_40 rfl rfl ?_
      refine K_putI cf4 flX4_24 (sq 6 rfl) rfl dX4_start_41 ?_
      refine J_ltS (fun S5 _ => ?_)
      refine J_aload_n dX4_start_44 rfl rfl ?_
      refine J_iconst (v := nI 0) dX4_start_45 (by decide) ?_
      refine K_putI cf4 flX4_27 (sq 6 rfl) rfl dX4_start_46 ?_
      refine J_ltS (fun S6 _ => ?_)
      refine J_aload_n dX4_start_49 rfl rfl ?_
      refine J_iconst (v := nI 0) dX4_start_50 (by decide) ?_
      refine K_putI cf4 flX4_30 (sq 6 rfl) rfl dX4_start_51 ?_
      refine J_ltS (fun S7 _ => ?_)
      refine J_aload_n dX4_start_54 rfl rfl ?_
      refine J_iconst (v := nI 2) dX4_start_55 (by decide) ?_
      refine K_putI cf4 flX4_33 (sq 6 rfl) rfl dX4_start_56 ?_
      refine J_ltS (fun S8 _ => ?_)
      refine J_aload_n dX4_start_59 rfl rfl ?_
      refine J_iconst (v := nI 0) dX4_start_60 (by decide) ?_
      refine K_putI cf4 flX4_39 (sq 6 rfl) rfl dX4_start_61 ?_
      refine J_ltS (fun S9 _ => ?_)
      refine J_aload_n dX4_start_64 rfl rfl ?_
      refine J_dup dX4_start_65 rfl ?_
      refine K_getI cf4 flX4_45 (sq 6 rfl) (Or.inl rfl) dX4_start_66 ?_
      refine J_iconst (v := nI 1) dX4_start_69 (by decide) ?_
      refine J_iadd dX4_start_70 ?_
      refine K_putI cf4 flX4_45 (sq 6 rfl) rfl dX4_start_71 ?_
      refine J_ltS (fun S10 _ => ?_)
      refine J_aload_n dX4_start_74 rfl rfl ?_
      refine K_callV_i (As := []) mcX4_wasHereBefore mlX4_61 rfl (by decide) (sq 6 rfl) (ct4_wasHereBefore G t S10) rfl rfl (Nat.le_of_ble_eq_true rfl) (by decide) (Nat.le_of_ble_eq_true rfl) dX4_start_75 (fun q11 S12 => ?_)
      refine J_pop dX4_start_78 rfl ?_
      exact J_return rfl (Nat.le_refl _) (Nat.le_refl _) rfl dX4_start_79
    · refine J_aload_n dX4_start_17 rfl rfl ?_
      refine J_aload_n dX4_start_18 rfl rfl ?_
      refine J_aload_n dX4_start_19 rfl rfl ?_
      refine J_iload dX4_start_20 rfl ?_
      refine K_callV_i (As := [vI x4]) mcX6_orderAt mlX4_53 rfl (by decide) (sq6_0 h2) (ct6_orderAt G t a2 x4 h2 S2) rfl rfl (Nat.le_of_ble_eq_true rfl) (by decide) (Nat.le_of_ble_eq_true rfl) dX4_start_22 (fun q13 S14 => ?_)
      refine K_callV_v (As := [vR (some a1), vI q13]) mcX4_writeOut mlX4_57 rfl (by decide) (sq 6 rfl) (ct4_writeOut G t N a1 q13 h1 S14) rfl rfl (Nat.le_of_ble_eq_true rfl) (by decide) (Nat.le_of_ble_eq_true rfl) dX4_start_25 (fun q15 S16 => ?_)
      refine J_iinc (v := x4 + nI 1) [some (vR (some 6)), some (vR (some a1)), some (vR (some a2)), some (vI x3), some (vI (x4 + nI 1))] dX4_start_28 rfl rfl (Nat.le_of_ble_eq_true rfl) rfl rfl ?_
      refine J_goto (tgt := 8) dX4_start_31 (by decide) ?_
      exact J_sb (ih (x4 + nI 1) S16) (And.intro rfl (And.intro rfl (And.intro rfl (And.intro rfl (And.intro rfl (trivial))))))
set_option maxRecDepth 100000 in
set_option maxHeartbeats 4000000 in
theorem ct4_start (G : Gm) (t : Nat) (N : Nat) (a1 : Nat) (a2 : Nat) (x3 : Int32) (h1 : a1 ∈ ad3) (h2 : a2 ∈ ad6) (S : St) : Ct G YX4_start yX4_start 3 0 0 (fV t) (f4_start N a1 a2 x3 S) [vR (some 6), vR (some a1), vR (some a2), vI x3] (MM t S) := by
  refine Ct_of_J [some (vR (some 6)), some (vR (some a1)), some (vR (some a2)), some (vI x3), none] (by decide) rfl (fun h => by cases h) (Nat.le_of_ble_eq_true rfl) (And.intro rfl (And.intro rfl (And.intro rfl (And.intro rfl (trivial))))) ?_
  unfold f4_start
  refine J_aload_n dX4_start_0 rfl rfl ?_
  refine J_iconst (v := nI 0) dX4_start_1 (by decide) ?_
  refine K_putI cf4 flX4_17 (sq 6 rfl) rfl dX4_start_2 ?_
  refine J_ltS (fun S1 _ => ?_)
  refine J_iconst (v := nI 0) dX4_start_5 (by decide) ?_
  refine J_istore [some (vR (some 6)), some (vR (some a1)), some (vR (some a2)), some (vI x3), some (vI (nI 0))] dX4_start_6 (Nat.le_of_ble_eq_true rfl) rfl rfl ?_
  exact J_sb (t4_start_h8 G t N a1 a2 x3 h1 h2 N (nI 0) S1) (And.intro rfl (And.intro rfl (And.intro rfl (And.intro rfl (And.intro rfl (trivial))))))
theorem dX4_print_0 : decode cX4_print 0 = .ok (.aload_n 0, 1) := by decide +kernel
theorem dX4_print_1 : decode cX4_print 1 = .ok (.getfield 39, 3) := by decide +kernel
theorem dX4_print_4 : decode cX4_print 4 = .ok (.aload_n 0, 1) := by decide +kernel
theorem dX4_print_5 : decode cX4_print 5 = .ok (.getfield 36, 3) := by decide +kernel
theorem dX4_print_8 : decode cX4_print 8 = .ok (.arraylength, 1) := by decide +kernel
theorem dX4_print_9 : decode cX4_print 9 = .ok (.if_icmp .lt 9, 3) := by decide +kernel
theorem dX4_print_12 : decode cX4_print 12 = .ok (.aload_n 0, 1) := by decide +kernel
theorem dX4_print_13 : decode cX4_print 13 = .ok (.iconst 0, 1) := by decide +kernel
theorem dX4_print_14 : decode cX4_print 14 = .ok (.putfield 33, 3) := by decide +kernel
theorem dX4_print_17 : decode cX4_print 17 = .ok (.return_, 1) := by decide +kernel
theorem dX4_print_18 : decode cX4_print 18 = .ok (.aload_n 0, 1) := by decide +kernel
theorem dX4_print_19 : decode cX4_print 19 = .ok (.getfield 36, 3) := by decide +kernel
theorem dX4_print_22 : decode cX4_print 22 = .ok (.aload_n 0, 1) := by decide +kernel
theorem dX4_print_23 : decode cX4_print 23 = .ok (.getfield 39, 3) := by decide +kernel
theorem dX4_print_26 : decode cX4_print 26 = .ok (.aload_n 0, 1) := by decide +kernel
theorem dX4_print_27 : decode cX4_print 27 = .ok (.getfield 24, 3) := by decide +kernel
theorem dX4_print_30 : decode cX4_print 30 = .ok (.iastore, 1) := by decide +kernel
theorem dX4_print_31 : decode cX4_print 31 = .ok (.aload_n 0, 1) := by decide +kernel
theorem dX4_print_32 : decode cX4_print 32 = .ok (.dup, 1) := by decide +kernel
theorem dX4_print_33 : decode cX4_print 33 = .ok (.getfield 39, 3) := by decide +kernel
theorem dX4_print_36 : decode cX4_print 36 = .ok (.iconst 1, 1) := by decide +kernel
theorem dX4_print_37 : decode cX4_print 37 = .ok (.iadd, 1) := by decide +kernel
theorem dX4_print_38 : decode cX4_print 38 = .ok (.putfield 39, 3) := by decide +kernel
theorem dX4_print_41 : decode cX4_print 41 = .ok (.aload_n 0, 1) := by decide +kernel
theorem dX4_print_42 : decode cX4_print 42 = .ok (.dup, 1) := by decide +kernel
theorem dX4_print_43 : decode cX4_print 43 = .ok (.getfield 45, 3) := by decide +kernel
theorem dX4_print_46 : decode cX4_print 46 = .ok (.iconst 1, 1) := by decide +kernel
theorem dX4_print_47 : decode cX4_print 47 = .ok (.iadd, 1) := by decide +kernel
theorem dX4_print_48 : decode cX4_print 48 = .ok (.putfield 45, 3) := by decide +kernel
theorem dX4_print_51 : decode cX4_print 51 = .ok (.return_, 1) := by decide +kernel
set_option maxRecDepth 100000 in
set_option maxHeartbeats 4000000 in
theorem ct4_print (G : Gm) (t : Nat)    (S : St) : Ct G YX4_print yX4_print 1 0 0 (fV t) (f4_print S) [vR (some 6)] (MM t S) := by
  refine Ct_of_J [some (vR (some 6))] (by decide) rfl (fun h => by cases h) (Nat.le_of_ble_eq_true rfl) (And.intro rfl (trivial)) ?_
  unfold f4_print
  refine J_aload_n dX4_print_0 rfl rfl ?_
  refine K_getI cf4 flX4_39 (sq 6 rfl) (Or.inl rfl) dX4_print_1 ?_
  refine J_aload_n dX4_print_4 rfl rfl ?_
  refine K_getR (r := some (8)) cf4 flX4_36 (sq 6 rfl) rfl (Or.inr ⟨_, rfl⟩) dX4_print_5 ?_
  refine K_alen (v := nI 8) (sq 8 rfl) (by decide) rfl dX4_print_8 ?_
  refine J_icmp_lt (tgt := 18) dX4_print_9 (by decide) (fun z1 => ?_) (fun z1 => ?_)
  · refine J_aload_n dX4_print_18 rfl rfl ?_
    refine K_getR (r := some (8)) cf4 flX4_36 (sq 6 rfl) rfl (Or.inr ⟨_, rfl⟩) dX4_print_19 ?_
    refine J_aload_n dX4_print_22 rfl rfl ?_
    refine K_getI cf4 flX4_39 (sq 6 rfl) (Or.inl rfl) dX4_print_23 ?_
    refine J_aload_n dX4_print_26 rfl rfl ?_
    refine K_getI cf4 flX4_24 (sq 6 rfl) (Or.inl rfl) dX4_print_27 ?_
    refine K_iast (sq 8 rfl) dX4_print_30 ?_
    refine J_ltS (fun S2 _ => ?_)
    refine J_aload_n dX4_print_31 rfl rfl ?_
    refine J_dup dX4_print_32 rfl ?_
    refine K_getI cf4 flX4_39 (sq 6 rfl) (Or.inl rfl) dX4_print_33 ?_
    refine J_iconst (v := nI 1) dX4_print_36 (by decide) ?_
    refine J_iadd dX4_print_37 ?_
    refine K_putI cf4 flX4_39 (sq 6 rfl) rfl dX4_print_38 ?_
    refine J_ltS (fun S3 _ => ?_)
    refine J_aload_n dX4_print_41 rfl rfl ?_
    refine J_dup dX4_print_42 rfl ?_
    refine K_getI cf4 flX4_45 (sq 6 rfl) (Or.inl rfl) dX4_print_43 ?_
    refine J_iconst (v := nI 1) dX4_print_46 (by decide) ?_
    refine J_iadd dX4_print_47 ?_
    refine K_putI cf4 flX4_45 (sq 6 rfl) rfl dX4_print_48 ?_
    refine J_ltS (fun S4 _ => ?_)
    exact J_return rfl (Nat.le_refl _) (Nat.le_refl _) rfl dX4_print_51
  · refine J_aload_n dX4_print_12 rfl rfl ?_
    refine J_iconst (v := nI 0) dX4_print_13 (by decide) ?_
    refine K_putI cf4 flX4_33 (sq 6 rfl) rfl dX4_print_14 ?_
    refine J_ltS (fun S5 _ => ?_)
    exact J_return rfl (Nat.le_refl _) (Nat.le_refl _) rfl dX4_print_17
theorem dX4_swap_0 : decode cX4_swap 0 = .ok (.aload_n 0, 1) := by decide +kernel
theorem dX4_swap_1 : decode cX4_swap 1 = .ok (.getfield 24, 3) := by decide +kernel
theorem dX4_swap_4 : decode cX4_swap 4 = .ok (.istore_n 1, 1) := by decide +kernel
theorem dX4_swap_5 : decode cX4_swap 5 = .ok (.aload_n 0, 1) := by decide +kernel
theorem dX4_swap_6 : decode cX4_swap 6 = .ok (.aload_n 0, 1) := by decide +kernel
theorem dX4_swap_7 : decode cX4_swap 7 = .ok (.getfield 27, 3) := by decide +kernel
theorem dX4_swap_10 : decode cX4_swap 10 = .ok (.putfield 24, 3) := by decide +kernel
theorem dX4_swap_13 : decode cX4_swap 13 = .ok (.aload_n 0, 1) := by decide +kernel
theorem dX4_swap_14 : decode cX4_swap 14 = .ok (.iload_n 1, 1) := by decide +kernel
theorem dX4_swap_15 : decode cX4_swap 15 = .ok (.putfield 27, 3) := by decide +kernel
theorem dX4_swap_18 : decode cX4_swap 18 = .ok (.return_, 1) := by decide +kernel
set_option maxRecDepth 100000 in
set_option maxHeartbeats 4000000 in
theorem ct4_swap (G : Gm) (t : Nat)    (S : St) : Ct G YX4_swap yX4_swap 1 0 0 (fV t) (f4_swap S) [vR (some 6)] (MM t S) := by
  refine Ct_of_J [some (vR (some 6)), none] (by decide) rfl (fun h => by cases h) (Nat.le_of_ble_eq_true rfl) (And.intro rfl (trivial)) ?_
  unfold f4_swap
  refine J_aload_n dX4_swap_0 rfl rfl ?_
  refine K_getI cf4 flX4_24 (sq 6 rfl) (Or.inl rfl) dX4_swap_1 ?_
  refine J_ltI (fun v1 _ => ?_)
  refine J_istore_n [some (vR (some 6)), some (vI v1)] dX4_swap_4 rfl (Nat.le_of_ble_eq_true rfl) rfl rfl ?_
  refine J_aload_n dX4_swap_5 rfl rfl ?_
  refine J_aload_n dX4_swap_6 rfl rfl ?_
  refine K_getI cf4 flX4_27 (sq 6 rfl) (Or.inl rfl) dX4_swap_7 ?_
  refine K_putI cf4 flX4_24 (sq 6 rfl) rfl dX4_swap_10 ?_
  refine J_ltS (fun S2 _ => ?_)
  refine J_aload_n dX4_swap_13 rfl rfl ?_
  refine J_iload_n dX4_swap_14 rfl rfl ?_
  refine K_putI cf4 flX4_27 (sq 6 rfl) rfl dX4_swap_15 ?_
  refine J_ltS (fun S3 _ => ?_)
  exact J_return rfl (Nat.le_refl _) (Nat.le_refl _) rfl dX4_swap_18
theorem dX4_goBack_0 : decode cX4_goBack 0 = .ok (.aload_n 0, 1) := by decide +kernel
theorem dX4_goBack_1 : decode cX4_goBack 1 = .ok (.getfield 24, 3) := by decide +kernel
theorem dX4_goBack_4 : decode cX4_goBack 4 = .ok (.bipush 20, 2) := by decide +kernel
theorem dX4_goBack_6 : decode cX4_goBack 6 = .ok (.if_icmp .lt 4, 3) := by decide +kernel
theorem dX4_goBack_9 : decode cX4_goBack 9 = .ok (.return_, 1) := by decide +kernel
theorem dX4_goBack_10 : decode cX4_goBack 10 = .ok (.aload_n 0, 1) := by decide +kernel
theorem dX4_goBack_11 : decode cX4_goBack 11 = .ok (.iconst 0, 1) := by decide +kernel
theorem dX4_goBack_12 : decode cX4_goBack 12 = .ok (.putfield 21, 3) := by decide +kernel
theorem dX4_goBack_15 : decode cX4_goBack 15 = .ok (.aload_n 0, 1) := by decide +kernel
theorem dX4_goBack_16 : decode cX4_goBack 16 = .ok (.invokevirtual 61, 3) := by decide +kernel
theorem dX4_goBack_19 : decode cX4_goBack 19 = .ok (.ifCond .eq 8, 3) := by decide +kernel
theorem dX4_goBack_22 : decode cX4_goBack 22 = .ok (.aload_n 0, 1) := by decide +kernel
theorem dX4_goBack_23 : decode cX4_goBack 23 = .ok (.iconst 1, 1) := by decide +kernel
theorem dX4_goBack_24 : decode cX4_goBack 24 = .ok (.putfield 33, 3) := by decide +kernel
theorem dX4_goBack_27 : decode cX4_goBack 27 = .ok (.return_, 1) := by decide +kernel
set_option maxRecDepth 100000 in
set_option maxHeartbeats 4000000 in
theorem ct4_goBack (G : Gm) (t : Nat)    (S : St) : Ct G YX4_goBack yX4_goBack 2 0 0 (fV t) (f4_goBack S) [vR (some 6)] (MM t S) := by
  refine Ct_of_J [some (vR (some 6))] (by decide) rfl (fun h => by cases h) (Nat.le_of_ble_eq_true rfl) (And.intro rfl (trivial)) ?_
  unfold f4_goBack
  refine J_aload_n dX4_goBack_0 rfl rfl ?_
  refine K_getI cf4 flX4_24 (sq 6 rfl) (Or.inl rfl) dX4_goBack_1 ?_
  refine J_bipush (v := nI 20) dX4_goBack_4 (by decide) ?_
  refine J_icmp_lt (tgt := 10) dX4_goBack_6 (by decide) (fun z1 => ?_) (fun z1 => ?_)
  · refine J_aload_n dX4_goBack_10 rfl rfl ?_
    refine J_iconst (v := nI 0) dX4_goBack_11 (by decide) ?_
    refine K_putI cf4 flX4_21 (sq 6 rfl) rfl dX4_goBack_12 ?_
    refine J_ltS (fun S2 _ => ?_)
    refine J_aload_n dX4_goBack_15 rfl rfl ?_
    refine K_callV_i (As := []) mcX4_wasHereBefore mlX4_61 rfl (by decide) (sq 6 rfl) (ct4_wasHereBefore G t S2) rfl rfl (Nat.le_of_ble_eq_true rfl) (by decide) (Nat.le_of_ble_eq_true rfl) dX4_goBack_16 (fun q3 S4 => ?_)
    refine J_if_eq (tgt := 27) dX4_goBack_19 (by decide) (fun z5 => ?_) (fun z5 => ?_)
    · exact J_return rfl (Nat.le_refl _) (Nat.le_refl _) rfl dX4_goBack_27
    · refine J_aload_n dX4_goBack_22 rfl rfl ?_
      refine J_iconst (v := nI 1) dX4_goBack_23 (by decide) ?_
      refine K_putI cf4 flX4_33 (sq 6 rfl) rfl dX4_goBack_24 ?_
      refine J_ltS (fun S6 _ => ?_)
      exact J_return rfl (Nat.le_refl _) (Nat.le_refl _) rfl dX4_goBack_27
  · exact J_return rfl (Nat.le_refl _) (Nat.le_refl _) rfl dX4_goBack_9
theorem dX4_doOrder_0 : decode cX4_doOrder 0 = .ok (.aload_n 0, 1) := by decide +kernel
theorem dX4_doOrder_1 : decode cX4_doOrder 1 = .ok (.dup, 1) := by decide +kernel
theorem dX4_doOrder_2 : decode cX4_doOrder 2 = .ok (.getfield 21, 3) := by decide +kernel
theorem dX4_doOrder_5 : decode cX4_doOrder 5 = .ok (.iconst 1, 1) := by decide +kernel
theorem dX4_doOrder_6 : decode cX4_doOrder 6 = .ok (.iadd, 1) := by decide +kernel
theorem dX4_doOrder_7 : decode cX4_doOrder 7 = .ok (.putfield 21, 3) := by decide +kernel
theorem dX4_doOrder_10 : decode cX4_doOrder 10 = .ok (.iload_n 1, 1) := by decide +kernel
theorem dX4_doOrder_11 : decode cX4_doOrder 11 = .ok (.tableswitch 134 1 7 #[41, 58, 75, 82, 89, 109, 116], 41) := by decide +kernel
theorem dX4_doOrder_52 : decode cX4_doOrder 52 = .ok (.aload_n 0, 1) := by decide +kernel
theorem dX4_doOrder_53 : decode cX4_doOrder 53 = .ok (.aload_n 0, 1) := by decide +kernel
theorem dX4_doOrder_54 : decode cX4_doOrder 54 = .ok (.getfield 24, 3) := by decide +kernel
theorem dX4_doOrder_57 : decode cX4_doOrder 57 = .ok (.iconst 1, 1) := by decide +kernel
theorem dX4_doOrder_58 : decode cX4_doOrder 58 = .ok (.iadd, 1) := by decide +kernel
theorem dX4_doOrder_59 : decode cX4_doOrder 59 = .ok (.sipush 1000, 3) := by decide +kernel
theorem dX4_doOrder_62 : decode cX4_doOrder 62 = .ok (.irem, 1) := by decide +kernel
theorem dX4_doOrder_63 : decode cX4_doOrder 63 = .ok (.putfield 24, 3) := by decide +kernel
theorem dX4_doOrder_66 : decode cX4_doOrder 66 = .ok (.goto 84, 3) := by decide +kernel
theorem dX4_doOrder_69 : decode cX4_doOrder 69 = .ok (.aload_n 0, 1) := by decide +kernel
theorem dX4_doOrder_70 : decode cX4_doOrder 70 = .ok (.aload_n 0, 1) := by decide +kernel
theorem dX4_doOrder_71 : decode cX4_doOrder 71 = .ok (.getfield 24, 3) := by decide +kernel
theorem dX4_doOrder_74 : decode cX4_doOrder 74 = .ok (.iconst 2, 1) := by decide +kernel
theorem dX4_doOrder_75 : decode cX4_doOrder 75 = .ok (.imul, 1) := by decide +kernel
theorem dX4_doOrder_76 : decode cX4_doOrder 76 = .ok (.sipush 1000, 3) := by decide +kernel
theorem dX4_doOrder_79 : decode cX4_doOrder 79 = .ok (.irem, 1) := by decide +kernel
theorem dX4_doOrder_80 : decode cX4_doOrder 80 = .ok (.putfield 24, 3) := by decide +kernel
theorem dX4_doOrder_83 : decode cX4_doOrder 83 = .ok (.goto 67, 3) := by decide +kernel
theorem dX4_doOrder_86 : decode cX4_doOrder 86 = .ok (.aload_n 0, 1) := by decide +kernel
theorem dX4_doOrder_87 : decode cX4_doOrder 87 = .ok (.invokevirtual 76, 3) := by decide +kernel
theorem dX4_doOrder_90 : decode cX4_doOrder 90 = .ok (.goto 60, 3) := by decide +kernel
theorem dX4_doOrder_93 : decode cX4_doOrder 93 = .ok (.aload_n 0, 1) := by decide +kernel
theorem dX4_doOrder_94 : decode cX4_doOrder 94 = .ok (.invokevirtual 79, 3) := by decide +kernel
theorem dX4_doOrder_97 : decode cX4_doOrder 97 = .ok (.goto 53, 3) := by decide +kernel
theorem dX4_doOrder_100 : decode cX4_doOrder 100 = .ok (.aload_n 0, 1) := by decide +kernel
theorem dX4_doOrder_101 : decode cX4_doOrder 101 = .ok (.aload_n 0, 1) := by decide +kernel
theorem dX4_doOrder_102 : decode cX4_doOrder 102 = .ok (.getfield 24, 3) := by decide +kernel
theorem dX4_doOrder_105 : decode cX4_doOrder 105 = .ok (.aload_n 0, 1) := by decide +kernel
theorem dX4_doOrder_106 : decode cX4_doOrder 106 = .ok (.getfield 27, 3) := by decide +kernel
theorem dX4_doOrder_109 : decode cX4_doOrder 109 = .ok (.iadd, 1) := by decide +kernel
theorem dX4_doOrder_110 : decode cX4_doOrder 110 = .ok (.sipush 1000, 3) := by decide +kernel
theorem dX4_doOrder_113 : decode cX4_doOrder 113 = .ok (.irem, 1) := by decide +kernel
theorem dX4_doOrder_114 : decode cX4_doOrder 114 = .ok (.putfield 24, 3) := by decide +kernel
theorem dX4_doOrder_117 : decode cX4_doOrder 117 = .ok (.goto 33, 3) := by decide +kernel
theorem dX4_doOrder_120 : decode cX4_doOrder 120 = .ok (.aload_n 0, 1) := by decide +kernel
theorem dX4_doOrder_121 : decode cX4_doOrder 121 = .ok (.invokevirtual 82, 3) := by decide +kernel
theorem dX4_doOrder_124 : decode cX4_doOrder 124 = .ok (.goto 26, 3) := by decide +kernel
theorem dX4_doOrder_127 : decode cX4_doOrder 127 = .ok (.aload_n 0, 1) := by decide +kernel
theorem dX4_doOrder_128 : decode cX4_doOrder 128 = .ok (.dup, 1) := by decide +kernel
theorem dX4_doOrder_129 : decode cX4_doOrder 129 = .ok (.getfield 21, 3) := by decide +kernel
theorem dX4_doOrder_132 : decode cX4_doOrder 132 = .ok (.aload_n 0, 1) := by decide +kernel
theorem dX4_doOrder_133 : decode cX4_doOrder 133 = .ok (.getfield 24, 3) := by decide +kernel
theorem dX4_doOrder_136 : decode cX4_doOrder 136 = .ok (.iconst 2, 1) := by decide +kernel
theorem dX4_doOrder_137 : decode cX4_doOrder 137 = .ok (.irem, 1) := by decide +kernel
theorem dX4_doOrder_138 : decode cX4_doOrder 138 = .ok (.iadd, 1) := by decide +kernel
theorem dX4_doOrder_139 : decode cX4_doOrder 139 = .ok (.putfield 21, 3) := by decide +kernel
theorem dX4_doOrder_142 : decode cX4_doOrder 142 = .ok (.goto 8, 3) := by decide +kernel
theorem dX4_doOrder_145 : decode cX4_doOrder 145 = .ok (.aload_n 0, 1) := by decide +kernel
theorem dX4_doOrder_146 : decode cX4_doOrder 146 = .ok (.iconst 0, 1) := by decide +kernel
theorem dX4_doOrder_147 : decode cX4_doOrder 147 = .ok (.putfield 33, 3) := by decide +kernel
theorem dX4_doOrder_150 : decode cX4_doOrder 150 = .ok (.return_, 1) := by decide +kernel
set_option maxRecDepth 100000 in
set_option maxHeartbeats 4000000 in
theorem ct4_doOrder (G : Gm) (t : Nat)  (x1 : Int32)  (S : St) : Ct G YX4_doOrder yX4_doOrder 3 0 0 (fV t) (f4_doOrder x1 S) [vR (some 6), vI x1] (MM t S) := by
  refine Ct_of_J [some (vR (some 6)), some (vI x1)] (by decide) rfl (fun h => by cases h) (Nat.le_of_ble_eq_true rfl) (And.intro rfl (And.intro rfl (trivial))) ?_
  unfold f4_doOrder
  refine J_aload_n dX4_doOrder_0 rfl rfl ?_
  refine J_dup dX4_doOrder_1 rfl ?_
  refine K_getI cf4 flX4_21 (sq 6 rfl) (Or.inl rfl) dX4_doOrder_2 ?_
  refine J_iconst (v := nI 1) dX4_doOrder_5 (by decide) ?_
  refine J_iadd dX4_doOrder_6 ?_
  refine K_putI cf4 flX4_21 (sq 6 rfl) rfl dX4_doOrder_7 ?_
  refine J_ltS (fun S1 _ => ?_)
  refine J_iload_n dX4_doOrder_10 rfl rfl ?_
  refine J_table (td := 145) _ dX4_doOrder_11 (fun z h1 h2 => cov_of (lo := (1)) (N := 7) (ks := [nI 1, nI 2, nI 3, nI 4, nI 5, nI 6, nI 7]) (by decide) z h1 (by omega)) ?_ (by decide) ?_
  · refine List.forall_mem_cons.mpr ⟨tb_mk (o := 41) (tgt := 52) (by decide) (fun _ => ?_), ?_⟩
    · refine J_aload_n dX4_doOrder_52 rfl rfl ?_
      refine J_aload_n dX4_doOrder_53 rfl rfl ?_
      refine K_getI cf4 flX4_24 (sq 6 rfl) (Or.inl rfl) dX4_doOrder_54 ?_
      refine J_iconst (v := nI 1) dX4_doOrder_57 (by decide) ?_
      refine J_iadd dX4_doOrder_58 ?_
      refine J_sipush (v := nI 1000) dX4_doOrder_59 (by decide) ?_
      refine J_irem (by decide) dX4_doOrder_62 ?_
      refine K_putI cf4 flX4_24 (sq 6 rfl) rfl dX4_doOrder_63 ?_
      refine J_ltS (fun S2 _ => ?_)
      refine J_goto (tgt := 150) dX4_doOrder_66 (by decide) ?_
      exact J_return rfl (Nat.le_refl _) (Nat.le_refl _) rfl dX4_doOrder_150
    · refine List.forall_mem_cons.mpr ⟨tb_mk (o := 58) (tgt := 69) (by decide) (fun _ => ?_), ?_⟩
      · refine J_aload_n dX4_doOrder_69 rfl rfl ?_
        refine J_aload_n dX4_doOrder_70 rfl rfl ?_
        refine K_getI cf4 flX4_24 (sq 6 rfl) (Or.inl rfl) dX4_doOrder_71 ?_
        refine J_iconst (v := nI 2) dX4_doOrder_74 (by decide) ?_
        refine J_imul dX4_doOrder_75 ?_
        refine J_sipush (v := nI 1000) dX4_doOrder_76 (by decide) ?_
        refine J_irem (by decide) dX4_doOrder_79 ?_
        refine K_putI cf4 flX4_24 (sq 6 rfl) rfl dX4_doOrder_80 ?_
        refine J_ltS (fun S3 _ => ?_)
        refine J_goto (tgt := 150) dX4_doOrder_83 (by decide) ?_
        exact J_return rfl (Nat.le_refl _) (Nat.le_refl _) rfl dX4_doOrder_150
      · refine List.forall_mem_cons.mpr ⟨tb_mk (o := 75) (tgt := 86) (by decide) (fun _ => ?_), ?_⟩
        · refine J_aload_n dX4_doOrder_86 rfl rfl ?_
          refine K_callV_v (As := []) mcX4_print mlX4_76 rfl (by decide) (sq 6 rfl) (ct4_print G t S1) rfl rfl (Nat.le_of_ble_eq_true rfl) (by decide) (Nat.le_of_ble_eq_true rfl) dX4_doOrder_87 (fun q4 S5 => ?_)
          refine J_goto (tgt := 150) dX4_doOrder_90 (by decide) ?_
          exact J_return rfl (Nat.le_refl _) (Nat.le_refl _) rfl dX4_doOrder_150
        · refine List.forall_mem_cons.mpr ⟨tb_mk (o := 82) (tgt := 93) (by decide) (fun _ => ?_), ?_⟩
          · refine J_aload_n dX4_doOrder_93 rfl rfl ?_
            refine K_callV_v (As := []) mcX4_swap mlX4_79 rfl (by decide) (sq 6 rfl) (ct4_swap G t S1) rfl rfl (Nat.le_of_ble_eq_true rfl) (by decide) (Nat.le_of_ble_eq_true rfl) dX4_doOrder_94 (fun q6 S7 => ?_)
            refine J_goto (tgt := 150) dX4_doOrder_97 (by decide) ?_
            exact J_return rfl (Nat.le_refl _) (Nat.le_refl _) rfl dX4_doOrder_150
          · refine List.forall_mem_cons.mpr ⟨tb_mk (o := 89) (tgt := 100) (by decide) (fun _ => ?_), ?_⟩
            · refine J_aload_n dX4_doOrder_100 rfl rfl ?_
              refine J_aload_n dX4_doOrder_101 rfl rfl ?_
              refine K_getI cf4 flX4_24 (sq 6 rfl) (Or.inl rfl) dX4_doOrder_102 ?_
              refine J_aload_n dX4_doOrder_105 rfl rfl ?_
              refine K_getI cf4 flX4_27 (sq 6 rfl) (Or.inl rfl) dX4_doOrder_106 ?_
              refine J_iadd dX4_doOrder_109 ?_
              refine J_sipush (v := nI 1000) dX4_doOrder_110 (by decide) ?_
              refine J_irem (by decide) dX4_doOrder_113 ?_
              refine K_putI cf4 flX4_24 (sq 6 rfl) rfl dX4_doOrder_114 ?_
              refine J_ltS (fun S8 _ => ?_)
              refine J_goto (tgt := 150) dX4_doOrder_117 (by decide) ?_
              exact J_return rfl (Nat.le_refl _) (Nat.le_refl _) rfl dX4_doOrder_150
            · refine List.forall_mem_cons.mpr ⟨tb_mk (o := 109) (tgt := 120) (by decide) (fun _ => ?_), ?_⟩
              · refine J_aload_n dX4_doOrder_120 rfl rfl ?_
                refine K_callV_v (As := []) mcX4_goBack mlX4_82 rfl (by decide) (sq 6 rfl) (ct4_goBack G t S1) rfl rfl (Nat.le_of_ble_eq_true rfl) (by decide) (Nat.le_of_ble_eq_true rfl) dX4_doOrder_121 (fun q9 S10 => ?_)
                refine J_goto (tgt := 150) dX4_doOrder_124 (by decide) ?_
                exact J_return rfl (Nat.le_refl _) (Nat.le_refl _) rfl dX4_doOrder_150
              · refine List.forall_mem_cons.mpr ⟨tb_mk (o := 116) (tgt := 127) (by decide) (fun _ => ?_), ?_⟩
                · refine J_aload_n dX4_doOrder_127 rfl rfl ?_
                  refine J_dup dX4_doOrder_128 rfl ?_
                  refine K_getI cf4 flX4_21 (sq 6 rfl) (Or.inl rfl) dX4_doOrder_129 ?_
                  refine J_aload_n dX4_doOrder_132 rfl rfl ?_
                  refine K_getI cf4 flX4_24 (sq 6 rfl) (Or.inl rfl) dX4_doOrder_133 ?_
                  refine J_iconst (v := nI 2) dX4_doOrder_136 (by decide) ?_
                  refine J_irem (by decide) dX4_doOrder_137 ?_
                  refine J_iadd dX4_doOrder_138 ?_
                  refine K_putI cf4 flX4_21 (sq 6 rfl) rfl dX4_doOrder_139 ?_
                  refine J_ltS (fun S11 _ => ?_)
                  refine J_goto (tgt := 150) dX4_doOrder_142 (by decide) ?_
                  exact J_return rfl (Nat.le_refl _) (Nat.le_refl _) rfl dX4_doOrder_150
                · exact fun _ h => absurd h List.not_mem_nil
  · refine J_aload_n dX4_doOrder_145 rfl rfl ?_
    refine J_iconst (v := nI 0) dX4_doOrder_146 (by decide) ?_
    refine K_putI cf4 flX4_33 (sq 6 rfl) rfl dX4_doOrder_147 ?_
    refine J_ltS (fun S12 _ => ?_)
    exact J_return rfl (Nat.le_refl _) (Nat.le_refl _) rfl dX4_doOrder_150
theorem dX4_goOn_0 : decode cX4_goOn 0 = .ok (.aload_n 0, 1) := by decide +kernel
theorem dX4_goOn_1 : decode cX4_goOn 1 = .ok (.getfield 30, 3) := by decide +kernel
theorem dX4_goOn_4 : decode cX4_goOn 4 = .ok (.iload_n 1, 1) := by decide +kernel
theorem dX4_goOn_5 : decode cX4_goOn 5 = .ok (.if_icmp .ge 84, 3) := by decide +kernel
theorem dX4_goOn_8 : decode cX4_goOn 8 = .ok (.aload_n 0, 1) := by decide +kernel
theorem dX4_goOn_9 : decode cX4_goOn 9 = .ok (.getfield 33, 3) := by decide +kernel
theorem dX4_goOn_12 : decode cX4_goOn 12 = .ok (.iconst 2, 1) := by decide +kernel
theorem dX4_goOn_13 : decode cX4_goOn 13 = .ok (.if_icmp .ne 76, 3) := by decide +kernel
theorem dX4_goOn_16 : decode cX4_goOn 16 = .ok (.aload_n 0, 1) := by decide +kernel
theorem dX4_goOn_17 : decode cX4_goOn 17 = .ok (.dup, 1) := by decide +kernel
theorem dX4_goOn_18 : decode cX4_goOn 18 = .ok (.getfield 30, 3) := by decide +kernel
theorem dX4_goOn_21 : decode cX4_goOn 21 = .ok (.iconst 1, 1) := by decide +kernel
theorem dX4_goOn_22 : decode cX4_goOn 22 = .ok (.iadd, 1) := by decide +kernel
theorem dX4_goOn_23 : decode cX4_goOn 23 = .ok (.putfield 30, 3) := by decide +kernel
theorem dX4_goOn_26 : decode cX4_goOn 26 = .ok (.aload_n 0, 1) := by decide +kernel
theorem dX4_goOn_27 : decode cX4_goOn 27 = .ok (.aload_n 0, 1) := by decide +kernel
theorem dX4_goOn_28 : decode cX4_goOn 28 = .ok (.getfield 21, 3) := by decide +kernel
theorem dX4_goOn_31 : decode cX4_goOn 31 = .ok (.ifCond .lt 27, 3) := by decide +kernel
theorem dX4_goOn_34 : decode cX4_goOn 34 = .ok (.aload_n 0, 1) := by decide +kernel
theorem dX4_goOn_35 : decode cX4_goOn 35 = .ok (.getfield 21, 3) := by decide +kernel
theorem dX4_goOn_38 : decode cX4_goOn 38 = .ok (.aload_n 0, 1) := by decide +kernel
theorem dX4_goOn_39 : decode cX4_goOn 39 = .ok (.getfield 11, 3) := by decide +kernel
theorem dX4_goOn_42 : decode cX4_goOn 42 = .ok (.arraylength, 1) := by decide +kernel
theorem dX4_goOn_43 : decode cX4_goOn 43 = .ok (.if_icmp .ge 15, 3) := by decide +kernel
theorem dX4_goOn_46 : decode cX4_goOn 46 = .ok (.aload_n 0, 1) := by decide +kernel
theorem dX4_goOn_47 : decode cX4_goOn 47 = .ok (.getfield 11, 3) := by decide +kernel
theorem dX4_goOn_50 : decode cX4_goOn 50 = .ok (.aload_n 0, 1) := by decide +kernel
theorem dX4_goOn_51 : decode cX4_goOn 51 = .ok (.getfield 21, 3) := by decide +kernel
theorem dX4_goOn_54 : decode cX4_goOn 54 = .ok (.iaload, 1) := by decide +kernel
theorem dX4_goOn_55 : decode cX4_goOn 55 = .ok (.goto 4, 3) := by decide +kernel
theorem dX4_goOn_58 : decode cX4_goOn 58 = .ok (.iconst 0, 1) := by decide +kernel
theorem dX4_goOn_59 : decode cX4_goOn 59 = .ok (.invokevirtual 72, 3) := by decide +kernel
theorem dX4_goOn_62 : decode cX4_goOn 62 = .ok (.aload_n 0, 1) := by decide +kernel
theorem dX4_goOn_63 : decode cX4_goOn 63 = .ok (.getfield 33, 3) := by decide +kernel
theorem dX4_goOn_66 : decode cX4_goOn 66 = .ok (.iconst 2, 1) := by decide +kernel
theorem dX4_goOn_67 : decode cX4_goOn 67 = .ok (.if_icmp .ne (-67), 3) := by decide +kernel
theorem dX4_goOn_70 : decode cX4_goOn 70 = .ok (.aload_n 0, 1) := by decide +kernel
theorem dX4_goOn_71 : decode cX4_goOn 71 = .ok (.getfield 21, 3) := by decide +kernel
theorem dX4_goOn_74 : decode cX4_goOn 74 = .ok (.aload_n 0, 1) := by decide +kernel
theorem dX4_goOn_75 : decode cX4_goOn 75 = .ok (.getfield 17, 3) := by decide +kernel
theorem dX4_goOn_78 : decode cX4_goOn 78 = .ok (.if_icmp .lt (-78), 3) := by decide +kernel
theorem dX4_goOn_81 : decode cX4_goOn 81 = .ok (.aload_n 0, 1) := by decide +kernel
theorem dX4_goOn_82 : decode cX4_goOn 82 = .ok (.iconst 0, 1) := by decide +kernel
theorem dX4_goOn_83 : decode cX4_goOn 83 = .ok (.putfield 33, 3) := by decide +kernel
theorem dX4_goOn_86 : decode cX4_goOn 86 = .ok (.goto (-86), 3) := by decide +kernel
theorem dX4_goOn_89 : decode cX4_goOn 89 = .ok (.return_, 1) := by decide +kernel
set_option maxRecDepth 100000 in
set_option maxHeartbeats 4000000 in
theorem t4_goOn_j59 (G : Gm) (t : Nat) (N : Nat) (x1 : Int32)  (k0 : St → Option (Unit × St)) (hk0 : ∀  (S : St), J G YX4_goOn 4 0 0 (fV t) 0 0 0 [some (vR (some 6)), some (vI x1)] [] (MM t S) (k0 S)) : ∀ (xs0 : Int32) (S : St), J G YX4_goOn 4 0 0 (fV t) 0 0 59 [some (vR (some 6)), some (vI x1)] [vI xs0, vR (some 6)] (MM t S) (f4_goOn_j59 N x1 k0 xs0 S) := by
  intro xs0 S
  unfold f4_goOn_j59
  refine K_callV_v (As := [vI xs0]) mcX4_doOrder mlX4_72 rfl (by decide) (sq 6 rfl) (ct4_doOrder G t xs0 S) rfl rfl (Nat.le_of_ble_eq_true rfl) (by decide) (Nat.le_of_ble_eq_true rfl) dX4_goOn_59 (fun q1 S2 => ?_)
  refine J_aload_n dX4_goOn_62 rfl rfl ?_
  refine K_getI cf4 flX4_33 (sq 6 rfl) (Or.inl rfl) dX4_goOn_63 ?_
  refine J_iconst (v := nI 2) dX4_goOn_66 (by decide) ?_
  refine J_icmp_ne (tgt := 0) dX4_goOn_67 (by decide) (fun z3 => ?_) (fun z3 => ?_)
  · refine J_aload_n dX4_goOn_70 rfl rfl ?_
    refine K_getI cf4 flX4_21 (sq 6 rfl) (Or.inl rfl) dX4_goOn_71 ?_
    refine J_aload_n dX4_goOn_74 rfl rfl ?_
    refine K_getI cf4 flX4_17 (sq 6 rfl) (Or.inl rfl) dX4_goOn_75 ?_
    refine J_icmp_lt (tgt := 0) dX4_goOn_78 (by decide) (fun z4 => ?_) (fun z4 => ?_)
    · exact J_sb (hk0 S2) (And.intro rfl (And.intro rfl (trivial)))
    · refine J_aload_n dX4_goOn_81 rfl rfl ?_
      refine J_iconst (v := nI 0) dX4_goOn_82 (by decide) ?_
      refine K_putI cf4 flX4_33 (sq 6 rfl) rfl dX4_goOn_83 ?_
      refine J_ltS (fun S5 _ => ?_)
      refine J_goto (tgt := 0) dX4_goOn_86 (by decide) ?_
      exact J_sb (hk0 S5) (And.intro rfl (And.intro rfl (trivial)))
  · exact J_sb (hk0 S2) (And.intro rfl (And.intro rfl (trivial)))
set_option maxRecDepth 100000 in
set_option maxHeartbeats 4000000 in
theorem t4_goOn_j58 (G : Gm) (t : Nat) (N : Nat) (x1 : Int32)  (k0 : St → Option (Unit × St)) (hk0 : ∀  (S : St), J G YX4_goOn 4 0 0 (fV t) 0 0 0 [some (vR (some 6)), some (vI x1)] [] (MM t S) (k0 S)) : ∀  (S : St), J G YX4_goOn 4 0 0 (fV t) 0 0 58 [some (vR (some 6)), some (vI x1)] [vR (some 6)] (MM t S) (f4_goOn_j58 N x1 k0 S) := by
  intro S
  unfold f4_goOn_j58
  refine J_iconst (v := nI 0) dX4_goOn_58 (by decide) ?_
  exact J_sb (t4_goOn_j59 G t N x1 k0 hk0 (nI 0) S) (And.intro rfl (And.intro rfl (trivial)))
set_option maxRecDepth 100000 in
set_option maxHeartbeats 4000000 in
theorem t4_goOn_h0 (G : Gm) (t : Nat) (N : Nat) (x1 : Int32)    : ∀ (n : Nat)  (S : St), J G YX4_goOn 4 0 0 (fV t) 0 0 0 [some (vR (some 6)), some (vI x1)] [] (MM t S) (f4_goOn_h0 N x1 n S) := by
  intro n
  induction n with
  | zero => intro S; exact J_none
  | succ n ih =>
    intro S
    rw [f4_goOn_h0]
    refine J_aload_n dX4_goOn_0 rfl rfl ?_
    refine K_getI cf4 flX4_30 (sq 6 rfl) (Or.inl rfl) dX4_goOn_1 ?_
    refine J_iload_n dX4_goOn_4 rfl rfl ?_
    refine J_icmp_ge (tgt := 89) dX4_goOn_5 (by decide) (fun z1 => ?_) (fun z1 => ?_)
    · exact J_return rfl (Nat.le_refl _) (Nat.le_refl _) rfl dX4_goOn_89
    · refine J_aload_n dX4_goOn_8 rfl rfl ?_
      refine K_getI cf4 flX4_33 (sq 6 rfl) (Or.inl rfl) dX4_goOn_9 ?_
      refine J_iconst (v := nI 2) dX4_goOn_12 (by decide) ?_
      refine J_icmp_ne (tgt := 89) dX4_goOn_13 (by decide) (fun z2 => ?_) (fun z2 => ?_)
      · refine J_aload_n dX4_goOn_16 rfl rfl ?_
        refine J_dup dX4_goOn_17 rfl ?_
        refine K_getI cf4 flX4_30 (sq 6 rfl) (Or.inl rfl) dX4_goOn_18 ?_
        refine J_iconst (v := nI 1) dX4_goOn_21 (by decide) ?_
        refine J_iadd dX4_goOn_22 ?_
        refine K_putI cf4 flX4_30 (sq 6 rfl) rfl dX4_goOn_23 ?_
        refine J_ltS (fun S3 _ => ?_)
        refine J_aload_n dX4_goOn_26 rfl rfl ?_
        refine J_aload_n dX4_goOn_27 rfl rfl ?_
        refine K_getI cf4 flX4_21 (sq 6 rfl) (Or.inl rfl) dX4_goOn_28 ?_
        refine J_if_lt (tgt := 58) dX4_goOn_31 (by decide) (fun z4 => ?_) (fun z4 => ?_)
        · exact J_sb (t4_goOn_j58 G t N x1 (f4_goOn_h0 N x1 n) ih S3) (And.intro rfl (And.intro rfl (trivial)))
        · refine J_aload_n dX4_goOn_34 rfl rfl ?_
          refine K_getI cf4 flX4_21 (sq 6 rfl) (Or.inl rfl) dX4_goOn_35 ?_
          refine J_aload_n dX4_goOn_38 rfl rfl ?_
          refine K_getR (r := some (7)) cf4 flX4_11 (sq 6 rfl) rfl (Or.inr ⟨_, rfl⟩) dX4_goOn_39 ?_
          refine K_alen (v := nI 48) (sq 7 rfl) (by decide) rfl dX4_goOn_42 ?_
          refine J_icmp_ge (tgt := 58) dX4_goOn_43 (by decide) (fun z5 => ?_) (fun z5 => ?_)
          · exact J_sb (t4_goOn_j58 G t N x1 (f4_goOn_h0 N x1 n) ih S3) (And.intro rfl (And.intro rfl (trivial)))
          · refine J_aload_n dX4_goOn_46 rfl rfl ?_
            refine K_getR (r := some (7)) cf4 flX4_11 (sq 6 rfl) rfl (Or.inr ⟨_, rfl⟩) dX4_goOn_47 ?_
            refine J_aload_n dX4_goOn_50 rfl rfl ?_
            refine K_getI cf4 flX4_21 (sq 6 rfl) (Or.inl rfl) dX4_goOn_51 ?_
            refine K_iald (sq 7 rfl) dX4_goOn_54 ?_
            refine J_goto (tgt := 59) dX4_goOn_55 (by decide) ?_
            exact J_sb (t4_goOn_j59 G t N x1 (f4_goOn_h0 N x1 n) ih (S3.1 7 (S3.1 6 2).toNatClampNeg) S3) (And.intro rfl (And.intro rfl (trivial)))
      · exact J_return rfl (Nat.le_refl _) (Nat.le_refl _) rfl dX4_goOn_89
set_option maxRecDepth 100000 in
set_option maxHeartbeats 4000000 in
theorem ct4_goOn (G : Gm) (t : Nat) (N : Nat) (x1 : Int32)  (S : St) : Ct G YX4_goOn yX4_goOn 4 0 0 (fV t) (f4_goOn N x1 S) [vR (some 6), vI x1] (MM t S) := by
  refine Ct_of_J [some (vR (some 6)), some (vI x1)] (by decide) rfl (fun h => by cases h) (Nat.le_of_ble_eq_true rfl) (And.intro rfl (And.intro rfl (trivial))) ?_
  unfold f4_goOn
  exact J_sb (t4_goOn_h0 G t N x1 N S) (And.intro rfl (And.intro rfl (trivial)))
theorem dX4_state_0 : decode cX4_state 0 = .ok (.aload_n 0, 1) := by decide +kernel
theorem dX4_state_1 : decode cX4_state 1 = .ok (.getfield 33, 3) := by decide +kernel
theorem dX4_state_4 : decode cX4_state 4 = .ok (.ireturn, 1) := by decide +kernel
set_option maxRecDepth 100000 in
set_option maxHeartbeats 4000000 in
theorem ct4_state (G : Gm) (t : Nat)    (S : St) : Ct G YX4_state yX4_state 1 0 0 (fI t) (f4_state S) [vR (some 6)] (MM t S) := by
  refine Ct_of_J [some (vR (some 6))] (by decide) rfl (fun h => by cases h) (Nat.le_of_ble_eq_true rfl) (And.intro rfl (trivial)) ?_
  unfold f4_state
  refine J_aload_n dX4_state_0 rfl rfl ?_
  refine K_getI cf4 flX4_33 (sq 6 rfl) (Or.inl rfl) dX4_state_1 ?_
  exact J_ireturn rfl (Nat.le_refl _) (Nat.le_refl _) rfl dX4_state_4
theorem dX4_steps_0 : decode cX4_steps 0 = .ok (.aload_n 0, 1) := by decide +kernel
theorem dX4_steps_1 : decode cX4_steps 1 = .ok (.getfield 30, 3) := by decide +kernel
theorem dX4_steps_4 : decode cX4_steps 4 = .ok (.ireturn, 1) := by decide +kernel
set_option maxRecDepth 100000 in
set_option maxHeartbeats 4000000 in
theorem ct4_steps (G : Gm) (t : Nat)    (S : St) : Ct G YX4_steps yX4_steps 1 0 0 (fI t) (f4_steps S) [vR (some 6)] (MM t S) := by
  refine Ct_of_J [some (vR (some 6))] (by decide) rfl (fun h => by cases h) (Nat.le_of_ble_eq_true rfl) (And.intro rfl (trivial)) ?_
  unfold f4_steps
  refine J_aload_n dX4_steps_0 rfl rfl ?_
  refine K_getI cf4 flX4_30 (sq 6 rfl) (Or.inl rfl) dX4_steps_1 ?_
  exact J_ireturn rfl (Nat.le_refl _) (Nat.le_refl _) rfl dX4_steps_4
theorem dX4_valueA_0 : decode cX4_valueA 0 = .ok (.aload_n 0, 1) := by decide +kernel
theorem dX4_valueA_1 : decode cX4_valueA 1 = .ok (.getfield 24, 3) := by decide +kernel
theorem dX4_valueA_4 : decode cX4_valueA 4 = .ok (.ireturn, 1) := by decide +kernel
set_option maxRecDepth 100000 in
set_option maxHeartbeats 4000000 in
theorem ct4_valueA (G : Gm) (t : Nat)    (S : St) : Ct G YX4_valueA yX4_valueA 1 0 0 (fI t) (f4_valueA S) [vR (some 6)] (MM t S) := by
  refine Ct_of_J [some (vR (some 6))] (by decide) rfl (fun h => by cases h) (Nat.le_of_ble_eq_true rfl) (And.intro rfl (trivial)) ?_
  unfold f4_valueA
  refine J_aload_n dX4_valueA_0 rfl rfl ?_
  refine K_getI cf4 flX4_24 (sq 6 rfl) (Or.inl rfl) dX4_valueA_1 ?_
  exact J_ireturn rfl (Nat.le_refl _) (Nat.le_refl _) rfl dX4_valueA_4
theorem dX4_valueB_0 : decode cX4_valueB 0 = .ok (.aload_n 0, 1) := by decide +kernel
theorem dX4_valueB_1 : decode cX4_valueB 1 = .ok (.getfield 27, 3) := by decide +kernel
theorem dX4_valueB_4 : decode cX4_valueB 4 = .ok (.ireturn, 1) := by decide +kernel
set_option maxRecDepth 100000 in
set_option maxHeartbeats 4000000 in
theorem ct4_valueB (G : Gm) (t : Nat)    (S : St) : Ct G YX4_valueB yX4_valueB 1 0 0 (fI t) (f4_valueB S) [vR (some 6)] (MM t S) := by
  refine Ct_of_J [some (vR (some 6))] (by decide) rfl (fun h => by cases h) (Nat.le_of_ble_eq_true rfl) (And.intro rfl (trivial)) ?_
  unfold f4_valueB
  refine J_aload_n dX4_valueB_0 rfl rfl ?_
  refine K_getI cf4 flX4_27 (sq 6 rfl) (Or.inl rfl) dX4_valueB_1 ?_
  exact J_ireturn rfl (Nat.le_refl _) (Nat.le_refl _) rfl dX4_valueB_4
theorem dX4_saidCount_0 : decode cX4_saidCount 0 = .ok (.aload_n 0, 1) := by decide +kernel
theorem dX4_saidCount_1 : decode cX4_saidCount 1 = .ok (.getfield 39, 3) := by decide +kernel
theorem dX4_saidCount_4 : decode cX4_saidCount 4 = .ok (.ireturn, 1) := by decide +kernel
set_option maxRecDepth 100000 in
set_option maxHeartbeats 4000000 in
theorem ct4_saidCount (G : Gm) (t : Nat)    (S : St) : Ct G YX4_saidCount yX4_saidCount 1 0 0 (fI t) (f4_saidCount S) [vR (some 6)] (MM t S) := by
  refine Ct_of_J [some (vR (some 6))] (by decide) rfl (fun h => by cases h) (Nat.le_of_ble_eq_true rfl) (And.intro rfl (trivial)) ?_
  unfold f4_saidCount
  refine J_aload_n dX4_saidCount_0 rfl rfl ?_
  refine K_getI cf4 flX4_39 (sq 6 rfl) (Or.inl rfl) dX4_saidCount_1 ?_
  exact J_ireturn rfl (Nat.le_refl _) (Nat.le_refl _) rfl dX4_saidCount_4
theorem dX4_saidAt_0 : decode cX4_saidAt 0 = .ok (.iload_n 1, 1) := by decide +kernel
theorem dX4_saidAt_1 : decode cX4_saidAt 1 = .ok (.ifCond .lt 29, 3) := by decide +kernel
theorem dX4_saidAt_4 : decode cX4_saidAt 4 = .ok (.iload_n 1, 1) := by decide +kernel
theorem dX4_saidAt_5 : decode cX4_saidAt 5 = .ok (.aload_n 0, 1) := by decide +kernel
theorem dX4_saidAt_6 : decode cX4_saidAt 6 = .ok (.getfield 39, 3) := by decide +kernel
theorem dX4_saidAt_9 : decode cX4_saidAt 9 = .ok (.if_icmp .ge 21, 3) := by decide +kernel
theorem dX4_saidAt_12 : decode cX4_saidAt 12 = .ok (.iload_n 1, 1) := by decide +kernel
theorem dX4_saidAt_13 : decode cX4_saidAt 13 = .ok (.aload_n 0, 1) := by decide +kernel
theorem dX4_saidAt_14 : decode cX4_saidAt 14 = .ok (.getfield 36, 3) := by decide +kernel
theorem dX4_saidAt_17 : decode cX4_saidAt 17 = .ok (.arraylength, 1) := by decide +kernel
theorem dX4_saidAt_18 : decode cX4_saidAt 18 = .ok (.if_icmp .ge 12, 3) := by decide +kernel
theorem dX4_saidAt_21 : decode cX4_saidAt 21 = .ok (.aload_n 0, 1) := by decide +kernel
theorem dX4_saidAt_22 : decode cX4_saidAt 22 = .ok (.getfield 36, 3) := by decide +kernel
theorem dX4_saidAt_25 : decode cX4_saidAt 25 = .ok (.iload_n 1, 1) := by decide +kernel
theorem dX4_saidAt_26 : decode cX4_saidAt 26 = .ok (.iaload, 1) := by decide +kernel
theorem dX4_saidAt_27 : decode cX4_saidAt 27 = .ok (.goto 4, 3) := by decide +kernel
theorem dX4_saidAt_30 : decode cX4_saidAt 30 = .ok (.iconst (-1), 1) := by decide +kernel
theorem dX4_saidAt_31 : decode cX4_saidAt 31 = .ok (.ireturn, 1) := by decide +kernel
set_option maxRecDepth 100000 in
set_option maxHeartbeats 4000000 in
theorem ct4_saidAt (G : Gm) (t : Nat)  (x1 : Int32)  (S : St) : Ct G YX4_saidAt yX4_saidAt 1 0 0 (fI t) (f4_saidAt x1 S) [vR (some 6), vI x1] (MM t S) := by
  refine Ct_of_J [some (vR (some 6)), some (vI x1)] (by decide) rfl (fun h => by cases h) (Nat.le_of_ble_eq_true rfl) (And.intro rfl (And.intro rfl (trivial))) ?_
  unfold f4_saidAt
  refine J_iload_n dX4_saidAt_0 rfl rfl ?_
  refine J_if_lt (tgt := 30) dX4_saidAt_1 (by decide) (fun z1 => ?_) (fun z1 => ?_)
  · refine J_iconst (v := (-1)) dX4_saidAt_30 (by decide) ?_
    exact J_ireturn rfl (Nat.le_refl _) (Nat.le_refl _) rfl dX4_saidAt_31
  · refine J_iload_n dX4_saidAt_4 rfl rfl ?_
    refine J_aload_n dX4_saidAt_5 rfl rfl ?_
    refine K_getI cf4 flX4_39 (sq 6 rfl) (Or.inl rfl) dX4_saidAt_6 ?_
    refine J_icmp_ge (tgt := 30) dX4_saidAt_9 (by decide) (fun z2 => ?_) (fun z2 => ?_)
    · refine J_iconst (v := (-1)) dX4_saidAt_30 (by decide) ?_
      exact J_ireturn rfl (Nat.le_refl _) (Nat.le_refl _) rfl dX4_saidAt_31
    · refine J_iload_n dX4_saidAt_12 rfl rfl ?_
      refine J_aload_n dX4_saidAt_13 rfl rfl ?_
      refine K_getR (r := some (8)) cf4 flX4_36 (sq 6 rfl) rfl (Or.inr ⟨_, rfl⟩) dX4_saidAt_14 ?_
      refine K_alen (v := nI 8) (sq 8 rfl) (by decide) rfl dX4_saidAt_17 ?_
      refine J_icmp_ge (tgt := 30) dX4_saidAt_18 (by decide) (fun z3 => ?_) (fun z3 => ?_)
      · refine J_iconst (v := (-1)) dX4_saidAt_30 (by decide) ?_
        exact J_ireturn rfl (Nat.le_refl _) (Nat.le_refl _) rfl dX4_saidAt_31
      · refine J_aload_n dX4_saidAt_21 rfl rfl ?_
        refine K_getR (r := some (8)) cf4 flX4_36 (sq 6 rfl) rfl (Or.inr ⟨_, rfl⟩) dX4_saidAt_22 ?_
        refine J_iload_n dX4_saidAt_25 rfl rfl ?_
        refine K_iald (sq 8 rfl) dX4_saidAt_26 ?_
        refine J_goto (tgt := 31) dX4_saidAt_27 (by decide) ?_
        exact J_ireturn rfl (Nat.le_refl _) (Nat.le_refl _) rfl dX4_saidAt_31
theorem dX4_saidSum_0 : decode cX4_saidSum 0 = .ok (.iconst 0, 1) := by decide +kernel
theorem dX4_saidSum_1 : decode cX4_saidSum 1 = .ok (.istore_n 1, 1) := by decide +kernel
theorem dX4_saidSum_2 : decode cX4_saidSum 2 = .ok (.iconst 0, 1) := by decide +kernel
theorem dX4_saidSum_3 : decode cX4_saidSum 3 = .ok (.istore_n 2, 1) := by decide +kernel
theorem dX4_saidSum_4 : decode cX4_saidSum 4 = .ok (.iload_n 2, 1) := by decide +kernel
theorem dX4_saidSum_5 : decode cX4_saidSum 5 = .ok (.aload_n 0, 1) := by decide +kernel
theorem dX4_saidSum_6 : decode cX4_saidSum 6 = .ok (.getfield 39, 3) := by decide +kernel
theorem dX4_saidSum_9 : decode cX4_saidSum 9 = .ok (.if_icmp .ge 17, 3) := by decide +kernel
theorem dX4_saidSum_12 : decode cX4_saidSum 12 = .ok (.iload_n 1, 1) := by decide +kernel
theorem dX4_saidSum_13 : decode cX4_saidSum 13 = .ok (.aload_n 0, 1) := by decide +kernel
theorem dX4_saidSum_14 : decode cX4_saidSum 14 = .ok (.iload_n 2, 1) := by decide +kernel
theorem dX4_saidSum_15 : decode cX4_saidSum 15 = .ok (.invokevirtual 85, 3) := by decide +kernel
theorem dX4_saidSum_18 : decode cX4_saidSum 18 = .ok (.iadd, 1) := by decide +kernel
theorem dX4_saidSum_19 : decode cX4_saidSum 19 = .ok (.istore_n 1, 1) := by decide +kernel
theorem dX4_saidSum_20 : decode cX4_saidSum 20 = .ok (.iinc 2 1, 3) := by decide +kernel
theorem dX4_saidSum_23 : decode cX4_saidSum 23 = .ok (.goto (-19), 3) := by decide +kernel
theorem dX4_saidSum_26 : decode cX4_saidSum 26 = .ok (.iload_n 1, 1) := by decide +kernel
theorem dX4_saidSum_27 : decode cX4_saidSum 27 = .ok (.ireturn, 1) := by decide +kernel
set_option maxRecDepth 100000 in
set_option maxHeartbeats 4000000 in
theorem t4_saidSum_h4 (G : Gm) (t : Nat) (N : Nat)     : ∀ (n : Nat) (x1 : Int32) (x2 : Int32) (S : St), J G YX4_saidSum 2 0 0 (fI t) 0 0 4 [some (vR (some 6)), some (vI x1), some (vI x2)] [] (MM t S) (f4_saidSum_h4 N n x1 x2 S) := by
  intro n
  induction n with
  | zero => intro x1 x2 S; exact J_none
  | succ n ih =>
    intro x1 x2 S
    rw [f4_saidSum_h4]
    refine J_iload_n dX4_saidSum_4 rfl rfl ?_
    refine J_aload_n dX4_saidSum_5 rfl rfl ?_
    refine K_getI cf4 flX4_39 (sq 6 rfl) (Or.inl rfl) dX4_saidSum_6 ?_
    refine J_icmp_ge (tgt := 26) dX4_saidSum_9 (by decide) (fun z1 => ?_) (fun z1 => ?_)
    · refine J_iload_n dX4_saidSum_26 rfl rfl ?_
      exact J_ireturn rfl (Nat.le_refl _) (Nat.le_refl _) rfl dX4_saidSum_27
    · refine J_iload_n dX4_saidSum_12 rfl rfl ?_
      refine J_aload_n dX4_saidSum_13 rfl rfl ?_
      refine J_iload_n dX4_saidSum_14 rfl rfl ?_
      refine K_callV_i (As := [vI x2]) mcX4_saidAt mlX4_85 rfl (by decide) (sq 6 rfl) (ct4_saidAt G t x2 S) rfl rfl (Nat.le_of_ble_eq_true rfl) (by decide) (Nat.le_of_ble_eq_true rfl) dX4_saidSum_15 (fun q2 S3 => ?_)
      refine J_iadd dX4_saidSum_18 ?_
      refine J_ltI (fun v4 _ => ?_)
      refine J_istore_n [some (vR (some 6)), some (vI v4), some (vI x2)] dX4_saidSum_19 rfl (Nat.le_of_ble_eq_true rfl) rfl rfl ?_
      refine J_iinc (v := x2 + nI 1) [some (vR (some 6)), some (vI v4), some (vI (x2 + nI 1))] dX4_saidSum_20 rfl rfl (Nat.le_of_ble_eq_true rfl) rfl rfl ?_
      refine J_goto (tgt := 4) dX4_saidSum_23 (by decide) ?_
      exact J_sb (ih v4 (x2 + nI 1) S3) (And.intro rfl (And.intro rfl (And.intro rfl (trivial))))
set_option maxRecDepth 100000 in
set_option maxHeartbeats 4000000 in
theorem ct4_saidSum (G : Gm) (t : Nat) (N : Nat)   (S : St) : Ct G YX4_saidSum yX4_saidSum 2 0 0 (fI t) (f4_saidSum N S) [vR (some 6)] (MM t S) := by
  refine Ct_of_J [some (vR (some 6)), none, none] (by decide) rfl (fun h => by cases h) (Nat.le_of_ble_eq_true rfl) (And.intro rfl (trivial)) ?_
  unfold f4_saidSum
  refine J_iconst (v := nI 0) dX4_saidSum_0 (by decide) ?_
  refine J_istore_n [some (vR (some 6)), some (vI (nI 0)), none] dX4_saidSum_1 rfl (Nat.le_of_ble_eq_true rfl) rfl rfl ?_
  refine J_iconst (v := nI 0) dX4_saidSum_2 (by decide) ?_
  refine J_istore_n [some (vR (some 6)), some (vI (nI 0)), some (vI (nI 0))] dX4_saidSum_3 rfl (Nat.le_of_ble_eq_true rfl) rfl rfl ?_
  exact J_sb (t4_saidSum_h4 G t N N (nI 0) (nI 0) S) (And.intro rfl (And.intro rfl (And.intro rfl (trivial))))
theorem dX4_likeTold_0 : decode cX4_likeTold 0 = .ok (.iconst 0, 1) := by decide +kernel
theorem dX4_likeTold_1 : decode cX4_likeTold 1 = .ok (.istore_n 2, 1) := by decide +kernel
theorem dX4_likeTold_2 : decode cX4_likeTold 2 = .ok (.iload_n 2, 1) := by decide +kernel
theorem dX4_likeTold_3 : decode cX4_likeTold 3 = .ok (.aload_n 0, 1) := by decide +kernel
theorem dX4_likeTold_4 : decode cX4_likeTold 4 = .ok (.getfield 39, 3) := by decide +kernel
theorem dX4_likeTold_7 : decode cX4_likeTold 7 = .ok (.if_icmp .ge 30, 3) := by decide +kernel
theorem dX4_likeTold_10 : decode cX4_likeTold 10 = .ok (.iload_n 2, 1) := by decide +kernel
theorem dX4_likeTold_11 : decode cX4_likeTold 11 = .ok (.aload_n 1, 1) := by decide +kernel
theorem dX4_likeTold_12 : decode cX4_likeTold 12 = .ok (.invokevirtual 88, 3) := by decide +kernel
theorem dX4_likeTold_15 : decode cX4_likeTold 15 = .ok (.if_icmp .ge 22, 3) := by decide +kernel
theorem dX4_likeTold_18 : decode cX4_likeTold 18 = .ok (.aload_n 0, 1) := by decide +kernel
theorem dX4_likeTold_19 : decode cX4_likeTold 19 = .ok (.iload_n 2, 1) := by decide +kernel
theorem dX4_likeTold_20 : decode cX4_likeTold 20 = .ok (.invokevirtual 85, 3) := by decide +kernel
theorem dX4_likeTold_23 : decode cX4_likeTold 23 = .ok (.aload_n 1, 1) := by decide +kernel
theorem dX4_likeTold_24 : decode cX4_likeTold 24 = .ok (.iload_n 2, 1) := by decide +kernel
theorem dX4_likeTold_25 : decode cX4_likeTold 25 = .ok (.invokevirtual 91, 3) := by decide +kernel
theorem dX4_likeTold_28 : decode cX4_likeTold 28 = .ok (.if_icmp .ne 9, 3) := by decide +kernel
theorem dX4_likeTold_31 : decode cX4_likeTold 31 = .ok (.iinc 2 1, 3) := by decide +kernel
theorem dX4_likeTold_34 : decode cX4_likeTold 34 = .ok (.goto (-32), 3) := by decide +kernel
theorem dX4_likeTold_37 : decode cX4_likeTold 37 = .ok (.iload_n 2, 1) := by decide +kernel
theorem dX4_likeTold_38 : decode cX4_likeTold 38 = .ok (.ireturn, 1) := by decide +kernel
set_option maxRecDepth 100000 in
set_option maxHeartbeats 4000000 in
theorem t4_likeTold_h2 (G : Gm) (t : Nat) (N : Nat)     : ∀ (n : Nat) (x2 : Int32) (S : St), J G YX4_likeTold 2 0 0 (fI t) 0 0 2 [some (vR (some 6)), some (vR (some 24)), some (vI x2)] [] (MM t S) (f4_likeTold_h2 N n x2 S) := by
  intro n
  induction n with
  | zero => intro x2 S; exact J_none
  | succ n ih =>
    intro x2 S
    rw [f4_likeTold_h2]
    refine J_iload_n dX4_likeTold_2 rfl rfl ?_
    refine J_aload_n dX4_likeTold_3 rfl rfl ?_
    refine K_getI cf4 flX4_39 (sq 6 rfl) (Or.inl rfl) dX4_likeTold_4 ?_
    refine J_icmp_ge (tgt := 37) dX4_likeTold_7 (by decide) (fun z1 => ?_) (fun z1 => ?_)
    · refine J_iload_n dX4_likeTold_37 rfl rfl ?_
      exact J_ireturn rfl (Nat.le_refl _) (Nat.le_refl _) rfl dX4_likeTold_38
    · refine J_iload_n dX4_likeTold_10 rfl rfl ?_
      refine J_aload_n dX4_likeTold_11 rfl rfl ?_
      refine K_callV_i (As := []) mcX10_length mlX4_88 rfl (by decide) (sq 24 rfl) (ct10_length G t S) rfl rfl (Nat.le_of_ble_eq_true rfl) (by decide) (Nat.le_of_ble_eq_true rfl) dX4_likeTold_12 (fun q2 S3 => ?_)
      refine J_icmp_ge (tgt := 37) dX4_likeTold_15 (by decide) (fun z4 => ?_) (fun z4 => ?_)
      · refine J_iload_n dX4_likeTold_37 rfl rfl ?_
        exact J_ireturn rfl (Nat.le_refl _) (Nat.le_refl _) rfl dX4_likeTold_38
      · refine J_aload_n dX4_likeTold_18 rfl rfl ?_
        refine J_iload_n dX4_likeTold_19 rfl rfl ?_
        refine K_callV_i (As := [vI x2]) mcX4_saidAt mlX4_85 rfl (by decide) (sq 6 rfl) (ct4_saidAt G t x2 S3) rfl rfl (Nat.le_of_ble_eq_true rfl) (by decide) (Nat.le_of_ble_eq_true rfl) dX4_likeTold_20 (fun q5 S6 => ?_)
        refine J_aload_n dX4_likeTold_23 rfl rfl ?_
        refine J_iload_n dX4_likeTold_24 rfl rfl ?_
        refine K_callV_i (As := [vI x2]) mcX10_numberAt mlX4_91 rfl (by decide) (sq 24 rfl) (ct10_numberAt G t x2 S6) rfl rfl (Nat.le_of_ble_eq_true rfl) (by decide) (Nat.le_of_ble_eq_true rfl) dX4_likeTold_25 (fun q7 S8 => ?_)
        refine J_icmp_ne (tgt := 37) dX4_likeTold_28 (by decide) (fun z9 => ?_) (fun z9 => ?_)
        · refine J_iinc (v := x2 + nI 1) [some (vR (some 6)), some (vR (some 24)), some (vI (x2 + nI 1))] dX4_likeTold_31 rfl rfl (Nat.le_of_ble_eq_true rfl) rfl rfl ?_
          refine J_goto (tgt := 2) dX4_likeTold_34 (by decide) ?_
          exact J_sb (ih (x2 + nI 1) S8) (And.intro rfl (And.intro rfl (And.intro rfl (trivial))))
        · refine J_iload_n dX4_likeTold_37 rfl rfl ?_
          exact J_ireturn rfl (Nat.le_refl _) (Nat.le_refl _) rfl dX4_likeTold_38
set_option maxRecDepth 100000 in
set_option maxHeartbeats 4000000 in
theorem ct4_likeTold (G : Gm) (t : Nat) (N : Nat)   (S : St) : Ct G YX4_likeTold yX4_likeTold 2 0 0 (fI t) (f4_likeTold N S) [vR (some 6), vR (some 24)] (MM t S) := by
  refine Ct_of_J [some (vR (some 6)), some (vR (some 24)), none] (by decide) rfl (fun h => by cases h) (Nat.le_of_ble_eq_true rfl) (And.intro rfl (And.intro rfl (trivial))) ?_
  unfold f4_likeTold
  refine J_iconst (v := nI 0) dX4_likeTold_0 (by decide) ?_
  refine J_istore_n [some (vR (some 6)), some (vR (some 24)), some (vI (nI 0))] dX4_likeTold_1 rfl (Nat.le_of_ble_eq_true rfl) rfl rfl ?_
  exact J_sb (t4_likeTold_h2 G t N N (nI 0) S) (And.intro rfl (And.intro rfl (And.intro rfl (trivial))))
theorem dX4_saidJust_0 : decode cX4_saidJust 0 = .ok (.aload_n 0, 1) := by decide +kernel
theorem dX4_saidJust_1 : decode cX4_saidJust 1 = .ok (.getfield 39, 3) := by decide +kernel
theorem dX4_saidJust_4 : decode cX4_saidJust 4 = .ok (.aload_n 1, 1) := by decide +kernel
theorem dX4_saidJust_5 : decode cX4_saidJust 5 = .ok (.invokevirtual 88, 3) := by decide +kernel
theorem dX4_saidJust_8 : decode cX4_saidJust 8 = .ok (.if_icmp .ne 19, 3) := by decide +kernel
theorem dX4_saidJust_11 : decode cX4_saidJust 11 = .ok (.aload_n 0, 1) := by decide +kernel
theorem dX4_saidJust_12 : decode cX4_saidJust 12 = .ok (.aload_n 1, 1) := by decide +kernel
theorem dX4_saidJust_13 : decode cX4_saidJust 13 = .ok (.invokevirtual 94, 3) := by decide +kernel
theorem dX4_saidJust_16 : decode cX4_saidJust 16 = .ok (.aload_n 0, 1) := by decide +kernel
theorem dX4_saidJust_17 : decode cX4_saidJust 17 = .ok (.getfield 39, 3) := by decide +kernel
theorem dX4_saidJust_20 : decode cX4_saidJust 20 = .ok (.if_icmp .ne 7, 3) := by decide +kernel
theorem dX4_saidJust_23 : decode cX4_saidJust 23 = .ok (.iconst 1, 1) := by decide +kernel
theorem dX4_saidJust_24 : decode cX4_saidJust 24 = .ok (.goto 4, 3) := by decide +kernel
theorem dX4_saidJust_27 : decode cX4_saidJust 27 = .ok (.iconst 0, 1) := by decide +kernel
theorem dX4_saidJust_28 : decode cX4_saidJust 28 = .ok (.ireturn, 1) := by decide +kernel
set_option maxRecDepth 100000 in
set_option maxHeartbeats 4000000 in
theorem ct4_saidJust (G : Gm) (t : Nat) (N : Nat)   (S : St) : Ct G YX4_saidJust yX4_saidJust 3 0 0 (fI t) (f4_saidJust N S) [vR (some 6), vR (some 24)] (MM t S) := by
  refine Ct_of_J [some (vR (some 6)), some (vR (some 24))] (by decide) rfl (fun h => by cases h) (Nat.le_of_ble_eq_true rfl) (And.intro rfl (And.intro rfl (trivial))) ?_
  unfold f4_saidJust
  refine J_aload_n dX4_saidJust_0 rfl rfl ?_
  refine K_getI cf4 flX4_39 (sq 6 rfl) (Or.inl rfl) dX4_saidJust_1 ?_
  refine J_aload_n dX4_saidJust_4 rfl rfl ?_
  refine K_callV_i (As := []) mcX10_length mlX4_88 rfl (by decide) (sq 24 rfl) (ct10_length G t S) rfl rfl (Nat.le_of_ble_eq_true rfl) (by decide) (Nat.le_of_ble_eq_true rfl) dX4_saidJust_5 (fun q1 S2 => ?_)
  refine J_icmp_ne (tgt := 27) dX4_saidJust_8 (by decide) (fun z3 => ?_) (fun z3 => ?_)
  · refine J_aload_n dX4_saidJust_11 rfl rfl ?_
    refine J_aload_n dX4_saidJust_12 rfl rfl ?_
    refine K_callV_i (As := [vR (some 24)]) mcX4_likeTold mlX4_94 rfl (by decide) (sq 6 rfl) (ct4_likeTold G t N S2) rfl rfl (Nat.le_of_ble_eq_true rfl) (by decide) (Nat.le_of_ble_eq_true rfl) dX4_saidJust_13 (fun q4 S5 => ?_)
    refine J_aload_n dX4_saidJust_16 rfl rfl ?_
    refine K_getI cf4 flX4_39 (sq 6 rfl) (Or.inl rfl) dX4_saidJust_17 ?_
    refine J_icmp_ne (tgt := 27) dX4_saidJust_20 (by decide) (fun z6 => ?_) (fun z6 => ?_)
    · refine J_iconst (v := nI 1) dX4_saidJust_23 (by decide) ?_
      refine J_goto (tgt := 28) dX4_saidJust_24 (by decide) ?_
      exact J_zreturn (by decide) rfl (Nat.le_refl _) (Nat.le_refl _) rfl dX4_saidJust_28
    · refine J_iconst (v := nI 0) dX4_saidJust_27 (by decide) ?_
      exact J_zreturn (by decide) rfl (Nat.le_refl _) (Nat.le_refl _) rfl dX4_saidJust_28
  · refine J_iconst (v := nI 0) dX4_saidJust_27 (by decide) ?_
    exact J_zreturn (by decide) rfl (Nat.le_refl _) (Nat.le_refl _) rfl dX4_saidJust_28
theorem dX4_tell_0 : decode cX4_tell 0 = .ok (.aload_n 1, 1) := by decide +kernel
theorem dX4_tell_1 : decode cX4_tell 1 = .ok (.arraylength, 1) := by decide +kernel
theorem dX4_tell_2 : decode cX4_tell 2 = .ok (.iconst 4, 1) := by decide +kernel
theorem dX4_tell_3 : decode cX4_tell 3 = .ok (.aload_n 0, 1) := by decide +kernel
theorem dX4_tell_4 : decode cX4_tell 4 = .ok (.getfield 36, 3) := by decide +kernel
theorem dX4_tell_7 : decode cX4_tell 7 = .ok (.arraylength, 1) := by decide +kernel
theorem dX4_tell_8 : decode cX4_tell 8 = .ok (.iadd, 1) := by decide +kernel
theorem dX4_tell_9 : decode cX4_tell 9 = .ok (.if_icmp .ge 4, 3) := by decide +kernel
theorem dX4_tell_12 : decode cX4_tell 12 = .ok (.return_, 1) := by decide +kernel
theorem dX4_tell_13 : decode cX4_tell 13 = .ok (.aload_n 1, 1) := by decide +kernel
theorem dX4_tell_14 : decode cX4_tell 14 = .ok (.iconst 0, 1) := by decide +kernel
theorem dX4_tell_15 : decode cX4_tell 15 = .ok (.aload_n 0, 1) := by decide +kernel
theorem dX4_tell_16 : decode cX4_tell 16 = .ok (.getfield 30, 3) := by decide +kernel
theorem dX4_tell_19 : decode cX4_tell 19 = .ok (.iastore, 1) := by decide +kernel
theorem dX4_tell_20 : decode cX4_tell 20 = .ok (.aload_n 1, 1) := by decide +kernel
theorem dX4_tell_21 : decode cX4_tell 21 = .ok (.iconst 1, 1) := by decide +kernel
theorem dX4_tell_22 : decode cX4_tell 22 = .ok (.aload_n 0, 1) := by decide +kernel
theorem dX4_tell_23 : decode cX4_tell 23 = .ok (.getfield 24, 3) := by decide +kernel
theorem dX4_tell_26 : decode cX4_tell 26 = .ok (.iastore, 1) := by decide +kernel
theorem dX4_tell_27 : decode cX4_tell 27 = .ok (.aload_n 1, 1) := by decide +kernel
theorem dX4_tell_28 : decode cX4_tell 28 = .ok (.iconst 2, 1) := by decide +kernel
theorem dX4_tell_29 : decode cX4_tell 29 = .ok (.aload_n 0, 1) := by decide +kernel
theorem dX4_tell_30 : decode cX4_tell 30 = .ok (.getfield 27, 3) := by decide +kernel
theorem dX4_tell_33 : decode cX4_tell 33 = .ok (.iastore, 1) := by decide +kernel
theorem dX4_tell_34 : decode cX4_tell 34 = .ok (.aload_n 1, 1) := by decide +kernel
theorem dX4_tell_35 : decode cX4_tell 35 = .ok (.iconst 3, 1) := by decide +kernel
theorem dX4_tell_36 : decode cX4_tell 36 = .ok (.aload_n 0, 1) := by decide +kernel
theorem dX4_tell_37 : decode cX4_tell 37 = .ok (.getfield 39, 3) := by decide +kernel
theorem dX4_tell_40 : decode cX4_tell 40 = .ok (.iastore, 1) := by decide +kernel
theorem dX4_tell_41 : decode cX4_tell 41 = .ok (.aload_n 0, 1) := by decide +kernel
theorem dX4_tell_42 : decode cX4_tell 42 = .ok (.getfield 36, 3) := by decide +kernel
theorem dX4_tell_45 : decode cX4_tell 45 = .ok (.iconst 0, 1) := by decide +kernel
theorem dX4_tell_46 : decode cX4_tell 46 = .ok (.aload_n 1, 1) := by decide +kernel
theorem dX4_tell_47 : decode cX4_tell 47 = .ok (.iconst 4, 1) := by decide +kernel
theorem dX4_tell_48 : decode cX4_tell 48 = .ok (.aload_n 0, 1) := by decide +kernel
theorem dX4_tell_49 : decode cX4_tell 49 = .ok (.getfield 36, 3) := by decide +kernel
theorem dX4_tell_52 : decode cX4_tell 52 = .ok (.arraylength, 1) := by decide +kernel
theorem dX4_tell_53 : decode cX4_tell 53 = .ok (.invokestatic 98, 3) := by decide +kernel
theorem dX4_tell_56 : decode cX4_tell 56 = .ok (.return_, 1) := by decide +kernel
set_option maxRecDepth 100000 in
set_option maxHeartbeats 4000000 in
theorem ct4_tell (G : Gm) (t : Nat)    (S : St) : Ct G YX4_tell yX4_tell 1 0 0 (fV t) (f4_tell S) [vR (some 6), vR (some 10)] (MM t S) := by
  refine Ct_of_J [some (vR (some 6)), some (vR (some 10))] (by decide) rfl (fun h => by cases h) (Nat.le_of_ble_eq_true rfl) (And.intro rfl (And.intro rfl (trivial))) ?_
  unfold f4_tell
  refine J_aload_n dX4_tell_0 rfl rfl ?_
  refine K_alen (v := nI 12) (sq 10 rfl) (by decide) rfl dX4_tell_1 ?_
  refine J_iconst (v := nI 4) dX4_tell_2 (by decide) ?_
  refine J_aload_n dX4_tell_3 rfl rfl ?_
  refine K_getR (r := some (8)) cf4 flX4_36 (sq 6 rfl) rfl (Or.inr ⟨_, rfl⟩) dX4_tell_4 ?_
  refine K_alen (v := nI 8) (sq 8 rfl) (by decide) rfl dX4_tell_7 ?_
  refine J_iadd dX4_tell_8 ?_
  refine J_icmp_ge (tgt := 13) dX4_tell_9 (by decide) (fun z1 => ?_) (fun z1 => ?_)
  · refine J_aload_n dX4_tell_13 rfl rfl ?_
    refine J_iconst (v := nI 0) dX4_tell_14 (by decide) ?_
    refine J_aload_n dX4_tell_15 rfl rfl ?_
    refine K_getI cf4 flX4_30 (sq 6 rfl) (Or.inl rfl) dX4_tell_16 ?_
    refine K_iast (sq 10 rfl) dX4_tell_19 ?_
    refine J_ltS (fun S2 _ => ?_)
    refine J_aload_n dX4_tell_20 rfl rfl ?_
    refine J_iconst (v := nI 1) dX4_tell_21 (by decide) ?_
    refine J_aload_n dX4_tell_22 rfl rfl ?_
    refine K_getI cf4 flX4_24 (sq 6 rfl) (Or.inl rfl) dX4_tell_23 ?_
    refine K_iast (sq 10 rfl) dX4_tell_26 ?_
    refine J_ltS (fun S3 _ => ?_)
    refine J_aload_n dX4_tell_27 rfl rfl ?_
    refine J_iconst (v := nI 2) dX4_tell_28 (by decide) ?_
    refine J_aload_n dX4_tell_29 rfl rfl ?_
    refine K_getI cf4 flX4_27 (sq 6 rfl) (Or.inl rfl) dX4_tell_30 ?_
    refine K_iast (sq 10 rfl) dX4_tell_33 ?_
    refine J_ltS (fun S4 _ => ?_)
    refine J_aload_n dX4_tell_34 rfl rfl ?_
    refine J_iconst (v := nI 3) dX4_tell_35 (by decide) ?_
    refine J_aload_n dX4_tell_36 rfl rfl ?_
    refine K_getI cf4 flX4_39 (sq 6 rfl) (Or.inl rfl) dX4_tell_37 ?_
    refine K_iast (sq 10 rfl) dX4_tell_40 ?_
    refine J_ltS (fun S5 _ => ?_)
    refine J_aload_n dX4_tell_41 rfl rfl ?_
    refine K_getR (r := some (8)) cf4 flX4_36 (sq 6 rfl) rfl (Or.inr ⟨_, rfl⟩) dX4_tell_42 ?_
    refine J_iconst (v := nI 0) dX4_tell_45 (by decide) ?_
    refine J_aload_n dX4_tell_46 rfl rfl ?_
    refine J_iconst (v := nI 4) dX4_tell_47 (by decide) ?_
    refine J_aload_n dX4_tell_48 rfl rfl ?_
    refine K_getR (r := some (8)) cf4 flX4_36 (sq 6 rfl) rfl (Or.inr ⟨_, rfl⟩) dX4_tell_49 ?_
    refine K_alen (v := nI 8) (sq 8 rfl) (by decide) rfl dX4_tell_52 ?_
    refine K_copyI (sq 8 rfl) (sq 10 rfl) wlX4_98 (Nat.le_of_ble_eq_true rfl) (by decide) dX4_tell_53 ?_
    refine J_ltS (fun S6 _ => ?_)
    exact J_return rfl (Nat.le_refl _) (Nat.le_refl _) rfl dX4_tell_56
  · exact J_return rfl (Nat.le_refl _) (Nat.le_refl _) rfl dX4_tell_12
