theorem dX2_enter_0 : decode cX2_enter 0 = .ok (.aload_n 1, 1) := by decide +kernel
theorem dX2_enter_1 : decode cX2_enter 1 = .ok (.invokevirtual 64, 3) := by decide +kernel
theorem dX2_enter_4 : decode cX2_enter 4 = .ok (.iconst 1, 1) := by decide +kernel
theorem dX2_enter_5 : decode cX2_enter 5 = .ok (.if_icmp .ne 16, 3) := by decide +kernel
theorem dX2_enter_8 : decode cX2_enter 8 = .ok (.aload_n 0, 1) := by decide +kernel
theorem dX2_enter_9 : decode cX2_enter 9 = .ok (.dup, 1) := by decide +kernel
theorem dX2_enter_10 : decode cX2_enter 10 = .ok (.getfield 25, 3) := by decide +kernel
theorem dX2_enter_13 : decode cX2_enter 13 = .ok (.iconst 1, 1) := by decide +kernel
theorem dX2_enter_14 : decode cX2_enter 14 = .ok (.iadd, 1) := by decide +kernel
theorem dX2_enter_15 : decode cX2_enter 15 = .ok (.putfield 25, 3) := by decide +kernel
theorem dX2_enter_18 : decode cX2_enter 18 = .ok (.goto 84, 3) := by decide +kernel
theorem dX2_enter_21 : decode cX2_enter 21 = .ok (.aload_n 1, 1) := by decide +kernel
theorem dX2_enter_22 : decode cX2_enter 22 = .ok (.invokevirtual 64, 3) := by decide +kernel
theorem dX2_enter_25 : decode cX2_enter 25 = .ok (.iconst 2, 1) := by decide +kernel
theorem dX2_enter_26 : decode cX2_enter 26 = .ok (.if_icmp .ne 26, 3) := by decide +kernel
theorem dX2_enter_29 : decode cX2_enter 29 = .ok (.aload_n 0, 1) := by decide +kernel
theorem dX2_enter_30 : decode cX2_enter 30 = .ok (.dup, 1) := by decide +kernel
theorem dX2_enter_31 : decode cX2_enter 31 = .ok (.getfield 28, 3) := by decide +kernel
theorem dX2_enter_34 : decode cX2_enter 34 = .ok (.iconst 1, 1) := by decide +kernel
theorem dX2_enter_35 : decode cX2_enter 35 = .ok (.iadd, 1) := by decide +kernel
theorem dX2_enter_36 : decode cX2_enter 36 = .ok (.putfield 28, 3) := by decide +kernel
theorem dX2_enter_39 : decode cX2_enter 39 = .ok (.aload_n 0, 1) := by decide +kernel
theorem dX2_enter_40 : decode cX2_enter 40 = .ok (.dup, 1) := by decide +kernel
theorem dX2_enter_41 : decode cX2_enter 41 = .ok (.getfield 37, 3) := by decide +kernel
theorem dX2_enter_44 : decode cX2_enter 44 = .ok (.iload_n 2, 1) := by decide +kernel
theorem dX2_enter_45 : decode cX2_enter 45 = .ok (.iadd, 1) := by decide +kernel
theorem dX2_enter_46 : decode cX2_enter 46 = .ok (.putfield 37, 3) := by decide +kernel
theorem dX2_enter_49 : decode cX2_enter 49 = .ok (.goto 53, 3) := by decide +kernel
theorem dX2_enter_52 : decode cX2_enter 52 = .ok (.aload_n 0, 1) := by decide +kernel
theorem dX2_enter_53 : decode cX2_enter 53 = .ok (.dup, 1) := by decide +kernel
theorem dX2_enter_54 : decode cX2_enter 54 = .ok (.getfield 21, 3) := by decide +kernel
theorem dX2_enter_57 : decode cX2_enter 57 = .ok (.iconst 1, 1) := by decide +kernel
theorem dX2_enter_58 : decode cX2_enter 58 = .ok (.iadd, 1) := by decide +kernel
theorem dX2_enter_59 : decode cX2_enter 59 = .ok (.putfield 21, 3) := by decide +kernel
theorem dX2_enter_62 : decode cX2_enter 62 = .ok (.aload_n 0, 1) := by decide +kernel
theorem dX2_enter_63 : decode cX2_enter 63 = .ok (.dup, 1) := by decide +kernel
theorem dX2_enter_64 : decode cX2_enter 64 = .ok (.getfield 34, 3) := by decide +kernel
theorem dX2_enter_67 : decode cX2_enter 67 = .ok (.iload_n 2, 1) := by decide +kernel
theorem dX2_enter_68 : decode cX2_enter 68 = .ok (.iadd, 1) := by decide +kernel
theorem dX2_enter_69 : decode cX2_enter 69 = .ok (.putfield 34, 3) := by decide +kernel
theorem dX2_enter_72 : decode cX2_enter 72 = .ok (.aload_n 1, 1) := by decide +kernel
theorem dX2_enter_73 : decode cX2_enter 73 = .ok (.invokevirtual 68, 3) := by decide +kernel
theorem dX2_enter_76 : decode cX2_enter 76 = .ok (.aload_n 0, 1) := by decide +kernel
theorem dX2_enter_77 : decode cX2_enter 77 = .ok (.getfield 31, 3) := by decide +kernel
theorem dX2_enter_80 : decode cX2_enter 80 = .ok (.if_icmp .le 22, 3) := by decide +kernel
theorem dX2_enter_83 : decode cX2_enter 83 = .ok (.aload_n 0, 1) := by decide +kernel
theorem dX2_enter_84 : decode cX2_enter 84 = .ok (.aload_n 1, 1) := by decide +kernel
theorem dX2_enter_85 : decode cX2_enter 85 = .ok (.invokevirtual 68, 3) := by decide +kernel
theorem dX2_enter_88 : decode cX2_enter 88 = .ok (.putfield 31, 3) := by decide +kernel
theorem dX2_enter_91 : decode cX2_enter 91 = .ok (.aload_n 0, 1) := by decide +kernel
theorem dX2_enter_92 : decode cX2_enter 92 = .ok (.getfield 18, 3) := by decide +kernel
theorem dX2_enter_95 : decode cX2_enter 95 = .ok (.aload_n 0, 1) := by decide +kernel
theorem dX2_enter_96 : decode cX2_enter 96 = .ok (.getfield 12, 3) := by decide +kernel
theorem dX2_enter_99 : decode cX2_enter 99 = .ok (.invokevirtual 71, 3) := by decide +kernel
theorem dX2_enter_102 : decode cX2_enter 102 = .ok (.return_, 1) := by decide +kernel
set_option maxRecDepth 100000 in
set_option maxHeartbeats 4000000 in
theorem ct2_enter (G : Gm) (t : Nat)  (x2 : Int32)  (S : St) : Ct G YX2_enter yX2_enter 2 0 0 (fV t) (f2_enter x2 S) [vR (some 32), vR (some 6), vI x2] (MM t S) := by
  refine Ct_of_J [some (vR (some 32)), some (vR (some 6)), some (vI x2)] (by decide) rfl (fun h => by cases h) (Nat.le_of_ble_eq_true rfl) (And.intro rfl (And.intro rfl (And.intro rfl (trivial)))) ?_
  unfold f2_enter
  refine J_aload_n dX2_enter_0 rfl rfl ?_
  refine K_callV_i (As := []) mcX4_state mlX2_64 rfl (by decide) (sq 6 rfl) (ct4_state G t S) rfl rfl (Nat.le_of_ble_eq_true rfl) (by decide) (Nat.le_of_ble_eq_true rfl) dX2_enter_1 (fun q1 S2 => ?_)
  refine J_iconst (v := nI 1) dX2_enter_4 (by decide) ?_
  refine J_icmp_ne (tgt := 21) dX2_enter_5 (by decide) (fun z3 => ?_) (fun z3 => ?_)
  · refine J_aload_n dX2_enter_8 rfl rfl ?_
    refine J_dup dX2_enter_9 rfl ?_
    refine K_getI cf2 flX2_25 (sq 32 rfl) (Or.inl rfl) dX2_enter_10 ?_
    refine J_iconst (v := nI 1) dX2_enter_13 (by decide) ?_
    refine J_iadd dX2_enter_14 ?_
    refine K_putI cf2 flX2_25 (sq 32 rfl) rfl dX2_enter_15 ?_
    refine J_ltS (fun S19 _ => ?_)
    refine J_goto (tgt := 102) dX2_enter_18 (by decide) ?_
    exact J_return rfl (Nat.le_refl _) (Nat.le_refl _) rfl dX2_enter_102
  · refine J_aload_n dX2_enter_21 rfl rfl ?_
    refine K_callV_i (As := []) mcX4_state mlX2_64 rfl (by decide) (sq 6 rfl) (ct4_state G t S2) rfl rfl (Nat.le_of_ble_eq_true rfl) (by decide) (Nat.le_of_ble_eq_true rfl) dX2_enter_22 (fun q4 S5 => ?_)
    refine J_iconst (v := nI 2) dX2_enter_25 (by decide) ?_
    refine J_icmp_ne (tgt := 52) dX2_enter_26 (by decide) (fun z6 => ?_) (fun z6 => ?_)
    · refine J_aload_n dX2_enter_29 rfl rfl ?_
      refine J_dup dX2_enter_30 rfl ?_
      refine K_getI cf2 flX2_28 (sq 32 rfl) (Or.inl rfl) dX2_enter_31 ?_
      refine J_iconst (v := nI 1) dX2_enter_34 (by decide) ?_
      refine J_iadd dX2_enter_35 ?_
      refine K_putI cf2 flX2_28 (sq 32 rfl) rfl dX2_enter_36 ?_
      refine J_ltS (fun S17 _ => ?_)
      refine J_aload_n dX2_enter_39 rfl rfl ?_
      refine J_dup dX2_enter_40 rfl ?_
      refine K_getI cf2 flX2_37 (sq 32 rfl) (Or.inl rfl) dX2_enter_41 ?_
      refine J_iload_n dX2_enter_44 rfl rfl ?_
      refine J_iadd dX2_enter_45 ?_
      refine K_putI cf2 flX2_37 (sq 32 rfl) rfl dX2_enter_46 ?_
      refine J_ltS (fun S18 _ => ?_)
      refine J_goto (tgt := 102) dX2_enter_49 (by decide) ?_
      exact J_return rfl (Nat.le_refl _) (Nat.le_refl _) rfl dX2_enter_102
    · refine J_aload_n dX2_enter_52 rfl rfl ?_
      refine J_dup dX2_enter_53 rfl ?_
      refine K_getI cf2 flX2_21 (sq 32 rfl) (Or.inl rfl) dX2_enter_54 ?_
      refine J_iconst (v := nI 1) dX2_enter_57 (by decide) ?_
      refine J_iadd dX2_enter_58 ?_
      refine K_putI cf2 flX2_21 (sq 32 rfl) rfl dX2_enter_59 ?_
      refine J_ltS (fun S7 _ => ?_)
      refine J_aload_n dX2_enter_62 rfl rfl ?_
      refine J_dup dX2_enter_63 rfl ?_
      refine K_getI cf2 flX2_34 (sq 32 rfl) (Or.inl rfl) dX2_enter_64 ?_
      refine J_iload_n dX2_enter_67 rfl rfl ?_
      refine J_iadd dX2_enter_68 ?_
      refine K_putI cf2 flX2_34 (sq 32 rfl) rfl dX2_enter_69 ?_
      refine J_ltS (fun S8 _ => ?_)
      refine J_aload_n dX2_enter_72 rfl rfl ?_
      refine K_callV_i (As := []) mcX4_steps mlX2_68 rfl (by decide) (sq 6 rfl) (ct4_steps G t S8) rfl rfl (Nat.le_of_ble_eq_true rfl) (by decide) (Nat.le_of_ble_eq_true rfl) dX2_enter_73 (fun q9 S10 => ?_)
      refine J_aload_n dX2_enter_76 rfl rfl ?_
      refine K_getI cf2 flX2_31 (sq 32 rfl) (Or.inl rfl) dX2_enter_77 ?_
      refine J_icmp_le (tgt := 102) dX2_enter_80 (by decide) (fun z11 => ?_) (fun z11 => ?_)
      · exact J_return rfl (Nat.le_refl _) (Nat.le_refl _) rfl dX2_enter_102
      · refine J_aload_n dX2_enter_83 rfl rfl ?_
        refine J_aload_n dX2_enter_84 rfl rfl ?_
        refine K_callV_i (As := []) mcX4_steps mlX2_68 rfl (by decide) (sq 6 rfl) (ct4_steps G t S10) rfl rfl (Nat.le_of_ble_eq_true rfl) (by decide) (Nat.le_of_ble_eq_true rfl) dX2_enter_85 (fun q12 S13 => ?_)
        refine K_putI cf2 flX2_31 (sq 32 rfl) rfl dX2_enter_88 ?_
        refine J_ltS (fun S14 _ => ?_)
        refine J_aload_n dX2_enter_91 rfl rfl ?_
        refine K_getR (r := some (35)) cf2 flX2_18 (sq 32 rfl) rfl (Or.inl ⟨_, rfl⟩) dX2_enter_92 ?_
        refine J_aload_n dX2_enter_95 rfl rfl ?_
        refine K_getR (r := some (33)) cf2 flX2_12 (sq 32 rfl) rfl (Or.inl ⟨_, rfl⟩) dX2_enter_96 ?_
        refine K_callV_v (As := [vR (some 33)]) mcX6_become mlX2_71 rfl (by decide) (sq 35 rfl) (ct6_become G t 35 33 (by decide) (by decide) S14) rfl rfl (Nat.le_of_ble_eq_true rfl) (by decide) (Nat.le_of_ble_eq_true rfl) dX2_enter_99 (fun q15 S16 => ?_)
        exact J_return rfl (Nat.le_refl _) (Nat.le_refl _) rfl dX2_enter_102
theorem dX2_take_0 : decode cX2_take 0 = .ok (.aload_n 0, 1) := by decide +kernel
theorem dX2_take_1 : decode cX2_take 1 = .ok (.iconst 0, 1) := by decide +kernel
theorem dX2_take_2 : decode cX2_take 2 = .ok (.putfield 21, 3) := by decide +kernel
theorem dX2_take_5 : decode cX2_take 5 = .ok (.aload_n 0, 1) := by decide +kernel
theorem dX2_take_6 : decode cX2_take 6 = .ok (.iconst 0, 1) := by decide +kernel
theorem dX2_take_7 : decode cX2_take 7 = .ok (.putfield 25, 3) := by decide +kernel
theorem dX2_take_10 : decode cX2_take 10 = .ok (.aload_n 0, 1) := by decide +kernel
theorem dX2_take_11 : decode cX2_take 11 = .ok (.iconst 0, 1) := by decide +kernel
theorem dX2_take_12 : decode cX2_take 12 = .ok (.putfield 28, 3) := by decide +kernel
theorem dX2_take_15 : decode cX2_take 15 = .ok (.aload_n 0, 1) := by decide +kernel
theorem dX2_take_16 : decode cX2_take 16 = .ok (.iconst 0, 1) := by decide +kernel
theorem dX2_take_17 : decode cX2_take 17 = .ok (.putfield 31, 3) := by decide +kernel
theorem dX2_take_20 : decode cX2_take 20 = .ok (.aload_n 0, 1) := by decide +kernel
theorem dX2_take_21 : decode cX2_take 21 = .ok (.iconst 0, 1) := by decide +kernel
theorem dX2_take_22 : decode cX2_take 22 = .ok (.putfield 34, 3) := by decide +kernel
theorem dX2_take_25 : decode cX2_take 25 = .ok (.aload_n 0, 1) := by decide +kernel
theorem dX2_take_26 : decode cX2_take 26 = .ok (.iconst 0, 1) := by decide +kernel
theorem dX2_take_27 : decode cX2_take 27 = .ok (.putfield 37, 3) := by decide +kernel
theorem dX2_take_30 : decode cX2_take 30 = .ok (.aload_n 0, 1) := by decide +kernel
theorem dX2_take_31 : decode cX2_take 31 = .ok (.getfield 12, 3) := by decide +kernel
theorem dX2_take_34 : decode cX2_take 34 = .ok (.invokevirtual 40, 3) := by decide +kernel
theorem dX2_take_37 : decode cX2_take 37 = .ok (.aload_n 1, 1) := by decide +kernel
theorem dX2_take_38 : decode cX2_take 38 = .ok (.aload_n 0, 1) := by decide +kernel
theorem dX2_take_39 : decode cX2_take 39 = .ok (.getfield 12, 3) := by decide +kernel
theorem dX2_take_42 : decode cX2_take 42 = .ok (.iload_n 2, 1) := by decide +kernel
theorem dX2_take_43 : decode cX2_take 43 = .ok (.invokevirtual 43, 3) := by decide +kernel
theorem dX2_take_46 : decode cX2_take 46 = .ok (.istore 6, 2) := by decide +kernel
theorem dX2_take_48 : decode cX2_take 48 = .ok (.iconst 0, 1) := by decide +kernel
theorem dX2_take_49 : decode cX2_take 49 = .ok (.istore 7, 2) := by decide +kernel
theorem dX2_take_51 : decode cX2_take 51 = .ok (.iload 7, 2) := by decide +kernel
theorem dX2_take_53 : decode cX2_take 53 = .ok (.ldc 49, 2) := by decide +kernel
theorem dX2_take_55 : decode cX2_take 55 = .ok (.if_icmp .ge 55, 3) := by decide +kernel
theorem dX2_take_58 : decode cX2_take 58 = .ok (.iload 6, 2) := by decide +kernel
theorem dX2_take_60 : decode cX2_take 60 = .ok (.ifCond .le 50, 3) := by decide +kernel
theorem dX2_take_63 : decode cX2_take 63 = .ok (.aload 5, 2) := by decide +kernel
theorem dX2_take_65 : decode cX2_take 65 = .ok (.aload_n 1, 1) := by decide +kernel
theorem dX2_take_66 : decode cX2_take 66 = .ok (.aload_n 0, 1) := by decide +kernel
theorem dX2_take_67 : decode cX2_take 67 = .ok (.getfield 12, 3) := by decide +kernel
theorem dX2_take_70 : decode cX2_take 70 = .ok (.iload 4, 2) := by decide +kernel
theorem dX2_take_72 : decode cX2_take 72 = .ok (.invokevirtual 50, 3) := by decide +kernel
theorem dX2_take_75 : decode cX2_take 75 = .ok (.aload 5, 2) := by decide +kernel
theorem dX2_take_77 : decode cX2_take 77 = .ok (.iload_n 3, 1) := by decide +kernel
theorem dX2_take_78 : decode cX2_take 78 = .ok (.invokevirtual 56, 3) := by decide +kernel
theorem dX2_take_81 : decode cX2_take 81 = .ok (.aload_n 0, 1) := by decide +kernel
theorem dX2_take_82 : decode cX2_take 82 = .ok (.aload 5, 2) := by decide +kernel
theorem dX2_take_84 : decode cX2_take 84 = .ok (.iconst 1, 1) := by decide +kernel
theorem dX2_take_85 : decode cX2_take 85 = .ok (.iload_n 2, 1) := by decide +kernel
theorem dX2_take_86 : decode cX2_take 86 = .ok (.iload 6, 2) := by decide +kernel
theorem dX2_take_88 : decode cX2_take 88 = .ok (.isub, 1) := by decide +kernel
theorem dX2_take_89 : decode cX2_take 89 = .ok (.ishl, 1) := by decide +kernel
theorem dX2_take_90 : decode cX2_take 90 = .ok (.invokevirtual 60, 3) := by decide +kernel
theorem dX2_take_93 : decode cX2_take 93 = .ok (.aload_n 1, 1) := by decide +kernel
theorem dX2_take_94 : decode cX2_take 94 = .ok (.aload_n 0, 1) := by decide +kernel
theorem dX2_take_95 : decode cX2_take 95 = .ok (.getfield 12, 3) := by decide +kernel
theorem dX2_take_98 : decode cX2_take 98 = .ok (.iload_n 2, 1) := by decide +kernel
theorem dX2_take_99 : decode cX2_take 99 = .ok (.invokevirtual 43, 3) := by decide +kernel
theorem dX2_take_102 : decode cX2_take 102 = .ok (.istore 6, 2) := by decide +kernel
theorem dX2_take_104 : decode cX2_take 104 = .ok (.iinc 7 1, 3) := by decide +kernel
theorem dX2_take_107 : decode cX2_take 107 = .ok (.goto (-56), 3) := by decide +kernel
theorem dX2_take_110 : decode cX2_take 110 = .ok (.return_, 1) := by decide +kernel
set_option maxRecDepth 100000 in
set_option maxHeartbeats 4000000 in
theorem t2_take_h51 (G : Gm) (t : Nat) (N : Nat) (a1 : Nat) (x2 : Int32) (x3 : Int32) (x4 : Int32) (h1 : a1 ∈ ad3)   : ∀ (n : Nat) (x6 : Int32) (x7 : Int32) (S : St), J G YX2_take 6 0 0 (fV t) 0 0 51 [some (vR (some 32)), some (vR (some a1)), some (vI x2), some (vI x3), some (vI x4), some (vR (some 6)), some (vI x6), some (vI x7)] [] (MM t S) (f2_take_h51 N a1 x2 x3 x4 n x6 x7 S) := by
  intro n
  induction n with
  | zero => intro x6 x7 S; exact J_none
  | succ n ih =>
    intro x6 x7 S
    rw [f2_take_h51]
    refine J_iload dX2_take_51 rfl ?_
    refine J_ldc (v := nI 1000000) wX2_49 dX2_take_53 ?_
    refine J_icmp_ge (tgt := 110) dX2_take_55 (by decide) (fun z1 => ?_) (fun z1 => ?_)
    · exact J_return rfl (Nat.le_refl _) (Nat.le_refl _) rfl dX2_take_110
    · refine J_iload dX2_take_58 rfl ?_
      refine J_if_le (tgt := 110) dX2_take_60 (by decide) (fun z2 => ?_) (fun z2 => ?_)
      · exact J_return rfl (Nat.le_refl _) (Nat.le_refl _) rfl dX2_take_110
      · refine J_aload dX2_take_63 rfl ?_
        refine J_aload_n dX2_take_65 rfl rfl ?_
        refine J_aload_n dX2_take_66 rfl rfl ?_
        refine K_getR (r := some (33)) cf2 flX2_12 (sq 32 rfl) rfl (Or.inl ⟨_, rfl⟩) dX2_take_67 ?_
        refine J_iload dX2_take_70 rfl ?_
        refine K_callV_v (As := [vR (some a1), vR (some 33), vI x4]) mcX4_start mlX2_50 rfl (by decide) (sq 6 rfl) (ct4_start G t N a1 33 x4 h1 (by decide) S) rfl rfl (Nat.le_of_ble_eq_true rfl) (by decide) (Nat.le_of_ble_eq_true rfl) dX2_take_72 (fun q3 S4 => ?_)
        refine J_aload dX2_take_75 rfl ?_
        refine J_iload_n dX2_take_77 rfl rfl ?_
        refine K_callV_v (As := [vI x3]) mcX4_goOn mlX2_56 rfl (by decide) (sq 6 rfl) (ct4_goOn G t N x3 S4) rfl rfl (Nat.le_of_ble_eq_true rfl) (by decide) (Nat.le_of_ble_eq_true rfl) dX2_take_78 (fun q5 S6 => ?_)
        refine J_aload_n dX2_take_81 rfl rfl ?_
        refine J_aload dX2_take_82 rfl ?_
        refine J_iconst (v := nI 1) dX2_take_84 (by decide) ?_
        refine J_iload_n dX2_take_85 rfl rfl ?_
        refine J_iload dX2_take_86 rfl ?_
        refine J_isub dX2_take_88 ?_
        refine J_ishl dX2_take_89 ?_
        refine K_callV_v (As := [vR (some 6), vI (shlI (nI 1) (x2 - x6))]) mcX2_enter mlX2_60 rfl (by decide) (sq 32 rfl) (ct2_enter G t (shlI (nI 1) (x2 - x6)) S6) rfl rfl (Nat.le_of_ble_eq_true rfl) (by decide) (Nat.le_of_ble_eq_true rfl) dX2_take_90 (fun q7 S8 => ?_)
        refine J_aload_n dX2_take_93 rfl rfl ?_
        refine J_aload_n dX2_take_94 rfl rfl ?_
        refine K_getR (r := some (33)) cf2 flX2_12 (sq 32 rfl) rfl (Or.inl ⟨_, rfl⟩) dX2_take_95 ?_
        refine J_iload_n dX2_take_98 rfl rfl ?_
        refine K_callV_i (As := [vR (some 33), vI x2]) mcX3_follow mlX2_43 rfl (by decide) (sq3_0 h1) (ct3_follow G t N a1 33 x2 h1 (by decide) S8) rfl rfl (Nat.le_of_ble_eq_true rfl) (by decide) (Nat.le_of_ble_eq_true rfl) dX2_take_99 (fun q9 S10 => ?_)
        refine J_istore [some (vR (some 32)), some (vR (some a1)), some (vI x2), some (vI x3), some (vI x4), some (vR (some 6)), some (vI q9), some (vI x7)] dX2_take_102 (Nat.le_of_ble_eq_true rfl) rfl rfl ?_
        refine J_iinc (v := x7 + nI 1) [some (vR (some 32)), some (vR (some a1)), some (vI x2), some (vI x3), some (vI x4), some (vR (some 6)), some (vI q9), some (vI (x7 + nI 1))] dX2_take_104 rfl rfl (Nat.le_of_ble_eq_true rfl) rfl rfl ?_
        refine J_goto (tgt := 51) dX2_take_107 (by decide) ?_
        exact J_sb (ih q9 (x7 + nI 1) S10) (And.intro rfl (And.intro rfl (And.intro rfl (And.intro rfl (And.intro rfl (And.intro rfl (And.intro rfl (And.intro rfl (trivial)))))))))
set_option maxRecDepth 100000 in
set_option maxHeartbeats 4000000 in
theorem ct2_take (G : Gm) (t : Nat) (N : Nat) (a1 : Nat) (x2 : Int32) (x3 : Int32) (x4 : Int32) (h1 : a1 ∈ ad3) (S : St) : Ct G YX2_take yX2_take 6 0 0 (fV t) (f2_take N a1 x2 x3 x4 S) [vR (some 32), vR (some a1), vI x2, vI x3, vI x4, vR (some 6)] (MM t S) := by
  refine Ct_of_J [some (vR (some 32)), some (vR (some a1)), some (vI x2), some (vI x3), some (vI x4), some (vR (some 6)), none, none] (by decide) rfl (fun h => by cases h) (Nat.le_of_ble_eq_true rfl) (And.intro rfl (And.intro rfl (And.intro rfl (And.intro rfl (And.intro rfl (And.intro rfl (trivial))))))) ?_
  unfold f2_take
  refine J_aload_n dX2_take_0 rfl rfl ?_
  refine J_iconst (v := nI 0) dX2_take_1 (by decide) ?_
  refine K_putI cf2 flX2_21 (sq 32 rfl) rfl dX2_take_2 ?_
  refine J_ltS (fun S1 _ => ?_)
  refine J_aload_n dX2_take_5 rfl rfl ?_
  refine J_iconst (v := nI 0) dX2_take_6 (by decide) ?_
  refine K_putI cf2 flX2_25 (sq 32 rfl) rfl dX2_take_7 ?_
  refine J_ltS (fun S2 _ => ?_)
  refine J_aload_n dX2_take_10 rfl rfl ?_
  refine J_iconst (v := nI 0) dX2_take_11 (by decide) ?_
  refine K_putI cf2 flX2_28 (sq 32 rfl) rfl dX2_take_12 ?_
  refine J_ltS (fun S3 _ => ?_)
  refine J_aload_n dX2_take_15 rfl rfl ?_
  refine J_iconst (v := nI 0) dX2_take_16 (by decide) ?_
  refine K_putI cf2 flX2_31 (sq 32 rfl) rfl dX2_take_17 ?_
  refine J_ltS (fun S4 _ => ?_)
  refine J_aload_n dX2_take_20 rfl rfl ?_
  refine J_iconst (v := nI 0) dX2_take_21 (by decide) ?_
  refine K_putI cf2 flX2_34 (sq 32 rfl) rfl dX2_take_22 ?_
  refine J_ltS (fun S5 _ => ?_)
  refine J_aload_n dX2_take_25 rfl rfl ?_
  refine J_iconst (v := nI 0) dX2_take_26 (by decide) ?_
  refine K_putI cf2 flX2_37 (sq 32 rfl) rfl dX2_take_27 ?_
  refine J_ltS (fun S6 _ => ?_)
  refine J_aload_n dX2_take_30 rfl rfl ?_
  refine K_getR (r := some (33)) cf2 flX2_12 (sq 32 rfl) rfl (Or.inl ⟨_, rfl⟩) dX2_take_31 ?_
  refine K_callV_v (As := []) mcX6_beEmpty mlX2_40 rfl (by decide) (sq 33 rfl) (ct6_beEmpty G t 33 (by decide) S6) rfl rfl (Nat.le_of_ble_eq_true rfl) (by decide) (Nat.le_of_ble_eq_true rfl) dX2_take_34 (fun q7 S8 => ?_)
  refine J_aload_n dX2_take_37 rfl rfl ?_
  refine J_aload_n dX2_take_38 rfl rfl ?_
  refine K_getR (r := some (33)) cf2 flX2_12 (sq 32 rfl) rfl (Or.inl ⟨_, rfl⟩) dX2_take_39 ?_
  refine J_iload_n dX2_take_42 rfl rfl ?_
  refine K_callV_i (As := [vR (some 33), vI x2]) mcX3_follow mlX2_43 rfl (by decide) (sq3_0 h1) (ct3_follow G t N a1 33 x2 h1 (by decide) S8) rfl rfl (Nat.le_of_ble_eq_true rfl) (by decide) (Nat.le_of_ble_eq_true rfl) dX2_take_43 (fun q9 S10 => ?_)
  refine J_istore [some (vR (some 32)), some (vR (some a1)), some (vI x2), some (vI x3), some (vI x4), some (vR (some 6)), some (vI q9), none] dX2_take_46 (Nat.le_of_ble_eq_true rfl) rfl rfl ?_
  refine J_iconst (v := nI 0) dX2_take_48 (by decide) ?_
  refine J_istore [some (vR (some 32)), some (vR (some a1)), some (vI x2), some (vI x3), some (vI x4), some (vR (some 6)), some (vI q9), some (vI (nI 0))] dX2_take_49 (Nat.le_of_ble_eq_true rfl) rfl rfl ?_
  exact J_sb (t2_take_h51 G t N a1 x2 x3 x4 h1 N q9 (nI 0) S10) (And.intro rfl (And.intro rfl (And.intro rfl (And.intro rfl (And.intro rfl (And.intro rfl (And.intro rfl (And.intro rfl (trivial)))))))))
theorem dX2_programs_0 : decode cX2_programs 0 = .ok (.aload_n 0, 1) := by decide +kernel
theorem dX2_programs_1 : decode cX2_programs 1 = .ok (.getfield 21, 3) := by decide +kernel
theorem dX2_programs_4 : decode cX2_programs 4 = .ok (.aload_n 0, 1) := by decide +kernel
theorem dX2_programs_5 : decode cX2_programs 5 = .ok (.getfield 25, 3) := by decide +kernel
theorem dX2_programs_8 : decode cX2_programs 8 = .ok (.iadd, 1) := by decide +kernel
theorem dX2_programs_9 : decode cX2_programs 9 = .ok (.aload_n 0, 1) := by decide +kernel
theorem dX2_programs_10 : decode cX2_programs 10 = .ok (.getfield 28, 3) := by decide +kernel
theorem dX2_programs_13 : decode cX2_programs 13 = .ok (.iadd, 1) := by decide +kernel
theorem dX2_programs_14 : decode cX2_programs 14 = .ok (.ireturn, 1) := by decide +kernel
set_option maxRecDepth 100000 in
set_option maxHeartbeats 4000000 in
theorem ct2_programs (G : Gm) (t : Nat)    (S : St) : Ct G YX2_programs yX2_programs 1 0 0 (fI t) (f2_programs S) [vR (some 32)] (MM t S) := by
  refine Ct_of_J [some (vR (some 32))] (by decide) rfl (fun h => by cases h) (Nat.le_of_ble_eq_true rfl) (And.intro rfl (trivial)) ?_
  unfold f2_programs
  refine J_aload_n dX2_programs_0 rfl rfl ?_
  refine K_getI cf2 flX2_21 (sq 32 rfl) (Or.inl rfl) dX2_programs_1 ?_
  refine J_aload_n dX2_programs_4 rfl rfl ?_
  refine K_getI cf2 flX2_25 (sq 32 rfl) (Or.inl rfl) dX2_programs_5 ?_
  refine J_iadd dX2_programs_8 ?_
  refine J_aload_n dX2_programs_9 rfl rfl ?_
  refine K_getI cf2 flX2_28 (sq 32 rfl) (Or.inl rfl) dX2_programs_10 ?_
  refine J_iadd dX2_programs_13 ?_
  exact J_ireturn rfl (Nat.le_refl _) (Nat.le_refl _) rfl dX2_programs_14
theorem dX2_ended_0 : decode cX2_ended 0 = .ok (.aload_n 0, 1) := by decide +kernel
theorem dX2_ended_1 : decode cX2_ended 1 = .ok (.getfield 21, 3) := by decide +kernel
theorem dX2_ended_4 : decode cX2_ended 4 = .ok (.ireturn, 1) := by decide +kernel
set_option maxRecDepth 100000 in
set_option maxHeartbeats 4000000 in
theorem ct2_ended (G : Gm) (t : Nat)    (S : St) : Ct G YX2_ended yX2_ended 1 0 0 (fI t) (f2_ended S) [vR (some 32)] (MM t S) := by
  refine Ct_of_J [some (vR (some 32))] (by decide) rfl (fun h => by cases h) (Nat.le_of_ble_eq_true rfl) (And.intro rfl (trivial)) ?_
  unfold f2_ended
  refine J_aload_n dX2_ended_0 rfl rfl ?_
  refine K_getI cf2 flX2_21 (sq 32 rfl) (Or.inl rfl) dX2_ended_1 ?_
  exact J_ireturn rfl (Nat.le_refl _) (Nat.le_refl _) rfl dX2_ended_4
theorem dX2_hanging_0 : decode cX2_hanging 0 = .ok (.aload_n 0, 1) := by decide +kernel
theorem dX2_hanging_1 : decode cX2_hanging 1 = .ok (.getfield 25, 3) := by decide +kernel
theorem dX2_hanging_4 : decode cX2_hanging 4 = .ok (.ireturn, 1) := by decide +kernel
set_option maxRecDepth 100000 in
set_option maxHeartbeats 4000000 in
theorem ct2_hanging (G : Gm) (t : Nat)    (S : St) : Ct G YX2_hanging yX2_hanging 1 0 0 (fI t) (f2_hanging S) [vR (some 32)] (MM t S) := by
  refine Ct_of_J [some (vR (some 32))] (by decide) rfl (fun h => by cases h) (Nat.le_of_ble_eq_true rfl) (And.intro rfl (trivial)) ?_
  unfold f2_hanging
  refine J_aload_n dX2_hanging_0 rfl rfl ?_
  refine K_getI cf2 flX2_25 (sq 32 rfl) (Or.inl rfl) dX2_hanging_1 ?_
  exact J_ireturn rfl (Nat.le_refl _) (Nat.le_refl _) rfl dX2_hanging_4
theorem dX2_unsettled_0 : decode cX2_unsettled 0 = .ok (.aload_n 0, 1) := by decide +kernel
theorem dX2_unsettled_1 : decode cX2_unsettled 1 = .ok (.getfield 28, 3) := by decide +kernel
theorem dX2_unsettled_4 : decode cX2_unsettled 4 = .ok (.ireturn, 1) := by decide +kernel
set_option maxRecDepth 100000 in
set_option maxHeartbeats 4000000 in
theorem ct2_unsettled (G : Gm) (t : Nat)    (S : St) : Ct G YX2_unsettled yX2_unsettled 1 0 0 (fI t) (f2_unsettled S) [vR (some 32)] (MM t S) := by
  refine Ct_of_J [some (vR (some 32))] (by decide) rfl (fun h => by cases h) (Nat.le_of_ble_eq_true rfl) (And.intro rfl (trivial)) ?_
  unfold f2_unsettled
  refine J_aload_n dX2_unsettled_0 rfl rfl ?_
  refine K_getI cf2 flX2_28 (sq 32 rfl) (Or.inl rfl) dX2_unsettled_1 ?_
  exact J_ireturn rfl (Nat.le_refl _) (Nat.le_refl _) rfl dX2_unsettled_4
theorem dX2_mostSteps_0 : decode cX2_mostSteps 0 = .ok (.aload_n 0, 1) := by decide +kernel
theorem dX2_mostSteps_1 : decode cX2_mostSteps 1 = .ok (.getfield 31, 3) := by decide +kernel
theorem dX2_mostSteps_4 : decode cX2_mostSteps 4 = .ok (.ireturn, 1) := by decide +kernel
set_option maxRecDepth 100000 in
set_option maxHeartbeats 4000000 in
theorem ct2_mostSteps (G : Gm) (t : Nat)    (S : St) : Ct G YX2_mostSteps yX2_mostSteps 1 0 0 (fI t) (f2_mostSteps S) [vR (some 32)] (MM t S) := by
  refine Ct_of_J [some (vR (some 32))] (by decide) rfl (fun h => by cases h) (Nat.le_of_ble_eq_true rfl) (And.intro rfl (trivial)) ?_
  unfold f2_mostSteps
  refine J_aload_n dX2_mostSteps_0 rfl rfl ?_
  refine K_getI cf2 flX2_31 (sq 32 rfl) (Or.inl rfl) dX2_mostSteps_1 ?_
  exact J_ireturn rfl (Nat.le_refl _) (Nat.le_refl _) rfl dX2_mostSteps_4
theorem dX2_slowest_0 : decode cX2_slowest 0 = .ok (.aload_n 0, 1) := by decide +kernel
theorem dX2_slowest_1 : decode cX2_slowest 1 = .ok (.getfield 18, 3) := by decide +kernel
theorem dX2_slowest_4 : decode cX2_slowest 4 = .ok (.areturn, 1) := by decide +kernel
set_option maxRecDepth 100000 in
set_option maxHeartbeats 4000000 in
theorem ct2_slowest (G : Gm) (t : Nat)    (S : St) : Ct G YX2_slowest yX2_slowest 1 0 0 (fR t) (f2_slowest S) [vR (some 32)] (MM t S) := by
  refine Ct_of_J [some (vR (some 32))] (by decide) rfl (fun h => by cases h) (Nat.le_of_ble_eq_true rfl) (And.intro rfl (trivial)) ?_
  unfold f2_slowest
  refine J_aload_n dX2_slowest_0 rfl rfl ?_
  refine K_getR (r := some (35)) cf2 flX2_18 (sq 32 rfl) rfl (Or.inl ⟨_, rfl⟩) dX2_slowest_1 ?_
  exact J_areturn rfl (Nat.le_refl _) (Nat.le_refl _) rfl dX2_slowest_4
theorem dX2_share_0 : decode cX2_share 0 = .ok (.aload_n 0, 1) := by decide +kernel
theorem dX2_share_1 : decode cX2_share 1 = .ok (.getfield 34, 3) := by decide +kernel
theorem dX2_share_4 : decode cX2_share 4 = .ok (.ireturn, 1) := by decide +kernel
set_option maxRecDepth 100000 in
set_option maxHeartbeats 4000000 in
theorem ct2_share (G : Gm) (t : Nat)    (S : St) : Ct G YX2_share yX2_share 1 0 0 (fI t) (f2_share S) [vR (some 32)] (MM t S) := by
  refine Ct_of_J [some (vR (some 32))] (by decide) rfl (fun h => by cases h) (Nat.le_of_ble_eq_true rfl) (And.intro rfl (trivial)) ?_
  unfold f2_share
  refine J_aload_n dX2_share_0 rfl rfl ?_
  refine K_getI cf2 flX2_34 (sq 32 rfl) (Or.inl rfl) dX2_share_1 ?_
  exact J_ireturn rfl (Nat.le_refl _) (Nat.le_refl _) rfl dX2_share_4
theorem dX2_sureBits_0 : decode cX2_sureBits 0 = .ok (.iconst 1, 1) := by decide +kernel
theorem dX2_sureBits_1 : decode cX2_sureBits 1 = .ok (.iload_n 1, 1) := by decide +kernel
theorem dX2_sureBits_2 : decode cX2_sureBits 2 = .ok (.ishl, 1) := by decide +kernel
theorem dX2_sureBits_3 : decode cX2_sureBits 3 = .ok (.iconst 1, 1) := by decide +kernel
theorem dX2_sureBits_4 : decode cX2_sureBits 4 = .ok (.isub, 1) := by decide +kernel
theorem dX2_sureBits_5 : decode cX2_sureBits 5 = .ok (.istore_n 2, 1) := by decide +kernel
theorem dX2_sureBits_6 : decode cX2_sureBits 6 = .ok (.aload_n 0, 1) := by decide +kernel
theorem dX2_sureBits_7 : decode cX2_sureBits 7 = .ok (.getfield 34, 3) := by decide +kernel
theorem dX2_sureBits_10 : decode cX2_sureBits 10 = .ok (.iload_n 2, 1) := by decide +kernel
theorem dX2_sureBits_11 : decode cX2_sureBits 11 = .ok (.invokestatic 75, 3) := by decide +kernel
theorem dX2_sureBits_14 : decode cX2_sureBits 14 = .ok (.istore_n 3, 1) := by decide +kernel
theorem dX2_sureBits_15 : decode cX2_sureBits 15 = .ok (.aload_n 0, 1) := by decide +kernel
theorem dX2_sureBits_16 : decode cX2_sureBits 16 = .ok (.getfield 34, 3) := by decide +kernel
theorem dX2_sureBits_19 : decode cX2_sureBits 19 = .ok (.aload_n 0, 1) := by decide +kernel
theorem dX2_sureBits_20 : decode cX2_sureBits 20 = .ok (.getfield 37, 3) := by decide +kernel
theorem dX2_sureBits_23 : decode cX2_sureBits 23 = .ok (.iadd, 1) := by decide +kernel
theorem dX2_sureBits_24 : decode cX2_sureBits 24 = .ok (.iload_n 2, 1) := by decide +kernel
theorem dX2_sureBits_25 : decode cX2_sureBits 25 = .ok (.invokestatic 75, 3) := by decide +kernel
theorem dX2_sureBits_28 : decode cX2_sureBits 28 = .ok (.istore 4, 2) := by decide +kernel
theorem dX2_sureBits_30 : decode cX2_sureBits 30 = .ok (.iconst 0, 1) := by decide +kernel
theorem dX2_sureBits_31 : decode cX2_sureBits 31 = .ok (.istore 5, 2) := by decide +kernel
theorem dX2_sureBits_33 : decode cX2_sureBits 33 = .ok (.iload 5, 2) := by decide +kernel
theorem dX2_sureBits_35 : decode cX2_sureBits 35 = .ok (.iload_n 1, 1) := by decide +kernel
theorem dX2_sureBits_36 : decode cX2_sureBits 36 = .ok (.if_icmp .ge 29, 3) := by decide +kernel
theorem dX2_sureBits_39 : decode cX2_sureBits 39 = .ok (.iload_n 3, 1) := by decide +kernel
theorem dX2_sureBits_40 : decode cX2_sureBits 40 = .ok (.iload_n 1, 1) := by decide +kernel
theorem dX2_sureBits_41 : decode cX2_sureBits 41 = .ok (.iconst 1, 1) := by decide +kernel
theorem dX2_sureBits_42 : decode cX2_sureBits 42 = .ok (.isub, 1) := by decide +kernel
theorem dX2_sureBits_43 : decode cX2_sureBits 43 = .ok (.iload 5, 2) := by decide +kernel
theorem dX2_sureBits_45 : decode cX2_sureBits 45 = .ok (.isub, 1) := by decide +kernel
theorem dX2_sureBits_46 : decode cX2_sureBits 46 = .ok (.ishr, 1) := by decide +kernel
theorem dX2_sureBits_47 : decode cX2_sureBits 47 = .ok (.iload 4, 2) := by decide +kernel
theorem dX2_sureBits_49 : decode cX2_sureBits 49 = .ok (.iload_n 1, 1) := by decide +kernel
theorem dX2_sureBits_50 : decode cX2_sureBits 50 = .ok (.iconst 1, 1) := by decide +kernel
theorem dX2_sureBits_51 : decode cX2_sureBits 51 = .ok (.isub, 1) := by decide +kernel
theorem dX2_sureBits_52 : decode cX2_sureBits 52 = .ok (.iload 5, 2) := by decide +kernel
theorem dX2_sureBits_54 : decode cX2_sureBits 54 = .ok (.isub, 1) := by decide +kernel
theorem dX2_sureBits_55 : decode cX2_sureBits 55 = .ok (.ishr, 1) := by decide +kernel
theorem dX2_sureBits_56 : decode cX2_sureBits 56 = .ok (.if_icmp .ne 9, 3) := by decide +kernel
theorem dX2_sureBits_59 : decode cX2_sureBits 59 = .ok (.iinc 5 1, 3) := by decide +kernel
theorem dX2_sureBits_62 : decode cX2_sureBits 62 = .ok (.goto (-29), 3) := by decide +kernel
theorem dX2_sureBits_65 : decode cX2_sureBits 65 = .ok (.iload 5, 2) := by decide +kernel
theorem dX2_sureBits_67 : decode cX2_sureBits 67 = .ok (.ireturn, 1) := by decide +kernel
set_option maxRecDepth 100000 in
set_option maxHeartbeats 4000000 in
theorem t2_sureBits_h33 (G : Gm) (t : Nat) (N : Nat) (x1 : Int32) (x3 : Int32) (x4 : Int32)    : ∀ (n : Nat) (x5 : Int32) (S : St), J G YX2_sureBits 1 0 0 (fI t) 0 0 33 [none, some (vI x1), none, some (vI x3), some (vI x4), some (vI x5)] [] (MM t S) (f2_sureBits_h33 N x1 x3 x4 n x5 S) := by
  intro n
  induction n with
  | zero => intro x5 S; exact J_none
  | succ n ih =>
    intro x5 S
    rw [f2_sureBits_h33]
    refine J_iload dX2_sureBits_33 rfl ?_
    refine J_iload_n dX2_sureBits_35 rfl rfl ?_
    refine J_icmp_ge (tgt := 65) dX2_sureBits_36 (by decide) (fun z1 => ?_) (fun z1 => ?_)
    · refine J_iload dX2_sureBits_65 rfl ?_
      exact J_ireturn rfl (Nat.le_refl _) (Nat.le_refl _) rfl dX2_sureBits_67
    · refine J_iload_n dX2_sureBits_39 rfl rfl ?_
      refine J_iload_n dX2_sureBits_40 rfl rfl ?_
      refine J_iconst (v := nI 1) dX2_sureBits_41 (by decide) ?_
      refine J_isub dX2_sureBits_42 ?_
      refine J_iload dX2_sureBits_43 rfl ?_
      refine J_isub dX2_sureBits_45 ?_
      refine J_ishr dX2_sureBits_46 ?_
      refine J_iload dX2_sureBits_47 rfl ?_
      refine J_iload_n dX2_sureBits_49 rfl rfl ?_
      refine J_iconst (v := nI 1) dX2_sureBits_50 (by decide) ?_
      refine J_isub dX2_sureBits_51 ?_
      refine J_iload dX2_sureBits_52 rfl ?_
      refine J_isub dX2_sureBits_54 ?_
      refine J_ishr dX2_sureBits_55 ?_
      refine J_icmp_ne (tgt := 65) dX2_sureBits_56 (by decide) (fun z2 => ?_) (fun z2 => ?_)
      · refine J_iinc (v := x5 + nI 1) [none, some (vI x1), none, some (vI x3), some (vI x4), some (vI (x5 + nI 1))] dX2_sureBits_59 rfl rfl (Nat.le_of_ble_eq_true rfl) rfl rfl ?_
        refine J_goto (tgt := 33) dX2_sureBits_62 (by decide) ?_
        exact J_sb (ih (x5 + nI 1) S) (And.intro rfl (And.intro rfl (And.intro rfl (And.intro rfl (trivial)))))
      · refine J_iload dX2_sureBits_65 rfl ?_
        exact J_ireturn rfl (Nat.le_refl _) (Nat.le_refl _) rfl dX2_sureBits_67
set_option maxRecDepth 100000 in
set_option maxHeartbeats 4000000 in
theorem ct2_sureBits (G : Gm) (t : Nat) (N : Nat) (x1 : Int32)  (S : St) : Ct G YX2_sureBits yX2_sureBits 1 0 0 (fI t) (f2_sureBits N x1 S) [vR (some 32), vI x1] (MM t S) := by
  refine Ct_of_J [some (vR (some 32)), some (vI x1), none, none, none, none] (by decide) rfl (fun h => by cases h) (Nat.le_of_ble_eq_true rfl) (And.intro rfl (And.intro rfl (trivial))) ?_
  unfold f2_sureBits
  refine J_iconst (v := nI 1) dX2_sureBits_0 (by decide) ?_
  refine J_iload_n dX2_sureBits_1 rfl rfl ?_
  refine J_ishl dX2_sureBits_2 ?_
  refine J_iconst (v := nI 1) dX2_sureBits_3 (by decide) ?_
  refine J_isub dX2_sureBits_4 ?_
  refine J_ltI (fun v1 _ => ?_)
  refine J_istore_n [some (vR (some 32)), some (vI x1), some (vI v1), none, none, none] dX2_sureBits_5 rfl (Nat.le_of_ble_eq_true rfl) rfl rfl ?_
  refine J_aload_n dX2_sureBits_6 rfl rfl ?_
  refine K_getI cf2 flX2_34 (sq 32 rfl) (Or.inl rfl) dX2_sureBits_7 ?_
  refine J_iload_n dX2_sureBits_10 rfl rfl ?_
  refine J_mmin mlX2_75 (Nat.le_of_ble_eq_true rfl) (by decide) dX2_sureBits_11 ?_
  refine J_ltI (fun v2 _ => ?_)
  refine J_istore_n [some (vR (some 32)), some (vI x1), some (vI v1), some (vI v2), none, none] dX2_sureBits_14 rfl (Nat.le_of_ble_eq_true rfl) rfl rfl ?_
  refine J_aload_n dX2_sureBits_15 rfl rfl ?_
  refine K_getI cf2 flX2_34 (sq 32 rfl) (Or.inl rfl) dX2_sureBits_16 ?_
  refine J_aload_n dX2_sureBits_19 rfl rfl ?_
  refine K_getI cf2 flX2_37 (sq 32 rfl) (Or.inl rfl) dX2_sureBits_20 ?_
  refine J_iadd dX2_sureBits_23 ?_
  refine J_iload_n dX2_sureBits_24 rfl rfl ?_
  refine J_mmin mlX2_75 (Nat.le_of_ble_eq_true rfl) (by decide) dX2_sureBits_25 ?_
  refine J_ltI (fun v3 _ => ?_)
  refine J_istore [some (vR (some 32)), some (vI x1), some (vI v1), some (vI v2), some (vI v3), none] dX2_sureBits_28 (Nat.le_of_ble_eq_true rfl) rfl rfl ?_
  refine J_iconst (v := nI 0) dX2_sureBits_30 (by decide) ?_
  refine J_istore [some (vR (some 32)), some (vI x1), some (vI v1), some (vI v2), some (vI v3), some (vI (nI 0))] dX2_sureBits_31 (Nat.le_of_ble_eq_true rfl) rfl rfl ?_
  exact J_sb (t2_sureBits_h33 G t N x1 v2 v3 N (nI 0) S) (And.intro rfl (And.intro rfl (And.intro rfl (And.intro rfl (trivial)))))
theorem dX5_takeVote_0 : decode cX5_takeVote 0 = .ok (.aload_n 1, 1) := by decide +kernel
theorem dX5_takeVote_1 : decode cX5_takeVote 1 = .ok (.aload_n 2, 1) := by decide +kernel
theorem dX5_takeVote_2 : decode cX5_takeVote 2 = .ok (.invokevirtual 69, 3) := by decide +kernel
theorem dX5_takeVote_5 : decode cX5_takeVote 5 = .ok (.istore 4, 2) := by decide +kernel
theorem dX5_takeVote_7 : decode cX5_takeVote 7 = .ok (.iload 4, 2) := by decide +kernel
theorem dX5_takeVote_9 : decode cX5_takeVote 9 = .ok (.aload_n 2, 1) := by decide +kernel
theorem dX5_takeVote_10 : decode cX5_takeVote 10 = .ok (.invokevirtual 73, 3) := by decide +kernel
theorem dX5_takeVote_13 : decode cX5_takeVote 13 = .ok (.if_icmp .ne 59, 3) := by decide +kernel
theorem dX5_takeVote_16 : decode cX5_takeVote 16 = .ok (.aload_n 1, 1) := by decide +kernel
theorem dX5_takeVote_17 : decode cX5_takeVote 17 = .ok (.invokevirtual 79, 3) := by decide +kernel
theorem dX5_takeVote_20 : decode cX5_takeVote 20 = .ok (.iload 4, 2) := by decide +kernel
theorem dX5_takeVote_22 : decode cX5_takeVote 22 = .ok (.if_icmp .le 50, 3) := by decide +kernel
theorem dX5_takeVote_25 : decode cX5_takeVote 25 = .ok (.aload_n 1, 1) := by decide +kernel
theorem dX5_takeVote_26 : decode cX5_takeVote 26 = .ok (.iload 4, 2) := by decide +kernel
theorem dX5_takeVote_28 : decode cX5_takeVote 28 = .ok (.invokevirtual 82, 3) := by decide +kernel
theorem dX5_takeVote_31 : decode cX5_takeVote 31 = .ok (.istore 5, 2) := by decide +kernel
theorem dX5_takeVote_33 : decode cX5_takeVote 33 = .ok (.iload 5, 2) := by decide +kernel
theorem dX5_takeVote_35 : decode cX5_takeVote 35 = .ok (.ifCond .lt 34, 3) := by decide +kernel
theorem dX5_takeVote_38 : decode cX5_takeVote 38 = .ok (.iload 5, 2) := by decide +kernel
theorem dX5_takeVote_40 : decode cX5_takeVote 40 = .ok (.aload_n 0, 1) := by decide +kernel
theorem dX5_takeVote_41 : decode cX5_takeVote 41 = .ok (.getfield 21, 3) := by decide +kernel
theorem dX5_takeVote_44 : decode cX5_takeVote 44 = .ok (.arraylength, 1) := by decide +kernel
theorem dX5_takeVote_45 : decode cX5_takeVote 45 = .ok (.if_icmp .ge 24, 3) := by decide +kernel
theorem dX5_takeVote_48 : decode cX5_takeVote 48 = .ok (.aload_n 0, 1) := by decide +kernel
theorem dX5_takeVote_49 : decode cX5_takeVote 49 = .ok (.getfield 21, 3) := by decide +kernel
theorem dX5_takeVote_52 : decode cX5_takeVote 52 = .ok (.iload 5, 2) := by decide +kernel
theorem dX5_takeVote_54 : decode cX5_takeVote 54 = .ok (.dup2, 1) := by decide +kernel
theorem dX5_takeVote_55 : decode cX5_takeVote 55 = .ok (.iaload, 1) := by decide +kernel
theorem dX5_takeVote_56 : decode cX5_takeVote 56 = .ok (.iload_n 3, 1) := by decide +kernel
theorem dX5_takeVote_57 : decode cX5_takeVote 57 = .ok (.iadd, 1) := by decide +kernel
theorem dX5_takeVote_58 : decode cX5_takeVote 58 = .ok (.iastore, 1) := by decide +kernel
theorem dX5_takeVote_59 : decode cX5_takeVote 59 = .ok (.aload_n 0, 1) := by decide +kernel
theorem dX5_takeVote_60 : decode cX5_takeVote 60 = .ok (.dup, 1) := by decide +kernel
theorem dX5_takeVote_61 : decode cX5_takeVote 61 = .ok (.getfield 25, 3) := by decide +kernel
theorem dX5_takeVote_64 : decode cX5_takeVote 64 = .ok (.iload_n 3, 1) := by decide +kernel
theorem dX5_takeVote_65 : decode cX5_takeVote 65 = .ok (.iadd, 1) := by decide +kernel
theorem dX5_takeVote_66 : decode cX5_takeVote 66 = .ok (.putfield 25, 3) := by decide +kernel
theorem dX5_takeVote_69 : decode cX5_takeVote 69 = .ok (.goto 30, 3) := by decide +kernel
theorem dX5_takeVote_72 : decode cX5_takeVote 72 = .ok (.iload 4, 2) := by decide +kernel
theorem dX5_takeVote_74 : decode cX5_takeVote 74 = .ok (.aload_n 1, 1) := by decide +kernel
theorem dX5_takeVote_75 : decode cX5_takeVote 75 = .ok (.invokevirtual 79, 3) := by decide +kernel
theorem dX5_takeVote_78 : decode cX5_takeVote 78 = .ok (.if_icmp .ne 21, 3) := by decide +kernel
theorem dX5_takeVote_81 : decode cX5_takeVote 81 = .ok (.aload_n 1, 1) := by decide +kernel
theorem dX5_takeVote_82 : decode cX5_takeVote 82 = .ok (.invokevirtual 86, 3) := by decide +kernel
theorem dX5_takeVote_85 : decode cX5_takeVote 85 = .ok (.iconst 2, 1) := by decide +kernel
theorem dX5_takeVote_86 : decode cX5_takeVote 86 = .ok (.if_icmp .ne 13, 3) := by decide +kernel
theorem dX5_takeVote_89 : decode cX5_takeVote 89 = .ok (.aload_n 0, 1) := by decide +kernel
theorem dX5_takeVote_90 : decode cX5_takeVote 90 = .ok (.dup, 1) := by decide +kernel
theorem dX5_takeVote_91 : decode cX5_takeVote 91 = .ok (.getfield 29, 3) := by decide +kernel
theorem dX5_takeVote_94 : decode cX5_takeVote 94 = .ok (.iload_n 3, 1) := by decide +kernel
theorem dX5_takeVote_95 : decode cX5_takeVote 95 = .ok (.iadd, 1) := by decide +kernel
theorem dX5_takeVote_96 : decode cX5_takeVote 96 = .ok (.putfield 29, 3) := by decide +kernel
theorem dX5_takeVote_99 : decode cX5_takeVote 99 = .ok (.return_, 1) := by decide +kernel
set_option maxRecDepth 100000 in
set_option maxHeartbeats 4000000 in
theorem t5_takeVote_j72 (G : Gm) (t : Nat) (N : Nat) (x3 : Int32) (x4 : Int32)    : ∀  (S : St), J G YX5_takeVote 3 0 0 (fV t) 0 0 72 [some (vR (some 26)), some (vR (some 6)), none, some (vI x3), some (vI x4), none] [] (MM t S) (f5_takeVote_j72 N x3 x4 S) := by
  intro S
  unfold f5_takeVote_j72
  refine J_iload dX5_takeVote_72 rfl ?_
  refine J_aload_n dX5_takeVote_74 rfl rfl ?_
  refine K_callV_i (As := []) mcX4_saidCount mlX5_79 rfl (by decide) (sq 6 rfl) (ct4_saidCount G t S) rfl rfl (Nat.le_of_ble_eq_true rfl) (by decide) (Nat.le_of_ble_eq_true rfl) dX5_takeVote_75 (fun q1 S2 => ?_)
  refine J_icmp_ne (tgt := 99) dX5_takeVote_78 (by decide) (fun z3 => ?_) (fun z3 => ?_)
  · refine J_aload_n dX5_takeVote_81 rfl rfl ?_
    refine K_callV_i (As := []) mcX4_state mlX5_86 rfl (by decide) (sq 6 rfl) (ct4_state G t S2) rfl rfl (Nat.le_of_ble_eq_true rfl) (by decide) (Nat.le_of_ble_eq_true rfl) dX5_takeVote_82 (fun q4 S5 => ?_)
    refine J_iconst (v := nI 2) dX5_takeVote_85 (by decide) ?_
    refine J_icmp_ne (tgt := 99) dX5_takeVote_86 (by decide) (fun z6 => ?_) (fun z6 => ?_)
    · refine J_aload_n dX5_takeVote_89 rfl rfl ?_
      refine J_dup dX5_takeVote_90 rfl ?_
      refine K_getI cf5 flX5_29 (sq 26 rfl) (Or.inl rfl) dX5_takeVote_91 ?_
      refine J_iload_n dX5_takeVote_94 rfl rfl ?_
      refine J_iadd dX5_takeVote_95 ?_
      refine K_putI cf5 flX5_29 (sq 26 rfl) rfl dX5_takeVote_96 ?_
      refine J_ltS (fun S7 _ => ?_)
      exact J_return rfl (Nat.le_refl _) (Nat.le_refl _) rfl dX5_takeVote_99
    · exact J_return rfl (Nat.le_refl _) (Nat.le_refl _) rfl dX5_takeVote_99
  · exact J_return rfl (Nat.le_refl _) (Nat.le_refl _) rfl dX5_takeVote_99
set_option maxRecDepth 100000 in
set_option maxHeartbeats 4000000 in
theorem ct5_takeVote (G : Gm) (t : Nat) (N : Nat) (x3 : Int32)  (S : St) : Ct G YX5_takeVote yX5_takeVote 3 0 0 (fV t) (f5_takeVote N x3 S) [vR (some 26), vR (some 6), vR (some 24), vI x3] (MM t S) := by
  refine Ct_of_J [some (vR (some 26)), some (vR (some 6)), some (vR (some 24)), some (vI x3), none, none] (by decide) rfl (fun h => by cases h) (Nat.le_of_ble_eq_true rfl) (And.intro rfl (And.intro rfl (And.intro rfl (And.intro rfl (trivial))))) ?_
  unfold f5_takeVote
  refine J_aload_n dX5_takeVote_0 rfl rfl ?_
  refine J_aload_n dX5_takeVote_1 rfl rfl ?_
  refine K_callV_i (As := [vR (some 24)]) mcX4_likeTold mlX5_69 rfl (by decide) (sq 6 rfl) (ct4_likeTold G t N S) rfl rfl (Nat.le_of_ble_eq_true rfl) (by decide) (Nat.le_of_ble_eq_true rfl) dX5_takeVote_2 (fun q1 S2 => ?_)
  refine J_istore [some (vR (some 26)), some (vR (some 6)), some (vR (some 24)), some (vI x3), some (vI q1), none] dX5_takeVote_5 (Nat.le_of_ble_eq_true rfl) rfl rfl ?_
  refine J_iload dX5_takeVote_7 rfl ?_
  refine J_aload_n dX5_takeVote_9 rfl rfl ?_
  refine K_callV_i (As := []) mcX10_length mlX5_73 rfl (by decide) (sq 24 rfl) (ct10_length G t S2) rfl rfl (Nat.le_of_ble_eq_true rfl) (by decide) (Nat.le_of_ble_eq_true rfl) dX5_takeVote_10 (fun q3 S4 => ?_)
  refine J_icmp_ne (tgt := 72) dX5_takeVote_13 (by decide) (fun z5 => ?_) (fun z5 => ?_)
  · refine J_aload_n dX5_takeVote_16 rfl rfl ?_
    refine K_callV_i (As := []) mcX4_saidCount mlX5_79 rfl (by decide) (sq 6 rfl) (ct4_saidCount G t S4) rfl rfl (Nat.le_of_ble_eq_true rfl) (by decide) (Nat.le_of_ble_eq_true rfl) dX5_takeVote_17 (fun q6 S7 => ?_)
    refine J_iload dX5_takeVote_20 rfl ?_
    refine J_icmp_le (tgt := 72) dX5_takeVote_22 (by decide) (fun z8 => ?_) (fun z8 => ?_)
    · exact J_sb (t5_takeVote_j72 G t N x3 q1 S7) (And.intro rfl (And.intro rfl (And.intro rfl (And.intro rfl (trivial)))))
    · refine J_aload_n dX5_takeVote_25 rfl rfl ?_
      refine J_iload dX5_takeVote_26 rfl ?_
      refine K_callV_i (As := [vI q1]) mcX4_saidAt mlX5_82 rfl (by decide) (sq 6 rfl) (ct4_saidAt G t q1 S7) rfl rfl (Nat.le_of_ble_eq_true rfl) (by decide) (Nat.le_of_ble_eq_true rfl) dX5_takeVote_28 (fun q9 S10 => ?_)
      refine J_istore [some (vR (some 26)), some (vR (some 6)), some (vR (some 24)), some (vI x3), some (vI q1), some (vI q9)] dX5_takeVote_31 (Nat.le_of_ble_eq_true rfl) rfl rfl ?_
      refine J_iload dX5_takeVote_33 rfl ?_
      refine J_if_lt (tgt := 69) dX5_takeVote_35 (by decide) (fun z11 => ?_) (fun z11 => ?_)
      · refine J_goto (tgt := 99) dX5_takeVote_69 (by decide) ?_
        exact J_return rfl (Nat.le_refl _) (Nat.le_refl _) rfl dX5_takeVote_99
      · refine J_iload dX5_takeVote_38 rfl ?_
        refine J_aload_n dX5_takeVote_40 rfl rfl ?_
        refine K_getR (r := some (31)) cf5 flX5_21 (sq 26 rfl) rfl (Or.inr ⟨_, rfl⟩) dX5_takeVote_41 ?_
        refine K_alen (v := nI 1000) (sq 31 rfl) (by decide) rfl dX5_takeVote_44 ?_
        refine J_icmp_ge (tgt := 69) dX5_takeVote_45 (by decide) (fun z12 => ?_) (fun z12 => ?_)
        · refine J_goto (tgt := 99) dX5_takeVote_69 (by decide) ?_
          exact J_return rfl (Nat.le_refl _) (Nat.le_refl _) rfl dX5_takeVote_99
        · refine J_aload_n dX5_takeVote_48 rfl rfl ?_
          refine K_getR (r := some (31)) cf5 flX5_21 (sq 26 rfl) rfl (Or.inr ⟨_, rfl⟩) dX5_takeVote_49 ?_
          refine J_iload dX5_takeVote_52 rfl ?_
          refine J_dup2 dX5_takeVote_54 rfl rfl ?_
          refine K_iald (sq 31 rfl) dX5_takeVote_55 ?_
          refine J_iload_n dX5_takeVote_56 rfl rfl ?_
          refine J_iadd dX5_takeVote_57 ?_
          refine K_iast (sq 31 rfl) dX5_takeVote_58 ?_
          refine J_ltS (fun S13 _ => ?_)
          refine J_aload_n dX5_takeVote_59 rfl rfl ?_
          refine J_dup dX5_takeVote_60 rfl ?_
          refine K_getI cf5 flX5_25 (sq 26 rfl) (Or.inl rfl) dX5_takeVote_61 ?_
          refine J_iload_n dX5_takeVote_64 rfl rfl ?_
          refine J_iadd dX5_takeVote_65 ?_
          refine K_putI cf5 flX5_25 (sq 26 rfl) rfl dX5_takeVote_66 ?_
          refine J_ltS (fun S14 _ => ?_)
          refine J_goto (tgt := 99) dX5_takeVote_69 (by decide) ?_
          exact J_return rfl (Nat.le_refl _) (Nat.le_refl _) rfl dX5_takeVote_99
  · exact J_sb (t5_takeVote_j72 G t N x3 q1 S4) (And.intro rfl (And.intro rfl (And.intro rfl (And.intro rfl (trivial)))))
theorem dX5_hold_0 : decode cX5_hold 0 = .ok (.aload_n 0, 1) := by decide +kernel
theorem dX5_hold_1 : decode cX5_hold 1 = .ok (.getfield 21, 3) := by decide +kernel
theorem dX5_hold_4 : decode cX5_hold 4 = .ok (.iconst 0, 1) := by decide +kernel
theorem dX5_hold_5 : decode cX5_hold 5 = .ok (.invokestatic 39, 3) := by decide +kernel
theorem dX5_hold_8 : decode cX5_hold 8 = .ok (.aload_n 0, 1) := by decide +kernel
theorem dX5_hold_9 : decode cX5_hold 9 = .ok (.iconst 0, 1) := by decide +kernel
theorem dX5_hold_10 : decode cX5_hold 10 = .ok (.putfield 25, 3) := by decide +kernel
theorem dX5_hold_13 : decode cX5_hold 13 = .ok (.aload_n 0, 1) := by decide +kernel
theorem dX5_hold_14 : decode cX5_hold 14 = .ok (.iconst 0, 1) := by decide +kernel
theorem dX5_hold_15 : decode cX5_hold 15 = .ok (.putfield 29, 3) := by decide +kernel
theorem dX5_hold_18 : decode cX5_hold 18 = .ok (.aload_n 0, 1) := by decide +kernel
theorem dX5_hold_19 : decode cX5_hold 19 = .ok (.getfield 12, 3) := by decide +kernel
theorem dX5_hold_22 : decode cX5_hold 22 = .ok (.invokevirtual 45, 3) := by decide +kernel
theorem dX5_hold_25 : decode cX5_hold 25 = .ok (.aload_n 1, 1) := by decide +kernel
theorem dX5_hold_26 : decode cX5_hold 26 = .ok (.aload_n 0, 1) := by decide +kernel
theorem dX5_hold_27 : decode cX5_hold 27 = .ok (.getfield 12, 3) := by decide +kernel
theorem dX5_hold_30 : decode cX5_hold 30 = .ok (.iload_n 3, 1) := by decide +kernel
theorem dX5_hold_31 : decode cX5_hold 31 = .ok (.invokevirtual 48, 3) := by decide +kernel
theorem dX5_hold_34 : decode cX5_hold 34 = .ok (.istore 6, 2) := by decide +kernel
theorem dX5_hold_36 : decode cX5_hold 36 = .ok (.iconst 0, 1) := by decide +kernel
theorem dX5_hold_37 : decode cX5_hold 37 = .ok (.istore 7, 2) := by decide +kernel
theorem dX5_hold_39 : decode cX5_hold 39 = .ok (.iload 7, 2) := by decide +kernel
theorem dX5_hold_41 : decode cX5_hold 41 = .ok (.ldc 54, 2) := by decide +kernel
theorem dX5_hold_43 : decode cX5_hold 43 = .ok (.if_icmp .ge 56, 3) := by decide +kernel
theorem dX5_hold_46 : decode cX5_hold 46 = .ok (.iload 6, 2) := by decide +kernel
theorem dX5_hold_48 : decode cX5_hold 48 = .ok (.ifCond .le 51, 3) := by decide +kernel
theorem dX5_hold_51 : decode cX5_hold 51 = .ok (.aload 5, 2) := by decide +kernel
theorem dX5_hold_53 : decode cX5_hold 53 = .ok (.aload_n 1, 1) := by decide +kernel
theorem dX5_hold_54 : decode cX5_hold 54 = .ok (.aload_n 0, 1) := by decide +kernel
theorem dX5_hold_55 : decode cX5_hold 55 = .ok (.getfield 12, 3) := by decide +kernel
theorem dX5_hold_58 : decode cX5_hold 58 = .ok (.iconst 0, 1) := by decide +kernel
theorem dX5_hold_59 : decode cX5_hold 59 = .ok (.invokevirtual 55, 3) := by decide +kernel
theorem dX5_hold_62 : decode cX5_hold 62 = .ok (.aload 5, 2) := by decide +kernel
theorem dX5_hold_64 : decode cX5_hold 64 = .ok (.iload 4, 2) := by decide +kernel
theorem dX5_hold_66 : decode cX5_hold 66 = .ok (.invokevirtual 61, 3) := by decide +kernel
theorem dX5_hold_69 : decode cX5_hold 69 = .ok (.aload_n 0, 1) := by decide +kernel
theorem dX5_hold_70 : decode cX5_hold 70 = .ok (.aload 5, 2) := by decide +kernel
theorem dX5_hold_72 : decode cX5_hold 72 = .ok (.aload_n 2, 1) := by decide +kernel
theorem dX5_hold_73 : decode cX5_hold 73 = .ok (.iconst 1, 1) := by decide +kernel
theorem dX5_hold_74 : decode cX5_hold 74 = .ok (.iload_n 3, 1) := by decide +kernel
theorem dX5_hold_75 : decode cX5_hold 75 = .ok (.iload 6, 2) := by decide +kernel
theorem dX5_hold_77 : decode cX5_hold 77 = .ok (.isub, 1) := by decide +kernel
theorem dX5_hold_78 : decode cX5_hold 78 = .ok (.ishl, 1) := by decide +kernel
theorem dX5_hold_79 : decode cX5_hold 79 = .ok (.invokevirtual 65, 3) := by decide +kernel
theorem dX5_hold_82 : decode cX5_hold 82 = .ok (.aload_n 1, 1) := by decide +kernel
theorem dX5_hold_83 : decode cX5_hold 83 = .ok (.aload_n 0, 1) := by decide +kernel
theorem dX5_hold_84 : decode cX5_hold 84 = .ok (.getfield 12, 3) := by decide +kernel
theorem dX5_hold_87 : decode cX5_hold 87 = .ok (.iload_n 3, 1) := by decide +kernel
theorem dX5_hold_88 : decode cX5_hold 88 = .ok (.invokevirtual 48, 3) := by decide +kernel
theorem dX5_hold_91 : decode cX5_hold 91 = .ok (.istore 6, 2) := by decide +kernel
theorem dX5_hold_93 : decode cX5_hold 93 = .ok (.iinc 7 1, 3) := by decide +kernel
theorem dX5_hold_96 : decode cX5_hold 96 = .ok (.goto (-57), 3) := by decide +kernel
theorem dX5_hold_99 : decode cX5_hold 99 = .ok (.return_, 1) := by decide +kernel
set_option maxRecDepth 100000 in
set_option maxHeartbeats 4000000 in
theorem t5_hold_h39 (G : Gm) (t : Nat) (N : Nat) (a1 : Nat) (x3 : Int32) (x4 : Int32) (h1 : a1 ∈ ad3)   : ∀ (n : Nat) (x6 : Int32) (x7 : Int32) (S : St), J G YX5_hold 6 0 0 (fV t) 0 0 39 [some (vR (some 26)), some (vR (some a1)), some (vR (some 24)), some (vI x3), some (vI x4), some (vR (some 6)), some (vI x6), some (vI x7)] [] (MM t S) (f5_hold_h39 N a1 x3 x4 n x6 x7 S) := by
  intro n
  induction n with
  | zero => intro x6 x7 S; exact J_none
  | succ n ih =>
    intro x6 x7 S
    rw [f5_hold_h39]
    refine J_iload dX5_hold_39 rfl ?_
    refine J_ldc (v := nI 1000000) wX5_54 dX5_hold_41 ?_
    refine J_icmp_ge (tgt := 99) dX5_hold_43 (by decide) (fun z1 => ?_) (fun z1 => ?_)
    · exact J_return rfl (Nat.le_refl _) (Nat.le_refl _) rfl dX5_hold_99
    · refine J_iload dX5_hold_46 rfl ?_
      refine J_if_le (tgt := 99) dX5_hold_48 (by decide) (fun z2 => ?_) (fun z2 => ?_)
      · exact J_return rfl (Nat.le_refl _) (Nat.le_refl _) rfl dX5_hold_99
      · refine J_aload dX5_hold_51 rfl ?_
        refine J_aload_n dX5_hold_53 rfl rfl ?_
        refine J_aload_n dX5_hold_54 rfl rfl ?_
        refine K_getR (r := some (27)) cf5 flX5_12 (sq 26 rfl) rfl (Or.inl ⟨_, rfl⟩) dX5_hold_55 ?_
        refine J_iconst (v := nI 0) dX5_hold_58 (by decide) ?_
        refine K_callV_v (As := [vR (some a1), vR (some 27), vI (nI 0)]) mcX4_start mlX5_55 rfl (by decide) (sq 6 rfl) (ct4_start G t N a1 27 (nI 0) h1 (by decide) S) rfl rfl (Nat.le_of_ble_eq_true rfl) (by decide) (Nat.le_of_ble_eq_true rfl) dX5_hold_59 (fun q3 S4 => ?_)
        refine J_aload dX5_hold_62 rfl ?_
        refine J_iload dX5_hold_64 rfl ?_
        refine K_callV_v (As := [vI x4]) mcX4_goOn mlX5_61 rfl (by decide) (sq 6 rfl) (ct4_goOn G t N x4 S4) rfl rfl (Nat.le_of_ble_eq_true rfl) (by decide) (Nat.le_of_ble_eq_true rfl) dX5_hold_66 (fun q5 S6 => ?_)
        refine J_aload_n dX5_hold_69 rfl rfl ?_
        refine J_aload dX5_hold_70 rfl ?_
        refine J_aload_n dX5_hold_72 rfl rfl ?_
        refine J_iconst (v := nI 1) dX5_hold_73 (by decide) ?_
        refine J_iload_n dX5_hold_74 rfl rfl ?_
        refine J_iload dX5_hold_75 rfl ?_
        refine J_isub dX5_hold_77 ?_
        refine J_ishl dX5_hold_78 ?_
        refine K_callV_v (As := [vR (some 6), vR (some 24), vI (shlI (nI 1) (x3 - x6))]) mcX5_takeVote mlX5_65 rfl (by decide) (sq 26 rfl) (ct5_takeVote G t N (shlI (nI 1) (x3 - x6)) S6) rfl rfl (Nat.le_of_ble_eq_true rfl) (by decide) (Nat.le_of_ble_eq_true rfl) dX5_hold_79 (fun q7 S8 => ?_)
        refine J_aload_n dX5_hold_82 rfl rfl ?_
        refine J_aload_n dX5_hold_83 rfl rfl ?_
        refine K_getR (r := some (27)) cf5 flX5_12 (sq 26 rfl) rfl (Or.inl ⟨_, rfl⟩) dX5_hold_84 ?_
        refine J_iload_n dX5_hold_87 rfl rfl ?_
        refine K_callV_i (As := [vR (some 27), vI x3]) mcX3_follow mlX5_48 rfl (by decide) (sq3_0 h1) (ct3_follow G t N a1 27 x3 h1 (by decide) S8) rfl rfl (Nat.le_of_ble_eq_true rfl) (by decide) (Nat.le_of_ble_eq_true rfl) dX5_hold_88 (fun q9 S10 => ?_)
        refine J_istore [some (vR (some 26)), some (vR (some a1)), some (vR (some 24)), some (vI x3), some (vI x4), some (vR (some 6)), some (vI q9), some (vI x7)] dX5_hold_91 (Nat.le_of_ble_eq_true rfl) rfl rfl ?_
        refine J_iinc (v := x7 + nI 1) [some (vR (some 26)), some (vR (some a1)), some (vR (some 24)), some (vI x3), some (vI x4), some (vR (some 6)), some (vI q9), some (vI (x7 + nI 1))] dX5_hold_93 rfl rfl (Nat.le_of_ble_eq_true rfl) rfl rfl ?_
        refine J_goto (tgt := 39) dX5_hold_96 (by decide) ?_
        exact J_sb (ih q9 (x7 + nI 1) S10) (And.intro rfl (And.intro rfl (And.intro rfl (And.intro rfl (And.intro rfl (And.intro rfl (And.intro rfl (And.intro rfl (trivial)))))))))
set_option maxRecDepth 100000 in
set_option maxHeartbeats 4000000 in
theorem ct5_hold (G : Gm) (t : Nat) (N : Nat) (a1 : Nat) (x3 : Int32) (x4 : Int32) (h1 : a1 ∈ ad3) (S : St) : Ct G YX5_hold yX5_hold 6 0 0 (fV t) (f5_hold N a1 x3 x4 S) [vR (some 26), vR (some a1), vR (some 24), vI x3, vI x4, vR (some 6)] (MM t S) := by
  refine Ct_of_J [some (vR (some 26)), some (vR (some a1)), some (vR (some 24)), some (vI x3), some (vI x4), some (vR (some 6)), none, none] (by decide) rfl (fun h => by cases h) (Nat.le_of_ble_eq_true rfl) (And.intro rfl (And.intro rfl (And.intro rfl (And.intro rfl (And.intro rfl (And.intro rfl (trivial))))))) ?_
  unfold f5_hold
  refine J_aload_n dX5_hold_0 rfl rfl ?_
  refine K_getR (r := some (31)) cf5 flX5_21 (sq 26 rfl) rfl (Or.inr ⟨_, rfl⟩) dX5_hold_1 ?_
  refine J_iconst (v := nI 0) dX5_hold_4 (by decide) ?_
  refine K_callS_v (As := [vR (some 31), vI (nI 0)]) mcJ7_fill_53178 mlX5_39 (ctJ7_fill_53178 G t (sq 31 rfl) (by decide)) rfl rfl (Nat.le_of_ble_eq_true rfl) (by decide) (Nat.le_of_ble_eq_true rfl) dX5_hold_5 (fun u2 S1 => ?_)
  refine J_aload_n dX5_hold_8 rfl rfl ?_
  refine J_iconst (v := nI 0) dX5_hold_9 (by decide) ?_
  refine K_putI cf5 flX5_25 (sq 26 rfl) rfl dX5_hold_10 ?_
  refine J_ltS (fun S3 _ => ?_)
  refine J_aload_n dX5_hold_13 rfl rfl ?_
  refine J_iconst (v := nI 0) dX5_hold_14 (by decide) ?_
  refine K_putI cf5 flX5_29 (sq 26 rfl) rfl dX5_hold_15 ?_
  refine J_ltS (fun S4 _ => ?_)
  refine J_aload_n dX5_hold_18 rfl rfl ?_
  refine K_getR (r := some (27)) cf5 flX5_12 (sq 26 rfl) rfl (Or.inl ⟨_, rfl⟩) dX5_hold_19 ?_
  refine K_callV_v (As := []) mcX6_beEmpty mlX5_45 rfl (by decide) (sq 27 rfl) (ct6_beEmpty G t 27 (by decide) S4) rfl rfl (Nat.le_of_ble_eq_true rfl) (by decide) (Nat.le_of_ble_eq_true rfl) dX5_hold_22 (fun q5 S6 => ?_)
  refine J_aload_n dX5_hold_25 rfl rfl ?_
  refine J_aload_n dX5_hold_26 rfl rfl ?_
  refine K_getR (r := some (27)) cf5 flX5_12 (sq 26 rfl) rfl (Or.inl ⟨_, rfl⟩) dX5_hold_27 ?_
  refine J_iload_n dX5_hold_30 rfl rfl ?_
  refine K_callV_i (As := [vR (some 27), vI x3]) mcX3_follow mlX5_48 rfl (by decide) (sq3_0 h1) (ct3_follow G t N a1 27 x3 h1 (by decide) S6) rfl rfl (Nat.le_of_ble_eq_true rfl) (by decide) (Nat.le_of_ble_eq_true rfl) dX5_hold_31 (fun q7 S8 => ?_)
  refine J_istore [some (vR (some 26)), some (vR (some a1)), some (vR (some 24)), some (vI x3), some (vI x4), some (vR (some 6)), some (vI q7), none] dX5_hold_34 (Nat.le_of_ble_eq_true rfl) rfl rfl ?_
  refine J_iconst (v := nI 0) dX5_hold_36 (by decide) ?_
  refine J_istore [some (vR (some 26)), some (vR (some a1)), some (vR (some 24)), some (vI x3), some (vI x4), some (vR (some 6)), some (vI q7), some (vI (nI 0))] dX5_hold_37 (Nat.le_of_ble_eq_true rfl) rfl rfl ?_
  exact J_sb (t5_hold_h39 G t N a1 x3 x4 h1 N q7 (nI 0) S8) (And.intro rfl (And.intro rfl (And.intro rfl (And.intro rfl (And.intro rfl (And.intro rfl (And.intro rfl (And.intro rfl (trivial)))))))))
theorem dX5_findShortest_0 : decode cX5_findShortest 0 = .ok (.aload_n 0, 1) := by decide +kernel
theorem dX5_findShortest_1 : decode cX5_findShortest 1 = .ok (.iconst 0, 1) := by decide +kernel
theorem dX5_findShortest_2 : decode cX5_findShortest 2 = .ok (.putfield 32, 3) := by decide +kernel
theorem dX5_findShortest_5 : decode cX5_findShortest 5 = .ok (.aload_n 0, 1) := by decide +kernel
theorem dX5_findShortest_6 : decode cX5_findShortest 6 = .ok (.iconst 1, 1) := by decide +kernel
theorem dX5_findShortest_7 : decode cX5_findShortest 7 = .ok (.putfield 35, 3) := by decide +kernel
theorem dX5_findShortest_10 : decode cX5_findShortest 10 = .ok (.aload_n 0, 1) := by decide +kernel
theorem dX5_findShortest_11 : decode cX5_findShortest 11 = .ok (.getfield 12, 3) := by decide +kernel
theorem dX5_findShortest_14 : decode cX5_findShortest 14 = .ok (.invokevirtual 45, 3) := by decide +kernel
theorem dX5_findShortest_17 : decode cX5_findShortest 17 = .ok (.aload_n 1, 1) := by decide +kernel
theorem dX5_findShortest_18 : decode cX5_findShortest 18 = .ok (.aload_n 0, 1) := by decide +kernel
theorem dX5_findShortest_19 : decode cX5_findShortest 19 = .ok (.getfield 12, 3) := by decide +kernel
theorem dX5_findShortest_22 : decode cX5_findShortest 22 = .ok (.iload_n 3, 1) := by decide +kernel
theorem dX5_findShortest_23 : decode cX5_findShortest 23 = .ok (.invokevirtual 48, 3) := by decide +kernel
theorem dX5_findShortest_26 : decode cX5_findShortest 26 = .ok (.istore 6, 2) := by decide +kernel
theorem dX5_findShortest_28 : decode cX5_findShortest 28 = .ok (.iconst 0, 1) := by decide +kernel
theorem dX5_findShortest_29 : decode cX5_findShortest 29 = .ok (.istore 7, 2) := by decide +kernel
theorem dX5_findShortest_31 : decode cX5_findShortest 31 = .ok (.iload 7, 2) := by decide +kernel
theorem dX5_findShortest_33 : decode cX5_findShortest 33 = .ok (.ldc 54, 2) := by decide +kernel
theorem dX5_findShortest_35 : decode cX5_findShortest 35 = .ok (.if_icmp .ge 112, 3) := by decide +kernel
theorem dX5_findShortest_38 : decode cX5_findShortest 38 = .ok (.iload 6, 2) := by decide +kernel
theorem dX5_findShortest_40 : decode cX5_findShortest 40 = .ok (.ifCond .le 107, 3) := by decide +kernel
theorem dX5_findShortest_43 : decode cX5_findShortest 43 = .ok (.aload 5, 2) := by decide +kernel
theorem dX5_findShortest_45 : decode cX5_findShortest 45 = .ok (.aload_n 1, 1) := by decide +kernel
theorem dX5_findShortest_46 : decode cX5_findShortest 46 = .ok (.aload_n 0, 1) := by decide +kernel
theorem dX5_findShortest_47 : decode cX5_findShortest 47 = .ok (.getfield 12, 3) := by decide +kernel
theorem dX5_findShortest_50 : decode cX5_findShortest 50 = .ok (.iconst 0, 1) := by decide +kernel
theorem dX5_findShortest_51 : decode cX5_findShortest 51 = .ok (.invokevirtual 55, 3) := by decide +kernel
theorem dX5_findShortest_54 : decode cX5_findShortest 54 = .ok (.aload 5, 2) := by decide +kernel
theorem dX5_findShortest_56 : decode cX5_findShortest 56 = .ok (.iload 4, 2) := by decide +kernel
theorem dX5_findShortest_58 : decode cX5_findShortest 58 = .ok (.invokevirtual 61, 3) := by decide +kernel
theorem dX5_findShortest_61 : decode cX5_findShortest 61 = .ok (.aload 5, 2) := by decide +kernel
theorem dX5_findShortest_63 : decode cX5_findShortest 63 = .ok (.invokevirtual 86, 3) := by decide +kernel
theorem dX5_findShortest_66 : decode cX5_findShortest 66 = .ok (.ifCond .ne 43, 3) := by decide +kernel
theorem dX5_findShortest_69 : decode cX5_findShortest 69 = .ok (.aload 5, 2) := by decide +kernel
theorem dX5_findShortest_71 : decode cX5_findShortest 71 = .ok (.aload_n 2, 1) := by decide +kernel
theorem dX5_findShortest_72 : decode cX5_findShortest 72 = .ok (.invokevirtual 89, 3) := by decide +kernel
theorem dX5_findShortest_75 : decode cX5_findShortest 75 = .ok (.ifCond .eq 34, 3) := by decide +kernel
theorem dX5_findShortest_78 : decode cX5_findShortest 78 = .ok (.aload_n 0, 1) := by decide +kernel
theorem dX5_findShortest_79 : decode cX5_findShortest 79 = .ok (.getfield 32, 3) := by decide +kernel
theorem dX5_findShortest_82 : decode cX5_findShortest 82 = .ok (.ifCond .ne 14, 3) := by decide +kernel
theorem dX5_findShortest_85 : decode cX5_findShortest 85 = .ok (.aload_n 0, 1) := by decide +kernel
theorem dX5_findShortest_86 : decode cX5_findShortest 86 = .ok (.getfield 18, 3) := by decide +kernel
theorem dX5_findShortest_89 : decode cX5_findShortest 89 = .ok (.aload_n 0, 1) := by decide +kernel
theorem dX5_findShortest_90 : decode cX5_findShortest 90 = .ok (.getfield 12, 3) := by decide +kernel
theorem dX5_findShortest_93 : decode cX5_findShortest 93 = .ok (.invokevirtual 93, 3) := by decide +kernel
theorem dX5_findShortest_96 : decode cX5_findShortest 96 = .ok (.aload_n 0, 1) := by decide +kernel
theorem dX5_findShortest_97 : decode cX5_findShortest 97 = .ok (.dup, 1) := by decide +kernel
theorem dX5_findShortest_98 : decode cX5_findShortest 98 = .ok (.getfield 32, 3) := by decide +kernel
theorem dX5_findShortest_101 : decode cX5_findShortest 101 = .ok (.iconst 1, 1) := by decide +kernel
theorem dX5_findShortest_102 : decode cX5_findShortest 102 = .ok (.iadd, 1) := by decide +kernel
theorem dX5_findShortest_103 : decode cX5_findShortest 103 = .ok (.putfield 32, 3) := by decide +kernel
theorem dX5_findShortest_106 : decode cX5_findShortest 106 = .ok (.goto 24, 3) := by decide +kernel
theorem dX5_findShortest_109 : decode cX5_findShortest 109 = .ok (.aload_n 0, 1) := by decide +kernel
theorem dX5_findShortest_110 : decode cX5_findShortest 110 = .ok (.getfield 32, 3) := by decide +kernel
theorem dX5_findShortest_113 : decode cX5_findShortest 113 = .ok (.ifCond .ne 17, 3) := by decide +kernel
theorem dX5_findShortest_116 : decode cX5_findShortest 116 = .ok (.aload 5, 2) := by decide +kernel
theorem dX5_findShortest_118 : decode cX5_findShortest 118 = .ok (.invokevirtual 86, 3) := by decide +kernel
theorem dX5_findShortest_121 : decode cX5_findShortest 121 = .ok (.iconst 2, 1) := by decide +kernel
theorem dX5_findShortest_122 : decode cX5_findShortest 122 = .ok (.if_icmp .ne 8, 3) := by decide +kernel
theorem dX5_findShortest_125 : decode cX5_findShortest 125 = .ok (.aload_n 0, 1) := by decide +kernel
theorem dX5_findShortest_126 : decode cX5_findShortest 126 = .ok (.iconst 0, 1) := by decide +kernel
theorem dX5_findShortest_127 : decode cX5_findShortest 127 = .ok (.putfield 35, 3) := by decide +kernel
theorem dX5_findShortest_130 : decode cX5_findShortest 130 = .ok (.aload_n 1, 1) := by decide +kernel
theorem dX5_findShortest_131 : decode cX5_findShortest 131 = .ok (.aload_n 0, 1) := by decide +kernel
theorem dX5_findShortest_132 : decode cX5_findShortest 132 = .ok (.getfield 12, 3) := by decide +kernel
theorem dX5_findShortest_135 : decode cX5_findShortest 135 = .ok (.iload_n 3, 1) := by decide +kernel
theorem dX5_findShortest_136 : decode cX5_findShortest 136 = .ok (.invokevirtual 48, 3) := by decide +kernel
theorem dX5_findShortest_139 : decode cX5_findShortest 139 = .ok (.istore 6, 2) := by decide +kernel
theorem dX5_findShortest_141 : decode cX5_findShortest 141 = .ok (.iinc 7 1, 3) := by decide +kernel
theorem dX5_findShortest_144 : decode cX5_findShortest 144 = .ok (.goto (-113), 3) := by decide +kernel
theorem dX5_findShortest_147 : decode cX5_findShortest 147 = .ok (.return_, 1) := by decide +kernel
set_option maxRecDepth 100000 in
set_option maxHeartbeats 4000000 in
theorem t5_findShortest_j130 (G : Gm) (t : Nat) (N : Nat) (a1 : Nat) (x3 : Int32) (x4 : Int32) (x7 : Int32) (h1 : a1 ∈ ad3) (k31 : Int32 → Int32 → St → Option (Unit × St)) (hk31 : ∀ (yx6 : Int32) (yx7 : Int32) (S : St), J G YX5_findShortest 6 0 0 (fV t) 0 0 31 [some (vR (some 26)), some (vR (some a1)), some (vR (some 24)), some (vI x3), some (vI x4), some (vR (some 6)), some (vI yx6), some (vI yx7)] [] (MM t S) (k31 yx6 yx7 S)) : ∀  (S : St), J G YX5_findShortest 6 0 0 (fV t) 0 0 130 [some (vR (some 26)), some (vR (some a1)), some (vR (some 24)), some (vI x3), some (vI x4), some (vR (some 6)), none, some (vI x7)] [] (MM t S) (f5_findShortest_j130 N a1 x3 x4 x7 k31 S) := by
  intro S
  unfold f5_findShortest_j130
  refine J_aload_n dX5_findShortest_130 rfl rfl ?_
  refine J_aload_n dX5_findShortest_131 rfl rfl ?_
  refine K_getR (r := some (27)) cf5 flX5_12 (sq 26 rfl) rfl (Or.inl ⟨_, rfl⟩) dX5_findShortest_132 ?_
  refine J_iload_n dX5_findShortest_135 rfl rfl ?_
  refine K_callV_i (As := [vR (some 27), vI x3]) mcX3_follow mlX5_48 rfl (by decide) (sq3_0 h1) (ct3_follow G t N a1 27 x3 h1 (by decide) S) rfl rfl (Nat.le_of_ble_eq_true rfl) (by decide) (Nat.le_of_ble_eq_true rfl) dX5_findShortest_136 (fun q1 S2 => ?_)
  refine J_istore [some (vR (some 26)), some (vR (some a1)), some (vR (some 24)), some (vI x3), some (vI x4), some (vR (some 6)), some (vI q1), some (vI x7)] dX5_findShortest_139 (Nat.le_of_ble_eq_true rfl) rfl rfl ?_
  refine J_iinc (v := x7 + nI 1) [some (vR (some 26)), some (vR (some a1)), some (vR (some 24)), some (vI x3), some (vI x4), some (vR (some 6)), some (vI q1), some (vI (x7 + nI 1))] dX5_findShortest_141 rfl rfl (Nat.le_of_ble_eq_true rfl) rfl rfl ?_
  refine J_goto (tgt := 31) dX5_findShortest_144 (by decide) ?_
  exact J_sb (hk31 q1 (x7 + nI 1) S2) (And.intro rfl (And.intro rfl (And.intro rfl (And.intro rfl (And.intro rfl (And.intro rfl (And.intro rfl (And.intro rfl (trivial)))))))))
set_option maxRecDepth 100000 in
set_option maxHeartbeats 4000000 in
theorem t5_findShortest_j109 (G : Gm) (t : Nat) (N : Nat) (a1 : Nat) (x3 : Int32) (x4 : Int32) (x7 : Int32) (h1 : a1 ∈ ad3) (k31 : Int32 → Int32 → St → Option (Unit × St)) (hk31 : ∀ (yx6 : Int32) (yx7 : Int32) (S : St), J G YX5_findShortest 6 0 0 (fV t) 0 0 31 [some (vR (some 26)), some (vR (some a1)), some (vR (some 24)), some (vI x3), some (vI x4), some (vR (some 6)), some (vI yx6), some (vI yx7)] [] (MM t S) (k31 yx6 yx7 S)) : ∀  (S : St), J G YX5_findShortest 6 0 0 (fV t) 0 0 109 [some (vR (some 26)), some (vR (some a1)), some (vR (some 24)), some (vI x3), some (vI x4), some (vR (some 6)), none, some (vI x7)] [] (MM t S) (f5_findShortest_j109 N a1 x3 x4 x7 k31 S) := by
  intro S
  unfold f5_findShortest_j109
  refine J_aload_n dX5_findShortest_109 rfl rfl ?_
  refine K_getI cf5 flX5_32 (sq 26 rfl) (Or.inl rfl) dX5_findShortest_110 ?_
  refine J_if_ne (tgt := 130) dX5_findShortest_113 (by decide) (fun z1 => ?_) (fun z1 => ?_)
  · refine J_aload dX5_findShortest_116 rfl ?_
    refine K_callV_i (As := []) mcX4_state mlX5_86 rfl (by decide) (sq 6 rfl) (ct4_state G t S) rfl rfl (Nat.le_of_ble_eq_true rfl) (by decide) (Nat.le_of_ble_eq_true rfl) dX5_findShortest_118 (fun q2 S3 => ?_)
    refine J_iconst (v := nI 2) dX5_findShortest_121 (by decide) ?_
    refine J_icmp_ne (tgt := 130) dX5_findShortest_122 (by decide) (fun z4 => ?_) (fun z4 => ?_)
    · refine J_aload_n dX5_findShortest_125 rfl rfl ?_
      refine J_iconst (v := nI 0) dX5_findShortest_126 (by decide) ?_
      refine K_putZ (by decide) cf5 flX5_35 (sq 26 rfl) rfl dX5_findShortest_127 ?_
      refine J_ltS (fun S5 _ => ?_)
      exact J_sb (t5_findShortest_j130 G t N a1 x3 x4 x7 h1 k31 hk31 S5) (And.intro rfl (And.intro rfl (And.intro rfl (And.intro rfl (And.intro rfl (And.intro rfl (And.intro rfl (trivial))))))))
    · exact J_sb (t5_findShortest_j130 G t N a1 x3 x4 x7 h1 k31 hk31 S3) (And.intro rfl (And.intro rfl (And.intro rfl (And.intro rfl (And.intro rfl (And.intro rfl (And.intro rfl (trivial))))))))
  · exact J_sb (t5_findShortest_j130 G t N a1 x3 x4 x7 h1 k31 hk31 S) (And.intro rfl (And.intro rfl (And.intro rfl (And.intro rfl (And.intro rfl (And.intro rfl (And.intro rfl (trivial))))))))
set_option maxRecDepth 100000 in
set_option maxHeartbeats 4000000 in
theorem t5_findShortest_j96 (G : Gm) (t : Nat) (N : Nat) (a1 : Nat) (x3 : Int32) (x4 : Int32) (x7 : Int32) (h1 : a1 ∈ ad3) (k31 : Int32 → Int32 → St → Option (Unit × St)) (hk31 : ∀ (yx6 : Int32) (yx7 : Int32) (S : St), J G YX5_findShortest 6 0 0 (fV t) 0 0 31 [some (vR (some 26)), some (vR (some a1)), some (vR (some 24)), some (vI x3), some (vI x4), some (vR (some 6)), some (vI yx6), some (vI yx7)] [] (MM t S) (k31 yx6 yx7 S)) : ∀  (S : St), J G YX5_findShortest 6 0 0 (fV t) 0 0 96 [some (vR (some 26)), some (vR (some a1)), some (vR (some 24)), some (vI x3), some (vI x4), some (vR (some 6)), none, some (vI x7)] [] (MM t S) (f5_findShortest_j96 N a1 x3 x4 x7 k31 S) := by
  intro S
  unfold f5_findShortest_j96
  refine J_aload_n dX5_findShortest_96 rfl rfl ?_
  refine J_dup dX5_findShortest_97 rfl ?_
  refine K_getI cf5 flX5_32 (sq 26 rfl) (Or.inl rfl) dX5_findShortest_98 ?_
  refine J_iconst (v := nI 1) dX5_findShortest_101 (by decide) ?_
  refine J_iadd dX5_findShortest_102 ?_
  refine K_putI cf5 flX5_32 (sq 26 rfl) rfl dX5_findShortest_103 ?_
  refine J_ltS (fun S1 _ => ?_)
  refine J_goto (tgt := 130) dX5_findShortest_106 (by decide) ?_
  exact J_sb (t5_findShortest_j130 G t N a1 x3 x4 x7 h1 k31 hk31 S1) (And.intro rfl (And.intro rfl (And.intro rfl (And.intro rfl (And.intro rfl (And.intro rfl (And.intro rfl (trivial))))))))
set_option maxRecDepth 100000 in
set_option maxHeartbeats 4000000 in
theorem t5_findShortest_h31 (G : Gm) (t : Nat) (N : Nat) (a1 : Nat) (x3 : Int32) (x4 : Int32) (h1 : a1 ∈ ad3)   : ∀ (n : Nat) (x6 : Int32) (x7 : Int32) (S : St), J G YX5_findShortest 6 0 0 (fV t) 0 0 31 [some (vR (some 26)), some (vR (some a1)), some (vR (some 24)), some (vI x3), some (vI x4), some (vR (some 6)), some (vI x6), some (vI x7)] [] (MM t S) (f5_findShortest_h31 N a1 x3 x4 n x6 x7 S) := by
  intro n
  induction n with
  | zero => intro x6 x7 S; exact J_none
  | succ n ih =>
    intro x6 x7 S
    rw [f5_findShortest_h31]
    refine J_iload dX5_findShortest_31 rfl ?_
    refine J_ldc (v := nI 1000000) wX5_54 dX5_findShortest_33 ?_
    refine J_icmp_ge (tgt := 147) dX5_findShortest_35 (by decide) (fun z1 => ?_) (fun z1 => ?_)
    · exact J_return rfl (Nat.le_refl _) (Nat.le_refl _) rfl dX5_findShortest_147
    · refine J_iload dX5_findShortest_38 rfl ?_
      refine J_if_le (tgt := 147) dX5_findShortest_40 (by decide) (fun z2 => ?_) (fun z2 => ?_)
      · exact J_return rfl (Nat.le_refl _) (Nat.le_refl _) rfl dX5_findShortest_147
      · refine J_aload dX5_findShortest_43 rfl ?_
        refine J_aload_n dX5_findShortest_45 rfl rfl ?_
        refine J_aload_n dX5_findShortest_46 rfl rfl ?_
        refine K_getR (r := some (27)) cf5 flX5_12 (sq 26 rfl) rfl (Or.inl ⟨_, rfl⟩) dX5_findShortest_47 ?_
        refine J_iconst (v := nI 0) dX5_findShortest_50 (by decide) ?_
        refine K_callV_v (As := [vR (some a1), vR (some 27), vI (nI 0)]) mcX4_start mlX5_55 rfl (by decide) (sq 6 rfl) (ct4_start G t N a1 27 (nI 0) h1 (by decide) S) rfl rfl (Nat.le_of_ble_eq_true rfl) (by decide) (Nat.le_of_ble_eq_true rfl) dX5_findShortest_51 (fun q3 S4 => ?_)
        refine J_aload dX5_findShortest_54 rfl ?_
        refine J_iload dX5_findShortest_56 rfl ?_
        refine K_callV_v (As := [vI x4]) mcX4_goOn mlX5_61 rfl (by decide) (sq 6 rfl) (ct4_goOn G t N x4 S4) rfl rfl (Nat.le_of_ble_eq_true rfl) (by decide) (Nat.le_of_ble_eq_true rfl) dX5_findShortest_58 (fun q5 S6 => ?_)
        refine J_aload dX5_findShortest_61 rfl ?_
        refine K_callV_i (As := []) mcX4_state mlX5_86 rfl (by decide) (sq 6 rfl) (ct4_state G t S6) rfl rfl (Nat.le_of_ble_eq_true rfl) (by decide) (Nat.le_of_ble_eq_true rfl) dX5_findShortest_63 (fun q7 S8 => ?_)
        refine J_if_ne (tgt := 109) dX5_findShortest_66 (by decide) (fun z9 => ?_) (fun z9 => ?_)
        · refine J_aload dX5_findShortest_69 rfl ?_
          refine J_aload_n dX5_findShortest_71 rfl rfl ?_
          refine K_callV_i (As := [vR (some 24)]) mcX4_saidJust mlX5_89 rfl (by decide) (sq 6 rfl) (ct4_saidJust G t N S8) rfl rfl (Nat.le_of_ble_eq_true rfl) (by decide) (Nat.le_of_ble_eq_true rfl) dX5_findShortest_72 (fun q10 S11 => ?_)
          refine J_if_eq (tgt := 109) dX5_findShortest_75 (by decide) (fun z12 => ?_) (fun z12 => ?_)
          · exact J_sb (t5_findShortest_j109 G t N a1 x3 x4 x7 h1 (f5_findShortest_h31 N a1 x3 x4 n) ih S11) (And.intro rfl (And.intro rfl (And.intro rfl (And.intro rfl (And.intro rfl (And.intro rfl (And.intro rfl (trivial))))))))
          · refine J_aload_n dX5_findShortest_78 rfl rfl ?_
            refine K_getI cf5 flX5_32 (sq 26 rfl) (Or.inl rfl) dX5_findShortest_79 ?_
            refine J_if_ne (tgt := 96) dX5_findShortest_82 (by decide) (fun z13 => ?_) (fun z13 => ?_)
            · refine J_aload_n dX5_findShortest_85 rfl rfl ?_
              refine K_getR (r := some (29)) cf5 flX5_18 (sq 26 rfl) rfl (Or.inl ⟨_, rfl⟩) dX5_findShortest_86 ?_
              refine J_aload_n dX5_findShortest_89 rfl rfl ?_
              refine K_getR (r := some (27)) cf5 flX5_12 (sq 26 rfl) rfl (Or.inl ⟨_, rfl⟩) dX5_findShortest_90 ?_
              refine K_callV_v (As := [vR (some 27)]) mcX6_become mlX5_93 rfl (by decide) (sq 29 rfl) (ct6_become G t 29 27 (by decide) (by decide) S11) rfl rfl (Nat.le_of_ble_eq_true rfl) (by decide) (Nat.le_of_ble_eq_true rfl) dX5_findShortest_93 (fun q14 S15 => ?_)
              exact J_sb (t5_findShortest_j96 G t N a1 x3 x4 x7 h1 (f5_findShortest_h31 N a1 x3 x4 n) ih S15) (And.intro rfl (And.intro rfl (And.intro rfl (And.intro rfl (And.intro rfl (And.intro rfl (And.intro rfl (trivial))))))))
            · exact J_sb (t5_findShortest_j96 G t N a1 x3 x4 x7 h1 (f5_findShortest_h31 N a1 x3 x4 n) ih S11) (And.intro rfl (And.intro rfl (And.intro rfl (And.intro rfl (And.intro rfl (And.intro rfl (And.intro rfl (trivial))))))))
        · exact J_sb (t5_findShortest_j109 G t N a1 x3 x4 x7 h1 (f5_findShortest_h31 N a1 x3 x4 n) ih S8) (And.intro rfl (And.intro rfl (And.intro rfl (And.intro rfl (And.intro rfl (And.intro rfl (And.intro rfl (trivial))))))))
set_option maxRecDepth 100000 in
set_option maxHeartbeats 4000000 in
theorem ct5_findShortest (G : Gm) (t : Nat) (N : Nat) (a1 : Nat) (x3 : Int32) (x4 : Int32) (h1 : a1 ∈ ad3) (S : St) : Ct G YX5_findShortest yX5_findShortest 6 0 0 (fV t) (f5_findShortest N a1 x3 x4 S) [vR (some 26), vR (some a1), vR (some 24), vI x3, vI x4, vR (some 6)] (MM t S) := by
  refine Ct_of_J [some (vR (some 26)), some (vR (some a1)), some (vR (some 24)), some (vI x3), some (vI x4), some (vR (some 6)), none, none] (by decide) rfl (fun h => by cases h) (Nat.le_of_ble_eq_true rfl) (And.intro rfl (And.intro rfl (And.intro rfl (And.intro rfl (And.intro rfl (And.intro rfl (trivial))))))) ?_
  unfold f5_findShortest
  refine J_aload_n dX5_findShortest_0 rfl rfl ?_
  refine J_iconst (v := nI 0) dX5_findShortest_1 (by decide) ?_
  refine K_putI cf5 flX5_32 (sq 26 rfl) rfl dX5_findShortest_2 ?_
  refine J_ltS (fun S1 _ => ?_)
  refine J_aload_n dX5_findShortest_5 rfl rfl ?_
  refine J_iconst (v := nI 1) dX5_findShortest_6 (by decide) ?_
  refine K_putZ (by decide) cf5 flX5_35 (sq 26 rfl) rfl dX5_findShortest_7 ?_
  refine J_ltS (fun S2 _ => ?_)
  refine J_aload_n dX5_findShortest_10 rfl rfl ?_
  refine K_getR (r := some (27)) cf5 flX5_12 (sq 26 rfl) rfl (Or.inl ⟨_, rfl⟩) dX5_findShortest_11 ?_
  refine K_callV_v (As := []) mcX6_beEmpty mlX5_45 rfl (by decide) (sq 27 rfl) (ct6_beEmpty G t 27 (by decide) S2) rfl rfl (Nat.le_of_ble_eq_true rfl) (by decide) (Nat.le_of_ble_eq_true rfl) dX5_findShortest_14 (fun q3 S4 => ?_)
  refine J_aload_n dX5_findShortest_17 rfl rfl ?_
  refine J_aload_n dX5_findShortest_18 rfl rfl ?_
  refine K_getR (r := some (27)) cf5 flX5_12 (sq 26 rfl) rfl (Or.inl ⟨_, rfl⟩) dX5_findShortest_19 ?_
  refine J_iload_n dX5_findShortest_22 rfl rfl ?_
  refine K_callV_i (As := [vR (some 27), vI x3]) mcX3_follow mlX5_48 rfl (by decide) (sq3_0 h1) (ct3_follow G t N a1 27 x3 h1 (by decide) S4) rfl rfl (Nat.le_of_ble_eq_true rfl) (by decide) (Nat.le_of_ble_eq_true rfl) dX5_findShortest_23 (fun q5 S6 => ?_)
  refine J_istore [some (vR (some 26)), some (vR (some a1)), some (vR (some 24)), some (vI x3), some (vI x4), some (vR (some 6)), some (vI q5), none] dX5_findShortest_26 (Nat.le_of_ble_eq_true rfl) rfl rfl ?_
  refine J_iconst (v := nI 0) dX5_findShortest_28 (by decide) ?_
  refine J_istore [some (vR (some 26)), some (vR (some a1)), some (vR (some 24)), some (vI x3), some (vI x4), some (vR (some 6)), some (vI q5), some (vI (nI 0))] dX5_findShortest_29 (Nat.le_of_ble_eq_true rfl) rfl rfl ?_
  exact J_sb (t5_findShortest_h31 G t N a1 x3 x4 h1 N q5 (nI 0) S6) (And.intro rfl (And.intro rfl (And.intro rfl (And.intro rfl (And.intro rfl (And.intro rfl (And.intro rfl (And.intro rfl (trivial)))))))))
theorem dX5_votesFor_0 : decode cX5_votesFor 0 = .ok (.iload_n 1, 1) := by decide +kernel
theorem dX5_votesFor_1 : decode cX5_votesFor 1 = .ok (.ifCond .lt 21, 3) := by decide +kernel
theorem dX5_votesFor_4 : decode cX5_votesFor 4 = .ok (.iload_n 1, 1) := by decide +kernel
theorem dX5_votesFor_5 : decode cX5_votesFor 5 = .ok (.aload_n 0, 1) := by decide +kernel
theorem dX5_votesFor_6 : decode cX5_votesFor 6 = .ok (.getfield 21, 3) := by decide +kernel
theorem dX5_votesFor_9 : decode cX5_votesFor 9 = .ok (.arraylength, 1) := by decide +kernel
theorem dX5_votesFor_10 : decode cX5_votesFor 10 = .ok (.if_icmp .ge 12, 3) := by decide +kernel
theorem dX5_votesFor_13 : decode cX5_votesFor 13 = .ok (.aload_n 0, 1) := by decide +kernel
theorem dX5_votesFor_14 : decode cX5_votesFor 14 = .ok (.getfield 21, 3) := by decide +kernel
theorem dX5_votesFor_17 : decode cX5_votesFor 17 = .ok (.iload_n 1, 1) := by decide +kernel
theorem dX5_votesFor_18 : decode cX5_votesFor 18 = .ok (.iaload, 1) := by decide +kernel
theorem dX5_votesFor_19 : decode cX5_votesFor 19 = .ok (.goto 4, 3) := by decide +kernel
theorem dX5_votesFor_22 : decode cX5_votesFor 22 = .ok (.iconst 0, 1) := by decide +kernel
theorem dX5_votesFor_23 : decode cX5_votesFor 23 = .ok (.ireturn, 1) := by decide +kernel
set_option maxRecDepth 100000 in
set_option maxHeartbeats 4000000 in
theorem ct5_votesFor (G : Gm) (t : Nat)  (x1 : Int32)  (S : St) : Ct G YX5_votesFor yX5_votesFor 1 0 0 (fI t) (f5_votesFor x1 S) [vR (some 26), vI x1] (MM t S) := by
  refine Ct_of_J [some (vR (some 26)), some (vI x1)] (by decide) rfl (fun h => by cases h) (Nat.le_of_ble_eq_true rfl) (And.intro rfl (And.intro rfl (trivial))) ?_
  unfold f5_votesFor
  refine J_iload_n dX5_votesFor_0 rfl rfl ?_
  refine J_if_lt (tgt := 22) dX5_votesFor_1 (by decide) (fun z1 => ?_) (fun z1 => ?_)
  · refine J_iconst (v := nI 0) dX5_votesFor_22 (by decide) ?_
    exact J_ireturn rfl (Nat.le_refl _) (Nat.le_refl _) rfl dX5_votesFor_23
  · refine J_iload_n dX5_votesFor_4 rfl rfl ?_
    refine J_aload_n dX5_votesFor_5 rfl rfl ?_
    refine K_getR (r := some (31)) cf5 flX5_21 (sq 26 rfl) rfl (Or.inr ⟨_, rfl⟩) dX5_votesFor_6 ?_
    refine K_alen (v := nI 1000) (sq 31 rfl) (by decide) rfl dX5_votesFor_9 ?_
    refine J_icmp_ge (tgt := 22) dX5_votesFor_10 (by decide) (fun z2 => ?_) (fun z2 => ?_)
    · refine J_iconst (v := nI 0) dX5_votesFor_22 (by decide) ?_
      exact J_ireturn rfl (Nat.le_refl _) (Nat.le_refl _) rfl dX5_votesFor_23
    · refine J_aload_n dX5_votesFor_13 rfl rfl ?_
      refine K_getR (r := some (31)) cf5 flX5_21 (sq 26 rfl) rfl (Or.inr ⟨_, rfl⟩) dX5_votesFor_14 ?_
      refine J_iload_n dX5_votesFor_17 rfl rfl ?_
      refine K_iald (sq 31 rfl) dX5_votesFor_18 ?_
      refine J_goto (tgt := 23) dX5_votesFor_19 (by decide) ?_
      exact J_ireturn rfl (Nat.le_refl _) (Nat.le_refl _) rfl dX5_votesFor_23
theorem dX5_most_0 : decode cX5_most 0 = .ok (.bipush (-2), 2) := by decide +kernel
theorem dX5_most_2 : decode cX5_most 2 = .ok (.istore_n 1, 1) := by decide +kernel
theorem dX5_most_3 : decode cX5_most 3 = .ok (.iconst 0, 1) := by decide +kernel
theorem dX5_most_4 : decode cX5_most 4 = .ok (.istore_n 2, 1) := by decide +kernel
theorem dX5_most_5 : decode cX5_most 5 = .ok (.iload_n 2, 1) := by decide +kernel
theorem dX5_most_6 : decode cX5_most 6 = .ok (.aload_n 0, 1) := by decide +kernel
theorem dX5_most_7 : decode cX5_most 7 = .ok (.getfield 21, 3) := by decide +kernel
theorem dX5_most_10 : decode cX5_most 10 = .ok (.arraylength, 1) := by decide +kernel
theorem dX5_most_11 : decode cX5_most 11 = .ok (.if_icmp .ge 25, 3) := by decide +kernel
theorem dX5_most_14 : decode cX5_most 14 = .ok (.aload_n 0, 1) := by decide +kernel
theorem dX5_most_15 : decode cX5_most 15 = .ok (.getfield 21, 3) := by decide +kernel
theorem dX5_most_18 : decode cX5_most 18 = .ok (.iload_n 2, 1) := by decide +kernel
theorem dX5_most_19 : decode cX5_most 19 = .ok (.iaload, 1) := by decide +kernel
theorem dX5_most_20 : decode cX5_most 20 = .ok (.aload_n 0, 1) := by decide +kernel
theorem dX5_most_21 : decode cX5_most 21 = .ok (.iload_n 1, 1) := by decide +kernel
theorem dX5_most_22 : decode cX5_most 22 = .ok (.invokevirtual 97, 3) := by decide +kernel
theorem dX5_most_25 : decode cX5_most 25 = .ok (.if_icmp .le 5, 3) := by decide +kernel
theorem dX5_most_28 : decode cX5_most 28 = .ok (.iload_n 2, 1) := by decide +kernel
theorem dX5_most_29 : decode cX5_most 29 = .ok (.istore_n 1, 1) := by decide +kernel
theorem dX5_most_30 : decode cX5_most 30 = .ok (.iinc 2 1, 3) := by decide +kernel
theorem dX5_most_33 : decode cX5_most 33 = .ok (.goto (-28), 3) := by decide +kernel
theorem dX5_most_36 : decode cX5_most 36 = .ok (.iload_n 1, 1) := by decide +kernel
theorem dX5_most_37 : decode cX5_most 37 = .ok (.ireturn, 1) := by decide +kernel
set_option maxRecDepth 100000 in
set_option maxHeartbeats 4000000 in
theorem t5_most_h5 (G : Gm) (t : Nat) (N : Nat)     : ∀ (n : Nat) (x1 : Int32) (x2 : Int32) (S : St), J G YX5_most 2 0 0 (fI t) 0 0 5 [some (vR (some 26)), some (vI x1), some (vI x2)] [] (MM t S) (f5_most_h5 N n x1 x2 S) := by
  intro n
  induction n with
  | zero => intro x1 x2 S; exact J_none
  | succ n ih =>
    intro x1 x2 S
    rw [f5_most_h5]
    refine J_iload_n dX5_most_5 rfl rfl ?_
    refine J_aload_n dX5_most_6 rfl rfl ?_
    refine K_getR (r := some (31)) cf5 flX5_21 (sq 26 rfl) rfl (Or.inr ⟨_, rfl⟩) dX5_most_7 ?_
    refine K_alen (v := nI 1000) (sq 31 rfl) (by decide) rfl dX5_most_10 ?_
    refine J_icmp_ge (tgt := 36) dX5_most_11 (by decide) (fun z1 => ?_) (fun z1 => ?_)
    · refine J_iload_n dX5_most_36 rfl rfl ?_
      exact J_ireturn rfl (Nat.le_refl _) (Nat.le_refl _) rfl dX5_most_37
    · refine J_aload_n dX5_most_14 rfl rfl ?_
      refine K_getR (r := some (31)) cf5 flX5_21 (sq 26 rfl) rfl (Or.inr ⟨_, rfl⟩) dX5_most_15 ?_
      refine J_iload_n dX5_most_18 rfl rfl ?_
      refine K_iald (sq 31 rfl) dX5_most_19 ?_
      refine J_aload_n dX5_most_20 rfl rfl ?_
      refine J_iload_n dX5_most_21 rfl rfl ?_
      refine K_callV_i (As := [vI x1]) mcX5_votesFor mlX5_97 rfl (by decide) (sq 26 rfl) (ct5_votesFor G t x1 S) rfl rfl (Nat.le_of_ble_eq_true rfl) (by decide) (Nat.le_of_ble_eq_true rfl) dX5_most_22 (fun q2 S3 => ?_)
      refine J_icmp_le (tgt := 30) dX5_most_25 (by decide) (fun z4 => ?_) (fun z4 => ?_)
      · refine J_iinc (v := x2 + nI 1) [some (vR (some 26)), some (vI x1), some (vI (x2 + nI 1))] dX5_most_30 rfl rfl (Nat.le_of_ble_eq_true rfl) rfl rfl ?_
        refine J_goto (tgt := 5) dX5_most_33 (by decide) ?_
        exact J_sb (ih x1 (x2 + nI 1) S3) (And.intro rfl (And.intro rfl (And.intro rfl (trivial))))
      · refine J_iload_n dX5_most_28 rfl rfl ?_
        refine J_istore_n [some (vR (some 26)), some (vI x2), some (vI x2)] dX5_most_29 rfl (Nat.le_of_ble_eq_true rfl) rfl rfl ?_
        refine J_iinc (v := x2 + nI 1) [some (vR (some 26)), some (vI x2), some (vI (x2 + nI 1))] dX5_most_30 rfl rfl (Nat.le_of_ble_eq_true rfl) rfl rfl ?_
        refine J_goto (tgt := 5) dX5_most_33 (by decide) ?_
        exact J_sb (ih x2 (x2 + nI 1) S3) (And.intro rfl (And.intro rfl (And.intro rfl (trivial))))
set_option maxRecDepth 100000 in
set_option maxHeartbeats 4000000 in
theorem ct5_most (G : Gm) (t : Nat) (N : Nat)   (S : St) : Ct G YX5_most yX5_most 2 0 0 (fI t) (f5_most N S) [vR (some 26)] (MM t S) := by
  refine Ct_of_J [some (vR (some 26)), none, none] (by decide) rfl (fun h => by cases h) (Nat.le_of_ble_eq_true rfl) (And.intro rfl (trivial)) ?_
  unfold f5_most
  refine J_bipush (v := (-2)) dX5_most_0 (by decide) ?_
  refine J_istore_n [some (vR (some 26)), some (vI (-2)), none] dX5_most_2 rfl (Nat.le_of_ble_eq_true rfl) rfl rfl ?_
  refine J_iconst (v := nI 0) dX5_most_3 (by decide) ?_
  refine J_istore_n [some (vR (some 26)), some (vI (-2)), some (vI (nI 0))] dX5_most_4 rfl (Nat.le_of_ble_eq_true rfl) rfl rfl ?_
  exact J_sb (t5_most_h5 G t N N (-2) (nI 0) S) (And.intro rfl (And.intro rfl (And.intro rfl (trivial))))
theorem dX5_all_0 : decode cX5_all 0 = .ok (.aload_n 0, 1) := by decide +kernel
theorem dX5_all_1 : decode cX5_all 1 = .ok (.getfield 25, 3) := by decide +kernel
theorem dX5_all_4 : decode cX5_all 4 = .ok (.ireturn, 1) := by decide +kernel
set_option maxRecDepth 100000 in
set_option maxHeartbeats 4000000 in
theorem ct5_all (G : Gm) (t : Nat)    (S : St) : Ct G YX5_all yX5_all 1 0 0 (fI t) (f5_all S) [vR (some 26)] (MM t S) := by
  refine Ct_of_J [some (vR (some 26))] (by decide) rfl (fun h => by cases h) (Nat.le_of_ble_eq_true rfl) (And.intro rfl (trivial)) ?_
  unfold f5_all
  refine J_aload_n dX5_all_0 rfl rfl ?_
  refine K_getI cf5 flX5_25 (sq 26 rfl) (Or.inl rfl) dX5_all_1 ?_
  exact J_ireturn rfl (Nat.le_refl _) (Nat.le_refl _) rfl dX5_all_4
theorem dX5_open_0 : decode cX5_open 0 = .ok (.aload_n 0, 1) := by decide +kernel
theorem dX5_open_1 : decode cX5_open 1 = .ok (.getfield 29, 3) := by decide +kernel
theorem dX5_open_4 : decode cX5_open 4 = .ok (.ireturn, 1) := by decide +kernel
set_option maxRecDepth 100000 in
set_option maxHeartbeats 4000000 in
theorem ct5_open (G : Gm) (t : Nat)    (S : St) : Ct G YX5_open yX5_open 1 0 0 (fI t) (f5_open S) [vR (some 26)] (MM t S) := by
  refine Ct_of_J [some (vR (some 26))] (by decide) rfl (fun h => by cases h) (Nat.le_of_ble_eq_true rfl) (And.intro rfl (trivial)) ?_
  unfold f5_open
  refine J_aload_n dX5_open_0 rfl rfl ?_
  refine K_getI cf5 flX5_29 (sq 26 rfl) (Or.inl rfl) dX5_open_1 ?_
  exact J_ireturn rfl (Nat.le_refl _) (Nat.le_refl _) rfl dX5_open_4
theorem dX5_howManyJust_0 : decode cX5_howManyJust 0 = .ok (.aload_n 0, 1) := by decide +kernel
theorem dX5_howManyJust_1 : decode cX5_howManyJust 1 = .ok (.getfield 32, 3) := by decide +kernel
theorem dX5_howManyJust_4 : decode cX5_howManyJust 4 = .ok (.ireturn, 1) := by decide +kernel
set_option maxRecDepth 100000 in
set_option maxHeartbeats 4000000 in
theorem ct5_howManyJust (G : Gm) (t : Nat)    (S : St) : Ct G YX5_howManyJust yX5_howManyJust 1 0 0 (fI t) (f5_howManyJust S) [vR (some 26)] (MM t S) := by
  refine Ct_of_J [some (vR (some 26))] (by decide) rfl (fun h => by cases h) (Nat.le_of_ble_eq_true rfl) (And.intro rfl (trivial)) ?_
  unfold f5_howManyJust
  refine J_aload_n dX5_howManyJust_0 rfl rfl ?_
  refine K_getI cf5 flX5_32 (sq 26 rfl) (Or.inl rfl) dX5_howManyJust_1 ?_
  exact J_ireturn rfl (Nat.le_refl _) (Nat.le_refl _) rfl dX5_howManyJust_4
theorem dX5_isShown_0 : decode cX5_isShown 0 = .ok (.aload_n 0, 1) := by decide +kernel
theorem dX5_isShown_1 : decode cX5_isShown 1 = .ok (.getfield 35, 3) := by decide +kernel
theorem dX5_isShown_4 : decode cX5_isShown 4 = .ok (.ireturn, 1) := by decide +kernel
set_option maxRecDepth 100000 in
set_option maxHeartbeats 4000000 in
theorem ct5_isShown (G : Gm) (t : Nat)    (S : St) : Ct G YX5_isShown yX5_isShown 1 0 0 (fI t) (f5_isShown S) [vR (some 26)] (MM t S) := by
  refine Ct_of_J [some (vR (some 26))] (by decide) rfl (fun h => by cases h) (Nat.le_of_ble_eq_true rfl) (And.intro rfl (trivial)) ?_
  unfold f5_isShown
  refine J_aload_n dX5_isShown_0 rfl rfl ?_
  refine K_getI cf5 flX5_35 (sq 26 rfl) (Or.inr rfl) dX5_isShown_1 ?_
  refine J_ckB (fun hz => ?_)
  exact J_zreturn hz rfl (Nat.le_refl _) (Nat.le_refl _) rfl dX5_isShown_4
theorem dX5_shortestOne_0 : decode cX5_shortestOne 0 = .ok (.aload_n 0, 1) := by decide +kernel
theorem dX5_shortestOne_1 : decode cX5_shortestOne 1 = .ok (.getfield 18, 3) := by decide +kernel
theorem dX5_shortestOne_4 : decode cX5_shortestOne 4 = .ok (.areturn, 1) := by decide +kernel
set_option maxRecDepth 100000 in
set_option maxHeartbeats 4000000 in
theorem ct5_shortestOne (G : Gm) (t : Nat)    (S : St) : Ct G YX5_shortestOne yX5_shortestOne 1 0 0 (fR t) (f5_shortestOne S) [vR (some 26)] (MM t S) := by
  refine Ct_of_J [some (vR (some 26))] (by decide) rfl (fun h => by cases h) (Nat.le_of_ble_eq_true rfl) (And.intro rfl (trivial)) ?_
  unfold f5_shortestOne
  refine J_aload_n dX5_shortestOne_0 rfl rfl ?_
  refine K_getR (r := some (29)) cf5 flX5_18 (sq 26 rfl) rfl (Or.inl ⟨_, rfl⟩) dX5_shortestOne_1 ?_
  exact J_areturn rfl (Nat.le_refl _) (Nat.le_refl _) rfl dX5_shortestOne_4
theorem dX7_stepsIn_0 : decode cX7_stepsIn 0 = .ok (.iload_n 0, 1) := by decide +kernel
theorem dX7_stepsIn_1 : decode cX7_stepsIn 1 = .ok (.iload_n 1, 1) := by decide +kernel
theorem dX7_stepsIn_2 : decode cX7_stepsIn 2 = .ok (.isub, 1) := by decide +kernel
theorem dX7_stepsIn_3 : decode cX7_stepsIn 3 = .ok (.istore_n 2, 1) := by decide +kernel
theorem dX7_stepsIn_4 : decode cX7_stepsIn 4 = .ok (.iload_n 2, 1) := by decide +kernel
theorem dX7_stepsIn_5 : decode cX7_stepsIn 5 = .ok (.ifCond .lt 9, 3) := by decide +kernel
theorem dX7_stepsIn_8 : decode cX7_stepsIn 8 = .ok (.iload_n 2, 1) := by decide +kernel
theorem dX7_stepsIn_9 : decode cX7_stepsIn 9 = .ok (.bipush 14, 2) := by decide +kernel
theorem dX7_stepsIn_11 : decode cX7_stepsIn 11 = .ok (.if_icmp .le 7, 3) := by decide +kernel
theorem dX7_stepsIn_14 : decode cX7_stepsIn 14 = .ok (.iconst 0, 1) := by decide +kernel
theorem dX7_stepsIn_15 : decode cX7_stepsIn 15 = .ok (.goto 6, 3) := by decide +kernel
theorem dX7_stepsIn_18 : decode cX7_stepsIn 18 = .ok (.iconst 1, 1) := by decide +kernel
theorem dX7_stepsIn_19 : decode cX7_stepsIn 19 = .ok (.iload_n 2, 1) := by decide +kernel
theorem dX7_stepsIn_20 : decode cX7_stepsIn 20 = .ok (.ishl, 1) := by decide +kernel
theorem dX7_stepsIn_21 : decode cX7_stepsIn 21 = .ok (.ireturn, 1) := by decide +kernel
set_option maxRecDepth 100000 in
set_option maxHeartbeats 4000000 in
theorem ct7_stepsIn (G : Gm) (t : Nat)  (x0 : Int32) (x1 : Int32)  (S : St) : Ct G YX7_stepsIn yX7_stepsIn 1 0 0 (fI t) (f7_stepsIn x0 x1 S) [vI x0, vI x1] (MM t S) := by
  refine Ct_of_J [some (vI x0), some (vI x1), none] (by decide) rfl (fun h => by cases h) (Nat.le_of_ble_eq_true rfl) (And.intro rfl (And.intro rfl (trivial))) ?_
  unfold f7_stepsIn
  refine J_iload_n dX7_stepsIn_0 rfl rfl ?_
  refine J_iload_n dX7_stepsIn_1 rfl rfl ?_
  refine J_isub dX7_stepsIn_2 ?_
  refine J_ltI (fun v1 _ => ?_)
  refine J_istore_n [some (vI x0), some (vI x1), some (vI v1)] dX7_stepsIn_3 rfl (Nat.le_of_ble_eq_true rfl) rfl rfl ?_
  refine J_iload_n dX7_stepsIn_4 rfl rfl ?_
  refine J_if_lt (tgt := 14) dX7_stepsIn_5 (by decide) (fun z2 => ?_) (fun z2 => ?_)
  · refine J_iconst (v := nI 0) dX7_stepsIn_14 (by decide) ?_
    refine J_goto (tgt := 21) dX7_stepsIn_15 (by decide) ?_
    exact J_ireturn rfl (Nat.le_refl _) (Nat.le_refl _) rfl dX7_stepsIn_21
  · refine J_iload_n dX7_stepsIn_8 rfl rfl ?_
    refine J_bipush (v := nI 14) dX7_stepsIn_9 (by decide) ?_
    refine J_icmp_le (tgt := 18) dX7_stepsIn_11 (by decide) (fun z3 => ?_) (fun z3 => ?_)
    · refine J_iconst (v := nI 1) dX7_stepsIn_18 (by decide) ?_
      refine J_iload_n dX7_stepsIn_19 rfl rfl ?_
      refine J_ishl dX7_stepsIn_20 ?_
      exact J_ireturn rfl (Nat.le_refl _) (Nat.le_refl _) rfl dX7_stepsIn_21
    · refine J_iconst (v := nI 0) dX7_stepsIn_14 (by decide) ?_
      refine J_goto (tgt := 21) dX7_stepsIn_15 (by decide) ?_
      exact J_ireturn rfl (Nat.le_refl _) (Nat.le_refl _) rfl dX7_stepsIn_21
theorem dX7_phaseOf_0 : decode cX7_phaseOf 0 = .ok (.iload_n 0, 1) := by decide +kernel
theorem dX7_phaseOf_1 : decode cX7_phaseOf 1 = .ok (.istore_n 2, 1) := by decide +kernel
theorem dX7_phaseOf_2 : decode cX7_phaseOf 2 = .ok (.iload_n 2, 1) := by decide +kernel
theorem dX7_phaseOf_3 : decode cX7_phaseOf 3 = .ok (.bipush 14, 2) := by decide +kernel
theorem dX7_phaseOf_5 : decode cX7_phaseOf 5 = .ok (.if_icmp .ge 18, 3) := by decide +kernel
theorem dX7_phaseOf_8 : decode cX7_phaseOf 8 = .ok (.iload_n 2, 1) := by decide +kernel
theorem dX7_phaseOf_9 : decode cX7_phaseOf 9 = .ok (.iload_n 0, 1) := by decide +kernel
theorem dX7_phaseOf_10 : decode cX7_phaseOf 10 = .ok (.invokestatic 74, 3) := by decide +kernel
theorem dX7_phaseOf_13 : decode cX7_phaseOf 13 = .ok (.iload_n 1, 1) := by decide +kernel
theorem dX7_phaseOf_14 : decode cX7_phaseOf 14 = .ok (.if_icmp .ge 9, 3) := by decide +kernel
theorem dX7_phaseOf_17 : decode cX7_phaseOf 17 = .ok (.iinc 2 1, 3) := by decide +kernel
theorem dX7_phaseOf_20 : decode cX7_phaseOf 20 = .ok (.goto (-18), 3) := by decide +kernel
theorem dX7_phaseOf_23 : decode cX7_phaseOf 23 = .ok (.iload_n 2, 1) := by decide +kernel
theorem dX7_phaseOf_24 : decode cX7_phaseOf 24 = .ok (.ireturn, 1) := by decide +kernel
set_option maxRecDepth 100000 in
set_option maxHeartbeats 4000000 in
theorem t7_phaseOf_h2 (G : Gm) (t : Nat) (N : Nat) (x0 : Int32) (x1 : Int32)    : ∀ (n : Nat) (x2 : Int32) (S : St), J G YX7_phaseOf 2 0 0 (fI t) 0 0 2 [some (vI x0), some (vI x1), some (vI x2)] [] (MM t S) (f7_phaseOf_h2 N x0 x1 n x2 S) := by
  intro n
  induction n with
  | zero => intro x2 S; exact J_none
  | succ n ih =>
    intro x2 S
    rw [f7_phaseOf_h2]
    refine J_iload_n dX7_phaseOf_2 rfl rfl ?_
    refine J_bipush (v := nI 14) dX7_phaseOf_3 (by decide) ?_
    refine J_icmp_ge (tgt := 23) dX7_phaseOf_5 (by decide) (fun z1 => ?_) (fun z1 => ?_)
    · refine J_iload_n dX7_phaseOf_23 rfl rfl ?_
      exact J_ireturn rfl (Nat.le_refl _) (Nat.le_refl _) rfl dX7_phaseOf_24
    · refine J_iload_n dX7_phaseOf_8 rfl rfl ?_
      refine J_iload_n dX7_phaseOf_9 rfl rfl ?_
      refine K_callS_i (As := [vI x2, vI x0]) mcX7_stepsIn mlX7_74 (ct7_stepsIn G t x2 x0 S) rfl rfl (Nat.le_of_ble_eq_true rfl) (by decide) (Nat.le_of_ble_eq_true rfl) dX7_phaseOf_10 (fun q2 S3 => ?_)
      refine J_iload_n dX7_phaseOf_13 rfl rfl ?_
      refine J_icmp_ge (tgt := 23) dX7_phaseOf_14 (by decide) (fun z4 => ?_) (fun z4 => ?_)
      · refine J_iload_n dX7_phaseOf_23 rfl rfl ?_
        exact J_ireturn rfl (Nat.le_refl _) (Nat.le_refl _) rfl dX7_phaseOf_24
      · refine J_iinc (v := x2 + nI 1) [some (vI x0), some (vI x1), some (vI (x2 + nI 1))] dX7_phaseOf_17 rfl rfl (Nat.le_of_ble_eq_true rfl) rfl rfl ?_
        refine J_goto (tgt := 2) dX7_phaseOf_20 (by decide) ?_
        exact J_sb (ih (x2 + nI 1) S3) (And.intro rfl (And.intro rfl (And.intro rfl (trivial))))
set_option maxRecDepth 100000 in
set_option maxHeartbeats 4000000 in
theorem ct7_phaseOf (G : Gm) (t : Nat) (N : Nat) (x0 : Int32) (x1 : Int32)  (S : St) : Ct G YX7_phaseOf yX7_phaseOf 2 0 0 (fI t) (f7_phaseOf N x0 x1 S) [vI x0, vI x1] (MM t S) := by
  refine Ct_of_J [some (vI x0), some (vI x1), none] (by decide) rfl (fun h => by cases h) (Nat.le_of_ble_eq_true rfl) (And.intro rfl (And.intro rfl (trivial))) ?_
  unfold f7_phaseOf
  refine J_iload_n dX7_phaseOf_0 rfl rfl ?_
  refine J_istore_n [some (vI x0), some (vI x1), some (vI x0)] dX7_phaseOf_1 rfl (Nat.le_of_ble_eq_true rfl) rfl rfl ?_
  exact J_sb (t7_phaseOf_h2 G t N x0 x1 N x0 S) (And.intro rfl (And.intro rfl (And.intro rfl (trivial))))
theorem dX7_findAnswer_0 : decode cX7_findAnswer 0 = .ok (.aload_n 0, 1) := by decide +kernel
theorem dX7_findAnswer_1 : decode cX7_findAnswer 1 = .ok (.iconst 0, 1) := by decide +kernel
theorem dX7_findAnswer_2 : decode cX7_findAnswer 2 = .ok (.putfield 21, 3) := by decide +kernel
theorem dX7_findAnswer_5 : decode cX7_findAnswer 5 = .ok (.aload_n 0, 1) := by decide +kernel
theorem dX7_findAnswer_6 : decode cX7_findAnswer 6 = .ok (.iload_n 3, 1) := by decide +kernel
theorem dX7_findAnswer_7 : decode cX7_findAnswer 7 = .ok (.iconst 1, 1) := by decide +kernel
theorem dX7_findAnswer_8 : decode cX7_findAnswer 8 = .ok (.iadd, 1) := by decide +kernel
theorem dX7_findAnswer_9 : decode cX7_findAnswer 9 = .ok (.putfield 25, 3) := by decide +kernel
theorem dX7_findAnswer_12 : decode cX7_findAnswer 12 = .ok (.aload_n 0, 1) := by decide +kernel
theorem dX7_findAnswer_13 : decode cX7_findAnswer 13 = .ok (.getfield 12, 3) := by decide +kernel
theorem dX7_findAnswer_16 : decode cX7_findAnswer 16 = .ok (.invokevirtual 58, 3) := by decide +kernel
theorem dX7_findAnswer_19 : decode cX7_findAnswer 19 = .ok (.aload_n 1, 1) := by decide +kernel
theorem dX7_findAnswer_20 : decode cX7_findAnswer 20 = .ok (.aload_n 0, 1) := by decide +kernel
theorem dX7_findAnswer_21 : decode cX7_findAnswer 21 = .ok (.getfield 12, 3) := by decide +kernel
theorem dX7_findAnswer_24 : decode cX7_findAnswer 24 = .ok (.aload_n 0, 1) := by decide +kernel
theorem dX7_findAnswer_25 : decode cX7_findAnswer 25 = .ok (.getfield 25, 3) := by decide +kernel
theorem dX7_findAnswer_28 : decode cX7_findAnswer 28 = .ok (.iconst 1, 1) := by decide +kernel
theorem dX7_findAnswer_29 : decode cX7_findAnswer 29 = .ok (.isub, 1) := by decide +kernel
theorem dX7_findAnswer_30 : decode cX7_findAnswer 30 = .ok (.invokevirtual 61, 3) := by decide +kernel
theorem dX7_findAnswer_33 : decode cX7_findAnswer 33 = .ok (.istore 5, 2) := by decide +kernel
theorem dX7_findAnswer_35 : decode cX7_findAnswer 35 = .ok (.iconst 0, 1) := by decide +kernel
theorem dX7_findAnswer_36 : decode cX7_findAnswer 36 = .ok (.istore 6, 2) := by decide +kernel
theorem dX7_findAnswer_38 : decode cX7_findAnswer 38 = .ok (.iload 6, 2) := by decide +kernel
theorem dX7_findAnswer_40 : decode cX7_findAnswer 40 = .ok (.ldc 67, 2) := by decide +kernel
theorem dX7_findAnswer_42 : decode cX7_findAnswer 42 = .ok (.if_icmp .ge 113, 3) := by decide +kernel
theorem dX7_findAnswer_45 : decode cX7_findAnswer 45 = .ok (.iload 5, 2) := by decide +kernel
theorem dX7_findAnswer_47 : decode cX7_findAnswer 47 = .ok (.ifCond .le 108, 3) := by decide +kernel
theorem dX7_findAnswer_50 : decode cX7_findAnswer 50 = .ok (.aload 4, 2) := by decide +kernel
theorem dX7_findAnswer_52 : decode cX7_findAnswer 52 = .ok (.aload_n 1, 1) := by decide +kernel
theorem dX7_findAnswer_53 : decode cX7_findAnswer 53 = .ok (.aload_n 0, 1) := by decide +kernel
theorem dX7_findAnswer_54 : decode cX7_findAnswer 54 = .ok (.getfield 12, 3) := by decide +kernel
theorem dX7_findAnswer_57 : decode cX7_findAnswer 57 = .ok (.aload_n 2, 1) := by decide +kernel
theorem dX7_findAnswer_58 : decode cX7_findAnswer 58 = .ok (.invokevirtual 48, 3) := by decide +kernel
theorem dX7_findAnswer_61 : decode cX7_findAnswer 61 = .ok (.invokevirtual 68, 3) := by decide +kernel
theorem dX7_findAnswer_64 : decode cX7_findAnswer 64 = .ok (.aload 4, 2) := by decide +kernel
theorem dX7_findAnswer_66 : decode cX7_findAnswer 66 = .ok (.aload_n 0, 1) := by decide +kernel
theorem dX7_findAnswer_67 : decode cX7_findAnswer 67 = .ok (.getfield 25, 3) := by decide +kernel
theorem dX7_findAnswer_70 : decode cX7_findAnswer 70 = .ok (.iconst 1, 1) := by decide +kernel
theorem dX7_findAnswer_71 : decode cX7_findAnswer 71 = .ok (.isub, 1) := by decide +kernel
theorem dX7_findAnswer_72 : decode cX7_findAnswer 72 = .ok (.iload 5, 2) := by decide +kernel
theorem dX7_findAnswer_74 : decode cX7_findAnswer 74 = .ok (.invokestatic 74, 3) := by decide +kernel
theorem dX7_findAnswer_77 : decode cX7_findAnswer 77 = .ok (.invokevirtual 78, 3) := by decide +kernel
theorem dX7_findAnswer_80 : decode cX7_findAnswer 80 = .ok (.aload_n 2, 1) := by decide +kernel
theorem dX7_findAnswer_81 : decode cX7_findAnswer 81 = .ok (.aload 4, 2) := by decide +kernel
theorem dX7_findAnswer_83 : decode cX7_findAnswer 83 = .ok (.invokevirtual 82, 3) := by decide +kernel
theorem dX7_findAnswer_86 : decode cX7_findAnswer 86 = .ok (.ifCond .eq 47, 3) := by decide +kernel
theorem dX7_findAnswer_89 : decode cX7_findAnswer 89 = .ok (.aload_n 0, 1) := by decide +kernel
theorem dX7_findAnswer_90 : decode cX7_findAnswer 90 = .ok (.iconst 1, 1) := by decide +kernel
theorem dX7_findAnswer_91 : decode cX7_findAnswer 91 = .ok (.putfield 21, 3) := by decide +kernel
theorem dX7_findAnswer_94 : decode cX7_findAnswer 94 = .ok (.aload_n 0, 1) := by decide +kernel
theorem dX7_findAnswer_95 : decode cX7_findAnswer 95 = .ok (.getfield 18, 3) := by decide +kernel
theorem dX7_findAnswer_98 : decode cX7_findAnswer 98 = .ok (.aload_n 0, 1) := by decide +kernel
theorem dX7_findAnswer_99 : decode cX7_findAnswer 99 = .ok (.getfield 12, 3) := by decide +kernel
theorem dX7_findAnswer_102 : decode cX7_findAnswer 102 = .ok (.invokevirtual 86, 3) := by decide +kernel
theorem dX7_findAnswer_105 : decode cX7_findAnswer 105 = .ok (.aload_n 0, 1) := by decide +kernel
theorem dX7_findAnswer_106 : decode cX7_findAnswer 106 = .ok (.iload 5, 2) := by decide +kernel
theorem dX7_findAnswer_108 : decode cX7_findAnswer 108 = .ok (.putfield 32, 3) := by decide +kernel
theorem dX7_findAnswer_111 : decode cX7_findAnswer 111 = .ok (.aload_n 0, 1) := by decide +kernel
theorem dX7_findAnswer_112 : decode cX7_findAnswer 112 = .ok (.aload 4, 2) := by decide +kernel
theorem dX7_findAnswer_114 : decode cX7_findAnswer 114 = .ok (.invokevirtual 90, 3) := by decide +kernel
theorem dX7_findAnswer_117 : decode cX7_findAnswer 117 = .ok (.putfield 29, 3) := by decide +kernel
theorem dX7_findAnswer_120 : decode cX7_findAnswer 120 = .ok (.aload_n 0, 1) := by decide +kernel
theorem dX7_findAnswer_121 : decode cX7_findAnswer 121 = .ok (.iload 5, 2) := by decide +kernel
theorem dX7_findAnswer_123 : decode cX7_findAnswer 123 = .ok (.aload_n 0, 1) := by decide +kernel
theorem dX7_findAnswer_124 : decode cX7_findAnswer 124 = .ok (.getfield 29, 3) := by decide +kernel
theorem dX7_findAnswer_127 : decode cX7_findAnswer 127 = .ok (.invokestatic 93, 3) := by decide +kernel
theorem dX7_findAnswer_130 : decode cX7_findAnswer 130 = .ok (.putfield 25, 3) := by decide +kernel
theorem dX7_findAnswer_133 : decode cX7_findAnswer 133 = .ok (.aload_n 1, 1) := by decide +kernel
theorem dX7_findAnswer_134 : decode cX7_findAnswer 134 = .ok (.aload_n 0, 1) := by decide +kernel
theorem dX7_findAnswer_135 : decode cX7_findAnswer 135 = .ok (.getfield 12, 3) := by decide +kernel
theorem dX7_findAnswer_138 : decode cX7_findAnswer 138 = .ok (.aload_n 0, 1) := by decide +kernel
theorem dX7_findAnswer_139 : decode cX7_findAnswer 139 = .ok (.getfield 25, 3) := by decide +kernel
theorem dX7_findAnswer_142 : decode cX7_findAnswer 142 = .ok (.iconst 1, 1) := by decide +kernel
theorem dX7_findAnswer_143 : decode cX7_findAnswer 143 = .ok (.isub, 1) := by decide +kernel
theorem dX7_findAnswer_144 : decode cX7_findAnswer 144 = .ok (.invokevirtual 61, 3) := by decide +kernel
theorem dX7_findAnswer_147 : decode cX7_findAnswer 147 = .ok (.istore 5, 2) := by decide +kernel
theorem dX7_findAnswer_149 : decode cX7_findAnswer 149 = .ok (.iinc 6 1, 3) := by decide +kernel
theorem dX7_findAnswer_152 : decode cX7_findAnswer 152 = .ok (.goto (-114), 3) := by decide +kernel
theorem dX7_findAnswer_155 : decode cX7_findAnswer 155 = .ok (.return_, 1) := by decide +kernel
set_option maxRecDepth 100000 in
set_option maxHeartbeats 4000000 in
theorem t7_findAnswer_j133 (G : Gm) (t : Nat) (N : Nat) (a0 : Nat) (a1 : Nat) (a2 : Nat) (x6 : Int32) (h0 : a0 ∈ ad7) (h1 : a1 ∈ ad3) (h2 : a2 ∈ ad1) (k38 : Int32 → Int32 → St → Option (Unit × St)) (hk38 : ∀ (yx5 : Int32) (yx6 : Int32) (S : St), J G YX7_findAnswer 6 0 0 (fV t) 0 0 38 [some (vR (some a0)), some (vR (some a1)), some (vR (some a2)), none, some (vR (some 6)), some (vI yx5), some (vI yx6)] [] (MM t S) (k38 yx5 yx6 S)) : ∀  (S : St), J G YX7_findAnswer 6 0 0 (fV t) 0 0 133 [some (vR (some a0)), some (vR (some a1)), some (vR (some a2)), none, some (vR (some 6)), none, some (vI x6)] [] (MM t S) (f7_findAnswer_j133 N a0 a1 a2 x6 k38 S) := by
  intro S
  unfold f7_findAnswer_j133
  refine J_aload_n dX7_findAnswer_133 rfl rfl ?_
  refine J_aload_n dX7_findAnswer_134 rfl rfl ?_
  refine K_getR (r := some (a0 + 1)) cf7 flX7_12 (sq7_0 h0) (rq7_0 h0) (Or.inl ⟨_, rfl⟩) dX7_findAnswer_135 ?_
  refine J_aload_n dX7_findAnswer_138 rfl rfl ?_
  refine K_getI cf7 flX7_25 (sq7_0 h0) (Or.inl rfl) dX7_findAnswer_139 ?_
  refine J_iconst (v := nI 1) dX7_findAnswer_142 (by decide) ?_
  refine J_isub dX7_findAnswer_143 ?_
  refine K_callV_i (As := [vR (some (a0 + 1)), vI ((S.1 a0 3) - (nI 1))]) mcX3_follow mlX7_61 rfl (by decide) (sq3_0 h1) (ct3_follow G t N a1 (a0 + 1) ((S.1 a0 3) - (nI 1)) h1 (mf7_0 h0) S) rfl rfl (Nat.le_of_ble_eq_true rfl) (by decide) (Nat.le_of_ble_eq_true rfl) dX7_findAnswer_144 (fun q1 S2 => ?_)
  refine J_istore [some (vR (some a0)), some (vR (some a1)), some (vR (some a2)), none, some (vR (some 6)), some (vI q1), some (vI x6)] dX7_findAnswer_147 (Nat.le_of_ble_eq_true rfl) rfl rfl ?_
  refine J_iinc (v := x6 + nI 1) [some (vR (some a0)), some (vR (some a1)), some (vR (some a2)), none, some (vR (some 6)), some (vI q1), some (vI (x6 + nI 1))] dX7_findAnswer_149 rfl rfl (Nat.le_of_ble_eq_true rfl) rfl rfl ?_
  refine J_goto (tgt := 38) dX7_findAnswer_152 (by decide) ?_
  exact J_sb (hk38 q1 (x6 + nI 1) S2) (And.intro rfl (And.intro rfl (And.intro rfl (And.intro rfl (And.intro rfl (And.intro rfl (trivial)))))))
set_option maxRecDepth 100000 in
set_option maxHeartbeats 4000000 in
theorem t7_findAnswer_h38 (G : Gm) (t : Nat) (N : Nat) (a0 : Nat) (a1 : Nat) (a2 : Nat) (h0 : a0 ∈ ad7) (h1 : a1 ∈ ad3) (h2 : a2 ∈ ad1)   : ∀ (n : Nat) (x5 : Int32) (x6 : Int32) (S : St), J G YX7_findAnswer 6 0 0 (fV t) 0 0 38 [some (vR (some a0)), some (vR (some a1)), some (vR (some a2)), none, some (vR (some 6)), some (vI x5), some (vI x6)] [] (MM t S) (f7_findAnswer_h38 N a0 a1 a2 n x5 x6 S) := by
  intro n
  induction n with
  | zero => intro x5 x6 S; exact J_none
  | succ n ih =>
    intro x5 x6 S
    rw [f7_findAnswer_h38]
    refine J_iload dX7_findAnswer_38 rfl ?_
    refine J_ldc (v := nI 1000000) wX7_67 dX7_findAnswer_40 ?_
    refine J_icmp_ge (tgt := 155) dX7_findAnswer_42 (by decide) (fun z1 => ?_) (fun z1 => ?_)
    · exact J_return rfl (Nat.le_refl _) (Nat.le_refl _) rfl dX7_findAnswer_155
    · refine J_iload dX7_findAnswer_45 rfl ?_
      refine J_if_le (tgt := 155) dX7_findAnswer_47 (by decide) (fun z2 => ?_) (fun z2 => ?_)
      · exact J_return rfl (Nat.le_refl _) (Nat.le_refl _) rfl dX7_findAnswer_155
      · refine J_aload dX7_findAnswer_50 rfl ?_
        refine J_aload_n dX7_findAnswer_52 rfl rfl ?_
        refine J_aload_n dX7_findAnswer_53 rfl rfl ?_
        refine K_getR (r := some (a0 + 1)) cf7 flX7_12 (sq7_0 h0) (rq7_0 h0) (Or.inl ⟨_, rfl⟩) dX7_findAnswer_54 ?_
        refine J_aload_n dX7_findAnswer_57 rfl rfl ?_
        refine K_callV_i (As := []) mcX1_input mlX7_48 rfl (by decide) (sq1_0 h2) (ct1_input G t a2 h2 S) rfl rfl (Nat.le_of_ble_eq_true rfl) (by decide) (Nat.le_of_ble_eq_true rfl) dX7_findAnswer_58 (fun q3 S4 => ?_)
        refine K_callV_v (As := [vR (some a1), vR (some (a0 + 1)), vI q3]) mcX4_start mlX7_68 rfl (by decide) (sq 6 rfl) (ct4_start G t N a1 (a0 + 1) q3 h1 (mf7_0 h0) S4) rfl rfl (Nat.le_of_ble_eq_true rfl) (by decide) (Nat.le_of_ble_eq_true rfl) dX7_findAnswer_61 (fun q5 S6 => ?_)
        refine J_aload dX7_findAnswer_64 rfl ?_
        refine J_aload_n dX7_findAnswer_66 rfl rfl ?_
        refine K_getI cf7 flX7_25 (sq7_0 h0) (Or.inl rfl) dX7_findAnswer_67 ?_
        refine J_iconst (v := nI 1) dX7_findAnswer_70 (by decide) ?_
        refine J_isub dX7_findAnswer_71 ?_
        refine J_iload dX7_findAnswer_72 rfl ?_
        refine K_callS_i (As := [vI ((S6.1 a0 3) - (nI 1)), vI x5]) mcX7_stepsIn mlX7_74 (ct7_stepsIn G t ((S6.1 a0 3) - (nI 1)) x5 S6) rfl rfl (Nat.le_of_ble_eq_true rfl) (by decide) (Nat.le_of_ble_eq_true rfl) dX7_findAnswer_74 (fun q7 S8 => ?_)
        refine K_callV_v (As := [vI q7]) mcX4_goOn mlX7_78 rfl (by decide) (sq 6 rfl) (ct4_goOn G t N q7 S8) rfl rfl (Nat.le_of_ble_eq_true rfl) (by decide) (Nat.le_of_ble_eq_true rfl) dX7_findAnswer_77 (fun q9 S10 => ?_)
        refine J_aload_n dX7_findAnswer_80 rfl rfl ?_
        refine J_aload dX7_findAnswer_81 rfl ?_
        refine K_callV_i (As := [vR (some 6)]) mcX1_isPassedBy mlX7_82 rfl (by decide) (sq1_0 h2) (ct1_isPassedBy G t N a2 h2 S10) rfl rfl (Nat.le_of_ble_eq_true rfl) (by decide) (Nat.le_of_ble_eq_true rfl) dX7_findAnswer_83 (fun q11 S12 => ?_)
        refine J_if_eq (tgt := 133) dX7_findAnswer_86 (by decide) (fun z13 => ?_) (fun z13 => ?_)
        · exact J_sb (t7_findAnswer_j133 G t N a0 a1 a2 x6 h0 h1 h2 (f7_findAnswer_h38 N a0 a1 a2 n) ih S12) (And.intro rfl (And.intro rfl (And.intro rfl (And.intro rfl (And.intro rfl (trivial))))))
        · refine J_aload_n dX7_findAnswer_89 rfl rfl ?_
          refine J_iconst (v := nI 1) dX7_findAnswer_90 (by decide) ?_
          refine K_putZ (by decide) cf7 flX7_21 (sq7_0 h0) rfl dX7_findAnswer_91 ?_
          refine J_ltS (fun S14 _ => ?_)
          refine J_aload_n dX7_findAnswer_94 rfl rfl ?_
          refine K_getR (r := some (a0 + 3)) cf7 flX7_18 (sq7_0 h0) (rq7_1 h0) (Or.inl ⟨_, rfl⟩) dX7_findAnswer_95 ?_
          refine J_aload_n dX7_findAnswer_98 rfl rfl ?_
          refine K_getR (r := some (a0 + 1)) cf7 flX7_12 (sq7_0 h0) (rq7_0 h0) (Or.inl ⟨_, rfl⟩) dX7_findAnswer_99 ?_
          refine K_callV_v (As := [vR (some (a0 + 1))]) mcX6_become mlX7_86 rfl (by decide) (sq6_0 (mf7_1 h0)) (ct6_become G t (a0 + 3) (a0 + 1) (mf7_1 h0) (mf7_0 h0) S14) rfl rfl (Nat.le_of_ble_eq_true rfl) (by decide) (Nat.le_of_ble_eq_true rfl) dX7_findAnswer_102 (fun q15 S16 => ?_)
          refine J_aload_n dX7_findAnswer_105 rfl rfl ?_
          refine J_iload dX7_findAnswer_106 rfl ?_
          refine K_putI cf7 flX7_32 (sq7_0 h0) rfl dX7_findAnswer_108 ?_
          refine J_ltS (fun S17 _ => ?_)
          refine J_aload_n dX7_findAnswer_111 rfl rfl ?_
          refine J_aload dX7_findAnswer_112 rfl ?_
          refine K_callV_i (As := []) mcX4_steps mlX7_90 rfl (by decide) (sq 6 rfl) (ct4_steps G t S17) rfl rfl (Nat.le_of_ble_eq_true rfl) (by decide) (Nat.le_of_ble_eq_true rfl) dX7_findAnswer_114 (fun q18 S19 => ?_)
          refine K_putI cf7 flX7_29 (sq7_0 h0) rfl dX7_findAnswer_117 ?_
          refine J_ltS (fun S20 _ => ?_)
          refine J_aload_n dX7_findAnswer_120 rfl rfl ?_
          refine J_iload dX7_findAnswer_121 rfl ?_
          refine J_aload_n dX7_findAnswer_123 rfl rfl ?_
          refine K_getI cf7 flX7_29 (sq7_0 h0) (Or.inl rfl) dX7_findAnswer_124 ?_
          refine K_callS_i (As := [vI x5, vI (S20.1 a0 4)]) mcX7_phaseOf mlX7_93 (ct7_phaseOf G t N x5 (S20.1 a0 4) S20) rfl rfl (Nat.le_of_ble_eq_true rfl) (by decide) (Nat.le_of_ble_eq_true rfl) dX7_findAnswer_127 (fun q21 S22 => ?_)
          refine K_putI cf7 flX7_25 (sq7_0 h0) rfl dX7_findAnswer_130 ?_
          refine J_ltS (fun S23 _ => ?_)
          exact J_sb (t7_findAnswer_j133 G t N a0 a1 a2 x6 h0 h1 h2 (f7_findAnswer_h38 N a0 a1 a2 n) ih S23) (And.intro rfl (And.intro rfl (And.intro rfl (And.intro rfl (And.intro rfl (trivial))))))
set_option maxRecDepth 100000 in
set_option maxHeartbeats 4000000 in
theorem ct7_findAnswer (G : Gm) (t : Nat) (N : Nat) (a0 : Nat) (a1 : Nat) (a2 : Nat) (x3 : Int32) (h0 : a0 ∈ ad7) (h1 : a1 ∈ ad3) (h2 : a2 ∈ ad1) (S : St) : Ct G YX7_findAnswer yX7_findAnswer 6 0 0 (fV t) (f7_findAnswer N a0 a1 a2 x3 S) [vR (some a0), vR (some a1), vR (some a2), vI x3, vR (some 6)] (MM t S) := by
  refine Ct_of_J [some (vR (some a0)), some (vR (some a1)), some (vR (some a2)), some (vI x3), some (vR (some 6)), none, none] (by decide) rfl (fun h => by cases h) (Nat.le_of_ble_eq_true rfl) (And.intro rfl (And.intro rfl (And.intro rfl (And.intro rfl (And.intro rfl (trivial)))))) ?_
  unfold f7_findAnswer
  refine J_aload_n dX7_findAnswer_0 rfl rfl ?_
  refine J_iconst (v := nI 0) dX7_findAnswer_1 (by decide) ?_
  refine K_putZ (by decide) cf7 flX7_21 (sq7_0 h0) rfl dX7_findAnswer_2 ?_
  refine J_ltS (fun S1 _ => ?_)
  refine J_aload_n dX7_findAnswer_5 rfl rfl ?_
  refine J_iload_n dX7_findAnswer_6 rfl rfl ?_
  refine J_iconst (v := nI 1) dX7_findAnswer_7 (by decide) ?_
  refine J_iadd dX7_findAnswer_8 ?_
  refine K_putI cf7 flX7_25 (sq7_0 h0) rfl dX7_findAnswer_9 ?_
  refine J_ltS (fun S2 _ => ?_)
  refine J_aload_n dX7_findAnswer_12 rfl rfl ?_
  refine K_getR (r := some (a0 + 1)) cf7 flX7_12 (sq7_0 h0) (rq7_0 h0) (Or.inl ⟨_, rfl⟩) dX7_findAnswer_13 ?_
  refine K_callV_v (As := []) mcX6_beEmpty mlX7_58 rfl (by decide) (sq6_0 (mf7_0 h0)) (ct6_beEmpty G t (a0 + 1) (mf7_0 h0) S2) rfl rfl (Nat.le_of_ble_eq_true rfl) (by decide) (Nat.le_of_ble_eq_true rfl) dX7_findAnswer_16 (fun q3 S4 => ?_)
  refine J_aload_n dX7_findAnswer_19 rfl rfl ?_
  refine J_aload_n dX7_findAnswer_20 rfl rfl ?_
  refine K_getR (r := some (a0 + 1)) cf7 flX7_12 (sq7_0 h0) (rq7_0 h0) (Or.inl ⟨_, rfl⟩) dX7_findAnswer_21 ?_
  refine J_aload_n dX7_findAnswer_24 rfl rfl ?_
  refine K_getI cf7 flX7_25 (sq7_0 h0) (Or.inl rfl) dX7_findAnswer_25 ?_
  refine J_iconst (v := nI 1) dX7_findAnswer_28 (by decide) ?_
  refine J_isub dX7_findAnswer_29 ?_
  refine K_callV_i (As := [vR (some (a0 + 1)), vI ((S4.1 a0 3) - (nI 1))]) mcX3_follow mlX7_61 rfl (by decide) (sq3_0 h1) (ct3_follow G t N a1 (a0 + 1) ((S4.1 a0 3) - (nI 1)) h1 (mf7_0 h0) S4) rfl rfl (Nat.le_of_ble_eq_true rfl) (by decide) (Nat.le_of_ble_eq_true rfl) dX7_findAnswer_30 (fun q5 S6 => ?_)
  refine J_istore [some (vR (some a0)), some (vR (some a1)), some (vR (some a2)), some (vI x3), some (vR (some 6)), some (vI q5), none] dX7_findAnswer_33 (Nat.le_of_ble_eq_true rfl) rfl rfl ?_
  refine J_iconst (v := nI 0) dX7_findAnswer_35 (by decide) ?_
  refine J_istore [some (vR (some a0)), some (vR (some a1)), some (vR (some a2)), some (vI x3), some (vR (some 6)), some (vI q5), some (vI (nI 0))] dX7_findAnswer_36 (Nat.le_of_ble_eq_true rfl) rfl rfl ?_
  exact J_sb (t7_findAnswer_h38 G t N a0 a1 a2 h0 h1 h2 N q5 (nI 0) S6) (And.intro rfl (And.intro rfl (And.intro rfl (And.intro rfl (And.intro rfl (And.intro rfl (trivial)))))))
theorem dX7_isAnswer_0 : decode cX7_isAnswer 0 = .ok (.aload_n 0, 1) := by decide +kernel
theorem dX7_isAnswer_1 : decode cX7_isAnswer 1 = .ok (.getfield 12, 3) := by decide +kernel
theorem dX7_isAnswer_4 : decode cX7_isAnswer 4 = .ok (.invokevirtual 103, 3) := by decide +kernel
theorem dX7_isAnswer_7 : decode cX7_isAnswer 7 = .ok (.aload_n 0, 1) := by decide +kernel
theorem dX7_isAnswer_8 : decode cX7_isAnswer 8 = .ok (.getfield 18, 3) := by decide +kernel
theorem dX7_isAnswer_11 : decode cX7_isAnswer 11 = .ok (.invokevirtual 103, 3) := by decide +kernel
theorem dX7_isAnswer_14 : decode cX7_isAnswer 14 = .ok (.if_icmp .eq 5, 3) := by decide +kernel
theorem dX7_isAnswer_17 : decode cX7_isAnswer 17 = .ok (.iconst 0, 1) := by decide +kernel
theorem dX7_isAnswer_18 : decode cX7_isAnswer 18 = .ok (.ireturn, 1) := by decide +kernel
theorem dX7_isAnswer_19 : decode cX7_isAnswer 19 = .ok (.iconst 0, 1) := by decide +kernel
theorem dX7_isAnswer_20 : decode cX7_isAnswer 20 = .ok (.istore_n 1, 1) := by decide +kernel
theorem dX7_isAnswer_21 : decode cX7_isAnswer 21 = .ok (.iload_n 1, 1) := by decide +kernel
theorem dX7_isAnswer_22 : decode cX7_isAnswer 22 = .ok (.aload_n 0, 1) := by decide +kernel
theorem dX7_isAnswer_23 : decode cX7_isAnswer 23 = .ok (.getfield 18, 3) := by decide +kernel
theorem dX7_isAnswer_26 : decode cX7_isAnswer 26 = .ok (.invokevirtual 103, 3) := by decide +kernel
theorem dX7_isAnswer_29 : decode cX7_isAnswer 29 = .ok (.if_icmp .ge 30, 3) := by decide +kernel
theorem dX7_isAnswer_32 : decode cX7_isAnswer 32 = .ok (.aload_n 0, 1) := by decide +kernel
theorem dX7_isAnswer_33 : decode cX7_isAnswer 33 = .ok (.getfield 12, 3) := by decide +kernel
theorem dX7_isAnswer_36 : decode cX7_isAnswer 36 = .ok (.iload_n 1, 1) := by decide +kernel
theorem dX7_isAnswer_37 : decode cX7_isAnswer 37 = .ok (.invokevirtual 106, 3) := by decide +kernel
theorem dX7_isAnswer_40 : decode cX7_isAnswer 40 = .ok (.aload_n 0, 1) := by decide +kernel
theorem dX7_isAnswer_41 : decode cX7_isAnswer 41 = .ok (.getfield 18, 3) := by decide +kernel
theorem dX7_isAnswer_44 : decode cX7_isAnswer 44 = .ok (.iload_n 1, 1) := by decide +kernel
theorem dX7_isAnswer_45 : decode cX7_isAnswer 45 = .ok (.invokevirtual 106, 3) := by decide +kernel
theorem dX7_isAnswer_48 : decode cX7_isAnswer 48 = .ok (.if_icmp .eq 5, 3) := by decide +kernel
theorem dX7_isAnswer_51 : decode cX7_isAnswer 51 = .ok (.iconst 0, 1) := by decide +kernel
theorem dX7_isAnswer_52 : decode cX7_isAnswer 52 = .ok (.ireturn, 1) := by decide +kernel
theorem dX7_isAnswer_53 : decode cX7_isAnswer 53 = .ok (.iinc 1 1, 3) := by decide +kernel
theorem dX7_isAnswer_56 : decode cX7_isAnswer 56 = .ok (.goto (-35), 3) := by decide +kernel
theorem dX7_isAnswer_59 : decode cX7_isAnswer 59 = .ok (.iconst 1, 1) := by decide +kernel
theorem dX7_isAnswer_60 : decode cX7_isAnswer 60 = .ok (.ireturn, 1) := by decide +kernel
set_option maxRecDepth 100000 in
set_option maxHeartbeats 4000000 in
theorem t7_isAnswer_h21 (G : Gm) (t : Nat) (N : Nat) (a0 : Nat) (h0 : a0 ∈ ad7)   : ∀ (n : Nat) (x1 : Int32) (S : St), J G YX7_isAnswer 2 0 0 (fI t) 0 0 21 [some (vR (some a0)), some (vI x1)] [] (MM t S) (f7_isAnswer_h21 N a0 n x1 S) := by
  intro n
  induction n with
  | zero => intro x1 S; exact J_none
  | succ n ih =>
    intro x1 S
    rw [f7_isAnswer_h21]
    refine J_iload_n dX7_isAnswer_21 rfl rfl ?_
    refine J_aload_n dX7_isAnswer_22 rfl rfl ?_
    refine K_getR (r := some (a0 + 3)) cf7 flX7_18 (sq7_0 h0) (rq7_1 h0) (Or.inl ⟨_, rfl⟩) dX7_isAnswer_23 ?_
    refine K_callV_i (As := []) mcX6_length mlX7_103 rfl (by decide) (sq6_0 (mf7_1 h0)) (ct6_length G t (a0 + 3) (mf7_1 h0) S) rfl rfl (Nat.le_of_ble_eq_true rfl) (by decide) (Nat.le_of_ble_eq_true rfl) dX7_isAnswer_26 (fun q1 S2 => ?_)
    refine J_icmp_ge (tgt := 59) dX7_isAnswer_29 (by decide) (fun z3 => ?_) (fun z3 => ?_)
    · refine J_iconst (v := nI 1) dX7_isAnswer_59 (by decide) ?_
      exact J_zreturn (by decide) rfl (Nat.le_refl _) (Nat.le_refl _) rfl dX7_isAnswer_60
    · refine J_aload_n dX7_isAnswer_32 rfl rfl ?_
      refine K_getR (r := some (a0 + 1)) cf7 flX7_12 (sq7_0 h0) (rq7_0 h0) (Or.inl ⟨_, rfl⟩) dX7_isAnswer_33 ?_
      refine J_iload_n dX7_isAnswer_36 rfl rfl ?_
      refine K_callV_i (As := [vI x1]) mcX6_orderAt mlX7_106 rfl (by decide) (sq6_0 (mf7_0 h0)) (ct6_orderAt G t (a0 + 1) x1 (mf7_0 h0) S2) rfl rfl (Nat.le_of_ble_eq_true rfl) (by decide) (Nat.le_of_ble_eq_true rfl) dX7_isAnswer_37 (fun q4 S5 => ?_)
      refine J_aload_n dX7_isAnswer_40 rfl rfl ?_
      refine K_getR (r := some (a0 + 3)) cf7 flX7_18 (sq7_0 h0) (rq7_1 h0) (Or.inl ⟨_, rfl⟩) dX7_isAnswer_41 ?_
      refine J_iload_n dX7_isAnswer_44 rfl rfl ?_
      refine K_callV_i (As := [vI x1]) mcX6_orderAt mlX7_106 rfl (by decide) (sq6_0 (mf7_1 h0)) (ct6_orderAt G t (a0 + 3) x1 (mf7_1 h0) S5) rfl rfl (Nat.le_of_ble_eq_true rfl) (by decide) (Nat.le_of_ble_eq_true rfl) dX7_isAnswer_45 (fun q6 S7 => ?_)
      refine J_icmp_eq (tgt := 53) dX7_isAnswer_48 (by decide) (fun z8 => ?_) (fun z8 => ?_)
      · refine J_iinc (v := x1 + nI 1) [some (vR (some a0)), some (vI (x1 + nI 1))] dX7_isAnswer_53 rfl rfl (Nat.le_of_ble_eq_true rfl) rfl rfl ?_
        refine J_goto (tgt := 21) dX7_isAnswer_56 (by decide) ?_
        exact J_sb (ih (x1 + nI 1) S7) (And.intro rfl (And.intro rfl (trivial)))
      · refine J_iconst (v := nI 0) dX7_isAnswer_51 (by decide) ?_
        exact J_zreturn (by decide) rfl (Nat.le_refl _) (Nat.le_refl _) rfl dX7_isAnswer_52
set_option maxRecDepth 100000 in
set_option maxHeartbeats 4000000 in
theorem ct7_isAnswer (G : Gm) (t : Nat) (N : Nat) (a0 : Nat) (h0 : a0 ∈ ad7) (S : St) : Ct G YX7_isAnswer yX7_isAnswer 2 0 0 (fI t) (f7_isAnswer N a0 S) [vR (some a0)] (MM t S) := by
  refine Ct_of_J [some (vR (some a0)), none] (by decide) rfl (fun h => by cases h) (Nat.le_of_ble_eq_true rfl) (And.intro rfl (trivial)) ?_
  unfold f7_isAnswer
  refine J_aload_n dX7_isAnswer_0 rfl rfl ?_
  refine K_getR (r := some (a0 + 1)) cf7 flX7_12 (sq7_0 h0) (rq7_0 h0) (Or.inl ⟨_, rfl⟩) dX7_isAnswer_1 ?_
  refine K_callV_i (As := []) mcX6_length mlX7_103 rfl (by decide) (sq6_0 (mf7_0 h0)) (ct6_length G t (a0 + 1) (mf7_0 h0) S) rfl rfl (Nat.le_of_ble_eq_true rfl) (by decide) (Nat.le_of_ble_eq_true rfl) dX7_isAnswer_4 (fun q1 S2 => ?_)
  refine J_aload_n dX7_isAnswer_7 rfl rfl ?_
  refine K_getR (r := some (a0 + 3)) cf7 flX7_18 (sq7_0 h0) (rq7_1 h0) (Or.inl ⟨_, rfl⟩) dX7_isAnswer_8 ?_
  refine K_callV_i (As := []) mcX6_length mlX7_103 rfl (by decide) (sq6_0 (mf7_1 h0)) (ct6_length G t (a0 + 3) (mf7_1 h0) S2) rfl rfl (Nat.le_of_ble_eq_true rfl) (by decide) (Nat.le_of_ble_eq_true rfl) dX7_isAnswer_11 (fun q3 S4 => ?_)
  refine J_icmp_eq (tgt := 19) dX7_isAnswer_14 (by decide) (fun z5 => ?_) (fun z5 => ?_)
  · refine J_iconst (v := nI 0) dX7_isAnswer_19 (by decide) ?_
    refine J_istore_n [some (vR (some a0)), some (vI (nI 0))] dX7_isAnswer_20 rfl (Nat.le_of_ble_eq_true rfl) rfl rfl ?_
    exact J_sb (t7_isAnswer_h21 G t N a0 h0 N (nI 0) S4) (And.intro rfl (And.intro rfl (trivial)))
  · refine J_iconst (v := nI 0) dX7_isAnswer_17 (by decide) ?_
    exact J_zreturn (by decide) rfl (Nat.le_refl _) (Nat.le_refl _) rfl dX7_isAnswer_18
theorem dX7_addUp_0 : decode cX7_addUp 0 = .ok (.aload_n 0, 1) := by decide +kernel
theorem dX7_addUp_1 : decode cX7_addUp 1 = .ok (.iconst 0, 1) := by decide +kernel
theorem dX7_addUp_2 : decode cX7_addUp 2 = .ok (.putfield 35, 3) := by decide +kernel
theorem dX7_addUp_5 : decode cX7_addUp 5 = .ok (.aload_n 0, 1) := by decide +kernel
theorem dX7_addUp_6 : decode cX7_addUp 6 = .ok (.iconst 0, 1) := by decide +kernel
theorem dX7_addUp_7 : decode cX7_addUp 7 = .ok (.putfield 38, 3) := by decide +kernel
theorem dX7_addUp_10 : decode cX7_addUp 10 = .ok (.aload_n 0, 1) := by decide +kernel
theorem dX7_addUp_11 : decode cX7_addUp 11 = .ok (.iconst 0, 1) := by decide +kernel
theorem dX7_addUp_12 : decode cX7_addUp 12 = .ok (.putfield 41, 3) := by decide +kernel
theorem dX7_addUp_15 : decode cX7_addUp 15 = .ok (.aload_n 0, 1) := by decide +kernel
theorem dX7_addUp_16 : decode cX7_addUp 16 = .ok (.getfield 21, 3) := by decide +kernel
theorem dX7_addUp_19 : decode cX7_addUp 19 = .ok (.ifCond .eq 10, 3) := by decide +kernel
theorem dX7_addUp_22 : decode cX7_addUp 22 = .ok (.aload_n 0, 1) := by decide +kernel
theorem dX7_addUp_23 : decode cX7_addUp 23 = .ok (.getfield 25, 3) := by decide +kernel
theorem dX7_addUp_26 : decode cX7_addUp 26 = .ok (.goto 4, 3) := by decide +kernel
theorem dX7_addUp_29 : decode cX7_addUp 29 = .ok (.iload_n 3, 1) := by decide +kernel
theorem dX7_addUp_30 : decode cX7_addUp 30 = .ok (.istore 5, 2) := by decide +kernel
theorem dX7_addUp_32 : decode cX7_addUp 32 = .ok (.aload_n 0, 1) := by decide +kernel
theorem dX7_addUp_33 : decode cX7_addUp 33 = .ok (.getfield 12, 3) := by decide +kernel
theorem dX7_addUp_36 : decode cX7_addUp 36 = .ok (.invokevirtual 58, 3) := by decide +kernel
theorem dX7_addUp_39 : decode cX7_addUp 39 = .ok (.aload_n 1, 1) := by decide +kernel
theorem dX7_addUp_40 : decode cX7_addUp 40 = .ok (.aload_n 0, 1) := by decide +kernel
theorem dX7_addUp_41 : decode cX7_addUp 41 = .ok (.getfield 12, 3) := by decide +kernel
theorem dX7_addUp_44 : decode cX7_addUp 44 = .ok (.iload 5, 2) := by decide +kernel
theorem dX7_addUp_46 : decode cX7_addUp 46 = .ok (.invokevirtual 61, 3) := by decide +kernel
theorem dX7_addUp_49 : decode cX7_addUp 49 = .ok (.istore 6, 2) := by decide +kernel
theorem dX7_addUp_51 : decode cX7_addUp 51 = .ok (.iconst 0, 1) := by decide +kernel
theorem dX7_addUp_52 : decode cX7_addUp 52 = .ok (.istore 7, 2) := by decide +kernel
theorem dX7_addUp_54 : decode cX7_addUp 54 = .ok (.iload 7, 2) := by decide +kernel
theorem dX7_addUp_56 : decode cX7_addUp 56 = .ok (.ldc 67, 2) := by decide +kernel
theorem dX7_addUp_58 : decode cX7_addUp 58 = .ok (.if_icmp .ge 109, 3) := by decide +kernel
theorem dX7_addUp_61 : decode cX7_addUp 61 = .ok (.iload 6, 2) := by decide +kernel
theorem dX7_addUp_63 : decode cX7_addUp 63 = .ok (.ifCond .le 104, 3) := by decide +kernel
theorem dX7_addUp_66 : decode cX7_addUp 66 = .ok (.aload 4, 2) := by decide +kernel
theorem dX7_addUp_68 : decode cX7_addUp 68 = .ok (.aload_n 1, 1) := by decide +kernel
theorem dX7_addUp_69 : decode cX7_addUp 69 = .ok (.aload_n 0, 1) := by decide +kernel
theorem dX7_addUp_70 : decode cX7_addUp 70 = .ok (.getfield 12, 3) := by decide +kernel
theorem dX7_addUp_73 : decode cX7_addUp 73 = .ok (.iload_n 2, 1) := by decide +kernel
theorem dX7_addUp_74 : decode cX7_addUp 74 = .ok (.invokevirtual 68, 3) := by decide +kernel
theorem dX7_addUp_77 : decode cX7_addUp 77 = .ok (.aload 4, 2) := by decide +kernel
theorem dX7_addUp_79 : decode cX7_addUp 79 = .ok (.iload 5, 2) := by decide +kernel
theorem dX7_addUp_81 : decode cX7_addUp 81 = .ok (.iload 6, 2) := by decide +kernel
theorem dX7_addUp_83 : decode cX7_addUp 83 = .ok (.invokestatic 74, 3) := by decide +kernel
theorem dX7_addUp_86 : decode cX7_addUp 86 = .ok (.invokevirtual 78, 3) := by decide +kernel
theorem dX7_addUp_89 : decode cX7_addUp 89 = .ok (.aload_n 0, 1) := by decide +kernel
theorem dX7_addUp_90 : decode cX7_addUp 90 = .ok (.dup, 1) := by decide +kernel
theorem dX7_addUp_91 : decode cX7_addUp 91 = .ok (.getfield 35, 3) := by decide +kernel
theorem dX7_addUp_94 : decode cX7_addUp 94 = .ok (.aload 4, 2) := by decide +kernel
theorem dX7_addUp_96 : decode cX7_addUp 96 = .ok (.invokevirtual 90, 3) := by decide +kernel
theorem dX7_addUp_99 : decode cX7_addUp 99 = .ok (.iadd, 1) := by decide +kernel
theorem dX7_addUp_100 : decode cX7_addUp 100 = .ok (.putfield 35, 3) := by decide +kernel
theorem dX7_addUp_103 : decode cX7_addUp 103 = .ok (.aload_n 0, 1) := by decide +kernel
theorem dX7_addUp_104 : decode cX7_addUp 104 = .ok (.dup, 1) := by decide +kernel
theorem dX7_addUp_105 : decode cX7_addUp 105 = .ok (.getfield 38, 3) := by decide +kernel
theorem dX7_addUp_108 : decode cX7_addUp 108 = .ok (.iconst 1, 1) := by decide +kernel
theorem dX7_addUp_109 : decode cX7_addUp 109 = .ok (.iadd, 1) := by decide +kernel
theorem dX7_addUp_110 : decode cX7_addUp 110 = .ok (.putfield 38, 3) := by decide +kernel
theorem dX7_addUp_113 : decode cX7_addUp 113 = .ok (.aload 4, 2) := by decide +kernel
theorem dX7_addUp_115 : decode cX7_addUp 115 = .ok (.invokevirtual 96, 3) := by decide +kernel
theorem dX7_addUp_118 : decode cX7_addUp 118 = .ok (.iconst 1, 1) := by decide +kernel
theorem dX7_addUp_119 : decode cX7_addUp 119 = .ok (.if_icmp .ne 13, 3) := by decide +kernel
theorem dX7_addUp_122 : decode cX7_addUp 122 = .ok (.aload_n 0, 1) := by decide +kernel
theorem dX7_addUp_123 : decode cX7_addUp 123 = .ok (.dup, 1) := by decide +kernel
theorem dX7_addUp_124 : decode cX7_addUp 124 = .ok (.getfield 41, 3) := by decide +kernel
theorem dX7_addUp_127 : decode cX7_addUp 127 = .ok (.iconst 1, 1) := by decide +kernel
theorem dX7_addUp_128 : decode cX7_addUp 128 = .ok (.iadd, 1) := by decide +kernel
theorem dX7_addUp_129 : decode cX7_addUp 129 = .ok (.putfield 41, 3) := by decide +kernel
theorem dX7_addUp_132 : decode cX7_addUp 132 = .ok (.aload_n 0, 1) := by decide +kernel
theorem dX7_addUp_133 : decode cX7_addUp 133 = .ok (.getfield 21, 3) := by decide +kernel
theorem dX7_addUp_136 : decode cX7_addUp 136 = .ok (.ifCond .eq 13, 3) := by decide +kernel
theorem dX7_addUp_139 : decode cX7_addUp 139 = .ok (.aload_n 0, 1) := by decide +kernel
theorem dX7_addUp_140 : decode cX7_addUp 140 = .ok (.invokevirtual 99, 3) := by decide +kernel
theorem dX7_addUp_143 : decode cX7_addUp 143 = .ok (.ifCond .eq 6, 3) := by decide +kernel
theorem dX7_addUp_146 : decode cX7_addUp 146 = .ok (.iinc 5 (-1), 3) := by decide +kernel
theorem dX7_addUp_149 : decode cX7_addUp 149 = .ok (.aload_n 1, 1) := by decide +kernel
theorem dX7_addUp_150 : decode cX7_addUp 150 = .ok (.aload_n 0, 1) := by decide +kernel
theorem dX7_addUp_151 : decode cX7_addUp 151 = .ok (.getfield 12, 3) := by decide +kernel
theorem dX7_addUp_154 : decode cX7_addUp 154 = .ok (.iload 5, 2) := by decide +kernel
theorem dX7_addUp_156 : decode cX7_addUp 156 = .ok (.invokevirtual 61, 3) := by decide +kernel
theorem dX7_addUp_159 : decode cX7_addUp 159 = .ok (.istore 6, 2) := by decide +kernel
theorem dX7_addUp_161 : decode cX7_addUp 161 = .ok (.iinc 7 1, 3) := by decide +kernel
theorem dX7_addUp_164 : decode cX7_addUp 164 = .ok (.goto (-110), 3) := by decide +kernel
theorem dX7_addUp_167 : decode cX7_addUp 167 = .ok (.return_, 1) := by decide +kernel
set_option maxRecDepth 100000 in
set_option maxHeartbeats 4000000 in
theorem t7_addUp_j149 (G : Gm) (t : Nat) (N : Nat) (a0 : Nat) (a1 : Nat) (x2 : Int32) (x5 : Int32) (x7 : Int32) (h0 : a0 ∈ ad7) (h1 : a1 ∈ ad3) (k54 : Int32 → Int32 → Int32 → St → Option (Unit × St)) (hk54 : ∀ (yx5 : Int32) (yx6 : Int32) (yx7 : Int32) (S : St), J G YX7_addUp 6 0 0 (fV t) 0 0 54 [some (vR (some a0)), some (vR (some a1)), some (vI x2), none, some (vR (some 6)), some (vI yx5), some (vI yx6), some (vI yx7)] [] (MM t S) (k54 yx5 yx6 yx7 S)) : ∀  (S : St), J G YX7_addUp 6 0 0 (fV t) 0 0 149 [some (vR (some a0)), some (vR (some a1)), some (vI x2), none, some (vR (some 6)), some (vI x5), none, some (vI x7)] [] (MM t S) (f7_addUp_j149 N a0 a1 x2 x5 x7 k54 S) := by
  intro S
  unfold f7_addUp_j149
  refine J_aload_n dX7_addUp_149 rfl rfl ?_
  refine J_aload_n dX7_addUp_150 rfl rfl ?_
  refine K_getR (r := some (a0 + 1)) cf7 flX7_12 (sq7_0 h0) (rq7_0 h0) (Or.inl ⟨_, rfl⟩) dX7_addUp_151 ?_
  refine J_iload dX7_addUp_154 rfl ?_
  refine K_callV_i (As := [vR (some (a0 + 1)), vI x5]) mcX3_follow mlX7_61 rfl (by decide) (sq3_0 h1) (ct3_follow G t N a1 (a0 + 1) x5 h1 (mf7_0 h0) S) rfl rfl (Nat.le_of_ble_eq_true rfl) (by decide) (Nat.le_of_ble_eq_true rfl) dX7_addUp_156 (fun q1 S2 => ?_)
  refine J_istore [some (vR (some a0)), some (vR (some a1)), some (vI x2), none, some (vR (some 6)), some (vI x5), some (vI q1), some (vI x7)] dX7_addUp_159 (Nat.le_of_ble_eq_true rfl) rfl rfl ?_
  refine J_iinc (v := x7 + nI 1) [some (vR (some a0)), some (vR (some a1)), some (vI x2), none, some (vR (some 6)), some (vI x5), some (vI q1), some (vI (x7 + nI 1))] dX7_addUp_161 rfl rfl (Nat.le_of_ble_eq_true rfl) rfl rfl ?_
  refine J_goto (tgt := 54) dX7_addUp_164 (by decide) ?_
  exact J_sb (hk54 x5 q1 (x7 + nI 1) S2) (And.intro rfl (And.intro rfl (And.intro rfl (And.intro rfl (And.intro rfl (And.intro rfl (And.intro rfl (trivial))))))))
set_option maxRecDepth 100000 in
set_option maxHeartbeats 4000000 in
theorem t7_addUp_j132 (G : Gm) (t : Nat) (N : Nat) (a0 : Nat) (a1 : Nat) (x2 : Int32) (x5 : Int32) (x7 : Int32) (h0 : a0 ∈ ad7) (h1 : a1 ∈ ad3) (k54 : Int32 → Int32 → Int32 → St → Option (Unit × St)) (hk54 : ∀ (yx5 : Int32) (yx6 : Int32) (yx7 : Int32) (S : St), J G YX7_addUp 6 0 0 (fV t) 0 0 54 [some (vR (some a0)), some (vR (some a1)), some (vI x2), none, some (vR (some 6)), some (vI yx5), some (vI yx6), some (vI yx7)] [] (MM t S) (k54 yx5 yx6 yx7 S)) : ∀  (S : St), J G YX7_addUp 6 0 0 (fV t) 0 0 132 [some (vR (some a0)), some (vR (some a1)), some (vI x2), none, some (vR (some 6)), some (vI x5), none, some (vI x7)] [] (MM t S) (f7_addUp_j132 N a0 a1 x2 x5 x7 k54 S) := by
  intro S
  unfold f7_addUp_j132
  refine J_aload_n dX7_addUp_132 rfl rfl ?_
  refine K_getI cf7 flX7_21 (sq7_0 h0) (Or.inr rfl) dX7_addUp_133 ?_
  refine J_if_eq (tgt := 149) dX7_addUp_136 (by decide) (fun z1 => ?_) (fun z1 => ?_)
  · exact J_sb (t7_addUp_j149 G t N a0 a1 x2 x5 x7 h0 h1 k54 hk54 S) (And.intro rfl (And.intro rfl (And.intro rfl (And.intro rfl (And.intro rfl (And.intro rfl (trivial)))))))
  · refine J_aload_n dX7_addUp_139 rfl rfl ?_
    refine K_callV_i (As := []) mcX7_isAnswer mlX7_99 rfl (by decide) (sq7_0 h0) (ct7_isAnswer G t N a0 h0 S) rfl rfl (Nat.le_of_ble_eq_true rfl) (by decide) (Nat.le_of_ble_eq_true rfl) dX7_addUp_140 (fun q2 S3 => ?_)
    refine J_if_eq (tgt := 149) dX7_addUp_143 (by decide) (fun z4 => ?_) (fun z4 => ?_)
    · exact J_sb (t7_addUp_j149 G t N a0 a1 x2 x5 x7 h0 h1 k54 hk54 S3) (And.intro rfl (And.intro rfl (And.intro rfl (And.intro rfl (And.intro rfl (And.intro rfl (trivial)))))))
    · refine J_iinc (v := x5 + (-1)) [some (vR (some a0)), some (vR (some a1)), some (vI x2), none, some (vR (some 6)), some (vI (x5 + (-1))), none, some (vI x7)] dX7_addUp_146 rfl rfl (Nat.le_of_ble_eq_true rfl) rfl rfl ?_
      exact J_sb (t7_addUp_j149 G t N a0 a1 x2 (x5 + (-1)) x7 h0 h1 k54 hk54 S3) (And.intro rfl (And.intro rfl (And.intro rfl (And.intro rfl (And.intro rfl (And.intro rfl (trivial)))))))
set_option maxRecDepth 100000 in
set_option maxHeartbeats 4000000 in
theorem t7_addUp_h54 (G : Gm) (t : Nat) (N : Nat) (a0 : Nat) (a1 : Nat) (x2 : Int32) (h0 : a0 ∈ ad7) (h1 : a1 ∈ ad3)   : ∀ (n : Nat) (x5 : Int32) (x6 : Int32) (x7 : Int32) (S : St), J G YX7_addUp 6 0 0 (fV t) 0 0 54 [some (vR (some a0)), some (vR (some a1)), some (vI x2), none, some (vR (some 6)), some (vI x5), some (vI x6), some (vI x7)] [] (MM t S) (f7_addUp_h54 N a0 a1 x2 n x5 x6 x7 S) := by
  intro n
  induction n with
  | zero => intro x5 x6 x7 S; exact J_none
  | succ n ih =>
    intro x5 x6 x7 S
    rw [f7_addUp_h54]
    refine J_iload dX7_addUp_54 rfl ?_
    refine J_ldc (v := nI 1000000) wX7_67 dX7_addUp_56 ?_
    refine J_icmp_ge (tgt := 167) dX7_addUp_58 (by decide) (fun z1 => ?_) (fun z1 => ?_)
    · exact J_return rfl (Nat.le_refl _) (Nat.le_refl _) rfl dX7_addUp_167
    · refine J_iload dX7_addUp_61 rfl ?_
      refine J_if_le (tgt := 167) dX7_addUp_63 (by decide) (fun z2 => ?_) (fun z2 => ?_)
      · exact J_return rfl (Nat.le_refl _) (Nat.le_refl _) rfl dX7_addUp_167
      · refine J_aload dX7_addUp_66 rfl ?_
        refine J_aload_n dX7_addUp_68 rfl rfl ?_
        refine J_aload_n dX7_addUp_69 rfl rfl ?_
        refine K_getR (r := some (a0 + 1)) cf7 flX7_12 (sq7_0 h0) (rq7_0 h0) (Or.inl ⟨_, rfl⟩) dX7_addUp_70 ?_
        refine J_iload_n dX7_addUp_73 rfl rfl ?_
        refine K_callV_v (As := [vR (some a1), vR (some (a0 + 1)), vI x2]) mcX4_start mlX7_68 rfl (by decide) (sq 6 rfl) (ct4_start G t N a1 (a0 + 1) x2 h1 (mf7_0 h0) S) rfl rfl (Nat.le_of_ble_eq_true rfl) (by decide) (Nat.le_of_ble_eq_true rfl) dX7_addUp_74 (fun q3 S4 => ?_)
        refine J_aload dX7_addUp_77 rfl ?_
        refine J_iload dX7_addUp_79 rfl ?_
        refine J_iload dX7_addUp_81 rfl ?_
        refine K_callS_i (As := [vI x5, vI x6]) mcX7_stepsIn mlX7_74 (ct7_stepsIn G t x5 x6 S4) rfl rfl (Nat.le_of_ble_eq_true rfl) (by decide) (Nat.le_of_ble_eq_true rfl) dX7_addUp_83 (fun q5 S6 => ?_)
        refine K_callV_v (As := [vI q5]) mcX4_goOn mlX7_78 rfl (by decide) (sq 6 rfl) (ct4_goOn G t N q5 S6) rfl rfl (Nat.le_of_ble_eq_true rfl) (by decide) (Nat.le_of_ble_eq_true rfl) dX7_addUp_86 (fun q7 S8 => ?_)
        refine J_aload_n dX7_addUp_89 rfl rfl ?_
        refine J_dup dX7_addUp_90 rfl ?_
        refine K_getI cf7 flX7_35 (sq7_0 h0) (Or.inl rfl) dX7_addUp_91 ?_
        refine J_aload dX7_addUp_94 rfl ?_
        refine K_callV_i (As := []) mcX4_steps mlX7_90 rfl (by decide) (sq 6 rfl) (ct4_steps G t S8) rfl rfl (Nat.le_of_ble_eq_true rfl) (by decide) (Nat.le_of_ble_eq_true rfl) dX7_addUp_96 (fun q9 S10 => ?_)
        refine J_iadd dX7_addUp_99 ?_
        refine K_putI cf7 flX7_35 (sq7_0 h0) rfl dX7_addUp_100 ?_
        refine J_ltS (fun S11 _ => ?_)
        refine J_aload_n dX7_addUp_103 rfl rfl ?_
        refine J_dup dX7_addUp_104 rfl ?_
        refine K_getI cf7 flX7_38 (sq7_0 h0) (Or.inl rfl) dX7_addUp_105 ?_
        refine J_iconst (v := nI 1) dX7_addUp_108 (by decide) ?_
        refine J_iadd dX7_addUp_109 ?_
        refine K_putI cf7 flX7_38 (sq7_0 h0) rfl dX7_addUp_110 ?_
        refine J_ltS (fun S12 _ => ?_)
        refine J_aload dX7_addUp_113 rfl ?_
        refine K_callV_i (As := []) mcX4_state mlX7_96 rfl (by decide) (sq 6 rfl) (ct4_state G t S12) rfl rfl (Nat.le_of_ble_eq_true rfl) (by decide) (Nat.le_of_ble_eq_true rfl) dX7_addUp_115 (fun q13 S14 => ?_)
        refine J_iconst (v := nI 1) dX7_addUp_118 (by decide) ?_
        refine J_icmp_ne (tgt := 132) dX7_addUp_119 (by decide) (fun z15 => ?_) (fun z15 => ?_)
        · refine J_aload_n dX7_addUp_122 rfl rfl ?_
          refine J_dup dX7_addUp_123 rfl ?_
          refine K_getI cf7 flX7_41 (sq7_0 h0) (Or.inl rfl) dX7_addUp_124 ?_
          refine J_iconst (v := nI 1) dX7_addUp_127 (by decide) ?_
          refine J_iadd dX7_addUp_128 ?_
          refine K_putI cf7 flX7_41 (sq7_0 h0) rfl dX7_addUp_129 ?_
          refine J_ltS (fun S16 _ => ?_)
          exact J_sb (t7_addUp_j132 G t N a0 a1 x2 x5 x7 h0 h1 (f7_addUp_h54 N a0 a1 x2 n) ih S16) (And.intro rfl (And.intro rfl (And.intro rfl (And.intro rfl (And.intro rfl (And.intro rfl (trivial)))))))
        · exact J_sb (t7_addUp_j132 G t N a0 a1 x2 x5 x7 h0 h1 (f7_addUp_h54 N a0 a1 x2 n) ih S14) (And.intro rfl (And.intro rfl (And.intro rfl (And.intro rfl (And.intro rfl (And.intro rfl (trivial)))))))
set_option maxRecDepth 100000 in
set_option maxHeartbeats 4000000 in
theorem t7_addUp_j30 (G : Gm) (t : Nat) (N : Nat) (a0 : Nat) (a1 : Nat) (x2 : Int32) (h0 : a0 ∈ ad7) (h1 : a1 ∈ ad3)   : ∀ (xs0 : Int32) (S : St), J G YX7_addUp 6 0 0 (fV t) 0 0 30 [some (vR (some a0)), some (vR (some a1)), some (vI x2), none, some (vR (some 6)), none, none, none] [vI xs0] (MM t S) (f7_addUp_j30 N a0 a1 x2 xs0 S) := by
  intro xs0 S
  unfold f7_addUp_j30
  refine J_istore [some (vR (some a0)), some (vR (some a1)), some (vI x2), none, some (vR (some 6)), some (vI xs0), none, none] dX7_addUp_30 (Nat.le_of_ble_eq_true rfl) rfl rfl ?_
  refine J_aload_n dX7_addUp_32 rfl rfl ?_
  refine K_getR (r := some (a0 + 1)) cf7 flX7_12 (sq7_0 h0) (rq7_0 h0) (Or.inl ⟨_, rfl⟩) dX7_addUp_33 ?_
  refine K_callV_v (As := []) mcX6_beEmpty mlX7_58 rfl (by decide) (sq6_0 (mf7_0 h0)) (ct6_beEmpty G t (a0 + 1) (mf7_0 h0) S) rfl rfl (Nat.le_of_ble_eq_true rfl) (by decide) (Nat.le_of_ble_eq_true rfl) dX7_addUp_36 (fun q1 S2 => ?_)
  refine J_aload_n dX7_addUp_39 rfl rfl ?_
  refine J_aload_n dX7_addUp_40 rfl rfl ?_
  refine K_getR (r := some (a0 + 1)) cf7 flX7_12 (sq7_0 h0) (rq7_0 h0) (Or.inl ⟨_, rfl⟩) dX7_addUp_41 ?_
  refine J_iload dX7_addUp_44 rfl ?_
  refine K_callV_i (As := [vR (some (a0 + 1)), vI xs0]) mcX3_follow mlX7_61 rfl (by decide) (sq3_0 h1) (ct3_follow G t N a1 (a0 + 1) xs0 h1 (mf7_0 h0) S2) rfl rfl (Nat.le_of_ble_eq_true rfl) (by decide) (Nat.le_of_ble_eq_true rfl) dX7_addUp_46 (fun q3 S4 => ?_)
  refine J_istore [some (vR (some a0)), some (vR (some a1)), some (vI x2), none, some (vR (some 6)), some (vI xs0), some (vI q3), none] dX7_addUp_49 (Nat.le_of_ble_eq_true rfl) rfl rfl ?_
  refine J_iconst (v := nI 0) dX7_addUp_51 (by decide) ?_
  refine J_istore [some (vR (some a0)), some (vR (some a1)), some (vI x2), none, some (vR (some 6)), some (vI xs0), some (vI q3), some (vI (nI 0))] dX7_addUp_52 (Nat.le_of_ble_eq_true rfl) rfl rfl ?_
  exact J_sb (t7_addUp_h54 G t N a0 a1 x2 h0 h1 N xs0 q3 (nI 0) S4) (And.intro rfl (And.intro rfl (And.intro rfl (And.intro rfl (And.intro rfl (And.intro rfl (And.intro rfl (trivial))))))))
set_option maxRecDepth 100000 in
set_option maxHeartbeats 4000000 in
theorem ct7_addUp (G : Gm) (t : Nat) (N : Nat) (a0 : Nat) (a1 : Nat) (x2 : Int32) (x3 : Int32) (h0 : a0 ∈ ad7) (h1 : a1 ∈ ad3) (S : St) : Ct G YX7_addUp yX7_addUp 6 0 0 (fV t) (f7_addUp N a0 a1 x2 x3 S) [vR (some a0), vR (some a1), vI x2, vI x3, vR (some 6)] (MM t S) := by
  refine Ct_of_J [some (vR (some a0)), some (vR (some a1)), some (vI x2), some (vI x3), some (vR (some 6)), none, none, none] (by decide) rfl (fun h => by cases h) (Nat.le_of_ble_eq_true rfl) (And.intro rfl (And.intro rfl (And.intro rfl (And.intro rfl (And.intro rfl (trivial)))))) ?_
  unfold f7_addUp
  refine J_aload_n dX7_addUp_0 rfl rfl ?_
  refine J_iconst (v := nI 0) dX7_addUp_1 (by decide) ?_
  refine K_putI cf7 flX7_35 (sq7_0 h0) rfl dX7_addUp_2 ?_
  refine J_ltS (fun S1 _ => ?_)
  refine J_aload_n dX7_addUp_5 rfl rfl ?_
  refine J_iconst (v := nI 0) dX7_addUp_6 (by decide) ?_
  refine K_putI cf7 flX7_38 (sq7_0 h0) rfl dX7_addUp_7 ?_
  refine J_ltS (fun S2 _ => ?_)
  refine J_aload_n dX7_addUp_10 rfl rfl ?_
  refine J_iconst (v := nI 0) dX7_addUp_11 (by decide) ?_
  refine K_putI cf7 flX7_41 (sq7_0 h0) rfl dX7_addUp_12 ?_
  refine J_ltS (fun S3 _ => ?_)
  refine J_aload_n dX7_addUp_15 rfl rfl ?_
  refine K_getI cf7 flX7_21 (sq7_0 h0) (Or.inr rfl) dX7_addUp_16 ?_
  refine J_if_eq (tgt := 29) dX7_addUp_19 (by decide) (fun z4 => ?_) (fun z4 => ?_)
  · refine J_iload_n dX7_addUp_29 rfl rfl ?_
    exact J_sb (t7_addUp_j30 G t N a0 a1 x2 h0 h1 x3 S3) (And.intro rfl (And.intro rfl (And.intro rfl (And.intro rfl (trivial)))))
  · refine J_aload_n dX7_addUp_22 rfl rfl ?_
    refine K_getI cf7 flX7_25 (sq7_0 h0) (Or.inl rfl) dX7_addUp_23 ?_
    refine J_goto (tgt := 30) dX7_addUp_26 (by decide) ?_
    exact J_sb (t7_addUp_j30 G t N a0 a1 x2 h0 h1 (S3.1 a0 3) S3) (And.intro rfl (And.intro rfl (And.intro rfl (And.intro rfl (trivial)))))
theorem dX7_look_0 : decode cX7_look 0 = .ok (.aload_n 0, 1) := by decide +kernel
theorem dX7_look_1 : decode cX7_look 1 = .ok (.aload_n 1, 1) := by decide +kernel
theorem dX7_look_2 : decode cX7_look 2 = .ok (.aload_n 2, 1) := by decide +kernel
theorem dX7_look_3 : decode cX7_look 3 = .ok (.iload_n 3, 1) := by decide +kernel
theorem dX7_look_4 : decode cX7_look 4 = .ok (.aload 4, 2) := by decide +kernel
theorem dX7_look_6 : decode cX7_look 6 = .ok (.invokevirtual 44, 3) := by decide +kernel
theorem dX7_look_9 : decode cX7_look 9 = .ok (.aload_n 0, 1) := by decide +kernel
theorem dX7_look_10 : decode cX7_look 10 = .ok (.aload_n 1, 1) := by decide +kernel
theorem dX7_look_11 : decode cX7_look 11 = .ok (.aload_n 2, 1) := by decide +kernel
theorem dX7_look_12 : decode cX7_look 12 = .ok (.invokevirtual 48, 3) := by decide +kernel
theorem dX7_look_15 : decode cX7_look 15 = .ok (.iload_n 3, 1) := by decide +kernel
theorem dX7_look_16 : decode cX7_look 16 = .ok (.aload 4, 2) := by decide +kernel
theorem dX7_look_18 : decode cX7_look 18 = .ok (.invokevirtual 54, 3) := by decide +kernel
theorem dX7_look_21 : decode cX7_look 21 = .ok (.return_, 1) := by decide +kernel
set_option maxRecDepth 100000 in
set_option maxHeartbeats 4000000 in
theorem ct7_look (G : Gm) (t : Nat) (N : Nat) (a0 : Nat) (a1 : Nat) (a2 : Nat) (x3 : Int32) (h0 : a0 ∈ ad7) (h1 : a1 ∈ ad3) (h2 : a2 ∈ ad1) (S : St) : Ct G YX7_look yX7_look 7 0 0 (fV t) (f7_look N a0 a1 a2 x3 S) [vR (some a0), vR (some a1), vR (some a2), vI x3, vR (some 6)] (MM t S) := by
  refine Ct_of_J [some (vR (some a0)), some (vR (some a1)), some (vR (some a2)), some (vI x3), some (vR (some 6))] (by decide) rfl (fun h => by cases h) (Nat.le_of_ble_eq_true rfl) (And.intro rfl (And.intro rfl (And.intro rfl (And.intro rfl (And.intro rfl (trivial)))))) ?_
  unfold f7_look
  refine J_aload_n dX7_look_0 rfl rfl ?_
  refine J_aload_n dX7_look_1 rfl rfl ?_
  refine J_aload_n dX7_look_2 rfl rfl ?_
  refine J_iload_n dX7_look_3 rfl rfl ?_
  refine J_aload dX7_look_4 rfl ?_
  refine K_callV_v (As := [vR (some a1), vR (some a2), vI x3, vR (some 6)]) mcX7_findAnswer mlX7_44 rfl (by decide) (sq7_0 h0) (ct7_findAnswer G t N a0 a1 a2 x3 h0 h1 h2 S) rfl rfl (Nat.le_of_ble_eq_true rfl) (by decide) (Nat.le_of_ble_eq_true rfl) dX7_look_6 (fun q1 S2 => ?_)
  refine J_aload_n dX7_look_9 rfl rfl ?_
  refine J_aload_n dX7_look_10 rfl rfl ?_
  refine J_aload_n dX7_look_11 rfl rfl ?_
  refine K_callV_i (As := []) mcX1_input mlX7_48 rfl (by decide) (sq1_0 h2) (ct1_input G t a2 h2 S2) rfl rfl (Nat.le_of_ble_eq_true rfl) (by decide) (Nat.le_of_ble_eq_true rfl) dX7_look_12 (fun q3 S4 => ?_)
  refine J_iload_n dX7_look_15 rfl rfl ?_
  refine J_aload dX7_look_16 rfl ?_
  refine K_callV_v (As := [vR (some a1), vI q3, vI x3, vR (some 6)]) mcX7_addUp mlX7_54 rfl (by decide) (sq7_0 h0) (ct7_addUp G t N a0 a1 q3 x3 h0 h1 S4) rfl rfl (Nat.le_of_ble_eq_true rfl) (by decide) (Nat.le_of_ble_eq_true rfl) dX7_look_18 (fun q5 S6 => ?_)
  exact J_return rfl (Nat.le_refl _) (Nat.le_refl _) rfl dX7_look_21
theorem dX7_hasAnswer_0 : decode cX7_hasAnswer 0 = .ok (.aload_n 0, 1) := by decide +kernel
theorem dX7_hasAnswer_1 : decode cX7_hasAnswer 1 = .ok (.getfield 21, 3) := by decide +kernel
theorem dX7_hasAnswer_4 : decode cX7_hasAnswer 4 = .ok (.ireturn, 1) := by decide +kernel
set_option maxRecDepth 100000 in
set_option maxHeartbeats 4000000 in
theorem ct7_hasAnswer (G : Gm) (t : Nat)  (a0 : Nat) (h0 : a0 ∈ ad7) (S : St) : Ct G YX7_hasAnswer yX7_hasAnswer 1 0 0 (fI t) (f7_hasAnswer a0 S) [vR (some a0)] (MM t S) := by
  refine Ct_of_J [some (vR (some a0))] (by decide) rfl (fun h => by cases h) (Nat.le_of_ble_eq_true rfl) (And.intro rfl (trivial)) ?_
  unfold f7_hasAnswer
  refine J_aload_n dX7_hasAnswer_0 rfl rfl ?_
  refine K_getI cf7 flX7_21 (sq7_0 h0) (Or.inr rfl) dX7_hasAnswer_1 ?_
  refine J_ckB (fun hz => ?_)
  exact J_zreturn hz rfl (Nat.le_refl _) (Nat.le_refl _) rfl dX7_hasAnswer_4
theorem dX7_answer_0 : decode cX7_answer 0 = .ok (.aload_n 0, 1) := by decide +kernel
theorem dX7_answer_1 : decode cX7_answer 1 = .ok (.getfield 18, 3) := by decide +kernel
theorem dX7_answer_4 : decode cX7_answer 4 = .ok (.areturn, 1) := by decide +kernel
set_option maxRecDepth 100000 in
set_option maxHeartbeats 4000000 in
theorem ct7_answer (G : Gm) (t : Nat)  (a0 : Nat) (h0 : a0 ∈ ad7) (S : St) : Ct G YX7_answer yX7_answer 1 0 0 (fR t) (f7_answer a0 S) [vR (some a0)] (MM t S) := by
  refine Ct_of_J [some (vR (some a0))] (by decide) rfl (fun h => by cases h) (Nat.le_of_ble_eq_true rfl) (And.intro rfl (trivial)) ?_
  unfold f7_answer
  refine J_aload_n dX7_answer_0 rfl rfl ?_
  refine K_getR (r := some (a0 + 3)) cf7 flX7_18 (sq7_0 h0) (rq7_1 h0) (Or.inl ⟨_, rfl⟩) dX7_answer_1 ?_
  exact J_areturn rfl (Nat.le_refl _) (Nat.le_refl _) rfl dX7_answer_4
theorem dX7_phase_0 : decode cX7_phase 0 = .ok (.aload_n 0, 1) := by decide +kernel
theorem dX7_phase_1 : decode cX7_phase 1 = .ok (.getfield 25, 3) := by decide +kernel
theorem dX7_phase_4 : decode cX7_phase 4 = .ok (.ireturn, 1) := by decide +kernel
set_option maxRecDepth 100000 in
set_option maxHeartbeats 4000000 in
theorem ct7_phase (G : Gm) (t : Nat)  (a0 : Nat) (h0 : a0 ∈ ad7) (S : St) : Ct G YX7_phase yX7_phase 1 0 0 (fI t) (f7_phase a0 S) [vR (some a0)] (MM t S) := by
  refine Ct_of_J [some (vR (some a0))] (by decide) rfl (fun h => by cases h) (Nat.le_of_ble_eq_true rfl) (And.intro rfl (trivial)) ?_
  unfold f7_phase
  refine J_aload_n dX7_phase_0 rfl rfl ?_
  refine K_getI cf7 flX7_25 (sq7_0 h0) (Or.inl rfl) dX7_phase_1 ?_
  exact J_ireturn rfl (Nat.le_refl _) (Nat.le_refl _) rfl dX7_phase_4
theorem dX7_answerSteps_0 : decode cX7_answerSteps 0 = .ok (.aload_n 0, 1) := by decide +kernel
theorem dX7_answerSteps_1 : decode cX7_answerSteps 1 = .ok (.getfield 29, 3) := by decide +kernel
theorem dX7_answerSteps_4 : decode cX7_answerSteps 4 = .ok (.ireturn, 1) := by decide +kernel
set_option maxRecDepth 100000 in
set_option maxHeartbeats 4000000 in
theorem ct7_answerSteps (G : Gm) (t : Nat)  (a0 : Nat) (h0 : a0 ∈ ad7) (S : St) : Ct G YX7_answerSteps yX7_answerSteps 1 0 0 (fI t) (f7_answerSteps a0 S) [vR (some a0)] (MM t S) := by
  refine Ct_of_J [some (vR (some a0))] (by decide) rfl (fun h => by cases h) (Nat.le_of_ble_eq_true rfl) (And.intro rfl (trivial)) ?_
  unfold f7_answerSteps
  refine J_aload_n dX7_answerSteps_0 rfl rfl ?_
  refine K_getI cf7 flX7_29 (sq7_0 h0) (Or.inl rfl) dX7_answerSteps_1 ?_
  exact J_ireturn rfl (Nat.le_refl _) (Nat.le_refl _) rfl dX7_answerSteps_4
theorem dX7_sum_0 : decode cX7_sum 0 = .ok (.aload_n 0, 1) := by decide +kernel
theorem dX7_sum_1 : decode cX7_sum 1 = .ok (.getfield 35, 3) := by decide +kernel
theorem dX7_sum_4 : decode cX7_sum 4 = .ok (.ireturn, 1) := by decide +kernel
set_option maxRecDepth 100000 in
set_option maxHeartbeats 4000000 in
theorem ct7_sum (G : Gm) (t : Nat)  (a0 : Nat) (h0 : a0 ∈ ad7) (S : St) : Ct G YX7_sum yX7_sum 1 0 0 (fI t) (f7_sum a0 S) [vR (some a0)] (MM t S) := by
  refine Ct_of_J [some (vR (some a0))] (by decide) rfl (fun h => by cases h) (Nat.le_of_ble_eq_true rfl) (And.intro rfl (trivial)) ?_
  unfold f7_sum
  refine J_aload_n dX7_sum_0 rfl rfl ?_
  refine K_getI cf7 flX7_35 (sq7_0 h0) (Or.inl rfl) dX7_sum_1 ?_
  exact J_ireturn rfl (Nat.le_refl _) (Nat.le_refl _) rfl dX7_sum_4
theorem dX7_begun_0 : decode cX7_begun 0 = .ok (.aload_n 0, 1) := by decide +kernel
theorem dX7_begun_1 : decode cX7_begun 1 = .ok (.getfield 38, 3) := by decide +kernel
theorem dX7_begun_4 : decode cX7_begun 4 = .ok (.ireturn, 1) := by decide +kernel
set_option maxRecDepth 100000 in
set_option maxHeartbeats 4000000 in
theorem ct7_begun (G : Gm) (t : Nat)  (a0 : Nat) (h0 : a0 ∈ ad7) (S : St) : Ct G YX7_begun yX7_begun 1 0 0 (fI t) (f7_begun a0 S) [vR (some a0)] (MM t S) := by
  refine Ct_of_J [some (vR (some a0))] (by decide) rfl (fun h => by cases h) (Nat.le_of_ble_eq_true rfl) (And.intro rfl (trivial)) ?_
  unfold f7_begun
  refine J_aload_n dX7_begun_0 rfl rfl ?_
  refine K_getI cf7 flX7_38 (sq7_0 h0) (Or.inl rfl) dX7_begun_1 ?_
  exact J_ireturn rfl (Nat.le_refl _) (Nat.le_refl _) rfl dX7_begun_4
theorem dX7_hanging_0 : decode cX7_hanging 0 = .ok (.aload_n 0, 1) := by decide +kernel
theorem dX7_hanging_1 : decode cX7_hanging 1 = .ok (.getfield 41, 3) := by decide +kernel
theorem dX7_hanging_4 : decode cX7_hanging 4 = .ok (.ireturn, 1) := by decide +kernel
set_option maxRecDepth 100000 in
set_option maxHeartbeats 4000000 in
theorem ct7_hanging (G : Gm) (t : Nat)  (a0 : Nat) (h0 : a0 ∈ ad7) (S : St) : Ct G YX7_hanging yX7_hanging 1 0 0 (fI t) (f7_hanging a0 S) [vR (some a0)] (MM t S) := by
  refine Ct_of_J [some (vR (some a0))] (by decide) rfl (fun h => by cases h) (Nat.le_of_ble_eq_true rfl) (And.intro rfl (trivial)) ?_
  unfold f7_hanging
  refine J_aload_n dX7_hanging_0 rfl rfl ?_
  refine K_getI cf7 flX7_41 (sq7_0 h0) (Or.inl rfl) dX7_hanging_1 ?_
  exact J_ireturn rfl (Nat.le_refl _) (Nat.le_refl _) rfl dX7_hanging_4
theorem dX7_factor_0 : decode cX7_factor 0 = .ok (.aload_n 0, 1) := by decide +kernel
theorem dX7_factor_1 : decode cX7_factor 1 = .ok (.getfield 29, 3) := by decide +kernel
theorem dX7_factor_4 : decode cX7_factor 4 = .ok (.aload_n 0, 1) := by decide +kernel
theorem dX7_factor_5 : decode cX7_factor 5 = .ok (.getfield 32, 3) := by decide +kernel
theorem dX7_factor_8 : decode cX7_factor 8 = .ok (.ishl, 1) := by decide +kernel
theorem dX7_factor_9 : decode cX7_factor 9 = .ok (.istore_n 1, 1) := by decide +kernel
theorem dX7_factor_10 : decode cX7_factor 10 = .ok (.iload_n 1, 1) := by decide +kernel
theorem dX7_factor_11 : decode cX7_factor 11 = .ok (.ifCond .gt 7, 3) := by decide +kernel
theorem dX7_factor_14 : decode cX7_factor 14 = .ok (.iconst 0, 1) := by decide +kernel
theorem dX7_factor_15 : decode cX7_factor 15 = .ok (.goto 13, 3) := by decide +kernel
theorem dX7_factor_18 : decode cX7_factor 18 = .ok (.aload_n 0, 1) := by decide +kernel
theorem dX7_factor_19 : decode cX7_factor 19 = .ok (.getfield 35, 3) := by decide +kernel
theorem dX7_factor_22 : decode cX7_factor 22 = .ok (.iload_n 1, 1) := by decide +kernel
theorem dX7_factor_23 : decode cX7_factor 23 = .ok (.iadd, 1) := by decide +kernel
theorem dX7_factor_24 : decode cX7_factor 24 = .ok (.iconst 1, 1) := by decide +kernel
theorem dX7_factor_25 : decode cX7_factor 25 = .ok (.isub, 1) := by decide +kernel
theorem dX7_factor_26 : decode cX7_factor 26 = .ok (.iload_n 1, 1) := by decide +kernel
theorem dX7_factor_27 : decode cX7_factor 27 = .ok (.idiv, 1) := by decide +kernel
theorem dX7_factor_28 : decode cX7_factor 28 = .ok (.ireturn, 1) := by decide +kernel
set_option maxRecDepth 100000 in
set_option maxHeartbeats 4000000 in
theorem ct7_factor (G : Gm) (t : Nat)  (a0 : Nat) (h0 : a0 ∈ ad7) (S : St) : Ct G YX7_factor yX7_factor 1 0 0 (fI t) (f7_factor a0 S) [vR (some a0)] (MM t S) := by
  refine Ct_of_J [some (vR (some a0)), none] (by decide) rfl (fun h => by cases h) (Nat.le_of_ble_eq_true rfl) (And.intro rfl (trivial)) ?_
  unfold f7_factor
  refine J_aload_n dX7_factor_0 rfl rfl ?_
  refine K_getI cf7 flX7_29 (sq7_0 h0) (Or.inl rfl) dX7_factor_1 ?_
  refine J_aload_n dX7_factor_4 rfl rfl ?_
  refine K_getI cf7 flX7_32 (sq7_0 h0) (Or.inl rfl) dX7_factor_5 ?_
  refine J_ishl dX7_factor_8 ?_
  refine J_ltI (fun v1 _ => ?_)
  refine J_istore_n [some (vR (some a0)), some (vI v1)] dX7_factor_9 rfl (Nat.le_of_ble_eq_true rfl) rfl rfl ?_
  refine J_iload_n dX7_factor_10 rfl rfl ?_
  refine J_if_gt (tgt := 18) dX7_factor_11 (by decide) (fun z2 => ?_) (fun z2 => ?_)
  · refine J_aload_n dX7_factor_18 rfl rfl ?_
    refine K_getI cf7 flX7_35 (sq7_0 h0) (Or.inl rfl) dX7_factor_19 ?_
    refine J_iload_n dX7_factor_22 rfl rfl ?_
    refine J_iadd dX7_factor_23 ?_
    refine J_iconst (v := nI 1) dX7_factor_24 (by decide) ?_
    refine J_isub dX7_factor_25 ?_
    refine J_iload_n dX7_factor_26 rfl rfl ?_
    refine J_idivZ dX7_factor_27 ?_
    exact J_ireturn rfl (Nat.le_refl _) (Nat.le_refl _) rfl dX7_factor_28
  · refine J_iconst (v := nI 0) dX7_factor_14 (by decide) ?_
    refine J_goto (tgt := 28) dX7_factor_15 (by decide) ?_
    exact J_ireturn rfl (Nat.le_refl _) (Nat.le_refl _) rfl dX7_factor_28
