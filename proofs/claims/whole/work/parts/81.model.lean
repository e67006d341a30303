theorem dX12_ran_0 : decode cX12_ran 0 = .ok (.aload_n 0, 1) := by decide +kernel
theorem dX12_ran_1 : decode cX12_ran 1 = .ok (.getfield 46, 3) := by decide +kernel
theorem dX12_ran_4 : decode cX12_ran 4 = .ok (.ifCond .ge 5, 3) := by decide +kernel
theorem dX12_ran_7 : decode cX12_ran 7 = .ok (.iconst (-1), 1) := by decide +kernel
theorem dX12_ran_8 : decode cX12_ran 8 = .ok (.ireturn, 1) := by decide +kernel
theorem dX12_ran_9 : decode cX12_ran 9 = .ok (.iload_n 1, 1) := by decide +kernel
theorem dX12_ran_10 : decode cX12_ran 10 = .ok (.tableswitch 50 0 3 #[30, 35, 40, 45], 30) := by decide +kernel
theorem dX12_ran_40 : decode cX12_ran 40 = .ok (.aload_n 0, 1) := by decide +kernel
theorem dX12_ran_41 : decode cX12_ran 41 = .ok (.getfield 46, 3) := by decide +kernel
theorem dX12_ran_44 : decode cX12_ran 44 = .ok (.ireturn, 1) := by decide +kernel
theorem dX12_ran_45 : decode cX12_ran 45 = .ok (.aload_n 0, 1) := by decide +kernel
theorem dX12_ran_46 : decode cX12_ran 46 = .ok (.getfield 187, 3) := by decide +kernel
theorem dX12_ran_49 : decode cX12_ran 49 = .ok (.ireturn, 1) := by decide +kernel
theorem dX12_ran_50 : decode cX12_ran 50 = .ok (.aload_n 0, 1) := by decide +kernel
theorem dX12_ran_51 : decode cX12_ran 51 = .ok (.getfield 190, 3) := by decide +kernel
theorem dX12_ran_54 : decode cX12_ran 54 = .ok (.ireturn, 1) := by decide +kernel
theorem dX12_ran_55 : decode cX12_ran 55 = .ok (.aload_n 0, 1) := by decide +kernel
theorem dX12_ran_56 : decode cX12_ran 56 = .ok (.getfield 193, 3) := by decide +kernel
theorem dX12_ran_59 : decode cX12_ran 59 = .ok (.ireturn, 1) := by decide +kernel
theorem dX12_ran_60 : decode cX12_ran 60 = .ok (.iload_n 1, 1) := by decide +kernel
theorem dX12_ran_61 : decode cX12_ran 61 = .ok (.bipush 10, 2) := by decide +kernel
theorem dX12_ran_63 : decode cX12_ran 63 = .ok (.if_icmp .lt 26, 3) := by decide +kernel
theorem dX12_ran_66 : decode cX12_ran 66 = .ok (.iload_n 1, 1) := by decide +kernel
theorem dX12_ran_67 : decode cX12_ran 67 = .ok (.bipush 10, 2) := by decide +kernel
theorem dX12_ran_69 : decode cX12_ran 69 = .ok (.isub, 1) := by decide +kernel
theorem dX12_ran_70 : decode cX12_ran 70 = .ok (.aload_n 0, 1) := by decide +kernel
theorem dX12_ran_71 : decode cX12_ran 71 = .ok (.getfield 193, 3) := by decide +kernel
theorem dX12_ran_74 : decode cX12_ran 74 = .ok (.if_icmp .ge 15, 3) := by decide +kernel
theorem dX12_ran_77 : decode cX12_ran 77 = .ok (.aload_n 0, 1) := by decide +kernel
theorem dX12_ran_78 : decode cX12_ran 78 = .ok (.getfield 50, 3) := by decide +kernel
theorem dX12_ran_81 : decode cX12_ran 81 = .ok (.iload_n 1, 1) := by decide +kernel
theorem dX12_ran_82 : decode cX12_ran 82 = .ok (.bipush 10, 2) := by decide +kernel
theorem dX12_ran_84 : decode cX12_ran 84 = .ok (.isub, 1) := by decide +kernel
theorem dX12_ran_85 : decode cX12_ran 85 = .ok (.iaload, 1) := by decide +kernel
theorem dX12_ran_86 : decode cX12_ran 86 = .ok (.goto 4, 3) := by decide +kernel
theorem dX12_ran_89 : decode cX12_ran 89 = .ok (.iconst (-1), 1) := by decide +kernel
theorem dX12_ran_90 : decode cX12_ran 90 = .ok (.ireturn, 1) := by decide +kernel
set_option maxRecDepth 100000 in
set_option maxHeartbeats 4000000 in
theorem ct12_ran (G : Gm) (t : Nat)  (x1 : Int32)  (S : St) : Ct G YX12_ran yX12_ran 1 0 0 (fI t) (f12_ran x1 S) [vR (some 146), vI x1] (MM t S) := by
  refine Ct_of_J [some (vR (some 146)), some (vI x1)] (by decide) rfl (fun h => by cases h) (Nat.le_of_ble_eq_true rfl) (And.intro rfl (And.intro rfl (trivial))) ?_
  unfold f12_ran
  refine J_aload_n dX12_ran_0 rfl rfl ?_
  refine K_getI cf12 flX12_46 (sq 146 rfl) (Or.inl rfl) dX12_ran_1 ?_
  refine J_if_ge (tgt := 9) dX12_ran_4 (by decide) (fun z1 => ?_) (fun z1 => ?_)
  · refine J_iload_n dX12_ran_9 rfl rfl ?_
    refine J_table (td := 60) _ dX12_ran_10 (fun z h1 h2 => cov_of (lo := (0)) (N := 4) (ks := [nI 0, nI 1, nI 2, nI 3]) (by decide) z h1 (by omega)) ?_ (by decide) ?_
    · refine List.forall_mem_cons.mpr ⟨tb_mk (o := 30) (tgt := 40) (by decide) (fun _ => ?_), ?_⟩
      · refine J_aload_n dX12_ran_40 rfl rfl ?_
        refine K_getI cf12 flX12_46 (sq 146 rfl) (Or.inl rfl) dX12_ran_41 ?_
        exact J_ireturn rfl (Nat.le_refl _) (Nat.le_refl _) rfl dX12_ran_44
      · refine List.forall_mem_cons.mpr ⟨tb_mk (o := 35) (tgt := 45) (by decide) (fun _ => ?_), ?_⟩
        · refine J_aload_n dX12_ran_45 rfl rfl ?_
          refine K_getI cf12 flX12_187 (sq 146 rfl) (Or.inl rfl) dX12_ran_46 ?_
          exact J_ireturn rfl (Nat.le_refl _) (Nat.le_refl _) rfl dX12_ran_49
        · refine List.forall_mem_cons.mpr ⟨tb_mk (o := 40) (tgt := 50) (by decide) (fun _ => ?_), ?_⟩
          · refine J_aload_n dX12_ran_50 rfl rfl ?_
            refine K_getI cf12 flX12_190 (sq 146 rfl) (Or.inl rfl) dX12_ran_51 ?_
            exact J_ireturn rfl (Nat.le_refl _) (Nat.le_refl _) rfl dX12_ran_54
          · refine List.forall_mem_cons.mpr ⟨tb_mk (o := 45) (tgt := 55) (by decide) (fun _ => ?_), ?_⟩
            · refine J_aload_n dX12_ran_55 rfl rfl ?_
              refine K_getI cf12 flX12_193 (sq 146 rfl) (Or.inl rfl) dX12_ran_56 ?_
              exact J_ireturn rfl (Nat.le_refl _) (Nat.le_refl _) rfl dX12_ran_59
            · exact fun _ h => absurd h List.not_mem_nil
    · refine J_iload_n dX12_ran_60 rfl rfl ?_
      refine J_bipush (v := nI 10) dX12_ran_61 (by decide) ?_
      refine J_icmp_lt (tgt := 89) dX12_ran_63 (by decide) (fun z2 => ?_) (fun z2 => ?_)
      · refine J_iconst (v := (-1)) dX12_ran_89 (by decide) ?_
        exact J_ireturn rfl (Nat.le_refl _) (Nat.le_refl _) rfl dX12_ran_90
      · refine J_iload_n dX12_ran_66 rfl rfl ?_
        refine J_bipush (v := nI 10) dX12_ran_67 (by decide) ?_
        refine J_isub dX12_ran_69 ?_
        refine J_aload_n dX12_ran_70 rfl rfl ?_
        refine K_getI cf12 flX12_193 (sq 146 rfl) (Or.inl rfl) dX12_ran_71 ?_
        refine J_icmp_ge (tgt := 89) dX12_ran_74 (by decide) (fun z3 => ?_) (fun z3 => ?_)
        · refine J_iconst (v := (-1)) dX12_ran_89 (by decide) ?_
          exact J_ireturn rfl (Nat.le_refl _) (Nat.le_refl _) rfl dX12_ran_90
        · refine J_aload_n dX12_ran_77 rfl rfl ?_
          refine K_getR (r := some (159)) cf12 flX12_50 (sq 146 rfl) rfl (Or.inr ⟨_, rfl⟩) dX12_ran_78 ?_
          refine J_iload_n dX12_ran_81 rfl rfl ?_
          refine J_bipush (v := nI 10) dX12_ran_82 (by decide) ?_
          refine J_isub dX12_ran_84 ?_
          refine K_iald (sq 159 rfl) dX12_ran_85 ?_
          refine J_goto (tgt := 90) dX12_ran_86 (by decide) ?_
          exact J_ireturn rfl (Nat.le_refl _) (Nat.le_refl _) rfl dX12_ran_90
  · refine J_iconst (v := (-1)) dX12_ran_7 (by decide) ?_
    exact J_ireturn rfl (Nat.le_refl _) (Nat.le_refl _) rfl dX12_ran_8
theorem dX12_listFrom_0 : decode cX12_listFrom 0 = .ok (.iconst 0, 1) := by decide +kernel
theorem dX12_listFrom_1 : decode cX12_listFrom 1 = .ok (.istore 7, 2) := by decide +kernel
theorem dX12_listFrom_3 : decode cX12_listFrom 3 = .ok (.iload 7, 2) := by decide +kernel
theorem dX12_listFrom_5 : decode cX12_listFrom 5 = .ok (.aload_n 0, 1) := by decide +kernel
theorem dX12_listFrom_6 : decode cX12_listFrom 6 = .ok (.iload_n 1, 1) := by decide +kernel
theorem dX12_listFrom_7 : decode cX12_listFrom 7 = .ok (.invokevirtual 103, 3) := by decide +kernel
theorem dX12_listFrom_10 : decode cX12_listFrom 10 = .ok (.if_icmp .ge 119, 3) := by decide +kernel
theorem dX12_listFrom_13 : decode cX12_listFrom 13 = .ok (.aload_n 0, 1) := by decide +kernel
theorem dX12_listFrom_14 : decode cX12_listFrom 14 = .ok (.getfield 16, 3) := by decide +kernel
theorem dX12_listFrom_17 : decode cX12_listFrom 17 = .ok (.bipush 12, 2) := by decide +kernel
theorem dX12_listFrom_19 : decode cX12_listFrom 19 = .ok (.iload_n 1, 1) := by decide +kernel
theorem dX12_listFrom_20 : decode cX12_listFrom 20 = .ok (.imul, 1) := by decide +kernel
theorem dX12_listFrom_21 : decode cX12_listFrom 21 = .ok (.iload 7, 2) := by decide +kernel
theorem dX12_listFrom_23 : decode cX12_listFrom 23 = .ok (.iadd, 1) := by decide +kernel
theorem dX12_listFrom_24 : decode cX12_listFrom 24 = .ok (.iaload, 1) := by decide +kernel
theorem dX12_listFrom_25 : decode cX12_listFrom 25 = .ok (.istore 8, 2) := by decide +kernel
theorem dX12_listFrom_27 : decode cX12_listFrom 27 = .ok (.iload 5, 2) := by decide +kernel
theorem dX12_listFrom_29 : decode cX12_listFrom 29 = .ok (.aload_n 0, 1) := by decide +kernel
theorem dX12_listFrom_30 : decode cX12_listFrom 30 = .ok (.getfield 9, 3) := by decide +kernel
theorem dX12_listFrom_33 : decode cX12_listFrom 33 = .ok (.bipush 12, 2) := by decide +kernel
theorem dX12_listFrom_35 : decode cX12_listFrom 35 = .ok (.iload_n 1, 1) := by decide +kernel
theorem dX12_listFrom_36 : decode cX12_listFrom 36 = .ok (.imul, 1) := by decide +kernel
theorem dX12_listFrom_37 : decode cX12_listFrom 37 = .ok (.iload 8, 2) := by decide +kernel
theorem dX12_listFrom_39 : decode cX12_listFrom 39 = .ok (.iadd, 1) := by decide +kernel
theorem dX12_listFrom_40 : decode cX12_listFrom 40 = .ok (.iaload, 1) := by decide +kernel
theorem dX12_listFrom_41 : decode cX12_listFrom 41 = .ok (.isub, 1) := by decide +kernel
theorem dX12_listFrom_42 : decode cX12_listFrom 42 = .ok (.istore 9, 2) := by decide +kernel
theorem dX12_listFrom_44 : decode cX12_listFrom 44 = .ok (.iload 8, 2) := by decide +kernel
theorem dX12_listFrom_46 : decode cX12_listFrom 46 = .ok (.ifCond .ne 42, 3) := by decide +kernel
theorem dX12_listFrom_49 : decode cX12_listFrom 49 = .ok (.iload 9, 2) := by decide +kernel
theorem dX12_listFrom_51 : decode cX12_listFrom 51 = .ok (.ifCond .ne 72, 3) := by decide +kernel
theorem dX12_listFrom_54 : decode cX12_listFrom 54 = .ok (.aload_n 0, 1) := by decide +kernel
theorem dX12_listFrom_55 : decode cX12_listFrom 55 = .ok (.getfield 53, 3) := by decide +kernel
theorem dX12_listFrom_58 : decode cX12_listFrom 58 = .ok (.aload_n 0, 1) := by decide +kernel
theorem dX12_listFrom_59 : decode cX12_listFrom 59 = .ok (.getfield 196, 3) := by decide +kernel
theorem dX12_listFrom_62 : decode cX12_listFrom 62 = .ok (.lload_n 2, 1) := by decide +kernel
theorem dX12_listFrom_63 : decode cX12_listFrom 63 = .ok (.lastore, 1) := by decide +kernel
theorem dX12_listFrom_64 : decode cX12_listFrom 64 = .ok (.aload_n 0, 1) := by decide +kernel
theorem dX12_listFrom_65 : decode cX12_listFrom 65 = .ok (.getfield 57, 3) := by decide +kernel
theorem dX12_listFrom_68 : decode cX12_listFrom 68 = .ok (.aload_n 0, 1) := by decide +kernel
theorem dX12_listFrom_69 : decode cX12_listFrom 69 = .ok (.getfield 196, 3) := by decide +kernel
theorem dX12_listFrom_72 : decode cX12_listFrom 72 = .ok (.iload 6, 2) := by decide +kernel
theorem dX12_listFrom_74 : decode cX12_listFrom 74 = .ok (.iastore, 1) := by decide +kernel
theorem dX12_listFrom_75 : decode cX12_listFrom 75 = .ok (.aload_n 0, 1) := by decide +kernel
theorem dX12_listFrom_76 : decode cX12_listFrom 76 = .ok (.dup, 1) := by decide +kernel
theorem dX12_listFrom_77 : decode cX12_listFrom 77 = .ok (.getfield 196, 3) := by decide +kernel
theorem dX12_listFrom_80 : decode cX12_listFrom 80 = .ok (.iconst 1, 1) := by decide +kernel
theorem dX12_listFrom_81 : decode cX12_listFrom 81 = .ok (.iadd, 1) := by decide +kernel
theorem dX12_listFrom_82 : decode cX12_listFrom 82 = .ok (.putfield 196, 3) := by decide +kernel
theorem dX12_listFrom_85 : decode cX12_listFrom 85 = .ok (.goto 38, 3) := by decide +kernel
theorem dX12_listFrom_88 : decode cX12_listFrom 88 = .ok (.iload 9, 2) := by decide +kernel
theorem dX12_listFrom_90 : decode cX12_listFrom 90 = .ok (.ifCond .le 33, 3) := by decide +kernel
theorem dX12_listFrom_93 : decode cX12_listFrom 93 = .ok (.iload 4, 2) := by decide +kernel
theorem dX12_listFrom_95 : decode cX12_listFrom 95 = .ok (.bipush 11, 2) := by decide +kernel
theorem dX12_listFrom_97 : decode cX12_listFrom 97 = .ok (.if_icmp .ge 26, 3) := by decide +kernel
theorem dX12_listFrom_100 : decode cX12_listFrom 100 = .ok (.aload_n 0, 1) := by decide +kernel
theorem dX12_listFrom_101 : decode cX12_listFrom 101 = .ok (.iload_n 1, 1) := by decide +kernel
theorem dX12_listFrom_102 : decode cX12_listFrom 102 = .ok (.lload_n 2, 1) := by decide +kernel
theorem dX12_listFrom_103 : decode cX12_listFrom 103 = .ok (.iload 8, 2) := by decide +kernel
theorem dX12_listFrom_105 : decode cX12_listFrom 105 = .ok (.i2l, 1) := by decide +kernel
theorem dX12_listFrom_106 : decode cX12_listFrom 106 = .ok (.iconst 4, 1) := by decide +kernel
theorem dX12_listFrom_107 : decode cX12_listFrom 107 = .ok (.iload 4, 2) := by decide +kernel
theorem dX12_listFrom_109 : decode cX12_listFrom 109 = .ok (.imul, 1) := by decide +kernel
theorem dX12_listFrom_110 : decode cX12_listFrom 110 = .ok (.lshl, 1) := by decide +kernel
theorem dX12_listFrom_111 : decode cX12_listFrom 111 = .ok (.lor, 1) := by decide +kernel
theorem dX12_listFrom_112 : decode cX12_listFrom 112 = .ok (.iload 4, 2) := by decide +kernel
theorem dX12_listFrom_114 : decode cX12_listFrom 114 = .ok (.iconst 1, 1) := by decide +kernel
theorem dX12_listFrom_115 : decode cX12_listFrom 115 = .ok (.iadd, 1) := by decide +kernel
theorem dX12_listFrom_116 : decode cX12_listFrom 116 = .ok (.iload 9, 2) := by decide +kernel
theorem dX12_listFrom_118 : decode cX12_listFrom 118 = .ok (.iload 6, 2) := by decide +kernel
theorem dX12_listFrom_120 : decode cX12_listFrom 120 = .ok (.invokevirtual 199, 3) := by decide +kernel
theorem dX12_listFrom_123 : decode cX12_listFrom 123 = .ok (.iinc 7 1, 3) := by decide +kernel
theorem dX12_listFrom_126 : decode cX12_listFrom 126 = .ok (.goto (-123), 3) := by decide +kernel
theorem dX12_listFrom_129 : decode cX12_listFrom 129 = .ok (.return_, 1) := by decide +kernel
set_option maxRecDepth 100000 in
set_option maxHeartbeats 4000000 in
theorem t12_listFrom_h3 (G : Gm) (t : Nat) (N : Nat) (pv : Int32 → Int64 → Int32 → Int32 → Int32 → St → Option (Unit × St)) (dv : Nat) (hdv : 2 ≤ dv) (hpv : ∀ (x1 : Int32) (l2 : Int64) (x4 : Int32) (x5 : Int32) (x6 : Int32)  (S : St), Ct G YX12_listFrom yX12_listFrom dv 0 0 (fV t) (pv x1 l2 x4 x5 x6 S) [vR (some 146), vI x1, vL l2, vI x4, vI x5, vI x6] (MM t S)) (x1 : Int32) (l2 : Int64) (x4 : Int32) (x5 : Int32) (x6 : Int32)    : ∀ (n : Nat) (x7 : Int32) (S : St), J G YX12_listFrom (dv + 1) 0 0 (fV t) 0 0 3 [some (vR (some 146)), some (vI x1), some (vL l2), none, some (vI x4), some (vI x5), some (vI x6), some (vI x7), none, none] [] (MM t S) (f12_listFrom_h3 N pv x1 l2 x4 x5 x6 n x7 S) := by
  intro n
  induction n with
  | zero => intro x7 S; exact J_none
  | succ n ih =>
    intro x7 S
    rw [f12_listFrom_h3]
    refine J_iload dX12_listFrom_3 rfl ?_
    refine J_aload_n dX12_listFrom_5 rfl rfl ?_
    refine J_iload_n dX12_listFrom_6 rfl rfl ?_
    refine K_callV_i (As := [vI x1]) mcX12_ordersOf mlX12_103 rfl (by decide) (sq 146 rfl) (ct12_ordersOf G t x1 S) rfl rfl (Nat.le_of_ble_eq_true rfl) (by omega) (Nat.le_of_ble_eq_true rfl) dX12_listFrom_7 (fun q1 S2 => ?_)
    refine J_icmp_ge (tgt := 129) dX12_listFrom_10 (by decide) (fun z3 => ?_) (fun z3 => ?_)
    · exact J_return rfl (Nat.le_refl _) (Nat.le_refl _) rfl dX12_listFrom_129
    · refine J_aload_n dX12_listFrom_13 rfl rfl ?_
      refine K_getR (r := some (149)) cf12 flX12_16 (sq 146 rfl) rfl (Or.inr ⟨_, rfl⟩) dX12_listFrom_14 ?_
      refine J_bipush (v := nI 12) dX12_listFrom_17 (by decide) ?_
      refine J_iload_n dX12_listFrom_19 rfl rfl ?_
      refine J_imul dX12_listFrom_20 ?_
      refine J_iload dX12_listFrom_21 rfl ?_
      refine J_iadd dX12_listFrom_23 ?_
      refine K_iald (sq 149 rfl) dX12_listFrom_24 ?_
      refine J_ltI (fun v4 _ => ?_)
      refine J_istore [some (vR (some 146)), some (vI x1), some (vL l2), none, some (vI x4), some (vI x5), some (vI x6), some (vI x7), some (vI v4), none] dX12_listFrom_25 (Nat.le_of_ble_eq_true rfl) rfl rfl ?_
      refine J_iload dX12_listFrom_27 rfl ?_
      refine J_aload_n dX12_listFrom_29 rfl rfl ?_
      refine K_getR (r := some (147)) cf12 flX12_9 (sq 146 rfl) rfl (Or.inr ⟨_, rfl⟩) dX12_listFrom_30 ?_
      refine J_bipush (v := nI 12) dX12_listFrom_33 (by decide) ?_
      refine J_iload_n dX12_listFrom_35 rfl rfl ?_
      refine J_imul dX12_listFrom_36 ?_
      refine J_iload dX12_listFrom_37 rfl ?_
      refine J_iadd dX12_listFrom_39 ?_
      refine K_iald (sq 147 rfl) dX12_listFrom_40 ?_
      refine J_isub dX12_listFrom_41 ?_
      refine J_ltI (fun v5 _ => ?_)
      refine J_istore [some (vR (some 146)), some (vI x1), some (vL l2), none, some (vI x4), some (vI x5), some (vI x6), some (vI x7), some (vI v4), some (vI v5)] dX12_listFrom_42 (Nat.le_of_ble_eq_true rfl) rfl rfl ?_
      refine J_iload dX12_listFrom_44 rfl ?_
      refine J_if_ne (tgt := 88) dX12_listFrom_46 (by decide) (fun z6 => ?_) (fun z6 => ?_)
      · refine J_iload dX12_listFrom_49 rfl ?_
        refine J_if_ne (tgt := 123) dX12_listFrom_51 (by decide) (fun z11 => ?_) (fun z11 => ?_)
        · refine J_aload_n dX12_listFrom_54 rfl rfl ?_
          refine K_getR (r := some (160)) cf12 flX12_53 (sq 146 rfl) rfl (Or.inr ⟨_, rfl⟩) dX12_listFrom_55 ?_
          refine J_aload_n dX12_listFrom_58 rfl rfl ?_
          refine K_getI cf12 flX12_196 (sq 146 rfl) (Or.inl rfl) dX12_listFrom_59 ?_
          refine J_lload_n dX12_listFrom_62 rfl rfl ?_
          refine K_last (sq 160 rfl) dX12_listFrom_63 ?_
          refine J_ltS (fun S12 _ => ?_)
          refine J_aload_n dX12_listFrom_64 rfl rfl ?_
          refine K_getR (r := some (161)) cf12 flX12_57 (sq 146 rfl) rfl (Or.inr ⟨_, rfl⟩) dX12_listFrom_65 ?_
          refine J_aload_n dX12_listFrom_68 rfl rfl ?_
          refine K_getI cf12 flX12_196 (sq 146 rfl) (Or.inl rfl) dX12_listFrom_69 ?_
          refine J_iload dX12_listFrom_72 rfl ?_
          refine K_iast (sq 161 rfl) dX12_listFrom_74 ?_
          refine J_ltS (fun S13 _ => ?_)
          refine J_aload_n dX12_listFrom_75 rfl rfl ?_
          refine J_dup dX12_listFrom_76 rfl ?_
          refine K_getI cf12 flX12_196 (sq 146 rfl) (Or.inl rfl) dX12_listFrom_77 ?_
          refine J_iconst (v := nI 1) dX12_listFrom_80 (by decide) ?_
          refine J_iadd dX12_listFrom_81 ?_
          refine K_putI cf12 flX12_196 (sq 146 rfl) rfl dX12_listFrom_82 ?_
          refine J_ltS (fun S14 _ => ?_)
          refine J_goto (tgt := 123) dX12_listFrom_85 (by decide) ?_
          refine J_iinc (v := x7 + nI 1) [some (vR (some 146)), some (vI x1), some (vL l2), none, some (vI x4), some (vI x5), some (vI x6), some (vI (x7 + nI 1)), some (vI v4), some (vI v5)] dX12_listFrom_123 rfl rfl (Nat.le_of_ble_eq_true rfl) rfl rfl ?_
          refine J_goto (tgt := 3) dX12_listFrom_126 (by decide) ?_
          exact J_sb (ih (x7 + nI 1) S14) (And.intro rfl (And.intro rfl (And.intro rfl (And.intro rfl (And.intro rfl (And.intro rfl (And.intro rfl (trivial))))))))
        · refine J_iinc (v := x7 + nI 1) [some (vR (some 146)), some (vI x1), some (vL l2), none, some (vI x4), some (vI x5), some (vI x6), some (vI (x7 + nI 1)), some (vI v4), some (vI v5)] dX12_listFrom_123 rfl rfl (Nat.le_of_ble_eq_true rfl) rfl rfl ?_
          refine J_goto (tgt := 3) dX12_listFrom_126 (by decide) ?_
          exact J_sb (ih (x7 + nI 1) S2) (And.intro rfl (And.intro rfl (And.intro rfl (And.intro rfl (And.intro rfl (And.intro rfl (And.intro rfl (trivial))))))))
      · refine J_iload dX12_listFrom_88 rfl ?_
        refine J_if_le (tgt := 123) dX12_listFrom_90 (by decide) (fun z7 => ?_) (fun z7 => ?_)
        · refine J_iinc (v := x7 + nI 1) [some (vR (some 146)), some (vI x1), some (vL l2), none, some (vI x4), some (vI x5), some (vI x6), some (vI (x7 + nI 1)), some (vI v4), some (vI v5)] dX12_listFrom_123 rfl rfl (Nat.le_of_ble_eq_true rfl) rfl rfl ?_
          refine J_goto (tgt := 3) dX12_listFrom_126 (by decide) ?_
          exact J_sb (ih (x7 + nI 1) S2) (And.intro rfl (And.intro rfl (And.intro rfl (And.intro rfl (And.intro rfl (And.intro rfl (And.intro rfl (trivial))))))))
        · refine J_iload dX12_listFrom_93 rfl ?_
          refine J_bipush (v := nI 11) dX12_listFrom_95 (by decide) ?_
          refine J_icmp_ge (tgt := 123) dX12_listFrom_97 (by decide) (fun z8 => ?_) (fun z8 => ?_)
          · refine J_iinc (v := x7 + nI 1) [some (vR (some 146)), some (vI x1), some (vL l2), none, some (vI x4), some (vI x5), some (vI x6), some (vI (x7 + nI 1)), some (vI v4), some (vI v5)] dX12_listFrom_123 rfl rfl (Nat.le_of_ble_eq_true rfl) rfl rfl ?_
            refine J_goto (tgt := 3) dX12_listFrom_126 (by decide) ?_
            exact J_sb (ih (x7 + nI 1) S2) (And.intro rfl (And.intro rfl (And.intro rfl (And.intro rfl (And.intro rfl (And.intro rfl (And.intro rfl (trivial))))))))
          · refine J_aload_n dX12_listFrom_100 rfl rfl ?_
            refine J_iload_n dX12_listFrom_101 rfl rfl ?_
            refine J_lload_n dX12_listFrom_102 rfl rfl ?_
            refine J_iload dX12_listFrom_103 rfl ?_
            refine J_i2l dX12_listFrom_105 ?_
            refine J_iconst (v := nI 4) dX12_listFrom_106 (by decide) ?_
            refine J_iload dX12_listFrom_107 rfl ?_
            refine J_imul dX12_listFrom_109 ?_
            refine J_lshl dX12_listFrom_110 ?_
            refine J_lor dX12_listFrom_111 ?_
            refine J_iload dX12_listFrom_112 rfl ?_
            refine J_iconst (v := nI 1) dX12_listFrom_114 (by decide) ?_
            refine J_iadd dX12_listFrom_115 ?_
            refine J_iload dX12_listFrom_116 rfl ?_
            refine J_iload dX12_listFrom_118 rfl ?_
            refine K_callV_v (As := [vI x1, vL (l2 ||| (shlL v4.toInt64 ((nI 4) * x4))), vI (x4 + (nI 1)), vI v5, vI x6]) mcX12_listFrom mlX12_199 rfl (by decide) (sq 146 rfl) (hpv x1 (l2 ||| (shlL v4.toInt64 ((nI 4) * x4))) (x4 + (nI 1)) v5 x6  S2) rfl rfl (Nat.le_of_ble_eq_true rfl) (by omega) (Nat.le_of_ble_eq_true rfl) dX12_listFrom_120 (fun q9 S10 => ?_)
            refine J_iinc (v := x7 + nI 1) [some (vR (some 146)), some (vI x1), some (vL l2), none, some (vI x4), some (vI x5), some (vI x6), some (vI (x7 + nI 1)), some (vI v4), some (vI v5)] dX12_listFrom_123 rfl rfl (Nat.le_of_ble_eq_true rfl) rfl rfl ?_
            refine J_goto (tgt := 3) dX12_listFrom_126 (by decide) ?_
            exact J_sb (ih (x7 + nI 1) S10) (And.intro rfl (And.intro rfl (And.intro rfl (And.intro rfl (And.intro rfl (And.intro rfl (And.intro rfl (trivial))))))))
set_option maxRecDepth 100000 in
set_option maxHeartbeats 4000000 in
theorem ct12_listFrom_b (G : Gm) (t : Nat) (N : Nat) (pv : Int32 → Int64 → Int32 → Int32 → Int32 → St → Option (Unit × St)) (dv : Nat) (hdv : 2 ≤ dv) (hpv : ∀ (x1 : Int32) (l2 : Int64) (x4 : Int32) (x5 : Int32) (x6 : Int32)  (S : St), Ct G YX12_listFrom yX12_listFrom dv 0 0 (fV t) (pv x1 l2 x4 x5 x6 S) [vR (some 146), vI x1, vL l2, vI x4, vI x5, vI x6] (MM t S)) (x1 : Int32) (l2 : Int64) (x4 : Int32) (x5 : Int32) (x6 : Int32)  (S : St) : Ct G YX12_listFrom yX12_listFrom (dv + 1) 0 0 (fV t) (f12_listFrom_b N pv x1 l2 x4 x5 x6 S) [vR (some 146), vI x1, vL l2, vI x4, vI x5, vI x6] (MM t S) := by
  refine Ct_of_J [some (vR (some 146)), some (vI x1), some (vL l2), none, some (vI x4), some (vI x5), some (vI x6), none, none, none] (by decide) rfl (fun h => by cases h) (Nat.le_of_ble_eq_true rfl) (And.intro rfl (And.intro rfl (And.intro rfl (And.intro rfl (And.intro rfl (And.intro rfl (trivial))))))) ?_
  unfold f12_listFrom_b
  refine J_iconst (v := nI 0) dX12_listFrom_0 (by decide) ?_
  refine J_istore [some (vR (some 146)), some (vI x1), some (vL l2), none, some (vI x4), some (vI x5), some (vI x6), some (vI (nI 0)), none, none] dX12_listFrom_1 (Nat.le_of_ble_eq_true rfl) rfl rfl ?_
  exact J_sb (t12_listFrom_h3 G t N pv dv hdv hpv x1 l2 x4 x5 x6 N (nI 0) S) (And.intro rfl (And.intro rfl (And.intro rfl (And.intro rfl (And.intro rfl (And.intro rfl (And.intro rfl (trivial))))))))
theorem ct12_listFrom (G : Gm) (t : Nat) (N : Nat) : ∀ (n : Nat) (x1 : Int32) (l2 : Int64) (x4 : Int32) (x5 : Int32) (x6 : Int32)  (S : St), Ct G YX12_listFrom yX12_listFrom (1 * n + 2) 0 0 (fV t) (f12_listFrom N n x1 l2 x4 x5 x6 S) [vR (some 146), vI x1, vL l2, vI x4, vI x5, vI x6] (MM t S)
  | 0, _, _, _, _, _, _ => fun u hu => absurd (show none = some u from hu) (by simp)
  | n + 1, x1, l2, x4, x5, x6, S => by
    rw [show 1 * (n + 1) + 2 = 1 * n + 2 + 1 by omega]
    exact ct12_listFrom_b G t N (f12_listFrom N n) _ (by omega) (ct12_listFrom G t N n) x1 l2 x4 x5 x6 S
theorem dX12_listAll_0 : decode cX12_listAll 0 = .ok (.aload_n 0, 1) := by decide +kernel
theorem dX12_listAll_1 : decode cX12_listAll 1 = .ok (.iconst 0, 1) := by decide +kernel
theorem dX12_listAll_2 : decode cX12_listAll 2 = .ok (.putfield 196, 3) := by decide +kernel
theorem dX12_listAll_5 : decode cX12_listAll 5 = .ok (.iconst 1, 1) := by decide +kernel
theorem dX12_listAll_6 : decode cX12_listAll 6 = .ok (.istore_n 3, 1) := by decide +kernel
theorem dX12_listAll_7 : decode cX12_listAll 7 = .ok (.iload_n 3, 1) := by decide +kernel
theorem dX12_listAll_8 : decode cX12_listAll 8 = .ok (.iload_n 2, 1) := by decide +kernel
theorem dX12_listAll_9 : decode cX12_listAll 9 = .ok (.if_icmp .gt 18, 3) := by decide +kernel
theorem dX12_listAll_12 : decode cX12_listAll 12 = .ok (.aload_n 0, 1) := by decide +kernel
theorem dX12_listAll_13 : decode cX12_listAll 13 = .ok (.iload_n 1, 1) := by decide +kernel
theorem dX12_listAll_14 : decode cX12_listAll 14 = .ok (.lconst 0, 1) := by decide +kernel
theorem dX12_listAll_15 : decode cX12_listAll 15 = .ok (.iconst 0, 1) := by decide +kernel
theorem dX12_listAll_16 : decode cX12_listAll 16 = .ok (.iload_n 3, 1) := by decide +kernel
theorem dX12_listAll_17 : decode cX12_listAll 17 = .ok (.iload_n 3, 1) := by decide +kernel
theorem dX12_listAll_18 : decode cX12_listAll 18 = .ok (.invokevirtual 199, 3) := by decide +kernel
theorem dX12_listAll_21 : decode cX12_listAll 21 = .ok (.iinc 3 1, 3) := by decide +kernel
theorem dX12_listAll_24 : decode cX12_listAll 24 = .ok (.goto (-17), 3) := by decide +kernel
theorem dX12_listAll_27 : decode cX12_listAll 27 = .ok (.return_, 1) := by decide +kernel
set_option maxRecDepth 100000 in
set_option maxHeartbeats 4000000 in
theorem t12_listAll_h7 (G : Gm) (t : Nat) (N : Nat) (x1 : Int32) (x2 : Int32)    : ∀ (n : Nat) (x3 : Int32) (S : St), J G YX12_listAll 17 0 0 (fV t) 0 0 7 [some (vR (some 146)), some (vI x1), some (vI x2), some (vI x3)] [] (MM t S) (f12_listAll_h7 N x1 x2 n x3 S) := by
  intro n
  induction n with
  | zero => intro x3 S; exact J_none
  | succ n ih =>
    intro x3 S
    rw [f12_listAll_h7]
    refine J_iload_n dX12_listAll_7 rfl rfl ?_
    refine J_iload_n dX12_listAll_8 rfl rfl ?_
    refine J_icmp_gt (tgt := 27) dX12_listAll_9 (by decide) (fun z1 => ?_) (fun z1 => ?_)
    · exact J_return rfl (Nat.le_refl _) (Nat.le_refl _) rfl dX12_listAll_27
    · refine J_aload_n dX12_listAll_12 rfl rfl ?_
      refine J_iload_n dX12_listAll_13 rfl rfl ?_
      refine J_lconst (v := lN 0) dX12_listAll_14 (by decide) ?_
      refine J_iconst (v := nI 0) dX12_listAll_15 (by decide) ?_
      refine J_iload_n dX12_listAll_16 rfl rfl ?_
      refine J_iload_n dX12_listAll_17 rfl rfl ?_
      refine K_callV_v (As := [vI x1, vL (lN 0), vI (nI 0), vI x3, vI x3]) mcX12_listFrom mlX12_199 rfl (by decide) (sq 146 rfl) (ct12_listFrom G t N 14 x1 (lN 0) (nI 0) x3 x3 S) rfl rfl (Nat.le_of_ble_eq_true rfl) (by decide) (Nat.le_of_ble_eq_true rfl) dX12_listAll_18 (fun q2 S3 => ?_)
      refine J_iinc (v := x3 + nI 1) [some (vR (some 146)), some (vI x1), some (vI x2), some (vI (x3 + nI 1))] dX12_listAll_21 rfl rfl (Nat.le_of_ble_eq_true rfl) rfl rfl ?_
      refine J_goto (tgt := 7) dX12_listAll_24 (by decide) ?_
      exact J_sb (ih (x3 + nI 1) S3) (And.intro rfl (And.intro rfl (And.intro rfl (And.intro rfl (trivial)))))
set_option maxRecDepth 100000 in
set_option maxHeartbeats 4000000 in
theorem ct12_listAll (G : Gm) (t : Nat) (N : Nat) (x1 : Int32) (x2 : Int32)  (S : St) : Ct G YX12_listAll yX12_listAll 17 0 0 (fV t) (f12_listAll N x1 x2 S) [vR (some 146), vI x1, vI x2] (MM t S) := by
  refine Ct_of_J [some (vR (some 146)), some (vI x1), some (vI x2), none] (by decide) rfl (fun h => by cases h) (Nat.le_of_ble_eq_true rfl) (And.intro rfl (And.intro rfl (And.intro rfl (trivial)))) ?_
  unfold f12_listAll
  refine J_aload_n dX12_listAll_0 rfl rfl ?_
  refine J_iconst (v := nI 0) dX12_listAll_1 (by decide) ?_
  refine K_putI cf12 flX12_196 (sq 146 rfl) rfl dX12_listAll_2 ?_
  refine J_ltS (fun S1 _ => ?_)
  refine J_iconst (v := nI 1) dX12_listAll_5 (by decide) ?_
  refine J_istore_n [some (vR (some 146)), some (vI x1), some (vI x2), some (vI (nI 1))] dX12_listAll_6 rfl (Nat.le_of_ble_eq_true rfl) rfl rfl ?_
  exact J_sb (t12_listAll_h7 G t N x1 x2 N (nI 1) S1) (And.intro rfl (And.intro rfl (And.intro rfl (And.intro rfl (trivial)))))
theorem dX12_next_0 : decode cX12_next 0 = .ok (.aload_n 0, 1) := by decide +kernel
theorem dX12_next_1 : decode cX12_next 1 = .ok (.iload_n 1, 1) := by decide +kernel
theorem dX12_next_2 : decode cX12_next 2 = .ok (.invokevirtual 117, 3) := by decide +kernel
theorem dX12_next_5 : decode cX12_next 5 = .ok (.ifCond .ne 5, 3) := by decide +kernel
theorem dX12_next_8 : decode cX12_next 8 = .ok (.iconst (-1), 1) := by decide +kernel
theorem dX12_next_9 : decode cX12_next 9 = .ok (.ireturn, 1) := by decide +kernel
theorem dX12_next_10 : decode cX12_next 10 = .ok (.aload_n 0, 1) := by decide +kernel
theorem dX12_next_11 : decode cX12_next 11 = .ok (.getfield 128, 3) := by decide +kernel
theorem dX12_next_14 : decode cX12_next 14 = .ok (.ifCond .le 14, 3) := by decide +kernel
theorem dX12_next_17 : decode cX12_next 17 = .ok (.aload_n 0, 1) := by decide +kernel
theorem dX12_next_18 : decode cX12_next 18 = .ok (.iload_n 1, 1) := by decide +kernel
theorem dX12_next_19 : decode cX12_next 19 = .ok (.invokevirtual 133, 3) := by decide +kernel
theorem dX12_next_22 : decode cX12_next 22 = .ok (.ifCond .ne 6, 3) := by decide +kernel
theorem dX12_next_25 : decode cX12_next 25 = .ok (.bipush (-5), 2) := by decide +kernel
theorem dX12_next_27 : decode cX12_next 27 = .ok (.ireturn, 1) := by decide +kernel
theorem dX12_next_28 : decode cX12_next 28 = .ok (.aload_n 0, 1) := by decide +kernel
theorem dX12_next_29 : decode cX12_next 29 = .ok (.getfield 128, 3) := by decide +kernel
theorem dX12_next_32 : decode cX12_next 32 = .ok (.ifCond .le 16, 3) := by decide +kernel
theorem dX12_next_35 : decode cX12_next 35 = .ok (.aload_n 0, 1) := by decide +kernel
theorem dX12_next_36 : decode cX12_next 36 = .ok (.iload_n 1, 1) := by decide +kernel
theorem dX12_next_37 : decode cX12_next 37 = .ok (.invokevirtual 136, 3) := by decide +kernel
theorem dX12_next_40 : decode cX12_next 40 = .ok (.bipush 14, 2) := by decide +kernel
theorem dX12_next_42 : decode cX12_next 42 = .ok (.if_icmp .le 6, 3) := by decide +kernel
theorem dX12_next_45 : decode cX12_next 45 = .ok (.bipush (-2), 2) := by decide +kernel
theorem dX12_next_47 : decode cX12_next 47 = .ok (.ireturn, 1) := by decide +kernel
theorem dX12_next_48 : decode cX12_next 48 = .ok (.aload_n 0, 1) := by decide +kernel
theorem dX12_next_49 : decode cX12_next 49 = .ok (.iload_n 1, 1) := by decide +kernel
theorem dX12_next_50 : decode cX12_next 50 = .ok (.bipush 14, 2) := by decide +kernel
theorem dX12_next_52 : decode cX12_next 52 = .ok (.invokevirtual 203, 3) := by decide +kernel
theorem dX12_next_55 : decode cX12_next 55 = .ok (.iconst 0, 1) := by decide +kernel
theorem dX12_next_56 : decode cX12_next 56 = .ok (.istore_n 2, 1) := by decide +kernel
theorem dX12_next_57 : decode cX12_next 57 = .ok (.aload_n 0, 1) := by decide +kernel
theorem dX12_next_58 : decode cX12_next 58 = .ok (.getfield 128, 3) := by decide +kernel
theorem dX12_next_61 : decode cX12_next 61 = .ok (.ifCond .le 28, 3) := by decide +kernel
theorem dX12_next_64 : decode cX12_next 64 = .ok (.aload_n 0, 1) := by decide +kernel
theorem dX12_next_65 : decode cX12_next 65 = .ok (.invokevirtual 179, 3) := by decide +kernel
theorem dX12_next_68 : decode cX12_next 68 = .ok (.lstore_n 3, 1) := by decide +kernel
theorem dX12_next_69 : decode cX12_next 69 = .ok (.aload_n 0, 1) := by decide +kernel
theorem dX12_next_70 : decode cX12_next 70 = .ok (.getfield 53, 3) := by decide +kernel
theorem dX12_next_73 : decode cX12_next 73 = .ok (.iload_n 2, 1) := by decide +kernel
theorem dX12_next_74 : decode cX12_next 74 = .ok (.laload, 1) := by decide +kernel
theorem dX12_next_75 : decode cX12_next 75 = .ok (.lload_n 3, 1) := by decide +kernel
theorem dX12_next_76 : decode cX12_next 76 = .ok (.lcmp, 1) := by decide +kernel
theorem dX12_next_77 : decode cX12_next 77 = .ok (.ifCond .eq 9, 3) := by decide +kernel
theorem dX12_next_80 : decode cX12_next 80 = .ok (.iinc 2 1, 3) := by decide +kernel
theorem dX12_next_83 : decode cX12_next 83 = .ok (.goto (-14), 3) := by decide +kernel
theorem dX12_next_86 : decode cX12_next 86 = .ok (.iinc 2 1, 3) := by decide +kernel
theorem dX12_next_89 : decode cX12_next 89 = .ok (.iload_n 2, 1) := by decide +kernel
theorem dX12_next_90 : decode cX12_next 90 = .ok (.aload_n 0, 1) := by decide +kernel
theorem dX12_next_91 : decode cX12_next 91 = .ok (.getfield 196, 3) := by decide +kernel
theorem dX12_next_94 : decode cX12_next 94 = .ok (.if_icmp .lt 6, 3) := by decide +kernel
theorem dX12_next_97 : decode cX12_next 97 = .ok (.bipush (-2), 2) := by decide +kernel
theorem dX12_next_99 : decode cX12_next 99 = .ok (.ireturn, 1) := by decide +kernel
theorem dX12_next_100 : decode cX12_next 100 = .ok (.aload_n 0, 1) := by decide +kernel
theorem dX12_next_101 : decode cX12_next 101 = .ok (.aload_n 0, 1) := by decide +kernel
theorem dX12_next_102 : decode cX12_next 102 = .ok (.getfield 53, 3) := by decide +kernel
theorem dX12_next_105 : decode cX12_next 105 = .ok (.iload_n 2, 1) := by decide +kernel
theorem dX12_next_106 : decode cX12_next 106 = .ok (.laload, 1) := by decide +kernel
theorem dX12_next_107 : decode cX12_next 107 = .ok (.invokevirtual 207, 3) := by decide +kernel
theorem dX12_next_110 : decode cX12_next 110 = .ok (.aload_n 0, 1) := by decide +kernel
theorem dX12_next_111 : decode cX12_next 111 = .ok (.getfield 57, 3) := by decide +kernel
theorem dX12_next_114 : decode cX12_next 114 = .ok (.iload_n 2, 1) := by decide +kernel
theorem dX12_next_115 : decode cX12_next 115 = .ok (.iaload, 1) := by decide +kernel
theorem dX12_next_116 : decode cX12_next 116 = .ok (.ireturn, 1) := by decide +kernel
set_option maxRecDepth 100000 in
set_option maxHeartbeats 4000000 in
theorem t12_next_j89 (G : Gm) (t : Nat) (N : Nat) (x2 : Int32)    : ∀  (S : St), J G YX12_next 18 0 0 (fI t) 0 0 89 [some (vR (some 146)), none, some (vI x2), none, none] [] (MM t S) (f12_next_j89 N x2 S) := by
  intro S
  unfold f12_next_j89
  refine J_iload_n dX12_next_89 rfl rfl ?_
  refine J_aload_n dX12_next_90 rfl rfl ?_
  refine K_getI cf12 flX12_196 (sq 146 rfl) (Or.inl rfl) dX12_next_91 ?_
  refine J_icmp_lt (tgt := 100) dX12_next_94 (by decide) (fun z1 => ?_) (fun z1 => ?_)
  · refine J_aload_n dX12_next_100 rfl rfl ?_
    refine J_aload_n dX12_next_101 rfl rfl ?_
    refine K_getR (r := some (160)) cf12 flX12_53 (sq 146 rfl) rfl (Or.inr ⟨_, rfl⟩) dX12_next_102 ?_
    refine J_iload_n dX12_next_105 rfl rfl ?_
    refine K_lald (sq 160 rfl) dX12_next_106 ?_
    refine K_callV_v (As := [vL (S.2 160 x2.toNatClampNeg)]) mcX12_lookAt mlX12_207 rfl (by decide) (sq 146 rfl) (ct12_lookAt G t N (S.2 160 x2.toNatClampNeg) S) rfl rfl (Nat.le_of_ble_eq_true rfl) (by decide) (Nat.le_of_ble_eq_true rfl) dX12_next_107 (fun q2 S3 => ?_)
    refine J_aload_n dX12_next_110 rfl rfl ?_
    refine K_getR (r := some (161)) cf12 flX12_57 (sq 146 rfl) rfl (Or.inr ⟨_, rfl⟩) dX12_next_111 ?_
    refine J_iload_n dX12_next_114 rfl rfl ?_
    refine K_iald (sq 161 rfl) dX12_next_115 ?_
    exact J_ireturn rfl (Nat.le_refl _) (Nat.le_refl _) rfl dX12_next_116
  · refine J_bipush (v := (-2)) dX12_next_97 (by decide) ?_
    exact J_ireturn rfl (Nat.le_refl _) (Nat.le_refl _) rfl dX12_next_99
set_option maxRecDepth 100000 in
set_option maxHeartbeats 4000000 in
theorem t12_next_h69 (G : Gm) (t : Nat) (N : Nat) (l3 : Int64)    : ∀ (n : Nat) (x2 : Int32) (S : St), J G YX12_next 18 0 0 (fI t) 0 0 69 [some (vR (some 146)), none, some (vI x2), some (vL l3), none] [] (MM t S) (f12_next_h69 N l3 n x2 S) := by
  intro n
  induction n with
  | zero => intro x2 S; exact J_none
  | succ n ih =>
    intro x2 S
    rw [f12_next_h69]
    refine J_aload_n dX12_next_69 rfl rfl ?_
    refine K_getR (r := some (160)) cf12 flX12_53 (sq 146 rfl) rfl (Or.inr ⟨_, rfl⟩) dX12_next_70 ?_
    refine J_iload_n dX12_next_73 rfl rfl ?_
    refine K_lald (sq 160 rfl) dX12_next_74 ?_
    refine J_lload_n dX12_next_75 rfl rfl ?_
    refine J_lcmp dX12_next_76 ?_
    refine J_if_eq (tgt := 86) dX12_next_77 (by decide) (fun z1 => ?_) (fun z1 => ?_)
    · refine J_iinc (v := x2 + nI 1) [some (vR (some 146)), none, some (vI (x2 + nI 1)), some (vL l3), none] dX12_next_86 rfl rfl (Nat.le_of_ble_eq_true rfl) rfl rfl ?_
      exact J_sb (t12_next_j89 G t N (x2 + nI 1) S) (And.intro rfl (And.intro rfl (trivial)))
    · refine J_iinc (v := x2 + nI 1) [some (vR (some 146)), none, some (vI (x2 + nI 1)), some (vL l3), none] dX12_next_80 rfl rfl (Nat.le_of_ble_eq_true rfl) rfl rfl ?_
      refine J_goto (tgt := 69) dX12_next_83 (by decide) ?_
      exact J_sb (ih (x2 + nI 1) S) (And.intro rfl (And.intro rfl (And.intro rfl (trivial))))
set_option maxRecDepth 100000 in
set_option maxHeartbeats 4000000 in
theorem t12_next_j48 (G : Gm) (t : Nat) (N : Nat) (x1 : Int32)    : ∀  (S : St), J G YX12_next 18 0 0 (fI t) 0 0 48 [some (vR (some 146)), some (vI x1), none, none, none] [] (MM t S) (f12_next_j48 N x1 S) := by
  intro S
  unfold f12_next_j48
  refine J_aload_n dX12_next_48 rfl rfl ?_
  refine J_iload_n dX12_next_49 rfl rfl ?_
  refine J_bipush (v := nI 14) dX12_next_50 (by decide) ?_
  refine K_callV_v (As := [vI x1, vI (nI 14)]) mcX12_listAll mlX12_203 rfl (by decide) (sq 146 rfl) (ct12_listAll G t N x1 (nI 14) S) rfl rfl (Nat.le_of_ble_eq_true rfl) (by decide) (Nat.le_of_ble_eq_true rfl) dX12_next_52 (fun q1 S2 => ?_)
  refine J_iconst (v := nI 0) dX12_next_55 (by decide) ?_
  refine J_istore_n [some (vR (some 146)), some (vI x1), some (vI (nI 0)), none, none] dX12_next_56 rfl (Nat.le_of_ble_eq_true rfl) rfl rfl ?_
  refine J_aload_n dX12_next_57 rfl rfl ?_
  refine K_getI cf12 flX12_128 (sq 146 rfl) (Or.inl rfl) dX12_next_58 ?_
  refine J_if_le (tgt := 89) dX12_next_61 (by decide) (fun z3 => ?_) (fun z3 => ?_)
  · exact J_sb (t12_next_j89 G t N (nI 0) S2) (And.intro rfl (And.intro rfl (trivial)))
  · refine J_aload_n dX12_next_64 rfl rfl ?_
    refine K_callV_l (As := []) mcX12_packed mlX12_179 rfl (by decide) (sq 146 rfl) (ct12_packed G t N S2) rfl rfl (Nat.le_of_ble_eq_true rfl) (by decide) (Nat.le_of_ble_eq_true rfl) dX12_next_65 (fun q4 S5 => ?_)
    refine J_lstore_n [some (vR (some 146)), some (vI x1), some (vI (nI 0)), some (vL q4), none] dX12_next_68 rfl (Nat.le_of_ble_eq_true rfl) rfl rfl ?_
    exact J_sb (t12_next_h69 G t N q4 N (nI 0) S5) (And.intro rfl (And.intro rfl (And.intro rfl (trivial))))
set_option maxRecDepth 100000 in
set_option maxHeartbeats 4000000 in
theorem t12_next_j28 (G : Gm) (t : Nat) (N : Nat) (x1 : Int32)    : ∀  (S : St), J G YX12_next 18 0 0 (fI t) 0 0 28 [some (vR (some 146)), some (vI x1), none, none, none] [] (MM t S) (f12_next_j28 N x1 S) := by
  intro S
  unfold f12_next_j28
  refine J_aload_n dX12_next_28 rfl rfl ?_
  refine K_getI cf12 flX12_128 (sq 146 rfl) (Or.inl rfl) dX12_next_29 ?_
  refine J_if_le (tgt := 48) dX12_next_32 (by decide) (fun z1 => ?_) (fun z1 => ?_)
  · exact J_sb (t12_next_j48 G t N x1 S) (And.intro rfl (And.intro rfl (trivial)))
  · refine J_aload_n dX12_next_35 rfl rfl ?_
    refine J_iload_n dX12_next_36 rfl rfl ?_
    refine K_callV_i (As := [vI x1]) mcX12_sizeIn mlX12_136 rfl (by decide) (sq 146 rfl) (ct12_sizeIn G t N x1 S) rfl rfl (Nat.le_of_ble_eq_true rfl) (by decide) (Nat.le_of_ble_eq_true rfl) dX12_next_37 (fun q2 S3 => ?_)
    refine J_bipush (v := nI 14) dX12_next_40 (by decide) ?_
    refine J_icmp_le (tgt := 48) dX12_next_42 (by decide) (fun z4 => ?_) (fun z4 => ?_)
    · exact J_sb (t12_next_j48 G t N x1 S3) (And.intro rfl (And.intro rfl (trivial)))
    · refine J_bipush (v := (-2)) dX12_next_45 (by decide) ?_
      exact J_ireturn rfl (Nat.le_refl _) (Nat.le_refl _) rfl dX12_next_47
set_option maxRecDepth 100000 in
set_option maxHeartbeats 4000000 in
theorem ct12_next (G : Gm) (t : Nat) (N : Nat) (x1 : Int32)  (S : St) : Ct G YX12_next yX12_next 18 0 0 (fI t) (f12_next N x1 S) [vR (some 146), vI x1] (MM t S) := by
  refine Ct_of_J [some (vR (some 146)), some (vI x1), none, none, none] (by decide) rfl (fun h => by cases h) (Nat.le_of_ble_eq_true rfl) (And.intro rfl (And.intro rfl (trivial))) ?_
  unfold f12_next
  refine J_aload_n dX12_next_0 rfl rfl ?_
  refine J_iload_n dX12_next_1 rfl rfl ?_
  refine K_callV_i (As := [vI x1]) mcX12_isLanguage mlX12_117 rfl (by decide) (sq 146 rfl) (ct12_isLanguage G t x1 S) rfl rfl (Nat.le_of_ble_eq_true rfl) (by decide) (Nat.le_of_ble_eq_true rfl) dX12_next_2 (fun q1 S2 => ?_)
  refine J_if_ne (tgt := 10) dX12_next_5 (by decide) (fun z3 => ?_) (fun z3 => ?_)
  · refine J_iconst (v := (-1)) dX12_next_8 (by decide) ?_
    exact J_ireturn rfl (Nat.le_refl _) (Nat.le_refl _) rfl dX12_next_9
  · refine J_aload_n dX12_next_10 rfl rfl ?_
    refine K_getI cf12 flX12_128 (sq 146 rfl) (Or.inl rfl) dX12_next_11 ?_
    refine J_if_le (tgt := 28) dX12_next_14 (by decide) (fun z4 => ?_) (fun z4 => ?_)
    · exact J_sb (t12_next_j28 G t N x1 S2) (And.intro rfl (And.intro rfl (trivial)))
    · refine J_aload_n dX12_next_17 rfl rfl ?_
      refine J_iload_n dX12_next_18 rfl rfl ?_
      refine K_callV_i (As := [vI x1]) mcX12_isProgram mlX12_133 rfl (by decide) (sq 146 rfl) (ct12_isProgram G t N x1 S2) rfl rfl (Nat.le_of_ble_eq_true rfl) (by decide) (Nat.le_of_ble_eq_true rfl) dX12_next_19 (fun q5 S6 => ?_)
      refine J_if_ne (tgt := 28) dX12_next_22 (by decide) (fun z7 => ?_) (fun z7 => ?_)
      · refine J_bipush (v := (-5)) dX12_next_25 (by decide) ?_
        exact J_ireturn rfl (Nat.le_refl _) (Nat.le_refl _) rfl dX12_next_27
      · exact J_sb (t12_next_j28 G t N x1 S6) (And.intro rfl (And.intro rfl (trivial)))
theorem dX12_feed_0 : decode cX12_feed 0 = .ok (.iload_n 1, 1) := by decide +kernel
theorem dX12_feed_1 : decode cX12_feed 1 = .ok (.i2l, 1) := by decide +kernel
theorem dX12_feed_2 : decode cX12_feed 2 = .ok (.lconst 1, 1) := by decide +kernel
theorem dX12_feed_3 : decode cX12_feed 3 = .ok (.ldc2_w 211, 3) := by decide +kernel
theorem dX12_feed_6 : decode cX12_feed 6 = .ok (.invokestatic 109, 3) := by decide +kernel
theorem dX12_feed_9 : decode cX12_feed 9 = .ok (.ifCond .ne 5, 3) := by decide +kernel
theorem dX12_feed_12 : decode cX12_feed 12 = .ok (.iconst (-1), 1) := by decide +kernel
theorem dX12_feed_13 : decode cX12_feed 13 = .ok (.ireturn, 1) := by decide +kernel
theorem dX12_feed_14 : decode cX12_feed 14 = .ok (.aload_n 0, 1) := by decide +kernel
theorem dX12_feed_15 : decode cX12_feed 15 = .ok (.getfield 213, 3) := by decide +kernel
theorem dX12_feed_18 : decode cX12_feed 18 = .ok (.iload_n 1, 1) := by decide +kernel
theorem dX12_feed_19 : decode cX12_feed 19 = .ok (.iadd, 1) := by decide +kernel
theorem dX12_feed_20 : decode cX12_feed 20 = .ok (.bipush 60, 2) := by decide +kernel
theorem dX12_feed_22 : decode cX12_feed 22 = .ok (.if_icmp .le 6, 3) := by decide +kernel
theorem dX12_feed_25 : decode cX12_feed 25 = .ok (.bipush (-3), 2) := by decide +kernel
theorem dX12_feed_27 : decode cX12_feed 27 = .ok (.ireturn, 1) := by decide +kernel
theorem dX12_feed_28 : decode cX12_feed 28 = .ok (.iconst 0, 1) := by decide +kernel
theorem dX12_feed_29 : decode cX12_feed 29 = .ok (.istore_n 3, 1) := by decide +kernel
theorem dX12_feed_30 : decode cX12_feed 30 = .ok (.iload_n 3, 1) := by decide +kernel
theorem dX12_feed_31 : decode cX12_feed 31 = .ok (.iload_n 1, 1) := by decide +kernel
theorem dX12_feed_32 : decode cX12_feed 32 = .ok (.if_icmp .ge 38, 3) := by decide +kernel
theorem dX12_feed_35 : decode cX12_feed 35 = .ok (.aload_n 0, 1) := by decide +kernel
theorem dX12_feed_36 : decode cX12_feed 36 = .ok (.getfield 60, 3) := by decide +kernel
theorem dX12_feed_39 : decode cX12_feed 39 = .ok (.aload_n 0, 1) := by decide +kernel
theorem dX12_feed_40 : decode cX12_feed 40 = .ok (.getfield 213, 3) := by decide +kernel
theorem dX12_feed_43 : decode cX12_feed 43 = .ok (.iload_n 2, 1) := by decide +kernel
theorem dX12_feed_44 : decode cX12_feed 44 = .ok (.bipush 8, 2) := by decide +kernel
theorem dX12_feed_46 : decode cX12_feed 46 = .ok (.iload_n 3, 1) := by decide +kernel
theorem dX12_feed_47 : decode cX12_feed 47 = .ok (.imul, 1) := by decide +kernel
theorem dX12_feed_48 : decode cX12_feed 48 = .ok (.ishr, 1) := by decide +kernel
theorem dX12_feed_49 : decode cX12_feed 49 = .ok (.sipush 255, 3) := by decide +kernel
theorem dX12_feed_52 : decode cX12_feed 52 = .ok (.iand, 1) := by decide +kernel
theorem dX12_feed_53 : decode cX12_feed 53 = .ok (.iastore, 1) := by decide +kernel
theorem dX12_feed_54 : decode cX12_feed 54 = .ok (.aload_n 0, 1) := by decide +kernel
theorem dX12_feed_55 : decode cX12_feed 55 = .ok (.dup, 1) := by decide +kernel
theorem dX12_feed_56 : decode cX12_feed 56 = .ok (.getfield 213, 3) := by decide +kernel
theorem dX12_feed_59 : decode cX12_feed 59 = .ok (.iconst 1, 1) := by decide +kernel
theorem dX12_feed_60 : decode cX12_feed 60 = .ok (.iadd, 1) := by decide +kernel
theorem dX12_feed_61 : decode cX12_feed 61 = .ok (.putfield 213, 3) := by decide +kernel
theorem dX12_feed_64 : decode cX12_feed 64 = .ok (.iinc 3 1, 3) := by decide +kernel
theorem dX12_feed_67 : decode cX12_feed 67 = .ok (.goto (-37), 3) := by decide +kernel
theorem dX12_feed_70 : decode cX12_feed 70 = .ok (.aload_n 0, 1) := by decide +kernel
theorem dX12_feed_71 : decode cX12_feed 71 = .ok (.getfield 213, 3) := by decide +kernel
theorem dX12_feed_74 : decode cX12_feed 74 = .ok (.ireturn, 1) := by decide +kernel
set_option maxRecDepth 100000 in
set_option maxHeartbeats 4000000 in
theorem t12_feed_h30 (G : Gm) (t : Nat) (N : Nat) (x1 : Int32) (x2 : Int32)    : ∀ (n : Nat) (x3 : Int32) (S : St), J G YX12_feed 2 0 0 (fI t) 0 0 30 [some (vR (some 146)), some (vI x1), some (vI x2), some (vI x3)] [] (MM t S) (f12_feed_h30 N x1 x2 n x3 S) := by
  intro n
  induction n with
  | zero => intro x3 S; exact J_none
  | succ n ih =>
    intro x3 S
    rw [f12_feed_h30]
    refine J_iload_n dX12_feed_30 rfl rfl ?_
    refine J_iload_n dX12_feed_31 rfl rfl ?_
    refine J_icmp_ge (tgt := 70) dX12_feed_32 (by decide) (fun z1 => ?_) (fun z1 => ?_)
    · refine J_aload_n dX12_feed_70 rfl rfl ?_
      refine K_getI cf12 flX12_213 (sq 146 rfl) (Or.inl rfl) dX12_feed_71 ?_
      exact J_ireturn rfl (Nat.le_refl _) (Nat.le_refl _) rfl dX12_feed_74
    · refine J_aload_n dX12_feed_35 rfl rfl ?_
      refine K_getR (r := some (162)) cf12 flX12_60 (sq 146 rfl) rfl (Or.inr ⟨_, rfl⟩) dX12_feed_36 ?_
      refine J_aload_n dX12_feed_39 rfl rfl ?_
      refine K_getI cf12 flX12_213 (sq 146 rfl) (Or.inl rfl) dX12_feed_40 ?_
      refine J_iload_n dX12_feed_43 rfl rfl ?_
      refine J_bipush (v := nI 8) dX12_feed_44 (by decide) ?_
      refine J_iload_n dX12_feed_46 rfl rfl ?_
      refine J_imul dX12_feed_47 ?_
      refine J_ishr dX12_feed_48 ?_
      refine J_sipush (v := nI 255) dX12_feed_49 (by decide) ?_
      refine J_iand dX12_feed_52 ?_
      refine K_iast (sq 162 rfl) dX12_feed_53 ?_
      refine J_ltS (fun S2 _ => ?_)
      refine J_aload_n dX12_feed_54 rfl rfl ?_
      refine J_dup dX12_feed_55 rfl ?_
      refine K_getI cf12 flX12_213 (sq 146 rfl) (Or.inl rfl) dX12_feed_56 ?_
      refine J_iconst (v := nI 1) dX12_feed_59 (by decide) ?_
      refine J_iadd dX12_feed_60 ?_
      refine K_putI cf12 flX12_213 (sq 146 rfl) rfl dX12_feed_61 ?_
      refine J_ltS (fun S3 _ => ?_)
      refine J_iinc (v := x3 + nI 1) [some (vR (some 146)), some (vI x1), some (vI x2), some (vI (x3 + nI 1))] dX12_feed_64 rfl rfl (Nat.le_of_ble_eq_true rfl) rfl rfl ?_
      refine J_goto (tgt := 30) dX12_feed_67 (by decide) ?_
      exact J_sb (ih (x3 + nI 1) S3) (And.intro rfl (And.intro rfl (And.intro rfl (And.intro rfl (trivial)))))
set_option maxRecDepth 100000 in
set_option maxHeartbeats 4000000 in
theorem ct12_feed (G : Gm) (t : Nat) (N : Nat) (x1 : Int32) (x2 : Int32)  (S : St) : Ct G YX12_feed yX12_feed 2 0 0 (fI t) (f12_feed N x1 x2 S) [vR (some 146), vI x1, vI x2] (MM t S) := by
  refine Ct_of_J [some (vR (some 146)), some (vI x1), some (vI x2), none] (by decide) rfl (fun h => by cases h) (Nat.le_of_ble_eq_true rfl) (And.intro rfl (And.intro rfl (And.intro rfl (trivial)))) ?_
  unfold f12_feed
  refine J_iload_n dX12_feed_0 rfl rfl ?_
  refine J_i2l dX12_feed_1 ?_
  refine J_lconst (v := lN 1) dX12_feed_2 (by decide) ?_
  refine J_ldc2_w (v := lN 4) wX12_211 dX12_feed_3 ?_
  refine K_callS_i (As := [vL x1.toInt64, vL (lN 1), vL (lN 4)]) mcX12_within mlX12_109 (ct12_within G t x1.toInt64 (lN 1) (lN 4) S) rfl rfl (Nat.le_of_ble_eq_true rfl) (by decide) (Nat.le_of_ble_eq_true rfl) dX12_feed_6 (fun q1 S2 => ?_)
  refine J_if_ne (tgt := 14) dX12_feed_9 (by decide) (fun z3 => ?_) (fun z3 => ?_)
  · refine J_iconst (v := (-1)) dX12_feed_12 (by decide) ?_
    exact J_ireturn rfl (Nat.le_refl _) (Nat.le_refl _) rfl dX12_feed_13
  · refine J_aload_n dX12_feed_14 rfl rfl ?_
    refine K_getI cf12 flX12_213 (sq 146 rfl) (Or.inl rfl) dX12_feed_15 ?_
    refine J_iload_n dX12_feed_18 rfl rfl ?_
    refine J_iadd dX12_feed_19 ?_
    refine J_bipush (v := nI 60) dX12_feed_20 (by decide) ?_
    refine J_icmp_le (tgt := 28) dX12_feed_22 (by decide) (fun z4 => ?_) (fun z4 => ?_)
    · refine J_iconst (v := nI 0) dX12_feed_28 (by decide) ?_
      refine J_istore_n [some (vR (some 146)), some (vI x1), some (vI x2), some (vI (nI 0))] dX12_feed_29 rfl (Nat.le_of_ble_eq_true rfl) rfl rfl ?_
      exact J_sb (t12_feed_h30 G t N x1 x2 N (nI 0) S2) (And.intro rfl (And.intro rfl (And.intro rfl (And.intro rfl (trivial)))))
    · refine J_bipush (v := (-3)) dX12_feed_25 (by decide) ?_
      exact J_ireturn rfl (Nat.le_refl _) (Nat.le_refl _) rfl dX12_feed_27
theorem dX12_byteAt_0 : decode cX12_byteAt 0 = .ok (.aload_n 0, 1) := by decide +kernel
theorem dX12_byteAt_1 : decode cX12_byteAt 1 = .ok (.getfield 216, 3) := by decide +kernel
theorem dX12_byteAt_4 : decode cX12_byteAt 4 = .ok (.aload_n 0, 1) := by decide +kernel
theorem dX12_byteAt_5 : decode cX12_byteAt 5 = .ok (.getfield 219, 3) := by decide +kernel
theorem dX12_byteAt_8 : decode cX12_byteAt 8 = .ok (.if_icmp .ge 39, 3) := by decide +kernel
theorem dX12_byteAt_11 : decode cX12_byteAt 11 = .ok (.aload_n 0, 1) := by decide +kernel
theorem dX12_byteAt_12 : decode cX12_byteAt 12 = .ok (.getfield 222, 3) := by decide +kernel
theorem dX12_byteAt_15 : decode cX12_byteAt 15 = .ok (.ifCond .ge 15, 3) := by decide +kernel
theorem dX12_byteAt_18 : decode cX12_byteAt 18 = .ok (.aload_n 0, 1) := by decide +kernel
theorem dX12_byteAt_19 : decode cX12_byteAt 19 = .ok (.getfield 60, 3) := by decide +kernel
theorem dX12_byteAt_22 : decode cX12_byteAt 22 = .ok (.aload_n 0, 1) := by decide +kernel
theorem dX12_byteAt_23 : decode cX12_byteAt 23 = .ok (.getfield 216, 3) := by decide +kernel
theorem dX12_byteAt_26 : decode cX12_byteAt 26 = .ok (.iaload, 1) := by decide +kernel
theorem dX12_byteAt_27 : decode cX12_byteAt 27 = .ok (.goto 21, 3) := by decide +kernel
theorem dX12_byteAt_30 : decode cX12_byteAt 30 = .ok (.aload_n 0, 1) := by decide +kernel
theorem dX12_byteAt_31 : decode cX12_byteAt 31 = .ok (.getfield 63, 3) := by decide +kernel
theorem dX12_byteAt_34 : decode cX12_byteAt 34 = .ok (.aload_n 0, 1) := by decide +kernel
theorem dX12_byteAt_35 : decode cX12_byteAt 35 = .ok (.getfield 222, 3) := by decide +kernel
theorem dX12_byteAt_38 : decode cX12_byteAt 38 = .ok (.aload_n 0, 1) := by decide +kernel
theorem dX12_byteAt_39 : decode cX12_byteAt 39 = .ok (.getfield 216, 3) := by decide +kernel
theorem dX12_byteAt_42 : decode cX12_byteAt 42 = .ok (.iadd, 1) := by decide +kernel
theorem dX12_byteAt_43 : decode cX12_byteAt 43 = .ok (.iaload, 1) := by decide +kernel
theorem dX12_byteAt_44 : decode cX12_byteAt 44 = .ok (.goto 4, 3) := by decide +kernel
theorem dX12_byteAt_47 : decode cX12_byteAt 47 = .ok (.iconst 0, 1) := by decide +kernel
theorem dX12_byteAt_48 : decode cX12_byteAt 48 = .ok (.ireturn, 1) := by decide +kernel
set_option maxRecDepth 100000 in
set_option maxHeartbeats 4000000 in
theorem ct12_byteAt (G : Gm) (t : Nat)    (S : St) : Ct G YX12_byteAt yX12_byteAt 1 0 0 (fI t) (f12_byteAt S) [vR (some 146)] (MM t S) := by
  refine Ct_of_J [some (vR (some 146))] (by decide) rfl (fun h => by cases h) (Nat.le_of_ble_eq_true rfl) (And.intro rfl (trivial)) ?_
  unfold f12_byteAt
  refine J_aload_n dX12_byteAt_0 rfl rfl ?_
  refine K_getI cf12 flX12_216 (sq 146 rfl) (Or.inl rfl) dX12_byteAt_1 ?_
  refine J_aload_n dX12_byteAt_4 rfl rfl ?_
  refine K_getI cf12 flX12_219 (sq 146 rfl) (Or.inl rfl) dX12_byteAt_5 ?_
  refine J_icmp_ge (tgt := 47) dX12_byteAt_8 (by decide) (fun z1 => ?_) (fun z1 => ?_)
  · refine J_iconst (v := nI 0) dX12_byteAt_47 (by decide) ?_
    exact J_ireturn rfl (Nat.le_refl _) (Nat.le_refl _) rfl dX12_byteAt_48
  · refine J_aload_n dX12_byteAt_11 rfl rfl ?_
    refine K_getI cf12 flX12_222 (sq 146 rfl) (Or.inl rfl) dX12_byteAt_12 ?_
    refine J_if_ge (tgt := 30) dX12_byteAt_15 (by decide) (fun z2 => ?_) (fun z2 => ?_)
    · refine J_aload_n dX12_byteAt_30 rfl rfl ?_
      refine K_getR (r := some (163)) cf12 flX12_63 (sq 146 rfl) rfl (Or.inr ⟨_, rfl⟩) dX12_byteAt_31 ?_
      refine J_aload_n dX12_byteAt_34 rfl rfl ?_
      refine K_getI cf12 flX12_222 (sq 146 rfl) (Or.inl rfl) dX12_byteAt_35 ?_
      refine J_aload_n dX12_byteAt_38 rfl rfl ?_
      refine K_getI cf12 flX12_216 (sq 146 rfl) (Or.inl rfl) dX12_byteAt_39 ?_
      refine J_iadd dX12_byteAt_42 ?_
      refine K_iald (sq 163 rfl) dX12_byteAt_43 ?_
      refine J_goto (tgt := 48) dX12_byteAt_44 (by decide) ?_
      exact J_ireturn rfl (Nat.le_refl _) (Nat.le_refl _) rfl dX12_byteAt_48
    · refine J_aload_n dX12_byteAt_18 rfl rfl ?_
      refine K_getR (r := some (162)) cf12 flX12_60 (sq 146 rfl) rfl (Or.inr ⟨_, rfl⟩) dX12_byteAt_19 ?_
      refine J_aload_n dX12_byteAt_22 rfl rfl ?_
      refine K_getI cf12 flX12_216 (sq 146 rfl) (Or.inl rfl) dX12_byteAt_23 ?_
      refine K_iald (sq 162 rfl) dX12_byteAt_26 ?_
      refine J_goto (tgt := 48) dX12_byteAt_27 (by decide) ?_
      exact J_ireturn rfl (Nat.le_refl _) (Nat.le_refl _) rfl dX12_byteAt_48
theorem dX12_wrong_0 : decode cX12_wrong 0 = .ok (.aload_n 0, 1) := by decide +kernel
theorem dX12_wrong_1 : decode cX12_wrong 1 = .ok (.aload_n 0, 1) := by decide +kernel
theorem dX12_wrong_2 : decode cX12_wrong 2 = .ok (.getfield 225, 3) := by decide +kernel
theorem dX12_wrong_5 : decode cX12_wrong 5 = .ok (.ifCond .ge 10, 3) := by decide +kernel
theorem dX12_wrong_8 : decode cX12_wrong 8 = .ok (.aload_n 0, 1) := by decide +kernel
theorem dX12_wrong_9 : decode cX12_wrong 9 = .ok (.getfield 216, 3) := by decide +kernel
theorem dX12_wrong_12 : decode cX12_wrong 12 = .ok (.goto 7, 3) := by decide +kernel
theorem dX12_wrong_15 : decode cX12_wrong 15 = .ok (.aload_n 0, 1) := by decide +kernel
theorem dX12_wrong_16 : decode cX12_wrong 16 = .ok (.getfield 225, 3) := by decide +kernel
theorem dX12_wrong_19 : decode cX12_wrong 19 = .ok (.putfield 225, 3) := by decide +kernel
theorem dX12_wrong_22 : decode cX12_wrong 22 = .ok (.iconst 0, 1) := by decide +kernel
theorem dX12_wrong_23 : decode cX12_wrong 23 = .ok (.ireturn, 1) := by decide +kernel
set_option maxRecDepth 100000 in
set_option maxHeartbeats 4000000 in
theorem t12_wrong_j19 (G : Gm) (t : Nat)      : ∀ (xs0 : Int32) (S : St), J G YX12_wrong 1 0 0 (fI t) 0 0 19 [none] [vI xs0, vR (some 146)] (MM t S) (f12_wrong_j19 xs0 S) := by
  intro xs0 S
  unfold f12_wrong_j19
  refine K_putI cf12 flX12_225 (sq 146 rfl) rfl dX12_wrong_19 ?_
  refine J_ltS (fun S1 _ => ?_)
  refine J_iconst (v := nI 0) dX12_wrong_22 (by decide) ?_
  exact J_ireturn rfl (Nat.le_refl _) (Nat.le_refl _) rfl dX12_wrong_23
set_option maxRecDepth 100000 in
set_option maxHeartbeats 4000000 in
theorem ct12_wrong (G : Gm) (t : Nat)    (S : St) : Ct G YX12_wrong yX12_wrong 1 0 0 (fI t) (f12_wrong S) [vR (some 146)] (MM t S) := by
  refine Ct_of_J [some (vR (some 146))] (by decide) rfl (fun h => by cases h) (Nat.le_of_ble_eq_true rfl) (And.intro rfl (trivial)) ?_
  unfold f12_wrong
  refine J_aload_n dX12_wrong_0 rfl rfl ?_
  refine J_aload_n dX12_wrong_1 rfl rfl ?_
  refine K_getI cf12 flX12_225 (sq 146 rfl) (Or.inl rfl) dX12_wrong_2 ?_
  refine J_if_ge (tgt := 15) dX12_wrong_5 (by decide) (fun z1 => ?_) (fun z1 => ?_)
  · refine J_aload_n dX12_wrong_15 rfl rfl ?_
    refine K_getI cf12 flX12_225 (sq 146 rfl) (Or.inl rfl) dX12_wrong_16 ?_
    exact J_sb (t12_wrong_j19 G t (S.1 146 38) S) trivial
  · refine J_aload_n dX12_wrong_8 rfl rfl ?_
    refine K_getI cf12 flX12_216 (sq 146 rfl) (Or.inl rfl) dX12_wrong_9 ?_
    refine J_goto (tgt := 19) dX12_wrong_12 (by decide) ?_
    exact J_sb (t12_wrong_j19 G t (S.1 146 36) S) trivial
theorem dX12_takes_0 : decode cX12_takes 0 = .ok (.aload_n 0, 1) := by decide +kernel
theorem dX12_takes_1 : decode cX12_takes 1 = .ok (.getfield 225, 3) := by decide +kernel
theorem dX12_takes_4 : decode cX12_takes 4 = .ok (.ifCond .ge 11, 3) := by decide +kernel
theorem dX12_takes_7 : decode cX12_takes 7 = .ok (.aload_n 0, 1) := by decide +kernel
theorem dX12_takes_8 : decode cX12_takes 8 = .ok (.invokevirtual 228, 3) := by decide +kernel
theorem dX12_takes_11 : decode cX12_takes 11 = .ok (.iload_n 1, 1) := by decide +kernel
theorem dX12_takes_12 : decode cX12_takes 12 = .ok (.if_icmp .eq 5, 3) := by decide +kernel
theorem dX12_takes_15 : decode cX12_takes 15 = .ok (.iconst 0, 1) := by decide +kernel
theorem dX12_takes_16 : decode cX12_takes 16 = .ok (.ireturn, 1) := by decide +kernel
theorem dX12_takes_17 : decode cX12_takes 17 = .ok (.aload_n 0, 1) := by decide +kernel
theorem dX12_takes_18 : decode cX12_takes 18 = .ok (.dup, 1) := by decide +kernel
theorem dX12_takes_19 : decode cX12_takes 19 = .ok (.getfield 216, 3) := by decide +kernel
theorem dX12_takes_22 : decode cX12_takes 22 = .ok (.iconst 1, 1) := by decide +kernel
theorem dX12_takes_23 : decode cX12_takes 23 = .ok (.iadd, 1) := by decide +kernel
theorem dX12_takes_24 : decode cX12_takes 24 = .ok (.putfield 216, 3) := by decide +kernel
theorem dX12_takes_27 : decode cX12_takes 27 = .ok (.iconst 1, 1) := by decide +kernel
theorem dX12_takes_28 : decode cX12_takes 28 = .ok (.ireturn, 1) := by decide +kernel
set_option maxRecDepth 100000 in
set_option maxHeartbeats 4000000 in
theorem ct12_takes (G : Gm) (t : Nat)  (x1 : Int32)  (S : St) : Ct G YX12_takes yX12_takes 2 0 0 (fI t) (f12_takes x1 S) [vR (some 146), vI x1] (MM t S) := by
  refine Ct_of_J [some (vR (some 146)), some (vI x1)] (by decide) rfl (fun h => by cases h) (Nat.le_of_ble_eq_true rfl) (And.intro rfl (And.intro rfl (trivial))) ?_
  unfold f12_takes
  refine J_aload_n dX12_takes_0 rfl rfl ?_
  refine K_getI cf12 flX12_225 (sq 146 rfl) (Or.inl rfl) dX12_takes_1 ?_
  refine J_if_ge (tgt := 15) dX12_takes_4 (by decide) (fun z1 => ?_) (fun z1 => ?_)
  · refine J_iconst (v := nI 0) dX12_takes_15 (by decide) ?_
    exact J_zreturn (by decide) rfl (Nat.le_refl _) (Nat.le_refl _) rfl dX12_takes_16
  · refine J_aload_n dX12_takes_7 rfl rfl ?_
    refine K_callV_i (As := []) mcX12_byteAt mlX12_228 rfl (by decide) (sq 146 rfl) (ct12_byteAt G t S) rfl rfl (Nat.le_of_ble_eq_true rfl) (by decide) (Nat.le_of_ble_eq_true rfl) dX12_takes_8 (fun q2 S3 => ?_)
    refine J_iload_n dX12_takes_11 rfl rfl ?_
    refine J_icmp_eq (tgt := 17) dX12_takes_12 (by decide) (fun z4 => ?_) (fun z4 => ?_)
    · refine J_aload_n dX12_takes_17 rfl rfl ?_
      refine J_dup dX12_takes_18 rfl ?_
      refine K_getI cf12 flX12_216 (sq 146 rfl) (Or.inl rfl) dX12_takes_19 ?_
      refine J_iconst (v := nI 1) dX12_takes_22 (by decide) ?_
      refine J_iadd dX12_takes_23 ?_
      refine K_putI cf12 flX12_216 (sq 146 rfl) rfl dX12_takes_24 ?_
      refine J_ltS (fun S5 _ => ?_)
      refine J_iconst (v := nI 1) dX12_takes_27 (by decide) ?_
      exact J_zreturn (by decide) rfl (Nat.le_refl _) (Nat.le_refl _) rfl dX12_takes_28
    · refine J_iconst (v := nI 0) dX12_takes_15 (by decide) ?_
      exact J_zreturn (by decide) rfl (Nat.le_refl _) (Nat.le_refl _) rfl dX12_takes_16
theorem dX12_both_0 : decode cX12_both 0 = .ok (.aload_n 0, 1) := by decide +kernel
theorem dX12_both_1 : decode cX12_both 1 = .ok (.invokevirtual 237, 3) := by decide +kernel
theorem dX12_both_4 : decode cX12_both 4 = .ok (.istore_n 1, 1) := by decide +kernel
theorem dX12_both_5 : decode cX12_both 5 = .ok (.aload_n 0, 1) := by decide +kernel
theorem dX12_both_6 : decode cX12_both 6 = .ok (.bipush 38, 2) := by decide +kernel
theorem dX12_both_8 : decode cX12_both 8 = .ok (.invokevirtual 234, 3) := by decide +kernel
theorem dX12_both_11 : decode cX12_both 11 = .ok (.ifCond .eq 25, 3) := by decide +kernel
theorem dX12_both_14 : decode cX12_both 14 = .ok (.aload_n 0, 1) := by decide +kernel
theorem dX12_both_15 : decode cX12_both 15 = .ok (.invokevirtual 237, 3) := by decide +kernel
theorem dX12_both_18 : decode cX12_both 18 = .ok (.istore_n 2, 1) := by decide +kernel
theorem dX12_both_19 : decode cX12_both 19 = .ok (.iload_n 1, 1) := by decide +kernel
theorem dX12_both_20 : decode cX12_both 20 = .ok (.ifCond .eq 11, 3) := by decide +kernel
theorem dX12_both_23 : decode cX12_both 23 = .ok (.iload_n 2, 1) := by decide +kernel
theorem dX12_both_24 : decode cX12_both 24 = .ok (.ifCond .eq 7, 3) := by decide +kernel
theorem dX12_both_27 : decode cX12_both 27 = .ok (.iconst 1, 1) := by decide +kernel
theorem dX12_both_28 : decode cX12_both 28 = .ok (.goto 4, 3) := by decide +kernel
theorem dX12_both_31 : decode cX12_both 31 = .ok (.iconst 0, 1) := by decide +kernel
theorem dX12_both_32 : decode cX12_both 32 = .ok (.istore_n 1, 1) := by decide +kernel
theorem dX12_both_33 : decode cX12_both 33 = .ok (.goto (-28), 3) := by decide +kernel
theorem dX12_both_36 : decode cX12_both 36 = .ok (.iload_n 1, 1) := by decide +kernel
theorem dX12_both_37 : decode cX12_both 37 = .ok (.ireturn, 1) := by decide +kernel
set_option maxRecDepth 100000 in
set_option maxHeartbeats 4000000 in
theorem t12_both_j32 (G : Gm) (t : Nat) (N : Nat) (pv : St → Option (Int32 × St)) (dv : Nat) (hdv : 5 ≤ dv) (hpv : ∀   (S : St), Ct G YX12_turned yX12_turned dv 0 0 (fI t) (pv  S) [vR (some 146)] (MM t S))   (k5 : Int32 → St → Option (Int32 × St)) (hk5 : ∀ (yx1 : Int32) (S : St), J G YX12_both (dv + 1) 0 0 (fI t) 0 0 5 [some (vR (some 146)), some (vI yx1), none] [] (MM t S) (k5 yx1 S)) : ∀ (xs0 : Int32) (S : St), J G YX12_both (dv + 1) 0 0 (fI t) 0 0 32 [some (vR (some 146)), none, none] [vI xs0] (MM t S) (f12_both_j32 N pv k5 xs0 S) := by
  intro xs0 S
  unfold f12_both_j32
  refine J_istore_n [some (vR (some 146)), some (vI xs0), none] dX12_both_32 rfl (Nat.le_of_ble_eq_true rfl) rfl rfl ?_
  refine J_goto (tgt := 5) dX12_both_33 (by decide) ?_
  exact J_sb (hk5 xs0 S) (And.intro rfl (And.intro rfl (trivial)))
set_option maxRecDepth 100000 in
set_option maxHeartbeats 4000000 in
theorem t12_both_j31 (G : Gm) (t : Nat) (N : Nat) (pv : St → Option (Int32 × St)) (dv : Nat) (hdv : 5 ≤ dv) (hpv : ∀   (S : St), Ct G YX12_turned yX12_turned dv 0 0 (fI t) (pv  S) [vR (some 146)] (MM t S))   (k5 : Int32 → St → Option (Int32 × St)) (hk5 : ∀ (yx1 : Int32) (S : St), J G YX12_both (dv + 1) 0 0 (fI t) 0 0 5 [some (vR (some 146)), some (vI yx1), none] [] (MM t S) (k5 yx1 S)) : ∀  (S : St), J G YX12_both (dv + 1) 0 0 (fI t) 0 0 31 [some (vR (some 146)), none, none] [] (MM t S) (f12_both_j31 N pv k5 S) := by
  intro S
  unfold f12_both_j31
  refine J_iconst (v := nI 0) dX12_both_31 (by decide) ?_
  exact J_sb (t12_both_j32 G t N pv dv hdv hpv k5 hk5 (nI 0) S) (And.intro rfl (trivial))
set_option maxRecDepth 100000 in
set_option maxHeartbeats 4000000 in
theorem t12_both_h5 (G : Gm) (t : Nat) (N : Nat) (pv : St → Option (Int32 × St)) (dv : Nat) (hdv : 5 ≤ dv) (hpv : ∀   (S : St), Ct G YX12_turned yX12_turned dv 0 0 (fI t) (pv  S) [vR (some 146)] (MM t S))     : ∀ (n : Nat) (x1 : Int32) (S : St), J G YX12_both (dv + 1) 0 0 (fI t) 0 0 5 [some (vR (some 146)), some (vI x1), none] [] (MM t S) (f12_both_h5 N pv n x1 S) := by
  intro n
  induction n with
  | zero => intro x1 S; exact J_none
  | succ n ih =>
    intro x1 S
    rw [f12_both_h5]
    refine J_aload_n dX12_both_5 rfl rfl ?_
    refine J_bipush (v := nI 38) dX12_both_6 (by decide) ?_
    refine K_callV_i (As := [vI (nI 38)]) mcX12_takes mlX12_234 rfl (by decide) (sq 146 rfl) (ct12_takes G t (nI 38) S) rfl rfl (Nat.le_of_ble_eq_true rfl) (by omega) (Nat.le_of_ble_eq_true rfl) dX12_both_8 (fun q1 S2 => ?_)
    refine J_if_eq (tgt := 36) dX12_both_11 (by decide) (fun z3 => ?_) (fun z3 => ?_)
    · refine J_iload_n dX12_both_36 rfl rfl ?_
      exact J_ireturn rfl (Nat.le_refl _) (Nat.le_refl _) rfl dX12_both_37
    · refine J_aload_n dX12_both_14 rfl rfl ?_
      refine K_callV_i (As := []) mcX12_turned mlX12_237 rfl (by decide) (sq 146 rfl) (hpv   S2) rfl rfl (Nat.le_of_ble_eq_true rfl) (by omega) (Nat.le_of_ble_eq_true rfl) dX12_both_15 (fun q4 S5 => ?_)
      refine J_istore_n [some (vR (some 146)), some (vI x1), some (vI q4)] dX12_both_18 rfl (Nat.le_of_ble_eq_true rfl) rfl rfl ?_
      refine J_iload_n dX12_both_19 rfl rfl ?_
      refine J_if_eq (tgt := 31) dX12_both_20 (by decide) (fun z6 => ?_) (fun z6 => ?_)
      · exact J_sb (t12_both_j31 G t N pv dv hdv hpv (f12_both_h5 N pv n) ih S5) (And.intro rfl (trivial))
      · refine J_iload_n dX12_both_23 rfl rfl ?_
        refine J_if_eq (tgt := 31) dX12_both_24 (by decide) (fun z7 => ?_) (fun z7 => ?_)
        · exact J_sb (t12_both_j31 G t N pv dv hdv hpv (f12_both_h5 N pv n) ih S5) (And.intro rfl (trivial))
        · refine J_iconst (v := nI 1) dX12_both_27 (by decide) ?_
          refine J_goto (tgt := 32) dX12_both_28 (by decide) ?_
          exact J_sb (t12_both_j32 G t N pv dv hdv hpv (f12_both_h5 N pv n) ih (nI 1) S5) (And.intro rfl (trivial))
set_option maxRecDepth 100000 in
set_option maxHeartbeats 4000000 in
theorem ct12_both (G : Gm) (t : Nat) (N : Nat) (pv : St → Option (Int32 × St)) (dv : Nat) (hdv : 5 ≤ dv) (hpv : ∀   (S : St), Ct G YX12_turned yX12_turned dv 0 0 (fI t) (pv  S) [vR (some 146)] (MM t S))   (S : St) : Ct G YX12_both yX12_both (dv + 1) 0 0 (fI t) (f12_both N pv S) [vR (some 146)] (MM t S) := by
  refine Ct_of_J [some (vR (some 146)), none, none] (by decide) rfl (fun h => by cases h) (Nat.le_of_ble_eq_true rfl) (And.intro rfl (trivial)) ?_
  unfold f12_both
  refine J_aload_n dX12_both_0 rfl rfl ?_
  refine K_callV_i (As := []) mcX12_turned mlX12_237 rfl (by decide) (sq 146 rfl) (hpv   S) rfl rfl (Nat.le_of_ble_eq_true rfl) (by omega) (Nat.le_of_ble_eq_true rfl) dX12_both_1 (fun q1 S2 => ?_)
  refine J_istore_n [some (vR (some 146)), some (vI q1), none] dX12_both_4 rfl (Nat.le_of_ble_eq_true rfl) rfl rfl ?_
  exact J_sb (t12_both_h5 G t N pv dv hdv hpv N q1 S2) (And.intro rfl (And.intro rfl (trivial)))
theorem dX12_either_0 : decode cX12_either 0 = .ok (.aload_n 0, 1) := by decide +kernel
theorem dX12_either_1 : decode cX12_either 1 = .ok (.invokevirtual 231, 3) := by decide +kernel
theorem dX12_either_4 : decode cX12_either 4 = .ok (.istore_n 1, 1) := by decide +kernel
theorem dX12_either_5 : decode cX12_either 5 = .ok (.aload_n 0, 1) := by decide +kernel
theorem dX12_either_6 : decode cX12_either 6 = .ok (.bipush 124, 2) := by decide +kernel
theorem dX12_either_8 : decode cX12_either 8 = .ok (.invokevirtual 234, 3) := by decide +kernel
theorem dX12_either_11 : decode cX12_either 11 = .ok (.ifCond .eq 25, 3) := by decide +kernel
theorem dX12_either_14 : decode cX12_either 14 = .ok (.aload_n 0, 1) := by decide +kernel
theorem dX12_either_15 : decode cX12_either 15 = .ok (.invokevirtual 231, 3) := by decide +kernel
theorem dX12_either_18 : decode cX12_either 18 = .ok (.istore_n 2, 1) := by decide +kernel
theorem dX12_either_19 : decode cX12_either 19 = .ok (.iload_n 1, 1) := by decide +kernel
theorem dX12_either_20 : decode cX12_either 20 = .ok (.ifCond .ne 7, 3) := by decide +kernel
theorem dX12_either_23 : decode cX12_either 23 = .ok (.iload_n 2, 1) := by decide +kernel
theorem dX12_either_24 : decode cX12_either 24 = .ok (.ifCond .eq 7, 3) := by decide +kernel
theorem dX12_either_27 : decode cX12_either 27 = .ok (.iconst 1, 1) := by decide +kernel
theorem dX12_either_28 : decode cX12_either 28 = .ok (.goto 4, 3) := by decide +kernel
theorem dX12_either_31 : decode cX12_either 31 = .ok (.iconst 0, 1) := by decide +kernel
theorem dX12_either_32 : decode cX12_either 32 = .ok (.istore_n 1, 1) := by decide +kernel
theorem dX12_either_33 : decode cX12_either 33 = .ok (.goto (-28), 3) := by decide +kernel
theorem dX12_either_36 : decode cX12_either 36 = .ok (.iload_n 1, 1) := by decide +kernel
theorem dX12_either_37 : decode cX12_either 37 = .ok (.ireturn, 1) := by decide +kernel
set_option maxRecDepth 100000 in
set_option maxHeartbeats 4000000 in
theorem t12_either_j32 (G : Gm) (t : Nat) (N : Nat) (pv : St → Option (Int32 × St)) (dv : Nat) (hdv : 5 ≤ dv) (hpv : ∀   (S : St), Ct G YX12_turned yX12_turned dv 0 0 (fI t) (pv  S) [vR (some 146)] (MM t S))   (k5 : Int32 → St → Option (Int32 × St)) (hk5 : ∀ (yx1 : Int32) (S : St), J G YX12_either (dv + 2) 0 0 (fI t) 0 0 5 [some (vR (some 146)), some (vI yx1), none] [] (MM t S) (k5 yx1 S)) : ∀ (xs0 : Int32) (S : St), J G YX12_either (dv + 2) 0 0 (fI t) 0 0 32 [some (vR (some 146)), none, none] [vI xs0] (MM t S) (f12_either_j32 N pv k5 xs0 S) := by
  intro xs0 S
  unfold f12_either_j32
  refine J_istore_n [some (vR (some 146)), some (vI xs0), none] dX12_either_32 rfl (Nat.le_of_ble_eq_true rfl) rfl rfl ?_
  refine J_goto (tgt := 5) dX12_either_33 (by decide) ?_
  exact J_sb (hk5 xs0 S) (And.intro rfl (And.intro rfl (trivial)))
set_option maxRecDepth 100000 in
set_option maxHeartbeats 4000000 in
theorem t12_either_j27 (G : Gm) (t : Nat) (N : Nat) (pv : St → Option (Int32 × St)) (dv : Nat) (hdv : 5 ≤ dv) (hpv : ∀   (S : St), Ct G YX12_turned yX12_turned dv 0 0 (fI t) (pv  S) [vR (some 146)] (MM t S))   (k5 : Int32 → St → Option (Int32 × St)) (hk5 : ∀ (yx1 : Int32) (S : St), J G YX12_either (dv + 2) 0 0 (fI t) 0 0 5 [some (vR (some 146)), some (vI yx1), none] [] (MM t S) (k5 yx1 S)) : ∀  (S : St), J G YX12_either (dv + 2) 0 0 (fI t) 0 0 27 [some (vR (some 146)), none, none] [] (MM t S) (f12_either_j27 N pv k5 S) := by
  intro S
  unfold f12_either_j27
  refine J_iconst (v := nI 1) dX12_either_27 (by decide) ?_
  refine J_goto (tgt := 32) dX12_either_28 (by decide) ?_
  exact J_sb (t12_either_j32 G t N pv dv hdv hpv k5 hk5 (nI 1) S) (And.intro rfl (trivial))
set_option maxRecDepth 100000 in
set_option maxHeartbeats 4000000 in
theorem t12_either_h5 (G : Gm) (t : Nat) (N : Nat) (pv : St → Option (Int32 × St)) (dv : Nat) (hdv : 5 ≤ dv) (hpv : ∀   (S : St), Ct G YX12_turned yX12_turned dv 0 0 (fI t) (pv  S) [vR (some 146)] (MM t S))     : ∀ (n : Nat) (x1 : Int32) (S : St), J G YX12_either (dv + 2) 0 0 (fI t) 0 0 5 [some (vR (some 146)), some (vI x1), none] [] (MM t S) (f12_either_h5 N pv n x1 S) := by
  intro n
  induction n with
  | zero => intro x1 S; exact J_none
  | succ n ih =>
    intro x1 S
    rw [f12_either_h5]
    refine J_aload_n dX12_either_5 rfl rfl ?_
    refine J_bipush (v := nI 124) dX12_either_6 (by decide) ?_
    refine K_callV_i (As := [vI (nI 124)]) mcX12_takes mlX12_234 rfl (by decide) (sq 146 rfl) (ct12_takes G t (nI 124) S) rfl rfl (Nat.le_of_ble_eq_true rfl) (by omega) (Nat.le_of_ble_eq_true rfl) dX12_either_8 (fun q1 S2 => ?_)
    refine J_if_eq (tgt := 36) dX12_either_11 (by decide) (fun z3 => ?_) (fun z3 => ?_)
    · refine J_iload_n dX12_either_36 rfl rfl ?_
      exact J_ireturn rfl (Nat.le_refl _) (Nat.le_refl _) rfl dX12_either_37
    · refine J_aload_n dX12_either_14 rfl rfl ?_
      refine K_callV_i (As := []) mcX12_both mlX12_231 rfl (by decide) (sq 146 rfl) (ct12_both G t N pv dv hdv hpv S2) rfl rfl (Nat.le_of_ble_eq_true rfl) (by omega) (Nat.le_of_ble_eq_true rfl) dX12_either_15 (fun q4 S5 => ?_)
      refine J_istore_n [some (vR (some 146)), some (vI x1), some (vI q4)] dX12_either_18 rfl (Nat.le_of_ble_eq_true rfl) rfl rfl ?_
      refine J_iload_n dX12_either_19 rfl rfl ?_
      refine J_if_ne (tgt := 27) dX12_either_20 (by decide) (fun z6 => ?_) (fun z6 => ?_)
      · refine J_iload_n dX12_either_23 rfl rfl ?_
        refine J_if_eq (tgt := 31) dX12_either_24 (by decide) (fun z7 => ?_) (fun z7 => ?_)
        · refine J_iconst (v := nI 0) dX12_either_31 (by decide) ?_
          exact J_sb (t12_either_j32 G t N pv dv hdv hpv (f12_either_h5 N pv n) ih (nI 0) S5) (And.intro rfl (trivial))
        · exact J_sb (t12_either_j27 G t N pv dv hdv hpv (f12_either_h5 N pv n) ih S5) (And.intro rfl (trivial))
      · exact J_sb (t12_either_j27 G t N pv dv hdv hpv (f12_either_h5 N pv n) ih S5) (And.intro rfl (trivial))
set_option maxRecDepth 100000 in
set_option maxHeartbeats 4000000 in
theorem ct12_either (G : Gm) (t : Nat) (N : Nat) (pv : St → Option (Int32 × St)) (dv : Nat) (hdv : 5 ≤ dv) (hpv : ∀   (S : St), Ct G YX12_turned yX12_turned dv 0 0 (fI t) (pv  S) [vR (some 146)] (MM t S))   (S : St) : Ct G YX12_either yX12_either (dv + 2) 0 0 (fI t) (f12_either N pv S) [vR (some 146)] (MM t S) := by
  refine Ct_of_J [some (vR (some 146)), none, none] (by decide) rfl (fun h => by cases h) (Nat.le_of_ble_eq_true rfl) (And.intro rfl (trivial)) ?_
  unfold f12_either
  refine J_aload_n dX12_either_0 rfl rfl ?_
  refine K_callV_i (As := []) mcX12_both mlX12_231 rfl (by decide) (sq 146 rfl) (ct12_both G t N pv dv hdv hpv S) rfl rfl (Nat.le_of_ble_eq_true rfl) (by omega) (Nat.le_of_ble_eq_true rfl) dX12_either_1 (fun q1 S2 => ?_)
  refine J_istore_n [some (vR (some 146)), some (vI q1), none] dX12_either_4 rfl (Nat.le_of_ble_eq_true rfl) rfl rfl ?_
  exact J_sb (t12_either_h5 G t N pv dv hdv hpv N q1 S2) (And.intro rfl (And.intro rfl (trivial)))
theorem dX12_named_0 : decode cX12_named 0 = .ok (.iconst 0, 1) := by decide +kernel
theorem dX12_named_1 : decode cX12_named 1 = .ok (.istore_n 2, 1) := by decide +kernel
theorem dX12_named_2 : decode cX12_named 2 = .ok (.iconst 0, 1) := by decide +kernel
theorem dX12_named_3 : decode cX12_named 3 = .ok (.istore_n 3, 1) := by decide +kernel
theorem dX12_named_4 : decode cX12_named 4 = .ok (.iload_n 3, 1) := by decide +kernel
theorem dX12_named_5 : decode cX12_named 5 = .ok (.aload_n 0, 1) := by decide +kernel
theorem dX12_named_6 : decode cX12_named 6 = .ok (.getfield 156, 3) := by decide +kernel
theorem dX12_named_9 : decode cX12_named 9 = .ok (.if_icmp .ge 18, 3) := by decide +kernel
theorem dX12_named_12 : decode cX12_named 12 = .ok (.iload_n 2, 1) := by decide +kernel
theorem dX12_named_13 : decode cX12_named 13 = .ok (.aload_n 0, 1) := by decide +kernel
theorem dX12_named_14 : decode cX12_named 14 = .ok (.getfield 34, 3) := by decide +kernel
theorem dX12_named_17 : decode cX12_named 17 = .ok (.iload_n 3, 1) := by decide +kernel
theorem dX12_named_18 : decode cX12_named 18 = .ok (.iaload, 1) := by decide +kernel
theorem dX12_named_19 : decode cX12_named 19 = .ok (.iadd, 1) := by decide +kernel
theorem dX12_named_20 : decode cX12_named 20 = .ok (.istore_n 2, 1) := by decide +kernel
theorem dX12_named_21 : decode cX12_named 21 = .ok (.iinc 3 1, 3) := by decide +kernel
theorem dX12_named_24 : decode cX12_named 24 = .ok (.goto (-20), 3) := by decide +kernel
theorem dX12_named_27 : decode cX12_named 27 = .ok (.iload_n 1, 1) := by decide +kernel
theorem dX12_named_28 : decode cX12_named 28 = .ok (.tableswitch 130 97 110 #[120, 125, 130, 130, 130, 77, 130, 130, 130, 130, 130, 95, 118, 72], 72) := by decide +kernel
theorem dX12_named_100 : decode cX12_named 100 = .ok (.aload_n 0, 1) := by decide +kernel
theorem dX12_named_101 : decode cX12_named 101 = .ok (.getfield 156, 3) := by decide +kernel
theorem dX12_named_104 : decode cX12_named 104 = .ok (.ireturn, 1) := by decide +kernel
theorem dX12_named_105 : decode cX12_named 105 = .ok (.aload_n 0, 1) := by decide +kernel
theorem dX12_named_106 : decode cX12_named 106 = .ok (.getfield 156, 3) := by decide +kernel
theorem dX12_named_109 : decode cX12_named 109 = .ok (.ifCond .le 12, 3) := by decide +kernel
theorem dX12_named_112 : decode cX12_named 112 = .ok (.aload_n 0, 1) := by decide +kernel
theorem dX12_named_113 : decode cX12_named 113 = .ok (.getfield 34, 3) := by decide +kernel
theorem dX12_named_116 : decode cX12_named 116 = .ok (.iconst 0, 1) := by decide +kernel
theorem dX12_named_117 : decode cX12_named 117 = .ok (.iaload, 1) := by decide +kernel
theorem dX12_named_118 : decode cX12_named 118 = .ok (.goto 4, 3) := by decide +kernel
theorem dX12_named_121 : decode cX12_named 121 = .ok (.iconst (-1), 1) := by decide +kernel
theorem dX12_named_122 : decode cX12_named 122 = .ok (.ireturn, 1) := by decide +kernel
theorem dX12_named_123 : decode cX12_named 123 = .ok (.aload_n 0, 1) := by decide +kernel
theorem dX12_named_124 : decode cX12_named 124 = .ok (.getfield 156, 3) := by decide +kernel
theorem dX12_named_127 : decode cX12_named 127 = .ok (.ifCond .le 17, 3) := by decide +kernel
theorem dX12_named_130 : decode cX12_named 130 = .ok (.aload_n 0, 1) := by decide +kernel
theorem dX12_named_131 : decode cX12_named 131 = .ok (.getfield 34, 3) := by decide +kernel
theorem dX12_named_134 : decode cX12_named 134 = .ok (.aload_n 0, 1) := by decide +kernel
theorem dX12_named_135 : decode cX12_named 135 = .ok (.getfield 156, 3) := by decide +kernel
theorem dX12_named_138 : decode cX12_named 138 = .ok (.iconst 1, 1) := by decide +kernel
theorem dX12_named_139 : decode cX12_named 139 = .ok (.isub, 1) := by decide +kernel
theorem dX12_named_140 : decode cX12_named 140 = .ok (.iaload, 1) := by decide +kernel
theorem dX12_named_141 : decode cX12_named 141 = .ok (.goto 4, 3) := by decide +kernel
theorem dX12_named_144 : decode cX12_named 144 = .ok (.iconst (-1), 1) := by decide +kernel
theorem dX12_named_145 : decode cX12_named 145 = .ok (.ireturn, 1) := by decide +kernel
theorem dX12_named_146 : decode cX12_named 146 = .ok (.iload_n 2, 1) := by decide +kernel
theorem dX12_named_147 : decode cX12_named 147 = .ok (.ireturn, 1) := by decide +kernel
theorem dX12_named_148 : decode cX12_named 148 = .ok (.aload_n 0, 1) := by decide +kernel
theorem dX12_named_149 : decode cX12_named 149 = .ok (.getfield 144, 3) := by decide +kernel
theorem dX12_named_152 : decode cX12_named 152 = .ok (.ireturn, 1) := by decide +kernel
theorem dX12_named_153 : decode cX12_named 153 = .ok (.aload_n 0, 1) := by decide +kernel
theorem dX12_named_154 : decode cX12_named 154 = .ok (.getfield 147, 3) := by decide +kernel
theorem dX12_named_157 : decode cX12_named 157 = .ok (.ireturn, 1) := by decide +kernel
theorem dX12_named_158 : decode cX12_named 158 = .ok (.aload_n 0, 1) := by decide +kernel
theorem dX12_named_159 : decode cX12_named 159 = .ok (.getfield 37, 3) := by decide +kernel
theorem dX12_named_162 : decode cX12_named 162 = .ok (.iconst 0, 1) := by decide +kernel
theorem dX12_named_163 : decode cX12_named 163 = .ok (.iaload, 1) := by decide +kernel
theorem dX12_named_164 : decode cX12_named 164 = .ok (.ireturn, 1) := by decide +kernel
set_option maxRecDepth 100000 in
set_option maxHeartbeats 4000000 in
theorem t12_named_j158 (G : Gm) (t : Nat) (N : Nat)     : ∀  (S : St), J G YX12_named 1 0 0 (fI t) 0 0 158 [some (vR (some 146)), none, none, none] [] (MM t S) (f12_named_j158 N S) := by
  intro S
  unfold f12_named_j158
  refine J_aload_n dX12_named_158 rfl rfl ?_
  refine K_getR (r := some (156)) cf12 flX12_37 (sq 146 rfl) rfl (Or.inr ⟨_, rfl⟩) dX12_named_159 ?_
  refine J_iconst (v := nI 0) dX12_named_162 (by decide) ?_
  refine K_iald (sq 156 rfl) dX12_named_163 ?_
  exact J_ireturn rfl (Nat.le_refl _) (Nat.le_refl _) rfl dX12_named_164
set_option maxRecDepth 100000 in
set_option maxHeartbeats 4000000 in
theorem t12_named_h4 (G : Gm) (t : Nat) (N : Nat) (x1 : Int32)    : ∀ (n : Nat) (x2 : Int32) (x3 : Int32) (S : St), J G YX12_named 1 0 0 (fI t) 0 0 4 [some (vR (some 146)), some (vI x1), some (vI x2), some (vI x3)] [] (MM t S) (f12_named_h4 N x1 n x2 x3 S) := by
  intro n
  induction n with
  | zero => intro x2 x3 S; exact J_none
  | succ n ih =>
    intro x2 x3 S
    rw [f12_named_h4]
    refine J_iload_n dX12_named_4 rfl rfl ?_
    refine J_aload_n dX12_named_5 rfl rfl ?_
    refine K_getI cf12 flX12_156 (sq 146 rfl) (Or.inl rfl) dX12_named_6 ?_
    refine J_icmp_ge (tgt := 27) dX12_named_9 (by decide) (fun z1 => ?_) (fun z1 => ?_)
    · refine J_iload_n dX12_named_27 rfl rfl ?_
      refine J_table (td := 158) _ dX12_named_28 (fun z h1 h2 => cov_of (lo := (97)) (N := 14) (ks := [nI 97, nI 98, nI 99, nI 100, nI 101, nI 102, nI 103, nI 104, nI 105, nI 106, nI 107, nI 108, nI 109, nI 110]) (by decide) z h1 (by omega)) ?_ (by decide) ?_
      · refine List.forall_mem_cons.mpr ⟨tb_mk (o := 120) (tgt := 148) (by decide) (fun _ => ?_), ?_⟩
        · refine J_aload_n dX12_named_148 rfl rfl ?_
          refine K_getI cf12 flX12_144 (sq 146 rfl) (Or.inl rfl) dX12_named_149 ?_
          exact J_ireturn rfl (Nat.le_refl _) (Nat.le_refl _) rfl dX12_named_152
        · refine List.forall_mem_cons.mpr ⟨tb_mk (o := 125) (tgt := 153) (by decide) (fun _ => ?_), ?_⟩
          · refine J_aload_n dX12_named_153 rfl rfl ?_
            refine K_getI cf12 flX12_147 (sq 146 rfl) (Or.inl rfl) dX12_named_154 ?_
            exact J_ireturn rfl (Nat.le_refl _) (Nat.le_refl _) rfl dX12_named_157
          · refine List.forall_mem_cons.mpr ⟨tb_mk (o := 130) (tgt := 158) (by decide) (fun _ => ?_), ?_⟩
            · exact J_sb (t12_named_j158 G t N S) (And.intro rfl (trivial))
            · refine List.forall_mem_cons.mpr ⟨tb_mk (o := 130) (tgt := 158) (by decide) (fun _ => ?_), ?_⟩
              · exact J_sb (t12_named_j158 G t N S) (And.intro rfl (trivial))
              · refine List.forall_mem_cons.mpr ⟨tb_mk (o := 130) (tgt := 158) (by decide) (fun _ => ?_), ?_⟩
                · exact J_sb (t12_named_j158 G t N S) (And.intro rfl (trivial))
                · refine List.forall_mem_cons.mpr ⟨tb_mk (o := 77) (tgt := 105) (by decide) (fun _ => ?_), ?_⟩
                  · refine J_aload_n dX12_named_105 rfl rfl ?_
                    refine K_getI cf12 flX12_156 (sq 146 rfl) (Or.inl rfl) dX12_named_106 ?_
                    refine J_if_le (tgt := 121) dX12_named_109 (by decide) (fun z2 => ?_) (fun z2 => ?_)
                    · refine J_iconst (v := (-1)) dX12_named_121 (by decide) ?_
                      exact J_ireturn rfl (Nat.le_refl _) (Nat.le_refl _) rfl dX12_named_122
                    · refine J_aload_n dX12_named_112 rfl rfl ?_
                      refine K_getR (r := some (155)) cf12 flX12_34 (sq 146 rfl) rfl (Or.inr ⟨_, rfl⟩) dX12_named_113 ?_
                      refine J_iconst (v := nI 0) dX12_named_116 (by decide) ?_
                      refine K_iald (sq 155 rfl) dX12_named_117 ?_
                      refine J_goto (tgt := 122) dX12_named_118 (by decide) ?_
                      exact J_ireturn rfl (Nat.le_refl _) (Nat.le_refl _) rfl dX12_named_122
                  · refine List.forall_mem_cons.mpr ⟨tb_mk (o := 130) (tgt := 158) (by decide) (fun _ => ?_), ?_⟩
                    · exact J_sb (t12_named_j158 G t N S) (And.intro rfl (trivial))
                    · refine List.forall_mem_cons.mpr ⟨tb_mk (o := 130) (tgt := 158) (by decide) (fun _ => ?_), ?_⟩
                      · exact J_sb (t12_named_j158 G t N S) (And.intro rfl (trivial))
                      · refine List.forall_mem_cons.mpr ⟨tb_mk (o := 130) (tgt := 158) (by decide) (fun _ => ?_), ?_⟩
                        · exact J_sb (t12_named_j158 G t N S) (And.intro rfl (trivial))
                        · refine List.forall_mem_cons.mpr ⟨tb_mk (o := 130) (tgt := 158) (by decide) (fun _ => ?_), ?_⟩
                          · exact J_sb (t12_named_j158 G t N S) (And.intro rfl (trivial))
                          · refine List.forall_mem_cons.mpr ⟨tb_mk (o := 130) (tgt := 158) (by decide) (fun _ => ?_), ?_⟩
                            · exact J_sb (t12_named_j158 G t N S) (And.intro rfl (trivial))
                            · refine List.forall_mem_cons.mpr ⟨tb_mk (o := 95) (tgt := 123) (by decide) (fun _ => ?_), ?_⟩
                              · refine J_aload_n dX12_named_123 rfl rfl ?_
                                refine K_getI cf12 flX12_156 (sq 146 rfl) (Or.inl rfl) dX12_named_124 ?_
                                refine J_if_le (tgt := 144) dX12_named_127 (by decide) (fun z3 => ?_) (fun z3 => ?_)
                                · refine J_iconst (v := (-1)) dX12_named_144 (by decide) ?_
                                  exact J_ireturn rfl (Nat.le_refl _) (Nat.le_refl _) rfl dX12_named_145
                                · refine J_aload_n dX12_named_130 rfl rfl ?_
                                  refine K_getR (r := some (155)) cf12 flX12_34 (sq 146 rfl) rfl (Or.inr ⟨_, rfl⟩) dX12_named_131 ?_
                                  refine J_aload_n dX12_named_134 rfl rfl ?_
                                  refine K_getI cf12 flX12_156 (sq 146 rfl) (Or.inl rfl) dX12_named_135 ?_
                                  refine J_iconst (v := nI 1) dX12_named_138 (by decide) ?_
                                  refine J_isub dX12_named_139 ?_
                                  refine K_iald (sq 155 rfl) dX12_named_140 ?_
                                  refine J_goto (tgt := 145) dX12_named_141 (by decide) ?_
                                  exact J_ireturn rfl (Nat.le_refl _) (Nat.le_refl _) rfl dX12_named_145
                              · refine List.forall_mem_cons.mpr ⟨tb_mk (o := 118) (tgt := 146) (by decide) (fun _ => ?_), ?_⟩
                                · refine J_iload_n dX12_named_146 rfl rfl ?_
                                  exact J_ireturn rfl (Nat.le_refl _) (Nat.le_refl _) rfl dX12_named_147
                                · refine List.forall_mem_cons.mpr ⟨tb_mk (o := 72) (tgt := 100) (by decide) (fun _ => ?_), ?_⟩
                                  · refine J_aload_n dX12_named_100 rfl rfl ?_
                                    refine K_getI cf12 flX12_156 (sq 146 rfl) (Or.inl rfl) dX12_named_101 ?_
                                    exact J_ireturn rfl (Nat.le_refl _) (Nat.le_refl _) rfl dX12_named_104
                                  · exact fun _ h => absurd h List.not_mem_nil
      · exact J_sb (t12_named_j158 G t N S) (And.intro rfl (trivial))
    · refine J_iload_n dX12_named_12 rfl rfl ?_
      refine J_aload_n dX12_named_13 rfl rfl ?_
      refine K_getR (r := some (155)) cf12 flX12_34 (sq 146 rfl) rfl (Or.inr ⟨_, rfl⟩) dX12_named_14 ?_
      refine J_iload_n dX12_named_17 rfl rfl ?_
      refine K_iald (sq 155 rfl) dX12_named_18 ?_
      refine J_iadd dX12_named_19 ?_
      refine J_ltI (fun v4 _ => ?_)
      refine J_istore_n [some (vR (some 146)), some (vI x1), some (vI v4), some (vI x3)] dX12_named_20 rfl (Nat.le_of_ble_eq_true rfl) rfl rfl ?_
      refine J_iinc (v := x3 + nI 1) [some (vR (some 146)), some (vI x1), some (vI v4), some (vI (x3 + nI 1))] dX12_named_21 rfl rfl (Nat.le_of_ble_eq_true rfl) rfl rfl ?_
      refine J_goto (tgt := 4) dX12_named_24 (by decide) ?_
      exact J_sb (ih v4 (x3 + nI 1) S) (And.intro rfl (And.intro rfl (And.intro rfl (And.intro rfl (trivial)))))
set_option maxRecDepth 100000 in
set_option maxHeartbeats 4000000 in
theorem ct12_named (G : Gm) (t : Nat) (N : Nat) (x1 : Int32)  (S : St) : Ct G YX12_named yX12_named 1 0 0 (fI t) (f12_named N x1 S) [vR (some 146), vI x1] (MM t S) := by
  refine Ct_of_J [some (vR (some 146)), some (vI x1), none, none] (by decide) rfl (fun h => by cases h) (Nat.le_of_ble_eq_true rfl) (And.intro rfl (And.intro rfl (trivial))) ?_
  unfold f12_named
  refine J_iconst (v := nI 0) dX12_named_0 (by decide) ?_
  refine J_istore_n [some (vR (some 146)), some (vI x1), some (vI (nI 0)), none] dX12_named_1 rfl (Nat.le_of_ble_eq_true rfl) rfl rfl ?_
  refine J_iconst (v := nI 0) dX12_named_2 (by decide) ?_
  refine J_istore_n [some (vR (some 146)), some (vI x1), some (vI (nI 0)), some (vI (nI 0))] dX12_named_3 rfl (Nat.le_of_ble_eq_true rfl) rfl rfl ?_
  exact J_sb (t12_named_h4 G t N x1 N (nI 0) (nI 0) S) (And.intro rfl (And.intro rfl (And.intro rfl (And.intro rfl (trivial)))))
theorem dX12_one_0 : decode cX12_one 0 = .ok (.aload_n 0, 1) := by decide +kernel
theorem dX12_one_1 : decode cX12_one 1 = .ok (.getfield 225, 3) := by decide +kernel
theorem dX12_one_4 : decode cX12_one 4 = .ok (.ifCond .lt 5, 3) := by decide +kernel
theorem dX12_one_7 : decode cX12_one 7 = .ok (.iconst 0, 1) := by decide +kernel
theorem dX12_one_8 : decode cX12_one 8 = .ok (.ireturn, 1) := by decide +kernel
theorem dX12_one_9 : decode cX12_one 9 = .ok (.aload_n 0, 1) := by decide +kernel
theorem dX12_one_10 : decode cX12_one 10 = .ok (.invokevirtual 228, 3) := by decide +kernel
theorem dX12_one_13 : decode cX12_one 13 = .ok (.istore_n 1, 1) := by decide +kernel
theorem dX12_one_14 : decode cX12_one 14 = .ok (.iload_n 1, 1) := by decide +kernel
theorem dX12_one_15 : decode cX12_one 15 = .ok (.bipush 110, 2) := by decide +kernel
theorem dX12_one_17 : decode cX12_one 17 = .ok (.if_icmp .eq 39, 3) := by decide +kernel
theorem dX12_one_20 : decode cX12_one 20 = .ok (.iload_n 1, 1) := by decide +kernel
theorem dX12_one_21 : decode cX12_one 21 = .ok (.bipush 102, 2) := by decide +kernel
theorem dX12_one_23 : decode cX12_one 23 = .ok (.if_icmp .eq 33, 3) := by decide +kernel
theorem dX12_one_26 : decode cX12_one 26 = .ok (.iload_n 1, 1) := by decide +kernel
theorem dX12_one_27 : decode cX12_one 27 = .ok (.bipush 108, 2) := by decide +kernel
theorem dX12_one_29 : decode cX12_one 29 = .ok (.if_icmp .eq 27, 3) := by decide +kernel
theorem dX12_one_32 : decode cX12_one 32 = .ok (.iload_n 1, 1) := by decide +kernel
theorem dX12_one_33 : decode cX12_one 33 = .ok (.bipush 109, 2) := by decide +kernel
theorem dX12_one_35 : decode cX12_one 35 = .ok (.if_icmp .eq 21, 3) := by decide +kernel
theorem dX12_one_38 : decode cX12_one 38 = .ok (.iload_n 1, 1) := by decide +kernel
theorem dX12_one_39 : decode cX12_one 39 = .ok (.bipush 120, 2) := by decide +kernel
theorem dX12_one_41 : decode cX12_one 41 = .ok (.if_icmp .eq 15, 3) := by decide +kernel
theorem dX12_one_44 : decode cX12_one 44 = .ok (.iload_n 1, 1) := by decide +kernel
theorem dX12_one_45 : decode cX12_one 45 = .ok (.bipush 97, 2) := by decide +kernel
theorem dX12_one_47 : decode cX12_one 47 = .ok (.if_icmp .eq 9, 3) := by decide +kernel
theorem dX12_one_50 : decode cX12_one 50 = .ok (.iload_n 1, 1) := by decide +kernel
theorem dX12_one_51 : decode cX12_one 51 = .ok (.bipush 98, 2) := by decide +kernel
theorem dX12_one_53 : decode cX12_one 53 = .ok (.if_icmp .ne 19, 3) := by decide +kernel
theorem dX12_one_56 : decode cX12_one 56 = .ok (.aload_n 0, 1) := by decide +kernel
theorem dX12_one_57 : decode cX12_one 57 = .ok (.dup, 1) := by decide +kernel
theorem dX12_one_58 : decode cX12_one 58 = .ok (.getfield 216, 3) := by decide +kernel
theorem dX12_one_61 : decode cX12_one 61 = .ok (.iconst 1, 1) := by decide +kernel
theorem dX12_one_62 : decode cX12_one 62 = .ok (.iadd, 1) := by decide +kernel
theorem dX12_one_63 : decode cX12_one 63 = .ok (.putfield 216, 3) := by decide +kernel
theorem dX12_one_66 : decode cX12_one 66 = .ok (.aload_n 0, 1) := by decide +kernel
theorem dX12_one_67 : decode cX12_one 67 = .ok (.iload_n 1, 1) := by decide +kernel
theorem dX12_one_68 : decode cX12_one 68 = .ok (.invokevirtual 258, 3) := by decide +kernel
theorem dX12_one_71 : decode cX12_one 71 = .ok (.ireturn, 1) := by decide +kernel
theorem dX12_one_72 : decode cX12_one 72 = .ok (.iconst 0, 1) := by decide +kernel
theorem dX12_one_73 : decode cX12_one 73 = .ok (.istore_n 2, 1) := by decide +kernel
theorem dX12_one_74 : decode cX12_one 74 = .ok (.iconst 0, 1) := by decide +kernel
theorem dX12_one_75 : decode cX12_one 75 = .ok (.istore_n 3, 1) := by decide +kernel
theorem dX12_one_76 : decode cX12_one 76 = .ok (.iload_n 3, 1) := by decide +kernel
theorem dX12_one_77 : decode cX12_one 77 = .ok (.iconst 3, 1) := by decide +kernel
theorem dX12_one_78 : decode cX12_one 78 = .ok (.if_icmp .ge 50, 3) := by decide +kernel
theorem dX12_one_81 : decode cX12_one 81 = .ok (.aload_n 0, 1) := by decide +kernel
theorem dX12_one_82 : decode cX12_one 82 = .ok (.invokevirtual 228, 3) := by decide +kernel
theorem dX12_one_85 : decode cX12_one 85 = .ok (.bipush 48, 2) := by decide +kernel
theorem dX12_one_87 : decode cX12_one 87 = .ok (.if_icmp .lt 41, 3) := by decide +kernel
theorem dX12_one_90 : decode cX12_one 90 = .ok (.aload_n 0, 1) := by decide +kernel
theorem dX12_one_91 : decode cX12_one 91 = .ok (.invokevirtual 228, 3) := by decide +kernel
theorem dX12_one_94 : decode cX12_one 94 = .ok (.bipush 57, 2) := by decide +kernel
theorem dX12_one_96 : decode cX12_one 96 = .ok (.if_icmp .gt 32, 3) := by decide +kernel
theorem dX12_one_99 : decode cX12_one 99 = .ok (.bipush 10, 2) := by decide +kernel
theorem dX12_one_101 : decode cX12_one 101 = .ok (.iload_n 2, 1) := by decide +kernel
theorem dX12_one_102 : decode cX12_one 102 = .ok (.imul, 1) := by decide +kernel
theorem dX12_one_103 : decode cX12_one 103 = .ok (.aload_n 0, 1) := by decide +kernel
theorem dX12_one_104 : decode cX12_one 104 = .ok (.invokevirtual 228, 3) := by decide +kernel
theorem dX12_one_107 : decode cX12_one 107 = .ok (.iadd, 1) := by decide +kernel
theorem dX12_one_108 : decode cX12_one 108 = .ok (.bipush 48, 2) := by decide +kernel
theorem dX12_one_110 : decode cX12_one 110 = .ok (.isub, 1) := by decide +kernel
theorem dX12_one_111 : decode cX12_one 111 = .ok (.istore_n 2, 1) := by decide +kernel
theorem dX12_one_112 : decode cX12_one 112 = .ok (.iinc 3 1, 3) := by decide +kernel
theorem dX12_one_115 : decode cX12_one 115 = .ok (.aload_n 0, 1) := by decide +kernel
theorem dX12_one_116 : decode cX12_one 116 = .ok (.dup, 1) := by decide +kernel
theorem dX12_one_117 : decode cX12_one 117 = .ok (.getfield 216, 3) := by decide +kernel
theorem dX12_one_120 : decode cX12_one 120 = .ok (.iconst 1, 1) := by decide +kernel
theorem dX12_one_121 : decode cX12_one 121 = .ok (.iadd, 1) := by decide +kernel
theorem dX12_one_122 : decode cX12_one 122 = .ok (.putfield 216, 3) := by decide +kernel
theorem dX12_one_125 : decode cX12_one 125 = .ok (.goto (-49), 3) := by decide +kernel
theorem dX12_one_128 : decode cX12_one 128 = .ok (.iload_n 3, 1) := by decide +kernel
theorem dX12_one_129 : decode cX12_one 129 = .ok (.ifCond .ne 10, 3) := by decide +kernel
theorem dX12_one_132 : decode cX12_one 132 = .ok (.aload_n 0, 1) := by decide +kernel
theorem dX12_one_133 : decode cX12_one 133 = .ok (.invokevirtual 243, 3) := by decide +kernel
theorem dX12_one_136 : decode cX12_one 136 = .ok (.goto 4, 3) := by decide +kernel
theorem dX12_one_139 : decode cX12_one 139 = .ok (.iload_n 2, 1) := by decide +kernel
theorem dX12_one_140 : decode cX12_one 140 = .ok (.ireturn, 1) := by decide +kernel
set_option maxRecDepth 100000 in
set_option maxHeartbeats 4000000 in
theorem t12_one_j56 (G : Gm) (t : Nat) (N : Nat) (x1 : Int32)    : ∀  (S : St), J G YX12_one 2 0 0 (fI t) 0 0 56 [some (vR (some 146)), some (vI x1), none, none] [] (MM t S) (f12_one_j56 N x1 S) := by
  intro S
  unfold f12_one_j56
  refine J_aload_n dX12_one_56 rfl rfl ?_
  refine J_dup dX12_one_57 rfl ?_
  refine K_getI cf12 flX12_216 (sq 146 rfl) (Or.inl rfl) dX12_one_58 ?_
  refine J_iconst (v := nI 1) dX12_one_61 (by decide) ?_
  refine J_iadd dX12_one_62 ?_
  refine K_putI cf12 flX12_216 (sq 146 rfl) rfl dX12_one_63 ?_
  refine J_ltS (fun S1 _ => ?_)
  refine J_aload_n dX12_one_66 rfl rfl ?_
  refine J_iload_n dX12_one_67 rfl rfl ?_
  refine K_callV_i (As := [vI x1]) mcX12_named mlX12_258 rfl (by decide) (sq 146 rfl) (ct12_named G t N x1 S1) rfl rfl (Nat.le_of_ble_eq_true rfl) (by decide) (Nat.le_of_ble_eq_true rfl) dX12_one_68 (fun q2 S3 => ?_)
  exact J_ireturn rfl (Nat.le_refl _) (Nat.le_refl _) rfl dX12_one_71
set_option maxRecDepth 100000 in
set_option maxHeartbeats 4000000 in
theorem t12_one_j128 (G : Gm) (t : Nat) (N : Nat) (x2 : Int32) (x3 : Int32)    : ∀  (S : St), J G YX12_one 2 0 0 (fI t) 0 0 128 [some (vR (some 146)), none, some (vI x2), some (vI x3)] [] (MM t S) (f12_one_j128 N x2 x3 S) := by
  intro S
  unfold f12_one_j128
  refine J_iload_n dX12_one_128 rfl rfl ?_
  refine J_if_ne (tgt := 139) dX12_one_129 (by decide) (fun z1 => ?_) (fun z1 => ?_)
  · refine J_aload_n dX12_one_132 rfl rfl ?_
    refine K_callV_i (As := []) mcX12_wrong mlX12_243 rfl (by decide) (sq 146 rfl) (ct12_wrong G t S) rfl rfl (Nat.le_of_ble_eq_true rfl) (by decide) (Nat.le_of_ble_eq_true rfl) dX12_one_133 (fun q2 S3 => ?_)
    refine J_goto (tgt := 140) dX12_one_136 (by decide) ?_
    exact J_ireturn rfl (Nat.le_refl _) (Nat.le_refl _) rfl dX12_one_140
  · refine J_iload_n dX12_one_139 rfl rfl ?_
    exact J_ireturn rfl (Nat.le_refl _) (Nat.le_refl _) rfl dX12_one_140
set_option maxRecDepth 100000 in
set_option maxHeartbeats 4000000 in
theorem t12_one_h76 (G : Gm) (t : Nat) (N : Nat)     : ∀ (n : Nat) (x2 : Int32) (x3 : Int32) (S : St), J G YX12_one 2 0 0 (fI t) 0 0 76 [some (vR (some 146)), none, some (vI x2), some (vI x3)] [] (MM t S) (f12_one_h76 N n x2 x3 S) := by
  intro n
  induction n with
  | zero => intro x2 x3 S; exact J_none
  | succ n ih =>
    intro x2 x3 S
    rw [f12_one_h76]
    refine J_iload_n dX12_one_76 rfl rfl ?_
    refine J_iconst (v := nI 3) dX12_one_77 (by decide) ?_
    refine J_icmp_ge (tgt := 128) dX12_one_78 (by decide) (fun z1 => ?_) (fun z1 => ?_)
    · exact J_sb (t12_one_j128 G t N x2 x3 S) (And.intro rfl (And.intro rfl (And.intro rfl (trivial))))
    · refine J_aload_n dX12_one_81 rfl rfl ?_
      refine K_callV_i (As := []) mcX12_byteAt mlX12_228 rfl (by decide) (sq 146 rfl) (ct12_byteAt G t S) rfl rfl (Nat.le_of_ble_eq_true rfl) (by decide) (Nat.le_of_ble_eq_true rfl) dX12_one_82 (fun q2 S3 => ?_)
      refine J_bipush (v := nI 48) dX12_one_85 (by decide) ?_
      refine J_icmp_lt (tgt := 128) dX12_one_87 (by decide) (fun z4 => ?_) (fun z4 => ?_)
      · exact J_sb (t12_one_j128 G t N x2 x3 S3) (And.intro rfl (And.intro rfl (And.intro rfl (trivial))))
      · refine J_aload_n dX12_one_90 rfl rfl ?_
        refine K_callV_i (As := []) mcX12_byteAt mlX12_228 rfl (by decide) (sq 146 rfl) (ct12_byteAt G t S3) rfl rfl (Nat.le_of_ble_eq_true rfl) (by decide) (Nat.le_of_ble_eq_true rfl) dX12_one_91 (fun q5 S6 => ?_)
        refine J_bipush (v := nI 57) dX12_one_94 (by decide) ?_
        refine J_icmp_gt (tgt := 128) dX12_one_96 (by decide) (fun z7 => ?_) (fun z7 => ?_)
        · exact J_sb (t12_one_j128 G t N x2 x3 S6) (And.intro rfl (And.intro rfl (And.intro rfl (trivial))))
        · refine J_bipush (v := nI 10) dX12_one_99 (by decide) ?_
          refine J_iload_n dX12_one_101 rfl rfl ?_
          refine J_imul dX12_one_102 ?_
          refine J_aload_n dX12_one_103 rfl rfl ?_
          refine K_callV_i (As := []) mcX12_byteAt mlX12_228 rfl (by decide) (sq 146 rfl) (ct12_byteAt G t S6) rfl rfl (Nat.le_of_ble_eq_true rfl) (by decide) (Nat.le_of_ble_eq_true rfl) dX12_one_104 (fun q8 S9 => ?_)
          refine J_iadd dX12_one_107 ?_
          refine J_bipush (v := nI 48) dX12_one_108 (by decide) ?_
          refine J_isub dX12_one_110 ?_
          refine J_ltI (fun v10 _ => ?_)
          refine J_istore_n [some (vR (some 146)), none, some (vI v10), some (vI x3)] dX12_one_111 rfl (Nat.le_of_ble_eq_true rfl) rfl rfl ?_
          refine J_iinc (v := x3 + nI 1) [some (vR (some 146)), none, some (vI v10), some (vI (x3 + nI 1))] dX12_one_112 rfl rfl (Nat.le_of_ble_eq_true rfl) rfl rfl ?_
          refine J_aload_n dX12_one_115 rfl rfl ?_
          refine J_dup dX12_one_116 rfl ?_
          refine K_getI cf12 flX12_216 (sq 146 rfl) (Or.inl rfl) dX12_one_117 ?_
          refine J_iconst (v := nI 1) dX12_one_120 (by decide) ?_
          refine J_iadd dX12_one_121 ?_
          refine K_putI cf12 flX12_216 (sq 146 rfl) rfl dX12_one_122 ?_
          refine J_ltS (fun S11 _ => ?_)
          refine J_goto (tgt := 76) dX12_one_125 (by decide) ?_
          exact J_sb (ih v10 (x3 + nI 1) S11) (And.intro rfl (And.intro rfl (And.intro rfl (trivial))))
set_option maxRecDepth 100000 in
set_option maxHeartbeats 4000000 in
theorem ct12_one (G : Gm) (t : Nat) (N : Nat)   (S : St) : Ct G YX12_one yX12_one 2 0 0 (fI t) (f12_one N S) [vR (some 146)] (MM t S) := by
  refine Ct_of_J [some (vR (some 146)), none, none, none] (by decide) rfl (fun h => by cases h) (Nat.le_of_ble_eq_true rfl) (And.intro rfl (trivial)) ?_
  unfold f12_one
  refine J_aload_n dX12_one_0 rfl rfl ?_
  refine K_getI cf12 flX12_225 (sq 146 rfl) (Or.inl rfl) dX12_one_1 ?_
  refine J_if_lt (tgt := 9) dX12_one_4 (by decide) (fun z1 => ?_) (fun z1 => ?_)
  · refine J_aload_n dX12_one_9 rfl rfl ?_
    refine K_callV_i (As := []) mcX12_byteAt mlX12_228 rfl (by decide) (sq 146 rfl) (ct12_byteAt G t S) rfl rfl (Nat.le_of_ble_eq_true rfl) (by decide) (Nat.le_of_ble_eq_true rfl) dX12_one_10 (fun q2 S3 => ?_)
    refine J_istore_n [some (vR (some 146)), some (vI q2), none, none] dX12_one_13 rfl (Nat.le_of_ble_eq_true rfl) rfl rfl ?_
    refine J_iload_n dX12_one_14 rfl rfl ?_
    refine J_bipush (v := nI 110) dX12_one_15 (by decide) ?_
    refine J_icmp_eq (tgt := 56) dX12_one_17 (by decide) (fun z4 => ?_) (fun z4 => ?_)
    · exact J_sb (t12_one_j56 G t N q2 S3) (And.intro rfl (And.intro rfl (trivial)))
    · refine J_iload_n dX12_one_20 rfl rfl ?_
      refine J_bipush (v := nI 102) dX12_one_21 (by decide) ?_
      refine J_icmp_eq (tgt := 56) dX12_one_23 (by decide) (fun z5 => ?_) (fun z5 => ?_)
      · exact J_sb (t12_one_j56 G t N q2 S3) (And.intro rfl (And.intro rfl (trivial)))
      · refine J_iload_n dX12_one_26 rfl rfl ?_
        refine J_bipush (v := nI 108) dX12_one_27 (by decide) ?_
        refine J_icmp_eq (tgt := 56) dX12_one_29 (by decide) (fun z6 => ?_) (fun z6 => ?_)
        · exact J_sb (t12_one_j56 G t N q2 S3) (And.intro rfl (And.intro rfl (trivial)))
        · refine J_iload_n dX12_one_32 rfl rfl ?_
          refine J_bipush (v := nI 109) dX12_one_33 (by decide) ?_
          refine J_icmp_eq (tgt := 56) dX12_one_35 (by decide) (fun z7 => ?_) (fun z7 => ?_)
          · exact J_sb (t12_one_j56 G t N q2 S3) (And.intro rfl (And.intro rfl (trivial)))
          · refine J_iload_n dX12_one_38 rfl rfl ?_
            refine J_bipush (v := nI 120) dX12_one_39 (by decide) ?_
            refine J_icmp_eq (tgt := 56) dX12_one_41 (by decide) (fun z8 => ?_) (fun z8 => ?_)
            · exact J_sb (t12_one_j56 G t N q2 S3) (And.intro rfl (And.intro rfl (trivial)))
            · refine J_iload_n dX12_one_44 rfl rfl ?_
              refine J_bipush (v := nI 97) dX12_one_45 (by decide) ?_
              refine J_icmp_eq (tgt := 56) dX12_one_47 (by decide) (fun z9 => ?_) (fun z9 => ?_)
              · exact J_sb (t12_one_j56 G t N q2 S3) (And.intro rfl (And.intro rfl (trivial)))
              · refine J_iload_n dX12_one_50 rfl rfl ?_
                refine J_bipush (v := nI 98) dX12_one_51 (by decide) ?_
                refine J_icmp_ne (tgt := 72) dX12_one_53 (by decide) (fun z10 => ?_) (fun z10 => ?_)
                · exact J_sb (t12_one_j56 G t N q2 S3) (And.intro rfl (And.intro rfl (trivial)))
                · refine J_iconst (v := nI 0) dX12_one_72 (by decide) ?_
                  refine J_istore_n [some (vR (some 146)), some (vI q2), some (vI (nI 0)), none] dX12_one_73 rfl (Nat.le_of_ble_eq_true rfl) rfl rfl ?_
                  refine J_iconst (v := nI 0) dX12_one_74 (by decide) ?_
                  refine J_istore_n [some (vR (some 146)), some (vI q2), some (vI (nI 0)), some (vI (nI 0))] dX12_one_75 rfl (Nat.le_of_ble_eq_true rfl) rfl rfl ?_
                  exact J_sb (t12_one_h76 G t N N (nI 0) (nI 0) S3) (And.intro rfl (And.intro rfl (And.intro rfl (trivial))))
  · refine J_iconst (v := nI 0) dX12_one_7 (by decide) ?_
    exact J_ireturn rfl (Nat.le_refl _) (Nat.le_refl _) rfl dX12_one_8
theorem dX12_product_0 : decode cX12_product 0 = .ok (.aload_n 0, 1) := by decide +kernel
theorem dX12_product_1 : decode cX12_product 1 = .ok (.invokevirtual 255, 3) := by decide +kernel
theorem dX12_product_4 : decode cX12_product 4 = .ok (.istore_n 1, 1) := by decide +kernel
theorem dX12_product_5 : decode cX12_product 5 = .ok (.aload_n 0, 1) := by decide +kernel
theorem dX12_product_6 : decode cX12_product 6 = .ok (.getfield 225, 3) := by decide +kernel
theorem dX12_product_9 : decode cX12_product 9 = .ok (.ifCond .ge 76, 3) := by decide +kernel
theorem dX12_product_12 : decode cX12_product 12 = .ok (.aload_n 0, 1) := by decide +kernel
theorem dX12_product_13 : decode cX12_product 13 = .ok (.invokevirtual 228, 3) := by decide +kernel
theorem dX12_product_16 : decode cX12_product 16 = .ok (.bipush 42, 2) := by decide +kernel
theorem dX12_product_18 : decode cX12_product 18 = .ok (.if_icmp .eq 12, 3) := by decide +kernel
theorem dX12_product_21 : decode cX12_product 21 = .ok (.aload_n 0, 1) := by decide +kernel
theorem dX12_product_22 : decode cX12_product 22 = .ok (.invokevirtual 228, 3) := by decide +kernel
theorem dX12_product_25 : decode cX12_product 25 = .ok (.bipush 37, 2) := by decide +kernel
theorem dX12_product_27 : decode cX12_product 27 = .ok (.if_icmp .ne 58, 3) := by decide +kernel
theorem dX12_product_30 : decode cX12_product 30 = .ok (.aload_n 0, 1) := by decide +kernel
theorem dX12_product_31 : decode cX12_product 31 = .ok (.invokevirtual 228, 3) := by decide +kernel
theorem dX12_product_34 : decode cX12_product 34 = .ok (.bipush 42, 2) := by decide +kernel
theorem dX12_product_36 : decode cX12_product 36 = .ok (.if_icmp .ne 7, 3) := by decide +kernel
theorem dX12_product_39 : decode cX12_product 39 = .ok (.iconst 1, 1) := by decide +kernel
theorem dX12_product_40 : decode cX12_product 40 = .ok (.goto 4, 3) := by decide +kernel
theorem dX12_product_43 : decode cX12_product 43 = .ok (.iconst 0, 1) := by decide +kernel
theorem dX12_product_44 : decode cX12_product 44 = .ok (.istore_n 2, 1) := by decide +kernel
theorem dX12_product_45 : decode cX12_product 45 = .ok (.aload_n 0, 1) := by decide +kernel
theorem dX12_product_46 : decode cX12_product 46 = .ok (.dup, 1) := by decide +kernel
theorem dX12_product_47 : decode cX12_product 47 = .ok (.getfield 216, 3) := by decide +kernel
theorem dX12_product_50 : decode cX12_product 50 = .ok (.iconst 1, 1) := by decide +kernel
theorem dX12_product_51 : decode cX12_product 51 = .ok (.iadd, 1) := by decide +kernel
theorem dX12_product_52 : decode cX12_product 52 = .ok (.putfield 216, 3) := by decide +kernel
theorem dX12_product_55 : decode cX12_product 55 = .ok (.aload_n 0, 1) := by decide +kernel
theorem dX12_product_56 : decode cX12_product 56 = .ok (.invokevirtual 255, 3) := by decide +kernel
theorem dX12_product_59 : decode cX12_product 59 = .ok (.istore_n 3, 1) := by decide +kernel
theorem dX12_product_60 : decode cX12_product 60 = .ok (.iload_n 2, 1) := by decide +kernel
theorem dX12_product_61 : decode cX12_product 61 = .ok (.ifCond .eq 9, 3) := by decide +kernel
theorem dX12_product_64 : decode cX12_product 64 = .ok (.iload_n 1, 1) := by decide +kernel
theorem dX12_product_65 : decode cX12_product 65 = .ok (.iload_n 3, 1) := by decide +kernel
theorem dX12_product_66 : decode cX12_product 66 = .ok (.imul, 1) := by decide +kernel
theorem dX12_product_67 : decode cX12_product 67 = .ok (.goto 14, 3) := by decide +kernel
theorem dX12_product_70 : decode cX12_product 70 = .ok (.iload_n 3, 1) := by decide +kernel
theorem dX12_product_71 : decode cX12_product 71 = .ok (.ifCond .ne 7, 3) := by decide +kernel
theorem dX12_product_74 : decode cX12_product 74 = .ok (.iconst 0, 1) := by decide +kernel
theorem dX12_product_75 : decode cX12_product 75 = .ok (.goto 6, 3) := by decide +kernel
theorem dX12_product_78 : decode cX12_product 78 = .ok (.iload_n 1, 1) := by decide +kernel
theorem dX12_product_79 : decode cX12_product 79 = .ok (.iload_n 3, 1) := by decide +kernel
theorem dX12_product_80 : decode cX12_product 80 = .ok (.irem, 1) := by decide +kernel
theorem dX12_product_81 : decode cX12_product 81 = .ok (.istore_n 1, 1) := by decide +kernel
theorem dX12_product_82 : decode cX12_product 82 = .ok (.goto (-77), 3) := by decide +kernel
theorem dX12_product_85 : decode cX12_product 85 = .ok (.iload_n 1, 1) := by decide +kernel
theorem dX12_product_86 : decode cX12_product 86 = .ok (.ireturn, 1) := by decide +kernel
set_option maxRecDepth 100000 in
set_option maxHeartbeats 4000000 in
theorem t12_product_j81 (G : Gm) (t : Nat) (N : Nat)   (k5 : Int32 → St → Option (Int32 × St)) (hk5 : ∀ (yx1 : Int32) (S : St), J G YX12_product 3 0 0 (fI t) 0 0 5 [some (vR (some 146)), some (vI yx1), none, none] [] (MM t S) (k5 yx1 S)) : ∀ (xs0 : Int32) (S : St), J G YX12_product 3 0 0 (fI t) 0 0 81 [some (vR (some 146)), none, none, none] [vI xs0] (MM t S) (f12_product_j81 N k5 xs0 S) := by
  intro xs0 S
  unfold f12_product_j81
  refine J_istore_n [some (vR (some 146)), some (vI xs0), none, none] dX12_product_81 rfl (Nat.le_of_ble_eq_true rfl) rfl rfl ?_
  refine J_goto (tgt := 5) dX12_product_82 (by decide) ?_
  exact J_sb (hk5 xs0 S) (And.intro rfl (And.intro rfl (trivial)))
set_option maxRecDepth 100000 in
set_option maxHeartbeats 4000000 in
theorem t12_product_j44 (G : Gm) (t : Nat) (N : Nat) (x1 : Int32)  (k5 : Int32 → St → Option (Int32 × St)) (hk5 : ∀ (yx1 : Int32) (S : St), J G YX12_product 3 0 0 (fI t) 0 0 5 [some (vR (some 146)), some (vI yx1), none, none] [] (MM t S) (k5 yx1 S)) : ∀ (xs0 : Int32) (S : St), J G YX12_product 3 0 0 (fI t) 0 0 44 [some (vR (some 146)), some (vI x1), none, none] [vI xs0] (MM t S) (f12_product_j44 N x1 k5 xs0 S) := by
  intro xs0 S
  unfold f12_product_j44
  refine J_istore_n [some (vR (some 146)), some (vI x1), some (vI xs0), none] dX12_product_44 rfl (Nat.le_of_ble_eq_true rfl) rfl rfl ?_
  refine J_aload_n dX12_product_45 rfl rfl ?_
  refine J_dup dX12_product_46 rfl ?_
  refine K_getI cf12 flX12_216 (sq 146 rfl) (Or.inl rfl) dX12_product_47 ?_
  refine J_iconst (v := nI 1) dX12_product_50 (by decide) ?_
  refine J_iadd dX12_product_51 ?_
  refine K_putI cf12 flX12_216 (sq 146 rfl) rfl dX12_product_52 ?_
  refine J_ltS (fun S1 _ => ?_)
  refine J_aload_n dX12_product_55 rfl rfl ?_
  refine K_callV_i (As := []) mcX12_one mlX12_255 rfl (by decide) (sq 146 rfl) (ct12_one G t N S1) rfl rfl (Nat.le_of_ble_eq_true rfl) (by decide) (Nat.le_of_ble_eq_true rfl) dX12_product_56 (fun q2 S3 => ?_)
  refine J_istore_n [some (vR (some 146)), some (vI x1), some (vI xs0), some (vI q2)] dX12_product_59 rfl (Nat.le_of_ble_eq_true rfl) rfl rfl ?_
  refine J_iload_n dX12_product_60 rfl rfl ?_
  refine J_if_eq (tgt := 70) dX12_product_61 (by decide) (fun z4 => ?_) (fun z4 => ?_)
  · refine J_iload_n dX12_product_70 rfl rfl ?_
    refine J_if_ne (tgt := 78) dX12_product_71 (by decide) (fun z5 => ?_) (fun z5 => ?_)
    · refine J_iconst (v := nI 0) dX12_product_74 (by decide) ?_
      refine J_goto (tgt := 81) dX12_product_75 (by decide) ?_
      exact J_sb (t12_product_j81 G t N k5 hk5 (nI 0) S3) (And.intro rfl (trivial))
    · refine J_iload_n dX12_product_78 rfl rfl ?_
      refine J_iload_n dX12_product_79 rfl rfl ?_
      refine J_iremZ dX12_product_80 ?_
      exact J_sb (t12_product_j81 G t N k5 hk5 (remI x1 q2) S3) (And.intro rfl (trivial))
  · refine J_iload_n dX12_product_64 rfl rfl ?_
    refine J_iload_n dX12_product_65 rfl rfl ?_
    refine J_imul dX12_product_66 ?_
    refine J_goto (tgt := 81) dX12_product_67 (by decide) ?_
    exact J_sb (t12_product_j81 G t N k5 hk5 (x1 * q2) S3) (And.intro rfl (trivial))
set_option maxRecDepth 100000 in
set_option maxHeartbeats 4000000 in
theorem t12_product_j30 (G : Gm) (t : Nat) (N : Nat) (x1 : Int32)  (k5 : Int32 → St → Option (Int32 × St)) (hk5 : ∀ (yx1 : Int32) (S : St), J G YX12_product 3 0 0 (fI t) 0 0 5 [some (vR (some 146)), some (vI yx1), none, none] [] (MM t S) (k5 yx1 S)) : ∀  (S : St), J G YX12_product 3 0 0 (fI t) 0 0 30 [some (vR (some 146)), some (vI x1), none, none] [] (MM t S) (f12_product_j30 N x1 k5 S) := by
  intro S
  unfold f12_product_j30
  refine J_aload_n dX12_product_30 rfl rfl ?_
  refine K_callV_i (As := []) mcX12_byteAt mlX12_228 rfl (by decide) (sq 146 rfl) (ct12_byteAt G t S) rfl rfl (Nat.le_of_ble_eq_true rfl) (by decide) (Nat.le_of_ble_eq_true rfl) dX12_product_31 (fun q1 S2 => ?_)
  refine J_bipush (v := nI 42) dX12_product_34 (by decide) ?_
  refine J_icmp_ne (tgt := 43) dX12_product_36 (by decide) (fun z3 => ?_) (fun z3 => ?_)
  · refine J_iconst (v := nI 1) dX12_product_39 (by decide) ?_
    refine J_goto (tgt := 44) dX12_product_40 (by decide) ?_
    exact J_sb (t12_product_j44 G t N x1 k5 hk5 (nI 1) S2) (And.intro rfl (And.intro rfl (trivial)))
  · refine J_iconst (v := nI 0) dX12_product_43 (by decide) ?_
    exact J_sb (t12_product_j44 G t N x1 k5 hk5 (nI 0) S2) (And.intro rfl (And.intro rfl (trivial)))
set_option maxRecDepth 100000 in
set_option maxHeartbeats 4000000 in
theorem t12_product_h5 (G : Gm) (t : Nat) (N : Nat)     : ∀ (n : Nat) (x1 : Int32) (S : St), J G YX12_product 3 0 0 (fI t) 0 0 5 [some (vR (some 146)), some (vI x1), none, none] [] (MM t S) (f12_product_h5 N n x1 S) := by
  intro n
  induction n with
  | zero => intro x1 S; exact J_none
  | succ n ih =>
    intro x1 S
    rw [f12_product_h5]
    refine J_aload_n dX12_product_5 rfl rfl ?_
    refine K_getI cf12 flX12_225 (sq 146 rfl) (Or.inl rfl) dX12_product_6 ?_
    refine J_if_ge (tgt := 85) dX12_product_9 (by decide) (fun z1 => ?_) (fun z1 => ?_)
    · refine J_iload_n dX12_product_85 rfl rfl ?_
      exact J_ireturn rfl (Nat.le_refl _) (Nat.le_refl _) rfl dX12_product_86
    · refine J_aload_n dX12_product_12 rfl rfl ?_
      refine K_callV_i (As := []) mcX12_byteAt mlX12_228 rfl (by decide) (sq 146 rfl) (ct12_byteAt G t S) rfl rfl (Nat.le_of_ble_eq_true rfl) (by decide) (Nat.le_of_ble_eq_true rfl) dX12_product_13 (fun q2 S3 => ?_)
      refine J_bipush (v := nI 42) dX12_product_16 (by decide) ?_
      refine J_icmp_eq (tgt := 30) dX12_product_18 (by decide) (fun z4 => ?_) (fun z4 => ?_)
      · exact J_sb (t12_product_j30 G t N x1 (f12_product_h5 N n) ih S3) (And.intro rfl (And.intro rfl (trivial)))
      · refine J_aload_n dX12_product_21 rfl rfl ?_
        refine K_callV_i (As := []) mcX12_byteAt mlX12_228 rfl (by decide) (sq 146 rfl) (ct12_byteAt G t S3) rfl rfl (Nat.le_of_ble_eq_true rfl) (by decide) (Nat.le_of_ble_eq_true rfl) dX12_product_22 (fun q5 S6 => ?_)
        refine J_bipush (v := nI 37) dX12_product_25 (by decide) ?_
        refine J_icmp_ne (tgt := 85) dX12_product_27 (by decide) (fun z7 => ?_) (fun z7 => ?_)
        · exact J_sb (t12_product_j30 G t N x1 (f12_product_h5 N n) ih S6) (And.intro rfl (And.intro rfl (trivial)))
        · refine J_iload_n dX12_product_85 rfl rfl ?_
          exact J_ireturn rfl (Nat.le_refl _) (Nat.le_refl _) rfl dX12_product_86
set_option maxRecDepth 100000 in
set_option maxHeartbeats 4000000 in
theorem ct12_product (G : Gm) (t : Nat) (N : Nat)   (S : St) : Ct G YX12_product yX12_product 3 0 0 (fI t) (f12_product N S) [vR (some 146)] (MM t S) := by
  refine Ct_of_J [some (vR (some 146)), none, none, none] (by decide) rfl (fun h => by cases h) (Nat.le_of_ble_eq_true rfl) (And.intro rfl (trivial)) ?_
  unfold f12_product
  refine J_aload_n dX12_product_0 rfl rfl ?_
  refine K_callV_i (As := []) mcX12_one mlX12_255 rfl (by decide) (sq 146 rfl) (ct12_one G t N S) rfl rfl (Nat.le_of_ble_eq_true rfl) (by decide) (Nat.le_of_ble_eq_true rfl) dX12_product_1 (fun q1 S2 => ?_)
  refine J_istore_n [some (vR (some 146)), some (vI q1), none, none] dX12_product_4 rfl (Nat.le_of_ble_eq_true rfl) rfl rfl ?_
  exact J_sb (t12_product_h5 G t N N q1 S2) (And.intro rfl (And.intro rfl (trivial)))
theorem dX12_sums_0 : decode cX12_sums 0 = .ok (.aload_n 0, 1) := by decide +kernel
theorem dX12_sums_1 : decode cX12_sums 1 = .ok (.invokevirtual 252, 3) := by decide +kernel
theorem dX12_sums_4 : decode cX12_sums 4 = .ok (.istore_n 1, 1) := by decide +kernel
theorem dX12_sums_5 : decode cX12_sums 5 = .ok (.aload_n 0, 1) := by decide +kernel
theorem dX12_sums_6 : decode cX12_sums 6 = .ok (.getfield 225, 3) := by decide +kernel
theorem dX12_sums_9 : decode cX12_sums 9 = .ok (.ifCond .ge 68, 3) := by decide +kernel
theorem dX12_sums_12 : decode cX12_sums 12 = .ok (.aload_n 0, 1) := by decide +kernel
theorem dX12_sums_13 : decode cX12_sums 13 = .ok (.invokevirtual 228, 3) := by decide +kernel
theorem dX12_sums_16 : decode cX12_sums 16 = .ok (.bipush 43, 2) := by decide +kernel
theorem dX12_sums_18 : decode cX12_sums 18 = .ok (.if_icmp .eq 12, 3) := by decide +kernel
theorem dX12_sums_21 : decode cX12_sums 21 = .ok (.aload_n 0, 1) := by decide +kernel
theorem dX12_sums_22 : decode cX12_sums 22 = .ok (.invokevirtual 228, 3) := by decide +kernel
theorem dX12_sums_25 : decode cX12_sums 25 = .ok (.bipush 45, 2) := by decide +kernel
theorem dX12_sums_27 : decode cX12_sums 27 = .ok (.if_icmp .ne 50, 3) := by decide +kernel
theorem dX12_sums_30 : decode cX12_sums 30 = .ok (.aload_n 0, 1) := by decide +kernel
theorem dX12_sums_31 : decode cX12_sums 31 = .ok (.invokevirtual 228, 3) := by decide +kernel
theorem dX12_sums_34 : decode cX12_sums 34 = .ok (.bipush 43, 2) := by decide +kernel
theorem dX12_sums_36 : decode cX12_sums 36 = .ok (.if_icmp .ne 7, 3) := by decide +kernel
theorem dX12_sums_39 : decode cX12_sums 39 = .ok (.iconst 1, 1) := by decide +kernel
theorem dX12_sums_40 : decode cX12_sums 40 = .ok (.goto 4, 3) := by decide +kernel
theorem dX12_sums_43 : decode cX12_sums 43 = .ok (.iconst 0, 1) := by decide +kernel
theorem dX12_sums_44 : decode cX12_sums 44 = .ok (.istore_n 2, 1) := by decide +kernel
theorem dX12_sums_45 : decode cX12_sums 45 = .ok (.aload_n 0, 1) := by decide +kernel
theorem dX12_sums_46 : decode cX12_sums 46 = .ok (.dup, 1) := by decide +kernel
theorem dX12_sums_47 : decode cX12_sums 47 = .ok (.getfield 216, 3) := by decide +kernel
theorem dX12_sums_50 : decode cX12_sums 50 = .ok (.iconst 1, 1) := by decide +kernel
theorem dX12_sums_51 : decode cX12_sums 51 = .ok (.iadd, 1) := by decide +kernel
theorem dX12_sums_52 : decode cX12_sums 52 = .ok (.putfield 216, 3) := by decide +kernel
theorem dX12_sums_55 : decode cX12_sums 55 = .ok (.aload_n 0, 1) := by decide +kernel
theorem dX12_sums_56 : decode cX12_sums 56 = .ok (.invokevirtual 252, 3) := by decide +kernel
theorem dX12_sums_59 : decode cX12_sums 59 = .ok (.istore_n 3, 1) := by decide +kernel
theorem dX12_sums_60 : decode cX12_sums 60 = .ok (.iload_n 2, 1) := by decide +kernel
theorem dX12_sums_61 : decode cX12_sums 61 = .ok (.ifCond .eq 9, 3) := by decide +kernel
theorem dX12_sums_64 : decode cX12_sums 64 = .ok (.iload_n 1, 1) := by decide +kernel
theorem dX12_sums_65 : decode cX12_sums 65 = .ok (.iload_n 3, 1) := by decide +kernel
theorem dX12_sums_66 : decode cX12_sums 66 = .ok (.iadd, 1) := by decide +kernel
theorem dX12_sums_67 : decode cX12_sums 67 = .ok (.goto 6, 3) := by decide +kernel
theorem dX12_sums_70 : decode cX12_sums 70 = .ok (.iload_n 1, 1) := by decide +kernel
theorem dX12_sums_71 : decode cX12_sums 71 = .ok (.iload_n 3, 1) := by decide +kernel
theorem dX12_sums_72 : decode cX12_sums 72 = .ok (.isub, 1) := by decide +kernel
theorem dX12_sums_73 : decode cX12_sums 73 = .ok (.istore_n 1, 1) := by decide +kernel
theorem dX12_sums_74 : decode cX12_sums 74 = .ok (.goto (-69), 3) := by decide +kernel
theorem dX12_sums_77 : decode cX12_sums 77 = .ok (.iload_n 1, 1) := by decide +kernel
theorem dX12_sums_78 : decode cX12_sums 78 = .ok (.ireturn, 1) := by decide +kernel
set_option maxRecDepth 100000 in
set_option maxHeartbeats 4000000 in
theorem t12_sums_j73 (G : Gm) (t : Nat) (N : Nat)   (k5 : Int32 → St → Option (Int32 × St)) (hk5 : ∀ (yx1 : Int32) (S : St), J G YX12_sums 4 0 0 (fI t) 0 0 5 [some (vR (some 146)), some (vI yx1), none, none] [] (MM t S) (k5 yx1 S)) : ∀ (xs0 : Int32) (S : St), J G YX12_sums 4 0 0 (fI t) 0 0 73 [some (vR (some 146)), none, none, none] [vI xs0] (MM t S) (f12_sums_j73 N k5 xs0 S) := by
  intro xs0 S
  unfold f12_sums_j73
  refine J_istore_n [some (vR (some 146)), some (vI xs0), none, none] dX12_sums_73 rfl (Nat.le_of_ble_eq_true rfl) rfl rfl ?_
  refine J_goto (tgt := 5) dX12_sums_74 (by decide) ?_
  exact J_sb (hk5 xs0 S) (And.intro rfl (And.intro rfl (trivial)))
set_option maxRecDepth 100000 in
set_option maxHeartbeats 4000000 in
theorem t12_sums_j44 (G : Gm) (t : Nat) (N : Nat) (x1 : Int32)  (k5 : Int32 → St → Option (Int32 × St)) (hk5 : ∀ (yx1 : Int32) (S : St), J G YX12_sums 4 0 0 (fI t) 0 0 5 [some (vR (some 146)), some (vI yx1), none, none] [] (MM t S) (k5 yx1 S)) : ∀ (xs0 : Int32) (S : St), J G YX12_sums 4 0 0 (fI t) 0 0 44 [some (vR (some 146)), some (vI x1), none, none] [vI xs0] (MM t S) (f12_sums_j44 N x1 k5 xs0 S) := by
  intro xs0 S
  unfold f12_sums_j44
  refine J_istore_n [some (vR (some 146)), some (vI x1), some (vI xs0), none] dX12_sums_44 rfl (Nat.le_of_ble_eq_true rfl) rfl rfl ?_
  refine J_aload_n dX12_sums_45 rfl rfl ?_
  refine J_dup dX12_sums_46 rfl ?_
  refine K_getI cf12 flX12_216 (sq 146 rfl) (Or.inl rfl) dX12_sums_47 ?_
  refine J_iconst (v := nI 1) dX12_sums_50 (by decide) ?_
  refine J_iadd dX12_sums_51 ?_
  refine K_putI cf12 flX12_216 (sq 146 rfl) rfl dX12_sums_52 ?_
  refine J_ltS (fun S1 _ => ?_)
  refine J_aload_n dX12_sums_55 rfl rfl ?_
  refine K_callV_i (As := []) mcX12_product mlX12_252 rfl (by decide) (sq 146 rfl) (ct12_product G t N S1) rfl rfl (Nat.le_of_ble_eq_true rfl) (by decide) (Nat.le_of_ble_eq_true rfl) dX12_sums_56 (fun q2 S3 => ?_)
  refine J_istore_n [some (vR (some 146)), some (vI x1), some (vI xs0), some (vI q2)] dX12_sums_59 rfl (Nat.le_of_ble_eq_true rfl) rfl rfl ?_
  refine J_iload_n dX12_sums_60 rfl rfl ?_
  refine J_if_eq (tgt := 70) dX12_sums_61 (by decide) (fun z4 => ?_) (fun z4 => ?_)
  · refine J_iload_n dX12_sums_70 rfl rfl ?_
    refine J_iload_n dX12_sums_71 rfl rfl ?_
    refine J_isub dX12_sums_72 ?_
    exact J_sb (t12_sums_j73 G t N k5 hk5 (x1 - q2) S3) (And.intro rfl (trivial))
  · refine J_iload_n dX12_sums_64 rfl rfl ?_
    refine J_iload_n dX12_sums_65 rfl rfl ?_
    refine J_iadd dX12_sums_66 ?_
    refine J_goto (tgt := 73) dX12_sums_67 (by decide) ?_
    exact J_sb (t12_sums_j73 G t N k5 hk5 (x1 + q2) S3) (And.intro rfl (trivial))
set_option maxRecDepth 100000 in
set_option maxHeartbeats 4000000 in
theorem t12_sums_j30 (G : Gm) (t : Nat) (N : Nat) (x1 : Int32)  (k5 : Int32 → St → Option (Int32 × St)) (hk5 : ∀ (yx1 : Int32) (S : St), J G YX12_sums 4 0 0 (fI t) 0 0 5 [some (vR (some 146)), some (vI yx1), none, none] [] (MM t S) (k5 yx1 S)) : ∀  (S : St), J G YX12_sums 4 0 0 (fI t) 0 0 30 [some (vR (some 146)), some (vI x1), none, none] [] (MM t S) (f12_sums_j30 N x1 k5 S) := by
  intro S
  unfold f12_sums_j30
  refine J_aload_n dX12_sums_30 rfl rfl ?_
  refine K_callV_i (As := []) mcX12_byteAt mlX12_228 rfl (by decide) (sq 146 rfl) (ct12_byteAt G t S) rfl rfl (Nat.le_of_ble_eq_true rfl) (by decide) (Nat.le_of_ble_eq_true rfl) dX12_sums_31 (fun q1 S2 => ?_)
  refine J_bipush (v := nI 43) dX12_sums_34 (by decide) ?_
  refine J_icmp_ne (tgt := 43) dX12_sums_36 (by decide) (fun z3 => ?_) (fun z3 => ?_)
  · refine J_iconst (v := nI 1) dX12_sums_39 (by decide) ?_
    refine J_goto (tgt := 44) dX12_sums_40 (by decide) ?_
    exact J_sb (t12_sums_j44 G t N x1 k5 hk5 (nI 1) S2) (And.intro rfl (And.intro rfl (trivial)))
  · refine J_iconst (v := nI 0) dX12_sums_43 (by decide) ?_
    exact J_sb (t12_sums_j44 G t N x1 k5 hk5 (nI 0) S2) (And.intro rfl (And.intro rfl (trivial)))
set_option maxRecDepth 100000 in
set_option maxHeartbeats 4000000 in
theorem t12_sums_h5 (G : Gm) (t : Nat) (N : Nat)     : ∀ (n : Nat) (x1 : Int32) (S : St), J G YX12_sums 4 0 0 (fI t) 0 0 5 [some (vR (some 146)), some (vI x1), none, none] [] (MM t S) (f12_sums_h5 N n x1 S) := by
  intro n
  induction n with
  | zero => intro x1 S; exact J_none
  | succ n ih =>
    intro x1 S
    rw [f12_sums_h5]
    refine J_aload_n dX12_sums_5 rfl rfl ?_
    refine K_getI cf12 flX12_225 (sq 146 rfl) (Or.inl rfl) dX12_sums_6 ?_
    refine J_if_ge (tgt := 77) dX12_sums_9 (by decide) (fun z1 => ?_) (fun z1 => ?_)
    · refine J_iload_n dX12_sums_77 rfl rfl ?_
      exact J_ireturn rfl (Nat.le_refl _) (Nat.le_refl _) rfl dX12_sums_78
    · refine J_aload_n dX12_sums_12 rfl rfl ?_
      refine K_callV_i (As := []) mcX12_byteAt mlX12_228 rfl (by decide) (sq 146 rfl) (ct12_byteAt G t S) rfl rfl (Nat.le_of_ble_eq_true rfl) (by decide) (Nat.le_of_ble_eq_true rfl) dX12_sums_13 (fun q2 S3 => ?_)
      refine J_bipush (v := nI 43) dX12_sums_16 (by decide) ?_
      refine J_icmp_eq (tgt := 30) dX12_sums_18 (by decide) (fun z4 => ?_) (fun z4 => ?_)
      · exact J_sb (t12_sums_j30 G t N x1 (f12_sums_h5 N n) ih S3) (And.intro rfl (And.intro rfl (trivial)))
      · refine J_aload_n dX12_sums_21 rfl rfl ?_
        refine K_callV_i (As := []) mcX12_byteAt mlX12_228 rfl (by decide) (sq 146 rfl) (ct12_byteAt G t S3) rfl rfl (Nat.le_of_ble_eq_true rfl) (by decide) (Nat.le_of_ble_eq_true rfl) dX12_sums_22 (fun q5 S6 => ?_)
        refine J_bipush (v := nI 45) dX12_sums_25 (by decide) ?_
        refine J_icmp_ne (tgt := 77) dX12_sums_27 (by decide) (fun z7 => ?_) (fun z7 => ?_)
        · exact J_sb (t12_sums_j30 G t N x1 (f12_sums_h5 N n) ih S6) (And.intro rfl (And.intro rfl (trivial)))
        · refine J_iload_n dX12_sums_77 rfl rfl ?_
          exact J_ireturn rfl (Nat.le_refl _) (Nat.le_refl _) rfl dX12_sums_78
set_option maxRecDepth 100000 in
set_option maxHeartbeats 4000000 in
theorem ct12_sums (G : Gm) (t : Nat) (N : Nat)   (S : St) : Ct G YX12_sums yX12_sums 4 0 0 (fI t) (f12_sums N S) [vR (some 146)] (MM t S) := by
  refine Ct_of_J [some (vR (some 146)), none, none, none] (by decide) rfl (fun h => by cases h) (Nat.le_of_ble_eq_true rfl) (And.intro rfl (trivial)) ?_
  unfold f12_sums
  refine J_aload_n dX12_sums_0 rfl rfl ?_
  refine K_callV_i (As := []) mcX12_product mlX12_252 rfl (by decide) (sq 146 rfl) (ct12_product G t N S) rfl rfl (Nat.le_of_ble_eq_true rfl) (by decide) (Nat.le_of_ble_eq_true rfl) dX12_sums_1 (fun q1 S2 => ?_)
  refine J_istore_n [some (vR (some 146)), some (vI q1), none, none] dX12_sums_4 rfl (Nat.le_of_ble_eq_true rfl) rfl rfl ?_
  exact J_sb (t12_sums_h5 G t N N q1 S2) (And.intro rfl (And.intro rfl (trivial)))
theorem dX12_turned_0 : decode cX12_turned 0 = .ok (.aload_n 0, 1) := by decide +kernel
theorem dX12_turned_1 : decode cX12_turned 1 = .ok (.invokevirtual 228, 3) := by decide +kernel
theorem dX12_turned_4 : decode cX12_turned 4 = .ok (.istore_n 1, 1) := by decide +kernel
theorem dX12_turned_5 : decode cX12_turned 5 = .ok (.aload_n 0, 1) := by decide +kernel
theorem dX12_turned_6 : decode cX12_turned 6 = .ok (.getfield 225, 3) := by decide +kernel
theorem dX12_turned_9 : decode cX12_turned 9 = .ok (.ifCond .ge 116, 3) := by decide +kernel
theorem dX12_turned_12 : decode cX12_turned 12 = .ok (.iload_n 1, 1) := by decide +kernel
theorem dX12_turned_13 : decode cX12_turned 13 = .ok (.bipush 33, 2) := by decide +kernel
theorem dX12_turned_15 : decode cX12_turned 15 = .ok (.if_icmp .eq 9, 3) := by decide +kernel
theorem dX12_turned_18 : decode cX12_turned 18 = .ok (.iload_n 1, 1) := by decide +kernel
theorem dX12_turned_19 : decode cX12_turned 19 = .ok (.bipush 40, 2) := by decide +kernel
theorem dX12_turned_21 : decode cX12_turned 21 = .ok (.if_icmp .ne 104, 3) := by decide +kernel
theorem dX12_turned_24 : decode cX12_turned 24 = .ok (.aload_n 0, 1) := by decide +kernel
theorem dX12_turned_25 : decode cX12_turned 25 = .ok (.getfield 240, 3) := by decide +kernel
theorem dX12_turned_28 : decode cX12_turned 28 = .ok (.iconst 5, 1) := by decide +kernel
theorem dX12_turned_29 : decode cX12_turned 29 = .ok (.if_icmp .ne 8, 3) := by decide +kernel
theorem dX12_turned_32 : decode cX12_turned 32 = .ok (.aload_n 0, 1) := by decide +kernel
theorem dX12_turned_33 : decode cX12_turned 33 = .ok (.invokevirtual 243, 3) := by decide +kernel
theorem dX12_turned_36 : decode cX12_turned 36 = .ok (.ireturn, 1) := by decide +kernel
theorem dX12_turned_37 : decode cX12_turned 37 = .ok (.aload_n 0, 1) := by decide +kernel
theorem dX12_turned_38 : decode cX12_turned 38 = .ok (.dup, 1) := by decide +kernel
theorem dX12_turned_39 : decode cX12_turned 39 = .ok (.getfield 240, 3) := by decide +kernel
theorem dX12_turned_42 : decode cX12_turned 42 = .ok (.iconst 1, 1) := by decide +kernel
theorem dX12_turned_43 : decode cX12_turned 43 = .ok (.iadd, 1) := by decide +kernel
theorem dX12_turned_44 : decode cX12_turned 44 = .ok (.putfield 240, 3) := by decide +kernel
theorem dX12_turned_47 : decode cX12_turned 47 = .ok (.aload_n 0, 1) := by decide +kernel
theorem dX12_turned_48 : decode cX12_turned 48 = .ok (.dup, 1) := by decide +kernel
theorem dX12_turned_49 : decode cX12_turned 49 = .ok (.getfield 216, 3) := by decide +kernel
theorem dX12_turned_52 : decode cX12_turned 52 = .ok (.iconst 1, 1) := by decide +kernel
theorem dX12_turned_53 : decode cX12_turned 53 = .ok (.iadd, 1) := by decide +kernel
theorem dX12_turned_54 : decode cX12_turned 54 = .ok (.putfield 216, 3) := by decide +kernel
theorem dX12_turned_57 : decode cX12_turned 57 = .ok (.iload_n 1, 1) := by decide +kernel
theorem dX12_turned_58 : decode cX12_turned 58 = .ok (.bipush 33, 2) := by decide +kernel
theorem dX12_turned_60 : decode cX12_turned 60 = .ok (.if_icmp .ne 10, 3) := by decide +kernel
theorem dX12_turned_63 : decode cX12_turned 63 = .ok (.aload_n 0, 1) := by decide +kernel
theorem dX12_turned_64 : decode cX12_turned 64 = .ok (.invokevirtual 237, 3) := by decide +kernel
theorem dX12_turned_67 : decode cX12_turned 67 = .ok (.goto 7, 3) := by decide +kernel
theorem dX12_turned_70 : decode cX12_turned 70 = .ok (.aload_n 0, 1) := by decide +kernel
theorem dX12_turned_71 : decode cX12_turned 71 = .ok (.invokevirtual 246, 3) := by decide +kernel
theorem dX12_turned_74 : decode cX12_turned 74 = .ok (.istore_n 2, 1) := by decide +kernel
theorem dX12_turned_75 : decode cX12_turned 75 = .ok (.iload_n 1, 1) := by decide +kernel
theorem dX12_turned_76 : decode cX12_turned 76 = .ok (.bipush 40, 2) := by decide +kernel
theorem dX12_turned_78 : decode cX12_turned 78 = .ok (.if_icmp .ne 17, 3) := by decide +kernel
theorem dX12_turned_81 : decode cX12_turned 81 = .ok (.aload_n 0, 1) := by decide +kernel
theorem dX12_turned_82 : decode cX12_turned 82 = .ok (.bipush 41, 2) := by decide +kernel
theorem dX12_turned_84 : decode cX12_turned 84 = .ok (.invokevirtual 234, 3) := by decide +kernel
theorem dX12_turned_87 : decode cX12_turned 87 = .ok (.ifCond .ne 8, 3) := by decide +kernel
theorem dX12_turned_90 : decode cX12_turned 90 = .ok (.aload_n 0, 1) := by decide +kernel
theorem dX12_turned_91 : decode cX12_turned 91 = .ok (.invokevirtual 243, 3) := by decide +kernel
theorem dX12_turned_94 : decode cX12_turned 94 = .ok (.ireturn, 1) := by decide +kernel
theorem dX12_turned_95 : decode cX12_turned 95 = .ok (.aload_n 0, 1) := by decide +kernel
theorem dX12_turned_96 : decode cX12_turned 96 = .ok (.dup, 1) := by decide +kernel
theorem dX12_turned_97 : decode cX12_turned 97 = .ok (.getfield 240, 3) := by decide +kernel
theorem dX12_turned_100 : decode cX12_turned 100 = .ok (.iconst 1, 1) := by decide +kernel
theorem dX12_turned_101 : decode cX12_turned 101 = .ok (.isub, 1) := by decide +kernel
theorem dX12_turned_102 : decode cX12_turned 102 = .ok (.putfield 240, 3) := by decide +kernel
theorem dX12_turned_105 : decode cX12_turned 105 = .ok (.iload_n 1, 1) := by decide +kernel
theorem dX12_turned_106 : decode cX12_turned 106 = .ok (.bipush 40, 2) := by decide +kernel
theorem dX12_turned_108 : decode cX12_turned 108 = .ok (.if_icmp .ne 7, 3) := by decide +kernel
theorem dX12_turned_111 : decode cX12_turned 111 = .ok (.iload_n 2, 1) := by decide +kernel
theorem dX12_turned_112 : decode cX12_turned 112 = .ok (.goto 12, 3) := by decide +kernel
theorem dX12_turned_115 : decode cX12_turned 115 = .ok (.iload_n 2, 1) := by decide +kernel
theorem dX12_turned_116 : decode cX12_turned 116 = .ok (.ifCond .ne 7, 3) := by decide +kernel
theorem dX12_turned_119 : decode cX12_turned 119 = .ok (.iconst 1, 1) := by decide +kernel
theorem dX12_turned_120 : decode cX12_turned 120 = .ok (.goto 4, 3) := by decide +kernel
theorem dX12_turned_123 : decode cX12_turned 123 = .ok (.iconst 0, 1) := by decide +kernel
theorem dX12_turned_124 : decode cX12_turned 124 = .ok (.ireturn, 1) := by decide +kernel
theorem dX12_turned_125 : decode cX12_turned 125 = .ok (.aload_n 0, 1) := by decide +kernel
theorem dX12_turned_126 : decode cX12_turned 126 = .ok (.invokevirtual 249, 3) := by decide +kernel
theorem dX12_turned_129 : decode cX12_turned 129 = .ok (.istore_n 2, 1) := by decide +kernel
theorem dX12_turned_130 : decode cX12_turned 130 = .ok (.aload_n 0, 1) := by decide +kernel
theorem dX12_turned_131 : decode cX12_turned 131 = .ok (.invokevirtual 228, 3) := by decide +kernel
theorem dX12_turned_134 : decode cX12_turned 134 = .ok (.istore_n 1, 1) := by decide +kernel
theorem dX12_turned_135 : decode cX12_turned 135 = .ok (.aload_n 0, 1) := by decide +kernel
theorem dX12_turned_136 : decode cX12_turned 136 = .ok (.getfield 225, 3) := by decide +kernel
theorem dX12_turned_139 : decode cX12_turned 139 = .ok (.ifCond .ge 21, 3) := by decide +kernel
theorem dX12_turned_142 : decode cX12_turned 142 = .ok (.iload_n 1, 1) := by decide +kernel
theorem dX12_turned_143 : decode cX12_turned 143 = .ok (.bipush 61, 2) := by decide +kernel
theorem dX12_turned_145 : decode cX12_turned 145 = .ok (.if_icmp .eq 20, 3) := by decide +kernel
theorem dX12_turned_148 : decode cX12_turned 148 = .ok (.iload_n 1, 1) := by decide +kernel
theorem dX12_turned_149 : decode cX12_turned 149 = .ok (.bipush 60, 2) := by decide +kernel
theorem dX12_turned_151 : decode cX12_turned 151 = .ok (.if_icmp .eq 14, 3) := by decide +kernel
theorem dX12_turned_154 : decode cX12_turned 154 = .ok (.iload_n 1, 1) := by decide +kernel
theorem dX12_turned_155 : decode cX12_turned 155 = .ok (.bipush 62, 2) := by decide +kernel
theorem dX12_turned_157 : decode cX12_turned 157 = .ok (.if_icmp .eq 8, 3) := by decide +kernel
theorem dX12_turned_160 : decode cX12_turned 160 = .ok (.aload_n 0, 1) := by decide +kernel
theorem dX12_turned_161 : decode cX12_turned 161 = .ok (.invokevirtual 243, 3) := by decide +kernel
theorem dX12_turned_164 : decode cX12_turned 164 = .ok (.ireturn, 1) := by decide +kernel
theorem dX12_turned_165 : decode cX12_turned 165 = .ok (.aload_n 0, 1) := by decide +kernel
theorem dX12_turned_166 : decode cX12_turned 166 = .ok (.dup, 1) := by decide +kernel
theorem dX12_turned_167 : decode cX12_turned 167 = .ok (.getfield 216, 3) := by decide +kernel
theorem dX12_turned_170 : decode cX12_turned 170 = .ok (.iconst 1, 1) := by decide +kernel
theorem dX12_turned_171 : decode cX12_turned 171 = .ok (.iadd, 1) := by decide +kernel
theorem dX12_turned_172 : decode cX12_turned 172 = .ok (.putfield 216, 3) := by decide +kernel
theorem dX12_turned_175 : decode cX12_turned 175 = .ok (.aload_n 0, 1) := by decide +kernel
theorem dX12_turned_176 : decode cX12_turned 176 = .ok (.invokevirtual 249, 3) := by decide +kernel
theorem dX12_turned_179 : decode cX12_turned 179 = .ok (.istore_n 3, 1) := by decide +kernel
theorem dX12_turned_180 : decode cX12_turned 180 = .ok (.iload_n 1, 1) := by decide +kernel
theorem dX12_turned_181 : decode cX12_turned 181 = .ok (.bipush 61, 2) := by decide +kernel
theorem dX12_turned_183 : decode cX12_turned 183 = .ok (.if_icmp .ne 11, 3) := by decide +kernel
theorem dX12_turned_186 : decode cX12_turned 186 = .ok (.iload_n 2, 1) := by decide +kernel
theorem dX12_turned_187 : decode cX12_turned 187 = .ok (.iload_n 3, 1) := by decide +kernel
theorem dX12_turned_188 : decode cX12_turned 188 = .ok (.if_icmp .ne 29, 3) := by decide +kernel
theorem dX12_turned_191 : decode cX12_turned 191 = .ok (.goto 22, 3) := by decide +kernel
theorem dX12_turned_194 : decode cX12_turned 194 = .ok (.iload_n 1, 1) := by decide +kernel
theorem dX12_turned_195 : decode cX12_turned 195 = .ok (.bipush 60, 2) := by decide +kernel
theorem dX12_turned_197 : decode cX12_turned 197 = .ok (.if_icmp .ne 11, 3) := by decide +kernel
theorem dX12_turned_200 : decode cX12_turned 200 = .ok (.iload_n 2, 1) := by decide +kernel
theorem dX12_turned_201 : decode cX12_turned 201 = .ok (.iload_n 3, 1) := by decide +kernel
theorem dX12_turned_202 : decode cX12_turned 202 = .ok (.if_icmp .ge 15, 3) := by decide +kernel
theorem dX12_turned_205 : decode cX12_turned 205 = .ok (.goto 8, 3) := by decide +kernel
theorem dX12_turned_208 : decode cX12_turned 208 = .ok (.iload_n 2, 1) := by decide +kernel
theorem dX12_turned_209 : decode cX12_turned 209 = .ok (.iload_n 3, 1) := by decide +kernel
theorem dX12_turned_210 : decode cX12_turned 210 = .ok (.if_icmp .le 7, 3) := by decide +kernel
theorem dX12_turned_213 : decode cX12_turned 213 = .ok (.iconst 1, 1) := by decide +kernel
theorem dX12_turned_214 : decode cX12_turned 214 = .ok (.goto 4, 3) := by decide +kernel
theorem dX12_turned_217 : decode cX12_turned 217 = .ok (.iconst 0, 1) := by decide +kernel
theorem dX12_turned_218 : decode cX12_turned 218 = .ok (.ireturn, 1) := by decide +kernel
set_option maxRecDepth 100000 in
set_option maxHeartbeats 4000000 in
theorem t12_turned_j160 (G : Gm) (t : Nat) (N : Nat) (pv : St → Option (Int32 × St)) (dv : Nat) (hdv : 5 ≤ dv) (hpv : ∀   (S : St), Ct G YX12_turned yX12_turned dv 0 0 (fI t) (pv  S) [vR (some 146)] (MM t S))     : ∀  (S : St), J G YX12_turned (dv + 3) 0 0 (fI t) 0 0 160 [some (vR (some 146)), none, none, none] [] (MM t S) (f12_turned_j160 N pv S) := by
  intro S
  unfold f12_turned_j160
  refine J_aload_n dX12_turned_160 rfl rfl ?_
  refine K_callV_i (As := []) mcX12_wrong mlX12_243 rfl (by decide) (sq 146 rfl) (ct12_wrong G t S) rfl rfl (Nat.le_of_ble_eq_true rfl) (by omega) (Nat.le_of_ble_eq_true rfl) dX12_turned_161 (fun q1 S2 => ?_)
  exact J_ireturn rfl (Nat.le_refl _) (Nat.le_refl _) rfl dX12_turned_164
set_option maxRecDepth 100000 in
set_option maxHeartbeats 4000000 in
theorem t12_turned_j165 (G : Gm) (t : Nat) (N : Nat) (pv : St → Option (Int32 × St)) (dv : Nat) (hdv : 5 ≤ dv) (hpv : ∀   (S : St), Ct G YX12_turned yX12_turned dv 0 0 (fI t) (pv  S) [vR (some 146)] (MM t S)) (x1 : Int32) (x2 : Int32)    : ∀  (S : St), J G YX12_turned (dv + 3) 0 0 (fI t) 0 0 165 [some (vR (some 146)), some (vI x1), some (vI x2), none] [] (MM t S) (f12_turned_j165 N pv x1 x2 S) := by
  intro S
  unfold f12_turned_j165
  refine J_aload_n dX12_turned_165 rfl rfl ?_
  refine J_dup dX12_turned_166 rfl ?_
  refine K_getI cf12 flX12_216 (sq 146 rfl) (Or.inl rfl) dX12_turned_167 ?_
  refine J_iconst (v := nI 1) dX12_turned_170 (by decide) ?_
  refine J_iadd dX12_turned_171 ?_
  refine K_putI cf12 flX12_216 (sq 146 rfl) rfl dX12_turned_172 ?_
  refine J_ltS (fun S1 _ => ?_)
  refine J_aload_n dX12_turned_175 rfl rfl ?_
  refine K_callV_i (As := []) mcX12_sums mlX12_249 rfl (by decide) (sq 146 rfl) (ct12_sums G t N S1) rfl rfl (Nat.le_of_ble_eq_true rfl) (by omega) (Nat.le_of_ble_eq_true rfl) dX12_turned_176 (fun q2 S3 => ?_)
  refine J_istore_n [some (vR (some 146)), some (vI x1), some (vI x2), some (vI q2)] dX12_turned_179 rfl (Nat.le_of_ble_eq_true rfl) rfl rfl ?_
  refine J_iload_n dX12_turned_180 rfl rfl ?_
  refine J_bipush (v := nI 61) dX12_turned_181 (by decide) ?_
  refine J_icmp_ne (tgt := 194) dX12_turned_183 (by decide) (fun z4 => ?_) (fun z4 => ?_)
  · refine J_iload_n dX12_turned_186 rfl rfl ?_
    refine J_iload_n dX12_turned_187 rfl rfl ?_
    refine J_icmp_ne (tgt := 217) dX12_turned_188 (by decide) (fun z8 => ?_) (fun z8 => ?_)
    · refine J_goto (tgt := 213) dX12_turned_191 (by decide) ?_
      refine J_iconst (v := nI 1) dX12_turned_213 (by decide) ?_
      refine J_goto (tgt := 218) dX12_turned_214 (by decide) ?_
      exact J_ireturn rfl (Nat.le_refl _) (Nat.le_refl _) rfl dX12_turned_218
    · refine J_iconst (v := nI 0) dX12_turned_217 (by decide) ?_
      exact J_ireturn rfl (Nat.le_refl _) (Nat.le_refl _) rfl dX12_turned_218
  · refine J_iload_n dX12_turned_194 rfl rfl ?_
    refine J_bipush (v := nI 60) dX12_turned_195 (by decide) ?_
    refine J_icmp_ne (tgt := 208) dX12_turned_197 (by decide) (fun z5 => ?_) (fun z5 => ?_)
    · refine J_iload_n dX12_turned_200 rfl rfl ?_
      refine J_iload_n dX12_turned_201 rfl rfl ?_
      refine J_icmp_ge (tgt := 217) dX12_turned_202 (by decide) (fun z7 => ?_) (fun z7 => ?_)
      · refine J_iconst (v := nI 0) dX12_turned_217 (by decide) ?_
        exact J_ireturn rfl (Nat.le_refl _) (Nat.le_refl _) rfl dX12_turned_218
      · refine J_goto (tgt := 213) dX12_turned_205 (by decide) ?_
        refine J_iconst (v := nI 1) dX12_turned_213 (by decide) ?_
        refine J_goto (tgt := 218) dX12_turned_214 (by decide) ?_
        exact J_ireturn rfl (Nat.le_refl _) (Nat.le_refl _) rfl dX12_turned_218
    · refine J_iload_n dX12_turned_208 rfl rfl ?_
      refine J_iload_n dX12_turned_209 rfl rfl ?_
      refine J_icmp_le (tgt := 217) dX12_turned_210 (by decide) (fun z6 => ?_) (fun z6 => ?_)
      · refine J_iconst (v := nI 0) dX12_turned_217 (by decide) ?_
        exact J_ireturn rfl (Nat.le_refl _) (Nat.le_refl _) rfl dX12_turned_218
      · refine J_iconst (v := nI 1) dX12_turned_213 (by decide) ?_
        refine J_goto (tgt := 218) dX12_turned_214 (by decide) ?_
        exact J_ireturn rfl (Nat.le_refl _) (Nat.le_refl _) rfl dX12_turned_218
set_option maxRecDepth 100000 in
set_option maxHeartbeats 4000000 in
theorem t12_turned_j125 (G : Gm) (t : Nat) (N : Nat) (pv : St → Option (Int32 × St)) (dv : Nat) (hdv : 5 ≤ dv) (hpv : ∀   (S : St), Ct G YX12_turned yX12_turned dv 0 0 (fI t) (pv  S) [vR (some 146)] (MM t S))     : ∀  (S : St), J G YX12_turned (dv + 3) 0 0 (fI t) 0 0 125 [some (vR (some 146)), none, none, none] [] (MM t S) (f12_turned_j125 N pv S) := by
  intro S
  unfold f12_turned_j125
  refine J_aload_n dX12_turned_125 rfl rfl ?_
  refine K_callV_i (As := []) mcX12_sums mlX12_249 rfl (by decide) (sq 146 rfl) (ct12_sums G t N S) rfl rfl (Nat.le_of_ble_eq_true rfl) (by omega) (Nat.le_of_ble_eq_true rfl) dX12_turned_126 (fun q1 S2 => ?_)
  refine J_istore_n [some (vR (some 146)), none, some (vI q1), none] dX12_turned_129 rfl (Nat.le_of_ble_eq_true rfl) rfl rfl ?_
  refine J_aload_n dX12_turned_130 rfl rfl ?_
  refine K_callV_i (As := []) mcX12_byteAt mlX12_228 rfl (by decide) (sq 146 rfl) (ct12_byteAt G t S2) rfl rfl (Nat.le_of_ble_eq_true rfl) (by omega) (Nat.le_of_ble_eq_true rfl) dX12_turned_131 (fun q3 S4 => ?_)
  refine J_istore_n [some (vR (some 146)), some (vI q3), some (vI q1), none] dX12_turned_134 rfl (Nat.le_of_ble_eq_true rfl) rfl rfl ?_
  refine J_aload_n dX12_turned_135 rfl rfl ?_
  refine K_getI cf12 flX12_225 (sq 146 rfl) (Or.inl rfl) dX12_turned_136 ?_
  refine J_if_ge (tgt := 160) dX12_turned_139 (by decide) (fun z5 => ?_) (fun z5 => ?_)
  · exact J_sb (t12_turned_j160 G t N pv dv hdv hpv S4) (And.intro rfl (trivial))
  · refine J_iload_n dX12_turned_142 rfl rfl ?_
    refine J_bipush (v := nI 61) dX12_turned_143 (by decide) ?_
    refine J_icmp_eq (tgt := 165) dX12_turned_145 (by decide) (fun z6 => ?_) (fun z6 => ?_)
    · exact J_sb (t12_turned_j165 G t N pv dv hdv hpv q3 q1 S4) (And.intro rfl (And.intro rfl (And.intro rfl (trivial))))
    · refine J_iload_n dX12_turned_148 rfl rfl ?_
      refine J_bipush (v := nI 60) dX12_turned_149 (by decide) ?_
      refine J_icmp_eq (tgt := 165) dX12_turned_151 (by decide) (fun z7 => ?_) (fun z7 => ?_)
      · exact J_sb (t12_turned_j165 G t N pv dv hdv hpv q3 q1 S4) (And.intro rfl (And.intro rfl (And.intro rfl (trivial))))
      · refine J_iload_n dX12_turned_154 rfl rfl ?_
        refine J_bipush (v := nI 62) dX12_turned_155 (by decide) ?_
        refine J_icmp_eq (tgt := 165) dX12_turned_157 (by decide) (fun z8 => ?_) (fun z8 => ?_)
        · exact J_sb (t12_turned_j165 G t N pv dv hdv hpv q3 q1 S4) (And.intro rfl (And.intro rfl (And.intro rfl (trivial))))
        · exact J_sb (t12_turned_j160 G t N pv dv hdv hpv S4) (And.intro rfl (trivial))
set_option maxRecDepth 100000 in
set_option maxHeartbeats 4000000 in
theorem t12_turned_j95 (G : Gm) (t : Nat) (N : Nat) (pv : St → Option (Int32 × St)) (dv : Nat) (hdv : 5 ≤ dv) (hpv : ∀   (S : St), Ct G YX12_turned yX12_turned dv 0 0 (fI t) (pv  S) [vR (some 146)] (MM t S)) (x1 : Int32) (x2 : Int32)    : ∀  (S : St), J G YX12_turned (dv + 3) 0 0 (fI t) 0 0 95 [some (vR (some 146)), some (vI x1), some (vI x2), none] [] (MM t S) (f12_turned_j95 N pv x1 x2 S) := by
  intro S
  unfold f12_turned_j95
  refine J_aload_n dX12_turned_95 rfl rfl ?_
  refine J_dup dX12_turned_96 rfl ?_
  refine K_getI cf12 flX12_240 (sq 146 rfl) (Or.inl rfl) dX12_turned_97 ?_
  refine J_iconst (v := nI 1) dX12_turned_100 (by decide) ?_
  refine J_isub dX12_turned_101 ?_
  refine K_putI cf12 flX12_240 (sq 146 rfl) rfl dX12_turned_102 ?_
  refine J_ltS (fun S1 _ => ?_)
  refine J_iload_n dX12_turned_105 rfl rfl ?_
  refine J_bipush (v := nI 40) dX12_turned_106 (by decide) ?_
  refine J_icmp_ne (tgt := 115) dX12_turned_108 (by decide) (fun z2 => ?_) (fun z2 => ?_)
  · refine J_iload_n dX12_turned_111 rfl rfl ?_
    refine J_goto (tgt := 124) dX12_turned_112 (by decide) ?_
    exact J_ireturn rfl (Nat.le_refl _) (Nat.le_refl _) rfl dX12_turned_124
  · refine J_iload_n dX12_turned_115 rfl rfl ?_
    refine J_if_ne (tgt := 123) dX12_turned_116 (by decide) (fun z3 => ?_) (fun z3 => ?_)
    · refine J_iconst (v := nI 1) dX12_turned_119 (by decide) ?_
      refine J_goto (tgt := 124) dX12_turned_120 (by decide) ?_
      exact J_ireturn rfl (Nat.le_refl _) (Nat.le_refl _) rfl dX12_turned_124
    · refine J_iconst (v := nI 0) dX12_turned_123 (by decide) ?_
      exact J_ireturn rfl (Nat.le_refl _) (Nat.le_refl _) rfl dX12_turned_124
set_option maxRecDepth 100000 in
set_option maxHeartbeats 4000000 in
theorem t12_turned_j74 (G : Gm) (t : Nat) (N : Nat) (pv : St → Option (Int32 × St)) (dv : Nat) (hdv : 5 ≤ dv) (hpv : ∀   (S : St), Ct G YX12_turned yX12_turned dv 0 0 (fI t) (pv  S) [vR (some 146)] (MM t S)) (x1 : Int32)    : ∀ (xs0 : Int32) (S : St), J G YX12_turned (dv + 3) 0 0 (fI t) 0 0 74 [some (vR (some 146)), some (vI x1), none, none] [vI xs0] (MM t S) (f12_turned_j74 N pv x1 xs0 S) := by
  intro xs0 S
  unfold f12_turned_j74
  refine J_istore_n [some (vR (some 146)), some (vI x1), some (vI xs0), none] dX12_turned_74 rfl (Nat.le_of_ble_eq_true rfl) rfl rfl ?_
  refine J_iload_n dX12_turned_75 rfl rfl ?_
  refine J_bipush (v := nI 40) dX12_turned_76 (by decide) ?_
  refine J_icmp_ne (tgt := 95) dX12_turned_78 (by decide) (fun z1 => ?_) (fun z1 => ?_)
  · refine J_aload_n dX12_turned_81 rfl rfl ?_
    refine J_bipush (v := nI 41) dX12_turned_82 (by decide) ?_
    refine K_callV_i (As := [vI (nI 41)]) mcX12_takes mlX12_234 rfl (by decide) (sq 146 rfl) (ct12_takes G t (nI 41) S) rfl rfl (Nat.le_of_ble_eq_true rfl) (by omega) (Nat.le_of_ble_eq_true rfl) dX12_turned_84 (fun q2 S3 => ?_)
    refine J_if_ne (tgt := 95) dX12_turned_87 (by decide) (fun z4 => ?_) (fun z4 => ?_)
    · refine J_aload_n dX12_turned_90 rfl rfl ?_
      refine K_callV_i (As := []) mcX12_wrong mlX12_243 rfl (by decide) (sq 146 rfl) (ct12_wrong G t S3) rfl rfl (Nat.le_of_ble_eq_true rfl) (by omega) (Nat.le_of_ble_eq_true rfl) dX12_turned_91 (fun q5 S6 => ?_)
      exact J_ireturn rfl (Nat.le_refl _) (Nat.le_refl _) rfl dX12_turned_94
    · exact J_sb (t12_turned_j95 G t N pv dv hdv hpv x1 xs0 S3) (And.intro rfl (And.intro rfl (And.intro rfl (trivial))))
  · exact J_sb (t12_turned_j95 G t N pv dv hdv hpv x1 xs0 S) (And.intro rfl (And.intro rfl (And.intro rfl (trivial))))
set_option maxRecDepth 100000 in
set_option maxHeartbeats 4000000 in
theorem t12_turned_j24 (G : Gm) (t : Nat) (N : Nat) (pv : St → Option (Int32 × St)) (dv : Nat) (hdv : 5 ≤ dv) (hpv : ∀   (S : St), Ct G YX12_turned yX12_turned dv 0 0 (fI t) (pv  S) [vR (some 146)] (MM t S)) (x1 : Int32)    : ∀  (S : St), J G YX12_turned (dv + 3) 0 0 (fI t) 0 0 24 [some (vR (some 146)), some (vI x1), none, none] [] (MM t S) (f12_turned_j24 N pv x1 S) := by
  intro S
  unfold f12_turned_j24
  refine J_aload_n dX12_turned_24 rfl rfl ?_
  refine K_getI cf12 flX12_240 (sq 146 rfl) (Or.inl rfl) dX12_turned_25 ?_
  refine J_iconst (v := nI 5) dX12_turned_28 (by decide) ?_
  refine J_icmp_ne (tgt := 37) dX12_turned_29 (by decide) (fun z1 => ?_) (fun z1 => ?_)
  · refine J_aload_n dX12_turned_32 rfl rfl ?_
    refine K_callV_i (As := []) mcX12_wrong mlX12_243 rfl (by decide) (sq 146 rfl) (ct12_wrong G t S) rfl rfl (Nat.le_of_ble_eq_true rfl) (by omega) (Nat.le_of_ble_eq_true rfl) dX12_turned_33 (fun q9 S10 => ?_)
    exact J_ireturn rfl (Nat.le_refl _) (Nat.le_refl _) rfl dX12_turned_36
  · refine J_aload_n dX12_turned_37 rfl rfl ?_
    refine J_dup dX12_turned_38 rfl ?_
    refine K_getI cf12 flX12_240 (sq 146 rfl) (Or.inl rfl) dX12_turned_39 ?_
    refine J_iconst (v := nI 1) dX12_turned_42 (by decide) ?_
    refine J_iadd dX12_turned_43 ?_
    refine K_putI cf12 flX12_240 (sq 146 rfl) rfl dX12_turned_44 ?_
    refine J_ltS (fun S2 _ => ?_)
    refine J_aload_n dX12_turned_47 rfl rfl ?_
    refine J_dup dX12_turned_48 rfl ?_
    refine K_getI cf12 flX12_216 (sq 146 rfl) (Or.inl rfl) dX12_turned_49 ?_
    refine J_iconst (v := nI 1) dX12_turned_52 (by decide) ?_
    refine J_iadd dX12_turned_53 ?_
    refine K_putI cf12 flX12_216 (sq 146 rfl) rfl dX12_turned_54 ?_
    refine J_ltS (fun S3 _ => ?_)
    refine J_iload_n dX12_turned_57 rfl rfl ?_
    refine J_bipush (v := nI 33) dX12_turned_58 (by decide) ?_
    refine J_icmp_ne (tgt := 70) dX12_turned_60 (by decide) (fun z4 => ?_) (fun z4 => ?_)
    · refine J_aload_n dX12_turned_63 rfl rfl ?_
      refine K_callV_i (As := []) mcX12_turned mlX12_237 rfl (by decide) (sq 146 rfl) (hpv   S3) rfl rfl (Nat.le_of_ble_eq_true rfl) (by omega) (Nat.le_of_ble_eq_true rfl) dX12_turned_64 (fun q7 S8 => ?_)
      refine J_goto (tgt := 74) dX12_turned_67 (by decide) ?_
      exact J_sb (t12_turned_j74 G t N pv dv hdv hpv x1 q7 S8) (And.intro rfl (And.intro rfl (trivial)))
    · refine J_aload_n dX12_turned_70 rfl rfl ?_
      refine K_callV_i (As := []) mcX12_either mlX12_246 rfl (by decide) (sq 146 rfl) (ct12_either G t N pv dv hdv hpv S3) rfl rfl (Nat.le_of_ble_eq_true rfl) (by omega) (Nat.le_of_ble_eq_true rfl) dX12_turned_71 (fun q5 S6 => ?_)
      exact J_sb (t12_turned_j74 G t N pv dv hdv hpv x1 q5 S6) (And.intro rfl (And.intro rfl (trivial)))
set_option maxRecDepth 100000 in
set_option maxHeartbeats 4000000 in
theorem ct12_turned_b (G : Gm) (t : Nat) (N : Nat) (pv : St → Option (Int32 × St)) (dv : Nat) (hdv : 5 ≤ dv) (hpv : ∀   (S : St), Ct G YX12_turned yX12_turned dv 0 0 (fI t) (pv  S) [vR (some 146)] (MM t S))   (S : St) : Ct G YX12_turned yX12_turned (dv + 3) 0 0 (fI t) (f12_turned_b N pv S) [vR (some 146)] (MM t S) := by
  refine Ct_of_J [some (vR (some 146)), none, none, none] (by decide) rfl (fun h => by cases h) (Nat.le_of_ble_eq_true rfl) (And.intro rfl (trivial)) ?_
  unfold f12_turned_b
  refine J_aload_n dX12_turned_0 rfl rfl ?_
  refine K_callV_i (As := []) mcX12_byteAt mlX12_228 rfl (by decide) (sq 146 rfl) (ct12_byteAt G t S) rfl rfl (Nat.le_of_ble_eq_true rfl) (by omega) (Nat.le_of_ble_eq_true rfl) dX12_turned_1 (fun q1 S2 => ?_)
  refine J_istore_n [some (vR (some 146)), some (vI q1), none, none] dX12_turned_4 rfl (Nat.le_of_ble_eq_true rfl) rfl rfl ?_
  refine J_aload_n dX12_turned_5 rfl rfl ?_
  refine K_getI cf12 flX12_225 (sq 146 rfl) (Or.inl rfl) dX12_turned_6 ?_
  refine J_if_ge (tgt := 125) dX12_turned_9 (by decide) (fun z3 => ?_) (fun z3 => ?_)
  · exact J_sb (t12_turned_j125 G t N pv dv hdv hpv S2) (And.intro rfl (trivial))
  · refine J_iload_n dX12_turned_12 rfl rfl ?_
    refine J_bipush (v := nI 33) dX12_turned_13 (by decide) ?_
    refine J_icmp_eq (tgt := 24) dX12_turned_15 (by decide) (fun z4 => ?_) (fun z4 => ?_)
    · exact J_sb (t12_turned_j24 G t N pv dv hdv hpv q1 S2) (And.intro rfl (And.intro rfl (trivial)))
    · refine J_iload_n dX12_turned_18 rfl rfl ?_
      refine J_bipush (v := nI 40) dX12_turned_19 (by decide) ?_
      refine J_icmp_ne (tgt := 125) dX12_turned_21 (by decide) (fun z5 => ?_) (fun z5 => ?_)
      · exact J_sb (t12_turned_j24 G t N pv dv hdv hpv q1 S2) (And.intro rfl (And.intro rfl (trivial)))
      · exact J_sb (t12_turned_j125 G t N pv dv hdv hpv S2) (And.intro rfl (trivial))
theorem ct12_turned (G : Gm) (t : Nat) (N : Nat) : ∀ (n : Nat)   (S : St), Ct G YX12_turned yX12_turned (3 * n + 5) 0 0 (fI t) (f12_turned N n  S) [vR (some 146)] (MM t S)
  | 0, _ => fun u hu => absurd (show none = some u from hu) (by simp)
  | n + 1, S => by
    rw [show 3 * (n + 1) + 5 = 3 * n + 5 + 3 by omega]
    exact ct12_turned_b G t N (f12_turned N n) _ (by omega) (ct12_turned G t N n)  S
theorem dX12_workOut_0 : decode cX12_workOut 0 = .ok (.aload_n 0, 1) := by decide +kernel
theorem dX12_workOut_1 : decode cX12_workOut 1 = .ok (.iload_n 1, 1) := by decide +kernel
theorem dX12_workOut_2 : decode cX12_workOut 2 = .ok (.putfield 222, 3) := by decide +kernel
theorem dX12_workOut_5 : decode cX12_workOut 5 = .ok (.aload_n 0, 1) := by decide +kernel
theorem dX12_workOut_6 : decode cX12_workOut 6 = .ok (.iconst 0, 1) := by decide +kernel
theorem dX12_workOut_7 : decode cX12_workOut 7 = .ok (.putfield 216, 3) := by decide +kernel
theorem dX12_workOut_10 : decode cX12_workOut 10 = .ok (.aload_n 0, 1) := by decide +kernel
theorem dX12_workOut_11 : decode cX12_workOut 11 = .ok (.iload_n 2, 1) := by decide +kernel
theorem dX12_workOut_12 : decode cX12_workOut 12 = .ok (.putfield 219, 3) := by decide +kernel
theorem dX12_workOut_15 : decode cX12_workOut 15 = .ok (.aload_n 0, 1) := by decide +kernel
theorem dX12_workOut_16 : decode cX12_workOut 16 = .ok (.iconst (-1), 1) := by decide +kernel
theorem dX12_workOut_17 : decode cX12_workOut 17 = .ok (.putfield 225, 3) := by decide +kernel
theorem dX12_workOut_20 : decode cX12_workOut 20 = .ok (.aload_n 0, 1) := by decide +kernel
theorem dX12_workOut_21 : decode cX12_workOut 21 = .ok (.iconst 0, 1) := by decide +kernel
theorem dX12_workOut_22 : decode cX12_workOut 22 = .ok (.putfield 240, 3) := by decide +kernel
theorem dX12_workOut_25 : decode cX12_workOut 25 = .ok (.aload_n 0, 1) := by decide +kernel
theorem dX12_workOut_26 : decode cX12_workOut 26 = .ok (.invokevirtual 246, 3) := by decide +kernel
theorem dX12_workOut_29 : decode cX12_workOut 29 = .ok (.istore_n 3, 1) := by decide +kernel
theorem dX12_workOut_30 : decode cX12_workOut 30 = .ok (.aload_n 0, 1) := by decide +kernel
theorem dX12_workOut_31 : decode cX12_workOut 31 = .ok (.getfield 225, 3) := by decide +kernel
theorem dX12_workOut_34 : decode cX12_workOut 34 = .ok (.ifCond .ge 21, 3) := by decide +kernel
theorem dX12_workOut_37 : decode cX12_workOut 37 = .ok (.aload_n 0, 1) := by decide +kernel
theorem dX12_workOut_38 : decode cX12_workOut 38 = .ok (.getfield 216, 3) := by decide +kernel
theorem dX12_workOut_41 : decode cX12_workOut 41 = .ok (.aload_n 0, 1) := by decide +kernel
theorem dX12_workOut_42 : decode cX12_workOut 42 = .ok (.getfield 219, 3) := by decide +kernel
theorem dX12_workOut_45 : decode cX12_workOut 45 = .ok (.if_icmp .ge 10, 3) := by decide +kernel
theorem dX12_workOut_48 : decode cX12_workOut 48 = .ok (.aload_n 0, 1) := by decide +kernel
theorem dX12_workOut_49 : decode cX12_workOut 49 = .ok (.invokevirtual 243, 3) := by decide +kernel
theorem dX12_workOut_52 : decode cX12_workOut 52 = .ok (.goto 4, 3) := by decide +kernel
theorem dX12_workOut_55 : decode cX12_workOut 55 = .ok (.iload_n 3, 1) := by decide +kernel
theorem dX12_workOut_56 : decode cX12_workOut 56 = .ok (.ireturn, 1) := by decide +kernel
set_option maxRecDepth 100000 in
set_option maxHeartbeats 4000000 in
theorem ct12_workOut (G : Gm) (t : Nat) (N : Nat) (x1 : Int32) (x2 : Int32)  (S : St) : Ct G YX12_workOut yX12_workOut 32 0 0 (fI t) (f12_workOut N x1 x2 S) [vR (some 146), vI x1, vI x2] (MM t S) := by
  refine Ct_of_J [some (vR (some 146)), some (vI x1), some (vI x2), none] (by decide) rfl (fun h => by cases h) (Nat.le_of_ble_eq_true rfl) (And.intro rfl (And.intro rfl (And.intro rfl (trivial)))) ?_
  unfold f12_workOut
  refine J_aload_n dX12_workOut_0 rfl rfl ?_
  refine J_iload_n dX12_workOut_1 rfl rfl ?_
  refine K_putI cf12 flX12_222 (sq 146 rfl) rfl dX12_workOut_2 ?_
  refine J_ltS (fun S1 _ => ?_)
  refine J_aload_n dX12_workOut_5 rfl rfl ?_
  refine J_iconst (v := nI 0) dX12_workOut_6 (by decide) ?_
  refine K_putI cf12 flX12_216 (sq 146 rfl) rfl dX12_workOut_7 ?_
  refine J_ltS (fun S2 _ => ?_)
  refine J_aload_n dX12_workOut_10 rfl rfl ?_
  refine J_iload_n dX12_workOut_11 rfl rfl ?_
  refine K_putI cf12 flX12_219 (sq 146 rfl) rfl dX12_workOut_12 ?_
  refine J_ltS (fun S3 _ => ?_)
  refine J_aload_n dX12_workOut_15 rfl rfl ?_
  refine J_iconst (v := (-1)) dX12_workOut_16 (by decide) ?_
  refine K_putI cf12 flX12_225 (sq 146 rfl) rfl dX12_workOut_17 ?_
  refine J_ltS (fun S4 _ => ?_)
  refine J_aload_n dX12_workOut_20 rfl rfl ?_
  refine J_iconst (v := nI 0) dX12_workOut_21 (by decide) ?_
  refine K_putI cf12 flX12_240 (sq 146 rfl) rfl dX12_workOut_22 ?_
  refine J_ltS (fun S5 _ => ?_)
  refine J_aload_n dX12_workOut_25 rfl rfl ?_
  refine K_callV_i (As := []) mcX12_either mlX12_246 rfl (by decide) (sq 146 rfl) (ct12_either G t N (f12_turned N 8) 29 (by decide) (ct12_turned G t N 8) S5) rfl rfl (Nat.le_of_ble_eq_true rfl) (by decide) (Nat.le_of_ble_eq_true rfl) dX12_workOut_26 (fun q6 S7 => ?_)
  refine J_istore_n [some (vR (some 146)), some (vI x1), some (vI x2), some (vI q6)] dX12_workOut_29 rfl (Nat.le_of_ble_eq_true rfl) rfl rfl ?_
  refine J_aload_n dX12_workOut_30 rfl rfl ?_
  refine K_getI cf12 flX12_225 (sq 146 rfl) (Or.inl rfl) dX12_workOut_31 ?_
  refine J_if_ge (tgt := 55) dX12_workOut_34 (by decide) (fun z8 => ?_) (fun z8 => ?_)
  · refine J_iload_n dX12_workOut_55 rfl rfl ?_
    exact J_ireturn rfl (Nat.le_refl _) (Nat.le_refl _) rfl dX12_workOut_56
  · refine J_aload_n dX12_workOut_37 rfl rfl ?_
    refine K_getI cf12 flX12_216 (sq 146 rfl) (Or.inl rfl) dX12_workOut_38 ?_
    refine J_aload_n dX12_workOut_41 rfl rfl ?_
    refine K_getI cf12 flX12_219 (sq 146 rfl) (Or.inl rfl) dX12_workOut_42 ?_
    refine J_icmp_ge (tgt := 55) dX12_workOut_45 (by decide) (fun z9 => ?_) (fun z9 => ?_)
    · refine J_iload_n dX12_workOut_55 rfl rfl ?_
      exact J_ireturn rfl (Nat.le_refl _) (Nat.le_refl _) rfl dX12_workOut_56
    · refine J_aload_n dX12_workOut_48 rfl rfl ?_
      refine K_callV_i (As := []) mcX12_wrong mlX12_243 rfl (by decide) (sq 146 rfl) (ct12_wrong G t S7) rfl rfl (Nat.le_of_ble_eq_true rfl) (by decide) (Nat.le_of_ble_eq_true rfl) dX12_workOut_49 (fun q10 S11 => ?_)
      refine J_goto (tgt := 56) dX12_workOut_52 (by decide) ?_
      exact J_ireturn rfl (Nat.le_refl _) (Nat.le_refl _) rfl dX12_workOut_56
theorem dX12_task_0 : decode cX12_task 0 = .ok (.iload_n 1, 1) := by decide +kernel
theorem dX12_task_1 : decode cX12_task 1 = .ok (.i2l, 1) := by decide +kernel
theorem dX12_task_2 : decode cX12_task 2 = .ok (.lconst 0, 1) := by decide +kernel
theorem dX12_task_3 : decode cX12_task 3 = .ok (.ldc2_w 177, 3) := by decide +kernel
theorem dX12_task_6 : decode cX12_task 6 = .ok (.invokestatic 109, 3) := by decide +kernel
theorem dX12_task_9 : decode cX12_task 9 = .ok (.ifCond .ne 5, 3) := by decide +kernel
theorem dX12_task_12 : decode cX12_task 12 = .ok (.iconst (-1), 1) := by decide +kernel
theorem dX12_task_13 : decode cX12_task 13 = .ok (.ireturn, 1) := by decide +kernel
theorem dX12_task_14 : decode cX12_task 14 = .ok (.aload_n 0, 1) := by decide +kernel
theorem dX12_task_15 : decode cX12_task 15 = .ok (.getfield 261, 3) := by decide +kernel
theorem dX12_task_18 : decode cX12_task 18 = .ok (.bipush 10, 2) := by decide +kernel
theorem dX12_task_20 : decode cX12_task 20 = .ok (.if_icmp .ne 6, 3) := by decide +kernel
theorem dX12_task_23 : decode cX12_task 23 = .ok (.bipush (-3), 2) := by decide +kernel
theorem dX12_task_25 : decode cX12_task 25 = .ok (.ireturn, 1) := by decide +kernel
theorem dX12_task_26 : decode cX12_task 26 = .ok (.aload_n 0, 1) := by decide +kernel
theorem dX12_task_27 : decode cX12_task 27 = .ok (.iconst (-1), 1) := by decide +kernel
theorem dX12_task_28 : decode cX12_task 28 = .ok (.aload_n 0, 1) := by decide +kernel
theorem dX12_task_29 : decode cX12_task 29 = .ok (.getfield 213, 3) := by decide +kernel
theorem dX12_task_32 : decode cX12_task 32 = .ok (.invokevirtual 264, 3) := by decide +kernel
theorem dX12_task_35 : decode cX12_task 35 = .ok (.istore_n 2, 1) := by decide +kernel
theorem dX12_task_36 : decode cX12_task 36 = .ok (.aload_n 0, 1) := by decide +kernel
theorem dX12_task_37 : decode cX12_task 37 = .ok (.getfield 213, 3) := by decide +kernel
theorem dX12_task_40 : decode cX12_task 40 = .ok (.istore_n 3, 1) := by decide +kernel
theorem dX12_task_41 : decode cX12_task 41 = .ok (.aload_n 0, 1) := by decide +kernel
theorem dX12_task_42 : decode cX12_task 42 = .ok (.iconst 0, 1) := by decide +kernel
theorem dX12_task_43 : decode cX12_task 43 = .ok (.putfield 213, 3) := by decide +kernel
theorem dX12_task_46 : decode cX12_task 46 = .ok (.aload_n 0, 1) := by decide +kernel
theorem dX12_task_47 : decode cX12_task 47 = .ok (.getfield 225, 3) := by decide +kernel
theorem dX12_task_50 : decode cX12_task 50 = .ok (.ifCond .lt 11, 3) := by decide +kernel
theorem dX12_task_53 : decode cX12_task 53 = .ok (.bipush (-100), 2) := by decide +kernel
theorem dX12_task_55 : decode cX12_task 55 = .ok (.aload_n 0, 1) := by decide +kernel
theorem dX12_task_56 : decode cX12_task 56 = .ok (.getfield 225, 3) := by decide +kernel
theorem dX12_task_59 : decode cX12_task 59 = .ok (.isub, 1) := by decide +kernel
theorem dX12_task_60 : decode cX12_task 60 = .ok (.ireturn, 1) := by decide +kernel
theorem dX12_task_61 : decode cX12_task 61 = .ok (.iconst 0, 1) := by decide +kernel
theorem dX12_task_62 : decode cX12_task 62 = .ok (.istore 4, 2) := by decide +kernel
theorem dX12_task_64 : decode cX12_task 64 = .ok (.iload 4, 2) := by decide +kernel
theorem dX12_task_66 : decode cX12_task 66 = .ok (.iload_n 3, 1) := by decide +kernel
theorem dX12_task_67 : decode cX12_task 67 = .ok (.if_icmp .ge 31, 3) := by decide +kernel
theorem dX12_task_70 : decode cX12_task 70 = .ok (.aload_n 0, 1) := by decide +kernel
theorem dX12_task_71 : decode cX12_task 71 = .ok (.getfield 63, 3) := by decide +kernel
theorem dX12_task_74 : decode cX12_task 74 = .ok (.bipush 60, 2) := by decide +kernel
theorem dX12_task_76 : decode cX12_task 76 = .ok (.aload_n 0, 1) := by decide +kernel
theorem dX12_task_77 : decode cX12_task 77 = .ok (.getfield 261, 3) := by decide +kernel
theorem dX12_task_80 : decode cX12_task 80 = .ok (.imul, 1) := by decide +kernel
theorem dX12_task_81 : decode cX12_task 81 = .ok (.iload 4, 2) := by decide +kernel
theorem dX12_task_83 : decode cX12_task 83 = .ok (.iadd, 1) := by decide +kernel
theorem dX12_task_84 : decode cX12_task 84 = .ok (.aload_n 0, 1) := by decide +kernel
theorem dX12_task_85 : decode cX12_task 85 = .ok (.getfield 60, 3) := by decide +kernel
theorem dX12_task_88 : decode cX12_task 88 = .ok (.iload 4, 2) := by decide +kernel
theorem dX12_task_90 : decode cX12_task 90 = .ok (.iaload, 1) := by decide +kernel
theorem dX12_task_91 : decode cX12_task 91 = .ok (.iastore, 1) := by decide +kernel
theorem dX12_task_92 : decode cX12_task 92 = .ok (.iinc 4 1, 3) := by decide +kernel
theorem dX12_task_95 : decode cX12_task 95 = .ok (.goto (-31), 3) := by decide +kernel
theorem dX12_task_98 : decode cX12_task 98 = .ok (.aload_n 0, 1) := by decide +kernel
theorem dX12_task_99 : decode cX12_task 99 = .ok (.getfield 66, 3) := by decide +kernel
theorem dX12_task_102 : decode cX12_task 102 = .ok (.aload_n 0, 1) := by decide +kernel
theorem dX12_task_103 : decode cX12_task 103 = .ok (.getfield 261, 3) := by decide +kernel
theorem dX12_task_106 : decode cX12_task 106 = .ok (.iload_n 3, 1) := by decide +kernel
theorem dX12_task_107 : decode cX12_task 107 = .ok (.iastore, 1) := by decide +kernel
theorem dX12_task_108 : decode cX12_task 108 = .ok (.aload_n 0, 1) := by decide +kernel
theorem dX12_task_109 : decode cX12_task 109 = .ok (.getfield 69, 3) := by decide +kernel
theorem dX12_task_112 : decode cX12_task 112 = .ok (.aload_n 0, 1) := by decide +kernel
theorem dX12_task_113 : decode cX12_task 113 = .ok (.getfield 261, 3) := by decide +kernel
theorem dX12_task_116 : decode cX12_task 116 = .ok (.iload_n 1, 1) := by decide +kernel
theorem dX12_task_117 : decode cX12_task 117 = .ok (.iastore, 1) := by decide +kernel
theorem dX12_task_118 : decode cX12_task 118 = .ok (.aload_n 0, 1) := by decide +kernel
theorem dX12_task_119 : decode cX12_task 119 = .ok (.dup, 1) := by decide +kernel
theorem dX12_task_120 : decode cX12_task 120 = .ok (.getfield 261, 3) := by decide +kernel
theorem dX12_task_123 : decode cX12_task 123 = .ok (.iconst 1, 1) := by decide +kernel
theorem dX12_task_124 : decode cX12_task 124 = .ok (.iadd, 1) := by decide +kernel
theorem dX12_task_125 : decode cX12_task 125 = .ok (.putfield 261, 3) := by decide +kernel
theorem dX12_task_128 : decode cX12_task 128 = .ok (.aload_n 0, 1) := by decide +kernel
theorem dX12_task_129 : decode cX12_task 129 = .ok (.getfield 261, 3) := by decide +kernel
theorem dX12_task_132 : decode cX12_task 132 = .ok (.iconst 1, 1) := by decide +kernel
theorem dX12_task_133 : decode cX12_task 133 = .ok (.isub, 1) := by decide +kernel
theorem dX12_task_134 : decode cX12_task 134 = .ok (.ireturn, 1) := by decide +kernel
set_option maxRecDepth 100000 in
set_option maxHeartbeats 4000000 in
theorem t12_task_h64 (G : Gm) (t : Nat) (N : Nat) (x1 : Int32) (x3 : Int32)    : ∀ (n : Nat) (x4 : Int32) (S : St), J G YX12_task 33 0 0 (fI t) 0 0 64 [some (vR (some 146)), some (vI x1), none, some (vI x3), some (vI x4)] [] (MM t S) (f12_task_h64 N x1 x3 n x4 S) := by
  intro n
  induction n with
  | zero => intro x4 S; exact J_none
  | succ n ih =>
    intro x4 S
    rw [f12_task_h64]
    refine J_iload dX12_task_64 rfl ?_
    refine J_iload_n dX12_task_66 rfl rfl ?_
    refine J_icmp_ge (tgt := 98) dX12_task_67 (by decide) (fun z1 => ?_) (fun z1 => ?_)
    · refine J_aload_n dX12_task_98 rfl rfl ?_
      refine K_getR (r := some (164)) cf12 flX12_66 (sq 146 rfl) rfl (Or.inr ⟨_, rfl⟩) dX12_task_99 ?_
      refine J_aload_n dX12_task_102 rfl rfl ?_
      refine K_getI cf12 flX12_261 (sq 146 rfl) (Or.inl rfl) dX12_task_103 ?_
      refine J_iload_n dX12_task_106 rfl rfl ?_
      refine K_iast (sq 164 rfl) dX12_task_107 ?_
      refine J_ltS (fun S2 _ => ?_)
      refine J_aload_n dX12_task_108 rfl rfl ?_
      refine K_getR (r := some (165)) cf12 flX12_69 (sq 146 rfl) rfl (Or.inr ⟨_, rfl⟩) dX12_task_109 ?_
      refine J_aload_n dX12_task_112 rfl rfl ?_
      refine K_getI cf12 flX12_261 (sq 146 rfl) (Or.inl rfl) dX12_task_113 ?_
      refine J_iload_n dX12_task_116 rfl rfl ?_
      refine K_iast (sq 165 rfl) dX12_task_117 ?_
      refine J_ltS (fun S3 _ => ?_)
      refine J_aload_n dX12_task_118 rfl rfl ?_
      refine J_dup dX12_task_119 rfl ?_
      refine K_getI cf12 flX12_261 (sq 146 rfl) (Or.inl rfl) dX12_task_120 ?_
      refine J_iconst (v := nI 1) dX12_task_123 (by decide) ?_
      refine J_iadd dX12_task_124 ?_
      refine K_putI cf12 flX12_261 (sq 146 rfl) rfl dX12_task_125 ?_
      refine J_ltS (fun S4 _ => ?_)
      refine J_aload_n dX12_task_128 rfl rfl ?_
      refine K_getI cf12 flX12_261 (sq 146 rfl) (Or.inl rfl) dX12_task_129 ?_
      refine J_iconst (v := nI 1) dX12_task_132 (by decide) ?_
      refine J_isub dX12_task_133 ?_
      exact J_ireturn rfl (Nat.le_refl _) (Nat.le_refl _) rfl dX12_task_134
    · refine J_aload_n dX12_task_70 rfl rfl ?_
      refine K_getR (r := some (163)) cf12 flX12_63 (sq 146 rfl) rfl (Or.inr ⟨_, rfl⟩) dX12_task_71 ?_
      refine J_bipush (v := nI 60) dX12_task_74 (by decide) ?_
      refine J_aload_n dX12_task_76 rfl rfl ?_
      refine K_getI cf12 flX12_261 (sq 146 rfl) (Or.inl rfl) dX12_task_77 ?_
      refine J_imul dX12_task_80 ?_
      refine J_iload dX12_task_81 rfl ?_
      refine J_iadd dX12_task_83 ?_
      refine J_aload_n dX12_task_84 rfl rfl ?_
      refine K_getR (r := some (162)) cf12 flX12_60 (sq 146 rfl) rfl (Or.inr ⟨_, rfl⟩) dX12_task_85 ?_
      refine J_iload dX12_task_88 rfl ?_
      refine K_iald (sq 162 rfl) dX12_task_90 ?_
      refine K_iast (sq 163 rfl) dX12_task_91 ?_
      refine J_ltS (fun S5 _ => ?_)
      refine J_iinc (v := x4 + nI 1) [some (vR (some 146)), some (vI x1), none, some (vI x3), some (vI (x4 + nI 1))] dX12_task_92 rfl rfl (Nat.le_of_ble_eq_true rfl) rfl rfl ?_
      refine J_goto (tgt := 64) dX12_task_95 (by decide) ?_
      exact J_sb (ih (x4 + nI 1) S5) (And.intro rfl (And.intro rfl (And.intro rfl (And.intro rfl (trivial)))))
set_option maxRecDepth 100000 in
set_option maxHeartbeats 4000000 in
theorem ct12_task (G : Gm) (t : Nat) (N : Nat) (x1 : Int32)  (S : St) : Ct G YX12_task yX12_task 33 0 0 (fI t) (f12_task N x1 S) [vR (some 146), vI x1] (MM t S) := by
  refine Ct_of_J [some (vR (some 146)), some (vI x1), none, none, none] (by decide) rfl (fun h => by cases h) (Nat.le_of_ble_eq_true rfl) (And.intro rfl (And.intro rfl (trivial))) ?_
  unfold f12_task
  refine J_iload_n dX12_task_0 rfl rfl ?_
  refine J_i2l dX12_task_1 ?_
  refine J_lconst (v := lN 0) dX12_task_2 (by decide) ?_
  refine J_ldc2_w (v := lN 999) wX12_177 dX12_task_3 ?_
  refine K_callS_i (As := [vL x1.toInt64, vL (lN 0), vL (lN 999)]) mcX12_within mlX12_109 (ct12_within G t x1.toInt64 (lN 0) (lN 999) S) rfl rfl (Nat.le_of_ble_eq_true rfl) (by decide) (Nat.le_of_ble_eq_true rfl) dX12_task_6 (fun q1 S2 => ?_)
  refine J_if_ne (tgt := 14) dX12_task_9 (by decide) (fun z3 => ?_) (fun z3 => ?_)
  · refine J_iconst (v := (-1)) dX12_task_12 (by decide) ?_
    exact J_ireturn rfl (Nat.le_refl _) (Nat.le_refl _) rfl dX12_task_13
  · refine J_aload_n dX12_task_14 rfl rfl ?_
    refine K_getI cf12 flX12_261 (sq 146 rfl) (Or.inl rfl) dX12_task_15 ?_
    refine J_bipush (v := nI 10) dX12_task_18 (by decide) ?_
    refine J_icmp_ne (tgt := 26) dX12_task_20 (by decide) (fun z4 => ?_) (fun z4 => ?_)
    · refine J_bipush (v := (-3)) dX12_task_23 (by decide) ?_
      exact J_ireturn rfl (Nat.le_refl _) (Nat.le_refl _) rfl dX12_task_25
    · refine J_aload_n dX12_task_26 rfl rfl ?_
      refine J_iconst (v := (-1)) dX12_task_27 (by decide) ?_
      refine J_aload_n dX12_task_28 rfl rfl ?_
      refine K_getI cf12 flX12_213 (sq 146 rfl) (Or.inl rfl) dX12_task_29 ?_
      refine K_callV_i (As := [vI (-1), vI (S2.1 146 30)]) mcX12_workOut mlX12_264 rfl (by decide) (sq 146 rfl) (ct12_workOut G t N (-1) (S2.1 146 30) S2) rfl rfl (Nat.le_of_ble_eq_true rfl) (by decide) (Nat.le_of_ble_eq_true rfl) dX12_task_32 (fun q5 S6 => ?_)
      refine J_istore_n [some (vR (some 146)), some (vI x1), some (vI q5), none, none] dX12_task_35 rfl (Nat.le_of_ble_eq_true rfl) rfl rfl ?_
      refine J_aload_n dX12_task_36 rfl rfl ?_
      refine K_getI cf12 flX12_213 (sq 146 rfl) (Or.inl rfl) dX12_task_37 ?_
      refine J_ltI (fun v7 _ => ?_)
      refine J_istore_n [some (vR (some 146)), some (vI x1), some (vI q5), some (vI v7), none] dX12_task_40 rfl (Nat.le_of_ble_eq_true rfl) rfl rfl ?_
      refine J_aload_n dX12_task_41 rfl rfl ?_
      refine J_iconst (v := nI 0) dX12_task_42 (by decide) ?_
      refine K_putI cf12 flX12_213 (sq 146 rfl) rfl dX12_task_43 ?_
      refine J_ltS (fun S8 _ => ?_)
      refine J_aload_n dX12_task_46 rfl rfl ?_
      refine K_getI cf12 flX12_225 (sq 146 rfl) (Or.inl rfl) dX12_task_47 ?_
      refine J_if_lt (tgt := 61) dX12_task_50 (by decide) (fun z9 => ?_) (fun z9 => ?_)
      · refine J_iconst (v := nI 0) dX12_task_61 (by decide) ?_
        refine J_istore [some (vR (some 146)), some (vI x1), some (vI q5), some (vI v7), some (vI (nI 0))] dX12_task_62 (Nat.le_of_ble_eq_true rfl) rfl rfl ?_
        exact J_sb (t12_task_h64 G t N x1 v7 N (nI 0) S8) (And.intro rfl (And.intro rfl (And.intro rfl (And.intro rfl (trivial)))))
      · refine J_bipush (v := (-100)) dX12_task_53 (by decide) ?_
        refine J_aload_n dX12_task_55 rfl rfl ?_
        refine K_getI cf12 flX12_225 (sq 146 rfl) (Or.inl rfl) dX12_task_56 ?_
        refine J_isub dX12_task_59 ?_
        exact J_ireturn rfl (Nat.le_refl _) (Nat.le_refl _) rfl dX12_task_60
theorem dX12_isTask_0 : decode cX12_isTask 0 = .ok (.iload_n 1, 1) := by decide +kernel
theorem dX12_isTask_1 : decode cX12_isTask 1 = .ok (.ifCond .lt 15, 3) := by decide +kernel
theorem dX12_isTask_4 : decode cX12_isTask 4 = .ok (.iload_n 1, 1) := by decide +kernel
theorem dX12_isTask_5 : decode cX12_isTask 5 = .ok (.aload_n 0, 1) := by decide +kernel
theorem dX12_isTask_6 : decode cX12_isTask 6 = .ok (.getfield 261, 3) := by decide +kernel
theorem dX12_isTask_9 : decode cX12_isTask 9 = .ok (.if_icmp .ge 7, 3) := by decide +kernel
theorem dX12_isTask_12 : decode cX12_isTask 12 = .ok (.iconst 1, 1) := by decide +kernel
theorem dX12_isTask_13 : decode cX12_isTask 13 = .ok (.goto 4, 3) := by decide +kernel
theorem dX12_isTask_16 : decode cX12_isTask 16 = .ok (.iconst 0, 1) := by decide +kernel
theorem dX12_isTask_17 : decode cX12_isTask 17 = .ok (.ireturn, 1) := by decide +kernel
set_option maxRecDepth 100000 in
set_option maxHeartbeats 4000000 in
theorem ct12_isTask (G : Gm) (t : Nat)  (x1 : Int32)  (S : St) : Ct G YX12_isTask yX12_isTask 1 0 0 (fI t) (f12_isTask x1 S) [vR (some 146), vI x1] (MM t S) := by
  refine Ct_of_J [some (vR (some 146)), some (vI x1)] (by decide) rfl (fun h => by cases h) (Nat.le_of_ble_eq_true rfl) (And.intro rfl (And.intro rfl (trivial))) ?_
  unfold f12_isTask
  refine J_iload_n dX12_isTask_0 rfl rfl ?_
  refine J_if_lt (tgt := 16) dX12_isTask_1 (by decide) (fun z1 => ?_) (fun z1 => ?_)
  · refine J_iconst (v := nI 0) dX12_isTask_16 (by decide) ?_
    exact J_zreturn (by decide) rfl (Nat.le_refl _) (Nat.le_refl _) rfl dX12_isTask_17
  · refine J_iload_n dX12_isTask_4 rfl rfl ?_
    refine J_aload_n dX12_isTask_5 rfl rfl ?_
    refine K_getI cf12 flX12_261 (sq 146 rfl) (Or.inl rfl) dX12_isTask_6 ?_
    refine J_icmp_ge (tgt := 16) dX12_isTask_9 (by decide) (fun z2 => ?_) (fun z2 => ?_)
    · refine J_iconst (v := nI 0) dX12_isTask_16 (by decide) ?_
      exact J_zreturn (by decide) rfl (Nat.le_refl _) (Nat.le_refl _) rfl dX12_isTask_17
    · refine J_iconst (v := nI 1) dX12_isTask_12 (by decide) ?_
      refine J_goto (tgt := 17) dX12_isTask_13 (by decide) ?_
      exact J_zreturn (by decide) rfl (Nat.le_refl _) (Nat.le_refl _) rfl dX12_isTask_17
theorem dX12_isPassed_0 : decode cX12_isPassed 0 = .ok (.aload_n 0, 1) := by decide +kernel
theorem dX12_isPassed_1 : decode cX12_isPassed 1 = .ok (.getfield 156, 3) := by decide +kernel
theorem dX12_isPassed_4 : decode cX12_isPassed 4 = .ok (.ifCond .le 24, 3) := by decide +kernel
theorem dX12_isPassed_7 : decode cX12_isPassed 7 = .ok (.aload_n 0, 1) := by decide +kernel
theorem dX12_isPassed_8 : decode cX12_isPassed 8 = .ok (.bipush 60, 2) := by decide +kernel
theorem dX12_isPassed_10 : decode cX12_isPassed 10 = .ok (.iload_n 1, 1) := by decide +kernel
theorem dX12_isPassed_11 : decode cX12_isPassed 11 = .ok (.imul, 1) := by decide +kernel
theorem dX12_isPassed_12 : decode cX12_isPassed 12 = .ok (.aload_n 0, 1) := by decide +kernel
theorem dX12_isPassed_13 : decode cX12_isPassed 13 = .ok (.getfield 66, 3) := by decide +kernel
theorem dX12_isPassed_16 : decode cX12_isPassed 16 = .ok (.iload_n 1, 1) := by decide +kernel
theorem dX12_isPassed_17 : decode cX12_isPassed 17 = .ok (.iaload, 1) := by decide +kernel
theorem dX12_isPassed_18 : decode cX12_isPassed 18 = .ok (.invokevirtual 264, 3) := by decide +kernel
theorem dX12_isPassed_21 : decode cX12_isPassed 21 = .ok (.ifCond .eq 7, 3) := by decide +kernel
theorem dX12_isPassed_24 : decode cX12_isPassed 24 = .ok (.iconst 1, 1) := by decide +kernel
theorem dX12_isPassed_25 : decode cX12_isPassed 25 = .ok (.goto 4, 3) := by decide +kernel
theorem dX12_isPassed_28 : decode cX12_isPassed 28 = .ok (.iconst 0, 1) := by decide +kernel
theorem dX12_isPassed_29 : decode cX12_isPassed 29 = .ok (.ireturn, 1) := by decide +kernel
set_option maxRecDepth 100000 in
set_option maxHeartbeats 4000000 in
theorem ct12_isPassed (G : Gm) (t : Nat) (N : Nat) (x1 : Int32)  (S : St) : Ct G YX12_isPassed yX12_isPassed 33 0 0 (fI t) (f12_isPassed N x1 S) [vR (some 146), vI x1] (MM t S) := by
  refine Ct_of_J [some (vR (some 146)), some (vI x1)] (by decide) rfl (fun h => by cases h) (Nat.le_of_ble_eq_true rfl) (And.intro rfl (And.intro rfl (trivial))) ?_
  unfold f12_isPassed
  refine J_aload_n dX12_isPassed_0 rfl rfl ?_
  refine K_getI cf12 flX12_156 (sq 146 rfl) (Or.inl rfl) dX12_isPassed_1 ?_
  refine J_if_le (tgt := 28) dX12_isPassed_4 (by decide) (fun z1 => ?_) (fun z1 => ?_)
  · refine J_iconst (v := nI 0) dX12_isPassed_28 (by decide) ?_
    exact J_zreturn (by decide) rfl (Nat.le_refl _) (Nat.le_refl _) rfl dX12_isPassed_29
  · refine J_aload_n dX12_isPassed_7 rfl rfl ?_
    refine J_bipush (v := nI 60) dX12_isPassed_8 (by decide) ?_
    refine J_iload_n dX12_isPassed_10 rfl rfl ?_
    refine J_imul dX12_isPassed_11 ?_
    refine J_aload_n dX12_isPassed_12 rfl rfl ?_
    refine K_getR (r := some (164)) cf12 flX12_66 (sq 146 rfl) rfl (Or.inr ⟨_, rfl⟩) dX12_isPassed_13 ?_
    refine J_iload_n dX12_isPassed_16 rfl rfl ?_
    refine K_iald (sq 164 rfl) dX12_isPassed_17 ?_
    refine K_callV_i (As := [vI ((nI 60) * x1), vI (S.1 164 x1.toNatClampNeg)]) mcX12_workOut mlX12_264 rfl (by decide) (sq 146 rfl) (ct12_workOut G t N ((nI 60) * x1) (S.1 164 x1.toNatClampNeg) S) rfl rfl (Nat.le_of_ble_eq_true rfl) (by decide) (Nat.le_of_ble_eq_true rfl) dX12_isPassed_18 (fun q2 S3 => ?_)
    refine J_if_eq (tgt := 28) dX12_isPassed_21 (by decide) (fun z4 => ?_) (fun z4 => ?_)
    · refine J_iconst (v := nI 0) dX12_isPassed_28 (by decide) ?_
      exact J_zreturn (by decide) rfl (Nat.le_refl _) (Nat.le_refl _) rfl dX12_isPassed_29
    · refine J_iconst (v := nI 1) dX12_isPassed_24 (by decide) ?_
      refine J_goto (tgt := 29) dX12_isPassed_25 (by decide) ?_
      exact J_zreturn (by decide) rfl (Nat.le_refl _) (Nat.le_refl _) rfl dX12_isPassed_29
theorem dX12_passes_0 : decode cX12_passes 0 = .ok (.aload_n 0, 1) := by decide +kernel
theorem dX12_passes_1 : decode cX12_passes 1 = .ok (.iload_n 1, 1) := by decide +kernel
theorem dX12_passes_2 : decode cX12_passes 2 = .ok (.invokevirtual 117, 3) := by decide +kernel
theorem dX12_passes_5 : decode cX12_passes 5 = .ok (.ifCond .eq 23, 3) := by decide +kernel
theorem dX12_passes_8 : decode cX12_passes 8 = .ok (.aload_n 0, 1) := by decide +kernel
theorem dX12_passes_9 : decode cX12_passes 9 = .ok (.iload_n 2, 1) := by decide +kernel
theorem dX12_passes_10 : decode cX12_passes 10 = .ok (.invokevirtual 268, 3) := by decide +kernel
theorem dX12_passes_13 : decode cX12_passes 13 = .ok (.ifCond .eq 15, 3) := by decide +kernel
theorem dX12_passes_16 : decode cX12_passes 16 = .ok (.iload_n 3, 1) := by decide +kernel
theorem dX12_passes_17 : decode cX12_passes 17 = .ok (.i2l, 1) := by decide +kernel
theorem dX12_passes_18 : decode cX12_passes 18 = .ok (.lconst 0, 1) := by decide +kernel
theorem dX12_passes_19 : decode cX12_passes 19 = .ok (.ldc2_w 177, 3) := by decide +kernel
theorem dX12_passes_22 : decode cX12_passes 22 = .ok (.invokestatic 109, 3) := by decide +kernel
theorem dX12_passes_25 : decode cX12_passes 25 = .ok (.ifCond .ne 5, 3) := by decide +kernel
theorem dX12_passes_28 : decode cX12_passes 28 = .ok (.iconst (-1), 1) := by decide +kernel
theorem dX12_passes_29 : decode cX12_passes 29 = .ok (.ireturn, 1) := by decide +kernel
theorem dX12_passes_30 : decode cX12_passes 30 = .ok (.aload_n 0, 1) := by decide +kernel
theorem dX12_passes_31 : decode cX12_passes 31 = .ok (.iload_n 1, 1) := by decide +kernel
theorem dX12_passes_32 : decode cX12_passes 32 = .ok (.invokevirtual 133, 3) := by decide +kernel
theorem dX12_passes_35 : decode cX12_passes 35 = .ok (.ifCond .ne 6, 3) := by decide +kernel
theorem dX12_passes_38 : decode cX12_passes 38 = .ok (.bipush (-5), 2) := by decide +kernel
theorem dX12_passes_40 : decode cX12_passes 40 = .ok (.ireturn, 1) := by decide +kernel
theorem dX12_passes_41 : decode cX12_passes 41 = .ok (.aload_n 0, 1) := by decide +kernel
theorem dX12_passes_42 : decode cX12_passes 42 = .ok (.iload_n 1, 1) := by decide +kernel
theorem dX12_passes_43 : decode cX12_passes 43 = .ok (.aload_n 0, 1) := by decide +kernel
theorem dX12_passes_44 : decode cX12_passes 44 = .ok (.invokevirtual 179, 3) := by decide +kernel
theorem dX12_passes_47 : decode cX12_passes 47 = .ok (.aload_n 0, 1) := by decide +kernel
theorem dX12_passes_48 : decode cX12_passes 48 = .ok (.getfield 69, 3) := by decide +kernel
theorem dX12_passes_51 : decode cX12_passes 51 = .ok (.iload_n 2, 1) := by decide +kernel
theorem dX12_passes_52 : decode cX12_passes 52 = .ok (.iaload, 1) := by decide +kernel
theorem dX12_passes_53 : decode cX12_passes 53 = .ok (.iload_n 3, 1) := by decide +kernel
theorem dX12_passes_54 : decode cX12_passes 54 = .ok (.invokevirtual 183, 3) := by decide +kernel
theorem dX12_passes_57 : decode cX12_passes 57 = .ok (.ifCond .ne 15, 3) := by decide +kernel
theorem dX12_passes_60 : decode cX12_passes 60 = .ok (.aload_n 0, 1) := by decide +kernel
theorem dX12_passes_61 : decode cX12_passes 61 = .ok (.iload_n 2, 1) := by decide +kernel
theorem dX12_passes_62 : decode cX12_passes 62 = .ok (.invokevirtual 271, 3) := by decide +kernel
theorem dX12_passes_65 : decode cX12_passes 65 = .ok (.ifCond .eq 7, 3) := by decide +kernel
theorem dX12_passes_68 : decode cX12_passes 68 = .ok (.iconst 1, 1) := by decide +kernel
theorem dX12_passes_69 : decode cX12_passes 69 = .ok (.goto 4, 3) := by decide +kernel
theorem dX12_passes_72 : decode cX12_passes 72 = .ok (.iconst 0, 1) := by decide +kernel
theorem dX12_passes_73 : decode cX12_passes 73 = .ok (.ireturn, 1) := by decide +kernel
set_option maxRecDepth 100000 in
set_option maxHeartbeats 4000000 in
theorem ct12_passes (G : Gm) (t : Nat) (N : Nat) (x1 : Int32) (x2 : Int32) (x3 : Int32)  (S : St) : Ct G YX12_passes yX12_passes 34 0 0 (fI t) (f12_passes N x1 x2 x3 S) [vR (some 146), vI x1, vI x2, vI x3] (MM t S) := by
  refine Ct_of_J [some (vR (some 146)), some (vI x1), some (vI x2), some (vI x3)] (by decide) rfl (fun h => by cases h) (Nat.le_of_ble_eq_true rfl) (And.intro rfl (And.intro rfl (And.intro rfl (And.intro rfl (trivial))))) ?_
  unfold f12_passes
  refine J_aload_n dX12_passes_0 rfl rfl ?_
  refine J_iload_n dX12_passes_1 rfl rfl ?_
  refine K_callV_i (As := [vI x1]) mcX12_isLanguage mlX12_117 rfl (by decide) (sq 146 rfl) (ct12_isLanguage G t x1 S) rfl rfl (Nat.le_of_ble_eq_true rfl) (by decide) (Nat.le_of_ble_eq_true rfl) dX12_passes_2 (fun q1 S2 => ?_)
  refine J_if_eq (tgt := 28) dX12_passes_5 (by decide) (fun z3 => ?_) (fun z3 => ?_)
  · refine J_iconst (v := (-1)) dX12_passes_28 (by decide) ?_
    exact J_ireturn rfl (Nat.le_refl _) (Nat.le_refl _) rfl dX12_passes_29
  · refine J_aload_n dX12_passes_8 rfl rfl ?_
    refine J_iload_n dX12_passes_9 rfl rfl ?_
    refine K_callV_i (As := [vI x2]) mcX12_isTask mlX12_268 rfl (by decide) (sq 146 rfl) (ct12_isTask G t x2 S2) rfl rfl (Nat.le_of_ble_eq_true rfl) (by decide) (Nat.le_of_ble_eq_true rfl) dX12_passes_10 (fun q4 S5 => ?_)
    refine J_if_eq (tgt := 28) dX12_passes_13 (by decide) (fun z6 => ?_) (fun z6 => ?_)
    · refine J_iconst (v := (-1)) dX12_passes_28 (by decide) ?_
      exact J_ireturn rfl (Nat.le_refl _) (Nat.le_refl _) rfl dX12_passes_29
    · refine J_iload_n dX12_passes_16 rfl rfl ?_
      refine J_i2l dX12_passes_17 ?_
      refine J_lconst (v := lN 0) dX12_passes_18 (by decide) ?_
      refine J_ldc2_w (v := lN 999) wX12_177 dX12_passes_19 ?_
      refine K_callS_i (As := [vL x3.toInt64, vL (lN 0), vL (lN 999)]) mcX12_within mlX12_109 (ct12_within G t x3.toInt64 (lN 0) (lN 999) S5) rfl rfl (Nat.le_of_ble_eq_true rfl) (by decide) (Nat.le_of_ble_eq_true rfl) dX12_passes_22 (fun q7 S8 => ?_)
      refine J_if_ne (tgt := 30) dX12_passes_25 (by decide) (fun z9 => ?_) (fun z9 => ?_)
      · refine J_iconst (v := (-1)) dX12_passes_28 (by decide) ?_
        exact J_ireturn rfl (Nat.le_refl _) (Nat.le_refl _) rfl dX12_passes_29
      · refine J_aload_n dX12_passes_30 rfl rfl ?_
        refine J_iload_n dX12_passes_31 rfl rfl ?_
        refine K_callV_i (As := [vI x1]) mcX12_isProgram mlX12_133 rfl (by decide) (sq 146 rfl) (ct12_isProgram G t N x1 S8) rfl rfl (Nat.le_of_ble_eq_true rfl) (by decide) (Nat.le_of_ble_eq_true rfl) dX12_passes_32 (fun q10 S11 => ?_)
        refine J_if_ne (tgt := 41) dX12_passes_35 (by decide) (fun z12 => ?_) (fun z12 => ?_)
        · refine J_bipush (v := (-5)) dX12_passes_38 (by decide) ?_
          exact J_ireturn rfl (Nat.le_refl _) (Nat.le_refl _) rfl dX12_passes_40
        · refine J_aload_n dX12_passes_41 rfl rfl ?_
          refine J_iload_n dX12_passes_42 rfl rfl ?_
          refine J_aload_n dX12_passes_43 rfl rfl ?_
          refine K_callV_l (As := []) mcX12_packed mlX12_179 rfl (by decide) (sq 146 rfl) (ct12_packed G t N S11) rfl rfl (Nat.le_of_ble_eq_true rfl) (by decide) (Nat.le_of_ble_eq_true rfl) dX12_passes_44 (fun q13 S14 => ?_)
          refine J_aload_n dX12_passes_47 rfl rfl ?_
          refine K_getR (r := some (165)) cf12 flX12_69 (sq 146 rfl) rfl (Or.inr ⟨_, rfl⟩) dX12_passes_48 ?_
          refine J_iload_n dX12_passes_51 rfl rfl ?_
          refine K_iald (sq 165 rfl) dX12_passes_52 ?_
          refine J_iload_n dX12_passes_53 rfl rfl ?_
          refine K_callV_i (As := [vI x1, vL q13, vI (S14.1 165 x2.toNatClampNeg), vI x3]) mcX12_runFor mlX12_183 rfl (by decide) (sq 146 rfl) (ct12_runFor G t N x1 q13 (S14.1 165 x2.toNatClampNeg) x3 S14) rfl rfl (Nat.le_of_ble_eq_true rfl) (by decide) (Nat.le_of_ble_eq_true rfl) dX12_passes_54 (fun q15 S16 => ?_)
          refine J_if_ne (tgt := 72) dX12_passes_57 (by decide) (fun z17 => ?_) (fun z17 => ?_)
          · refine J_aload_n dX12_passes_60 rfl rfl ?_
            refine J_iload_n dX12_passes_61 rfl rfl ?_
            refine K_callV_i (As := [vI x2]) mcX12_isPassed mlX12_271 rfl (by decide) (sq 146 rfl) (ct12_isPassed G t N x2 S16) rfl rfl (Nat.le_of_ble_eq_true rfl) (by decide) (Nat.le_of_ble_eq_true rfl) dX12_passes_62 (fun q18 S19 => ?_)
            refine J_if_eq (tgt := 72) dX12_passes_65 (by decide) (fun z20 => ?_) (fun z20 => ?_)
            · refine J_iconst (v := nI 0) dX12_passes_72 (by decide) ?_
              exact J_ireturn rfl (Nat.le_refl _) (Nat.le_refl _) rfl dX12_passes_73
            · refine J_iconst (v := nI 1) dX12_passes_68 (by decide) ?_
              refine J_goto (tgt := 73) dX12_passes_69 (by decide) ?_
              exact J_ireturn rfl (Nat.le_refl _) (Nat.le_refl _) rfl dX12_passes_73
          · refine J_iconst (v := nI 0) dX12_passes_72 (by decide) ?_
            exact J_ireturn rfl (Nat.le_refl _) (Nat.le_refl _) rfl dX12_passes_73
