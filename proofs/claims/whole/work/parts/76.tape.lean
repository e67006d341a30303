theorem dX9_length_0 : decode cX9_length 0 = .ok (.aload_n 0, 1) := by decide +kernel
theorem dX9_length_1 : decode cX9_length 1 = .ok (.getfield 13, 3) := by decide +kernel
theorem dX9_length_4 : decode cX9_length 4 = .ok (.ireturn, 1) := by decide +kernel
set_option maxRecDepth 100000 in
set_option maxHeartbeats 4000000 in
theorem ct9_length (G : Gm) (t : Nat)    (S : St) : Ct G YX9_length yX9_length 1 0 0 (fI t) (f9_length S) [vR (some 11)] (MM t S) := by
  refine Ct_of_J [some (vR (some 11))] (by decide) rfl (fun h => by cases h) (Nat.le_of_ble_eq_true rfl) (And.intro rfl (trivial)) ?_
  unfold f9_length
  refine J_aload_n dX9_length_0 rfl rfl ?_
  refine K_getI cf9 flX9_13 (sq 11 rfl) (Or.inl rfl) dX9_length_1 ?_
  exact J_ireturn rfl (Nat.le_refl _) (Nat.le_refl _) rfl dX9_length_4
theorem dX9_push_0 : decode cX9_push 0 = .ok (.aload_n 0, 1) := by decide +kernel
theorem dX9_push_1 : decode cX9_push 1 = .ok (.getfield 13, 3) := by decide +kernel
theorem dX9_push_4 : decode cX9_push 4 = .ok (.aload_n 0, 1) := by decide +kernel
theorem dX9_push_5 : decode cX9_push 5 = .ok (.getfield 9, 3) := by decide +kernel
theorem dX9_push_8 : decode cX9_push 8 = .ok (.arraylength, 1) := by decide +kernel
theorem dX9_push_9 : decode cX9_push 9 = .ok (.if_icmp .ge 23, 3) := by decide +kernel
theorem dX9_push_12 : decode cX9_push 12 = .ok (.aload_n 0, 1) := by decide +kernel
theorem dX9_push_13 : decode cX9_push 13 = .ok (.getfield 9, 3) := by decide +kernel
theorem dX9_push_16 : decode cX9_push 16 = .ok (.aload_n 0, 1) := by decide +kernel
theorem dX9_push_17 : decode cX9_push 17 = .ok (.getfield 13, 3) := by decide +kernel
theorem dX9_push_20 : decode cX9_push 20 = .ok (.iload_n 1, 1) := by decide +kernel
theorem dX9_push_21 : decode cX9_push 21 = .ok (.iastore, 1) := by decide +kernel
theorem dX9_push_22 : decode cX9_push 22 = .ok (.aload_n 0, 1) := by decide +kernel
theorem dX9_push_23 : decode cX9_push 23 = .ok (.dup, 1) := by decide +kernel
theorem dX9_push_24 : decode cX9_push 24 = .ok (.getfield 13, 3) := by decide +kernel
theorem dX9_push_27 : decode cX9_push 27 = .ok (.iconst 1, 1) := by decide +kernel
theorem dX9_push_28 : decode cX9_push 28 = .ok (.iadd, 1) := by decide +kernel
theorem dX9_push_29 : decode cX9_push 29 = .ok (.putfield 13, 3) := by decide +kernel
theorem dX9_push_32 : decode cX9_push 32 = .ok (.return_, 1) := by decide +kernel
set_option maxRecDepth 100000 in
set_option maxHeartbeats 4000000 in
theorem ct9_push (G : Gm) (t : Nat)  (x1 : Int32)  (S : St) : Ct G YX9_push yX9_push 1 0 0 (fV t) (f9_push x1 S) [vR (some 11), vI x1] (MM t S) := by
  refine Ct_of_J [some (vR (some 11)), some (vI x1)] (by decide) rfl (fun h => by cases h) (Nat.le_of_ble_eq_true rfl) (And.intro rfl (And.intro rfl (trivial))) ?_
  unfold f9_push
  refine J_aload_n dX9_push_0 rfl rfl ?_
  refine K_getI cf9 flX9_13 (sq 11 rfl) (Or.inl rfl) dX9_push_1 ?_
  refine J_aload_n dX9_push_4 rfl rfl ?_
  refine K_getR (r := some (12)) cf9 flX9_9 (sq 11 rfl) rfl (Or.inr ⟨_, rfl⟩) dX9_push_5 ?_
  refine K_alen (v := nI 60) (sq 12 rfl) (by decide) rfl dX9_push_8 ?_
  refine J_icmp_ge (tgt := 32) dX9_push_9 (by decide) (fun z1 => ?_) (fun z1 => ?_)
  · exact J_return rfl (Nat.le_refl _) (Nat.le_refl _) rfl dX9_push_32
  · refine J_aload_n dX9_push_12 rfl rfl ?_
    refine K_getR (r := some (12)) cf9 flX9_9 (sq 11 rfl) rfl (Or.inr ⟨_, rfl⟩) dX9_push_13 ?_
    refine J_aload_n dX9_push_16 rfl rfl ?_
    refine K_getI cf9 flX9_13 (sq 11 rfl) (Or.inl rfl) dX9_push_17 ?_
    refine J_iload_n dX9_push_20 rfl rfl ?_
    refine K_iast (sq 12 rfl) dX9_push_21 ?_
    refine J_ltS (fun S2 _ => ?_)
    refine J_aload_n dX9_push_22 rfl rfl ?_
    refine J_dup dX9_push_23 rfl ?_
    refine K_getI cf9 flX9_13 (sq 11 rfl) (Or.inl rfl) dX9_push_24 ?_
    refine J_iconst (v := nI 1) dX9_push_27 (by decide) ?_
    refine J_iadd dX9_push_28 ?_
    refine K_putI cf9 flX9_13 (sq 11 rfl) rfl dX9_push_29 ?_
    refine J_ltS (fun S3 _ => ?_)
    exact J_return rfl (Nat.le_refl _) (Nat.le_refl _) rfl dX9_push_32
theorem dX9_beEmpty_0 : decode cX9_beEmpty 0 = .ok (.aload_n 0, 1) := by decide +kernel
theorem dX9_beEmpty_1 : decode cX9_beEmpty 1 = .ok (.iconst 0, 1) := by decide +kernel
theorem dX9_beEmpty_2 : decode cX9_beEmpty 2 = .ok (.putfield 13, 3) := by decide +kernel
theorem dX9_beEmpty_5 : decode cX9_beEmpty 5 = .ok (.return_, 1) := by decide +kernel
set_option maxRecDepth 100000 in
set_option maxHeartbeats 4000000 in
theorem ct9_beEmpty (G : Gm) (t : Nat)    (S : St) : Ct G YX9_beEmpty yX9_beEmpty 1 0 0 (fV t) (f9_beEmpty S) [vR (some 11)] (MM t S) := by
  refine Ct_of_J [some (vR (some 11))] (by decide) rfl (fun h => by cases h) (Nat.le_of_ble_eq_true rfl) (And.intro rfl (trivial)) ?_
  unfold f9_beEmpty
  refine J_aload_n dX9_beEmpty_0 rfl rfl ?_
  refine J_iconst (v := nI 0) dX9_beEmpty_1 (by decide) ?_
  refine K_putI cf9 flX9_13 (sq 11 rfl) rfl dX9_beEmpty_2 ?_
  refine J_ltS (fun S1 _ => ?_)
  exact J_return rfl (Nat.le_refl _) (Nat.le_refl _) rfl dX9_beEmpty_5
theorem dX9_here_0 : decode cX9_here 0 = .ok (.aload_n 0, 1) := by decide +kernel
theorem dX9_here_1 : decode cX9_here 1 = .ok (.getfield 20, 3) := by decide +kernel
theorem dX9_here_4 : decode cX9_here 4 = .ok (.ifCond .ge 38, 3) := by decide +kernel
theorem dX9_here_7 : decode cX9_here 7 = .ok (.aload_n 0, 1) := by decide +kernel
theorem dX9_here_8 : decode cX9_here 8 = .ok (.getfield 17, 3) := by decide +kernel
theorem dX9_here_11 : decode cX9_here 11 = .ok (.aload_n 0, 1) := by decide +kernel
theorem dX9_here_12 : decode cX9_here 12 = .ok (.getfield 13, 3) := by decide +kernel
theorem dX9_here_15 : decode cX9_here 15 = .ok (.if_icmp .ge 27, 3) := by decide +kernel
theorem dX9_here_18 : decode cX9_here 18 = .ok (.aload_n 0, 1) := by decide +kernel
theorem dX9_here_19 : decode cX9_here 19 = .ok (.getfield 17, 3) := by decide +kernel
theorem dX9_here_22 : decode cX9_here 22 = .ok (.aload_n 0, 1) := by decide +kernel
theorem dX9_here_23 : decode cX9_here 23 = .ok (.getfield 9, 3) := by decide +kernel
theorem dX9_here_26 : decode cX9_here 26 = .ok (.arraylength, 1) := by decide +kernel
theorem dX9_here_27 : decode cX9_here 27 = .ok (.if_icmp .ge 15, 3) := by decide +kernel
theorem dX9_here_30 : decode cX9_here 30 = .ok (.aload_n 0, 1) := by decide +kernel
theorem dX9_here_31 : decode cX9_here 31 = .ok (.getfield 9, 3) := by decide +kernel
theorem dX9_here_34 : decode cX9_here 34 = .ok (.aload_n 0, 1) := by decide +kernel
theorem dX9_here_35 : decode cX9_here 35 = .ok (.getfield 17, 3) := by decide +kernel
theorem dX9_here_38 : decode cX9_here 38 = .ok (.iaload, 1) := by decide +kernel
theorem dX9_here_39 : decode cX9_here 39 = .ok (.goto 4, 3) := by decide +kernel
theorem dX9_here_42 : decode cX9_here 42 = .ok (.iconst (-1), 1) := by decide +kernel
theorem dX9_here_43 : decode cX9_here 43 = .ok (.ireturn, 1) := by decide +kernel
set_option maxRecDepth 100000 in
set_option maxHeartbeats 4000000 in
theorem ct9_here (G : Gm) (t : Nat)    (S : St) : Ct G YX9_here yX9_here 1 0 0 (fI t) (f9_here S) [vR (some 11)] (MM t S) := by
  refine Ct_of_J [some (vR (some 11))] (by decide) rfl (fun h => by cases h) (Nat.le_of_ble_eq_true rfl) (And.intro rfl (trivial)) ?_
  unfold f9_here
  refine J_aload_n dX9_here_0 rfl rfl ?_
  refine K_getI cf9 flX9_20 (sq 11 rfl) (Or.inl rfl) dX9_here_1 ?_
  refine J_if_ge (tgt := 42) dX9_here_4 (by decide) (fun z1 => ?_) (fun z1 => ?_)
  · refine J_iconst (v := (-1)) dX9_here_42 (by decide) ?_
    exact J_ireturn rfl (Nat.le_refl _) (Nat.le_refl _) rfl dX9_here_43
  · refine J_aload_n dX9_here_7 rfl rfl ?_
    refine K_getI cf9 flX9_17 (sq 11 rfl) (Or.inl rfl) dX9_here_8 ?_
    refine J_aload_n dX9_here_11 rfl rfl ?_
    refine K_getI cf9 flX9_13 (sq 11 rfl) (Or.inl rfl) dX9_here_12 ?_
    refine J_icmp_ge (tgt := 42) dX9_here_15 (by decide) (fun z2 => ?_) (fun z2 => ?_)
    · refine J_iconst (v := (-1)) dX9_here_42 (by decide) ?_
      exact J_ireturn rfl (Nat.le_refl _) (Nat.le_refl _) rfl dX9_here_43
    · refine J_aload_n dX9_here_18 rfl rfl ?_
      refine K_getI cf9 flX9_17 (sq 11 rfl) (Or.inl rfl) dX9_here_19 ?_
      refine J_aload_n dX9_here_22 rfl rfl ?_
      refine K_getR (r := some (12)) cf9 flX9_9 (sq 11 rfl) rfl (Or.inr ⟨_, rfl⟩) dX9_here_23 ?_
      refine K_alen (v := nI 60) (sq 12 rfl) (by decide) rfl dX9_here_26 ?_
      refine J_icmp_ge (tgt := 42) dX9_here_27 (by decide) (fun z3 => ?_) (fun z3 => ?_)
      · refine J_iconst (v := (-1)) dX9_here_42 (by decide) ?_
        exact J_ireturn rfl (Nat.le_refl _) (Nat.le_refl _) rfl dX9_here_43
      · refine J_aload_n dX9_here_30 rfl rfl ?_
        refine K_getR (r := some (12)) cf9 flX9_9 (sq 11 rfl) rfl (Or.inr ⟨_, rfl⟩) dX9_here_31 ?_
        refine J_aload_n dX9_here_34 rfl rfl ?_
        refine K_getI cf9 flX9_17 (sq 11 rfl) (Or.inl rfl) dX9_here_35 ?_
        refine K_iald (sq 12 rfl) dX9_here_38 ?_
        refine J_goto (tgt := 43) dX9_here_39 (by decide) ?_
        exact J_ireturn rfl (Nat.le_refl _) (Nat.le_refl _) rfl dX9_here_43
theorem dX9_goesOnWith_0 : decode cX9_goesOnWith 0 = .ok (.aload_n 0, 1) := by decide +kernel
theorem dX9_goesOnWith_1 : decode cX9_goesOnWith 1 = .ok (.invokevirtual 36, 3) := by decide +kernel
theorem dX9_goesOnWith_4 : decode cX9_goesOnWith 4 = .ok (.iload_n 1, 1) := by decide +kernel
theorem dX9_goesOnWith_5 : decode cX9_goesOnWith 5 = .ok (.if_icmp .eq 5, 3) := by decide +kernel
theorem dX9_goesOnWith_8 : decode cX9_goesOnWith 8 = .ok (.iconst 0, 1) := by decide +kernel
theorem dX9_goesOnWith_9 : decode cX9_goesOnWith 9 = .ok (.ireturn, 1) := by decide +kernel
theorem dX9_goesOnWith_10 : decode cX9_goesOnWith 10 = .ok (.aload_n 0, 1) := by decide +kernel
theorem dX9_goesOnWith_11 : decode cX9_goesOnWith 11 = .ok (.dup, 1) := by decide +kernel
theorem dX9_goesOnWith_12 : decode cX9_goesOnWith 12 = .ok (.getfield 17, 3) := by decide +kernel
theorem dX9_goesOnWith_15 : decode cX9_goesOnWith 15 = .ok (.iconst 1, 1) := by decide +kernel
theorem dX9_goesOnWith_16 : decode cX9_goesOnWith 16 = .ok (.iadd, 1) := by decide +kernel
theorem dX9_goesOnWith_17 : decode cX9_goesOnWith 17 = .ok (.putfield 17, 3) := by decide +kernel
theorem dX9_goesOnWith_20 : decode cX9_goesOnWith 20 = .ok (.iconst 1, 1) := by decide +kernel
theorem dX9_goesOnWith_21 : decode cX9_goesOnWith 21 = .ok (.ireturn, 1) := by decide +kernel
set_option maxRecDepth 100000 in
set_option maxHeartbeats 4000000 in
theorem ct9_goesOnWith (G : Gm) (t : Nat)  (x1 : Int32)  (S : St) : Ct G YX9_goesOnWith yX9_goesOnWith 2 0 0 (fI t) (f9_goesOnWith x1 S) [vR (some 11), vI x1] (MM t S) := by
  refine Ct_of_J [some (vR (some 11)), some (vI x1)] (by decide) rfl (fun h => by cases h) (Nat.le_of_ble_eq_true rfl) (And.intro rfl (And.intro rfl (trivial))) ?_
  unfold f9_goesOnWith
  refine J_aload_n dX9_goesOnWith_0 rfl rfl ?_
  refine K_callV_i (As := []) mcX9_here mlX9_36 rfl (by decide) (sq 11 rfl) (ct9_here G t S) rfl rfl (Nat.le_of_ble_eq_true rfl) (by decide) (Nat.le_of_ble_eq_true rfl) dX9_goesOnWith_1 (fun q1 S2 => ?_)
  refine J_iload_n dX9_goesOnWith_4 rfl rfl ?_
  refine J_icmp_eq (tgt := 10) dX9_goesOnWith_5 (by decide) (fun z3 => ?_) (fun z3 => ?_)
  · refine J_aload_n dX9_goesOnWith_10 rfl rfl ?_
    refine J_dup dX9_goesOnWith_11 rfl ?_
    refine K_getI cf9 flX9_17 (sq 11 rfl) (Or.inl rfl) dX9_goesOnWith_12 ?_
    refine J_iconst (v := nI 1) dX9_goesOnWith_15 (by decide) ?_
    refine J_iadd dX9_goesOnWith_16 ?_
    refine K_putI cf9 flX9_17 (sq 11 rfl) rfl dX9_goesOnWith_17 ?_
    refine J_ltS (fun S4 _ => ?_)
    refine J_iconst (v := nI 1) dX9_goesOnWith_20 (by decide) ?_
    exact J_zreturn (by decide) rfl (Nat.le_refl _) (Nat.le_refl _) rfl dX9_goesOnWith_21
  · refine J_iconst (v := nI 0) dX9_goesOnWith_8 (by decide) ?_
    exact J_zreturn (by decide) rfl (Nat.le_refl _) (Nat.le_refl _) rfl dX9_goesOnWith_9
theorem dX9_writeIf_0 : decode cX9_writeIf 0 = .ok (.iload_n 0, 1) := by decide +kernel
theorem dX9_writeIf_1 : decode cX9_writeIf 1 = .ok (.ifCond .eq 8, 3) := by decide +kernel
theorem dX9_writeIf_4 : decode cX9_writeIf 4 = .ok (.aload_n 1, 1) := by decide +kernel
theorem dX9_writeIf_5 : decode cX9_writeIf 5 = .ok (.iload_n 2, 1) := by decide +kernel
theorem dX9_writeIf_6 : decode cX9_writeIf 6 = .ok (.invokevirtual 47, 3) := by decide +kernel
theorem dX9_writeIf_9 : decode cX9_writeIf 9 = .ok (.return_, 1) := by decide +kernel
set_option maxRecDepth 100000 in
set_option maxHeartbeats 4000000 in
theorem ct9_writeIf (G : Gm) (t : Nat)  (x0 : Int32) (a1 : Nat) (x2 : Int32) (h1 : a1 ∈ ad1) (S : St) : Ct G YX9_writeIf yX9_writeIf 2 0 0 (fV t) (f9_writeIf x0 a1 x2 S) [vI x0, vR (some a1), vI x2] (MM t S) := by
  refine Ct_of_J [some (vI x0), some (vR (some a1)), some (vI x2)] (by decide) rfl (fun h => by cases h) (Nat.le_of_ble_eq_true rfl) (And.intro rfl (And.intro rfl (And.intro rfl (trivial)))) ?_
  unfold f9_writeIf
  refine J_iload_n dX9_writeIf_0 rfl rfl ?_
  refine J_if_eq (tgt := 9) dX9_writeIf_1 (by decide) (fun z1 => ?_) (fun z1 => ?_)
  · exact J_return rfl (Nat.le_refl _) (Nat.le_refl _) rfl dX9_writeIf_9
  · refine J_aload_n dX9_writeIf_4 rfl rfl ?_
    refine J_iload_n dX9_writeIf_5 rfl rfl ?_
    refine K_callV_v (As := [vI x2]) mcX1_write mlX9_47 rfl (by decide) (sq1_0 h1) (ct1_write G t a1 x2 h1 S) rfl rfl (Nat.le_of_ble_eq_true rfl) (by decide) (Nat.le_of_ble_eq_true rfl) dX9_writeIf_6 (fun q2 S3 => ?_)
    exact J_return rfl (Nat.le_refl _) (Nat.le_refl _) rfl dX9_writeIf_9
theorem dX9_readAny_0 : decode cX9_readAny 0 = .ok (.iconst 0, 1) := by decide +kernel
theorem dX9_readAny_1 : decode cX9_readAny 1 = .ok (.istore_n 3, 1) := by decide +kernel
theorem dX9_readAny_2 : decode cX9_readAny 2 = .ok (.aload_n 0, 1) := by decide +kernel
theorem dX9_readAny_3 : decode cX9_readAny 3 = .ok (.aload_n 1, 1) := by decide +kernel
theorem dX9_readAny_4 : decode cX9_readAny 4 = .ok (.iload_n 2, 1) := by decide +kernel
theorem dX9_readAny_5 : decode cX9_readAny 5 = .ok (.invokevirtual 40, 3) := by decide +kernel
theorem dX9_readAny_8 : decode cX9_readAny 8 = .ok (.iconst 0, 1) := by decide +kernel
theorem dX9_readAny_9 : decode cX9_readAny 9 = .ok (.istore 4, 2) := by decide +kernel
theorem dX9_readAny_11 : decode cX9_readAny 11 = .ok (.iload 4, 2) := by decide +kernel
theorem dX9_readAny_13 : decode cX9_readAny 13 = .ok (.bipush 60, 2) := by decide +kernel
theorem dX9_readAny_15 : decode cX9_readAny 15 = .ok (.if_icmp .ge 71, 3) := by decide +kernel
theorem dX9_readAny_18 : decode cX9_readAny 18 = .ok (.aload_n 0, 1) := by decide +kernel
theorem dX9_readAny_19 : decode cX9_readAny 19 = .ok (.invokevirtual 36, 3) := by decide +kernel
theorem dX9_readAny_22 : decode cX9_readAny 22 = .ok (.bipush 38, 2) := by decide +kernel
theorem dX9_readAny_24 : decode cX9_readAny 24 = .ok (.if_icmp .eq 12, 3) := by decide +kernel
theorem dX9_readAny_27 : decode cX9_readAny 27 = .ok (.aload_n 0, 1) := by decide +kernel
theorem dX9_readAny_28 : decode cX9_readAny 28 = .ok (.invokevirtual 36, 3) := by decide +kernel
theorem dX9_readAny_31 : decode cX9_readAny 31 = .ok (.bipush 124, 2) := by decide +kernel
theorem dX9_readAny_33 : decode cX9_readAny 33 = .ok (.if_icmp .ne 53, 3) := by decide +kernel
theorem dX9_readAny_36 : decode cX9_readAny 36 = .ok (.aload_n 0, 1) := by decide +kernel
theorem dX9_readAny_37 : decode cX9_readAny 37 = .ok (.bipush 38, 2) := by decide +kernel
theorem dX9_readAny_39 : decode cX9_readAny 39 = .ok (.invokevirtual 43, 3) := by decide +kernel
theorem dX9_readAny_42 : decode cX9_readAny 42 = .ok (.ifCond .eq 18, 3) := by decide +kernel
theorem dX9_readAny_45 : decode cX9_readAny 45 = .ok (.aload_n 0, 1) := by decide +kernel
theorem dX9_readAny_46 : decode cX9_readAny 46 = .ok (.aload_n 1, 1) := by decide +kernel
theorem dX9_readAny_47 : decode cX9_readAny 47 = .ok (.iload_n 2, 1) := by decide +kernel
theorem dX9_readAny_48 : decode cX9_readAny 48 = .ok (.invokevirtual 40, 3) := by decide +kernel
theorem dX9_readAny_51 : decode cX9_readAny 51 = .ok (.aload_n 1, 1) := by decide +kernel
theorem dX9_readAny_52 : decode cX9_readAny 52 = .ok (.bipush 38, 2) := by decide +kernel
theorem dX9_readAny_54 : decode cX9_readAny 54 = .ok (.invokevirtual 47, 3) := by decide +kernel
theorem dX9_readAny_57 : decode cX9_readAny 57 = .ok (.goto 23, 3) := by decide +kernel
theorem dX9_readAny_60 : decode cX9_readAny 60 = .ok (.iload_n 3, 1) := by decide +kernel
theorem dX9_readAny_61 : decode cX9_readAny 61 = .ok (.aload_n 1, 1) := by decide +kernel
theorem dX9_readAny_62 : decode cX9_readAny 62 = .ok (.bipush 124, 2) := by decide +kernel
theorem dX9_readAny_64 : decode cX9_readAny 64 = .ok (.invokestatic 50, 3) := by decide +kernel
theorem dX9_readAny_67 : decode cX9_readAny 67 = .ok (.aload_n 0, 1) := by decide +kernel
theorem dX9_readAny_68 : decode cX9_readAny 68 = .ok (.bipush 124, 2) := by decide +kernel
theorem dX9_readAny_70 : decode cX9_readAny 70 = .ok (.invokevirtual 43, 3) := by decide +kernel
theorem dX9_readAny_73 : decode cX9_readAny 73 = .ok (.istore_n 3, 1) := by decide +kernel
theorem dX9_readAny_74 : decode cX9_readAny 74 = .ok (.aload_n 0, 1) := by decide +kernel
theorem dX9_readAny_75 : decode cX9_readAny 75 = .ok (.aload_n 1, 1) := by decide +kernel
theorem dX9_readAny_76 : decode cX9_readAny 76 = .ok (.iload_n 2, 1) := by decide +kernel
theorem dX9_readAny_77 : decode cX9_readAny 77 = .ok (.invokevirtual 40, 3) := by decide +kernel
theorem dX9_readAny_80 : decode cX9_readAny 80 = .ok (.iinc 4 1, 3) := by decide +kernel
theorem dX9_readAny_83 : decode cX9_readAny 83 = .ok (.goto (-72), 3) := by decide +kernel
theorem dX9_readAny_86 : decode cX9_readAny 86 = .ok (.iload_n 3, 1) := by decide +kernel
theorem dX9_readAny_87 : decode cX9_readAny 87 = .ok (.aload_n 1, 1) := by decide +kernel
theorem dX9_readAny_88 : decode cX9_readAny 88 = .ok (.bipush 124, 2) := by decide +kernel
theorem dX9_readAny_90 : decode cX9_readAny 90 = .ok (.invokestatic 50, 3) := by decide +kernel
theorem dX9_readAny_93 : decode cX9_readAny 93 = .ok (.return_, 1) := by decide +kernel
set_option maxRecDepth 100000 in
set_option maxHeartbeats 4000000 in
theorem t9_readAny_j86 (G : Gm) (t : Nat) (N : Nat) (pv : Nat → Int32 → St → Option (Unit × St)) (dv : Nat) (hdv : 5 ≤ dv) (hpv : ∀ (a1 : Nat) (x2 : Int32) (h1 : a1 ∈ ad1) (S : St), Ct G YX9_readOne yX9_readOne dv 0 0 (fV t) (pv a1 x2 S) [vR (some 11), vR (some a1), vI x2] (MM t S)) (a1 : Nat) (x3 : Int32) (h1 : a1 ∈ ad1)   : ∀  (S : St), J G YX9_readAny (dv + 1) 0 0 (fV t) 0 0 86 [none, some (vR (some a1)), none, some (vI x3), none] [] (MM t S) (f9_readAny_j86 N pv a1 x3 S) := by
  intro S
  unfold f9_readAny_j86
  refine J_iload_n dX9_readAny_86 rfl rfl ?_
  refine J_aload_n dX9_readAny_87 rfl rfl ?_
  refine J_bipush (v := nI 124) dX9_readAny_88 (by decide) ?_
  refine K_callS_v (As := [vI x3, vR (some a1), vI (nI 124)]) mcX9_writeIf mlX9_50 (ct9_writeIf G t x3 a1 (nI 124) h1 S) rfl rfl (Nat.le_of_ble_eq_true rfl) (by omega) (Nat.le_of_ble_eq_true rfl) dX9_readAny_90 (fun q1 S2 => ?_)
  exact J_return rfl (Nat.le_refl _) (Nat.le_refl _) rfl dX9_readAny_93
set_option maxRecDepth 100000 in
set_option maxHeartbeats 4000000 in
theorem t9_readAny_j36 (G : Gm) (t : Nat) (N : Nat) (pv : Nat → Int32 → St → Option (Unit × St)) (dv : Nat) (hdv : 5 ≤ dv) (hpv : ∀ (a1 : Nat) (x2 : Int32) (h1 : a1 ∈ ad1) (S : St), Ct G YX9_readOne yX9_readOne dv 0 0 (fV t) (pv a1 x2 S) [vR (some 11), vR (some a1), vI x2] (MM t S)) (a1 : Nat) (x2 : Int32) (x3 : Int32) (x4 : Int32) (h1 : a1 ∈ ad1) (k11 : Int32 → Int32 → St → Option (Unit × St)) (hk11 : ∀ (yx3 : Int32) (yx4 : Int32) (S : St), J G YX9_readAny (dv + 1) 0 0 (fV t) 0 0 11 [some (vR (some 11)), some (vR (some a1)), some (vI x2), some (vI yx3), some (vI yx4)] [] (MM t S) (k11 yx3 yx4 S)) : ∀  (S : St), J G YX9_readAny (dv + 1) 0 0 (fV t) 0 0 36 [some (vR (some 11)), some (vR (some a1)), some (vI x2), some (vI x3), some (vI x4)] [] (MM t S) (f9_readAny_j36 N pv a1 x2 x3 x4 k11 S) := by
  intro S
  unfold f9_readAny_j36
  refine J_aload_n dX9_readAny_36 rfl rfl ?_
  refine J_bipush (v := nI 38) dX9_readAny_37 (by decide) ?_
  refine K_callV_i (As := [vI (nI 38)]) mcX9_goesOnWith mlX9_43 rfl (by decide) (sq 11 rfl) (ct9_goesOnWith G t (nI 38) S) rfl rfl (Nat.le_of_ble_eq_true rfl) (by omega) (Nat.le_of_ble_eq_true rfl) dX9_readAny_39 (fun q1 S2 => ?_)
  refine J_if_eq (tgt := 60) dX9_readAny_42 (by decide) (fun z3 => ?_) (fun z3 => ?_)
  · refine J_iload_n dX9_readAny_60 rfl rfl ?_
    refine J_aload_n dX9_readAny_61 rfl rfl ?_
    refine J_bipush (v := nI 124) dX9_readAny_62 (by decide) ?_
    refine K_callS_v (As := [vI x3, vR (some a1), vI (nI 124)]) mcX9_writeIf mlX9_50 (ct9_writeIf G t x3 a1 (nI 124) h1 S2) rfl rfl (Nat.le_of_ble_eq_true rfl) (by omega) (Nat.le_of_ble_eq_true rfl) dX9_readAny_64 (fun q4 S5 => ?_)
    refine J_aload_n dX9_readAny_67 rfl rfl ?_
    refine J_bipush (v := nI 124) dX9_readAny_68 (by decide) ?_
    refine K_callV_i (As := [vI (nI 124)]) mcX9_goesOnWith mlX9_43 rfl (by decide) (sq 11 rfl) (ct9_goesOnWith G t (nI 124) S5) rfl rfl (Nat.le_of_ble_eq_true rfl) (by omega) (Nat.le_of_ble_eq_true rfl) dX9_readAny_70 (fun q6 S7 => ?_)
    refine J_istore_n [some (vR (some 11)), some (vR (some a1)), some (vI x2), some (vI q6), some (vI x4)] dX9_readAny_73 rfl (Nat.le_of_ble_eq_true rfl) rfl rfl ?_
    refine J_aload_n dX9_readAny_74 rfl rfl ?_
    refine J_aload_n dX9_readAny_75 rfl rfl ?_
    refine J_iload_n dX9_readAny_76 rfl rfl ?_
    refine K_callV_v (As := [vR (some a1), vI x2]) mcX9_readOne mlX9_40 rfl (by decide) (sq 11 rfl) (hpv a1 x2 h1 S7) rfl rfl (Nat.le_of_ble_eq_true rfl) (by omega) (Nat.le_of_ble_eq_true rfl) dX9_readAny_77 (fun q8 S9 => ?_)
    refine J_iinc (v := x4 + nI 1) [some (vR (some 11)), some (vR (some a1)), some (vI x2), some (vI q6), some (vI (x4 + nI 1))] dX9_readAny_80 rfl rfl (Nat.le_of_ble_eq_true rfl) rfl rfl ?_
    refine J_goto (tgt := 11) dX9_readAny_83 (by decide) ?_
    exact J_sb (hk11 q6 (x4 + nI 1) S9) (And.intro rfl (And.intro rfl (And.intro rfl (And.intro rfl (And.intro rfl (trivial))))))
  · refine J_aload_n dX9_readAny_45 rfl rfl ?_
    refine J_aload_n dX9_readAny_46 rfl rfl ?_
    refine J_iload_n dX9_readAny_47 rfl rfl ?_
    refine K_callV_v (As := [vR (some a1), vI x2]) mcX9_readOne mlX9_40 rfl (by decide) (sq 11 rfl) (hpv a1 x2 h1 S2) rfl rfl (Nat.le_of_ble_eq_true rfl) (by omega) (Nat.le_of_ble_eq_true rfl) dX9_readAny_48 (fun q10 S11 => ?_)
    refine J_aload_n dX9_readAny_51 rfl rfl ?_
    refine J_bipush (v := nI 38) dX9_readAny_52 (by decide) ?_
    refine K_callV_v (As := [vI (nI 38)]) mcX1_write mlX9_47 rfl (by decide) (sq1_0 h1) (ct1_write G t a1 (nI 38) h1 S11) rfl rfl (Nat.le_of_ble_eq_true rfl) (by omega) (Nat.le_of_ble_eq_true rfl) dX9_readAny_54 (fun q12 S13 => ?_)
    refine J_goto (tgt := 80) dX9_readAny_57 (by decide) ?_
    refine J_iinc (v := x4 + nI 1) [some (vR (some 11)), some (vR (some a1)), some (vI x2), some (vI x3), some (vI (x4 + nI 1))] dX9_readAny_80 rfl rfl (Nat.le_of_ble_eq_true rfl) rfl rfl ?_
    refine J_goto (tgt := 11) dX9_readAny_83 (by decide) ?_
    exact J_sb (hk11 x3 (x4 + nI 1) S13) (And.intro rfl (And.intro rfl (And.intro rfl (And.intro rfl (And.intro rfl (trivial))))))
set_option maxRecDepth 100000 in
set_option maxHeartbeats 4000000 in
theorem t9_readAny_h11 (G : Gm) (t : Nat) (N : Nat) (pv : Nat → Int32 → St → Option (Unit × St)) (dv : Nat) (hdv : 5 ≤ dv) (hpv : ∀ (a1 : Nat) (x2 : Int32) (h1 : a1 ∈ ad1) (S : St), Ct G YX9_readOne yX9_readOne dv 0 0 (fV t) (pv a1 x2 S) [vR (some 11), vR (some a1), vI x2] (MM t S)) (a1 : Nat) (x2 : Int32) (h1 : a1 ∈ ad1)   : ∀ (n : Nat) (x3 : Int32) (x4 : Int32) (S : St), J G YX9_readAny (dv + 1) 0 0 (fV t) 0 0 11 [some (vR (some 11)), some (vR (some a1)), some (vI x2), some (vI x3), some (vI x4)] [] (MM t S) (f9_readAny_h11 N pv a1 x2 n x3 x4 S) := by
  intro n
  induction n with
  | zero => intro x3 x4 S; exact J_none
  | succ n ih =>
    intro x3 x4 S
    rw [f9_readAny_h11]
    refine J_iload dX9_readAny_11 rfl ?_
    refine J_bipush (v := nI 60) dX9_readAny_13 (by decide) ?_
    refine J_icmp_ge (tgt := 86) dX9_readAny_15 (by decide) (fun z1 => ?_) (fun z1 => ?_)
    · exact J_sb (t9_readAny_j86 G t N pv dv hdv hpv a1 x3 h1 S) (And.intro rfl (And.intro rfl (trivial)))
    · refine J_aload_n dX9_readAny_18 rfl rfl ?_
      refine K_callV_i (As := []) mcX9_here mlX9_36 rfl (by decide) (sq 11 rfl) (ct9_here G t S) rfl rfl (Nat.le_of_ble_eq_true rfl) (by omega) (Nat.le_of_ble_eq_true rfl) dX9_readAny_19 (fun q2 S3 => ?_)
      refine J_bipush (v := nI 38) dX9_readAny_22 (by decide) ?_
      refine J_icmp_eq (tgt := 36) dX9_readAny_24 (by decide) (fun z4 => ?_) (fun z4 => ?_)
      · exact J_sb (t9_readAny_j36 G t N pv dv hdv hpv a1 x2 x3 x4 h1 (f9_readAny_h11 N pv a1 x2 n) ih S3) (And.intro rfl (And.intro rfl (And.intro rfl (And.intro rfl (And.intro rfl (trivial))))))
      · refine J_aload_n dX9_readAny_27 rfl rfl ?_
        refine K_callV_i (As := []) mcX9_here mlX9_36 rfl (by decide) (sq 11 rfl) (ct9_here G t S3) rfl rfl (Nat.le_of_ble_eq_true rfl) (by omega) (Nat.le_of_ble_eq_true rfl) dX9_readAny_28 (fun q5 S6 => ?_)
        refine J_bipush (v := nI 124) dX9_readAny_31 (by decide) ?_
        refine J_icmp_ne (tgt := 86) dX9_readAny_33 (by decide) (fun z7 => ?_) (fun z7 => ?_)
        · exact J_sb (t9_readAny_j36 G t N pv dv hdv hpv a1 x2 x3 x4 h1 (f9_readAny_h11 N pv a1 x2 n) ih S6) (And.intro rfl (And.intro rfl (And.intro rfl (And.intro rfl (And.intro rfl (trivial))))))
        · exact J_sb (t9_readAny_j86 G t N pv dv hdv hpv a1 x3 h1 S6) (And.intro rfl (And.intro rfl (trivial)))
set_option maxRecDepth 100000 in
set_option maxHeartbeats 4000000 in
theorem ct9_readAny (G : Gm) (t : Nat) (N : Nat) (pv : Nat → Int32 → St → Option (Unit × St)) (dv : Nat) (hdv : 5 ≤ dv) (hpv : ∀ (a1 : Nat) (x2 : Int32) (h1 : a1 ∈ ad1) (S : St), Ct G YX9_readOne yX9_readOne dv 0 0 (fV t) (pv a1 x2 S) [vR (some 11), vR (some a1), vI x2] (MM t S)) (a1 : Nat) (x2 : Int32) (h1 : a1 ∈ ad1) (S : St) : Ct G YX9_readAny yX9_readAny (dv + 1) 0 0 (fV t) (f9_readAny N pv a1 x2 S) [vR (some 11), vR (some a1), vI x2] (MM t S) := by
  refine Ct_of_J [some (vR (some 11)), some (vR (some a1)), some (vI x2), none, none] (by decide) rfl (fun h => by cases h) (Nat.le_of_ble_eq_true rfl) (And.intro rfl (And.intro rfl (And.intro rfl (trivial)))) ?_
  unfold f9_readAny
  refine J_iconst (v := nI 0) dX9_readAny_0 (by decide) ?_
  refine J_istore_n [some (vR (some 11)), some (vR (some a1)), some (vI x2), some (vI (nI 0)), none] dX9_readAny_1 rfl (Nat.le_of_ble_eq_true rfl) rfl rfl ?_
  refine J_aload_n dX9_readAny_2 rfl rfl ?_
  refine J_aload_n dX9_readAny_3 rfl rfl ?_
  refine J_iload_n dX9_readAny_4 rfl rfl ?_
  refine K_callV_v (As := [vR (some a1), vI x2]) mcX9_readOne mlX9_40 rfl (by decide) (sq 11 rfl) (hpv a1 x2 h1 S) rfl rfl (Nat.le_of_ble_eq_true rfl) (by omega) (Nat.le_of_ble_eq_true rfl) dX9_readAny_5 (fun q1 S2 => ?_)
  refine J_iconst (v := nI 0) dX9_readAny_8 (by decide) ?_
  refine J_istore [some (vR (some 11)), some (vR (some a1)), some (vI x2), some (vI (nI 0)), some (vI (nI 0))] dX9_readAny_9 (Nat.le_of_ble_eq_true rfl) rfl rfl ?_
  exact J_sb (t9_readAny_h11 G t N pv dv hdv hpv a1 x2 h1 N (nI 0) (nI 0) S2) (And.intro rfl (And.intro rfl (And.intro rfl (And.intro rfl (And.intro rfl (trivial))))))
theorem dX9_isDigit_0 : decode cX9_isDigit 0 = .ok (.iload_n 0, 1) := by decide +kernel
theorem dX9_isDigit_1 : decode cX9_isDigit 1 = .ok (.bipush 48, 2) := by decide +kernel
theorem dX9_isDigit_3 : decode cX9_isDigit 3 = .ok (.if_icmp .lt 13, 3) := by decide +kernel
theorem dX9_isDigit_6 : decode cX9_isDigit 6 = .ok (.iload_n 0, 1) := by decide +kernel
theorem dX9_isDigit_7 : decode cX9_isDigit 7 = .ok (.bipush 57, 2) := by decide +kernel
theorem dX9_isDigit_9 : decode cX9_isDigit 9 = .ok (.if_icmp .gt 7, 3) := by decide +kernel
theorem dX9_isDigit_12 : decode cX9_isDigit 12 = .ok (.iconst 1, 1) := by decide +kernel
theorem dX9_isDigit_13 : decode cX9_isDigit 13 = .ok (.goto 4, 3) := by decide +kernel
theorem dX9_isDigit_16 : decode cX9_isDigit 16 = .ok (.iconst 0, 1) := by decide +kernel
theorem dX9_isDigit_17 : decode cX9_isDigit 17 = .ok (.ireturn, 1) := by decide +kernel
set_option maxRecDepth 100000 in
set_option maxHeartbeats 4000000 in
theorem ct9_isDigit (G : Gm) (t : Nat)  (x0 : Int32)  (S : St) : Ct G YX9_isDigit yX9_isDigit 1 0 0 (fI t) (f9_isDigit x0 S) [vI x0] (MM t S) := by
  refine Ct_of_J [some (vI x0)] (by decide) rfl (fun h => by cases h) (Nat.le_of_ble_eq_true rfl) (And.intro rfl (trivial)) ?_
  unfold f9_isDigit
  refine J_iload_n dX9_isDigit_0 rfl rfl ?_
  refine J_bipush (v := nI 48) dX9_isDigit_1 (by decide) ?_
  refine J_icmp_lt (tgt := 16) dX9_isDigit_3 (by decide) (fun z1 => ?_) (fun z1 => ?_)
  · refine J_iconst (v := nI 0) dX9_isDigit_16 (by decide) ?_
    exact J_zreturn (by decide) rfl (Nat.le_refl _) (Nat.le_refl _) rfl dX9_isDigit_17
  · refine J_iload_n dX9_isDigit_6 rfl rfl ?_
    refine J_bipush (v := nI 57) dX9_isDigit_7 (by decide) ?_
    refine J_icmp_gt (tgt := 16) dX9_isDigit_9 (by decide) (fun z2 => ?_) (fun z2 => ?_)
    · refine J_iconst (v := nI 0) dX9_isDigit_16 (by decide) ?_
      exact J_zreturn (by decide) rfl (Nat.le_refl _) (Nat.le_refl _) rfl dX9_isDigit_17
    · refine J_iconst (v := nI 1) dX9_isDigit_12 (by decide) ?_
      refine J_goto (tgt := 17) dX9_isDigit_13 (by decide) ?_
      exact J_zreturn (by decide) rfl (Nat.le_refl _) (Nat.le_refl _) rfl dX9_isDigit_17
theorem dX9_fail_0 : decode cX9_fail 0 = .ok (.aload_n 0, 1) := by decide +kernel
theorem dX9_fail_1 : decode cX9_fail 1 = .ok (.getfield 20, 3) := by decide +kernel
theorem dX9_fail_4 : decode cX9_fail 4 = .ok (.ifCond .ge 11, 3) := by decide +kernel
theorem dX9_fail_7 : decode cX9_fail 7 = .ok (.aload_n 0, 1) := by decide +kernel
theorem dX9_fail_8 : decode cX9_fail 8 = .ok (.aload_n 0, 1) := by decide +kernel
theorem dX9_fail_9 : decode cX9_fail 9 = .ok (.getfield 17, 3) := by decide +kernel
theorem dX9_fail_12 : decode cX9_fail 12 = .ok (.putfield 20, 3) := by decide +kernel
theorem dX9_fail_15 : decode cX9_fail 15 = .ok (.return_, 1) := by decide +kernel
set_option maxRecDepth 100000 in
set_option maxHeartbeats 4000000 in
theorem ct9_fail (G : Gm) (t : Nat)    (S : St) : Ct G YX9_fail yX9_fail 1 0 0 (fV t) (f9_fail S) [vR (some 11)] (MM t S) := by
  refine Ct_of_J [some (vR (some 11))] (by decide) rfl (fun h => by cases h) (Nat.le_of_ble_eq_true rfl) (And.intro rfl (trivial)) ?_
  unfold f9_fail
  refine J_aload_n dX9_fail_0 rfl rfl ?_
  refine K_getI cf9 flX9_20 (sq 11 rfl) (Or.inl rfl) dX9_fail_1 ?_
  refine J_if_ge (tgt := 15) dX9_fail_4 (by decide) (fun z1 => ?_) (fun z1 => ?_)
  · exact J_return rfl (Nat.le_refl _) (Nat.le_refl _) rfl dX9_fail_15
  · refine J_aload_n dX9_fail_7 rfl rfl ?_
    refine J_aload_n dX9_fail_8 rfl rfl ?_
    refine K_getI cf9 flX9_17 (sq 11 rfl) (Or.inl rfl) dX9_fail_9 ?_
    refine K_putI cf9 flX9_20 (sq 11 rfl) rfl dX9_fail_12 ?_
    refine J_ltS (fun S2 _ => ?_)
    exact J_return rfl (Nat.le_refl _) (Nat.le_refl _) rfl dX9_fail_15
theorem dX9_readOperand_0 : decode cX9_readOperand 0 = .ok (.iconst 0, 1) := by decide +kernel
theorem dX9_readOperand_1 : decode cX9_readOperand 1 = .ok (.istore_n 2, 1) := by decide +kernel
theorem dX9_readOperand_2 : decode cX9_readOperand 2 = .ok (.iconst 0, 1) := by decide +kernel
theorem dX9_readOperand_3 : decode cX9_readOperand 3 = .ok (.istore_n 3, 1) := by decide +kernel
theorem dX9_readOperand_4 : decode cX9_readOperand 4 = .ok (.iload_n 3, 1) := by decide +kernel
theorem dX9_readOperand_5 : decode cX9_readOperand 5 = .ok (.iconst 3, 1) := by decide +kernel
theorem dX9_readOperand_6 : decode cX9_readOperand 6 = .ok (.if_icmp .ge 42, 3) := by decide +kernel
theorem dX9_readOperand_9 : decode cX9_readOperand 9 = .ok (.aload_n 0, 1) := by decide +kernel
theorem dX9_readOperand_10 : decode cX9_readOperand 10 = .ok (.invokevirtual 36, 3) := by decide +kernel
theorem dX9_readOperand_13 : decode cX9_readOperand 13 = .ok (.invokestatic 68, 3) := by decide +kernel
theorem dX9_readOperand_16 : decode cX9_readOperand 16 = .ok (.ifCond .eq 32, 3) := by decide +kernel
theorem dX9_readOperand_19 : decode cX9_readOperand 19 = .ok (.iload_n 2, 1) := by decide +kernel
theorem dX9_readOperand_20 : decode cX9_readOperand 20 = .ok (.bipush 10, 2) := by decide +kernel
theorem dX9_readOperand_22 : decode cX9_readOperand 22 = .ok (.imul, 1) := by decide +kernel
theorem dX9_readOperand_23 : decode cX9_readOperand 23 = .ok (.aload_n 0, 1) := by decide +kernel
theorem dX9_readOperand_24 : decode cX9_readOperand 24 = .ok (.invokevirtual 36, 3) := by decide +kernel
theorem dX9_readOperand_27 : decode cX9_readOperand 27 = .ok (.iadd, 1) := by decide +kernel
theorem dX9_readOperand_28 : decode cX9_readOperand 28 = .ok (.bipush 48, 2) := by decide +kernel
theorem dX9_readOperand_30 : decode cX9_readOperand 30 = .ok (.isub, 1) := by decide +kernel
theorem dX9_readOperand_31 : decode cX9_readOperand 31 = .ok (.istore_n 2, 1) := by decide +kernel
theorem dX9_readOperand_32 : decode cX9_readOperand 32 = .ok (.aload_n 0, 1) := by decide +kernel
theorem dX9_readOperand_33 : decode cX9_readOperand 33 = .ok (.dup, 1) := by decide +kernel
theorem dX9_readOperand_34 : decode cX9_readOperand 34 = .ok (.getfield 17, 3) := by decide +kernel
theorem dX9_readOperand_37 : decode cX9_readOperand 37 = .ok (.iconst 1, 1) := by decide +kernel
theorem dX9_readOperand_38 : decode cX9_readOperand 38 = .ok (.iadd, 1) := by decide +kernel
theorem dX9_readOperand_39 : decode cX9_readOperand 39 = .ok (.putfield 17, 3) := by decide +kernel
theorem dX9_readOperand_42 : decode cX9_readOperand 42 = .ok (.iinc 3 1, 3) := by decide +kernel
theorem dX9_readOperand_45 : decode cX9_readOperand 45 = .ok (.goto (-41), 3) := by decide +kernel
theorem dX9_readOperand_48 : decode cX9_readOperand 48 = .ok (.iload_n 3, 1) := by decide +kernel
theorem dX9_readOperand_49 : decode cX9_readOperand 49 = .ok (.ifCond .le 15, 3) := by decide +kernel
theorem dX9_readOperand_52 : decode cX9_readOperand 52 = .ok (.aload_n 1, 1) := by decide +kernel
theorem dX9_readOperand_53 : decode cX9_readOperand 53 = .ok (.sipush 256, 3) := by decide +kernel
theorem dX9_readOperand_56 : decode cX9_readOperand 56 = .ok (.iload_n 2, 1) := by decide +kernel
theorem dX9_readOperand_57 : decode cX9_readOperand 57 = .ok (.iadd, 1) := by decide +kernel
theorem dX9_readOperand_58 : decode cX9_readOperand 58 = .ok (.invokevirtual 47, 3) := by decide +kernel
theorem dX9_readOperand_61 : decode cX9_readOperand 61 = .ok (.goto 38, 3) := by decide +kernel
theorem dX9_readOperand_64 : decode cX9_readOperand 64 = .ok (.aload_n 0, 1) := by decide +kernel
theorem dX9_readOperand_65 : decode cX9_readOperand 65 = .ok (.invokevirtual 36, 3) := by decide +kernel
theorem dX9_readOperand_68 : decode cX9_readOperand 68 = .ok (.invokestatic 71, 3) := by decide +kernel
theorem dX9_readOperand_71 : decode cX9_readOperand 71 = .ok (.ifCond .eq 24, 3) := by decide +kernel
theorem dX9_readOperand_74 : decode cX9_readOperand 74 = .ok (.aload_n 1, 1) := by decide +kernel
theorem dX9_readOperand_75 : decode cX9_readOperand 75 = .ok (.aload_n 0, 1) := by decide +kernel
theorem dX9_readOperand_76 : decode cX9_readOperand 76 = .ok (.invokevirtual 36, 3) := by decide +kernel
theorem dX9_readOperand_79 : decode cX9_readOperand 79 = .ok (.invokevirtual 47, 3) := by decide +kernel
theorem dX9_readOperand_82 : decode cX9_readOperand 82 = .ok (.aload_n 0, 1) := by decide +kernel
theorem dX9_readOperand_83 : decode cX9_readOperand 83 = .ok (.dup, 1) := by decide +kernel
theorem dX9_readOperand_84 : decode cX9_readOperand 84 = .ok (.getfield 17, 3) := by decide +kernel
theorem dX9_readOperand_87 : decode cX9_readOperand 87 = .ok (.iconst 1, 1) := by decide +kernel
theorem dX9_readOperand_88 : decode cX9_readOperand 88 = .ok (.iadd, 1) := by decide +kernel
theorem dX9_readOperand_89 : decode cX9_readOperand 89 = .ok (.putfield 17, 3) := by decide +kernel
theorem dX9_readOperand_92 : decode cX9_readOperand 92 = .ok (.goto 7, 3) := by decide +kernel
theorem dX9_readOperand_95 : decode cX9_readOperand 95 = .ok (.aload_n 0, 1) := by decide +kernel
theorem dX9_readOperand_96 : decode cX9_readOperand 96 = .ok (.invokevirtual 33, 3) := by decide +kernel
theorem dX9_readOperand_99 : decode cX9_readOperand 99 = .ok (.return_, 1) := by decide +kernel
set_option maxRecDepth 100000 in
set_option maxHeartbeats 4000000 in
theorem t9_readOperand_j48 (G : Gm) (t : Nat) (N : Nat) (a1 : Nat) (x2 : Int32) (x3 : Int32) (h1 : a1 ∈ ad1)   : ∀  (S : St), J G YX9_readOperand 2 0 0 (fV t) 0 0 48 [some (vR (some 11)), some (vR (some a1)), some (vI x2), some (vI x3)] [] (MM t S) (f9_readOperand_j48 N a1 x2 x3 S) := by
  intro S
  unfold f9_readOperand_j48
  refine J_iload_n dX9_readOperand_48 rfl rfl ?_
  refine J_if_le (tgt := 64) dX9_readOperand_49 (by decide) (fun z1 => ?_) (fun z1 => ?_)
  · refine J_aload_n dX9_readOperand_64 rfl rfl ?_
    refine K_callV_i (As := []) mcX9_here mlX9_36 rfl (by decide) (sq 11 rfl) (ct9_here G t S) rfl rfl (Nat.le_of_ble_eq_true rfl) (by decide) (Nat.le_of_ble_eq_true rfl) dX9_readOperand_65 (fun q2 S3 => ?_)
    refine K_callS_i (As := [vI q2]) mcX1_isName mlX9_71 (ct1_isName G t q2 S3) rfl rfl (Nat.le_of_ble_eq_true rfl) (by decide) (Nat.le_of_ble_eq_true rfl) dX9_readOperand_68 (fun q4 S5 => ?_)
    refine J_if_eq (tgt := 95) dX9_readOperand_71 (by decide) (fun z6 => ?_) (fun z6 => ?_)
    · refine J_aload_n dX9_readOperand_95 rfl rfl ?_
      refine K_callV_v (As := []) mcX9_fail mlX9_33 rfl (by decide) (sq 11 rfl) (ct9_fail G t S5) rfl rfl (Nat.le_of_ble_eq_true rfl) (by decide) (Nat.le_of_ble_eq_true rfl) dX9_readOperand_96 (fun q7 S8 => ?_)
      exact J_return rfl (Nat.le_refl _) (Nat.le_refl _) rfl dX9_readOperand_99
    · refine J_aload_n dX9_readOperand_74 rfl rfl ?_
      refine J_aload_n dX9_readOperand_75 rfl rfl ?_
      refine K_callV_i (As := []) mcX9_here mlX9_36 rfl (by decide) (sq 11 rfl) (ct9_here G t S5) rfl rfl (Nat.le_of_ble_eq_true rfl) (by decide) (Nat.le_of_ble_eq_true rfl) dX9_readOperand_76 (fun q9 S10 => ?_)
      refine K_callV_v (As := [vI q9]) mcX1_write mlX9_47 rfl (by decide) (sq1_0 h1) (ct1_write G t a1 q9 h1 S10) rfl rfl (Nat.le_of_ble_eq_true rfl) (by decide) (Nat.le_of_ble_eq_true rfl) dX9_readOperand_79 (fun q11 S12 => ?_)
      refine J_aload_n dX9_readOperand_82 rfl rfl ?_
      refine J_dup dX9_readOperand_83 rfl ?_
      refine K_getI cf9 flX9_17 (sq 11 rfl) (Or.inl rfl) dX9_readOperand_84 ?_
      refine J_iconst (v := nI 1) dX9_readOperand_87 (by decide) ?_
      refine J_iadd dX9_readOperand_88 ?_
      refine K_putI cf9 flX9_17 (sq 11 rfl) rfl dX9_readOperand_89 ?_
      refine J_ltS (fun S13 _ => ?_)
      refine J_goto (tgt := 99) dX9_readOperand_92 (by decide) ?_
      exact J_return rfl (Nat.le_refl _) (Nat.le_refl _) rfl dX9_readOperand_99
  · refine J_aload_n dX9_readOperand_52 rfl rfl ?_
    refine J_sipush (v := nI 256) dX9_readOperand_53 (by decide) ?_
    refine J_iload_n dX9_readOperand_56 rfl rfl ?_
    refine J_iadd dX9_readOperand_57 ?_
    refine K_callV_v (As := [vI ((nI 256) + x2)]) mcX1_write mlX9_47 rfl (by decide) (sq1_0 h1) (ct1_write G t a1 ((nI 256) + x2) h1 S) rfl rfl (Nat.le_of_ble_eq_true rfl) (by decide) (Nat.le_of_ble_eq_true rfl) dX9_readOperand_58 (fun q14 S15 => ?_)
    refine J_goto (tgt := 99) dX9_readOperand_61 (by decide) ?_
    exact J_return rfl (Nat.le_refl _) (Nat.le_refl _) rfl dX9_readOperand_99
set_option maxRecDepth 100000 in
set_option maxHeartbeats 4000000 in
theorem t9_readOperand_h4 (G : Gm) (t : Nat) (N : Nat) (a1 : Nat) (h1 : a1 ∈ ad1)   : ∀ (n : Nat) (x2 : Int32) (x3 : Int32) (S : St), J G YX9_readOperand 2 0 0 (fV t) 0 0 4 [some (vR (some 11)), some (vR (some a1)), some (vI x2), some (vI x3)] [] (MM t S) (f9_readOperand_h4 N a1 n x2 x3 S) := by
  intro n
  induction n with
  | zero => intro x2 x3 S; exact J_none
  | succ n ih =>
    intro x2 x3 S
    rw [f9_readOperand_h4]
    refine J_iload_n dX9_readOperand_4 rfl rfl ?_
    refine J_iconst (v := nI 3) dX9_readOperand_5 (by decide) ?_
    refine J_icmp_ge (tgt := 48) dX9_readOperand_6 (by decide) (fun z1 => ?_) (fun z1 => ?_)
    · exact J_sb (t9_readOperand_j48 G t N a1 x2 x3 h1 S) (And.intro rfl (And.intro rfl (And.intro rfl (And.intro rfl (trivial)))))
    · refine J_aload_n dX9_readOperand_9 rfl rfl ?_
      refine K_callV_i (As := []) mcX9_here mlX9_36 rfl (by decide) (sq 11 rfl) (ct9_here G t S) rfl rfl (Nat.le_of_ble_eq_true rfl) (by decide) (Nat.le_of_ble_eq_true rfl) dX9_readOperand_10 (fun q2 S3 => ?_)
      refine K_callS_i (As := [vI q2]) mcX9_isDigit mlX9_68 (ct9_isDigit G t q2 S3) rfl rfl (Nat.le_of_ble_eq_true rfl) (by decide) (Nat.le_of_ble_eq_true rfl) dX9_readOperand_13 (fun q4 S5 => ?_)
      refine J_if_eq (tgt := 48) dX9_readOperand_16 (by decide) (fun z6 => ?_) (fun z6 => ?_)
      · exact J_sb (t9_readOperand_j48 G t N a1 x2 x3 h1 S5) (And.intro rfl (And.intro rfl (And.intro rfl (And.intro rfl (trivial)))))
      · refine J_iload_n dX9_readOperand_19 rfl rfl ?_
        refine J_bipush (v := nI 10) dX9_readOperand_20 (by decide) ?_
        refine J_imul dX9_readOperand_22 ?_
        refine J_aload_n dX9_readOperand_23 rfl rfl ?_
        refine K_callV_i (As := []) mcX9_here mlX9_36 rfl (by decide) (sq 11 rfl) (ct9_here G t S5) rfl rfl (Nat.le_of_ble_eq_true rfl) (by decide) (Nat.le_of_ble_eq_true rfl) dX9_readOperand_24 (fun q7 S8 => ?_)
        refine J_iadd dX9_readOperand_27 ?_
        refine J_bipush (v := nI 48) dX9_readOperand_28 (by decide) ?_
        refine J_isub dX9_readOperand_30 ?_
        refine J_ltI (fun v9 _ => ?_)
        refine J_istore_n [some (vR (some 11)), some (vR (some a1)), some (vI v9), some (vI x3)] dX9_readOperand_31 rfl (Nat.le_of_ble_eq_true rfl) rfl rfl ?_
        refine J_aload_n dX9_readOperand_32 rfl rfl ?_
        refine J_dup dX9_readOperand_33 rfl ?_
        refine K_getI cf9 flX9_17 (sq 11 rfl) (Or.inl rfl) dX9_readOperand_34 ?_
        refine J_iconst (v := nI 1) dX9_readOperand_37 (by decide) ?_
        refine J_iadd dX9_readOperand_38 ?_
        refine K_putI cf9 flX9_17 (sq 11 rfl) rfl dX9_readOperand_39 ?_
        refine J_ltS (fun S10 _ => ?_)
        refine J_iinc (v := x3 + nI 1) [some (vR (some 11)), some (vR (some a1)), some (vI v9), some (vI (x3 + nI 1))] dX9_readOperand_42 rfl rfl (Nat.le_of_ble_eq_true rfl) rfl rfl ?_
        refine J_goto (tgt := 4) dX9_readOperand_45 (by decide) ?_
        exact J_sb (ih v9 (x3 + nI 1) S10) (And.intro rfl (And.intro rfl (And.intro rfl (And.intro rfl (trivial)))))
set_option maxRecDepth 100000 in
set_option maxHeartbeats 4000000 in
theorem ct9_readOperand (G : Gm) (t : Nat) (N : Nat) (a1 : Nat) (h1 : a1 ∈ ad1) (S : St) : Ct G YX9_readOperand yX9_readOperand 2 0 0 (fV t) (f9_readOperand N a1 S) [vR (some 11), vR (some a1)] (MM t S) := by
  refine Ct_of_J [some (vR (some 11)), some (vR (some a1)), none, none] (by decide) rfl (fun h => by cases h) (Nat.le_of_ble_eq_true rfl) (And.intro rfl (And.intro rfl (trivial))) ?_
  unfold f9_readOperand
  refine J_iconst (v := nI 0) dX9_readOperand_0 (by decide) ?_
  refine J_istore_n [some (vR (some 11)), some (vR (some a1)), some (vI (nI 0)), none] dX9_readOperand_1 rfl (Nat.le_of_ble_eq_true rfl) rfl rfl ?_
  refine J_iconst (v := nI 0) dX9_readOperand_2 (by decide) ?_
  refine J_istore_n [some (vR (some 11)), some (vR (some a1)), some (vI (nI 0)), some (vI (nI 0))] dX9_readOperand_3 rfl (Nat.le_of_ble_eq_true rfl) rfl rfl ?_
  exact J_sb (t9_readOperand_h4 G t N a1 h1 N (nI 0) (nI 0) S) (And.intro rfl (And.intro rfl (And.intro rfl (And.intro rfl (trivial)))))
theorem dX9_isSign_0 : decode cX9_isSign 0 = .ok (.iload_n 0, 1) := by decide +kernel
theorem dX9_isSign_1 : decode cX9_isSign 1 = .ok (.bipush 43, 2) := by decide +kernel
theorem dX9_isSign_3 : decode cX9_isSign 3 = .ok (.if_icmp .eq 21, 3) := by decide +kernel
theorem dX9_isSign_6 : decode cX9_isSign 6 = .ok (.iload_n 0, 1) := by decide +kernel
theorem dX9_isSign_7 : decode cX9_isSign 7 = .ok (.bipush 45, 2) := by decide +kernel
theorem dX9_isSign_9 : decode cX9_isSign 9 = .ok (.if_icmp .eq 15, 3) := by decide +kernel
theorem dX9_isSign_12 : decode cX9_isSign 12 = .ok (.iload_n 0, 1) := by decide +kernel
theorem dX9_isSign_13 : decode cX9_isSign 13 = .ok (.bipush 42, 2) := by decide +kernel
theorem dX9_isSign_15 : decode cX9_isSign 15 = .ok (.if_icmp .eq 9, 3) := by decide +kernel
theorem dX9_isSign_18 : decode cX9_isSign 18 = .ok (.iload_n 0, 1) := by decide +kernel
theorem dX9_isSign_19 : decode cX9_isSign 19 = .ok (.bipush 37, 2) := by decide +kernel
theorem dX9_isSign_21 : decode cX9_isSign 21 = .ok (.if_icmp .ne 7, 3) := by decide +kernel
theorem dX9_isSign_24 : decode cX9_isSign 24 = .ok (.iconst 1, 1) := by decide +kernel
theorem dX9_isSign_25 : decode cX9_isSign 25 = .ok (.goto 4, 3) := by decide +kernel
theorem dX9_isSign_28 : decode cX9_isSign 28 = .ok (.iconst 0, 1) := by decide +kernel
theorem dX9_isSign_29 : decode cX9_isSign 29 = .ok (.ireturn, 1) := by decide +kernel
set_option maxRecDepth 100000 in
set_option maxHeartbeats 4000000 in
theorem ct9_isSign (G : Gm) (t : Nat)  (x0 : Int32)  (S : St) : Ct G YX9_isSign yX9_isSign 1 0 0 (fI t) (f9_isSign x0 S) [vI x0] (MM t S) := by
  refine Ct_of_J [some (vI x0)] (by decide) rfl (fun h => by cases h) (Nat.le_of_ble_eq_true rfl) (And.intro rfl (trivial)) ?_
  unfold f9_isSign
  refine J_iload_n dX9_isSign_0 rfl rfl ?_
  refine J_bipush (v := nI 43) dX9_isSign_1 (by decide) ?_
  refine J_icmp_eq (tgt := 24) dX9_isSign_3 (by decide) (fun z1 => ?_) (fun z1 => ?_)
  · refine J_iconst (v := nI 1) dX9_isSign_24 (by decide) ?_
    refine J_goto (tgt := 29) dX9_isSign_25 (by decide) ?_
    exact J_zreturn (by decide) rfl (Nat.le_refl _) (Nat.le_refl _) rfl dX9_isSign_29
  · refine J_iload_n dX9_isSign_6 rfl rfl ?_
    refine J_bipush (v := nI 45) dX9_isSign_7 (by decide) ?_
    refine J_icmp_eq (tgt := 24) dX9_isSign_9 (by decide) (fun z2 => ?_) (fun z2 => ?_)
    · refine J_iconst (v := nI 1) dX9_isSign_24 (by decide) ?_
      refine J_goto (tgt := 29) dX9_isSign_25 (by decide) ?_
      exact J_zreturn (by decide) rfl (Nat.le_refl _) (Nat.le_refl _) rfl dX9_isSign_29
    · refine J_iload_n dX9_isSign_12 rfl rfl ?_
      refine J_bipush (v := nI 42) dX9_isSign_13 (by decide) ?_
      refine J_icmp_eq (tgt := 24) dX9_isSign_15 (by decide) (fun z3 => ?_) (fun z3 => ?_)
      · refine J_iconst (v := nI 1) dX9_isSign_24 (by decide) ?_
        refine J_goto (tgt := 29) dX9_isSign_25 (by decide) ?_
        exact J_zreturn (by decide) rfl (Nat.le_refl _) (Nat.le_refl _) rfl dX9_isSign_29
      · refine J_iload_n dX9_isSign_18 rfl rfl ?_
        refine J_bipush (v := nI 37) dX9_isSign_19 (by decide) ?_
        refine J_icmp_ne (tgt := 28) dX9_isSign_21 (by decide) (fun z4 => ?_) (fun z4 => ?_)
        · refine J_iconst (v := nI 1) dX9_isSign_24 (by decide) ?_
          refine J_goto (tgt := 29) dX9_isSign_25 (by decide) ?_
          exact J_zreturn (by decide) rfl (Nat.le_refl _) (Nat.le_refl _) rfl dX9_isSign_29
        · refine J_iconst (v := nI 0) dX9_isSign_28 (by decide) ?_
          exact J_zreturn (by decide) rfl (Nat.le_refl _) (Nat.le_refl _) rfl dX9_isSign_29
theorem dX9_readSum_0 : decode cX9_readSum 0 = .ok (.iconst 0, 1) := by decide +kernel
theorem dX9_readSum_1 : decode cX9_readSum 1 = .ok (.istore_n 2, 1) := by decide +kernel
theorem dX9_readSum_2 : decode cX9_readSum 2 = .ok (.aload_n 0, 1) := by decide +kernel
theorem dX9_readSum_3 : decode cX9_readSum 3 = .ok (.aload_n 1, 1) := by decide +kernel
theorem dX9_readSum_4 : decode cX9_readSum 4 = .ok (.invokevirtual 61, 3) := by decide +kernel
theorem dX9_readSum_7 : decode cX9_readSum 7 = .ok (.iconst 0, 1) := by decide +kernel
theorem dX9_readSum_8 : decode cX9_readSum 8 = .ok (.istore_n 3, 1) := by decide +kernel
theorem dX9_readSum_9 : decode cX9_readSum 9 = .ok (.iload_n 3, 1) := by decide +kernel
theorem dX9_readSum_10 : decode cX9_readSum 10 = .ok (.bipush 60, 2) := by decide +kernel
theorem dX9_readSum_12 : decode cX9_readSum 12 = .ok (.if_icmp .ge 100, 3) := by decide +kernel
theorem dX9_readSum_15 : decode cX9_readSum 15 = .ok (.aload_n 0, 1) := by decide +kernel
theorem dX9_readSum_16 : decode cX9_readSum 16 = .ok (.invokevirtual 36, 3) := by decide +kernel
theorem dX9_readSum_19 : decode cX9_readSum 19 = .ok (.invokestatic 64, 3) := by decide +kernel
theorem dX9_readSum_22 : decode cX9_readSum 22 = .ok (.ifCond .eq 90, 3) := by decide +kernel
theorem dX9_readSum_25 : decode cX9_readSum 25 = .ok (.aload_n 0, 1) := by decide +kernel
theorem dX9_readSum_26 : decode cX9_readSum 26 = .ok (.invokevirtual 36, 3) := by decide +kernel
theorem dX9_readSum_29 : decode cX9_readSum 29 = .ok (.istore 4, 2) := by decide +kernel
theorem dX9_readSum_31 : decode cX9_readSum 31 = .ok (.iload 4, 2) := by decide +kernel
theorem dX9_readSum_33 : decode cX9_readSum 33 = .ok (.bipush 42, 2) := by decide +kernel
theorem dX9_readSum_35 : decode cX9_readSum 35 = .ok (.if_icmp .eq 10, 3) := by decide +kernel
theorem dX9_readSum_38 : decode cX9_readSum 38 = .ok (.iload 4, 2) := by decide +kernel
theorem dX9_readSum_40 : decode cX9_readSum 40 = .ok (.bipush 37, 2) := by decide +kernel
theorem dX9_readSum_42 : decode cX9_readSum 42 = .ok (.if_icmp .ne 7, 3) := by decide +kernel
theorem dX9_readSum_45 : decode cX9_readSum 45 = .ok (.iconst 1, 1) := by decide +kernel
theorem dX9_readSum_46 : decode cX9_readSum 46 = .ok (.goto 4, 3) := by decide +kernel
theorem dX9_readSum_49 : decode cX9_readSum 49 = .ok (.iconst 0, 1) := by decide +kernel
theorem dX9_readSum_50 : decode cX9_readSum 50 = .ok (.istore 5, 2) := by decide +kernel
theorem dX9_readSum_52 : decode cX9_readSum 52 = .ok (.iload 5, 2) := by decide +kernel
theorem dX9_readSum_54 : decode cX9_readSum 54 = .ok (.ifCond .ne 11, 3) := by decide +kernel
theorem dX9_readSum_57 : decode cX9_readSum 57 = .ok (.iload_n 2, 1) := by decide +kernel
theorem dX9_readSum_58 : decode cX9_readSum 58 = .ok (.ifCond .eq 7, 3) := by decide +kernel
theorem dX9_readSum_61 : decode cX9_readSum 61 = .ok (.iconst 1, 1) := by decide +kernel
theorem dX9_readSum_62 : decode cX9_readSum 62 = .ok (.goto 4, 3) := by decide +kernel
theorem dX9_readSum_65 : decode cX9_readSum 65 = .ok (.iconst 0, 1) := by decide +kernel
theorem dX9_readSum_66 : decode cX9_readSum 66 = .ok (.aload_n 1, 1) := by decide +kernel
theorem dX9_readSum_67 : decode cX9_readSum 67 = .ok (.iload_n 2, 1) := by decide +kernel
theorem dX9_readSum_68 : decode cX9_readSum 68 = .ok (.invokestatic 50, 3) := by decide +kernel
theorem dX9_readSum_71 : decode cX9_readSum 71 = .ok (.aload_n 0, 1) := by decide +kernel
theorem dX9_readSum_72 : decode cX9_readSum 72 = .ok (.dup, 1) := by decide +kernel
theorem dX9_readSum_73 : decode cX9_readSum 73 = .ok (.getfield 17, 3) := by decide +kernel
theorem dX9_readSum_76 : decode cX9_readSum 76 = .ok (.iconst 1, 1) := by decide +kernel
theorem dX9_readSum_77 : decode cX9_readSum 77 = .ok (.iadd, 1) := by decide +kernel
theorem dX9_readSum_78 : decode cX9_readSum 78 = .ok (.putfield 17, 3) := by decide +kernel
theorem dX9_readSum_81 : decode cX9_readSum 81 = .ok (.aload_n 0, 1) := by decide +kernel
theorem dX9_readSum_82 : decode cX9_readSum 82 = .ok (.aload_n 1, 1) := by decide +kernel
theorem dX9_readSum_83 : decode cX9_readSum 83 = .ok (.invokevirtual 61, 3) := by decide +kernel
theorem dX9_readSum_86 : decode cX9_readSum 86 = .ok (.iload 5, 2) := by decide +kernel
theorem dX9_readSum_88 : decode cX9_readSum 88 = .ok (.aload_n 1, 1) := by decide +kernel
theorem dX9_readSum_89 : decode cX9_readSum 89 = .ok (.iload 4, 2) := by decide +kernel
theorem dX9_readSum_91 : decode cX9_readSum 91 = .ok (.invokestatic 50, 3) := by decide +kernel
theorem dX9_readSum_94 : decode cX9_readSum 94 = .ok (.iload 5, 2) := by decide +kernel
theorem dX9_readSum_96 : decode cX9_readSum 96 = .ok (.ifCond .eq 7, 3) := by decide +kernel
theorem dX9_readSum_99 : decode cX9_readSum 99 = .ok (.iload_n 2, 1) := by decide +kernel
theorem dX9_readSum_100 : decode cX9_readSum 100 = .ok (.goto 5, 3) := by decide +kernel
theorem dX9_readSum_103 : decode cX9_readSum 103 = .ok (.iload 4, 2) := by decide +kernel
theorem dX9_readSum_105 : decode cX9_readSum 105 = .ok (.istore_n 2, 1) := by decide +kernel
theorem dX9_readSum_106 : decode cX9_readSum 106 = .ok (.iinc 3 1, 3) := by decide +kernel
theorem dX9_readSum_109 : decode cX9_readSum 109 = .ok (.goto (-100), 3) := by decide +kernel
theorem dX9_readSum_112 : decode cX9_readSum 112 = .ok (.iload_n 2, 1) := by decide +kernel
theorem dX9_readSum_113 : decode cX9_readSum 113 = .ok (.ifCond .eq 7, 3) := by decide +kernel
theorem dX9_readSum_116 : decode cX9_readSum 116 = .ok (.iconst 1, 1) := by decide +kernel
theorem dX9_readSum_117 : decode cX9_readSum 117 = .ok (.goto 4, 3) := by decide +kernel
theorem dX9_readSum_120 : decode cX9_readSum 120 = .ok (.iconst 0, 1) := by decide +kernel
theorem dX9_readSum_121 : decode cX9_readSum 121 = .ok (.aload_n 1, 1) := by decide +kernel
theorem dX9_readSum_122 : decode cX9_readSum 122 = .ok (.iload_n 2, 1) := by decide +kernel
theorem dX9_readSum_123 : decode cX9_readSum 123 = .ok (.invokestatic 50, 3) := by decide +kernel
theorem dX9_readSum_126 : decode cX9_readSum 126 = .ok (.return_, 1) := by decide +kernel
set_option maxRecDepth 100000 in
set_option maxHeartbeats 4000000 in
theorem t9_readSum_j121 (G : Gm) (t : Nat) (N : Nat) (a1 : Nat) (x2 : Int32) (h1 : a1 ∈ ad1)   : ∀ (xs0 : Int32) (S : St), J G YX9_readSum 3 0 0 (fV t) 0 0 121 [none, some (vR (some a1)), some (vI x2), none, none, none] [vI xs0] (MM t S) (f9_readSum_j121 N a1 x2 xs0 S) := by
  intro xs0 S
  unfold f9_readSum_j121
  refine J_aload_n dX9_readSum_121 rfl rfl ?_
  refine J_iload_n dX9_readSum_122 rfl rfl ?_
  refine K_callS_v (As := [vI xs0, vR (some a1), vI x2]) mcX9_writeIf mlX9_50 (ct9_writeIf G t xs0 a1 x2 h1 S) rfl rfl (Nat.le_of_ble_eq_true rfl) (by decide) (Nat.le_of_ble_eq_true rfl) dX9_readSum_123 (fun q1 S2 => ?_)
  exact J_return rfl (Nat.le_refl _) (Nat.le_refl _) rfl dX9_readSum_126
set_option maxRecDepth 100000 in
set_option maxHeartbeats 4000000 in
theorem t9_readSum_j112 (G : Gm) (t : Nat) (N : Nat) (a1 : Nat) (x2 : Int32) (h1 : a1 ∈ ad1)   : ∀  (S : St), J G YX9_readSum 3 0 0 (fV t) 0 0 112 [none, some (vR (some a1)), some (vI x2), none, none, none] [] (MM t S) (f9_readSum_j112 N a1 x2 S) := by
  intro S
  unfold f9_readSum_j112
  refine J_iload_n dX9_readSum_112 rfl rfl ?_
  refine J_if_eq (tgt := 120) dX9_readSum_113 (by decide) (fun z1 => ?_) (fun z1 => ?_)
  · refine J_iconst (v := nI 0) dX9_readSum_120 (by decide) ?_
    exact J_sb (t9_readSum_j121 G t N a1 x2 h1 (nI 0) S) (And.intro rfl (And.intro rfl (trivial)))
  · refine J_iconst (v := nI 1) dX9_readSum_116 (by decide) ?_
    refine J_goto (tgt := 121) dX9_readSum_117 (by decide) ?_
    exact J_sb (t9_readSum_j121 G t N a1 x2 h1 (nI 1) S) (And.intro rfl (And.intro rfl (trivial)))
set_option maxRecDepth 100000 in
set_option maxHeartbeats 4000000 in
theorem t9_readSum_j105 (G : Gm) (t : Nat) (N : Nat) (a1 : Nat) (x3 : Int32) (h1 : a1 ∈ ad1) (k9 : Int32 → Int32 → St → Option (Unit × St)) (hk9 : ∀ (yx2 : Int32) (yx3 : Int32) (S : St), J G YX9_readSum 3 0 0 (fV t) 0 0 9 [some (vR (some 11)), some (vR (some a1)), some (vI yx2), some (vI yx3), none, none] [] (MM t S) (k9 yx2 yx3 S)) : ∀ (xs0 : Int32) (S : St), J G YX9_readSum 3 0 0 (fV t) 0 0 105 [some (vR (some 11)), some (vR (some a1)), none, some (vI x3), none, none] [vI xs0] (MM t S) (f9_readSum_j105 N a1 x3 k9 xs0 S) := by
  intro xs0 S
  unfold f9_readSum_j105
  refine J_istore_n [some (vR (some 11)), some (vR (some a1)), some (vI xs0), some (vI x3), none, none] dX9_readSum_105 rfl (Nat.le_of_ble_eq_true rfl) rfl rfl ?_
  refine J_iinc (v := x3 + nI 1) [some (vR (some 11)), some (vR (some a1)), some (vI xs0), some (vI (x3 + nI 1)), none, none] dX9_readSum_106 rfl rfl (Nat.le_of_ble_eq_true rfl) rfl rfl ?_
  refine J_goto (tgt := 9) dX9_readSum_109 (by decide) ?_
  exact J_sb (hk9 xs0 (x3 + nI 1) S) (And.intro rfl (And.intro rfl (And.intro rfl (And.intro rfl (trivial)))))
set_option maxRecDepth 100000 in
set_option maxHeartbeats 4000000 in
theorem t9_readSum_j66 (G : Gm) (t : Nat) (N : Nat) (a1 : Nat) (x2 : Int32) (x3 : Int32) (x4 : Int32) (x5 : Int32) (h1 : a1 ∈ ad1) (k9 : Int32 → Int32 → St → Option (Unit × St)) (hk9 : ∀ (yx2 : Int32) (yx3 : Int32) (S : St), J G YX9_readSum 3 0 0 (fV t) 0 0 9 [some (vR (some 11)), some (vR (some a1)), some (vI yx2), some (vI yx3), none, none] [] (MM t S) (k9 yx2 yx3 S)) : ∀ (xs0 : Int32) (S : St), J G YX9_readSum 3 0 0 (fV t) 0 0 66 [some (vR (some 11)), some (vR (some a1)), some (vI x2), some (vI x3), some (vI x4), some (vI x5)] [vI xs0] (MM t S) (f9_readSum_j66 N a1 x2 x3 x4 x5 k9 xs0 S) := by
  intro xs0 S
  unfold f9_readSum_j66
  refine J_aload_n dX9_readSum_66 rfl rfl ?_
  refine J_iload_n dX9_readSum_67 rfl rfl ?_
  refine K_callS_v (As := [vI xs0, vR (some a1), vI x2]) mcX9_writeIf mlX9_50 (ct9_writeIf G t xs0 a1 x2 h1 S) rfl rfl (Nat.le_of_ble_eq_true rfl) (by decide) (Nat.le_of_ble_eq_true rfl) dX9_readSum_68 (fun q1 S2 => ?_)
  refine J_aload_n dX9_readSum_71 rfl rfl ?_
  refine J_dup dX9_readSum_72 rfl ?_
  refine K_getI cf9 flX9_17 (sq 11 rfl) (Or.inl rfl) dX9_readSum_73 ?_
  refine J_iconst (v := nI 1) dX9_readSum_76 (by decide) ?_
  refine J_iadd dX9_readSum_77 ?_
  refine K_putI cf9 flX9_17 (sq 11 rfl) rfl dX9_readSum_78 ?_
  refine J_ltS (fun S3 _ => ?_)
  refine J_aload_n dX9_readSum_81 rfl rfl ?_
  refine J_aload_n dX9_readSum_82 rfl rfl ?_
  refine K_callV_v (As := [vR (some a1)]) mcX9_readOperand mlX9_61 rfl (by decide) (sq 11 rfl) (ct9_readOperand G t N a1 h1 S3) rfl rfl (Nat.le_of_ble_eq_true rfl) (by decide) (Nat.le_of_ble_eq_true rfl) dX9_readSum_83 (fun q4 S5 => ?_)
  refine J_iload dX9_readSum_86 rfl ?_
  refine J_aload_n dX9_readSum_88 rfl rfl ?_
  refine J_iload dX9_readSum_89 rfl ?_
  refine K_callS_v (As := [vI x5, vR (some a1), vI x4]) mcX9_writeIf mlX9_50 (ct9_writeIf G t x5 a1 x4 h1 S5) rfl rfl (Nat.le_of_ble_eq_true rfl) (by decide) (Nat.le_of_ble_eq_true rfl) dX9_readSum_91 (fun q6 S7 => ?_)
  refine J_iload dX9_readSum_94 rfl ?_
  refine J_if_eq (tgt := 103) dX9_readSum_96 (by decide) (fun z8 => ?_) (fun z8 => ?_)
  · refine J_iload dX9_readSum_103 rfl ?_
    exact J_sb (t9_readSum_j105 G t N a1 x3 h1 k9 hk9 x4 S7) (And.intro rfl (And.intro rfl (And.intro rfl (trivial))))
  · refine J_iload_n dX9_readSum_99 rfl rfl ?_
    refine J_goto (tgt := 105) dX9_readSum_100 (by decide) ?_
    exact J_sb (t9_readSum_j105 G t N a1 x3 h1 k9 hk9 x2 S7) (And.intro rfl (And.intro rfl (And.intro rfl (trivial))))
set_option maxRecDepth 100000 in
set_option maxHeartbeats 4000000 in
theorem t9_readSum_j65 (G : Gm) (t : Nat) (N : Nat) (a1 : Nat) (x2 : Int32) (x3 : Int32) (x4 : Int32) (x5 : Int32) (h1 : a1 ∈ ad1) (k9 : Int32 → Int32 → St → Option (Unit × St)) (hk9 : ∀ (yx2 : Int32) (yx3 : Int32) (S : St), J G YX9_readSum 3 0 0 (fV t) 0 0 9 [some (vR (some 11)), some (vR (some a1)), some (vI yx2), some (vI yx3), none, none] [] (MM t S) (k9 yx2 yx3 S)) : ∀  (S : St), J G YX9_readSum 3 0 0 (fV t) 0 0 65 [some (vR (some 11)), some (vR (some a1)), some (vI x2), some (vI x3), some (vI x4), some (vI x5)] [] (MM t S) (f9_readSum_j65 N a1 x2 x3 x4 x5 k9 S) := by
  intro S
  unfold f9_readSum_j65
  refine J_iconst (v := nI 0) dX9_readSum_65 (by decide) ?_
  exact J_sb (t9_readSum_j66 G t N a1 x2 x3 x4 x5 h1 k9 hk9 (nI 0) S) (And.intro rfl (And.intro rfl (And.intro rfl (And.intro rfl (And.intro rfl (And.intro rfl (trivial)))))))
set_option maxRecDepth 100000 in
set_option maxHeartbeats 4000000 in
theorem t9_readSum_j50 (G : Gm) (t : Nat) (N : Nat) (a1 : Nat) (x2 : Int32) (x3 : Int32) (x4 : Int32) (h1 : a1 ∈ ad1) (k9 : Int32 → Int32 → St → Option (Unit × St)) (hk9 : ∀ (yx2 : Int32) (yx3 : Int32) (S : St), J G YX9_readSum 3 0 0 (fV t) 0 0 9 [some (vR (some 11)), some (vR (some a1)), some (vI yx2), some (vI yx3), none, none] [] (MM t S) (k9 yx2 yx3 S)) : ∀ (xs0 : Int32) (S : St), J G YX9_readSum 3 0 0 (fV t) 0 0 50 [some (vR (some 11)), some (vR (some a1)), some (vI x2), some (vI x3), some (vI x4), none] [vI xs0] (MM t S) (f9_readSum_j50 N a1 x2 x3 x4 k9 xs0 S) := by
  intro xs0 S
  unfold f9_readSum_j50
  refine J_istore [some (vR (some 11)), some (vR (some a1)), some (vI x2), some (vI x3), some (vI x4), some (vI xs0)] dX9_readSum_50 (Nat.le_of_ble_eq_true rfl) rfl rfl ?_
  refine J_iload dX9_readSum_52 rfl ?_
  refine J_if_ne (tgt := 65) dX9_readSum_54 (by decide) (fun z1 => ?_) (fun z1 => ?_)
  · refine J_iload_n dX9_readSum_57 rfl rfl ?_
    refine J_if_eq (tgt := 65) dX9_readSum_58 (by decide) (fun z2 => ?_) (fun z2 => ?_)
    · exact J_sb (t9_readSum_j65 G t N a1 x2 x3 x4 xs0 h1 k9 hk9 S) (And.intro rfl (And.intro rfl (And.intro rfl (And.intro rfl (And.intro rfl (And.intro rfl (trivial)))))))
    · refine J_iconst (v := nI 1) dX9_readSum_61 (by decide) ?_
      refine J_goto (tgt := 66) dX9_readSum_62 (by decide) ?_
      exact J_sb (t9_readSum_j66 G t N a1 x2 x3 x4 xs0 h1 k9 hk9 (nI 1) S) (And.intro rfl (And.intro rfl (And.intro rfl (And.intro rfl (And.intro rfl (And.intro rfl (trivial)))))))
  · exact J_sb (t9_readSum_j65 G t N a1 x2 x3 x4 xs0 h1 k9 hk9 S) (And.intro rfl (And.intro rfl (And.intro rfl (And.intro rfl (And.intro rfl (And.intro rfl (trivial)))))))
set_option maxRecDepth 100000 in
set_option maxHeartbeats 4000000 in
theorem t9_readSum_j45 (G : Gm) (t : Nat) (N : Nat) (a1 : Nat) (x2 : Int32) (x3 : Int32) (x4 : Int32) (h1 : a1 ∈ ad1) (k9 : Int32 → Int32 → St → Option (Unit × St)) (hk9 : ∀ (yx2 : Int32) (yx3 : Int32) (S : St), J G YX9_readSum 3 0 0 (fV t) 0 0 9 [some (vR (some 11)), some (vR (some a1)), some (vI yx2), some (vI yx3), none, none] [] (MM t S) (k9 yx2 yx3 S)) : ∀  (S : St), J G YX9_readSum 3 0 0 (fV t) 0 0 45 [some (vR (some 11)), some (vR (some a1)), some (vI x2), some (vI x3), some (vI x4), none] [] (MM t S) (f9_readSum_j45 N a1 x2 x3 x4 k9 S) := by
  intro S
  unfold f9_readSum_j45
  refine J_iconst (v := nI 1) dX9_readSum_45 (by decide) ?_
  refine J_goto (tgt := 50) dX9_readSum_46 (by decide) ?_
  exact J_sb (t9_readSum_j50 G t N a1 x2 x3 x4 h1 k9 hk9 (nI 1) S) (And.intro rfl (And.intro rfl (And.intro rfl (And.intro rfl (And.intro rfl (trivial))))))
set_option maxRecDepth 100000 in
set_option maxHeartbeats 4000000 in
theorem t9_readSum_h9 (G : Gm) (t : Nat) (N : Nat) (a1 : Nat) (h1 : a1 ∈ ad1)   : ∀ (n : Nat) (x2 : Int32) (x3 : Int32) (S : St), J G YX9_readSum 3 0 0 (fV t) 0 0 9 [some (vR (some 11)), some (vR (some a1)), some (vI x2), some (vI x3), none, none] [] (MM t S) (f9_readSum_h9 N a1 n x2 x3 S) := by
  intro n
  induction n with
  | zero => intro x2 x3 S; exact J_none
  | succ n ih =>
    intro x2 x3 S
    rw [f9_readSum_h9]
    refine J_iload_n dX9_readSum_9 rfl rfl ?_
    refine J_bipush (v := nI 60) dX9_readSum_10 (by decide) ?_
    refine J_icmp_ge (tgt := 112) dX9_readSum_12 (by decide) (fun z1 => ?_) (fun z1 => ?_)
    · exact J_sb (t9_readSum_j112 G t N a1 x2 h1 S) (And.intro rfl (And.intro rfl (trivial)))
    · refine J_aload_n dX9_readSum_15 rfl rfl ?_
      refine K_callV_i (As := []) mcX9_here mlX9_36 rfl (by decide) (sq 11 rfl) (ct9_here G t S) rfl rfl (Nat.le_of_ble_eq_true rfl) (by decide) (Nat.le_of_ble_eq_true rfl) dX9_readSum_16 (fun q2 S3 => ?_)
      refine K_callS_i (As := [vI q2]) mcX9_isSign mlX9_64 (ct9_isSign G t q2 S3) rfl rfl (Nat.le_of_ble_eq_true rfl) (by decide) (Nat.le_of_ble_eq_true rfl) dX9_readSum_19 (fun q4 S5 => ?_)
      refine J_if_eq (tgt := 112) dX9_readSum_22 (by decide) (fun z6 => ?_) (fun z6 => ?_)
      · exact J_sb (t9_readSum_j112 G t N a1 x2 h1 S5) (And.intro rfl (And.intro rfl (trivial)))
      · refine J_aload_n dX9_readSum_25 rfl rfl ?_
        refine K_callV_i (As := []) mcX9_here mlX9_36 rfl (by decide) (sq 11 rfl) (ct9_here G t S5) rfl rfl (Nat.le_of_ble_eq_true rfl) (by decide) (Nat.le_of_ble_eq_true rfl) dX9_readSum_26 (fun q7 S8 => ?_)
        refine J_istore [some (vR (some 11)), some (vR (some a1)), some (vI x2), some (vI x3), some (vI q7), none] dX9_readSum_29 (Nat.le_of_ble_eq_true rfl) rfl rfl ?_
        refine J_iload dX9_readSum_31 rfl ?_
        refine J_bipush (v := nI 42) dX9_readSum_33 (by decide) ?_
        refine J_icmp_eq (tgt := 45) dX9_readSum_35 (by decide) (fun z9 => ?_) (fun z9 => ?_)
        · exact J_sb (t9_readSum_j45 G t N a1 x2 x3 q7 h1 (f9_readSum_h9 N a1 n) ih S8) (And.intro rfl (And.intro rfl (And.intro rfl (And.intro rfl (And.intro rfl (trivial))))))
        · refine J_iload dX9_readSum_38 rfl ?_
          refine J_bipush (v := nI 37) dX9_readSum_40 (by decide) ?_
          refine J_icmp_ne (tgt := 49) dX9_readSum_42 (by decide) (fun z10 => ?_) (fun z10 => ?_)
          · exact J_sb (t9_readSum_j45 G t N a1 x2 x3 q7 h1 (f9_readSum_h9 N a1 n) ih S8) (And.intro rfl (And.intro rfl (And.intro rfl (And.intro rfl (And.intro rfl (trivial))))))
          · refine J_iconst (v := nI 0) dX9_readSum_49 (by decide) ?_
            exact J_sb (t9_readSum_j50 G t N a1 x2 x3 q7 h1 (f9_readSum_h9 N a1 n) ih (nI 0) S8) (And.intro rfl (And.intro rfl (And.intro rfl (And.intro rfl (And.intro rfl (trivial))))))
set_option maxRecDepth 100000 in
set_option maxHeartbeats 4000000 in
theorem ct9_readSum (G : Gm) (t : Nat) (N : Nat) (a1 : Nat) (h1 : a1 ∈ ad1) (S : St) : Ct G YX9_readSum yX9_readSum 3 0 0 (fV t) (f9_readSum N a1 S) [vR (some 11), vR (some a1)] (MM t S) := by
  refine Ct_of_J [some (vR (some 11)), some (vR (some a1)), none, none, none, none] (by decide) rfl (fun h => by cases h) (Nat.le_of_ble_eq_true rfl) (And.intro rfl (And.intro rfl (trivial))) ?_
  unfold f9_readSum
  refine J_iconst (v := nI 0) dX9_readSum_0 (by decide) ?_
  refine J_istore_n [some (vR (some 11)), some (vR (some a1)), some (vI (nI 0)), none, none, none] dX9_readSum_1 rfl (Nat.le_of_ble_eq_true rfl) rfl rfl ?_
  refine J_aload_n dX9_readSum_2 rfl rfl ?_
  refine J_aload_n dX9_readSum_3 rfl rfl ?_
  refine K_callV_v (As := [vR (some a1)]) mcX9_readOperand mlX9_61 rfl (by decide) (sq 11 rfl) (ct9_readOperand G t N a1 h1 S) rfl rfl (Nat.le_of_ble_eq_true rfl) (by decide) (Nat.le_of_ble_eq_true rfl) dX9_readSum_4 (fun q1 S2 => ?_)
  refine J_iconst (v := nI 0) dX9_readSum_7 (by decide) ?_
  refine J_istore_n [some (vR (some 11)), some (vR (some a1)), some (vI (nI 0)), some (vI (nI 0)), none, none] dX9_readSum_8 rfl (Nat.le_of_ble_eq_true rfl) rfl rfl ?_
  exact J_sb (t9_readSum_h9 G t N a1 h1 N (nI 0) (nI 0) S2) (And.intro rfl (And.intro rfl (And.intro rfl (And.intro rfl (trivial)))))
theorem dX9_readCompared_0 : decode cX9_readCompared 0 = .ok (.aload_n 0, 1) := by decide +kernel
theorem dX9_readCompared_1 : decode cX9_readCompared 1 = .ok (.aload_n 1, 1) := by decide +kernel
theorem dX9_readCompared_2 : decode cX9_readCompared 2 = .ok (.invokevirtual 58, 3) := by decide +kernel
theorem dX9_readCompared_5 : decode cX9_readCompared 5 = .ok (.aload_n 0, 1) := by decide +kernel
theorem dX9_readCompared_6 : decode cX9_readCompared 6 = .ok (.invokevirtual 36, 3) := by decide +kernel
theorem dX9_readCompared_9 : decode cX9_readCompared 9 = .ok (.istore_n 2, 1) := by decide +kernel
theorem dX9_readCompared_10 : decode cX9_readCompared 10 = .ok (.iload_n 2, 1) := by decide +kernel
theorem dX9_readCompared_11 : decode cX9_readCompared 11 = .ok (.bipush 61, 2) := by decide +kernel
theorem dX9_readCompared_13 : decode cX9_readCompared 13 = .ok (.if_icmp .eq 20, 3) := by decide +kernel
theorem dX9_readCompared_16 : decode cX9_readCompared 16 = .ok (.iload_n 2, 1) := by decide +kernel
theorem dX9_readCompared_17 : decode cX9_readCompared 17 = .ok (.bipush 60, 2) := by decide +kernel
theorem dX9_readCompared_19 : decode cX9_readCompared 19 = .ok (.if_icmp .eq 14, 3) := by decide +kernel
theorem dX9_readCompared_22 : decode cX9_readCompared 22 = .ok (.iload_n 2, 1) := by decide +kernel
theorem dX9_readCompared_23 : decode cX9_readCompared 23 = .ok (.bipush 62, 2) := by decide +kernel
theorem dX9_readCompared_25 : decode cX9_readCompared 25 = .ok (.if_icmp .eq 8, 3) := by decide +kernel
theorem dX9_readCompared_28 : decode cX9_readCompared 28 = .ok (.aload_n 0, 1) := by decide +kernel
theorem dX9_readCompared_29 : decode cX9_readCompared 29 = .ok (.invokevirtual 33, 3) := by decide +kernel
theorem dX9_readCompared_32 : decode cX9_readCompared 32 = .ok (.return_, 1) := by decide +kernel
theorem dX9_readCompared_33 : decode cX9_readCompared 33 = .ok (.aload_n 0, 1) := by decide +kernel
theorem dX9_readCompared_34 : decode cX9_readCompared 34 = .ok (.dup, 1) := by decide +kernel
theorem dX9_readCompared_35 : decode cX9_readCompared 35 = .ok (.getfield 17, 3) := by decide +kernel
theorem dX9_readCompared_38 : decode cX9_readCompared 38 = .ok (.iconst 1, 1) := by decide +kernel
theorem dX9_readCompared_39 : decode cX9_readCompared 39 = .ok (.iadd, 1) := by decide +kernel
theorem dX9_readCompared_40 : decode cX9_readCompared 40 = .ok (.putfield 17, 3) := by decide +kernel
theorem dX9_readCompared_43 : decode cX9_readCompared 43 = .ok (.aload_n 0, 1) := by decide +kernel
theorem dX9_readCompared_44 : decode cX9_readCompared 44 = .ok (.aload_n 1, 1) := by decide +kernel
theorem dX9_readCompared_45 : decode cX9_readCompared 45 = .ok (.invokevirtual 58, 3) := by decide +kernel
theorem dX9_readCompared_48 : decode cX9_readCompared 48 = .ok (.aload_n 1, 1) := by decide +kernel
theorem dX9_readCompared_49 : decode cX9_readCompared 49 = .ok (.iload_n 2, 1) := by decide +kernel
theorem dX9_readCompared_50 : decode cX9_readCompared 50 = .ok (.invokevirtual 47, 3) := by decide +kernel
theorem dX9_readCompared_53 : decode cX9_readCompared 53 = .ok (.return_, 1) := by decide +kernel
set_option maxRecDepth 100000 in
set_option maxHeartbeats 4000000 in
theorem t9_readCompared_j33 (G : Gm) (t : Nat) (N : Nat) (a1 : Nat) (x2 : Int32) (h1 : a1 ∈ ad1)   : ∀  (S : St), J G YX9_readCompared 4 0 0 (fV t) 0 0 33 [some (vR (some 11)), some (vR (some a1)), some (vI x2)] [] (MM t S) (f9_readCompared_j33 N a1 x2 S) := by
  intro S
  unfold f9_readCompared_j33
  refine J_aload_n dX9_readCompared_33 rfl rfl ?_
  refine J_dup dX9_readCompared_34 rfl ?_
  refine K_getI cf9 flX9_17 (sq 11 rfl) (Or.inl rfl) dX9_readCompared_35 ?_
  refine J_iconst (v := nI 1) dX9_readCompared_38 (by decide) ?_
  refine J_iadd dX9_readCompared_39 ?_
  refine K_putI cf9 flX9_17 (sq 11 rfl) rfl dX9_readCompared_40 ?_
  refine J_ltS (fun S1 _ => ?_)
  refine J_aload_n dX9_readCompared_43 rfl rfl ?_
  refine J_aload_n dX9_readCompared_44 rfl rfl ?_
  refine K_callV_v (As := [vR (some a1)]) mcX9_readSum mlX9_58 rfl (by decide) (sq 11 rfl) (ct9_readSum G t N a1 h1 S1) rfl rfl (Nat.le_of_ble_eq_true rfl) (by decide) (Nat.le_of_ble_eq_true rfl) dX9_readCompared_45 (fun q2 S3 => ?_)
  refine J_aload_n dX9_readCompared_48 rfl rfl ?_
  refine J_iload_n dX9_readCompared_49 rfl rfl ?_
  refine K_callV_v (As := [vI x2]) mcX1_write mlX9_47 rfl (by decide) (sq1_0 h1) (ct1_write G t a1 x2 h1 S3) rfl rfl (Nat.le_of_ble_eq_true rfl) (by decide) (Nat.le_of_ble_eq_true rfl) dX9_readCompared_50 (fun q4 S5 => ?_)
  exact J_return rfl (Nat.le_refl _) (Nat.le_refl _) rfl dX9_readCompared_53
set_option maxRecDepth 100000 in
set_option maxHeartbeats 4000000 in
theorem ct9_readCompared (G : Gm) (t : Nat) (N : Nat) (a1 : Nat) (h1 : a1 ∈ ad1) (S : St) : Ct G YX9_readCompared yX9_readCompared 4 0 0 (fV t) (f9_readCompared N a1 S) [vR (some 11), vR (some a1)] (MM t S) := by
  refine Ct_of_J [some (vR (some 11)), some (vR (some a1)), none] (by decide) rfl (fun h => by cases h) (Nat.le_of_ble_eq_true rfl) (And.intro rfl (And.intro rfl (trivial))) ?_
  unfold f9_readCompared
  refine J_aload_n dX9_readCompared_0 rfl rfl ?_
  refine J_aload_n dX9_readCompared_1 rfl rfl ?_
  refine K_callV_v (As := [vR (some a1)]) mcX9_readSum mlX9_58 rfl (by decide) (sq 11 rfl) (ct9_readSum G t N a1 h1 S) rfl rfl (Nat.le_of_ble_eq_true rfl) (by decide) (Nat.le_of_ble_eq_true rfl) dX9_readCompared_2 (fun q1 S2 => ?_)
  refine J_aload_n dX9_readCompared_5 rfl rfl ?_
  refine K_callV_i (As := []) mcX9_here mlX9_36 rfl (by decide) (sq 11 rfl) (ct9_here G t S2) rfl rfl (Nat.le_of_ble_eq_true rfl) (by decide) (Nat.le_of_ble_eq_true rfl) dX9_readCompared_6 (fun q3 S4 => ?_)
  refine J_istore_n [some (vR (some 11)), some (vR (some a1)), some (vI q3)] dX9_readCompared_9 rfl (Nat.le_of_ble_eq_true rfl) rfl rfl ?_
  refine J_iload_n dX9_readCompared_10 rfl rfl ?_
  refine J_bipush (v := nI 61) dX9_readCompared_11 (by decide) ?_
  refine J_icmp_eq (tgt := 33) dX9_readCompared_13 (by decide) (fun z5 => ?_) (fun z5 => ?_)
  · exact J_sb (t9_readCompared_j33 G t N a1 q3 h1 S4) (And.intro rfl (And.intro rfl (And.intro rfl (trivial))))
  · refine J_iload_n dX9_readCompared_16 rfl rfl ?_
    refine J_bipush (v := nI 60) dX9_readCompared_17 (by decide) ?_
    refine J_icmp_eq (tgt := 33) dX9_readCompared_19 (by decide) (fun z6 => ?_) (fun z6 => ?_)
    · exact J_sb (t9_readCompared_j33 G t N a1 q3 h1 S4) (And.intro rfl (And.intro rfl (And.intro rfl (trivial))))
    · refine J_iload_n dX9_readCompared_22 rfl rfl ?_
      refine J_bipush (v := nI 62) dX9_readCompared_23 (by decide) ?_
      refine J_icmp_eq (tgt := 33) dX9_readCompared_25 (by decide) (fun z7 => ?_) (fun z7 => ?_)
      · exact J_sb (t9_readCompared_j33 G t N a1 q3 h1 S4) (And.intro rfl (And.intro rfl (And.intro rfl (trivial))))
      · refine J_aload_n dX9_readCompared_28 rfl rfl ?_
        refine K_callV_v (As := []) mcX9_fail mlX9_33 rfl (by decide) (sq 11 rfl) (ct9_fail G t S4) rfl rfl (Nat.le_of_ble_eq_true rfl) (by decide) (Nat.le_of_ble_eq_true rfl) dX9_readCompared_29 (fun q8 S9 => ?_)
        exact J_return rfl (Nat.le_refl _) (Nat.le_refl _) rfl dX9_readCompared_32
theorem dX9_readOne_0 : decode cX9_readOne 0 = .ok (.aload_n 0, 1) := by decide +kernel
theorem dX9_readOne_1 : decode cX9_readOne 1 = .ok (.invokevirtual 36, 3) := by decide +kernel
theorem dX9_readOne_4 : decode cX9_readOne 4 = .ok (.bipush 33, 2) := by decide +kernel
theorem dX9_readOne_6 : decode cX9_readOne 6 = .ok (.if_icmp .eq 18, 3) := by decide +kernel
theorem dX9_readOne_9 : decode cX9_readOne 9 = .ok (.aload_n 0, 1) := by decide +kernel
theorem dX9_readOne_10 : decode cX9_readOne 10 = .ok (.invokevirtual 36, 3) := by decide +kernel
theorem dX9_readOne_13 : decode cX9_readOne 13 = .ok (.bipush 40, 2) := by decide +kernel
theorem dX9_readOne_15 : decode cX9_readOne 15 = .ok (.if_icmp .eq 9, 3) := by decide +kernel
theorem dX9_readOne_18 : decode cX9_readOne 18 = .ok (.aload_n 0, 1) := by decide +kernel
theorem dX9_readOne_19 : decode cX9_readOne 19 = .ok (.aload_n 1, 1) := by decide +kernel
theorem dX9_readOne_20 : decode cX9_readOne 20 = .ok (.invokevirtual 54, 3) := by decide +kernel
theorem dX9_readOne_23 : decode cX9_readOne 23 = .ok (.return_, 1) := by decide +kernel
theorem dX9_readOne_24 : decode cX9_readOne 24 = .ok (.iload_n 2, 1) := by decide +kernel
theorem dX9_readOne_25 : decode cX9_readOne 25 = .ok (.iconst 5, 1) := by decide +kernel
theorem dX9_readOne_26 : decode cX9_readOne 26 = .ok (.if_icmp .lt 8, 3) := by decide +kernel
theorem dX9_readOne_29 : decode cX9_readOne 29 = .ok (.aload_n 0, 1) := by decide +kernel
theorem dX9_readOne_30 : decode cX9_readOne 30 = .ok (.invokevirtual 33, 3) := by decide +kernel
theorem dX9_readOne_33 : decode cX9_readOne 33 = .ok (.return_, 1) := by decide +kernel
theorem dX9_readOne_34 : decode cX9_readOne 34 = .ok (.aload_n 0, 1) := by decide +kernel
theorem dX9_readOne_35 : decode cX9_readOne 35 = .ok (.bipush 33, 2) := by decide +kernel
theorem dX9_readOne_37 : decode cX9_readOne 37 = .ok (.invokevirtual 43, 3) := by decide +kernel
theorem dX9_readOne_40 : decode cX9_readOne 40 = .ok (.ifCond .eq 18, 3) := by decide +kernel
theorem dX9_readOne_43 : decode cX9_readOne 43 = .ok (.aload_n 0, 1) := by decide +kernel
theorem dX9_readOne_44 : decode cX9_readOne 44 = .ok (.aload_n 1, 1) := by decide +kernel
theorem dX9_readOne_45 : decode cX9_readOne 45 = .ok (.iload_n 2, 1) := by decide +kernel
theorem dX9_readOne_46 : decode cX9_readOne 46 = .ok (.iconst 1, 1) := by decide +kernel
theorem dX9_readOne_47 : decode cX9_readOne 47 = .ok (.iadd, 1) := by decide +kernel
theorem dX9_readOne_48 : decode cX9_readOne 48 = .ok (.invokevirtual 40, 3) := by decide +kernel
theorem dX9_readOne_51 : decode cX9_readOne 51 = .ok (.aload_n 1, 1) := by decide +kernel
theorem dX9_readOne_52 : decode cX9_readOne 52 = .ok (.bipush 33, 2) := by decide +kernel
theorem dX9_readOne_54 : decode cX9_readOne 54 = .ok (.invokevirtual 47, 3) := by decide +kernel
theorem dX9_readOne_57 : decode cX9_readOne 57 = .ok (.return_, 1) := by decide +kernel
theorem dX9_readOne_58 : decode cX9_readOne 58 = .ok (.aload_n 0, 1) := by decide +kernel
theorem dX9_readOne_59 : decode cX9_readOne 59 = .ok (.dup, 1) := by decide +kernel
theorem dX9_readOne_60 : decode cX9_readOne 60 = .ok (.getfield 17, 3) := by decide +kernel
theorem dX9_readOne_63 : decode cX9_readOne 63 = .ok (.iconst 1, 1) := by decide +kernel
theorem dX9_readOne_64 : decode cX9_readOne 64 = .ok (.iadd, 1) := by decide +kernel
theorem dX9_readOne_65 : decode cX9_readOne 65 = .ok (.putfield 17, 3) := by decide +kernel
theorem dX9_readOne_68 : decode cX9_readOne 68 = .ok (.aload_n 0, 1) := by decide +kernel
theorem dX9_readOne_69 : decode cX9_readOne 69 = .ok (.aload_n 1, 1) := by decide +kernel
theorem dX9_readOne_70 : decode cX9_readOne 70 = .ok (.iload_n 2, 1) := by decide +kernel
theorem dX9_readOne_71 : decode cX9_readOne 71 = .ok (.iconst 1, 1) := by decide +kernel
theorem dX9_readOne_72 : decode cX9_readOne 72 = .ok (.iadd, 1) := by decide +kernel
theorem dX9_readOne_73 : decode cX9_readOne 73 = .ok (.invokevirtual 29, 3) := by decide +kernel
theorem dX9_readOne_76 : decode cX9_readOne 76 = .ok (.aload_n 0, 1) := by decide +kernel
theorem dX9_readOne_77 : decode cX9_readOne 77 = .ok (.bipush 41, 2) := by decide +kernel
theorem dX9_readOne_79 : decode cX9_readOne 79 = .ok (.invokevirtual 43, 3) := by decide +kernel
theorem dX9_readOne_82 : decode cX9_readOne 82 = .ok (.ifCond .ne 7, 3) := by decide +kernel
theorem dX9_readOne_85 : decode cX9_readOne 85 = .ok (.aload_n 0, 1) := by decide +kernel
theorem dX9_readOne_86 : decode cX9_readOne 86 = .ok (.invokevirtual 33, 3) := by decide +kernel
theorem dX9_readOne_89 : decode cX9_readOne 89 = .ok (.return_, 1) := by decide +kernel
set_option maxRecDepth 100000 in
set_option maxHeartbeats 4000000 in
theorem t9_readOne_j24 (G : Gm) (t : Nat) (N : Nat) (pv : Nat → Int32 → St → Option (Unit × St)) (dv : Nat) (hdv : 5 ≤ dv) (hpv : ∀ (a1 : Nat) (x2 : Int32) (h1 : a1 ∈ ad1) (S : St), Ct G YX9_readOne yX9_readOne dv 0 0 (fV t) (pv a1 x2 S) [vR (some 11), vR (some a1), vI x2] (MM t S)) (a1 : Nat) (x2 : Int32) (h1 : a1 ∈ ad1)   : ∀  (S : St), J G YX9_readOne (dv + 2) 0 0 (fV t) 0 0 24 [some (vR (some 11)), some (vR (some a1)), some (vI x2)] [] (MM t S) (f9_readOne_j24 N pv a1 x2 S) := by
  intro S
  unfold f9_readOne_j24
  refine J_iload_n dX9_readOne_24 rfl rfl ?_
  refine J_iconst (v := nI 5) dX9_readOne_25 (by decide) ?_
  refine J_icmp_lt (tgt := 34) dX9_readOne_26 (by decide) (fun z1 => ?_) (fun z1 => ?_)
  · refine J_aload_n dX9_readOne_34 rfl rfl ?_
    refine J_bipush (v := nI 33) dX9_readOne_35 (by decide) ?_
    refine K_callV_i (As := [vI (nI 33)]) mcX9_goesOnWith mlX9_43 rfl (by decide) (sq 11 rfl) (ct9_goesOnWith G t (nI 33) S) rfl rfl (Nat.le_of_ble_eq_true rfl) (by omega) (Nat.le_of_ble_eq_true rfl) dX9_readOne_37 (fun q2 S3 => ?_)
    refine J_if_eq (tgt := 58) dX9_readOne_40 (by decide) (fun z4 => ?_) (fun z4 => ?_)
    · refine J_aload_n dX9_readOne_58 rfl rfl ?_
      refine J_dup dX9_readOne_59 rfl ?_
      refine K_getI cf9 flX9_17 (sq 11 rfl) (Or.inl rfl) dX9_readOne_60 ?_
      refine J_iconst (v := nI 1) dX9_readOne_63 (by decide) ?_
      refine J_iadd dX9_readOne_64 ?_
      refine K_putI cf9 flX9_17 (sq 11 rfl) rfl dX9_readOne_65 ?_
      refine J_ltS (fun S5 _ => ?_)
      refine J_aload_n dX9_readOne_68 rfl rfl ?_
      refine J_aload_n dX9_readOne_69 rfl rfl ?_
      refine J_iload_n dX9_readOne_70 rfl rfl ?_
      refine J_iconst (v := nI 1) dX9_readOne_71 (by decide) ?_
      refine J_iadd dX9_readOne_72 ?_
      refine K_callV_v (As := [vR (some a1), vI (x2 + (nI 1))]) mcX9_readAny mlX9_29 rfl (by decide) (sq 11 rfl) (ct9_readAny G t N pv dv hdv hpv a1 (x2 + (nI 1)) h1 S5) rfl rfl (Nat.le_of_ble_eq_true rfl) (by omega) (Nat.le_of_ble_eq_true rfl) dX9_readOne_73 (fun q6 S7 => ?_)
      refine J_aload_n dX9_readOne_76 rfl rfl ?_
      refine J_bipush (v := nI 41) dX9_readOne_77 (by decide) ?_
      refine K_callV_i (As := [vI (nI 41)]) mcX9_goesOnWith mlX9_43 rfl (by decide) (sq 11 rfl) (ct9_goesOnWith G t (nI 41) S7) rfl rfl (Nat.le_of_ble_eq_true rfl) (by omega) (Nat.le_of_ble_eq_true rfl) dX9_readOne_79 (fun q8 S9 => ?_)
      refine J_if_ne (tgt := 89) dX9_readOne_82 (by decide) (fun z10 => ?_) (fun z10 => ?_)
      · refine J_aload_n dX9_readOne_85 rfl rfl ?_
        refine K_callV_v (As := []) mcX9_fail mlX9_33 rfl (by decide) (sq 11 rfl) (ct9_fail G t S9) rfl rfl (Nat.le_of_ble_eq_true rfl) (by omega) (Nat.le_of_ble_eq_true rfl) dX9_readOne_86 (fun q11 S12 => ?_)
        exact J_return rfl (Nat.le_refl _) (Nat.le_refl _) rfl dX9_readOne_89
      · exact J_return rfl (Nat.le_refl _) (Nat.le_refl _) rfl dX9_readOne_89
    · refine J_aload_n dX9_readOne_43 rfl rfl ?_
      refine J_aload_n dX9_readOne_44 rfl rfl ?_
      refine J_iload_n dX9_readOne_45 rfl rfl ?_
      refine J_iconst (v := nI 1) dX9_readOne_46 (by decide) ?_
      refine J_iadd dX9_readOne_47 ?_
      refine K_callV_v (As := [vR (some a1), vI (x2 + (nI 1))]) mcX9_readOne mlX9_40 rfl (by decide) (sq 11 rfl) (hpv a1 (x2 + (nI 1)) h1 S3) rfl rfl (Nat.le_of_ble_eq_true rfl) (by omega) (Nat.le_of_ble_eq_true rfl) dX9_readOne_48 (fun q13 S14 => ?_)
      refine J_aload_n dX9_readOne_51 rfl rfl ?_
      refine J_bipush (v := nI 33) dX9_readOne_52 (by decide) ?_
      refine K_callV_v (As := [vI (nI 33)]) mcX1_write mlX9_47 rfl (by decide) (sq1_0 h1) (ct1_write G t a1 (nI 33) h1 S14) rfl rfl (Nat.le_of_ble_eq_true rfl) (by omega) (Nat.le_of_ble_eq_true rfl) dX9_readOne_54 (fun q15 S16 => ?_)
      exact J_return rfl (Nat.le_refl _) (Nat.le_refl _) rfl dX9_readOne_57
  · refine J_aload_n dX9_readOne_29 rfl rfl ?_
    refine K_callV_v (As := []) mcX9_fail mlX9_33 rfl (by decide) (sq 11 rfl) (ct9_fail G t S) rfl rfl (Nat.le_of_ble_eq_true rfl) (by omega) (Nat.le_of_ble_eq_true rfl) dX9_readOne_30 (fun q17 S18 => ?_)
    exact J_return rfl (Nat.le_refl _) (Nat.le_refl _) rfl dX9_readOne_33
set_option maxRecDepth 100000 in
set_option maxHeartbeats 4000000 in
theorem ct9_readOne_b (G : Gm) (t : Nat) (N : Nat) (pv : Nat → Int32 → St → Option (Unit × St)) (dv : Nat) (hdv : 5 ≤ dv) (hpv : ∀ (a1 : Nat) (x2 : Int32) (h1 : a1 ∈ ad1) (S : St), Ct G YX9_readOne yX9_readOne dv 0 0 (fV t) (pv a1 x2 S) [vR (some 11), vR (some a1), vI x2] (MM t S)) (a1 : Nat) (x2 : Int32) (h1 : a1 ∈ ad1) (S : St) : Ct G YX9_readOne yX9_readOne (dv + 2) 0 0 (fV t) (f9_readOne_b N pv a1 x2 S) [vR (some 11), vR (some a1), vI x2] (MM t S) := by
  refine Ct_of_J [some (vR (some 11)), some (vR (some a1)), some (vI x2)] (by decide) rfl (fun h => by cases h) (Nat.le_of_ble_eq_true rfl) (And.intro rfl (And.intro rfl (And.intro rfl (trivial)))) ?_
  unfold f9_readOne_b
  refine J_aload_n dX9_readOne_0 rfl rfl ?_
  refine K_callV_i (As := []) mcX9_here mlX9_36 rfl (by decide) (sq 11 rfl) (ct9_here G t S) rfl rfl (Nat.le_of_ble_eq_true rfl) (by omega) (Nat.le_of_ble_eq_true rfl) dX9_readOne_1 (fun q1 S2 => ?_)
  refine J_bipush (v := nI 33) dX9_readOne_4 (by decide) ?_
  refine J_icmp_eq (tgt := 24) dX9_readOne_6 (by decide) (fun z3 => ?_) (fun z3 => ?_)
  · exact J_sb (t9_readOne_j24 G t N pv dv hdv hpv a1 x2 h1 S2) (And.intro rfl (And.intro rfl (And.intro rfl (trivial))))
  · refine J_aload_n dX9_readOne_9 rfl rfl ?_
    refine K_callV_i (As := []) mcX9_here mlX9_36 rfl (by decide) (sq 11 rfl) (ct9_here G t S2) rfl rfl (Nat.le_of_ble_eq_true rfl) (by omega) (Nat.le_of_ble_eq_true rfl) dX9_readOne_10 (fun q4 S5 => ?_)
    refine J_bipush (v := nI 40) dX9_readOne_13 (by decide) ?_
    refine J_icmp_eq (tgt := 24) dX9_readOne_15 (by decide) (fun z6 => ?_) (fun z6 => ?_)
    · exact J_sb (t9_readOne_j24 G t N pv dv hdv hpv a1 x2 h1 S5) (And.intro rfl (And.intro rfl (And.intro rfl (trivial))))
    · refine J_aload_n dX9_readOne_18 rfl rfl ?_
      refine J_aload_n dX9_readOne_19 rfl rfl ?_
      refine K_callV_v (As := [vR (some a1)]) mcX9_readCompared mlX9_54 rfl (by decide) (sq 11 rfl) (ct9_readCompared G t N a1 h1 S5) rfl rfl (Nat.le_of_ble_eq_true rfl) (by omega) (Nat.le_of_ble_eq_true rfl) dX9_readOne_20 (fun q7 S8 => ?_)
      exact J_return rfl (Nat.le_refl _) (Nat.le_refl _) rfl dX9_readOne_23
theorem ct9_readOne (G : Gm) (t : Nat) (N : Nat) : ∀ (n : Nat) (a1 : Nat) (x2 : Int32) (h1 : a1 ∈ ad1) (S : St), Ct G YX9_readOne yX9_readOne (2 * n + 5) 0 0 (fV t) (f9_readOne N n a1 x2 S) [vR (some 11), vR (some a1), vI x2] (MM t S)
  | 0, _, _, _, _ => fun u hu => absurd (show none = some u from hu) (by simp)
  | n + 1, a1, x2, h1, S => by
    rw [show 2 * (n + 1) + 5 = 2 * n + 5 + 2 by omega]
    exact ct9_readOne_b G t N (f9_readOne N n) _ (by omega) (ct9_readOne G t N n) a1 x2 h1 S
theorem dX9_writeTo_0 : decode cX9_writeTo 0 = .ok (.aload_n 0, 1) := by decide +kernel
theorem dX9_writeTo_1 : decode cX9_writeTo 1 = .ok (.iconst 0, 1) := by decide +kernel
theorem dX9_writeTo_2 : decode cX9_writeTo 2 = .ok (.putfield 17, 3) := by decide +kernel
theorem dX9_writeTo_5 : decode cX9_writeTo 5 = .ok (.aload_n 0, 1) := by decide +kernel
theorem dX9_writeTo_6 : decode cX9_writeTo 6 = .ok (.iconst (-1), 1) := by decide +kernel
theorem dX9_writeTo_7 : decode cX9_writeTo 7 = .ok (.putfield 20, 3) := by decide +kernel
theorem dX9_writeTo_10 : decode cX9_writeTo 10 = .ok (.aload_n 1, 1) := by decide +kernel
theorem dX9_writeTo_11 : decode cX9_writeTo 11 = .ok (.iload_n 2, 1) := by decide +kernel
theorem dX9_writeTo_12 : decode cX9_writeTo 12 = .ok (.invokevirtual 23, 3) := by decide +kernel
theorem dX9_writeTo_15 : decode cX9_writeTo 15 = .ok (.aload_n 0, 1) := by decide +kernel
theorem dX9_writeTo_16 : decode cX9_writeTo 16 = .ok (.aload_n 1, 1) := by decide +kernel
theorem dX9_writeTo_17 : decode cX9_writeTo 17 = .ok (.iconst 0, 1) := by decide +kernel
theorem dX9_writeTo_18 : decode cX9_writeTo 18 = .ok (.invokevirtual 29, 3) := by decide +kernel
theorem dX9_writeTo_21 : decode cX9_writeTo 21 = .ok (.aload_n 0, 1) := by decide +kernel
theorem dX9_writeTo_22 : decode cX9_writeTo 22 = .ok (.getfield 17, 3) := by decide +kernel
theorem dX9_writeTo_25 : decode cX9_writeTo 25 = .ok (.aload_n 0, 1) := by decide +kernel
theorem dX9_writeTo_26 : decode cX9_writeTo 26 = .ok (.getfield 13, 3) := by decide +kernel
theorem dX9_writeTo_29 : decode cX9_writeTo 29 = .ok (.if_icmp .ge 7, 3) := by decide +kernel
theorem dX9_writeTo_32 : decode cX9_writeTo 32 = .ok (.aload_n 0, 1) := by decide +kernel
theorem dX9_writeTo_33 : decode cX9_writeTo 33 = .ok (.invokevirtual 33, 3) := by decide +kernel
theorem dX9_writeTo_36 : decode cX9_writeTo 36 = .ok (.aload_n 0, 1) := by decide +kernel
theorem dX9_writeTo_37 : decode cX9_writeTo 37 = .ok (.getfield 20, 3) := by decide +kernel
theorem dX9_writeTo_40 : decode cX9_writeTo 40 = .ok (.ireturn, 1) := by decide +kernel
set_option maxRecDepth 100000 in
set_option maxHeartbeats 4000000 in
theorem t9_writeTo_j36 (G : Gm) (t : Nat) (N : Nat)     : ∀  (S : St), J G YX9_writeTo 23 0 0 (fI t) 0 0 36 [some (vR (some 11)), none, none] [] (MM t S) (f9_writeTo_j36 N S) := by
  intro S
  unfold f9_writeTo_j36
  refine J_aload_n dX9_writeTo_36 rfl rfl ?_
  refine K_getI cf9 flX9_20 (sq 11 rfl) (Or.inl rfl) dX9_writeTo_37 ?_
  exact J_ireturn rfl (Nat.le_refl _) (Nat.le_refl _) rfl dX9_writeTo_40
set_option maxRecDepth 100000 in
set_option maxHeartbeats 4000000 in
theorem ct9_writeTo (G : Gm) (t : Nat) (N : Nat) (a1 : Nat) (x2 : Int32) (h1 : a1 ∈ ad1) (S : St) : Ct G YX9_writeTo yX9_writeTo 23 0 0 (fI t) (f9_writeTo N a1 x2 S) [vR (some 11), vR (some a1), vI x2] (MM t S) := by
  refine Ct_of_J [some (vR (some 11)), some (vR (some a1)), some (vI x2)] (by decide) rfl (fun h => by cases h) (Nat.le_of_ble_eq_true rfl) (And.intro rfl (And.intro rfl (And.intro rfl (trivial)))) ?_
  unfold f9_writeTo
  refine J_aload_n dX9_writeTo_0 rfl rfl ?_
  refine J_iconst (v := nI 0) dX9_writeTo_1 (by decide) ?_
  refine K_putI cf9 flX9_17 (sq 11 rfl) rfl dX9_writeTo_2 ?_
  refine J_ltS (fun S1 _ => ?_)
  refine J_aload_n dX9_writeTo_5 rfl rfl ?_
  refine J_iconst (v := (-1)) dX9_writeTo_6 (by decide) ?_
  refine K_putI cf9 flX9_20 (sq 11 rfl) rfl dX9_writeTo_7 ?_
  refine J_ltS (fun S2 _ => ?_)
  refine J_aload_n dX9_writeTo_10 rfl rfl ?_
  refine J_iload_n dX9_writeTo_11 rfl rfl ?_
  refine K_callV_v (As := [vI x2]) mcX1_begin mlX9_23 rfl (by decide) (sq1_0 h1) (ct1_begin G t a1 x2 h1 S2) rfl rfl (Nat.le_of_ble_eq_true rfl) (by decide) (Nat.le_of_ble_eq_true rfl) dX9_writeTo_12 (fun q3 S4 => ?_)
  refine J_aload_n dX9_writeTo_15 rfl rfl ?_
  refine J_aload_n dX9_writeTo_16 rfl rfl ?_
  refine J_iconst (v := nI 0) dX9_writeTo_17 (by decide) ?_
  refine K_callV_v (As := [vR (some a1), vI (nI 0)]) mcX9_readAny mlX9_29 rfl (by decide) (sq 11 rfl) (ct9_readAny G t N (f9_readOne N 8) 21 (by decide) (ct9_readOne G t N 8) a1 (nI 0) h1 S4) rfl rfl (Nat.le_of_ble_eq_true rfl) (by decide) (Nat.le_of_ble_eq_true rfl) dX9_writeTo_18 (fun q5 S6 => ?_)
  refine J_aload_n dX9_writeTo_21 rfl rfl ?_
  refine K_getI cf9 flX9_17 (sq 11 rfl) (Or.inl rfl) dX9_writeTo_22 ?_
  refine J_aload_n dX9_writeTo_25 rfl rfl ?_
  refine K_getI cf9 flX9_13 (sq 11 rfl) (Or.inl rfl) dX9_writeTo_26 ?_
  refine J_icmp_ge (tgt := 36) dX9_writeTo_29 (by decide) (fun z7 => ?_) (fun z7 => ?_)
  · exact J_sb (t9_writeTo_j36 G t N S6) (And.intro rfl (trivial))
  · refine J_aload_n dX9_writeTo_32 rfl rfl ?_
    refine K_callV_v (As := []) mcX9_fail mlX9_33 rfl (by decide) (sq 11 rfl) (ct9_fail G t S6) rfl rfl (Nat.le_of_ble_eq_true rfl) (by decide) (Nat.le_of_ble_eq_true rfl) dX9_writeTo_33 (fun q8 S9 => ?_)
    exact J_sb (t9_writeTo_j36 G t N S9) (And.intro rfl (trivial))
