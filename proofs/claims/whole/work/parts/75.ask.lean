theorem dX1_begin_0 : decode cX1_begin 0 = .ok (.aload_n 0, 1) := by decide +kernel
theorem dX1_begin_1 : decode cX1_begin 1 = .ok (.iconst 0, 1) := by decide +kernel
theorem dX1_begin_2 : decode cX1_begin 2 = .ok (.putfield 15, 3) := by decide +kernel
theorem dX1_begin_5 : decode cX1_begin 5 = .ok (.aload_n 0, 1) := by decide +kernel
theorem dX1_begin_6 : decode cX1_begin 6 = .ok (.iload_n 1, 1) := by decide +kernel
theorem dX1_begin_7 : decode cX1_begin 7 = .ok (.putfield 19, 3) := by decide +kernel
theorem dX1_begin_10 : decode cX1_begin 10 = .ok (.return_, 1) := by decide +kernel
set_option maxRecDepth 100000 in
set_option maxHeartbeats 4000000 in
theorem ct1_begin (G : Gm) (t : Nat)  (a0 : Nat) (x1 : Int32) (h0 : a0 ∈ ad1) (S : St) : Ct G YX1_begin yX1_begin 1 0 0 (fV t) (f1_begin a0 x1 S) [vR (some a0), vI x1] (MM t S) := by
  refine Ct_of_J [some (vR (some a0)), some (vI x1)] (by decide) rfl (fun h => by cases h) (Nat.le_of_ble_eq_true rfl) (And.intro rfl (And.intro rfl (trivial))) ?_
  unfold f1_begin
  refine J_aload_n dX1_begin_0 rfl rfl ?_
  refine J_iconst (v := nI 0) dX1_begin_1 (by decide) ?_
  refine K_putI cf1 flX1_15 (sq1_0 h0) rfl dX1_begin_2 ?_
  refine J_ltS (fun S1 _ => ?_)
  refine J_aload_n dX1_begin_5 rfl rfl ?_
  refine J_iload_n dX1_begin_6 rfl rfl ?_
  refine K_putI cf1 flX1_19 (sq1_0 h0) rfl dX1_begin_7 ?_
  refine J_ltS (fun S2 _ => ?_)
  exact J_return rfl (Nat.le_refl _) (Nat.le_refl _) rfl dX1_begin_10
theorem dX1_write_0 : decode cX1_write 0 = .ok (.aload_n 0, 1) := by decide +kernel
theorem dX1_write_1 : decode cX1_write 1 = .ok (.getfield 15, 3) := by decide +kernel
theorem dX1_write_4 : decode cX1_write 4 = .ok (.aload_n 0, 1) := by decide +kernel
theorem dX1_write_5 : decode cX1_write 5 = .ok (.getfield 9, 3) := by decide +kernel
theorem dX1_write_8 : decode cX1_write 8 = .ok (.arraylength, 1) := by decide +kernel
theorem dX1_write_9 : decode cX1_write 9 = .ok (.if_icmp .ge 23, 3) := by decide +kernel
theorem dX1_write_12 : decode cX1_write 12 = .ok (.aload_n 0, 1) := by decide +kernel
theorem dX1_write_13 : decode cX1_write 13 = .ok (.getfield 9, 3) := by decide +kernel
theorem dX1_write_16 : decode cX1_write 16 = .ok (.aload_n 0, 1) := by decide +kernel
theorem dX1_write_17 : decode cX1_write 17 = .ok (.getfield 15, 3) := by decide +kernel
theorem dX1_write_20 : decode cX1_write 20 = .ok (.iload_n 1, 1) := by decide +kernel
theorem dX1_write_21 : decode cX1_write 21 = .ok (.iastore, 1) := by decide +kernel
theorem dX1_write_22 : decode cX1_write 22 = .ok (.aload_n 0, 1) := by decide +kernel
theorem dX1_write_23 : decode cX1_write 23 = .ok (.dup, 1) := by decide +kernel
theorem dX1_write_24 : decode cX1_write 24 = .ok (.getfield 15, 3) := by decide +kernel
theorem dX1_write_27 : decode cX1_write 27 = .ok (.iconst 1, 1) := by decide +kernel
theorem dX1_write_28 : decode cX1_write 28 = .ok (.iadd, 1) := by decide +kernel
theorem dX1_write_29 : decode cX1_write 29 = .ok (.putfield 15, 3) := by decide +kernel
theorem dX1_write_32 : decode cX1_write 32 = .ok (.return_, 1) := by decide +kernel
set_option maxRecDepth 100000 in
set_option maxHeartbeats 4000000 in
theorem ct1_write (G : Gm) (t : Nat)  (a0 : Nat) (x1 : Int32) (h0 : a0 ∈ ad1) (S : St) : Ct G YX1_write yX1_write 1 0 0 (fV t) (f1_write a0 x1 S) [vR (some a0), vI x1] (MM t S) := by
  refine Ct_of_J [some (vR (some a0)), some (vI x1)] (by decide) rfl (fun h => by cases h) (Nat.le_of_ble_eq_true rfl) (And.intro rfl (And.intro rfl (trivial))) ?_
  unfold f1_write
  refine J_aload_n dX1_write_0 rfl rfl ?_
  refine K_getI cf1 flX1_15 (sq1_0 h0) (Or.inl rfl) dX1_write_1 ?_
  refine J_aload_n dX1_write_4 rfl rfl ?_
  refine K_getR (r := some (a0 + 1)) cf1 flX1_9 (sq1_0 h0) (rq1_0 h0) (Or.inr ⟨_, rfl⟩) dX1_write_5 ?_
  refine K_alen (v := nI 60) (sq1_1 h0) (by decide) rfl dX1_write_8 ?_
  refine J_icmp_ge (tgt := 32) dX1_write_9 (by decide) (fun z1 => ?_) (fun z1 => ?_)
  · exact J_return rfl (Nat.le_refl _) (Nat.le_refl _) rfl dX1_write_32
  · refine J_aload_n dX1_write_12 rfl rfl ?_
    refine K_getR (r := some (a0 + 1)) cf1 flX1_9 (sq1_0 h0) (rq1_0 h0) (Or.inr ⟨_, rfl⟩) dX1_write_13 ?_
    refine J_aload_n dX1_write_16 rfl rfl ?_
    refine K_getI cf1 flX1_15 (sq1_0 h0) (Or.inl rfl) dX1_write_17 ?_
    refine J_iload_n dX1_write_20 rfl rfl ?_
    refine K_iast (sq1_1 h0) dX1_write_21 ?_
    refine J_ltS (fun S2 _ => ?_)
    refine J_aload_n dX1_write_22 rfl rfl ?_
    refine J_dup dX1_write_23 rfl ?_
    refine K_getI cf1 flX1_15 (sq1_0 h0) (Or.inl rfl) dX1_write_24 ?_
    refine J_iconst (v := nI 1) dX1_write_27 (by decide) ?_
    refine J_iadd dX1_write_28 ?_
    refine K_putI cf1 flX1_15 (sq1_0 h0) rfl dX1_write_29 ?_
    refine J_ltS (fun S3 _ => ?_)
    exact J_return rfl (Nat.le_refl _) (Nat.le_refl _) rfl dX1_write_32
theorem dX1_input_0 : decode cX1_input 0 = .ok (.aload_n 0, 1) := by decide +kernel
theorem dX1_input_1 : decode cX1_input 1 = .ok (.getfield 19, 3) := by decide +kernel
theorem dX1_input_4 : decode cX1_input 4 = .ok (.ireturn, 1) := by decide +kernel
set_option maxRecDepth 100000 in
set_option maxHeartbeats 4000000 in
theorem ct1_input (G : Gm) (t : Nat)  (a0 : Nat) (h0 : a0 ∈ ad1) (S : St) : Ct G YX1_input yX1_input 1 0 0 (fI t) (f1_input a0 S) [vR (some a0)] (MM t S) := by
  refine Ct_of_J [some (vR (some a0))] (by decide) rfl (fun h => by cases h) (Nat.le_of_ble_eq_true rfl) (And.intro rfl (trivial)) ?_
  unfold f1_input
  refine J_aload_n dX1_input_0 rfl rfl ?_
  refine K_getI cf1 flX1_19 (sq1_0 h0) (Or.inl rfl) dX1_input_1 ?_
  exact J_ireturn rfl (Nat.le_refl _) (Nat.le_refl _) rfl dX1_input_4
theorem dX1_isName_0 : decode cX1_isName 0 = .ok (.iload_n 0, 1) := by decide +kernel
theorem dX1_isName_1 : decode cX1_isName 1 = .ok (.bipush 110, 2) := by decide +kernel
theorem dX1_isName_3 : decode cX1_isName 3 = .ok (.if_icmp .eq 39, 3) := by decide +kernel
theorem dX1_isName_6 : decode cX1_isName 6 = .ok (.iload_n 0, 1) := by decide +kernel
theorem dX1_isName_7 : decode cX1_isName 7 = .ok (.bipush 102, 2) := by decide +kernel
theorem dX1_isName_9 : decode cX1_isName 9 = .ok (.if_icmp .eq 33, 3) := by decide +kernel
theorem dX1_isName_12 : decode cX1_isName 12 = .ok (.iload_n 0, 1) := by decide +kernel
theorem dX1_isName_13 : decode cX1_isName 13 = .ok (.bipush 108, 2) := by decide +kernel
theorem dX1_isName_15 : decode cX1_isName 15 = .ok (.if_icmp .eq 27, 3) := by decide +kernel
theorem dX1_isName_18 : decode cX1_isName 18 = .ok (.iload_n 0, 1) := by decide +kernel
theorem dX1_isName_19 : decode cX1_isName 19 = .ok (.bipush 109, 2) := by decide +kernel
theorem dX1_isName_21 : decode cX1_isName 21 = .ok (.if_icmp .eq 21, 3) := by decide +kernel
theorem dX1_isName_24 : decode cX1_isName 24 = .ok (.iload_n 0, 1) := by decide +kernel
theorem dX1_isName_25 : decode cX1_isName 25 = .ok (.bipush 120, 2) := by decide +kernel
theorem dX1_isName_27 : decode cX1_isName 27 = .ok (.if_icmp .eq 15, 3) := by decide +kernel
theorem dX1_isName_30 : decode cX1_isName 30 = .ok (.iload_n 0, 1) := by decide +kernel
theorem dX1_isName_31 : decode cX1_isName 31 = .ok (.bipush 97, 2) := by decide +kernel
theorem dX1_isName_33 : decode cX1_isName 33 = .ok (.if_icmp .eq 9, 3) := by decide +kernel
theorem dX1_isName_36 : decode cX1_isName 36 = .ok (.iload_n 0, 1) := by decide +kernel
theorem dX1_isName_37 : decode cX1_isName 37 = .ok (.bipush 98, 2) := by decide +kernel
theorem dX1_isName_39 : decode cX1_isName 39 = .ok (.if_icmp .ne 7, 3) := by decide +kernel
theorem dX1_isName_42 : decode cX1_isName 42 = .ok (.iconst 1, 1) := by decide +kernel
theorem dX1_isName_43 : decode cX1_isName 43 = .ok (.goto 4, 3) := by decide +kernel
theorem dX1_isName_46 : decode cX1_isName 46 = .ok (.iconst 0, 1) := by decide +kernel
theorem dX1_isName_47 : decode cX1_isName 47 = .ok (.ireturn, 1) := by decide +kernel
set_option maxRecDepth 100000 in
set_option maxHeartbeats 4000000 in
theorem ct1_isName (G : Gm) (t : Nat)  (x0 : Int32)  (S : St) : Ct G YX1_isName yX1_isName 1 0 0 (fI t) (f1_isName x0 S) [vI x0] (MM t S) := by
  refine Ct_of_J [some (vI x0)] (by decide) rfl (fun h => by cases h) (Nat.le_of_ble_eq_true rfl) (And.intro rfl (trivial)) ?_
  unfold f1_isName
  refine J_iload_n dX1_isName_0 rfl rfl ?_
  refine J_bipush (v := nI 110) dX1_isName_1 (by decide) ?_
  refine J_icmp_eq (tgt := 42) dX1_isName_3 (by decide) (fun z1 => ?_) (fun z1 => ?_)
  · refine J_iconst (v := nI 1) dX1_isName_42 (by decide) ?_
    refine J_goto (tgt := 47) dX1_isName_43 (by decide) ?_
    exact J_zreturn (by decide) rfl (Nat.le_refl _) (Nat.le_refl _) rfl dX1_isName_47
  · refine J_iload_n dX1_isName_6 rfl rfl ?_
    refine J_bipush (v := nI 102) dX1_isName_7 (by decide) ?_
    refine J_icmp_eq (tgt := 42) dX1_isName_9 (by decide) (fun z2 => ?_) (fun z2 => ?_)
    · refine J_iconst (v := nI 1) dX1_isName_42 (by decide) ?_
      refine J_goto (tgt := 47) dX1_isName_43 (by decide) ?_
      exact J_zreturn (by decide) rfl (Nat.le_refl _) (Nat.le_refl _) rfl dX1_isName_47
    · refine J_iload_n dX1_isName_12 rfl rfl ?_
      refine J_bipush (v := nI 108) dX1_isName_13 (by decide) ?_
      refine J_icmp_eq (tgt := 42) dX1_isName_15 (by decide) (fun z3 => ?_) (fun z3 => ?_)
      · refine J_iconst (v := nI 1) dX1_isName_42 (by decide) ?_
        refine J_goto (tgt := 47) dX1_isName_43 (by decide) ?_
        exact J_zreturn (by decide) rfl (Nat.le_refl _) (Nat.le_refl _) rfl dX1_isName_47
      · refine J_iload_n dX1_isName_18 rfl rfl ?_
        refine J_bipush (v := nI 109) dX1_isName_19 (by decide) ?_
        refine J_icmp_eq (tgt := 42) dX1_isName_21 (by decide) (fun z4 => ?_) (fun z4 => ?_)
        · refine J_iconst (v := nI 1) dX1_isName_42 (by decide) ?_
          refine J_goto (tgt := 47) dX1_isName_43 (by decide) ?_
          exact J_zreturn (by decide) rfl (Nat.le_refl _) (Nat.le_refl _) rfl dX1_isName_47
        · refine J_iload_n dX1_isName_24 rfl rfl ?_
          refine J_bipush (v := nI 120) dX1_isName_25 (by decide) ?_
          refine J_icmp_eq (tgt := 42) dX1_isName_27 (by decide) (fun z5 => ?_) (fun z5 => ?_)
          · refine J_iconst (v := nI 1) dX1_isName_42 (by decide) ?_
            refine J_goto (tgt := 47) dX1_isName_43 (by decide) ?_
            exact J_zreturn (by decide) rfl (Nat.le_refl _) (Nat.le_refl _) rfl dX1_isName_47
          · refine J_iload_n dX1_isName_30 rfl rfl ?_
            refine J_bipush (v := nI 97) dX1_isName_31 (by decide) ?_
            refine J_icmp_eq (tgt := 42) dX1_isName_33 (by decide) (fun z6 => ?_) (fun z6 => ?_)
            · refine J_iconst (v := nI 1) dX1_isName_42 (by decide) ?_
              refine J_goto (tgt := 47) dX1_isName_43 (by decide) ?_
              exact J_zreturn (by decide) rfl (Nat.le_refl _) (Nat.le_refl _) rfl dX1_isName_47
            · refine J_iload_n dX1_isName_36 rfl rfl ?_
              refine J_bipush (v := nI 98) dX1_isName_37 (by decide) ?_
              refine J_icmp_ne (tgt := 46) dX1_isName_39 (by decide) (fun z7 => ?_) (fun z7 => ?_)
              · refine J_iconst (v := nI 1) dX1_isName_42 (by decide) ?_
                refine J_goto (tgt := 47) dX1_isName_43 (by decide) ?_
                exact J_zreturn (by decide) rfl (Nat.le_refl _) (Nat.le_refl _) rfl dX1_isName_47
              · refine J_iconst (v := nI 0) dX1_isName_46 (by decide) ?_
                exact J_zreturn (by decide) rfl (Nat.le_refl _) (Nat.le_refl _) rfl dX1_isName_47
theorem dX1_push_0 : decode cX1_push 0 = .ok (.aload_n 0, 1) := by decide +kernel
theorem dX1_push_1 : decode cX1_push 1 = .ok (.getfield 25, 3) := by decide +kernel
theorem dX1_push_4 : decode cX1_push 4 = .ok (.aload_n 0, 1) := by decide +kernel
theorem dX1_push_5 : decode cX1_push 5 = .ok (.getfield 22, 3) := by decide +kernel
theorem dX1_push_8 : decode cX1_push 8 = .ok (.arraylength, 1) := by decide +kernel
theorem dX1_push_9 : decode cX1_push 9 = .ok (.if_icmp .ge 23, 3) := by decide +kernel
theorem dX1_push_12 : decode cX1_push 12 = .ok (.aload_n 0, 1) := by decide +kernel
theorem dX1_push_13 : decode cX1_push 13 = .ok (.getfield 22, 3) := by decide +kernel
theorem dX1_push_16 : decode cX1_push 16 = .ok (.aload_n 0, 1) := by decide +kernel
theorem dX1_push_17 : decode cX1_push 17 = .ok (.getfield 25, 3) := by decide +kernel
theorem dX1_push_20 : decode cX1_push 20 = .ok (.iload_n 1, 1) := by decide +kernel
theorem dX1_push_21 : decode cX1_push 21 = .ok (.iastore, 1) := by decide +kernel
theorem dX1_push_22 : decode cX1_push 22 = .ok (.aload_n 0, 1) := by decide +kernel
theorem dX1_push_23 : decode cX1_push 23 = .ok (.dup, 1) := by decide +kernel
theorem dX1_push_24 : decode cX1_push 24 = .ok (.getfield 25, 3) := by decide +kernel
theorem dX1_push_27 : decode cX1_push 27 = .ok (.iconst 1, 1) := by decide +kernel
theorem dX1_push_28 : decode cX1_push 28 = .ok (.iadd, 1) := by decide +kernel
theorem dX1_push_29 : decode cX1_push 29 = .ok (.putfield 25, 3) := by decide +kernel
theorem dX1_push_32 : decode cX1_push 32 = .ok (.return_, 1) := by decide +kernel
set_option maxRecDepth 100000 in
set_option maxHeartbeats 4000000 in
theorem ct1_push (G : Gm) (t : Nat)  (a0 : Nat) (x1 : Int32) (h0 : a0 ∈ ad1) (S : St) : Ct G YX1_push yX1_push 1 0 0 (fV t) (f1_push a0 x1 S) [vR (some a0), vI x1] (MM t S) := by
  refine Ct_of_J [some (vR (some a0)), some (vI x1)] (by decide) rfl (fun h => by cases h) (Nat.le_of_ble_eq_true rfl) (And.intro rfl (And.intro rfl (trivial))) ?_
  unfold f1_push
  refine J_aload_n dX1_push_0 rfl rfl ?_
  refine K_getI cf1 flX1_25 (sq1_0 h0) (Or.inl rfl) dX1_push_1 ?_
  refine J_aload_n dX1_push_4 rfl rfl ?_
  refine K_getR (r := some (a0 + 2)) cf1 flX1_22 (sq1_0 h0) (rq1_3 h0) (Or.inr ⟨_, rfl⟩) dX1_push_5 ?_
  refine K_alen (v := nI 60) (sq1_2 h0) (by decide) rfl dX1_push_8 ?_
  refine J_icmp_ge (tgt := 32) dX1_push_9 (by decide) (fun z1 => ?_) (fun z1 => ?_)
  · exact J_return rfl (Nat.le_refl _) (Nat.le_refl _) rfl dX1_push_32
  · refine J_aload_n dX1_push_12 rfl rfl ?_
    refine K_getR (r := some (a0 + 2)) cf1 flX1_22 (sq1_0 h0) (rq1_3 h0) (Or.inr ⟨_, rfl⟩) dX1_push_13 ?_
    refine J_aload_n dX1_push_16 rfl rfl ?_
    refine K_getI cf1 flX1_25 (sq1_0 h0) (Or.inl rfl) dX1_push_17 ?_
    refine J_iload_n dX1_push_20 rfl rfl ?_
    refine K_iast (sq1_2 h0) dX1_push_21 ?_
    refine J_ltS (fun S2 _ => ?_)
    refine J_aload_n dX1_push_22 rfl rfl ?_
    refine J_dup dX1_push_23 rfl ?_
    refine K_getI cf1 flX1_25 (sq1_0 h0) (Or.inl rfl) dX1_push_24 ?_
    refine J_iconst (v := nI 1) dX1_push_27 (by decide) ?_
    refine J_iadd dX1_push_28 ?_
    refine K_putI cf1 flX1_25 (sq1_0 h0) rfl dX1_push_29 ?_
    refine J_ltS (fun S3 _ => ?_)
    exact J_return rfl (Nat.le_refl _) (Nat.le_refl _) rfl dX1_push_32
theorem dX1_valueOf_0 : decode cX1_valueOf 0 = .ok (.iload_n 1, 1) := by decide +kernel
theorem dX1_valueOf_1 : decode cX1_valueOf 1 = .ok (.lookupswitch 96 #[(97, 91), (102, 64), (108, 70), (109, 81), (110, 59), (120, 86)], 59) := by decide +kernel
theorem dX1_valueOf_60 : decode cX1_valueOf 60 = .ok (.aload_n 2, 1) := by decide +kernel
theorem dX1_valueOf_61 : decode cX1_valueOf 61 = .ok (.invokevirtual 34, 3) := by decide +kernel
theorem dX1_valueOf_64 : decode cX1_valueOf 64 = .ok (.ireturn, 1) := by decide +kernel
theorem dX1_valueOf_65 : decode cX1_valueOf 65 = .ok (.aload_n 2, 1) := by decide +kernel
theorem dX1_valueOf_66 : decode cX1_valueOf 66 = .ok (.iconst 0, 1) := by decide +kernel
theorem dX1_valueOf_67 : decode cX1_valueOf 67 = .ok (.invokevirtual 56, 3) := by decide +kernel
theorem dX1_valueOf_70 : decode cX1_valueOf 70 = .ok (.ireturn, 1) := by decide +kernel
theorem dX1_valueOf_71 : decode cX1_valueOf 71 = .ok (.aload_n 2, 1) := by decide +kernel
theorem dX1_valueOf_72 : decode cX1_valueOf 72 = .ok (.aload_n 2, 1) := by decide +kernel
theorem dX1_valueOf_73 : decode cX1_valueOf 73 = .ok (.invokevirtual 34, 3) := by decide +kernel
theorem dX1_valueOf_76 : decode cX1_valueOf 76 = .ok (.iconst 1, 1) := by decide +kernel
theorem dX1_valueOf_77 : decode cX1_valueOf 77 = .ok (.isub, 1) := by decide +kernel
theorem dX1_valueOf_78 : decode cX1_valueOf 78 = .ok (.invokevirtual 56, 3) := by decide +kernel
theorem dX1_valueOf_81 : decode cX1_valueOf 81 = .ok (.ireturn, 1) := by decide +kernel
theorem dX1_valueOf_82 : decode cX1_valueOf 82 = .ok (.aload_n 2, 1) := by decide +kernel
theorem dX1_valueOf_83 : decode cX1_valueOf 83 = .ok (.invokevirtual 60, 3) := by decide +kernel
theorem dX1_valueOf_86 : decode cX1_valueOf 86 = .ok (.ireturn, 1) := by decide +kernel
theorem dX1_valueOf_87 : decode cX1_valueOf 87 = .ok (.aload_n 0, 1) := by decide +kernel
theorem dX1_valueOf_88 : decode cX1_valueOf 88 = .ok (.getfield 19, 3) := by decide +kernel
theorem dX1_valueOf_91 : decode cX1_valueOf 91 = .ok (.ireturn, 1) := by decide +kernel
theorem dX1_valueOf_92 : decode cX1_valueOf 92 = .ok (.aload_n 2, 1) := by decide +kernel
theorem dX1_valueOf_93 : decode cX1_valueOf 93 = .ok (.invokevirtual 63, 3) := by decide +kernel
theorem dX1_valueOf_96 : decode cX1_valueOf 96 = .ok (.ireturn, 1) := by decide +kernel
theorem dX1_valueOf_97 : decode cX1_valueOf 97 = .ok (.aload_n 2, 1) := by decide +kernel
theorem dX1_valueOf_98 : decode cX1_valueOf 98 = .ok (.invokevirtual 66, 3) := by decide +kernel
theorem dX1_valueOf_101 : decode cX1_valueOf 101 = .ok (.ireturn, 1) := by decide +kernel
set_option maxRecDepth 100000 in
set_option maxHeartbeats 4000000 in
theorem ct1_valueOf (G : Gm) (t : Nat) (N : Nat) (a0 : Nat) (x1 : Int32) (h0 : a0 ∈ ad1) (S : St) : Ct G YX1_valueOf yX1_valueOf 3 0 0 (fI t) (f1_valueOf N a0 x1 S) [vR (some a0), vI x1, vR (some 6)] (MM t S) := by
  refine Ct_of_J [some (vR (some a0)), some (vI x1), some (vR (some 6))] (by decide) rfl (fun h => by cases h) (Nat.le_of_ble_eq_true rfl) (And.intro rfl (And.intro rfl (And.intro rfl (trivial)))) ?_
  unfold f1_valueOf
  refine J_iload_n dX1_valueOf_0 rfl rfl ?_
  refine J_lookup (td := 97) _ dX1_valueOf_1 (by decide) (by decide) (by rfl) ?_ (by decide) ?_
  · refine List.forall_mem_cons.mpr ⟨lk_mk (o := 91) (tgt := 92) (by decide) (fun _ => ?_), ?_⟩
    · refine J_aload_n dX1_valueOf_92 rfl rfl ?_
      refine K_callV_i (As := []) mcX4_valueA mlX1_63 rfl (by decide) (sq 6 rfl) (ct4_valueA G t S) rfl rfl (Nat.le_of_ble_eq_true rfl) (by decide) (Nat.le_of_ble_eq_true rfl) dX1_valueOf_93 (fun q1 S2 => ?_)
      exact J_ireturn rfl (Nat.le_refl _) (Nat.le_refl _) rfl dX1_valueOf_96
    · refine List.forall_mem_cons.mpr ⟨lk_mk (o := 64) (tgt := 65) (by decide) (fun _ => ?_), ?_⟩
      · refine J_aload_n dX1_valueOf_65 rfl rfl ?_
        refine J_iconst (v := nI 0) dX1_valueOf_66 (by decide) ?_
        refine K_callV_i (As := [vI (nI 0)]) mcX4_saidAt mlX1_56 rfl (by decide) (sq 6 rfl) (ct4_saidAt G t (nI 0) S) rfl rfl (Nat.le_of_ble_eq_true rfl) (by decide) (Nat.le_of_ble_eq_true rfl) dX1_valueOf_67 (fun q3 S4 => ?_)
        exact J_ireturn rfl (Nat.le_refl _) (Nat.le_refl _) rfl dX1_valueOf_70
      · refine List.forall_mem_cons.mpr ⟨lk_mk (o := 70) (tgt := 71) (by decide) (fun _ => ?_), ?_⟩
        · refine J_aload_n dX1_valueOf_71 rfl rfl ?_
          refine J_aload_n dX1_valueOf_72 rfl rfl ?_
          refine K_callV_i (As := []) mcX4_saidCount mlX1_34 rfl (by decide) (sq 6 rfl) (ct4_saidCount G t S) rfl rfl (Nat.le_of_ble_eq_true rfl) (by decide) (Nat.le_of_ble_eq_true rfl) dX1_valueOf_73 (fun q5 S6 => ?_)
          refine J_iconst (v := nI 1) dX1_valueOf_76 (by decide) ?_
          refine J_isub dX1_valueOf_77 ?_
          refine K_callV_i (As := [vI (q5 - (nI 1))]) mcX4_saidAt mlX1_56 rfl (by decide) (sq 6 rfl) (ct4_saidAt G t (q5 - (nI 1)) S6) rfl rfl (Nat.le_of_ble_eq_true rfl) (by decide) (Nat.le_of_ble_eq_true rfl) dX1_valueOf_78 (fun q7 S8 => ?_)
          exact J_ireturn rfl (Nat.le_refl _) (Nat.le_refl _) rfl dX1_valueOf_81
        · refine List.forall_mem_cons.mpr ⟨lk_mk (o := 81) (tgt := 82) (by decide) (fun _ => ?_), ?_⟩
          · refine J_aload_n dX1_valueOf_82 rfl rfl ?_
            refine K_callV_i (As := []) mcX4_saidSum mlX1_60 rfl (by decide) (sq 6 rfl) (ct4_saidSum G t N S) rfl rfl (Nat.le_of_ble_eq_true rfl) (by decide) (Nat.le_of_ble_eq_true rfl) dX1_valueOf_83 (fun q9 S10 => ?_)
            exact J_ireturn rfl (Nat.le_refl _) (Nat.le_refl _) rfl dX1_valueOf_86
          · refine List.forall_mem_cons.mpr ⟨lk_mk (o := 59) (tgt := 60) (by decide) (fun _ => ?_), ?_⟩
            · refine J_aload_n dX1_valueOf_60 rfl rfl ?_
              refine K_callV_i (As := []) mcX4_saidCount mlX1_34 rfl (by decide) (sq 6 rfl) (ct4_saidCount G t S) rfl rfl (Nat.le_of_ble_eq_true rfl) (by decide) (Nat.le_of_ble_eq_true rfl) dX1_valueOf_61 (fun q11 S12 => ?_)
              exact J_ireturn rfl (Nat.le_refl _) (Nat.le_refl _) rfl dX1_valueOf_64
            · refine List.forall_mem_cons.mpr ⟨lk_mk (o := 86) (tgt := 87) (by decide) (fun _ => ?_), ?_⟩
              · refine J_aload_n dX1_valueOf_87 rfl rfl ?_
                refine K_getI cf1 flX1_19 (sq1_0 h0) (Or.inl rfl) dX1_valueOf_88 ?_
                exact J_ireturn rfl (Nat.le_refl _) (Nat.le_refl _) rfl dX1_valueOf_91
              · exact fun _ h => absurd h List.not_mem_nil
  · refine J_aload_n dX1_valueOf_97 rfl rfl ?_
    refine K_callV_i (As := []) mcX4_valueB mlX1_66 rfl (by decide) (sq 6 rfl) (ct4_valueB G t S) rfl rfl (Nat.le_of_ble_eq_true rfl) (by decide) (Nat.le_of_ble_eq_true rfl) dX1_valueOf_98 (fun q13 S14 => ?_)
    exact J_ireturn rfl (Nat.le_refl _) (Nat.le_refl _) rfl dX1_valueOf_101
theorem dX1_pop_0 : decode cX1_pop 0 = .ok (.aload_n 0, 1) := by decide +kernel
theorem dX1_pop_1 : decode cX1_pop 1 = .ok (.getfield 25, 3) := by decide +kernel
theorem dX1_pop_4 : decode cX1_pop 4 = .ok (.ifCond .le 15, 3) := by decide +kernel
theorem dX1_pop_7 : decode cX1_pop 7 = .ok (.aload_n 0, 1) := by decide +kernel
theorem dX1_pop_8 : decode cX1_pop 8 = .ok (.getfield 25, 3) := by decide +kernel
theorem dX1_pop_11 : decode cX1_pop 11 = .ok (.aload_n 0, 1) := by decide +kernel
theorem dX1_pop_12 : decode cX1_pop 12 = .ok (.getfield 22, 3) := by decide +kernel
theorem dX1_pop_15 : decode cX1_pop 15 = .ok (.arraylength, 1) := by decide +kernel
theorem dX1_pop_16 : decode cX1_pop 16 = .ok (.if_icmp .le 5, 3) := by decide +kernel
theorem dX1_pop_19 : decode cX1_pop 19 = .ok (.iconst 0, 1) := by decide +kernel
theorem dX1_pop_20 : decode cX1_pop 20 = .ok (.ireturn, 1) := by decide +kernel
theorem dX1_pop_21 : decode cX1_pop 21 = .ok (.aload_n 0, 1) := by decide +kernel
theorem dX1_pop_22 : decode cX1_pop 22 = .ok (.dup, 1) := by decide +kernel
theorem dX1_pop_23 : decode cX1_pop 23 = .ok (.getfield 25, 3) := by decide +kernel
theorem dX1_pop_26 : decode cX1_pop 26 = .ok (.iconst 1, 1) := by decide +kernel
theorem dX1_pop_27 : decode cX1_pop 27 = .ok (.isub, 1) := by decide +kernel
theorem dX1_pop_28 : decode cX1_pop 28 = .ok (.putfield 25, 3) := by decide +kernel
theorem dX1_pop_31 : decode cX1_pop 31 = .ok (.aload_n 0, 1) := by decide +kernel
theorem dX1_pop_32 : decode cX1_pop 32 = .ok (.getfield 22, 3) := by decide +kernel
theorem dX1_pop_35 : decode cX1_pop 35 = .ok (.aload_n 0, 1) := by decide +kernel
theorem dX1_pop_36 : decode cX1_pop 36 = .ok (.getfield 25, 3) := by decide +kernel
theorem dX1_pop_39 : decode cX1_pop 39 = .ok (.iaload, 1) := by decide +kernel
theorem dX1_pop_40 : decode cX1_pop 40 = .ok (.ireturn, 1) := by decide +kernel
set_option maxRecDepth 100000 in
set_option maxHeartbeats 4000000 in
theorem ct1_pop (G : Gm) (t : Nat)  (a0 : Nat) (h0 : a0 ∈ ad1) (S : St) : Ct G YX1_pop yX1_pop 1 0 0 (fI t) (f1_pop a0 S) [vR (some a0)] (MM t S) := by
  refine Ct_of_J [some (vR (some a0))] (by decide) rfl (fun h => by cases h) (Nat.le_of_ble_eq_true rfl) (And.intro rfl (trivial)) ?_
  unfold f1_pop
  refine J_aload_n dX1_pop_0 rfl rfl ?_
  refine K_getI cf1 flX1_25 (sq1_0 h0) (Or.inl rfl) dX1_pop_1 ?_
  refine J_if_le (tgt := 19) dX1_pop_4 (by decide) (fun z1 => ?_) (fun z1 => ?_)
  · refine J_iconst (v := nI 0) dX1_pop_19 (by decide) ?_
    exact J_ireturn rfl (Nat.le_refl _) (Nat.le_refl _) rfl dX1_pop_20
  · refine J_aload_n dX1_pop_7 rfl rfl ?_
    refine K_getI cf1 flX1_25 (sq1_0 h0) (Or.inl rfl) dX1_pop_8 ?_
    refine J_aload_n dX1_pop_11 rfl rfl ?_
    refine K_getR (r := some (a0 + 2)) cf1 flX1_22 (sq1_0 h0) (rq1_3 h0) (Or.inr ⟨_, rfl⟩) dX1_pop_12 ?_
    refine K_alen (v := nI 60) (sq1_2 h0) (by decide) rfl dX1_pop_15 ?_
    refine J_icmp_le (tgt := 21) dX1_pop_16 (by decide) (fun z2 => ?_) (fun z2 => ?_)
    · refine J_aload_n dX1_pop_21 rfl rfl ?_
      refine J_dup dX1_pop_22 rfl ?_
      refine K_getI cf1 flX1_25 (sq1_0 h0) (Or.inl rfl) dX1_pop_23 ?_
      refine J_iconst (v := nI 1) dX1_pop_26 (by decide) ?_
      refine J_isub dX1_pop_27 ?_
      refine K_putI cf1 flX1_25 (sq1_0 h0) rfl dX1_pop_28 ?_
      refine J_ltS (fun S3 _ => ?_)
      refine J_aload_n dX1_pop_31 rfl rfl ?_
      refine K_getR (r := some (a0 + 2)) cf1 flX1_22 (sq1_0 h0) (rq1_3 h0) (Or.inr ⟨_, rfl⟩) dX1_pop_32 ?_
      refine J_aload_n dX1_pop_35 rfl rfl ?_
      refine K_getI cf1 flX1_25 (sq1_0 h0) (Or.inl rfl) dX1_pop_36 ?_
      refine K_iald (sq1_2 h0) dX1_pop_39 ?_
      exact J_ireturn rfl (Nat.le_refl _) (Nat.le_refl _) rfl dX1_pop_40
    · refine J_iconst (v := nI 0) dX1_pop_19 (by decide) ?_
      exact J_ireturn rfl (Nat.le_refl _) (Nat.le_refl _) rfl dX1_pop_20
theorem dX1_joined_0 : decode cX1_joined 0 = .ok (.iload_n 1, 1) := by decide +kernel
theorem dX1_joined_1 : decode cX1_joined 1 = .ok (.tableswitch 180 37 62 #[123, 176, 180, 180, 180, 119, 135, 180, 139, 180, 180, 180, 180, 180, 180, 180, 180, 180, 180, 180, 180, 180, 180, 154, 143, 165], 119) := by decide +kernel
theorem dX1_joined_120 : decode cX1_joined 120 = .ok (.iload_n 0, 1) := by decide +kernel
theorem dX1_joined_121 : decode cX1_joined 121 = .ok (.iload_n 2, 1) := by decide +kernel
theorem dX1_joined_122 : decode cX1_joined 122 = .ok (.imul, 1) := by decide +kernel
theorem dX1_joined_123 : decode cX1_joined 123 = .ok (.ireturn, 1) := by decide +kernel
theorem dX1_joined_124 : decode cX1_joined 124 = .ok (.iload_n 2, 1) := by decide +kernel
theorem dX1_joined_125 : decode cX1_joined 125 = .ok (.ifCond .ne 7, 3) := by decide +kernel
theorem dX1_joined_128 : decode cX1_joined 128 = .ok (.iconst 0, 1) := by decide +kernel
theorem dX1_joined_129 : decode cX1_joined 129 = .ok (.goto 6, 3) := by decide +kernel
theorem dX1_joined_132 : decode cX1_joined 132 = .ok (.iload_n 0, 1) := by decide +kernel
theorem dX1_joined_133 : decode cX1_joined 133 = .ok (.iload_n 2, 1) := by decide +kernel
theorem dX1_joined_134 : decode cX1_joined 134 = .ok (.irem, 1) := by decide +kernel
theorem dX1_joined_135 : decode cX1_joined 135 = .ok (.ireturn, 1) := by decide +kernel
theorem dX1_joined_136 : decode cX1_joined 136 = .ok (.iload_n 0, 1) := by decide +kernel
theorem dX1_joined_137 : decode cX1_joined 137 = .ok (.iload_n 2, 1) := by decide +kernel
theorem dX1_joined_138 : decode cX1_joined 138 = .ok (.iadd, 1) := by decide +kernel
theorem dX1_joined_139 : decode cX1_joined 139 = .ok (.ireturn, 1) := by decide +kernel
theorem dX1_joined_140 : decode cX1_joined 140 = .ok (.iload_n 0, 1) := by decide +kernel
theorem dX1_joined_141 : decode cX1_joined 141 = .ok (.iload_n 2, 1) := by decide +kernel
theorem dX1_joined_142 : decode cX1_joined 142 = .ok (.isub, 1) := by decide +kernel
theorem dX1_joined_143 : decode cX1_joined 143 = .ok (.ireturn, 1) := by decide +kernel
theorem dX1_joined_144 : decode cX1_joined 144 = .ok (.iload_n 0, 1) := by decide +kernel
theorem dX1_joined_145 : decode cX1_joined 145 = .ok (.iload_n 2, 1) := by decide +kernel
theorem dX1_joined_146 : decode cX1_joined 146 = .ok (.if_icmp .ne 7, 3) := by decide +kernel
theorem dX1_joined_149 : decode cX1_joined 149 = .ok (.iconst 1, 1) := by decide +kernel
theorem dX1_joined_150 : decode cX1_joined 150 = .ok (.goto 4, 3) := by decide +kernel
theorem dX1_joined_153 : decode cX1_joined 153 = .ok (.iconst 0, 1) := by decide +kernel
theorem dX1_joined_154 : decode cX1_joined 154 = .ok (.ireturn, 1) := by decide +kernel
theorem dX1_joined_155 : decode cX1_joined 155 = .ok (.iload_n 0, 1) := by decide +kernel
theorem dX1_joined_156 : decode cX1_joined 156 = .ok (.iload_n 2, 1) := by decide +kernel
theorem dX1_joined_157 : decode cX1_joined 157 = .ok (.if_icmp .ge 7, 3) := by decide +kernel
theorem dX1_joined_160 : decode cX1_joined 160 = .ok (.iconst 1, 1) := by decide +kernel
theorem dX1_joined_161 : decode cX1_joined 161 = .ok (.goto 4, 3) := by decide +kernel
theorem dX1_joined_164 : decode cX1_joined 164 = .ok (.iconst 0, 1) := by decide +kernel
theorem dX1_joined_165 : decode cX1_joined 165 = .ok (.ireturn, 1) := by decide +kernel
theorem dX1_joined_166 : decode cX1_joined 166 = .ok (.iload_n 0, 1) := by decide +kernel
theorem dX1_joined_167 : decode cX1_joined 167 = .ok (.iload_n 2, 1) := by decide +kernel
theorem dX1_joined_168 : decode cX1_joined 168 = .ok (.if_icmp .le 7, 3) := by decide +kernel
theorem dX1_joined_171 : decode cX1_joined 171 = .ok (.iconst 1, 1) := by decide +kernel
theorem dX1_joined_172 : decode cX1_joined 172 = .ok (.goto 4, 3) := by decide +kernel
theorem dX1_joined_175 : decode cX1_joined 175 = .ok (.iconst 0, 1) := by decide +kernel
theorem dX1_joined_176 : decode cX1_joined 176 = .ok (.ireturn, 1) := by decide +kernel
theorem dX1_joined_177 : decode cX1_joined 177 = .ok (.iload_n 0, 1) := by decide +kernel
theorem dX1_joined_178 : decode cX1_joined 178 = .ok (.iload_n 2, 1) := by decide +kernel
theorem dX1_joined_179 : decode cX1_joined 179 = .ok (.iand, 1) := by decide +kernel
theorem dX1_joined_180 : decode cX1_joined 180 = .ok (.ireturn, 1) := by decide +kernel
theorem dX1_joined_181 : decode cX1_joined 181 = .ok (.iload_n 0, 1) := by decide +kernel
theorem dX1_joined_182 : decode cX1_joined 182 = .ok (.iload_n 2, 1) := by decide +kernel
theorem dX1_joined_183 : decode cX1_joined 183 = .ok (.ior, 1) := by decide +kernel
theorem dX1_joined_184 : decode cX1_joined 184 = .ok (.ireturn, 1) := by decide +kernel
set_option maxRecDepth 100000 in
set_option maxHeartbeats 4000000 in
theorem t1_joined_j181 (G : Gm) (t : Nat)  (x0 : Int32) (x2 : Int32)    : ∀  (S : St), J G YX1_joined 1 0 0 (fI t) 0 0 181 [some (vI x0), none, some (vI x2)] [] (MM t S) (f1_joined_j181 x0 x2 S) := by
  intro S
  unfold f1_joined_j181
  refine J_iload_n dX1_joined_181 rfl rfl ?_
  refine J_iload_n dX1_joined_182 rfl rfl ?_
  refine J_ior dX1_joined_183 ?_
  exact J_ireturn rfl (Nat.le_refl _) (Nat.le_refl _) rfl dX1_joined_184
set_option maxRecDepth 100000 in
set_option maxHeartbeats 4000000 in
theorem ct1_joined (G : Gm) (t : Nat)  (x0 : Int32) (x1 : Int32) (x2 : Int32)  (S : St) : Ct G YX1_joined yX1_joined 1 0 0 (fI t) (f1_joined x0 x1 x2 S) [vI x0, vI x1, vI x2] (MM t S) := by
  refine Ct_of_J [some (vI x0), some (vI x1), some (vI x2)] (by decide) rfl (fun h => by cases h) (Nat.le_of_ble_eq_true rfl) (And.intro rfl (And.intro rfl (And.intro rfl (trivial)))) ?_
  unfold f1_joined
  refine J_iload_n dX1_joined_0 rfl rfl ?_
  refine J_table (td := 181) _ dX1_joined_1 (fun z h1 h2 => cov_of (lo := (37)) (N := 26) (ks := [nI 37, nI 38, nI 39, nI 40, nI 41, nI 42, nI 43, nI 44, nI 45, nI 46, nI 47, nI 48, nI 49, nI 50, nI 51, nI 52, nI 53, nI 54, nI 55, nI 56, nI 57, nI 58, nI 59, nI 60, nI 61, nI 62]) (by decide) z h1 (by omega)) ?_ (by decide) ?_
  · refine List.forall_mem_cons.mpr ⟨tb_mk (o := 123) (tgt := 124) (by decide) (fun _ => ?_), ?_⟩
    · refine J_iload_n dX1_joined_124 rfl rfl ?_
      refine J_if_ne (tgt := 132) dX1_joined_125 (by decide) (fun z1 => ?_) (fun z1 => ?_)
      · refine J_iconst (v := nI 0) dX1_joined_128 (by decide) ?_
        refine J_goto (tgt := 135) dX1_joined_129 (by decide) ?_
        exact J_ireturn rfl (Nat.le_refl _) (Nat.le_refl _) rfl dX1_joined_135
      · refine J_iload_n dX1_joined_132 rfl rfl ?_
        refine J_iload_n dX1_joined_133 rfl rfl ?_
        refine J_iremZ dX1_joined_134 ?_
        exact J_ireturn rfl (Nat.le_refl _) (Nat.le_refl _) rfl dX1_joined_135
    · refine List.forall_mem_cons.mpr ⟨tb_mk (o := 176) (tgt := 177) (by decide) (fun _ => ?_), ?_⟩
      · refine J_iload_n dX1_joined_177 rfl rfl ?_
        refine J_iload_n dX1_joined_178 rfl rfl ?_
        refine J_iand dX1_joined_179 ?_
        exact J_ireturn rfl (Nat.le_refl _) (Nat.le_refl _) rfl dX1_joined_180
      · refine List.forall_mem_cons.mpr ⟨tb_mk (o := 180) (tgt := 181) (by decide) (fun _ => ?_), ?_⟩
        · exact J_sb (t1_joined_j181 G t x0 x2 S) (And.intro rfl (And.intro rfl (trivial)))
        · refine List.forall_mem_cons.mpr ⟨tb_mk (o := 180) (tgt := 181) (by decide) (fun _ => ?_), ?_⟩
          · exact J_sb (t1_joined_j181 G t x0 x2 S) (And.intro rfl (And.intro rfl (trivial)))
          · refine List.forall_mem_cons.mpr ⟨tb_mk (o := 180) (tgt := 181) (by decide) (fun _ => ?_), ?_⟩
            · exact J_sb (t1_joined_j181 G t x0 x2 S) (And.intro rfl (And.intro rfl (trivial)))
            · refine List.forall_mem_cons.mpr ⟨tb_mk (o := 119) (tgt := 120) (by decide) (fun _ => ?_), ?_⟩
              · refine J_iload_n dX1_joined_120 rfl rfl ?_
                refine J_iload_n dX1_joined_121 rfl rfl ?_
                refine J_imul dX1_joined_122 ?_
                exact J_ireturn rfl (Nat.le_refl _) (Nat.le_refl _) rfl dX1_joined_123
              · refine List.forall_mem_cons.mpr ⟨tb_mk (o := 135) (tgt := 136) (by decide) (fun _ => ?_), ?_⟩
                · refine J_iload_n dX1_joined_136 rfl rfl ?_
                  refine J_iload_n dX1_joined_137 rfl rfl ?_
                  refine J_iadd dX1_joined_138 ?_
                  exact J_ireturn rfl (Nat.le_refl _) (Nat.le_refl _) rfl dX1_joined_139
                · refine List.forall_mem_cons.mpr ⟨tb_mk (o := 180) (tgt := 181) (by decide) (fun _ => ?_), ?_⟩
                  · exact J_sb (t1_joined_j181 G t x0 x2 S) (And.intro rfl (And.intro rfl (trivial)))
                  · refine List.forall_mem_cons.mpr ⟨tb_mk (o := 139) (tgt := 140) (by decide) (fun _ => ?_), ?_⟩
                    · refine J_iload_n dX1_joined_140 rfl rfl ?_
                      refine J_iload_n dX1_joined_141 rfl rfl ?_
                      refine J_isub dX1_joined_142 ?_
                      exact J_ireturn rfl (Nat.le_refl _) (Nat.le_refl _) rfl dX1_joined_143
                    · refine List.forall_mem_cons.mpr ⟨tb_mk (o := 180) (tgt := 181) (by decide) (fun _ => ?_), ?_⟩
                      · exact J_sb (t1_joined_j181 G t x0 x2 S) (And.intro rfl (And.intro rfl (trivial)))
                      · refine List.forall_mem_cons.mpr ⟨tb_mk (o := 180) (tgt := 181) (by decide) (fun _ => ?_), ?_⟩
                        · exact J_sb (t1_joined_j181 G t x0 x2 S) (And.intro rfl (And.intro rfl (trivial)))
                        · refine List.forall_mem_cons.mpr ⟨tb_mk (o := 180) (tgt := 181) (by decide) (fun _ => ?_), ?_⟩
                          · exact J_sb (t1_joined_j181 G t x0 x2 S) (And.intro rfl (And.intro rfl (trivial)))
                          · refine List.forall_mem_cons.mpr ⟨tb_mk (o := 180) (tgt := 181) (by decide) (fun _ => ?_), ?_⟩
                            · exact J_sb (t1_joined_j181 G t x0 x2 S) (And.intro rfl (And.intro rfl (trivial)))
                            · refine List.forall_mem_cons.mpr ⟨tb_mk (o := 180) (tgt := 181) (by decide) (fun _ => ?_), ?_⟩
                              · exact J_sb (t1_joined_j181 G t x0 x2 S) (And.intro rfl (And.intro rfl (trivial)))
                              · refine List.forall_mem_cons.mpr ⟨tb_mk (o := 180) (tgt := 181) (by decide) (fun _ => ?_), ?_⟩
                                · exact J_sb (t1_joined_j181 G t x0 x2 S) (And.intro rfl (And.intro rfl (trivial)))
                                · refine List.forall_mem_cons.mpr ⟨tb_mk (o := 180) (tgt := 181) (by decide) (fun _ => ?_), ?_⟩
                                  · exact J_sb (t1_joined_j181 G t x0 x2 S) (And.intro rfl (And.intro rfl (trivial)))
                                  · refine List.forall_mem_cons.mpr ⟨tb_mk (o := 180) (tgt := 181) (by decide) (fun _ => ?_), ?_⟩
                                    · exact J_sb (t1_joined_j181 G t x0 x2 S) (And.intro rfl (And.intro rfl (trivial)))
                                    · refine List.forall_mem_cons.mpr ⟨tb_mk (o := 180) (tgt := 181) (by decide) (fun _ => ?_), ?_⟩
                                      · exact J_sb (t1_joined_j181 G t x0 x2 S) (And.intro rfl (And.intro rfl (trivial)))
                                      · refine List.forall_mem_cons.mpr ⟨tb_mk (o := 180) (tgt := 181) (by decide) (fun _ => ?_), ?_⟩
                                        · exact J_sb (t1_joined_j181 G t x0 x2 S) (And.intro rfl (And.intro rfl (trivial)))
                                        · refine List.forall_mem_cons.mpr ⟨tb_mk (o := 180) (tgt := 181) (by decide) (fun _ => ?_), ?_⟩
                                          · exact J_sb (t1_joined_j181 G t x0 x2 S) (And.intro rfl (And.intro rfl (trivial)))
                                          · refine List.forall_mem_cons.mpr ⟨tb_mk (o := 180) (tgt := 181) (by decide) (fun _ => ?_), ?_⟩
                                            · exact J_sb (t1_joined_j181 G t x0 x2 S) (And.intro rfl (And.intro rfl (trivial)))
                                            · refine List.forall_mem_cons.mpr ⟨tb_mk (o := 180) (tgt := 181) (by decide) (fun _ => ?_), ?_⟩
                                              · exact J_sb (t1_joined_j181 G t x0 x2 S) (And.intro rfl (And.intro rfl (trivial)))
                                              · refine List.forall_mem_cons.mpr ⟨tb_mk (o := 180) (tgt := 181) (by decide) (fun _ => ?_), ?_⟩
                                                · exact J_sb (t1_joined_j181 G t x0 x2 S) (And.intro rfl (And.intro rfl (trivial)))
                                                · refine List.forall_mem_cons.mpr ⟨tb_mk (o := 154) (tgt := 155) (by decide) (fun _ => ?_), ?_⟩
                                                  · refine J_iload_n dX1_joined_155 rfl rfl ?_
                                                    refine J_iload_n dX1_joined_156 rfl rfl ?_
                                                    refine J_icmp_ge (tgt := 164) dX1_joined_157 (by decide) (fun z2 => ?_) (fun z2 => ?_)
                                                    · refine J_iconst (v := nI 0) dX1_joined_164 (by decide) ?_
                                                      exact J_ireturn rfl (Nat.le_refl _) (Nat.le_refl _) rfl dX1_joined_165
                                                    · refine J_iconst (v := nI 1) dX1_joined_160 (by decide) ?_
                                                      refine J_goto (tgt := 165) dX1_joined_161 (by decide) ?_
                                                      exact J_ireturn rfl (Nat.le_refl _) (Nat.le_refl _) rfl dX1_joined_165
                                                  · refine List.forall_mem_cons.mpr ⟨tb_mk (o := 143) (tgt := 144) (by decide) (fun _ => ?_), ?_⟩
                                                    · refine J_iload_n dX1_joined_144 rfl rfl ?_
                                                      refine J_iload_n dX1_joined_145 rfl rfl ?_
                                                      refine J_icmp_ne (tgt := 153) dX1_joined_146 (by decide) (fun z3 => ?_) (fun z3 => ?_)
                                                      · refine J_iconst (v := nI 1) dX1_joined_149 (by decide) ?_
                                                        refine J_goto (tgt := 154) dX1_joined_150 (by decide) ?_
                                                        exact J_ireturn rfl (Nat.le_refl _) (Nat.le_refl _) rfl dX1_joined_154
                                                      · refine J_iconst (v := nI 0) dX1_joined_153 (by decide) ?_
                                                        exact J_ireturn rfl (Nat.le_refl _) (Nat.le_refl _) rfl dX1_joined_154
                                                    · refine List.forall_mem_cons.mpr ⟨tb_mk (o := 165) (tgt := 166) (by decide) (fun _ => ?_), ?_⟩
                                                      · refine J_iload_n dX1_joined_166 rfl rfl ?_
                                                        refine J_iload_n dX1_joined_167 rfl rfl ?_
                                                        refine J_icmp_le (tgt := 175) dX1_joined_168 (by decide) (fun z4 => ?_) (fun z4 => ?_)
                                                        · refine J_iconst (v := nI 0) dX1_joined_175 (by decide) ?_
                                                          exact J_ireturn rfl (Nat.le_refl _) (Nat.le_refl _) rfl dX1_joined_176
                                                        · refine J_iconst (v := nI 1) dX1_joined_171 (by decide) ?_
                                                          refine J_goto (tgt := 176) dX1_joined_172 (by decide) ?_
                                                          exact J_ireturn rfl (Nat.le_refl _) (Nat.le_refl _) rfl dX1_joined_176
                                                      · exact fun _ h => absurd h List.not_mem_nil
  · exact J_sb (t1_joined_j181 G t x0 x2 S) (And.intro rfl (And.intro rfl (trivial)))
theorem dX1_isPassedBy_0 : decode cX1_isPassedBy 0 = .ok (.aload_n 1, 1) := by decide +kernel
theorem dX1_isPassedBy_1 : decode cX1_isPassedBy 1 = .ok (.invokevirtual 28, 3) := by decide +kernel
theorem dX1_isPassedBy_4 : decode cX1_isPassedBy 4 = .ok (.ifCond .ne 10, 3) := by decide +kernel
theorem dX1_isPassedBy_7 : decode cX1_isPassedBy 7 = .ok (.aload_n 1, 1) := by decide +kernel
theorem dX1_isPassedBy_8 : decode cX1_isPassedBy 8 = .ok (.invokevirtual 34, 3) := by decide +kernel
theorem dX1_isPassedBy_11 : decode cX1_isPassedBy 11 = .ok (.ifCond .ne 5, 3) := by decide +kernel
theorem dX1_isPassedBy_14 : decode cX1_isPassedBy 14 = .ok (.iconst 0, 1) := by decide +kernel
theorem dX1_isPassedBy_15 : decode cX1_isPassedBy 15 = .ok (.ireturn, 1) := by decide +kernel
theorem dX1_isPassedBy_16 : decode cX1_isPassedBy 16 = .ok (.aload_n 0, 1) := by decide +kernel
theorem dX1_isPassedBy_17 : decode cX1_isPassedBy 17 = .ok (.iconst 0, 1) := by decide +kernel
theorem dX1_isPassedBy_18 : decode cX1_isPassedBy 18 = .ok (.putfield 25, 3) := by decide +kernel
theorem dX1_isPassedBy_21 : decode cX1_isPassedBy 21 = .ok (.iconst 0, 1) := by decide +kernel
theorem dX1_isPassedBy_22 : decode cX1_isPassedBy 22 = .ok (.istore_n 2, 1) := by decide +kernel
theorem dX1_isPassedBy_23 : decode cX1_isPassedBy 23 = .ok (.iload_n 2, 1) := by decide +kernel
theorem dX1_isPassedBy_24 : decode cX1_isPassedBy 24 = .ok (.aload_n 0, 1) := by decide +kernel
theorem dX1_isPassedBy_25 : decode cX1_isPassedBy 25 = .ok (.getfield 15, 3) := by decide +kernel
theorem dX1_isPassedBy_28 : decode cX1_isPassedBy 28 = .ok (.if_icmp .ge 103, 3) := by decide +kernel
theorem dX1_isPassedBy_31 : decode cX1_isPassedBy 31 = .ok (.iload_n 2, 1) := by decide +kernel
theorem dX1_isPassedBy_32 : decode cX1_isPassedBy 32 = .ok (.aload_n 0, 1) := by decide +kernel
theorem dX1_isPassedBy_33 : decode cX1_isPassedBy 33 = .ok (.getfield 9, 3) := by decide +kernel
theorem dX1_isPassedBy_36 : decode cX1_isPassedBy 36 = .ok (.arraylength, 1) := by decide +kernel
theorem dX1_isPassedBy_37 : decode cX1_isPassedBy 37 = .ok (.if_icmp .ge 94, 3) := by decide +kernel
theorem dX1_isPassedBy_40 : decode cX1_isPassedBy 40 = .ok (.aload_n 0, 1) := by decide +kernel
theorem dX1_isPassedBy_41 : decode cX1_isPassedBy 41 = .ok (.getfield 9, 3) := by decide +kernel
theorem dX1_isPassedBy_44 : decode cX1_isPassedBy 44 = .ok (.iload_n 2, 1) := by decide +kernel
theorem dX1_isPassedBy_45 : decode cX1_isPassedBy 45 = .ok (.iaload, 1) := by decide +kernel
theorem dX1_isPassedBy_46 : decode cX1_isPassedBy 46 = .ok (.istore_n 3, 1) := by decide +kernel
theorem dX1_isPassedBy_47 : decode cX1_isPassedBy 47 = .ok (.iload_n 3, 1) := by decide +kernel
theorem dX1_isPassedBy_48 : decode cX1_isPassedBy 48 = .ok (.sipush 256, 3) := by decide +kernel
theorem dX1_isPassedBy_51 : decode cX1_isPassedBy 51 = .ok (.if_icmp .lt 15, 3) := by decide +kernel
theorem dX1_isPassedBy_54 : decode cX1_isPassedBy 54 = .ok (.aload_n 0, 1) := by decide +kernel
theorem dX1_isPassedBy_55 : decode cX1_isPassedBy 55 = .ok (.iload_n 3, 1) := by decide +kernel
theorem dX1_isPassedBy_56 : decode cX1_isPassedBy 56 = .ok (.sipush 256, 3) := by decide +kernel
theorem dX1_isPassedBy_59 : decode cX1_isPassedBy 59 = .ok (.isub, 1) := by decide +kernel
theorem dX1_isPassedBy_60 : decode cX1_isPassedBy 60 = .ok (.invokevirtual 37, 3) := by decide +kernel
theorem dX1_isPassedBy_63 : decode cX1_isPassedBy 63 = .ok (.goto 62, 3) := by decide +kernel
theorem dX1_isPassedBy_66 : decode cX1_isPassedBy 66 = .ok (.iload_n 3, 1) := by decide +kernel
theorem dX1_isPassedBy_67 : decode cX1_isPassedBy 67 = .ok (.invokestatic 41, 3) := by decide +kernel
theorem dX1_isPassedBy_70 : decode cX1_isPassedBy 70 = .ok (.ifCond .eq 16, 3) := by decide +kernel
theorem dX1_isPassedBy_73 : decode cX1_isPassedBy 73 = .ok (.aload_n 0, 1) := by decide +kernel
theorem dX1_isPassedBy_74 : decode cX1_isPassedBy 74 = .ok (.aload_n 0, 1) := by decide +kernel
theorem dX1_isPassedBy_75 : decode cX1_isPassedBy 75 = .ok (.iload_n 3, 1) := by decide +kernel
theorem dX1_isPassedBy_76 : decode cX1_isPassedBy 76 = .ok (.aload_n 1, 1) := by decide +kernel
theorem dX1_isPassedBy_77 : decode cX1_isPassedBy 77 = .ok (.invokevirtual 45, 3) := by decide +kernel
theorem dX1_isPassedBy_80 : decode cX1_isPassedBy 80 = .ok (.invokevirtual 37, 3) := by decide +kernel
theorem dX1_isPassedBy_83 : decode cX1_isPassedBy 83 = .ok (.goto 42, 3) := by decide +kernel
theorem dX1_isPassedBy_86 : decode cX1_isPassedBy 86 = .ok (.iload_n 3, 1) := by decide +kernel
theorem dX1_isPassedBy_87 : decode cX1_isPassedBy 87 = .ok (.bipush 33, 2) := by decide +kernel
theorem dX1_isPassedBy_89 : decode cX1_isPassedBy 89 = .ok (.if_icmp .ne 16, 3) := by decide +kernel
theorem dX1_isPassedBy_92 : decode cX1_isPassedBy 92 = .ok (.aload_n 0, 1) := by decide +kernel
theorem dX1_isPassedBy_93 : decode cX1_isPassedBy 93 = .ok (.iconst 1, 1) := by decide +kernel
theorem dX1_isPassedBy_94 : decode cX1_isPassedBy 94 = .ok (.aload_n 0, 1) := by decide +kernel
theorem dX1_isPassedBy_95 : decode cX1_isPassedBy 95 = .ok (.invokevirtual 49, 3) := by decide +kernel
theorem dX1_isPassedBy_98 : decode cX1_isPassedBy 98 = .ok (.isub, 1) := by decide +kernel
theorem dX1_isPassedBy_99 : decode cX1_isPassedBy 99 = .ok (.invokevirtual 37, 3) := by decide +kernel
theorem dX1_isPassedBy_102 : decode cX1_isPassedBy 102 = .ok (.goto 23, 3) := by decide +kernel
theorem dX1_isPassedBy_105 : decode cX1_isPassedBy 105 = .ok (.aload_n 0, 1) := by decide +kernel
theorem dX1_isPassedBy_106 : decode cX1_isPassedBy 106 = .ok (.invokevirtual 49, 3) := by decide +kernel
theorem dX1_isPassedBy_109 : decode cX1_isPassedBy 109 = .ok (.istore 4, 2) := by decide +kernel
theorem dX1_isPassedBy_111 : decode cX1_isPassedBy 111 = .ok (.aload_n 0, 1) := by decide +kernel
theorem dX1_isPassedBy_112 : decode cX1_isPassedBy 112 = .ok (.aload_n 0, 1) := by decide +kernel
theorem dX1_isPassedBy_113 : decode cX1_isPassedBy 113 = .ok (.invokevirtual 49, 3) := by decide +kernel
theorem dX1_isPassedBy_116 : decode cX1_isPassedBy 116 = .ok (.iload_n 3, 1) := by decide +kernel
theorem dX1_isPassedBy_117 : decode cX1_isPassedBy 117 = .ok (.iload 4, 2) := by decide +kernel
theorem dX1_isPassedBy_119 : decode cX1_isPassedBy 119 = .ok (.invokestatic 52, 3) := by decide +kernel
theorem dX1_isPassedBy_122 : decode cX1_isPassedBy 122 = .ok (.invokevirtual 37, 3) := by decide +kernel
theorem dX1_isPassedBy_125 : decode cX1_isPassedBy 125 = .ok (.iinc 2 1, 3) := by decide +kernel
theorem dX1_isPassedBy_128 : decode cX1_isPassedBy 128 = .ok (.goto (-105), 3) := by decide +kernel
theorem dX1_isPassedBy_131 : decode cX1_isPassedBy 131 = .ok (.aload_n 0, 1) := by decide +kernel
theorem dX1_isPassedBy_132 : decode cX1_isPassedBy 132 = .ok (.invokevirtual 49, 3) := by decide +kernel
theorem dX1_isPassedBy_135 : decode cX1_isPassedBy 135 = .ok (.ifCond .eq 7, 3) := by decide +kernel
theorem dX1_isPassedBy_138 : decode cX1_isPassedBy 138 = .ok (.iconst 1, 1) := by decide +kernel
theorem dX1_isPassedBy_139 : decode cX1_isPassedBy 139 = .ok (.goto 4, 3) := by decide +kernel
theorem dX1_isPassedBy_142 : decode cX1_isPassedBy 142 = .ok (.iconst 0, 1) := by decide +kernel
theorem dX1_isPassedBy_143 : decode cX1_isPassedBy 143 = .ok (.ireturn, 1) := by decide +kernel
set_option maxRecDepth 100000 in
set_option maxHeartbeats 4000000 in
theorem t1_isPassedBy_j131 (G : Gm) (t : Nat) (N : Nat) (a0 : Nat) (h0 : a0 ∈ ad1)   : ∀  (S : St), J G YX1_isPassedBy 4 0 0 (fI t) 0 0 131 [some (vR (some a0)), none, none, none, none] [] (MM t S) (f1_isPassedBy_j131 N a0 S) := by
  intro S
  unfold f1_isPassedBy_j131
  refine J_aload_n dX1_isPassedBy_131 rfl rfl ?_
  refine K_callV_i (As := []) mcX1_pop mlX1_49 rfl (by decide) (sq1_0 h0) (ct1_pop G t a0 h0 S) rfl rfl (Nat.le_of_ble_eq_true rfl) (by decide) (Nat.le_of_ble_eq_true rfl) dX1_isPassedBy_132 (fun q1 S2 => ?_)
  refine J_if_eq (tgt := 142) dX1_isPassedBy_135 (by decide) (fun z3 => ?_) (fun z3 => ?_)
  · refine J_iconst (v := nI 0) dX1_isPassedBy_142 (by decide) ?_
    exact J_zreturn (by decide) rfl (Nat.le_refl _) (Nat.le_refl _) rfl dX1_isPassedBy_143
  · refine J_iconst (v := nI 1) dX1_isPassedBy_138 (by decide) ?_
    refine J_goto (tgt := 143) dX1_isPassedBy_139 (by decide) ?_
    exact J_zreturn (by decide) rfl (Nat.le_refl _) (Nat.le_refl _) rfl dX1_isPassedBy_143
set_option maxRecDepth 100000 in
set_option maxHeartbeats 4000000 in
theorem t1_isPassedBy_h23 (G : Gm) (t : Nat) (N : Nat) (a0 : Nat) (h0 : a0 ∈ ad1)   : ∀ (n : Nat) (x2 : Int32) (S : St), J G YX1_isPassedBy 4 0 0 (fI t) 0 0 23 [some (vR (some a0)), some (vR (some 6)), some (vI x2), none, none] [] (MM t S) (f1_isPassedBy_h23 N a0 n x2 S) := by
  intro n
  induction n with
  | zero => intro x2 S; exact J_none
  | succ n ih =>
    intro x2 S
    rw [f1_isPassedBy_h23]
    refine J_iload_n dX1_isPassedBy_23 rfl rfl ?_
    refine J_aload_n dX1_isPassedBy_24 rfl rfl ?_
    refine K_getI cf1 flX1_15 (sq1_0 h0) (Or.inl rfl) dX1_isPassedBy_25 ?_
    refine J_icmp_ge (tgt := 131) dX1_isPassedBy_28 (by decide) (fun z1 => ?_) (fun z1 => ?_)
    · exact J_sb (t1_isPassedBy_j131 G t N a0 h0 S) (And.intro rfl (trivial))
    · refine J_iload_n dX1_isPassedBy_31 rfl rfl ?_
      refine J_aload_n dX1_isPassedBy_32 rfl rfl ?_
      refine K_getR (r := some (a0 + 1)) cf1 flX1_9 (sq1_0 h0) (rq1_0 h0) (Or.inr ⟨_, rfl⟩) dX1_isPassedBy_33 ?_
      refine K_alen (v := nI 60) (sq1_1 h0) (by decide) rfl dX1_isPassedBy_36 ?_
      refine J_icmp_ge (tgt := 131) dX1_isPassedBy_37 (by decide) (fun z2 => ?_) (fun z2 => ?_)
      · exact J_sb (t1_isPassedBy_j131 G t N a0 h0 S) (And.intro rfl (trivial))
      · refine J_aload_n dX1_isPassedBy_40 rfl rfl ?_
        refine K_getR (r := some (a0 + 1)) cf1 flX1_9 (sq1_0 h0) (rq1_0 h0) (Or.inr ⟨_, rfl⟩) dX1_isPassedBy_41 ?_
        refine J_iload_n dX1_isPassedBy_44 rfl rfl ?_
        refine K_iald (sq1_1 h0) dX1_isPassedBy_45 ?_
        refine J_ltI (fun v3 _ => ?_)
        refine J_istore_n [some (vR (some a0)), some (vR (some 6)), some (vI x2), some (vI v3), none] dX1_isPassedBy_46 rfl (Nat.le_of_ble_eq_true rfl) rfl rfl ?_
        refine J_iload_n dX1_isPassedBy_47 rfl rfl ?_
        refine J_sipush (v := nI 256) dX1_isPassedBy_48 (by decide) ?_
        refine J_icmp_lt (tgt := 66) dX1_isPassedBy_51 (by decide) (fun z4 => ?_) (fun z4 => ?_)
        · refine J_iload_n dX1_isPassedBy_66 rfl rfl ?_
          refine K_callS_i (As := [vI v3]) mcX1_isName mlX1_41 (ct1_isName G t v3 S) rfl rfl (Nat.le_of_ble_eq_true rfl) (by decide) (Nat.le_of_ble_eq_true rfl) dX1_isPassedBy_67 (fun q5 S6 => ?_)
          refine J_if_eq (tgt := 86) dX1_isPassedBy_70 (by decide) (fun z7 => ?_) (fun z7 => ?_)
          · refine J_iload_n dX1_isPassedBy_86 rfl rfl ?_
            refine J_bipush (v := nI 33) dX1_isPassedBy_87 (by decide) ?_
            refine J_icmp_ne (tgt := 105) dX1_isPassedBy_89 (by decide) (fun z8 => ?_) (fun z8 => ?_)
            · refine J_aload_n dX1_isPassedBy_92 rfl rfl ?_
              refine J_iconst (v := nI 1) dX1_isPassedBy_93 (by decide) ?_
              refine J_aload_n dX1_isPassedBy_94 rfl rfl ?_
              refine K_callV_i (As := []) mcX1_pop mlX1_49 rfl (by decide) (sq1_0 h0) (ct1_pop G t a0 h0 S6) rfl rfl (Nat.le_of_ble_eq_true rfl) (by decide) (Nat.le_of_ble_eq_true rfl) dX1_isPassedBy_95 (fun q17 S18 => ?_)
              refine J_isub dX1_isPassedBy_98 ?_
              refine K_callV_v (As := [vI ((nI 1) - q17)]) mcX1_push mlX1_37 rfl (by decide) (sq1_0 h0) (ct1_push G t a0 ((nI 1) - q17) h0 S18) rfl rfl (Nat.le_of_ble_eq_true rfl) (by decide) (Nat.le_of_ble_eq_true rfl) dX1_isPassedBy_99 (fun q19 S20 => ?_)
              refine J_goto (tgt := 125) dX1_isPassedBy_102 (by decide) ?_
              refine J_iinc (v := x2 + nI 1) [some (vR (some a0)), some (vR (some 6)), some (vI (x2 + nI 1)), some (vI v3), none] dX1_isPassedBy_125 rfl rfl (Nat.le_of_ble_eq_true rfl) rfl rfl ?_
              refine J_goto (tgt := 23) dX1_isPassedBy_128 (by decide) ?_
              exact J_sb (ih (x2 + nI 1) S20) (And.intro rfl (And.intro rfl (And.intro rfl (trivial))))
            · refine J_aload_n dX1_isPassedBy_105 rfl rfl ?_
              refine K_callV_i (As := []) mcX1_pop mlX1_49 rfl (by decide) (sq1_0 h0) (ct1_pop G t a0 h0 S6) rfl rfl (Nat.le_of_ble_eq_true rfl) (by decide) (Nat.le_of_ble_eq_true rfl) dX1_isPassedBy_106 (fun q9 S10 => ?_)
              refine J_istore [some (vR (some a0)), some (vR (some 6)), some (vI x2), some (vI v3), some (vI q9)] dX1_isPassedBy_109 (Nat.le_of_ble_eq_true rfl) rfl rfl ?_
              refine J_aload_n dX1_isPassedBy_111 rfl rfl ?_
              refine J_aload_n dX1_isPassedBy_112 rfl rfl ?_
              refine K_callV_i (As := []) mcX1_pop mlX1_49 rfl (by decide) (sq1_0 h0) (ct1_pop G t a0 h0 S10) rfl rfl (Nat.le_of_ble_eq_true rfl) (by decide) (Nat.le_of_ble_eq_true rfl) dX1_isPassedBy_113 (fun q11 S12 => ?_)
              refine J_iload_n dX1_isPassedBy_116 rfl rfl ?_
              refine J_iload dX1_isPassedBy_117 rfl ?_
              refine K_callS_i (As := [vI q11, vI v3, vI q9]) mcX1_joined mlX1_52 (ct1_joined G t q11 v3 q9 S12) rfl rfl (Nat.le_of_ble_eq_true rfl) (by decide) (Nat.le_of_ble_eq_true rfl) dX1_isPassedBy_119 (fun q13 S14 => ?_)
              refine K_callV_v (As := [vI q13]) mcX1_push mlX1_37 rfl (by decide) (sq1_0 h0) (ct1_push G t a0 q13 h0 S14) rfl rfl (Nat.le_of_ble_eq_true rfl) (by decide) (Nat.le_of_ble_eq_true rfl) dX1_isPassedBy_122 (fun q15 S16 => ?_)
              refine J_iinc (v := x2 + nI 1) [some (vR (some a0)), some (vR (some 6)), some (vI (x2 + nI 1)), some (vI v3), some (vI q9)] dX1_isPassedBy_125 rfl rfl (Nat.le_of_ble_eq_true rfl) rfl rfl ?_
              refine J_goto (tgt := 23) dX1_isPassedBy_128 (by decide) ?_
              exact J_sb (ih (x2 + nI 1) S16) (And.intro rfl (And.intro rfl (And.intro rfl (trivial))))
          · refine J_aload_n dX1_isPassedBy_73 rfl rfl ?_
            refine J_aload_n dX1_isPassedBy_74 rfl rfl ?_
            refine J_iload_n dX1_isPassedBy_75 rfl rfl ?_
            refine J_aload_n dX1_isPassedBy_76 rfl rfl ?_
            refine K_callV_i (As := [vI v3, vR (some 6)]) mcX1_valueOf mlX1_45 rfl (by decide) (sq1_0 h0) (ct1_valueOf G t N a0 v3 h0 S6) rfl rfl (Nat.le_of_ble_eq_true rfl) (by decide) (Nat.le_of_ble_eq_true rfl) dX1_isPassedBy_77 (fun q21 S22 => ?_)
            refine K_callV_v (As := [vI q21]) mcX1_push mlX1_37 rfl (by decide) (sq1_0 h0) (ct1_push G t a0 q21 h0 S22) rfl rfl (Nat.le_of_ble_eq_true rfl) (by decide) (Nat.le_of_ble_eq_true rfl) dX1_isPassedBy_80 (fun q23 S24 => ?_)
            refine J_goto (tgt := 125) dX1_isPassedBy_83 (by decide) ?_
            refine J_iinc (v := x2 + nI 1) [some (vR (some a0)), some (vR (some 6)), some (vI (x2 + nI 1)), some (vI v3), none] dX1_isPassedBy_125 rfl rfl (Nat.le_of_ble_eq_true rfl) rfl rfl ?_
            refine J_goto (tgt := 23) dX1_isPassedBy_128 (by decide) ?_
            exact J_sb (ih (x2 + nI 1) S24) (And.intro rfl (And.intro rfl (And.intro rfl (trivial))))
        · refine J_aload_n dX1_isPassedBy_54 rfl rfl ?_
          refine J_iload_n dX1_isPassedBy_55 rfl rfl ?_
          refine J_sipush (v := nI 256) dX1_isPassedBy_56 (by decide) ?_
          refine J_isub dX1_isPassedBy_59 ?_
          refine K_callV_v (As := [vI (v3 - (nI 256))]) mcX1_push mlX1_37 rfl (by decide) (sq1_0 h0) (ct1_push G t a0 (v3 - (nI 256)) h0 S) rfl rfl (Nat.le_of_ble_eq_true rfl) (by decide) (Nat.le_of_ble_eq_true rfl) dX1_isPassedBy_60 (fun q25 S26 => ?_)
          refine J_goto (tgt := 125) dX1_isPassedBy_63 (by decide) ?_
          refine J_iinc (v := x2 + nI 1) [some (vR (some a0)), some (vR (some 6)), some (vI (x2 + nI 1)), some (vI v3), none] dX1_isPassedBy_125 rfl rfl (Nat.le_of_ble_eq_true rfl) rfl rfl ?_
          refine J_goto (tgt := 23) dX1_isPassedBy_128 (by decide) ?_
          exact J_sb (ih (x2 + nI 1) S26) (And.intro rfl (And.intro rfl (And.intro rfl (trivial))))
set_option maxRecDepth 100000 in
set_option maxHeartbeats 4000000 in
theorem ct1_isPassedBy (G : Gm) (t : Nat) (N : Nat) (a0 : Nat) (h0 : a0 ∈ ad1) (S : St) : Ct G YX1_isPassedBy yX1_isPassedBy 4 0 0 (fI t) (f1_isPassedBy N a0 S) [vR (some a0), vR (some 6)] (MM t S) := by
  refine Ct_of_J [some (vR (some a0)), some (vR (some 6)), none, none, none] (by decide) rfl (fun h => by cases h) (Nat.le_of_ble_eq_true rfl) (And.intro rfl (And.intro rfl (trivial))) ?_
  unfold f1_isPassedBy
  refine J_aload_n dX1_isPassedBy_0 rfl rfl ?_
  refine K_callV_i (As := []) mcX4_state mlX1_28 rfl (by decide) (sq 6 rfl) (ct4_state G t S) rfl rfl (Nat.le_of_ble_eq_true rfl) (by decide) (Nat.le_of_ble_eq_true rfl) dX1_isPassedBy_1 (fun q1 S2 => ?_)
  refine J_if_ne (tgt := 14) dX1_isPassedBy_4 (by decide) (fun z3 => ?_) (fun z3 => ?_)
  · refine J_aload_n dX1_isPassedBy_7 rfl rfl ?_
    refine K_callV_i (As := []) mcX4_saidCount mlX1_34 rfl (by decide) (sq 6 rfl) (ct4_saidCount G t S2) rfl rfl (Nat.le_of_ble_eq_true rfl) (by decide) (Nat.le_of_ble_eq_true rfl) dX1_isPassedBy_8 (fun q4 S5 => ?_)
    refine J_if_ne (tgt := 16) dX1_isPassedBy_11 (by decide) (fun z6 => ?_) (fun z6 => ?_)
    · refine J_iconst (v := nI 0) dX1_isPassedBy_14 (by decide) ?_
      exact J_zreturn (by decide) rfl (Nat.le_refl _) (Nat.le_refl _) rfl dX1_isPassedBy_15
    · refine J_aload_n dX1_isPassedBy_16 rfl rfl ?_
      refine J_iconst (v := nI 0) dX1_isPassedBy_17 (by decide) ?_
      refine K_putI cf1 flX1_25 (sq1_0 h0) rfl dX1_isPassedBy_18 ?_
      refine J_ltS (fun S7 _ => ?_)
      refine J_iconst (v := nI 0) dX1_isPassedBy_21 (by decide) ?_
      refine J_istore_n [some (vR (some a0)), some (vR (some 6)), some (vI (nI 0)), none, none] dX1_isPassedBy_22 rfl (Nat.le_of_ble_eq_true rfl) rfl rfl ?_
      exact J_sb (t1_isPassedBy_h23 G t N a0 h0 N (nI 0) S7) (And.intro rfl (And.intro rfl (And.intro rfl (trivial))))
  · refine J_iconst (v := nI 0) dX1_isPassedBy_14 (by decide) ?_
    exact J_zreturn (by decide) rfl (Nat.le_refl _) (Nat.le_refl _) rfl dX1_isPassedBy_15
