theorem dX3_sortByBits_0 : decode cX3_sortByBits 0 = .ok (.iconst 0, 1) := by decide +kernel
theorem dX3_sortByBits_1 : decode cX3_sortByBits 1 = .ok (.istore_n 1, 1) := by decide +kernel
theorem dX3_sortByBits_2 : decode cX3_sortByBits 2 = .ok (.iconst 1, 1) := by decide +kernel
theorem dX3_sortByBits_3 : decode cX3_sortByBits 3 = .ok (.istore_n 2, 1) := by decide +kernel
theorem dX3_sortByBits_4 : decode cX3_sortByBits 4 = .ok (.iload_n 2, 1) := by decide +kernel
theorem dX3_sortByBits_5 : decode cX3_sortByBits 5 = .ok (.bipush 6, 2) := by decide +kernel
theorem dX3_sortByBits_7 : decode cX3_sortByBits 7 = .ok (.if_icmp .gt 63, 3) := by decide +kernel
theorem dX3_sortByBits_10 : decode cX3_sortByBits 10 = .ok (.iconst 0, 1) := by decide +kernel
theorem dX3_sortByBits_11 : decode cX3_sortByBits 11 = .ok (.istore_n 3, 1) := by decide +kernel
theorem dX3_sortByBits_12 : decode cX3_sortByBits 12 = .ok (.iload_n 3, 1) := by decide +kernel
theorem dX3_sortByBits_13 : decode cX3_sortByBits 13 = .ok (.aload_n 0, 1) := by decide +kernel
theorem dX3_sortByBits_14 : decode cX3_sortByBits 14 = .ok (.getfield 9, 3) := by decide +kernel
theorem dX3_sortByBits_17 : decode cX3_sortByBits 17 = .ok (.if_icmp .ge 47, 3) := by decide +kernel
theorem dX3_sortByBits_20 : decode cX3_sortByBits 20 = .ok (.iload_n 3, 1) := by decide +kernel
theorem dX3_sortByBits_21 : decode cX3_sortByBits 21 = .ok (.aload_n 0, 1) := by decide +kernel
theorem dX3_sortByBits_22 : decode cX3_sortByBits 22 = .ok (.getfield 15, 3) := by decide +kernel
theorem dX3_sortByBits_25 : decode cX3_sortByBits 25 = .ok (.arraylength, 1) := by decide +kernel
theorem dX3_sortByBits_26 : decode cX3_sortByBits 26 = .ok (.if_icmp .ge 38, 3) := by decide +kernel
theorem dX3_sortByBits_29 : decode cX3_sortByBits 29 = .ok (.aload_n 0, 1) := by decide +kernel
theorem dX3_sortByBits_30 : decode cX3_sortByBits 30 = .ok (.getfield 15, 3) := by decide +kernel
theorem dX3_sortByBits_33 : decode cX3_sortByBits 33 = .ok (.iload_n 3, 1) := by decide +kernel
theorem dX3_sortByBits_34 : decode cX3_sortByBits 34 = .ok (.iaload, 1) := by decide +kernel
theorem dX3_sortByBits_35 : decode cX3_sortByBits 35 = .ok (.iload_n 2, 1) := by decide +kernel
theorem dX3_sortByBits_36 : decode cX3_sortByBits 36 = .ok (.if_icmp .ne 22, 3) := by decide +kernel
theorem dX3_sortByBits_39 : decode cX3_sortByBits 39 = .ok (.iload_n 1, 1) := by decide +kernel
theorem dX3_sortByBits_40 : decode cX3_sortByBits 40 = .ok (.aload_n 0, 1) := by decide +kernel
theorem dX3_sortByBits_41 : decode cX3_sortByBits 41 = .ok (.getfield 22, 3) := by decide +kernel
theorem dX3_sortByBits_44 : decode cX3_sortByBits 44 = .ok (.arraylength, 1) := by decide +kernel
theorem dX3_sortByBits_45 : decode cX3_sortByBits 45 = .ok (.if_icmp .ge 13, 3) := by decide +kernel
theorem dX3_sortByBits_48 : decode cX3_sortByBits 48 = .ok (.aload_n 0, 1) := by decide +kernel
theorem dX3_sortByBits_49 : decode cX3_sortByBits 49 = .ok (.getfield 22, 3) := by decide +kernel
theorem dX3_sortByBits_52 : decode cX3_sortByBits 52 = .ok (.iload_n 1, 1) := by decide +kernel
theorem dX3_sortByBits_53 : decode cX3_sortByBits 53 = .ok (.iload_n 3, 1) := by decide +kernel
theorem dX3_sortByBits_54 : decode cX3_sortByBits 54 = .ok (.iastore, 1) := by decide +kernel
theorem dX3_sortByBits_55 : decode cX3_sortByBits 55 = .ok (.iinc 1 1, 3) := by decide +kernel
theorem dX3_sortByBits_58 : decode cX3_sortByBits 58 = .ok (.iinc 3 1, 3) := by decide +kernel
theorem dX3_sortByBits_61 : decode cX3_sortByBits 61 = .ok (.goto (-49), 3) := by decide +kernel
theorem dX3_sortByBits_64 : decode cX3_sortByBits 64 = .ok (.iinc 2 1, 3) := by decide +kernel
theorem dX3_sortByBits_67 : decode cX3_sortByBits 67 = .ok (.goto (-63), 3) := by decide +kernel
theorem dX3_sortByBits_70 : decode cX3_sortByBits 70 = .ok (.return_, 1) := by decide +kernel
set_option maxRecDepth 100000 in
set_option maxHeartbeats 4000000 in
theorem t3_sortByBits_h12 (G : Gm) (t : Nat) (N : Nat) (a0 : Nat) (x2 : Int32) (h0 : a0 ∈ ad3) (k4 : Int32 → Int32 → St → Option (Unit × St)) (hk4 : ∀ (yx1 : Int32) (yx2 : Int32) (S : St), J G YX3_sortByBits 1 0 0 (fV t) 0 0 4 [some (vR (some a0)), some (vI yx1), some (vI yx2), none] [] (MM t S) (k4 yx1 yx2 S)) : ∀ (n : Nat) (x1 : Int32) (x3 : Int32) (S : St), J G YX3_sortByBits 1 0 0 (fV t) 0 0 12 [some (vR (some a0)), some (vI x1), some (vI x2), some (vI x3)] [] (MM t S) (f3_sortByBits_h12 N a0 x2 k4 n x1 x3 S) := by
  intro n
  induction n with
  | zero => intro x1 x3 S; exact J_none
  | succ n ih =>
    intro x1 x3 S
    rw [f3_sortByBits_h12]
    refine J_iload_n dX3_sortByBits_12 rfl rfl ?_
    refine J_aload_n dX3_sortByBits_13 rfl rfl ?_
    refine K_getI cf3 flX3_9 (sq3_0 h0) (Or.inl rfl) dX3_sortByBits_14 ?_
    refine J_icmp_ge (tgt := 64) dX3_sortByBits_17 (by decide) (fun z1 => ?_) (fun z1 => ?_)
    · refine J_iinc (v := x2 + nI 1) [some (vR (some a0)), some (vI x1), some (vI (x2 + nI 1)), some (vI x3)] dX3_sortByBits_64 rfl rfl (Nat.le_of_ble_eq_true rfl) rfl rfl ?_
      refine J_goto (tgt := 4) dX3_sortByBits_67 (by decide) ?_
      exact J_sb (hk4 x1 (x2 + nI 1) S) (And.intro rfl (And.intro rfl (And.intro rfl (trivial))))
    · refine J_iload_n dX3_sortByBits_20 rfl rfl ?_
      refine J_aload_n dX3_sortByBits_21 rfl rfl ?_
      refine K_getR (r := some (a0 + 1)) cf3 flX3_15 (sq3_0 h0) (rq3_1 h0) (Or.inr ⟨_, rfl⟩) dX3_sortByBits_22 ?_
      refine K_alen (v := nI 12) (sq3_1 h0) (by decide) rfl dX3_sortByBits_25 ?_
      refine J_icmp_ge (tgt := 64) dX3_sortByBits_26 (by decide) (fun z2 => ?_) (fun z2 => ?_)
      · refine J_iinc (v := x2 + nI 1) [some (vR (some a0)), some (vI x1), some (vI (x2 + nI 1)), some (vI x3)] dX3_sortByBits_64 rfl rfl (Nat.le_of_ble_eq_true rfl) rfl rfl ?_
        refine J_goto (tgt := 4) dX3_sortByBits_67 (by decide) ?_
        exact J_sb (hk4 x1 (x2 + nI 1) S) (And.intro rfl (And.intro rfl (And.intro rfl (trivial))))
      · refine J_aload_n dX3_sortByBits_29 rfl rfl ?_
        refine K_getR (r := some (a0 + 1)) cf3 flX3_15 (sq3_0 h0) (rq3_1 h0) (Or.inr ⟨_, rfl⟩) dX3_sortByBits_30 ?_
        refine J_iload_n dX3_sortByBits_33 rfl rfl ?_
        refine K_iald (sq3_1 h0) dX3_sortByBits_34 ?_
        refine J_iload_n dX3_sortByBits_35 rfl rfl ?_
        refine J_icmp_ne (tgt := 58) dX3_sortByBits_36 (by decide) (fun z3 => ?_) (fun z3 => ?_)
        · refine J_iload_n dX3_sortByBits_39 rfl rfl ?_
          refine J_aload_n dX3_sortByBits_40 rfl rfl ?_
          refine K_getR (r := some (a0 + 3)) cf3 flX3_22 (sq3_0 h0) (rq3_3 h0) (Or.inr ⟨_, rfl⟩) dX3_sortByBits_41 ?_
          refine K_alen (v := nI 12) (sq3_3 h0) (by decide) rfl dX3_sortByBits_44 ?_
          refine J_icmp_ge (tgt := 58) dX3_sortByBits_45 (by decide) (fun z4 => ?_) (fun z4 => ?_)
          · refine J_iinc (v := x3 + nI 1) [some (vR (some a0)), some (vI x1), some (vI x2), some (vI (x3 + nI 1))] dX3_sortByBits_58 rfl rfl (Nat.le_of_ble_eq_true rfl) rfl rfl ?_
            refine J_goto (tgt := 12) dX3_sortByBits_61 (by decide) ?_
            exact J_sb (ih x1 (x3 + nI 1) S) (And.intro rfl (And.intro rfl (And.intro rfl (And.intro rfl (trivial)))))
          · refine J_aload_n dX3_sortByBits_48 rfl rfl ?_
            refine K_getR (r := some (a0 + 3)) cf3 flX3_22 (sq3_0 h0) (rq3_3 h0) (Or.inr ⟨_, rfl⟩) dX3_sortByBits_49 ?_
            refine J_iload_n dX3_sortByBits_52 rfl rfl ?_
            refine J_iload_n dX3_sortByBits_53 rfl rfl ?_
            refine K_iast (sq3_3 h0) dX3_sortByBits_54 ?_
            refine J_ltS (fun S5 _ => ?_)
            refine J_iinc (v := x1 + nI 1) [some (vR (some a0)), some (vI (x1 + nI 1)), some (vI x2), some (vI x3)] dX3_sortByBits_55 rfl rfl (Nat.le_of_ble_eq_true rfl) rfl rfl ?_
            refine J_iinc (v := x3 + nI 1) [some (vR (some a0)), some (vI (x1 + nI 1)), some (vI x2), some (vI (x3 + nI 1))] dX3_sortByBits_58 rfl rfl (Nat.le_of_ble_eq_true rfl) rfl rfl ?_
            refine J_goto (tgt := 12) dX3_sortByBits_61 (by decide) ?_
            exact J_sb (ih (x1 + nI 1) (x3 + nI 1) S5) (And.intro rfl (And.intro rfl (And.intro rfl (And.intro rfl (trivial)))))
        · refine J_iinc (v := x3 + nI 1) [some (vR (some a0)), some (vI x1), some (vI x2), some (vI (x3 + nI 1))] dX3_sortByBits_58 rfl rfl (Nat.le_of_ble_eq_true rfl) rfl rfl ?_
          refine J_goto (tgt := 12) dX3_sortByBits_61 (by decide) ?_
          exact J_sb (ih x1 (x3 + nI 1) S) (And.intro rfl (And.intro rfl (And.intro rfl (And.intro rfl (trivial)))))
set_option maxRecDepth 100000 in
set_option maxHeartbeats 4000000 in
theorem t3_sortByBits_h4 (G : Gm) (t : Nat) (N : Nat) (a0 : Nat) (h0 : a0 ∈ ad3)   : ∀ (n : Nat) (x1 : Int32) (x2 : Int32) (S : St), J G YX3_sortByBits 1 0 0 (fV t) 0 0 4 [some (vR (some a0)), some (vI x1), some (vI x2), none] [] (MM t S) (f3_sortByBits_h4 N a0 n x1 x2 S) := by
  intro n
  induction n with
  | zero => intro x1 x2 S; exact J_none
  | succ n ih =>
    intro x1 x2 S
    rw [f3_sortByBits_h4]
    refine J_iload_n dX3_sortByBits_4 rfl rfl ?_
    refine J_bipush (v := nI 6) dX3_sortByBits_5 (by decide) ?_
    refine J_icmp_gt (tgt := 70) dX3_sortByBits_7 (by decide) (fun z1 => ?_) (fun z1 => ?_)
    · exact J_return rfl (Nat.le_refl _) (Nat.le_refl _) rfl dX3_sortByBits_70
    · refine J_iconst (v := nI 0) dX3_sortByBits_10 (by decide) ?_
      refine J_istore_n [some (vR (some a0)), some (vI x1), some (vI x2), some (vI (nI 0))] dX3_sortByBits_11 rfl (Nat.le_of_ble_eq_true rfl) rfl rfl ?_
      exact J_sb (t3_sortByBits_h12 G t N a0 x2 h0 (f3_sortByBits_h4 N a0 n) ih N x1 (nI 0) S) (And.intro rfl (And.intro rfl (And.intro rfl (And.intro rfl (trivial)))))
set_option maxRecDepth 100000 in
set_option maxHeartbeats 4000000 in
theorem ct3_sortByBits (G : Gm) (t : Nat) (N : Nat) (a0 : Nat) (h0 : a0 ∈ ad3) (S : St) : Ct G YX3_sortByBits yX3_sortByBits 1 0 0 (fV t) (f3_sortByBits N a0 S) [vR (some a0)] (MM t S) := by
  refine Ct_of_J [some (vR (some a0)), none, none, none] (by decide) rfl (fun h => by cases h) (Nat.le_of_ble_eq_true rfl) (And.intro rfl (trivial)) ?_
  unfold f3_sortByBits
  refine J_iconst (v := nI 0) dX3_sortByBits_0 (by decide) ?_
  refine J_istore_n [some (vR (some a0)), some (vI (nI 0)), none, none] dX3_sortByBits_1 rfl (Nat.le_of_ble_eq_true rfl) rfl rfl ?_
  refine J_iconst (v := nI 1) dX3_sortByBits_2 (by decide) ?_
  refine J_istore_n [some (vR (some a0)), some (vI (nI 0)), some (vI (nI 1)), none] dX3_sortByBits_3 rfl (Nat.le_of_ble_eq_true rfl) rfl rfl ?_
  exact J_sb (t3_sortByBits_h4 G t N a0 h0 N (nI 0) (nI 1) S) (And.intro rfl (And.intro rfl (And.intro rfl (trivial))))
theorem dX3_bitsOf_0 : decode cX3_bitsOf 0 = .ok (.iload_n 1, 1) := by decide +kernel
theorem dX3_bitsOf_1 : decode cX3_bitsOf 1 = .ok (.ifCond .lt 29, 3) := by decide +kernel
theorem dX3_bitsOf_4 : decode cX3_bitsOf 4 = .ok (.iload_n 1, 1) := by decide +kernel
theorem dX3_bitsOf_5 : decode cX3_bitsOf 5 = .ok (.aload_n 0, 1) := by decide +kernel
theorem dX3_bitsOf_6 : decode cX3_bitsOf 6 = .ok (.getfield 9, 3) := by decide +kernel
theorem dX3_bitsOf_9 : decode cX3_bitsOf 9 = .ok (.if_icmp .ge 21, 3) := by decide +kernel
theorem dX3_bitsOf_12 : decode cX3_bitsOf 12 = .ok (.iload_n 1, 1) := by decide +kernel
theorem dX3_bitsOf_13 : decode cX3_bitsOf 13 = .ok (.aload_n 0, 1) := by decide +kernel
theorem dX3_bitsOf_14 : decode cX3_bitsOf 14 = .ok (.getfield 15, 3) := by decide +kernel
theorem dX3_bitsOf_17 : decode cX3_bitsOf 17 = .ok (.arraylength, 1) := by decide +kernel
theorem dX3_bitsOf_18 : decode cX3_bitsOf 18 = .ok (.if_icmp .ge 12, 3) := by decide +kernel
theorem dX3_bitsOf_21 : decode cX3_bitsOf 21 = .ok (.aload_n 0, 1) := by decide +kernel
theorem dX3_bitsOf_22 : decode cX3_bitsOf 22 = .ok (.getfield 15, 3) := by decide +kernel
theorem dX3_bitsOf_25 : decode cX3_bitsOf 25 = .ok (.iload_n 1, 1) := by decide +kernel
theorem dX3_bitsOf_26 : decode cX3_bitsOf 26 = .ok (.iaload, 1) := by decide +kernel
theorem dX3_bitsOf_27 : decode cX3_bitsOf 27 = .ok (.goto 4, 3) := by decide +kernel
theorem dX3_bitsOf_30 : decode cX3_bitsOf 30 = .ok (.iconst 0, 1) := by decide +kernel
theorem dX3_bitsOf_31 : decode cX3_bitsOf 31 = .ok (.ireturn, 1) := by decide +kernel
set_option maxRecDepth 100000 in
set_option maxHeartbeats 4000000 in
theorem ct3_bitsOf (G : Gm) (t : Nat)  (a0 : Nat) (x1 : Int32) (h0 : a0 ∈ ad3) (S : St) : Ct G YX3_bitsOf yX3_bitsOf 1 0 0 (fI t) (f3_bitsOf a0 x1 S) [vR (some a0), vI x1] (MM t S) := by
  refine Ct_of_J [some (vR (some a0)), some (vI x1)] (by decide) rfl (fun h => by cases h) (Nat.le_of_ble_eq_true rfl) (And.intro rfl (And.intro rfl (trivial))) ?_
  unfold f3_bitsOf
  refine J_iload_n dX3_bitsOf_0 rfl rfl ?_
  refine J_if_lt (tgt := 30) dX3_bitsOf_1 (by decide) (fun z1 => ?_) (fun z1 => ?_)
  · refine J_iconst (v := nI 0) dX3_bitsOf_30 (by decide) ?_
    exact J_ireturn rfl (Nat.le_refl _) (Nat.le_refl _) rfl dX3_bitsOf_31
  · refine J_iload_n dX3_bitsOf_4 rfl rfl ?_
    refine J_aload_n dX3_bitsOf_5 rfl rfl ?_
    refine K_getI cf3 flX3_9 (sq3_0 h0) (Or.inl rfl) dX3_bitsOf_6 ?_
    refine J_icmp_ge (tgt := 30) dX3_bitsOf_9 (by decide) (fun z2 => ?_) (fun z2 => ?_)
    · refine J_iconst (v := nI 0) dX3_bitsOf_30 (by decide) ?_
      exact J_ireturn rfl (Nat.le_refl _) (Nat.le_refl _) rfl dX3_bitsOf_31
    · refine J_iload_n dX3_bitsOf_12 rfl rfl ?_
      refine J_aload_n dX3_bitsOf_13 rfl rfl ?_
      refine K_getR (r := some (a0 + 1)) cf3 flX3_15 (sq3_0 h0) (rq3_1 h0) (Or.inr ⟨_, rfl⟩) dX3_bitsOf_14 ?_
      refine K_alen (v := nI 12) (sq3_1 h0) (by decide) rfl dX3_bitsOf_17 ?_
      refine J_icmp_ge (tgt := 30) dX3_bitsOf_18 (by decide) (fun z3 => ?_) (fun z3 => ?_)
      · refine J_iconst (v := nI 0) dX3_bitsOf_30 (by decide) ?_
        exact J_ireturn rfl (Nat.le_refl _) (Nat.le_refl _) rfl dX3_bitsOf_31
      · refine J_aload_n dX3_bitsOf_21 rfl rfl ?_
        refine K_getR (r := some (a0 + 1)) cf3 flX3_15 (sq3_0 h0) (rq3_1 h0) (Or.inr ⟨_, rfl⟩) dX3_bitsOf_22 ?_
        refine J_iload_n dX3_bitsOf_25 rfl rfl ?_
        refine K_iald (sq3_1 h0) dX3_bitsOf_26 ?_
        refine J_goto (tgt := 31) dX3_bitsOf_27 (by decide) ?_
        exact J_ireturn rfl (Nat.le_refl _) (Nat.le_refl _) rfl dX3_bitsOf_31
theorem dX3_giveCodes_0 : decode cX3_giveCodes 0 = .ok (.iconst 0, 1) := by decide +kernel
theorem dX3_giveCodes_1 : decode cX3_giveCodes 1 = .ok (.istore_n 1, 1) := by decide +kernel
theorem dX3_giveCodes_2 : decode cX3_giveCodes 2 = .ok (.aload_n 0, 1) := by decide +kernel
theorem dX3_giveCodes_3 : decode cX3_giveCodes 3 = .ok (.aload_n 0, 1) := by decide +kernel
theorem dX3_giveCodes_4 : decode cX3_giveCodes 4 = .ok (.getfield 22, 3) := by decide +kernel
theorem dX3_giveCodes_7 : decode cX3_giveCodes 7 = .ok (.iconst 0, 1) := by decide +kernel
theorem dX3_giveCodes_8 : decode cX3_giveCodes 8 = .ok (.iaload, 1) := by decide +kernel
theorem dX3_giveCodes_9 : decode cX3_giveCodes 9 = .ok (.invokevirtual 72, 3) := by decide +kernel
theorem dX3_giveCodes_12 : decode cX3_giveCodes 12 = .ok (.istore_n 2, 1) := by decide +kernel
theorem dX3_giveCodes_13 : decode cX3_giveCodes 13 = .ok (.iconst 0, 1) := by decide +kernel
theorem dX3_giveCodes_14 : decode cX3_giveCodes 14 = .ok (.istore_n 3, 1) := by decide +kernel
theorem dX3_giveCodes_15 : decode cX3_giveCodes 15 = .ok (.iload_n 3, 1) := by decide +kernel
theorem dX3_giveCodes_16 : decode cX3_giveCodes 16 = .ok (.aload_n 0, 1) := by decide +kernel
theorem dX3_giveCodes_17 : decode cX3_giveCodes 17 = .ok (.getfield 9, 3) := by decide +kernel
theorem dX3_giveCodes_20 : decode cX3_giveCodes 20 = .ok (.if_icmp .ge 70, 3) := by decide +kernel
theorem dX3_giveCodes_23 : decode cX3_giveCodes 23 = .ok (.iload_n 3, 1) := by decide +kernel
theorem dX3_giveCodes_24 : decode cX3_giveCodes 24 = .ok (.aload_n 0, 1) := by decide +kernel
theorem dX3_giveCodes_25 : decode cX3_giveCodes 25 = .ok (.getfield 22, 3) := by decide +kernel
theorem dX3_giveCodes_28 : decode cX3_giveCodes 28 = .ok (.arraylength, 1) := by decide +kernel
theorem dX3_giveCodes_29 : decode cX3_giveCodes 29 = .ok (.if_icmp .ge 61, 3) := by decide +kernel
theorem dX3_giveCodes_32 : decode cX3_giveCodes 32 = .ok (.aload_n 0, 1) := by decide +kernel
theorem dX3_giveCodes_33 : decode cX3_giveCodes 33 = .ok (.getfield 22, 3) := by decide +kernel
theorem dX3_giveCodes_36 : decode cX3_giveCodes 36 = .ok (.iload_n 3, 1) := by decide +kernel
theorem dX3_giveCodes_37 : decode cX3_giveCodes 37 = .ok (.iaload, 1) := by decide +kernel
theorem dX3_giveCodes_38 : decode cX3_giveCodes 38 = .ok (.istore 4, 2) := by decide +kernel
theorem dX3_giveCodes_40 : decode cX3_giveCodes 40 = .ok (.iload_n 1, 1) := by decide +kernel
theorem dX3_giveCodes_41 : decode cX3_giveCodes 41 = .ok (.aload_n 0, 1) := by decide +kernel
theorem dX3_giveCodes_42 : decode cX3_giveCodes 42 = .ok (.iload 4, 2) := by decide +kernel
theorem dX3_giveCodes_44 : decode cX3_giveCodes 44 = .ok (.invokevirtual 72, 3) := by decide +kernel
theorem dX3_giveCodes_47 : decode cX3_giveCodes 47 = .ok (.iload_n 2, 1) := by decide +kernel
theorem dX3_giveCodes_48 : decode cX3_giveCodes 48 = .ok (.isub, 1) := by decide +kernel
theorem dX3_giveCodes_49 : decode cX3_giveCodes 49 = .ok (.ishl, 1) := by decide +kernel
theorem dX3_giveCodes_50 : decode cX3_giveCodes 50 = .ok (.istore_n 1, 1) := by decide +kernel
theorem dX3_giveCodes_51 : decode cX3_giveCodes 51 = .ok (.aload_n 0, 1) := by decide +kernel
theorem dX3_giveCodes_52 : decode cX3_giveCodes 52 = .ok (.iload 4, 2) := by decide +kernel
theorem dX3_giveCodes_54 : decode cX3_giveCodes 54 = .ok (.invokevirtual 72, 3) := by decide +kernel
theorem dX3_giveCodes_57 : decode cX3_giveCodes 57 = .ok (.istore_n 2, 1) := by decide +kernel
theorem dX3_giveCodes_58 : decode cX3_giveCodes 58 = .ok (.iload 4, 2) := by decide +kernel
theorem dX3_giveCodes_60 : decode cX3_giveCodes 60 = .ok (.ifCond .lt 21, 3) := by decide +kernel
theorem dX3_giveCodes_63 : decode cX3_giveCodes 63 = .ok (.iload 4, 2) := by decide +kernel
theorem dX3_giveCodes_65 : decode cX3_giveCodes 65 = .ok (.aload_n 0, 1) := by decide +kernel
theorem dX3_giveCodes_66 : decode cX3_giveCodes 66 = .ok (.getfield 19, 3) := by decide +kernel
theorem dX3_giveCodes_69 : decode cX3_giveCodes 69 = .ok (.arraylength, 1) := by decide +kernel
theorem dX3_giveCodes_70 : decode cX3_giveCodes 70 = .ok (.if_icmp .ge 11, 3) := by decide +kernel
theorem dX3_giveCodes_73 : decode cX3_giveCodes 73 = .ok (.aload_n 0, 1) := by decide +kernel
theorem dX3_giveCodes_74 : decode cX3_giveCodes 74 = .ok (.getfield 19, 3) := by decide +kernel
theorem dX3_giveCodes_77 : decode cX3_giveCodes 77 = .ok (.iload 4, 2) := by decide +kernel
theorem dX3_giveCodes_79 : decode cX3_giveCodes 79 = .ok (.iload_n 1, 1) := by decide +kernel
theorem dX3_giveCodes_80 : decode cX3_giveCodes 80 = .ok (.iastore, 1) := by decide +kernel
theorem dX3_giveCodes_81 : decode cX3_giveCodes 81 = .ok (.iinc 1 1, 3) := by decide +kernel
theorem dX3_giveCodes_84 : decode cX3_giveCodes 84 = .ok (.iinc 3 1, 3) := by decide +kernel
theorem dX3_giveCodes_87 : decode cX3_giveCodes 87 = .ok (.goto (-72), 3) := by decide +kernel
theorem dX3_giveCodes_90 : decode cX3_giveCodes 90 = .ok (.return_, 1) := by decide +kernel
set_option maxRecDepth 100000 in
set_option maxHeartbeats 4000000 in
theorem t3_giveCodes_h15 (G : Gm) (t : Nat) (N : Nat) (a0 : Nat) (h0 : a0 ∈ ad3)   : ∀ (n : Nat) (x1 : Int32) (x2 : Int32) (x3 : Int32) (S : St), J G YX3_giveCodes 2 0 0 (fV t) 0 0 15 [some (vR (some a0)), some (vI x1), some (vI x2), some (vI x3), none] [] (MM t S) (f3_giveCodes_h15 N a0 n x1 x2 x3 S) := by
  intro n
  induction n with
  | zero => intro x1 x2 x3 S; exact J_none
  | succ n ih =>
    intro x1 x2 x3 S
    rw [f3_giveCodes_h15]
    refine J_iload_n dX3_giveCodes_15 rfl rfl ?_
    refine J_aload_n dX3_giveCodes_16 rfl rfl ?_
    refine K_getI cf3 flX3_9 (sq3_0 h0) (Or.inl rfl) dX3_giveCodes_17 ?_
    refine J_icmp_ge (tgt := 90) dX3_giveCodes_20 (by decide) (fun z1 => ?_) (fun z1 => ?_)
    · exact J_return rfl (Nat.le_refl _) (Nat.le_refl _) rfl dX3_giveCodes_90
    · refine J_iload_n dX3_giveCodes_23 rfl rfl ?_
      refine J_aload_n dX3_giveCodes_24 rfl rfl ?_
      refine K_getR (r := some (a0 + 3)) cf3 flX3_22 (sq3_0 h0) (rq3_3 h0) (Or.inr ⟨_, rfl⟩) dX3_giveCodes_25 ?_
      refine K_alen (v := nI 12) (sq3_3 h0) (by decide) rfl dX3_giveCodes_28 ?_
      refine J_icmp_ge (tgt := 90) dX3_giveCodes_29 (by decide) (fun z2 => ?_) (fun z2 => ?_)
      · exact J_return rfl (Nat.le_refl _) (Nat.le_refl _) rfl dX3_giveCodes_90
      · refine J_aload_n dX3_giveCodes_32 rfl rfl ?_
        refine K_getR (r := some (a0 + 3)) cf3 flX3_22 (sq3_0 h0) (rq3_3 h0) (Or.inr ⟨_, rfl⟩) dX3_giveCodes_33 ?_
        refine J_iload_n dX3_giveCodes_36 rfl rfl ?_
        refine K_iald (sq3_3 h0) dX3_giveCodes_37 ?_
        refine J_ltI (fun v3 _ => ?_)
        refine J_istore [some (vR (some a0)), some (vI x1), some (vI x2), some (vI x3), some (vI v3)] dX3_giveCodes_38 (Nat.le_of_ble_eq_true rfl) rfl rfl ?_
        refine J_iload_n dX3_giveCodes_40 rfl rfl ?_
        refine J_aload_n dX3_giveCodes_41 rfl rfl ?_
        refine J_iload dX3_giveCodes_42 rfl ?_
        refine K_callV_i (As := [vI v3]) mcX3_bitsOf mlX3_72 rfl (by decide) (sq3_0 h0) (ct3_bitsOf G t a0 v3 h0 S) rfl rfl (Nat.le_of_ble_eq_true rfl) (by decide) (Nat.le_of_ble_eq_true rfl) dX3_giveCodes_44 (fun q4 S5 => ?_)
        refine J_iload_n dX3_giveCodes_47 rfl rfl ?_
        refine J_isub dX3_giveCodes_48 ?_
        refine J_ishl dX3_giveCodes_49 ?_
        refine J_ltI (fun v6 _ => ?_)
        refine J_istore_n [some (vR (some a0)), some (vI v6), some (vI x2), some (vI x3), some (vI v3)] dX3_giveCodes_50 rfl (Nat.le_of_ble_eq_true rfl) rfl rfl ?_
        refine J_aload_n dX3_giveCodes_51 rfl rfl ?_
        refine J_iload dX3_giveCodes_52 rfl ?_
        refine K_callV_i (As := [vI v3]) mcX3_bitsOf mlX3_72 rfl (by decide) (sq3_0 h0) (ct3_bitsOf G t a0 v3 h0 S5) rfl rfl (Nat.le_of_ble_eq_true rfl) (by decide) (Nat.le_of_ble_eq_true rfl) dX3_giveCodes_54 (fun q7 S8 => ?_)
        refine J_istore_n [some (vR (some a0)), some (vI v6), some (vI q7), some (vI x3), some (vI v3)] dX3_giveCodes_57 rfl (Nat.le_of_ble_eq_true rfl) rfl rfl ?_
        refine J_iload dX3_giveCodes_58 rfl ?_
        refine J_if_lt (tgt := 81) dX3_giveCodes_60 (by decide) (fun z9 => ?_) (fun z9 => ?_)
        · refine J_iinc (v := v6 + nI 1) [some (vR (some a0)), some (vI (v6 + nI 1)), some (vI q7), some (vI x3), some (vI v3)] dX3_giveCodes_81 rfl rfl (Nat.le_of_ble_eq_true rfl) rfl rfl ?_
          refine J_iinc (v := x3 + nI 1) [some (vR (some a0)), some (vI (v6 + nI 1)), some (vI q7), some (vI (x3 + nI 1)), some (vI v3)] dX3_giveCodes_84 rfl rfl (Nat.le_of_ble_eq_true rfl) rfl rfl ?_
          refine J_goto (tgt := 15) dX3_giveCodes_87 (by decide) ?_
          exact J_sb (ih (v6 + nI 1) q7 (x3 + nI 1) S8) (And.intro rfl (And.intro rfl (And.intro rfl (And.intro rfl (trivial)))))
        · refine J_iload dX3_giveCodes_63 rfl ?_
          refine J_aload_n dX3_giveCodes_65 rfl rfl ?_
          refine K_getR (r := some (a0 + 2)) cf3 flX3_19 (sq3_0 h0) (rq3_2 h0) (Or.inr ⟨_, rfl⟩) dX3_giveCodes_66 ?_
          refine K_alen (v := nI 12) (sq3_2 h0) (by decide) rfl dX3_giveCodes_69 ?_
          refine J_icmp_ge (tgt := 81) dX3_giveCodes_70 (by decide) (fun z10 => ?_) (fun z10 => ?_)
          · refine J_iinc (v := v6 + nI 1) [some (vR (some a0)), some (vI (v6 + nI 1)), some (vI q7), some (vI x3), some (vI v3)] dX3_giveCodes_81 rfl rfl (Nat.le_of_ble_eq_true rfl) rfl rfl ?_
            refine J_iinc (v := x3 + nI 1) [some (vR (some a0)), some (vI (v6 + nI 1)), some (vI q7), some (vI (x3 + nI 1)), some (vI v3)] dX3_giveCodes_84 rfl rfl (Nat.le_of_ble_eq_true rfl) rfl rfl ?_
            refine J_goto (tgt := 15) dX3_giveCodes_87 (by decide) ?_
            exact J_sb (ih (v6 + nI 1) q7 (x3 + nI 1) S8) (And.intro rfl (And.intro rfl (And.intro rfl (And.intro rfl (trivial)))))
          · refine J_aload_n dX3_giveCodes_73 rfl rfl ?_
            refine K_getR (r := some (a0 + 2)) cf3 flX3_19 (sq3_0 h0) (rq3_2 h0) (Or.inr ⟨_, rfl⟩) dX3_giveCodes_74 ?_
            refine J_iload dX3_giveCodes_77 rfl ?_
            refine J_iload_n dX3_giveCodes_79 rfl rfl ?_
            refine K_iast (sq3_2 h0) dX3_giveCodes_80 ?_
            refine J_ltS (fun S11 _ => ?_)
            refine J_iinc (v := v6 + nI 1) [some (vR (some a0)), some (vI (v6 + nI 1)), some (vI q7), some (vI x3), some (vI v3)] dX3_giveCodes_81 rfl rfl (Nat.le_of_ble_eq_true rfl) rfl rfl ?_
            refine J_iinc (v := x3 + nI 1) [some (vR (some a0)), some (vI (v6 + nI 1)), some (vI q7), some (vI (x3 + nI 1)), some (vI v3)] dX3_giveCodes_84 rfl rfl (Nat.le_of_ble_eq_true rfl) rfl rfl ?_
            refine J_goto (tgt := 15) dX3_giveCodes_87 (by decide) ?_
            exact J_sb (ih (v6 + nI 1) q7 (x3 + nI 1) S11) (And.intro rfl (And.intro rfl (And.intro rfl (And.intro rfl (trivial)))))
set_option maxRecDepth 100000 in
set_option maxHeartbeats 4000000 in
theorem ct3_giveCodes (G : Gm) (t : Nat) (N : Nat) (a0 : Nat) (h0 : a0 ∈ ad3) (S : St) : Ct G YX3_giveCodes yX3_giveCodes 2 0 0 (fV t) (f3_giveCodes N a0 S) [vR (some a0)] (MM t S) := by
  refine Ct_of_J [some (vR (some a0)), none, none, none, none] (by decide) rfl (fun h => by cases h) (Nat.le_of_ble_eq_true rfl) (And.intro rfl (trivial)) ?_
  unfold f3_giveCodes
  refine J_iconst (v := nI 0) dX3_giveCodes_0 (by decide) ?_
  refine J_istore_n [some (vR (some a0)), some (vI (nI 0)), none, none, none] dX3_giveCodes_1 rfl (Nat.le_of_ble_eq_true rfl) rfl rfl ?_
  refine J_aload_n dX3_giveCodes_2 rfl rfl ?_
  refine J_aload_n dX3_giveCodes_3 rfl rfl ?_
  refine K_getR (r := some (a0 + 3)) cf3 flX3_22 (sq3_0 h0) (rq3_3 h0) (Or.inr ⟨_, rfl⟩) dX3_giveCodes_4 ?_
  refine J_iconst (v := nI 0) dX3_giveCodes_7 (by decide) ?_
  refine K_iald (sq3_3 h0) dX3_giveCodes_8 ?_
  refine K_callV_i (As := [vI (S.1 (a0 + 3) (nI 0).toNatClampNeg)]) mcX3_bitsOf mlX3_72 rfl (by decide) (sq3_0 h0) (ct3_bitsOf G t a0 (S.1 (a0 + 3) (nI 0).toNatClampNeg) h0 S) rfl rfl (Nat.le_of_ble_eq_true rfl) (by decide) (Nat.le_of_ble_eq_true rfl) dX3_giveCodes_9 (fun q1 S2 => ?_)
  refine J_istore_n [some (vR (some a0)), some (vI (nI 0)), some (vI q1), none, none] dX3_giveCodes_12 rfl (Nat.le_of_ble_eq_true rfl) rfl rfl ?_
  refine J_iconst (v := nI 0) dX3_giveCodes_13 (by decide) ?_
  refine J_istore_n [some (vR (some a0)), some (vI (nI 0)), some (vI q1), some (vI (nI 0)), none] dX3_giveCodes_14 rfl (Nat.le_of_ble_eq_true rfl) rfl rfl ?_
  exact J_sb (t3_giveCodes_h15 G t N a0 h0 N (nI 0) q1 (nI 0) S2) (And.intro rfl (And.intro rfl (And.intro rfl (And.intro rfl (trivial)))))
theorem dX3_fewestFor_0 : decode cX3_fewestFor 0 = .ok (.iload_n 1, 1) := by decide +kernel
theorem dX3_fewestFor_1 : decode cX3_fewestFor 1 = .ok (.ifCond .lt 21, 3) := by decide +kernel
theorem dX3_fewestFor_4 : decode cX3_fewestFor 4 = .ok (.iload_n 1, 1) := by decide +kernel
theorem dX3_fewestFor_5 : decode cX3_fewestFor 5 = .ok (.aload_n 0, 1) := by decide +kernel
theorem dX3_fewestFor_6 : decode cX3_fewestFor 6 = .ok (.getfield 33, 3) := by decide +kernel
theorem dX3_fewestFor_9 : decode cX3_fewestFor 9 = .ok (.arraylength, 1) := by decide +kernel
theorem dX3_fewestFor_10 : decode cX3_fewestFor 10 = .ok (.if_icmp .ge 12, 3) := by decide +kernel
theorem dX3_fewestFor_13 : decode cX3_fewestFor 13 = .ok (.aload_n 0, 1) := by decide +kernel
theorem dX3_fewestFor_14 : decode cX3_fewestFor 14 = .ok (.getfield 33, 3) := by decide +kernel
theorem dX3_fewestFor_17 : decode cX3_fewestFor 17 = .ok (.iload_n 1, 1) := by decide +kernel
theorem dX3_fewestFor_18 : decode cX3_fewestFor 18 = .ok (.iaload, 1) := by decide +kernel
theorem dX3_fewestFor_19 : decode cX3_fewestFor 19 = .ok (.goto 6, 3) := by decide +kernel
theorem dX3_fewestFor_22 : decode cX3_fewestFor 22 = .ok (.sipush 1000, 3) := by decide +kernel
theorem dX3_fewestFor_25 : decode cX3_fewestFor 25 = .ok (.ireturn, 1) := by decide +kernel
set_option maxRecDepth 100000 in
set_option maxHeartbeats 4000000 in
theorem ct3_fewestFor (G : Gm) (t : Nat)  (a0 : Nat) (x1 : Int32) (h0 : a0 ∈ ad3) (S : St) : Ct G YX3_fewestFor yX3_fewestFor 1 0 0 (fI t) (f3_fewestFor a0 x1 S) [vR (some a0), vI x1] (MM t S) := by
  refine Ct_of_J [some (vR (some a0)), some (vI x1)] (by decide) rfl (fun h => by cases h) (Nat.le_of_ble_eq_true rfl) (And.intro rfl (And.intro rfl (trivial))) ?_
  unfold f3_fewestFor
  refine J_iload_n dX3_fewestFor_0 rfl rfl ?_
  refine J_if_lt (tgt := 22) dX3_fewestFor_1 (by decide) (fun z1 => ?_) (fun z1 => ?_)
  · refine J_sipush (v := nI 1000) dX3_fewestFor_22 (by decide) ?_
    exact J_ireturn rfl (Nat.le_refl _) (Nat.le_refl _) rfl dX3_fewestFor_25
  · refine J_iload_n dX3_fewestFor_4 rfl rfl ?_
    refine J_aload_n dX3_fewestFor_5 rfl rfl ?_
    refine K_getR (r := some (a0 + 10)) cf3 flX3_33 (sq3_0 h0) (rq3_6 h0) (Or.inr ⟨_, rfl⟩) dX3_fewestFor_6 ?_
    refine K_alen (v := nI 15) (sq3_10 h0) (by decide) rfl dX3_fewestFor_9 ?_
    refine J_icmp_ge (tgt := 22) dX3_fewestFor_10 (by decide) (fun z2 => ?_) (fun z2 => ?_)
    · refine J_sipush (v := nI 1000) dX3_fewestFor_22 (by decide) ?_
      exact J_ireturn rfl (Nat.le_refl _) (Nat.le_refl _) rfl dX3_fewestFor_25
    · refine J_aload_n dX3_fewestFor_13 rfl rfl ?_
      refine K_getR (r := some (a0 + 10)) cf3 flX3_33 (sq3_0 h0) (rq3_6 h0) (Or.inr ⟨_, rfl⟩) dX3_fewestFor_14 ?_
      refine J_iload_n dX3_fewestFor_17 rfl rfl ?_
      refine K_iald (sq3_10 h0) dX3_fewestFor_18 ?_
      refine J_goto (tgt := 25) dX3_fewestFor_19 (by decide) ?_
      exact J_ireturn rfl (Nat.le_refl _) (Nat.le_refl _) rfl dX3_fewestFor_25
theorem dX3_countFewest_0 : decode cX3_countFewest 0 = .ok (.aload_n 0, 1) := by decide +kernel
theorem dX3_countFewest_1 : decode cX3_countFewest 1 = .ok (.getfield 33, 3) := by decide +kernel
theorem dX3_countFewest_4 : decode cX3_countFewest 4 = .ok (.iconst 0, 1) := by decide +kernel
theorem dX3_countFewest_5 : decode cX3_countFewest 5 = .ok (.sipush 1000, 3) := by decide +kernel
theorem dX3_countFewest_8 : decode cX3_countFewest 8 = .ok (.iastore, 1) := by decide +kernel
theorem dX3_countFewest_9 : decode cX3_countFewest 9 = .ok (.iconst 1, 1) := by decide +kernel
theorem dX3_countFewest_10 : decode cX3_countFewest 10 = .ok (.istore_n 1, 1) := by decide +kernel
theorem dX3_countFewest_11 : decode cX3_countFewest 11 = .ok (.iload_n 1, 1) := by decide +kernel
theorem dX3_countFewest_12 : decode cX3_countFewest 12 = .ok (.aload_n 0, 1) := by decide +kernel
theorem dX3_countFewest_13 : decode cX3_countFewest 13 = .ok (.getfield 33, 3) := by decide +kernel
theorem dX3_countFewest_16 : decode cX3_countFewest 16 = .ok (.arraylength, 1) := by decide +kernel
theorem dX3_countFewest_17 : decode cX3_countFewest 17 = .ok (.if_icmp .ge 76, 3) := by decide +kernel
theorem dX3_countFewest_20 : decode cX3_countFewest 20 = .ok (.aload_n 0, 1) := by decide +kernel
theorem dX3_countFewest_21 : decode cX3_countFewest 21 = .ok (.getfield 33, 3) := by decide +kernel
theorem dX3_countFewest_24 : decode cX3_countFewest 24 = .ok (.iload_n 1, 1) := by decide +kernel
theorem dX3_countFewest_25 : decode cX3_countFewest 25 = .ok (.aload_n 0, 1) := by decide +kernel
theorem dX3_countFewest_26 : decode cX3_countFewest 26 = .ok (.getfield 15, 3) := by decide +kernel
theorem dX3_countFewest_29 : decode cX3_countFewest 29 = .ok (.iconst 0, 1) := by decide +kernel
theorem dX3_countFewest_30 : decode cX3_countFewest 30 = .ok (.iaload, 1) := by decide +kernel
theorem dX3_countFewest_31 : decode cX3_countFewest 31 = .ok (.iload_n 1, 1) := by decide +kernel
theorem dX3_countFewest_32 : decode cX3_countFewest 32 = .ok (.if_icmp .ne 7, 3) := by decide +kernel
theorem dX3_countFewest_35 : decode cX3_countFewest 35 = .ok (.iconst 1, 1) := by decide +kernel
theorem dX3_countFewest_36 : decode cX3_countFewest 36 = .ok (.goto 6, 3) := by decide +kernel
theorem dX3_countFewest_39 : decode cX3_countFewest 39 = .ok (.sipush 1000, 3) := by decide +kernel
theorem dX3_countFewest_42 : decode cX3_countFewest 42 = .ok (.iastore, 1) := by decide +kernel
theorem dX3_countFewest_43 : decode cX3_countFewest 43 = .ok (.iconst 1, 1) := by decide +kernel
theorem dX3_countFewest_44 : decode cX3_countFewest 44 = .ok (.istore_n 2, 1) := by decide +kernel
theorem dX3_countFewest_45 : decode cX3_countFewest 45 = .ok (.iload_n 2, 1) := by decide +kernel
theorem dX3_countFewest_46 : decode cX3_countFewest 46 = .ok (.aload_n 0, 1) := by decide +kernel
theorem dX3_countFewest_47 : decode cX3_countFewest 47 = .ok (.getfield 9, 3) := by decide +kernel
theorem dX3_countFewest_50 : decode cX3_countFewest 50 = .ok (.if_icmp .ge 37, 3) := by decide +kernel
theorem dX3_countFewest_53 : decode cX3_countFewest 53 = .ok (.aload_n 0, 1) := by decide +kernel
theorem dX3_countFewest_54 : decode cX3_countFewest 54 = .ok (.getfield 33, 3) := by decide +kernel
theorem dX3_countFewest_57 : decode cX3_countFewest 57 = .ok (.iload_n 1, 1) := by decide +kernel
theorem dX3_countFewest_58 : decode cX3_countFewest 58 = .ok (.aload_n 0, 1) := by decide +kernel
theorem dX3_countFewest_59 : decode cX3_countFewest 59 = .ok (.getfield 33, 3) := by decide +kernel
theorem dX3_countFewest_62 : decode cX3_countFewest 62 = .ok (.iload_n 1, 1) := by decide +kernel
theorem dX3_countFewest_63 : decode cX3_countFewest 63 = .ok (.iaload, 1) := by decide +kernel
theorem dX3_countFewest_64 : decode cX3_countFewest 64 = .ok (.iconst 1, 1) := by decide +kernel
theorem dX3_countFewest_65 : decode cX3_countFewest 65 = .ok (.aload_n 0, 1) := by decide +kernel
theorem dX3_countFewest_66 : decode cX3_countFewest 66 = .ok (.iload_n 1, 1) := by decide +kernel
theorem dX3_countFewest_67 : decode cX3_countFewest 67 = .ok (.aload_n 0, 1) := by decide +kernel
theorem dX3_countFewest_68 : decode cX3_countFewest 68 = .ok (.iload_n 2, 1) := by decide +kernel
theorem dX3_countFewest_69 : decode cX3_countFewest 69 = .ok (.invokevirtual 72, 3) := by decide +kernel
theorem dX3_countFewest_72 : decode cX3_countFewest 72 = .ok (.isub, 1) := by decide +kernel
theorem dX3_countFewest_73 : decode cX3_countFewest 73 = .ok (.invokevirtual 75, 3) := by decide +kernel
theorem dX3_countFewest_76 : decode cX3_countFewest 76 = .ok (.iadd, 1) := by decide +kernel
theorem dX3_countFewest_77 : decode cX3_countFewest 77 = .ok (.invokestatic 78, 3) := by decide +kernel
theorem dX3_countFewest_80 : decode cX3_countFewest 80 = .ok (.iastore, 1) := by decide +kernel
theorem dX3_countFewest_81 : decode cX3_countFewest 81 = .ok (.iinc 2 1, 3) := by decide +kernel
theorem dX3_countFewest_84 : decode cX3_countFewest 84 = .ok (.goto (-39), 3) := by decide +kernel
theorem dX3_countFewest_87 : decode cX3_countFewest 87 = .ok (.iinc 1 1, 3) := by decide +kernel
theorem dX3_countFewest_90 : decode cX3_countFewest 90 = .ok (.goto (-79), 3) := by decide +kernel
theorem dX3_countFewest_93 : decode cX3_countFewest 93 = .ok (.return_, 1) := by decide +kernel
set_option maxRecDepth 100000 in
set_option maxHeartbeats 4000000 in
theorem t3_countFewest_h45 (G : Gm) (t : Nat) (N : Nat) (a0 : Nat) (x1 : Int32) (h0 : a0 ∈ ad3) (k11 : Int32 → St → Option (Unit × St)) (hk11 : ∀ (yx1 : Int32) (S : St), J G YX3_countFewest 2 0 0 (fV t) 0 0 11 [some (vR (some a0)), some (vI yx1), none] [] (MM t S) (k11 yx1 S)) : ∀ (n : Nat) (x2 : Int32) (S : St), J G YX3_countFewest 2 0 0 (fV t) 0 0 45 [some (vR (some a0)), some (vI x1), some (vI x2)] [] (MM t S) (f3_countFewest_h45 N a0 x1 k11 n x2 S) := by
  intro n
  induction n with
  | zero => intro x2 S; exact J_none
  | succ n ih =>
    intro x2 S
    rw [f3_countFewest_h45]
    refine J_iload_n dX3_countFewest_45 rfl rfl ?_
    refine J_aload_n dX3_countFewest_46 rfl rfl ?_
    refine K_getI cf3 flX3_9 (sq3_0 h0) (Or.inl rfl) dX3_countFewest_47 ?_
    refine J_icmp_ge (tgt := 87) dX3_countFewest_50 (by decide) (fun z1 => ?_) (fun z1 => ?_)
    · refine J_iinc (v := x1 + nI 1) [some (vR (some a0)), some (vI (x1 + nI 1)), some (vI x2)] dX3_countFewest_87 rfl rfl (Nat.le_of_ble_eq_true rfl) rfl rfl ?_
      refine J_goto (tgt := 11) dX3_countFewest_90 (by decide) ?_
      exact J_sb (hk11 (x1 + nI 1) S) (And.intro rfl (And.intro rfl (trivial)))
    · refine J_aload_n dX3_countFewest_53 rfl rfl ?_
      refine K_getR (r := some (a0 + 10)) cf3 flX3_33 (sq3_0 h0) (rq3_6 h0) (Or.inr ⟨_, rfl⟩) dX3_countFewest_54 ?_
      refine J_iload_n dX3_countFewest_57 rfl rfl ?_
      refine J_aload_n dX3_countFewest_58 rfl rfl ?_
      refine K_getR (r := some (a0 + 10)) cf3 flX3_33 (sq3_0 h0) (rq3_6 h0) (Or.inr ⟨_, rfl⟩) dX3_countFewest_59 ?_
      refine J_iload_n dX3_countFewest_62 rfl rfl ?_
      refine K_iald (sq3_10 h0) dX3_countFewest_63 ?_
      refine J_iconst (v := nI 1) dX3_countFewest_64 (by decide) ?_
      refine J_aload_n dX3_countFewest_65 rfl rfl ?_
      refine J_iload_n dX3_countFewest_66 rfl rfl ?_
      refine J_aload_n dX3_countFewest_67 rfl rfl ?_
      refine J_iload_n dX3_countFewest_68 rfl rfl ?_
      refine K_callV_i (As := [vI x2]) mcX3_bitsOf mlX3_72 rfl (by decide) (sq3_0 h0) (ct3_bitsOf G t a0 x2 h0 S) rfl rfl (Nat.le_of_ble_eq_true rfl) (by decide) (Nat.le_of_ble_eq_true rfl) dX3_countFewest_69 (fun q2 S3 => ?_)
      refine J_isub dX3_countFewest_72 ?_
      refine K_callV_i (As := [vI (x1 - q2)]) mcX3_fewestFor mlX3_75 rfl (by decide) (sq3_0 h0) (ct3_fewestFor G t a0 (x1 - q2) h0 S3) rfl rfl (Nat.le_of_ble_eq_true rfl) (by decide) (Nat.le_of_ble_eq_true rfl) dX3_countFewest_73 (fun q4 S5 => ?_)
      refine J_iadd dX3_countFewest_76 ?_
      refine J_mmin mlX3_78 (Nat.le_of_ble_eq_true rfl) (by decide) dX3_countFewest_77 ?_
      refine K_iast (sq3_10 h0) dX3_countFewest_80 ?_
      refine J_ltS (fun S6 _ => ?_)
      refine J_iinc (v := x2 + nI 1) [some (vR (some a0)), some (vI x1), some (vI (x2 + nI 1))] dX3_countFewest_81 rfl rfl (Nat.le_of_ble_eq_true rfl) rfl rfl ?_
      refine J_goto (tgt := 45) dX3_countFewest_84 (by decide) ?_
      exact J_sb (ih (x2 + nI 1) S6) (And.intro rfl (And.intro rfl (And.intro rfl (trivial))))
set_option maxRecDepth 100000 in
set_option maxHeartbeats 4000000 in
theorem t3_countFewest_j42 (G : Gm) (t : Nat) (N : Nat) (a0 : Nat) (x1 : Int32) (h0 : a0 ∈ ad3) (k11 : Int32 → St → Option (Unit × St)) (hk11 : ∀ (yx1 : Int32) (S : St), J G YX3_countFewest 2 0 0 (fV t) 0 0 11 [some (vR (some a0)), some (vI yx1), none] [] (MM t S) (k11 yx1 S)) : ∀ (xs0 : Int32) (xs1 : Int32) (S : St), J G YX3_countFewest 2 0 0 (fV t) 0 0 42 [some (vR (some a0)), some (vI x1), none] [vI xs0, vI xs1, vR (some (a0 + 10))] (MM t S) (f3_countFewest_j42 N a0 x1 k11 xs0 xs1 S) := by
  intro xs0 xs1 S
  unfold f3_countFewest_j42
  refine K_iast (sq3_10 h0) dX3_countFewest_42 ?_
  refine J_ltS (fun S1 _ => ?_)
  refine J_iconst (v := nI 1) dX3_countFewest_43 (by decide) ?_
  refine J_istore_n [some (vR (some a0)), some (vI x1), some (vI (nI 1))] dX3_countFewest_44 rfl (Nat.le_of_ble_eq_true rfl) rfl rfl ?_
  exact J_sb (t3_countFewest_h45 G t N a0 x1 h0 k11 hk11 N (nI 1) S1) (And.intro rfl (And.intro rfl (And.intro rfl (trivial))))
set_option maxRecDepth 100000 in
set_option maxHeartbeats 4000000 in
theorem t3_countFewest_h11 (G : Gm) (t : Nat) (N : Nat) (a0 : Nat) (h0 : a0 ∈ ad3)   : ∀ (n : Nat) (x1 : Int32) (S : St), J G YX3_countFewest 2 0 0 (fV t) 0 0 11 [some (vR (some a0)), some (vI x1), none] [] (MM t S) (f3_countFewest_h11 N a0 n x1 S) := by
  intro n
  induction n with
  | zero => intro x1 S; exact J_none
  | succ n ih =>
    intro x1 S
    rw [f3_countFewest_h11]
    refine J_iload_n dX3_countFewest_11 rfl rfl ?_
    refine J_aload_n dX3_countFewest_12 rfl rfl ?_
    refine K_getR (r := some (a0 + 10)) cf3 flX3_33 (sq3_0 h0) (rq3_6 h0) (Or.inr ⟨_, rfl⟩) dX3_countFewest_13 ?_
    refine K_alen (v := nI 15) (sq3_10 h0) (by decide) rfl dX3_countFewest_16 ?_
    refine J_icmp_ge (tgt := 93) dX3_countFewest_17 (by decide) (fun z1 => ?_) (fun z1 => ?_)
    · exact J_return rfl (Nat.le_refl _) (Nat.le_refl _) rfl dX3_countFewest_93
    · refine J_aload_n dX3_countFewest_20 rfl rfl ?_
      refine K_getR (r := some (a0 + 10)) cf3 flX3_33 (sq3_0 h0) (rq3_6 h0) (Or.inr ⟨_, rfl⟩) dX3_countFewest_21 ?_
      refine J_iload_n dX3_countFewest_24 rfl rfl ?_
      refine J_aload_n dX3_countFewest_25 rfl rfl ?_
      refine K_getR (r := some (a0 + 1)) cf3 flX3_15 (sq3_0 h0) (rq3_1 h0) (Or.inr ⟨_, rfl⟩) dX3_countFewest_26 ?_
      refine J_iconst (v := nI 0) dX3_countFewest_29 (by decide) ?_
      refine K_iald (sq3_1 h0) dX3_countFewest_30 ?_
      refine J_iload_n dX3_countFewest_31 rfl rfl ?_
      refine J_icmp_ne (tgt := 39) dX3_countFewest_32 (by decide) (fun z2 => ?_) (fun z2 => ?_)
      · refine J_iconst (v := nI 1) dX3_countFewest_35 (by decide) ?_
        refine J_goto (tgt := 42) dX3_countFewest_36 (by decide) ?_
        exact J_sb (t3_countFewest_j42 G t N a0 x1 h0 (f3_countFewest_h11 N a0 n) ih (nI 1) x1 S) (And.intro rfl (And.intro rfl (trivial)))
      · refine J_sipush (v := nI 1000) dX3_countFewest_39 (by decide) ?_
        exact J_sb (t3_countFewest_j42 G t N a0 x1 h0 (f3_countFewest_h11 N a0 n) ih (nI 1000) x1 S) (And.intro rfl (And.intro rfl (trivial)))
set_option maxRecDepth 100000 in
set_option maxHeartbeats 4000000 in
theorem ct3_countFewest (G : Gm) (t : Nat) (N : Nat) (a0 : Nat) (h0 : a0 ∈ ad3) (S : St) : Ct G YX3_countFewest yX3_countFewest 2 0 0 (fV t) (f3_countFewest N a0 S) [vR (some a0)] (MM t S) := by
  refine Ct_of_J [some (vR (some a0)), none, none] (by decide) rfl (fun h => by cases h) (Nat.le_of_ble_eq_true rfl) (And.intro rfl (trivial)) ?_
  unfold f3_countFewest
  refine J_aload_n dX3_countFewest_0 rfl rfl ?_
  refine K_getR (r := some (a0 + 10)) cf3 flX3_33 (sq3_0 h0) (rq3_6 h0) (Or.inr ⟨_, rfl⟩) dX3_countFewest_1 ?_
  refine J_iconst (v := nI 0) dX3_countFewest_4 (by decide) ?_
  refine J_sipush (v := nI 1000) dX3_countFewest_5 (by decide) ?_
  refine K_iast (sq3_10 h0) dX3_countFewest_8 ?_
  refine J_ltS (fun S1 _ => ?_)
  refine J_iconst (v := nI 1) dX3_countFewest_9 (by decide) ?_
  refine J_istore_n [some (vR (some a0)), some (vI (nI 1)), none] dX3_countFewest_10 rfl (Nat.le_of_ble_eq_true rfl) rfl rfl ?_
  exact J_sb (t3_countFewest_h11 G t N a0 h0 N (nI 1) S1) (And.intro rfl (And.intro rfl (trivial)))
theorem dX3_settle_0 : decode cX3_settle 0 = .ok (.aload_n 0, 1) := by decide +kernel
theorem dX3_settle_1 : decode cX3_settle 1 = .ok (.invokevirtual 63, 3) := by decide +kernel
theorem dX3_settle_4 : decode cX3_settle 4 = .ok (.aload_n 0, 1) := by decide +kernel
theorem dX3_settle_5 : decode cX3_settle 5 = .ok (.invokevirtual 66, 3) := by decide +kernel
theorem dX3_settle_8 : decode cX3_settle 8 = .ok (.aload_n 0, 1) := by decide +kernel
theorem dX3_settle_9 : decode cX3_settle 9 = .ok (.invokevirtual 69, 3) := by decide +kernel
theorem dX3_settle_12 : decode cX3_settle 12 = .ok (.return_, 1) := by decide +kernel
set_option maxRecDepth 100000 in
set_option maxHeartbeats 4000000 in
theorem ct3_settle (G : Gm) (t : Nat) (N : Nat) (a0 : Nat) (h0 : a0 ∈ ad3) (S : St) : Ct G YX3_settle yX3_settle 3 0 0 (fV t) (f3_settle N a0 S) [vR (some a0)] (MM t S) := by
  refine Ct_of_J [some (vR (some a0))] (by decide) rfl (fun h => by cases h) (Nat.le_of_ble_eq_true rfl) (And.intro rfl (trivial)) ?_
  unfold f3_settle
  refine J_aload_n dX3_settle_0 rfl rfl ?_
  refine K_callV_v (As := []) mcX3_sortByBits mlX3_63 rfl (by decide) (sq3_0 h0) (ct3_sortByBits G t N a0 h0 S) rfl rfl (Nat.le_of_ble_eq_true rfl) (by decide) (Nat.le_of_ble_eq_true rfl) dX3_settle_1 (fun q1 S2 => ?_)
  refine J_aload_n dX3_settle_4 rfl rfl ?_
  refine K_callV_v (As := []) mcX3_giveCodes mlX3_66 rfl (by decide) (sq3_0 h0) (ct3_giveCodes G t N a0 h0 S2) rfl rfl (Nat.le_of_ble_eq_true rfl) (by decide) (Nat.le_of_ble_eq_true rfl) dX3_settle_5 (fun q3 S4 => ?_)
  refine J_aload_n dX3_settle_8 rfl rfl ?_
  refine K_callV_v (As := []) mcX3_countFewest mlX3_69 rfl (by decide) (sq3_0 h0) (ct3_countFewest G t N a0 h0 S4) rfl rfl (Nat.le_of_ble_eq_true rfl) (by decide) (Nat.le_of_ble_eq_true rfl) dX3_settle_9 (fun q5 S6 => ?_)
  exact J_return rfl (Nat.le_refl _) (Nat.le_refl _) rfl dX3_settle_12
theorem dX3_beMadeOf_0 : decode cX3_beMadeOf 0 = .ok (.aload_n 0, 1) := by decide +kernel
theorem dX3_beMadeOf_1 : decode cX3_beMadeOf 1 = .ok (.bipush 8, 2) := by decide +kernel
theorem dX3_beMadeOf_3 : decode cX3_beMadeOf 3 = .ok (.putfield 9, 3) := by decide +kernel
theorem dX3_beMadeOf_6 : decode cX3_beMadeOf 6 = .ok (.iload_n 1, 1) := by decide +kernel
theorem dX3_beMadeOf_7 : decode cX3_beMadeOf 7 = .ok (.istore_n 2, 1) := by decide +kernel
theorem dX3_beMadeOf_8 : decode cX3_beMadeOf 8 = .ok (.bipush 7, 2) := by decide +kernel
theorem dX3_beMadeOf_10 : decode cX3_beMadeOf 10 = .ok (.istore_n 3, 1) := by decide +kernel
theorem dX3_beMadeOf_11 : decode cX3_beMadeOf 11 = .ok (.iload_n 3, 1) := by decide +kernel
theorem dX3_beMadeOf_12 : decode cX3_beMadeOf 12 = .ok (.ifCond .lt 24, 3) := by decide +kernel
theorem dX3_beMadeOf_15 : decode cX3_beMadeOf 15 = .ok (.aload_n 0, 1) := by decide +kernel
theorem dX3_beMadeOf_16 : decode cX3_beMadeOf 16 = .ok (.getfield 15, 3) := by decide +kernel
theorem dX3_beMadeOf_19 : decode cX3_beMadeOf 19 = .ok (.iload_n 3, 1) := by decide +kernel
theorem dX3_beMadeOf_20 : decode cX3_beMadeOf 20 = .ok (.iload_n 2, 1) := by decide +kernel
theorem dX3_beMadeOf_21 : decode cX3_beMadeOf 21 = .ok (.bipush 10, 2) := by decide +kernel
theorem dX3_beMadeOf_23 : decode cX3_beMadeOf 23 = .ok (.irem, 1) := by decide +kernel
theorem dX3_beMadeOf_24 : decode cX3_beMadeOf 24 = .ok (.iastore, 1) := by decide +kernel
theorem dX3_beMadeOf_25 : decode cX3_beMadeOf 25 = .ok (.iload_n 2, 1) := by decide +kernel
theorem dX3_beMadeOf_26 : decode cX3_beMadeOf 26 = .ok (.bipush 10, 2) := by decide +kernel
theorem dX3_beMadeOf_28 : decode cX3_beMadeOf 28 = .ok (.idiv, 1) := by decide +kernel
theorem dX3_beMadeOf_29 : decode cX3_beMadeOf 29 = .ok (.istore_n 2, 1) := by decide +kernel
theorem dX3_beMadeOf_30 : decode cX3_beMadeOf 30 = .ok (.iinc 3 (-1), 3) := by decide +kernel
theorem dX3_beMadeOf_33 : decode cX3_beMadeOf 33 = .ok (.goto (-22), 3) := by decide +kernel
theorem dX3_beMadeOf_36 : decode cX3_beMadeOf 36 = .ok (.aload_n 0, 1) := by decide +kernel
theorem dX3_beMadeOf_37 : decode cX3_beMadeOf 37 = .ok (.invokevirtual 36, 3) := by decide +kernel
theorem dX3_beMadeOf_40 : decode cX3_beMadeOf 40 = .ok (.return_, 1) := by decide +kernel
set_option maxRecDepth 100000 in
set_option maxHeartbeats 4000000 in
theorem t3_beMadeOf_h11 (G : Gm) (t : Nat) (N : Nat) (a0 : Nat) (h0 : a0 ∈ ad3)   : ∀ (n : Nat) (x2 : Int32) (x3 : Int32) (S : St), J G YX3_beMadeOf 4 0 0 (fV t) 0 0 11 [some (vR (some a0)), none, some (vI x2), some (vI x3)] [] (MM t S) (f3_beMadeOf_h11 N a0 n x2 x3 S) := by
  intro n
  induction n with
  | zero => intro x2 x3 S; exact J_none
  | succ n ih =>
    intro x2 x3 S
    rw [f3_beMadeOf_h11]
    refine J_iload_n dX3_beMadeOf_11 rfl rfl ?_
    refine J_if_lt (tgt := 36) dX3_beMadeOf_12 (by decide) (fun z1 => ?_) (fun z1 => ?_)
    · refine J_aload_n dX3_beMadeOf_36 rfl rfl ?_
      refine K_callV_v (As := []) mcX3_settle mlX3_36 rfl (by decide) (sq3_0 h0) (ct3_settle G t N a0 h0 S) rfl rfl (Nat.le_of_ble_eq_true rfl) (by decide) (Nat.le_of_ble_eq_true rfl) dX3_beMadeOf_37 (fun q2 S3 => ?_)
      exact J_return rfl (Nat.le_refl _) (Nat.le_refl _) rfl dX3_beMadeOf_40
    · refine J_aload_n dX3_beMadeOf_15 rfl rfl ?_
      refine K_getR (r := some (a0 + 1)) cf3 flX3_15 (sq3_0 h0) (rq3_1 h0) (Or.inr ⟨_, rfl⟩) dX3_beMadeOf_16 ?_
      refine J_iload_n dX3_beMadeOf_19 rfl rfl ?_
      refine J_iload_n dX3_beMadeOf_20 rfl rfl ?_
      refine J_bipush (v := nI 10) dX3_beMadeOf_21 (by decide) ?_
      refine J_irem (by decide) dX3_beMadeOf_23 ?_
      refine K_iast (sq3_1 h0) dX3_beMadeOf_24 ?_
      refine J_ltS (fun S4 _ => ?_)
      refine J_iload_n dX3_beMadeOf_25 rfl rfl ?_
      refine J_bipush (v := nI 10) dX3_beMadeOf_26 (by decide) ?_
      refine J_idiv (by decide) dX3_beMadeOf_28 ?_
      refine J_ltI (fun v5 _ => ?_)
      refine J_istore_n [some (vR (some a0)), none, some (vI v5), some (vI x3)] dX3_beMadeOf_29 rfl (Nat.le_of_ble_eq_true rfl) rfl rfl ?_
      refine J_iinc (v := x3 + (-1)) [some (vR (some a0)), none, some (vI v5), some (vI (x3 + (-1)))] dX3_beMadeOf_30 rfl rfl (Nat.le_of_ble_eq_true rfl) rfl rfl ?_
      refine J_goto (tgt := 11) dX3_beMadeOf_33 (by decide) ?_
      exact J_sb (ih v5 (x3 + (-1)) S4) (And.intro rfl (And.intro rfl (And.intro rfl (trivial))))
set_option maxRecDepth 100000 in
set_option maxHeartbeats 4000000 in
theorem ct3_beMadeOf (G : Gm) (t : Nat) (N : Nat) (a0 : Nat) (x1 : Int32) (h0 : a0 ∈ ad3) (S : St) : Ct G YX3_beMadeOf yX3_beMadeOf 4 0 0 (fV t) (f3_beMadeOf N a0 x1 S) [vR (some a0), vI x1] (MM t S) := by
  refine Ct_of_J [some (vR (some a0)), some (vI x1), none, none] (by decide) rfl (fun h => by cases h) (Nat.le_of_ble_eq_true rfl) (And.intro rfl (And.intro rfl (trivial))) ?_
  unfold f3_beMadeOf
  refine J_aload_n dX3_beMadeOf_0 rfl rfl ?_
  refine J_bipush (v := nI 8) dX3_beMadeOf_1 (by decide) ?_
  refine K_putI cf3 flX3_9 (sq3_0 h0) rfl dX3_beMadeOf_3 ?_
  refine J_ltS (fun S1 _ => ?_)
  refine J_iload_n dX3_beMadeOf_6 rfl rfl ?_
  refine J_istore_n [some (vR (some a0)), some (vI x1), some (vI x1), none] dX3_beMadeOf_7 rfl (Nat.le_of_ble_eq_true rfl) rfl rfl ?_
  refine J_bipush (v := nI 7) dX3_beMadeOf_8 (by decide) ?_
  refine J_istore_n [some (vR (some a0)), some (vI x1), some (vI x1), some (vI (nI 7))] dX3_beMadeOf_10 rfl (Nat.le_of_ble_eq_true rfl) rfl rfl ?_
  exact J_sb (t3_beMadeOf_h11 G t N a0 h0 N x1 (nI 7) S1) (And.intro rfl (And.intro rfl (And.intro rfl (trivial))))
theorem dX3_beLike_0 : decode cX3_beLike 0 = .ok (.aload_n 0, 1) := by decide +kernel
theorem dX3_beLike_1 : decode cX3_beLike 1 = .ok (.aload_n 1, 1) := by decide +kernel
theorem dX3_beLike_2 : decode cX3_beLike 2 = .ok (.getfield 9, 3) := by decide +kernel
theorem dX3_beLike_5 : decode cX3_beLike 5 = .ok (.putfield 9, 3) := by decide +kernel
theorem dX3_beLike_8 : decode cX3_beLike 8 = .ok (.aload_n 1, 1) := by decide +kernel
theorem dX3_beLike_9 : decode cX3_beLike 9 = .ok (.getfield 15, 3) := by decide +kernel
theorem dX3_beLike_12 : decode cX3_beLike 12 = .ok (.iconst 0, 1) := by decide +kernel
theorem dX3_beLike_13 : decode cX3_beLike 13 = .ok (.aload_n 0, 1) := by decide +kernel
theorem dX3_beLike_14 : decode cX3_beLike 14 = .ok (.getfield 15, 3) := by decide +kernel
theorem dX3_beLike_17 : decode cX3_beLike 17 = .ok (.iconst 0, 1) := by decide +kernel
theorem dX3_beLike_18 : decode cX3_beLike 18 = .ok (.aload_n 0, 1) := by decide +kernel
theorem dX3_beLike_19 : decode cX3_beLike 19 = .ok (.getfield 15, 3) := by decide +kernel
theorem dX3_beLike_22 : decode cX3_beLike 22 = .ok (.arraylength, 1) := by decide +kernel
theorem dX3_beLike_23 : decode cX3_beLike 23 = .ok (.invokestatic 57, 3) := by decide +kernel
theorem dX3_beLike_26 : decode cX3_beLike 26 = .ok (.aload_n 1, 1) := by decide +kernel
theorem dX3_beLike_27 : decode cX3_beLike 27 = .ok (.getfield 30, 3) := by decide +kernel
theorem dX3_beLike_30 : decode cX3_beLike 30 = .ok (.iconst 0, 1) := by decide +kernel
theorem dX3_beLike_31 : decode cX3_beLike 31 = .ok (.aload_n 0, 1) := by decide +kernel
theorem dX3_beLike_32 : decode cX3_beLike 32 = .ok (.getfield 30, 3) := by decide +kernel
theorem dX3_beLike_35 : decode cX3_beLike 35 = .ok (.iconst 0, 1) := by decide +kernel
theorem dX3_beLike_36 : decode cX3_beLike 36 = .ok (.iconst 4, 1) := by decide +kernel
theorem dX3_beLike_37 : decode cX3_beLike 37 = .ok (.invokestatic 57, 3) := by decide +kernel
theorem dX3_beLike_40 : decode cX3_beLike 40 = .ok (.iconst 0, 1) := by decide +kernel
theorem dX3_beLike_41 : decode cX3_beLike 41 = .ok (.istore_n 2, 1) := by decide +kernel
theorem dX3_beLike_42 : decode cX3_beLike 42 = .ok (.iload_n 2, 1) := by decide +kernel
theorem dX3_beLike_43 : decode cX3_beLike 43 = .ok (.iconst 4, 1) := by decide +kernel
theorem dX3_beLike_44 : decode cX3_beLike 44 = .ok (.if_icmp .ge 27, 3) := by decide +kernel
theorem dX3_beLike_47 : decode cX3_beLike 47 = .ok (.aload_n 1, 1) := by decide +kernel
theorem dX3_beLike_48 : decode cX3_beLike 48 = .ok (.getfield 27, 3) := by decide +kernel
theorem dX3_beLike_51 : decode cX3_beLike 51 = .ok (.iload_n 2, 1) := by decide +kernel
theorem dX3_beLike_52 : decode cX3_beLike 52 = .ok (.aaload, 1) := by decide +kernel
theorem dX3_beLike_53 : decode cX3_beLike 53 = .ok (.iconst 0, 1) := by decide +kernel
theorem dX3_beLike_54 : decode cX3_beLike 54 = .ok (.aload_n 0, 1) := by decide +kernel
theorem dX3_beLike_55 : decode cX3_beLike 55 = .ok (.getfield 27, 3) := by decide +kernel
theorem dX3_beLike_58 : decode cX3_beLike 58 = .ok (.iload_n 2, 1) := by decide +kernel
theorem dX3_beLike_59 : decode cX3_beLike 59 = .ok (.aaload, 1) := by decide +kernel
theorem dX3_beLike_60 : decode cX3_beLike 60 = .ok (.iconst 0, 1) := by decide +kernel
theorem dX3_beLike_61 : decode cX3_beLike 61 = .ok (.iconst 4, 1) := by decide +kernel
theorem dX3_beLike_62 : decode cX3_beLike 62 = .ok (.invokestatic 57, 3) := by decide +kernel
theorem dX3_beLike_65 : decode cX3_beLike 65 = .ok (.iinc 2 1, 3) := by decide +kernel
theorem dX3_beLike_68 : decode cX3_beLike 68 = .ok (.goto (-26), 3) := by decide +kernel
theorem dX3_beLike_71 : decode cX3_beLike 71 = .ok (.return_, 1) := by decide +kernel
set_option maxRecDepth 100000 in
set_option maxHeartbeats 4000000 in
theorem t3_beLike_h42 (G : Gm) (t : Nat) (N : Nat) (a0 : Nat) (a1 : Nat) (h0 : a0 ∈ ad3) (h1 : a1 ∈ ad3)   : ∀ (n : Nat) (x2 : Int32) (S : St), J G YX3_beLike 1 0 0 (fV t) 0 0 42 [some (vR (some a0)), some (vR (some a1)), some (vI x2)] [] (MM t S) (f3_beLike_h42 N a0 a1 n x2 S) := by
  intro n
  induction n with
  | zero => intro x2 S; exact J_none
  | succ n ih =>
    intro x2 S
    rw [f3_beLike_h42]
    refine J_iload_n dX3_beLike_42 rfl rfl ?_
    refine J_iconst (v := nI 4) dX3_beLike_43 (by decide) ?_
    refine J_icmp_ge (tgt := 71) dX3_beLike_44 (by decide) (fun z1 => ?_) (fun z1 => ?_)
    · exact J_return rfl (Nat.le_refl _) (Nat.le_refl _) rfl dX3_beLike_71
    · refine J_aload_n dX3_beLike_47 rfl rfl ?_
      refine K_getR (r := some (a1 + 4)) cf3 flX3_27 (sq3_0 h1) (rq3_4 h1) (Or.inr ⟨_, rfl⟩) dX3_beLike_48 ?_
      refine J_iload_n dX3_beLike_51 rfl rfl ?_
      refine K_aald (f := fun j => some (a1 + 5 + j)) (sq3_4 h1) (by decide) (bq3_4 h1) dX3_beLike_52 (fun i2 => ?_)
      refine J_iconst (v := nI 0) dX3_beLike_53 (by decide) ?_
      refine J_aload_n dX3_beLike_54 rfl rfl ?_
      refine K_getR (r := some (a0 + 4)) cf3 flX3_27 (sq3_0 h0) (rq3_4 h0) (Or.inr ⟨_, rfl⟩) dX3_beLike_55 ?_
      refine J_iload_n dX3_beLike_58 rfl rfl ?_
      refine K_aald (f := fun j => some (a0 + 5 + j)) (sq3_4 h0) (by decide) (bq3_4 h0) dX3_beLike_59 (fun i3 => ?_)
      refine J_iconst (v := nI 0) dX3_beLike_60 (by decide) ?_
      refine J_iconst (v := nI 4) dX3_beLike_61 (by decide) ?_
      refine K_copyI (bs3_4 h1 i2) (bs3_4 h0 i3) wlX3_57 (Nat.le_of_ble_eq_true rfl) (by decide) dX3_beLike_62 ?_
      refine J_ltS (fun S4 _ => ?_)
      refine J_iinc (v := x2 + nI 1) [some (vR (some a0)), some (vR (some a1)), some (vI (x2 + nI 1))] dX3_beLike_65 rfl rfl (Nat.le_of_ble_eq_true rfl) rfl rfl ?_
      refine J_goto (tgt := 42) dX3_beLike_68 (by decide) ?_
      exact J_sb (ih (x2 + nI 1) S4) (And.intro rfl (And.intro rfl (And.intro rfl (trivial))))
set_option maxRecDepth 100000 in
set_option maxHeartbeats 4000000 in
theorem ct3_beLike (G : Gm) (t : Nat) (N : Nat) (a0 : Nat) (a1 : Nat) (h0 : a0 ∈ ad3) (h1 : a1 ∈ ad3) (S : St) : Ct G YX3_beLike yX3_beLike 1 0 0 (fV t) (f3_beLike N a0 a1 S) [vR (some a0), vR (some a1)] (MM t S) := by
  refine Ct_of_J [some (vR (some a0)), some (vR (some a1)), none] (by decide) rfl (fun h => by cases h) (Nat.le_of_ble_eq_true rfl) (And.intro rfl (And.intro rfl (trivial))) ?_
  unfold f3_beLike
  refine J_aload_n dX3_beLike_0 rfl rfl ?_
  refine J_aload_n dX3_beLike_1 rfl rfl ?_
  refine K_getI cf3 flX3_9 (sq3_0 h1) (Or.inl rfl) dX3_beLike_2 ?_
  refine K_putI cf3 flX3_9 (sq3_0 h0) rfl dX3_beLike_5 ?_
  refine J_ltS (fun S1 _ => ?_)
  refine J_aload_n dX3_beLike_8 rfl rfl ?_
  refine K_getR (r := some (a1 + 1)) cf3 flX3_15 (sq3_0 h1) (rq3_1 h1) (Or.inr ⟨_, rfl⟩) dX3_beLike_9 ?_
  refine J_iconst (v := nI 0) dX3_beLike_12 (by decide) ?_
  refine J_aload_n dX3_beLike_13 rfl rfl ?_
  refine K_getR (r := some (a0 + 1)) cf3 flX3_15 (sq3_0 h0) (rq3_1 h0) (Or.inr ⟨_, rfl⟩) dX3_beLike_14 ?_
  refine J_iconst (v := nI 0) dX3_beLike_17 (by decide) ?_
  refine J_aload_n dX3_beLike_18 rfl rfl ?_
  refine K_getR (r := some (a0 + 1)) cf3 flX3_15 (sq3_0 h0) (rq3_1 h0) (Or.inr ⟨_, rfl⟩) dX3_beLike_19 ?_
  refine K_alen (v := nI 12) (sq3_1 h0) (by decide) rfl dX3_beLike_22 ?_
  refine K_copyI (sq3_1 h1) (sq3_1 h0) wlX3_57 (Nat.le_of_ble_eq_true rfl) (by decide) dX3_beLike_23 ?_
  refine J_ltS (fun S2 _ => ?_)
  refine J_aload_n dX3_beLike_26 rfl rfl ?_
  refine K_getR (r := some (a1 + 9)) cf3 flX3_30 (sq3_0 h1) (rq3_5 h1) (Or.inr ⟨_, rfl⟩) dX3_beLike_27 ?_
  refine J_iconst (v := nI 0) dX3_beLike_30 (by decide) ?_
  refine J_aload_n dX3_beLike_31 rfl rfl ?_
  refine K_getR (r := some (a0 + 9)) cf3 flX3_30 (sq3_0 h0) (rq3_5 h0) (Or.inr ⟨_, rfl⟩) dX3_beLike_32 ?_
  refine J_iconst (v := nI 0) dX3_beLike_35 (by decide) ?_
  refine J_iconst (v := nI 4) dX3_beLike_36 (by decide) ?_
  refine K_copyI (sq3_9 h1) (sq3_9 h0) wlX3_57 (Nat.le_of_ble_eq_true rfl) (by decide) dX3_beLike_37 ?_
  refine J_ltS (fun S3 _ => ?_)
  refine J_iconst (v := nI 0) dX3_beLike_40 (by decide) ?_
  refine J_istore_n [some (vR (some a0)), some (vR (some a1)), some (vI (nI 0))] dX3_beLike_41 rfl (Nat.le_of_ble_eq_true rfl) rfl rfl ?_
  exact J_sb (t3_beLike_h42 G t N a0 a1 h0 h1 N (nI 0) S3) (And.intro rfl (And.intro rfl (And.intro rfl (trivial))))
theorem dX3_sum_0 : decode cX3_sum 0 = .ok (.iconst 0, 1) := by decide +kernel
theorem dX3_sum_1 : decode cX3_sum 1 = .ok (.istore_n 1, 1) := by decide +kernel
theorem dX3_sum_2 : decode cX3_sum 2 = .ok (.iconst 0, 1) := by decide +kernel
theorem dX3_sum_3 : decode cX3_sum 3 = .ok (.istore_n 2, 1) := by decide +kernel
theorem dX3_sum_4 : decode cX3_sum 4 = .ok (.iload_n 2, 1) := by decide +kernel
theorem dX3_sum_5 : decode cX3_sum 5 = .ok (.aload_n 0, 1) := by decide +kernel
theorem dX3_sum_6 : decode cX3_sum 6 = .ok (.getfield 9, 3) := by decide +kernel
theorem dX3_sum_9 : decode cX3_sum 9 = .ok (.if_icmp .ge 20, 3) := by decide +kernel
theorem dX3_sum_12 : decode cX3_sum 12 = .ok (.iload_n 1, 1) := by decide +kernel
theorem dX3_sum_13 : decode cX3_sum 13 = .ok (.bipush 64, 2) := by decide +kernel
theorem dX3_sum_15 : decode cX3_sum 15 = .ok (.aload_n 0, 1) := by decide +kernel
theorem dX3_sum_16 : decode cX3_sum 16 = .ok (.iload_n 2, 1) := by decide +kernel
theorem dX3_sum_17 : decode cX3_sum 17 = .ok (.invokevirtual 72, 3) := by decide +kernel
theorem dX3_sum_20 : decode cX3_sum 20 = .ok (.ishr, 1) := by decide +kernel
theorem dX3_sum_21 : decode cX3_sum 21 = .ok (.iadd, 1) := by decide +kernel
theorem dX3_sum_22 : decode cX3_sum 22 = .ok (.istore_n 1, 1) := by decide +kernel
theorem dX3_sum_23 : decode cX3_sum 23 = .ok (.iinc 2 1, 3) := by decide +kernel
theorem dX3_sum_26 : decode cX3_sum 26 = .ok (.goto (-22), 3) := by decide +kernel
theorem dX3_sum_29 : decode cX3_sum 29 = .ok (.iload_n 1, 1) := by decide +kernel
theorem dX3_sum_30 : decode cX3_sum 30 = .ok (.ireturn, 1) := by decide +kernel
set_option maxRecDepth 100000 in
set_option maxHeartbeats 4000000 in
theorem t3_sum_h4 (G : Gm) (t : Nat) (N : Nat) (a0 : Nat) (h0 : a0 ∈ ad3)   : ∀ (n : Nat) (x1 : Int32) (x2 : Int32) (S : St), J G YX3_sum 2 0 0 (fI t) 0 0 4 [some (vR (some a0)), some (vI x1), some (vI x2)] [] (MM t S) (f3_sum_h4 N a0 n x1 x2 S) := by
  intro n
  induction n with
  | zero => intro x1 x2 S; exact J_none
  | succ n ih =>
    intro x1 x2 S
    rw [f3_sum_h4]
    refine J_iload_n dX3_sum_4 rfl rfl ?_
    refine J_aload_n dX3_sum_5 rfl rfl ?_
    refine K_getI cf3 flX3_9 (sq3_0 h0) (Or.inl rfl) dX3_sum_6 ?_
    refine J_icmp_ge (tgt := 29) dX3_sum_9 (by decide) (fun z1 => ?_) (fun z1 => ?_)
    · refine J_iload_n dX3_sum_29 rfl rfl ?_
      exact J_ireturn rfl (Nat.le_refl _) (Nat.le_refl _) rfl dX3_sum_30
    · refine J_iload_n dX3_sum_12 rfl rfl ?_
      refine J_bipush (v := nI 64) dX3_sum_13 (by decide) ?_
      refine J_aload_n dX3_sum_15 rfl rfl ?_
      refine J_iload_n dX3_sum_16 rfl rfl ?_
      refine K_callV_i (As := [vI x2]) mcX3_bitsOf mlX3_72 rfl (by decide) (sq3_0 h0) (ct3_bitsOf G t a0 x2 h0 S) rfl rfl (Nat.le_of_ble_eq_true rfl) (by decide) (Nat.le_of_ble_eq_true rfl) dX3_sum_17 (fun q2 S3 => ?_)
      refine J_ishr dX3_sum_20 ?_
      refine J_iadd dX3_sum_21 ?_
      refine J_ltI (fun v4 _ => ?_)
      refine J_istore_n [some (vR (some a0)), some (vI v4), some (vI x2)] dX3_sum_22 rfl (Nat.le_of_ble_eq_true rfl) rfl rfl ?_
      refine J_iinc (v := x2 + nI 1) [some (vR (some a0)), some (vI v4), some (vI (x2 + nI 1))] dX3_sum_23 rfl rfl (Nat.le_of_ble_eq_true rfl) rfl rfl ?_
      refine J_goto (tgt := 4) dX3_sum_26 (by decide) ?_
      exact J_sb (ih v4 (x2 + nI 1) S3) (And.intro rfl (And.intro rfl (And.intro rfl (trivial))))
set_option maxRecDepth 100000 in
set_option maxHeartbeats 4000000 in
theorem ct3_sum (G : Gm) (t : Nat) (N : Nat) (a0 : Nat) (h0 : a0 ∈ ad3) (S : St) : Ct G YX3_sum yX3_sum 2 0 0 (fI t) (f3_sum N a0 S) [vR (some a0)] (MM t S) := by
  refine Ct_of_J [some (vR (some a0)), none, none] (by decide) rfl (fun h => by cases h) (Nat.le_of_ble_eq_true rfl) (And.intro rfl (trivial)) ?_
  unfold f3_sum
  refine J_iconst (v := nI 0) dX3_sum_0 (by decide) ?_
  refine J_istore_n [some (vR (some a0)), some (vI (nI 0)), none] dX3_sum_1 rfl (Nat.le_of_ble_eq_true rfl) rfl rfl ?_
  refine J_iconst (v := nI 0) dX3_sum_2 (by decide) ?_
  refine J_istore_n [some (vR (some a0)), some (vI (nI 0)), some (vI (nI 0))] dX3_sum_3 rfl (Nat.le_of_ble_eq_true rfl) rfl rfl ?_
  exact J_sb (t3_sum_h4 G t N a0 h0 N (nI 0) (nI 0) S) (And.intro rfl (And.intro rfl (And.intro rfl (trivial))))
theorem dX3_beHelped_0 : decode cX3_beHelped 0 = .ok (.aload_n 0, 1) := by decide +kernel
theorem dX3_beHelped_1 : decode cX3_beHelped 1 = .ok (.aload_n 1, 1) := by decide +kernel
theorem dX3_beHelped_2 : decode cX3_beHelped 2 = .ok (.invokevirtual 39, 3) := by decide +kernel
theorem dX3_beHelped_5 : decode cX3_beHelped 5 = .ok (.iconst 0, 1) := by decide +kernel
theorem dX3_beHelped_6 : decode cX3_beHelped 6 = .ok (.istore_n 3, 1) := by decide +kernel
theorem dX3_beHelped_7 : decode cX3_beHelped 7 = .ok (.iload_n 3, 1) := by decide +kernel
theorem dX3_beHelped_8 : decode cX3_beHelped 8 = .ok (.aload_n 0, 1) := by decide +kernel
theorem dX3_beHelped_9 : decode cX3_beHelped 9 = .ok (.getfield 9, 3) := by decide +kernel
theorem dX3_beHelped_12 : decode cX3_beHelped 12 = .ok (.if_icmp .ge 65, 3) := by decide +kernel
theorem dX3_beHelped_15 : decode cX3_beHelped 15 = .ok (.iload_n 3, 1) := by decide +kernel
theorem dX3_beHelped_16 : decode cX3_beHelped 16 = .ok (.aload_n 0, 1) := by decide +kernel
theorem dX3_beHelped_17 : decode cX3_beHelped 17 = .ok (.getfield 15, 3) := by decide +kernel
theorem dX3_beHelped_20 : decode cX3_beHelped 20 = .ok (.arraylength, 1) := by decide +kernel
theorem dX3_beHelped_21 : decode cX3_beHelped 21 = .ok (.if_icmp .ge 56, 3) := by decide +kernel
theorem dX3_beHelped_24 : decode cX3_beHelped 24 = .ok (.aload_n 2, 1) := by decide +kernel
theorem dX3_beHelped_25 : decode cX3_beHelped 25 = .ok (.iload_n 3, 1) := by decide +kernel
theorem dX3_beHelped_26 : decode cX3_beHelped 26 = .ok (.invokevirtual 43, 3) := by decide +kernel
theorem dX3_beHelped_29 : decode cX3_beHelped 29 = .ok (.ifCond .eq 42, 3) := by decide +kernel
theorem dX3_beHelped_32 : decode cX3_beHelped 32 = .ok (.aload_n 0, 1) := by decide +kernel
theorem dX3_beHelped_33 : decode cX3_beHelped 33 = .ok (.getfield 15, 3) := by decide +kernel
theorem dX3_beHelped_36 : decode cX3_beHelped 36 = .ok (.iload_n 3, 1) := by decide +kernel
theorem dX3_beHelped_37 : decode cX3_beHelped 37 = .ok (.iaload, 1) := by decide +kernel
theorem dX3_beHelped_38 : decode cX3_beHelped 38 = .ok (.iconst 1, 1) := by decide +kernel
theorem dX3_beHelped_39 : decode cX3_beHelped 39 = .ok (.if_icmp .le 32, 3) := by decide +kernel
theorem dX3_beHelped_42 : decode cX3_beHelped 42 = .ok (.aload_n 0, 1) := by decide +kernel
theorem dX3_beHelped_43 : decode cX3_beHelped 43 = .ok (.invokevirtual 49, 3) := by decide +kernel
theorem dX3_beHelped_46 : decode cX3_beHelped 46 = .ok (.bipush 64, 2) := by decide +kernel
theorem dX3_beHelped_48 : decode cX3_beHelped 48 = .ok (.aload_n 0, 1) := by decide +kernel
theorem dX3_beHelped_49 : decode cX3_beHelped 49 = .ok (.getfield 15, 3) := by decide +kernel
theorem dX3_beHelped_52 : decode cX3_beHelped 52 = .ok (.iload_n 3, 1) := by decide +kernel
theorem dX3_beHelped_53 : decode cX3_beHelped 53 = .ok (.iaload, 1) := by decide +kernel
theorem dX3_beHelped_54 : decode cX3_beHelped 54 = .ok (.ishr, 1) := by decide +kernel
theorem dX3_beHelped_55 : decode cX3_beHelped 55 = .ok (.iadd, 1) := by decide +kernel
theorem dX3_beHelped_56 : decode cX3_beHelped 56 = .ok (.bipush 64, 2) := by decide +kernel
theorem dX3_beHelped_58 : decode cX3_beHelped 58 = .ok (.if_icmp .gt 13, 3) := by decide +kernel
theorem dX3_beHelped_61 : decode cX3_beHelped 61 = .ok (.aload_n 0, 1) := by decide +kernel
theorem dX3_beHelped_62 : decode cX3_beHelped 62 = .ok (.getfield 15, 3) := by decide +kernel
theorem dX3_beHelped_65 : decode cX3_beHelped 65 = .ok (.iload_n 3, 1) := by decide +kernel
theorem dX3_beHelped_66 : decode cX3_beHelped 66 = .ok (.dup2, 1) := by decide +kernel
theorem dX3_beHelped_67 : decode cX3_beHelped 67 = .ok (.iaload, 1) := by decide +kernel
theorem dX3_beHelped_68 : decode cX3_beHelped 68 = .ok (.iconst 1, 1) := by decide +kernel
theorem dX3_beHelped_69 : decode cX3_beHelped 69 = .ok (.isub, 1) := by decide +kernel
theorem dX3_beHelped_70 : decode cX3_beHelped 70 = .ok (.iastore, 1) := by decide +kernel
theorem dX3_beHelped_71 : decode cX3_beHelped 71 = .ok (.iinc 3 1, 3) := by decide +kernel
theorem dX3_beHelped_74 : decode cX3_beHelped 74 = .ok (.goto (-67), 3) := by decide +kernel
theorem dX3_beHelped_77 : decode cX3_beHelped 77 = .ok (.aload_n 0, 1) := by decide +kernel
theorem dX3_beHelped_78 : decode cX3_beHelped 78 = .ok (.invokevirtual 36, 3) := by decide +kernel
theorem dX3_beHelped_81 : decode cX3_beHelped 81 = .ok (.return_, 1) := by decide +kernel
set_option maxRecDepth 100000 in
set_option maxHeartbeats 4000000 in
theorem t3_beHelped_j77 (G : Gm) (t : Nat) (N : Nat) (a0 : Nat) (h0 : a0 ∈ ad3)   : ∀  (S : St), J G YX3_beHelped 4 0 0 (fV t) 0 0 77 [some (vR (some a0)), none, none, none] [] (MM t S) (f3_beHelped_j77 N a0 S) := by
  intro S
  unfold f3_beHelped_j77
  refine J_aload_n dX3_beHelped_77 rfl rfl ?_
  refine K_callV_v (As := []) mcX3_settle mlX3_36 rfl (by decide) (sq3_0 h0) (ct3_settle G t N a0 h0 S) rfl rfl (Nat.le_of_ble_eq_true rfl) (by decide) (Nat.le_of_ble_eq_true rfl) dX3_beHelped_78 (fun q1 S2 => ?_)
  exact J_return rfl (Nat.le_refl _) (Nat.le_refl _) rfl dX3_beHelped_81
set_option maxRecDepth 100000 in
set_option maxHeartbeats 4000000 in
theorem t3_beHelped_h7 (G : Gm) (t : Nat) (N : Nat) (a0 : Nat) (a2 : Nat) (h0 : a0 ∈ ad3) (h2 : a2 ∈ ad6)   : ∀ (n : Nat) (x3 : Int32) (S : St), J G YX3_beHelped 4 0 0 (fV t) 0 0 7 [some (vR (some a0)), none, some (vR (some a2)), some (vI x3)] [] (MM t S) (f3_beHelped_h7 N a0 a2 n x3 S) := by
  intro n
  induction n with
  | zero => intro x3 S; exact J_none
  | succ n ih =>
    intro x3 S
    rw [f3_beHelped_h7]
    refine J_iload_n dX3_beHelped_7 rfl rfl ?_
    refine J_aload_n dX3_beHelped_8 rfl rfl ?_
    refine K_getI cf3 flX3_9 (sq3_0 h0) (Or.inl rfl) dX3_beHelped_9 ?_
    refine J_icmp_ge (tgt := 77) dX3_beHelped_12 (by decide) (fun z1 => ?_) (fun z1 => ?_)
    · exact J_sb (t3_beHelped_j77 G t N a0 h0 S) (And.intro rfl (trivial))
    · refine J_iload_n dX3_beHelped_15 rfl rfl ?_
      refine J_aload_n dX3_beHelped_16 rfl rfl ?_
      refine K_getR (r := some (a0 + 1)) cf3 flX3_15 (sq3_0 h0) (rq3_1 h0) (Or.inr ⟨_, rfl⟩) dX3_beHelped_17 ?_
      refine K_alen (v := nI 12) (sq3_1 h0) (by decide) rfl dX3_beHelped_20 ?_
      refine J_icmp_ge (tgt := 77) dX3_beHelped_21 (by decide) (fun z2 => ?_) (fun z2 => ?_)
      · exact J_sb (t3_beHelped_j77 G t N a0 h0 S) (And.intro rfl (trivial))
      · refine J_aload_n dX3_beHelped_24 rfl rfl ?_
        refine J_iload_n dX3_beHelped_25 rfl rfl ?_
        refine K_callV_i (As := [vI x3]) mcX6_holds mlX3_43 rfl (by decide) (sq6_0 h2) (ct6_holds G t N a2 x3 h2 S) rfl rfl (Nat.le_of_ble_eq_true rfl) (by decide) (Nat.le_of_ble_eq_true rfl) dX3_beHelped_26 (fun q3 S4 => ?_)
        refine J_if_eq (tgt := 71) dX3_beHelped_29 (by decide) (fun z5 => ?_) (fun z5 => ?_)
        · refine J_iinc (v := x3 + nI 1) [some (vR (some a0)), none, some (vR (some a2)), some (vI (x3 + nI 1))] dX3_beHelped_71 rfl rfl (Nat.le_of_ble_eq_true rfl) rfl rfl ?_
          refine J_goto (tgt := 7) dX3_beHelped_74 (by decide) ?_
          exact J_sb (ih (x3 + nI 1) S4) (And.intro rfl (And.intro rfl (And.intro rfl (trivial))))
        · refine J_aload_n dX3_beHelped_32 rfl rfl ?_
          refine K_getR (r := some (a0 + 1)) cf3 flX3_15 (sq3_0 h0) (rq3_1 h0) (Or.inr ⟨_, rfl⟩) dX3_beHelped_33 ?_
          refine J_iload_n dX3_beHelped_36 rfl rfl ?_
          refine K_iald (sq3_1 h0) dX3_beHelped_37 ?_
          refine J_iconst (v := nI 1) dX3_beHelped_38 (by decide) ?_
          refine J_icmp_le (tgt := 71) dX3_beHelped_39 (by decide) (fun z6 => ?_) (fun z6 => ?_)
          · refine J_iinc (v := x3 + nI 1) [some (vR (some a0)), none, some (vR (some a2)), some (vI (x3 + nI 1))] dX3_beHelped_71 rfl rfl (Nat.le_of_ble_eq_true rfl) rfl rfl ?_
            refine J_goto (tgt := 7) dX3_beHelped_74 (by decide) ?_
            exact J_sb (ih (x3 + nI 1) S4) (And.intro rfl (And.intro rfl (And.intro rfl (trivial))))
          · refine J_aload_n dX3_beHelped_42 rfl rfl ?_
            refine K_callV_i (As := []) mcX3_sum mlX3_49 rfl (by decide) (sq3_0 h0) (ct3_sum G t N a0 h0 S4) rfl rfl (Nat.le_of_ble_eq_true rfl) (by decide) (Nat.le_of_ble_eq_true rfl) dX3_beHelped_43 (fun q7 S8 => ?_)
            refine J_bipush (v := nI 64) dX3_beHelped_46 (by decide) ?_
            refine J_aload_n dX3_beHelped_48 rfl rfl ?_
            refine K_getR (r := some (a0 + 1)) cf3 flX3_15 (sq3_0 h0) (rq3_1 h0) (Or.inr ⟨_, rfl⟩) dX3_beHelped_49 ?_
            refine J_iload_n dX3_beHelped_52 rfl rfl ?_
            refine K_iald (sq3_1 h0) dX3_beHelped_53 ?_
            refine J_ishr dX3_beHelped_54 ?_
            refine J_iadd dX3_beHelped_55 ?_
            refine J_bipush (v := nI 64) dX3_beHelped_56 (by decide) ?_
            refine J_icmp_gt (tgt := 71) dX3_beHelped_58 (by decide) (fun z9 => ?_) (fun z9 => ?_)
            · refine J_iinc (v := x3 + nI 1) [some (vR (some a0)), none, some (vR (some a2)), some (vI (x3 + nI 1))] dX3_beHelped_71 rfl rfl (Nat.le_of_ble_eq_true rfl) rfl rfl ?_
              refine J_goto (tgt := 7) dX3_beHelped_74 (by decide) ?_
              exact J_sb (ih (x3 + nI 1) S8) (And.intro rfl (And.intro rfl (And.intro rfl (trivial))))
            · refine J_aload_n dX3_beHelped_61 rfl rfl ?_
              refine K_getR (r := some (a0 + 1)) cf3 flX3_15 (sq3_0 h0) (rq3_1 h0) (Or.inr ⟨_, rfl⟩) dX3_beHelped_62 ?_
              refine J_iload_n dX3_beHelped_65 rfl rfl ?_
              refine J_dup2 dX3_beHelped_66 rfl rfl ?_
              refine K_iald (sq3_1 h0) dX3_beHelped_67 ?_
              refine J_iconst (v := nI 1) dX3_beHelped_68 (by decide) ?_
              refine J_isub dX3_beHelped_69 ?_
              refine K_iast (sq3_1 h0) dX3_beHelped_70 ?_
              refine J_ltS (fun S10 _ => ?_)
              refine J_iinc (v := x3 + nI 1) [some (vR (some a0)), none, some (vR (some a2)), some (vI (x3 + nI 1))] dX3_beHelped_71 rfl rfl (Nat.le_of_ble_eq_true rfl) rfl rfl ?_
              refine J_goto (tgt := 7) dX3_beHelped_74 (by decide) ?_
              exact J_sb (ih (x3 + nI 1) S10) (And.intro rfl (And.intro rfl (And.intro rfl (trivial))))
set_option maxRecDepth 100000 in
set_option maxHeartbeats 4000000 in
theorem ct3_beHelped (G : Gm) (t : Nat) (N : Nat) (a0 : Nat) (a1 : Nat) (a2 : Nat) (h0 : a0 ∈ ad3) (h1 : a1 ∈ ad3) (h2 : a2 ∈ ad6) (S : St) : Ct G YX3_beHelped yX3_beHelped 4 0 0 (fV t) (f3_beHelped N a0 a1 a2 S) [vR (some a0), vR (some a1), vR (some a2)] (MM t S) := by
  refine Ct_of_J [some (vR (some a0)), some (vR (some a1)), some (vR (some a2)), none] (by decide) rfl (fun h => by cases h) (Nat.le_of_ble_eq_true rfl) (And.intro rfl (And.intro rfl (And.intro rfl (trivial)))) ?_
  unfold f3_beHelped
  refine J_aload_n dX3_beHelped_0 rfl rfl ?_
  refine J_aload_n dX3_beHelped_1 rfl rfl ?_
  refine K_callV_v (As := [vR (some a1)]) mcX3_beLike mlX3_39 rfl (by decide) (sq3_0 h0) (ct3_beLike G t N a0 a1 h0 h1 S) rfl rfl (Nat.le_of_ble_eq_true rfl) (by decide) (Nat.le_of_ble_eq_true rfl) dX3_beHelped_2 (fun q1 S2 => ?_)
  refine J_iconst (v := nI 0) dX3_beHelped_5 (by decide) ?_
  refine J_istore_n [some (vR (some a0)), some (vR (some a1)), some (vR (some a2)), some (vI (nI 0))] dX3_beHelped_6 rfl (Nat.le_of_ble_eq_true rfl) rfl rfl ?_
  exact J_sb (t3_beHelped_h7 G t N a0 a2 h0 h2 N (nI 0) S2) (And.intro rfl (And.intro rfl (And.intro rfl (trivial))))
theorem dX3_beTaught_0 : decode cX3_beTaught 0 = .ok (.aload_n 0, 1) := by decide +kernel
theorem dX3_beTaught_1 : decode cX3_beTaught 1 = .ok (.aload_n 1, 1) := by decide +kernel
theorem dX3_beTaught_2 : decode cX3_beTaught 2 = .ok (.invokevirtual 39, 3) := by decide +kernel
theorem dX3_beTaught_5 : decode cX3_beTaught 5 = .ok (.aload_n 0, 1) := by decide +kernel
theorem dX3_beTaught_6 : decode cX3_beTaught 6 = .ok (.getfield 9, 3) := by decide +kernel
theorem dX3_beTaught_9 : decode cX3_beTaught 9 = .ok (.bipush 8, 2) := by decide +kernel
theorem dX3_beTaught_11 : decode cX3_beTaught 11 = .ok (.isub, 1) := by decide +kernel
theorem dX3_beTaught_12 : decode cX3_beTaught 12 = .ok (.istore 6, 2) := by decide +kernel
theorem dX3_beTaught_14 : decode cX3_beTaught 14 = .ok (.iload 6, 2) := by decide +kernel
theorem dX3_beTaught_16 : decode cX3_beTaught 16 = .ok (.ifCond .lt 9, 3) := by decide +kernel
theorem dX3_beTaught_19 : decode cX3_beTaught 19 = .ok (.iload 6, 2) := by decide +kernel
theorem dX3_beTaught_21 : decode cX3_beTaught 21 = .ok (.iconst 4, 1) := by decide +kernel
theorem dX3_beTaught_22 : decode cX3_beTaught 22 = .ok (.if_icmp .lt 4, 3) := by decide +kernel
theorem dX3_beTaught_25 : decode cX3_beTaught 25 = .ok (.return_, 1) := by decide +kernel
theorem dX3_beTaught_26 : decode cX3_beTaught 26 = .ok (.iconst 0, 1) := by decide +kernel
theorem dX3_beTaught_27 : decode cX3_beTaught 27 = .ok (.istore 7, 2) := by decide +kernel
theorem dX3_beTaught_29 : decode cX3_beTaught 29 = .ok (.iload 7, 2) := by decide +kernel
theorem dX3_beTaught_31 : decode cX3_beTaught 31 = .ok (.iload 4, 2) := by decide +kernel
theorem dX3_beTaught_33 : decode cX3_beTaught 33 = .ok (.iload_n 3, 1) := by decide +kernel
theorem dX3_beTaught_34 : decode cX3_beTaught 34 = .ok (.isub, 1) := by decide +kernel
theorem dX3_beTaught_35 : decode cX3_beTaught 35 = .ok (.if_icmp .gt 33, 3) := by decide +kernel
theorem dX3_beTaught_38 : decode cX3_beTaught 38 = .ok (.iload 7, 2) := by decide +kernel
theorem dX3_beTaught_40 : decode cX3_beTaught 40 = .ok (.iconst 4, 1) := by decide +kernel
theorem dX3_beTaught_41 : decode cX3_beTaught 41 = .ok (.if_icmp .ge 27, 3) := by decide +kernel
theorem dX3_beTaught_44 : decode cX3_beTaught 44 = .ok (.aload_n 0, 1) := by decide +kernel
theorem dX3_beTaught_45 : decode cX3_beTaught 45 = .ok (.getfield 27, 3) := by decide +kernel
theorem dX3_beTaught_48 : decode cX3_beTaught 48 = .ok (.iload 6, 2) := by decide +kernel
theorem dX3_beTaught_50 : decode cX3_beTaught 50 = .ok (.aaload, 1) := by decide +kernel
theorem dX3_beTaught_51 : decode cX3_beTaught 51 = .ok (.iload 7, 2) := by decide +kernel
theorem dX3_beTaught_53 : decode cX3_beTaught 53 = .ok (.aload_n 2, 1) := by decide +kernel
theorem dX3_beTaught_54 : decode cX3_beTaught 54 = .ok (.iload_n 3, 1) := by decide +kernel
theorem dX3_beTaught_55 : decode cX3_beTaught 55 = .ok (.iload 7, 2) := by decide +kernel
theorem dX3_beTaught_57 : decode cX3_beTaught 57 = .ok (.iadd, 1) := by decide +kernel
theorem dX3_beTaught_58 : decode cX3_beTaught 58 = .ok (.invokevirtual 53, 3) := by decide +kernel
theorem dX3_beTaught_61 : decode cX3_beTaught 61 = .ok (.iastore, 1) := by decide +kernel
theorem dX3_beTaught_62 : decode cX3_beTaught 62 = .ok (.iinc 7 1, 3) := by decide +kernel
theorem dX3_beTaught_65 : decode cX3_beTaught 65 = .ok (.goto (-36), 3) := by decide +kernel
theorem dX3_beTaught_68 : decode cX3_beTaught 68 = .ok (.aload_n 0, 1) := by decide +kernel
theorem dX3_beTaught_69 : decode cX3_beTaught 69 = .ok (.getfield 30, 3) := by decide +kernel
theorem dX3_beTaught_72 : decode cX3_beTaught 72 = .ok (.iload 6, 2) := by decide +kernel
theorem dX3_beTaught_74 : decode cX3_beTaught 74 = .ok (.iload 4, 2) := by decide +kernel
theorem dX3_beTaught_76 : decode cX3_beTaught 76 = .ok (.iload_n 3, 1) := by decide +kernel
theorem dX3_beTaught_77 : decode cX3_beTaught 77 = .ok (.isub, 1) := by decide +kernel
theorem dX3_beTaught_78 : decode cX3_beTaught 78 = .ok (.iconst 1, 1) := by decide +kernel
theorem dX3_beTaught_79 : decode cX3_beTaught 79 = .ok (.iadd, 1) := by decide +kernel
theorem dX3_beTaught_80 : decode cX3_beTaught 80 = .ok (.iastore, 1) := by decide +kernel
theorem dX3_beTaught_81 : decode cX3_beTaught 81 = .ok (.aload_n 0, 1) := by decide +kernel
theorem dX3_beTaught_82 : decode cX3_beTaught 82 = .ok (.getfield 15, 3) := by decide +kernel
theorem dX3_beTaught_85 : decode cX3_beTaught 85 = .ok (.aload_n 0, 1) := by decide +kernel
theorem dX3_beTaught_86 : decode cX3_beTaught 86 = .ok (.getfield 9, 3) := by decide +kernel
theorem dX3_beTaught_89 : decode cX3_beTaught 89 = .ok (.iload 5, 2) := by decide +kernel
theorem dX3_beTaught_91 : decode cX3_beTaught 91 = .ok (.iastore, 1) := by decide +kernel
theorem dX3_beTaught_92 : decode cX3_beTaught 92 = .ok (.aload_n 0, 1) := by decide +kernel
theorem dX3_beTaught_93 : decode cX3_beTaught 93 = .ok (.dup, 1) := by decide +kernel
theorem dX3_beTaught_94 : decode cX3_beTaught 94 = .ok (.getfield 9, 3) := by decide +kernel
theorem dX3_beTaught_97 : decode cX3_beTaught 97 = .ok (.iconst 1, 1) := by decide +kernel
theorem dX3_beTaught_98 : decode cX3_beTaught 98 = .ok (.iadd, 1) := by decide +kernel
theorem dX3_beTaught_99 : decode cX3_beTaught 99 = .ok (.putfield 9, 3) := by decide +kernel
theorem dX3_beTaught_102 : decode cX3_beTaught 102 = .ok (.aload_n 0, 1) := by decide +kernel
theorem dX3_beTaught_103 : decode cX3_beTaught 103 = .ok (.invokevirtual 36, 3) := by decide +kernel
theorem dX3_beTaught_106 : decode cX3_beTaught 106 = .ok (.return_, 1) := by decide +kernel
set_option maxRecDepth 100000 in
set_option maxHeartbeats 4000000 in
theorem t3_beTaught_j68 (G : Gm) (t : Nat) (N : Nat) (a0 : Nat) (x3 : Int32) (x4 : Int32) (x5 : Int32) (x6 : Int32) (h0 : a0 ∈ ad3)   : ∀  (S : St), J G YX3_beTaught 4 0 0 (fV t) 0 0 68 [some (vR (some a0)), none, none, some (vI x3), some (vI x4), some (vI x5), some (vI x6), none] [] (MM t S) (f3_beTaught_j68 N a0 x3 x4 x5 x6 S) := by
  intro S
  unfold f3_beTaught_j68
  refine J_aload_n dX3_beTaught_68 rfl rfl ?_
  refine K_getR (r := some (a0 + 9)) cf3 flX3_30 (sq3_0 h0) (rq3_5 h0) (Or.inr ⟨_, rfl⟩) dX3_beTaught_69 ?_
  refine J_iload dX3_beTaught_72 rfl ?_
  refine J_iload dX3_beTaught_74 rfl ?_
  refine J_iload_n dX3_beTaught_76 rfl rfl ?_
  refine J_isub dX3_beTaught_77 ?_
  refine J_iconst (v := nI 1) dX3_beTaught_78 (by decide) ?_
  refine J_iadd dX3_beTaught_79 ?_
  refine K_iast (sq3_9 h0) dX3_beTaught_80 ?_
  refine J_ltS (fun S1 _ => ?_)
  refine J_aload_n dX3_beTaught_81 rfl rfl ?_
  refine K_getR (r := some (a0 + 1)) cf3 flX3_15 (sq3_0 h0) (rq3_1 h0) (Or.inr ⟨_, rfl⟩) dX3_beTaught_82 ?_
  refine J_aload_n dX3_beTaught_85 rfl rfl ?_
  refine K_getI cf3 flX3_9 (sq3_0 h0) (Or.inl rfl) dX3_beTaught_86 ?_
  refine J_iload dX3_beTaught_89 rfl ?_
  refine K_iast (sq3_1 h0) dX3_beTaught_91 ?_
  refine J_ltS (fun S2 _ => ?_)
  refine J_aload_n dX3_beTaught_92 rfl rfl ?_
  refine J_dup dX3_beTaught_93 rfl ?_
  refine K_getI cf3 flX3_9 (sq3_0 h0) (Or.inl rfl) dX3_beTaught_94 ?_
  refine J_iconst (v := nI 1) dX3_beTaught_97 (by decide) ?_
  refine J_iadd dX3_beTaught_98 ?_
  refine K_putI cf3 flX3_9 (sq3_0 h0) rfl dX3_beTaught_99 ?_
  refine J_ltS (fun S3 _ => ?_)
  refine J_aload_n dX3_beTaught_102 rfl rfl ?_
  refine K_callV_v (As := []) mcX3_settle mlX3_36 rfl (by decide) (sq3_0 h0) (ct3_settle G t N a0 h0 S3) rfl rfl (Nat.le_of_ble_eq_true rfl) (by decide) (Nat.le_of_ble_eq_true rfl) dX3_beTaught_103 (fun q4 S5 => ?_)
  exact J_return rfl (Nat.le_refl _) (Nat.le_refl _) rfl dX3_beTaught_106
set_option maxRecDepth 100000 in
set_option maxHeartbeats 4000000 in
theorem t3_beTaught_h29 (G : Gm) (t : Nat) (N : Nat) (a0 : Nat) (a2 : Nat) (x3 : Int32) (x4 : Int32) (x5 : Int32) (x6 : Int32) (h0 : a0 ∈ ad3) (h2 : a2 ∈ ad6)   : ∀ (n : Nat) (x7 : Int32) (S : St), J G YX3_beTaught 4 0 0 (fV t) 0 0 29 [some (vR (some a0)), none, some (vR (some a2)), some (vI x3), some (vI x4), some (vI x5), some (vI x6), some (vI x7)] [] (MM t S) (f3_beTaught_h29 N a0 a2 x3 x4 x5 x6 n x7 S) := by
  intro n
  induction n with
  | zero => intro x7 S; exact J_none
  | succ n ih =>
    intro x7 S
    rw [f3_beTaught_h29]
    refine J_iload dX3_beTaught_29 rfl ?_
    refine J_iload dX3_beTaught_31 rfl ?_
    refine J_iload_n dX3_beTaught_33 rfl rfl ?_
    refine J_isub dX3_beTaught_34 ?_
    refine J_icmp_gt (tgt := 68) dX3_beTaught_35 (by decide) (fun z1 => ?_) (fun z1 => ?_)
    · exact J_sb (t3_beTaught_j68 G t N a0 x3 x4 x5 x6 h0 S) (And.intro rfl (And.intro rfl (And.intro rfl (And.intro rfl (And.intro rfl (trivial))))))
    · refine J_iload dX3_beTaught_38 rfl ?_
      refine J_iconst (v := nI 4) dX3_beTaught_40 (by decide) ?_
      refine J_icmp_ge (tgt := 68) dX3_beTaught_41 (by decide) (fun z2 => ?_) (fun z2 => ?_)
      · exact J_sb (t3_beTaught_j68 G t N a0 x3 x4 x5 x6 h0 S) (And.intro rfl (And.intro rfl (And.intro rfl (And.intro rfl (And.intro rfl (trivial))))))
      · refine J_aload_n dX3_beTaught_44 rfl rfl ?_
        refine K_getR (r := some (a0 + 4)) cf3 flX3_27 (sq3_0 h0) (rq3_4 h0) (Or.inr ⟨_, rfl⟩) dX3_beTaught_45 ?_
        refine J_iload dX3_beTaught_48 rfl ?_
        refine K_aald (f := fun j => some (a0 + 5 + j)) (sq3_4 h0) (by decide) (bq3_4 h0) dX3_beTaught_50 (fun i3 => ?_)
        refine J_iload dX3_beTaught_51 rfl ?_
        refine J_aload_n dX3_beTaught_53 rfl rfl ?_
        refine J_iload_n dX3_beTaught_54 rfl rfl ?_
        refine J_iload dX3_beTaught_55 rfl ?_
        refine J_iadd dX3_beTaught_57 ?_
        refine K_callV_i (As := [vI (x3 + x7)]) mcX6_orderAt mlX3_53 rfl (by decide) (sq6_0 h2) (ct6_orderAt G t a2 (x3 + x7) h2 S) rfl rfl (Nat.le_of_ble_eq_true rfl) (by decide) (Nat.le_of_ble_eq_true rfl) dX3_beTaught_58 (fun q4 S5 => ?_)
        refine K_iast (bs3_4 h0 i3) dX3_beTaught_61 ?_
        refine J_ltS (fun S6 _ => ?_)
        refine J_iinc (v := x7 + nI 1) [some (vR (some a0)), none, some (vR (some a2)), some (vI x3), some (vI x4), some (vI x5), some (vI x6), some (vI (x7 + nI 1))] dX3_beTaught_62 rfl rfl (Nat.le_of_ble_eq_true rfl) rfl rfl ?_
        refine J_goto (tgt := 29) dX3_beTaught_65 (by decide) ?_
        exact J_sb (ih (x7 + nI 1) S6) (And.intro rfl (And.intro rfl (And.intro rfl (And.intro rfl (And.intro rfl (And.intro rfl (And.intro rfl (trivial))))))))
set_option maxRecDepth 100000 in
set_option maxHeartbeats 4000000 in
theorem ct3_beTaught (G : Gm) (t : Nat) (N : Nat) (a0 : Nat) (a1 : Nat) (a2 : Nat) (x3 : Int32) (x4 : Int32) (x5 : Int32) (h0 : a0 ∈ ad3) (h1 : a1 ∈ ad3) (h2 : a2 ∈ ad6) (S : St) : Ct G YX3_beTaught yX3_beTaught 4 0 0 (fV t) (f3_beTaught N a0 a1 a2 x3 x4 x5 S) [vR (some a0), vR (some a1), vR (some a2), vI x3, vI x4, vI x5] (MM t S) := by
  refine Ct_of_J [some (vR (some a0)), some (vR (some a1)), some (vR (some a2)), some (vI x3), some (vI x4), some (vI x5), none, none] (by decide) rfl (fun h => by cases h) (Nat.le_of_ble_eq_true rfl) (And.intro rfl (And.intro rfl (And.intro rfl (And.intro rfl (And.intro rfl (And.intro rfl (trivial))))))) ?_
  unfold f3_beTaught
  refine J_aload_n dX3_beTaught_0 rfl rfl ?_
  refine J_aload_n dX3_beTaught_1 rfl rfl ?_
  refine K_callV_v (As := [vR (some a1)]) mcX3_beLike mlX3_39 rfl (by decide) (sq3_0 h0) (ct3_beLike G t N a0 a1 h0 h1 S) rfl rfl (Nat.le_of_ble_eq_true rfl) (by decide) (Nat.le_of_ble_eq_true rfl) dX3_beTaught_2 (fun q1 S2 => ?_)
  refine J_aload_n dX3_beTaught_5 rfl rfl ?_
  refine K_getI cf3 flX3_9 (sq3_0 h0) (Or.inl rfl) dX3_beTaught_6 ?_
  refine J_bipush (v := nI 8) dX3_beTaught_9 (by decide) ?_
  refine J_isub dX3_beTaught_11 ?_
  refine J_ltI (fun v3 _ => ?_)
  refine J_istore [some (vR (some a0)), some (vR (some a1)), some (vR (some a2)), some (vI x3), some (vI x4), some (vI x5), some (vI v3), none] dX3_beTaught_12 (Nat.le_of_ble_eq_true rfl) rfl rfl ?_
  refine J_iload dX3_beTaught_14 rfl ?_
  refine J_if_lt (tgt := 25) dX3_beTaught_16 (by decide) (fun z4 => ?_) (fun z4 => ?_)
  · exact J_return rfl (Nat.le_refl _) (Nat.le_refl _) rfl dX3_beTaught_25
  · refine J_iload dX3_beTaught_19 rfl ?_
    refine J_iconst (v := nI 4) dX3_beTaught_21 (by decide) ?_
    refine J_icmp_lt (tgt := 26) dX3_beTaught_22 (by decide) (fun z5 => ?_) (fun z5 => ?_)
    · refine J_iconst (v := nI 0) dX3_beTaught_26 (by decide) ?_
      refine J_istore [some (vR (some a0)), some (vR (some a1)), some (vR (some a2)), some (vI x3), some (vI x4), some (vI x5), some (vI v3), some (vI (nI 0))] dX3_beTaught_27 (Nat.le_of_ble_eq_true rfl) rfl rfl ?_
      exact J_sb (t3_beTaught_h29 G t N a0 a2 x3 x4 x5 v3 h0 h2 N (nI 0) S2) (And.intro rfl (And.intro rfl (And.intro rfl (And.intro rfl (And.intro rfl (And.intro rfl (And.intro rfl (trivial))))))))
    · exact J_return rfl (Nat.le_refl _) (Nat.le_refl _) rfl dX3_beTaught_25
theorem dX3_howManyOrders_0 : decode cX3_howManyOrders 0 = .ok (.aload_n 0, 1) := by decide +kernel
theorem dX3_howManyOrders_1 : decode cX3_howManyOrders 1 = .ok (.getfield 9, 3) := by decide +kernel
theorem dX3_howManyOrders_4 : decode cX3_howManyOrders 4 = .ok (.ireturn, 1) := by decide +kernel
set_option maxRecDepth 100000 in
set_option maxHeartbeats 4000000 in
theorem ct3_howManyOrders (G : Gm) (t : Nat)  (a0 : Nat) (h0 : a0 ∈ ad3) (S : St) : Ct G YX3_howManyOrders yX3_howManyOrders 1 0 0 (fI t) (f3_howManyOrders a0 S) [vR (some a0)] (MM t S) := by
  refine Ct_of_J [some (vR (some a0))] (by decide) rfl (fun h => by cases h) (Nat.le_of_ble_eq_true rfl) (And.intro rfl (trivial)) ?_
  unfold f3_howManyOrders
  refine J_aload_n dX3_howManyOrders_0 rfl rfl ?_
  refine K_getI cf3 flX3_9 (sq3_0 h0) (Or.inl rfl) dX3_howManyOrders_1 ?_
  exact J_ireturn rfl (Nat.le_refl _) (Nat.le_refl _) rfl dX3_howManyOrders_4
theorem dX3_has_0 : decode cX3_has 0 = .ok (.iload_n 1, 1) := by decide +kernel
theorem dX3_has_1 : decode cX3_has 1 = .ok (.ifCond .lt 15, 3) := by decide +kernel
theorem dX3_has_4 : decode cX3_has 4 = .ok (.iload_n 1, 1) := by decide +kernel
theorem dX3_has_5 : decode cX3_has 5 = .ok (.aload_n 0, 1) := by decide +kernel
theorem dX3_has_6 : decode cX3_has 6 = .ok (.getfield 9, 3) := by decide +kernel
theorem dX3_has_9 : decode cX3_has 9 = .ok (.if_icmp .ge 7, 3) := by decide +kernel
theorem dX3_has_12 : decode cX3_has 12 = .ok (.iconst 1, 1) := by decide +kernel
theorem dX3_has_13 : decode cX3_has 13 = .ok (.goto 4, 3) := by decide +kernel
theorem dX3_has_16 : decode cX3_has 16 = .ok (.iconst 0, 1) := by decide +kernel
theorem dX3_has_17 : decode cX3_has 17 = .ok (.ireturn, 1) := by decide +kernel
set_option maxRecDepth 100000 in
set_option maxHeartbeats 4000000 in
theorem ct3_has (G : Gm) (t : Nat)  (a0 : Nat) (x1 : Int32) (h0 : a0 ∈ ad3) (S : St) : Ct G YX3_has yX3_has 1 0 0 (fI t) (f3_has a0 x1 S) [vR (some a0), vI x1] (MM t S) := by
  refine Ct_of_J [some (vR (some a0)), some (vI x1)] (by decide) rfl (fun h => by cases h) (Nat.le_of_ble_eq_true rfl) (And.intro rfl (And.intro rfl (trivial))) ?_
  unfold f3_has
  refine J_iload_n dX3_has_0 rfl rfl ?_
  refine J_if_lt (tgt := 16) dX3_has_1 (by decide) (fun z1 => ?_) (fun z1 => ?_)
  · refine J_iconst (v := nI 0) dX3_has_16 (by decide) ?_
    exact J_zreturn (by decide) rfl (Nat.le_refl _) (Nat.le_refl _) rfl dX3_has_17
  · refine J_iload_n dX3_has_4 rfl rfl ?_
    refine J_aload_n dX3_has_5 rfl rfl ?_
    refine K_getI cf3 flX3_9 (sq3_0 h0) (Or.inl rfl) dX3_has_6 ?_
    refine J_icmp_ge (tgt := 16) dX3_has_9 (by decide) (fun z2 => ?_) (fun z2 => ?_)
    · refine J_iconst (v := nI 0) dX3_has_16 (by decide) ?_
      exact J_zreturn (by decide) rfl (Nat.le_refl _) (Nat.le_refl _) rfl dX3_has_17
    · refine J_iconst (v := nI 1) dX3_has_12 (by decide) ?_
      refine J_goto (tgt := 17) dX3_has_13 (by decide) ?_
      exact J_zreturn (by decide) rfl (Nat.le_refl _) (Nat.le_refl _) rfl dX3_has_17
theorem dX3_codeOf_0 : decode cX3_codeOf 0 = .ok (.iload_n 1, 1) := by decide +kernel
theorem dX3_codeOf_1 : decode cX3_codeOf 1 = .ok (.ifCond .lt 29, 3) := by decide +kernel
theorem dX3_codeOf_4 : decode cX3_codeOf 4 = .ok (.iload_n 1, 1) := by decide +kernel
theorem dX3_codeOf_5 : decode cX3_codeOf 5 = .ok (.aload_n 0, 1) := by decide +kernel
theorem dX3_codeOf_6 : decode cX3_codeOf 6 = .ok (.getfield 9, 3) := by decide +kernel
theorem dX3_codeOf_9 : decode cX3_codeOf 9 = .ok (.if_icmp .ge 21, 3) := by decide +kernel
theorem dX3_codeOf_12 : decode cX3_codeOf 12 = .ok (.iload_n 1, 1) := by decide +kernel
theorem dX3_codeOf_13 : decode cX3_codeOf 13 = .ok (.aload_n 0, 1) := by decide +kernel
theorem dX3_codeOf_14 : decode cX3_codeOf 14 = .ok (.getfield 19, 3) := by decide +kernel
theorem dX3_codeOf_17 : decode cX3_codeOf 17 = .ok (.arraylength, 1) := by decide +kernel
theorem dX3_codeOf_18 : decode cX3_codeOf 18 = .ok (.if_icmp .ge 12, 3) := by decide +kernel
theorem dX3_codeOf_21 : decode cX3_codeOf 21 = .ok (.aload_n 0, 1) := by decide +kernel
theorem dX3_codeOf_22 : decode cX3_codeOf 22 = .ok (.getfield 19, 3) := by decide +kernel
theorem dX3_codeOf_25 : decode cX3_codeOf 25 = .ok (.iload_n 1, 1) := by decide +kernel
theorem dX3_codeOf_26 : decode cX3_codeOf 26 = .ok (.iaload, 1) := by decide +kernel
theorem dX3_codeOf_27 : decode cX3_codeOf 27 = .ok (.goto 4, 3) := by decide +kernel
theorem dX3_codeOf_30 : decode cX3_codeOf 30 = .ok (.iconst 0, 1) := by decide +kernel
theorem dX3_codeOf_31 : decode cX3_codeOf 31 = .ok (.ireturn, 1) := by decide +kernel
set_option maxRecDepth 100000 in
set_option maxHeartbeats 4000000 in
theorem ct3_codeOf (G : Gm) (t : Nat)  (a0 : Nat) (x1 : Int32) (h0 : a0 ∈ ad3) (S : St) : Ct G YX3_codeOf yX3_codeOf 1 0 0 (fI t) (f3_codeOf a0 x1 S) [vR (some a0), vI x1] (MM t S) := by
  refine Ct_of_J [some (vR (some a0)), some (vI x1)] (by decide) rfl (fun h => by cases h) (Nat.le_of_ble_eq_true rfl) (And.intro rfl (And.intro rfl (trivial))) ?_
  unfold f3_codeOf
  refine J_iload_n dX3_codeOf_0 rfl rfl ?_
  refine J_if_lt (tgt := 30) dX3_codeOf_1 (by decide) (fun z1 => ?_) (fun z1 => ?_)
  · refine J_iconst (v := nI 0) dX3_codeOf_30 (by decide) ?_
    exact J_ireturn rfl (Nat.le_refl _) (Nat.le_refl _) rfl dX3_codeOf_31
  · refine J_iload_n dX3_codeOf_4 rfl rfl ?_
    refine J_aload_n dX3_codeOf_5 rfl rfl ?_
    refine K_getI cf3 flX3_9 (sq3_0 h0) (Or.inl rfl) dX3_codeOf_6 ?_
    refine J_icmp_ge (tgt := 30) dX3_codeOf_9 (by decide) (fun z2 => ?_) (fun z2 => ?_)
    · refine J_iconst (v := nI 0) dX3_codeOf_30 (by decide) ?_
      exact J_ireturn rfl (Nat.le_refl _) (Nat.le_refl _) rfl dX3_codeOf_31
    · refine J_iload_n dX3_codeOf_12 rfl rfl ?_
      refine J_aload_n dX3_codeOf_13 rfl rfl ?_
      refine K_getR (r := some (a0 + 2)) cf3 flX3_19 (sq3_0 h0) (rq3_2 h0) (Or.inr ⟨_, rfl⟩) dX3_codeOf_14 ?_
      refine K_alen (v := nI 12) (sq3_2 h0) (by decide) rfl dX3_codeOf_17 ?_
      refine J_icmp_ge (tgt := 30) dX3_codeOf_18 (by decide) (fun z3 => ?_) (fun z3 => ?_)
      · refine J_iconst (v := nI 0) dX3_codeOf_30 (by decide) ?_
        exact J_ireturn rfl (Nat.le_refl _) (Nat.le_refl _) rfl dX3_codeOf_31
      · refine J_aload_n dX3_codeOf_21 rfl rfl ?_
        refine K_getR (r := some (a0 + 2)) cf3 flX3_19 (sq3_0 h0) (rq3_2 h0) (Or.inr ⟨_, rfl⟩) dX3_codeOf_22 ?_
        refine J_iload_n dX3_codeOf_25 rfl rfl ?_
        refine K_iald (sq3_2 h0) dX3_codeOf_26 ?_
        refine J_goto (tgt := 31) dX3_codeOf_27 (by decide) ?_
        exact J_ireturn rfl (Nat.le_refl _) (Nat.le_refl _) rfl dX3_codeOf_31
theorem dX3_orderWith_0 : decode cX3_orderWith 0 = .ok (.iconst 0, 1) := by decide +kernel
theorem dX3_orderWith_1 : decode cX3_orderWith 1 = .ok (.istore_n 3, 1) := by decide +kernel
theorem dX3_orderWith_2 : decode cX3_orderWith 2 = .ok (.iload_n 3, 1) := by decide +kernel
theorem dX3_orderWith_3 : decode cX3_orderWith 3 = .ok (.aload_n 0, 1) := by decide +kernel
theorem dX3_orderWith_4 : decode cX3_orderWith 4 = .ok (.getfield 9, 3) := by decide +kernel
theorem dX3_orderWith_7 : decode cX3_orderWith 7 = .ok (.if_icmp .ge 29, 3) := by decide +kernel
theorem dX3_orderWith_10 : decode cX3_orderWith 10 = .ok (.aload_n 0, 1) := by decide +kernel
theorem dX3_orderWith_11 : decode cX3_orderWith 11 = .ok (.iload_n 3, 1) := by decide +kernel
theorem dX3_orderWith_12 : decode cX3_orderWith 12 = .ok (.invokevirtual 72, 3) := by decide +kernel
theorem dX3_orderWith_15 : decode cX3_orderWith 15 = .ok (.iload_n 2, 1) := by decide +kernel
theorem dX3_orderWith_16 : decode cX3_orderWith 16 = .ok (.if_icmp .ne 14, 3) := by decide +kernel
theorem dX3_orderWith_19 : decode cX3_orderWith 19 = .ok (.aload_n 0, 1) := by decide +kernel
theorem dX3_orderWith_20 : decode cX3_orderWith 20 = .ok (.iload_n 3, 1) := by decide +kernel
theorem dX3_orderWith_21 : decode cX3_orderWith 21 = .ok (.invokevirtual 84, 3) := by decide +kernel
theorem dX3_orderWith_24 : decode cX3_orderWith 24 = .ok (.iload_n 1, 1) := by decide +kernel
theorem dX3_orderWith_25 : decode cX3_orderWith 25 = .ok (.if_icmp .ne 5, 3) := by decide +kernel
theorem dX3_orderWith_28 : decode cX3_orderWith 28 = .ok (.iload_n 3, 1) := by decide +kernel
theorem dX3_orderWith_29 : decode cX3_orderWith 29 = .ok (.ireturn, 1) := by decide +kernel
theorem dX3_orderWith_30 : decode cX3_orderWith 30 = .ok (.iinc 3 1, 3) := by decide +kernel
theorem dX3_orderWith_33 : decode cX3_orderWith 33 = .ok (.goto (-31), 3) := by decide +kernel
theorem dX3_orderWith_36 : decode cX3_orderWith 36 = .ok (.iconst (-1), 1) := by decide +kernel
theorem dX3_orderWith_37 : decode cX3_orderWith 37 = .ok (.ireturn, 1) := by decide +kernel
set_option maxRecDepth 100000 in
set_option maxHeartbeats 4000000 in
theorem t3_orderWith_h2 (G : Gm) (t : Nat) (N : Nat) (a0 : Nat) (x1 : Int32) (x2 : Int32) (h0 : a0 ∈ ad3)   : ∀ (n : Nat) (x3 : Int32) (S : St), J G YX3_orderWith 2 0 0 (fI t) 0 0 2 [some (vR (some a0)), some (vI x1), some (vI x2), some (vI x3)] [] (MM t S) (f3_orderWith_h2 N a0 x1 x2 n x3 S) := by
  intro n
  induction n with
  | zero => intro x3 S; exact J_none
  | succ n ih =>
    intro x3 S
    rw [f3_orderWith_h2]
    refine J_iload_n dX3_orderWith_2 rfl rfl ?_
    refine J_aload_n dX3_orderWith_3 rfl rfl ?_
    refine K_getI cf3 flX3_9 (sq3_0 h0) (Or.inl rfl) dX3_orderWith_4 ?_
    refine J_icmp_ge (tgt := 36) dX3_orderWith_7 (by decide) (fun z1 => ?_) (fun z1 => ?_)
    · refine J_iconst (v := (-1)) dX3_orderWith_36 (by decide) ?_
      exact J_ireturn rfl (Nat.le_refl _) (Nat.le_refl _) rfl dX3_orderWith_37
    · refine J_aload_n dX3_orderWith_10 rfl rfl ?_
      refine J_iload_n dX3_orderWith_11 rfl rfl ?_
      refine K_callV_i (As := [vI x3]) mcX3_bitsOf mlX3_72 rfl (by decide) (sq3_0 h0) (ct3_bitsOf G t a0 x3 h0 S) rfl rfl (Nat.le_of_ble_eq_true rfl) (by decide) (Nat.le_of_ble_eq_true rfl) dX3_orderWith_12 (fun q2 S3 => ?_)
      refine J_iload_n dX3_orderWith_15 rfl rfl ?_
      refine J_icmp_ne (tgt := 30) dX3_orderWith_16 (by decide) (fun z4 => ?_) (fun z4 => ?_)
      · refine J_aload_n dX3_orderWith_19 rfl rfl ?_
        refine J_iload_n dX3_orderWith_20 rfl rfl ?_
        refine K_callV_i (As := [vI x3]) mcX3_codeOf mlX3_84 rfl (by decide) (sq3_0 h0) (ct3_codeOf G t a0 x3 h0 S3) rfl rfl (Nat.le_of_ble_eq_true rfl) (by decide) (Nat.le_of_ble_eq_true rfl) dX3_orderWith_21 (fun q5 S6 => ?_)
        refine J_iload_n dX3_orderWith_24 rfl rfl ?_
        refine J_icmp_ne (tgt := 30) dX3_orderWith_25 (by decide) (fun z7 => ?_) (fun z7 => ?_)
        · refine J_iload_n dX3_orderWith_28 rfl rfl ?_
          exact J_ireturn rfl (Nat.le_refl _) (Nat.le_refl _) rfl dX3_orderWith_29
        · refine J_iinc (v := x3 + nI 1) [some (vR (some a0)), some (vI x1), some (vI x2), some (vI (x3 + nI 1))] dX3_orderWith_30 rfl rfl (Nat.le_of_ble_eq_true rfl) rfl rfl ?_
          refine J_goto (tgt := 2) dX3_orderWith_33 (by decide) ?_
          exact J_sb (ih (x3 + nI 1) S6) (And.intro rfl (And.intro rfl (And.intro rfl (And.intro rfl (trivial)))))
      · refine J_iinc (v := x3 + nI 1) [some (vR (some a0)), some (vI x1), some (vI x2), some (vI (x3 + nI 1))] dX3_orderWith_30 rfl rfl (Nat.le_of_ble_eq_true rfl) rfl rfl ?_
        refine J_goto (tgt := 2) dX3_orderWith_33 (by decide) ?_
        exact J_sb (ih (x3 + nI 1) S3) (And.intro rfl (And.intro rfl (And.intro rfl (And.intro rfl (trivial)))))
set_option maxRecDepth 100000 in
set_option maxHeartbeats 4000000 in
theorem ct3_orderWith (G : Gm) (t : Nat) (N : Nat) (a0 : Nat) (x1 : Int32) (x2 : Int32) (h0 : a0 ∈ ad3) (S : St) : Ct G YX3_orderWith yX3_orderWith 2 0 0 (fI t) (f3_orderWith N a0 x1 x2 S) [vR (some a0), vI x1, vI x2] (MM t S) := by
  refine Ct_of_J [some (vR (some a0)), some (vI x1), some (vI x2), none] (by decide) rfl (fun h => by cases h) (Nat.le_of_ble_eq_true rfl) (And.intro rfl (And.intro rfl (And.intro rfl (trivial)))) ?_
  unfold f3_orderWith
  refine J_iconst (v := nI 0) dX3_orderWith_0 (by decide) ?_
  refine J_istore_n [some (vR (some a0)), some (vI x1), some (vI x2), some (vI (nI 0))] dX3_orderWith_1 rfl (Nat.le_of_ble_eq_true rfl) rfl rfl ?_
  exact J_sb (t3_orderWith_h2 G t N a0 x1 x2 h0 N (nI 0) S) (And.intro rfl (And.intro rfl (And.intro rfl (And.intro rfl (trivial)))))
theorem dX3_writtenLength_0 : decode cX3_writtenLength 0 = .ok (.iload_n 1, 1) := by decide +kernel
theorem dX3_writtenLength_1 : decode cX3_writtenLength 1 = .ok (.bipush 8, 2) := by decide +kernel
theorem dX3_writtenLength_3 : decode cX3_writtenLength 3 = .ok (.isub, 1) := by decide +kernel
theorem dX3_writtenLength_4 : decode cX3_writtenLength 4 = .ok (.istore_n 2, 1) := by decide +kernel
theorem dX3_writtenLength_5 : decode cX3_writtenLength 5 = .ok (.iload_n 2, 1) := by decide +kernel
theorem dX3_writtenLength_6 : decode cX3_writtenLength 6 = .ok (.ifCond .lt 17, 3) := by decide +kernel
theorem dX3_writtenLength_9 : decode cX3_writtenLength 9 = .ok (.iload_n 2, 1) := by decide +kernel
theorem dX3_writtenLength_10 : decode cX3_writtenLength 10 = .ok (.iconst 4, 1) := by decide +kernel
theorem dX3_writtenLength_11 : decode cX3_writtenLength 11 = .ok (.if_icmp .ge 12, 3) := by decide +kernel
theorem dX3_writtenLength_14 : decode cX3_writtenLength 14 = .ok (.aload_n 0, 1) := by decide +kernel
theorem dX3_writtenLength_15 : decode cX3_writtenLength 15 = .ok (.getfield 30, 3) := by decide +kernel
theorem dX3_writtenLength_18 : decode cX3_writtenLength 18 = .ok (.iload_n 2, 1) := by decide +kernel
theorem dX3_writtenLength_19 : decode cX3_writtenLength 19 = .ok (.iaload, 1) := by decide +kernel
theorem dX3_writtenLength_20 : decode cX3_writtenLength 20 = .ok (.goto 4, 3) := by decide +kernel
theorem dX3_writtenLength_23 : decode cX3_writtenLength 23 = .ok (.iconst 1, 1) := by decide +kernel
theorem dX3_writtenLength_24 : decode cX3_writtenLength 24 = .ok (.ireturn, 1) := by decide +kernel
set_option maxRecDepth 100000 in
set_option maxHeartbeats 4000000 in
theorem ct3_writtenLength (G : Gm) (t : Nat)  (a0 : Nat) (x1 : Int32) (h0 : a0 ∈ ad3) (S : St) : Ct G YX3_writtenLength yX3_writtenLength 1 0 0 (fI t) (f3_writtenLength a0 x1 S) [vR (some a0), vI x1] (MM t S) := by
  refine Ct_of_J [some (vR (some a0)), some (vI x1), none] (by decide) rfl (fun h => by cases h) (Nat.le_of_ble_eq_true rfl) (And.intro rfl (And.intro rfl (trivial))) ?_
  unfold f3_writtenLength
  refine J_iload_n dX3_writtenLength_0 rfl rfl ?_
  refine J_bipush (v := nI 8) dX3_writtenLength_1 (by decide) ?_
  refine J_isub dX3_writtenLength_3 ?_
  refine J_ltI (fun v1 _ => ?_)
  refine J_istore_n [some (vR (some a0)), some (vI x1), some (vI v1)] dX3_writtenLength_4 rfl (Nat.le_of_ble_eq_true rfl) rfl rfl ?_
  refine J_iload_n dX3_writtenLength_5 rfl rfl ?_
  refine J_if_lt (tgt := 23) dX3_writtenLength_6 (by decide) (fun z2 => ?_) (fun z2 => ?_)
  · refine J_iconst (v := nI 1) dX3_writtenLength_23 (by decide) ?_
    exact J_ireturn rfl (Nat.le_refl _) (Nat.le_refl _) rfl dX3_writtenLength_24
  · refine J_iload_n dX3_writtenLength_9 rfl rfl ?_
    refine J_iconst (v := nI 4) dX3_writtenLength_10 (by decide) ?_
    refine J_icmp_ge (tgt := 23) dX3_writtenLength_11 (by decide) (fun z3 => ?_) (fun z3 => ?_)
    · refine J_iconst (v := nI 1) dX3_writtenLength_23 (by decide) ?_
      exact J_ireturn rfl (Nat.le_refl _) (Nat.le_refl _) rfl dX3_writtenLength_24
    · refine J_aload_n dX3_writtenLength_14 rfl rfl ?_
      refine K_getR (r := some (a0 + 9)) cf3 flX3_30 (sq3_0 h0) (rq3_5 h0) (Or.inr ⟨_, rfl⟩) dX3_writtenLength_15 ?_
      refine J_iload_n dX3_writtenLength_18 rfl rfl ?_
      refine K_iald (sq3_9 h0) dX3_writtenLength_19 ?_
      refine J_goto (tgt := 24) dX3_writtenLength_20 (by decide) ?_
      exact J_ireturn rfl (Nat.le_refl _) (Nat.le_refl _) rfl dX3_writtenLength_24
theorem dX3_written_0 : decode cX3_written 0 = .ok (.iload_n 1, 1) := by decide +kernel
theorem dX3_written_1 : decode cX3_written 1 = .ok (.bipush 8, 2) := by decide +kernel
theorem dX3_written_3 : decode cX3_written 3 = .ok (.isub, 1) := by decide +kernel
theorem dX3_written_4 : decode cX3_written 4 = .ok (.istore_n 3, 1) := by decide +kernel
theorem dX3_written_5 : decode cX3_written 5 = .ok (.iload_n 3, 1) := by decide +kernel
theorem dX3_written_6 : decode cX3_written 6 = .ok (.ifCond .lt 8, 3) := by decide +kernel
theorem dX3_written_9 : decode cX3_written 9 = .ok (.iload_n 3, 1) := by decide +kernel
theorem dX3_written_10 : decode cX3_written 10 = .ok (.iconst 4, 1) := by decide +kernel
theorem dX3_written_11 : decode cX3_written 11 = .ok (.if_icmp .lt 5, 3) := by decide +kernel
theorem dX3_written_14 : decode cX3_written 14 = .ok (.iload_n 1, 1) := by decide +kernel
theorem dX3_written_15 : decode cX3_written 15 = .ok (.ireturn, 1) := by decide +kernel
theorem dX3_written_16 : decode cX3_written 16 = .ok (.iload_n 2, 1) := by decide +kernel
theorem dX3_written_17 : decode cX3_written 17 = .ok (.ifCond .lt 19, 3) := by decide +kernel
theorem dX3_written_20 : decode cX3_written 20 = .ok (.iload_n 2, 1) := by decide +kernel
theorem dX3_written_21 : decode cX3_written 21 = .ok (.iconst 4, 1) := by decide +kernel
theorem dX3_written_22 : decode cX3_written 22 = .ok (.if_icmp .ge 14, 3) := by decide +kernel
theorem dX3_written_25 : decode cX3_written 25 = .ok (.aload_n 0, 1) := by decide +kernel
theorem dX3_written_26 : decode cX3_written 26 = .ok (.getfield 27, 3) := by decide +kernel
theorem dX3_written_29 : decode cX3_written 29 = .ok (.iload_n 3, 1) := by decide +kernel
theorem dX3_written_30 : decode cX3_written 30 = .ok (.aaload, 1) := by decide +kernel
theorem dX3_written_31 : decode cX3_written 31 = .ok (.iload_n 2, 1) := by decide +kernel
theorem dX3_written_32 : decode cX3_written 32 = .ok (.iaload, 1) := by decide +kernel
theorem dX3_written_33 : decode cX3_written 33 = .ok (.goto 4, 3) := by decide +kernel
theorem dX3_written_36 : decode cX3_written 36 = .ok (.iconst 0, 1) := by decide +kernel
theorem dX3_written_37 : decode cX3_written 37 = .ok (.ireturn, 1) := by decide +kernel
set_option maxRecDepth 100000 in
set_option maxHeartbeats 4000000 in
theorem ct3_written (G : Gm) (t : Nat)  (a0 : Nat) (x1 : Int32) (x2 : Int32) (h0 : a0 ∈ ad3) (S : St) : Ct G YX3_written yX3_written 1 0 0 (fI t) (f3_written a0 x1 x2 S) [vR (some a0), vI x1, vI x2] (MM t S) := by
  refine Ct_of_J [some (vR (some a0)), some (vI x1), some (vI x2), none] (by decide) rfl (fun h => by cases h) (Nat.le_of_ble_eq_true rfl) (And.intro rfl (And.intro rfl (And.intro rfl (trivial)))) ?_
  unfold f3_written
  refine J_iload_n dX3_written_0 rfl rfl ?_
  refine J_bipush (v := nI 8) dX3_written_1 (by decide) ?_
  refine J_isub dX3_written_3 ?_
  refine J_ltI (fun v1 _ => ?_)
  refine J_istore_n [some (vR (some a0)), some (vI x1), some (vI x2), some (vI v1)] dX3_written_4 rfl (Nat.le_of_ble_eq_true rfl) rfl rfl ?_
  refine J_iload_n dX3_written_5 rfl rfl ?_
  refine J_if_lt (tgt := 14) dX3_written_6 (by decide) (fun z2 => ?_) (fun z2 => ?_)
  · refine J_iload_n dX3_written_14 rfl rfl ?_
    exact J_ireturn rfl (Nat.le_refl _) (Nat.le_refl _) rfl dX3_written_15
  · refine J_iload_n dX3_written_9 rfl rfl ?_
    refine J_iconst (v := nI 4) dX3_written_10 (by decide) ?_
    refine J_icmp_lt (tgt := 16) dX3_written_11 (by decide) (fun z3 => ?_) (fun z3 => ?_)
    · refine J_iload_n dX3_written_16 rfl rfl ?_
      refine J_if_lt (tgt := 36) dX3_written_17 (by decide) (fun z4 => ?_) (fun z4 => ?_)
      · refine J_iconst (v := nI 0) dX3_written_36 (by decide) ?_
        exact J_ireturn rfl (Nat.le_refl _) (Nat.le_refl _) rfl dX3_written_37
      · refine J_iload_n dX3_written_20 rfl rfl ?_
        refine J_iconst (v := nI 4) dX3_written_21 (by decide) ?_
        refine J_icmp_ge (tgt := 36) dX3_written_22 (by decide) (fun z5 => ?_) (fun z5 => ?_)
        · refine J_iconst (v := nI 0) dX3_written_36 (by decide) ?_
          exact J_ireturn rfl (Nat.le_refl _) (Nat.le_refl _) rfl dX3_written_37
        · refine J_aload_n dX3_written_25 rfl rfl ?_
          refine K_getR (r := some (a0 + 4)) cf3 flX3_27 (sq3_0 h0) (rq3_4 h0) (Or.inr ⟨_, rfl⟩) dX3_written_26 ?_
          refine J_iload_n dX3_written_29 rfl rfl ?_
          refine K_aald (f := fun j => some (a0 + 5 + j)) (sq3_4 h0) (by decide) (bq3_4 h0) dX3_written_30 (fun i6 => ?_)
          refine J_iload_n dX3_written_31 rfl rfl ?_
          refine K_iald (bs3_4 h0 i6) dX3_written_32 ?_
          refine J_goto (tgt := 37) dX3_written_33 (by decide) ?_
          exact J_ireturn rfl (Nat.le_refl _) (Nat.le_refl _) rfl dX3_written_37
    · refine J_iload_n dX3_written_14 rfl rfl ?_
      exact J_ireturn rfl (Nat.le_refl _) (Nat.le_refl _) rfl dX3_written_15
theorem dX3_sizeOf_0 : decode cX3_sizeOf 0 = .ok (.aload_n 1, 1) := by decide +kernel
theorem dX3_sizeOf_1 : decode cX3_sizeOf 1 = .ok (.invokevirtual 87, 3) := by decide +kernel
theorem dX3_sizeOf_4 : decode cX3_sizeOf 4 = .ok (.ifCond .ne 6, 3) := by decide +kernel
theorem dX3_sizeOf_7 : decode cX3_sizeOf 7 = .ok (.bipush (-5), 2) := by decide +kernel
theorem dX3_sizeOf_9 : decode cX3_sizeOf 9 = .ok (.ireturn, 1) := by decide +kernel
theorem dX3_sizeOf_10 : decode cX3_sizeOf 10 = .ok (.iconst 0, 1) := by decide +kernel
theorem dX3_sizeOf_11 : decode cX3_sizeOf 11 = .ok (.istore_n 2, 1) := by decide +kernel
theorem dX3_sizeOf_12 : decode cX3_sizeOf 12 = .ok (.iconst 0, 1) := by decide +kernel
theorem dX3_sizeOf_13 : decode cX3_sizeOf 13 = .ok (.istore_n 3, 1) := by decide +kernel
theorem dX3_sizeOf_14 : decode cX3_sizeOf 14 = .ok (.iload_n 3, 1) := by decide +kernel
theorem dX3_sizeOf_15 : decode cX3_sizeOf 15 = .ok (.aload_n 1, 1) := by decide +kernel
theorem dX3_sizeOf_16 : decode cX3_sizeOf 16 = .ok (.invokevirtual 91, 3) := by decide +kernel
theorem dX3_sizeOf_19 : decode cX3_sizeOf 19 = .ok (.if_icmp .ge 36, 3) := by decide +kernel
theorem dX3_sizeOf_22 : decode cX3_sizeOf 22 = .ok (.aload_n 0, 1) := by decide +kernel
theorem dX3_sizeOf_23 : decode cX3_sizeOf 23 = .ok (.aload_n 1, 1) := by decide +kernel
theorem dX3_sizeOf_24 : decode cX3_sizeOf 24 = .ok (.iload_n 3, 1) := by decide +kernel
theorem dX3_sizeOf_25 : decode cX3_sizeOf 25 = .ok (.invokevirtual 53, 3) := by decide +kernel
theorem dX3_sizeOf_28 : decode cX3_sizeOf 28 = .ok (.invokevirtual 94, 3) := by decide +kernel
theorem dX3_sizeOf_31 : decode cX3_sizeOf 31 = .ok (.ifCond .ne 6, 3) := by decide +kernel
theorem dX3_sizeOf_34 : decode cX3_sizeOf 34 = .ok (.bipush (-5), 2) := by decide +kernel
theorem dX3_sizeOf_36 : decode cX3_sizeOf 36 = .ok (.ireturn, 1) := by decide +kernel
theorem dX3_sizeOf_37 : decode cX3_sizeOf 37 = .ok (.iload_n 2, 1) := by decide +kernel
theorem dX3_sizeOf_38 : decode cX3_sizeOf 38 = .ok (.aload_n 0, 1) := by decide +kernel
theorem dX3_sizeOf_39 : decode cX3_sizeOf 39 = .ok (.aload_n 1, 1) := by decide +kernel
theorem dX3_sizeOf_40 : decode cX3_sizeOf 40 = .ok (.iload_n 3, 1) := by decide +kernel
theorem dX3_sizeOf_41 : decode cX3_sizeOf 41 = .ok (.invokevirtual 53, 3) := by decide +kernel
theorem dX3_sizeOf_44 : decode cX3_sizeOf 44 = .ok (.invokevirtual 72, 3) := by decide +kernel
theorem dX3_sizeOf_47 : decode cX3_sizeOf 47 = .ok (.iadd, 1) := by decide +kernel
theorem dX3_sizeOf_48 : decode cX3_sizeOf 48 = .ok (.istore_n 2, 1) := by decide +kernel
theorem dX3_sizeOf_49 : decode cX3_sizeOf 49 = .ok (.iinc 3 1, 3) := by decide +kernel
theorem dX3_sizeOf_52 : decode cX3_sizeOf 52 = .ok (.goto (-38), 3) := by decide +kernel
theorem dX3_sizeOf_55 : decode cX3_sizeOf 55 = .ok (.iload_n 2, 1) := by decide +kernel
theorem dX3_sizeOf_56 : decode cX3_sizeOf 56 = .ok (.ireturn, 1) := by decide +kernel
set_option maxRecDepth 100000 in
set_option maxHeartbeats 4000000 in
theorem t3_sizeOf_h14 (G : Gm) (t : Nat) (N : Nat) (a0 : Nat) (a1 : Nat) (h0 : a0 ∈ ad3) (h1 : a1 ∈ ad6)   : ∀ (n : Nat) (x2 : Int32) (x3 : Int32) (S : St), J G YX3_sizeOf 3 0 0 (fI t) 0 0 14 [some (vR (some a0)), some (vR (some a1)), some (vI x2), some (vI x3)] [] (MM t S) (f3_sizeOf_h14 N a0 a1 n x2 x3 S) := by
  intro n
  induction n with
  | zero => intro x2 x3 S; exact J_none
  | succ n ih =>
    intro x2 x3 S
    rw [f3_sizeOf_h14]
    refine J_iload_n dX3_sizeOf_14 rfl rfl ?_
    refine J_aload_n dX3_sizeOf_15 rfl rfl ?_
    refine K_callV_i (As := []) mcX6_length mlX3_91 rfl (by decide) (sq6_0 h1) (ct6_length G t a1 h1 S) rfl rfl (Nat.le_of_ble_eq_true rfl) (by decide) (Nat.le_of_ble_eq_true rfl) dX3_sizeOf_16 (fun q1 S2 => ?_)
    refine J_icmp_ge (tgt := 55) dX3_sizeOf_19 (by decide) (fun z3 => ?_) (fun z3 => ?_)
    · refine J_iload_n dX3_sizeOf_55 rfl rfl ?_
      exact J_ireturn rfl (Nat.le_refl _) (Nat.le_refl _) rfl dX3_sizeOf_56
    · refine J_aload_n dX3_sizeOf_22 rfl rfl ?_
      refine J_aload_n dX3_sizeOf_23 rfl rfl ?_
      refine J_iload_n dX3_sizeOf_24 rfl rfl ?_
      refine K_callV_i (As := [vI x3]) mcX6_orderAt mlX3_53 rfl (by decide) (sq6_0 h1) (ct6_orderAt G t a1 x3 h1 S2) rfl rfl (Nat.le_of_ble_eq_true rfl) (by decide) (Nat.le_of_ble_eq_true rfl) dX3_sizeOf_25 (fun q4 S5 => ?_)
      refine K_callV_i (As := [vI q4]) mcX3_has mlX3_94 rfl (by decide) (sq3_0 h0) (ct3_has G t a0 q4 h0 S5) rfl rfl (Nat.le_of_ble_eq_true rfl) (by decide) (Nat.le_of_ble_eq_true rfl) dX3_sizeOf_28 (fun q6 S7 => ?_)
      refine J_if_ne (tgt := 37) dX3_sizeOf_31 (by decide) (fun z8 => ?_) (fun z8 => ?_)
      · refine J_bipush (v := (-5)) dX3_sizeOf_34 (by decide) ?_
        exact J_ireturn rfl (Nat.le_refl _) (Nat.le_refl _) rfl dX3_sizeOf_36
      · refine J_iload_n dX3_sizeOf_37 rfl rfl ?_
        refine J_aload_n dX3_sizeOf_38 rfl rfl ?_
        refine J_aload_n dX3_sizeOf_39 rfl rfl ?_
        refine J_iload_n dX3_sizeOf_40 rfl rfl ?_
        refine K_callV_i (As := [vI x3]) mcX6_orderAt mlX3_53 rfl (by decide) (sq6_0 h1) (ct6_orderAt G t a1 x3 h1 S7) rfl rfl (Nat.le_of_ble_eq_true rfl) (by decide) (Nat.le_of_ble_eq_true rfl) dX3_sizeOf_41 (fun q9 S10 => ?_)
        refine K_callV_i (As := [vI q9]) mcX3_bitsOf mlX3_72 rfl (by decide) (sq3_0 h0) (ct3_bitsOf G t a0 q9 h0 S10) rfl rfl (Nat.le_of_ble_eq_true rfl) (by decide) (Nat.le_of_ble_eq_true rfl) dX3_sizeOf_44 (fun q11 S12 => ?_)
        refine J_iadd dX3_sizeOf_47 ?_
        refine J_ltI (fun v13 _ => ?_)
        refine J_istore_n [some (vR (some a0)), some (vR (some a1)), some (vI v13), some (vI x3)] dX3_sizeOf_48 rfl (Nat.le_of_ble_eq_true rfl) rfl rfl ?_
        refine J_iinc (v := x3 + nI 1) [some (vR (some a0)), some (vR (some a1)), some (vI v13), some (vI (x3 + nI 1))] dX3_sizeOf_49 rfl rfl (Nat.le_of_ble_eq_true rfl) rfl rfl ?_
        refine J_goto (tgt := 14) dX3_sizeOf_52 (by decide) ?_
        exact J_sb (ih v13 (x3 + nI 1) S12) (And.intro rfl (And.intro rfl (And.intro rfl (And.intro rfl (trivial)))))
set_option maxRecDepth 100000 in
set_option maxHeartbeats 4000000 in
theorem ct3_sizeOf (G : Gm) (t : Nat) (N : Nat) (a0 : Nat) (a1 : Nat) (h0 : a0 ∈ ad3) (h1 : a1 ∈ ad6) (S : St) : Ct G YX3_sizeOf yX3_sizeOf 3 0 0 (fI t) (f3_sizeOf N a0 a1 S) [vR (some a0), vR (some a1)] (MM t S) := by
  refine Ct_of_J [some (vR (some a0)), some (vR (some a1)), none, none] (by decide) rfl (fun h => by cases h) (Nat.le_of_ble_eq_true rfl) (And.intro rfl (And.intro rfl (trivial))) ?_
  unfold f3_sizeOf
  refine J_aload_n dX3_sizeOf_0 rfl rfl ?_
  refine K_callV_i (As := []) mcX6_isClosed mlX3_87 rfl (by decide) (sq6_0 h1) (ct6_isClosed G t a1 h1 S) rfl rfl (Nat.le_of_ble_eq_true rfl) (by decide) (Nat.le_of_ble_eq_true rfl) dX3_sizeOf_1 (fun q1 S2 => ?_)
  refine J_if_ne (tgt := 10) dX3_sizeOf_4 (by decide) (fun z3 => ?_) (fun z3 => ?_)
  · refine J_bipush (v := (-5)) dX3_sizeOf_7 (by decide) ?_
    exact J_ireturn rfl (Nat.le_refl _) (Nat.le_refl _) rfl dX3_sizeOf_9
  · refine J_iconst (v := nI 0) dX3_sizeOf_10 (by decide) ?_
    refine J_istore_n [some (vR (some a0)), some (vR (some a1)), some (vI (nI 0)), none] dX3_sizeOf_11 rfl (Nat.le_of_ble_eq_true rfl) rfl rfl ?_
    refine J_iconst (v := nI 0) dX3_sizeOf_12 (by decide) ?_
    refine J_istore_n [some (vR (some a0)), some (vR (some a1)), some (vI (nI 0)), some (vI (nI 0))] dX3_sizeOf_13 rfl (Nat.le_of_ble_eq_true rfl) rfl rfl ?_
    exact J_sb (t3_sizeOf_h14 G t N a0 a1 h0 h1 N (nI 0) (nI 0) S2) (And.intro rfl (And.intro rfl (And.intro rfl (And.intro rfl (trivial)))))
theorem dX3_rankOf_0 : decode cX3_rankOf 0 = .ok (.iconst 0, 1) := by decide +kernel
theorem dX3_rankOf_1 : decode cX3_rankOf 1 = .ok (.istore_n 2, 1) := by decide +kernel
theorem dX3_rankOf_2 : decode cX3_rankOf 2 = .ok (.iload_n 2, 1) := by decide +kernel
theorem dX3_rankOf_3 : decode cX3_rankOf 3 = .ok (.aload_n 0, 1) := by decide +kernel
theorem dX3_rankOf_4 : decode cX3_rankOf 4 = .ok (.getfield 9, 3) := by decide +kernel
theorem dX3_rankOf_7 : decode cX3_rankOf 7 = .ok (.if_icmp .ge 30, 3) := by decide +kernel
theorem dX3_rankOf_10 : decode cX3_rankOf 10 = .ok (.iload_n 2, 1) := by decide +kernel
theorem dX3_rankOf_11 : decode cX3_rankOf 11 = .ok (.aload_n 0, 1) := by decide +kernel
theorem dX3_rankOf_12 : decode cX3_rankOf 12 = .ok (.getfield 22, 3) := by decide +kernel
theorem dX3_rankOf_15 : decode cX3_rankOf 15 = .ok (.arraylength, 1) := by decide +kernel
theorem dX3_rankOf_16 : decode cX3_rankOf 16 = .ok (.if_icmp .ge 21, 3) := by decide +kernel
theorem dX3_rankOf_19 : decode cX3_rankOf 19 = .ok (.aload_n 0, 1) := by decide +kernel
theorem dX3_rankOf_20 : decode cX3_rankOf 20 = .ok (.getfield 22, 3) := by decide +kernel
theorem dX3_rankOf_23 : decode cX3_rankOf 23 = .ok (.iload_n 2, 1) := by decide +kernel
theorem dX3_rankOf_24 : decode cX3_rankOf 24 = .ok (.iaload, 1) := by decide +kernel
theorem dX3_rankOf_25 : decode cX3_rankOf 25 = .ok (.iload_n 1, 1) := by decide +kernel
theorem dX3_rankOf_26 : decode cX3_rankOf 26 = .ok (.if_icmp .ne 5, 3) := by decide +kernel
theorem dX3_rankOf_29 : decode cX3_rankOf 29 = .ok (.iload_n 2, 1) := by decide +kernel
theorem dX3_rankOf_30 : decode cX3_rankOf 30 = .ok (.ireturn, 1) := by decide +kernel
theorem dX3_rankOf_31 : decode cX3_rankOf 31 = .ok (.iinc 2 1, 3) := by decide +kernel
theorem dX3_rankOf_34 : decode cX3_rankOf 34 = .ok (.goto (-32), 3) := by decide +kernel
theorem dX3_rankOf_37 : decode cX3_rankOf 37 = .ok (.aload_n 0, 1) := by decide +kernel
theorem dX3_rankOf_38 : decode cX3_rankOf 38 = .ok (.getfield 9, 3) := by decide +kernel
theorem dX3_rankOf_41 : decode cX3_rankOf 41 = .ok (.ireturn, 1) := by decide +kernel
set_option maxRecDepth 100000 in
set_option maxHeartbeats 4000000 in
theorem t3_rankOf_j37 (G : Gm) (t : Nat) (N : Nat) (a0 : Nat) (h0 : a0 ∈ ad3)   : ∀  (S : St), J G YX3_rankOf 1 0 0 (fI t) 0 0 37 [some (vR (some a0)), none, none] [] (MM t S) (f3_rankOf_j37 N a0 S) := by
  intro S
  unfold f3_rankOf_j37
  refine J_aload_n dX3_rankOf_37 rfl rfl ?_
  refine K_getI cf3 flX3_9 (sq3_0 h0) (Or.inl rfl) dX3_rankOf_38 ?_
  exact J_ireturn rfl (Nat.le_refl _) (Nat.le_refl _) rfl dX3_rankOf_41
set_option maxRecDepth 100000 in
set_option maxHeartbeats 4000000 in
theorem t3_rankOf_h2 (G : Gm) (t : Nat) (N : Nat) (a0 : Nat) (x1 : Int32) (h0 : a0 ∈ ad3)   : ∀ (n : Nat) (x2 : Int32) (S : St), J G YX3_rankOf 1 0 0 (fI t) 0 0 2 [some (vR (some a0)), some (vI x1), some (vI x2)] [] (MM t S) (f3_rankOf_h2 N a0 x1 n x2 S) := by
  intro n
  induction n with
  | zero => intro x2 S; exact J_none
  | succ n ih =>
    intro x2 S
    rw [f3_rankOf_h2]
    refine J_iload_n dX3_rankOf_2 rfl rfl ?_
    refine J_aload_n dX3_rankOf_3 rfl rfl ?_
    refine K_getI cf3 flX3_9 (sq3_0 h0) (Or.inl rfl) dX3_rankOf_4 ?_
    refine J_icmp_ge (tgt := 37) dX3_rankOf_7 (by decide) (fun z1 => ?_) (fun z1 => ?_)
    · exact J_sb (t3_rankOf_j37 G t N a0 h0 S) (And.intro rfl (trivial))
    · refine J_iload_n dX3_rankOf_10 rfl rfl ?_
      refine J_aload_n dX3_rankOf_11 rfl rfl ?_
      refine K_getR (r := some (a0 + 3)) cf3 flX3_22 (sq3_0 h0) (rq3_3 h0) (Or.inr ⟨_, rfl⟩) dX3_rankOf_12 ?_
      refine K_alen (v := nI 12) (sq3_3 h0) (by decide) rfl dX3_rankOf_15 ?_
      refine J_icmp_ge (tgt := 37) dX3_rankOf_16 (by decide) (fun z2 => ?_) (fun z2 => ?_)
      · exact J_sb (t3_rankOf_j37 G t N a0 h0 S) (And.intro rfl (trivial))
      · refine J_aload_n dX3_rankOf_19 rfl rfl ?_
        refine K_getR (r := some (a0 + 3)) cf3 flX3_22 (sq3_0 h0) (rq3_3 h0) (Or.inr ⟨_, rfl⟩) dX3_rankOf_20 ?_
        refine J_iload_n dX3_rankOf_23 rfl rfl ?_
        refine K_iald (sq3_3 h0) dX3_rankOf_24 ?_
        refine J_iload_n dX3_rankOf_25 rfl rfl ?_
        refine J_icmp_ne (tgt := 31) dX3_rankOf_26 (by decide) (fun z3 => ?_) (fun z3 => ?_)
        · refine J_iload_n dX3_rankOf_29 rfl rfl ?_
          exact J_ireturn rfl (Nat.le_refl _) (Nat.le_refl _) rfl dX3_rankOf_30
        · refine J_iinc (v := x2 + nI 1) [some (vR (some a0)), some (vI x1), some (vI (x2 + nI 1))] dX3_rankOf_31 rfl rfl (Nat.le_of_ble_eq_true rfl) rfl rfl ?_
          refine J_goto (tgt := 2) dX3_rankOf_34 (by decide) ?_
          exact J_sb (ih (x2 + nI 1) S) (And.intro rfl (And.intro rfl (And.intro rfl (trivial))))
set_option maxRecDepth 100000 in
set_option maxHeartbeats 4000000 in
theorem ct3_rankOf (G : Gm) (t : Nat) (N : Nat) (a0 : Nat) (x1 : Int32) (h0 : a0 ∈ ad3) (S : St) : Ct G YX3_rankOf yX3_rankOf 1 0 0 (fI t) (f3_rankOf N a0 x1 S) [vR (some a0), vI x1] (MM t S) := by
  refine Ct_of_J [some (vR (some a0)), some (vI x1), none] (by decide) rfl (fun h => by cases h) (Nat.le_of_ble_eq_true rfl) (And.intro rfl (And.intro rfl (trivial))) ?_
  unfold f3_rankOf
  refine J_iconst (v := nI 0) dX3_rankOf_0 (by decide) ?_
  refine J_istore_n [some (vR (some a0)), some (vI x1), some (vI (nI 0))] dX3_rankOf_1 rfl (Nat.le_of_ble_eq_true rfl) rfl rfl ?_
  exact J_sb (t3_rankOf_h2 G t N a0 x1 h0 N (nI 0) S) (And.intro rfl (And.intro rfl (And.intro rfl (trivial))))
theorem dX3_firstThatFits_0 : decode cX3_firstThatFits 0 = .ok (.iload_n 1, 1) := by decide +kernel
theorem dX3_firstThatFits_1 : decode cX3_firstThatFits 1 = .ok (.iconst 0, 1) := by decide +kernel
theorem dX3_firstThatFits_2 : decode cX3_firstThatFits 2 = .ok (.invokestatic 126, 3) := by decide +kernel
theorem dX3_firstThatFits_5 : decode cX3_firstThatFits 5 = .ok (.istore 4, 2) := by decide +kernel
theorem dX3_firstThatFits_7 : decode cX3_firstThatFits 7 = .ok (.iload 4, 2) := by decide +kernel
theorem dX3_firstThatFits_9 : decode cX3_firstThatFits 9 = .ok (.aload_n 0, 1) := by decide +kernel
theorem dX3_firstThatFits_10 : decode cX3_firstThatFits 10 = .ok (.getfield 9, 3) := by decide +kernel
theorem dX3_firstThatFits_13 : decode cX3_firstThatFits 13 = .ok (.if_icmp .ge 77, 3) := by decide +kernel
theorem dX3_firstThatFits_16 : decode cX3_firstThatFits 16 = .ok (.iload 4, 2) := by decide +kernel
theorem dX3_firstThatFits_18 : decode cX3_firstThatFits 18 = .ok (.aload_n 0, 1) := by decide +kernel
theorem dX3_firstThatFits_19 : decode cX3_firstThatFits 19 = .ok (.getfield 22, 3) := by decide +kernel
theorem dX3_firstThatFits_22 : decode cX3_firstThatFits 22 = .ok (.arraylength, 1) := by decide +kernel
theorem dX3_firstThatFits_23 : decode cX3_firstThatFits 23 = .ok (.if_icmp .ge 67, 3) := by decide +kernel
theorem dX3_firstThatFits_26 : decode cX3_firstThatFits 26 = .ok (.aload_n 0, 1) := by decide +kernel
theorem dX3_firstThatFits_27 : decode cX3_firstThatFits 27 = .ok (.getfield 22, 3) := by decide +kernel
theorem dX3_firstThatFits_30 : decode cX3_firstThatFits 30 = .ok (.iload 4, 2) := by decide +kernel
theorem dX3_firstThatFits_32 : decode cX3_firstThatFits 32 = .ok (.iaload, 1) := by decide +kernel
theorem dX3_firstThatFits_33 : decode cX3_firstThatFits 33 = .ok (.istore 5, 2) := by decide +kernel
theorem dX3_firstThatFits_35 : decode cX3_firstThatFits 35 = .ok (.iload_n 2, 1) := by decide +kernel
theorem dX3_firstThatFits_36 : decode cX3_firstThatFits 36 = .ok (.aload_n 0, 1) := by decide +kernel
theorem dX3_firstThatFits_37 : decode cX3_firstThatFits 37 = .ok (.iload 5, 2) := by decide +kernel
theorem dX3_firstThatFits_39 : decode cX3_firstThatFits 39 = .ok (.invokevirtual 72, 3) := by decide +kernel
theorem dX3_firstThatFits_42 : decode cX3_firstThatFits 42 = .ok (.isub, 1) := by decide +kernel
theorem dX3_firstThatFits_43 : decode cX3_firstThatFits 43 = .ok (.istore 6, 2) := by decide +kernel
theorem dX3_firstThatFits_45 : decode cX3_firstThatFits 45 = .ok (.iload 5, 2) := by decide +kernel
theorem dX3_firstThatFits_47 : decode cX3_firstThatFits 47 = .ok (.ifCond .ne 18, 3) := by decide +kernel
theorem dX3_firstThatFits_50 : decode cX3_firstThatFits 50 = .ok (.iload 6, 2) := by decide +kernel
theorem dX3_firstThatFits_52 : decode cX3_firstThatFits 52 = .ok (.ifCond .ne 7, 3) := by decide +kernel
theorem dX3_firstThatFits_55 : decode cX3_firstThatFits 55 = .ok (.iconst 1, 1) := by decide +kernel
theorem dX3_firstThatFits_56 : decode cX3_firstThatFits 56 = .ok (.goto 17, 3) := by decide +kernel
theorem dX3_firstThatFits_59 : decode cX3_firstThatFits 59 = .ok (.sipush 1000, 3) := by decide +kernel
theorem dX3_firstThatFits_62 : decode cX3_firstThatFits 62 = .ok (.goto 11, 3) := by decide +kernel
theorem dX3_firstThatFits_65 : decode cX3_firstThatFits 65 = .ok (.iconst 1, 1) := by decide +kernel
theorem dX3_firstThatFits_66 : decode cX3_firstThatFits 66 = .ok (.aload_n 0, 1) := by decide +kernel
theorem dX3_firstThatFits_67 : decode cX3_firstThatFits 67 = .ok (.iload 6, 2) := by decide +kernel
theorem dX3_firstThatFits_69 : decode cX3_firstThatFits 69 = .ok (.invokevirtual 75, 3) := by decide +kernel
theorem dX3_firstThatFits_72 : decode cX3_firstThatFits 72 = .ok (.iadd, 1) := by decide +kernel
theorem dX3_firstThatFits_73 : decode cX3_firstThatFits 73 = .ok (.istore 7, 2) := by decide +kernel
theorem dX3_firstThatFits_75 : decode cX3_firstThatFits 75 = .ok (.iload 7, 2) := by decide +kernel
theorem dX3_firstThatFits_77 : decode cX3_firstThatFits 77 = .ok (.iload_n 3, 1) := by decide +kernel
theorem dX3_firstThatFits_78 : decode cX3_firstThatFits 78 = .ok (.if_icmp .gt 6, 3) := by decide +kernel
theorem dX3_firstThatFits_81 : decode cX3_firstThatFits 81 = .ok (.iload 5, 2) := by decide +kernel
theorem dX3_firstThatFits_83 : decode cX3_firstThatFits 83 = .ok (.ireturn, 1) := by decide +kernel
theorem dX3_firstThatFits_84 : decode cX3_firstThatFits 84 = .ok (.iinc 4 1, 3) := by decide +kernel
theorem dX3_firstThatFits_87 : decode cX3_firstThatFits 87 = .ok (.goto (-80), 3) := by decide +kernel
theorem dX3_firstThatFits_90 : decode cX3_firstThatFits 90 = .ok (.iconst (-1), 1) := by decide +kernel
theorem dX3_firstThatFits_91 : decode cX3_firstThatFits 91 = .ok (.ireturn, 1) := by decide +kernel
set_option maxRecDepth 100000 in
set_option maxHeartbeats 4000000 in
theorem t3_firstThatFits_j73 (G : Gm) (t : Nat) (N : Nat) (a0 : Nat) (x2 : Int32) (x3 : Int32) (x4 : Int32) (x5 : Int32) (h0 : a0 ∈ ad3) (k7 : Int32 → St → Option (Int32 × St)) (hk7 : ∀ (yx4 : Int32) (S : St), J G YX3_firstThatFits 2 0 0 (fI t) 0 0 7 [some (vR (some a0)), none, some (vI x2), some (vI x3), some (vI yx4), none, none, none] [] (MM t S) (k7 yx4 S)) : ∀ (xs0 : Int32) (S : St), J G YX3_firstThatFits 2 0 0 (fI t) 0 0 73 [some (vR (some a0)), none, some (vI x2), some (vI x3), some (vI x4), some (vI x5), none, none] [vI xs0] (MM t S) (f3_firstThatFits_j73 N a0 x2 x3 x4 x5 k7 xs0 S) := by
  intro xs0 S
  unfold f3_firstThatFits_j73
  refine J_istore [some (vR (some a0)), none, some (vI x2), some (vI x3), some (vI x4), some (vI x5), none, some (vI xs0)] dX3_firstThatFits_73 (Nat.le_of_ble_eq_true rfl) rfl rfl ?_
  refine J_iload dX3_firstThatFits_75 rfl ?_
  refine J_iload_n dX3_firstThatFits_77 rfl rfl ?_
  refine J_icmp_gt (tgt := 84) dX3_firstThatFits_78 (by decide) (fun z1 => ?_) (fun z1 => ?_)
  · refine J_iinc (v := x4 + nI 1) [some (vR (some a0)), none, some (vI x2), some (vI x3), some (vI (x4 + nI 1)), some (vI x5), none, some (vI xs0)] dX3_firstThatFits_84 rfl rfl (Nat.le_of_ble_eq_true rfl) rfl rfl ?_
    refine J_goto (tgt := 7) dX3_firstThatFits_87 (by decide) ?_
    exact J_sb (hk7 (x4 + nI 1) S) (And.intro rfl (And.intro rfl (And.intro rfl (And.intro rfl (trivial)))))
  · refine J_iload dX3_firstThatFits_81 rfl ?_
    exact J_ireturn rfl (Nat.le_refl _) (Nat.le_refl _) rfl dX3_firstThatFits_83
set_option maxRecDepth 100000 in
set_option maxHeartbeats 4000000 in
theorem t3_firstThatFits_h7 (G : Gm) (t : Nat) (N : Nat) (a0 : Nat) (x2 : Int32) (x3 : Int32) (h0 : a0 ∈ ad3)   : ∀ (n : Nat) (x4 : Int32) (S : St), J G YX3_firstThatFits 2 0 0 (fI t) 0 0 7 [some (vR (some a0)), none, some (vI x2), some (vI x3), some (vI x4), none, none, none] [] (MM t S) (f3_firstThatFits_h7 N a0 x2 x3 n x4 S) := by
  intro n
  induction n with
  | zero => intro x4 S; exact J_none
  | succ n ih =>
    intro x4 S
    rw [f3_firstThatFits_h7]
    refine J_iload dX3_firstThatFits_7 rfl ?_
    refine J_aload_n dX3_firstThatFits_9 rfl rfl ?_
    refine K_getI cf3 flX3_9 (sq3_0 h0) (Or.inl rfl) dX3_firstThatFits_10 ?_
    refine J_icmp_ge (tgt := 90) dX3_firstThatFits_13 (by decide) (fun z1 => ?_) (fun z1 => ?_)
    · refine J_iconst (v := (-1)) dX3_firstThatFits_90 (by decide) ?_
      exact J_ireturn rfl (Nat.le_refl _) (Nat.le_refl _) rfl dX3_firstThatFits_91
    · refine J_iload dX3_firstThatFits_16 rfl ?_
      refine J_aload_n dX3_firstThatFits_18 rfl rfl ?_
      refine K_getR (r := some (a0 + 3)) cf3 flX3_22 (sq3_0 h0) (rq3_3 h0) (Or.inr ⟨_, rfl⟩) dX3_firstThatFits_19 ?_
      refine K_alen (v := nI 12) (sq3_3 h0) (by decide) rfl dX3_firstThatFits_22 ?_
      refine J_icmp_ge (tgt := 90) dX3_firstThatFits_23 (by decide) (fun z2 => ?_) (fun z2 => ?_)
      · refine J_iconst (v := (-1)) dX3_firstThatFits_90 (by decide) ?_
        exact J_ireturn rfl (Nat.le_refl _) (Nat.le_refl _) rfl dX3_firstThatFits_91
      · refine J_aload_n dX3_firstThatFits_26 rfl rfl ?_
        refine K_getR (r := some (a0 + 3)) cf3 flX3_22 (sq3_0 h0) (rq3_3 h0) (Or.inr ⟨_, rfl⟩) dX3_firstThatFits_27 ?_
        refine J_iload dX3_firstThatFits_30 rfl ?_
        refine K_iald (sq3_3 h0) dX3_firstThatFits_32 ?_
        refine J_ltI (fun v3 _ => ?_)
        refine J_istore [some (vR (some a0)), none, some (vI x2), some (vI x3), some (vI x4), some (vI v3), none, none] dX3_firstThatFits_33 (Nat.le_of_ble_eq_true rfl) rfl rfl ?_
        refine J_iload_n dX3_firstThatFits_35 rfl rfl ?_
        refine J_aload_n dX3_firstThatFits_36 rfl rfl ?_
        refine J_iload dX3_firstThatFits_37 rfl ?_
        refine K_callV_i (As := [vI v3]) mcX3_bitsOf mlX3_72 rfl (by decide) (sq3_0 h0) (ct3_bitsOf G t a0 v3 h0 S) rfl rfl (Nat.le_of_ble_eq_true rfl) (by decide) (Nat.le_of_ble_eq_true rfl) dX3_firstThatFits_39 (fun q4 S5 => ?_)
        refine J_isub dX3_firstThatFits_42 ?_
        refine J_ltI (fun v6 _ => ?_)
        refine J_istore [some (vR (some a0)), none, some (vI x2), some (vI x3), some (vI x4), some (vI v3), some (vI v6), none] dX3_firstThatFits_43 (Nat.le_of_ble_eq_true rfl) rfl rfl ?_
        refine J_iload dX3_firstThatFits_45 rfl ?_
        refine J_if_ne (tgt := 65) dX3_firstThatFits_47 (by decide) (fun z7 => ?_) (fun z7 => ?_)
        · refine J_iload dX3_firstThatFits_50 rfl ?_
          refine J_if_ne (tgt := 59) dX3_firstThatFits_52 (by decide) (fun z10 => ?_) (fun z10 => ?_)
          · refine J_iconst (v := nI 1) dX3_firstThatFits_55 (by decide) ?_
            refine J_goto (tgt := 73) dX3_firstThatFits_56 (by decide) ?_
            exact J_sb (t3_firstThatFits_j73 G t N a0 x2 x3 x4 v3 h0 (f3_firstThatFits_h7 N a0 x2 x3 n) ih (nI 1) S5) (And.intro rfl (And.intro rfl (And.intro rfl (And.intro rfl (And.intro rfl (trivial))))))
          · refine J_sipush (v := nI 1000) dX3_firstThatFits_59 (by decide) ?_
            refine J_goto (tgt := 73) dX3_firstThatFits_62 (by decide) ?_
            exact J_sb (t3_firstThatFits_j73 G t N a0 x2 x3 x4 v3 h0 (f3_firstThatFits_h7 N a0 x2 x3 n) ih (nI 1000) S5) (And.intro rfl (And.intro rfl (And.intro rfl (And.intro rfl (And.intro rfl (trivial))))))
        · refine J_iconst (v := nI 1) dX3_firstThatFits_65 (by decide) ?_
          refine J_aload_n dX3_firstThatFits_66 rfl rfl ?_
          refine J_iload dX3_firstThatFits_67 rfl ?_
          refine K_callV_i (As := [vI v6]) mcX3_fewestFor mlX3_75 rfl (by decide) (sq3_0 h0) (ct3_fewestFor G t a0 v6 h0 S5) rfl rfl (Nat.le_of_ble_eq_true rfl) (by decide) (Nat.le_of_ble_eq_true rfl) dX3_firstThatFits_69 (fun q8 S9 => ?_)
          refine J_iadd dX3_firstThatFits_72 ?_
          exact J_sb (t3_firstThatFits_j73 G t N a0 x2 x3 x4 v3 h0 (f3_firstThatFits_h7 N a0 x2 x3 n) ih ((nI 1) + q8) S9) (And.intro rfl (And.intro rfl (And.intro rfl (And.intro rfl (And.intro rfl (trivial))))))
set_option maxRecDepth 100000 in
set_option maxHeartbeats 4000000 in
theorem ct3_firstThatFits (G : Gm) (t : Nat) (N : Nat) (a0 : Nat) (x1 : Int32) (x2 : Int32) (x3 : Int32) (h0 : a0 ∈ ad3) (S : St) : Ct G YX3_firstThatFits yX3_firstThatFits 2 0 0 (fI t) (f3_firstThatFits N a0 x1 x2 x3 S) [vR (some a0), vI x1, vI x2, vI x3] (MM t S) := by
  refine Ct_of_J [some (vR (some a0)), some (vI x1), some (vI x2), some (vI x3), none, none, none, none] (by decide) rfl (fun h => by cases h) (Nat.le_of_ble_eq_true rfl) (And.intro rfl (And.intro rfl (And.intro rfl (And.intro rfl (trivial))))) ?_
  unfold f3_firstThatFits
  refine J_iload_n dX3_firstThatFits_0 rfl rfl ?_
  refine J_iconst (v := nI 0) dX3_firstThatFits_1 (by decide) ?_
  refine J_mmax mlX3_126 (Nat.le_of_ble_eq_true rfl) (by decide) dX3_firstThatFits_2 ?_
  refine J_ltI (fun v1 _ => ?_)
  refine J_istore [some (vR (some a0)), some (vI x1), some (vI x2), some (vI x3), some (vI v1), none, none, none] dX3_firstThatFits_5 (Nat.le_of_ble_eq_true rfl) rfl rfl ?_
  exact J_sb (t3_firstThatFits_h7 G t N a0 x2 x3 h0 N v1 S) (And.intro rfl (And.intro rfl (And.intro rfl (And.intro rfl (trivial)))))
theorem dX3_fill_0 : decode cX3_fill 0 = .ok (.iload_n 2, 1) := by decide +kernel
theorem dX3_fill_1 : decode cX3_fill 1 = .ok (.istore_n 3, 1) := by decide +kernel
theorem dX3_fill_2 : decode cX3_fill 2 = .ok (.aload_n 1, 1) := by decide +kernel
theorem dX3_fill_3 : decode cX3_fill 3 = .ok (.invokevirtual 91, 3) := by decide +kernel
theorem dX3_fill_6 : decode cX3_fill 6 = .ok (.istore 4, 2) := by decide +kernel
theorem dX3_fill_8 : decode cX3_fill 8 = .ok (.iload 4, 2) := by decide +kernel
theorem dX3_fill_10 : decode cX3_fill 10 = .ok (.bipush 12, 2) := by decide +kernel
theorem dX3_fill_12 : decode cX3_fill 12 = .ok (.if_icmp .ge 48, 3) := by decide +kernel
theorem dX3_fill_15 : decode cX3_fill 15 = .ok (.iload_n 3, 1) := by decide +kernel
theorem dX3_fill_16 : decode cX3_fill 16 = .ok (.ifCond .le 44, 3) := by decide +kernel
theorem dX3_fill_19 : decode cX3_fill 19 = .ok (.aload_n 0, 1) := by decide +kernel
theorem dX3_fill_20 : decode cX3_fill 20 = .ok (.iconst 0, 1) := by decide +kernel
theorem dX3_fill_21 : decode cX3_fill 21 = .ok (.iload_n 3, 1) := by decide +kernel
theorem dX3_fill_22 : decode cX3_fill 22 = .ok (.bipush 12, 2) := by decide +kernel
theorem dX3_fill_24 : decode cX3_fill 24 = .ok (.iload 4, 2) := by decide +kernel
theorem dX3_fill_26 : decode cX3_fill 26 = .ok (.isub, 1) := by decide +kernel
theorem dX3_fill_27 : decode cX3_fill 27 = .ok (.invokevirtual 115, 3) := by decide +kernel
theorem dX3_fill_30 : decode cX3_fill 30 = .ok (.istore 5, 2) := by decide +kernel
theorem dX3_fill_32 : decode cX3_fill 32 = .ok (.iload 5, 2) := by decide +kernel
theorem dX3_fill_34 : decode cX3_fill 34 = .ok (.ifCond .ge 4, 3) := by decide +kernel
theorem dX3_fill_37 : decode cX3_fill 37 = .ok (.return_, 1) := by decide +kernel
theorem dX3_fill_38 : decode cX3_fill 38 = .ok (.aload_n 1, 1) := by decide +kernel
theorem dX3_fill_39 : decode cX3_fill 39 = .ok (.iload 5, 2) := by decide +kernel
theorem dX3_fill_41 : decode cX3_fill 41 = .ok (.invokevirtual 123, 3) := by decide +kernel
theorem dX3_fill_44 : decode cX3_fill 44 = .ok (.pop, 1) := by decide +kernel
theorem dX3_fill_45 : decode cX3_fill 45 = .ok (.iload_n 3, 1) := by decide +kernel
theorem dX3_fill_46 : decode cX3_fill 46 = .ok (.aload_n 0, 1) := by decide +kernel
theorem dX3_fill_47 : decode cX3_fill 47 = .ok (.iload 5, 2) := by decide +kernel
theorem dX3_fill_49 : decode cX3_fill 49 = .ok (.invokevirtual 72, 3) := by decide +kernel
theorem dX3_fill_52 : decode cX3_fill 52 = .ok (.isub, 1) := by decide +kernel
theorem dX3_fill_53 : decode cX3_fill 53 = .ok (.istore_n 3, 1) := by decide +kernel
theorem dX3_fill_54 : decode cX3_fill 54 = .ok (.iinc 4 1, 3) := by decide +kernel
theorem dX3_fill_57 : decode cX3_fill 57 = .ok (.goto (-49), 3) := by decide +kernel
theorem dX3_fill_60 : decode cX3_fill 60 = .ok (.return_, 1) := by decide +kernel
set_option maxRecDepth 100000 in
set_option maxHeartbeats 4000000 in
theorem t3_fill_h8 (G : Gm) (t : Nat) (N : Nat) (a0 : Nat) (a1 : Nat) (h0 : a0 ∈ ad3) (h1 : a1 ∈ ad6)   : ∀ (n : Nat) (x3 : Int32) (x4 : Int32) (S : St), J G YX3_fill 3 0 0 (fV t) 0 0 8 [some (vR (some a0)), some (vR (some a1)), none, some (vI x3), some (vI x4), none] [] (MM t S) (f3_fill_h8 N a0 a1 n x3 x4 S) := by
  intro n
  induction n with
  | zero => intro x3 x4 S; exact J_none
  | succ n ih =>
    intro x3 x4 S
    rw [f3_fill_h8]
    refine J_iload dX3_fill_8 rfl ?_
    refine J_bipush (v := nI 12) dX3_fill_10 (by decide) ?_
    refine J_icmp_ge (tgt := 60) dX3_fill_12 (by decide) (fun z1 => ?_) (fun z1 => ?_)
    · exact J_return rfl (Nat.le_refl _) (Nat.le_refl _) rfl dX3_fill_60
    · refine J_iload_n dX3_fill_15 rfl rfl ?_
      refine J_if_le (tgt := 60) dX3_fill_16 (by decide) (fun z2 => ?_) (fun z2 => ?_)
      · exact J_return rfl (Nat.le_refl _) (Nat.le_refl _) rfl dX3_fill_60
      · refine J_aload_n dX3_fill_19 rfl rfl ?_
        refine J_iconst (v := nI 0) dX3_fill_20 (by decide) ?_
        refine J_iload_n dX3_fill_21 rfl rfl ?_
        refine J_bipush (v := nI 12) dX3_fill_22 (by decide) ?_
        refine J_iload dX3_fill_24 rfl ?_
        refine J_isub dX3_fill_26 ?_
        refine K_callV_i (As := [vI (nI 0), vI x3, vI ((nI 12) - x4)]) mcX3_firstThatFits mlX3_115 rfl (by decide) (sq3_0 h0) (ct3_firstThatFits G t N a0 (nI 0) x3 ((nI 12) - x4) h0 S) rfl rfl (Nat.le_of_ble_eq_true rfl) (by decide) (Nat.le_of_ble_eq_true rfl) dX3_fill_27 (fun q3 S4 => ?_)
        refine J_istore [some (vR (some a0)), some (vR (some a1)), none, some (vI x3), some (vI x4), some (vI q3)] dX3_fill_30 (Nat.le_of_ble_eq_true rfl) rfl rfl ?_
        refine J_iload dX3_fill_32 rfl ?_
        refine J_if_ge (tgt := 38) dX3_fill_34 (by decide) (fun z5 => ?_) (fun z5 => ?_)
        · refine J_aload_n dX3_fill_38 rfl rfl ?_
          refine J_iload dX3_fill_39 rfl ?_
          refine K_callV_i (As := [vI q3]) mcX6_push mlX3_123 rfl (by decide) (sq6_0 h1) (ct6_push G t a1 q3 h1 S4) rfl rfl (Nat.le_of_ble_eq_true rfl) (by decide) (Nat.le_of_ble_eq_true rfl) dX3_fill_41 (fun q6 S7 => ?_)
          refine J_pop dX3_fill_44 rfl ?_
          refine J_iload_n dX3_fill_45 rfl rfl ?_
          refine J_aload_n dX3_fill_46 rfl rfl ?_
          refine J_iload dX3_fill_47 rfl ?_
          refine K_callV_i (As := [vI q3]) mcX3_bitsOf mlX3_72 rfl (by decide) (sq3_0 h0) (ct3_bitsOf G t a0 q3 h0 S7) rfl rfl (Nat.le_of_ble_eq_true rfl) (by decide) (Nat.le_of_ble_eq_true rfl) dX3_fill_49 (fun q8 S9 => ?_)
          refine J_isub dX3_fill_52 ?_
          refine J_ltI (fun v10 _ => ?_)
          refine J_istore_n [some (vR (some a0)), some (vR (some a1)), none, some (vI v10), some (vI x4), some (vI q3)] dX3_fill_53 rfl (Nat.le_of_ble_eq_true rfl) rfl rfl ?_
          refine J_iinc (v := x4 + nI 1) [some (vR (some a0)), some (vR (some a1)), none, some (vI v10), some (vI (x4 + nI 1)), some (vI q3)] dX3_fill_54 rfl rfl (Nat.le_of_ble_eq_true rfl) rfl rfl ?_
          refine J_goto (tgt := 8) dX3_fill_57 (by decide) ?_
          exact J_sb (ih v10 (x4 + nI 1) S9) (And.intro rfl (And.intro rfl (And.intro rfl (And.intro rfl (trivial)))))
        · exact J_return rfl (Nat.le_refl _) (Nat.le_refl _) rfl dX3_fill_37
set_option maxRecDepth 100000 in
set_option maxHeartbeats 4000000 in
theorem ct3_fill (G : Gm) (t : Nat) (N : Nat) (a0 : Nat) (a1 : Nat) (x2 : Int32) (h0 : a0 ∈ ad3) (h1 : a1 ∈ ad6) (S : St) : Ct G YX3_fill yX3_fill 3 0 0 (fV t) (f3_fill N a0 a1 x2 S) [vR (some a0), vR (some a1), vI x2] (MM t S) := by
  refine Ct_of_J [some (vR (some a0)), some (vR (some a1)), some (vI x2), none, none, none] (by decide) rfl (fun h => by cases h) (Nat.le_of_ble_eq_true rfl) (And.intro rfl (And.intro rfl (And.intro rfl (trivial)))) ?_
  unfold f3_fill
  refine J_iload_n dX3_fill_0 rfl rfl ?_
  refine J_istore_n [some (vR (some a0)), some (vR (some a1)), some (vI x2), some (vI x2), none, none] dX3_fill_1 rfl (Nat.le_of_ble_eq_true rfl) rfl rfl ?_
  refine J_aload_n dX3_fill_2 rfl rfl ?_
  refine K_callV_i (As := []) mcX6_length mlX3_91 rfl (by decide) (sq6_0 h1) (ct6_length G t a1 h1 S) rfl rfl (Nat.le_of_ble_eq_true rfl) (by decide) (Nat.le_of_ble_eq_true rfl) dX3_fill_3 (fun q1 S2 => ?_)
  refine J_istore [some (vR (some a0)), some (vR (some a1)), some (vI x2), some (vI x2), some (vI q1), none] dX3_fill_6 (Nat.le_of_ble_eq_true rfl) rfl rfl ?_
  exact J_sb (t3_fill_h8 G t N a0 a1 h0 h1 N x2 q1 S2) (And.intro rfl (And.intro rfl (And.intro rfl (And.intro rfl (trivial)))))
theorem dX3_becomeNextOfSize_0 : decode cX3_becomeNextOfSize 0 = .ok (.iload_n 2, 1) := by decide +kernel
theorem dX3_becomeNextOfSize_1 : decode cX3_becomeNextOfSize 1 = .ok (.istore_n 3, 1) := by decide +kernel
theorem dX3_becomeNextOfSize_2 : decode cX3_becomeNextOfSize 2 = .ok (.aload_n 1, 1) := by decide +kernel
theorem dX3_becomeNextOfSize_3 : decode cX3_becomeNextOfSize 3 = .ok (.invokevirtual 91, 3) := by decide +kernel
theorem dX3_becomeNextOfSize_6 : decode cX3_becomeNextOfSize 6 = .ok (.iconst 1, 1) := by decide +kernel
theorem dX3_becomeNextOfSize_7 : decode cX3_becomeNextOfSize 7 = .ok (.isub, 1) := by decide +kernel
theorem dX3_becomeNextOfSize_8 : decode cX3_becomeNextOfSize 8 = .ok (.istore 4, 2) := by decide +kernel
theorem dX3_becomeNextOfSize_10 : decode cX3_becomeNextOfSize 10 = .ok (.iload 4, 2) := by decide +kernel
theorem dX3_becomeNextOfSize_12 : decode cX3_becomeNextOfSize 12 = .ok (.ifCond .lt 83, 3) := by decide +kernel
theorem dX3_becomeNextOfSize_15 : decode cX3_becomeNextOfSize 15 = .ok (.aload_n 1, 1) := by decide +kernel
theorem dX3_becomeNextOfSize_16 : decode cX3_becomeNextOfSize 16 = .ok (.iload 4, 2) := by decide +kernel
theorem dX3_becomeNextOfSize_18 : decode cX3_becomeNextOfSize 18 = .ok (.invokevirtual 53, 3) := by decide +kernel
theorem dX3_becomeNextOfSize_21 : decode cX3_becomeNextOfSize 21 = .ok (.istore 5, 2) := by decide +kernel
theorem dX3_becomeNextOfSize_23 : decode cX3_becomeNextOfSize 23 = .ok (.iload_n 3, 1) := by decide +kernel
theorem dX3_becomeNextOfSize_24 : decode cX3_becomeNextOfSize 24 = .ok (.aload_n 0, 1) := by decide +kernel
theorem dX3_becomeNextOfSize_25 : decode cX3_becomeNextOfSize 25 = .ok (.iload 5, 2) := by decide +kernel
theorem dX3_becomeNextOfSize_27 : decode cX3_becomeNextOfSize 27 = .ok (.invokevirtual 72, 3) := by decide +kernel
theorem dX3_becomeNextOfSize_30 : decode cX3_becomeNextOfSize 30 = .ok (.isub, 1) := by decide +kernel
theorem dX3_becomeNextOfSize_31 : decode cX3_becomeNextOfSize 31 = .ok (.istore_n 3, 1) := by decide +kernel
theorem dX3_becomeNextOfSize_32 : decode cX3_becomeNextOfSize 32 = .ok (.aload_n 0, 1) := by decide +kernel
theorem dX3_becomeNextOfSize_33 : decode cX3_becomeNextOfSize 33 = .ok (.aload_n 0, 1) := by decide +kernel
theorem dX3_becomeNextOfSize_34 : decode cX3_becomeNextOfSize 34 = .ok (.iload 5, 2) := by decide +kernel
theorem dX3_becomeNextOfSize_36 : decode cX3_becomeNextOfSize 36 = .ok (.invokevirtual 112, 3) := by decide +kernel
theorem dX3_becomeNextOfSize_39 : decode cX3_becomeNextOfSize 39 = .ok (.iconst 1, 1) := by decide +kernel
theorem dX3_becomeNextOfSize_40 : decode cX3_becomeNextOfSize 40 = .ok (.iadd, 1) := by decide +kernel
theorem dX3_becomeNextOfSize_41 : decode cX3_becomeNextOfSize 41 = .ok (.iload_n 2, 1) := by decide +kernel
theorem dX3_becomeNextOfSize_42 : decode cX3_becomeNextOfSize 42 = .ok (.iload_n 3, 1) := by decide +kernel
theorem dX3_becomeNextOfSize_43 : decode cX3_becomeNextOfSize 43 = .ok (.isub, 1) := by decide +kernel
theorem dX3_becomeNextOfSize_44 : decode cX3_becomeNextOfSize 44 = .ok (.bipush 12, 2) := by decide +kernel
theorem dX3_becomeNextOfSize_46 : decode cX3_becomeNextOfSize 46 = .ok (.iload 4, 2) := by decide +kernel
theorem dX3_becomeNextOfSize_48 : decode cX3_becomeNextOfSize 48 = .ok (.isub, 1) := by decide +kernel
theorem dX3_becomeNextOfSize_49 : decode cX3_becomeNextOfSize 49 = .ok (.invokevirtual 115, 3) := by decide +kernel
theorem dX3_becomeNextOfSize_52 : decode cX3_becomeNextOfSize 52 = .ok (.istore 6, 2) := by decide +kernel
theorem dX3_becomeNextOfSize_54 : decode cX3_becomeNextOfSize 54 = .ok (.iload 6, 2) := by decide +kernel
theorem dX3_becomeNextOfSize_56 : decode cX3_becomeNextOfSize 56 = .ok (.ifCond .lt 33, 3) := by decide +kernel
theorem dX3_becomeNextOfSize_59 : decode cX3_becomeNextOfSize 59 = .ok (.aload_n 1, 1) := by decide +kernel
theorem dX3_becomeNextOfSize_60 : decode cX3_becomeNextOfSize 60 = .ok (.iload 4, 2) := by decide +kernel
theorem dX3_becomeNextOfSize_62 : decode cX3_becomeNextOfSize 62 = .ok (.invokevirtual 119, 3) := by decide +kernel
theorem dX3_becomeNextOfSize_65 : decode cX3_becomeNextOfSize 65 = .ok (.aload_n 1, 1) := by decide +kernel
theorem dX3_becomeNextOfSize_66 : decode cX3_becomeNextOfSize 66 = .ok (.iload 6, 2) := by decide +kernel
theorem dX3_becomeNextOfSize_68 : decode cX3_becomeNextOfSize 68 = .ok (.invokevirtual 123, 3) := by decide +kernel
theorem dX3_becomeNextOfSize_71 : decode cX3_becomeNextOfSize 71 = .ok (.pop, 1) := by decide +kernel
theorem dX3_becomeNextOfSize_72 : decode cX3_becomeNextOfSize 72 = .ok (.aload_n 0, 1) := by decide +kernel
theorem dX3_becomeNextOfSize_73 : decode cX3_becomeNextOfSize 73 = .ok (.aload_n 1, 1) := by decide +kernel
theorem dX3_becomeNextOfSize_74 : decode cX3_becomeNextOfSize 74 = .ok (.iload_n 2, 1) := by decide +kernel
theorem dX3_becomeNextOfSize_75 : decode cX3_becomeNextOfSize 75 = .ok (.iload_n 3, 1) := by decide +kernel
theorem dX3_becomeNextOfSize_76 : decode cX3_becomeNextOfSize 76 = .ok (.isub, 1) := by decide +kernel
theorem dX3_becomeNextOfSize_77 : decode cX3_becomeNextOfSize 77 = .ok (.aload_n 0, 1) := by decide +kernel
theorem dX3_becomeNextOfSize_78 : decode cX3_becomeNextOfSize 78 = .ok (.iload 6, 2) := by decide +kernel
theorem dX3_becomeNextOfSize_80 : decode cX3_becomeNextOfSize 80 = .ok (.invokevirtual 72, 3) := by decide +kernel
theorem dX3_becomeNextOfSize_83 : decode cX3_becomeNextOfSize 83 = .ok (.isub, 1) := by decide +kernel
theorem dX3_becomeNextOfSize_84 : decode cX3_becomeNextOfSize 84 = .ok (.invokevirtual 108, 3) := by decide +kernel
theorem dX3_becomeNextOfSize_87 : decode cX3_becomeNextOfSize 87 = .ok (.iconst 1, 1) := by decide +kernel
theorem dX3_becomeNextOfSize_88 : decode cX3_becomeNextOfSize 88 = .ok (.ireturn, 1) := by decide +kernel
theorem dX3_becomeNextOfSize_89 : decode cX3_becomeNextOfSize 89 = .ok (.iinc 4 (-1), 3) := by decide +kernel
theorem dX3_becomeNextOfSize_92 : decode cX3_becomeNextOfSize 92 = .ok (.goto (-82), 3) := by decide +kernel
theorem dX3_becomeNextOfSize_95 : decode cX3_becomeNextOfSize 95 = .ok (.iconst 0, 1) := by decide +kernel
theorem dX3_becomeNextOfSize_96 : decode cX3_becomeNextOfSize 96 = .ok (.ireturn, 1) := by decide +kernel
set_option maxRecDepth 100000 in
set_option maxHeartbeats 4000000 in
theorem t3_becomeNextOfSize_h10 (G : Gm) (t : Nat) (N : Nat) (a0 : Nat) (a1 : Nat) (x2 : Int32) (h0 : a0 ∈ ad3) (h1 : a1 ∈ ad6)   : ∀ (n : Nat) (x3 : Int32) (x4 : Int32) (S : St), J G YX3_becomeNextOfSize 4 0 0 (fI t) 0 0 10 [some (vR (some a0)), some (vR (some a1)), some (vI x2), some (vI x3), some (vI x4), none, none] [] (MM t S) (f3_becomeNextOfSize_h10 N a0 a1 x2 n x3 x4 S) := by
  intro n
  induction n with
  | zero => intro x3 x4 S; exact J_none
  | succ n ih =>
    intro x3 x4 S
    rw [f3_becomeNextOfSize_h10]
    refine J_iload dX3_becomeNextOfSize_10 rfl ?_
    refine J_if_lt (tgt := 95) dX3_becomeNextOfSize_12 (by decide) (fun z1 => ?_) (fun z1 => ?_)
    · refine J_iconst (v := nI 0) dX3_becomeNextOfSize_95 (by decide) ?_
      exact J_zreturn (by decide) rfl (Nat.le_refl _) (Nat.le_refl _) rfl dX3_becomeNextOfSize_96
    · refine J_aload_n dX3_becomeNextOfSize_15 rfl rfl ?_
      refine J_iload dX3_becomeNextOfSize_16 rfl ?_
      refine K_callV_i (As := [vI x4]) mcX6_orderAt mlX3_53 rfl (by decide) (sq6_0 h1) (ct6_orderAt G t a1 x4 h1 S) rfl rfl (Nat.le_of_ble_eq_true rfl) (by decide) (Nat.le_of_ble_eq_true rfl) dX3_becomeNextOfSize_18 (fun q2 S3 => ?_)
      refine J_istore [some (vR (some a0)), some (vR (some a1)), some (vI x2), some (vI x3), some (vI x4), some (vI q2), none] dX3_becomeNextOfSize_21 (Nat.le_of_ble_eq_true rfl) rfl rfl ?_
      refine J_iload_n dX3_becomeNextOfSize_23 rfl rfl ?_
      refine J_aload_n dX3_becomeNextOfSize_24 rfl rfl ?_
      refine J_iload dX3_becomeNextOfSize_25 rfl ?_
      refine K_callV_i (As := [vI q2]) mcX3_bitsOf mlX3_72 rfl (by decide) (sq3_0 h0) (ct3_bitsOf G t a0 q2 h0 S3) rfl rfl (Nat.le_of_ble_eq_true rfl) (by decide) (Nat.le_of_ble_eq_true rfl) dX3_becomeNextOfSize_27 (fun q4 S5 => ?_)
      refine J_isub dX3_becomeNextOfSize_30 ?_
      refine J_ltI (fun v6 _ => ?_)
      refine J_istore_n [some (vR (some a0)), some (vR (some a1)), some (vI x2), some (vI v6), some (vI x4), some (vI q2), none] dX3_becomeNextOfSize_31 rfl (Nat.le_of_ble_eq_true rfl) rfl rfl ?_
      refine J_aload_n dX3_becomeNextOfSize_32 rfl rfl ?_
      refine J_aload_n dX3_becomeNextOfSize_33 rfl rfl ?_
      refine J_iload dX3_becomeNextOfSize_34 rfl ?_
      refine K_callV_i (As := [vI q2]) mcX3_rankOf mlX3_112 rfl (by decide) (sq3_0 h0) (ct3_rankOf G t N a0 q2 h0 S5) rfl rfl (Nat.le_of_ble_eq_true rfl) (by decide) (Nat.le_of_ble_eq_true rfl) dX3_becomeNextOfSize_36 (fun q7 S8 => ?_)
      refine J_iconst (v := nI 1) dX3_becomeNextOfSize_39 (by decide) ?_
      refine J_iadd dX3_becomeNextOfSize_40 ?_
      refine J_iload_n dX3_becomeNextOfSize_41 rfl rfl ?_
      refine J_iload_n dX3_becomeNextOfSize_42 rfl rfl ?_
      refine J_isub dX3_becomeNextOfSize_43 ?_
      refine J_bipush (v := nI 12) dX3_becomeNextOfSize_44 (by decide) ?_
      refine J_iload dX3_becomeNextOfSize_46 rfl ?_
      refine J_isub dX3_becomeNextOfSize_48 ?_
      refine K_callV_i (As := [vI (q7 + (nI 1)), vI (x2 - v6), vI ((nI 12) - x4)]) mcX3_firstThatFits mlX3_115 rfl (by decide) (sq3_0 h0) (ct3_firstThatFits G t N a0 (q7 + (nI 1)) (x2 - v6) ((nI 12) - x4) h0 S8) rfl rfl (Nat.le_of_ble_eq_true rfl) (by decide) (Nat.le_of_ble_eq_true rfl) dX3_becomeNextOfSize_49 (fun q9 S10 => ?_)
      refine J_istore [some (vR (some a0)), some (vR (some a1)), some (vI x2), some (vI v6), some (vI x4), some (vI q2), some (vI q9)] dX3_becomeNextOfSize_52 (Nat.le_of_ble_eq_true rfl) rfl rfl ?_
      refine J_iload dX3_becomeNextOfSize_54 rfl ?_
      refine J_if_lt (tgt := 89) dX3_becomeNextOfSize_56 (by decide) (fun z11 => ?_) (fun z11 => ?_)
      · refine J_iinc (v := x4 + (-1)) [some (vR (some a0)), some (vR (some a1)), some (vI x2), some (vI v6), some (vI (x4 + (-1))), some (vI q2), some (vI q9)] dX3_becomeNextOfSize_89 rfl rfl (Nat.le_of_ble_eq_true rfl) rfl rfl ?_
        refine J_goto (tgt := 10) dX3_becomeNextOfSize_92 (by decide) ?_
        exact J_sb (ih v6 (x4 + (-1)) S10) (And.intro rfl (And.intro rfl (And.intro rfl (And.intro rfl (And.intro rfl (trivial))))))
      · refine J_aload_n dX3_becomeNextOfSize_59 rfl rfl ?_
        refine J_iload dX3_becomeNextOfSize_60 rfl ?_
        refine K_callV_v (As := [vI x4]) mcX6_cut mlX3_119 rfl (by decide) (sq6_0 h1) (ct6_cut G t a1 x4 h1 S10) rfl rfl (Nat.le_of_ble_eq_true rfl) (by decide) (Nat.le_of_ble_eq_true rfl) dX3_becomeNextOfSize_62 (fun q12 S13 => ?_)
        refine J_aload_n dX3_becomeNextOfSize_65 rfl rfl ?_
        refine J_iload dX3_becomeNextOfSize_66 rfl ?_
        refine K_callV_i (As := [vI q9]) mcX6_push mlX3_123 rfl (by decide) (sq6_0 h1) (ct6_push G t a1 q9 h1 S13) rfl rfl (Nat.le_of_ble_eq_true rfl) (by decide) (Nat.le_of_ble_eq_true rfl) dX3_becomeNextOfSize_68 (fun q14 S15 => ?_)
        refine J_pop dX3_becomeNextOfSize_71 rfl ?_
        refine J_aload_n dX3_becomeNextOfSize_72 rfl rfl ?_
        refine J_aload_n dX3_becomeNextOfSize_73 rfl rfl ?_
        refine J_iload_n dX3_becomeNextOfSize_74 rfl rfl ?_
        refine J_iload_n dX3_becomeNextOfSize_75 rfl rfl ?_
        refine J_isub dX3_becomeNextOfSize_76 ?_
        refine J_aload_n dX3_becomeNextOfSize_77 rfl rfl ?_
        refine J_iload dX3_becomeNextOfSize_78 rfl ?_
        refine K_callV_i (As := [vI q9]) mcX3_bitsOf mlX3_72 rfl (by decide) (sq3_0 h0) (ct3_bitsOf G t a0 q9 h0 S15) rfl rfl (Nat.le_of_ble_eq_true rfl) (by decide) (Nat.le_of_ble_eq_true rfl) dX3_becomeNextOfSize_80 (fun q16 S17 => ?_)
        refine J_isub dX3_becomeNextOfSize_83 ?_
        refine K_callV_v (As := [vR (some a1), vI ((x2 - v6) - q16)]) mcX3_fill mlX3_108 rfl (by decide) (sq3_0 h0) (ct3_fill G t N a0 a1 ((x2 - v6) - q16) h0 h1 S17) rfl rfl (Nat.le_of_ble_eq_true rfl) (by decide) (Nat.le_of_ble_eq_true rfl) dX3_becomeNextOfSize_84 (fun q18 S19 => ?_)
        refine J_iconst (v := nI 1) dX3_becomeNextOfSize_87 (by decide) ?_
        exact J_zreturn (by decide) rfl (Nat.le_refl _) (Nat.le_refl _) rfl dX3_becomeNextOfSize_88
set_option maxRecDepth 100000 in
set_option maxHeartbeats 4000000 in
theorem ct3_becomeNextOfSize (G : Gm) (t : Nat) (N : Nat) (a0 : Nat) (a1 : Nat) (x2 : Int32) (h0 : a0 ∈ ad3) (h1 : a1 ∈ ad6) (S : St) : Ct G YX3_becomeNextOfSize yX3_becomeNextOfSize 4 0 0 (fI t) (f3_becomeNextOfSize N a0 a1 x2 S) [vR (some a0), vR (some a1), vI x2] (MM t S) := by
  refine Ct_of_J [some (vR (some a0)), some (vR (some a1)), some (vI x2), none, none, none, none] (by decide) rfl (fun h => by cases h) (Nat.le_of_ble_eq_true rfl) (And.intro rfl (And.intro rfl (And.intro rfl (trivial)))) ?_
  unfold f3_becomeNextOfSize
  refine J_iload_n dX3_becomeNextOfSize_0 rfl rfl ?_
  refine J_istore_n [some (vR (some a0)), some (vR (some a1)), some (vI x2), some (vI x2), none, none, none] dX3_becomeNextOfSize_1 rfl (Nat.le_of_ble_eq_true rfl) rfl rfl ?_
  refine J_aload_n dX3_becomeNextOfSize_2 rfl rfl ?_
  refine K_callV_i (As := []) mcX6_length mlX3_91 rfl (by decide) (sq6_0 h1) (ct6_length G t a1 h1 S) rfl rfl (Nat.le_of_ble_eq_true rfl) (by decide) (Nat.le_of_ble_eq_true rfl) dX3_becomeNextOfSize_3 (fun q1 S2 => ?_)
  refine J_iconst (v := nI 1) dX3_becomeNextOfSize_6 (by decide) ?_
  refine J_isub dX3_becomeNextOfSize_7 ?_
  refine J_ltI (fun v3 _ => ?_)
  refine J_istore [some (vR (some a0)), some (vR (some a1)), some (vI x2), some (vI x2), some (vI v3), none, none] dX3_becomeNextOfSize_8 (Nat.le_of_ble_eq_true rfl) rfl rfl ?_
  exact J_sb (t3_becomeNextOfSize_h10 G t N a0 a1 x2 h0 h1 N x2 v3 S2) (And.intro rfl (And.intro rfl (And.intro rfl (And.intro rfl (And.intro rfl (trivial))))))
theorem dX3_follow_0 : decode cX3_follow 0 = .ok (.aload_n 1, 1) := by decide +kernel
theorem dX3_follow_1 : decode cX3_follow 1 = .ok (.invokevirtual 91, 3) := by decide +kernel
theorem dX3_follow_4 : decode cX3_follow 4 = .ok (.ifCond .ne 7, 3) := by decide +kernel
theorem dX3_follow_7 : decode cX3_follow 7 = .ok (.iconst 0, 1) := by decide +kernel
theorem dX3_follow_8 : decode cX3_follow 8 = .ok (.goto 8, 3) := by decide +kernel
theorem dX3_follow_11 : decode cX3_follow 11 = .ok (.aload_n 0, 1) := by decide +kernel
theorem dX3_follow_12 : decode cX3_follow 12 = .ok (.aload_n 1, 1) := by decide +kernel
theorem dX3_follow_13 : decode cX3_follow 13 = .ok (.invokevirtual 97, 3) := by decide +kernel
theorem dX3_follow_16 : decode cX3_follow 16 = .ok (.istore_n 3, 1) := by decide +kernel
theorem dX3_follow_17 : decode cX3_follow 17 = .ok (.iload_n 3, 1) := by decide +kernel
theorem dX3_follow_18 : decode cX3_follow 18 = .ok (.ifCond .lt 14, 3) := by decide +kernel
theorem dX3_follow_21 : decode cX3_follow 21 = .ok (.iload_n 3, 1) := by decide +kernel
theorem dX3_follow_22 : decode cX3_follow 22 = .ok (.iload_n 2, 1) := by decide +kernel
theorem dX3_follow_23 : decode cX3_follow 23 = .ok (.if_icmp .gt 9, 3) := by decide +kernel
theorem dX3_follow_26 : decode cX3_follow 26 = .ok (.iload_n 3, 1) := by decide +kernel
theorem dX3_follow_27 : decode cX3_follow 27 = .ok (.bipush 14, 2) := by decide +kernel
theorem dX3_follow_29 : decode cX3_follow 29 = .ok (.if_icmp .le 5, 3) := by decide +kernel
theorem dX3_follow_32 : decode cX3_follow 32 = .ok (.iconst 0, 1) := by decide +kernel
theorem dX3_follow_33 : decode cX3_follow 33 = .ok (.ireturn, 1) := by decide +kernel
theorem dX3_follow_34 : decode cX3_follow 34 = .ok (.iload_n 3, 1) := by decide +kernel
theorem dX3_follow_35 : decode cX3_follow 35 = .ok (.ifCond .le 14, 3) := by decide +kernel
theorem dX3_follow_38 : decode cX3_follow 38 = .ok (.aload_n 0, 1) := by decide +kernel
theorem dX3_follow_39 : decode cX3_follow 39 = .ok (.aload_n 1, 1) := by decide +kernel
theorem dX3_follow_40 : decode cX3_follow 40 = .ok (.iload_n 3, 1) := by decide +kernel
theorem dX3_follow_41 : decode cX3_follow 41 = .ok (.invokevirtual 101, 3) := by decide +kernel
theorem dX3_follow_44 : decode cX3_follow 44 = .ok (.ifCond .eq 5, 3) := by decide +kernel
theorem dX3_follow_47 : decode cX3_follow 47 = .ok (.iload_n 3, 1) := by decide +kernel
theorem dX3_follow_48 : decode cX3_follow 48 = .ok (.ireturn, 1) := by decide +kernel
theorem dX3_follow_49 : decode cX3_follow 49 = .ok (.iload_n 3, 1) := by decide +kernel
theorem dX3_follow_50 : decode cX3_follow 50 = .ok (.iconst 1, 1) := by decide +kernel
theorem dX3_follow_51 : decode cX3_follow 51 = .ok (.iadd, 1) := by decide +kernel
theorem dX3_follow_52 : decode cX3_follow 52 = .ok (.istore 4, 2) := by decide +kernel
theorem dX3_follow_54 : decode cX3_follow 54 = .ok (.iload 4, 2) := by decide +kernel
theorem dX3_follow_56 : decode cX3_follow 56 = .ok (.iload_n 2, 1) := by decide +kernel
theorem dX3_follow_57 : decode cX3_follow 57 = .ok (.if_icmp .gt 34, 3) := by decide +kernel
theorem dX3_follow_60 : decode cX3_follow 60 = .ok (.aload_n 0, 1) := by decide +kernel
theorem dX3_follow_61 : decode cX3_follow 61 = .ok (.iload 4, 2) := by decide +kernel
theorem dX3_follow_63 : decode cX3_follow 63 = .ok (.invokevirtual 75, 3) := by decide +kernel
theorem dX3_follow_66 : decode cX3_follow 66 = .ok (.bipush 12, 2) := by decide +kernel
theorem dX3_follow_68 : decode cX3_follow 68 = .ok (.if_icmp .gt 17, 3) := by decide +kernel
theorem dX3_follow_71 : decode cX3_follow 71 = .ok (.aload_n 1, 1) := by decide +kernel
theorem dX3_follow_72 : decode cX3_follow 72 = .ok (.invokevirtual 105, 3) := by decide +kernel
theorem dX3_follow_75 : decode cX3_follow 75 = .ok (.aload_n 0, 1) := by decide +kernel
theorem dX3_follow_76 : decode cX3_follow 76 = .ok (.aload_n 1, 1) := by decide +kernel
theorem dX3_follow_77 : decode cX3_follow 77 = .ok (.iload 4, 2) := by decide +kernel
theorem dX3_follow_79 : decode cX3_follow 79 = .ok (.invokevirtual 108, 3) := by decide +kernel
theorem dX3_follow_82 : decode cX3_follow 82 = .ok (.iload 4, 2) := by decide +kernel
theorem dX3_follow_84 : decode cX3_follow 84 = .ok (.ireturn, 1) := by decide +kernel
theorem dX3_follow_85 : decode cX3_follow 85 = .ok (.iinc 4 1, 3) := by decide +kernel
theorem dX3_follow_88 : decode cX3_follow 88 = .ok (.goto (-34), 3) := by decide +kernel
theorem dX3_follow_91 : decode cX3_follow 91 = .ok (.iconst 0, 1) := by decide +kernel
theorem dX3_follow_92 : decode cX3_follow 92 = .ok (.ireturn, 1) := by decide +kernel
set_option maxRecDepth 100000 in
set_option maxHeartbeats 4000000 in
theorem t3_follow_h54 (G : Gm) (t : Nat) (N : Nat) (a0 : Nat) (a1 : Nat) (x2 : Int32) (h0 : a0 ∈ ad3) (h1 : a1 ∈ ad6)   : ∀ (n : Nat) (x4 : Int32) (S : St), J G YX3_follow 5 0 0 (fI t) 0 0 54 [some (vR (some a0)), some (vR (some a1)), some (vI x2), none, some (vI x4)] [] (MM t S) (f3_follow_h54 N a0 a1 x2 n x4 S) := by
  intro n
  induction n with
  | zero => intro x4 S; exact J_none
  | succ n ih =>
    intro x4 S
    rw [f3_follow_h54]
    refine J_iload dX3_follow_54 rfl ?_
    refine J_iload_n dX3_follow_56 rfl rfl ?_
    refine J_icmp_gt (tgt := 91) dX3_follow_57 (by decide) (fun z1 => ?_) (fun z1 => ?_)
    · refine J_iconst (v := nI 0) dX3_follow_91 (by decide) ?_
      exact J_ireturn rfl (Nat.le_refl _) (Nat.le_refl _) rfl dX3_follow_92
    · refine J_aload_n dX3_follow_60 rfl rfl ?_
      refine J_iload dX3_follow_61 rfl ?_
      refine K_callV_i (As := [vI x4]) mcX3_fewestFor mlX3_75 rfl (by decide) (sq3_0 h0) (ct3_fewestFor G t a0 x4 h0 S) rfl rfl (Nat.le_of_ble_eq_true rfl) (by decide) (Nat.le_of_ble_eq_true rfl) dX3_follow_63 (fun q2 S3 => ?_)
      refine J_bipush (v := nI 12) dX3_follow_66 (by decide) ?_
      refine J_icmp_gt (tgt := 85) dX3_follow_68 (by decide) (fun z4 => ?_) (fun z4 => ?_)
      · refine J_iinc (v := x4 + nI 1) [some (vR (some a0)), some (vR (some a1)), some (vI x2), none, some (vI (x4 + nI 1))] dX3_follow_85 rfl rfl (Nat.le_of_ble_eq_true rfl) rfl rfl ?_
        refine J_goto (tgt := 54) dX3_follow_88 (by decide) ?_
        exact J_sb (ih (x4 + nI 1) S3) (And.intro rfl (And.intro rfl (And.intro rfl (And.intro rfl (trivial)))))
      · refine J_aload_n dX3_follow_71 rfl rfl ?_
        refine K_callV_v (As := []) mcX6_beEmpty mlX3_105 rfl (by decide) (sq6_0 h1) (ct6_beEmpty G t a1 h1 S3) rfl rfl (Nat.le_of_ble_eq_true rfl) (by decide) (Nat.le_of_ble_eq_true rfl) dX3_follow_72 (fun q5 S6 => ?_)
        refine J_aload_n dX3_follow_75 rfl rfl ?_
        refine J_aload_n dX3_follow_76 rfl rfl ?_
        refine J_iload dX3_follow_77 rfl ?_
        refine K_callV_v (As := [vR (some a1), vI x4]) mcX3_fill mlX3_108 rfl (by decide) (sq3_0 h0) (ct3_fill G t N a0 a1 x4 h0 h1 S6) rfl rfl (Nat.le_of_ble_eq_true rfl) (by decide) (Nat.le_of_ble_eq_true rfl) dX3_follow_79 (fun q7 S8 => ?_)
        refine J_iload dX3_follow_82 rfl ?_
        exact J_ireturn rfl (Nat.le_refl _) (Nat.le_refl _) rfl dX3_follow_84
set_option maxRecDepth 100000 in
set_option maxHeartbeats 4000000 in
theorem t3_follow_j49 (G : Gm) (t : Nat) (N : Nat) (a0 : Nat) (a1 : Nat) (x2 : Int32) (x3 : Int32) (h0 : a0 ∈ ad3) (h1 : a1 ∈ ad6)   : ∀  (S : St), J G YX3_follow 5 0 0 (fI t) 0 0 49 [some (vR (some a0)), some (vR (some a1)), some (vI x2), some (vI x3), none] [] (MM t S) (f3_follow_j49 N a0 a1 x2 x3 S) := by
  intro S
  unfold f3_follow_j49
  refine J_iload_n dX3_follow_49 rfl rfl ?_
  refine J_iconst (v := nI 1) dX3_follow_50 (by decide) ?_
  refine J_iadd dX3_follow_51 ?_
  refine J_ltI (fun v1 _ => ?_)
  refine J_istore [some (vR (some a0)), some (vR (some a1)), some (vI x2), some (vI x3), some (vI v1)] dX3_follow_52 (Nat.le_of_ble_eq_true rfl) rfl rfl ?_
  exact J_sb (t3_follow_h54 G t N a0 a1 x2 h0 h1 N v1 S) (And.intro rfl (And.intro rfl (And.intro rfl (And.intro rfl (trivial)))))
set_option maxRecDepth 100000 in
set_option maxHeartbeats 4000000 in
theorem t3_follow_j16 (G : Gm) (t : Nat) (N : Nat) (a0 : Nat) (a1 : Nat) (x2 : Int32) (h0 : a0 ∈ ad3) (h1 : a1 ∈ ad6)   : ∀ (xs0 : Int32) (S : St), J G YX3_follow 5 0 0 (fI t) 0 0 16 [some (vR (some a0)), some (vR (some a1)), some (vI x2), none, none] [vI xs0] (MM t S) (f3_follow_j16 N a0 a1 x2 xs0 S) := by
  intro xs0 S
  unfold f3_follow_j16
  refine J_istore_n [some (vR (some a0)), some (vR (some a1)), some (vI x2), some (vI xs0), none] dX3_follow_16 rfl (Nat.le_of_ble_eq_true rfl) rfl rfl ?_
  refine J_iload_n dX3_follow_17 rfl rfl ?_
  refine J_if_lt (tgt := 32) dX3_follow_18 (by decide) (fun z1 => ?_) (fun z1 => ?_)
  · refine J_iconst (v := nI 0) dX3_follow_32 (by decide) ?_
    exact J_ireturn rfl (Nat.le_refl _) (Nat.le_refl _) rfl dX3_follow_33
  · refine J_iload_n dX3_follow_21 rfl rfl ?_
    refine J_iload_n dX3_follow_22 rfl rfl ?_
    refine J_icmp_gt (tgt := 32) dX3_follow_23 (by decide) (fun z2 => ?_) (fun z2 => ?_)
    · refine J_iconst (v := nI 0) dX3_follow_32 (by decide) ?_
      exact J_ireturn rfl (Nat.le_refl _) (Nat.le_refl _) rfl dX3_follow_33
    · refine J_iload_n dX3_follow_26 rfl rfl ?_
      refine J_bipush (v := nI 14) dX3_follow_27 (by decide) ?_
      refine J_icmp_le (tgt := 34) dX3_follow_29 (by decide) (fun z3 => ?_) (fun z3 => ?_)
      · refine J_iload_n dX3_follow_34 rfl rfl ?_
        refine J_if_le (tgt := 49) dX3_follow_35 (by decide) (fun z4 => ?_) (fun z4 => ?_)
        · exact J_sb (t3_follow_j49 G t N a0 a1 x2 xs0 h0 h1 S) (And.intro rfl (And.intro rfl (And.intro rfl (And.intro rfl (trivial)))))
        · refine J_aload_n dX3_follow_38 rfl rfl ?_
          refine J_aload_n dX3_follow_39 rfl rfl ?_
          refine J_iload_n dX3_follow_40 rfl rfl ?_
          refine K_callV_i (As := [vR (some a1), vI xs0]) mcX3_becomeNextOfSize mlX3_101 rfl (by decide) (sq3_0 h0) (ct3_becomeNextOfSize G t N a0 a1 xs0 h0 h1 S) rfl rfl (Nat.le_of_ble_eq_true rfl) (by decide) (Nat.le_of_ble_eq_true rfl) dX3_follow_41 (fun q5 S6 => ?_)
          refine J_if_eq (tgt := 49) dX3_follow_44 (by decide) (fun z7 => ?_) (fun z7 => ?_)
          · exact J_sb (t3_follow_j49 G t N a0 a1 x2 xs0 h0 h1 S6) (And.intro rfl (And.intro rfl (And.intro rfl (And.intro rfl (trivial)))))
          · refine J_iload_n dX3_follow_47 rfl rfl ?_
            exact J_ireturn rfl (Nat.le_refl _) (Nat.le_refl _) rfl dX3_follow_48
      · refine J_iconst (v := nI 0) dX3_follow_32 (by decide) ?_
        exact J_ireturn rfl (Nat.le_refl _) (Nat.le_refl _) rfl dX3_follow_33
set_option maxRecDepth 100000 in
set_option maxHeartbeats 4000000 in
theorem ct3_follow (G : Gm) (t : Nat) (N : Nat) (a0 : Nat) (a1 : Nat) (x2 : Int32) (h0 : a0 ∈ ad3) (h1 : a1 ∈ ad6) (S : St) : Ct G YX3_follow yX3_follow 5 0 0 (fI t) (f3_follow N a0 a1 x2 S) [vR (some a0), vR (some a1), vI x2] (MM t S) := by
  refine Ct_of_J [some (vR (some a0)), some (vR (some a1)), some (vI x2), none, none] (by decide) rfl (fun h => by cases h) (Nat.le_of_ble_eq_true rfl) (And.intro rfl (And.intro rfl (And.intro rfl (trivial)))) ?_
  unfold f3_follow
  refine J_aload_n dX3_follow_0 rfl rfl ?_
  refine K_callV_i (As := []) mcX6_length mlX3_91 rfl (by decide) (sq6_0 h1) (ct6_length G t a1 h1 S) rfl rfl (Nat.le_of_ble_eq_true rfl) (by decide) (Nat.le_of_ble_eq_true rfl) dX3_follow_1 (fun q1 S2 => ?_)
  refine J_if_ne (tgt := 11) dX3_follow_4 (by decide) (fun z3 => ?_) (fun z3 => ?_)
  · refine J_iconst (v := nI 0) dX3_follow_7 (by decide) ?_
    refine J_goto (tgt := 16) dX3_follow_8 (by decide) ?_
    exact J_sb (t3_follow_j16 G t N a0 a1 x2 h0 h1 (nI 0) S2) (And.intro rfl (And.intro rfl (And.intro rfl (trivial))))
  · refine J_aload_n dX3_follow_11 rfl rfl ?_
    refine J_aload_n dX3_follow_12 rfl rfl ?_
    refine K_callV_i (As := [vR (some a1)]) mcX3_sizeOf mlX3_97 rfl (by decide) (sq3_0 h0) (ct3_sizeOf G t N a0 a1 h0 h1 S2) rfl rfl (Nat.le_of_ble_eq_true rfl) (by decide) (Nat.le_of_ble_eq_true rfl) dX3_follow_13 (fun q4 S5 => ?_)
    exact J_sb (t3_follow_j16 G t N a0 a1 x2 h0 h1 q4 S5) (And.intro rfl (And.intro rfl (And.intro rfl (trivial))))
