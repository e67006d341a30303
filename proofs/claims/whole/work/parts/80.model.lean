theorem dX12_within_0 : decode cX12_within 0 = .ok (.lload_n 0, 1) := by decide +kernel
theorem dX12_within_1 : decode cX12_within 1 = .ok (.lload_n 2, 1) := by decide +kernel
theorem dX12_within_2 : decode cX12_within 2 = .ok (.lcmp, 1) := by decide +kernel
theorem dX12_within_3 : decode cX12_within 3 = .ok (.ifCond .lt 14, 3) := by decide +kernel
theorem dX12_within_6 : decode cX12_within 6 = .ok (.lload_n 0, 1) := by decide +kernel
theorem dX12_within_7 : decode cX12_within 7 = .ok (.lload 4, 2) := by decide +kernel
theorem dX12_within_9 : decode cX12_within 9 = .ok (.lcmp, 1) := by decide +kernel
theorem dX12_within_10 : decode cX12_within 10 = .ok (.ifCond .gt 7, 3) := by decide +kernel
theorem dX12_within_13 : decode cX12_within 13 = .ok (.iconst 1, 1) := by decide +kernel
theorem dX12_within_14 : decode cX12_within 14 = .ok (.goto 4, 3) := by decide +kernel
theorem dX12_within_17 : decode cX12_within 17 = .ok (.iconst 0, 1) := by decide +kernel
theorem dX12_within_18 : decode cX12_within 18 = .ok (.ireturn, 1) := by decide +kernel
set_option maxRecDepth 100000 in
set_option maxHeartbeats 4000000 in
theorem ct12_within (G : Gm) (t : Nat)  (l0 : Int64) (l2 : Int64) (l4 : Int64)  (S : St) : Ct G YX12_within yX12_within 1 0 0 (fI t) (f12_within l0 l2 l4 S) [vL l0, vL l2, vL l4] (MM t S) := by
  refine Ct_of_J [some (vL l0), none, some (vL l2), none, some (vL l4), none] (by decide) rfl (fun h => by cases h) (Nat.le_of_ble_eq_true rfl) (And.intro rfl (And.intro rfl (And.intro rfl (trivial)))) ?_
  unfold f12_within
  refine J_lload_n dX12_within_0 rfl rfl ?_
  refine J_lload_n dX12_within_1 rfl rfl ?_
  refine J_lcmp dX12_within_2 ?_
  refine J_if_lt (tgt := 17) dX12_within_3 (by decide) (fun z1 => ?_) (fun z1 => ?_)
  · refine J_iconst (v := nI 0) dX12_within_17 (by decide) ?_
    exact J_zreturn (by decide) rfl (Nat.le_refl _) (Nat.le_refl _) rfl dX12_within_18
  · refine J_lload_n dX12_within_6 rfl rfl ?_
    refine J_lload dX12_within_7 rfl ?_
    refine J_lcmp dX12_within_9 ?_
    refine J_if_gt (tgt := 17) dX12_within_10 (by decide) (fun z2 => ?_) (fun z2 => ?_)
    · refine J_iconst (v := nI 0) dX12_within_17 (by decide) ?_
      exact J_zreturn (by decide) rfl (Nat.le_refl _) (Nat.le_refl _) rfl dX12_within_18
    · refine J_iconst (v := nI 1) dX12_within_13 (by decide) ?_
      refine J_goto (tgt := 18) dX12_within_14 (by decide) ?_
      exact J_zreturn (by decide) rfl (Nat.le_refl _) (Nat.le_refl _) rfl dX12_within_18
theorem dX12_isLanguage_0 : decode cX12_isLanguage 0 = .ok (.iload_n 1, 1) := by decide +kernel
theorem dX12_isLanguage_1 : decode cX12_isLanguage 1 = .ok (.ifCond .lt 15, 3) := by decide +kernel
theorem dX12_isLanguage_4 : decode cX12_isLanguage 4 = .ok (.iload_n 1, 1) := by decide +kernel
theorem dX12_isLanguage_5 : decode cX12_isLanguage 5 = .ok (.aload_n 0, 1) := by decide +kernel
theorem dX12_isLanguage_6 : decode cX12_isLanguage 6 = .ok (.getfield 100, 3) := by decide +kernel
theorem dX12_isLanguage_9 : decode cX12_isLanguage 9 = .ok (.if_icmp .ge 7, 3) := by decide +kernel
theorem dX12_isLanguage_12 : decode cX12_isLanguage 12 = .ok (.iconst 1, 1) := by decide +kernel
theorem dX12_isLanguage_13 : decode cX12_isLanguage 13 = .ok (.goto 4, 3) := by decide +kernel
theorem dX12_isLanguage_16 : decode cX12_isLanguage 16 = .ok (.iconst 0, 1) := by decide +kernel
theorem dX12_isLanguage_17 : decode cX12_isLanguage 17 = .ok (.ireturn, 1) := by decide +kernel
set_option maxRecDepth 100000 in
set_option maxHeartbeats 4000000 in
theorem ct12_isLanguage (G : Gm) (t : Nat)  (x1 : Int32)  (S : St) : Ct G YX12_isLanguage yX12_isLanguage 1 0 0 (fI t) (f12_isLanguage x1 S) [vR (some 146), vI x1] (MM t S) := by
  refine Ct_of_J [some (vR (some 146)), some (vI x1)] (by decide) rfl (fun h => by cases h) (Nat.le_of_ble_eq_true rfl) (And.intro rfl (And.intro rfl (trivial))) ?_
  unfold f12_isLanguage
  refine J_iload_n dX12_isLanguage_0 rfl rfl ?_
  refine J_if_lt (tgt := 16) dX12_isLanguage_1 (by decide) (fun z1 => ?_) (fun z1 => ?_)
  · refine J_iconst (v := nI 0) dX12_isLanguage_16 (by decide) ?_
    exact J_zreturn (by decide) rfl (Nat.le_refl _) (Nat.le_refl _) rfl dX12_isLanguage_17
  · refine J_iload_n dX12_isLanguage_4 rfl rfl ?_
    refine J_aload_n dX12_isLanguage_5 rfl rfl ?_
    refine K_getI cf12 flX12_100 (sq 146 rfl) (Or.inl rfl) dX12_isLanguage_6 ?_
    refine J_icmp_ge (tgt := 16) dX12_isLanguage_9 (by decide) (fun z2 => ?_) (fun z2 => ?_)
    · refine J_iconst (v := nI 0) dX12_isLanguage_16 (by decide) ?_
      exact J_zreturn (by decide) rfl (Nat.le_refl _) (Nat.le_refl _) rfl dX12_isLanguage_17
    · refine J_iconst (v := nI 1) dX12_isLanguage_12 (by decide) ?_
      refine J_goto (tgt := 17) dX12_isLanguage_13 (by decide) ?_
      exact J_zreturn (by decide) rfl (Nat.le_refl _) (Nat.le_refl _) rfl dX12_isLanguage_17
theorem dX12_ordersOf_0 : decode cX12_ordersOf 0 = .ok (.bipush 8, 2) := by decide +kernel
theorem dX12_ordersOf_2 : decode cX12_ordersOf 2 = .ok (.aload_n 0, 1) := by decide +kernel
theorem dX12_ordersOf_3 : decode cX12_ordersOf 3 = .ok (.getfield 25, 3) := by decide +kernel
theorem dX12_ordersOf_6 : decode cX12_ordersOf 6 = .ok (.iload_n 1, 1) := by decide +kernel
theorem dX12_ordersOf_7 : decode cX12_ordersOf 7 = .ok (.iaload, 1) := by decide +kernel
theorem dX12_ordersOf_8 : decode cX12_ordersOf 8 = .ok (.iadd, 1) := by decide +kernel
theorem dX12_ordersOf_9 : decode cX12_ordersOf 9 = .ok (.ireturn, 1) := by decide +kernel
set_option maxRecDepth 100000 in
set_option maxHeartbeats 4000000 in
theorem ct12_ordersOf (G : Gm) (t : Nat)  (x1 : Int32)  (S : St) : Ct G YX12_ordersOf yX12_ordersOf 1 0 0 (fI t) (f12_ordersOf x1 S) [vR (some 146), vI x1] (MM t S) := by
  refine Ct_of_J [some (vR (some 146)), some (vI x1)] (by decide) rfl (fun h => by cases h) (Nat.le_of_ble_eq_true rfl) (And.intro rfl (And.intro rfl (trivial))) ?_
  unfold f12_ordersOf
  refine J_bipush (v := nI 8) dX12_ordersOf_0 (by decide) ?_
  refine J_aload_n dX12_ordersOf_2 rfl rfl ?_
  refine K_getR (r := some (152)) cf12 flX12_25 (sq 146 rfl) rfl (Or.inr ⟨_, rfl⟩) dX12_ordersOf_3 ?_
  refine J_iload_n dX12_ordersOf_6 rfl rfl ?_
  refine K_iald (sq 152 rfl) dX12_ordersOf_7 ?_
  refine J_iadd dX12_ordersOf_8 ?_
  exact J_ireturn rfl (Nat.le_refl _) (Nat.le_refl _) rfl dX12_ordersOf_9
theorem dX12_hasOrder_0 : decode cX12_hasOrder 0 = .ok (.iload_n 2, 1) := by decide +kernel
theorem dX12_hasOrder_1 : decode cX12_hasOrder 1 = .ok (.ifCond .lt 16, 3) := by decide +kernel
theorem dX12_hasOrder_4 : decode cX12_hasOrder 4 = .ok (.iload_n 2, 1) := by decide +kernel
theorem dX12_hasOrder_5 : decode cX12_hasOrder 5 = .ok (.aload_n 0, 1) := by decide +kernel
theorem dX12_hasOrder_6 : decode cX12_hasOrder 6 = .ok (.iload_n 1, 1) := by decide +kernel
theorem dX12_hasOrder_7 : decode cX12_hasOrder 7 = .ok (.invokevirtual 103, 3) := by decide +kernel
theorem dX12_hasOrder_10 : decode cX12_hasOrder 10 = .ok (.if_icmp .ge 7, 3) := by decide +kernel
theorem dX12_hasOrder_13 : decode cX12_hasOrder 13 = .ok (.iconst 1, 1) := by decide +kernel
theorem dX12_hasOrder_14 : decode cX12_hasOrder 14 = .ok (.goto 4, 3) := by decide +kernel
theorem dX12_hasOrder_17 : decode cX12_hasOrder 17 = .ok (.iconst 0, 1) := by decide +kernel
theorem dX12_hasOrder_18 : decode cX12_hasOrder 18 = .ok (.ireturn, 1) := by decide +kernel
set_option maxRecDepth 100000 in
set_option maxHeartbeats 4000000 in
theorem ct12_hasOrder (G : Gm) (t : Nat)  (x1 : Int32) (x2 : Int32)  (S : St) : Ct G YX12_hasOrder yX12_hasOrder 2 0 0 (fI t) (f12_hasOrder x1 x2 S) [vR (some 146), vI x1, vI x2] (MM t S) := by
  refine Ct_of_J [some (vR (some 146)), some (vI x1), some (vI x2)] (by decide) rfl (fun h => by cases h) (Nat.le_of_ble_eq_true rfl) (And.intro rfl (And.intro rfl (And.intro rfl (trivial)))) ?_
  unfold f12_hasOrder
  refine J_iload_n dX12_hasOrder_0 rfl rfl ?_
  refine J_if_lt (tgt := 17) dX12_hasOrder_1 (by decide) (fun z1 => ?_) (fun z1 => ?_)
  · refine J_iconst (v := nI 0) dX12_hasOrder_17 (by decide) ?_
    exact J_zreturn (by decide) rfl (Nat.le_refl _) (Nat.le_refl _) rfl dX12_hasOrder_18
  · refine J_iload_n dX12_hasOrder_4 rfl rfl ?_
    refine J_aload_n dX12_hasOrder_5 rfl rfl ?_
    refine J_iload_n dX12_hasOrder_6 rfl rfl ?_
    refine K_callV_i (As := [vI x1]) mcX12_ordersOf mlX12_103 rfl (by decide) (sq 146 rfl) (ct12_ordersOf G t x1 S) rfl rfl (Nat.le_of_ble_eq_true rfl) (by decide) (Nat.le_of_ble_eq_true rfl) dX12_hasOrder_7 (fun q2 S3 => ?_)
    refine J_icmp_ge (tgt := 17) dX12_hasOrder_10 (by decide) (fun z4 => ?_) (fun z4 => ?_)
    · refine J_iconst (v := nI 0) dX12_hasOrder_17 (by decide) ?_
      exact J_zreturn (by decide) rfl (Nat.le_refl _) (Nat.le_refl _) rfl dX12_hasOrder_18
    · refine J_iconst (v := nI 1) dX12_hasOrder_13 (by decide) ?_
      refine J_goto (tgt := 18) dX12_hasOrder_14 (by decide) ?_
      exact J_zreturn (by decide) rfl (Nat.le_refl _) (Nat.le_refl _) rfl dX12_hasOrder_18
theorem dX12_sumOf_0 : decode cX12_sumOf 0 = .ok (.iconst 0, 1) := by decide +kernel
theorem dX12_sumOf_1 : decode cX12_sumOf 1 = .ok (.istore_n 2, 1) := by decide +kernel
theorem dX12_sumOf_2 : decode cX12_sumOf 2 = .ok (.iconst 0, 1) := by decide +kernel
theorem dX12_sumOf_3 : decode cX12_sumOf 3 = .ok (.istore_n 3, 1) := by decide +kernel
theorem dX12_sumOf_4 : decode cX12_sumOf 4 = .ok (.iload_n 3, 1) := by decide +kernel
theorem dX12_sumOf_5 : decode cX12_sumOf 5 = .ok (.aload_n 0, 1) := by decide +kernel
theorem dX12_sumOf_6 : decode cX12_sumOf 6 = .ok (.iload_n 1, 1) := by decide +kernel
theorem dX12_sumOf_7 : decode cX12_sumOf 7 = .ok (.invokevirtual 103, 3) := by decide +kernel
theorem dX12_sumOf_10 : decode cX12_sumOf 10 = .ok (.if_icmp .ge 26, 3) := by decide +kernel
theorem dX12_sumOf_13 : decode cX12_sumOf 13 = .ok (.iload_n 2, 1) := by decide +kernel
theorem dX12_sumOf_14 : decode cX12_sumOf 14 = .ok (.bipush 64, 2) := by decide +kernel
theorem dX12_sumOf_16 : decode cX12_sumOf 16 = .ok (.aload_n 0, 1) := by decide +kernel
theorem dX12_sumOf_17 : decode cX12_sumOf 17 = .ok (.getfield 9, 3) := by decide +kernel
theorem dX12_sumOf_20 : decode cX12_sumOf 20 = .ok (.bipush 12, 2) := by decide +kernel
theorem dX12_sumOf_22 : decode cX12_sumOf 22 = .ok (.iload_n 1, 1) := by decide +kernel
theorem dX12_sumOf_23 : decode cX12_sumOf 23 = .ok (.imul, 1) := by decide +kernel
theorem dX12_sumOf_24 : decode cX12_sumOf 24 = .ok (.iload_n 3, 1) := by decide +kernel
theorem dX12_sumOf_25 : decode cX12_sumOf 25 = .ok (.iadd, 1) := by decide +kernel
theorem dX12_sumOf_26 : decode cX12_sumOf 26 = .ok (.iaload, 1) := by decide +kernel
theorem dX12_sumOf_27 : decode cX12_sumOf 27 = .ok (.ishr, 1) := by decide +kernel
theorem dX12_sumOf_28 : decode cX12_sumOf 28 = .ok (.iadd, 1) := by decide +kernel
theorem dX12_sumOf_29 : decode cX12_sumOf 29 = .ok (.istore_n 2, 1) := by decide +kernel
theorem dX12_sumOf_30 : decode cX12_sumOf 30 = .ok (.iinc 3 1, 3) := by decide +kernel
theorem dX12_sumOf_33 : decode cX12_sumOf 33 = .ok (.goto (-29), 3) := by decide +kernel
theorem dX12_sumOf_36 : decode cX12_sumOf 36 = .ok (.iload_n 2, 1) := by decide +kernel
theorem dX12_sumOf_37 : decode cX12_sumOf 37 = .ok (.ireturn, 1) := by decide +kernel
set_option maxRecDepth 100000 in
set_option maxHeartbeats 4000000 in
theorem t12_sumOf_h4 (G : Gm) (t : Nat) (N : Nat) (x1 : Int32)    : ∀ (n : Nat) (x2 : Int32) (x3 : Int32) (S : St), J G YX12_sumOf 2 0 0 (fI t) 0 0 4 [some (vR (some 146)), some (vI x1), some (vI x2), some (vI x3)] [] (MM t S) (f12_sumOf_h4 N x1 n x2 x3 S) := by
  intro n
  induction n with
  | zero => intro x2 x3 S; exact J_none
  | succ n ih =>
    intro x2 x3 S
    rw [f12_sumOf_h4]
    refine J_iload_n dX12_sumOf_4 rfl rfl ?_
    refine J_aload_n dX12_sumOf_5 rfl rfl ?_
    refine J_iload_n dX12_sumOf_6 rfl rfl ?_
    refine K_callV_i (As := [vI x1]) mcX12_ordersOf mlX12_103 rfl (by decide) (sq 146 rfl) (ct12_ordersOf G t x1 S) rfl rfl (Nat.le_of_ble_eq_true rfl) (by decide) (Nat.le_of_ble_eq_true rfl) dX12_sumOf_7 (fun q1 S2 => ?_)
    refine J_icmp_ge (tgt := 36) dX12_sumOf_10 (by decide) (fun z3 => ?_) (fun z3 => ?_)
    · refine J_iload_n dX12_sumOf_36 rfl rfl ?_
      exact J_ireturn rfl (Nat.le_refl _) (Nat.le_refl _) rfl dX12_sumOf_37
    · refine J_iload_n dX12_sumOf_13 rfl rfl ?_
      refine J_bipush (v := nI 64) dX12_sumOf_14 (by decide) ?_
      refine J_aload_n dX12_sumOf_16 rfl rfl ?_
      refine K_getR (r := some (147)) cf12 flX12_9 (sq 146 rfl) rfl (Or.inr ⟨_, rfl⟩) dX12_sumOf_17 ?_
      refine J_bipush (v := nI 12) dX12_sumOf_20 (by decide) ?_
      refine J_iload_n dX12_sumOf_22 rfl rfl ?_
      refine J_imul dX12_sumOf_23 ?_
      refine J_iload_n dX12_sumOf_24 rfl rfl ?_
      refine J_iadd dX12_sumOf_25 ?_
      refine K_iald (sq 147 rfl) dX12_sumOf_26 ?_
      refine J_ishr dX12_sumOf_27 ?_
      refine J_iadd dX12_sumOf_28 ?_
      refine J_ltI (fun v4 _ => ?_)
      refine J_istore_n [some (vR (some 146)), some (vI x1), some (vI v4), some (vI x3)] dX12_sumOf_29 rfl (Nat.le_of_ble_eq_true rfl) rfl rfl ?_
      refine J_iinc (v := x3 + nI 1) [some (vR (some 146)), some (vI x1), some (vI v4), some (vI (x3 + nI 1))] dX12_sumOf_30 rfl rfl (Nat.le_of_ble_eq_true rfl) rfl rfl ?_
      refine J_goto (tgt := 4) dX12_sumOf_33 (by decide) ?_
      exact J_sb (ih v4 (x3 + nI 1) S2) (And.intro rfl (And.intro rfl (And.intro rfl (And.intro rfl (trivial)))))
set_option maxRecDepth 100000 in
set_option maxHeartbeats 4000000 in
theorem ct12_sumOf (G : Gm) (t : Nat) (N : Nat) (x1 : Int32)  (S : St) : Ct G YX12_sumOf yX12_sumOf 2 0 0 (fI t) (f12_sumOf N x1 S) [vR (some 146), vI x1] (MM t S) := by
  refine Ct_of_J [some (vR (some 146)), some (vI x1), none, none] (by decide) rfl (fun h => by cases h) (Nat.le_of_ble_eq_true rfl) (And.intro rfl (And.intro rfl (trivial))) ?_
  unfold f12_sumOf
  refine J_iconst (v := nI 0) dX12_sumOf_0 (by decide) ?_
  refine J_istore_n [some (vR (some 146)), some (vI x1), some (vI (nI 0)), none] dX12_sumOf_1 rfl (Nat.le_of_ble_eq_true rfl) rfl rfl ?_
  refine J_iconst (v := nI 0) dX12_sumOf_2 (by decide) ?_
  refine J_istore_n [some (vR (some 146)), some (vI x1), some (vI (nI 0)), some (vI (nI 0))] dX12_sumOf_3 rfl (Nat.le_of_ble_eq_true rfl) rfl rfl ?_
  exact J_sb (t12_sumOf_h4 G t N x1 N (nI 0) (nI 0) S) (And.intro rfl (And.intro rfl (And.intro rfl (And.intro rfl (trivial)))))
theorem dX12_giveCodes_0 : decode cX12_giveCodes 0 = .ok (.iconst 0, 1) := by decide +kernel
theorem dX12_giveCodes_1 : decode cX12_giveCodes 1 = .ok (.istore_n 2, 1) := by decide +kernel
theorem dX12_giveCodes_2 : decode cX12_giveCodes 2 = .ok (.iconst 0, 1) := by decide +kernel
theorem dX12_giveCodes_3 : decode cX12_giveCodes 3 = .ok (.istore_n 3, 1) := by decide +kernel
theorem dX12_giveCodes_4 : decode cX12_giveCodes 4 = .ok (.iconst 0, 1) := by decide +kernel
theorem dX12_giveCodes_5 : decode cX12_giveCodes 5 = .ok (.istore 4, 2) := by decide +kernel
theorem dX12_giveCodes_7 : decode cX12_giveCodes 7 = .ok (.iconst 1, 1) := by decide +kernel
theorem dX12_giveCodes_8 : decode cX12_giveCodes 8 = .ok (.istore 5, 2) := by decide +kernel
theorem dX12_giveCodes_10 : decode cX12_giveCodes 10 = .ok (.iload 5, 2) := by decide +kernel
theorem dX12_giveCodes_12 : decode cX12_giveCodes 12 = .ok (.bipush 6, 2) := by decide +kernel
theorem dX12_giveCodes_14 : decode cX12_giveCodes 14 = .ok (.if_icmp .gt 96, 3) := by decide +kernel
theorem dX12_giveCodes_17 : decode cX12_giveCodes 17 = .ok (.iconst 0, 1) := by decide +kernel
theorem dX12_giveCodes_18 : decode cX12_giveCodes 18 = .ok (.istore 6, 2) := by decide +kernel
theorem dX12_giveCodes_20 : decode cX12_giveCodes 20 = .ok (.iload 6, 2) := by decide +kernel
theorem dX12_giveCodes_22 : decode cX12_giveCodes 22 = .ok (.aload_n 0, 1) := by decide +kernel
theorem dX12_giveCodes_23 : decode cX12_giveCodes 23 = .ok (.iload_n 1, 1) := by decide +kernel
theorem dX12_giveCodes_24 : decode cX12_giveCodes 24 = .ok (.invokevirtual 103, 3) := by decide +kernel
theorem dX12_giveCodes_27 : decode cX12_giveCodes 27 = .ok (.if_icmp .ge 77, 3) := by decide +kernel
theorem dX12_giveCodes_30 : decode cX12_giveCodes 30 = .ok (.aload_n 0, 1) := by decide +kernel
theorem dX12_giveCodes_31 : decode cX12_giveCodes 31 = .ok (.getfield 9, 3) := by decide +kernel
theorem dX12_giveCodes_34 : decode cX12_giveCodes 34 = .ok (.bipush 12, 2) := by decide +kernel
theorem dX12_giveCodes_36 : decode cX12_giveCodes 36 = .ok (.iload_n 1, 1) := by decide +kernel
theorem dX12_giveCodes_37 : decode cX12_giveCodes 37 = .ok (.imul, 1) := by decide +kernel
theorem dX12_giveCodes_38 : decode cX12_giveCodes 38 = .ok (.iload 6, 2) := by decide +kernel
theorem dX12_giveCodes_40 : decode cX12_giveCodes 40 = .ok (.iadd, 1) := by decide +kernel
theorem dX12_giveCodes_41 : decode cX12_giveCodes 41 = .ok (.iaload, 1) := by decide +kernel
theorem dX12_giveCodes_42 : decode cX12_giveCodes 42 = .ok (.iload 5, 2) := by decide +kernel
theorem dX12_giveCodes_44 : decode cX12_giveCodes 44 = .ok (.if_icmp .ne 54, 3) := by decide +kernel
theorem dX12_giveCodes_47 : decode cX12_giveCodes 47 = .ok (.iload_n 2, 1) := by decide +kernel
theorem dX12_giveCodes_48 : decode cX12_giveCodes 48 = .ok (.ifCond .ne 7, 3) := by decide +kernel
theorem dX12_giveCodes_51 : decode cX12_giveCodes 51 = .ok (.iconst 0, 1) := by decide +kernel
theorem dX12_giveCodes_52 : decode cX12_giveCodes 52 = .ok (.goto 12, 3) := by decide +kernel
theorem dX12_giveCodes_55 : decode cX12_giveCodes 55 = .ok (.iload_n 3, 1) := by decide +kernel
theorem dX12_giveCodes_56 : decode cX12_giveCodes 56 = .ok (.iconst 1, 1) := by decide +kernel
theorem dX12_giveCodes_57 : decode cX12_giveCodes 57 = .ok (.iadd, 1) := by decide +kernel
theorem dX12_giveCodes_58 : decode cX12_giveCodes 58 = .ok (.iload 5, 2) := by decide +kernel
theorem dX12_giveCodes_60 : decode cX12_giveCodes 60 = .ok (.iload 4, 2) := by decide +kernel
theorem dX12_giveCodes_62 : decode cX12_giveCodes 62 = .ok (.isub, 1) := by decide +kernel
theorem dX12_giveCodes_63 : decode cX12_giveCodes 63 = .ok (.ishl, 1) := by decide +kernel
theorem dX12_giveCodes_64 : decode cX12_giveCodes 64 = .ok (.istore_n 3, 1) := by decide +kernel
theorem dX12_giveCodes_65 : decode cX12_giveCodes 65 = .ok (.aload_n 0, 1) := by decide +kernel
theorem dX12_giveCodes_66 : decode cX12_giveCodes 66 = .ok (.getfield 13, 3) := by decide +kernel
theorem dX12_giveCodes_69 : decode cX12_giveCodes 69 = .ok (.bipush 12, 2) := by decide +kernel
theorem dX12_giveCodes_71 : decode cX12_giveCodes 71 = .ok (.iload_n 1, 1) := by decide +kernel
theorem dX12_giveCodes_72 : decode cX12_giveCodes 72 = .ok (.imul, 1) := by decide +kernel
theorem dX12_giveCodes_73 : decode cX12_giveCodes 73 = .ok (.iload 6, 2) := by decide +kernel
theorem dX12_giveCodes_75 : decode cX12_giveCodes 75 = .ok (.iadd, 1) := by decide +kernel
theorem dX12_giveCodes_76 : decode cX12_giveCodes 76 = .ok (.iload_n 3, 1) := by decide +kernel
theorem dX12_giveCodes_77 : decode cX12_giveCodes 77 = .ok (.iastore, 1) := by decide +kernel
theorem dX12_giveCodes_78 : decode cX12_giveCodes 78 = .ok (.aload_n 0, 1) := by decide +kernel
theorem dX12_giveCodes_79 : decode cX12_giveCodes 79 = .ok (.getfield 16, 3) := by decide +kernel
theorem dX12_giveCodes_82 : decode cX12_giveCodes 82 = .ok (.bipush 12, 2) := by decide +kernel
theorem dX12_giveCodes_84 : decode cX12_giveCodes 84 = .ok (.iload_n 1, 1) := by decide +kernel
theorem dX12_giveCodes_85 : decode cX12_giveCodes 85 = .ok (.imul, 1) := by decide +kernel
theorem dX12_giveCodes_86 : decode cX12_giveCodes 86 = .ok (.iload_n 2, 1) := by decide +kernel
theorem dX12_giveCodes_87 : decode cX12_giveCodes 87 = .ok (.iadd, 1) := by decide +kernel
theorem dX12_giveCodes_88 : decode cX12_giveCodes 88 = .ok (.iload 6, 2) := by decide +kernel
theorem dX12_giveCodes_90 : decode cX12_giveCodes 90 = .ok (.iastore, 1) := by decide +kernel
theorem dX12_giveCodes_91 : decode cX12_giveCodes 91 = .ok (.iload 5, 2) := by decide +kernel
theorem dX12_giveCodes_93 : decode cX12_giveCodes 93 = .ok (.istore 4, 2) := by decide +kernel
theorem dX12_giveCodes_95 : decode cX12_giveCodes 95 = .ok (.iinc 2 1, 3) := by decide +kernel
theorem dX12_giveCodes_98 : decode cX12_giveCodes 98 = .ok (.iinc 6 1, 3) := by decide +kernel
theorem dX12_giveCodes_101 : decode cX12_giveCodes 101 = .ok (.goto (-81), 3) := by decide +kernel
theorem dX12_giveCodes_104 : decode cX12_giveCodes 104 = .ok (.iinc 5 1, 3) := by decide +kernel
theorem dX12_giveCodes_107 : decode cX12_giveCodes 107 = .ok (.goto (-97), 3) := by decide +kernel
theorem dX12_giveCodes_110 : decode cX12_giveCodes 110 = .ok (.return_, 1) := by decide +kernel
set_option maxRecDepth 100000 in
set_option maxHeartbeats 4000000 in
theorem t12_giveCodes_j64 (G : Gm) (t : Nat) (N : Nat) (x1 : Int32) (x2 : Int32) (x5 : Int32) (x6 : Int32)  (k10 : Int32 → Int32 → Int32 → Int32 → St → Option (Unit × St)) (k20 : Int32 → Int32 → Int32 → Int32 → St → Option (Unit × St)) (hk10 : ∀ (yx2 : Int32) (yx3 : Int32) (yx4 : Int32) (yx5 : Int32) (S : St), J G YX12_giveCodes 2 0 0 (fV t) 0 0 10 [some (vR (some 146)), some (vI x1), some (vI yx2), some (vI yx3), some (vI yx4), some (vI yx5), none] [] (MM t S) (k10 yx2 yx3 yx4 yx5 S)) (hk20 : ∀ (yx2 : Int32) (yx3 : Int32) (yx4 : Int32) (yx6 : Int32) (S : St), J G YX12_giveCodes 2 0 0 (fV t) 0 0 20 [some (vR (some 146)), some (vI x1), some (vI yx2), some (vI yx3), some (vI yx4), some (vI x5), some (vI yx6)] [] (MM t S) (k20 yx2 yx3 yx4 yx6 S)) : ∀ (xs0 : Int32) (S : St), J G YX12_giveCodes 2 0 0 (fV t) 0 0 64 [some (vR (some 146)), some (vI x1), some (vI x2), none, none, some (vI x5), some (vI x6)] [vI xs0] (MM t S) (f12_giveCodes_j64 N x1 x2 x5 x6 k10 k20 xs0 S) := by
  intro xs0 S
  unfold f12_giveCodes_j64
  refine J_istore_n [some (vR (some 146)), some (vI x1), some (vI x2), some (vI xs0), none, some (vI x5), some (vI x6)] dX12_giveCodes_64 rfl (Nat.le_of_ble_eq_true rfl) rfl rfl ?_
  refine J_aload_n dX12_giveCodes_65 rfl rfl ?_
  refine K_getR (r := some (148)) cf12 flX12_13 (sq 146 rfl) rfl (Or.inr ⟨_, rfl⟩) dX12_giveCodes_66 ?_
  refine J_bipush (v := nI 12) dX12_giveCodes_69 (by decide) ?_
  refine J_iload_n dX12_giveCodes_71 rfl rfl ?_
  refine J_imul dX12_giveCodes_72 ?_
  refine J_iload dX12_giveCodes_73 rfl ?_
  refine J_iadd dX12_giveCodes_75 ?_
  refine J_iload_n dX12_giveCodes_76 rfl rfl ?_
  refine K_iast (sq 148 rfl) dX12_giveCodes_77 ?_
  refine J_ltS (fun S1 _ => ?_)
  refine J_aload_n dX12_giveCodes_78 rfl rfl ?_
  refine K_getR (r := some (149)) cf12 flX12_16 (sq 146 rfl) rfl (Or.inr ⟨_, rfl⟩) dX12_giveCodes_79 ?_
  refine J_bipush (v := nI 12) dX12_giveCodes_82 (by decide) ?_
  refine J_iload_n dX12_giveCodes_84 rfl rfl ?_
  refine J_imul dX12_giveCodes_85 ?_
  refine J_iload_n dX12_giveCodes_86 rfl rfl ?_
  refine J_iadd dX12_giveCodes_87 ?_
  refine J_iload dX12_giveCodes_88 rfl ?_
  refine K_iast (sq 149 rfl) dX12_giveCodes_90 ?_
  refine J_ltS (fun S2 _ => ?_)
  refine J_iload dX12_giveCodes_91 rfl ?_
  refine J_istore [some (vR (some 146)), some (vI x1), some (vI x2), some (vI xs0), some (vI x5), some (vI x5), some (vI x6)] dX12_giveCodes_93 (Nat.le_of_ble_eq_true rfl) rfl rfl ?_
  refine J_iinc (v := x2 + nI 1) [some (vR (some 146)), some (vI x1), some (vI (x2 + nI 1)), some (vI xs0), some (vI x5), some (vI x5), some (vI x6)] dX12_giveCodes_95 rfl rfl (Nat.le_of_ble_eq_true rfl) rfl rfl ?_
  refine J_iinc (v := x6 + nI 1) [some (vR (some 146)), some (vI x1), some (vI (x2 + nI 1)), some (vI xs0), some (vI x5), some (vI x5), some (vI (x6 + nI 1))] dX12_giveCodes_98 rfl rfl (Nat.le_of_ble_eq_true rfl) rfl rfl ?_
  refine J_goto (tgt := 20) dX12_giveCodes_101 (by decide) ?_
  exact J_sb (hk20 (x2 + nI 1) xs0 x5 (x6 + nI 1) S2) (And.intro rfl (And.intro rfl (And.intro rfl (And.intro rfl (And.intro rfl (And.intro rfl (And.intro rfl (trivial))))))))
set_option maxRecDepth 100000 in
set_option maxHeartbeats 4000000 in
theorem t12_giveCodes_h20 (G : Gm) (t : Nat) (N : Nat) (x1 : Int32) (x5 : Int32)  (k10 : Int32 → Int32 → Int32 → Int32 → St → Option (Unit × St)) (hk10 : ∀ (yx2 : Int32) (yx3 : Int32) (yx4 : Int32) (yx5 : Int32) (S : St), J G YX12_giveCodes 2 0 0 (fV t) 0 0 10 [some (vR (some 146)), some (vI x1), some (vI yx2), some (vI yx3), some (vI yx4), some (vI yx5), none] [] (MM t S) (k10 yx2 yx3 yx4 yx5 S)) : ∀ (n : Nat) (x2 : Int32) (x3 : Int32) (x4 : Int32) (x6 : Int32) (S : St), J G YX12_giveCodes 2 0 0 (fV t) 0 0 20 [some (vR (some 146)), some (vI x1), some (vI x2), some (vI x3), some (vI x4), some (vI x5), some (vI x6)] [] (MM t S) (f12_giveCodes_h20 N x1 x5 k10 n x2 x3 x4 x6 S) := by
  intro n
  induction n with
  | zero => intro x2 x3 x4 x6 S; exact J_none
  | succ n ih =>
    intro x2 x3 x4 x6 S
    rw [f12_giveCodes_h20]
    refine J_iload dX12_giveCodes_20 rfl ?_
    refine J_aload_n dX12_giveCodes_22 rfl rfl ?_
    refine J_iload_n dX12_giveCodes_23 rfl rfl ?_
    refine K_callV_i (As := [vI x1]) mcX12_ordersOf mlX12_103 rfl (by decide) (sq 146 rfl) (ct12_ordersOf G t x1 S) rfl rfl (Nat.le_of_ble_eq_true rfl) (by decide) (Nat.le_of_ble_eq_true rfl) dX12_giveCodes_24 (fun q1 S2 => ?_)
    refine J_icmp_ge (tgt := 104) dX12_giveCodes_27 (by decide) (fun z3 => ?_) (fun z3 => ?_)
    · refine J_iinc (v := x5 + nI 1) [some (vR (some 146)), some (vI x1), some (vI x2), some (vI x3), some (vI x4), some (vI (x5 + nI 1)), some (vI x6)] dX12_giveCodes_104 rfl rfl (Nat.le_of_ble_eq_true rfl) rfl rfl ?_
      refine J_goto (tgt := 10) dX12_giveCodes_107 (by decide) ?_
      exact J_sb (hk10 x2 x3 x4 (x5 + nI 1) S2) (And.intro rfl (And.intro rfl (And.intro rfl (And.intro rfl (And.intro rfl (And.intro rfl (trivial)))))))
    · refine J_aload_n dX12_giveCodes_30 rfl rfl ?_
      refine K_getR (r := some (147)) cf12 flX12_9 (sq 146 rfl) rfl (Or.inr ⟨_, rfl⟩) dX12_giveCodes_31 ?_
      refine J_bipush (v := nI 12) dX12_giveCodes_34 (by decide) ?_
      refine J_iload_n dX12_giveCodes_36 rfl rfl ?_
      refine J_imul dX12_giveCodes_37 ?_
      refine J_iload dX12_giveCodes_38 rfl ?_
      refine J_iadd dX12_giveCodes_40 ?_
      refine K_iald (sq 147 rfl) dX12_giveCodes_41 ?_
      refine J_iload dX12_giveCodes_42 rfl ?_
      refine J_icmp_ne (tgt := 98) dX12_giveCodes_44 (by decide) (fun z4 => ?_) (fun z4 => ?_)
      · refine J_iload_n dX12_giveCodes_47 rfl rfl ?_
        refine J_if_ne (tgt := 55) dX12_giveCodes_48 (by decide) (fun z5 => ?_) (fun z5 => ?_)
        · refine J_iconst (v := nI 0) dX12_giveCodes_51 (by decide) ?_
          refine J_goto (tgt := 64) dX12_giveCodes_52 (by decide) ?_
          exact J_sb (t12_giveCodes_j64 G t N x1 x2 x5 x6 k10 (f12_giveCodes_h20 N x1 x5 k10 n) hk10 ih (nI 0) S2) (And.intro rfl (And.intro rfl (And.intro rfl (And.intro rfl (And.intro rfl (trivial))))))
        · refine J_iload_n dX12_giveCodes_55 rfl rfl ?_
          refine J_iconst (v := nI 1) dX12_giveCodes_56 (by decide) ?_
          refine J_iadd dX12_giveCodes_57 ?_
          refine J_iload dX12_giveCodes_58 rfl ?_
          refine J_iload dX12_giveCodes_60 rfl ?_
          refine J_isub dX12_giveCodes_62 ?_
          refine J_ishl dX12_giveCodes_63 ?_
          exact J_sb (t12_giveCodes_j64 G t N x1 x2 x5 x6 k10 (f12_giveCodes_h20 N x1 x5 k10 n) hk10 ih (shlI (x3 + (nI 1)) (x5 - x4)) S2) (And.intro rfl (And.intro rfl (And.intro rfl (And.intro rfl (And.intro rfl (trivial))))))
      · refine J_iinc (v := x6 + nI 1) [some (vR (some 146)), some (vI x1), some (vI x2), some (vI x3), some (vI x4), some (vI x5), some (vI (x6 + nI 1))] dX12_giveCodes_98 rfl rfl (Nat.le_of_ble_eq_true rfl) rfl rfl ?_
        refine J_goto (tgt := 20) dX12_giveCodes_101 (by decide) ?_
        exact J_sb (ih x2 x3 x4 (x6 + nI 1) S2) (And.intro rfl (And.intro rfl (And.intro rfl (And.intro rfl (And.intro rfl (And.intro rfl (And.intro rfl (trivial))))))))
set_option maxRecDepth 100000 in
set_option maxHeartbeats 4000000 in
theorem t12_giveCodes_h10 (G : Gm) (t : Nat) (N : Nat) (x1 : Int32)    : ∀ (n : Nat) (x2 : Int32) (x3 : Int32) (x4 : Int32) (x5 : Int32) (S : St), J G YX12_giveCodes 2 0 0 (fV t) 0 0 10 [some (vR (some 146)), some (vI x1), some (vI x2), some (vI x3), some (vI x4), some (vI x5), none] [] (MM t S) (f12_giveCodes_h10 N x1 n x2 x3 x4 x5 S) := by
  intro n
  induction n with
  | zero => intro x2 x3 x4 x5 S; exact J_none
  | succ n ih =>
    intro x2 x3 x4 x5 S
    rw [f12_giveCodes_h10]
    refine J_iload dX12_giveCodes_10 rfl ?_
    refine J_bipush (v := nI 6) dX12_giveCodes_12 (by decide) ?_
    refine J_icmp_gt (tgt := 110) dX12_giveCodes_14 (by decide) (fun z1 => ?_) (fun z1 => ?_)
    · exact J_return rfl (Nat.le_refl _) (Nat.le_refl _) rfl dX12_giveCodes_110
    · refine J_iconst (v := nI 0) dX12_giveCodes_17 (by decide) ?_
      refine J_istore [some (vR (some 146)), some (vI x1), some (vI x2), some (vI x3), some (vI x4), some (vI x5), some (vI (nI 0))] dX12_giveCodes_18 (Nat.le_of_ble_eq_true rfl) rfl rfl ?_
      exact J_sb (t12_giveCodes_h20 G t N x1 x5 (f12_giveCodes_h10 N x1 n) ih N x2 x3 x4 (nI 0) S) (And.intro rfl (And.intro rfl (And.intro rfl (And.intro rfl (And.intro rfl (And.intro rfl (And.intro rfl (trivial))))))))
set_option maxRecDepth 100000 in
set_option maxHeartbeats 4000000 in
theorem ct12_giveCodes (G : Gm) (t : Nat) (N : Nat) (x1 : Int32)  (S : St) : Ct G YX12_giveCodes yX12_giveCodes 2 0 0 (fV t) (f12_giveCodes N x1 S) [vR (some 146), vI x1] (MM t S) := by
  refine Ct_of_J [some (vR (some 146)), some (vI x1), none, none, none, none, none] (by decide) rfl (fun h => by cases h) (Nat.le_of_ble_eq_true rfl) (And.intro rfl (And.intro rfl (trivial))) ?_
  unfold f12_giveCodes
  refine J_iconst (v := nI 0) dX12_giveCodes_0 (by decide) ?_
  refine J_istore_n [some (vR (some 146)), some (vI x1), some (vI (nI 0)), none, none, none, none] dX12_giveCodes_1 rfl (Nat.le_of_ble_eq_true rfl) rfl rfl ?_
  refine J_iconst (v := nI 0) dX12_giveCodes_2 (by decide) ?_
  refine J_istore_n [some (vR (some 146)), some (vI x1), some (vI (nI 0)), some (vI (nI 0)), none, none, none] dX12_giveCodes_3 rfl (Nat.le_of_ble_eq_true rfl) rfl rfl ?_
  refine J_iconst (v := nI 0) dX12_giveCodes_4 (by decide) ?_
  refine J_istore [some (vR (some 146)), some (vI x1), some (vI (nI 0)), some (vI (nI 0)), some (vI (nI 0)), none, none] dX12_giveCodes_5 (Nat.le_of_ble_eq_true rfl) rfl rfl ?_
  refine J_iconst (v := nI 1) dX12_giveCodes_7 (by decide) ?_
  refine J_istore [some (vR (some 146)), some (vI x1), some (vI (nI 0)), some (vI (nI 0)), some (vI (nI 0)), some (vI (nI 1)), none] dX12_giveCodes_8 (Nat.le_of_ble_eq_true rfl) rfl rfl ?_
  exact J_sb (t12_giveCodes_h10 G t N x1 N (nI 0) (nI 0) (nI 0) (nI 1) S) (And.intro rfl (And.intro rfl (And.intro rfl (And.intro rfl (And.intro rfl (And.intro rfl (trivial)))))))
theorem dX12_language_0 : decode cX12_language 0 = .ok (.iload_n 1, 1) := by decide +kernel
theorem dX12_language_1 : decode cX12_language 1 = .ok (.istore_n 2, 1) := by decide +kernel
theorem dX12_language_2 : decode cX12_language 2 = .ok (.iload_n 1, 1) := by decide +kernel
theorem dX12_language_3 : decode cX12_language 3 = .ok (.ifCond .lt 7, 3) := by decide +kernel
theorem dX12_language_6 : decode cX12_language 6 = .ok (.iconst 1, 1) := by decide +kernel
theorem dX12_language_7 : decode cX12_language 7 = .ok (.goto 4, 3) := by decide +kernel
theorem dX12_language_10 : decode cX12_language 10 = .ok (.iconst 0, 1) := by decide +kernel
theorem dX12_language_11 : decode cX12_language 11 = .ok (.istore_n 3, 1) := by decide +kernel
theorem dX12_language_12 : decode cX12_language 12 = .ok (.bipush 7, 2) := by decide +kernel
theorem dX12_language_14 : decode cX12_language 14 = .ok (.istore 4, 2) := by decide +kernel
theorem dX12_language_16 : decode cX12_language 16 = .ok (.iload 4, 2) := by decide +kernel
theorem dX12_language_18 : decode cX12_language 18 = .ok (.ifCond .lt 39, 3) := by decide +kernel
theorem dX12_language_21 : decode cX12_language 21 = .ok (.iload_n 3, 1) := by decide +kernel
theorem dX12_language_22 : decode cX12_language 22 = .ok (.ifCond .eq 22, 3) := by decide +kernel
theorem dX12_language_25 : decode cX12_language 25 = .ok (.iload_n 2, 1) := by decide +kernel
theorem dX12_language_26 : decode cX12_language 26 = .ok (.bipush 10, 2) := by decide +kernel
theorem dX12_language_28 : decode cX12_language 28 = .ok (.irem, 1) := by decide +kernel
theorem dX12_language_29 : decode cX12_language 29 = .ok (.i2l, 1) := by decide +kernel
theorem dX12_language_30 : decode cX12_language 30 = .ok (.lconst 1, 1) := by decide +kernel
theorem dX12_language_31 : decode cX12_language 31 = .ok (.ldc2_w 107, 3) := by decide +kernel
theorem dX12_language_34 : decode cX12_language 34 = .ok (.invokestatic 109, 3) := by decide +kernel
theorem dX12_language_37 : decode cX12_language 37 = .ok (.ifCond .eq 7, 3) := by decide +kernel
theorem dX12_language_40 : decode cX12_language 40 = .ok (.iconst 1, 1) := by decide +kernel
theorem dX12_language_41 : decode cX12_language 41 = .ok (.goto 4, 3) := by decide +kernel
theorem dX12_language_44 : decode cX12_language 44 = .ok (.iconst 0, 1) := by decide +kernel
theorem dX12_language_45 : decode cX12_language 45 = .ok (.istore_n 3, 1) := by decide +kernel
theorem dX12_language_46 : decode cX12_language 46 = .ok (.iload_n 2, 1) := by decide +kernel
theorem dX12_language_47 : decode cX12_language 47 = .ok (.bipush 10, 2) := by decide +kernel
theorem dX12_language_49 : decode cX12_language 49 = .ok (.idiv, 1) := by decide +kernel
theorem dX12_language_50 : decode cX12_language 50 = .ok (.istore_n 2, 1) := by decide +kernel
theorem dX12_language_51 : decode cX12_language 51 = .ok (.iinc 4 (-1), 3) := by decide +kernel
theorem dX12_language_54 : decode cX12_language 54 = .ok (.goto (-38), 3) := by decide +kernel
theorem dX12_language_57 : decode cX12_language 57 = .ok (.iload_n 3, 1) := by decide +kernel
theorem dX12_language_58 : decode cX12_language 58 = .ok (.ifCond .eq 7, 3) := by decide +kernel
theorem dX12_language_61 : decode cX12_language 61 = .ok (.iload_n 2, 1) := by decide +kernel
theorem dX12_language_62 : decode cX12_language 62 = .ok (.ifCond .le 5, 3) := by decide +kernel
theorem dX12_language_65 : decode cX12_language 65 = .ok (.iconst (-1), 1) := by decide +kernel
theorem dX12_language_66 : decode cX12_language 66 = .ok (.ireturn, 1) := by decide +kernel
theorem dX12_language_67 : decode cX12_language 67 = .ok (.iconst 0, 1) := by decide +kernel
theorem dX12_language_68 : decode cX12_language 68 = .ok (.istore 4, 2) := by decide +kernel
theorem dX12_language_70 : decode cX12_language 70 = .ok (.iload_n 1, 1) := by decide +kernel
theorem dX12_language_71 : decode cX12_language 71 = .ok (.istore_n 2, 1) := by decide +kernel
theorem dX12_language_72 : decode cX12_language 72 = .ok (.bipush 7, 2) := by decide +kernel
theorem dX12_language_74 : decode cX12_language 74 = .ok (.istore 5, 2) := by decide +kernel
theorem dX12_language_76 : decode cX12_language 76 = .ok (.iload 5, 2) := by decide +kernel
theorem dX12_language_78 : decode cX12_language 78 = .ok (.ifCond .lt 26, 3) := by decide +kernel
theorem dX12_language_81 : decode cX12_language 81 = .ok (.iload 4, 2) := by decide +kernel
theorem dX12_language_83 : decode cX12_language 83 = .ok (.bipush 64, 2) := by decide +kernel
theorem dX12_language_85 : decode cX12_language 85 = .ok (.iload_n 2, 1) := by decide +kernel
theorem dX12_language_86 : decode cX12_language 86 = .ok (.bipush 10, 2) := by decide +kernel
theorem dX12_language_88 : decode cX12_language 88 = .ok (.irem, 1) := by decide +kernel
theorem dX12_language_89 : decode cX12_language 89 = .ok (.ishr, 1) := by decide +kernel
theorem dX12_language_90 : decode cX12_language 90 = .ok (.iadd, 1) := by decide +kernel
theorem dX12_language_91 : decode cX12_language 91 = .ok (.istore 4, 2) := by decide +kernel
theorem dX12_language_93 : decode cX12_language 93 = .ok (.iload_n 2, 1) := by decide +kernel
theorem dX12_language_94 : decode cX12_language 94 = .ok (.bipush 10, 2) := by decide +kernel
theorem dX12_language_96 : decode cX12_language 96 = .ok (.idiv, 1) := by decide +kernel
theorem dX12_language_97 : decode cX12_language 97 = .ok (.istore_n 2, 1) := by decide +kernel
theorem dX12_language_98 : decode cX12_language 98 = .ok (.iinc 5 (-1), 3) := by decide +kernel
theorem dX12_language_101 : decode cX12_language 101 = .ok (.goto (-25), 3) := by decide +kernel
theorem dX12_language_104 : decode cX12_language 104 = .ok (.iload 4, 2) := by decide +kernel
theorem dX12_language_106 : decode cX12_language 106 = .ok (.bipush 64, 2) := by decide +kernel
theorem dX12_language_108 : decode cX12_language 108 = .ok (.if_icmp .le 6, 3) := by decide +kernel
theorem dX12_language_111 : decode cX12_language 111 = .ok (.bipush (-5), 2) := by decide +kernel
theorem dX12_language_113 : decode cX12_language 113 = .ok (.ireturn, 1) := by decide +kernel
theorem dX12_language_114 : decode cX12_language 114 = .ok (.aload_n 0, 1) := by decide +kernel
theorem dX12_language_115 : decode cX12_language 115 = .ok (.getfield 100, 3) := by decide +kernel
theorem dX12_language_118 : decode cX12_language 118 = .ok (.bipush 6, 2) := by decide +kernel
theorem dX12_language_120 : decode cX12_language 120 = .ok (.if_icmp .ne 6, 3) := by decide +kernel
theorem dX12_language_123 : decode cX12_language 123 = .ok (.bipush (-3), 2) := by decide +kernel
theorem dX12_language_125 : decode cX12_language 125 = .ok (.ireturn, 1) := by decide +kernel
theorem dX12_language_126 : decode cX12_language 126 = .ok (.iload_n 1, 1) := by decide +kernel
theorem dX12_language_127 : decode cX12_language 127 = .ok (.istore_n 2, 1) := by decide +kernel
theorem dX12_language_128 : decode cX12_language 128 = .ok (.bipush 7, 2) := by decide +kernel
theorem dX12_language_130 : decode cX12_language 130 = .ok (.istore 5, 2) := by decide +kernel
theorem dX12_language_132 : decode cX12_language 132 = .ok (.iload 5, 2) := by decide +kernel
theorem dX12_language_134 : decode cX12_language 134 = .ok (.ifCond .lt 33, 3) := by decide +kernel
theorem dX12_language_137 : decode cX12_language 137 = .ok (.aload_n 0, 1) := by decide +kernel
theorem dX12_language_138 : decode cX12_language 138 = .ok (.getfield 9, 3) := by decide +kernel
theorem dX12_language_141 : decode cX12_language 141 = .ok (.bipush 12, 2) := by decide +kernel
theorem dX12_language_143 : decode cX12_language 143 = .ok (.aload_n 0, 1) := by decide +kernel
theorem dX12_language_144 : decode cX12_language 144 = .ok (.getfield 100, 3) := by decide +kernel
theorem dX12_language_147 : decode cX12_language 147 = .ok (.imul, 1) := by decide +kernel
theorem dX12_language_148 : decode cX12_language 148 = .ok (.iload 5, 2) := by decide +kernel
theorem dX12_language_150 : decode cX12_language 150 = .ok (.iadd, 1) := by decide +kernel
theorem dX12_language_151 : decode cX12_language 151 = .ok (.iload_n 2, 1) := by decide +kernel
theorem dX12_language_152 : decode cX12_language 152 = .ok (.bipush 10, 2) := by decide +kernel
theorem dX12_language_154 : decode cX12_language 154 = .ok (.irem, 1) := by decide +kernel
theorem dX12_language_155 : decode cX12_language 155 = .ok (.iastore, 1) := by decide +kernel
theorem dX12_language_156 : decode cX12_language 156 = .ok (.iload_n 2, 1) := by decide +kernel
theorem dX12_language_157 : decode cX12_language 157 = .ok (.bipush 10, 2) := by decide +kernel
theorem dX12_language_159 : decode cX12_language 159 = .ok (.idiv, 1) := by decide +kernel
theorem dX12_language_160 : decode cX12_language 160 = .ok (.istore_n 2, 1) := by decide +kernel
theorem dX12_language_161 : decode cX12_language 161 = .ok (.iinc 5 (-1), 3) := by decide +kernel
theorem dX12_language_164 : decode cX12_language 164 = .ok (.goto (-32), 3) := by decide +kernel
theorem dX12_language_167 : decode cX12_language 167 = .ok (.aload_n 0, 1) := by decide +kernel
theorem dX12_language_168 : decode cX12_language 168 = .ok (.getfield 25, 3) := by decide +kernel
theorem dX12_language_171 : decode cX12_language 171 = .ok (.aload_n 0, 1) := by decide +kernel
theorem dX12_language_172 : decode cX12_language 172 = .ok (.getfield 100, 3) := by decide +kernel
theorem dX12_language_175 : decode cX12_language 175 = .ok (.iconst 0, 1) := by decide +kernel
theorem dX12_language_176 : decode cX12_language 176 = .ok (.iastore, 1) := by decide +kernel
theorem dX12_language_177 : decode cX12_language 177 = .ok (.aload_n 0, 1) := by decide +kernel
theorem dX12_language_178 : decode cX12_language 178 = .ok (.aload_n 0, 1) := by decide +kernel
theorem dX12_language_179 : decode cX12_language 179 = .ok (.getfield 100, 3) := by decide +kernel
theorem dX12_language_182 : decode cX12_language 182 = .ok (.invokevirtual 113, 3) := by decide +kernel
theorem dX12_language_185 : decode cX12_language 185 = .ok (.aload_n 0, 1) := by decide +kernel
theorem dX12_language_186 : decode cX12_language 186 = .ok (.dup, 1) := by decide +kernel
theorem dX12_language_187 : decode cX12_language 187 = .ok (.getfield 100, 3) := by decide +kernel
theorem dX12_language_190 : decode cX12_language 190 = .ok (.iconst 1, 1) := by decide +kernel
theorem dX12_language_191 : decode cX12_language 191 = .ok (.iadd, 1) := by decide +kernel
theorem dX12_language_192 : decode cX12_language 192 = .ok (.putfield 100, 3) := by decide +kernel
theorem dX12_language_195 : decode cX12_language 195 = .ok (.aload_n 0, 1) := by decide +kernel
theorem dX12_language_196 : decode cX12_language 196 = .ok (.getfield 100, 3) := by decide +kernel
theorem dX12_language_199 : decode cX12_language 199 = .ok (.iconst 1, 1) := by decide +kernel
theorem dX12_language_200 : decode cX12_language 200 = .ok (.isub, 1) := by decide +kernel
theorem dX12_language_201 : decode cX12_language 201 = .ok (.ireturn, 1) := by decide +kernel
set_option maxRecDepth 100000 in
set_option maxHeartbeats 4000000 in
theorem t12_language_h132 (G : Gm) (t : Nat) (N : Nat)     : ∀ (n : Nat) (x2 : Int32) (x5 : Int32) (S : St), J G YX12_language 3 0 0 (fI t) 0 0 132 [some (vR (some 146)), none, some (vI x2), none, none, some (vI x5)] [] (MM t S) (f12_language_h132 N n x2 x5 S) := by
  intro n
  induction n with
  | zero => intro x2 x5 S; exact J_none
  | succ n ih =>
    intro x2 x5 S
    rw [f12_language_h132]
    refine J_iload dX12_language_132 rfl ?_
    refine J_if_lt (tgt := 167) dX12_language_134 (by decide) (fun z1 => ?_) (fun z1 => ?_)
    · refine J_aload_n dX12_language_167 rfl rfl ?_
      refine K_getR (r := some (152)) cf12 flX12_25 (sq 146 rfl) rfl (Or.inr ⟨_, rfl⟩) dX12_language_168 ?_
      refine J_aload_n dX12_language_171 rfl rfl ?_
      refine K_getI cf12 flX12_100 (sq 146 rfl) (Or.inl rfl) dX12_language_172 ?_
      refine J_iconst (v := nI 0) dX12_language_175 (by decide) ?_
      refine K_iast (sq 152 rfl) dX12_language_176 ?_
      refine J_ltS (fun S2 _ => ?_)
      refine J_aload_n dX12_language_177 rfl rfl ?_
      refine J_aload_n dX12_language_178 rfl rfl ?_
      refine K_getI cf12 flX12_100 (sq 146 rfl) (Or.inl rfl) dX12_language_179 ?_
      refine K_callV_v (As := [vI (S2.1 146 6)]) mcX12_giveCodes mlX12_113 rfl (by decide) (sq 146 rfl) (ct12_giveCodes G t N (S2.1 146 6) S2) rfl rfl (Nat.le_of_ble_eq_true rfl) (by decide) (Nat.le_of_ble_eq_true rfl) dX12_language_182 (fun q3 S4 => ?_)
      refine J_aload_n dX12_language_185 rfl rfl ?_
      refine J_dup dX12_language_186 rfl ?_
      refine K_getI cf12 flX12_100 (sq 146 rfl) (Or.inl rfl) dX12_language_187 ?_
      refine J_iconst (v := nI 1) dX12_language_190 (by decide) ?_
      refine J_iadd dX12_language_191 ?_
      refine K_putI cf12 flX12_100 (sq 146 rfl) rfl dX12_language_192 ?_
      refine J_ltS (fun S5 _ => ?_)
      refine J_aload_n dX12_language_195 rfl rfl ?_
      refine K_getI cf12 flX12_100 (sq 146 rfl) (Or.inl rfl) dX12_language_196 ?_
      refine J_iconst (v := nI 1) dX12_language_199 (by decide) ?_
      refine J_isub dX12_language_200 ?_
      exact J_ireturn rfl (Nat.le_refl _) (Nat.le_refl _) rfl dX12_language_201
    · refine J_aload_n dX12_language_137 rfl rfl ?_
      refine K_getR (r := some (147)) cf12 flX12_9 (sq 146 rfl) rfl (Or.inr ⟨_, rfl⟩) dX12_language_138 ?_
      refine J_bipush (v := nI 12) dX12_language_141 (by decide) ?_
      refine J_aload_n dX12_language_143 rfl rfl ?_
      refine K_getI cf12 flX12_100 (sq 146 rfl) (Or.inl rfl) dX12_language_144 ?_
      refine J_imul dX12_language_147 ?_
      refine J_iload dX12_language_148 rfl ?_
      refine J_iadd dX12_language_150 ?_
      refine J_iload_n dX12_language_151 rfl rfl ?_
      refine J_bipush (v := nI 10) dX12_language_152 (by decide) ?_
      refine J_irem (by decide) dX12_language_154 ?_
      refine K_iast (sq 147 rfl) dX12_language_155 ?_
      refine J_ltS (fun S6 _ => ?_)
      refine J_iload_n dX12_language_156 rfl rfl ?_
      refine J_bipush (v := nI 10) dX12_language_157 (by decide) ?_
      refine J_idiv (by decide) dX12_language_159 ?_
      refine J_ltI (fun v7 _ => ?_)
      refine J_istore_n [some (vR (some 146)), none, some (vI v7), none, none, some (vI x5)] dX12_language_160 rfl (Nat.le_of_ble_eq_true rfl) rfl rfl ?_
      refine J_iinc (v := x5 + (-1)) [some (vR (some 146)), none, some (vI v7), none, none, some (vI (x5 + (-1)))] dX12_language_161 rfl rfl (Nat.le_of_ble_eq_true rfl) rfl rfl ?_
      refine J_goto (tgt := 132) dX12_language_164 (by decide) ?_
      exact J_sb (ih v7 (x5 + (-1)) S6) (And.intro rfl (And.intro rfl (And.intro rfl (trivial))))
set_option maxRecDepth 100000 in
set_option maxHeartbeats 4000000 in
theorem t12_language_h76 (G : Gm) (t : Nat) (N : Nat) (x1 : Int32)    : ∀ (n : Nat) (x2 : Int32) (x4 : Int32) (x5 : Int32) (S : St), J G YX12_language 3 0 0 (fI t) 0 0 76 [some (vR (some 146)), some (vI x1), some (vI x2), none, some (vI x4), some (vI x5)] [] (MM t S) (f12_language_h76 N x1 n x2 x4 x5 S) := by
  intro n
  induction n with
  | zero => intro x2 x4 x5 S; exact J_none
  | succ n ih =>
    intro x2 x4 x5 S
    rw [f12_language_h76]
    refine J_iload dX12_language_76 rfl ?_
    refine J_if_lt (tgt := 104) dX12_language_78 (by decide) (fun z1 => ?_) (fun z1 => ?_)
    · refine J_iload dX12_language_104 rfl ?_
      refine J_bipush (v := nI 64) dX12_language_106 (by decide) ?_
      refine J_icmp_le (tgt := 114) dX12_language_108 (by decide) (fun z2 => ?_) (fun z2 => ?_)
      · refine J_aload_n dX12_language_114 rfl rfl ?_
        refine K_getI cf12 flX12_100 (sq 146 rfl) (Or.inl rfl) dX12_language_115 ?_
        refine J_bipush (v := nI 6) dX12_language_118 (by decide) ?_
        refine J_icmp_ne (tgt := 126) dX12_language_120 (by decide) (fun z3 => ?_) (fun z3 => ?_)
        · refine J_bipush (v := (-3)) dX12_language_123 (by decide) ?_
          exact J_ireturn rfl (Nat.le_refl _) (Nat.le_refl _) rfl dX12_language_125
        · refine J_iload_n dX12_language_126 rfl rfl ?_
          refine J_istore_n [some (vR (some 146)), some (vI x1), some (vI x1), none, some (vI x4), some (vI x5)] dX12_language_127 rfl (Nat.le_of_ble_eq_true rfl) rfl rfl ?_
          refine J_bipush (v := nI 7) dX12_language_128 (by decide) ?_
          refine J_istore [some (vR (some 146)), some (vI x1), some (vI x1), none, some (vI x4), some (vI (nI 7))] dX12_language_130 (Nat.le_of_ble_eq_true rfl) rfl rfl ?_
          exact J_sb (t12_language_h132 G t N N x1 (nI 7) S) (And.intro rfl (And.intro rfl (And.intro rfl (trivial))))
      · refine J_bipush (v := (-5)) dX12_language_111 (by decide) ?_
        exact J_ireturn rfl (Nat.le_refl _) (Nat.le_refl _) rfl dX12_language_113
    · refine J_iload dX12_language_81 rfl ?_
      refine J_bipush (v := nI 64) dX12_language_83 (by decide) ?_
      refine J_iload_n dX12_language_85 rfl rfl ?_
      refine J_bipush (v := nI 10) dX12_language_86 (by decide) ?_
      refine J_irem (by decide) dX12_language_88 ?_
      refine J_ishr dX12_language_89 ?_
      refine J_iadd dX12_language_90 ?_
      refine J_ltI (fun v4 _ => ?_)
      refine J_istore [some (vR (some 146)), some (vI x1), some (vI x2), none, some (vI v4), some (vI x5)] dX12_language_91 (Nat.le_of_ble_eq_true rfl) rfl rfl ?_
      refine J_iload_n dX12_language_93 rfl rfl ?_
      refine J_bipush (v := nI 10) dX12_language_94 (by decide) ?_
      refine J_idiv (by decide) dX12_language_96 ?_
      refine J_ltI (fun v5 _ => ?_)
      refine J_istore_n [some (vR (some 146)), some (vI x1), some (vI v5), none, some (vI v4), some (vI x5)] dX12_language_97 rfl (Nat.le_of_ble_eq_true rfl) rfl rfl ?_
      refine J_iinc (v := x5 + (-1)) [some (vR (some 146)), some (vI x1), some (vI v5), none, some (vI v4), some (vI (x5 + (-1)))] dX12_language_98 rfl rfl (Nat.le_of_ble_eq_true rfl) rfl rfl ?_
      refine J_goto (tgt := 76) dX12_language_101 (by decide) ?_
      exact J_sb (ih v5 v4 (x5 + (-1)) S) (And.intro rfl (And.intro rfl (And.intro rfl (And.intro rfl (And.intro rfl (trivial))))))
set_option maxRecDepth 100000 in
set_option maxHeartbeats 4000000 in
theorem t12_language_j45 (G : Gm) (t : Nat) (N : Nat) (x1 : Int32) (x2 : Int32) (x4 : Int32)  (k16 : Int32 → Int32 → Int32 → St → Option (Int32 × St)) (hk16 : ∀ (yx2 : Int32) (yx3 : Int32) (yx4 : Int32) (S : St), J G YX12_language 3 0 0 (fI t) 0 0 16 [some (vR (some 146)), some (vI x1), some (vI yx2), some (vI yx3), some (vI yx4), none] [] (MM t S) (k16 yx2 yx3 yx4 S)) : ∀ (xs0 : Int32) (S : St), J G YX12_language 3 0 0 (fI t) 0 0 45 [some (vR (some 146)), some (vI x1), some (vI x2), none, some (vI x4), none] [vI xs0] (MM t S) (f12_language_j45 N x1 x2 x4 k16 xs0 S) := by
  intro xs0 S
  unfold f12_language_j45
  refine J_istore_n [some (vR (some 146)), some (vI x1), some (vI x2), some (vI xs0), some (vI x4), none] dX12_language_45 rfl (Nat.le_of_ble_eq_true rfl) rfl rfl ?_
  refine J_iload_n dX12_language_46 rfl rfl ?_
  refine J_bipush (v := nI 10) dX12_language_47 (by decide) ?_
  refine J_idiv (by decide) dX12_language_49 ?_
  refine J_ltI (fun v1 _ => ?_)
  refine J_istore_n [some (vR (some 146)), some (vI x1), some (vI v1), some (vI xs0), some (vI x4), none] dX12_language_50 rfl (Nat.le_of_ble_eq_true rfl) rfl rfl ?_
  refine J_iinc (v := x4 + (-1)) [some (vR (some 146)), some (vI x1), some (vI v1), some (vI xs0), some (vI (x4 + (-1))), none] dX12_language_51 rfl rfl (Nat.le_of_ble_eq_true rfl) rfl rfl ?_
  refine J_goto (tgt := 16) dX12_language_54 (by decide) ?_
  exact J_sb (hk16 v1 xs0 (x4 + (-1)) S) (And.intro rfl (And.intro rfl (And.intro rfl (And.intro rfl (And.intro rfl (trivial))))))
set_option maxRecDepth 100000 in
set_option maxHeartbeats 4000000 in
theorem t12_language_j44 (G : Gm) (t : Nat) (N : Nat) (x1 : Int32) (x2 : Int32) (x4 : Int32)  (k16 : Int32 → Int32 → Int32 → St → Option (Int32 × St)) (hk16 : ∀ (yx2 : Int32) (yx3 : Int32) (yx4 : Int32) (S : St), J G YX12_language 3 0 0 (fI t) 0 0 16 [some (vR (some 146)), some (vI x1), some (vI yx2), some (vI yx3), some (vI yx4), none] [] (MM t S) (k16 yx2 yx3 yx4 S)) : ∀  (S : St), J G YX12_language 3 0 0 (fI t) 0 0 44 [some (vR (some 146)), some (vI x1), some (vI x2), none, some (vI x4), none] [] (MM t S) (f12_language_j44 N x1 x2 x4 k16 S) := by
  intro S
  unfold f12_language_j44
  refine J_iconst (v := nI 0) dX12_language_44 (by decide) ?_
  exact J_sb (t12_language_j45 G t N x1 x2 x4 k16 hk16 (nI 0) S) (And.intro rfl (And.intro rfl (And.intro rfl (And.intro rfl (trivial)))))
set_option maxRecDepth 100000 in
set_option maxHeartbeats 4000000 in
theorem t12_language_h16 (G : Gm) (t : Nat) (N : Nat) (x1 : Int32)    : ∀ (n : Nat) (x2 : Int32) (x3 : Int32) (x4 : Int32) (S : St), J G YX12_language 3 0 0 (fI t) 0 0 16 [some (vR (some 146)), some (vI x1), some (vI x2), some (vI x3), some (vI x4), none] [] (MM t S) (f12_language_h16 N x1 n x2 x3 x4 S) := by
  intro n
  induction n with
  | zero => intro x2 x3 x4 S; exact J_none
  | succ n ih =>
    intro x2 x3 x4 S
    rw [f12_language_h16]
    refine J_iload dX12_language_16 rfl ?_
    refine J_if_lt (tgt := 57) dX12_language_18 (by decide) (fun z1 => ?_) (fun z1 => ?_)
    · refine J_iload_n dX12_language_57 rfl rfl ?_
      refine J_if_eq (tgt := 65) dX12_language_58 (by decide) (fun z2 => ?_) (fun z2 => ?_)
      · refine J_iconst (v := (-1)) dX12_language_65 (by decide) ?_
        exact J_ireturn rfl (Nat.le_refl _) (Nat.le_refl _) rfl dX12_language_66
      · refine J_iload_n dX12_language_61 rfl rfl ?_
        refine J_if_le (tgt := 67) dX12_language_62 (by decide) (fun z3 => ?_) (fun z3 => ?_)
        · refine J_iconst (v := nI 0) dX12_language_67 (by decide) ?_
          refine J_istore [some (vR (some 146)), some (vI x1), some (vI x2), some (vI x3), some (vI (nI 0)), none] dX12_language_68 (Nat.le_of_ble_eq_true rfl) rfl rfl ?_
          refine J_iload_n dX12_language_70 rfl rfl ?_
          refine J_istore_n [some (vR (some 146)), some (vI x1), some (vI x1), some (vI x3), some (vI (nI 0)), none] dX12_language_71 rfl (Nat.le_of_ble_eq_true rfl) rfl rfl ?_
          refine J_bipush (v := nI 7) dX12_language_72 (by decide) ?_
          refine J_istore [some (vR (some 146)), some (vI x1), some (vI x1), some (vI x3), some (vI (nI 0)), some (vI (nI 7))] dX12_language_74 (Nat.le_of_ble_eq_true rfl) rfl rfl ?_
          exact J_sb (t12_language_h76 G t N x1 N x1 (nI 0) (nI 7) S) (And.intro rfl (And.intro rfl (And.intro rfl (And.intro rfl (And.intro rfl (trivial))))))
        · refine J_iconst (v := (-1)) dX12_language_65 (by decide) ?_
          exact J_ireturn rfl (Nat.le_refl _) (Nat.le_refl _) rfl dX12_language_66
    · refine J_iload_n dX12_language_21 rfl rfl ?_
      refine J_if_eq (tgt := 44) dX12_language_22 (by decide) (fun z4 => ?_) (fun z4 => ?_)
      · exact J_sb (t12_language_j44 G t N x1 x2 x4 (f12_language_h16 N x1 n) ih S) (And.intro rfl (And.intro rfl (And.intro rfl (And.intro rfl (trivial)))))
      · refine J_iload_n dX12_language_25 rfl rfl ?_
        refine J_bipush (v := nI 10) dX12_language_26 (by decide) ?_
        refine J_irem (by decide) dX12_language_28 ?_
        refine J_i2l dX12_language_29 ?_
        refine J_lconst (v := lN 1) dX12_language_30 (by decide) ?_
        refine J_ldc2_w (v := lN 6) wX12_107 dX12_language_31 ?_
        refine K_callS_i (As := [vL ((remI x2 (nI 10)).toInt64), vL (lN 1), vL (lN 6)]) mcX12_within mlX12_109 (ct12_within G t ((remI x2 (nI 10)).toInt64) (lN 1) (lN 6) S) rfl rfl (Nat.le_of_ble_eq_true rfl) (by decide) (Nat.le_of_ble_eq_true rfl) dX12_language_34 (fun q5 S6 => ?_)
        refine J_if_eq (tgt := 44) dX12_language_37 (by decide) (fun z7 => ?_) (fun z7 => ?_)
        · exact J_sb (t12_language_j44 G t N x1 x2 x4 (f12_language_h16 N x1 n) ih S6) (And.intro rfl (And.intro rfl (And.intro rfl (And.intro rfl (trivial)))))
        · refine J_iconst (v := nI 1) dX12_language_40 (by decide) ?_
          refine J_goto (tgt := 45) dX12_language_41 (by decide) ?_
          exact J_sb (t12_language_j45 G t N x1 x2 x4 (f12_language_h16 N x1 n) ih (nI 1) S6) (And.intro rfl (And.intro rfl (And.intro rfl (And.intro rfl (trivial)))))
set_option maxRecDepth 100000 in
set_option maxHeartbeats 4000000 in
theorem t12_language_j11 (G : Gm) (t : Nat) (N : Nat) (x1 : Int32) (x2 : Int32)    : ∀ (xs0 : Int32) (S : St), J G YX12_language 3 0 0 (fI t) 0 0 11 [some (vR (some 146)), some (vI x1), some (vI x2), none, none, none] [vI xs0] (MM t S) (f12_language_j11 N x1 x2 xs0 S) := by
  intro xs0 S
  unfold f12_language_j11
  refine J_istore_n [some (vR (some 146)), some (vI x1), some (vI x2), some (vI xs0), none, none] dX12_language_11 rfl (Nat.le_of_ble_eq_true rfl) rfl rfl ?_
  refine J_bipush (v := nI 7) dX12_language_12 (by decide) ?_
  refine J_istore [some (vR (some 146)), some (vI x1), some (vI x2), some (vI xs0), some (vI (nI 7)), none] dX12_language_14 (Nat.le_of_ble_eq_true rfl) rfl rfl ?_
  exact J_sb (t12_language_h16 G t N x1 N x2 xs0 (nI 7) S) (And.intro rfl (And.intro rfl (And.intro rfl (And.intro rfl (And.intro rfl (trivial))))))
set_option maxRecDepth 100000 in
set_option maxHeartbeats 4000000 in
theorem ct12_language (G : Gm) (t : Nat) (N : Nat) (x1 : Int32)  (S : St) : Ct G YX12_language yX12_language 3 0 0 (fI t) (f12_language N x1 S) [vR (some 146), vI x1] (MM t S) := by
  refine Ct_of_J [some (vR (some 146)), some (vI x1), none, none, none, none] (by decide) rfl (fun h => by cases h) (Nat.le_of_ble_eq_true rfl) (And.intro rfl (And.intro rfl (trivial))) ?_
  unfold f12_language
  refine J_iload_n dX12_language_0 rfl rfl ?_
  refine J_istore_n [some (vR (some 146)), some (vI x1), some (vI x1), none, none, none] dX12_language_1 rfl (Nat.le_of_ble_eq_true rfl) rfl rfl ?_
  refine J_iload_n dX12_language_2 rfl rfl ?_
  refine J_if_lt (tgt := 10) dX12_language_3 (by decide) (fun z1 => ?_) (fun z1 => ?_)
  · refine J_iconst (v := nI 0) dX12_language_10 (by decide) ?_
    exact J_sb (t12_language_j11 G t N x1 x1 (nI 0) S) (And.intro rfl (And.intro rfl (And.intro rfl (trivial))))
  · refine J_iconst (v := nI 1) dX12_language_6 (by decide) ?_
    refine J_goto (tgt := 11) dX12_language_7 (by decide) ?_
    exact J_sb (t12_language_j11 G t N x1 x1 (nI 1) S) (And.intro rfl (And.intro rfl (And.intro rfl (trivial))))
theorem dX12_of_0 : decode cX12_of 0 = .ok (.aload_n 0, 1) := by decide +kernel
theorem dX12_of_1 : decode cX12_of 1 = .ok (.iload_n 1, 1) := by decide +kernel
theorem dX12_of_2 : decode cX12_of 2 = .ok (.invokevirtual 117, 3) := by decide +kernel
theorem dX12_of_5 : decode cX12_of 5 = .ok (.ifCond .ne 5, 3) := by decide +kernel
theorem dX12_of_8 : decode cX12_of 8 = .ok (.iconst (-1), 1) := by decide +kernel
theorem dX12_of_9 : decode cX12_of 9 = .ok (.ireturn, 1) := by decide +kernel
theorem dX12_of_10 : decode cX12_of 10 = .ok (.iload_n 2, 1) := by decide +kernel
theorem dX12_of_11 : decode cX12_of 11 = .ok (.ifCond .ne 9, 3) := by decide +kernel
theorem dX12_of_14 : decode cX12_of 14 = .ok (.aload_n 0, 1) := by decide +kernel
theorem dX12_of_15 : decode cX12_of 15 = .ok (.iload_n 1, 1) := by decide +kernel
theorem dX12_of_16 : decode cX12_of 16 = .ok (.invokevirtual 103, 3) := by decide +kernel
theorem dX12_of_19 : decode cX12_of 19 = .ok (.ireturn, 1) := by decide +kernel
theorem dX12_of_20 : decode cX12_of 20 = .ok (.iload_n 2, 1) := by decide +kernel
theorem dX12_of_21 : decode cX12_of 21 = .ok (.iconst 1, 1) := by decide +kernel
theorem dX12_of_22 : decode cX12_of 22 = .ok (.if_icmp .ne 9, 3) := by decide +kernel
theorem dX12_of_25 : decode cX12_of 25 = .ok (.aload_n 0, 1) := by decide +kernel
theorem dX12_of_26 : decode cX12_of 26 = .ok (.iload_n 1, 1) := by decide +kernel
theorem dX12_of_27 : decode cX12_of 27 = .ok (.invokevirtual 121, 3) := by decide +kernel
theorem dX12_of_30 : decode cX12_of 30 = .ok (.ireturn, 1) := by decide +kernel
theorem dX12_of_31 : decode cX12_of 31 = .ok (.iload_n 2, 1) := by decide +kernel
theorem dX12_of_32 : decode cX12_of 32 = .ok (.bipush 10, 2) := by decide +kernel
theorem dX12_of_34 : decode cX12_of 34 = .ok (.if_icmp .lt 30, 3) := by decide +kernel
theorem dX12_of_37 : decode cX12_of 37 = .ok (.aload_n 0, 1) := by decide +kernel
theorem dX12_of_38 : decode cX12_of 38 = .ok (.iload_n 1, 1) := by decide +kernel
theorem dX12_of_39 : decode cX12_of 39 = .ok (.iload_n 2, 1) := by decide +kernel
theorem dX12_of_40 : decode cX12_of 40 = .ok (.bipush 10, 2) := by decide +kernel
theorem dX12_of_42 : decode cX12_of 42 = .ok (.isub, 1) := by decide +kernel
theorem dX12_of_43 : decode cX12_of 43 = .ok (.invokevirtual 124, 3) := by decide +kernel
theorem dX12_of_46 : decode cX12_of 46 = .ok (.ifCond .eq 18, 3) := by decide +kernel
theorem dX12_of_49 : decode cX12_of 49 = .ok (.aload_n 0, 1) := by decide +kernel
theorem dX12_of_50 : decode cX12_of 50 = .ok (.getfield 9, 3) := by decide +kernel
theorem dX12_of_53 : decode cX12_of 53 = .ok (.bipush 12, 2) := by decide +kernel
theorem dX12_of_55 : decode cX12_of 55 = .ok (.iload_n 1, 1) := by decide +kernel
theorem dX12_of_56 : decode cX12_of 56 = .ok (.imul, 1) := by decide +kernel
theorem dX12_of_57 : decode cX12_of 57 = .ok (.iload_n 2, 1) := by decide +kernel
theorem dX12_of_58 : decode cX12_of 58 = .ok (.iadd, 1) := by decide +kernel
theorem dX12_of_59 : decode cX12_of 59 = .ok (.bipush 10, 2) := by decide +kernel
theorem dX12_of_61 : decode cX12_of 61 = .ok (.isub, 1) := by decide +kernel
theorem dX12_of_62 : decode cX12_of 62 = .ok (.iaload, 1) := by decide +kernel
theorem dX12_of_63 : decode cX12_of 63 = .ok (.ireturn, 1) := by decide +kernel
theorem dX12_of_64 : decode cX12_of 64 = .ok (.iload_n 2, 1) := by decide +kernel
theorem dX12_of_65 : decode cX12_of 65 = .ok (.bipush 30, 2) := by decide +kernel
theorem dX12_of_67 : decode cX12_of 67 = .ok (.if_icmp .lt 32, 3) := by decide +kernel
theorem dX12_of_70 : decode cX12_of 70 = .ok (.aload_n 0, 1) := by decide +kernel
theorem dX12_of_71 : decode cX12_of 71 = .ok (.iload_n 1, 1) := by decide +kernel
theorem dX12_of_72 : decode cX12_of 72 = .ok (.iload_n 2, 1) := by decide +kernel
theorem dX12_of_73 : decode cX12_of 73 = .ok (.bipush 30, 2) := by decide +kernel
theorem dX12_of_75 : decode cX12_of 75 = .ok (.isub, 1) := by decide +kernel
theorem dX12_of_76 : decode cX12_of 76 = .ok (.invokevirtual 124, 3) := by decide +kernel
theorem dX12_of_79 : decode cX12_of 79 = .ok (.ifCond .eq 20, 3) := by decide +kernel
theorem dX12_of_82 : decode cX12_of 82 = .ok (.aload_n 0, 1) := by decide +kernel
theorem dX12_of_83 : decode cX12_of 83 = .ok (.getfield 13, 3) := by decide +kernel
theorem dX12_of_86 : decode cX12_of 86 = .ok (.bipush 12, 2) := by decide +kernel
theorem dX12_of_88 : decode cX12_of 88 = .ok (.iload_n 1, 1) := by decide +kernel
theorem dX12_of_89 : decode cX12_of 89 = .ok (.imul, 1) := by decide +kernel
theorem dX12_of_90 : decode cX12_of 90 = .ok (.iload_n 2, 1) := by decide +kernel
theorem dX12_of_91 : decode cX12_of 91 = .ok (.iadd, 1) := by decide +kernel
theorem dX12_of_92 : decode cX12_of 92 = .ok (.bipush 30, 2) := by decide +kernel
theorem dX12_of_94 : decode cX12_of 94 = .ok (.isub, 1) := by decide +kernel
theorem dX12_of_95 : decode cX12_of 95 = .ok (.iaload, 1) := by decide +kernel
theorem dX12_of_96 : decode cX12_of 96 = .ok (.goto 4, 3) := by decide +kernel
theorem dX12_of_99 : decode cX12_of 99 = .ok (.iconst (-1), 1) := by decide +kernel
theorem dX12_of_100 : decode cX12_of 100 = .ok (.ireturn, 1) := by decide +kernel
set_option maxRecDepth 100000 in
set_option maxHeartbeats 4000000 in
theorem t12_of_j64 (G : Gm) (t : Nat) (N : Nat) (x1 : Int32) (x2 : Int32)    : ∀  (S : St), J G YX12_of 3 0 0 (fI t) 0 0 64 [some (vR (some 146)), some (vI x1), some (vI x2)] [] (MM t S) (f12_of_j64 N x1 x2 S) := by
  intro S
  unfold f12_of_j64
  refine J_iload_n dX12_of_64 rfl rfl ?_
  refine J_bipush (v := nI 30) dX12_of_65 (by decide) ?_
  refine J_icmp_lt (tgt := 99) dX12_of_67 (by decide) (fun z1 => ?_) (fun z1 => ?_)
  · refine J_iconst (v := (-1)) dX12_of_99 (by decide) ?_
    exact J_ireturn rfl (Nat.le_refl _) (Nat.le_refl _) rfl dX12_of_100
  · refine J_aload_n dX12_of_70 rfl rfl ?_
    refine J_iload_n dX12_of_71 rfl rfl ?_
    refine J_iload_n dX12_of_72 rfl rfl ?_
    refine J_bipush (v := nI 30) dX12_of_73 (by decide) ?_
    refine J_isub dX12_of_75 ?_
    refine K_callV_i (As := [vI x1, vI (x2 - (nI 30))]) mcX12_hasOrder mlX12_124 rfl (by decide) (sq 146 rfl) (ct12_hasOrder G t x1 (x2 - (nI 30)) S) rfl rfl (Nat.le_of_ble_eq_true rfl) (by decide) (Nat.le_of_ble_eq_true rfl) dX12_of_76 (fun q2 S3 => ?_)
    refine J_if_eq (tgt := 99) dX12_of_79 (by decide) (fun z4 => ?_) (fun z4 => ?_)
    · refine J_iconst (v := (-1)) dX12_of_99 (by decide) ?_
      exact J_ireturn rfl (Nat.le_refl _) (Nat.le_refl _) rfl dX12_of_100
    · refine J_aload_n dX12_of_82 rfl rfl ?_
      refine K_getR (r := some (148)) cf12 flX12_13 (sq 146 rfl) rfl (Or.inr ⟨_, rfl⟩) dX12_of_83 ?_
      refine J_bipush (v := nI 12) dX12_of_86 (by decide) ?_
      refine J_iload_n dX12_of_88 rfl rfl ?_
      refine J_imul dX12_of_89 ?_
      refine J_iload_n dX12_of_90 rfl rfl ?_
      refine J_iadd dX12_of_91 ?_
      refine J_bipush (v := nI 30) dX12_of_92 (by decide) ?_
      refine J_isub dX12_of_94 ?_
      refine K_iald (sq 148 rfl) dX12_of_95 ?_
      refine J_goto (tgt := 100) dX12_of_96 (by decide) ?_
      exact J_ireturn rfl (Nat.le_refl _) (Nat.le_refl _) rfl dX12_of_100
set_option maxRecDepth 100000 in
set_option maxHeartbeats 4000000 in
theorem ct12_of (G : Gm) (t : Nat) (N : Nat) (x1 : Int32) (x2 : Int32)  (S : St) : Ct G YX12_of yX12_of 3 0 0 (fI t) (f12_of N x1 x2 S) [vR (some 146), vI x1, vI x2] (MM t S) := by
  refine Ct_of_J [some (vR (some 146)), some (vI x1), some (vI x2)] (by decide) rfl (fun h => by cases h) (Nat.le_of_ble_eq_true rfl) (And.intro rfl (And.intro rfl (And.intro rfl (trivial)))) ?_
  unfold f12_of
  refine J_aload_n dX12_of_0 rfl rfl ?_
  refine J_iload_n dX12_of_1 rfl rfl ?_
  refine K_callV_i (As := [vI x1]) mcX12_isLanguage mlX12_117 rfl (by decide) (sq 146 rfl) (ct12_isLanguage G t x1 S) rfl rfl (Nat.le_of_ble_eq_true rfl) (by decide) (Nat.le_of_ble_eq_true rfl) dX12_of_2 (fun q1 S2 => ?_)
  refine J_if_ne (tgt := 10) dX12_of_5 (by decide) (fun z3 => ?_) (fun z3 => ?_)
  · refine J_iconst (v := (-1)) dX12_of_8 (by decide) ?_
    exact J_ireturn rfl (Nat.le_refl _) (Nat.le_refl _) rfl dX12_of_9
  · refine J_iload_n dX12_of_10 rfl rfl ?_
    refine J_if_ne (tgt := 20) dX12_of_11 (by decide) (fun z4 => ?_) (fun z4 => ?_)
    · refine J_aload_n dX12_of_14 rfl rfl ?_
      refine J_iload_n dX12_of_15 rfl rfl ?_
      refine K_callV_i (As := [vI x1]) mcX12_ordersOf mlX12_103 rfl (by decide) (sq 146 rfl) (ct12_ordersOf G t x1 S2) rfl rfl (Nat.le_of_ble_eq_true rfl) (by decide) (Nat.le_of_ble_eq_true rfl) dX12_of_16 (fun q12 S13 => ?_)
      exact J_ireturn rfl (Nat.le_refl _) (Nat.le_refl _) rfl dX12_of_19
    · refine J_iload_n dX12_of_20 rfl rfl ?_
      refine J_iconst (v := nI 1) dX12_of_21 (by decide) ?_
      refine J_icmp_ne (tgt := 31) dX12_of_22 (by decide) (fun z5 => ?_) (fun z5 => ?_)
      · refine J_aload_n dX12_of_25 rfl rfl ?_
        refine J_iload_n dX12_of_26 rfl rfl ?_
        refine K_callV_i (As := [vI x1]) mcX12_sumOf mlX12_121 rfl (by decide) (sq 146 rfl) (ct12_sumOf G t N x1 S2) rfl rfl (Nat.le_of_ble_eq_true rfl) (by decide) (Nat.le_of_ble_eq_true rfl) dX12_of_27 (fun q10 S11 => ?_)
        exact J_ireturn rfl (Nat.le_refl _) (Nat.le_refl _) rfl dX12_of_30
      · refine J_iload_n dX12_of_31 rfl rfl ?_
        refine J_bipush (v := nI 10) dX12_of_32 (by decide) ?_
        refine J_icmp_lt (tgt := 64) dX12_of_34 (by decide) (fun z6 => ?_) (fun z6 => ?_)
        · exact J_sb (t12_of_j64 G t N x1 x2 S2) (And.intro rfl (And.intro rfl (And.intro rfl (trivial))))
        · refine J_aload_n dX12_of_37 rfl rfl ?_
          refine J_iload_n dX12_of_38 rfl rfl ?_
          refine J_iload_n dX12_of_39 rfl rfl ?_
          refine J_bipush (v := nI 10) dX12_of_40 (by decide) ?_
          refine J_isub dX12_of_42 ?_
          refine K_callV_i (As := [vI x1, vI (x2 - (nI 10))]) mcX12_hasOrder mlX12_124 rfl (by decide) (sq 146 rfl) (ct12_hasOrder G t x1 (x2 - (nI 10)) S2) rfl rfl (Nat.le_of_ble_eq_true rfl) (by decide) (Nat.le_of_ble_eq_true rfl) dX12_of_43 (fun q7 S8 => ?_)
          refine J_if_eq (tgt := 64) dX12_of_46 (by decide) (fun z9 => ?_) (fun z9 => ?_)
          · exact J_sb (t12_of_j64 G t N x1 x2 S8) (And.intro rfl (And.intro rfl (And.intro rfl (trivial))))
          · refine J_aload_n dX12_of_49 rfl rfl ?_
            refine K_getR (r := some (147)) cf12 flX12_9 (sq 146 rfl) rfl (Or.inr ⟨_, rfl⟩) dX12_of_50 ?_
            refine J_bipush (v := nI 12) dX12_of_53 (by decide) ?_
            refine J_iload_n dX12_of_55 rfl rfl ?_
            refine J_imul dX12_of_56 ?_
            refine J_iload_n dX12_of_57 rfl rfl ?_
            refine J_iadd dX12_of_58 ?_
            refine J_bipush (v := nI 10) dX12_of_59 (by decide) ?_
            refine J_isub dX12_of_61 ?_
            refine K_iald (sq 147 rfl) dX12_of_62 ?_
            exact J_ireturn rfl (Nat.le_refl _) (Nat.le_refl _) rfl dX12_of_63
theorem dX12_part_0 : decode cX12_part 0 = .ok (.aload_n 0, 1) := by decide +kernel
theorem dX12_part_1 : decode cX12_part 1 = .ok (.iload_n 1, 1) := by decide +kernel
theorem dX12_part_2 : decode cX12_part 2 = .ok (.invokevirtual 117, 3) := by decide +kernel
theorem dX12_part_5 : decode cX12_part 5 = .ok (.ifCond .eq 18, 3) := by decide +kernel
theorem dX12_part_8 : decode cX12_part 8 = .ok (.iload_n 2, 1) := by decide +kernel
theorem dX12_part_9 : decode cX12_part 9 = .ok (.bipush 8, 2) := by decide +kernel
theorem dX12_part_11 : decode cX12_part 11 = .ok (.if_icmp .lt 12, 3) := by decide +kernel
theorem dX12_part_14 : decode cX12_part 14 = .ok (.aload_n 0, 1) := by decide +kernel
theorem dX12_part_15 : decode cX12_part 15 = .ok (.iload_n 1, 1) := by decide +kernel
theorem dX12_part_16 : decode cX12_part 16 = .ok (.iload_n 2, 1) := by decide +kernel
theorem dX12_part_17 : decode cX12_part 17 = .ok (.invokevirtual 124, 3) := by decide +kernel
theorem dX12_part_20 : decode cX12_part 20 = .ok (.ifCond .ne 5, 3) := by decide +kernel
theorem dX12_part_23 : decode cX12_part 23 = .ok (.iconst (-1), 1) := by decide +kernel
theorem dX12_part_24 : decode cX12_part 24 = .ok (.ireturn, 1) := by decide +kernel
theorem dX12_part_25 : decode cX12_part 25 = .ok (.iconst 4, 1) := by decide +kernel
theorem dX12_part_26 : decode cX12_part 26 = .ok (.iload_n 1, 1) := by decide +kernel
theorem dX12_part_27 : decode cX12_part 27 = .ok (.imul, 1) := by decide +kernel
theorem dX12_part_28 : decode cX12_part 28 = .ok (.iload_n 2, 1) := by decide +kernel
theorem dX12_part_29 : decode cX12_part 29 = .ok (.iadd, 1) := by decide +kernel
theorem dX12_part_30 : decode cX12_part 30 = .ok (.bipush 8, 2) := by decide +kernel
theorem dX12_part_32 : decode cX12_part 32 = .ok (.isub, 1) := by decide +kernel
theorem dX12_part_33 : decode cX12_part 33 = .ok (.istore 4, 2) := by decide +kernel
theorem dX12_part_35 : decode cX12_part 35 = .ok (.iload_n 3, 1) := by decide +kernel
theorem dX12_part_36 : decode cX12_part 36 = .ok (.iconst (-1), 1) := by decide +kernel
theorem dX12_part_37 : decode cX12_part 37 = .ok (.if_icmp .ne 13, 3) := by decide +kernel
theorem dX12_part_40 : decode cX12_part 40 = .ok (.aload_n 0, 1) := by decide +kernel
theorem dX12_part_41 : decode cX12_part 41 = .ok (.getfield 22, 3) := by decide +kernel
theorem dX12_part_44 : decode cX12_part 44 = .ok (.iload 4, 2) := by decide +kernel
theorem dX12_part_46 : decode cX12_part 46 = .ok (.iaload, 1) := by decide +kernel
theorem dX12_part_47 : decode cX12_part 47 = .ok (.goto 33, 3) := by decide +kernel
theorem dX12_part_50 : decode cX12_part 50 = .ok (.iload_n 3, 1) := by decide +kernel
theorem dX12_part_51 : decode cX12_part 51 = .ok (.ifCond .lt 28, 3) := by decide +kernel
theorem dX12_part_54 : decode cX12_part 54 = .ok (.iload_n 3, 1) := by decide +kernel
theorem dX12_part_55 : decode cX12_part 55 = .ok (.aload_n 0, 1) := by decide +kernel
theorem dX12_part_56 : decode cX12_part 56 = .ok (.getfield 22, 3) := by decide +kernel
theorem dX12_part_59 : decode cX12_part 59 = .ok (.iload 4, 2) := by decide +kernel
theorem dX12_part_61 : decode cX12_part 61 = .ok (.iaload, 1) := by decide +kernel
theorem dX12_part_62 : decode cX12_part 62 = .ok (.if_icmp .ge 17, 3) := by decide +kernel
theorem dX12_part_65 : decode cX12_part 65 = .ok (.aload_n 0, 1) := by decide +kernel
theorem dX12_part_66 : decode cX12_part 66 = .ok (.getfield 19, 3) := by decide +kernel
theorem dX12_part_69 : decode cX12_part 69 = .ok (.iconst 4, 1) := by decide +kernel
theorem dX12_part_70 : decode cX12_part 70 = .ok (.iload 4, 2) := by decide +kernel
theorem dX12_part_72 : decode cX12_part 72 = .ok (.imul, 1) := by decide +kernel
theorem dX12_part_73 : decode cX12_part 73 = .ok (.iload_n 3, 1) := by decide +kernel
theorem dX12_part_74 : decode cX12_part 74 = .ok (.iadd, 1) := by decide +kernel
theorem dX12_part_75 : decode cX12_part 75 = .ok (.iaload, 1) := by decide +kernel
theorem dX12_part_76 : decode cX12_part 76 = .ok (.goto 4, 3) := by decide +kernel
theorem dX12_part_79 : decode cX12_part 79 = .ok (.iconst (-1), 1) := by decide +kernel
theorem dX12_part_80 : decode cX12_part 80 = .ok (.ireturn, 1) := by decide +kernel
set_option maxRecDepth 100000 in
set_option maxHeartbeats 4000000 in
theorem ct12_part (G : Gm) (t : Nat)  (x1 : Int32) (x2 : Int32) (x3 : Int32)  (S : St) : Ct G YX12_part yX12_part 3 0 0 (fI t) (f12_part x1 x2 x3 S) [vR (some 146), vI x1, vI x2, vI x3] (MM t S) := by
  refine Ct_of_J [some (vR (some 146)), some (vI x1), some (vI x2), some (vI x3), none] (by decide) rfl (fun h => by cases h) (Nat.le_of_ble_eq_true rfl) (And.intro rfl (And.intro rfl (And.intro rfl (And.intro rfl (trivial))))) ?_
  unfold f12_part
  refine J_aload_n dX12_part_0 rfl rfl ?_
  refine J_iload_n dX12_part_1 rfl rfl ?_
  refine K_callV_i (As := [vI x1]) mcX12_isLanguage mlX12_117 rfl (by decide) (sq 146 rfl) (ct12_isLanguage G t x1 S) rfl rfl (Nat.le_of_ble_eq_true rfl) (by decide) (Nat.le_of_ble_eq_true rfl) dX12_part_2 (fun q1 S2 => ?_)
  refine J_if_eq (tgt := 23) dX12_part_5 (by decide) (fun z3 => ?_) (fun z3 => ?_)
  · refine J_iconst (v := (-1)) dX12_part_23 (by decide) ?_
    exact J_ireturn rfl (Nat.le_refl _) (Nat.le_refl _) rfl dX12_part_24
  · refine J_iload_n dX12_part_8 rfl rfl ?_
    refine J_bipush (v := nI 8) dX12_part_9 (by decide) ?_
    refine J_icmp_lt (tgt := 23) dX12_part_11 (by decide) (fun z4 => ?_) (fun z4 => ?_)
    · refine J_iconst (v := (-1)) dX12_part_23 (by decide) ?_
      exact J_ireturn rfl (Nat.le_refl _) (Nat.le_refl _) rfl dX12_part_24
    · refine J_aload_n dX12_part_14 rfl rfl ?_
      refine J_iload_n dX12_part_15 rfl rfl ?_
      refine J_iload_n dX12_part_16 rfl rfl ?_
      refine K_callV_i (As := [vI x1, vI x2]) mcX12_hasOrder mlX12_124 rfl (by decide) (sq 146 rfl) (ct12_hasOrder G t x1 x2 S2) rfl rfl (Nat.le_of_ble_eq_true rfl) (by decide) (Nat.le_of_ble_eq_true rfl) dX12_part_17 (fun q5 S6 => ?_)
      refine J_if_ne (tgt := 25) dX12_part_20 (by decide) (fun z7 => ?_) (fun z7 => ?_)
      · refine J_iconst (v := (-1)) dX12_part_23 (by decide) ?_
        exact J_ireturn rfl (Nat.le_refl _) (Nat.le_refl _) rfl dX12_part_24
      · refine J_iconst (v := nI 4) dX12_part_25 (by decide) ?_
        refine J_iload_n dX12_part_26 rfl rfl ?_
        refine J_imul dX12_part_27 ?_
        refine J_iload_n dX12_part_28 rfl rfl ?_
        refine J_iadd dX12_part_29 ?_
        refine J_bipush (v := nI 8) dX12_part_30 (by decide) ?_
        refine J_isub dX12_part_32 ?_
        refine J_ltI (fun v8 _ => ?_)
        refine J_istore [some (vR (some 146)), some (vI x1), some (vI x2), some (vI x3), some (vI v8)] dX12_part_33 (Nat.le_of_ble_eq_true rfl) rfl rfl ?_
        refine J_iload_n dX12_part_35 rfl rfl ?_
        refine J_iconst (v := (-1)) dX12_part_36 (by decide) ?_
        refine J_icmp_ne (tgt := 50) dX12_part_37 (by decide) (fun z9 => ?_) (fun z9 => ?_)
        · refine J_aload_n dX12_part_40 rfl rfl ?_
          refine K_getR (r := some (151)) cf12 flX12_22 (sq 146 rfl) rfl (Or.inr ⟨_, rfl⟩) dX12_part_41 ?_
          refine J_iload dX12_part_44 rfl ?_
          refine K_iald (sq 151 rfl) dX12_part_46 ?_
          refine J_goto (tgt := 80) dX12_part_47 (by decide) ?_
          exact J_ireturn rfl (Nat.le_refl _) (Nat.le_refl _) rfl dX12_part_80
        · refine J_iload_n dX12_part_50 rfl rfl ?_
          refine J_if_lt (tgt := 79) dX12_part_51 (by decide) (fun z10 => ?_) (fun z10 => ?_)
          · refine J_iconst (v := (-1)) dX12_part_79 (by decide) ?_
            exact J_ireturn rfl (Nat.le_refl _) (Nat.le_refl _) rfl dX12_part_80
          · refine J_iload_n dX12_part_54 rfl rfl ?_
            refine J_aload_n dX12_part_55 rfl rfl ?_
            refine K_getR (r := some (151)) cf12 flX12_22 (sq 146 rfl) rfl (Or.inr ⟨_, rfl⟩) dX12_part_56 ?_
            refine J_iload dX12_part_59 rfl ?_
            refine K_iald (sq 151 rfl) dX12_part_61 ?_
            refine J_icmp_ge (tgt := 79) dX12_part_62 (by decide) (fun z11 => ?_) (fun z11 => ?_)
            · refine J_iconst (v := (-1)) dX12_part_79 (by decide) ?_
              exact J_ireturn rfl (Nat.le_refl _) (Nat.le_refl _) rfl dX12_part_80
            · refine J_aload_n dX12_part_65 rfl rfl ?_
              refine K_getR (r := some (150)) cf12 flX12_19 (sq 146 rfl) rfl (Or.inr ⟨_, rfl⟩) dX12_part_66 ?_
              refine J_iconst (v := nI 4) dX12_part_69 (by decide) ?_
              refine J_iload dX12_part_70 rfl ?_
              refine J_imul dX12_part_72 ?_
              refine J_iload_n dX12_part_73 rfl rfl ?_
              refine J_iadd dX12_part_74 ?_
              refine K_iald (sq 150 rfl) dX12_part_75 ?_
              refine J_goto (tgt := 80) dX12_part_76 (by decide) ?_
              exact J_ireturn rfl (Nat.le_refl _) (Nat.le_refl _) rfl dX12_part_80
theorem dX12_clear_0 : decode cX12_clear 0 = .ok (.aload_n 0, 1) := by decide +kernel
theorem dX12_clear_1 : decode cX12_clear 1 = .ok (.getfield 128, 3) := by decide +kernel
theorem dX12_clear_4 : decode cX12_clear 4 = .ok (.istore_n 1, 1) := by decide +kernel
theorem dX12_clear_5 : decode cX12_clear 5 = .ok (.aload_n 0, 1) := by decide +kernel
theorem dX12_clear_6 : decode cX12_clear 6 = .ok (.iconst 0, 1) := by decide +kernel
theorem dX12_clear_7 : decode cX12_clear 7 = .ok (.putfield 128, 3) := by decide +kernel
theorem dX12_clear_10 : decode cX12_clear 10 = .ok (.iload_n 1, 1) := by decide +kernel
theorem dX12_clear_11 : decode cX12_clear 11 = .ok (.ireturn, 1) := by decide +kernel
set_option maxRecDepth 100000 in
set_option maxHeartbeats 4000000 in
theorem ct12_clear (G : Gm) (t : Nat)    (S : St) : Ct G YX12_clear yX12_clear 1 0 0 (fI t) (f12_clear S) [vR (some 146)] (MM t S) := by
  refine Ct_of_J [some (vR (some 146)), none] (by decide) rfl (fun h => by cases h) (Nat.le_of_ble_eq_true rfl) (And.intro rfl (trivial)) ?_
  unfold f12_clear
  refine J_aload_n dX12_clear_0 rfl rfl ?_
  refine K_getI cf12 flX12_128 (sq 146 rfl) (Or.inl rfl) dX12_clear_1 ?_
  refine J_ltI (fun v1 _ => ?_)
  refine J_istore_n [some (vR (some 146)), some (vI v1)] dX12_clear_4 rfl (Nat.le_of_ble_eq_true rfl) rfl rfl ?_
  refine J_aload_n dX12_clear_5 rfl rfl ?_
  refine J_iconst (v := nI 0) dX12_clear_6 (by decide) ?_
  refine K_putI cf12 flX12_128 (sq 146 rfl) rfl dX12_clear_7 ?_
  refine J_ltS (fun S2 _ => ?_)
  refine J_iload_n dX12_clear_10 rfl rfl ?_
  exact J_ireturn rfl (Nat.le_refl _) (Nat.le_refl _) rfl dX12_clear_11
theorem dX12_add_0 : decode cX12_add 0 = .ok (.iload_n 1, 1) := by decide +kernel
theorem dX12_add_1 : decode cX12_add 1 = .ok (.i2l, 1) := by decide +kernel
theorem dX12_add_2 : decode cX12_add 2 = .ok (.lconst 0, 1) := by decide +kernel
theorem dX12_add_3 : decode cX12_add 3 = .ok (.ldc2_w 131, 3) := by decide +kernel
theorem dX12_add_6 : decode cX12_add 6 = .ok (.invokestatic 109, 3) := by decide +kernel
theorem dX12_add_9 : decode cX12_add 9 = .ok (.ifCond .eq 24, 3) := by decide +kernel
theorem dX12_add_12 : decode cX12_add 12 = .ok (.aload_n 0, 1) := by decide +kernel
theorem dX12_add_13 : decode cX12_add 13 = .ok (.getfield 128, 3) := by decide +kernel
theorem dX12_add_16 : decode cX12_add 16 = .ok (.ifCond .le 19, 3) := by decide +kernel
theorem dX12_add_19 : decode cX12_add 19 = .ok (.aload_n 0, 1) := by decide +kernel
theorem dX12_add_20 : decode cX12_add 20 = .ok (.getfield 28, 3) := by decide +kernel
theorem dX12_add_23 : decode cX12_add 23 = .ok (.aload_n 0, 1) := by decide +kernel
theorem dX12_add_24 : decode cX12_add 24 = .ok (.getfield 128, 3) := by decide +kernel
theorem dX12_add_27 : decode cX12_add 27 = .ok (.iconst 1, 1) := by decide +kernel
theorem dX12_add_28 : decode cX12_add 28 = .ok (.isub, 1) := by decide +kernel
theorem dX12_add_29 : decode cX12_add 29 = .ok (.iaload, 1) := by decide +kernel
theorem dX12_add_30 : decode cX12_add 30 = .ok (.ifCond .ne 5, 3) := by decide +kernel
theorem dX12_add_33 : decode cX12_add 33 = .ok (.iconst (-1), 1) := by decide +kernel
theorem dX12_add_34 : decode cX12_add 34 = .ok (.ireturn, 1) := by decide +kernel
theorem dX12_add_35 : decode cX12_add 35 = .ok (.aload_n 0, 1) := by decide +kernel
theorem dX12_add_36 : decode cX12_add 36 = .ok (.getfield 128, 3) := by decide +kernel
theorem dX12_add_39 : decode cX12_add 39 = .ok (.bipush 12, 2) := by decide +kernel
theorem dX12_add_41 : decode cX12_add 41 = .ok (.if_icmp .ne 6, 3) := by decide +kernel
theorem dX12_add_44 : decode cX12_add 44 = .ok (.bipush (-3), 2) := by decide +kernel
theorem dX12_add_46 : decode cX12_add 46 = .ok (.ireturn, 1) := by decide +kernel
theorem dX12_add_47 : decode cX12_add 47 = .ok (.aload_n 0, 1) := by decide +kernel
theorem dX12_add_48 : decode cX12_add 48 = .ok (.getfield 28, 3) := by decide +kernel
theorem dX12_add_51 : decode cX12_add 51 = .ok (.aload_n 0, 1) := by decide +kernel
theorem dX12_add_52 : decode cX12_add 52 = .ok (.getfield 128, 3) := by decide +kernel
theorem dX12_add_55 : decode cX12_add 55 = .ok (.iload_n 1, 1) := by decide +kernel
theorem dX12_add_56 : decode cX12_add 56 = .ok (.iastore, 1) := by decide +kernel
theorem dX12_add_57 : decode cX12_add 57 = .ok (.aload_n 0, 1) := by decide +kernel
theorem dX12_add_58 : decode cX12_add 58 = .ok (.dup, 1) := by decide +kernel
theorem dX12_add_59 : decode cX12_add 59 = .ok (.getfield 128, 3) := by decide +kernel
theorem dX12_add_62 : decode cX12_add 62 = .ok (.iconst 1, 1) := by decide +kernel
theorem dX12_add_63 : decode cX12_add 63 = .ok (.iadd, 1) := by decide +kernel
theorem dX12_add_64 : decode cX12_add 64 = .ok (.putfield 128, 3) := by decide +kernel
theorem dX12_add_67 : decode cX12_add 67 = .ok (.aload_n 0, 1) := by decide +kernel
theorem dX12_add_68 : decode cX12_add 68 = .ok (.getfield 128, 3) := by decide +kernel
theorem dX12_add_71 : decode cX12_add 71 = .ok (.ireturn, 1) := by decide +kernel
set_option maxRecDepth 100000 in
set_option maxHeartbeats 4000000 in
theorem t12_add_j35 (G : Gm) (t : Nat)  (x1 : Int32)    : ∀  (S : St), J G YX12_add 2 0 0 (fI t) 0 0 35 [some (vR (some 146)), some (vI x1)] [] (MM t S) (f12_add_j35 x1 S) := by
  intro S
  unfold f12_add_j35
  refine J_aload_n dX12_add_35 rfl rfl ?_
  refine K_getI cf12 flX12_128 (sq 146 rfl) (Or.inl rfl) dX12_add_36 ?_
  refine J_bipush (v := nI 12) dX12_add_39 (by decide) ?_
  refine J_icmp_ne (tgt := 47) dX12_add_41 (by decide) (fun z1 => ?_) (fun z1 => ?_)
  · refine J_bipush (v := (-3)) dX12_add_44 (by decide) ?_
    exact J_ireturn rfl (Nat.le_refl _) (Nat.le_refl _) rfl dX12_add_46
  · refine J_aload_n dX12_add_47 rfl rfl ?_
    refine K_getR (r := some (153)) cf12 flX12_28 (sq 146 rfl) rfl (Or.inr ⟨_, rfl⟩) dX12_add_48 ?_
    refine J_aload_n dX12_add_51 rfl rfl ?_
    refine K_getI cf12 flX12_128 (sq 146 rfl) (Or.inl rfl) dX12_add_52 ?_
    refine J_iload_n dX12_add_55 rfl rfl ?_
    refine K_iast (sq 153 rfl) dX12_add_56 ?_
    refine J_ltS (fun S2 _ => ?_)
    refine J_aload_n dX12_add_57 rfl rfl ?_
    refine J_dup dX12_add_58 rfl ?_
    refine K_getI cf12 flX12_128 (sq 146 rfl) (Or.inl rfl) dX12_add_59 ?_
    refine J_iconst (v := nI 1) dX12_add_62 (by decide) ?_
    refine J_iadd dX12_add_63 ?_
    refine K_putI cf12 flX12_128 (sq 146 rfl) rfl dX12_add_64 ?_
    refine J_ltS (fun S3 _ => ?_)
    refine J_aload_n dX12_add_67 rfl rfl ?_
    refine K_getI cf12 flX12_128 (sq 146 rfl) (Or.inl rfl) dX12_add_68 ?_
    exact J_ireturn rfl (Nat.le_refl _) (Nat.le_refl _) rfl dX12_add_71
set_option maxRecDepth 100000 in
set_option maxHeartbeats 4000000 in
theorem ct12_add (G : Gm) (t : Nat)  (x1 : Int32)  (S : St) : Ct G YX12_add yX12_add 2 0 0 (fI t) (f12_add x1 S) [vR (some 146), vI x1] (MM t S) := by
  refine Ct_of_J [some (vR (some 146)), some (vI x1)] (by decide) rfl (fun h => by cases h) (Nat.le_of_ble_eq_true rfl) (And.intro rfl (And.intro rfl (trivial))) ?_
  unfold f12_add
  refine J_iload_n dX12_add_0 rfl rfl ?_
  refine J_i2l dX12_add_1 ?_
  refine J_lconst (v := lN 0) dX12_add_2 (by decide) ?_
  refine J_ldc2_w (v := lN 11) wX12_131 dX12_add_3 ?_
  refine K_callS_i (As := [vL x1.toInt64, vL (lN 0), vL (lN 11)]) mcX12_within mlX12_109 (ct12_within G t x1.toInt64 (lN 0) (lN 11) S) rfl rfl (Nat.le_of_ble_eq_true rfl) (by decide) (Nat.le_of_ble_eq_true rfl) dX12_add_6 (fun q1 S2 => ?_)
  refine J_if_eq (tgt := 33) dX12_add_9 (by decide) (fun z3 => ?_) (fun z3 => ?_)
  · refine J_iconst (v := (-1)) dX12_add_33 (by decide) ?_
    exact J_ireturn rfl (Nat.le_refl _) (Nat.le_refl _) rfl dX12_add_34
  · refine J_aload_n dX12_add_12 rfl rfl ?_
    refine K_getI cf12 flX12_128 (sq 146 rfl) (Or.inl rfl) dX12_add_13 ?_
    refine J_if_le (tgt := 35) dX12_add_16 (by decide) (fun z4 => ?_) (fun z4 => ?_)
    · exact J_sb (t12_add_j35 G t x1 S2) (And.intro rfl (And.intro rfl (trivial)))
    · refine J_aload_n dX12_add_19 rfl rfl ?_
      refine K_getR (r := some (153)) cf12 flX12_28 (sq 146 rfl) rfl (Or.inr ⟨_, rfl⟩) dX12_add_20 ?_
      refine J_aload_n dX12_add_23 rfl rfl ?_
      refine K_getI cf12 flX12_128 (sq 146 rfl) (Or.inl rfl) dX12_add_24 ?_
      refine J_iconst (v := nI 1) dX12_add_27 (by decide) ?_
      refine J_isub dX12_add_28 ?_
      refine K_iald (sq 153 rfl) dX12_add_29 ?_
      refine J_if_ne (tgt := 35) dX12_add_30 (by decide) (fun z5 => ?_) (fun z5 => ?_)
      · refine J_iconst (v := (-1)) dX12_add_33 (by decide) ?_
        exact J_ireturn rfl (Nat.le_refl _) (Nat.le_refl _) rfl dX12_add_34
      · exact J_sb (t12_add_j35 G t x1 S2) (And.intro rfl (And.intro rfl (trivial)))
theorem dX12_order_0 : decode cX12_order 0 = .ok (.iload_n 1, 1) := by decide +kernel
theorem dX12_order_1 : decode cX12_order 1 = .ok (.iconst (-1), 1) := by decide +kernel
theorem dX12_order_2 : decode cX12_order 2 = .ok (.if_icmp .ne 10, 3) := by decide +kernel
theorem dX12_order_5 : decode cX12_order 5 = .ok (.aload_n 0, 1) := by decide +kernel
theorem dX12_order_6 : decode cX12_order 6 = .ok (.getfield 128, 3) := by decide +kernel
theorem dX12_order_9 : decode cX12_order 9 = .ok (.goto 25, 3) := by decide +kernel
theorem dX12_order_12 : decode cX12_order 12 = .ok (.iload_n 1, 1) := by decide +kernel
theorem dX12_order_13 : decode cX12_order 13 = .ok (.ifCond .lt 20, 3) := by decide +kernel
theorem dX12_order_16 : decode cX12_order 16 = .ok (.iload_n 1, 1) := by decide +kernel
theorem dX12_order_17 : decode cX12_order 17 = .ok (.aload_n 0, 1) := by decide +kernel
theorem dX12_order_18 : decode cX12_order 18 = .ok (.getfield 128, 3) := by decide +kernel
theorem dX12_order_21 : decode cX12_order 21 = .ok (.if_icmp .ge 12, 3) := by decide +kernel
theorem dX12_order_24 : decode cX12_order 24 = .ok (.aload_n 0, 1) := by decide +kernel
theorem dX12_order_25 : decode cX12_order 25 = .ok (.getfield 28, 3) := by decide +kernel
theorem dX12_order_28 : decode cX12_order 28 = .ok (.iload_n 1, 1) := by decide +kernel
theorem dX12_order_29 : decode cX12_order 29 = .ok (.iaload, 1) := by decide +kernel
theorem dX12_order_30 : decode cX12_order 30 = .ok (.goto 4, 3) := by decide +kernel
theorem dX12_order_33 : decode cX12_order 33 = .ok (.iconst (-1), 1) := by decide +kernel
theorem dX12_order_34 : decode cX12_order 34 = .ok (.ireturn, 1) := by decide +kernel
set_option maxRecDepth 100000 in
set_option maxHeartbeats 4000000 in
theorem ct12_order (G : Gm) (t : Nat)  (x1 : Int32)  (S : St) : Ct G YX12_order yX12_order 1 0 0 (fI t) (f12_order x1 S) [vR (some 146), vI x1] (MM t S) := by
  refine Ct_of_J [some (vR (some 146)), some (vI x1)] (by decide) rfl (fun h => by cases h) (Nat.le_of_ble_eq_true rfl) (And.intro rfl (And.intro rfl (trivial))) ?_
  unfold f12_order
  refine J_iload_n dX12_order_0 rfl rfl ?_
  refine J_iconst (v := (-1)) dX12_order_1 (by decide) ?_
  refine J_icmp_ne (tgt := 12) dX12_order_2 (by decide) (fun z1 => ?_) (fun z1 => ?_)
  · refine J_aload_n dX12_order_5 rfl rfl ?_
    refine K_getI cf12 flX12_128 (sq 146 rfl) (Or.inl rfl) dX12_order_6 ?_
    refine J_goto (tgt := 34) dX12_order_9 (by decide) ?_
    exact J_ireturn rfl (Nat.le_refl _) (Nat.le_refl _) rfl dX12_order_34
  · refine J_iload_n dX12_order_12 rfl rfl ?_
    refine J_if_lt (tgt := 33) dX12_order_13 (by decide) (fun z2 => ?_) (fun z2 => ?_)
    · refine J_iconst (v := (-1)) dX12_order_33 (by decide) ?_
      exact J_ireturn rfl (Nat.le_refl _) (Nat.le_refl _) rfl dX12_order_34
    · refine J_iload_n dX12_order_16 rfl rfl ?_
      refine J_aload_n dX12_order_17 rfl rfl ?_
      refine K_getI cf12 flX12_128 (sq 146 rfl) (Or.inl rfl) dX12_order_18 ?_
      refine J_icmp_ge (tgt := 33) dX12_order_21 (by decide) (fun z3 => ?_) (fun z3 => ?_)
      · refine J_iconst (v := (-1)) dX12_order_33 (by decide) ?_
        exact J_ireturn rfl (Nat.le_refl _) (Nat.le_refl _) rfl dX12_order_34
      · refine J_aload_n dX12_order_24 rfl rfl ?_
        refine K_getR (r := some (153)) cf12 flX12_28 (sq 146 rfl) rfl (Or.inr ⟨_, rfl⟩) dX12_order_25 ?_
        refine J_iload_n dX12_order_28 rfl rfl ?_
        refine K_iald (sq 153 rfl) dX12_order_29 ?_
        refine J_goto (tgt := 34) dX12_order_30 (by decide) ?_
        exact J_ireturn rfl (Nat.le_refl _) (Nat.le_refl _) rfl dX12_order_34
theorem dX12_isProgram_0 : decode cX12_isProgram 0 = .ok (.aload_n 0, 1) := by decide +kernel
theorem dX12_isProgram_1 : decode cX12_isProgram 1 = .ok (.getfield 128, 3) := by decide +kernel
theorem dX12_isProgram_4 : decode cX12_isProgram 4 = .ok (.ifCond .le 32, 3) := by decide +kernel
theorem dX12_isProgram_7 : decode cX12_isProgram 7 = .ok (.aload_n 0, 1) := by decide +kernel
theorem dX12_isProgram_8 : decode cX12_isProgram 8 = .ok (.getfield 28, 3) := by decide +kernel
theorem dX12_isProgram_11 : decode cX12_isProgram 11 = .ok (.aload_n 0, 1) := by decide +kernel
theorem dX12_isProgram_12 : decode cX12_isProgram 12 = .ok (.getfield 128, 3) := by decide +kernel
theorem dX12_isProgram_15 : decode cX12_isProgram 15 = .ok (.ifCond .le 12, 3) := by decide +kernel
theorem dX12_isProgram_18 : decode cX12_isProgram 18 = .ok (.aload_n 0, 1) := by decide +kernel
theorem dX12_isProgram_19 : decode cX12_isProgram 19 = .ok (.getfield 128, 3) := by decide +kernel
theorem dX12_isProgram_22 : decode cX12_isProgram 22 = .ok (.iconst 1, 1) := by decide +kernel
theorem dX12_isProgram_23 : decode cX12_isProgram 23 = .ok (.isub, 1) := by decide +kernel
theorem dX12_isProgram_24 : decode cX12_isProgram 24 = .ok (.goto 4, 3) := by decide +kernel
theorem dX12_isProgram_27 : decode cX12_isProgram 27 = .ok (.iconst 0, 1) := by decide +kernel
theorem dX12_isProgram_28 : decode cX12_isProgram 28 = .ok (.iaload, 1) := by decide +kernel
theorem dX12_isProgram_29 : decode cX12_isProgram 29 = .ok (.ifCond .ne 7, 3) := by decide +kernel
theorem dX12_isProgram_32 : decode cX12_isProgram 32 = .ok (.iconst 1, 1) := by decide +kernel
theorem dX12_isProgram_33 : decode cX12_isProgram 33 = .ok (.goto 4, 3) := by decide +kernel
theorem dX12_isProgram_36 : decode cX12_isProgram 36 = .ok (.iconst 0, 1) := by decide +kernel
theorem dX12_isProgram_37 : decode cX12_isProgram 37 = .ok (.istore_n 2, 1) := by decide +kernel
theorem dX12_isProgram_38 : decode cX12_isProgram 38 = .ok (.iconst 0, 1) := by decide +kernel
theorem dX12_isProgram_39 : decode cX12_isProgram 39 = .ok (.istore_n 3, 1) := by decide +kernel
theorem dX12_isProgram_40 : decode cX12_isProgram 40 = .ok (.iload_n 3, 1) := by decide +kernel
theorem dX12_isProgram_41 : decode cX12_isProgram 41 = .ok (.aload_n 0, 1) := by decide +kernel
theorem dX12_isProgram_42 : decode cX12_isProgram 42 = .ok (.getfield 128, 3) := by decide +kernel
theorem dX12_isProgram_45 : decode cX12_isProgram 45 = .ok (.if_icmp .ge 33, 3) := by decide +kernel
theorem dX12_isProgram_48 : decode cX12_isProgram 48 = .ok (.iload_n 2, 1) := by decide +kernel
theorem dX12_isProgram_49 : decode cX12_isProgram 49 = .ok (.ifCond .eq 21, 3) := by decide +kernel
theorem dX12_isProgram_52 : decode cX12_isProgram 52 = .ok (.aload_n 0, 1) := by decide +kernel
theorem dX12_isProgram_53 : decode cX12_isProgram 53 = .ok (.iload_n 1, 1) := by decide +kernel
theorem dX12_isProgram_54 : decode cX12_isProgram 54 = .ok (.aload_n 0, 1) := by decide +kernel
theorem dX12_isProgram_55 : decode cX12_isProgram 55 = .ok (.getfield 28, 3) := by decide +kernel
theorem dX12_isProgram_58 : decode cX12_isProgram 58 = .ok (.iload_n 3, 1) := by decide +kernel
theorem dX12_isProgram_59 : decode cX12_isProgram 59 = .ok (.iaload, 1) := by decide +kernel
theorem dX12_isProgram_60 : decode cX12_isProgram 60 = .ok (.invokevirtual 124, 3) := by decide +kernel
theorem dX12_isProgram_63 : decode cX12_isProgram 63 = .ok (.ifCond .eq 7, 3) := by decide +kernel
theorem dX12_isProgram_66 : decode cX12_isProgram 66 = .ok (.iconst 1, 1) := by decide +kernel
theorem dX12_isProgram_67 : decode cX12_isProgram 67 = .ok (.goto 4, 3) := by decide +kernel
theorem dX12_isProgram_70 : decode cX12_isProgram 70 = .ok (.iconst 0, 1) := by decide +kernel
theorem dX12_isProgram_71 : decode cX12_isProgram 71 = .ok (.istore_n 2, 1) := by decide +kernel
theorem dX12_isProgram_72 : decode cX12_isProgram 72 = .ok (.iinc 3 1, 3) := by decide +kernel
theorem dX12_isProgram_75 : decode cX12_isProgram 75 = .ok (.goto (-35), 3) := by decide +kernel
theorem dX12_isProgram_78 : decode cX12_isProgram 78 = .ok (.iload_n 2, 1) := by decide +kernel
theorem dX12_isProgram_79 : decode cX12_isProgram 79 = .ok (.ireturn, 1) := by decide +kernel
set_option maxRecDepth 100000 in
set_option maxHeartbeats 4000000 in
theorem t12_isProgram_j71 (G : Gm) (t : Nat) (N : Nat) (x1 : Int32) (x3 : Int32)  (k40 : Int32 → Int32 → St → Option (Int32 × St)) (hk40 : ∀ (yx2 : Int32) (yx3 : Int32) (S : St), J G YX12_isProgram 3 0 0 (fI t) 0 0 40 [some (vR (some 146)), some (vI x1), some (vI yx2), some (vI yx3)] [] (MM t S) (k40 yx2 yx3 S)) : ∀ (xs0 : Int32) (S : St), J G YX12_isProgram 3 0 0 (fI t) 0 0 71 [some (vR (some 146)), some (vI x1), none, some (vI x3)] [vI xs0] (MM t S) (f12_isProgram_j71 N x1 x3 k40 xs0 S) := by
  intro xs0 S
  unfold f12_isProgram_j71
  refine J_istore_n [some (vR (some 146)), some (vI x1), some (vI xs0), some (vI x3)] dX12_isProgram_71 rfl (Nat.le_of_ble_eq_true rfl) rfl rfl ?_
  refine J_iinc (v := x3 + nI 1) [some (vR (some 146)), some (vI x1), some (vI xs0), some (vI (x3 + nI 1))] dX12_isProgram_72 rfl rfl (Nat.le_of_ble_eq_true rfl) rfl rfl ?_
  refine J_goto (tgt := 40) dX12_isProgram_75 (by decide) ?_
  exact J_sb (hk40 xs0 (x3 + nI 1) S) (And.intro rfl (And.intro rfl (And.intro rfl (And.intro rfl (trivial)))))
set_option maxRecDepth 100000 in
set_option maxHeartbeats 4000000 in
theorem t12_isProgram_j70 (G : Gm) (t : Nat) (N : Nat) (x1 : Int32) (x3 : Int32)  (k40 : Int32 → Int32 → St → Option (Int32 × St)) (hk40 : ∀ (yx2 : Int32) (yx3 : Int32) (S : St), J G YX12_isProgram 3 0 0 (fI t) 0 0 40 [some (vR (some 146)), some (vI x1), some (vI yx2), some (vI yx3)] [] (MM t S) (k40 yx2 yx3 S)) : ∀  (S : St), J G YX12_isProgram 3 0 0 (fI t) 0 0 70 [some (vR (some 146)), some (vI x1), none, some (vI x3)] [] (MM t S) (f12_isProgram_j70 N x1 x3 k40 S) := by
  intro S
  unfold f12_isProgram_j70
  refine J_iconst (v := nI 0) dX12_isProgram_70 (by decide) ?_
  exact J_sb (t12_isProgram_j71 G t N x1 x3 k40 hk40 (nI 0) S) (And.intro rfl (And.intro rfl (And.intro rfl (trivial))))
set_option maxRecDepth 100000 in
set_option maxHeartbeats 4000000 in
theorem t12_isProgram_h40 (G : Gm) (t : Nat) (N : Nat) (x1 : Int32)    : ∀ (n : Nat) (x2 : Int32) (x3 : Int32) (S : St), J G YX12_isProgram 3 0 0 (fI t) 0 0 40 [some (vR (some 146)), some (vI x1), some (vI x2), some (vI x3)] [] (MM t S) (f12_isProgram_h40 N x1 n x2 x3 S) := by
  intro n
  induction n with
  | zero => intro x2 x3 S; exact J_none
  | succ n ih =>
    intro x2 x3 S
    rw [f12_isProgram_h40]
    refine J_iload_n dX12_isProgram_40 rfl rfl ?_
    refine J_aload_n dX12_isProgram_41 rfl rfl ?_
    refine K_getI cf12 flX12_128 (sq 146 rfl) (Or.inl rfl) dX12_isProgram_42 ?_
    refine J_icmp_ge (tgt := 78) dX12_isProgram_45 (by decide) (fun z1 => ?_) (fun z1 => ?_)
    · refine J_iload_n dX12_isProgram_78 rfl rfl ?_
      refine J_ckB (fun hz => ?_)
      exact J_zreturn hz rfl (Nat.le_refl _) (Nat.le_refl _) rfl dX12_isProgram_79
    · refine J_iload_n dX12_isProgram_48 rfl rfl ?_
      refine J_if_eq (tgt := 70) dX12_isProgram_49 (by decide) (fun z2 => ?_) (fun z2 => ?_)
      · exact J_sb (t12_isProgram_j70 G t N x1 x3 (f12_isProgram_h40 N x1 n) ih S) (And.intro rfl (And.intro rfl (And.intro rfl (trivial))))
      · refine J_aload_n dX12_isProgram_52 rfl rfl ?_
        refine J_iload_n dX12_isProgram_53 rfl rfl ?_
        refine J_aload_n dX12_isProgram_54 rfl rfl ?_
        refine K_getR (r := some (153)) cf12 flX12_28 (sq 146 rfl) rfl (Or.inr ⟨_, rfl⟩) dX12_isProgram_55 ?_
        refine J_iload_n dX12_isProgram_58 rfl rfl ?_
        refine K_iald (sq 153 rfl) dX12_isProgram_59 ?_
        refine K_callV_i (As := [vI x1, vI (S.1 153 x3.toNatClampNeg)]) mcX12_hasOrder mlX12_124 rfl (by decide) (sq 146 rfl) (ct12_hasOrder G t x1 (S.1 153 x3.toNatClampNeg) S) rfl rfl (Nat.le_of_ble_eq_true rfl) (by decide) (Nat.le_of_ble_eq_true rfl) dX12_isProgram_60 (fun q3 S4 => ?_)
        refine J_if_eq (tgt := 70) dX12_isProgram_63 (by decide) (fun z5 => ?_) (fun z5 => ?_)
        · exact J_sb (t12_isProgram_j70 G t N x1 x3 (f12_isProgram_h40 N x1 n) ih S4) (And.intro rfl (And.intro rfl (And.intro rfl (trivial))))
        · refine J_iconst (v := nI 1) dX12_isProgram_66 (by decide) ?_
          refine J_goto (tgt := 71) dX12_isProgram_67 (by decide) ?_
          exact J_sb (t12_isProgram_j71 G t N x1 x3 (f12_isProgram_h40 N x1 n) ih (nI 1) S4) (And.intro rfl (And.intro rfl (And.intro rfl (trivial))))
set_option maxRecDepth 100000 in
set_option maxHeartbeats 4000000 in
theorem t12_isProgram_j37 (G : Gm) (t : Nat) (N : Nat) (x1 : Int32)    : ∀ (xs0 : Int32) (S : St), J G YX12_isProgram 3 0 0 (fI t) 0 0 37 [some (vR (some 146)), some (vI x1), none, none] [vI xs0] (MM t S) (f12_isProgram_j37 N x1 xs0 S) := by
  intro xs0 S
  unfold f12_isProgram_j37
  refine J_istore_n [some (vR (some 146)), some (vI x1), some (vI xs0), none] dX12_isProgram_37 rfl (Nat.le_of_ble_eq_true rfl) rfl rfl ?_
  refine J_iconst (v := nI 0) dX12_isProgram_38 (by decide) ?_
  refine J_istore_n [some (vR (some 146)), some (vI x1), some (vI xs0), some (vI (nI 0))] dX12_isProgram_39 rfl (Nat.le_of_ble_eq_true rfl) rfl rfl ?_
  exact J_sb (t12_isProgram_h40 G t N x1 N xs0 (nI 0) S) (And.intro rfl (And.intro rfl (And.intro rfl (And.intro rfl (trivial)))))
set_option maxRecDepth 100000 in
set_option maxHeartbeats 4000000 in
theorem t12_isProgram_j36 (G : Gm) (t : Nat) (N : Nat) (x1 : Int32)    : ∀  (S : St), J G YX12_isProgram 3 0 0 (fI t) 0 0 36 [some (vR (some 146)), some (vI x1), none, none] [] (MM t S) (f12_isProgram_j36 N x1 S) := by
  intro S
  unfold f12_isProgram_j36
  refine J_iconst (v := nI 0) dX12_isProgram_36 (by decide) ?_
  exact J_sb (t12_isProgram_j37 G t N x1 (nI 0) S) (And.intro rfl (And.intro rfl (trivial)))
set_option maxRecDepth 100000 in
set_option maxHeartbeats 4000000 in
theorem t12_isProgram_j28 (G : Gm) (t : Nat) (N : Nat) (x1 : Int32)    : ∀ (xs0 : Int32) (S : St), J G YX12_isProgram 3 0 0 (fI t) 0 0 28 [some (vR (some 146)), some (vI x1), none, none] [vI xs0, vR (some 153)] (MM t S) (f12_isProgram_j28 N x1 xs0 S) := by
  intro xs0 S
  unfold f12_isProgram_j28
  refine K_iald (sq 153 rfl) dX12_isProgram_28 ?_
  refine J_if_ne (tgt := 36) dX12_isProgram_29 (by decide) (fun z1 => ?_) (fun z1 => ?_)
  · refine J_iconst (v := nI 1) dX12_isProgram_32 (by decide) ?_
    refine J_goto (tgt := 37) dX12_isProgram_33 (by decide) ?_
    exact J_sb (t12_isProgram_j37 G t N x1 (nI 1) S) (And.intro rfl (And.intro rfl (trivial)))
  · exact J_sb (t12_isProgram_j36 G t N x1 S) (And.intro rfl (And.intro rfl (trivial)))
set_option maxRecDepth 100000 in
set_option maxHeartbeats 4000000 in
theorem ct12_isProgram (G : Gm) (t : Nat) (N : Nat) (x1 : Int32)  (S : St) : Ct G YX12_isProgram yX12_isProgram 3 0 0 (fI t) (f12_isProgram N x1 S) [vR (some 146), vI x1] (MM t S) := by
  refine Ct_of_J [some (vR (some 146)), some (vI x1), none, none] (by decide) rfl (fun h => by cases h) (Nat.le_of_ble_eq_true rfl) (And.intro rfl (And.intro rfl (trivial))) ?_
  unfold f12_isProgram
  refine J_aload_n dX12_isProgram_0 rfl rfl ?_
  refine K_getI cf12 flX12_128 (sq 146 rfl) (Or.inl rfl) dX12_isProgram_1 ?_
  refine J_if_le (tgt := 36) dX12_isProgram_4 (by decide) (fun z1 => ?_) (fun z1 => ?_)
  · exact J_sb (t12_isProgram_j36 G t N x1 S) (And.intro rfl (And.intro rfl (trivial)))
  · refine J_aload_n dX12_isProgram_7 rfl rfl ?_
    refine K_getR (r := some (153)) cf12 flX12_28 (sq 146 rfl) rfl (Or.inr ⟨_, rfl⟩) dX12_isProgram_8 ?_
    refine J_aload_n dX12_isProgram_11 rfl rfl ?_
    refine K_getI cf12 flX12_128 (sq 146 rfl) (Or.inl rfl) dX12_isProgram_12 ?_
    refine J_if_le (tgt := 27) dX12_isProgram_15 (by decide) (fun z2 => ?_) (fun z2 => ?_)
    · refine J_iconst (v := nI 0) dX12_isProgram_27 (by decide) ?_
      exact J_sb (t12_isProgram_j28 G t N x1 (nI 0) S) (And.intro rfl (And.intro rfl (trivial)))
    · refine J_aload_n dX12_isProgram_18 rfl rfl ?_
      refine K_getI cf12 flX12_128 (sq 146 rfl) (Or.inl rfl) dX12_isProgram_19 ?_
      refine J_iconst (v := nI 1) dX12_isProgram_22 (by decide) ?_
      refine J_isub dX12_isProgram_23 ?_
      refine J_goto (tgt := 28) dX12_isProgram_24 (by decide) ?_
      exact J_sb (t12_isProgram_j28 G t N x1 ((S.1 146 8) - (nI 1)) S) (And.intro rfl (And.intro rfl (trivial)))
theorem dX12_sizeIn_0 : decode cX12_sizeIn 0 = .ok (.iconst 0, 1) := by decide +kernel
theorem dX12_sizeIn_1 : decode cX12_sizeIn 1 = .ok (.istore_n 2, 1) := by decide +kernel
theorem dX12_sizeIn_2 : decode cX12_sizeIn 2 = .ok (.iconst 0, 1) := by decide +kernel
theorem dX12_sizeIn_3 : decode cX12_sizeIn 3 = .ok (.istore_n 3, 1) := by decide +kernel
theorem dX12_sizeIn_4 : decode cX12_sizeIn 4 = .ok (.iload_n 3, 1) := by decide +kernel
theorem dX12_sizeIn_5 : decode cX12_sizeIn 5 = .ok (.aload_n 0, 1) := by decide +kernel
theorem dX12_sizeIn_6 : decode cX12_sizeIn 6 = .ok (.getfield 128, 3) := by decide +kernel
theorem dX12_sizeIn_9 : decode cX12_sizeIn 9 = .ok (.if_icmp .ge 28, 3) := by decide +kernel
theorem dX12_sizeIn_12 : decode cX12_sizeIn 12 = .ok (.iload_n 2, 1) := by decide +kernel
theorem dX12_sizeIn_13 : decode cX12_sizeIn 13 = .ok (.aload_n 0, 1) := by decide +kernel
theorem dX12_sizeIn_14 : decode cX12_sizeIn 14 = .ok (.getfield 9, 3) := by decide +kernel
theorem dX12_sizeIn_17 : decode cX12_sizeIn 17 = .ok (.bipush 12, 2) := by decide +kernel
theorem dX12_sizeIn_19 : decode cX12_sizeIn 19 = .ok (.iload_n 1, 1) := by decide +kernel
theorem dX12_sizeIn_20 : decode cX12_sizeIn 20 = .ok (.imul, 1) := by decide +kernel
theorem dX12_sizeIn_21 : decode cX12_sizeIn 21 = .ok (.aload_n 0, 1) := by decide +kernel
theorem dX12_sizeIn_22 : decode cX12_sizeIn 22 = .ok (.getfield 28, 3) := by decide +kernel
theorem dX12_sizeIn_25 : decode cX12_sizeIn 25 = .ok (.iload_n 3, 1) := by decide +kernel
theorem dX12_sizeIn_26 : decode cX12_sizeIn 26 = .ok (.iaload, 1) := by decide +kernel
theorem dX12_sizeIn_27 : decode cX12_sizeIn 27 = .ok (.iadd, 1) := by decide +kernel
theorem dX12_sizeIn_28 : decode cX12_sizeIn 28 = .ok (.iaload, 1) := by decide +kernel
theorem dX12_sizeIn_29 : decode cX12_sizeIn 29 = .ok (.iadd, 1) := by decide +kernel
theorem dX12_sizeIn_30 : decode cX12_sizeIn 30 = .ok (.istore_n 2, 1) := by decide +kernel
theorem dX12_sizeIn_31 : decode cX12_sizeIn 31 = .ok (.iinc 3 1, 3) := by decide +kernel
theorem dX12_sizeIn_34 : decode cX12_sizeIn 34 = .ok (.goto (-30), 3) := by decide +kernel
theorem dX12_sizeIn_37 : decode cX12_sizeIn 37 = .ok (.iload_n 2, 1) := by decide +kernel
theorem dX12_sizeIn_38 : decode cX12_sizeIn 38 = .ok (.ireturn, 1) := by decide +kernel
set_option maxRecDepth 100000 in
set_option maxHeartbeats 4000000 in
theorem t12_sizeIn_h4 (G : Gm) (t : Nat) (N : Nat) (x1 : Int32)    : ∀ (n : Nat) (x2 : Int32) (x3 : Int32) (S : St), J G YX12_sizeIn 1 0 0 (fI t) 0 0 4 [some (vR (some 146)), some (vI x1), some (vI x2), some (vI x3)] [] (MM t S) (f12_sizeIn_h4 N x1 n x2 x3 S) := by
  intro n
  induction n with
  | zero => intro x2 x3 S; exact J_none
  | succ n ih =>
    intro x2 x3 S
    rw [f12_sizeIn_h4]
    refine J_iload_n dX12_sizeIn_4 rfl rfl ?_
    refine J_aload_n dX12_sizeIn_5 rfl rfl ?_
    refine K_getI cf12 flX12_128 (sq 146 rfl) (Or.inl rfl) dX12_sizeIn_6 ?_
    refine J_icmp_ge (tgt := 37) dX12_sizeIn_9 (by decide) (fun z1 => ?_) (fun z1 => ?_)
    · refine J_iload_n dX12_sizeIn_37 rfl rfl ?_
      exact J_ireturn rfl (Nat.le_refl _) (Nat.le_refl _) rfl dX12_sizeIn_38
    · refine J_iload_n dX12_sizeIn_12 rfl rfl ?_
      refine J_aload_n dX12_sizeIn_13 rfl rfl ?_
      refine K_getR (r := some (147)) cf12 flX12_9 (sq 146 rfl) rfl (Or.inr ⟨_, rfl⟩) dX12_sizeIn_14 ?_
      refine J_bipush (v := nI 12) dX12_sizeIn_17 (by decide) ?_
      refine J_iload_n dX12_sizeIn_19 rfl rfl ?_
      refine J_imul dX12_sizeIn_20 ?_
      refine J_aload_n dX12_sizeIn_21 rfl rfl ?_
      refine K_getR (r := some (153)) cf12 flX12_28 (sq 146 rfl) rfl (Or.inr ⟨_, rfl⟩) dX12_sizeIn_22 ?_
      refine J_iload_n dX12_sizeIn_25 rfl rfl ?_
      refine K_iald (sq 153 rfl) dX12_sizeIn_26 ?_
      refine J_iadd dX12_sizeIn_27 ?_
      refine K_iald (sq 147 rfl) dX12_sizeIn_28 ?_
      refine J_iadd dX12_sizeIn_29 ?_
      refine J_ltI (fun v2 _ => ?_)
      refine J_istore_n [some (vR (some 146)), some (vI x1), some (vI v2), some (vI x3)] dX12_sizeIn_30 rfl (Nat.le_of_ble_eq_true rfl) rfl rfl ?_
      refine J_iinc (v := x3 + nI 1) [some (vR (some 146)), some (vI x1), some (vI v2), some (vI (x3 + nI 1))] dX12_sizeIn_31 rfl rfl (Nat.le_of_ble_eq_true rfl) rfl rfl ?_
      refine J_goto (tgt := 4) dX12_sizeIn_34 (by decide) ?_
      exact J_sb (ih v2 (x3 + nI 1) S) (And.intro rfl (And.intro rfl (And.intro rfl (And.intro rfl (trivial)))))
set_option maxRecDepth 100000 in
set_option maxHeartbeats 4000000 in
theorem ct12_sizeIn (G : Gm) (t : Nat) (N : Nat) (x1 : Int32)  (S : St) : Ct G YX12_sizeIn yX12_sizeIn 1 0 0 (fI t) (f12_sizeIn N x1 S) [vR (some 146), vI x1] (MM t S) := by
  refine Ct_of_J [some (vR (some 146)), some (vI x1), none, none] (by decide) rfl (fun h => by cases h) (Nat.le_of_ble_eq_true rfl) (And.intro rfl (And.intro rfl (trivial))) ?_
  unfold f12_sizeIn
  refine J_iconst (v := nI 0) dX12_sizeIn_0 (by decide) ?_
  refine J_istore_n [some (vR (some 146)), some (vI x1), some (vI (nI 0)), none] dX12_sizeIn_1 rfl (Nat.le_of_ble_eq_true rfl) rfl rfl ?_
  refine J_iconst (v := nI 0) dX12_sizeIn_2 (by decide) ?_
  refine J_istore_n [some (vR (some 146)), some (vI x1), some (vI (nI 0)), some (vI (nI 0))] dX12_sizeIn_3 rfl (Nat.le_of_ble_eq_true rfl) rfl rfl ?_
  exact J_sb (t12_sizeIn_h4 G t N x1 N (nI 0) (nI 0) S) (And.intro rfl (And.intro rfl (And.intro rfl (And.intro rfl (trivial)))))
theorem dX12_size_0 : decode cX12_size 0 = .ok (.aload_n 0, 1) := by decide +kernel
theorem dX12_size_1 : decode cX12_size 1 = .ok (.iload_n 1, 1) := by decide +kernel
theorem dX12_size_2 : decode cX12_size 2 = .ok (.invokevirtual 117, 3) := by decide +kernel
theorem dX12_size_5 : decode cX12_size 5 = .ok (.ifCond .ne 5, 3) := by decide +kernel
theorem dX12_size_8 : decode cX12_size 8 = .ok (.iconst (-1), 1) := by decide +kernel
theorem dX12_size_9 : decode cX12_size 9 = .ok (.ireturn, 1) := by decide +kernel
theorem dX12_size_10 : decode cX12_size 10 = .ok (.aload_n 0, 1) := by decide +kernel
theorem dX12_size_11 : decode cX12_size 11 = .ok (.iload_n 1, 1) := by decide +kernel
theorem dX12_size_12 : decode cX12_size 12 = .ok (.invokevirtual 133, 3) := by decide +kernel
theorem dX12_size_15 : decode cX12_size 15 = .ok (.ifCond .eq 11, 3) := by decide +kernel
theorem dX12_size_18 : decode cX12_size 18 = .ok (.aload_n 0, 1) := by decide +kernel
theorem dX12_size_19 : decode cX12_size 19 = .ok (.iload_n 1, 1) := by decide +kernel
theorem dX12_size_20 : decode cX12_size 20 = .ok (.invokevirtual 136, 3) := by decide +kernel
theorem dX12_size_23 : decode cX12_size 23 = .ok (.goto 5, 3) := by decide +kernel
theorem dX12_size_26 : decode cX12_size 26 = .ok (.bipush (-5), 2) := by decide +kernel
theorem dX12_size_28 : decode cX12_size 28 = .ok (.ireturn, 1) := by decide +kernel
set_option maxRecDepth 100000 in
set_option maxHeartbeats 4000000 in
theorem ct12_size (G : Gm) (t : Nat) (N : Nat) (x1 : Int32)  (S : St) : Ct G YX12_size yX12_size 4 0 0 (fI t) (f12_size N x1 S) [vR (some 146), vI x1] (MM t S) := by
  refine Ct_of_J [some (vR (some 146)), some (vI x1)] (by decide) rfl (fun h => by cases h) (Nat.le_of_ble_eq_true rfl) (And.intro rfl (And.intro rfl (trivial))) ?_
  unfold f12_size
  refine J_aload_n dX12_size_0 rfl rfl ?_
  refine J_iload_n dX12_size_1 rfl rfl ?_
  refine K_callV_i (As := [vI x1]) mcX12_isLanguage mlX12_117 rfl (by decide) (sq 146 rfl) (ct12_isLanguage G t x1 S) rfl rfl (Nat.le_of_ble_eq_true rfl) (by decide) (Nat.le_of_ble_eq_true rfl) dX12_size_2 (fun q1 S2 => ?_)
  refine J_if_ne (tgt := 10) dX12_size_5 (by decide) (fun z3 => ?_) (fun z3 => ?_)
  · refine J_iconst (v := (-1)) dX12_size_8 (by decide) ?_
    exact J_ireturn rfl (Nat.le_refl _) (Nat.le_refl _) rfl dX12_size_9
  · refine J_aload_n dX12_size_10 rfl rfl ?_
    refine J_iload_n dX12_size_11 rfl rfl ?_
    refine K_callV_i (As := [vI x1]) mcX12_isProgram mlX12_133 rfl (by decide) (sq 146 rfl) (ct12_isProgram G t N x1 S2) rfl rfl (Nat.le_of_ble_eq_true rfl) (by decide) (Nat.le_of_ble_eq_true rfl) dX12_size_12 (fun q4 S5 => ?_)
    refine J_if_eq (tgt := 26) dX12_size_15 (by decide) (fun z6 => ?_) (fun z6 => ?_)
    · refine J_bipush (v := (-5)) dX12_size_26 (by decide) ?_
      exact J_ireturn rfl (Nat.le_refl _) (Nat.le_refl _) rfl dX12_size_28
    · refine J_aload_n dX12_size_18 rfl rfl ?_
      refine J_iload_n dX12_size_19 rfl rfl ?_
      refine K_callV_i (As := [vI x1]) mcX12_sizeIn mlX12_136 rfl (by decide) (sq 146 rfl) (ct12_sizeIn G t N x1 S5) rfl rfl (Nat.le_of_ble_eq_true rfl) (by decide) (Nat.le_of_ble_eq_true rfl) dX12_size_20 (fun q7 S8 => ?_)
      refine J_goto (tgt := 28) dX12_size_23 (by decide) ?_
      exact J_ireturn rfl (Nat.le_refl _) (Nat.le_refl _) rfl dX12_size_28
theorem dX12_packed_0 : decode cX12_packed 0 = .ok (.lconst 0, 1) := by decide +kernel
theorem dX12_packed_1 : decode cX12_packed 1 = .ok (.lstore_n 1, 1) := by decide +kernel
theorem dX12_packed_2 : decode cX12_packed 2 = .ok (.aload_n 0, 1) := by decide +kernel
theorem dX12_packed_3 : decode cX12_packed 3 = .ok (.getfield 128, 3) := by decide +kernel
theorem dX12_packed_6 : decode cX12_packed 6 = .ok (.iconst 1, 1) := by decide +kernel
theorem dX12_packed_7 : decode cX12_packed 7 = .ok (.isub, 1) := by decide +kernel
theorem dX12_packed_8 : decode cX12_packed 8 = .ok (.istore_n 3, 1) := by decide +kernel
theorem dX12_packed_9 : decode cX12_packed 9 = .ok (.iload_n 3, 1) := by decide +kernel
theorem dX12_packed_10 : decode cX12_packed 10 = .ok (.ifCond .lt 21, 3) := by decide +kernel
theorem dX12_packed_13 : decode cX12_packed 13 = .ok (.lload_n 1, 1) := by decide +kernel
theorem dX12_packed_14 : decode cX12_packed 14 = .ok (.iconst 4, 1) := by decide +kernel
theorem dX12_packed_15 : decode cX12_packed 15 = .ok (.lshl, 1) := by decide +kernel
theorem dX12_packed_16 : decode cX12_packed 16 = .ok (.aload_n 0, 1) := by decide +kernel
theorem dX12_packed_17 : decode cX12_packed 17 = .ok (.getfield 28, 3) := by decide +kernel
theorem dX12_packed_20 : decode cX12_packed 20 = .ok (.iload_n 3, 1) := by decide +kernel
theorem dX12_packed_21 : decode cX12_packed 21 = .ok (.iaload, 1) := by decide +kernel
theorem dX12_packed_22 : decode cX12_packed 22 = .ok (.i2l, 1) := by decide +kernel
theorem dX12_packed_23 : decode cX12_packed 23 = .ok (.lor, 1) := by decide +kernel
theorem dX12_packed_24 : decode cX12_packed 24 = .ok (.lstore_n 1, 1) := by decide +kernel
theorem dX12_packed_25 : decode cX12_packed 25 = .ok (.iinc 3 (-1), 3) := by decide +kernel
theorem dX12_packed_28 : decode cX12_packed 28 = .ok (.goto (-19), 3) := by decide +kernel
theorem dX12_packed_31 : decode cX12_packed 31 = .ok (.lload_n 1, 1) := by decide +kernel
theorem dX12_packed_32 : decode cX12_packed 32 = .ok (.lreturn, 1) := by decide +kernel
set_option maxRecDepth 100000 in
set_option maxHeartbeats 4000000 in
theorem t12_packed_h9 (G : Gm) (t : Nat) (N : Nat)     : ∀ (n : Nat) (l1 : Int64) (x3 : Int32) (S : St), J G YX12_packed 1 0 0 (fL t) 0 0 9 [some (vR (some 146)), some (vL l1), none, some (vI x3)] [] (MM t S) (f12_packed_h9 N n l1 x3 S) := by
  intro n
  induction n with
  | zero => intro l1 x3 S; exact J_none
  | succ n ih =>
    intro l1 x3 S
    rw [f12_packed_h9]
    refine J_iload_n dX12_packed_9 rfl rfl ?_
    refine J_if_lt (tgt := 31) dX12_packed_10 (by decide) (fun z1 => ?_) (fun z1 => ?_)
    · refine J_lload_n dX12_packed_31 rfl rfl ?_
      exact J_lreturn rfl (Nat.le_refl _) (Nat.le_refl _) rfl dX12_packed_32
    · refine J_lload_n dX12_packed_13 rfl rfl ?_
      refine J_iconst (v := nI 4) dX12_packed_14 (by decide) ?_
      refine J_lshl dX12_packed_15 ?_
      refine J_aload_n dX12_packed_16 rfl rfl ?_
      refine K_getR (r := some (153)) cf12 flX12_28 (sq 146 rfl) rfl (Or.inr ⟨_, rfl⟩) dX12_packed_17 ?_
      refine J_iload_n dX12_packed_20 rfl rfl ?_
      refine K_iald (sq 153 rfl) dX12_packed_21 ?_
      refine J_i2l dX12_packed_22 ?_
      refine J_lor dX12_packed_23 ?_
      refine J_ltJ (fun v2 _ => ?_)
      refine J_lstore_n [some (vR (some 146)), some (vL v2), none, some (vI x3)] dX12_packed_24 rfl (Nat.le_of_ble_eq_true rfl) rfl rfl ?_
      refine J_iinc (v := x3 + (-1)) [some (vR (some 146)), some (vL v2), none, some (vI (x3 + (-1)))] dX12_packed_25 rfl rfl (Nat.le_of_ble_eq_true rfl) rfl rfl ?_
      refine J_goto (tgt := 9) dX12_packed_28 (by decide) ?_
      exact J_sb (ih v2 (x3 + (-1)) S) (And.intro rfl (And.intro rfl (And.intro rfl (trivial))))
set_option maxRecDepth 100000 in
set_option maxHeartbeats 4000000 in
theorem ct12_packed (G : Gm) (t : Nat) (N : Nat)   (S : St) : Ct G YX12_packed yX12_packed 1 0 0 (fL t) (f12_packed N S) [vR (some 146)] (MM t S) := by
  refine Ct_of_J [some (vR (some 146)), none, none, none] (by decide) rfl (fun h => by cases h) (Nat.le_of_ble_eq_true rfl) (And.intro rfl (trivial)) ?_
  unfold f12_packed
  refine J_lconst (v := lN 0) dX12_packed_0 (by decide) ?_
  refine J_lstore_n [some (vR (some 146)), some (vL (lN 0)), none, none] dX12_packed_1 rfl (Nat.le_of_ble_eq_true rfl) rfl rfl ?_
  refine J_aload_n dX12_packed_2 rfl rfl ?_
  refine K_getI cf12 flX12_128 (sq 146 rfl) (Or.inl rfl) dX12_packed_3 ?_
  refine J_iconst (v := nI 1) dX12_packed_6 (by decide) ?_
  refine J_isub dX12_packed_7 ?_
  refine J_ltI (fun v1 _ => ?_)
  refine J_istore_n [some (vR (some 146)), some (vL (lN 0)), none, some (vI v1)] dX12_packed_8 rfl (Nat.le_of_ble_eq_true rfl) rfl rfl ?_
  exact J_sb (t12_packed_h9 G t N N (lN 0) v1 S) (And.intro rfl (And.intro rfl (And.intro rfl (trivial))))
theorem dX12_lookAt_0 : decode cX12_lookAt 0 = .ok (.aload_n 0, 1) := by decide +kernel
theorem dX12_lookAt_1 : decode cX12_lookAt 1 = .ok (.iconst 0, 1) := by decide +kernel
theorem dX12_lookAt_2 : decode cX12_lookAt 2 = .ok (.putfield 128, 3) := by decide +kernel
theorem dX12_lookAt_5 : decode cX12_lookAt 5 = .ok (.iconst 1, 1) := by decide +kernel
theorem dX12_lookAt_6 : decode cX12_lookAt 6 = .ok (.istore_n 3, 1) := by decide +kernel
theorem dX12_lookAt_7 : decode cX12_lookAt 7 = .ok (.lload_n 1, 1) := by decide +kernel
theorem dX12_lookAt_8 : decode cX12_lookAt 8 = .ok (.lstore 4, 2) := by decide +kernel
theorem dX12_lookAt_10 : decode cX12_lookAt 10 = .ok (.iload_n 3, 1) := by decide +kernel
theorem dX12_lookAt_11 : decode cX12_lookAt 11 = .ok (.ifCond .eq 56, 3) := by decide +kernel
theorem dX12_lookAt_14 : decode cX12_lookAt 14 = .ok (.aload_n 0, 1) := by decide +kernel
theorem dX12_lookAt_15 : decode cX12_lookAt 15 = .ok (.getfield 28, 3) := by decide +kernel
theorem dX12_lookAt_18 : decode cX12_lookAt 18 = .ok (.aload_n 0, 1) := by decide +kernel
theorem dX12_lookAt_19 : decode cX12_lookAt 19 = .ok (.getfield 128, 3) := by decide +kernel
theorem dX12_lookAt_22 : decode cX12_lookAt 22 = .ok (.lload 4, 2) := by decide +kernel
theorem dX12_lookAt_24 : decode cX12_lookAt 24 = .ok (.ldc2_w 139, 3) := by decide +kernel
theorem dX12_lookAt_27 : decode cX12_lookAt 27 = .ok (.land, 1) := by decide +kernel
theorem dX12_lookAt_28 : decode cX12_lookAt 28 = .ok (.l2i, 1) := by decide +kernel
theorem dX12_lookAt_29 : decode cX12_lookAt 29 = .ok (.iastore, 1) := by decide +kernel
theorem dX12_lookAt_30 : decode cX12_lookAt 30 = .ok (.aload_n 0, 1) := by decide +kernel
theorem dX12_lookAt_31 : decode cX12_lookAt 31 = .ok (.getfield 28, 3) := by decide +kernel
theorem dX12_lookAt_34 : decode cX12_lookAt 34 = .ok (.aload_n 0, 1) := by decide +kernel
theorem dX12_lookAt_35 : decode cX12_lookAt 35 = .ok (.getfield 128, 3) := by decide +kernel
theorem dX12_lookAt_38 : decode cX12_lookAt 38 = .ok (.iaload, 1) := by decide +kernel
theorem dX12_lookAt_39 : decode cX12_lookAt 39 = .ok (.ifCond .eq 7, 3) := by decide +kernel
theorem dX12_lookAt_42 : decode cX12_lookAt 42 = .ok (.iconst 1, 1) := by decide +kernel
theorem dX12_lookAt_43 : decode cX12_lookAt 43 = .ok (.goto 4, 3) := by decide +kernel
theorem dX12_lookAt_46 : decode cX12_lookAt 46 = .ok (.iconst 0, 1) := by decide +kernel
theorem dX12_lookAt_47 : decode cX12_lookAt 47 = .ok (.istore_n 3, 1) := by decide +kernel
theorem dX12_lookAt_48 : decode cX12_lookAt 48 = .ok (.lload 4, 2) := by decide +kernel
theorem dX12_lookAt_50 : decode cX12_lookAt 50 = .ok (.iconst 4, 1) := by decide +kernel
theorem dX12_lookAt_51 : decode cX12_lookAt 51 = .ok (.lshr, 1) := by decide +kernel
theorem dX12_lookAt_52 : decode cX12_lookAt 52 = .ok (.lstore 4, 2) := by decide +kernel
theorem dX12_lookAt_54 : decode cX12_lookAt 54 = .ok (.aload_n 0, 1) := by decide +kernel
theorem dX12_lookAt_55 : decode cX12_lookAt 55 = .ok (.dup, 1) := by decide +kernel
theorem dX12_lookAt_56 : decode cX12_lookAt 56 = .ok (.getfield 128, 3) := by decide +kernel
theorem dX12_lookAt_59 : decode cX12_lookAt 59 = .ok (.iconst 1, 1) := by decide +kernel
theorem dX12_lookAt_60 : decode cX12_lookAt 60 = .ok (.iadd, 1) := by decide +kernel
theorem dX12_lookAt_61 : decode cX12_lookAt 61 = .ok (.putfield 128, 3) := by decide +kernel
theorem dX12_lookAt_64 : decode cX12_lookAt 64 = .ok (.goto (-54), 3) := by decide +kernel
theorem dX12_lookAt_67 : decode cX12_lookAt 67 = .ok (.return_, 1) := by decide +kernel
set_option maxRecDepth 100000 in
set_option maxHeartbeats 4000000 in
theorem t12_lookAt_j47 (G : Gm) (t : Nat) (N : Nat) (l4 : Int64)  (k10 : Int32 → Int64 → St → Option (Unit × St)) (hk10 : ∀ (yx3 : Int32) (yl4 : Int64) (S : St), J G YX12_lookAt 1 0 0 (fV t) 0 0 10 [some (vR (some 146)), none, none, some (vI yx3), some (vL yl4), none] [] (MM t S) (k10 yx3 yl4 S)) : ∀ (xs0 : Int32) (S : St), J G YX12_lookAt 1 0 0 (fV t) 0 0 47 [some (vR (some 146)), none, none, none, some (vL l4), none] [vI xs0] (MM t S) (f12_lookAt_j47 N l4 k10 xs0 S) := by
  intro xs0 S
  unfold f12_lookAt_j47
  refine J_istore_n [some (vR (some 146)), none, none, some (vI xs0), some (vL l4), none] dX12_lookAt_47 rfl (Nat.le_of_ble_eq_true rfl) rfl rfl ?_
  refine J_lload dX12_lookAt_48 rfl ?_
  refine J_iconst (v := nI 4) dX12_lookAt_50 (by decide) ?_
  refine J_lshr dX12_lookAt_51 ?_
  refine J_ltJ (fun v1 _ => ?_)
  refine J_lstore [some (vR (some 146)), none, none, some (vI xs0), some (vL v1), none] dX12_lookAt_52 (Nat.le_of_ble_eq_true rfl) rfl rfl ?_
  refine J_aload_n dX12_lookAt_54 rfl rfl ?_
  refine J_dup dX12_lookAt_55 rfl ?_
  refine K_getI cf12 flX12_128 (sq 146 rfl) (Or.inl rfl) dX12_lookAt_56 ?_
  refine J_iconst (v := nI 1) dX12_lookAt_59 (by decide) ?_
  refine J_iadd dX12_lookAt_60 ?_
  refine K_putI cf12 flX12_128 (sq 146 rfl) rfl dX12_lookAt_61 ?_
  refine J_ltS (fun S2 _ => ?_)
  refine J_goto (tgt := 10) dX12_lookAt_64 (by decide) ?_
  exact J_sb (hk10 xs0 v1 S2) (And.intro rfl (And.intro rfl (And.intro rfl (trivial))))
set_option maxRecDepth 100000 in
set_option maxHeartbeats 4000000 in
theorem t12_lookAt_h10 (G : Gm) (t : Nat) (N : Nat)     : ∀ (n : Nat) (x3 : Int32) (l4 : Int64) (S : St), J G YX12_lookAt 1 0 0 (fV t) 0 0 10 [some (vR (some 146)), none, none, some (vI x3), some (vL l4), none] [] (MM t S) (f12_lookAt_h10 N n x3 l4 S) := by
  intro n
  induction n with
  | zero => intro x3 l4 S; exact J_none
  | succ n ih =>
    intro x3 l4 S
    rw [f12_lookAt_h10]
    refine J_iload_n dX12_lookAt_10 rfl rfl ?_
    refine J_if_eq (tgt := 67) dX12_lookAt_11 (by decide) (fun z1 => ?_) (fun z1 => ?_)
    · exact J_return rfl (Nat.le_refl _) (Nat.le_refl _) rfl dX12_lookAt_67
    · refine J_aload_n dX12_lookAt_14 rfl rfl ?_
      refine K_getR (r := some (153)) cf12 flX12_28 (sq 146 rfl) rfl (Or.inr ⟨_, rfl⟩) dX12_lookAt_15 ?_
      refine J_aload_n dX12_lookAt_18 rfl rfl ?_
      refine K_getI cf12 flX12_128 (sq 146 rfl) (Or.inl rfl) dX12_lookAt_19 ?_
      refine J_lload dX12_lookAt_22 rfl ?_
      refine J_ldc2_w (v := lN 15) wX12_139 dX12_lookAt_24 ?_
      refine J_land dX12_lookAt_27 ?_
      refine J_l2i dX12_lookAt_28 ?_
      refine K_iast (sq 153 rfl) dX12_lookAt_29 ?_
      refine J_ltS (fun S2 _ => ?_)
      refine J_aload_n dX12_lookAt_30 rfl rfl ?_
      refine K_getR (r := some (153)) cf12 flX12_28 (sq 146 rfl) rfl (Or.inr ⟨_, rfl⟩) dX12_lookAt_31 ?_
      refine J_aload_n dX12_lookAt_34 rfl rfl ?_
      refine K_getI cf12 flX12_128 (sq 146 rfl) (Or.inl rfl) dX12_lookAt_35 ?_
      refine K_iald (sq 153 rfl) dX12_lookAt_38 ?_
      refine J_if_eq (tgt := 46) dX12_lookAt_39 (by decide) (fun z3 => ?_) (fun z3 => ?_)
      · refine J_iconst (v := nI 0) dX12_lookAt_46 (by decide) ?_
        exact J_sb (t12_lookAt_j47 G t N l4 (f12_lookAt_h10 N n) ih (nI 0) S2) (And.intro rfl (And.intro rfl (trivial)))
      · refine J_iconst (v := nI 1) dX12_lookAt_42 (by decide) ?_
        refine J_goto (tgt := 47) dX12_lookAt_43 (by decide) ?_
        exact J_sb (t12_lookAt_j47 G t N l4 (f12_lookAt_h10 N n) ih (nI 1) S2) (And.intro rfl (And.intro rfl (trivial)))
set_option maxRecDepth 100000 in
set_option maxHeartbeats 4000000 in
theorem ct12_lookAt (G : Gm) (t : Nat) (N : Nat) (l1 : Int64)  (S : St) : Ct G YX12_lookAt yX12_lookAt 1 0 0 (fV t) (f12_lookAt N l1 S) [vR (some 146), vL l1] (MM t S) := by
  refine Ct_of_J [some (vR (some 146)), some (vL l1), none, none, none, none] (by decide) rfl (fun h => by cases h) (Nat.le_of_ble_eq_true rfl) (And.intro rfl (And.intro rfl (trivial))) ?_
  unfold f12_lookAt
  refine J_aload_n dX12_lookAt_0 rfl rfl ?_
  refine J_iconst (v := nI 0) dX12_lookAt_1 (by decide) ?_
  refine K_putI cf12 flX12_128 (sq 146 rfl) rfl dX12_lookAt_2 ?_
  refine J_ltS (fun S1 _ => ?_)
  refine J_iconst (v := nI 1) dX12_lookAt_5 (by decide) ?_
  refine J_istore_n [some (vR (some 146)), some (vL l1), none, some (vI (nI 1)), none, none] dX12_lookAt_6 rfl (Nat.le_of_ble_eq_true rfl) rfl rfl ?_
  refine J_lload_n dX12_lookAt_7 rfl rfl ?_
  refine J_lstore [some (vR (some 146)), some (vL l1), none, some (vI (nI 1)), some (vL l1), none] dX12_lookAt_8 (Nat.le_of_ble_eq_true rfl) rfl rfl ?_
  exact J_sb (t12_lookAt_h10 G t N N (nI 1) l1 S1) (And.intro rfl (And.intro rfl (And.intro rfl (trivial))))
theorem dX12_write_0 : decode cX12_write 0 = .ok (.aload_n 0, 1) := by decide +kernel
theorem dX12_write_1 : decode cX12_write 1 = .ok (.iconst 0, 1) := by decide +kernel
theorem dX12_write_2 : decode cX12_write 2 = .ok (.putfield 141, 3) := by decide +kernel
theorem dX12_write_5 : decode cX12_write 5 = .ok (.lload_n 2, 1) := by decide +kernel
theorem dX12_write_6 : decode cX12_write 6 = .ok (.lstore 4, 2) := by decide +kernel
theorem dX12_write_8 : decode cX12_write 8 = .ok (.iconst 1, 1) := by decide +kernel
theorem dX12_write_9 : decode cX12_write 9 = .ok (.istore 6, 2) := by decide +kernel
theorem dX12_write_11 : decode cX12_write 11 = .ok (.iload 6, 2) := by decide +kernel
theorem dX12_write_13 : decode cX12_write 13 = .ok (.ifCond .eq 127, 3) := by decide +kernel
theorem dX12_write_16 : decode cX12_write 16 = .ok (.lload 4, 2) := by decide +kernel
theorem dX12_write_18 : decode cX12_write 18 = .ok (.ldc2_w 139, 3) := by decide +kernel
theorem dX12_write_21 : decode cX12_write 21 = .ok (.land, 1) := by decide +kernel
theorem dX12_write_22 : decode cX12_write 22 = .ok (.l2i, 1) := by decide +kernel
theorem dX12_write_23 : decode cX12_write 23 = .ok (.istore 7, 2) := by decide +kernel
theorem dX12_write_25 : decode cX12_write 25 = .ok (.lload 4, 2) := by decide +kernel
theorem dX12_write_27 : decode cX12_write 27 = .ok (.iconst 4, 1) := by decide +kernel
theorem dX12_write_28 : decode cX12_write 28 = .ok (.lshr, 1) := by decide +kernel
theorem dX12_write_29 : decode cX12_write 29 = .ok (.lstore 4, 2) := by decide +kernel
theorem dX12_write_31 : decode cX12_write 31 = .ok (.iload 7, 2) := by decide +kernel
theorem dX12_write_33 : decode cX12_write 33 = .ok (.ifCond .eq 7, 3) := by decide +kernel
theorem dX12_write_36 : decode cX12_write 36 = .ok (.iconst 1, 1) := by decide +kernel
theorem dX12_write_37 : decode cX12_write 37 = .ok (.goto 4, 3) := by decide +kernel
theorem dX12_write_40 : decode cX12_write 40 = .ok (.iconst 0, 1) := by decide +kernel
theorem dX12_write_41 : decode cX12_write 41 = .ok (.istore 6, 2) := by decide +kernel
theorem dX12_write_43 : decode cX12_write 43 = .ok (.iload 7, 2) := by decide +kernel
theorem dX12_write_45 : decode cX12_write 45 = .ok (.bipush 8, 2) := by decide +kernel
theorem dX12_write_47 : decode cX12_write 47 = .ok (.if_icmp .ge 27, 3) := by decide +kernel
theorem dX12_write_50 : decode cX12_write 50 = .ok (.aload_n 0, 1) := by decide +kernel
theorem dX12_write_51 : decode cX12_write 51 = .ok (.getfield 31, 3) := by decide +kernel
theorem dX12_write_54 : decode cX12_write 54 = .ok (.aload_n 0, 1) := by decide +kernel
theorem dX12_write_55 : decode cX12_write 55 = .ok (.getfield 141, 3) := by decide +kernel
theorem dX12_write_58 : decode cX12_write 58 = .ok (.iload 7, 2) := by decide +kernel
theorem dX12_write_60 : decode cX12_write 60 = .ok (.iastore, 1) := by decide +kernel
theorem dX12_write_61 : decode cX12_write 61 = .ok (.aload_n 0, 1) := by decide +kernel
theorem dX12_write_62 : decode cX12_write 62 = .ok (.dup, 1) := by decide +kernel
theorem dX12_write_63 : decode cX12_write 63 = .ok (.getfield 141, 3) := by decide +kernel
theorem dX12_write_66 : decode cX12_write 66 = .ok (.iconst 1, 1) := by decide +kernel
theorem dX12_write_67 : decode cX12_write 67 = .ok (.iadd, 1) := by decide +kernel
theorem dX12_write_68 : decode cX12_write 68 = .ok (.putfield 141, 3) := by decide +kernel
theorem dX12_write_71 : decode cX12_write 71 = .ok (.goto 66, 3) := by decide +kernel
theorem dX12_write_74 : decode cX12_write 74 = .ok (.iconst 4, 1) := by decide +kernel
theorem dX12_write_75 : decode cX12_write 75 = .ok (.iload_n 1, 1) := by decide +kernel
theorem dX12_write_76 : decode cX12_write 76 = .ok (.imul, 1) := by decide +kernel
theorem dX12_write_77 : decode cX12_write 77 = .ok (.iload 7, 2) := by decide +kernel
theorem dX12_write_79 : decode cX12_write 79 = .ok (.iadd, 1) := by decide +kernel
theorem dX12_write_80 : decode cX12_write 80 = .ok (.bipush 8, 2) := by decide +kernel
theorem dX12_write_82 : decode cX12_write 82 = .ok (.isub, 1) := by decide +kernel
theorem dX12_write_83 : decode cX12_write 83 = .ok (.istore 8, 2) := by decide +kernel
theorem dX12_write_85 : decode cX12_write 85 = .ok (.iconst 0, 1) := by decide +kernel
theorem dX12_write_86 : decode cX12_write 86 = .ok (.istore 9, 2) := by decide +kernel
theorem dX12_write_88 : decode cX12_write 88 = .ok (.iload 9, 2) := by decide +kernel
theorem dX12_write_90 : decode cX12_write 90 = .ok (.aload_n 0, 1) := by decide +kernel
theorem dX12_write_91 : decode cX12_write 91 = .ok (.getfield 22, 3) := by decide +kernel
theorem dX12_write_94 : decode cX12_write 94 = .ok (.iload 8, 2) := by decide +kernel
theorem dX12_write_96 : decode cX12_write 96 = .ok (.iaload, 1) := by decide +kernel
theorem dX12_write_97 : decode cX12_write 97 = .ok (.if_icmp .ge 40, 3) := by decide +kernel
theorem dX12_write_100 : decode cX12_write 100 = .ok (.aload_n 0, 1) := by decide +kernel
theorem dX12_write_101 : decode cX12_write 101 = .ok (.getfield 31, 3) := by decide +kernel
theorem dX12_write_104 : decode cX12_write 104 = .ok (.aload_n 0, 1) := by decide +kernel
theorem dX12_write_105 : decode cX12_write 105 = .ok (.getfield 141, 3) := by decide +kernel
theorem dX12_write_108 : decode cX12_write 108 = .ok (.aload_n 0, 1) := by decide +kernel
theorem dX12_write_109 : decode cX12_write 109 = .ok (.getfield 19, 3) := by decide +kernel
theorem dX12_write_112 : decode cX12_write 112 = .ok (.iconst 4, 1) := by decide +kernel
theorem dX12_write_113 : decode cX12_write 113 = .ok (.iload 8, 2) := by decide +kernel
theorem dX12_write_115 : decode cX12_write 115 = .ok (.imul, 1) := by decide +kernel
theorem dX12_write_116 : decode cX12_write 116 = .ok (.iload 9, 2) := by decide +kernel
theorem dX12_write_118 : decode cX12_write 118 = .ok (.iadd, 1) := by decide +kernel
theorem dX12_write_119 : decode cX12_write 119 = .ok (.iaload, 1) := by decide +kernel
theorem dX12_write_120 : decode cX12_write 120 = .ok (.iastore, 1) := by decide +kernel
theorem dX12_write_121 : decode cX12_write 121 = .ok (.aload_n 0, 1) := by decide +kernel
theorem dX12_write_122 : decode cX12_write 122 = .ok (.dup, 1) := by decide +kernel
theorem dX12_write_123 : decode cX12_write 123 = .ok (.getfield 141, 3) := by decide +kernel
theorem dX12_write_126 : decode cX12_write 126 = .ok (.iconst 1, 1) := by decide +kernel
theorem dX12_write_127 : decode cX12_write 127 = .ok (.iadd, 1) := by decide +kernel
theorem dX12_write_128 : decode cX12_write 128 = .ok (.putfield 141, 3) := by decide +kernel
theorem dX12_write_131 : decode cX12_write 131 = .ok (.iinc 9 1, 3) := by decide +kernel
theorem dX12_write_134 : decode cX12_write 134 = .ok (.goto (-46), 3) := by decide +kernel
theorem dX12_write_137 : decode cX12_write 137 = .ok (.goto (-126), 3) := by decide +kernel
theorem dX12_write_140 : decode cX12_write 140 = .ok (.return_, 1) := by decide +kernel
set_option maxRecDepth 100000 in
set_option maxHeartbeats 4000000 in
theorem t12_write_h88 (G : Gm) (t : Nat) (N : Nat) (x1 : Int32) (l4 : Int64) (x6 : Int32) (x8 : Int32)  (k11 : Int64 → Int32 → St → Option (Unit × St)) (hk11 : ∀ (yl4 : Int64) (yx6 : Int32) (S : St), J G YX12_write 1 0 0 (fV t) 0 0 11 [some (vR (some 146)), some (vI x1), none, none, some (vL yl4), none, some (vI yx6), none, none, none] [] (MM t S) (k11 yl4 yx6 S)) : ∀ (n : Nat) (x9 : Int32) (S : St), J G YX12_write 1 0 0 (fV t) 0 0 88 [some (vR (some 146)), some (vI x1), none, none, some (vL l4), none, some (vI x6), none, some (vI x8), some (vI x9)] [] (MM t S) (f12_write_h88 N x1 l4 x6 x8 k11 n x9 S) := by
  intro n
  induction n with
  | zero => intro x9 S; exact J_none
  | succ n ih =>
    intro x9 S
    rw [f12_write_h88]
    refine J_iload dX12_write_88 rfl ?_
    refine J_aload_n dX12_write_90 rfl rfl ?_
    refine K_getR (r := some (151)) cf12 flX12_22 (sq 146 rfl) rfl (Or.inr ⟨_, rfl⟩) dX12_write_91 ?_
    refine J_iload dX12_write_94 rfl ?_
    refine K_iald (sq 151 rfl) dX12_write_96 ?_
    refine J_icmp_ge (tgt := 137) dX12_write_97 (by decide) (fun z1 => ?_) (fun z1 => ?_)
    · refine J_goto (tgt := 11) dX12_write_137 (by decide) ?_
      exact J_sb (hk11 l4 x6 S) (And.intro rfl (And.intro rfl (And.intro rfl (And.intro rfl (trivial)))))
    · refine J_aload_n dX12_write_100 rfl rfl ?_
      refine K_getR (r := some (154)) cf12 flX12_31 (sq 146 rfl) rfl (Or.inr ⟨_, rfl⟩) dX12_write_101 ?_
      refine J_aload_n dX12_write_104 rfl rfl ?_
      refine K_getI cf12 flX12_141 (sq 146 rfl) (Or.inl rfl) dX12_write_105 ?_
      refine J_aload_n dX12_write_108 rfl rfl ?_
      refine K_getR (r := some (150)) cf12 flX12_19 (sq 146 rfl) rfl (Or.inr ⟨_, rfl⟩) dX12_write_109 ?_
      refine J_iconst (v := nI 4) dX12_write_112 (by decide) ?_
      refine J_iload dX12_write_113 rfl ?_
      refine J_imul dX12_write_115 ?_
      refine J_iload dX12_write_116 rfl ?_
      refine J_iadd dX12_write_118 ?_
      refine K_iald (sq 150 rfl) dX12_write_119 ?_
      refine K_iast (sq 154 rfl) dX12_write_120 ?_
      refine J_ltS (fun S2 _ => ?_)
      refine J_aload_n dX12_write_121 rfl rfl ?_
      refine J_dup dX12_write_122 rfl ?_
      refine K_getI cf12 flX12_141 (sq 146 rfl) (Or.inl rfl) dX12_write_123 ?_
      refine J_iconst (v := nI 1) dX12_write_126 (by decide) ?_
      refine J_iadd dX12_write_127 ?_
      refine K_putI cf12 flX12_141 (sq 146 rfl) rfl dX12_write_128 ?_
      refine J_ltS (fun S3 _ => ?_)
      refine J_iinc (v := x9 + nI 1) [some (vR (some 146)), some (vI x1), none, none, some (vL l4), none, some (vI x6), none, some (vI x8), some (vI (x9 + nI 1))] dX12_write_131 rfl rfl (Nat.le_of_ble_eq_true rfl) rfl rfl ?_
      refine J_goto (tgt := 88) dX12_write_134 (by decide) ?_
      exact J_sb (ih (x9 + nI 1) S3) (And.intro rfl (And.intro rfl (And.intro rfl (And.intro rfl (And.intro rfl (And.intro rfl (trivial)))))))
set_option maxRecDepth 100000 in
set_option maxHeartbeats 4000000 in
theorem t12_write_j41 (G : Gm) (t : Nat) (N : Nat) (x1 : Int32) (l4 : Int64) (x7 : Int32)  (k11 : Int64 → Int32 → St → Option (Unit × St)) (hk11 : ∀ (yl4 : Int64) (yx6 : Int32) (S : St), J G YX12_write 1 0 0 (fV t) 0 0 11 [some (vR (some 146)), some (vI x1), none, none, some (vL yl4), none, some (vI yx6), none, none, none] [] (MM t S) (k11 yl4 yx6 S)) : ∀ (xs0 : Int32) (S : St), J G YX12_write 1 0 0 (fV t) 0 0 41 [some (vR (some 146)), some (vI x1), none, none, some (vL l4), none, none, some (vI x7), none, none] [vI xs0] (MM t S) (f12_write_j41 N x1 l4 x7 k11 xs0 S) := by
  intro xs0 S
  unfold f12_write_j41
  refine J_istore [some (vR (some 146)), some (vI x1), none, none, some (vL l4), none, some (vI xs0), some (vI x7), none, none] dX12_write_41 (Nat.le_of_ble_eq_true rfl) rfl rfl ?_
  refine J_iload dX12_write_43 rfl ?_
  refine J_bipush (v := nI 8) dX12_write_45 (by decide) ?_
  refine J_icmp_ge (tgt := 74) dX12_write_47 (by decide) (fun z1 => ?_) (fun z1 => ?_)
  · refine J_iconst (v := nI 4) dX12_write_74 (by decide) ?_
    refine J_iload_n dX12_write_75 rfl rfl ?_
    refine J_imul dX12_write_76 ?_
    refine J_iload dX12_write_77 rfl ?_
    refine J_iadd dX12_write_79 ?_
    refine J_bipush (v := nI 8) dX12_write_80 (by decide) ?_
    refine J_isub dX12_write_82 ?_
    refine J_ltI (fun v2 _ => ?_)
    refine J_istore [some (vR (some 146)), some (vI x1), none, none, some (vL l4), none, some (vI xs0), some (vI x7), some (vI v2), none] dX12_write_83 (Nat.le_of_ble_eq_true rfl) rfl rfl ?_
    refine J_iconst (v := nI 0) dX12_write_85 (by decide) ?_
    refine J_istore [some (vR (some 146)), some (vI x1), none, none, some (vL l4), none, some (vI xs0), some (vI x7), some (vI v2), some (vI (nI 0))] dX12_write_86 (Nat.le_of_ble_eq_true rfl) rfl rfl ?_
    exact J_sb (t12_write_h88 G t N x1 l4 xs0 v2 k11 hk11 N (nI 0) S) (And.intro rfl (And.intro rfl (And.intro rfl (And.intro rfl (And.intro rfl (And.intro rfl (trivial)))))))
  · refine J_aload_n dX12_write_50 rfl rfl ?_
    refine K_getR (r := some (154)) cf12 flX12_31 (sq 146 rfl) rfl (Or.inr ⟨_, rfl⟩) dX12_write_51 ?_
    refine J_aload_n dX12_write_54 rfl rfl ?_
    refine K_getI cf12 flX12_141 (sq 146 rfl) (Or.inl rfl) dX12_write_55 ?_
    refine J_iload dX12_write_58 rfl ?_
    refine K_iast (sq 154 rfl) dX12_write_60 ?_
    refine J_ltS (fun S3 _ => ?_)
    refine J_aload_n dX12_write_61 rfl rfl ?_
    refine J_dup dX12_write_62 rfl ?_
    refine K_getI cf12 flX12_141 (sq 146 rfl) (Or.inl rfl) dX12_write_63 ?_
    refine J_iconst (v := nI 1) dX12_write_66 (by decide) ?_
    refine J_iadd dX12_write_67 ?_
    refine K_putI cf12 flX12_141 (sq 146 rfl) rfl dX12_write_68 ?_
    refine J_ltS (fun S4 _ => ?_)
    refine J_goto (tgt := 137) dX12_write_71 (by decide) ?_
    refine J_goto (tgt := 11) dX12_write_137 (by decide) ?_
    exact J_sb (hk11 l4 xs0 S4) (And.intro rfl (And.intro rfl (And.intro rfl (And.intro rfl (trivial)))))
set_option maxRecDepth 100000 in
set_option maxHeartbeats 4000000 in
theorem t12_write_h11 (G : Gm) (t : Nat) (N : Nat) (x1 : Int32)    : ∀ (n : Nat) (l4 : Int64) (x6 : Int32) (S : St), J G YX12_write 1 0 0 (fV t) 0 0 11 [some (vR (some 146)), some (vI x1), none, none, some (vL l4), none, some (vI x6), none, none, none] [] (MM t S) (f12_write_h11 N x1 n l4 x6 S) := by
  intro n
  induction n with
  | zero => intro l4 x6 S; exact J_none
  | succ n ih =>
    intro l4 x6 S
    rw [f12_write_h11]
    refine J_iload dX12_write_11 rfl ?_
    refine J_if_eq (tgt := 140) dX12_write_13 (by decide) (fun z1 => ?_) (fun z1 => ?_)
    · exact J_return rfl (Nat.le_refl _) (Nat.le_refl _) rfl dX12_write_140
    · refine J_lload dX12_write_16 rfl ?_
      refine J_ldc2_w (v := lN 15) wX12_139 dX12_write_18 ?_
      refine J_land dX12_write_21 ?_
      refine J_l2i dX12_write_22 ?_
      refine J_ltI (fun v2 _ => ?_)
      refine J_istore [some (vR (some 146)), some (vI x1), none, none, some (vL l4), none, some (vI x6), some (vI v2), none, none] dX12_write_23 (Nat.le_of_ble_eq_true rfl) rfl rfl ?_
      refine J_lload dX12_write_25 rfl ?_
      refine J_iconst (v := nI 4) dX12_write_27 (by decide) ?_
      refine J_lshr dX12_write_28 ?_
      refine J_ltJ (fun v3 _ => ?_)
      refine J_lstore [some (vR (some 146)), some (vI x1), none, none, some (vL v3), none, some (vI x6), some (vI v2), none, none] dX12_write_29 (Nat.le_of_ble_eq_true rfl) rfl rfl ?_
      refine J_iload dX12_write_31 rfl ?_
      refine J_if_eq (tgt := 40) dX12_write_33 (by decide) (fun z4 => ?_) (fun z4 => ?_)
      · refine J_iconst (v := nI 0) dX12_write_40 (by decide) ?_
        exact J_sb (t12_write_j41 G t N x1 v3 v2 (f12_write_h11 N x1 n) ih (nI 0) S) (And.intro rfl (And.intro rfl (And.intro rfl (And.intro rfl (trivial)))))
      · refine J_iconst (v := nI 1) dX12_write_36 (by decide) ?_
        refine J_goto (tgt := 41) dX12_write_37 (by decide) ?_
        exact J_sb (t12_write_j41 G t N x1 v3 v2 (f12_write_h11 N x1 n) ih (nI 1) S) (And.intro rfl (And.intro rfl (And.intro rfl (And.intro rfl (trivial)))))
set_option maxRecDepth 100000 in
set_option maxHeartbeats 4000000 in
theorem ct12_write (G : Gm) (t : Nat) (N : Nat) (x1 : Int32) (l2 : Int64)  (S : St) : Ct G YX12_write yX12_write 1 0 0 (fV t) (f12_write N x1 l2 S) [vR (some 146), vI x1, vL l2] (MM t S) := by
  refine Ct_of_J [some (vR (some 146)), some (vI x1), some (vL l2), none, none, none, none, none, none, none] (by decide) rfl (fun h => by cases h) (Nat.le_of_ble_eq_true rfl) (And.intro rfl (And.intro rfl (And.intro rfl (trivial)))) ?_
  unfold f12_write
  refine J_aload_n dX12_write_0 rfl rfl ?_
  refine J_iconst (v := nI 0) dX12_write_1 (by decide) ?_
  refine K_putI cf12 flX12_141 (sq 146 rfl) rfl dX12_write_2 ?_
  refine J_ltS (fun S1 _ => ?_)
  refine J_lload_n dX12_write_5 rfl rfl ?_
  refine J_lstore [some (vR (some 146)), some (vI x1), some (vL l2), none, some (vL l2), none, none, none, none, none] dX12_write_6 (Nat.le_of_ble_eq_true rfl) rfl rfl ?_
  refine J_iconst (v := nI 1) dX12_write_8 (by decide) ?_
  refine J_istore [some (vR (some 146)), some (vI x1), some (vL l2), none, some (vL l2), none, some (vI (nI 1)), none, none, none] dX12_write_9 (Nat.le_of_ble_eq_true rfl) rfl rfl ?_
  exact J_sb (t12_write_h11 G t N x1 N l2 (nI 1) S1) (And.intro rfl (And.intro rfl (And.intro rfl (And.intro rfl (trivial)))))
theorem dX12_start_0 : decode cX12_start 0 = .ok (.aload_n 0, 1) := by decide +kernel
theorem dX12_start_1 : decode cX12_start 1 = .ok (.iload_n 1, 1) := by decide +kernel
theorem dX12_start_2 : decode cX12_start 2 = .ok (.putfield 144, 3) := by decide +kernel
theorem dX12_start_5 : decode cX12_start 5 = .ok (.aload_n 0, 1) := by decide +kernel
theorem dX12_start_6 : decode cX12_start 6 = .ok (.iconst 0, 1) := by decide +kernel
theorem dX12_start_7 : decode cX12_start 7 = .ok (.putfield 147, 3) := by decide +kernel
theorem dX12_start_10 : decode cX12_start 10 = .ok (.aload_n 0, 1) := by decide +kernel
theorem dX12_start_11 : decode cX12_start 11 = .ok (.iconst 0, 1) := by decide +kernel
theorem dX12_start_12 : decode cX12_start 12 = .ok (.putfield 150, 3) := by decide +kernel
theorem dX12_start_15 : decode cX12_start 15 = .ok (.aload_n 0, 1) := by decide +kernel
theorem dX12_start_16 : decode cX12_start 16 = .ok (.iconst 0, 1) := by decide +kernel
theorem dX12_start_17 : decode cX12_start 17 = .ok (.putfield 153, 3) := by decide +kernel
theorem dX12_start_20 : decode cX12_start 20 = .ok (.aload_n 0, 1) := by decide +kernel
theorem dX12_start_21 : decode cX12_start 21 = .ok (.iconst 0, 1) := by decide +kernel
theorem dX12_start_22 : decode cX12_start 22 = .ok (.putfield 156, 3) := by decide +kernel
theorem dX12_start_25 : decode cX12_start 25 = .ok (.aload_n 0, 1) := by decide +kernel
theorem dX12_start_26 : decode cX12_start 26 = .ok (.getfield 37, 3) := by decide +kernel
theorem dX12_start_29 : decode cX12_start 29 = .ok (.iconst 0, 1) := by decide +kernel
theorem dX12_start_30 : decode cX12_start 30 = .ok (.iload_n 1, 1) := by decide +kernel
theorem dX12_start_31 : decode cX12_start 31 = .ok (.iastore, 1) := by decide +kernel
theorem dX12_start_32 : decode cX12_start 32 = .ok (.aload_n 0, 1) := by decide +kernel
theorem dX12_start_33 : decode cX12_start 33 = .ok (.getfield 40, 3) := by decide +kernel
theorem dX12_start_36 : decode cX12_start 36 = .ok (.iconst 0, 1) := by decide +kernel
theorem dX12_start_37 : decode cX12_start 37 = .ok (.iconst 0, 1) := by decide +kernel
theorem dX12_start_38 : decode cX12_start 38 = .ok (.iastore, 1) := by decide +kernel
theorem dX12_start_39 : decode cX12_start 39 = .ok (.aload_n 0, 1) := by decide +kernel
theorem dX12_start_40 : decode cX12_start 40 = .ok (.getfield 43, 3) := by decide +kernel
theorem dX12_start_43 : decode cX12_start 43 = .ok (.iconst 0, 1) := by decide +kernel
theorem dX12_start_44 : decode cX12_start 44 = .ok (.iconst 0, 1) := by decide +kernel
theorem dX12_start_45 : decode cX12_start 45 = .ok (.iastore, 1) := by decide +kernel
theorem dX12_start_46 : decode cX12_start 46 = .ok (.aload_n 0, 1) := by decide +kernel
theorem dX12_start_47 : decode cX12_start 47 = .ok (.iconst 1, 1) := by decide +kernel
theorem dX12_start_48 : decode cX12_start 48 = .ok (.putfield 159, 3) := by decide +kernel
theorem dX12_start_51 : decode cX12_start 51 = .ok (.return_, 1) := by decide +kernel
set_option maxRecDepth 100000 in
set_option maxHeartbeats 4000000 in
theorem ct12_start (G : Gm) (t : Nat)  (x1 : Int32)  (S : St) : Ct G YX12_start yX12_start 1 0 0 (fV t) (f12_start x1 S) [vR (some 146), vI x1] (MM t S) := by
  refine Ct_of_J [some (vR (some 146)), some (vI x1)] (by decide) rfl (fun h => by cases h) (Nat.le_of_ble_eq_true rfl) (And.intro rfl (And.intro rfl (trivial))) ?_
  unfold f12_start
  refine J_aload_n dX12_start_0 rfl rfl ?_
  refine J_iload_n dX12_start_1 rfl rfl ?_
  refine K_putI cf12 flX12_144 (sq 146 rfl) rfl dX12_start_2 ?_
  refine J_ltS (fun S1 _ => ?_)
  refine J_aload_n dX12_start_5 rfl rfl ?_
  refine J_iconst (v := nI 0) dX12_start_6 (by decide) ?_
  refine K_putI cf12 flX12_147 (sq 146 rfl) rfl dX12_start_7 ?_
  refine J_ltS (fun S2 _ => ?_)
  refine J_aload_n dX12_start_10 rfl rfl ?_
  refine J_iconst (v := nI 0) dX12_start_11 (by decide) ?_
  refine K_putI cf12 flX12_150 (sq 146 rfl) rfl dX12_start_12 ?_
  refine J_ltS (fun S3 _ => ?_)
  refine J_aload_n dX12_start_15 rfl rfl ?_
  refine J_iconst (v := nI 0) dX12_start_16 (by decide) ?_
  refine K_putI cf12 flX12_153 (sq 146 rfl) rfl dX12_start_17 ?_
  refine J_ltS (fun S4 _ => ?_)
  refine J_aload_n dX12_start_20 rfl rfl ?_
  refine J_iconst (v := nI 0) dX12_start_21 (by decide) ?_
  refine K_putI cf12 flX12_156 (sq 146 rfl) rfl dX12_start_22 ?_
  refine J_ltS (fun S5 _ => ?_)
  refine J_aload_n dX12_start_25 rfl rfl ?_
  refine K_getR (r := some (156)) cf12 flX12_37 (sq 146 rfl) rfl (Or.inr ⟨_, rfl⟩) dX12_start_26 ?_
  refine J_iconst (v := nI 0) dX12_start_29 (by decide) ?_
  refine J_iload_n dX12_start_30 rfl rfl ?_
  refine K_iast (sq 156 rfl) dX12_start_31 ?_
  refine J_ltS (fun S6 _ => ?_)
  refine J_aload_n dX12_start_32 rfl rfl ?_
  refine K_getR (r := some (157)) cf12 flX12_40 (sq 146 rfl) rfl (Or.inr ⟨_, rfl⟩) dX12_start_33 ?_
  refine J_iconst (v := nI 0) dX12_start_36 (by decide) ?_
  refine J_iconst (v := nI 0) dX12_start_37 (by decide) ?_
  refine K_iast (sq 157 rfl) dX12_start_38 ?_
  refine J_ltS (fun S7 _ => ?_)
  refine J_aload_n dX12_start_39 rfl rfl ?_
  refine K_getR (r := some (158)) cf12 flX12_43 (sq 146 rfl) rfl (Or.inr ⟨_, rfl⟩) dX12_start_40 ?_
  refine J_iconst (v := nI 0) dX12_start_43 (by decide) ?_
  refine J_iconst (v := nI 0) dX12_start_44 (by decide) ?_
  refine K_iast (sq 158 rfl) dX12_start_45 ?_
  refine J_ltS (fun S8 _ => ?_)
  refine J_aload_n dX12_start_46 rfl rfl ?_
  refine J_iconst (v := nI 1) dX12_start_47 (by decide) ?_
  refine K_putI cf12 flX12_159 (sq 146 rfl) rfl dX12_start_48 ?_
  refine J_ltS (fun S9 _ => ?_)
  exact J_return rfl (Nat.le_refl _) (Nat.le_refl _) rfl dX12_start_51
theorem dX12_cameSo_0 : decode cX12_cameSo 0 = .ok (.iconst 0, 1) := by decide +kernel
theorem dX12_cameSo_1 : decode cX12_cameSo 1 = .ok (.istore_n 1, 1) := by decide +kernel
theorem dX12_cameSo_2 : decode cX12_cameSo 2 = .ok (.aload_n 0, 1) := by decide +kernel
theorem dX12_cameSo_3 : decode cX12_cameSo 3 = .ok (.getfield 159, 3) := by decide +kernel
theorem dX12_cameSo_6 : decode cX12_cameSo 6 = .ok (.iconst 1, 1) := by decide +kernel
theorem dX12_cameSo_7 : decode cX12_cameSo 7 = .ok (.isub, 1) := by decide +kernel
theorem dX12_cameSo_8 : decode cX12_cameSo 8 = .ok (.istore_n 2, 1) := by decide +kernel
theorem dX12_cameSo_9 : decode cX12_cameSo 9 = .ok (.iload_n 2, 1) := by decide +kernel
theorem dX12_cameSo_10 : decode cX12_cameSo 10 = .ok (.ifCond .lt 58, 3) := by decide +kernel
theorem dX12_cameSo_13 : decode cX12_cameSo 13 = .ok (.iload_n 1, 1) := by decide +kernel
theorem dX12_cameSo_14 : decode cX12_cameSo 14 = .ok (.ifCond .ne 54, 3) := by decide +kernel
theorem dX12_cameSo_17 : decode cX12_cameSo 17 = .ok (.aload_n 0, 1) := by decide +kernel
theorem dX12_cameSo_18 : decode cX12_cameSo 18 = .ok (.getfield 43, 3) := by decide +kernel
theorem dX12_cameSo_21 : decode cX12_cameSo 21 = .ok (.iload_n 2, 1) := by decide +kernel
theorem dX12_cameSo_22 : decode cX12_cameSo 22 = .ok (.iaload, 1) := by decide +kernel
theorem dX12_cameSo_23 : decode cX12_cameSo 23 = .ok (.aload_n 0, 1) := by decide +kernel
theorem dX12_cameSo_24 : decode cX12_cameSo 24 = .ok (.getfield 156, 3) := by decide +kernel
theorem dX12_cameSo_27 : decode cX12_cameSo 27 = .ok (.if_icmp .ne 41, 3) := by decide +kernel
theorem dX12_cameSo_30 : decode cX12_cameSo 30 = .ok (.aload_n 0, 1) := by decide +kernel
theorem dX12_cameSo_31 : decode cX12_cameSo 31 = .ok (.getfield 37, 3) := by decide +kernel
theorem dX12_cameSo_34 : decode cX12_cameSo 34 = .ok (.iload_n 2, 1) := by decide +kernel
theorem dX12_cameSo_35 : decode cX12_cameSo 35 = .ok (.iaload, 1) := by decide +kernel
theorem dX12_cameSo_36 : decode cX12_cameSo 36 = .ok (.aload_n 0, 1) := by decide +kernel
theorem dX12_cameSo_37 : decode cX12_cameSo 37 = .ok (.getfield 144, 3) := by decide +kernel
theorem dX12_cameSo_40 : decode cX12_cameSo 40 = .ok (.if_icmp .ne 20, 3) := by decide +kernel
theorem dX12_cameSo_43 : decode cX12_cameSo 43 = .ok (.aload_n 0, 1) := by decide +kernel
theorem dX12_cameSo_44 : decode cX12_cameSo 44 = .ok (.getfield 40, 3) := by decide +kernel
theorem dX12_cameSo_47 : decode cX12_cameSo 47 = .ok (.iload_n 2, 1) := by decide +kernel
theorem dX12_cameSo_48 : decode cX12_cameSo 48 = .ok (.iaload, 1) := by decide +kernel
theorem dX12_cameSo_49 : decode cX12_cameSo 49 = .ok (.aload_n 0, 1) := by decide +kernel
theorem dX12_cameSo_50 : decode cX12_cameSo 50 = .ok (.getfield 147, 3) := by decide +kernel
theorem dX12_cameSo_53 : decode cX12_cameSo 53 = .ok (.if_icmp .ne 7, 3) := by decide +kernel
theorem dX12_cameSo_56 : decode cX12_cameSo 56 = .ok (.iconst 1, 1) := by decide +kernel
theorem dX12_cameSo_57 : decode cX12_cameSo 57 = .ok (.goto 4, 3) := by decide +kernel
theorem dX12_cameSo_60 : decode cX12_cameSo 60 = .ok (.iconst 0, 1) := by decide +kernel
theorem dX12_cameSo_61 : decode cX12_cameSo 61 = .ok (.istore_n 1, 1) := by decide +kernel
theorem dX12_cameSo_62 : decode cX12_cameSo 62 = .ok (.iinc 2 (-1), 3) := by decide +kernel
theorem dX12_cameSo_65 : decode cX12_cameSo 65 = .ok (.goto (-56), 3) := by decide +kernel
theorem dX12_cameSo_68 : decode cX12_cameSo 68 = .ok (.iload_n 1, 1) := by decide +kernel
theorem dX12_cameSo_69 : decode cX12_cameSo 69 = .ok (.ireturn, 1) := by decide +kernel
set_option maxRecDepth 100000 in
set_option maxHeartbeats 4000000 in
theorem t12_cameSo_j61 (G : Gm) (t : Nat) (N : Nat) (x2 : Int32)  (k9 : Int32 → Int32 → St → Option (Int32 × St)) (hk9 : ∀ (yx1 : Int32) (yx2 : Int32) (S : St), J G YX12_cameSo 1 0 0 (fI t) 0 0 9 [some (vR (some 146)), some (vI yx1), some (vI yx2)] [] (MM t S) (k9 yx1 yx2 S)) : ∀ (xs0 : Int32) (S : St), J G YX12_cameSo 1 0 0 (fI t) 0 0 61 [some (vR (some 146)), none, some (vI x2)] [vI xs0] (MM t S) (f12_cameSo_j61 N x2 k9 xs0 S) := by
  intro xs0 S
  unfold f12_cameSo_j61
  refine J_istore_n [some (vR (some 146)), some (vI xs0), some (vI x2)] dX12_cameSo_61 rfl (Nat.le_of_ble_eq_true rfl) rfl rfl ?_
  refine J_iinc (v := x2 + (-1)) [some (vR (some 146)), some (vI xs0), some (vI (x2 + (-1)))] dX12_cameSo_62 rfl rfl (Nat.le_of_ble_eq_true rfl) rfl rfl ?_
  refine J_goto (tgt := 9) dX12_cameSo_65 (by decide) ?_
  exact J_sb (hk9 xs0 (x2 + (-1)) S) (And.intro rfl (And.intro rfl (And.intro rfl (trivial))))
set_option maxRecDepth 100000 in
set_option maxHeartbeats 4000000 in
theorem t12_cameSo_j60 (G : Gm) (t : Nat) (N : Nat) (x2 : Int32)  (k9 : Int32 → Int32 → St → Option (Int32 × St)) (hk9 : ∀ (yx1 : Int32) (yx2 : Int32) (S : St), J G YX12_cameSo 1 0 0 (fI t) 0 0 9 [some (vR (some 146)), some (vI yx1), some (vI yx2)] [] (MM t S) (k9 yx1 yx2 S)) : ∀  (S : St), J G YX12_cameSo 1 0 0 (fI t) 0 0 60 [some (vR (some 146)), none, some (vI x2)] [] (MM t S) (f12_cameSo_j60 N x2 k9 S) := by
  intro S
  unfold f12_cameSo_j60
  refine J_iconst (v := nI 0) dX12_cameSo_60 (by decide) ?_
  exact J_sb (t12_cameSo_j61 G t N x2 k9 hk9 (nI 0) S) (And.intro rfl (And.intro rfl (trivial)))
set_option maxRecDepth 100000 in
set_option maxHeartbeats 4000000 in
theorem t12_cameSo_h9 (G : Gm) (t : Nat) (N : Nat)     : ∀ (n : Nat) (x1 : Int32) (x2 : Int32) (S : St), J G YX12_cameSo 1 0 0 (fI t) 0 0 9 [some (vR (some 146)), some (vI x1), some (vI x2)] [] (MM t S) (f12_cameSo_h9 N n x1 x2 S) := by
  intro n
  induction n with
  | zero => intro x1 x2 S; exact J_none
  | succ n ih =>
    intro x1 x2 S
    rw [f12_cameSo_h9]
    refine J_iload_n dX12_cameSo_9 rfl rfl ?_
    refine J_if_lt (tgt := 68) dX12_cameSo_10 (by decide) (fun z1 => ?_) (fun z1 => ?_)
    · refine J_iload_n dX12_cameSo_68 rfl rfl ?_
      refine J_ckB (fun hz => ?_)
      exact J_zreturn hz rfl (Nat.le_refl _) (Nat.le_refl _) rfl dX12_cameSo_69
    · refine J_iload_n dX12_cameSo_13 rfl rfl ?_
      refine J_if_ne (tgt := 68) dX12_cameSo_14 (by decide) (fun z2 => ?_) (fun z2 => ?_)
      · refine J_aload_n dX12_cameSo_17 rfl rfl ?_
        refine K_getR (r := some (158)) cf12 flX12_43 (sq 146 rfl) rfl (Or.inr ⟨_, rfl⟩) dX12_cameSo_18 ?_
        refine J_iload_n dX12_cameSo_21 rfl rfl ?_
        refine K_iald (sq 158 rfl) dX12_cameSo_22 ?_
        refine J_aload_n dX12_cameSo_23 rfl rfl ?_
        refine K_getI cf12 flX12_156 (sq 146 rfl) (Or.inl rfl) dX12_cameSo_24 ?_
        refine J_icmp_ne (tgt := 68) dX12_cameSo_27 (by decide) (fun z3 => ?_) (fun z3 => ?_)
        · refine J_aload_n dX12_cameSo_30 rfl rfl ?_
          refine K_getR (r := some (156)) cf12 flX12_37 (sq 146 rfl) rfl (Or.inr ⟨_, rfl⟩) dX12_cameSo_31 ?_
          refine J_iload_n dX12_cameSo_34 rfl rfl ?_
          refine K_iald (sq 156 rfl) dX12_cameSo_35 ?_
          refine J_aload_n dX12_cameSo_36 rfl rfl ?_
          refine K_getI cf12 flX12_144 (sq 146 rfl) (Or.inl rfl) dX12_cameSo_37 ?_
          refine J_icmp_ne (tgt := 60) dX12_cameSo_40 (by decide) (fun z4 => ?_) (fun z4 => ?_)
          · refine J_aload_n dX12_cameSo_43 rfl rfl ?_
            refine K_getR (r := some (157)) cf12 flX12_40 (sq 146 rfl) rfl (Or.inr ⟨_, rfl⟩) dX12_cameSo_44 ?_
            refine J_iload_n dX12_cameSo_47 rfl rfl ?_
            refine K_iald (sq 157 rfl) dX12_cameSo_48 ?_
            refine J_aload_n dX12_cameSo_49 rfl rfl ?_
            refine K_getI cf12 flX12_147 (sq 146 rfl) (Or.inl rfl) dX12_cameSo_50 ?_
            refine J_icmp_ne (tgt := 60) dX12_cameSo_53 (by decide) (fun z5 => ?_) (fun z5 => ?_)
            · refine J_iconst (v := nI 1) dX12_cameSo_56 (by decide) ?_
              refine J_goto (tgt := 61) dX12_cameSo_57 (by decide) ?_
              exact J_sb (t12_cameSo_j61 G t N x2 (f12_cameSo_h9 N n) ih (nI 1) S) (And.intro rfl (And.intro rfl (trivial)))
            · exact J_sb (t12_cameSo_j60 G t N x2 (f12_cameSo_h9 N n) ih S) (And.intro rfl (And.intro rfl (trivial)))
          · exact J_sb (t12_cameSo_j60 G t N x2 (f12_cameSo_h9 N n) ih S) (And.intro rfl (And.intro rfl (trivial)))
        · refine J_iload_n dX12_cameSo_68 rfl rfl ?_
          refine J_ckB (fun hz => ?_)
          exact J_zreturn hz rfl (Nat.le_refl _) (Nat.le_refl _) rfl dX12_cameSo_69
      · refine J_iload_n dX12_cameSo_68 rfl rfl ?_
        refine J_ckB (fun hz => ?_)
        exact J_zreturn hz rfl (Nat.le_refl _) (Nat.le_refl _) rfl dX12_cameSo_69
set_option maxRecDepth 100000 in
set_option maxHeartbeats 4000000 in
theorem ct12_cameSo (G : Gm) (t : Nat) (N : Nat)   (S : St) : Ct G YX12_cameSo yX12_cameSo 1 0 0 (fI t) (f12_cameSo N S) [vR (some 146)] (MM t S) := by
  refine Ct_of_J [some (vR (some 146)), none, none] (by decide) rfl (fun h => by cases h) (Nat.le_of_ble_eq_true rfl) (And.intro rfl (trivial)) ?_
  unfold f12_cameSo
  refine J_iconst (v := nI 0) dX12_cameSo_0 (by decide) ?_
  refine J_istore_n [some (vR (some 146)), some (vI (nI 0)), none] dX12_cameSo_1 rfl (Nat.le_of_ble_eq_true rfl) rfl rfl ?_
  refine J_aload_n dX12_cameSo_2 rfl rfl ?_
  refine K_getI cf12 flX12_159 (sq 146 rfl) (Or.inl rfl) dX12_cameSo_3 ?_
  refine J_iconst (v := nI 1) dX12_cameSo_6 (by decide) ?_
  refine J_isub dX12_cameSo_7 ?_
  refine J_ltI (fun v1 _ => ?_)
  refine J_istore_n [some (vR (some 146)), some (vI (nI 0)), some (vI v1)] dX12_cameSo_8 rfl (Nat.le_of_ble_eq_true rfl) rfl rfl ?_
  exact J_sb (t12_cameSo_h9 G t N N (nI 0) v1 S) (And.intro rfl (And.intro rfl (And.intro rfl (trivial))))
theorem dX12_step_0 : decode cX12_step 0 = .ok (.aload_n 0, 1) := by decide +kernel
theorem dX12_step_1 : decode cX12_step 1 = .ok (.getfield 31, 3) := by decide +kernel
theorem dX12_step_4 : decode cX12_step 4 = .ok (.aload_n 0, 1) := by decide +kernel
theorem dX12_step_5 : decode cX12_step 5 = .ok (.getfield 150, 3) := by decide +kernel
theorem dX12_step_8 : decode cX12_step 8 = .ok (.iaload, 1) := by decide +kernel
theorem dX12_step_9 : decode cX12_step 9 = .ok (.istore_n 1, 1) := by decide +kernel
theorem dX12_step_10 : decode cX12_step 10 = .ok (.aload_n 0, 1) := by decide +kernel
theorem dX12_step_11 : decode cX12_step 11 = .ok (.dup, 1) := by decide +kernel
theorem dX12_step_12 : decode cX12_step 12 = .ok (.getfield 153, 3) := by decide +kernel
theorem dX12_step_15 : decode cX12_step 15 = .ok (.iconst 1, 1) := by decide +kernel
theorem dX12_step_16 : decode cX12_step 16 = .ok (.iadd, 1) := by decide +kernel
theorem dX12_step_17 : decode cX12_step 17 = .ok (.putfield 153, 3) := by decide +kernel
theorem dX12_step_20 : decode cX12_step 20 = .ok (.aload_n 0, 1) := by decide +kernel
theorem dX12_step_21 : decode cX12_step 21 = .ok (.dup, 1) := by decide +kernel
theorem dX12_step_22 : decode cX12_step 22 = .ok (.getfield 150, 3) := by decide +kernel
theorem dX12_step_25 : decode cX12_step 25 = .ok (.iconst 1, 1) := by decide +kernel
theorem dX12_step_26 : decode cX12_step 26 = .ok (.iadd, 1) := by decide +kernel
theorem dX12_step_27 : decode cX12_step 27 = .ok (.putfield 150, 3) := by decide +kernel
theorem dX12_step_30 : decode cX12_step 30 = .ok (.iload_n 1, 1) := by decide +kernel
theorem dX12_step_31 : decode cX12_step 31 = .ok (.tableswitch 230 0 6 #[41, 43, 60, 77, 114, 135, 155], 41) := by decide +kernel
theorem dX12_step_72 : decode cX12_step 72 = .ok (.iconst 0, 1) := by decide +kernel
theorem dX12_step_73 : decode cX12_step 73 = .ok (.ireturn, 1) := by decide +kernel
theorem dX12_step_74 : decode cX12_step 74 = .ok (.aload_n 0, 1) := by decide +kernel
theorem dX12_step_75 : decode cX12_step 75 = .ok (.aload_n 0, 1) := by decide +kernel
theorem dX12_step_76 : decode cX12_step 76 = .ok (.getfield 144, 3) := by decide +kernel
theorem dX12_step_79 : decode cX12_step 79 = .ok (.iconst 1, 1) := by decide +kernel
theorem dX12_step_80 : decode cX12_step 80 = .ok (.iadd, 1) := by decide +kernel
theorem dX12_step_81 : decode cX12_step 81 = .ok (.sipush 1000, 3) := by decide +kernel
theorem dX12_step_84 : decode cX12_step 84 = .ok (.irem, 1) := by decide +kernel
theorem dX12_step_85 : decode cX12_step 85 = .ok (.putfield 144, 3) := by decide +kernel
theorem dX12_step_88 : decode cX12_step 88 = .ok (.goto 188, 3) := by decide +kernel
theorem dX12_step_91 : decode cX12_step 91 = .ok (.aload_n 0, 1) := by decide +kernel
theorem dX12_step_92 : decode cX12_step 92 = .ok (.aload_n 0, 1) := by decide +kernel
theorem dX12_step_93 : decode cX12_step 93 = .ok (.getfield 144, 3) := by decide +kernel
theorem dX12_step_96 : decode cX12_step 96 = .ok (.iconst 2, 1) := by decide +kernel
theorem dX12_step_97 : decode cX12_step 97 = .ok (.imul, 1) := by decide +kernel
theorem dX12_step_98 : decode cX12_step 98 = .ok (.sipush 1000, 3) := by decide +kernel
theorem dX12_step_101 : decode cX12_step 101 = .ok (.irem, 1) := by decide +kernel
theorem dX12_step_102 : decode cX12_step 102 = .ok (.putfield 144, 3) := by decide +kernel
theorem dX12_step_105 : decode cX12_step 105 = .ok (.goto 171, 3) := by decide +kernel
theorem dX12_step_108 : decode cX12_step 108 = .ok (.aload_n 0, 1) := by decide +kernel
theorem dX12_step_109 : decode cX12_step 109 = .ok (.getfield 156, 3) := by decide +kernel
theorem dX12_step_112 : decode cX12_step 112 = .ok (.bipush 8, 2) := by decide +kernel
theorem dX12_step_114 : decode cX12_step 114 = .ok (.if_icmp .ne 5, 3) := by decide +kernel
theorem dX12_step_117 : decode cX12_step 117 = .ok (.iconst 0, 1) := by decide +kernel
theorem dX12_step_118 : decode cX12_step 118 = .ok (.ireturn, 1) := by decide +kernel
theorem dX12_step_119 : decode cX12_step 119 = .ok (.aload_n 0, 1) := by decide +kernel
theorem dX12_step_120 : decode cX12_step 120 = .ok (.getfield 34, 3) := by decide +kernel
theorem dX12_step_123 : decode cX12_step 123 = .ok (.aload_n 0, 1) := by decide +kernel
theorem dX12_step_124 : decode cX12_step 124 = .ok (.getfield 156, 3) := by decide +kernel
theorem dX12_step_127 : decode cX12_step 127 = .ok (.aload_n 0, 1) := by decide +kernel
theorem dX12_step_128 : decode cX12_step 128 = .ok (.getfield 144, 3) := by decide +kernel
theorem dX12_step_131 : decode cX12_step 131 = .ok (.iastore, 1) := by decide +kernel
theorem dX12_step_132 : decode cX12_step 132 = .ok (.aload_n 0, 1) := by decide +kernel
theorem dX12_step_133 : decode cX12_step 133 = .ok (.dup, 1) := by decide +kernel
theorem dX12_step_134 : decode cX12_step 134 = .ok (.getfield 156, 3) := by decide +kernel
theorem dX12_step_137 : decode cX12_step 137 = .ok (.iconst 1, 1) := by decide +kernel
theorem dX12_step_138 : decode cX12_step 138 = .ok (.iadd, 1) := by decide +kernel
theorem dX12_step_139 : decode cX12_step 139 = .ok (.putfield 156, 3) := by decide +kernel
theorem dX12_step_142 : decode cX12_step 142 = .ok (.goto 134, 3) := by decide +kernel
theorem dX12_step_145 : decode cX12_step 145 = .ok (.aload_n 0, 1) := by decide +kernel
theorem dX12_step_146 : decode cX12_step 146 = .ok (.getfield 144, 3) := by decide +kernel
theorem dX12_step_149 : decode cX12_step 149 = .ok (.istore_n 2, 1) := by decide +kernel
theorem dX12_step_150 : decode cX12_step 150 = .ok (.aload_n 0, 1) := by decide +kernel
theorem dX12_step_151 : decode cX12_step 151 = .ok (.aload_n 0, 1) := by decide +kernel
theorem dX12_step_152 : decode cX12_step 152 = .ok (.getfield 147, 3) := by decide +kernel
theorem dX12_step_155 : decode cX12_step 155 = .ok (.putfield 144, 3) := by decide +kernel
theorem dX12_step_158 : decode cX12_step 158 = .ok (.aload_n 0, 1) := by decide +kernel
theorem dX12_step_159 : decode cX12_step 159 = .ok (.iload_n 2, 1) := by decide +kernel
theorem dX12_step_160 : decode cX12_step 160 = .ok (.putfield 147, 3) := by decide +kernel
theorem dX12_step_163 : decode cX12_step 163 = .ok (.goto 113, 3) := by decide +kernel
theorem dX12_step_166 : decode cX12_step 166 = .ok (.aload_n 0, 1) := by decide +kernel
theorem dX12_step_167 : decode cX12_step 167 = .ok (.aload_n 0, 1) := by decide +kernel
theorem dX12_step_168 : decode cX12_step 168 = .ok (.getfield 144, 3) := by decide +kernel
theorem dX12_step_171 : decode cX12_step 171 = .ok (.aload_n 0, 1) := by decide +kernel
theorem dX12_step_172 : decode cX12_step 172 = .ok (.getfield 147, 3) := by decide +kernel
theorem dX12_step_175 : decode cX12_step 175 = .ok (.iadd, 1) := by decide +kernel
theorem dX12_step_176 : decode cX12_step 176 = .ok (.sipush 1000, 3) := by decide +kernel
theorem dX12_step_179 : decode cX12_step 179 = .ok (.irem, 1) := by decide +kernel
theorem dX12_step_180 : decode cX12_step 180 = .ok (.putfield 144, 3) := by decide +kernel
theorem dX12_step_183 : decode cX12_step 183 = .ok (.goto 93, 3) := by decide +kernel
theorem dX12_step_186 : decode cX12_step 186 = .ok (.aload_n 0, 1) := by decide +kernel
theorem dX12_step_187 : decode cX12_step 187 = .ok (.getfield 144, 3) := by decide +kernel
theorem dX12_step_190 : decode cX12_step 190 = .ok (.bipush 20, 2) := by decide +kernel
theorem dX12_step_192 : decode cX12_step 192 = .ok (.if_icmp .ge 84, 3) := by decide +kernel
theorem dX12_step_195 : decode cX12_step 195 = .ok (.aload_n 0, 1) := by decide +kernel
theorem dX12_step_196 : decode cX12_step 196 = .ok (.iconst 0, 1) := by decide +kernel
theorem dX12_step_197 : decode cX12_step 197 = .ok (.putfield 150, 3) := by decide +kernel
theorem dX12_step_200 : decode cX12_step 200 = .ok (.aload_n 0, 1) := by decide +kernel
theorem dX12_step_201 : decode cX12_step 201 = .ok (.invokevirtual 162, 3) := by decide +kernel
theorem dX12_step_204 : decode cX12_step 204 = .ok (.ifCond .eq 5, 3) := by decide +kernel
theorem dX12_step_207 : decode cX12_step 207 = .ok (.iconst 1, 1) := by decide +kernel
theorem dX12_step_208 : decode cX12_step 208 = .ok (.ireturn, 1) := by decide +kernel
theorem dX12_step_209 : decode cX12_step 209 = .ok (.aload_n 0, 1) := by decide +kernel
theorem dX12_step_210 : decode cX12_step 210 = .ok (.getfield 37, 3) := by decide +kernel
theorem dX12_step_213 : decode cX12_step 213 = .ok (.aload_n 0, 1) := by decide +kernel
theorem dX12_step_214 : decode cX12_step 214 = .ok (.getfield 159, 3) := by decide +kernel
theorem dX12_step_217 : decode cX12_step 217 = .ok (.aload_n 0, 1) := by decide +kernel
theorem dX12_step_218 : decode cX12_step 218 = .ok (.getfield 144, 3) := by decide +kernel
theorem dX12_step_221 : decode cX12_step 221 = .ok (.iastore, 1) := by decide +kernel
theorem dX12_step_222 : decode cX12_step 222 = .ok (.aload_n 0, 1) := by decide +kernel
theorem dX12_step_223 : decode cX12_step 223 = .ok (.getfield 40, 3) := by decide +kernel
theorem dX12_step_226 : decode cX12_step 226 = .ok (.aload_n 0, 1) := by decide +kernel
theorem dX12_step_227 : decode cX12_step 227 = .ok (.getfield 159, 3) := by decide +kernel
theorem dX12_step_230 : decode cX12_step 230 = .ok (.aload_n 0, 1) := by decide +kernel
theorem dX12_step_231 : decode cX12_step 231 = .ok (.getfield 147, 3) := by decide +kernel
theorem dX12_step_234 : decode cX12_step 234 = .ok (.iastore, 1) := by decide +kernel
theorem dX12_step_235 : decode cX12_step 235 = .ok (.aload_n 0, 1) := by decide +kernel
theorem dX12_step_236 : decode cX12_step 236 = .ok (.getfield 43, 3) := by decide +kernel
theorem dX12_step_239 : decode cX12_step 239 = .ok (.aload_n 0, 1) := by decide +kernel
theorem dX12_step_240 : decode cX12_step 240 = .ok (.getfield 159, 3) := by decide +kernel
theorem dX12_step_243 : decode cX12_step 243 = .ok (.aload_n 0, 1) := by decide +kernel
theorem dX12_step_244 : decode cX12_step 244 = .ok (.getfield 156, 3) := by decide +kernel
theorem dX12_step_247 : decode cX12_step 247 = .ok (.iastore, 1) := by decide +kernel
theorem dX12_step_248 : decode cX12_step 248 = .ok (.aload_n 0, 1) := by decide +kernel
theorem dX12_step_249 : decode cX12_step 249 = .ok (.dup, 1) := by decide +kernel
theorem dX12_step_250 : decode cX12_step 250 = .ok (.getfield 159, 3) := by decide +kernel
theorem dX12_step_253 : decode cX12_step 253 = .ok (.iconst 1, 1) := by decide +kernel
theorem dX12_step_254 : decode cX12_step 254 = .ok (.iadd, 1) := by decide +kernel
theorem dX12_step_255 : decode cX12_step 255 = .ok (.putfield 159, 3) := by decide +kernel
theorem dX12_step_258 : decode cX12_step 258 = .ok (.goto 18, 3) := by decide +kernel
theorem dX12_step_261 : decode cX12_step 261 = .ok (.aload_n 0, 1) := by decide +kernel
theorem dX12_step_262 : decode cX12_step 262 = .ok (.dup, 1) := by decide +kernel
theorem dX12_step_263 : decode cX12_step 263 = .ok (.getfield 150, 3) := by decide +kernel
theorem dX12_step_266 : decode cX12_step 266 = .ok (.aload_n 0, 1) := by decide +kernel
theorem dX12_step_267 : decode cX12_step 267 = .ok (.getfield 144, 3) := by decide +kernel
theorem dX12_step_270 : decode cX12_step 270 = .ok (.iconst 2, 1) := by decide +kernel
theorem dX12_step_271 : decode cX12_step 271 = .ok (.irem, 1) := by decide +kernel
theorem dX12_step_272 : decode cX12_step 272 = .ok (.iadd, 1) := by decide +kernel
theorem dX12_step_273 : decode cX12_step 273 = .ok (.putfield 150, 3) := by decide +kernel
theorem dX12_step_276 : decode cX12_step 276 = .ok (.aload_n 0, 1) := by decide +kernel
theorem dX12_step_277 : decode cX12_step 277 = .ok (.getfield 150, 3) := by decide +kernel
theorem dX12_step_280 : decode cX12_step 280 = .ok (.aload_n 0, 1) := by decide +kernel
theorem dX12_step_281 : decode cX12_step 281 = .ok (.getfield 141, 3) := by decide +kernel
theorem dX12_step_284 : decode cX12_step 284 = .ok (.if_icmp .lt 7, 3) := by decide +kernel
theorem dX12_step_287 : decode cX12_step 287 = .ok (.iconst 0, 1) := by decide +kernel
theorem dX12_step_288 : decode cX12_step 288 = .ok (.goto 4, 3) := by decide +kernel
theorem dX12_step_291 : decode cX12_step 291 = .ok (.iconst 2, 1) := by decide +kernel
theorem dX12_step_292 : decode cX12_step 292 = .ok (.ireturn, 1) := by decide +kernel
set_option maxRecDepth 100000 in
set_option maxHeartbeats 4000000 in
theorem t12_step_j276 (G : Gm) (t : Nat) (N : Nat)     : ∀  (S : St), J G YX12_step 2 0 0 (fI t) 0 0 276 [some (vR (some 146)), none, none] [] (MM t S) (f12_step_j276 N S) := by
  intro S
  unfold f12_step_j276
  refine J_aload_n dX12_step_276 rfl rfl ?_
  refine K_getI cf12 flX12_150 (sq 146 rfl) (Or.inl rfl) dX12_step_277 ?_
  refine J_aload_n dX12_step_280 rfl rfl ?_
  refine K_getI cf12 flX12_141 (sq 146 rfl) (Or.inl rfl) dX12_step_281 ?_
  refine J_icmp_lt (tgt := 291) dX12_step_284 (by decide) (fun z1 => ?_) (fun z1 => ?_)
  · refine J_iconst (v := nI 2) dX12_step_291 (by decide) ?_
    exact J_ireturn rfl (Nat.le_refl _) (Nat.le_refl _) rfl dX12_step_292
  · refine J_iconst (v := nI 0) dX12_step_287 (by decide) ?_
    refine J_goto (tgt := 292) dX12_step_288 (by decide) ?_
    exact J_ireturn rfl (Nat.le_refl _) (Nat.le_refl _) rfl dX12_step_292
set_option maxRecDepth 100000 in
set_option maxHeartbeats 4000000 in
theorem ct12_step (G : Gm) (t : Nat) (N : Nat)   (S : St) : Ct G YX12_step yX12_step 2 0 0 (fI t) (f12_step N S) [vR (some 146)] (MM t S) := by
  refine Ct_of_J [some (vR (some 146)), none, none] (by decide) rfl (fun h => by cases h) (Nat.le_of_ble_eq_true rfl) (And.intro rfl (trivial)) ?_
  unfold f12_step
  refine J_aload_n dX12_step_0 rfl rfl ?_
  refine K_getR (r := some (154)) cf12 flX12_31 (sq 146 rfl) rfl (Or.inr ⟨_, rfl⟩) dX12_step_1 ?_
  refine J_aload_n dX12_step_4 rfl rfl ?_
  refine K_getI cf12 flX12_150 (sq 146 rfl) (Or.inl rfl) dX12_step_5 ?_
  refine K_iald (sq 154 rfl) dX12_step_8 ?_
  refine J_ltI (fun v1 _ => ?_)
  refine J_istore_n [some (vR (some 146)), some (vI v1), none] dX12_step_9 rfl (Nat.le_of_ble_eq_true rfl) rfl rfl ?_
  refine J_aload_n dX12_step_10 rfl rfl ?_
  refine J_dup dX12_step_11 rfl ?_
  refine K_getI cf12 flX12_153 (sq 146 rfl) (Or.inl rfl) dX12_step_12 ?_
  refine J_iconst (v := nI 1) dX12_step_15 (by decide) ?_
  refine J_iadd dX12_step_16 ?_
  refine K_putI cf12 flX12_153 (sq 146 rfl) rfl dX12_step_17 ?_
  refine J_ltS (fun S2 _ => ?_)
  refine J_aload_n dX12_step_20 rfl rfl ?_
  refine J_dup dX12_step_21 rfl ?_
  refine K_getI cf12 flX12_150 (sq 146 rfl) (Or.inl rfl) dX12_step_22 ?_
  refine J_iconst (v := nI 1) dX12_step_25 (by decide) ?_
  refine J_iadd dX12_step_26 ?_
  refine K_putI cf12 flX12_150 (sq 146 rfl) rfl dX12_step_27 ?_
  refine J_ltS (fun S3 _ => ?_)
  refine J_iload_n dX12_step_30 rfl rfl ?_
  refine J_table (td := 261) _ dX12_step_31 (fun z h1 h2 => cov_of (lo := (0)) (N := 7) (ks := [nI 0, nI 1, nI 2, nI 3, nI 4, nI 5, nI 6]) (by decide) z h1 (by omega)) ?_ (by decide) ?_
  · refine List.forall_mem_cons.mpr ⟨tb_mk (o := 41) (tgt := 72) (by decide) (fun _ => ?_), ?_⟩
    · refine J_iconst (v := nI 0) dX12_step_72 (by decide) ?_
      exact J_ireturn rfl (Nat.le_refl _) (Nat.le_refl _) rfl dX12_step_73
    · refine List.forall_mem_cons.mpr ⟨tb_mk (o := 43) (tgt := 74) (by decide) (fun _ => ?_), ?_⟩
      · refine J_aload_n dX12_step_74 rfl rfl ?_
        refine J_aload_n dX12_step_75 rfl rfl ?_
        refine K_getI cf12 flX12_144 (sq 146 rfl) (Or.inl rfl) dX12_step_76 ?_
        refine J_iconst (v := nI 1) dX12_step_79 (by decide) ?_
        refine J_iadd dX12_step_80 ?_
        refine J_sipush (v := nI 1000) dX12_step_81 (by decide) ?_
        refine J_irem (by decide) dX12_step_84 ?_
        refine K_putI cf12 flX12_144 (sq 146 rfl) rfl dX12_step_85 ?_
        refine J_ltS (fun S4 _ => ?_)
        refine J_goto (tgt := 276) dX12_step_88 (by decide) ?_
        exact J_sb (t12_step_j276 G t N S4) (And.intro rfl (trivial))
      · refine List.forall_mem_cons.mpr ⟨tb_mk (o := 60) (tgt := 91) (by decide) (fun _ => ?_), ?_⟩
        · refine J_aload_n dX12_step_91 rfl rfl ?_
          refine J_aload_n dX12_step_92 rfl rfl ?_
          refine K_getI cf12 flX12_144 (sq 146 rfl) (Or.inl rfl) dX12_step_93 ?_
          refine J_iconst (v := nI 2) dX12_step_96 (by decide) ?_
          refine J_imul dX12_step_97 ?_
          refine J_sipush (v := nI 1000) dX12_step_98 (by decide) ?_
          refine J_irem (by decide) dX12_step_101 ?_
          refine K_putI cf12 flX12_144 (sq 146 rfl) rfl dX12_step_102 ?_
          refine J_ltS (fun S5 _ => ?_)
          refine J_goto (tgt := 276) dX12_step_105 (by decide) ?_
          exact J_sb (t12_step_j276 G t N S5) (And.intro rfl (trivial))
        · refine List.forall_mem_cons.mpr ⟨tb_mk (o := 77) (tgt := 108) (by decide) (fun _ => ?_), ?_⟩
          · refine J_aload_n dX12_step_108 rfl rfl ?_
            refine K_getI cf12 flX12_156 (sq 146 rfl) (Or.inl rfl) dX12_step_109 ?_
            refine J_bipush (v := nI 8) dX12_step_112 (by decide) ?_
            refine J_icmp_ne (tgt := 119) dX12_step_114 (by decide) (fun z6 => ?_) (fun z6 => ?_)
            · refine J_iconst (v := nI 0) dX12_step_117 (by decide) ?_
              exact J_ireturn rfl (Nat.le_refl _) (Nat.le_refl _) rfl dX12_step_118
            · refine J_aload_n dX12_step_119 rfl rfl ?_
              refine K_getR (r := some (155)) cf12 flX12_34 (sq 146 rfl) rfl (Or.inr ⟨_, rfl⟩) dX12_step_120 ?_
              refine J_aload_n dX12_step_123 rfl rfl ?_
              refine K_getI cf12 flX12_156 (sq 146 rfl) (Or.inl rfl) dX12_step_124 ?_
              refine J_aload_n dX12_step_127 rfl rfl ?_
              refine K_getI cf12 flX12_144 (sq 146 rfl) (Or.inl rfl) dX12_step_128 ?_
              refine K_iast (sq 155 rfl) dX12_step_131 ?_
              refine J_ltS (fun S7 _ => ?_)
              refine J_aload_n dX12_step_132 rfl rfl ?_
              refine J_dup dX12_step_133 rfl ?_
              refine K_getI cf12 flX12_156 (sq 146 rfl) (Or.inl rfl) dX12_step_134 ?_
              refine J_iconst (v := nI 1) dX12_step_137 (by decide) ?_
              refine J_iadd dX12_step_138 ?_
              refine K_putI cf12 flX12_156 (sq 146 rfl) rfl dX12_step_139 ?_
              refine J_ltS (fun S8 _ => ?_)
              refine J_goto (tgt := 276) dX12_step_142 (by decide) ?_
              exact J_sb (t12_step_j276 G t N S8) (And.intro rfl (trivial))
          · refine List.forall_mem_cons.mpr ⟨tb_mk (o := 114) (tgt := 145) (by decide) (fun _ => ?_), ?_⟩
            · refine J_aload_n dX12_step_145 rfl rfl ?_
              refine K_getI cf12 flX12_144 (sq 146 rfl) (Or.inl rfl) dX12_step_146 ?_
              refine J_ltI (fun v9 _ => ?_)
              refine J_istore_n [some (vR (some 146)), some (vI v1), some (vI v9)] dX12_step_149 rfl (Nat.le_of_ble_eq_true rfl) rfl rfl ?_
              refine J_aload_n dX12_step_150 rfl rfl ?_
              refine J_aload_n dX12_step_151 rfl rfl ?_
              refine K_getI cf12 flX12_147 (sq 146 rfl) (Or.inl rfl) dX12_step_152 ?_
              refine K_putI cf12 flX12_144 (sq 146 rfl) rfl dX12_step_155 ?_
              refine J_ltS (fun S10 _ => ?_)
              refine J_aload_n dX12_step_158 rfl rfl ?_
              refine J_iload_n dX12_step_159 rfl rfl ?_
              refine K_putI cf12 flX12_147 (sq 146 rfl) rfl dX12_step_160 ?_
              refine J_ltS (fun S11 _ => ?_)
              refine J_goto (tgt := 276) dX12_step_163 (by decide) ?_
              exact J_sb (t12_step_j276 G t N S11) (And.intro rfl (trivial))
            · refine List.forall_mem_cons.mpr ⟨tb_mk (o := 135) (tgt := 166) (by decide) (fun _ => ?_), ?_⟩
              · refine J_aload_n dX12_step_166 rfl rfl ?_
                refine J_aload_n dX12_step_167 rfl rfl ?_
                refine K_getI cf12 flX12_144 (sq 146 rfl) (Or.inl rfl) dX12_step_168 ?_
                refine J_aload_n dX12_step_171 rfl rfl ?_
                refine K_getI cf12 flX12_147 (sq 146 rfl) (Or.inl rfl) dX12_step_172 ?_
                refine J_iadd dX12_step_175 ?_
                refine J_sipush (v := nI 1000) dX12_step_176 (by decide) ?_
                refine J_irem (by decide) dX12_step_179 ?_
                refine K_putI cf12 flX12_144 (sq 146 rfl) rfl dX12_step_180 ?_
                refine J_ltS (fun S12 _ => ?_)
                refine J_goto (tgt := 276) dX12_step_183 (by decide) ?_
                exact J_sb (t12_step_j276 G t N S12) (And.intro rfl (trivial))
              · refine List.forall_mem_cons.mpr ⟨tb_mk (o := 155) (tgt := 186) (by decide) (fun _ => ?_), ?_⟩
                · refine J_aload_n dX12_step_186 rfl rfl ?_
                  refine K_getI cf12 flX12_144 (sq 146 rfl) (Or.inl rfl) dX12_step_187 ?_
                  refine J_bipush (v := nI 20) dX12_step_190 (by decide) ?_
                  refine J_icmp_ge (tgt := 276) dX12_step_192 (by decide) (fun z13 => ?_) (fun z13 => ?_)
                  · exact J_sb (t12_step_j276 G t N S3) (And.intro rfl (trivial))
                  · refine J_aload_n dX12_step_195 rfl rfl ?_
                    refine J_iconst (v := nI 0) dX12_step_196 (by decide) ?_
                    refine K_putI cf12 flX12_150 (sq 146 rfl) rfl dX12_step_197 ?_
                    refine J_ltS (fun S14 _ => ?_)
                    refine J_aload_n dX12_step_200 rfl rfl ?_
                    refine K_callV_i (As := []) mcX12_cameSo mlX12_162 rfl (by decide) (sq 146 rfl) (ct12_cameSo G t N S14) rfl rfl (Nat.le_of_ble_eq_true rfl) (by decide) (Nat.le_of_ble_eq_true rfl) dX12_step_201 (fun q15 S16 => ?_)
                    refine J_if_eq (tgt := 209) dX12_step_204 (by decide) (fun z17 => ?_) (fun z17 => ?_)
                    · refine J_aload_n dX12_step_209 rfl rfl ?_
                      refine K_getR (r := some (156)) cf12 flX12_37 (sq 146 rfl) rfl (Or.inr ⟨_, rfl⟩) dX12_step_210 ?_
                      refine J_aload_n dX12_step_213 rfl rfl ?_
                      refine K_getI cf12 flX12_159 (sq 146 rfl) (Or.inl rfl) dX12_step_214 ?_
                      refine J_aload_n dX12_step_217 rfl rfl ?_
                      refine K_getI cf12 flX12_144 (sq 146 rfl) (Or.inl rfl) dX12_step_218 ?_
                      refine K_iast (sq 156 rfl) dX12_step_221 ?_
                      refine J_ltS (fun S18 _ => ?_)
                      refine J_aload_n dX12_step_222 rfl rfl ?_
                      refine K_getR (r := some (157)) cf12 flX12_40 (sq 146 rfl) rfl (Or.inr ⟨_, rfl⟩) dX12_step_223 ?_
                      refine J_aload_n dX12_step_226 rfl rfl ?_
                      refine K_getI cf12 flX12_159 (sq 146 rfl) (Or.inl rfl) dX12_step_227 ?_
                      refine J_aload_n dX12_step_230 rfl rfl ?_
                      refine K_getI cf12 flX12_147 (sq 146 rfl) (Or.inl rfl) dX12_step_231 ?_
                      refine K_iast (sq 157 rfl) dX12_step_234 ?_
                      refine J_ltS (fun S19 _ => ?_)
                      refine J_aload_n dX12_step_235 rfl rfl ?_
                      refine K_getR (r := some (158)) cf12 flX12_43 (sq 146 rfl) rfl (Or.inr ⟨_, rfl⟩) dX12_step_236 ?_
                      refine J_aload_n dX12_step_239 rfl rfl ?_
                      refine K_getI cf12 flX12_159 (sq 146 rfl) (Or.inl rfl) dX12_step_240 ?_
                      refine J_aload_n dX12_step_243 rfl rfl ?_
                      refine K_getI cf12 flX12_156 (sq 146 rfl) (Or.inl rfl) dX12_step_244 ?_
                      refine K_iast (sq 158 rfl) dX12_step_247 ?_
                      refine J_ltS (fun S20 _ => ?_)
                      refine J_aload_n dX12_step_248 rfl rfl ?_
                      refine J_dup dX12_step_249 rfl ?_
                      refine K_getI cf12 flX12_159 (sq 146 rfl) (Or.inl rfl) dX12_step_250 ?_
                      refine J_iconst (v := nI 1) dX12_step_253 (by decide) ?_
                      refine J_iadd dX12_step_254 ?_
                      refine K_putI cf12 flX12_159 (sq 146 rfl) rfl dX12_step_255 ?_
                      refine J_ltS (fun S21 _ => ?_)
                      refine J_goto (tgt := 276) dX12_step_258 (by decide) ?_
                      exact J_sb (t12_step_j276 G t N S21) (And.intro rfl (trivial))
                    · refine J_iconst (v := nI 1) dX12_step_207 (by decide) ?_
                      exact J_ireturn rfl (Nat.le_refl _) (Nat.le_refl _) rfl dX12_step_208
                · exact fun _ h => absurd h List.not_mem_nil
  · refine J_aload_n dX12_step_261 rfl rfl ?_
    refine J_dup dX12_step_262 rfl ?_
    refine K_getI cf12 flX12_150 (sq 146 rfl) (Or.inl rfl) dX12_step_263 ?_
    refine J_aload_n dX12_step_266 rfl rfl ?_
    refine K_getI cf12 flX12_144 (sq 146 rfl) (Or.inl rfl) dX12_step_267 ?_
    refine J_iconst (v := nI 2) dX12_step_270 (by decide) ?_
    refine J_irem (by decide) dX12_step_271 ?_
    refine J_iadd dX12_step_272 ?_
    refine K_putI cf12 flX12_150 (sq 146 rfl) rfl dX12_step_273 ?_
    refine J_ltS (fun S22 _ => ?_)
    exact J_sb (t12_step_j276 G t N S22) (And.intro rfl (trivial))
theorem dX12_runFor_0 : decode cX12_runFor 0 = .ok (.aload_n 0, 1) := by decide +kernel
theorem dX12_runFor_1 : decode cX12_runFor 1 = .ok (.iload_n 1, 1) := by decide +kernel
theorem dX12_runFor_2 : decode cX12_runFor 2 = .ok (.lload_n 2, 1) := by decide +kernel
theorem dX12_runFor_3 : decode cX12_runFor 3 = .ok (.invokevirtual 166, 3) := by decide +kernel
theorem dX12_runFor_6 : decode cX12_runFor 6 = .ok (.aload_n 0, 1) := by decide +kernel
theorem dX12_runFor_7 : decode cX12_runFor 7 = .ok (.iload 4, 2) := by decide +kernel
theorem dX12_runFor_9 : decode cX12_runFor 9 = .ok (.invokevirtual 170, 3) := by decide +kernel
theorem dX12_runFor_12 : decode cX12_runFor 12 = .ok (.iconst 2, 1) := by decide +kernel
theorem dX12_runFor_13 : decode cX12_runFor 13 = .ok (.istore 6, 2) := by decide +kernel
theorem dX12_runFor_15 : decode cX12_runFor 15 = .ok (.iload 6, 2) := by decide +kernel
theorem dX12_runFor_17 : decode cX12_runFor 17 = .ok (.iconst 2, 1) := by decide +kernel
theorem dX12_runFor_18 : decode cX12_runFor 18 = .ok (.if_icmp .ne 21, 3) := by decide +kernel
theorem dX12_runFor_21 : decode cX12_runFor 21 = .ok (.aload_n 0, 1) := by decide +kernel
theorem dX12_runFor_22 : decode cX12_runFor 22 = .ok (.getfield 153, 3) := by decide +kernel
theorem dX12_runFor_25 : decode cX12_runFor 25 = .ok (.iload 5, 2) := by decide +kernel
theorem dX12_runFor_27 : decode cX12_runFor 27 = .ok (.if_icmp .ge 12, 3) := by decide +kernel
theorem dX12_runFor_30 : decode cX12_runFor 30 = .ok (.aload_n 0, 1) := by decide +kernel
theorem dX12_runFor_31 : decode cX12_runFor 31 = .ok (.invokevirtual 173, 3) := by decide +kernel
theorem dX12_runFor_34 : decode cX12_runFor 34 = .ok (.istore 6, 2) := by decide +kernel
theorem dX12_runFor_36 : decode cX12_runFor 36 = .ok (.goto (-21), 3) := by decide +kernel
theorem dX12_runFor_39 : decode cX12_runFor 39 = .ok (.iload 6, 2) := by decide +kernel
theorem dX12_runFor_41 : decode cX12_runFor 41 = .ok (.ireturn, 1) := by decide +kernel
set_option maxRecDepth 100000 in
set_option maxHeartbeats 4000000 in
theorem t12_runFor_h15 (G : Gm) (t : Nat) (N : Nat) (x5 : Int32)    : ∀ (n : Nat) (x6 : Int32) (S : St), J G YX12_runFor 3 0 0 (fI t) 0 0 15 [some (vR (some 146)), none, none, none, none, some (vI x5), some (vI x6)] [] (MM t S) (f12_runFor_h15 N x5 n x6 S) := by
  intro n
  induction n with
  | zero => intro x6 S; exact J_none
  | succ n ih =>
    intro x6 S
    rw [f12_runFor_h15]
    refine J_iload dX12_runFor_15 rfl ?_
    refine J_iconst (v := nI 2) dX12_runFor_17 (by decide) ?_
    refine J_icmp_ne (tgt := 39) dX12_runFor_18 (by decide) (fun z1 => ?_) (fun z1 => ?_)
    · refine J_aload_n dX12_runFor_21 rfl rfl ?_
      refine K_getI cf12 flX12_153 (sq 146 rfl) (Or.inl rfl) dX12_runFor_22 ?_
      refine J_iload dX12_runFor_25 rfl ?_
      refine J_icmp_ge (tgt := 39) dX12_runFor_27 (by decide) (fun z2 => ?_) (fun z2 => ?_)
      · refine J_iload dX12_runFor_39 rfl ?_
        exact J_ireturn rfl (Nat.le_refl _) (Nat.le_refl _) rfl dX12_runFor_41
      · refine J_aload_n dX12_runFor_30 rfl rfl ?_
        refine K_callV_i (As := []) mcX12_step mlX12_173 rfl (by decide) (sq 146 rfl) (ct12_step G t N S) rfl rfl (Nat.le_of_ble_eq_true rfl) (by decide) (Nat.le_of_ble_eq_true rfl) dX12_runFor_31 (fun q3 S4 => ?_)
        refine J_istore [some (vR (some 146)), none, none, none, none, some (vI x5), some (vI q3)] dX12_runFor_34 (Nat.le_of_ble_eq_true rfl) rfl rfl ?_
        refine J_goto (tgt := 15) dX12_runFor_36 (by decide) ?_
        exact J_sb (ih q3 S4) (And.intro rfl (And.intro rfl (And.intro rfl (trivial))))
    · refine J_iload dX12_runFor_39 rfl ?_
      exact J_ireturn rfl (Nat.le_refl _) (Nat.le_refl _) rfl dX12_runFor_41
set_option maxRecDepth 100000 in
set_option maxHeartbeats 4000000 in
theorem ct12_runFor (G : Gm) (t : Nat) (N : Nat) (x1 : Int32) (l2 : Int64) (x4 : Int32) (x5 : Int32)  (S : St) : Ct G YX12_runFor yX12_runFor 3 0 0 (fI t) (f12_runFor N x1 l2 x4 x5 S) [vR (some 146), vI x1, vL l2, vI x4, vI x5] (MM t S) := by
  refine Ct_of_J [some (vR (some 146)), some (vI x1), some (vL l2), none, some (vI x4), some (vI x5), none] (by decide) rfl (fun h => by cases h) (Nat.le_of_ble_eq_true rfl) (And.intro rfl (And.intro rfl (And.intro rfl (And.intro rfl (And.intro rfl (trivial)))))) ?_
  unfold f12_runFor
  refine J_aload_n dX12_runFor_0 rfl rfl ?_
  refine J_iload_n dX12_runFor_1 rfl rfl ?_
  refine J_lload_n dX12_runFor_2 rfl rfl ?_
  refine K_callV_v (As := [vI x1, vL l2]) mcX12_write mlX12_166 rfl (by decide) (sq 146 rfl) (ct12_write G t N x1 l2 S) rfl rfl (Nat.le_of_ble_eq_true rfl) (by decide) (Nat.le_of_ble_eq_true rfl) dX12_runFor_3 (fun q1 S2 => ?_)
  refine J_aload_n dX12_runFor_6 rfl rfl ?_
  refine J_iload dX12_runFor_7 rfl ?_
  refine K_callV_v (As := [vI x4]) mcX12_start mlX12_170 rfl (by decide) (sq 146 rfl) (ct12_start G t x4 S2) rfl rfl (Nat.le_of_ble_eq_true rfl) (by decide) (Nat.le_of_ble_eq_true rfl) dX12_runFor_9 (fun q3 S4 => ?_)
  refine J_iconst (v := nI 2) dX12_runFor_12 (by decide) ?_
  refine J_istore [some (vR (some 146)), some (vI x1), some (vL l2), none, some (vI x4), some (vI x5), some (vI (nI 2))] dX12_runFor_13 (Nat.le_of_ble_eq_true rfl) rfl rfl ?_
  exact J_sb (t12_runFor_h15 G t N x5 N (nI 2) S4) (And.intro rfl (And.intro rfl (And.intro rfl (trivial))))
theorem dX12_run_0 : decode cX12_run 0 = .ok (.aload_n 0, 1) := by decide +kernel
theorem dX12_run_1 : decode cX12_run 1 = .ok (.iload_n 1, 1) := by decide +kernel
theorem dX12_run_2 : decode cX12_run 2 = .ok (.invokevirtual 117, 3) := by decide +kernel
theorem dX12_run_5 : decode cX12_run 5 = .ok (.ifCond .eq 27, 3) := by decide +kernel
theorem dX12_run_8 : decode cX12_run 8 = .ok (.iload_n 2, 1) := by decide +kernel
theorem dX12_run_9 : decode cX12_run 9 = .ok (.i2l, 1) := by decide +kernel
theorem dX12_run_10 : decode cX12_run 10 = .ok (.lconst 0, 1) := by decide +kernel
theorem dX12_run_11 : decode cX12_run 11 = .ok (.ldc2_w 177, 3) := by decide +kernel
theorem dX12_run_14 : decode cX12_run 14 = .ok (.invokestatic 109, 3) := by decide +kernel
theorem dX12_run_17 : decode cX12_run 17 = .ok (.ifCond .eq 15, 3) := by decide +kernel
theorem dX12_run_20 : decode cX12_run 20 = .ok (.iload_n 3, 1) := by decide +kernel
theorem dX12_run_21 : decode cX12_run 21 = .ok (.i2l, 1) := by decide +kernel
theorem dX12_run_22 : decode cX12_run 22 = .ok (.lconst 0, 1) := by decide +kernel
theorem dX12_run_23 : decode cX12_run 23 = .ok (.ldc2_w 177, 3) := by decide +kernel
theorem dX12_run_26 : decode cX12_run 26 = .ok (.invokestatic 109, 3) := by decide +kernel
theorem dX12_run_29 : decode cX12_run 29 = .ok (.ifCond .ne 5, 3) := by decide +kernel
theorem dX12_run_32 : decode cX12_run 32 = .ok (.iconst (-1), 1) := by decide +kernel
theorem dX12_run_33 : decode cX12_run 33 = .ok (.ireturn, 1) := by decide +kernel
theorem dX12_run_34 : decode cX12_run 34 = .ok (.aload_n 0, 1) := by decide +kernel
theorem dX12_run_35 : decode cX12_run 35 = .ok (.iload_n 1, 1) := by decide +kernel
theorem dX12_run_36 : decode cX12_run 36 = .ok (.invokevirtual 133, 3) := by decide +kernel
theorem dX12_run_39 : decode cX12_run 39 = .ok (.ifCond .ne 6, 3) := by decide +kernel
theorem dX12_run_42 : decode cX12_run 42 = .ok (.bipush (-5), 2) := by decide +kernel
theorem dX12_run_44 : decode cX12_run 44 = .ok (.ireturn, 1) := by decide +kernel
theorem dX12_run_45 : decode cX12_run 45 = .ok (.aload_n 0, 1) := by decide +kernel
theorem dX12_run_46 : decode cX12_run 46 = .ok (.iload_n 1, 1) := by decide +kernel
theorem dX12_run_47 : decode cX12_run 47 = .ok (.aload_n 0, 1) := by decide +kernel
theorem dX12_run_48 : decode cX12_run 48 = .ok (.invokevirtual 179, 3) := by decide +kernel
theorem dX12_run_51 : decode cX12_run 51 = .ok (.iload_n 2, 1) := by decide +kernel
theorem dX12_run_52 : decode cX12_run 52 = .ok (.iload_n 3, 1) := by decide +kernel
theorem dX12_run_53 : decode cX12_run 53 = .ok (.invokevirtual 183, 3) := by decide +kernel
theorem dX12_run_56 : decode cX12_run 56 = .ok (.istore 4, 2) := by decide +kernel
theorem dX12_run_58 : decode cX12_run 58 = .ok (.aload_n 0, 1) := by decide +kernel
theorem dX12_run_59 : decode cX12_run 59 = .ok (.aload_n 0, 1) := by decide +kernel
theorem dX12_run_60 : decode cX12_run 60 = .ok (.getfield 153, 3) := by decide +kernel
theorem dX12_run_63 : decode cX12_run 63 = .ok (.putfield 46, 3) := by decide +kernel
theorem dX12_run_66 : decode cX12_run 66 = .ok (.aload_n 0, 1) := by decide +kernel
theorem dX12_run_67 : decode cX12_run 67 = .ok (.aload_n 0, 1) := by decide +kernel
theorem dX12_run_68 : decode cX12_run 68 = .ok (.getfield 144, 3) := by decide +kernel
theorem dX12_run_71 : decode cX12_run 71 = .ok (.putfield 187, 3) := by decide +kernel
theorem dX12_run_74 : decode cX12_run 74 = .ok (.aload_n 0, 1) := by decide +kernel
theorem dX12_run_75 : decode cX12_run 75 = .ok (.aload_n 0, 1) := by decide +kernel
theorem dX12_run_76 : decode cX12_run 76 = .ok (.getfield 147, 3) := by decide +kernel
theorem dX12_run_79 : decode cX12_run 79 = .ok (.putfield 190, 3) := by decide +kernel
theorem dX12_run_82 : decode cX12_run 82 = .ok (.aload_n 0, 1) := by decide +kernel
theorem dX12_run_83 : decode cX12_run 83 = .ok (.aload_n 0, 1) := by decide +kernel
theorem dX12_run_84 : decode cX12_run 84 = .ok (.getfield 156, 3) := by decide +kernel
theorem dX12_run_87 : decode cX12_run 87 = .ok (.putfield 193, 3) := by decide +kernel
theorem dX12_run_90 : decode cX12_run 90 = .ok (.iconst 0, 1) := by decide +kernel
theorem dX12_run_91 : decode cX12_run 91 = .ok (.istore 5, 2) := by decide +kernel
theorem dX12_run_93 : decode cX12_run 93 = .ok (.iload 5, 2) := by decide +kernel
theorem dX12_run_95 : decode cX12_run 95 = .ok (.aload_n 0, 1) := by decide +kernel
theorem dX12_run_96 : decode cX12_run 96 = .ok (.getfield 156, 3) := by decide +kernel
theorem dX12_run_99 : decode cX12_run 99 = .ok (.if_icmp .ge 23, 3) := by decide +kernel
theorem dX12_run_102 : decode cX12_run 102 = .ok (.aload_n 0, 1) := by decide +kernel
theorem dX12_run_103 : decode cX12_run 103 = .ok (.getfield 50, 3) := by decide +kernel
theorem dX12_run_106 : decode cX12_run 106 = .ok (.iload 5, 2) := by decide +kernel
theorem dX12_run_108 : decode cX12_run 108 = .ok (.aload_n 0, 1) := by decide +kernel
theorem dX12_run_109 : decode cX12_run 109 = .ok (.getfield 34, 3) := by decide +kernel
theorem dX12_run_112 : decode cX12_run 112 = .ok (.iload 5, 2) := by decide +kernel
theorem dX12_run_114 : decode cX12_run 114 = .ok (.iaload, 1) := by decide +kernel
theorem dX12_run_115 : decode cX12_run 115 = .ok (.iastore, 1) := by decide +kernel
theorem dX12_run_116 : decode cX12_run 116 = .ok (.iinc 5 1, 3) := by decide +kernel
theorem dX12_run_119 : decode cX12_run 119 = .ok (.goto (-26), 3) := by decide +kernel
theorem dX12_run_122 : decode cX12_run 122 = .ok (.iload 4, 2) := by decide +kernel
theorem dX12_run_124 : decode cX12_run 124 = .ok (.ireturn, 1) := by decide +kernel
set_option maxRecDepth 100000 in
set_option maxHeartbeats 4000000 in
theorem t12_run_h93 (G : Gm) (t : Nat) (N : Nat) (x4 : Int32)    : ∀ (n : Nat) (x5 : Int32) (S : St), J G YX12_run 4 0 0 (fI t) 0 0 93 [some (vR (some 146)), none, none, none, some (vI x4), some (vI x5)] [] (MM t S) (f12_run_h93 N x4 n x5 S) := by
  intro n
  induction n with
  | zero => intro x5 S; exact J_none
  | succ n ih =>
    intro x5 S
    rw [f12_run_h93]
    refine J_iload dX12_run_93 rfl ?_
    refine J_aload_n dX12_run_95 rfl rfl ?_
    refine K_getI cf12 flX12_156 (sq 146 rfl) (Or.inl rfl) dX12_run_96 ?_
    refine J_icmp_ge (tgt := 122) dX12_run_99 (by decide) (fun z1 => ?_) (fun z1 => ?_)
    · refine J_iload dX12_run_122 rfl ?_
      exact J_ireturn rfl (Nat.le_refl _) (Nat.le_refl _) rfl dX12_run_124
    · refine J_aload_n dX12_run_102 rfl rfl ?_
      refine K_getR (r := some (159)) cf12 flX12_50 (sq 146 rfl) rfl (Or.inr ⟨_, rfl⟩) dX12_run_103 ?_
      refine J_iload dX12_run_106 rfl ?_
      refine J_aload_n dX12_run_108 rfl rfl ?_
      refine K_getR (r := some (155)) cf12 flX12_34 (sq 146 rfl) rfl (Or.inr ⟨_, rfl⟩) dX12_run_109 ?_
      refine J_iload dX12_run_112 rfl ?_
      refine K_iald (sq 155 rfl) dX12_run_114 ?_
      refine K_iast (sq 159 rfl) dX12_run_115 ?_
      refine J_ltS (fun S2 _ => ?_)
      refine J_iinc (v := x5 + nI 1) [some (vR (some 146)), none, none, none, some (vI x4), some (vI (x5 + nI 1))] dX12_run_116 rfl rfl (Nat.le_of_ble_eq_true rfl) rfl rfl ?_
      refine J_goto (tgt := 93) dX12_run_119 (by decide) ?_
      exact J_sb (ih (x5 + nI 1) S2) (And.intro rfl (And.intro rfl (And.intro rfl (trivial))))
set_option maxRecDepth 100000 in
set_option maxHeartbeats 4000000 in
theorem ct12_run (G : Gm) (t : Nat) (N : Nat) (x1 : Int32) (x2 : Int32) (x3 : Int32)  (S : St) : Ct G YX12_run yX12_run 4 0 0 (fI t) (f12_run N x1 x2 x3 S) [vR (some 146), vI x1, vI x2, vI x3] (MM t S) := by
  refine Ct_of_J [some (vR (some 146)), some (vI x1), some (vI x2), some (vI x3), none, none] (by decide) rfl (fun h => by cases h) (Nat.le_of_ble_eq_true rfl) (And.intro rfl (And.intro rfl (And.intro rfl (And.intro rfl (trivial))))) ?_
  unfold f12_run
  refine J_aload_n dX12_run_0 rfl rfl ?_
  refine J_iload_n dX12_run_1 rfl rfl ?_
  refine K_callV_i (As := [vI x1]) mcX12_isLanguage mlX12_117 rfl (by decide) (sq 146 rfl) (ct12_isLanguage G t x1 S) rfl rfl (Nat.le_of_ble_eq_true rfl) (by decide) (Nat.le_of_ble_eq_true rfl) dX12_run_2 (fun q1 S2 => ?_)
  refine J_if_eq (tgt := 32) dX12_run_5 (by decide) (fun z3 => ?_) (fun z3 => ?_)
  · refine J_iconst (v := (-1)) dX12_run_32 (by decide) ?_
    exact J_ireturn rfl (Nat.le_refl _) (Nat.le_refl _) rfl dX12_run_33
  · refine J_iload_n dX12_run_8 rfl rfl ?_
    refine J_i2l dX12_run_9 ?_
    refine J_lconst (v := lN 0) dX12_run_10 (by decide) ?_
    refine J_ldc2_w (v := lN 999) wX12_177 dX12_run_11 ?_
    refine K_callS_i (As := [vL x2.toInt64, vL (lN 0), vL (lN 999)]) mcX12_within mlX12_109 (ct12_within G t x2.toInt64 (lN 0) (lN 999) S2) rfl rfl (Nat.le_of_ble_eq_true rfl) (by decide) (Nat.le_of_ble_eq_true rfl) dX12_run_14 (fun q4 S5 => ?_)
    refine J_if_eq (tgt := 32) dX12_run_17 (by decide) (fun z6 => ?_) (fun z6 => ?_)
    · refine J_iconst (v := (-1)) dX12_run_32 (by decide) ?_
      exact J_ireturn rfl (Nat.le_refl _) (Nat.le_refl _) rfl dX12_run_33
    · refine J_iload_n dX12_run_20 rfl rfl ?_
      refine J_i2l dX12_run_21 ?_
      refine J_lconst (v := lN 0) dX12_run_22 (by decide) ?_
      refine J_ldc2_w (v := lN 999) wX12_177 dX12_run_23 ?_
      refine K_callS_i (As := [vL x3.toInt64, vL (lN 0), vL (lN 999)]) mcX12_within mlX12_109 (ct12_within G t x3.toInt64 (lN 0) (lN 999) S5) rfl rfl (Nat.le_of_ble_eq_true rfl) (by decide) (Nat.le_of_ble_eq_true rfl) dX12_run_26 (fun q7 S8 => ?_)
      refine J_if_ne (tgt := 34) dX12_run_29 (by decide) (fun z9 => ?_) (fun z9 => ?_)
      · refine J_iconst (v := (-1)) dX12_run_32 (by decide) ?_
        exact J_ireturn rfl (Nat.le_refl _) (Nat.le_refl _) rfl dX12_run_33
      · refine J_aload_n dX12_run_34 rfl rfl ?_
        refine J_iload_n dX12_run_35 rfl rfl ?_
        refine K_callV_i (As := [vI x1]) mcX12_isProgram mlX12_133 rfl (by decide) (sq 146 rfl) (ct12_isProgram G t N x1 S8) rfl rfl (Nat.le_of_ble_eq_true rfl) (by decide) (Nat.le_of_ble_eq_true rfl) dX12_run_36 (fun q10 S11 => ?_)
        refine J_if_ne (tgt := 45) dX12_run_39 (by decide) (fun z12 => ?_) (fun z12 => ?_)
        · refine J_bipush (v := (-5)) dX12_run_42 (by decide) ?_
          exact J_ireturn rfl (Nat.le_refl _) (Nat.le_refl _) rfl dX12_run_44
        · refine J_aload_n dX12_run_45 rfl rfl ?_
          refine J_iload_n dX12_run_46 rfl rfl ?_
          refine J_aload_n dX12_run_47 rfl rfl ?_
          refine K_callV_l (As := []) mcX12_packed mlX12_179 rfl (by decide) (sq 146 rfl) (ct12_packed G t N S11) rfl rfl (Nat.le_of_ble_eq_true rfl) (by decide) (Nat.le_of_ble_eq_true rfl) dX12_run_48 (fun q13 S14 => ?_)
          refine J_iload_n dX12_run_51 rfl rfl ?_
          refine J_iload_n dX12_run_52 rfl rfl ?_
          refine K_callV_i (As := [vI x1, vL q13, vI x2, vI x3]) mcX12_runFor mlX12_183 rfl (by decide) (sq 146 rfl) (ct12_runFor G t N x1 q13 x2 x3 S14) rfl rfl (Nat.le_of_ble_eq_true rfl) (by decide) (Nat.le_of_ble_eq_true rfl) dX12_run_53 (fun q15 S16 => ?_)
          refine J_istore [some (vR (some 146)), some (vI x1), some (vI x2), some (vI x3), some (vI q15), none] dX12_run_56 (Nat.le_of_ble_eq_true rfl) rfl rfl ?_
          refine J_aload_n dX12_run_58 rfl rfl ?_
          refine J_aload_n dX12_run_59 rfl rfl ?_
          refine K_getI cf12 flX12_153 (sq 146 rfl) (Or.inl rfl) dX12_run_60 ?_
          refine K_putI cf12 flX12_46 (sq 146 rfl) rfl dX12_run_63 ?_
          refine J_ltS (fun S17 _ => ?_)
          refine J_aload_n dX12_run_66 rfl rfl ?_
          refine J_aload_n dX12_run_67 rfl rfl ?_
          refine K_getI cf12 flX12_144 (sq 146 rfl) (Or.inl rfl) dX12_run_68 ?_
          refine K_putI cf12 flX12_187 (sq 146 rfl) rfl dX12_run_71 ?_
          refine J_ltS (fun S18 _ => ?_)
          refine J_aload_n dX12_run_74 rfl rfl ?_
          refine J_aload_n dX12_run_75 rfl rfl ?_
          refine K_getI cf12 flX12_147 (sq 146 rfl) (Or.inl rfl) dX12_run_76 ?_
          refine K_putI cf12 flX12_190 (sq 146 rfl) rfl dX12_run_79 ?_
          refine J_ltS (fun S19 _ => ?_)
          refine J_aload_n dX12_run_82 rfl rfl ?_
          refine J_aload_n dX12_run_83 rfl rfl ?_
          refine K_getI cf12 flX12_156 (sq 146 rfl) (Or.inl rfl) dX12_run_84 ?_
          refine K_putI cf12 flX12_193 (sq 146 rfl) rfl dX12_run_87 ?_
          refine J_ltS (fun S20 _ => ?_)
          refine J_iconst (v := nI 0) dX12_run_90 (by decide) ?_
          refine J_istore [some (vR (some 146)), some (vI x1), some (vI x2), some (vI x3), some (vI q15), some (vI (nI 0))] dX12_run_91 (Nat.le_of_ble_eq_true rfl) rfl rfl ?_
          exact J_sb (t12_run_h93 G t N q15 N (nI 0) S20) (And.intro rfl (And.intro rfl (And.intro rfl (trivial))))
