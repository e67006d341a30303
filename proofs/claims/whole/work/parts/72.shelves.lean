theorem dX8_isShelf_0 : decode cX8_isShelf 0 = .ok (.iload_n 1, 1) := by decide +kernel
theorem dX8_isShelf_1 : decode cX8_isShelf 1 = .ok (.ifCond .lt 13, 3) := by decide +kernel
theorem dX8_isShelf_4 : decode cX8_isShelf 4 = .ok (.iload_n 1, 1) := by decide +kernel
theorem dX8_isShelf_5 : decode cX8_isShelf 5 = .ok (.bipush 6, 2) := by decide +kernel
theorem dX8_isShelf_7 : decode cX8_isShelf 7 = .ok (.if_icmp .ge 7, 3) := by decide +kernel
theorem dX8_isShelf_10 : decode cX8_isShelf 10 = .ok (.iconst 1, 1) := by decide +kernel
theorem dX8_isShelf_11 : decode cX8_isShelf 11 = .ok (.goto 4, 3) := by decide +kernel
theorem dX8_isShelf_14 : decode cX8_isShelf 14 = .ok (.iconst 0, 1) := by decide +kernel
theorem dX8_isShelf_15 : decode cX8_isShelf 15 = .ok (.ireturn, 1) := by decide +kernel
set_option maxRecDepth 100000 in
set_option maxHeartbeats 4000000 in
theorem ct8_isShelf (G : Gm) (t : Nat)  (x1 : Int32)  (S : St) : Ct G YX8_isShelf yX8_isShelf 1 0 0 (fI t) (f8_isShelf x1 S) [vR (some 39), vI x1] (MM t S) := by
  refine Ct_of_J [some (vR (some 39)), some (vI x1)] (by decide) rfl (fun h => by cases h) (Nat.le_of_ble_eq_true rfl) (And.intro rfl (And.intro rfl (trivial))) ?_
  unfold f8_isShelf
  refine J_iload_n dX8_isShelf_0 rfl rfl ?_
  refine J_if_lt (tgt := 14) dX8_isShelf_1 (by decide) (fun z1 => ?_) (fun z1 => ?_)
  · refine J_iconst (v := nI 0) dX8_isShelf_14 (by decide) ?_
    exact J_zreturn (by decide) rfl (Nat.le_refl _) (Nat.le_refl _) rfl dX8_isShelf_15
  · refine J_iload_n dX8_isShelf_4 rfl rfl ?_
    refine J_bipush (v := nI 6) dX8_isShelf_5 (by decide) ?_
    refine J_icmp_ge (tgt := 14) dX8_isShelf_7 (by decide) (fun z2 => ?_) (fun z2 => ?_)
    · refine J_iconst (v := nI 0) dX8_isShelf_14 (by decide) ?_
      exact J_zreturn (by decide) rfl (Nat.le_refl _) (Nat.le_refl _) rfl dX8_isShelf_15
    · refine J_iconst (v := nI 1) dX8_isShelf_10 (by decide) ?_
      refine J_goto (tgt := 15) dX8_isShelf_11 (by decide) ?_
      exact J_zreturn (by decide) rfl (Nat.le_refl _) (Nat.le_refl _) rfl dX8_isShelf_15
theorem dX8_sort_0 : decode cX8_sort 0 = .ok (.aload_n 0, 1) := by decide +kernel
theorem dX8_sort_1 : decode cX8_sort 1 = .ok (.iload_n 1, 1) := by decide +kernel
theorem dX8_sort_2 : decode cX8_sort 2 = .ok (.invokevirtual 30, 3) := by decide +kernel
theorem dX8_sort_5 : decode cX8_sort 5 = .ok (.ifCond .eq 12, 3) := by decide +kernel
theorem dX8_sort_8 : decode cX8_sort 8 = .ok (.aload_n 0, 1) := by decide +kernel
theorem dX8_sort_9 : decode cX8_sort 9 = .ok (.getfield 9, 3) := by decide +kernel
theorem dX8_sort_12 : decode cX8_sort 12 = .ok (.iload_n 1, 1) := by decide +kernel
theorem dX8_sort_13 : decode cX8_sort 13 = .ok (.iaload, 1) := by decide +kernel
theorem dX8_sort_14 : decode cX8_sort 14 = .ok (.goto 5, 3) := by decide +kernel
theorem dX8_sort_17 : decode cX8_sort 17 = .ok (.bipush 6, 2) := by decide +kernel
theorem dX8_sort_19 : decode cX8_sort 19 = .ok (.ireturn, 1) := by decide +kernel
set_option maxRecDepth 100000 in
set_option maxHeartbeats 4000000 in
theorem ct8_sort (G : Gm) (t : Nat)  (x1 : Int32)  (S : St) : Ct G YX8_sort yX8_sort 2 0 0 (fI t) (f8_sort x1 S) [vR (some 39), vI x1] (MM t S) := by
  refine Ct_of_J [some (vR (some 39)), some (vI x1)] (by decide) rfl (fun h => by cases h) (Nat.le_of_ble_eq_true rfl) (And.intro rfl (And.intro rfl (trivial))) ?_
  unfold f8_sort
  refine J_aload_n dX8_sort_0 rfl rfl ?_
  refine J_iload_n dX8_sort_1 rfl rfl ?_
  refine K_callV_i (As := [vI x1]) mcX8_isShelf mlX8_30 rfl (by decide) (sq 39 rfl) (ct8_isShelf G t x1 S) rfl rfl (Nat.le_of_ble_eq_true rfl) (by decide) (Nat.le_of_ble_eq_true rfl) dX8_sort_2 (fun q1 S2 => ?_)
  refine J_if_eq (tgt := 17) dX8_sort_5 (by decide) (fun z3 => ?_) (fun z3 => ?_)
  · refine J_bipush (v := nI 6) dX8_sort_17 (by decide) ?_
    exact J_ireturn rfl (Nat.le_refl _) (Nat.le_refl _) rfl dX8_sort_19
  · refine J_aload_n dX8_sort_8 rfl rfl ?_
    refine K_getR (r := some (40)) cf8 flX8_9 (sq 39 rfl) rfl (Or.inr ⟨_, rfl⟩) dX8_sort_9 ?_
    refine J_iload_n dX8_sort_12 rfl rfl ?_
    refine K_iald (sq 40 rfl) dX8_sort_13 ?_
    refine J_goto (tgt := 19) dX8_sort_14 (by decide) ?_
    exact J_ireturn rfl (Nat.le_refl _) (Nat.le_refl _) rfl dX8_sort_19
theorem dX8_holdsNothing_0 : decode cX8_holdsNothing 0 = .ok (.aload_n 0, 1) := by decide +kernel
theorem dX8_holdsNothing_1 : decode cX8_holdsNothing 1 = .ok (.iload_n 1, 1) := by decide +kernel
theorem dX8_holdsNothing_2 : decode cX8_holdsNothing 2 = .ok (.invokevirtual 34, 3) := by decide +kernel
theorem dX8_holdsNothing_5 : decode cX8_holdsNothing 5 = .ok (.bipush 6, 2) := by decide +kernel
theorem dX8_holdsNothing_7 : decode cX8_holdsNothing 7 = .ok (.if_icmp .ne 7, 3) := by decide +kernel
theorem dX8_holdsNothing_10 : decode cX8_holdsNothing 10 = .ok (.iconst 1, 1) := by decide +kernel
theorem dX8_holdsNothing_11 : decode cX8_holdsNothing 11 = .ok (.goto 4, 3) := by decide +kernel
theorem dX8_holdsNothing_14 : decode cX8_holdsNothing 14 = .ok (.iconst 0, 1) := by decide +kernel
theorem dX8_holdsNothing_15 : decode cX8_holdsNothing 15 = .ok (.ireturn, 1) := by decide +kernel
set_option maxRecDepth 100000 in
set_option maxHeartbeats 4000000 in
theorem ct8_holdsNothing (G : Gm) (t : Nat)  (x1 : Int32)  (S : St) : Ct G YX8_holdsNothing yX8_holdsNothing 3 0 0 (fI t) (f8_holdsNothing x1 S) [vR (some 39), vI x1] (MM t S) := by
  refine Ct_of_J [some (vR (some 39)), some (vI x1)] (by decide) rfl (fun h => by cases h) (Nat.le_of_ble_eq_true rfl) (And.intro rfl (And.intro rfl (trivial))) ?_
  unfold f8_holdsNothing
  refine J_aload_n dX8_holdsNothing_0 rfl rfl ?_
  refine J_iload_n dX8_holdsNothing_1 rfl rfl ?_
  refine K_callV_i (As := [vI x1]) mcX8_sort mlX8_34 rfl (by decide) (sq 39 rfl) (ct8_sort G t x1 S) rfl rfl (Nat.le_of_ble_eq_true rfl) (by decide) (Nat.le_of_ble_eq_true rfl) dX8_holdsNothing_2 (fun q1 S2 => ?_)
  refine J_bipush (v := nI 6) dX8_holdsNothing_5 (by decide) ?_
  refine J_icmp_ne (tgt := 14) dX8_holdsNothing_7 (by decide) (fun z3 => ?_) (fun z3 => ?_)
  · refine J_iconst (v := nI 1) dX8_holdsNothing_10 (by decide) ?_
    refine J_goto (tgt := 15) dX8_holdsNothing_11 (by decide) ?_
    exact J_zreturn (by decide) rfl (Nat.le_refl _) (Nat.le_refl _) rfl dX8_holdsNothing_15
  · refine J_iconst (v := nI 0) dX8_holdsNothing_14 (by decide) ?_
    exact J_zreturn (by decide) rfl (Nat.le_refl _) (Nat.le_refl _) rfl dX8_holdsNothing_15
theorem dX8_holdsRow_0 : decode cX8_holdsRow 0 = .ok (.aload_n 0, 1) := by decide +kernel
theorem dX8_holdsRow_1 : decode cX8_holdsRow 1 = .ok (.iload_n 1, 1) := by decide +kernel
theorem dX8_holdsRow_2 : decode cX8_holdsRow 2 = .ok (.invokevirtual 34, 3) := by decide +kernel
theorem dX8_holdsRow_5 : decode cX8_holdsRow 5 = .ok (.iconst 4, 1) := by decide +kernel
theorem dX8_holdsRow_6 : decode cX8_holdsRow 6 = .ok (.if_icmp .gt 7, 3) := by decide +kernel
theorem dX8_holdsRow_9 : decode cX8_holdsRow 9 = .ok (.iconst 1, 1) := by decide +kernel
theorem dX8_holdsRow_10 : decode cX8_holdsRow 10 = .ok (.goto 4, 3) := by decide +kernel
theorem dX8_holdsRow_13 : decode cX8_holdsRow 13 = .ok (.iconst 0, 1) := by decide +kernel
theorem dX8_holdsRow_14 : decode cX8_holdsRow 14 = .ok (.ireturn, 1) := by decide +kernel
set_option maxRecDepth 100000 in
set_option maxHeartbeats 4000000 in
theorem ct8_holdsRow (G : Gm) (t : Nat)  (x1 : Int32)  (S : St) : Ct G YX8_holdsRow yX8_holdsRow 3 0 0 (fI t) (f8_holdsRow x1 S) [vR (some 39), vI x1] (MM t S) := by
  refine Ct_of_J [some (vR (some 39)), some (vI x1)] (by decide) rfl (fun h => by cases h) (Nat.le_of_ble_eq_true rfl) (And.intro rfl (And.intro rfl (trivial))) ?_
  unfold f8_holdsRow
  refine J_aload_n dX8_holdsRow_0 rfl rfl ?_
  refine J_iload_n dX8_holdsRow_1 rfl rfl ?_
  refine K_callV_i (As := [vI x1]) mcX8_sort mlX8_34 rfl (by decide) (sq 39 rfl) (ct8_sort G t x1 S) rfl rfl (Nat.le_of_ble_eq_true rfl) (by decide) (Nat.le_of_ble_eq_true rfl) dX8_holdsRow_2 (fun q1 S2 => ?_)
  refine J_iconst (v := nI 4) dX8_holdsRow_5 (by decide) ?_
  refine J_icmp_gt (tgt := 13) dX8_holdsRow_6 (by decide) (fun z3 => ?_) (fun z3 => ?_)
  · refine J_iconst (v := nI 0) dX8_holdsRow_13 (by decide) ?_
    exact J_zreturn (by decide) rfl (Nat.le_refl _) (Nat.le_refl _) rfl dX8_holdsRow_14
  · refine J_iconst (v := nI 1) dX8_holdsRow_9 (by decide) ?_
    refine J_goto (tgt := 14) dX8_holdsRow_10 (by decide) ?_
    exact J_zreturn (by decide) rfl (Nat.le_refl _) (Nat.le_refl _) rfl dX8_holdsRow_14
theorem dX8_holdsBooleans_0 : decode cX8_holdsBooleans 0 = .ok (.aload_n 0, 1) := by decide +kernel
theorem dX8_holdsBooleans_1 : decode cX8_holdsBooleans 1 = .ok (.iload_n 1, 1) := by decide +kernel
theorem dX8_holdsBooleans_2 : decode cX8_holdsBooleans 2 = .ok (.invokevirtual 34, 3) := by decide +kernel
theorem dX8_holdsBooleans_5 : decode cX8_holdsBooleans 5 = .ok (.iconst 4, 1) := by decide +kernel
theorem dX8_holdsBooleans_6 : decode cX8_holdsBooleans 6 = .ok (.if_icmp .ne 7, 3) := by decide +kernel
theorem dX8_holdsBooleans_9 : decode cX8_holdsBooleans 9 = .ok (.iconst 1, 1) := by decide +kernel
theorem dX8_holdsBooleans_10 : decode cX8_holdsBooleans 10 = .ok (.goto 4, 3) := by decide +kernel
theorem dX8_holdsBooleans_13 : decode cX8_holdsBooleans 13 = .ok (.iconst 0, 1) := by decide +kernel
theorem dX8_holdsBooleans_14 : decode cX8_holdsBooleans 14 = .ok (.ireturn, 1) := by decide +kernel
set_option maxRecDepth 100000 in
set_option maxHeartbeats 4000000 in
theorem ct8_holdsBooleans (G : Gm) (t : Nat)  (x1 : Int32)  (S : St) : Ct G YX8_holdsBooleans yX8_holdsBooleans 3 0 0 (fI t) (f8_holdsBooleans x1 S) [vR (some 39), vI x1] (MM t S) := by
  refine Ct_of_J [some (vR (some 39)), some (vI x1)] (by decide) rfl (fun h => by cases h) (Nat.le_of_ble_eq_true rfl) (And.intro rfl (And.intro rfl (trivial))) ?_
  unfold f8_holdsBooleans
  refine J_aload_n dX8_holdsBooleans_0 rfl rfl ?_
  refine J_iload_n dX8_holdsBooleans_1 rfl rfl ?_
  refine K_callV_i (As := [vI x1]) mcX8_sort mlX8_34 rfl (by decide) (sq 39 rfl) (ct8_sort G t x1 S) rfl rfl (Nat.le_of_ble_eq_true rfl) (by decide) (Nat.le_of_ble_eq_true rfl) dX8_holdsBooleans_2 (fun q1 S2 => ?_)
  refine J_iconst (v := nI 4) dX8_holdsBooleans_5 (by decide) ?_
  refine J_icmp_ne (tgt := 13) dX8_holdsBooleans_6 (by decide) (fun z3 => ?_) (fun z3 => ?_)
  · refine J_iconst (v := nI 1) dX8_holdsBooleans_9 (by decide) ?_
    refine J_goto (tgt := 14) dX8_holdsBooleans_10 (by decide) ?_
    exact J_zreturn (by decide) rfl (Nat.le_refl _) (Nat.le_refl _) rfl dX8_holdsBooleans_14
  · refine J_iconst (v := nI 0) dX8_holdsBooleans_13 (by decide) ?_
    exact J_zreturn (by decide) rfl (Nat.le_refl _) (Nat.le_refl _) rfl dX8_holdsBooleans_14
theorem dX8_heldOrder_0 : decode cX8_heldOrder 0 = .ok (.aload_n 0, 1) := by decide +kernel
theorem dX8_heldOrder_1 : decode cX8_heldOrder 1 = .ok (.iload_n 1, 1) := by decide +kernel
theorem dX8_heldOrder_2 : decode cX8_heldOrder 2 = .ok (.invokevirtual 30, 3) := by decide +kernel
theorem dX8_heldOrder_5 : decode cX8_heldOrder 5 = .ok (.ifCond .eq 12, 3) := by decide +kernel
theorem dX8_heldOrder_8 : decode cX8_heldOrder 8 = .ok (.aload_n 0, 1) := by decide +kernel
theorem dX8_heldOrder_9 : decode cX8_heldOrder 9 = .ok (.getfield 13, 3) := by decide +kernel
theorem dX8_heldOrder_12 : decode cX8_heldOrder 12 = .ok (.iload_n 1, 1) := by decide +kernel
theorem dX8_heldOrder_13 : decode cX8_heldOrder 13 = .ok (.iaload, 1) := by decide +kernel
theorem dX8_heldOrder_14 : decode cX8_heldOrder 14 = .ok (.goto 4, 3) := by decide +kernel
theorem dX8_heldOrder_17 : decode cX8_heldOrder 17 = .ok (.iconst 0, 1) := by decide +kernel
theorem dX8_heldOrder_18 : decode cX8_heldOrder 18 = .ok (.ireturn, 1) := by decide +kernel
set_option maxRecDepth 100000 in
set_option maxHeartbeats 4000000 in
theorem ct8_heldOrder (G : Gm) (t : Nat)  (x1 : Int32)  (S : St) : Ct G YX8_heldOrder yX8_heldOrder 2 0 0 (fI t) (f8_heldOrder x1 S) [vR (some 39), vI x1] (MM t S) := by
  refine Ct_of_J [some (vR (some 39)), some (vI x1)] (by decide) rfl (fun h => by cases h) (Nat.le_of_ble_eq_true rfl) (And.intro rfl (And.intro rfl (trivial))) ?_
  unfold f8_heldOrder
  refine J_aload_n dX8_heldOrder_0 rfl rfl ?_
  refine J_iload_n dX8_heldOrder_1 rfl rfl ?_
  refine K_callV_i (As := [vI x1]) mcX8_isShelf mlX8_30 rfl (by decide) (sq 39 rfl) (ct8_isShelf G t x1 S) rfl rfl (Nat.le_of_ble_eq_true rfl) (by decide) (Nat.le_of_ble_eq_true rfl) dX8_heldOrder_2 (fun q1 S2 => ?_)
  refine J_if_eq (tgt := 17) dX8_heldOrder_5 (by decide) (fun z3 => ?_) (fun z3 => ?_)
  · refine J_iconst (v := nI 0) dX8_heldOrder_17 (by decide) ?_
    exact J_ireturn rfl (Nat.le_refl _) (Nat.le_refl _) rfl dX8_heldOrder_18
  · refine J_aload_n dX8_heldOrder_8 rfl rfl ?_
    refine K_getR (r := some (41)) cf8 flX8_13 (sq 39 rfl) rfl (Or.inr ⟨_, rfl⟩) dX8_heldOrder_9 ?_
    refine J_iload_n dX8_heldOrder_12 rfl rfl ?_
    refine K_iald (sq 41 rfl) dX8_heldOrder_13 ?_
    refine J_goto (tgt := 18) dX8_heldOrder_14 (by decide) ?_
    exact J_ireturn rfl (Nat.le_refl _) (Nat.le_refl _) rfl dX8_heldOrder_18
theorem dX8_length_0 : decode cX8_length 0 = .ok (.aload_n 0, 1) := by decide +kernel
theorem dX8_length_1 : decode cX8_length 1 = .ok (.iload_n 1, 1) := by decide +kernel
theorem dX8_length_2 : decode cX8_length 2 = .ok (.invokevirtual 30, 3) := by decide +kernel
theorem dX8_length_5 : decode cX8_length 5 = .ok (.ifCond .eq 12, 3) := by decide +kernel
theorem dX8_length_8 : decode cX8_length 8 = .ok (.aload_n 0, 1) := by decide +kernel
theorem dX8_length_9 : decode cX8_length 9 = .ok (.getfield 16, 3) := by decide +kernel
theorem dX8_length_12 : decode cX8_length 12 = .ok (.iload_n 1, 1) := by decide +kernel
theorem dX8_length_13 : decode cX8_length 13 = .ok (.iaload, 1) := by decide +kernel
theorem dX8_length_14 : decode cX8_length 14 = .ok (.goto 4, 3) := by decide +kernel
theorem dX8_length_17 : decode cX8_length 17 = .ok (.iconst 0, 1) := by decide +kernel
theorem dX8_length_18 : decode cX8_length 18 = .ok (.ireturn, 1) := by decide +kernel
set_option maxRecDepth 100000 in
set_option maxHeartbeats 4000000 in
theorem ct8_length (G : Gm) (t : Nat)  (x1 : Int32)  (S : St) : Ct G YX8_length yX8_length 2 0 0 (fI t) (f8_length x1 S) [vR (some 39), vI x1] (MM t S) := by
  refine Ct_of_J [some (vR (some 39)), some (vI x1)] (by decide) rfl (fun h => by cases h) (Nat.le_of_ble_eq_true rfl) (And.intro rfl (And.intro rfl (trivial))) ?_
  unfold f8_length
  refine J_aload_n dX8_length_0 rfl rfl ?_
  refine J_iload_n dX8_length_1 rfl rfl ?_
  refine K_callV_i (As := [vI x1]) mcX8_isShelf mlX8_30 rfl (by decide) (sq 39 rfl) (ct8_isShelf G t x1 S) rfl rfl (Nat.le_of_ble_eq_true rfl) (by decide) (Nat.le_of_ble_eq_true rfl) dX8_length_2 (fun q1 S2 => ?_)
  refine J_if_eq (tgt := 17) dX8_length_5 (by decide) (fun z3 => ?_) (fun z3 => ?_)
  · refine J_iconst (v := nI 0) dX8_length_17 (by decide) ?_
    exact J_ireturn rfl (Nat.le_refl _) (Nat.le_refl _) rfl dX8_length_18
  · refine J_aload_n dX8_length_8 rfl rfl ?_
    refine K_getR (r := some (42)) cf8 flX8_16 (sq 39 rfl) rfl (Or.inr ⟨_, rfl⟩) dX8_length_9 ?_
    refine J_iload_n dX8_length_12 rfl rfl ?_
    refine K_iald (sq 42 rfl) dX8_length_13 ?_
    refine J_goto (tgt := 18) dX8_length_14 (by decide) ?_
    exact J_ireturn rfl (Nat.le_refl _) (Nat.le_refl _) rfl dX8_length_18
theorem dX8_become_0 : decode cX8_become 0 = .ok (.aload_n 0, 1) := by decide +kernel
theorem dX8_become_1 : decode cX8_become 1 = .ok (.iload_n 1, 1) := by decide +kernel
theorem dX8_become_2 : decode cX8_become 2 = .ok (.invokevirtual 30, 3) := by decide +kernel
theorem dX8_become_5 : decode cX8_become 5 = .ok (.ifCond .ne 4, 3) := by decide +kernel
theorem dX8_become_8 : decode cX8_become 8 = .ok (.return_, 1) := by decide +kernel
theorem dX8_become_9 : decode cX8_become 9 = .ok (.aload_n 0, 1) := by decide +kernel
theorem dX8_become_10 : decode cX8_become 10 = .ok (.getfield 9, 3) := by decide +kernel
theorem dX8_become_13 : decode cX8_become 13 = .ok (.iload_n 1, 1) := by decide +kernel
theorem dX8_become_14 : decode cX8_become 14 = .ok (.iload_n 2, 1) := by decide +kernel
theorem dX8_become_15 : decode cX8_become 15 = .ok (.iastore, 1) := by decide +kernel
theorem dX8_become_16 : decode cX8_become 16 = .ok (.aload_n 0, 1) := by decide +kernel
theorem dX8_become_17 : decode cX8_become 17 = .ok (.getfield 13, 3) := by decide +kernel
theorem dX8_become_20 : decode cX8_become 20 = .ok (.iload_n 1, 1) := by decide +kernel
theorem dX8_become_21 : decode cX8_become 21 = .ok (.iload_n 3, 1) := by decide +kernel
theorem dX8_become_22 : decode cX8_become 22 = .ok (.iastore, 1) := by decide +kernel
theorem dX8_become_23 : decode cX8_become 23 = .ok (.aload_n 0, 1) := by decide +kernel
theorem dX8_become_24 : decode cX8_become 24 = .ok (.getfield 16, 3) := by decide +kernel
theorem dX8_become_27 : decode cX8_become 27 = .ok (.iload_n 1, 1) := by decide +kernel
theorem dX8_become_28 : decode cX8_become 28 = .ok (.iload 4, 2) := by decide +kernel
theorem dX8_become_30 : decode cX8_become 30 = .ok (.iastore, 1) := by decide +kernel
theorem dX8_become_31 : decode cX8_become 31 = .ok (.aload_n 0, 1) := by decide +kernel
theorem dX8_become_32 : decode cX8_become 32 = .ok (.getfield 21, 3) := by decide +kernel
theorem dX8_become_35 : decode cX8_become 35 = .ok (.iload_n 1, 1) := by decide +kernel
theorem dX8_become_36 : decode cX8_become 36 = .ok (.aaload, 1) := by decide +kernel
theorem dX8_become_37 : decode cX8_become 37 = .ok (.lconst 0, 1) := by decide +kernel
theorem dX8_become_38 : decode cX8_become 38 = .ok (.invokestatic 42, 3) := by decide +kernel
theorem dX8_become_41 : decode cX8_become 41 = .ok (.return_, 1) := by decide +kernel
set_option maxRecDepth 100000 in
set_option maxHeartbeats 4000000 in
theorem ct8_become (G : Gm) (t : Nat)  (x1 : Int32) (x2 : Int32) (x3 : Int32) (x4 : Int32)  (S : St) : Ct G YX8_become yX8_become 2 0 0 (fV t) (f8_become x1 x2 x3 x4 S) [vR (some 39), vI x1, vI x2, vI x3, vI x4] (MM t S) := by
  refine Ct_of_J [some (vR (some 39)), some (vI x1), some (vI x2), some (vI x3), some (vI x4)] (by decide) rfl (fun h => by cases h) (Nat.le_of_ble_eq_true rfl) (And.intro rfl (And.intro rfl (And.intro rfl (And.intro rfl (And.intro rfl (trivial)))))) ?_
  unfold f8_become
  refine J_aload_n dX8_become_0 rfl rfl ?_
  refine J_iload_n dX8_become_1 rfl rfl ?_
  refine K_callV_i (As := [vI x1]) mcX8_isShelf mlX8_30 rfl (by decide) (sq 39 rfl) (ct8_isShelf G t x1 S) rfl rfl (Nat.le_of_ble_eq_true rfl) (by decide) (Nat.le_of_ble_eq_true rfl) dX8_become_2 (fun q1 S2 => ?_)
  refine J_if_ne (tgt := 9) dX8_become_5 (by decide) (fun z3 => ?_) (fun z3 => ?_)
  · exact J_return rfl (Nat.le_refl _) (Nat.le_refl _) rfl dX8_become_8
  · refine J_aload_n dX8_become_9 rfl rfl ?_
    refine K_getR (r := some (40)) cf8 flX8_9 (sq 39 rfl) rfl (Or.inr ⟨_, rfl⟩) dX8_become_10 ?_
    refine J_iload_n dX8_become_13 rfl rfl ?_
    refine J_iload_n dX8_become_14 rfl rfl ?_
    refine K_iast (sq 40 rfl) dX8_become_15 ?_
    refine J_ltS (fun S4 _ => ?_)
    refine J_aload_n dX8_become_16 rfl rfl ?_
    refine K_getR (r := some (41)) cf8 flX8_13 (sq 39 rfl) rfl (Or.inr ⟨_, rfl⟩) dX8_become_17 ?_
    refine J_iload_n dX8_become_20 rfl rfl ?_
    refine J_iload_n dX8_become_21 rfl rfl ?_
    refine K_iast (sq 41 rfl) dX8_become_22 ?_
    refine J_ltS (fun S5 _ => ?_)
    refine J_aload_n dX8_become_23 rfl rfl ?_
    refine K_getR (r := some (42)) cf8 flX8_16 (sq 39 rfl) rfl (Or.inr ⟨_, rfl⟩) dX8_become_24 ?_
    refine J_iload_n dX8_become_27 rfl rfl ?_
    refine J_iload dX8_become_28 rfl ?_
    refine K_iast (sq 42 rfl) dX8_become_30 ?_
    refine J_ltS (fun S6 _ => ?_)
    refine J_aload_n dX8_become_31 rfl rfl ?_
    refine K_getR (r := some (43)) cf8 flX8_21 (sq 39 rfl) rfl (Or.inr ⟨_, rfl⟩) dX8_become_32 ?_
    refine J_iload_n dX8_become_35 rfl rfl ?_
    refine K_aald (f := fun j => some (44 + j)) (sq 43 rfl) (by decide) (aq43) dX8_become_36 (fun i7 => ?_)
    refine J_lconst (v := lN 0) dX8_become_37 (by decide) ?_
    refine K_callS_v (As := [vR (some (44 + x1.toNatClampNeg)), vL (lN 0)]) mcJ7_fill_d0a16 mlX8_42 (ctJ7_fill_d0a16 G t (as43 i7) (by decide)) rfl rfl (Nat.le_of_ble_eq_true rfl) (by decide) (Nat.le_of_ble_eq_true rfl) dX8_become_38 (fun u9 S8 => ?_)
    exact J_return rfl (Nat.le_refl _) (Nat.le_refl _) rfl dX8_become_41
theorem dX8_holdNothing_0 : decode cX8_holdNothing 0 = .ok (.aload_n 0, 1) := by decide +kernel
theorem dX8_holdNothing_1 : decode cX8_holdNothing 1 = .ok (.iload_n 1, 1) := by decide +kernel
theorem dX8_holdNothing_2 : decode cX8_holdNothing 2 = .ok (.bipush 6, 2) := by decide +kernel
theorem dX8_holdNothing_4 : decode cX8_holdNothing 4 = .ok (.iconst 0, 1) := by decide +kernel
theorem dX8_holdNothing_5 : decode cX8_holdNothing 5 = .ok (.iconst 0, 1) := by decide +kernel
theorem dX8_holdNothing_6 : decode cX8_holdNothing 6 = .ok (.invokevirtual 38, 3) := by decide +kernel
theorem dX8_holdNothing_9 : decode cX8_holdNothing 9 = .ok (.return_, 1) := by decide +kernel
set_option maxRecDepth 100000 in
set_option maxHeartbeats 4000000 in
theorem ct8_holdNothing (G : Gm) (t : Nat)  (x1 : Int32)  (S : St) : Ct G YX8_holdNothing yX8_holdNothing 3 0 0 (fV t) (f8_holdNothing x1 S) [vR (some 39), vI x1] (MM t S) := by
  refine Ct_of_J [some (vR (some 39)), some (vI x1)] (by decide) rfl (fun h => by cases h) (Nat.le_of_ble_eq_true rfl) (And.intro rfl (And.intro rfl (trivial))) ?_
  unfold f8_holdNothing
  refine J_aload_n dX8_holdNothing_0 rfl rfl ?_
  refine J_iload_n dX8_holdNothing_1 rfl rfl ?_
  refine J_bipush (v := nI 6) dX8_holdNothing_2 (by decide) ?_
  refine J_iconst (v := nI 0) dX8_holdNothing_4 (by decide) ?_
  refine J_iconst (v := nI 0) dX8_holdNothing_5 (by decide) ?_
  refine K_callV_v (As := [vI x1, vI (nI 6), vI (nI 0), vI (nI 0)]) mcX8_become mlX8_38 rfl (by decide) (sq 39 rfl) (ct8_become G t x1 (nI 6) (nI 0) (nI 0) S) rfl rfl (Nat.le_of_ble_eq_true rfl) (by decide) (Nat.le_of_ble_eq_true rfl) dX8_holdNothing_6 (fun q1 S2 => ?_)
  exact J_return rfl (Nat.le_refl _) (Nat.le_refl _) rfl dX8_holdNothing_9
theorem dX8_holdOrder_0 : decode cX8_holdOrder 0 = .ok (.aload_n 0, 1) := by decide +kernel
theorem dX8_holdOrder_1 : decode cX8_holdOrder 1 = .ok (.iload_n 1, 1) := by decide +kernel
theorem dX8_holdOrder_2 : decode cX8_holdOrder 2 = .ok (.iconst 5, 1) := by decide +kernel
theorem dX8_holdOrder_3 : decode cX8_holdOrder 3 = .ok (.iload_n 2, 1) := by decide +kernel
theorem dX8_holdOrder_4 : decode cX8_holdOrder 4 = .ok (.iconst 0, 1) := by decide +kernel
theorem dX8_holdOrder_5 : decode cX8_holdOrder 5 = .ok (.invokevirtual 38, 3) := by decide +kernel
theorem dX8_holdOrder_8 : decode cX8_holdOrder 8 = .ok (.return_, 1) := by decide +kernel
set_option maxRecDepth 100000 in
set_option maxHeartbeats 4000000 in
theorem ct8_holdOrder (G : Gm) (t : Nat)  (x1 : Int32) (x2 : Int32)  (S : St) : Ct G YX8_holdOrder yX8_holdOrder 3 0 0 (fV t) (f8_holdOrder x1 x2 S) [vR (some 39), vI x1, vI x2] (MM t S) := by
  refine Ct_of_J [some (vR (some 39)), some (vI x1), some (vI x2)] (by decide) rfl (fun h => by cases h) (Nat.le_of_ble_eq_true rfl) (And.intro rfl (And.intro rfl (And.intro rfl (trivial)))) ?_
  unfold f8_holdOrder
  refine J_aload_n dX8_holdOrder_0 rfl rfl ?_
  refine J_iload_n dX8_holdOrder_1 rfl rfl ?_
  refine J_iconst (v := nI 5) dX8_holdOrder_2 (by decide) ?_
  refine J_iload_n dX8_holdOrder_3 rfl rfl ?_
  refine J_iconst (v := nI 0) dX8_holdOrder_4 (by decide) ?_
  refine K_callV_v (As := [vI x1, vI (nI 5), vI x2, vI (nI 0)]) mcX8_become mlX8_38 rfl (by decide) (sq 39 rfl) (ct8_become G t x1 (nI 5) x2 (nI 0) S) rfl rfl (Nat.le_of_ble_eq_true rfl) (by decide) (Nat.le_of_ble_eq_true rfl) dX8_holdOrder_5 (fun q1 S2 => ?_)
  exact J_return rfl (Nat.le_refl _) (Nat.le_refl _) rfl dX8_holdOrder_8
theorem dX8_holdRow_0 : decode cX8_holdRow 0 = .ok (.aload_n 0, 1) := by decide +kernel
theorem dX8_holdRow_1 : decode cX8_holdRow 1 = .ok (.iload_n 1, 1) := by decide +kernel
theorem dX8_holdRow_2 : decode cX8_holdRow 2 = .ok (.iload_n 2, 1) := by decide +kernel
theorem dX8_holdRow_3 : decode cX8_holdRow 3 = .ok (.iconst 0, 1) := by decide +kernel
theorem dX8_holdRow_4 : decode cX8_holdRow 4 = .ok (.iload_n 3, 1) := by decide +kernel
theorem dX8_holdRow_5 : decode cX8_holdRow 5 = .ok (.invokevirtual 38, 3) := by decide +kernel
theorem dX8_holdRow_8 : decode cX8_holdRow 8 = .ok (.return_, 1) := by decide +kernel
set_option maxRecDepth 100000 in
set_option maxHeartbeats 4000000 in
theorem ct8_holdRow (G : Gm) (t : Nat)  (x1 : Int32) (x2 : Int32) (x3 : Int32)  (S : St) : Ct G YX8_holdRow yX8_holdRow 3 0 0 (fV t) (f8_holdRow x1 x2 x3 S) [vR (some 39), vI x1, vI x2, vI x3] (MM t S) := by
  refine Ct_of_J [some (vR (some 39)), some (vI x1), some (vI x2), some (vI x3)] (by decide) rfl (fun h => by cases h) (Nat.le_of_ble_eq_true rfl) (And.intro rfl (And.intro rfl (And.intro rfl (And.intro rfl (trivial))))) ?_
  unfold f8_holdRow
  refine J_aload_n dX8_holdRow_0 rfl rfl ?_
  refine J_iload_n dX8_holdRow_1 rfl rfl ?_
  refine J_iload_n dX8_holdRow_2 rfl rfl ?_
  refine J_iconst (v := nI 0) dX8_holdRow_3 (by decide) ?_
  refine J_iload_n dX8_holdRow_4 rfl rfl ?_
  refine K_callV_v (As := [vI x1, vI x2, vI (nI 0), vI x3]) mcX8_become mlX8_38 rfl (by decide) (sq 39 rfl) (ct8_become G t x1 x2 (nI 0) x3 S) rfl rfl (Nat.le_of_ble_eq_true rfl) (by decide) (Nat.le_of_ble_eq_true rfl) dX8_holdRow_5 (fun q1 S2 => ?_)
  exact J_return rfl (Nat.le_refl _) (Nat.le_refl _) rfl dX8_holdRow_8
theorem dX8_get_0 : decode cX8_get 0 = .ok (.aload_n 0, 1) := by decide +kernel
theorem dX8_get_1 : decode cX8_get 1 = .ok (.iload_n 1, 1) := by decide +kernel
theorem dX8_get_2 : decode cX8_get 2 = .ok (.invokevirtual 30, 3) := by decide +kernel
theorem dX8_get_5 : decode cX8_get 5 = .ok (.ifCond .eq 34, 3) := by decide +kernel
theorem dX8_get_8 : decode cX8_get 8 = .ok (.iload_n 2, 1) := by decide +kernel
theorem dX8_get_9 : decode cX8_get 9 = .ok (.ifCond .lt 30, 3) := by decide +kernel
theorem dX8_get_12 : decode cX8_get 12 = .ok (.iload_n 2, 1) := by decide +kernel
theorem dX8_get_13 : decode cX8_get 13 = .ok (.aload_n 0, 1) := by decide +kernel
theorem dX8_get_14 : decode cX8_get 14 = .ok (.getfield 16, 3) := by decide +kernel
theorem dX8_get_17 : decode cX8_get 17 = .ok (.iload_n 1, 1) := by decide +kernel
theorem dX8_get_18 : decode cX8_get 18 = .ok (.iaload, 1) := by decide +kernel
theorem dX8_get_19 : decode cX8_get 19 = .ok (.if_icmp .ge 20, 3) := by decide +kernel
theorem dX8_get_22 : decode cX8_get 22 = .ok (.iload_n 2, 1) := by decide +kernel
theorem dX8_get_23 : decode cX8_get 23 = .ok (.bipush 60, 2) := by decide +kernel
theorem dX8_get_25 : decode cX8_get 25 = .ok (.if_icmp .ge 14, 3) := by decide +kernel
theorem dX8_get_28 : decode cX8_get 28 = .ok (.aload_n 0, 1) := by decide +kernel
theorem dX8_get_29 : decode cX8_get 29 = .ok (.getfield 21, 3) := by decide +kernel
theorem dX8_get_32 : decode cX8_get 32 = .ok (.iload_n 1, 1) := by decide +kernel
theorem dX8_get_33 : decode cX8_get 33 = .ok (.aaload, 1) := by decide +kernel
theorem dX8_get_34 : decode cX8_get 34 = .ok (.iload_n 2, 1) := by decide +kernel
theorem dX8_get_35 : decode cX8_get 35 = .ok (.laload, 1) := by decide +kernel
theorem dX8_get_36 : decode cX8_get 36 = .ok (.goto 4, 3) := by decide +kernel
theorem dX8_get_39 : decode cX8_get 39 = .ok (.lconst 0, 1) := by decide +kernel
theorem dX8_get_40 : decode cX8_get 40 = .ok (.lreturn, 1) := by decide +kernel
set_option maxRecDepth 100000 in
set_option maxHeartbeats 4000000 in
theorem ct8_get (G : Gm) (t : Nat)  (x1 : Int32) (x2 : Int32)  (S : St) : Ct G YX8_get yX8_get 2 0 0 (fL t) (f8_get x1 x2 S) [vR (some 39), vI x1, vI x2] (MM t S) := by
  refine Ct_of_J [some (vR (some 39)), some (vI x1), some (vI x2)] (by decide) rfl (fun h => by cases h) (Nat.le_of_ble_eq_true rfl) (And.intro rfl (And.intro rfl (And.intro rfl (trivial)))) ?_
  unfold f8_get
  refine J_aload_n dX8_get_0 rfl rfl ?_
  refine J_iload_n dX8_get_1 rfl rfl ?_
  refine K_callV_i (As := [vI x1]) mcX8_isShelf mlX8_30 rfl (by decide) (sq 39 rfl) (ct8_isShelf G t x1 S) rfl rfl (Nat.le_of_ble_eq_true rfl) (by decide) (Nat.le_of_ble_eq_true rfl) dX8_get_2 (fun q1 S2 => ?_)
  refine J_if_eq (tgt := 39) dX8_get_5 (by decide) (fun z3 => ?_) (fun z3 => ?_)
  · refine J_lconst (v := lN 0) dX8_get_39 (by decide) ?_
    exact J_lreturn rfl (Nat.le_refl _) (Nat.le_refl _) rfl dX8_get_40
  · refine J_iload_n dX8_get_8 rfl rfl ?_
    refine J_if_lt (tgt := 39) dX8_get_9 (by decide) (fun z4 => ?_) (fun z4 => ?_)
    · refine J_lconst (v := lN 0) dX8_get_39 (by decide) ?_
      exact J_lreturn rfl (Nat.le_refl _) (Nat.le_refl _) rfl dX8_get_40
    · refine J_iload_n dX8_get_12 rfl rfl ?_
      refine J_aload_n dX8_get_13 rfl rfl ?_
      refine K_getR (r := some (42)) cf8 flX8_16 (sq 39 rfl) rfl (Or.inr ⟨_, rfl⟩) dX8_get_14 ?_
      refine J_iload_n dX8_get_17 rfl rfl ?_
      refine K_iald (sq 42 rfl) dX8_get_18 ?_
      refine J_icmp_ge (tgt := 39) dX8_get_19 (by decide) (fun z5 => ?_) (fun z5 => ?_)
      · refine J_lconst (v := lN 0) dX8_get_39 (by decide) ?_
        exact J_lreturn rfl (Nat.le_refl _) (Nat.le_refl _) rfl dX8_get_40
      · refine J_iload_n dX8_get_22 rfl rfl ?_
        refine J_bipush (v := nI 60) dX8_get_23 (by decide) ?_
        refine J_icmp_ge (tgt := 39) dX8_get_25 (by decide) (fun z6 => ?_) (fun z6 => ?_)
        · refine J_lconst (v := lN 0) dX8_get_39 (by decide) ?_
          exact J_lreturn rfl (Nat.le_refl _) (Nat.le_refl _) rfl dX8_get_40
        · refine J_aload_n dX8_get_28 rfl rfl ?_
          refine K_getR (r := some (43)) cf8 flX8_21 (sq 39 rfl) rfl (Or.inr ⟨_, rfl⟩) dX8_get_29 ?_
          refine J_iload_n dX8_get_32 rfl rfl ?_
          refine K_aald (f := fun j => some (44 + j)) (sq 43 rfl) (by decide) (aq43) dX8_get_33 (fun i7 => ?_)
          refine J_iload_n dX8_get_34 rfl rfl ?_
          refine K_lald (as43 i7) dX8_get_35 ?_
          refine J_goto (tgt := 40) dX8_get_36 (by decide) ?_
          exact J_lreturn rfl (Nat.le_refl _) (Nat.le_refl _) rfl dX8_get_40
theorem dX8_held_0 : decode cX8_held 0 = .ok (.iload_n 2, 1) := by decide +kernel
theorem dX8_held_1 : decode cX8_held 1 = .ok (.tableswitch 47 0 3 #[31, 36, 41, 45], 31) := by decide +kernel
theorem dX8_held_32 : decode cX8_held 32 = .ok (.lload_n 0, 1) := by decide +kernel
theorem dX8_held_33 : decode cX8_held 33 = .ok (.l2i, 1) := by decide +kernel
theorem dX8_held_34 : decode cX8_held 34 = .ok (.i2b, 1) := by decide +kernel
theorem dX8_held_35 : decode cX8_held 35 = .ok (.i2l, 1) := by decide +kernel
theorem dX8_held_36 : decode cX8_held 36 = .ok (.lreturn, 1) := by decide +kernel
theorem dX8_held_37 : decode cX8_held 37 = .ok (.lload_n 0, 1) := by decide +kernel
theorem dX8_held_38 : decode cX8_held 38 = .ok (.l2i, 1) := by decide +kernel
theorem dX8_held_39 : decode cX8_held 39 = .ok (.i2s, 1) := by decide +kernel
theorem dX8_held_40 : decode cX8_held 40 = .ok (.i2l, 1) := by decide +kernel
theorem dX8_held_41 : decode cX8_held 41 = .ok (.lreturn, 1) := by decide +kernel
theorem dX8_held_42 : decode cX8_held 42 = .ok (.lload_n 0, 1) := by decide +kernel
theorem dX8_held_43 : decode cX8_held 43 = .ok (.l2i, 1) := by decide +kernel
theorem dX8_held_44 : decode cX8_held 44 = .ok (.i2l, 1) := by decide +kernel
theorem dX8_held_45 : decode cX8_held 45 = .ok (.lreturn, 1) := by decide +kernel
theorem dX8_held_46 : decode cX8_held 46 = .ok (.lload_n 0, 1) := by decide +kernel
theorem dX8_held_47 : decode cX8_held 47 = .ok (.lreturn, 1) := by decide +kernel
theorem dX8_held_48 : decode cX8_held 48 = .ok (.lload_n 0, 1) := by decide +kernel
theorem dX8_held_49 : decode cX8_held 49 = .ok (.lconst 0, 1) := by decide +kernel
theorem dX8_held_50 : decode cX8_held 50 = .ok (.lcmp, 1) := by decide +kernel
theorem dX8_held_51 : decode cX8_held 51 = .ok (.ifCond .eq 7, 3) := by decide +kernel
theorem dX8_held_54 : decode cX8_held 54 = .ok (.lconst 1, 1) := by decide +kernel
theorem dX8_held_55 : decode cX8_held 55 = .ok (.goto 4, 3) := by decide +kernel
theorem dX8_held_58 : decode cX8_held 58 = .ok (.lconst 0, 1) := by decide +kernel
theorem dX8_held_59 : decode cX8_held 59 = .ok (.lreturn, 1) := by decide +kernel
set_option maxRecDepth 100000 in
set_option maxHeartbeats 4000000 in
theorem ct8_held (G : Gm) (t : Nat)  (l0 : Int64) (x2 : Int32)  (S : St) : Ct G YX8_held yX8_held 1 0 0 (fL t) (f8_held l0 x2 S) [vL l0, vI x2] (MM t S) := by
  refine Ct_of_J [some (vL l0), none, some (vI x2)] (by decide) rfl (fun h => by cases h) (Nat.le_of_ble_eq_true rfl) (And.intro rfl (And.intro rfl (trivial))) ?_
  unfold f8_held
  refine J_iload_n dX8_held_0 rfl rfl ?_
  refine J_table (td := 48) _ dX8_held_1 (fun z h1 h2 => cov_of (lo := (0)) (N := 4) (ks := [nI 0, nI 1, nI 2, nI 3]) (by decide) z h1 (by omega)) ?_ (by decide) ?_
  · refine List.forall_mem_cons.mpr ⟨tb_mk (o := 31) (tgt := 32) (by decide) (fun _ => ?_), ?_⟩
    · refine J_lload_n dX8_held_32 rfl rfl ?_
      refine J_l2i dX8_held_33 ?_
      refine J_i2b dX8_held_34 ?_
      refine J_i2l dX8_held_35 ?_
      exact J_lreturn rfl (Nat.le_refl _) (Nat.le_refl _) rfl dX8_held_36
    · refine List.forall_mem_cons.mpr ⟨tb_mk (o := 36) (tgt := 37) (by decide) (fun _ => ?_), ?_⟩
      · refine J_lload_n dX8_held_37 rfl rfl ?_
        refine J_l2i dX8_held_38 ?_
        refine J_i2s dX8_held_39 ?_
        refine J_i2l dX8_held_40 ?_
        exact J_lreturn rfl (Nat.le_refl _) (Nat.le_refl _) rfl dX8_held_41
      · refine List.forall_mem_cons.mpr ⟨tb_mk (o := 41) (tgt := 42) (by decide) (fun _ => ?_), ?_⟩
        · refine J_lload_n dX8_held_42 rfl rfl ?_
          refine J_l2i dX8_held_43 ?_
          refine J_i2l dX8_held_44 ?_
          exact J_lreturn rfl (Nat.le_refl _) (Nat.le_refl _) rfl dX8_held_45
        · refine List.forall_mem_cons.mpr ⟨tb_mk (o := 45) (tgt := 46) (by decide) (fun _ => ?_), ?_⟩
          · refine J_lload_n dX8_held_46 rfl rfl ?_
            exact J_lreturn rfl (Nat.le_refl _) (Nat.le_refl _) rfl dX8_held_47
          · exact fun _ h => absurd h List.not_mem_nil
  · refine J_lload_n dX8_held_48 rfl rfl ?_
    refine J_lconst (v := lN 0) dX8_held_49 (by decide) ?_
    refine J_lcmp dX8_held_50 ?_
    refine J_if_eq (tgt := 58) dX8_held_51 (by decide) (fun z1 => ?_) (fun z1 => ?_)
    · refine J_lconst (v := lN 0) dX8_held_58 (by decide) ?_
      exact J_lreturn rfl (Nat.le_refl _) (Nat.le_refl _) rfl dX8_held_59
    · refine J_lconst (v := lN 1) dX8_held_54 (by decide) ?_
      refine J_goto (tgt := 59) dX8_held_55 (by decide) ?_
      exact J_lreturn rfl (Nat.le_refl _) (Nat.le_refl _) rfl dX8_held_59
theorem dX8_set_0 : decode cX8_set 0 = .ok (.aload_n 0, 1) := by decide +kernel
theorem dX8_set_1 : decode cX8_set 1 = .ok (.iload_n 1, 1) := by decide +kernel
theorem dX8_set_2 : decode cX8_set 2 = .ok (.invokevirtual 30, 3) := by decide +kernel
theorem dX8_set_5 : decode cX8_set 5 = .ok (.ifCond .eq 41, 3) := by decide +kernel
theorem dX8_set_8 : decode cX8_set 8 = .ok (.iload_n 2, 1) := by decide +kernel
theorem dX8_set_9 : decode cX8_set 9 = .ok (.ifCond .lt 37, 3) := by decide +kernel
theorem dX8_set_12 : decode cX8_set 12 = .ok (.iload_n 2, 1) := by decide +kernel
theorem dX8_set_13 : decode cX8_set 13 = .ok (.aload_n 0, 1) := by decide +kernel
theorem dX8_set_14 : decode cX8_set 14 = .ok (.getfield 16, 3) := by decide +kernel
theorem dX8_set_17 : decode cX8_set 17 = .ok (.iload_n 1, 1) := by decide +kernel
theorem dX8_set_18 : decode cX8_set 18 = .ok (.iaload, 1) := by decide +kernel
theorem dX8_set_19 : decode cX8_set 19 = .ok (.if_icmp .ge 27, 3) := by decide +kernel
theorem dX8_set_22 : decode cX8_set 22 = .ok (.iload_n 2, 1) := by decide +kernel
theorem dX8_set_23 : decode cX8_set 23 = .ok (.bipush 60, 2) := by decide +kernel
theorem dX8_set_25 : decode cX8_set 25 = .ok (.if_icmp .ge 21, 3) := by decide +kernel
theorem dX8_set_28 : decode cX8_set 28 = .ok (.aload_n 0, 1) := by decide +kernel
theorem dX8_set_29 : decode cX8_set 29 = .ok (.getfield 21, 3) := by decide +kernel
theorem dX8_set_32 : decode cX8_set 32 = .ok (.iload_n 1, 1) := by decide +kernel
theorem dX8_set_33 : decode cX8_set 33 = .ok (.aaload, 1) := by decide +kernel
theorem dX8_set_34 : decode cX8_set 34 = .ok (.iload_n 2, 1) := by decide +kernel
theorem dX8_set_35 : decode cX8_set 35 = .ok (.lload_n 3, 1) := by decide +kernel
theorem dX8_set_36 : decode cX8_set 36 = .ok (.aload_n 0, 1) := by decide +kernel
theorem dX8_set_37 : decode cX8_set 37 = .ok (.getfield 9, 3) := by decide +kernel
theorem dX8_set_40 : decode cX8_set 40 = .ok (.iload_n 1, 1) := by decide +kernel
theorem dX8_set_41 : decode cX8_set 41 = .ok (.iaload, 1) := by decide +kernel
theorem dX8_set_42 : decode cX8_set 42 = .ok (.invokestatic 45, 3) := by decide +kernel
theorem dX8_set_45 : decode cX8_set 45 = .ok (.lastore, 1) := by decide +kernel
theorem dX8_set_46 : decode cX8_set 46 = .ok (.return_, 1) := by decide +kernel
set_option maxRecDepth 100000 in
set_option maxHeartbeats 4000000 in
theorem ct8_set (G : Gm) (t : Nat)  (x1 : Int32) (x2 : Int32) (l3 : Int64)  (S : St) : Ct G YX8_set yX8_set 2 0 0 (fV t) (f8_set x1 x2 l3 S) [vR (some 39), vI x1, vI x2, vL l3] (MM t S) := by
  refine Ct_of_J [some (vR (some 39)), some (vI x1), some (vI x2), some (vL l3), none] (by decide) rfl (fun h => by cases h) (Nat.le_of_ble_eq_true rfl) (And.intro rfl (And.intro rfl (And.intro rfl (And.intro rfl (trivial))))) ?_
  unfold f8_set
  refine J_aload_n dX8_set_0 rfl rfl ?_
  refine J_iload_n dX8_set_1 rfl rfl ?_
  refine K_callV_i (As := [vI x1]) mcX8_isShelf mlX8_30 rfl (by decide) (sq 39 rfl) (ct8_isShelf G t x1 S) rfl rfl (Nat.le_of_ble_eq_true rfl) (by decide) (Nat.le_of_ble_eq_true rfl) dX8_set_2 (fun q1 S2 => ?_)
  refine J_if_eq (tgt := 46) dX8_set_5 (by decide) (fun z3 => ?_) (fun z3 => ?_)
  · exact J_return rfl (Nat.le_refl _) (Nat.le_refl _) rfl dX8_set_46
  · refine J_iload_n dX8_set_8 rfl rfl ?_
    refine J_if_lt (tgt := 46) dX8_set_9 (by decide) (fun z4 => ?_) (fun z4 => ?_)
    · exact J_return rfl (Nat.le_refl _) (Nat.le_refl _) rfl dX8_set_46
    · refine J_iload_n dX8_set_12 rfl rfl ?_
      refine J_aload_n dX8_set_13 rfl rfl ?_
      refine K_getR (r := some (42)) cf8 flX8_16 (sq 39 rfl) rfl (Or.inr ⟨_, rfl⟩) dX8_set_14 ?_
      refine J_iload_n dX8_set_17 rfl rfl ?_
      refine K_iald (sq 42 rfl) dX8_set_18 ?_
      refine J_icmp_ge (tgt := 46) dX8_set_19 (by decide) (fun z5 => ?_) (fun z5 => ?_)
      · exact J_return rfl (Nat.le_refl _) (Nat.le_refl _) rfl dX8_set_46
      · refine J_iload_n dX8_set_22 rfl rfl ?_
        refine J_bipush (v := nI 60) dX8_set_23 (by decide) ?_
        refine J_icmp_ge (tgt := 46) dX8_set_25 (by decide) (fun z6 => ?_) (fun z6 => ?_)
        · exact J_return rfl (Nat.le_refl _) (Nat.le_refl _) rfl dX8_set_46
        · refine J_aload_n dX8_set_28 rfl rfl ?_
          refine K_getR (r := some (43)) cf8 flX8_21 (sq 39 rfl) rfl (Or.inr ⟨_, rfl⟩) dX8_set_29 ?_
          refine J_iload_n dX8_set_32 rfl rfl ?_
          refine K_aald (f := fun j => some (44 + j)) (sq 43 rfl) (by decide) (aq43) dX8_set_33 (fun i7 => ?_)
          refine J_iload_n dX8_set_34 rfl rfl ?_
          refine J_lload_n dX8_set_35 rfl rfl ?_
          refine J_aload_n dX8_set_36 rfl rfl ?_
          refine K_getR (r := some (40)) cf8 flX8_9 (sq 39 rfl) rfl (Or.inr ⟨_, rfl⟩) dX8_set_37 ?_
          refine J_iload_n dX8_set_40 rfl rfl ?_
          refine K_iald (sq 40 rfl) dX8_set_41 ?_
          refine K_callS_l (As := [vL l3, vI (S2.1 40 x1.toNatClampNeg)]) mcX8_held mlX8_45 (ct8_held G t l3 (S2.1 40 x1.toNatClampNeg) S2) rfl rfl (Nat.le_of_ble_eq_true rfl) (by decide) (Nat.le_of_ble_eq_true rfl) dX8_set_42 (fun q8 S9 => ?_)
          refine K_last (as43 i7) dX8_set_45 ?_
          refine J_ltS (fun S10 _ => ?_)
          exact J_return rfl (Nat.le_refl _) (Nat.le_refl _) rfl dX8_set_46
theorem dX8_copy_0 : decode cX8_copy 0 = .ok (.aload_n 0, 1) := by decide +kernel
theorem dX8_copy_1 : decode cX8_copy 1 = .ok (.iload_n 1, 1) := by decide +kernel
theorem dX8_copy_2 : decode cX8_copy 2 = .ok (.invokevirtual 30, 3) := by decide +kernel
theorem dX8_copy_5 : decode cX8_copy 5 = .ok (.ifCond .eq 25, 3) := by decide +kernel
theorem dX8_copy_8 : decode cX8_copy 8 = .ok (.aload_n 0, 1) := by decide +kernel
theorem dX8_copy_9 : decode cX8_copy 9 = .ok (.iload_n 3, 1) := by decide +kernel
theorem dX8_copy_10 : decode cX8_copy 10 = .ok (.invokevirtual 30, 3) := by decide +kernel
theorem dX8_copy_13 : decode cX8_copy 13 = .ok (.ifCond .eq 17, 3) := by decide +kernel
theorem dX8_copy_16 : decode cX8_copy 16 = .ok (.iload_n 2, 1) := by decide +kernel
theorem dX8_copy_17 : decode cX8_copy 17 = .ok (.ifCond .lt 13, 3) := by decide +kernel
theorem dX8_copy_20 : decode cX8_copy 20 = .ok (.iload 4, 2) := by decide +kernel
theorem dX8_copy_22 : decode cX8_copy 22 = .ok (.ifCond .lt 8, 3) := by decide +kernel
theorem dX8_copy_25 : decode cX8_copy 25 = .ok (.iload 5, 2) := by decide +kernel
theorem dX8_copy_27 : decode cX8_copy 27 = .ok (.ifCond .ge 4, 3) := by decide +kernel
theorem dX8_copy_30 : decode cX8_copy 30 = .ok (.return_, 1) := by decide +kernel
theorem dX8_copy_31 : decode cX8_copy 31 = .ok (.iload 5, 2) := by decide +kernel
theorem dX8_copy_33 : decode cX8_copy 33 = .ok (.bipush 60, 2) := by decide +kernel
theorem dX8_copy_35 : decode cX8_copy 35 = .ok (.iload_n 2, 1) := by decide +kernel
theorem dX8_copy_36 : decode cX8_copy 36 = .ok (.isub, 1) := by decide +kernel
theorem dX8_copy_37 : decode cX8_copy 37 = .ok (.if_icmp .gt 33, 3) := by decide +kernel
theorem dX8_copy_40 : decode cX8_copy 40 = .ok (.iload 5, 2) := by decide +kernel
theorem dX8_copy_42 : decode cX8_copy 42 = .ok (.bipush 60, 2) := by decide +kernel
theorem dX8_copy_44 : decode cX8_copy 44 = .ok (.iload 4, 2) := by decide +kernel
theorem dX8_copy_46 : decode cX8_copy 46 = .ok (.isub, 1) := by decide +kernel
theorem dX8_copy_47 : decode cX8_copy 47 = .ok (.if_icmp .gt 23, 3) := by decide +kernel
theorem dX8_copy_50 : decode cX8_copy 50 = .ok (.aload_n 0, 1) := by decide +kernel
theorem dX8_copy_51 : decode cX8_copy 51 = .ok (.getfield 21, 3) := by decide +kernel
theorem dX8_copy_54 : decode cX8_copy 54 = .ok (.iload_n 1, 1) := by decide +kernel
theorem dX8_copy_55 : decode cX8_copy 55 = .ok (.aaload, 1) := by decide +kernel
theorem dX8_copy_56 : decode cX8_copy 56 = .ok (.iload_n 2, 1) := by decide +kernel
theorem dX8_copy_57 : decode cX8_copy 57 = .ok (.aload_n 0, 1) := by decide +kernel
theorem dX8_copy_58 : decode cX8_copy 58 = .ok (.getfield 21, 3) := by decide +kernel
theorem dX8_copy_61 : decode cX8_copy 61 = .ok (.iload_n 3, 1) := by decide +kernel
theorem dX8_copy_62 : decode cX8_copy 62 = .ok (.aaload, 1) := by decide +kernel
theorem dX8_copy_63 : decode cX8_copy 63 = .ok (.iload 4, 2) := by decide +kernel
theorem dX8_copy_65 : decode cX8_copy 65 = .ok (.iload 5, 2) := by decide +kernel
theorem dX8_copy_67 : decode cX8_copy 67 = .ok (.invokestatic 49, 3) := by decide +kernel
theorem dX8_copy_70 : decode cX8_copy 70 = .ok (.return_, 1) := by decide +kernel
set_option maxRecDepth 100000 in
set_option maxHeartbeats 4000000 in
theorem ct8_copy (G : Gm) (t : Nat)  (x1 : Int32) (x2 : Int32) (x3 : Int32) (x4 : Int32) (x5 : Int32)  (S : St) : Ct G YX8_copy yX8_copy 2 0 0 (fV t) (f8_copy x1 x2 x3 x4 x5 S) [vR (some 39), vI x1, vI x2, vI x3, vI x4, vI x5] (MM t S) := by
  refine Ct_of_J [some (vR (some 39)), some (vI x1), some (vI x2), some (vI x3), some (vI x4), some (vI x5)] (by decide) rfl (fun h => by cases h) (Nat.le_of_ble_eq_true rfl) (And.intro rfl (And.intro rfl (And.intro rfl (And.intro rfl (And.intro rfl (And.intro rfl (trivial))))))) ?_
  unfold f8_copy
  refine J_aload_n dX8_copy_0 rfl rfl ?_
  refine J_iload_n dX8_copy_1 rfl rfl ?_
  refine K_callV_i (As := [vI x1]) mcX8_isShelf mlX8_30 rfl (by decide) (sq 39 rfl) (ct8_isShelf G t x1 S) rfl rfl (Nat.le_of_ble_eq_true rfl) (by decide) (Nat.le_of_ble_eq_true rfl) dX8_copy_2 (fun q1 S2 => ?_)
  refine J_if_eq (tgt := 30) dX8_copy_5 (by decide) (fun z3 => ?_) (fun z3 => ?_)
  · exact J_return rfl (Nat.le_refl _) (Nat.le_refl _) rfl dX8_copy_30
  · refine J_aload_n dX8_copy_8 rfl rfl ?_
    refine J_iload_n dX8_copy_9 rfl rfl ?_
    refine K_callV_i (As := [vI x3]) mcX8_isShelf mlX8_30 rfl (by decide) (sq 39 rfl) (ct8_isShelf G t x3 S2) rfl rfl (Nat.le_of_ble_eq_true rfl) (by decide) (Nat.le_of_ble_eq_true rfl) dX8_copy_10 (fun q4 S5 => ?_)
    refine J_if_eq (tgt := 30) dX8_copy_13 (by decide) (fun z6 => ?_) (fun z6 => ?_)
    · exact J_return rfl (Nat.le_refl _) (Nat.le_refl _) rfl dX8_copy_30
    · refine J_iload_n dX8_copy_16 rfl rfl ?_
      refine J_if_lt (tgt := 30) dX8_copy_17 (by decide) (fun z7 => ?_) (fun z7 => ?_)
      · exact J_return rfl (Nat.le_refl _) (Nat.le_refl _) rfl dX8_copy_30
      · refine J_iload dX8_copy_20 rfl ?_
        refine J_if_lt (tgt := 30) dX8_copy_22 (by decide) (fun z8 => ?_) (fun z8 => ?_)
        · exact J_return rfl (Nat.le_refl _) (Nat.le_refl _) rfl dX8_copy_30
        · refine J_iload dX8_copy_25 rfl ?_
          refine J_if_ge (tgt := 31) dX8_copy_27 (by decide) (fun z9 => ?_) (fun z9 => ?_)
          · refine J_iload dX8_copy_31 rfl ?_
            refine J_bipush (v := nI 60) dX8_copy_33 (by decide) ?_
            refine J_iload_n dX8_copy_35 rfl rfl ?_
            refine J_isub dX8_copy_36 ?_
            refine J_icmp_gt (tgt := 70) dX8_copy_37 (by decide) (fun z10 => ?_) (fun z10 => ?_)
            · exact J_return rfl (Nat.le_refl _) (Nat.le_refl _) rfl dX8_copy_70
            · refine J_iload dX8_copy_40 rfl ?_
              refine J_bipush (v := nI 60) dX8_copy_42 (by decide) ?_
              refine J_iload dX8_copy_44 rfl ?_
              refine J_isub dX8_copy_46 ?_
              refine J_icmp_gt (tgt := 70) dX8_copy_47 (by decide) (fun z11 => ?_) (fun z11 => ?_)
              · exact J_return rfl (Nat.le_refl _) (Nat.le_refl _) rfl dX8_copy_70
              · refine J_aload_n dX8_copy_50 rfl rfl ?_
                refine K_getR (r := some (43)) cf8 flX8_21 (sq 39 rfl) rfl (Or.inr ⟨_, rfl⟩) dX8_copy_51 ?_
                refine J_iload_n dX8_copy_54 rfl rfl ?_
                refine K_aald (f := fun j => some (44 + j)) (sq 43 rfl) (by decide) (aq43) dX8_copy_55 (fun i12 => ?_)
                refine J_iload_n dX8_copy_56 rfl rfl ?_
                refine J_aload_n dX8_copy_57 rfl rfl ?_
                refine K_getR (r := some (43)) cf8 flX8_21 (sq 39 rfl) rfl (Or.inr ⟨_, rfl⟩) dX8_copy_58 ?_
                refine J_iload_n dX8_copy_61 rfl rfl ?_
                refine K_aald (f := fun j => some (44 + j)) (sq 43 rfl) (by decide) (aq43) dX8_copy_62 (fun i13 => ?_)
                refine J_iload dX8_copy_63 rfl ?_
                refine J_iload dX8_copy_65 rfl ?_
                refine K_copyL (as43 i12) (as43 i13) wlX8_49 (Nat.le_of_ble_eq_true rfl) (by decide) dX8_copy_67 ?_
                refine J_ltS (fun S14 _ => ?_)
                exact J_return rfl (Nat.le_refl _) (Nat.le_refl _) rfl dX8_copy_70
          · exact J_return rfl (Nat.le_refl _) (Nat.le_refl _) rfl dX8_copy_30
