theorem dX6_length_0 : decode cX6_length 0 = .ok (.aload_n 0, 1) := by decide +kernel
theorem dX6_length_1 : decode cX6_length 1 = .ok (.getfield 15, 3) := by decide +kernel
theorem dX6_length_4 : decode cX6_length 4 = .ok (.ireturn, 1) := by decide +kernel
set_option maxRecDepth 100000 in
set_option maxHeartbeats 4000000 in
theorem ct6_length (G : Gm) (t : Nat)  (a0 : Nat) (h0 : a0 ∈ ad6) (S : St) : Ct G YX6_length yX6_length 1 0 0 (fI t) (f6_length a0 S) [vR (some a0)] (MM t S) := by
  refine Ct_of_J [some (vR (some a0))] (by decide) rfl (fun h => by cases h) (Nat.le_of_ble_eq_true rfl) (And.intro rfl (trivial)) ?_
  unfold f6_length
  refine J_aload_n dX6_length_0 rfl rfl ?_
  refine K_getI cf6 flX6_15 (sq6_0 h0) (Or.inl rfl) dX6_length_1 ?_
  exact J_ireturn rfl (Nat.le_refl _) (Nat.le_refl _) rfl dX6_length_4
theorem dX6_orderAt_0 : decode cX6_orderAt 0 = .ok (.iload_n 1, 1) := by decide +kernel
theorem dX6_orderAt_1 : decode cX6_orderAt 1 = .ok (.ifCond .lt 29, 3) := by decide +kernel
theorem dX6_orderAt_4 : decode cX6_orderAt 4 = .ok (.iload_n 1, 1) := by decide +kernel
theorem dX6_orderAt_5 : decode cX6_orderAt 5 = .ok (.aload_n 0, 1) := by decide +kernel
theorem dX6_orderAt_6 : decode cX6_orderAt 6 = .ok (.getfield 15, 3) := by decide +kernel
theorem dX6_orderAt_9 : decode cX6_orderAt 9 = .ok (.if_icmp .ge 21, 3) := by decide +kernel
theorem dX6_orderAt_12 : decode cX6_orderAt 12 = .ok (.iload_n 1, 1) := by decide +kernel
theorem dX6_orderAt_13 : decode cX6_orderAt 13 = .ok (.aload_n 0, 1) := by decide +kernel
theorem dX6_orderAt_14 : decode cX6_orderAt 14 = .ok (.getfield 9, 3) := by decide +kernel
theorem dX6_orderAt_17 : decode cX6_orderAt 17 = .ok (.arraylength, 1) := by decide +kernel
theorem dX6_orderAt_18 : decode cX6_orderAt 18 = .ok (.if_icmp .ge 12, 3) := by decide +kernel
theorem dX6_orderAt_21 : decode cX6_orderAt 21 = .ok (.aload_n 0, 1) := by decide +kernel
theorem dX6_orderAt_22 : decode cX6_orderAt 22 = .ok (.getfield 9, 3) := by decide +kernel
theorem dX6_orderAt_25 : decode cX6_orderAt 25 = .ok (.iload_n 1, 1) := by decide +kernel
theorem dX6_orderAt_26 : decode cX6_orderAt 26 = .ok (.iaload, 1) := by decide +kernel
theorem dX6_orderAt_27 : decode cX6_orderAt 27 = .ok (.goto 4, 3) := by decide +kernel
theorem dX6_orderAt_30 : decode cX6_orderAt 30 = .ok (.iconst (-1), 1) := by decide +kernel
theorem dX6_orderAt_31 : decode cX6_orderAt 31 = .ok (.ireturn, 1) := by decide +kernel
set_option maxRecDepth 100000 in
set_option maxHeartbeats 4000000 in
theorem ct6_orderAt (G : Gm) (t : Nat)  (a0 : Nat) (x1 : Int32) (h0 : a0 ∈ ad6) (S : St) : Ct G YX6_orderAt yX6_orderAt 1 0 0 (fI t) (f6_orderAt a0 x1 S) [vR (some a0), vI x1] (MM t S) := by
  refine Ct_of_J [some (vR (some a0)), some (vI x1)] (by decide) rfl (fun h => by cases h) (Nat.le_of_ble_eq_true rfl) (And.intro rfl (And.intro rfl (trivial))) ?_
  unfold f6_orderAt
  refine J_iload_n dX6_orderAt_0 rfl rfl ?_
  refine J_if_lt (tgt := 30) dX6_orderAt_1 (by decide) (fun z1 => ?_) (fun z1 => ?_)
  · refine J_iconst (v := (-1)) dX6_orderAt_30 (by decide) ?_
    exact J_ireturn rfl (Nat.le_refl _) (Nat.le_refl _) rfl dX6_orderAt_31
  · refine J_iload_n dX6_orderAt_4 rfl rfl ?_
    refine J_aload_n dX6_orderAt_5 rfl rfl ?_
    refine K_getI cf6 flX6_15 (sq6_0 h0) (Or.inl rfl) dX6_orderAt_6 ?_
    refine J_icmp_ge (tgt := 30) dX6_orderAt_9 (by decide) (fun z2 => ?_) (fun z2 => ?_)
    · refine J_iconst (v := (-1)) dX6_orderAt_30 (by decide) ?_
      exact J_ireturn rfl (Nat.le_refl _) (Nat.le_refl _) rfl dX6_orderAt_31
    · refine J_iload_n dX6_orderAt_12 rfl rfl ?_
      refine J_aload_n dX6_orderAt_13 rfl rfl ?_
      refine K_getR (r := some (a0 + 1)) cf6 flX6_9 (sq6_0 h0) (rq6_0 h0) (Or.inr ⟨_, rfl⟩) dX6_orderAt_14 ?_
      refine K_alen (v := nI 12) (sq6_1 h0) (by decide) rfl dX6_orderAt_17 ?_
      refine J_icmp_ge (tgt := 30) dX6_orderAt_18 (by decide) (fun z3 => ?_) (fun z3 => ?_)
      · refine J_iconst (v := (-1)) dX6_orderAt_30 (by decide) ?_
        exact J_ireturn rfl (Nat.le_refl _) (Nat.le_refl _) rfl dX6_orderAt_31
      · refine J_aload_n dX6_orderAt_21 rfl rfl ?_
        refine K_getR (r := some (a0 + 1)) cf6 flX6_9 (sq6_0 h0) (rq6_0 h0) (Or.inr ⟨_, rfl⟩) dX6_orderAt_22 ?_
        refine J_iload_n dX6_orderAt_25 rfl rfl ?_
        refine K_iald (sq6_1 h0) dX6_orderAt_26 ?_
        refine J_goto (tgt := 31) dX6_orderAt_27 (by decide) ?_
        exact J_ireturn rfl (Nat.le_refl _) (Nat.le_refl _) rfl dX6_orderAt_31
theorem dX6_isClosed_0 : decode cX6_isClosed 0 = .ok (.aload_n 0, 1) := by decide +kernel
theorem dX6_isClosed_1 : decode cX6_isClosed 1 = .ok (.getfield 15, 3) := by decide +kernel
theorem dX6_isClosed_4 : decode cX6_isClosed 4 = .ok (.ifCond .le 20, 3) := by decide +kernel
theorem dX6_isClosed_7 : decode cX6_isClosed 7 = .ok (.aload_n 0, 1) := by decide +kernel
theorem dX6_isClosed_8 : decode cX6_isClosed 8 = .ok (.aload_n 0, 1) := by decide +kernel
theorem dX6_isClosed_9 : decode cX6_isClosed 9 = .ok (.getfield 15, 3) := by decide +kernel
theorem dX6_isClosed_12 : decode cX6_isClosed 12 = .ok (.iconst 1, 1) := by decide +kernel
theorem dX6_isClosed_13 : decode cX6_isClosed 13 = .ok (.isub, 1) := by decide +kernel
theorem dX6_isClosed_14 : decode cX6_isClosed 14 = .ok (.invokevirtual 19, 3) := by decide +kernel
theorem dX6_isClosed_17 : decode cX6_isClosed 17 = .ok (.ifCond .ne 7, 3) := by decide +kernel
theorem dX6_isClosed_20 : decode cX6_isClosed 20 = .ok (.iconst 1, 1) := by decide +kernel
theorem dX6_isClosed_21 : decode cX6_isClosed 21 = .ok (.goto 4, 3) := by decide +kernel
theorem dX6_isClosed_24 : decode cX6_isClosed 24 = .ok (.iconst 0, 1) := by decide +kernel
theorem dX6_isClosed_25 : decode cX6_isClosed 25 = .ok (.ireturn, 1) := by decide +kernel
set_option maxRecDepth 100000 in
set_option maxHeartbeats 4000000 in
theorem ct6_isClosed (G : Gm) (t : Nat)  (a0 : Nat) (h0 : a0 ∈ ad6) (S : St) : Ct G YX6_isClosed yX6_isClosed 2 0 0 (fI t) (f6_isClosed a0 S) [vR (some a0)] (MM t S) := by
  refine Ct_of_J [some (vR (some a0))] (by decide) rfl (fun h => by cases h) (Nat.le_of_ble_eq_true rfl) (And.intro rfl (trivial)) ?_
  unfold f6_isClosed
  refine J_aload_n dX6_isClosed_0 rfl rfl ?_
  refine K_getI cf6 flX6_15 (sq6_0 h0) (Or.inl rfl) dX6_isClosed_1 ?_
  refine J_if_le (tgt := 24) dX6_isClosed_4 (by decide) (fun z1 => ?_) (fun z1 => ?_)
  · refine J_iconst (v := nI 0) dX6_isClosed_24 (by decide) ?_
    exact J_zreturn (by decide) rfl (Nat.le_refl _) (Nat.le_refl _) rfl dX6_isClosed_25
  · refine J_aload_n dX6_isClosed_7 rfl rfl ?_
    refine J_aload_n dX6_isClosed_8 rfl rfl ?_
    refine K_getI cf6 flX6_15 (sq6_0 h0) (Or.inl rfl) dX6_isClosed_9 ?_
    refine J_iconst (v := nI 1) dX6_isClosed_12 (by decide) ?_
    refine J_isub dX6_isClosed_13 ?_
    refine K_callV_i (As := [vI ((S.1 a0 1) - (nI 1))]) mcX6_orderAt mlX6_19 rfl (by decide) (sq6_0 h0) (ct6_orderAt G t a0 ((S.1 a0 1) - (nI 1)) h0 S) rfl rfl (Nat.le_of_ble_eq_true rfl) (by decide) (Nat.le_of_ble_eq_true rfl) dX6_isClosed_14 (fun q2 S3 => ?_)
    refine J_if_ne (tgt := 24) dX6_isClosed_17 (by decide) (fun z4 => ?_) (fun z4 => ?_)
    · refine J_iconst (v := nI 1) dX6_isClosed_20 (by decide) ?_
      refine J_goto (tgt := 25) dX6_isClosed_21 (by decide) ?_
      exact J_zreturn (by decide) rfl (Nat.le_refl _) (Nat.le_refl _) rfl dX6_isClosed_25
    · refine J_iconst (v := nI 0) dX6_isClosed_24 (by decide) ?_
      exact J_zreturn (by decide) rfl (Nat.le_refl _) (Nat.le_refl _) rfl dX6_isClosed_25
theorem dX6_holds_0 : decode cX6_holds 0 = .ok (.iconst 0, 1) := by decide +kernel
theorem dX6_holds_1 : decode cX6_holds 1 = .ok (.istore_n 2, 1) := by decide +kernel
theorem dX6_holds_2 : decode cX6_holds 2 = .ok (.iload_n 2, 1) := by decide +kernel
theorem dX6_holds_3 : decode cX6_holds 3 = .ok (.aload_n 0, 1) := by decide +kernel
theorem dX6_holds_4 : decode cX6_holds 4 = .ok (.getfield 15, 3) := by decide +kernel
theorem dX6_holds_7 : decode cX6_holds 7 = .ok (.if_icmp .ge 20, 3) := by decide +kernel
theorem dX6_holds_10 : decode cX6_holds 10 = .ok (.aload_n 0, 1) := by decide +kernel
theorem dX6_holds_11 : decode cX6_holds 11 = .ok (.iload_n 2, 1) := by decide +kernel
theorem dX6_holds_12 : decode cX6_holds 12 = .ok (.invokevirtual 19, 3) := by decide +kernel
theorem dX6_holds_15 : decode cX6_holds 15 = .ok (.iload_n 1, 1) := by decide +kernel
theorem dX6_holds_16 : decode cX6_holds 16 = .ok (.if_icmp .ne 5, 3) := by decide +kernel
theorem dX6_holds_19 : decode cX6_holds 19 = .ok (.iconst 1, 1) := by decide +kernel
theorem dX6_holds_20 : decode cX6_holds 20 = .ok (.ireturn, 1) := by decide +kernel
theorem dX6_holds_21 : decode cX6_holds 21 = .ok (.iinc 2 1, 3) := by decide +kernel
theorem dX6_holds_24 : decode cX6_holds 24 = .ok (.goto (-22), 3) := by decide +kernel
theorem dX6_holds_27 : decode cX6_holds 27 = .ok (.iconst 0, 1) := by decide +kernel
theorem dX6_holds_28 : decode cX6_holds 28 = .ok (.ireturn, 1) := by decide +kernel
set_option maxRecDepth 100000 in
set_option maxHeartbeats 4000000 in
theorem t6_holds_h2 (G : Gm) (t : Nat) (N : Nat) (a0 : Nat) (x1 : Int32) (h0 : a0 ∈ ad6)   : ∀ (n : Nat) (x2 : Int32) (S : St), J G YX6_holds 2 0 0 (fI t) 0 0 2 [some (vR (some a0)), some (vI x1), some (vI x2)] [] (MM t S) (f6_holds_h2 N a0 x1 n x2 S) := by
  intro n
  induction n with
  | zero => intro x2 S; exact J_none
  | succ n ih =>
    intro x2 S
    rw [f6_holds_h2]
    refine J_iload_n dX6_holds_2 rfl rfl ?_
    refine J_aload_n dX6_holds_3 rfl rfl ?_
    refine K_getI cf6 flX6_15 (sq6_0 h0) (Or.inl rfl) dX6_holds_4 ?_
    refine J_icmp_ge (tgt := 27) dX6_holds_7 (by decide) (fun z1 => ?_) (fun z1 => ?_)
    · refine J_iconst (v := nI 0) dX6_holds_27 (by decide) ?_
      exact J_zreturn (by decide) rfl (Nat.le_refl _) (Nat.le_refl _) rfl dX6_holds_28
    · refine J_aload_n dX6_holds_10 rfl rfl ?_
      refine J_iload_n dX6_holds_11 rfl rfl ?_
      refine K_callV_i (As := [vI x2]) mcX6_orderAt mlX6_19 rfl (by decide) (sq6_0 h0) (ct6_orderAt G t a0 x2 h0 S) rfl rfl (Nat.le_of_ble_eq_true rfl) (by decide) (Nat.le_of_ble_eq_true rfl) dX6_holds_12 (fun q2 S3 => ?_)
      refine J_iload_n dX6_holds_15 rfl rfl ?_
      refine J_icmp_ne (tgt := 21) dX6_holds_16 (by decide) (fun z4 => ?_) (fun z4 => ?_)
      · refine J_iconst (v := nI 1) dX6_holds_19 (by decide) ?_
        exact J_zreturn (by decide) rfl (Nat.le_refl _) (Nat.le_refl _) rfl dX6_holds_20
      · refine J_iinc (v := x2 + nI 1) [some (vR (some a0)), some (vI x1), some (vI (x2 + nI 1))] dX6_holds_21 rfl rfl (Nat.le_of_ble_eq_true rfl) rfl rfl ?_
        refine J_goto (tgt := 2) dX6_holds_24 (by decide) ?_
        exact J_sb (ih (x2 + nI 1) S3) (And.intro rfl (And.intro rfl (And.intro rfl (trivial))))
set_option maxRecDepth 100000 in
set_option maxHeartbeats 4000000 in
theorem ct6_holds (G : Gm) (t : Nat) (N : Nat) (a0 : Nat) (x1 : Int32) (h0 : a0 ∈ ad6) (S : St) : Ct G YX6_holds yX6_holds 2 0 0 (fI t) (f6_holds N a0 x1 S) [vR (some a0), vI x1] (MM t S) := by
  refine Ct_of_J [some (vR (some a0)), some (vI x1), none] (by decide) rfl (fun h => by cases h) (Nat.le_of_ble_eq_true rfl) (And.intro rfl (And.intro rfl (trivial))) ?_
  unfold f6_holds
  refine J_iconst (v := nI 0) dX6_holds_0 (by decide) ?_
  refine J_istore_n [some (vR (some a0)), some (vI x1), some (vI (nI 0))] dX6_holds_1 rfl (Nat.le_of_ble_eq_true rfl) rfl rfl ?_
  exact J_sb (t6_holds_h2 G t N a0 x1 h0 N (nI 0) S) (And.intro rfl (And.intro rfl (And.intro rfl (trivial))))
theorem dX6_push_0 : decode cX6_push 0 = .ok (.aload_n 0, 1) := by decide +kernel
theorem dX6_push_1 : decode cX6_push 1 = .ok (.getfield 15, 3) := by decide +kernel
theorem dX6_push_4 : decode cX6_push 4 = .ok (.aload_n 0, 1) := by decide +kernel
theorem dX6_push_5 : decode cX6_push 5 = .ok (.getfield 9, 3) := by decide +kernel
theorem dX6_push_8 : decode cX6_push 8 = .ok (.arraylength, 1) := by decide +kernel
theorem dX6_push_9 : decode cX6_push 9 = .ok (.if_icmp .lt 5, 3) := by decide +kernel
theorem dX6_push_12 : decode cX6_push 12 = .ok (.iconst 0, 1) := by decide +kernel
theorem dX6_push_13 : decode cX6_push 13 = .ok (.ireturn, 1) := by decide +kernel
theorem dX6_push_14 : decode cX6_push 14 = .ok (.aload_n 0, 1) := by decide +kernel
theorem dX6_push_15 : decode cX6_push 15 = .ok (.getfield 9, 3) := by decide +kernel
theorem dX6_push_18 : decode cX6_push 18 = .ok (.aload_n 0, 1) := by decide +kernel
theorem dX6_push_19 : decode cX6_push 19 = .ok (.getfield 15, 3) := by decide +kernel
theorem dX6_push_22 : decode cX6_push 22 = .ok (.iload_n 1, 1) := by decide +kernel
theorem dX6_push_23 : decode cX6_push 23 = .ok (.iastore, 1) := by decide +kernel
theorem dX6_push_24 : decode cX6_push 24 = .ok (.aload_n 0, 1) := by decide +kernel
theorem dX6_push_25 : decode cX6_push 25 = .ok (.dup, 1) := by decide +kernel
theorem dX6_push_26 : decode cX6_push 26 = .ok (.getfield 15, 3) := by decide +kernel
theorem dX6_push_29 : decode cX6_push 29 = .ok (.iconst 1, 1) := by decide +kernel
theorem dX6_push_30 : decode cX6_push 30 = .ok (.iadd, 1) := by decide +kernel
theorem dX6_push_31 : decode cX6_push 31 = .ok (.putfield 15, 3) := by decide +kernel
theorem dX6_push_34 : decode cX6_push 34 = .ok (.iconst 1, 1) := by decide +kernel
theorem dX6_push_35 : decode cX6_push 35 = .ok (.ireturn, 1) := by decide +kernel
set_option maxRecDepth 100000 in
set_option maxHeartbeats 4000000 in
theorem ct6_push (G : Gm) (t : Nat)  (a0 : Nat) (x1 : Int32) (h0 : a0 ∈ ad6) (S : St) : Ct G YX6_push yX6_push 1 0 0 (fI t) (f6_push a0 x1 S) [vR (some a0), vI x1] (MM t S) := by
  refine Ct_of_J [some (vR (some a0)), some (vI x1)] (by decide) rfl (fun h => by cases h) (Nat.le_of_ble_eq_true rfl) (And.intro rfl (And.intro rfl (trivial))) ?_
  unfold f6_push
  refine J_aload_n dX6_push_0 rfl rfl ?_
  refine K_getI cf6 flX6_15 (sq6_0 h0) (Or.inl rfl) dX6_push_1 ?_
  refine J_aload_n dX6_push_4 rfl rfl ?_
  refine K_getR (r := some (a0 + 1)) cf6 flX6_9 (sq6_0 h0) (rq6_0 h0) (Or.inr ⟨_, rfl⟩) dX6_push_5 ?_
  refine K_alen (v := nI 12) (sq6_1 h0) (by decide) rfl dX6_push_8 ?_
  refine J_icmp_lt (tgt := 14) dX6_push_9 (by decide) (fun z1 => ?_) (fun z1 => ?_)
  · refine J_aload_n dX6_push_14 rfl rfl ?_
    refine K_getR (r := some (a0 + 1)) cf6 flX6_9 (sq6_0 h0) (rq6_0 h0) (Or.inr ⟨_, rfl⟩) dX6_push_15 ?_
    refine J_aload_n dX6_push_18 rfl rfl ?_
    refine K_getI cf6 flX6_15 (sq6_0 h0) (Or.inl rfl) dX6_push_19 ?_
    refine J_iload_n dX6_push_22 rfl rfl ?_
    refine K_iast (sq6_1 h0) dX6_push_23 ?_
    refine J_ltS (fun S2 _ => ?_)
    refine J_aload_n dX6_push_24 rfl rfl ?_
    refine J_dup dX6_push_25 rfl ?_
    refine K_getI cf6 flX6_15 (sq6_0 h0) (Or.inl rfl) dX6_push_26 ?_
    refine J_iconst (v := nI 1) dX6_push_29 (by decide) ?_
    refine J_iadd dX6_push_30 ?_
    refine K_putI cf6 flX6_15 (sq6_0 h0) rfl dX6_push_31 ?_
    refine J_ltS (fun S3 _ => ?_)
    refine J_iconst (v := nI 1) dX6_push_34 (by decide) ?_
    exact J_zreturn (by decide) rfl (Nat.le_refl _) (Nat.le_refl _) rfl dX6_push_35
  · refine J_iconst (v := nI 0) dX6_push_12 (by decide) ?_
    exact J_zreturn (by decide) rfl (Nat.le_refl _) (Nat.le_refl _) rfl dX6_push_13
theorem dX6_cut_0 : decode cX6_cut 0 = .ok (.iload_n 1, 1) := by decide +kernel
theorem dX6_cut_1 : decode cX6_cut 1 = .ok (.ifCond .lt 16, 3) := by decide +kernel
theorem dX6_cut_4 : decode cX6_cut 4 = .ok (.iload_n 1, 1) := by decide +kernel
theorem dX6_cut_5 : decode cX6_cut 5 = .ok (.aload_n 0, 1) := by decide +kernel
theorem dX6_cut_6 : decode cX6_cut 6 = .ok (.getfield 15, 3) := by decide +kernel
theorem dX6_cut_9 : decode cX6_cut 9 = .ok (.if_icmp .ge 8, 3) := by decide +kernel
theorem dX6_cut_12 : decode cX6_cut 12 = .ok (.aload_n 0, 1) := by decide +kernel
theorem dX6_cut_13 : decode cX6_cut 13 = .ok (.iload_n 1, 1) := by decide +kernel
theorem dX6_cut_14 : decode cX6_cut 14 = .ok (.putfield 15, 3) := by decide +kernel
theorem dX6_cut_17 : decode cX6_cut 17 = .ok (.return_, 1) := by decide +kernel
set_option maxRecDepth 100000 in
set_option maxHeartbeats 4000000 in
theorem ct6_cut (G : Gm) (t : Nat)  (a0 : Nat) (x1 : Int32) (h0 : a0 ∈ ad6) (S : St) : Ct G YX6_cut yX6_cut 1 0 0 (fV t) (f6_cut a0 x1 S) [vR (some a0), vI x1] (MM t S) := by
  refine Ct_of_J [some (vR (some a0)), some (vI x1)] (by decide) rfl (fun h => by cases h) (Nat.le_of_ble_eq_true rfl) (And.intro rfl (And.intro rfl (trivial))) ?_
  unfold f6_cut
  refine J_iload_n dX6_cut_0 rfl rfl ?_
  refine J_if_lt (tgt := 17) dX6_cut_1 (by decide) (fun z1 => ?_) (fun z1 => ?_)
  · exact J_return rfl (Nat.le_refl _) (Nat.le_refl _) rfl dX6_cut_17
  · refine J_iload_n dX6_cut_4 rfl rfl ?_
    refine J_aload_n dX6_cut_5 rfl rfl ?_
    refine K_getI cf6 flX6_15 (sq6_0 h0) (Or.inl rfl) dX6_cut_6 ?_
    refine J_icmp_ge (tgt := 17) dX6_cut_9 (by decide) (fun z2 => ?_) (fun z2 => ?_)
    · exact J_return rfl (Nat.le_refl _) (Nat.le_refl _) rfl dX6_cut_17
    · refine J_aload_n dX6_cut_12 rfl rfl ?_
      refine J_iload_n dX6_cut_13 rfl rfl ?_
      refine K_putI cf6 flX6_15 (sq6_0 h0) rfl dX6_cut_14 ?_
      refine J_ltS (fun S3 _ => ?_)
      exact J_return rfl (Nat.le_refl _) (Nat.le_refl _) rfl dX6_cut_17
theorem dX6_beEmpty_0 : decode cX6_beEmpty 0 = .ok (.aload_n 0, 1) := by decide +kernel
theorem dX6_beEmpty_1 : decode cX6_beEmpty 1 = .ok (.iconst 0, 1) := by decide +kernel
theorem dX6_beEmpty_2 : decode cX6_beEmpty 2 = .ok (.putfield 15, 3) := by decide +kernel
theorem dX6_beEmpty_5 : decode cX6_beEmpty 5 = .ok (.return_, 1) := by decide +kernel
set_option maxRecDepth 100000 in
set_option maxHeartbeats 4000000 in
theorem ct6_beEmpty (G : Gm) (t : Nat)  (a0 : Nat) (h0 : a0 ∈ ad6) (S : St) : Ct G YX6_beEmpty yX6_beEmpty 1 0 0 (fV t) (f6_beEmpty a0 S) [vR (some a0)] (MM t S) := by
  refine Ct_of_J [some (vR (some a0))] (by decide) rfl (fun h => by cases h) (Nat.le_of_ble_eq_true rfl) (And.intro rfl (trivial)) ?_
  unfold f6_beEmpty
  refine J_aload_n dX6_beEmpty_0 rfl rfl ?_
  refine J_iconst (v := nI 0) dX6_beEmpty_1 (by decide) ?_
  refine K_putI cf6 flX6_15 (sq6_0 h0) rfl dX6_beEmpty_2 ?_
  refine J_ltS (fun S1 _ => ?_)
  exact J_return rfl (Nat.le_refl _) (Nat.le_refl _) rfl dX6_beEmpty_5
theorem dX6_become_0 : decode cX6_become 0 = .ok (.aload_n 1, 1) := by decide +kernel
theorem dX6_become_1 : decode cX6_become 1 = .ok (.getfield 9, 3) := by decide +kernel
theorem dX6_become_4 : decode cX6_become 4 = .ok (.iconst 0, 1) := by decide +kernel
theorem dX6_become_5 : decode cX6_become 5 = .ok (.aload_n 0, 1) := by decide +kernel
theorem dX6_become_6 : decode cX6_become 6 = .ok (.getfield 9, 3) := by decide +kernel
theorem dX6_become_9 : decode cX6_become 9 = .ok (.iconst 0, 1) := by decide +kernel
theorem dX6_become_10 : decode cX6_become 10 = .ok (.aload_n 0, 1) := by decide +kernel
theorem dX6_become_11 : decode cX6_become 11 = .ok (.getfield 9, 3) := by decide +kernel
theorem dX6_become_14 : decode cX6_become 14 = .ok (.arraylength, 1) := by decide +kernel
theorem dX6_become_15 : decode cX6_become 15 = .ok (.invokestatic 23, 3) := by decide +kernel
theorem dX6_become_18 : decode cX6_become 18 = .ok (.aload_n 0, 1) := by decide +kernel
theorem dX6_become_19 : decode cX6_become 19 = .ok (.aload_n 1, 1) := by decide +kernel
theorem dX6_become_20 : decode cX6_become 20 = .ok (.getfield 15, 3) := by decide +kernel
theorem dX6_become_23 : decode cX6_become 23 = .ok (.putfield 15, 3) := by decide +kernel
theorem dX6_become_26 : decode cX6_become 26 = .ok (.return_, 1) := by decide +kernel
set_option maxRecDepth 100000 in
set_option maxHeartbeats 4000000 in
theorem ct6_become (G : Gm) (t : Nat)  (a0 : Nat) (a1 : Nat) (h0 : a0 ∈ ad6) (h1 : a1 ∈ ad6) (S : St) : Ct G YX6_become yX6_become 1 0 0 (fV t) (f6_become a0 a1 S) [vR (some a0), vR (some a1)] (MM t S) := by
  refine Ct_of_J [some (vR (some a0)), some (vR (some a1))] (by decide) rfl (fun h => by cases h) (Nat.le_of_ble_eq_true rfl) (And.intro rfl (And.intro rfl (trivial))) ?_
  unfold f6_become
  refine J_aload_n dX6_become_0 rfl rfl ?_
  refine K_getR (r := some (a1 + 1)) cf6 flX6_9 (sq6_0 h1) (rq6_0 h1) (Or.inr ⟨_, rfl⟩) dX6_become_1 ?_
  refine J_iconst (v := nI 0) dX6_become_4 (by decide) ?_
  refine J_aload_n dX6_become_5 rfl rfl ?_
  refine K_getR (r := some (a0 + 1)) cf6 flX6_9 (sq6_0 h0) (rq6_0 h0) (Or.inr ⟨_, rfl⟩) dX6_become_6 ?_
  refine J_iconst (v := nI 0) dX6_become_9 (by decide) ?_
  refine J_aload_n dX6_become_10 rfl rfl ?_
  refine K_getR (r := some (a0 + 1)) cf6 flX6_9 (sq6_0 h0) (rq6_0 h0) (Or.inr ⟨_, rfl⟩) dX6_become_11 ?_
  refine K_alen (v := nI 12) (sq6_1 h0) (by decide) rfl dX6_become_14 ?_
  refine K_copyI (sq6_1 h1) (sq6_1 h0) wlX6_23 (Nat.le_of_ble_eq_true rfl) (by decide) dX6_become_15 ?_
  refine J_ltS (fun S1 _ => ?_)
  refine J_aload_n dX6_become_18 rfl rfl ?_
  refine J_aload_n dX6_become_19 rfl rfl ?_
  refine K_getI cf6 flX6_15 (sq6_0 h1) (Or.inl rfl) dX6_become_20 ?_
  refine K_putI cf6 flX6_15 (sq6_0 h0) rfl dX6_become_23 ?_
  refine J_ltS (fun S2 _ => ?_)
  exact J_return rfl (Nat.le_refl _) (Nat.le_refl _) rfl dX6_become_26
theorem dX10_length_0 : decode cX10_length 0 = .ok (.aload_n 0, 1) := by decide +kernel
theorem dX10_length_1 : decode cX10_length 1 = .ok (.getfield 15, 3) := by decide +kernel
theorem dX10_length_4 : decode cX10_length 4 = .ok (.ireturn, 1) := by decide +kernel
set_option maxRecDepth 100000 in
set_option maxHeartbeats 4000000 in
theorem ct10_length (G : Gm) (t : Nat)    (S : St) : Ct G YX10_length yX10_length 1 0 0 (fI t) (f10_length S) [vR (some 24)] (MM t S) := by
  refine Ct_of_J [some (vR (some 24))] (by decide) rfl (fun h => by cases h) (Nat.le_of_ble_eq_true rfl) (And.intro rfl (trivial)) ?_
  unfold f10_length
  refine J_aload_n dX10_length_0 rfl rfl ?_
  refine K_getI cf10 flX10_15 (sq 24 rfl) (Or.inl rfl) dX10_length_1 ?_
  exact J_ireturn rfl (Nat.le_refl _) (Nat.le_refl _) rfl dX10_length_4
theorem dX10_numberAt_0 : decode cX10_numberAt 0 = .ok (.iload_n 1, 1) := by decide +kernel
theorem dX10_numberAt_1 : decode cX10_numberAt 1 = .ok (.ifCond .lt 29, 3) := by decide +kernel
theorem dX10_numberAt_4 : decode cX10_numberAt 4 = .ok (.iload_n 1, 1) := by decide +kernel
theorem dX10_numberAt_5 : decode cX10_numberAt 5 = .ok (.aload_n 0, 1) := by decide +kernel
theorem dX10_numberAt_6 : decode cX10_numberAt 6 = .ok (.getfield 15, 3) := by decide +kernel
theorem dX10_numberAt_9 : decode cX10_numberAt 9 = .ok (.if_icmp .ge 21, 3) := by decide +kernel
theorem dX10_numberAt_12 : decode cX10_numberAt 12 = .ok (.iload_n 1, 1) := by decide +kernel
theorem dX10_numberAt_13 : decode cX10_numberAt 13 = .ok (.aload_n 0, 1) := by decide +kernel
theorem dX10_numberAt_14 : decode cX10_numberAt 14 = .ok (.getfield 9, 3) := by decide +kernel
theorem dX10_numberAt_17 : decode cX10_numberAt 17 = .ok (.arraylength, 1) := by decide +kernel
theorem dX10_numberAt_18 : decode cX10_numberAt 18 = .ok (.if_icmp .ge 12, 3) := by decide +kernel
theorem dX10_numberAt_21 : decode cX10_numberAt 21 = .ok (.aload_n 0, 1) := by decide +kernel
theorem dX10_numberAt_22 : decode cX10_numberAt 22 = .ok (.getfield 9, 3) := by decide +kernel
theorem dX10_numberAt_25 : decode cX10_numberAt 25 = .ok (.iload_n 1, 1) := by decide +kernel
theorem dX10_numberAt_26 : decode cX10_numberAt 26 = .ok (.iaload, 1) := by decide +kernel
theorem dX10_numberAt_27 : decode cX10_numberAt 27 = .ok (.goto 4, 3) := by decide +kernel
theorem dX10_numberAt_30 : decode cX10_numberAt 30 = .ok (.iconst (-1), 1) := by decide +kernel
theorem dX10_numberAt_31 : decode cX10_numberAt 31 = .ok (.ireturn, 1) := by decide +kernel
set_option maxRecDepth 100000 in
set_option maxHeartbeats 4000000 in
theorem ct10_numberAt (G : Gm) (t : Nat)  (x1 : Int32)  (S : St) : Ct G YX10_numberAt yX10_numberAt 1 0 0 (fI t) (f10_numberAt x1 S) [vR (some 24), vI x1] (MM t S) := by
  refine Ct_of_J [some (vR (some 24)), some (vI x1)] (by decide) rfl (fun h => by cases h) (Nat.le_of_ble_eq_true rfl) (And.intro rfl (And.intro rfl (trivial))) ?_
  unfold f10_numberAt
  refine J_iload_n dX10_numberAt_0 rfl rfl ?_
  refine J_if_lt (tgt := 30) dX10_numberAt_1 (by decide) (fun z1 => ?_) (fun z1 => ?_)
  · refine J_iconst (v := (-1)) dX10_numberAt_30 (by decide) ?_
    exact J_ireturn rfl (Nat.le_refl _) (Nat.le_refl _) rfl dX10_numberAt_31
  · refine J_iload_n dX10_numberAt_4 rfl rfl ?_
    refine J_aload_n dX10_numberAt_5 rfl rfl ?_
    refine K_getI cf10 flX10_15 (sq 24 rfl) (Or.inl rfl) dX10_numberAt_6 ?_
    refine J_icmp_ge (tgt := 30) dX10_numberAt_9 (by decide) (fun z2 => ?_) (fun z2 => ?_)
    · refine J_iconst (v := (-1)) dX10_numberAt_30 (by decide) ?_
      exact J_ireturn rfl (Nat.le_refl _) (Nat.le_refl _) rfl dX10_numberAt_31
    · refine J_iload_n dX10_numberAt_12 rfl rfl ?_
      refine J_aload_n dX10_numberAt_13 rfl rfl ?_
      refine K_getR (r := some (25)) cf10 flX10_9 (sq 24 rfl) rfl (Or.inr ⟨_, rfl⟩) dX10_numberAt_14 ?_
      refine K_alen (v := nI 8) (sq 25 rfl) (by decide) rfl dX10_numberAt_17 ?_
      refine J_icmp_ge (tgt := 30) dX10_numberAt_18 (by decide) (fun z3 => ?_) (fun z3 => ?_)
      · refine J_iconst (v := (-1)) dX10_numberAt_30 (by decide) ?_
        exact J_ireturn rfl (Nat.le_refl _) (Nat.le_refl _) rfl dX10_numberAt_31
      · refine J_aload_n dX10_numberAt_21 rfl rfl ?_
        refine K_getR (r := some (25)) cf10 flX10_9 (sq 24 rfl) rfl (Or.inr ⟨_, rfl⟩) dX10_numberAt_22 ?_
        refine J_iload_n dX10_numberAt_25 rfl rfl ?_
        refine K_iald (sq 25 rfl) dX10_numberAt_26 ?_
        refine J_goto (tgt := 31) dX10_numberAt_27 (by decide) ?_
        exact J_ireturn rfl (Nat.le_refl _) (Nat.le_refl _) rfl dX10_numberAt_31
theorem dX10_push_0 : decode cX10_push 0 = .ok (.aload_n 0, 1) := by decide +kernel
theorem dX10_push_1 : decode cX10_push 1 = .ok (.getfield 15, 3) := by decide +kernel
theorem dX10_push_4 : decode cX10_push 4 = .ok (.aload_n 0, 1) := by decide +kernel
theorem dX10_push_5 : decode cX10_push 5 = .ok (.getfield 9, 3) := by decide +kernel
theorem dX10_push_8 : decode cX10_push 8 = .ok (.arraylength, 1) := by decide +kernel
theorem dX10_push_9 : decode cX10_push 9 = .ok (.if_icmp .lt 5, 3) := by decide +kernel
theorem dX10_push_12 : decode cX10_push 12 = .ok (.iconst 0, 1) := by decide +kernel
theorem dX10_push_13 : decode cX10_push 13 = .ok (.ireturn, 1) := by decide +kernel
theorem dX10_push_14 : decode cX10_push 14 = .ok (.aload_n 0, 1) := by decide +kernel
theorem dX10_push_15 : decode cX10_push 15 = .ok (.getfield 9, 3) := by decide +kernel
theorem dX10_push_18 : decode cX10_push 18 = .ok (.aload_n 0, 1) := by decide +kernel
theorem dX10_push_19 : decode cX10_push 19 = .ok (.getfield 15, 3) := by decide +kernel
theorem dX10_push_22 : decode cX10_push 22 = .ok (.iload_n 1, 1) := by decide +kernel
theorem dX10_push_23 : decode cX10_push 23 = .ok (.iastore, 1) := by decide +kernel
theorem dX10_push_24 : decode cX10_push 24 = .ok (.aload_n 0, 1) := by decide +kernel
theorem dX10_push_25 : decode cX10_push 25 = .ok (.dup, 1) := by decide +kernel
theorem dX10_push_26 : decode cX10_push 26 = .ok (.getfield 15, 3) := by decide +kernel
theorem dX10_push_29 : decode cX10_push 29 = .ok (.iconst 1, 1) := by decide +kernel
theorem dX10_push_30 : decode cX10_push 30 = .ok (.iadd, 1) := by decide +kernel
theorem dX10_push_31 : decode cX10_push 31 = .ok (.putfield 15, 3) := by decide +kernel
theorem dX10_push_34 : decode cX10_push 34 = .ok (.iconst 1, 1) := by decide +kernel
theorem dX10_push_35 : decode cX10_push 35 = .ok (.ireturn, 1) := by decide +kernel
set_option maxRecDepth 100000 in
set_option maxHeartbeats 4000000 in
theorem ct10_push (G : Gm) (t : Nat)  (x1 : Int32)  (S : St) : Ct G YX10_push yX10_push 1 0 0 (fI t) (f10_push x1 S) [vR (some 24), vI x1] (MM t S) := by
  refine Ct_of_J [some (vR (some 24)), some (vI x1)] (by decide) rfl (fun h => by cases h) (Nat.le_of_ble_eq_true rfl) (And.intro rfl (And.intro rfl (trivial))) ?_
  unfold f10_push
  refine J_aload_n dX10_push_0 rfl rfl ?_
  refine K_getI cf10 flX10_15 (sq 24 rfl) (Or.inl rfl) dX10_push_1 ?_
  refine J_aload_n dX10_push_4 rfl rfl ?_
  refine K_getR (r := some (25)) cf10 flX10_9 (sq 24 rfl) rfl (Or.inr ⟨_, rfl⟩) dX10_push_5 ?_
  refine K_alen (v := nI 8) (sq 25 rfl) (by decide) rfl dX10_push_8 ?_
  refine J_icmp_lt (tgt := 14) dX10_push_9 (by decide) (fun z1 => ?_) (fun z1 => ?_)
  · refine J_aload_n dX10_push_14 rfl rfl ?_
    refine K_getR (r := some (25)) cf10 flX10_9 (sq 24 rfl) rfl (Or.inr ⟨_, rfl⟩) dX10_push_15 ?_
    refine J_aload_n dX10_push_18 rfl rfl ?_
    refine K_getI cf10 flX10_15 (sq 24 rfl) (Or.inl rfl) dX10_push_19 ?_
    refine J_iload_n dX10_push_22 rfl rfl ?_
    refine K_iast (sq 25 rfl) dX10_push_23 ?_
    refine J_ltS (fun S2 _ => ?_)
    refine J_aload_n dX10_push_24 rfl rfl ?_
    refine J_dup dX10_push_25 rfl ?_
    refine K_getI cf10 flX10_15 (sq 24 rfl) (Or.inl rfl) dX10_push_26 ?_
    refine J_iconst (v := nI 1) dX10_push_29 (by decide) ?_
    refine J_iadd dX10_push_30 ?_
    refine K_putI cf10 flX10_15 (sq 24 rfl) rfl dX10_push_31 ?_
    refine J_ltS (fun S3 _ => ?_)
    refine J_iconst (v := nI 1) dX10_push_34 (by decide) ?_
    exact J_zreturn (by decide) rfl (Nat.le_refl _) (Nat.le_refl _) rfl dX10_push_35
  · refine J_iconst (v := nI 0) dX10_push_12 (by decide) ?_
    exact J_zreturn (by decide) rfl (Nat.le_refl _) (Nat.le_refl _) rfl dX10_push_13
theorem dX10_beEmpty_0 : decode cX10_beEmpty 0 = .ok (.aload_n 0, 1) := by decide +kernel
theorem dX10_beEmpty_1 : decode cX10_beEmpty 1 = .ok (.iconst 0, 1) := by decide +kernel
theorem dX10_beEmpty_2 : decode cX10_beEmpty 2 = .ok (.putfield 15, 3) := by decide +kernel
theorem dX10_beEmpty_5 : decode cX10_beEmpty 5 = .ok (.return_, 1) := by decide +kernel
set_option maxRecDepth 100000 in
set_option maxHeartbeats 4000000 in
theorem ct10_beEmpty (G : Gm) (t : Nat)    (S : St) : Ct G YX10_beEmpty yX10_beEmpty 1 0 0 (fV t) (f10_beEmpty S) [vR (some 24)] (MM t S) := by
  refine Ct_of_J [some (vR (some 24))] (by decide) rfl (fun h => by cases h) (Nat.le_of_ble_eq_true rfl) (And.intro rfl (trivial)) ?_
  unfold f10_beEmpty
  refine J_aload_n dX10_beEmpty_0 rfl rfl ?_
  refine J_iconst (v := nI 0) dX10_beEmpty_1 (by decide) ?_
  refine K_putI cf10 flX10_15 (sq 24 rfl) rfl dX10_beEmpty_2 ?_
  refine J_ltS (fun S1 _ => ?_)
  exact J_return rfl (Nat.le_refl _) (Nat.le_refl _) rfl dX10_beEmpty_5
