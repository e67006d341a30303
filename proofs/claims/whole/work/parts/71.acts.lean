theorem dX0_kindOf_0 : decode cX0_kindOf 0 = .ok (.iload_n 0, 1) := by decide +kernel
theorem dX0_kindOf_1 : decode cX0_kindOf 1 = .ok (.tableswitch 57 0 7 #[47, 49, 49, 51, 53, 49, 55, 55], 47) := by decide +kernel
theorem dX0_kindOf_48 : decode cX0_kindOf 48 = .ok (.iconst 1, 1) := by decide +kernel
theorem dX0_kindOf_49 : decode cX0_kindOf 49 = .ok (.ireturn, 1) := by decide +kernel
theorem dX0_kindOf_50 : decode cX0_kindOf 50 = .ok (.iconst 2, 1) := by decide +kernel
theorem dX0_kindOf_51 : decode cX0_kindOf 51 = .ok (.ireturn, 1) := by decide +kernel
theorem dX0_kindOf_52 : decode cX0_kindOf 52 = .ok (.iconst 3, 1) := by decide +kernel
theorem dX0_kindOf_53 : decode cX0_kindOf 53 = .ok (.ireturn, 1) := by decide +kernel
theorem dX0_kindOf_54 : decode cX0_kindOf 54 = .ok (.iconst 4, 1) := by decide +kernel
theorem dX0_kindOf_55 : decode cX0_kindOf 55 = .ok (.ireturn, 1) := by decide +kernel
theorem dX0_kindOf_56 : decode cX0_kindOf 56 = .ok (.iconst 5, 1) := by decide +kernel
theorem dX0_kindOf_57 : decode cX0_kindOf 57 = .ok (.ireturn, 1) := by decide +kernel
theorem dX0_kindOf_58 : decode cX0_kindOf 58 = .ok (.bipush 6, 2) := by decide +kernel
theorem dX0_kindOf_60 : decode cX0_kindOf 60 = .ok (.ireturn, 1) := by decide +kernel
set_option maxRecDepth 100000 in
set_option maxHeartbeats 4000000 in
theorem ct0_kindOf (G : Gm) (t : Nat)  (x0 : Int32)  (S : St) : Ct G YX0_kindOf yX0_kindOf 1 0 0 (fI t) (f0_kindOf x0 S) [vI x0] (MM t S) := by
  refine Ct_of_J [some (vI x0)] (by decide) rfl (fun h => by cases h) (Nat.le_of_ble_eq_true rfl) (And.intro rfl (trivial)) ?_
  unfold f0_kindOf
  refine J_iload_n dX0_kindOf_0 rfl rfl ?_
  refine J_table (td := 58) _ dX0_kindOf_1 (fun z h1 h2 => cov_of (lo := (0)) (N := 8) (ks := [nI 0, nI 1, nI 2, nI 3, nI 4, nI 5, nI 6, nI 7]) (by decide) z h1 (by omega)) ?_ (by decide) ?_
  · refine List.forall_mem_cons.mpr ⟨tb_mk (o := 47) (tgt := 48) (by decide) (fun _ => ?_), ?_⟩
    · refine J_iconst (v := nI 1) dX0_kindOf_48 (by decide) ?_
      exact J_ireturn rfl (Nat.le_refl _) (Nat.le_refl _) rfl dX0_kindOf_49
    · refine List.forall_mem_cons.mpr ⟨tb_mk (o := 49) (tgt := 50) (by decide) (fun _ => ?_), ?_⟩
      · refine J_iconst (v := nI 2) dX0_kindOf_50 (by decide) ?_
        exact J_ireturn rfl (Nat.le_refl _) (Nat.le_refl _) rfl dX0_kindOf_51
      · refine List.forall_mem_cons.mpr ⟨tb_mk (o := 49) (tgt := 50) (by decide) (fun _ => ?_), ?_⟩
        · refine J_iconst (v := nI 2) dX0_kindOf_50 (by decide) ?_
          exact J_ireturn rfl (Nat.le_refl _) (Nat.le_refl _) rfl dX0_kindOf_51
        · refine List.forall_mem_cons.mpr ⟨tb_mk (o := 51) (tgt := 52) (by decide) (fun _ => ?_), ?_⟩
          · refine J_iconst (v := nI 3) dX0_kindOf_52 (by decide) ?_
            exact J_ireturn rfl (Nat.le_refl _) (Nat.le_refl _) rfl dX0_kindOf_53
          · refine List.forall_mem_cons.mpr ⟨tb_mk (o := 53) (tgt := 54) (by decide) (fun _ => ?_), ?_⟩
            · refine J_iconst (v := nI 4) dX0_kindOf_54 (by decide) ?_
              exact J_ireturn rfl (Nat.le_refl _) (Nat.le_refl _) rfl dX0_kindOf_55
            · refine List.forall_mem_cons.mpr ⟨tb_mk (o := 49) (tgt := 50) (by decide) (fun _ => ?_), ?_⟩
              · refine J_iconst (v := nI 2) dX0_kindOf_50 (by decide) ?_
                exact J_ireturn rfl (Nat.le_refl _) (Nat.le_refl _) rfl dX0_kindOf_51
              · refine List.forall_mem_cons.mpr ⟨tb_mk (o := 55) (tgt := 56) (by decide) (fun _ => ?_), ?_⟩
                · refine J_iconst (v := nI 5) dX0_kindOf_56 (by decide) ?_
                  exact J_ireturn rfl (Nat.le_refl _) (Nat.le_refl _) rfl dX0_kindOf_57
                · refine List.forall_mem_cons.mpr ⟨tb_mk (o := 55) (tgt := 56) (by decide) (fun _ => ?_), ?_⟩
                  · refine J_iconst (v := nI 5) dX0_kindOf_56 (by decide) ?_
                    exact J_ireturn rfl (Nat.le_refl _) (Nat.le_refl _) rfl dX0_kindOf_57
                  · exact fun _ h => absurd h List.not_mem_nil
  · refine J_bipush (v := nI 6) dX0_kindOf_58 (by decide) ?_
    exact J_ireturn rfl (Nat.le_refl _) (Nat.le_refl _) rfl dX0_kindOf_60
theorem dX0_above_0 : decode cX0_above 0 = .ok (.iload_n 0, 1) := by decide +kernel
theorem dX0_above_1 : decode cX0_above 1 = .ok (.tableswitch 45 1 6 #[39, 39, 41, 41, 39, 43], 39) := by decide +kernel
theorem dX0_above_40 : decode cX0_above 40 = .ok (.iconst 0, 1) := by decide +kernel
theorem dX0_above_41 : decode cX0_above 41 = .ok (.ireturn, 1) := by decide +kernel
theorem dX0_above_42 : decode cX0_above 42 = .ok (.iconst 2, 1) := by decide +kernel
theorem dX0_above_43 : decode cX0_above 43 = .ok (.ireturn, 1) := by decide +kernel
theorem dX0_above_44 : decode cX0_above 44 = .ok (.iconst 5, 1) := by decide +kernel
theorem dX0_above_45 : decode cX0_above 45 = .ok (.ireturn, 1) := by decide +kernel
theorem dX0_above_46 : decode cX0_above 46 = .ok (.iconst (-1), 1) := by decide +kernel
theorem dX0_above_47 : decode cX0_above 47 = .ok (.ireturn, 1) := by decide +kernel
set_option maxRecDepth 100000 in
set_option maxHeartbeats 4000000 in
theorem ct0_above (G : Gm) (t : Nat)  (x0 : Int32)  (S : St) : Ct G YX0_above yX0_above 1 0 0 (fI t) (f0_above x0 S) [vI x0] (MM t S) := by
  refine Ct_of_J [some (vI x0)] (by decide) rfl (fun h => by cases h) (Nat.le_of_ble_eq_true rfl) (And.intro rfl (trivial)) ?_
  unfold f0_above
  refine J_iload_n dX0_above_0 rfl rfl ?_
  refine J_table (td := 46) _ dX0_above_1 (fun z h1 h2 => cov_of (lo := (1)) (N := 6) (ks := [nI 1, nI 2, nI 3, nI 4, nI 5, nI 6]) (by decide) z h1 (by omega)) ?_ (by decide) ?_
  · refine List.forall_mem_cons.mpr ⟨tb_mk (o := 39) (tgt := 40) (by decide) (fun _ => ?_), ?_⟩
    · refine J_iconst (v := nI 0) dX0_above_40 (by decide) ?_
      exact J_ireturn rfl (Nat.le_refl _) (Nat.le_refl _) rfl dX0_above_41
    · refine List.forall_mem_cons.mpr ⟨tb_mk (o := 39) (tgt := 40) (by decide) (fun _ => ?_), ?_⟩
      · refine J_iconst (v := nI 0) dX0_above_40 (by decide) ?_
        exact J_ireturn rfl (Nat.le_refl _) (Nat.le_refl _) rfl dX0_above_41
      · refine List.forall_mem_cons.mpr ⟨tb_mk (o := 41) (tgt := 42) (by decide) (fun _ => ?_), ?_⟩
        · refine J_iconst (v := nI 2) dX0_above_42 (by decide) ?_
          exact J_ireturn rfl (Nat.le_refl _) (Nat.le_refl _) rfl dX0_above_43
        · refine List.forall_mem_cons.mpr ⟨tb_mk (o := 41) (tgt := 42) (by decide) (fun _ => ?_), ?_⟩
          · refine J_iconst (v := nI 2) dX0_above_42 (by decide) ?_
            exact J_ireturn rfl (Nat.le_refl _) (Nat.le_refl _) rfl dX0_above_43
          · refine List.forall_mem_cons.mpr ⟨tb_mk (o := 39) (tgt := 40) (by decide) (fun _ => ?_), ?_⟩
            · refine J_iconst (v := nI 0) dX0_above_40 (by decide) ?_
              exact J_ireturn rfl (Nat.le_refl _) (Nat.le_refl _) rfl dX0_above_41
            · refine List.forall_mem_cons.mpr ⟨tb_mk (o := 43) (tgt := 44) (by decide) (fun _ => ?_), ?_⟩
              · refine J_iconst (v := nI 5) dX0_above_44 (by decide) ?_
                exact J_ireturn rfl (Nat.le_refl _) (Nat.le_refl _) rfl dX0_above_45
              · exact fun _ h => absurd h List.not_mem_nil
  · refine J_iconst (v := (-1)) dX0_above_46 (by decide) ?_
    exact J_ireturn rfl (Nat.le_refl _) (Nat.le_refl _) rfl dX0_above_47
theorem dX0_isUnder_0 : decode cX0_isUnder 0 = .ok (.iload_n 0, 1) := by decide +kernel
theorem dX0_isUnder_1 : decode cX0_isUnder 1 = .ok (.istore_n 2, 1) := by decide +kernel
theorem dX0_isUnder_2 : decode cX0_isUnder 2 = .ok (.iconst 0, 1) := by decide +kernel
theorem dX0_isUnder_3 : decode cX0_isUnder 3 = .ok (.istore_n 3, 1) := by decide +kernel
theorem dX0_isUnder_4 : decode cX0_isUnder 4 = .ok (.iload_n 3, 1) := by decide +kernel
theorem dX0_isUnder_5 : decode cX0_isUnder 5 = .ok (.bipush 7, 2) := by decide +kernel
theorem dX0_isUnder_7 : decode cX0_isUnder 7 = .ok (.if_icmp .ge 25, 3) := by decide +kernel
theorem dX0_isUnder_10 : decode cX0_isUnder 10 = .ok (.iload_n 2, 1) := by decide +kernel
theorem dX0_isUnder_11 : decode cX0_isUnder 11 = .ok (.ifCond .lt 21, 3) := by decide +kernel
theorem dX0_isUnder_14 : decode cX0_isUnder 14 = .ok (.iload_n 2, 1) := by decide +kernel
theorem dX0_isUnder_15 : decode cX0_isUnder 15 = .ok (.iload_n 1, 1) := by decide +kernel
theorem dX0_isUnder_16 : decode cX0_isUnder 16 = .ok (.if_icmp .ne 5, 3) := by decide +kernel
theorem dX0_isUnder_19 : decode cX0_isUnder 19 = .ok (.iconst 1, 1) := by decide +kernel
theorem dX0_isUnder_20 : decode cX0_isUnder 20 = .ok (.ireturn, 1) := by decide +kernel
theorem dX0_isUnder_21 : decode cX0_isUnder 21 = .ok (.iload_n 2, 1) := by decide +kernel
theorem dX0_isUnder_22 : decode cX0_isUnder 22 = .ok (.invokestatic 28, 3) := by decide +kernel
theorem dX0_isUnder_25 : decode cX0_isUnder 25 = .ok (.istore_n 2, 1) := by decide +kernel
theorem dX0_isUnder_26 : decode cX0_isUnder 26 = .ok (.iinc 3 1, 3) := by decide +kernel
theorem dX0_isUnder_29 : decode cX0_isUnder 29 = .ok (.goto (-25), 3) := by decide +kernel
theorem dX0_isUnder_32 : decode cX0_isUnder 32 = .ok (.iconst 0, 1) := by decide +kernel
theorem dX0_isUnder_33 : decode cX0_isUnder 33 = .ok (.ireturn, 1) := by decide +kernel
set_option maxRecDepth 100000 in
set_option maxHeartbeats 4000000 in
theorem t0_isUnder_h4 (G : Gm) (t : Nat) (N : Nat) (x1 : Int32)    : ∀ (n : Nat) (x2 : Int32) (x3 : Int32) (S : St), J G YX0_isUnder 2 0 0 (fI t) 0 0 4 [none, some (vI x1), some (vI x2), some (vI x3)] [] (MM t S) (f0_isUnder_h4 N x1 n x2 x3 S) := by
  intro n
  induction n with
  | zero => intro x2 x3 S; exact J_none
  | succ n ih =>
    intro x2 x3 S
    rw [f0_isUnder_h4]
    refine J_iload_n dX0_isUnder_4 rfl rfl ?_
    refine J_bipush (v := nI 7) dX0_isUnder_5 (by decide) ?_
    refine J_icmp_ge (tgt := 32) dX0_isUnder_7 (by decide) (fun z1 => ?_) (fun z1 => ?_)
    · refine J_iconst (v := nI 0) dX0_isUnder_32 (by decide) ?_
      exact J_zreturn (by decide) rfl (Nat.le_refl _) (Nat.le_refl _) rfl dX0_isUnder_33
    · refine J_iload_n dX0_isUnder_10 rfl rfl ?_
      refine J_if_lt (tgt := 32) dX0_isUnder_11 (by decide) (fun z2 => ?_) (fun z2 => ?_)
      · refine J_iconst (v := nI 0) dX0_isUnder_32 (by decide) ?_
        exact J_zreturn (by decide) rfl (Nat.le_refl _) (Nat.le_refl _) rfl dX0_isUnder_33
      · refine J_iload_n dX0_isUnder_14 rfl rfl ?_
        refine J_iload_n dX0_isUnder_15 rfl rfl ?_
        refine J_icmp_ne (tgt := 21) dX0_isUnder_16 (by decide) (fun z3 => ?_) (fun z3 => ?_)
        · refine J_iconst (v := nI 1) dX0_isUnder_19 (by decide) ?_
          exact J_zreturn (by decide) rfl (Nat.le_refl _) (Nat.le_refl _) rfl dX0_isUnder_20
        · refine J_iload_n dX0_isUnder_21 rfl rfl ?_
          refine K_callS_i (As := [vI x2]) mcX0_above mlX0_28 (ct0_above G t x2 S) rfl rfl (Nat.le_of_ble_eq_true rfl) (by decide) (Nat.le_of_ble_eq_true rfl) dX0_isUnder_22 (fun q4 S5 => ?_)
          refine J_istore_n [none, some (vI x1), some (vI q4), some (vI x3)] dX0_isUnder_25 rfl (Nat.le_of_ble_eq_true rfl) rfl rfl ?_
          refine J_iinc (v := x3 + nI 1) [none, some (vI x1), some (vI q4), some (vI (x3 + nI 1))] dX0_isUnder_26 rfl rfl (Nat.le_of_ble_eq_true rfl) rfl rfl ?_
          refine J_goto (tgt := 4) dX0_isUnder_29 (by decide) ?_
          exact J_sb (ih q4 (x3 + nI 1) S5) (And.intro rfl (And.intro rfl (And.intro rfl (trivial))))
set_option maxRecDepth 100000 in
set_option maxHeartbeats 4000000 in
theorem ct0_isUnder (G : Gm) (t : Nat) (N : Nat) (x0 : Int32) (x1 : Int32)  (S : St) : Ct G YX0_isUnder yX0_isUnder 2 0 0 (fI t) (f0_isUnder N x0 x1 S) [vI x0, vI x1] (MM t S) := by
  refine Ct_of_J [some (vI x0), some (vI x1), none, none] (by decide) rfl (fun h => by cases h) (Nat.le_of_ble_eq_true rfl) (And.intro rfl (And.intro rfl (trivial))) ?_
  unfold f0_isUnder
  refine J_iload_n dX0_isUnder_0 rfl rfl ?_
  refine J_istore_n [some (vI x0), some (vI x1), some (vI x0), none] dX0_isUnder_1 rfl (Nat.le_of_ble_eq_true rfl) rfl rfl ?_
  refine J_iconst (v := nI 0) dX0_isUnder_2 (by decide) ?_
  refine J_istore_n [some (vI x0), some (vI x1), some (vI x0), some (vI (nI 0))] dX0_isUnder_3 rfl (Nat.le_of_ble_eq_true rfl) rfl rfl ?_
  exact J_sb (t0_isUnder_h4 G t N x1 N x0 (nI 0) S) (And.intro rfl (And.intro rfl (And.intro rfl (trivial))))
theorem dX0_began_0 : decode cX0_began 0 = .ok (.aload_n 0, 1) := by decide +kernel
theorem dX0_began_1 : decode cX0_began 1 = .ok (.getfield 15, 3) := by decide +kernel
theorem dX0_began_4 : decode cX0_began 4 = .ok (.ireturn, 1) := by decide +kernel
set_option maxRecDepth 100000 in
set_option maxHeartbeats 4000000 in
theorem ct0_began (G : Gm) (t : Nat)    (S : St) : Ct G YX0_began yX0_began 1 0 0 (fI t) (f0_began S) [vR (some 37)] (MM t S) := by
  refine Ct_of_J [some (vR (some 37))] (by decide) rfl (fun h => by cases h) (Nat.le_of_ble_eq_true rfl) (And.intro rfl (trivial)) ?_
  unfold f0_began
  refine J_aload_n dX0_began_0 rfl rfl ?_
  refine K_getI cf0 flX0_15 (sq 37 rfl) (Or.inl rfl) dX0_began_1 ?_
  exact J_ireturn rfl (Nat.le_refl _) (Nat.le_refl _) rfl dX0_began_4
theorem dX0_keptAt_0 : decode cX0_keptAt 0 = .ok (.iload_n 1, 1) := by decide +kernel
theorem dX0_keptAt_1 : decode cX0_keptAt 1 = .ok (.ifCond .lt 29, 3) := by decide +kernel
theorem dX0_keptAt_4 : decode cX0_keptAt 4 = .ok (.iload_n 1, 1) := by decide +kernel
theorem dX0_keptAt_5 : decode cX0_keptAt 5 = .ok (.aload_n 0, 1) := by decide +kernel
theorem dX0_keptAt_6 : decode cX0_keptAt 6 = .ok (.getfield 15, 3) := by decide +kernel
theorem dX0_keptAt_9 : decode cX0_keptAt 9 = .ok (.if_icmp .ge 21, 3) := by decide +kernel
theorem dX0_keptAt_12 : decode cX0_keptAt 12 = .ok (.iload_n 1, 1) := by decide +kernel
theorem dX0_keptAt_13 : decode cX0_keptAt 13 = .ok (.aload_n 0, 1) := by decide +kernel
theorem dX0_keptAt_14 : decode cX0_keptAt 14 = .ok (.getfield 11, 3) := by decide +kernel
theorem dX0_keptAt_17 : decode cX0_keptAt 17 = .ok (.arraylength, 1) := by decide +kernel
theorem dX0_keptAt_18 : decode cX0_keptAt 18 = .ok (.if_icmp .ge 12, 3) := by decide +kernel
theorem dX0_keptAt_21 : decode cX0_keptAt 21 = .ok (.aload_n 0, 1) := by decide +kernel
theorem dX0_keptAt_22 : decode cX0_keptAt 22 = .ok (.getfield 11, 3) := by decide +kernel
theorem dX0_keptAt_25 : decode cX0_keptAt 25 = .ok (.iload_n 1, 1) := by decide +kernel
theorem dX0_keptAt_26 : decode cX0_keptAt 26 = .ok (.iaload, 1) := by decide +kernel
theorem dX0_keptAt_27 : decode cX0_keptAt 27 = .ok (.goto 4, 3) := by decide +kernel
theorem dX0_keptAt_30 : decode cX0_keptAt 30 = .ok (.iconst (-1), 1) := by decide +kernel
theorem dX0_keptAt_31 : decode cX0_keptAt 31 = .ok (.ireturn, 1) := by decide +kernel
set_option maxRecDepth 100000 in
set_option maxHeartbeats 4000000 in
theorem ct0_keptAt (G : Gm) (t : Nat)  (x1 : Int32)  (S : St) : Ct G YX0_keptAt yX0_keptAt 1 0 0 (fI t) (f0_keptAt x1 S) [vR (some 37), vI x1] (MM t S) := by
  refine Ct_of_J [some (vR (some 37)), some (vI x1)] (by decide) rfl (fun h => by cases h) (Nat.le_of_ble_eq_true rfl) (And.intro rfl (And.intro rfl (trivial))) ?_
  unfold f0_keptAt
  refine J_iload_n dX0_keptAt_0 rfl rfl ?_
  refine J_if_lt (tgt := 30) dX0_keptAt_1 (by decide) (fun z1 => ?_) (fun z1 => ?_)
  · refine J_iconst (v := (-1)) dX0_keptAt_30 (by decide) ?_
    exact J_ireturn rfl (Nat.le_refl _) (Nat.le_refl _) rfl dX0_keptAt_31
  · refine J_iload_n dX0_keptAt_4 rfl rfl ?_
    refine J_aload_n dX0_keptAt_5 rfl rfl ?_
    refine K_getI cf0 flX0_15 (sq 37 rfl) (Or.inl rfl) dX0_keptAt_6 ?_
    refine J_icmp_ge (tgt := 30) dX0_keptAt_9 (by decide) (fun z2 => ?_) (fun z2 => ?_)
    · refine J_iconst (v := (-1)) dX0_keptAt_30 (by decide) ?_
      exact J_ireturn rfl (Nat.le_refl _) (Nat.le_refl _) rfl dX0_keptAt_31
    · refine J_iload_n dX0_keptAt_12 rfl rfl ?_
      refine J_aload_n dX0_keptAt_13 rfl rfl ?_
      refine K_getR (r := some (38)) cf0 flX0_11 (sq 37 rfl) rfl (Or.inr ⟨_, rfl⟩) dX0_keptAt_14 ?_
      refine K_alen (v := nI 24) (sq 38 rfl) (by decide) rfl dX0_keptAt_17 ?_
      refine J_icmp_ge (tgt := 30) dX0_keptAt_18 (by decide) (fun z3 => ?_) (fun z3 => ?_)
      · refine J_iconst (v := (-1)) dX0_keptAt_30 (by decide) ?_
        exact J_ireturn rfl (Nat.le_refl _) (Nat.le_refl _) rfl dX0_keptAt_31
      · refine J_aload_n dX0_keptAt_21 rfl rfl ?_
        refine K_getR (r := some (38)) cf0 flX0_11 (sq 37 rfl) rfl (Or.inr ⟨_, rfl⟩) dX0_keptAt_22 ?_
        refine J_iload_n dX0_keptAt_25 rfl rfl ?_
        refine K_iald (sq 38 rfl) dX0_keptAt_26 ?_
        refine J_goto (tgt := 31) dX0_keptAt_27 (by decide) ?_
        exact J_ireturn rfl (Nat.le_refl _) (Nat.le_refl _) rfl dX0_keptAt_31
theorem dX0_beEmpty_0 : decode cX0_beEmpty 0 = .ok (.aload_n 0, 1) := by decide +kernel
theorem dX0_beEmpty_1 : decode cX0_beEmpty 1 = .ok (.iconst 0, 1) := by decide +kernel
theorem dX0_beEmpty_2 : decode cX0_beEmpty 2 = .ok (.putfield 15, 3) := by decide +kernel
theorem dX0_beEmpty_5 : decode cX0_beEmpty 5 = .ok (.return_, 1) := by decide +kernel
set_option maxRecDepth 100000 in
set_option maxHeartbeats 4000000 in
theorem ct0_beEmpty (G : Gm) (t : Nat)    (S : St) : Ct G YX0_beEmpty yX0_beEmpty 1 0 0 (fV t) (f0_beEmpty S) [vR (some 37)] (MM t S) := by
  refine Ct_of_J [some (vR (some 37))] (by decide) rfl (fun h => by cases h) (Nat.le_of_ble_eq_true rfl) (And.intro rfl (trivial)) ?_
  unfold f0_beEmpty
  refine J_aload_n dX0_beEmpty_0 rfl rfl ?_
  refine J_iconst (v := nI 0) dX0_beEmpty_1 (by decide) ?_
  refine K_putI cf0 flX0_15 (sq 37 rfl) rfl dX0_beEmpty_2 ?_
  refine J_ltS (fun S1 _ => ?_)
  exact J_return rfl (Nat.le_refl _) (Nat.le_refl _) rfl dX0_beEmpty_5
theorem dX0_ownBody_0 : decode cX0_ownBody 0 = .ok (.iload_n 0, 1) := by decide +kernel
theorem dX0_ownBody_1 : decode cX0_ownBody 1 = .ok (.tableswitch 119 1 6 #[39, 51, 62, 74, 86, 98], 39) := by decide +kernel
theorem dX0_ownBody_40 : decode cX0_ownBody 40 = .ok (.iload_n 1, 1) := by decide +kernel
theorem dX0_ownBody_41 : decode cX0_ownBody 41 = .ok (.iconst 2, 1) := by decide +kernel
theorem dX0_ownBody_42 : decode cX0_ownBody 42 = .ok (.if_icmp .ne 8, 3) := by decide +kernel
theorem dX0_ownBody_45 : decode cX0_ownBody 45 = .ok (.bipush 20, 2) := by decide +kernel
theorem dX0_ownBody_47 : decode cX0_ownBody 47 = .ok (.goto 4, 3) := by decide +kernel
theorem dX0_ownBody_50 : decode cX0_ownBody 50 = .ok (.iconst 0, 1) := by decide +kernel
theorem dX0_ownBody_51 : decode cX0_ownBody 51 = .ok (.ireturn, 1) := by decide +kernel
theorem dX0_ownBody_52 : decode cX0_ownBody 52 = .ok (.iload_n 1, 1) := by decide +kernel
theorem dX0_ownBody_53 : decode cX0_ownBody 53 = .ok (.ifCond .ne 8, 3) := by decide +kernel
theorem dX0_ownBody_56 : decode cX0_ownBody 56 = .ok (.bipush 30, 2) := by decide +kernel
theorem dX0_ownBody_58 : decode cX0_ownBody 58 = .ok (.goto 4, 3) := by decide +kernel
theorem dX0_ownBody_61 : decode cX0_ownBody 61 = .ok (.iconst 0, 1) := by decide +kernel
theorem dX0_ownBody_62 : decode cX0_ownBody 62 = .ok (.ireturn, 1) := by decide +kernel
theorem dX0_ownBody_63 : decode cX0_ownBody 63 = .ok (.iload_n 1, 1) := by decide +kernel
theorem dX0_ownBody_64 : decode cX0_ownBody 64 = .ok (.iconst 1, 1) := by decide +kernel
theorem dX0_ownBody_65 : decode cX0_ownBody 65 = .ok (.if_icmp .ne 8, 3) := by decide +kernel
theorem dX0_ownBody_68 : decode cX0_ownBody 68 = .ok (.bipush 40, 2) := by decide +kernel
theorem dX0_ownBody_70 : decode cX0_ownBody 70 = .ok (.goto 4, 3) := by decide +kernel
theorem dX0_ownBody_73 : decode cX0_ownBody 73 = .ok (.iconst 0, 1) := by decide +kernel
theorem dX0_ownBody_74 : decode cX0_ownBody 74 = .ok (.ireturn, 1) := by decide +kernel
theorem dX0_ownBody_75 : decode cX0_ownBody 75 = .ok (.iload_n 1, 1) := by decide +kernel
theorem dX0_ownBody_76 : decode cX0_ownBody 76 = .ok (.iconst 3, 1) := by decide +kernel
theorem dX0_ownBody_77 : decode cX0_ownBody 77 = .ok (.if_icmp .ne 8, 3) := by decide +kernel
theorem dX0_ownBody_80 : decode cX0_ownBody 80 = .ok (.bipush 50, 2) := by decide +kernel
theorem dX0_ownBody_82 : decode cX0_ownBody 82 = .ok (.goto 4, 3) := by decide +kernel
theorem dX0_ownBody_85 : decode cX0_ownBody 85 = .ok (.iconst 0, 1) := by decide +kernel
theorem dX0_ownBody_86 : decode cX0_ownBody 86 = .ok (.ireturn, 1) := by decide +kernel
theorem dX0_ownBody_87 : decode cX0_ownBody 87 = .ok (.iload_n 1, 1) := by decide +kernel
theorem dX0_ownBody_88 : decode cX0_ownBody 88 = .ok (.iconst 2, 1) := by decide +kernel
theorem dX0_ownBody_89 : decode cX0_ownBody 89 = .ok (.if_icmp .ne 8, 3) := by decide +kernel
theorem dX0_ownBody_92 : decode cX0_ownBody 92 = .ok (.bipush 60, 2) := by decide +kernel
theorem dX0_ownBody_94 : decode cX0_ownBody 94 = .ok (.goto 4, 3) := by decide +kernel
theorem dX0_ownBody_97 : decode cX0_ownBody 97 = .ok (.iconst 0, 1) := by decide +kernel
theorem dX0_ownBody_98 : decode cX0_ownBody 98 = .ok (.ireturn, 1) := by decide +kernel
theorem dX0_ownBody_99 : decode cX0_ownBody 99 = .ok (.iload_n 1, 1) := by decide +kernel
theorem dX0_ownBody_100 : decode cX0_ownBody 100 = .ok (.ifCond .ne 8, 3) := by decide +kernel
theorem dX0_ownBody_103 : decode cX0_ownBody 103 = .ok (.bipush 70, 2) := by decide +kernel
theorem dX0_ownBody_105 : decode cX0_ownBody 105 = .ok (.goto 14, 3) := by decide +kernel
theorem dX0_ownBody_108 : decode cX0_ownBody 108 = .ok (.iload_n 1, 1) := by decide +kernel
theorem dX0_ownBody_109 : decode cX0_ownBody 109 = .ok (.iconst 2, 1) := by decide +kernel
theorem dX0_ownBody_110 : decode cX0_ownBody 110 = .ok (.if_icmp .ne 8, 3) := by decide +kernel
theorem dX0_ownBody_113 : decode cX0_ownBody 113 = .ok (.bipush 71, 2) := by decide +kernel
theorem dX0_ownBody_115 : decode cX0_ownBody 115 = .ok (.goto 4, 3) := by decide +kernel
theorem dX0_ownBody_118 : decode cX0_ownBody 118 = .ok (.iconst 0, 1) := by decide +kernel
theorem dX0_ownBody_119 : decode cX0_ownBody 119 = .ok (.ireturn, 1) := by decide +kernel
theorem dX0_ownBody_120 : decode cX0_ownBody 120 = .ok (.iconst 0, 1) := by decide +kernel
theorem dX0_ownBody_121 : decode cX0_ownBody 121 = .ok (.ireturn, 1) := by decide +kernel
set_option maxRecDepth 100000 in
set_option maxHeartbeats 4000000 in
theorem ct0_ownBody (G : Gm) (t : Nat)  (x0 : Int32) (x1 : Int32)  (S : St) : Ct G YX0_ownBody yX0_ownBody 1 0 0 (fI t) (f0_ownBody x0 x1 S) [vI x0, vI x1] (MM t S) := by
  refine Ct_of_J [some (vI x0), some (vI x1)] (by decide) rfl (fun h => by cases h) (Nat.le_of_ble_eq_true rfl) (And.intro rfl (And.intro rfl (trivial))) ?_
  unfold f0_ownBody
  refine J_iload_n dX0_ownBody_0 rfl rfl ?_
  refine J_table (td := 120) _ dX0_ownBody_1 (fun z h1 h2 => cov_of (lo := (1)) (N := 6) (ks := [nI 1, nI 2, nI 3, nI 4, nI 5, nI 6]) (by decide) z h1 (by omega)) ?_ (by decide) ?_
  · refine List.forall_mem_cons.mpr ⟨tb_mk (o := 39) (tgt := 40) (by decide) (fun _ => ?_), ?_⟩
    · refine J_iload_n dX0_ownBody_40 rfl rfl ?_
      refine J_iconst (v := nI 2) dX0_ownBody_41 (by decide) ?_
      refine J_icmp_ne (tgt := 50) dX0_ownBody_42 (by decide) (fun z1 => ?_) (fun z1 => ?_)
      · refine J_bipush (v := nI 20) dX0_ownBody_45 (by decide) ?_
        refine J_goto (tgt := 51) dX0_ownBody_47 (by decide) ?_
        exact J_ireturn rfl (Nat.le_refl _) (Nat.le_refl _) rfl dX0_ownBody_51
      · refine J_iconst (v := nI 0) dX0_ownBody_50 (by decide) ?_
        exact J_ireturn rfl (Nat.le_refl _) (Nat.le_refl _) rfl dX0_ownBody_51
    · refine List.forall_mem_cons.mpr ⟨tb_mk (o := 51) (tgt := 52) (by decide) (fun _ => ?_), ?_⟩
      · refine J_iload_n dX0_ownBody_52 rfl rfl ?_
        refine J_if_ne (tgt := 61) dX0_ownBody_53 (by decide) (fun z2 => ?_) (fun z2 => ?_)
        · refine J_bipush (v := nI 30) dX0_ownBody_56 (by decide) ?_
          refine J_goto (tgt := 62) dX0_ownBody_58 (by decide) ?_
          exact J_ireturn rfl (Nat.le_refl _) (Nat.le_refl _) rfl dX0_ownBody_62
        · refine J_iconst (v := nI 0) dX0_ownBody_61 (by decide) ?_
          exact J_ireturn rfl (Nat.le_refl _) (Nat.le_refl _) rfl dX0_ownBody_62
      · refine List.forall_mem_cons.mpr ⟨tb_mk (o := 62) (tgt := 63) (by decide) (fun _ => ?_), ?_⟩
        · refine J_iload_n dX0_ownBody_63 rfl rfl ?_
          refine J_iconst (v := nI 1) dX0_ownBody_64 (by decide) ?_
          refine J_icmp_ne (tgt := 73) dX0_ownBody_65 (by decide) (fun z3 => ?_) (fun z3 => ?_)
          · refine J_bipush (v := nI 40) dX0_ownBody_68 (by decide) ?_
            refine J_goto (tgt := 74) dX0_ownBody_70 (by decide) ?_
            exact J_ireturn rfl (Nat.le_refl _) (Nat.le_refl _) rfl dX0_ownBody_74
          · refine J_iconst (v := nI 0) dX0_ownBody_73 (by decide) ?_
            exact J_ireturn rfl (Nat.le_refl _) (Nat.le_refl _) rfl dX0_ownBody_74
        · refine List.forall_mem_cons.mpr ⟨tb_mk (o := 74) (tgt := 75) (by decide) (fun _ => ?_), ?_⟩
          · refine J_iload_n dX0_ownBody_75 rfl rfl ?_
            refine J_iconst (v := nI 3) dX0_ownBody_76 (by decide) ?_
            refine J_icmp_ne (tgt := 85) dX0_ownBody_77 (by decide) (fun z4 => ?_) (fun z4 => ?_)
            · refine J_bipush (v := nI 50) dX0_ownBody_80 (by decide) ?_
              refine J_goto (tgt := 86) dX0_ownBody_82 (by decide) ?_
              exact J_ireturn rfl (Nat.le_refl _) (Nat.le_refl _) rfl dX0_ownBody_86
            · refine J_iconst (v := nI 0) dX0_ownBody_85 (by decide) ?_
              exact J_ireturn rfl (Nat.le_refl _) (Nat.le_refl _) rfl dX0_ownBody_86
          · refine List.forall_mem_cons.mpr ⟨tb_mk (o := 86) (tgt := 87) (by decide) (fun _ => ?_), ?_⟩
            · refine J_iload_n dX0_ownBody_87 rfl rfl ?_
              refine J_iconst (v := nI 2) dX0_ownBody_88 (by decide) ?_
              refine J_icmp_ne (tgt := 97) dX0_ownBody_89 (by decide) (fun z5 => ?_) (fun z5 => ?_)
              · refine J_bipush (v := nI 60) dX0_ownBody_92 (by decide) ?_
                refine J_goto (tgt := 98) dX0_ownBody_94 (by decide) ?_
                exact J_ireturn rfl (Nat.le_refl _) (Nat.le_refl _) rfl dX0_ownBody_98
              · refine J_iconst (v := nI 0) dX0_ownBody_97 (by decide) ?_
                exact J_ireturn rfl (Nat.le_refl _) (Nat.le_refl _) rfl dX0_ownBody_98
            · refine List.forall_mem_cons.mpr ⟨tb_mk (o := 98) (tgt := 99) (by decide) (fun _ => ?_), ?_⟩
              · refine J_iload_n dX0_ownBody_99 rfl rfl ?_
                refine J_if_ne (tgt := 108) dX0_ownBody_100 (by decide) (fun z6 => ?_) (fun z6 => ?_)
                · refine J_bipush (v := nI 70) dX0_ownBody_103 (by decide) ?_
                  refine J_goto (tgt := 119) dX0_ownBody_105 (by decide) ?_
                  exact J_ireturn rfl (Nat.le_refl _) (Nat.le_refl _) rfl dX0_ownBody_119
                · refine J_iload_n dX0_ownBody_108 rfl rfl ?_
                  refine J_iconst (v := nI 2) dX0_ownBody_109 (by decide) ?_
                  refine J_icmp_ne (tgt := 118) dX0_ownBody_110 (by decide) (fun z7 => ?_) (fun z7 => ?_)
                  · refine J_bipush (v := nI 71) dX0_ownBody_113 (by decide) ?_
                    refine J_goto (tgt := 119) dX0_ownBody_115 (by decide) ?_
                    exact J_ireturn rfl (Nat.le_refl _) (Nat.le_refl _) rfl dX0_ownBody_119
                  · refine J_iconst (v := nI 0) dX0_ownBody_118 (by decide) ?_
                    exact J_ireturn rfl (Nat.le_refl _) (Nat.le_refl _) rfl dX0_ownBody_119
              · exact fun _ h => absurd h List.not_mem_nil
  · refine J_iconst (v := nI 0) dX0_ownBody_120 (by decide) ?_
    exact J_ireturn rfl (Nat.le_refl _) (Nat.le_refl _) rfl dX0_ownBody_121
theorem dX0_bodyOf_0 : decode cX0_bodyOf 0 = .ok (.iload_n 0, 1) := by decide +kernel
theorem dX0_bodyOf_1 : decode cX0_bodyOf 1 = .ok (.istore_n 2, 1) := by decide +kernel
theorem dX0_bodyOf_2 : decode cX0_bodyOf 2 = .ok (.iconst 0, 1) := by decide +kernel
theorem dX0_bodyOf_3 : decode cX0_bodyOf 3 = .ok (.istore_n 3, 1) := by decide +kernel
theorem dX0_bodyOf_4 : decode cX0_bodyOf 4 = .ok (.iload_n 3, 1) := by decide +kernel
theorem dX0_bodyOf_5 : decode cX0_bodyOf 5 = .ok (.bipush 7, 2) := by decide +kernel
theorem dX0_bodyOf_7 : decode cX0_bodyOf 7 = .ok (.if_icmp .ge 33, 3) := by decide +kernel
theorem dX0_bodyOf_10 : decode cX0_bodyOf 10 = .ok (.iload_n 2, 1) := by decide +kernel
theorem dX0_bodyOf_11 : decode cX0_bodyOf 11 = .ok (.ifCond .le 29, 3) := by decide +kernel
theorem dX0_bodyOf_14 : decode cX0_bodyOf 14 = .ok (.iload_n 2, 1) := by decide +kernel
theorem dX0_bodyOf_15 : decode cX0_bodyOf 15 = .ok (.iload_n 1, 1) := by decide +kernel
theorem dX0_bodyOf_16 : decode cX0_bodyOf 16 = .ok (.invokestatic 39, 3) := by decide +kernel
theorem dX0_bodyOf_19 : decode cX0_bodyOf 19 = .ok (.istore 4, 2) := by decide +kernel
theorem dX0_bodyOf_21 : decode cX0_bodyOf 21 = .ok (.iload 4, 2) := by decide +kernel
theorem dX0_bodyOf_23 : decode cX0_bodyOf 23 = .ok (.ifCond .le 6, 3) := by decide +kernel
theorem dX0_bodyOf_26 : decode cX0_bodyOf 26 = .ok (.iload 4, 2) := by decide +kernel
theorem dX0_bodyOf_28 : decode cX0_bodyOf 28 = .ok (.ireturn, 1) := by decide +kernel
theorem dX0_bodyOf_29 : decode cX0_bodyOf 29 = .ok (.iload_n 2, 1) := by decide +kernel
theorem dX0_bodyOf_30 : decode cX0_bodyOf 30 = .ok (.invokestatic 28, 3) := by decide +kernel
theorem dX0_bodyOf_33 : decode cX0_bodyOf 33 = .ok (.istore_n 2, 1) := by decide +kernel
theorem dX0_bodyOf_34 : decode cX0_bodyOf 34 = .ok (.iinc 3 1, 3) := by decide +kernel
theorem dX0_bodyOf_37 : decode cX0_bodyOf 37 = .ok (.goto (-33), 3) := by decide +kernel
theorem dX0_bodyOf_40 : decode cX0_bodyOf 40 = .ok (.iload_n 1, 1) := by decide +kernel
theorem dX0_bodyOf_41 : decode cX0_bodyOf 41 = .ok (.tableswitch 35 0 2 #[27, 29, 32], 27) := by decide +kernel
theorem dX0_bodyOf_68 : decode cX0_bodyOf 68 = .ok (.iconst 1, 1) := by decide +kernel
theorem dX0_bodyOf_69 : decode cX0_bodyOf 69 = .ok (.ireturn, 1) := by decide +kernel
theorem dX0_bodyOf_70 : decode cX0_bodyOf 70 = .ok (.bipush 10, 2) := by decide +kernel
theorem dX0_bodyOf_72 : decode cX0_bodyOf 72 = .ok (.ireturn, 1) := by decide +kernel
theorem dX0_bodyOf_73 : decode cX0_bodyOf 73 = .ok (.bipush 11, 2) := by decide +kernel
theorem dX0_bodyOf_75 : decode cX0_bodyOf 75 = .ok (.ireturn, 1) := by decide +kernel
theorem dX0_bodyOf_76 : decode cX0_bodyOf 76 = .ok (.iconst 2, 1) := by decide +kernel
theorem dX0_bodyOf_77 : decode cX0_bodyOf 77 = .ok (.ireturn, 1) := by decide +kernel
set_option maxRecDepth 100000 in
set_option maxHeartbeats 4000000 in
theorem t0_bodyOf_j40 (G : Gm) (t : Nat) (N : Nat) (x1 : Int32)    : ∀  (S : St), J G YX0_bodyOf 2 0 0 (fI t) 0 0 40 [none, some (vI x1), none, none, none] [] (MM t S) (f0_bodyOf_j40 N x1 S) := by
  intro S
  unfold f0_bodyOf_j40
  refine J_iload_n dX0_bodyOf_40 rfl rfl ?_
  refine J_table (td := 76) _ dX0_bodyOf_41 (fun z h1 h2 => cov_of (lo := (0)) (N := 3) (ks := [nI 0, nI 1, nI 2]) (by decide) z h1 (by omega)) ?_ (by decide) ?_
  · refine List.forall_mem_cons.mpr ⟨tb_mk (o := 27) (tgt := 68) (by decide) (fun _ => ?_), ?_⟩
    · refine J_iconst (v := nI 1) dX0_bodyOf_68 (by decide) ?_
      exact J_ireturn rfl (Nat.le_refl _) (Nat.le_refl _) rfl dX0_bodyOf_69
    · refine List.forall_mem_cons.mpr ⟨tb_mk (o := 29) (tgt := 70) (by decide) (fun _ => ?_), ?_⟩
      · refine J_bipush (v := nI 10) dX0_bodyOf_70 (by decide) ?_
        exact J_ireturn rfl (Nat.le_refl _) (Nat.le_refl _) rfl dX0_bodyOf_72
      · refine List.forall_mem_cons.mpr ⟨tb_mk (o := 32) (tgt := 73) (by decide) (fun _ => ?_), ?_⟩
        · refine J_bipush (v := nI 11) dX0_bodyOf_73 (by decide) ?_
          exact J_ireturn rfl (Nat.le_refl _) (Nat.le_refl _) rfl dX0_bodyOf_75
        · exact fun _ h => absurd h List.not_mem_nil
  · refine J_iconst (v := nI 2) dX0_bodyOf_76 (by decide) ?_
    exact J_ireturn rfl (Nat.le_refl _) (Nat.le_refl _) rfl dX0_bodyOf_77
set_option maxRecDepth 100000 in
set_option maxHeartbeats 4000000 in
theorem t0_bodyOf_h4 (G : Gm) (t : Nat) (N : Nat) (x1 : Int32)    : ∀ (n : Nat) (x2 : Int32) (x3 : Int32) (S : St), J G YX0_bodyOf 2 0 0 (fI t) 0 0 4 [none, some (vI x1), some (vI x2), some (vI x3), none] [] (MM t S) (f0_bodyOf_h4 N x1 n x2 x3 S) := by
  intro n
  induction n with
  | zero => intro x2 x3 S; exact J_none
  | succ n ih =>
    intro x2 x3 S
    rw [f0_bodyOf_h4]
    refine J_iload_n dX0_bodyOf_4 rfl rfl ?_
    refine J_bipush (v := nI 7) dX0_bodyOf_5 (by decide) ?_
    refine J_icmp_ge (tgt := 40) dX0_bodyOf_7 (by decide) (fun z1 => ?_) (fun z1 => ?_)
    · exact J_sb (t0_bodyOf_j40 G t N x1 S) (And.intro rfl (trivial))
    · refine J_iload_n dX0_bodyOf_10 rfl rfl ?_
      refine J_if_le (tgt := 40) dX0_bodyOf_11 (by decide) (fun z2 => ?_) (fun z2 => ?_)
      · exact J_sb (t0_bodyOf_j40 G t N x1 S) (And.intro rfl (trivial))
      · refine J_iload_n dX0_bodyOf_14 rfl rfl ?_
        refine J_iload_n dX0_bodyOf_15 rfl rfl ?_
        refine K_callS_i (As := [vI x2, vI x1]) mcX0_ownBody mlX0_39 (ct0_ownBody G t x2 x1 S) rfl rfl (Nat.le_of_ble_eq_true rfl) (by decide) (Nat.le_of_ble_eq_true rfl) dX0_bodyOf_16 (fun q3 S4 => ?_)
        refine J_istore [none, some (vI x1), some (vI x2), some (vI x3), some (vI q3)] dX0_bodyOf_19 (Nat.le_of_ble_eq_true rfl) rfl rfl ?_
        refine J_iload dX0_bodyOf_21 rfl ?_
        refine J_if_le (tgt := 29) dX0_bodyOf_23 (by decide) (fun z5 => ?_) (fun z5 => ?_)
        · refine J_iload_n dX0_bodyOf_29 rfl rfl ?_
          refine K_callS_i (As := [vI x2]) mcX0_above mlX0_28 (ct0_above G t x2 S4) rfl rfl (Nat.le_of_ble_eq_true rfl) (by decide) (Nat.le_of_ble_eq_true rfl) dX0_bodyOf_30 (fun q6 S7 => ?_)
          refine J_istore_n [none, some (vI x1), some (vI q6), some (vI x3), some (vI q3)] dX0_bodyOf_33 rfl (Nat.le_of_ble_eq_true rfl) rfl rfl ?_
          refine J_iinc (v := x3 + nI 1) [none, some (vI x1), some (vI q6), some (vI (x3 + nI 1)), some (vI q3)] dX0_bodyOf_34 rfl rfl (Nat.le_of_ble_eq_true rfl) rfl rfl ?_
          refine J_goto (tgt := 4) dX0_bodyOf_37 (by decide) ?_
          exact J_sb (ih q6 (x3 + nI 1) S7) (And.intro rfl (And.intro rfl (And.intro rfl (trivial))))
        · refine J_iload dX0_bodyOf_26 rfl ?_
          exact J_ireturn rfl (Nat.le_refl _) (Nat.le_refl _) rfl dX0_bodyOf_28
set_option maxRecDepth 100000 in
set_option maxHeartbeats 4000000 in
theorem ct0_bodyOf (G : Gm) (t : Nat) (N : Nat) (x0 : Int32) (x1 : Int32)  (S : St) : Ct G YX0_bodyOf yX0_bodyOf 2 0 0 (fI t) (f0_bodyOf N x0 x1 S) [vI x0, vI x1] (MM t S) := by
  refine Ct_of_J [some (vI x0), some (vI x1), none, none, none] (by decide) rfl (fun h => by cases h) (Nat.le_of_ble_eq_true rfl) (And.intro rfl (And.intro rfl (trivial))) ?_
  unfold f0_bodyOf
  refine J_iload_n dX0_bodyOf_0 rfl rfl ?_
  refine J_istore_n [some (vI x0), some (vI x1), some (vI x0), none, none] dX0_bodyOf_1 rfl (Nat.le_of_ble_eq_true rfl) rfl rfl ?_
  refine J_iconst (v := nI 0) dX0_bodyOf_2 (by decide) ?_
  refine J_istore_n [some (vI x0), some (vI x1), some (vI x0), some (vI (nI 0)), none] dX0_bodyOf_3 rfl (Nat.le_of_ble_eq_true rfl) rfl rfl ?_
  exact J_sb (t0_bodyOf_h4 G t N x1 N x0 (nI 0) S) (And.intro rfl (And.intro rfl (And.intro rfl (trivial))))
theorem dX0_own_0 : decode cX0_own 0 = .ok (.aload_n 0, 1) := by decide +kernel
theorem dX0_own_1 : decode cX0_own 1 = .ok (.aload_n 0, 1) := by decide +kernel
theorem dX0_own_2 : decode cX0_own 2 = .ok (.getfield 19, 3) := by decide +kernel
theorem dX0_own_5 : decode cX0_own 5 = .ok (.iload_n 1, 1) := by decide +kernel
theorem dX0_own_6 : decode cX0_own 6 = .ok (.iload_n 2, 1) := by decide +kernel
theorem dX0_own_7 : decode cX0_own 7 = .ok (.iload_n 3, 1) := by decide +kernel
theorem dX0_own_8 : decode cX0_own 8 = .ok (.invokevirtual 35, 3) := by decide +kernel
theorem dX0_own_11 : decode cX0_own 11 = .ok (.ireturn, 1) := by decide +kernel
set_option maxRecDepth 100000 in
set_option maxHeartbeats 4000000 in
theorem ct0_own (G : Gm) (t : Nat) (N : Nat) (pv : Int32 → Int32 → Int32 → Int32 → St → Option (Int32 × St)) (dv : Nat) (hdv : 3 ≤ dv) (hpv : ∀ (x1 : Int32) (x2 : Int32) (x3 : Int32) (x4 : Int32)  (S : St), Ct G YX0_from yX0_from dv 0 0 (fI t) (pv x1 x2 x3 x4 S) [vR (some 37), vI x1, vI x2, vI x3, vI x4] (MM t S)) (x1 : Int32) (x2 : Int32) (x3 : Int32)  (S : St) : Ct G YX0_own yX0_own (dv + 1) 0 0 (fI t) (f0_own N pv x1 x2 x3 S) [vR (some 37), vI x1, vI x2, vI x3] (MM t S) := by
  refine Ct_of_J [some (vR (some 37)), some (vI x1), some (vI x2), some (vI x3)] (by decide) rfl (fun h => by cases h) (Nat.le_of_ble_eq_true rfl) (And.intro rfl (And.intro rfl (And.intro rfl (And.intro rfl (trivial))))) ?_
  unfold f0_own
  refine J_aload_n dX0_own_0 rfl rfl ?_
  refine J_aload_n dX0_own_1 rfl rfl ?_
  refine K_getI cf0 flX0_19 (sq 37 rfl) (Or.inl rfl) dX0_own_2 ?_
  refine J_iload_n dX0_own_5 rfl rfl ?_
  refine J_iload_n dX0_own_6 rfl rfl ?_
  refine J_iload_n dX0_own_7 rfl rfl ?_
  refine K_callV_i (As := [vI (S.1 37 2), vI x1, vI x2, vI x3]) mcX0_from mlX0_35 rfl (by decide) (sq 37 rfl) (hpv (S.1 37 2) x1 x2 x3  S) rfl rfl (Nat.le_of_ble_eq_true rfl) (by omega) (Nat.le_of_ble_eq_true rfl) dX0_own_8 (fun q1 S2 => ?_)
  exact J_ireturn rfl (Nat.le_refl _) (Nat.le_refl _) rfl dX0_own_11
theorem dX0_perform__0 : decode cX0_perform_ 0 = .ok (.iload_n 1, 1) := by decide +kernel
theorem dX0_perform__1 : decode cX0_perform_ 1 = .ok (.lookupswitch 254 #[(1, 99), (2, 106), (10, 122), (11, 135), (20, 142), (30, 155), (40, 169), (50, 189), (60, 204), (70, 218), (71, 233)], 99) := by decide +kernel
theorem dX0_perform__100 : decode cX0_perform_ 100 = .ok (.iload_n 2, 1) := by decide +kernel
theorem dX0_perform__101 : decode cX0_perform_ 101 = .ok (.aload_n 0, 1) := by decide +kernel
theorem dX0_perform__102 : decode cX0_perform_ 102 = .ok (.getfield 22, 3) := by decide +kernel
theorem dX0_perform__105 : decode cX0_perform_ 105 = .ok (.iadd, 1) := by decide +kernel
theorem dX0_perform__106 : decode cX0_perform_ 106 = .ok (.ireturn, 1) := by decide +kernel
theorem dX0_perform__107 : decode cX0_perform_ 107 = .ok (.aload_n 0, 1) := by decide +kernel
theorem dX0_perform__108 : decode cX0_perform_ 108 = .ok (.iconst 1, 1) := by decide +kernel
theorem dX0_perform__109 : decode cX0_perform_ 109 = .ok (.iload_n 2, 1) := by decide +kernel
theorem dX0_perform__110 : decode cX0_perform_ 110 = .ok (.iload_n 3, 1) := by decide +kernel
theorem dX0_perform__111 : decode cX0_perform_ 111 = .ok (.invokevirtual 50, 3) := by decide +kernel
theorem dX0_perform__114 : decode cX0_perform_ 114 = .ok (.aload_n 0, 1) := by decide +kernel
theorem dX0_perform__115 : decode cX0_perform_ 115 = .ok (.iconst 2, 1) := by decide +kernel
theorem dX0_perform__116 : decode cX0_perform_ 116 = .ok (.iconst 1, 1) := by decide +kernel
theorem dX0_perform__117 : decode cX0_perform_ 117 = .ok (.iload_n 3, 1) := by decide +kernel
theorem dX0_perform__118 : decode cX0_perform_ 118 = .ok (.invokevirtual 50, 3) := by decide +kernel
theorem dX0_perform__121 : decode cX0_perform_ 121 = .ok (.isub, 1) := by decide +kernel
theorem dX0_perform__122 : decode cX0_perform_ 122 = .ok (.ireturn, 1) := by decide +kernel
theorem dX0_perform__123 : decode cX0_perform_ 123 = .ok (.aload_n 0, 1) := by decide +kernel
theorem dX0_perform__124 : decode cX0_perform_ 124 = .ok (.iconst 0, 1) := by decide +kernel
theorem dX0_perform__125 : decode cX0_perform_ 125 = .ok (.iload_n 2, 1) := by decide +kernel
theorem dX0_perform__126 : decode cX0_perform_ 126 = .ok (.iload_n 3, 1) := by decide +kernel
theorem dX0_perform__127 : decode cX0_perform_ 127 = .ok (.invokevirtual 50, 3) := by decide +kernel
theorem dX0_perform__130 : decode cX0_perform_ 130 = .ok (.aload_n 0, 1) := by decide +kernel
theorem dX0_perform__131 : decode cX0_perform_ 131 = .ok (.getfield 25, 3) := by decide +kernel
theorem dX0_perform__134 : decode cX0_perform_ 134 = .ok (.imul, 1) := by decide +kernel
theorem dX0_perform__135 : decode cX0_perform_ 135 = .ok (.ireturn, 1) := by decide +kernel
theorem dX0_perform__136 : decode cX0_perform_ 136 = .ok (.iload_n 2, 1) := by decide +kernel
theorem dX0_perform__137 : decode cX0_perform_ 137 = .ok (.aload_n 0, 1) := by decide +kernel
theorem dX0_perform__138 : decode cX0_perform_ 138 = .ok (.getfield 22, 3) := by decide +kernel
theorem dX0_perform__141 : decode cX0_perform_ 141 = .ok (.ixor, 1) := by decide +kernel
theorem dX0_perform__142 : decode cX0_perform_ 142 = .ok (.ireturn, 1) := by decide +kernel
theorem dX0_perform__143 : decode cX0_perform_ 143 = .ok (.aload_n 0, 1) := by decide +kernel
theorem dX0_perform__144 : decode cX0_perform_ 144 = .ok (.iconst 1, 1) := by decide +kernel
theorem dX0_perform__145 : decode cX0_perform_ 145 = .ok (.invokestatic 28, 3) := by decide +kernel
theorem dX0_perform__148 : decode cX0_perform_ 148 = .ok (.iconst 2, 1) := by decide +kernel
theorem dX0_perform__149 : decode cX0_perform_ 149 = .ok (.iload_n 2, 1) := by decide +kernel
theorem dX0_perform__150 : decode cX0_perform_ 150 = .ok (.iload_n 3, 1) := by decide +kernel
theorem dX0_perform__151 : decode cX0_perform_ 151 = .ok (.invokevirtual 35, 3) := by decide +kernel
theorem dX0_perform__154 : decode cX0_perform_ 154 = .ok (.ineg, 1) := by decide +kernel
theorem dX0_perform__155 : decode cX0_perform_ 155 = .ok (.ireturn, 1) := by decide +kernel
theorem dX0_perform__156 : decode cX0_perform_ 156 = .ok (.aload_n 0, 1) := by decide +kernel
theorem dX0_perform__157 : decode cX0_perform_ 157 = .ok (.iconst 2, 1) := by decide +kernel
theorem dX0_perform__158 : decode cX0_perform_ 158 = .ok (.invokestatic 28, 3) := by decide +kernel
theorem dX0_perform__161 : decode cX0_perform_ 161 = .ok (.iconst 0, 1) := by decide +kernel
theorem dX0_perform__162 : decode cX0_perform_ 162 = .ok (.iload_n 2, 1) := by decide +kernel
theorem dX0_perform__163 : decode cX0_perform_ 163 = .ok (.iload_n 3, 1) := by decide +kernel
theorem dX0_perform__164 : decode cX0_perform_ 164 = .ok (.invokevirtual 35, 3) := by decide +kernel
theorem dX0_perform__167 : decode cX0_perform_ 167 = .ok (.iconst 1, 1) := by decide +kernel
theorem dX0_perform__168 : decode cX0_perform_ 168 = .ok (.iadd, 1) := by decide +kernel
theorem dX0_perform__169 : decode cX0_perform_ 169 = .ok (.ireturn, 1) := by decide +kernel
theorem dX0_perform__170 : decode cX0_perform_ 170 = .ok (.aload_n 0, 1) := by decide +kernel
theorem dX0_perform__171 : decode cX0_perform_ 171 = .ok (.iconst 3, 1) := by decide +kernel
theorem dX0_perform__172 : decode cX0_perform_ 172 = .ok (.invokestatic 28, 3) := by decide +kernel
theorem dX0_perform__175 : decode cX0_perform_ 175 = .ok (.iconst 1, 1) := by decide +kernel
theorem dX0_perform__176 : decode cX0_perform_ 176 = .ok (.iload_n 2, 1) := by decide +kernel
theorem dX0_perform__177 : decode cX0_perform_ 177 = .ok (.iload_n 3, 1) := by decide +kernel
theorem dX0_perform__178 : decode cX0_perform_ 178 = .ok (.invokevirtual 35, 3) := by decide +kernel
theorem dX0_perform__181 : decode cX0_perform_ 181 = .ok (.aload_n 0, 1) := by decide +kernel
theorem dX0_perform__182 : decode cX0_perform_ 182 = .ok (.iconst 0, 1) := by decide +kernel
theorem dX0_perform__183 : decode cX0_perform_ 183 = .ok (.iconst 2, 1) := by decide +kernel
theorem dX0_perform__184 : decode cX0_perform_ 184 = .ok (.iload_n 3, 1) := by decide +kernel
theorem dX0_perform__185 : decode cX0_perform_ 185 = .ok (.invokevirtual 50, 3) := by decide +kernel
theorem dX0_perform__188 : decode cX0_perform_ 188 = .ok (.iadd, 1) := by decide +kernel
theorem dX0_perform__189 : decode cX0_perform_ 189 = .ok (.ireturn, 1) := by decide +kernel
theorem dX0_perform__190 : decode cX0_perform_ 190 = .ok (.aload_n 0, 1) := by decide +kernel
theorem dX0_perform__191 : decode cX0_perform_ 191 = .ok (.iconst 4, 1) := by decide +kernel
theorem dX0_perform__192 : decode cX0_perform_ 192 = .ok (.invokestatic 28, 3) := by decide +kernel
theorem dX0_perform__195 : decode cX0_perform_ 195 = .ok (.iconst 3, 1) := by decide +kernel
theorem dX0_perform__196 : decode cX0_perform_ 196 = .ok (.iload_n 2, 1) := by decide +kernel
theorem dX0_perform__197 : decode cX0_perform_ 197 = .ok (.iload_n 3, 1) := by decide +kernel
theorem dX0_perform__198 : decode cX0_perform_ 198 = .ok (.invokevirtual 35, 3) := by decide +kernel
theorem dX0_perform__201 : decode cX0_perform_ 201 = .ok (.bipush 6, 2) := by decide +kernel
theorem dX0_perform__203 : decode cX0_perform_ 203 = .ok (.ixor, 1) := by decide +kernel
theorem dX0_perform__204 : decode cX0_perform_ 204 = .ok (.ireturn, 1) := by decide +kernel
theorem dX0_perform__205 : decode cX0_perform_ 205 = .ok (.aload_n 0, 1) := by decide +kernel
theorem dX0_perform__206 : decode cX0_perform_ 206 = .ok (.iconst 5, 1) := by decide +kernel
theorem dX0_perform__207 : decode cX0_perform_ 207 = .ok (.invokestatic 28, 3) := by decide +kernel
theorem dX0_perform__210 : decode cX0_perform_ 210 = .ok (.iconst 2, 1) := by decide +kernel
theorem dX0_perform__211 : decode cX0_perform_ 211 = .ok (.iload_n 2, 1) := by decide +kernel
theorem dX0_perform__212 : decode cX0_perform_ 212 = .ok (.iload_n 3, 1) := by decide +kernel
theorem dX0_perform__213 : decode cX0_perform_ 213 = .ok (.invokevirtual 35, 3) := by decide +kernel
theorem dX0_perform__216 : decode cX0_perform_ 216 = .ok (.iconst 3, 1) := by decide +kernel
theorem dX0_perform__217 : decode cX0_perform_ 217 = .ok (.imul, 1) := by decide +kernel
theorem dX0_perform__218 : decode cX0_perform_ 218 = .ok (.ireturn, 1) := by decide +kernel
theorem dX0_perform__219 : decode cX0_perform_ 219 = .ok (.aload_n 0, 1) := by decide +kernel
theorem dX0_perform__220 : decode cX0_perform_ 220 = .ok (.bipush 6, 2) := by decide +kernel
theorem dX0_perform__222 : decode cX0_perform_ 222 = .ok (.invokestatic 28, 3) := by decide +kernel
theorem dX0_perform__225 : decode cX0_perform_ 225 = .ok (.iconst 0, 1) := by decide +kernel
theorem dX0_perform__226 : decode cX0_perform_ 226 = .ok (.iload_n 2, 1) := by decide +kernel
theorem dX0_perform__227 : decode cX0_perform_ 227 = .ok (.iconst 1, 1) := by decide +kernel
theorem dX0_perform__228 : decode cX0_perform_ 228 = .ok (.iadd, 1) := by decide +kernel
theorem dX0_perform__229 : decode cX0_perform_ 229 = .ok (.iload_n 3, 1) := by decide +kernel
theorem dX0_perform__230 : decode cX0_perform_ 230 = .ok (.invokevirtual 35, 3) := by decide +kernel
theorem dX0_perform__233 : decode cX0_perform_ 233 = .ok (.ireturn, 1) := by decide +kernel
theorem dX0_perform__234 : decode cX0_perform_ 234 = .ok (.aload_n 0, 1) := by decide +kernel
theorem dX0_perform__235 : decode cX0_perform_ 235 = .ok (.bipush 6, 2) := by decide +kernel
theorem dX0_perform__237 : decode cX0_perform_ 237 = .ok (.invokestatic 28, 3) := by decide +kernel
theorem dX0_perform__240 : decode cX0_perform_ 240 = .ok (.iconst 2, 1) := by decide +kernel
theorem dX0_perform__241 : decode cX0_perform_ 241 = .ok (.iload_n 2, 1) := by decide +kernel
theorem dX0_perform__242 : decode cX0_perform_ 242 = .ok (.iload_n 3, 1) := by decide +kernel
theorem dX0_perform__243 : decode cX0_perform_ 243 = .ok (.invokevirtual 35, 3) := by decide +kernel
theorem dX0_perform__246 : decode cX0_perform_ 246 = .ok (.aload_n 0, 1) := by decide +kernel
theorem dX0_perform__247 : decode cX0_perform_ 247 = .ok (.iconst 1, 1) := by decide +kernel
theorem dX0_perform__248 : decode cX0_perform_ 248 = .ok (.iconst 1, 1) := by decide +kernel
theorem dX0_perform__249 : decode cX0_perform_ 249 = .ok (.iload_n 3, 1) := by decide +kernel
theorem dX0_perform__250 : decode cX0_perform_ 250 = .ok (.invokevirtual 50, 3) := by decide +kernel
theorem dX0_perform__253 : decode cX0_perform_ 253 = .ok (.isub, 1) := by decide +kernel
theorem dX0_perform__254 : decode cX0_perform_ 254 = .ok (.ireturn, 1) := by decide +kernel
theorem dX0_perform__255 : decode cX0_perform_ 255 = .ok (.iconst 0, 1) := by decide +kernel
theorem dX0_perform__256 : decode cX0_perform_ 256 = .ok (.ireturn, 1) := by decide +kernel
set_option maxRecDepth 100000 in
set_option maxHeartbeats 4000000 in
theorem ct0_perform_ (G : Gm) (t : Nat) (N : Nat) (pv : Int32 → Int32 → Int32 → Int32 → St → Option (Int32 × St)) (dv : Nat) (hdv : 3 ≤ dv) (hpv : ∀ (x1 : Int32) (x2 : Int32) (x3 : Int32) (x4 : Int32)  (S : St), Ct G YX0_from yX0_from dv 0 0 (fI t) (pv x1 x2 x3 x4 S) [vR (some 37), vI x1, vI x2, vI x3, vI x4] (MM t S)) (x1 : Int32) (x2 : Int32) (x3 : Int32)  (S : St) : Ct G YX0_perform_ yX0_perform_ (dv + 2) 0 0 (fI t) (f0_perform_ N pv x1 x2 x3 S) [vR (some 37), vI x1, vI x2, vI x3] (MM t S) := by
  refine Ct_of_J [some (vR (some 37)), some (vI x1), some (vI x2), some (vI x3)] (by decide) rfl (fun h => by cases h) (Nat.le_of_ble_eq_true rfl) (And.intro rfl (And.intro rfl (And.intro rfl (And.intro rfl (trivial))))) ?_
  unfold f0_perform_
  refine J_iload_n dX0_perform__0 rfl rfl ?_
  refine J_lookup (td := 255) _ dX0_perform__1 (by decide) (by decide) (by rfl) ?_ (by decide) ?_
  · refine List.forall_mem_cons.mpr ⟨lk_mk (o := 99) (tgt := 100) (by decide) (fun _ => ?_), ?_⟩
    · refine J_iload_n dX0_perform__100 rfl rfl ?_
      refine J_aload_n dX0_perform__101 rfl rfl ?_
      refine K_getI cf0 flX0_22 (sq 37 rfl) (Or.inl rfl) dX0_perform__102 ?_
      refine J_iadd dX0_perform__105 ?_
      exact J_ireturn rfl (Nat.le_refl _) (Nat.le_refl _) rfl dX0_perform__106
    · refine List.forall_mem_cons.mpr ⟨lk_mk (o := 106) (tgt := 107) (by decide) (fun _ => ?_), ?_⟩
      · refine J_aload_n dX0_perform__107 rfl rfl ?_
        refine J_iconst (v := nI 1) dX0_perform__108 (by decide) ?_
        refine J_iload_n dX0_perform__109 rfl rfl ?_
        refine J_iload_n dX0_perform__110 rfl rfl ?_
        refine K_callV_i (As := [vI (nI 1), vI x2, vI x3]) mcX0_own mlX0_50 rfl (by decide) (sq 37 rfl) (ct0_own G t N pv dv hdv hpv (nI 1) x2 x3 S) rfl rfl (Nat.le_of_ble_eq_true rfl) (by omega) (Nat.le_of_ble_eq_true rfl) dX0_perform__111 (fun q1 S2 => ?_)
        refine J_aload_n dX0_perform__114 rfl rfl ?_
        refine J_iconst (v := nI 2) dX0_perform__115 (by decide) ?_
        refine J_iconst (v := nI 1) dX0_perform__116 (by decide) ?_
        refine J_iload_n dX0_perform__117 rfl rfl ?_
        refine K_callV_i (As := [vI (nI 2), vI (nI 1), vI x3]) mcX0_own mlX0_50 rfl (by decide) (sq 37 rfl) (ct0_own G t N pv dv hdv hpv (nI 2) (nI 1) x3 S2) rfl rfl (Nat.le_of_ble_eq_true rfl) (by omega) (Nat.le_of_ble_eq_true rfl) dX0_perform__118 (fun q3 S4 => ?_)
        refine J_isub dX0_perform__121 ?_
        exact J_ireturn rfl (Nat.le_refl _) (Nat.le_refl _) rfl dX0_perform__122
      · refine List.forall_mem_cons.mpr ⟨lk_mk (o := 122) (tgt := 123) (by decide) (fun _ => ?_), ?_⟩
        · refine J_aload_n dX0_perform__123 rfl rfl ?_
          refine J_iconst (v := nI 0) dX0_perform__124 (by decide) ?_
          refine J_iload_n dX0_perform__125 rfl rfl ?_
          refine J_iload_n dX0_perform__126 rfl rfl ?_
          refine K_callV_i (As := [vI (nI 0), vI x2, vI x3]) mcX0_own mlX0_50 rfl (by decide) (sq 37 rfl) (ct0_own G t N pv dv hdv hpv (nI 0) x2 x3 S) rfl rfl (Nat.le_of_ble_eq_true rfl) (by omega) (Nat.le_of_ble_eq_true rfl) dX0_perform__127 (fun q5 S6 => ?_)
          refine J_aload_n dX0_perform__130 rfl rfl ?_
          refine K_getI cf0 flX0_25 (sq 37 rfl) (Or.inl rfl) dX0_perform__131 ?_
          refine J_imul dX0_perform__134 ?_
          exact J_ireturn rfl (Nat.le_refl _) (Nat.le_refl _) rfl dX0_perform__135
        · refine List.forall_mem_cons.mpr ⟨lk_mk (o := 135) (tgt := 136) (by decide) (fun _ => ?_), ?_⟩
          · refine J_iload_n dX0_perform__136 rfl rfl ?_
            refine J_aload_n dX0_perform__137 rfl rfl ?_
            refine K_getI cf0 flX0_22 (sq 37 rfl) (Or.inl rfl) dX0_perform__138 ?_
            refine J_ixor dX0_perform__141 ?_
            exact J_ireturn rfl (Nat.le_refl _) (Nat.le_refl _) rfl dX0_perform__142
          · refine List.forall_mem_cons.mpr ⟨lk_mk (o := 142) (tgt := 143) (by decide) (fun _ => ?_), ?_⟩
            · refine J_aload_n dX0_perform__143 rfl rfl ?_
              refine J_iconst (v := nI 1) dX0_perform__144 (by decide) ?_
              refine K_callS_i (As := [vI (nI 1)]) mcX0_above mlX0_28 (ct0_above G t (nI 1) S) rfl rfl (Nat.le_of_ble_eq_true rfl) (by omega) (Nat.le_of_ble_eq_true rfl) dX0_perform__145 (fun q7 S8 => ?_)
              refine J_iconst (v := nI 2) dX0_perform__148 (by decide) ?_
              refine J_iload_n dX0_perform__149 rfl rfl ?_
              refine J_iload_n dX0_perform__150 rfl rfl ?_
              refine K_callV_i (As := [vI q7, vI (nI 2), vI x2, vI x3]) mcX0_from mlX0_35 rfl (by decide) (sq 37 rfl) (hpv q7 (nI 2) x2 x3  S8) rfl rfl (Nat.le_of_ble_eq_true rfl) (by omega) (Nat.le_of_ble_eq_true rfl) dX0_perform__151 (fun q9 S10 => ?_)
              refine J_ineg dX0_perform__154 ?_
              exact J_ireturn rfl (Nat.le_refl _) (Nat.le_refl _) rfl dX0_perform__155
            · refine List.forall_mem_cons.mpr ⟨lk_mk (o := 155) (tgt := 156) (by decide) (fun _ => ?_), ?_⟩
              · refine J_aload_n dX0_perform__156 rfl rfl ?_
                refine J_iconst (v := nI 2) dX0_perform__157 (by decide) ?_
                refine K_callS_i (As := [vI (nI 2)]) mcX0_above mlX0_28 (ct0_above G t (nI 2) S) rfl rfl (Nat.le_of_ble_eq_true rfl) (by omega) (Nat.le_of_ble_eq_true rfl) dX0_perform__158 (fun q11 S12 => ?_)
                refine J_iconst (v := nI 0) dX0_perform__161 (by decide) ?_
                refine J_iload_n dX0_perform__162 rfl rfl ?_
                refine J_iload_n dX0_perform__163 rfl rfl ?_
                refine K_callV_i (As := [vI q11, vI (nI 0), vI x2, vI x3]) mcX0_from mlX0_35 rfl (by decide) (sq 37 rfl) (hpv q11 (nI 0) x2 x3  S12) rfl rfl (Nat.le_of_ble_eq_true rfl) (by omega) (Nat.le_of_ble_eq_true rfl) dX0_perform__164 (fun q13 S14 => ?_)
                refine J_iconst (v := nI 1) dX0_perform__167 (by decide) ?_
                refine J_iadd dX0_perform__168 ?_
                exact J_ireturn rfl (Nat.le_refl _) (Nat.le_refl _) rfl dX0_perform__169
              · refine List.forall_mem_cons.mpr ⟨lk_mk (o := 169) (tgt := 170) (by decide) (fun _ => ?_), ?_⟩
                · refine J_aload_n dX0_perform__170 rfl rfl ?_
                  refine J_iconst (v := nI 3) dX0_perform__171 (by decide) ?_
                  refine K_callS_i (As := [vI (nI 3)]) mcX0_above mlX0_28 (ct0_above G t (nI 3) S) rfl rfl (Nat.le_of_ble_eq_true rfl) (by omega) (Nat.le_of_ble_eq_true rfl) dX0_perform__172 (fun q15 S16 => ?_)
                  refine J_iconst (v := nI 1) dX0_perform__175 (by decide) ?_
                  refine J_iload_n dX0_perform__176 rfl rfl ?_
                  refine J_iload_n dX0_perform__177 rfl rfl ?_
                  refine K_callV_i (As := [vI q15, vI (nI 1), vI x2, vI x3]) mcX0_from mlX0_35 rfl (by decide) (sq 37 rfl) (hpv q15 (nI 1) x2 x3  S16) rfl rfl (Nat.le_of_ble_eq_true rfl) (by omega) (Nat.le_of_ble_eq_true rfl) dX0_perform__178 (fun q17 S18 => ?_)
                  refine J_aload_n dX0_perform__181 rfl rfl ?_
                  refine J_iconst (v := nI 0) dX0_perform__182 (by decide) ?_
                  refine J_iconst (v := nI 2) dX0_perform__183 (by decide) ?_
                  refine J_iload_n dX0_perform__184 rfl rfl ?_
                  refine K_callV_i (As := [vI (nI 0), vI (nI 2), vI x3]) mcX0_own mlX0_50 rfl (by decide) (sq 37 rfl) (ct0_own G t N pv dv hdv hpv (nI 0) (nI 2) x3 S18) rfl rfl (Nat.le_of_ble_eq_true rfl) (by omega) (Nat.le_of_ble_eq_true rfl) dX0_perform__185 (fun q19 S20 => ?_)
                  refine J_iadd dX0_perform__188 ?_
                  exact J_ireturn rfl (Nat.le_refl _) (Nat.le_refl _) rfl dX0_perform__189
                · refine List.forall_mem_cons.mpr ⟨lk_mk (o := 189) (tgt := 190) (by decide) (fun _ => ?_), ?_⟩
                  · refine J_aload_n dX0_perform__190 rfl rfl ?_
                    refine J_iconst (v := nI 4) dX0_perform__191 (by decide) ?_
                    refine K_callS_i (As := [vI (nI 4)]) mcX0_above mlX0_28 (ct0_above G t (nI 4) S) rfl rfl (Nat.le_of_ble_eq_true rfl) (by omega) (Nat.le_of_ble_eq_true rfl) dX0_perform__192 (fun q21 S22 => ?_)
                    refine J_iconst (v := nI 3) dX0_perform__195 (by decide) ?_
                    refine J_iload_n dX0_perform__196 rfl rfl ?_
                    refine J_iload_n dX0_perform__197 rfl rfl ?_
                    refine K_callV_i (As := [vI q21, vI (nI 3), vI x2, vI x3]) mcX0_from mlX0_35 rfl (by decide) (sq 37 rfl) (hpv q21 (nI 3) x2 x3  S22) rfl rfl (Nat.le_of_ble_eq_true rfl) (by omega) (Nat.le_of_ble_eq_true rfl) dX0_perform__198 (fun q23 S24 => ?_)
                    refine J_bipush (v := nI 6) dX0_perform__201 (by decide) ?_
                    refine J_ixor dX0_perform__203 ?_
                    exact J_ireturn rfl (Nat.le_refl _) (Nat.le_refl _) rfl dX0_perform__204
                  · refine List.forall_mem_cons.mpr ⟨lk_mk (o := 204) (tgt := 205) (by decide) (fun _ => ?_), ?_⟩
                    · refine J_aload_n dX0_perform__205 rfl rfl ?_
                      refine J_iconst (v := nI 5) dX0_perform__206 (by decide) ?_
                      refine K_callS_i (As := [vI (nI 5)]) mcX0_above mlX0_28 (ct0_above G t (nI 5) S) rfl rfl (Nat.le_of_ble_eq_true rfl) (by omega) (Nat.le_of_ble_eq_true rfl) dX0_perform__207 (fun q25 S26 => ?_)
                      refine J_iconst (v := nI 2) dX0_perform__210 (by decide) ?_
                      refine J_iload_n dX0_perform__211 rfl rfl ?_
                      refine J_iload_n dX0_perform__212 rfl rfl ?_
                      refine K_callV_i (As := [vI q25, vI (nI 2), vI x2, vI x3]) mcX0_from mlX0_35 rfl (by decide) (sq 37 rfl) (hpv q25 (nI 2) x2 x3  S26) rfl rfl (Nat.le_of_ble_eq_true rfl) (by omega) (Nat.le_of_ble_eq_true rfl) dX0_perform__213 (fun q27 S28 => ?_)
                      refine J_iconst (v := nI 3) dX0_perform__216 (by decide) ?_
                      refine J_imul dX0_perform__217 ?_
                      exact J_ireturn rfl (Nat.le_refl _) (Nat.le_refl _) rfl dX0_perform__218
                    · refine List.forall_mem_cons.mpr ⟨lk_mk (o := 218) (tgt := 219) (by decide) (fun _ => ?_), ?_⟩
                      · refine J_aload_n dX0_perform__219 rfl rfl ?_
                        refine J_bipush (v := nI 6) dX0_perform__220 (by decide) ?_
                        refine K_callS_i (As := [vI (nI 6)]) mcX0_above mlX0_28 (ct0_above G t (nI 6) S) rfl rfl (Nat.le_of_ble_eq_true rfl) (by omega) (Nat.le_of_ble_eq_true rfl) dX0_perform__222 (fun q29 S30 => ?_)
                        refine J_iconst (v := nI 0) dX0_perform__225 (by decide) ?_
                        refine J_iload_n dX0_perform__226 rfl rfl ?_
                        refine J_iconst (v := nI 1) dX0_perform__227 (by decide) ?_
                        refine J_iadd dX0_perform__228 ?_
                        refine J_iload_n dX0_perform__229 rfl rfl ?_
                        refine K_callV_i (As := [vI q29, vI (nI 0), vI (x2 + (nI 1)), vI x3]) mcX0_from mlX0_35 rfl (by decide) (sq 37 rfl) (hpv q29 (nI 0) (x2 + (nI 1)) x3  S30) rfl rfl (Nat.le_of_ble_eq_true rfl) (by omega) (Nat.le_of_ble_eq_true rfl) dX0_perform__230 (fun q31 S32 => ?_)
                        exact J_ireturn rfl (Nat.le_refl _) (Nat.le_refl _) rfl dX0_perform__233
                      · refine List.forall_mem_cons.mpr ⟨lk_mk (o := 233) (tgt := 234) (by decide) (fun _ => ?_), ?_⟩
                        · refine J_aload_n dX0_perform__234 rfl rfl ?_
                          refine J_bipush (v := nI 6) dX0_perform__235 (by decide) ?_
                          refine K_callS_i (As := [vI (nI 6)]) mcX0_above mlX0_28 (ct0_above G t (nI 6) S) rfl rfl (Nat.le_of_ble_eq_true rfl) (by omega) (Nat.le_of_ble_eq_true rfl) dX0_perform__237 (fun q33 S34 => ?_)
                          refine J_iconst (v := nI 2) dX0_perform__240 (by decide) ?_
                          refine J_iload_n dX0_perform__241 rfl rfl ?_
                          refine J_iload_n dX0_perform__242 rfl rfl ?_
                          refine K_callV_i (As := [vI q33, vI (nI 2), vI x2, vI x3]) mcX0_from mlX0_35 rfl (by decide) (sq 37 rfl) (hpv q33 (nI 2) x2 x3  S34) rfl rfl (Nat.le_of_ble_eq_true rfl) (by omega) (Nat.le_of_ble_eq_true rfl) dX0_perform__243 (fun q35 S36 => ?_)
                          refine J_aload_n dX0_perform__246 rfl rfl ?_
                          refine J_iconst (v := nI 1) dX0_perform__247 (by decide) ?_
                          refine J_iconst (v := nI 1) dX0_perform__248 (by decide) ?_
                          refine J_iload_n dX0_perform__249 rfl rfl ?_
                          refine K_callV_i (As := [vI (nI 1), vI (nI 1), vI x3]) mcX0_own mlX0_50 rfl (by decide) (sq 37 rfl) (ct0_own G t N pv dv hdv hpv (nI 1) (nI 1) x3 S36) rfl rfl (Nat.le_of_ble_eq_true rfl) (by omega) (Nat.le_of_ble_eq_true rfl) dX0_perform__250 (fun q37 S38 => ?_)
                          refine J_isub dX0_perform__253 ?_
                          exact J_ireturn rfl (Nat.le_refl _) (Nat.le_refl _) rfl dX0_perform__254
                        · exact fun _ h => absurd h List.not_mem_nil
  · refine J_iconst (v := nI 0) dX0_perform__255 (by decide) ?_
    exact J_ireturn rfl (Nat.le_refl _) (Nat.le_refl _) rfl dX0_perform__256
theorem dX0_from_0 : decode cX0_from 0 = .ok (.iload 4, 2) := by decide +kernel
theorem dX0_from_2 : decode cX0_from 2 = .ok (.bipush 20, 2) := by decide +kernel
theorem dX0_from_4 : decode cX0_from 4 = .ok (.if_icmp .le 5, 3) := by decide +kernel
theorem dX0_from_7 : decode cX0_from 7 = .ok (.iconst 0, 1) := by decide +kernel
theorem dX0_from_8 : decode cX0_from 8 = .ok (.ireturn, 1) := by decide +kernel
theorem dX0_from_9 : decode cX0_from 9 = .ok (.iload_n 1, 1) := by decide +kernel
theorem dX0_from_10 : decode cX0_from 10 = .ok (.iload_n 2, 1) := by decide +kernel
theorem dX0_from_11 : decode cX0_from 11 = .ok (.invokestatic 43, 3) := by decide +kernel
theorem dX0_from_14 : decode cX0_from 14 = .ok (.istore 5, 2) := by decide +kernel
theorem dX0_from_16 : decode cX0_from 16 = .ok (.aload_n 0, 1) := by decide +kernel
theorem dX0_from_17 : decode cX0_from 17 = .ok (.getfield 15, 3) := by decide +kernel
theorem dX0_from_20 : decode cX0_from 20 = .ok (.aload_n 0, 1) := by decide +kernel
theorem dX0_from_21 : decode cX0_from 21 = .ok (.getfield 11, 3) := by decide +kernel
theorem dX0_from_24 : decode cX0_from 24 = .ok (.arraylength, 1) := by decide +kernel
theorem dX0_from_25 : decode cX0_from 25 = .ok (.if_icmp .ge 14, 3) := by decide +kernel
theorem dX0_from_28 : decode cX0_from 28 = .ok (.aload_n 0, 1) := by decide +kernel
theorem dX0_from_29 : decode cX0_from 29 = .ok (.getfield 11, 3) := by decide +kernel
theorem dX0_from_32 : decode cX0_from 32 = .ok (.aload_n 0, 1) := by decide +kernel
theorem dX0_from_33 : decode cX0_from 33 = .ok (.getfield 15, 3) := by decide +kernel
theorem dX0_from_36 : decode cX0_from 36 = .ok (.iload 5, 2) := by decide +kernel
theorem dX0_from_38 : decode cX0_from 38 = .ok (.iastore, 1) := by decide +kernel
theorem dX0_from_39 : decode cX0_from 39 = .ok (.aload_n 0, 1) := by decide +kernel
theorem dX0_from_40 : decode cX0_from 40 = .ok (.dup, 1) := by decide +kernel
theorem dX0_from_41 : decode cX0_from 41 = .ok (.getfield 15, 3) := by decide +kernel
theorem dX0_from_44 : decode cX0_from 44 = .ok (.iconst 1, 1) := by decide +kernel
theorem dX0_from_45 : decode cX0_from 45 = .ok (.iadd, 1) := by decide +kernel
theorem dX0_from_46 : decode cX0_from 46 = .ok (.putfield 15, 3) := by decide +kernel
theorem dX0_from_49 : decode cX0_from 49 = .ok (.aload_n 0, 1) := by decide +kernel
theorem dX0_from_50 : decode cX0_from 50 = .ok (.iload 5, 2) := by decide +kernel
theorem dX0_from_52 : decode cX0_from 52 = .ok (.iload_n 3, 1) := by decide +kernel
theorem dX0_from_53 : decode cX0_from 53 = .ok (.iload 4, 2) := by decide +kernel
theorem dX0_from_55 : decode cX0_from 55 = .ok (.iconst 1, 1) := by decide +kernel
theorem dX0_from_56 : decode cX0_from 56 = .ok (.iadd, 1) := by decide +kernel
theorem dX0_from_57 : decode cX0_from 57 = .ok (.invokevirtual 46, 3) := by decide +kernel
theorem dX0_from_60 : decode cX0_from 60 = .ok (.ireturn, 1) := by decide +kernel
set_option maxRecDepth 100000 in
set_option maxHeartbeats 4000000 in
theorem t0_from_j39 (G : Gm) (t : Nat) (N : Nat) (pv : Int32 → Int32 → Int32 → Int32 → St → Option (Int32 × St)) (dv : Nat) (hdv : 3 ≤ dv) (hpv : ∀ (x1 : Int32) (x2 : Int32) (x3 : Int32) (x4 : Int32)  (S : St), Ct G YX0_from yX0_from dv 0 0 (fI t) (pv x1 x2 x3 x4 S) [vR (some 37), vI x1, vI x2, vI x3, vI x4] (MM t S)) (x3 : Int32) (x4 : Int32) (x5 : Int32)    : ∀  (S : St), J G YX0_from (dv + 3) 0 0 (fI t) 0 0 39 [some (vR (some 37)), none, none, some (vI x3), some (vI x4), some (vI x5)] [] (MM t S) (f0_from_j39 N pv x3 x4 x5 S) := by
  intro S
  unfold f0_from_j39
  refine J_aload_n dX0_from_39 rfl rfl ?_
  refine J_dup dX0_from_40 rfl ?_
  refine K_getI cf0 flX0_15 (sq 37 rfl) (Or.inl rfl) dX0_from_41 ?_
  refine J_iconst (v := nI 1) dX0_from_44 (by decide) ?_
  refine J_iadd dX0_from_45 ?_
  refine K_putI cf0 flX0_15 (sq 37 rfl) rfl dX0_from_46 ?_
  refine J_ltS (fun S1 _ => ?_)
  refine J_aload_n dX0_from_49 rfl rfl ?_
  refine J_iload dX0_from_50 rfl ?_
  refine J_iload_n dX0_from_52 rfl rfl ?_
  refine J_iload dX0_from_53 rfl ?_
  refine J_iconst (v := nI 1) dX0_from_55 (by decide) ?_
  refine J_iadd dX0_from_56 ?_
  refine K_callV_i (As := [vI x5, vI x3, vI (x4 + (nI 1))]) mcX0_perform_ mlX0_46 rfl (by decide) (sq 37 rfl) (ct0_perform_ G t N pv dv hdv hpv x5 x3 (x4 + (nI 1)) S1) rfl rfl (Nat.le_of_ble_eq_true rfl) (by omega) (Nat.le_of_ble_eq_true rfl) dX0_from_57 (fun q2 S3 => ?_)
  exact J_ireturn rfl (Nat.le_refl _) (Nat.le_refl _) rfl dX0_from_60
set_option maxRecDepth 100000 in
set_option maxHeartbeats 4000000 in
theorem ct0_from_b (G : Gm) (t : Nat) (N : Nat) (pv : Int32 → Int32 → Int32 → Int32 → St → Option (Int32 × St)) (dv : Nat) (hdv : 3 ≤ dv) (hpv : ∀ (x1 : Int32) (x2 : Int32) (x3 : Int32) (x4 : Int32)  (S : St), Ct G YX0_from yX0_from dv 0 0 (fI t) (pv x1 x2 x3 x4 S) [vR (some 37), vI x1, vI x2, vI x3, vI x4] (MM t S)) (x1 : Int32) (x2 : Int32) (x3 : Int32) (x4 : Int32)  (S : St) : Ct G YX0_from yX0_from (dv + 3) 0 0 (fI t) (f0_from_b N pv x1 x2 x3 x4 S) [vR (some 37), vI x1, vI x2, vI x3, vI x4] (MM t S) := by
  refine Ct_of_J [some (vR (some 37)), some (vI x1), some (vI x2), some (vI x3), some (vI x4), none] (by decide) rfl (fun h => by cases h) (Nat.le_of_ble_eq_true rfl) (And.intro rfl (And.intro rfl (And.intro rfl (And.intro rfl (And.intro rfl (trivial)))))) ?_
  unfold f0_from_b
  refine J_iload dX0_from_0 rfl ?_
  refine J_bipush (v := nI 20) dX0_from_2 (by decide) ?_
  refine J_icmp_le (tgt := 9) dX0_from_4 (by decide) (fun z1 => ?_) (fun z1 => ?_)
  · refine J_iload_n dX0_from_9 rfl rfl ?_
    refine J_iload_n dX0_from_10 rfl rfl ?_
    refine K_callS_i (As := [vI x1, vI x2]) mcX0_bodyOf mlX0_43 (ct0_bodyOf G t N x1 x2 S) rfl rfl (Nat.le_of_ble_eq_true rfl) (by omega) (Nat.le_of_ble_eq_true rfl) dX0_from_11 (fun q2 S3 => ?_)
    refine J_istore [some (vR (some 37)), some (vI x1), some (vI x2), some (vI x3), some (vI x4), some (vI q2)] dX0_from_14 (Nat.le_of_ble_eq_true rfl) rfl rfl ?_
    refine J_aload_n dX0_from_16 rfl rfl ?_
    refine K_getI cf0 flX0_15 (sq 37 rfl) (Or.inl rfl) dX0_from_17 ?_
    refine J_aload_n dX0_from_20 rfl rfl ?_
    refine K_getR (r := some (38)) cf0 flX0_11 (sq 37 rfl) rfl (Or.inr ⟨_, rfl⟩) dX0_from_21 ?_
    refine K_alen (v := nI 24) (sq 38 rfl) (by decide) rfl dX0_from_24 ?_
    refine J_icmp_ge (tgt := 39) dX0_from_25 (by decide) (fun z4 => ?_) (fun z4 => ?_)
    · exact J_sb (t0_from_j39 G t N pv dv hdv hpv x3 x4 q2 S3) (And.intro rfl (And.intro rfl (And.intro rfl (And.intro rfl (trivial)))))
    · refine J_aload_n dX0_from_28 rfl rfl ?_
      refine K_getR (r := some (38)) cf0 flX0_11 (sq 37 rfl) rfl (Or.inr ⟨_, rfl⟩) dX0_from_29 ?_
      refine J_aload_n dX0_from_32 rfl rfl ?_
      refine K_getI cf0 flX0_15 (sq 37 rfl) (Or.inl rfl) dX0_from_33 ?_
      refine J_iload dX0_from_36 rfl ?_
      refine K_iast (sq 38 rfl) dX0_from_38 ?_
      refine J_ltS (fun S5 _ => ?_)
      exact J_sb (t0_from_j39 G t N pv dv hdv hpv x3 x4 q2 S5) (And.intro rfl (And.intro rfl (And.intro rfl (And.intro rfl (trivial)))))
  · refine J_iconst (v := nI 0) dX0_from_7 (by decide) ?_
    exact J_ireturn rfl (Nat.le_refl _) (Nat.le_refl _) rfl dX0_from_8
theorem ct0_from (G : Gm) (t : Nat) (N : Nat) : ∀ (n : Nat) (x1 : Int32) (x2 : Int32) (x3 : Int32) (x4 : Int32)  (S : St), Ct G YX0_from yX0_from (3 * n + 3) 0 0 (fI t) (f0_from N n x1 x2 x3 x4 S) [vR (some 37), vI x1, vI x2, vI x3, vI x4] (MM t S)
  | 0, _, _, _, _, _ => fun u hu => absurd (show none = some u from hu) (by simp)
  | n + 1, x1, x2, x3, x4, S => by
    rw [show 3 * (n + 1) + 3 = 3 * n + 3 + 3 by omega]
    exact ct0_from_b G t N (f0_from N n) _ (by omega) (ct0_from G t N n) x1 x2 x3 x4 S
theorem dX0_perform_0 : decode cX0_perform 0 = .ok (.aload_n 0, 1) := by decide +kernel
theorem dX0_perform_1 : decode cX0_perform 1 = .ok (.iload_n 1, 1) := by decide +kernel
theorem dX0_perform_2 : decode cX0_perform 2 = .ok (.invokestatic 32, 3) := by decide +kernel
theorem dX0_perform_5 : decode cX0_perform 5 = .ok (.putfield 19, 3) := by decide +kernel
theorem dX0_perform_8 : decode cX0_perform 8 = .ok (.aload_n 0, 1) := by decide +kernel
theorem dX0_perform_9 : decode cX0_perform 9 = .ok (.iload_n 1, 1) := by decide +kernel
theorem dX0_perform_10 : decode cX0_perform 10 = .ok (.putfield 22, 3) := by decide +kernel
theorem dX0_perform_13 : decode cX0_perform 13 = .ok (.aload_n 0, 1) := by decide +kernel
theorem dX0_perform_14 : decode cX0_perform 14 = .ok (.iload_n 2, 1) := by decide +kernel
theorem dX0_perform_15 : decode cX0_perform 15 = .ok (.putfield 25, 3) := by decide +kernel
theorem dX0_perform_18 : decode cX0_perform 18 = .ok (.aload_n 0, 1) := by decide +kernel
theorem dX0_perform_19 : decode cX0_perform 19 = .ok (.aload_n 0, 1) := by decide +kernel
theorem dX0_perform_20 : decode cX0_perform 20 = .ok (.getfield 19, 3) := by decide +kernel
theorem dX0_perform_23 : decode cX0_perform 23 = .ok (.iload_n 3, 1) := by decide +kernel
theorem dX0_perform_24 : decode cX0_perform 24 = .ok (.iload 4, 2) := by decide +kernel
theorem dX0_perform_26 : decode cX0_perform 26 = .ok (.iconst 0, 1) := by decide +kernel
theorem dX0_perform_27 : decode cX0_perform 27 = .ok (.invokevirtual 35, 3) := by decide +kernel
theorem dX0_perform_30 : decode cX0_perform 30 = .ok (.ireturn, 1) := by decide +kernel
set_option maxRecDepth 100000 in
set_option maxHeartbeats 4000000 in
theorem ct0_perform (G : Gm) (t : Nat) (N : Nat) (x1 : Int32) (x2 : Int32) (x3 : Int32) (x4 : Int32)  (S : St) : Ct G YX0_perform yX0_perform 40 0 0 (fI t) (f0_perform N x1 x2 x3 x4 S) [vR (some 37), vI x1, vI x2, vI x3, vI x4] (MM t S) := by
  refine Ct_of_J [some (vR (some 37)), some (vI x1), some (vI x2), some (vI x3), some (vI x4)] (by decide) rfl (fun h => by cases h) (Nat.le_of_ble_eq_true rfl) (And.intro rfl (And.intro rfl (And.intro rfl (And.intro rfl (And.intro rfl (trivial)))))) ?_
  unfold f0_perform
  refine J_aload_n dX0_perform_0 rfl rfl ?_
  refine J_iload_n dX0_perform_1 rfl rfl ?_
  refine K_callS_i (As := [vI x1]) mcX0_kindOf mlX0_32 (ct0_kindOf G t x1 S) rfl rfl (Nat.le_of_ble_eq_true rfl) (by decide) (Nat.le_of_ble_eq_true rfl) dX0_perform_2 (fun q1 S2 => ?_)
  refine K_putI cf0 flX0_19 (sq 37 rfl) rfl dX0_perform_5 ?_
  refine J_ltS (fun S3 _ => ?_)
  refine J_aload_n dX0_perform_8 rfl rfl ?_
  refine J_iload_n dX0_perform_9 rfl rfl ?_
  refine K_putI cf0 flX0_22 (sq 37 rfl) rfl dX0_perform_10 ?_
  refine J_ltS (fun S4 _ => ?_)
  refine J_aload_n dX0_perform_13 rfl rfl ?_
  refine J_iload_n dX0_perform_14 rfl rfl ?_
  refine K_putI cf0 flX0_25 (sq 37 rfl) rfl dX0_perform_15 ?_
  refine J_ltS (fun S5 _ => ?_)
  refine J_aload_n dX0_perform_18 rfl rfl ?_
  refine J_aload_n dX0_perform_19 rfl rfl ?_
  refine K_getI cf0 flX0_19 (sq 37 rfl) (Or.inl rfl) dX0_perform_20 ?_
  refine J_iload_n dX0_perform_23 rfl rfl ?_
  refine J_iload dX0_perform_24 rfl ?_
  refine J_iconst (v := nI 0) dX0_perform_26 (by decide) ?_
  refine K_callV_i (As := [vI (S5.1 37 2), vI x3, vI x4, vI (nI 0)]) mcX0_from mlX0_35 rfl (by decide) (sq 37 rfl) (ct0_from G t N 12 (S5.1 37 2) x3 x4 (nI 0) S5) rfl rfl (Nat.le_of_ble_eq_true rfl) (by decide) (Nat.le_of_ble_eq_true rfl) dX0_perform_27 (fun q6 S7 => ?_)
  exact J_ireturn rfl (Nat.le_refl _) (Nat.le_refl _) rfl dX0_perform_30
