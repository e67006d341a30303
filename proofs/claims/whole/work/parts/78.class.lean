theorem dX11_sumOfDigits_0 : decode cX11_sumOfDigits 0 = .ok (.iconst 0, 1) := by decide +kernel
theorem dX11_sumOfDigits_1 : decode cX11_sumOfDigits 1 = .ok (.istore_n 1, 1) := by decide +kernel
theorem dX11_sumOfDigits_2 : decode cX11_sumOfDigits 2 = .ok (.iload_n 0, 1) := by decide +kernel
theorem dX11_sumOfDigits_3 : decode cX11_sumOfDigits 3 = .ok (.istore_n 2, 1) := by decide +kernel
theorem dX11_sumOfDigits_4 : decode cX11_sumOfDigits 4 = .ok (.iconst 0, 1) := by decide +kernel
theorem dX11_sumOfDigits_5 : decode cX11_sumOfDigits 5 = .ok (.istore_n 3, 1) := by decide +kernel
theorem dX11_sumOfDigits_6 : decode cX11_sumOfDigits 6 = .ok (.iload_n 3, 1) := by decide +kernel
theorem dX11_sumOfDigits_7 : decode cX11_sumOfDigits 7 = .ok (.bipush 8, 2) := by decide +kernel
theorem dX11_sumOfDigits_9 : decode cX11_sumOfDigits 9 = .ok (.if_icmp .ge 43, 3) := by decide +kernel
theorem dX11_sumOfDigits_12 : decode cX11_sumOfDigits 12 = .ok (.iload_n 2, 1) := by decide +kernel
theorem dX11_sumOfDigits_13 : decode cX11_sumOfDigits 13 = .ok (.bipush 10, 2) := by decide +kernel
theorem dX11_sumOfDigits_15 : decode cX11_sumOfDigits 15 = .ok (.irem, 1) := by decide +kernel
theorem dX11_sumOfDigits_16 : decode cX11_sumOfDigits 16 = .ok (.istore 4, 2) := by decide +kernel
theorem dX11_sumOfDigits_18 : decode cX11_sumOfDigits 18 = .ok (.iload 4, 2) := by decide +kernel
theorem dX11_sumOfDigits_20 : decode cX11_sumOfDigits 20 = .ok (.iconst 1, 1) := by decide +kernel
theorem dX11_sumOfDigits_21 : decode cX11_sumOfDigits 21 = .ok (.if_icmp .lt 10, 3) := by decide +kernel
theorem dX11_sumOfDigits_24 : decode cX11_sumOfDigits 24 = .ok (.iload 4, 2) := by decide +kernel
theorem dX11_sumOfDigits_26 : decode cX11_sumOfDigits 26 = .ok (.bipush 6, 2) := by decide +kernel
theorem dX11_sumOfDigits_28 : decode cX11_sumOfDigits 28 = .ok (.if_icmp .le 5, 3) := by decide +kernel
theorem dX11_sumOfDigits_31 : decode cX11_sumOfDigits 31 = .ok (.iconst (-1), 1) := by decide +kernel
theorem dX11_sumOfDigits_32 : decode cX11_sumOfDigits 32 = .ok (.ireturn, 1) := by decide +kernel
theorem dX11_sumOfDigits_33 : decode cX11_sumOfDigits 33 = .ok (.iload_n 1, 1) := by decide +kernel
theorem dX11_sumOfDigits_34 : decode cX11_sumOfDigits 34 = .ok (.bipush 64, 2) := by decide +kernel
theorem dX11_sumOfDigits_36 : decode cX11_sumOfDigits 36 = .ok (.iload 4, 2) := by decide +kernel
theorem dX11_sumOfDigits_38 : decode cX11_sumOfDigits 38 = .ok (.ishr, 1) := by decide +kernel
theorem dX11_sumOfDigits_39 : decode cX11_sumOfDigits 39 = .ok (.iadd, 1) := by decide +kernel
theorem dX11_sumOfDigits_40 : decode cX11_sumOfDigits 40 = .ok (.istore_n 1, 1) := by decide +kernel
theorem dX11_sumOfDigits_41 : decode cX11_sumOfDigits 41 = .ok (.iload_n 2, 1) := by decide +kernel
theorem dX11_sumOfDigits_42 : decode cX11_sumOfDigits 42 = .ok (.bipush 10, 2) := by decide +kernel
theorem dX11_sumOfDigits_44 : decode cX11_sumOfDigits 44 = .ok (.idiv, 1) := by decide +kernel
theorem dX11_sumOfDigits_45 : decode cX11_sumOfDigits 45 = .ok (.istore_n 2, 1) := by decide +kernel
theorem dX11_sumOfDigits_46 : decode cX11_sumOfDigits 46 = .ok (.iinc 3 1, 3) := by decide +kernel
theorem dX11_sumOfDigits_49 : decode cX11_sumOfDigits 49 = .ok (.goto (-43), 3) := by decide +kernel
theorem dX11_sumOfDigits_52 : decode cX11_sumOfDigits 52 = .ok (.iload_n 2, 1) := by decide +kernel
theorem dX11_sumOfDigits_53 : decode cX11_sumOfDigits 53 = .ok (.ifCond .ne 7, 3) := by decide +kernel
theorem dX11_sumOfDigits_56 : decode cX11_sumOfDigits 56 = .ok (.iload_n 1, 1) := by decide +kernel
theorem dX11_sumOfDigits_57 : decode cX11_sumOfDigits 57 = .ok (.goto 4, 3) := by decide +kernel
theorem dX11_sumOfDigits_60 : decode cX11_sumOfDigits 60 = .ok (.iconst (-1), 1) := by decide +kernel
theorem dX11_sumOfDigits_61 : decode cX11_sumOfDigits 61 = .ok (.ireturn, 1) := by decide +kernel
set_option maxRecDepth 100000 in
set_option maxHeartbeats 4000000 in
theorem t11_sumOfDigits_h6 (G : Gm) (t : Nat) (N : Nat)     : ∀ (n : Nat) (x1 : Int32) (x2 : Int32) (x3 : Int32) (S : St), J G YX11_sumOfDigits 1 0 0 (fI t) 0 0 6 [none, some (vI x1), some (vI x2), some (vI x3), none] [] (MM t S) (f11_sumOfDigits_h6 N n x1 x2 x3 S) := by
  intro n
  induction n with
  | zero => intro x1 x2 x3 S; exact J_none
  | succ n ih =>
    intro x1 x2 x3 S
    rw [f11_sumOfDigits_h6]
    refine J_iload_n dX11_sumOfDigits_6 rfl rfl ?_
    refine J_bipush (v := nI 8) dX11_sumOfDigits_7 (by decide) ?_
    refine J_icmp_ge (tgt := 52) dX11_sumOfDigits_9 (by decide) (fun z1 => ?_) (fun z1 => ?_)
    · refine J_iload_n dX11_sumOfDigits_52 rfl rfl ?_
      refine J_if_ne (tgt := 60) dX11_sumOfDigits_53 (by decide) (fun z2 => ?_) (fun z2 => ?_)
      · refine J_iload_n dX11_sumOfDigits_56 rfl rfl ?_
        refine J_goto (tgt := 61) dX11_sumOfDigits_57 (by decide) ?_
        exact J_ireturn rfl (Nat.le_refl _) (Nat.le_refl _) rfl dX11_sumOfDigits_61
      · refine J_iconst (v := (-1)) dX11_sumOfDigits_60 (by decide) ?_
        exact J_ireturn rfl (Nat.le_refl _) (Nat.le_refl _) rfl dX11_sumOfDigits_61
    · refine J_iload_n dX11_sumOfDigits_12 rfl rfl ?_
      refine J_bipush (v := nI 10) dX11_sumOfDigits_13 (by decide) ?_
      refine J_irem (by decide) dX11_sumOfDigits_15 ?_
      refine J_ltI (fun v3 _ => ?_)
      refine J_istore [none, some (vI x1), some (vI x2), some (vI x3), some (vI v3)] dX11_sumOfDigits_16 (Nat.le_of_ble_eq_true rfl) rfl rfl ?_
      refine J_iload dX11_sumOfDigits_18 rfl ?_
      refine J_iconst (v := nI 1) dX11_sumOfDigits_20 (by decide) ?_
      refine J_icmp_lt (tgt := 31) dX11_sumOfDigits_21 (by decide) (fun z4 => ?_) (fun z4 => ?_)
      · refine J_iconst (v := (-1)) dX11_sumOfDigits_31 (by decide) ?_
        exact J_ireturn rfl (Nat.le_refl _) (Nat.le_refl _) rfl dX11_sumOfDigits_32
      · refine J_iload dX11_sumOfDigits_24 rfl ?_
        refine J_bipush (v := nI 6) dX11_sumOfDigits_26 (by decide) ?_
        refine J_icmp_le (tgt := 33) dX11_sumOfDigits_28 (by decide) (fun z5 => ?_) (fun z5 => ?_)
        · refine J_iload_n dX11_sumOfDigits_33 rfl rfl ?_
          refine J_bipush (v := nI 64) dX11_sumOfDigits_34 (by decide) ?_
          refine J_iload dX11_sumOfDigits_36 rfl ?_
          refine J_ishr dX11_sumOfDigits_38 ?_
          refine J_iadd dX11_sumOfDigits_39 ?_
          refine J_ltI (fun v6 _ => ?_)
          refine J_istore_n [none, some (vI v6), some (vI x2), some (vI x3), some (vI v3)] dX11_sumOfDigits_40 rfl (Nat.le_of_ble_eq_true rfl) rfl rfl ?_
          refine J_iload_n dX11_sumOfDigits_41 rfl rfl ?_
          refine J_bipush (v := nI 10) dX11_sumOfDigits_42 (by decide) ?_
          refine J_idiv (by decide) dX11_sumOfDigits_44 ?_
          refine J_ltI (fun v7 _ => ?_)
          refine J_istore_n [none, some (vI v6), some (vI v7), some (vI x3), some (vI v3)] dX11_sumOfDigits_45 rfl (Nat.le_of_ble_eq_true rfl) rfl rfl ?_
          refine J_iinc (v := x3 + nI 1) [none, some (vI v6), some (vI v7), some (vI (x3 + nI 1)), some (vI v3)] dX11_sumOfDigits_46 rfl rfl (Nat.le_of_ble_eq_true rfl) rfl rfl ?_
          refine J_goto (tgt := 6) dX11_sumOfDigits_49 (by decide) ?_
          exact J_sb (ih v6 v7 (x3 + nI 1) S) (And.intro rfl (And.intro rfl (And.intro rfl (trivial))))
        · refine J_iconst (v := (-1)) dX11_sumOfDigits_31 (by decide) ?_
          exact J_ireturn rfl (Nat.le_refl _) (Nat.le_refl _) rfl dX11_sumOfDigits_32
set_option maxRecDepth 100000 in
set_option maxHeartbeats 4000000 in
theorem ct11_sumOfDigits (G : Gm) (t : Nat) (N : Nat) (x0 : Int32)  (S : St) : Ct G YX11_sumOfDigits yX11_sumOfDigits 1 0 0 (fI t) (f11_sumOfDigits N x0 S) [vI x0] (MM t S) := by
  refine Ct_of_J [some (vI x0), none, none, none, none] (by decide) rfl (fun h => by cases h) (Nat.le_of_ble_eq_true rfl) (And.intro rfl (trivial)) ?_
  unfold f11_sumOfDigits
  refine J_iconst (v := nI 0) dX11_sumOfDigits_0 (by decide) ?_
  refine J_istore_n [some (vI x0), some (vI (nI 0)), none, none, none] dX11_sumOfDigits_1 rfl (Nat.le_of_ble_eq_true rfl) rfl rfl ?_
  refine J_iload_n dX11_sumOfDigits_2 rfl rfl ?_
  refine J_istore_n [some (vI x0), some (vI (nI 0)), some (vI x0), none, none] dX11_sumOfDigits_3 rfl (Nat.le_of_ble_eq_true rfl) rfl rfl ?_
  refine J_iconst (v := nI 0) dX11_sumOfDigits_4 (by decide) ?_
  refine J_istore_n [some (vI x0), some (vI (nI 0)), some (vI x0), some (vI (nI 0)), none] dX11_sumOfDigits_5 rfl (Nat.le_of_ble_eq_true rfl) rfl rfl ?_
  exact J_sb (t11_sumOfDigits_h6 G t N N (nI 0) x0 (nI 0) S) (And.intro rfl (And.intro rfl (And.intro rfl (trivial))))
theorem dX11_language_0 : decode cX11_language 0 = .ok (.iload_n 1, 1) := by decide +kernel
theorem dX11_language_1 : decode cX11_language 1 = .ok (.invokestatic 110, 3) := by decide +kernel
theorem dX11_language_4 : decode cX11_language 4 = .ok (.istore_n 2, 1) := by decide +kernel
theorem dX11_language_5 : decode cX11_language 5 = .ok (.iload_n 2, 1) := by decide +kernel
theorem dX11_language_6 : decode cX11_language 6 = .ok (.iconst (-1), 1) := by decide +kernel
theorem dX11_language_7 : decode cX11_language 7 = .ok (.if_icmp .ne 5, 3) := by decide +kernel
theorem dX11_language_10 : decode cX11_language 10 = .ok (.iconst (-1), 1) := by decide +kernel
theorem dX11_language_11 : decode cX11_language 11 = .ok (.ireturn, 1) := by decide +kernel
theorem dX11_language_12 : decode cX11_language 12 = .ok (.iload_n 2, 1) := by decide +kernel
theorem dX11_language_13 : decode cX11_language 13 = .ok (.bipush 64, 2) := by decide +kernel
theorem dX11_language_15 : decode cX11_language 15 = .ok (.if_icmp .le 6, 3) := by decide +kernel
theorem dX11_language_18 : decode cX11_language 18 = .ok (.bipush (-5), 2) := by decide +kernel
theorem dX11_language_20 : decode cX11_language 20 = .ok (.ireturn, 1) := by decide +kernel
theorem dX11_language_21 : decode cX11_language 21 = .ok (.aload_n 0, 1) := by decide +kernel
theorem dX11_language_22 : decode cX11_language 22 = .ok (.getfield 15, 3) := by decide +kernel
theorem dX11_language_25 : decode cX11_language 25 = .ok (.bipush 6, 2) := by decide +kernel
theorem dX11_language_27 : decode cX11_language 27 = .ok (.if_icmp .lt 6, 3) := by decide +kernel
theorem dX11_language_30 : decode cX11_language 30 = .ok (.bipush (-3), 2) := by decide +kernel
theorem dX11_language_32 : decode cX11_language 32 = .ok (.ireturn, 1) := by decide +kernel
theorem dX11_language_33 : decode cX11_language 33 = .ok (.aload_n 0, 1) := by decide +kernel
theorem dX11_language_34 : decode cX11_language 34 = .ok (.getfield 11, 3) := by decide +kernel
theorem dX11_language_37 : decode cX11_language 37 = .ok (.aload_n 0, 1) := by decide +kernel
theorem dX11_language_38 : decode cX11_language 38 = .ok (.getfield 15, 3) := by decide +kernel
theorem dX11_language_41 : decode cX11_language 41 = .ok (.aaload, 1) := by decide +kernel
theorem dX11_language_42 : decode cX11_language 42 = .ok (.iload_n 1, 1) := by decide +kernel
theorem dX11_language_43 : decode cX11_language 43 = .ok (.invokevirtual 114, 3) := by decide +kernel
theorem dX11_language_46 : decode cX11_language 46 = .ok (.aload_n 0, 1) := by decide +kernel
theorem dX11_language_47 : decode cX11_language 47 = .ok (.dup, 1) := by decide +kernel
theorem dX11_language_48 : decode cX11_language 48 = .ok (.getfield 15, 3) := by decide +kernel
theorem dX11_language_51 : decode cX11_language 51 = .ok (.iconst 1, 1) := by decide +kernel
theorem dX11_language_52 : decode cX11_language 52 = .ok (.iadd, 1) := by decide +kernel
theorem dX11_language_53 : decode cX11_language 53 = .ok (.putfield 15, 3) := by decide +kernel
theorem dX11_language_56 : decode cX11_language 56 = .ok (.aload_n 0, 1) := by decide +kernel
theorem dX11_language_57 : decode cX11_language 57 = .ok (.getfield 15, 3) := by decide +kernel
theorem dX11_language_60 : decode cX11_language 60 = .ok (.iconst 1, 1) := by decide +kernel
theorem dX11_language_61 : decode cX11_language 61 = .ok (.isub, 1) := by decide +kernel
theorem dX11_language_62 : decode cX11_language 62 = .ok (.ireturn, 1) := by decide +kernel
set_option maxRecDepth 100000 in
set_option maxHeartbeats 4000000 in
theorem ct11_language (G : Gm) (t : Nat) (N : Nat) (x1 : Int32)  (S : St) : Ct G YX11_language yX11_language 5 0 0 (fI t) (f11_language N x1 S) [vR (some 0), vI x1] (MM t S) := by
  refine Ct_of_J [some (vR (some 0)), some (vI x1), none] (by decide) rfl (fun h => by cases h) (Nat.le_of_ble_eq_true rfl) (And.intro rfl (And.intro rfl (trivial))) ?_
  unfold f11_language
  refine J_iload_n dX11_language_0 rfl rfl ?_
  refine K_callS_i (As := [vI x1]) mcX11_sumOfDigits mlX11_110 (ct11_sumOfDigits G t N x1 S) rfl rfl (Nat.le_of_ble_eq_true rfl) (by decide) (Nat.le_of_ble_eq_true rfl) dX11_language_1 (fun q1 S2 => ?_)
  refine J_istore_n [some (vR (some 0)), some (vI x1), some (vI q1)] dX11_language_4 rfl (Nat.le_of_ble_eq_true rfl) rfl rfl ?_
  refine J_iload_n dX11_language_5 rfl rfl ?_
  refine J_iconst (v := (-1)) dX11_language_6 (by decide) ?_
  refine J_icmp_ne (tgt := 12) dX11_language_7 (by decide) (fun z3 => ?_) (fun z3 => ?_)
  · refine J_iconst (v := (-1)) dX11_language_10 (by decide) ?_
    exact J_ireturn rfl (Nat.le_refl _) (Nat.le_refl _) rfl dX11_language_11
  · refine J_iload_n dX11_language_12 rfl rfl ?_
    refine J_bipush (v := nI 64) dX11_language_13 (by decide) ?_
    refine J_icmp_le (tgt := 21) dX11_language_15 (by decide) (fun z4 => ?_) (fun z4 => ?_)
    · refine J_aload_n dX11_language_21 rfl rfl ?_
      refine K_getI cf11 flX11_15 (sq 0 rfl) (Or.inl rfl) dX11_language_22 ?_
      refine J_bipush (v := nI 6) dX11_language_25 (by decide) ?_
      refine J_icmp_lt (tgt := 33) dX11_language_27 (by decide) (fun z5 => ?_) (fun z5 => ?_)
      · refine J_aload_n dX11_language_33 rfl rfl ?_
        refine K_getR (r := some (1)) cf11 flX11_11 (sq 0 rfl) rfl (Or.inr ⟨_, rfl⟩) dX11_language_34 ?_
        refine J_aload_n dX11_language_37 rfl rfl ?_
        refine K_getI cf11 flX11_15 (sq 0 rfl) (Or.inl rfl) dX11_language_38 ?_
        refine K_aald (f := fun j => some (50 + 11 * j)) (sq 1 rfl) (by decide) (aq1) dX11_language_41 (fun i6 => ?_)
        refine J_iload_n dX11_language_42 rfl rfl ?_
        refine K_callV_v (As := [vI x1]) mcX3_beMadeOf mlX11_114 rfl (by decide) (sq3_0 (am1 i6)) (ct3_beMadeOf G t N (50 + 11 * (S2.1 0 1).toNatClampNeg) x1 (am1 i6) S2) rfl rfl (Nat.le_of_ble_eq_true rfl) (by decide) (Nat.le_of_ble_eq_true rfl) dX11_language_43 (fun q7 S8 => ?_)
        refine J_aload_n dX11_language_46 rfl rfl ?_
        refine J_dup dX11_language_47 rfl ?_
        refine K_getI cf11 flX11_15 (sq 0 rfl) (Or.inl rfl) dX11_language_48 ?_
        refine J_iconst (v := nI 1) dX11_language_51 (by decide) ?_
        refine J_iadd dX11_language_52 ?_
        refine K_putI cf11 flX11_15 (sq 0 rfl) rfl dX11_language_53 ?_
        refine J_ltS (fun S9 _ => ?_)
        refine J_aload_n dX11_language_56 rfl rfl ?_
        refine K_getI cf11 flX11_15 (sq 0 rfl) (Or.inl rfl) dX11_language_57 ?_
        refine J_iconst (v := nI 1) dX11_language_60 (by decide) ?_
        refine J_isub dX11_language_61 ?_
        exact J_ireturn rfl (Nat.le_refl _) (Nat.le_refl _) rfl dX11_language_62
      · refine J_bipush (v := (-3)) dX11_language_30 (by decide) ?_
        exact J_ireturn rfl (Nat.le_refl _) (Nat.le_refl _) rfl dX11_language_32
    · refine J_bipush (v := (-5)) dX11_language_18 (by decide) ?_
      exact J_ireturn rfl (Nat.le_refl _) (Nat.le_refl _) rfl dX11_language_20
theorem dX11_languageAt_0 : decode cX11_languageAt 0 = .ok (.iload_n 1, 1) := by decide +kernel
theorem dX11_languageAt_1 : decode cX11_languageAt 1 = .ok (.ifCond .lt 29, 3) := by decide +kernel
theorem dX11_languageAt_4 : decode cX11_languageAt 4 = .ok (.iload_n 1, 1) := by decide +kernel
theorem dX11_languageAt_5 : decode cX11_languageAt 5 = .ok (.aload_n 0, 1) := by decide +kernel
theorem dX11_languageAt_6 : decode cX11_languageAt 6 = .ok (.getfield 15, 3) := by decide +kernel
theorem dX11_languageAt_9 : decode cX11_languageAt 9 = .ok (.if_icmp .ge 21, 3) := by decide +kernel
theorem dX11_languageAt_12 : decode cX11_languageAt 12 = .ok (.iload_n 1, 1) := by decide +kernel
theorem dX11_languageAt_13 : decode cX11_languageAt 13 = .ok (.aload_n 0, 1) := by decide +kernel
theorem dX11_languageAt_14 : decode cX11_languageAt 14 = .ok (.getfield 11, 3) := by decide +kernel
theorem dX11_languageAt_17 : decode cX11_languageAt 17 = .ok (.arraylength, 1) := by decide +kernel
theorem dX11_languageAt_18 : decode cX11_languageAt 18 = .ok (.if_icmp .ge 12, 3) := by decide +kernel
theorem dX11_languageAt_21 : decode cX11_languageAt 21 = .ok (.aload_n 0, 1) := by decide +kernel
theorem dX11_languageAt_22 : decode cX11_languageAt 22 = .ok (.getfield 11, 3) := by decide +kernel
theorem dX11_languageAt_25 : decode cX11_languageAt 25 = .ok (.iload_n 1, 1) := by decide +kernel
theorem dX11_languageAt_26 : decode cX11_languageAt 26 = .ok (.aaload, 1) := by decide +kernel
theorem dX11_languageAt_27 : decode cX11_languageAt 27 = .ok (.goto 4, 3) := by decide +kernel
theorem dX11_languageAt_30 : decode cX11_languageAt 30 = .ok (.aconst_null, 1) := by decide +kernel
theorem dX11_languageAt_31 : decode cX11_languageAt 31 = .ok (.areturn, 1) := by decide +kernel
set_option maxRecDepth 100000 in
set_option maxHeartbeats 4000000 in
theorem ct11_languageAt (G : Gm) (t : Nat)  (x1 : Int32)  (S : St) : Ct G YX11_languageAt yX11_languageAt 1 0 0 (fR t) (f11_languageAt x1 S) [vR (some 0), vI x1] (MM t S) := by
  refine Ct_of_J [some (vR (some 0)), some (vI x1)] (by decide) rfl (fun h => by cases h) (Nat.le_of_ble_eq_true rfl) (And.intro rfl (And.intro rfl (trivial))) ?_
  unfold f11_languageAt
  refine J_iload_n dX11_languageAt_0 rfl rfl ?_
  refine J_if_lt (tgt := 30) dX11_languageAt_1 (by decide) (fun z1 => ?_) (fun z1 => ?_)
  · refine J_aconst_null dX11_languageAt_30 ?_
    exact J_areturn rfl (Nat.le_refl _) (Nat.le_refl _) rfl dX11_languageAt_31
  · refine J_iload_n dX11_languageAt_4 rfl rfl ?_
    refine J_aload_n dX11_languageAt_5 rfl rfl ?_
    refine K_getI cf11 flX11_15 (sq 0 rfl) (Or.inl rfl) dX11_languageAt_6 ?_
    refine J_icmp_ge (tgt := 30) dX11_languageAt_9 (by decide) (fun z2 => ?_) (fun z2 => ?_)
    · refine J_aconst_null dX11_languageAt_30 ?_
      exact J_areturn rfl (Nat.le_refl _) (Nat.le_refl _) rfl dX11_languageAt_31
    · refine J_iload_n dX11_languageAt_12 rfl rfl ?_
      refine J_aload_n dX11_languageAt_13 rfl rfl ?_
      refine K_getR (r := some (1)) cf11 flX11_11 (sq 0 rfl) rfl (Or.inr ⟨_, rfl⟩) dX11_languageAt_14 ?_
      refine K_alen (v := nI 6) (sq 1 rfl) (by decide) rfl dX11_languageAt_17 ?_
      refine J_icmp_ge (tgt := 30) dX11_languageAt_18 (by decide) (fun z3 => ?_) (fun z3 => ?_)
      · refine J_aconst_null dX11_languageAt_30 ?_
        exact J_areturn rfl (Nat.le_refl _) (Nat.le_refl _) rfl dX11_languageAt_31
      · refine J_aload_n dX11_languageAt_21 rfl rfl ?_
        refine K_getR (r := some (1)) cf11 flX11_11 (sq 0 rfl) rfl (Or.inr ⟨_, rfl⟩) dX11_languageAt_22 ?_
        refine J_iload_n dX11_languageAt_25 rfl rfl ?_
        refine K_aald (f := fun j => some (50 + 11 * j)) (sq 1 rfl) (by decide) (aq1) dX11_languageAt_26 (fun i4 => ?_)
        refine J_goto (tgt := 31) dX11_languageAt_27 (by decide) ?_
        exact J_areturn rfl (Nat.le_refl _) (Nat.le_refl _) rfl dX11_languageAt_31
theorem dX11_of_0 : decode cX11_of 0 = .ok (.aload_n 0, 1) := by decide +kernel
theorem dX11_of_1 : decode cX11_of 1 = .ok (.iload_n 1, 1) := by decide +kernel
theorem dX11_of_2 : decode cX11_of 2 = .ok (.invokevirtual 118, 3) := by decide +kernel
theorem dX11_of_5 : decode cX11_of 5 = .ok (.astore_n 3, 1) := by decide +kernel
theorem dX11_of_6 : decode cX11_of 6 = .ok (.aload_n 3, 1) := by decide +kernel
theorem dX11_of_7 : decode cX11_of 7 = .ok (.ifnonnull 5, 3) := by decide +kernel
theorem dX11_of_10 : decode cX11_of 10 = .ok (.iconst (-1), 1) := by decide +kernel
theorem dX11_of_11 : decode cX11_of 11 = .ok (.ireturn, 1) := by decide +kernel
theorem dX11_of_12 : decode cX11_of 12 = .ok (.iload_n 2, 1) := by decide +kernel
theorem dX11_of_13 : decode cX11_of 13 = .ok (.ifCond .ne 8, 3) := by decide +kernel
theorem dX11_of_16 : decode cX11_of 16 = .ok (.aload_n 3, 1) := by decide +kernel
theorem dX11_of_17 : decode cX11_of 17 = .ok (.invokevirtual 122, 3) := by decide +kernel
theorem dX11_of_20 : decode cX11_of 20 = .ok (.ireturn, 1) := by decide +kernel
theorem dX11_of_21 : decode cX11_of 21 = .ok (.iload_n 2, 1) := by decide +kernel
theorem dX11_of_22 : decode cX11_of 22 = .ok (.iconst 1, 1) := by decide +kernel
theorem dX11_of_23 : decode cX11_of 23 = .ok (.if_icmp .ne 8, 3) := by decide +kernel
theorem dX11_of_26 : decode cX11_of 26 = .ok (.aload_n 3, 1) := by decide +kernel
theorem dX11_of_27 : decode cX11_of 27 = .ok (.invokevirtual 126, 3) := by decide +kernel
theorem dX11_of_30 : decode cX11_of 30 = .ok (.ireturn, 1) := by decide +kernel
theorem dX11_of_31 : decode cX11_of 31 = .ok (.iload_n 2, 1) := by decide +kernel
theorem dX11_of_32 : decode cX11_of 32 = .ok (.bipush 10, 2) := by decide +kernel
theorem dX11_of_34 : decode cX11_of 34 = .ok (.if_icmp .lt 23, 3) := by decide +kernel
theorem dX11_of_37 : decode cX11_of 37 = .ok (.aload_n 3, 1) := by decide +kernel
theorem dX11_of_38 : decode cX11_of 38 = .ok (.iload_n 2, 1) := by decide +kernel
theorem dX11_of_39 : decode cX11_of 39 = .ok (.bipush 10, 2) := by decide +kernel
theorem dX11_of_41 : decode cX11_of 41 = .ok (.isub, 1) := by decide +kernel
theorem dX11_of_42 : decode cX11_of 42 = .ok (.invokevirtual 129, 3) := by decide +kernel
theorem dX11_of_45 : decode cX11_of 45 = .ok (.ifCond .eq 12, 3) := by decide +kernel
theorem dX11_of_48 : decode cX11_of 48 = .ok (.aload_n 3, 1) := by decide +kernel
theorem dX11_of_49 : decode cX11_of 49 = .ok (.iload_n 2, 1) := by decide +kernel
theorem dX11_of_50 : decode cX11_of 50 = .ok (.bipush 10, 2) := by decide +kernel
theorem dX11_of_52 : decode cX11_of 52 = .ok (.isub, 1) := by decide +kernel
theorem dX11_of_53 : decode cX11_of 53 = .ok (.invokevirtual 133, 3) := by decide +kernel
theorem dX11_of_56 : decode cX11_of 56 = .ok (.ireturn, 1) := by decide +kernel
theorem dX11_of_57 : decode cX11_of 57 = .ok (.iload_n 2, 1) := by decide +kernel
theorem dX11_of_58 : decode cX11_of 58 = .ok (.bipush 30, 2) := by decide +kernel
theorem dX11_of_60 : decode cX11_of 60 = .ok (.if_icmp .lt 23, 3) := by decide +kernel
theorem dX11_of_63 : decode cX11_of 63 = .ok (.aload_n 3, 1) := by decide +kernel
theorem dX11_of_64 : decode cX11_of 64 = .ok (.iload_n 2, 1) := by decide +kernel
theorem dX11_of_65 : decode cX11_of 65 = .ok (.bipush 30, 2) := by decide +kernel
theorem dX11_of_67 : decode cX11_of 67 = .ok (.isub, 1) := by decide +kernel
theorem dX11_of_68 : decode cX11_of 68 = .ok (.invokevirtual 129, 3) := by decide +kernel
theorem dX11_of_71 : decode cX11_of 71 = .ok (.ifCond .eq 12, 3) := by decide +kernel
theorem dX11_of_74 : decode cX11_of 74 = .ok (.aload_n 3, 1) := by decide +kernel
theorem dX11_of_75 : decode cX11_of 75 = .ok (.iload_n 2, 1) := by decide +kernel
theorem dX11_of_76 : decode cX11_of 76 = .ok (.bipush 30, 2) := by decide +kernel
theorem dX11_of_78 : decode cX11_of 78 = .ok (.isub, 1) := by decide +kernel
theorem dX11_of_79 : decode cX11_of 79 = .ok (.invokevirtual 136, 3) := by decide +kernel
theorem dX11_of_82 : decode cX11_of 82 = .ok (.ireturn, 1) := by decide +kernel
theorem dX11_of_83 : decode cX11_of 83 = .ok (.iconst (-1), 1) := by decide +kernel
theorem dX11_of_84 : decode cX11_of 84 = .ok (.ireturn, 1) := by decide +kernel
set_option maxRecDepth 100000 in
set_option maxHeartbeats 4000000 in
theorem t11_of_j57 (G : Gm) (t : Nat) (N : Nat) (x2 : Int32) (a3 : Nat) (h3 : a3 ∈ ad3)   : ∀  (S : St), J G YX11_of 3 0 0 (fI t) 0 0 57 [none, none, some (vI x2), some (vR (some a3))] [] (MM t S) (f11_of_j57 N x2 a3 S) := by
  intro S
  unfold f11_of_j57
  refine J_iload_n dX11_of_57 rfl rfl ?_
  refine J_bipush (v := nI 30) dX11_of_58 (by decide) ?_
  refine J_icmp_lt (tgt := 83) dX11_of_60 (by decide) (fun z1 => ?_) (fun z1 => ?_)
  · refine J_iconst (v := (-1)) dX11_of_83 (by decide) ?_
    exact J_ireturn rfl (Nat.le_refl _) (Nat.le_refl _) rfl dX11_of_84
  · refine J_aload_n dX11_of_63 rfl rfl ?_
    refine J_iload_n dX11_of_64 rfl rfl ?_
    refine J_bipush (v := nI 30) dX11_of_65 (by decide) ?_
    refine J_isub dX11_of_67 ?_
    refine K_callV_i (As := [vI (x2 - (nI 30))]) mcX3_has mlX11_129 rfl (by decide) (sq3_0 h3) (ct3_has G t a3 (x2 - (nI 30)) h3 S) rfl rfl (Nat.le_of_ble_eq_true rfl) (by decide) (Nat.le_of_ble_eq_true rfl) dX11_of_68 (fun q2 S3 => ?_)
    refine J_if_eq (tgt := 83) dX11_of_71 (by decide) (fun z4 => ?_) (fun z4 => ?_)
    · refine J_iconst (v := (-1)) dX11_of_83 (by decide) ?_
      exact J_ireturn rfl (Nat.le_refl _) (Nat.le_refl _) rfl dX11_of_84
    · refine J_aload_n dX11_of_74 rfl rfl ?_
      refine J_iload_n dX11_of_75 rfl rfl ?_
      refine J_bipush (v := nI 30) dX11_of_76 (by decide) ?_
      refine J_isub dX11_of_78 ?_
      refine K_callV_i (As := [vI (x2 - (nI 30))]) mcX3_codeOf mlX11_136 rfl (by decide) (sq3_0 h3) (ct3_codeOf G t a3 (x2 - (nI 30)) h3 S3) rfl rfl (Nat.le_of_ble_eq_true rfl) (by decide) (Nat.le_of_ble_eq_true rfl) dX11_of_79 (fun q5 S6 => ?_)
      exact J_ireturn rfl (Nat.le_refl _) (Nat.le_refl _) rfl dX11_of_82
set_option maxRecDepth 100000 in
set_option maxHeartbeats 4000000 in
theorem ct11_of (G : Gm) (t : Nat) (N : Nat) (x1 : Int32) (x2 : Int32)  (S : St) : Ct G YX11_of yX11_of 3 0 0 (fI t) (f11_of N x1 x2 S) [vR (some 0), vI x1, vI x2] (MM t S) := by
  refine Ct_of_J [some (vR (some 0)), some (vI x1), some (vI x2), none] (by decide) rfl (fun h => by cases h) (Nat.le_of_ble_eq_true rfl) (And.intro rfl (And.intro rfl (And.intro rfl (trivial)))) ?_
  unfold f11_of
  refine J_aload_n dX11_of_0 rfl rfl ?_
  refine J_iload_n dX11_of_1 rfl rfl ?_
  refine K_callV_r (As := [vI x1]) mcX11_languageAt mlX11_118 rfl (by decide) (sq 0 rfl) (ct11_languageAt G t x1 S) rfl rfl (Nat.le_of_ble_eq_true rfl) (by decide) (Nat.le_of_ble_eq_true rfl) dX11_of_2 (fun q1 S2 => ?_)
  refine J_astore_n [some (vR (some 0)), some (vI x1), some (vI x2), some (vR q1)] dX11_of_5 rfl (Nat.le_of_ble_eq_true rfl) rfl rfl ?_
  refine J_aload_n dX11_of_6 rfl rfl ?_
  refine J_ifnonnull (tgt := 12) dX11_of_7 (by decide) (fun hr => ?_) (fun b3 hr => ?_)
  · subst hr
    refine J_iconst (v := (-1)) dX11_of_10 (by decide) ?_
    exact J_ireturn rfl (Nat.le_refl _) (Nat.le_refl _) rfl dX11_of_11
  · subst hr
    refine J_ckA (fun hb3 => ?_)
    refine J_iload_n dX11_of_12 rfl rfl ?_
    refine J_if_ne (tgt := 21) dX11_of_13 (by decide) (fun z4 => ?_) (fun z4 => ?_)
    · refine J_aload_n dX11_of_16 rfl rfl ?_
      refine K_callV_i (As := []) mcX3_howManyOrders mlX11_122 rfl (by decide) (sq3_0 hb3) (ct3_howManyOrders G t b3 hb3 S2) rfl rfl (Nat.le_of_ble_eq_true rfl) (by decide) (Nat.le_of_ble_eq_true rfl) dX11_of_17 (fun q14 S15 => ?_)
      exact J_ireturn rfl (Nat.le_refl _) (Nat.le_refl _) rfl dX11_of_20
    · refine J_iload_n dX11_of_21 rfl rfl ?_
      refine J_iconst (v := nI 1) dX11_of_22 (by decide) ?_
      refine J_icmp_ne (tgt := 31) dX11_of_23 (by decide) (fun z5 => ?_) (fun z5 => ?_)
      · refine J_aload_n dX11_of_26 rfl rfl ?_
        refine K_callV_i (As := []) mcX3_sum mlX11_126 rfl (by decide) (sq3_0 hb3) (ct3_sum G t N b3 hb3 S2) rfl rfl (Nat.le_of_ble_eq_true rfl) (by decide) (Nat.le_of_ble_eq_true rfl) dX11_of_27 (fun q12 S13 => ?_)
        exact J_ireturn rfl (Nat.le_refl _) (Nat.le_refl _) rfl dX11_of_30
      · refine J_iload_n dX11_of_31 rfl rfl ?_
        refine J_bipush (v := nI 10) dX11_of_32 (by decide) ?_
        refine J_icmp_lt (tgt := 57) dX11_of_34 (by decide) (fun z6 => ?_) (fun z6 => ?_)
        · exact J_sb (t11_of_j57 G t N x2 b3 hb3 S2) (And.intro rfl (And.intro rfl (trivial)))
        · refine J_aload_n dX11_of_37 rfl rfl ?_
          refine J_iload_n dX11_of_38 rfl rfl ?_
          refine J_bipush (v := nI 10) dX11_of_39 (by decide) ?_
          refine J_isub dX11_of_41 ?_
          refine K_callV_i (As := [vI (x2 - (nI 10))]) mcX3_has mlX11_129 rfl (by decide) (sq3_0 hb3) (ct3_has G t b3 (x2 - (nI 10)) hb3 S2) rfl rfl (Nat.le_of_ble_eq_true rfl) (by decide) (Nat.le_of_ble_eq_true rfl) dX11_of_42 (fun q7 S8 => ?_)
          refine J_if_eq (tgt := 57) dX11_of_45 (by decide) (fun z9 => ?_) (fun z9 => ?_)
          · exact J_sb (t11_of_j57 G t N x2 b3 hb3 S8) (And.intro rfl (And.intro rfl (trivial)))
          · refine J_aload_n dX11_of_48 rfl rfl ?_
            refine J_iload_n dX11_of_49 rfl rfl ?_
            refine J_bipush (v := nI 10) dX11_of_50 (by decide) ?_
            refine J_isub dX11_of_52 ?_
            refine K_callV_i (As := [vI (x2 - (nI 10))]) mcX3_bitsOf mlX11_133 rfl (by decide) (sq3_0 hb3) (ct3_bitsOf G t b3 (x2 - (nI 10)) hb3 S8) rfl rfl (Nat.le_of_ble_eq_true rfl) (by decide) (Nat.le_of_ble_eq_true rfl) dX11_of_53 (fun q10 S11 => ?_)
            exact J_ireturn rfl (Nat.le_refl _) (Nat.le_refl _) rfl dX11_of_56
theorem dX11_part_0 : decode cX11_part 0 = .ok (.aload_n 0, 1) := by decide +kernel
theorem dX11_part_1 : decode cX11_part 1 = .ok (.iload_n 1, 1) := by decide +kernel
theorem dX11_part_2 : decode cX11_part 2 = .ok (.invokevirtual 118, 3) := by decide +kernel
theorem dX11_part_5 : decode cX11_part 5 = .ok (.astore 4, 2) := by decide +kernel
theorem dX11_part_7 : decode cX11_part 7 = .ok (.aload 4, 2) := by decide +kernel
theorem dX11_part_9 : decode cX11_part 9 = .ok (.ifnull 18, 3) := by decide +kernel
theorem dX11_part_12 : decode cX11_part 12 = .ok (.iload_n 2, 1) := by decide +kernel
theorem dX11_part_13 : decode cX11_part 13 = .ok (.bipush 8, 2) := by decide +kernel
theorem dX11_part_15 : decode cX11_part 15 = .ok (.if_icmp .lt 12, 3) := by decide +kernel
theorem dX11_part_18 : decode cX11_part 18 = .ok (.aload 4, 2) := by decide +kernel
theorem dX11_part_20 : decode cX11_part 20 = .ok (.iload_n 2, 1) := by decide +kernel
theorem dX11_part_21 : decode cX11_part 21 = .ok (.invokevirtual 129, 3) := by decide +kernel
theorem dX11_part_24 : decode cX11_part 24 = .ok (.ifCond .ne 5, 3) := by decide +kernel
theorem dX11_part_27 : decode cX11_part 27 = .ok (.iconst (-1), 1) := by decide +kernel
theorem dX11_part_28 : decode cX11_part 28 = .ok (.ireturn, 1) := by decide +kernel
theorem dX11_part_29 : decode cX11_part 29 = .ok (.iload_n 3, 1) := by decide +kernel
theorem dX11_part_30 : decode cX11_part 30 = .ok (.iconst (-1), 1) := by decide +kernel
theorem dX11_part_31 : decode cX11_part 31 = .ok (.if_icmp .ne 10, 3) := by decide +kernel
theorem dX11_part_34 : decode cX11_part 34 = .ok (.aload 4, 2) := by decide +kernel
theorem dX11_part_36 : decode cX11_part 36 = .ok (.iload_n 2, 1) := by decide +kernel
theorem dX11_part_37 : decode cX11_part 37 = .ok (.invokevirtual 139, 3) := by decide +kernel
theorem dX11_part_40 : decode cX11_part 40 = .ok (.ireturn, 1) := by decide +kernel
theorem dX11_part_41 : decode cX11_part 41 = .ok (.iload_n 3, 1) := by decide +kernel
theorem dX11_part_42 : decode cX11_part 42 = .ok (.ifCond .lt 13, 3) := by decide +kernel
theorem dX11_part_45 : decode cX11_part 45 = .ok (.iload_n 3, 1) := by decide +kernel
theorem dX11_part_46 : decode cX11_part 46 = .ok (.aload 4, 2) := by decide +kernel
theorem dX11_part_48 : decode cX11_part 48 = .ok (.iload_n 2, 1) := by decide +kernel
theorem dX11_part_49 : decode cX11_part 49 = .ok (.invokevirtual 139, 3) := by decide +kernel
theorem dX11_part_52 : decode cX11_part 52 = .ok (.if_icmp .lt 5, 3) := by decide +kernel
theorem dX11_part_55 : decode cX11_part 55 = .ok (.iconst (-1), 1) := by decide +kernel
theorem dX11_part_56 : decode cX11_part 56 = .ok (.ireturn, 1) := by decide +kernel
theorem dX11_part_57 : decode cX11_part 57 = .ok (.aload 4, 2) := by decide +kernel
theorem dX11_part_59 : decode cX11_part 59 = .ok (.iload_n 2, 1) := by decide +kernel
theorem dX11_part_60 : decode cX11_part 60 = .ok (.iload_n 3, 1) := by decide +kernel
theorem dX11_part_61 : decode cX11_part 61 = .ok (.invokevirtual 142, 3) := by decide +kernel
theorem dX11_part_64 : decode cX11_part 64 = .ok (.ireturn, 1) := by decide +kernel
set_option maxRecDepth 100000 in
set_option maxHeartbeats 4000000 in
theorem ct11_part (G : Gm) (t : Nat)  (x1 : Int32) (x2 : Int32) (x3 : Int32)  (S : St) : Ct G YX11_part yX11_part 2 0 0 (fI t) (f11_part x1 x2 x3 S) [vR (some 0), vI x1, vI x2, vI x3] (MM t S) := by
  refine Ct_of_J [some (vR (some 0)), some (vI x1), some (vI x2), some (vI x3), none] (by decide) rfl (fun h => by cases h) (Nat.le_of_ble_eq_true rfl) (And.intro rfl (And.intro rfl (And.intro rfl (And.intro rfl (trivial))))) ?_
  unfold f11_part
  refine J_aload_n dX11_part_0 rfl rfl ?_
  refine J_iload_n dX11_part_1 rfl rfl ?_
  refine K_callV_r (As := [vI x1]) mcX11_languageAt mlX11_118 rfl (by decide) (sq 0 rfl) (ct11_languageAt G t x1 S) rfl rfl (Nat.le_of_ble_eq_true rfl) (by decide) (Nat.le_of_ble_eq_true rfl) dX11_part_2 (fun q1 S2 => ?_)
  refine J_astore [some (vR (some 0)), some (vI x1), some (vI x2), some (vI x3), some (vR q1)] dX11_part_5 (Nat.le_of_ble_eq_true rfl) rfl rfl ?_
  refine J_aload dX11_part_7 rfl ?_
  refine J_ifnull (tgt := 27) dX11_part_9 (by decide) (fun hr => ?_) (fun b3 hr => ?_)
  · subst hr
    refine J_iconst (v := (-1)) dX11_part_27 (by decide) ?_
    exact J_ireturn rfl (Nat.le_refl _) (Nat.le_refl _) rfl dX11_part_28
  · subst hr
    refine J_ckA (fun hb3 => ?_)
    refine J_iload_n dX11_part_12 rfl rfl ?_
    refine J_bipush (v := nI 8) dX11_part_13 (by decide) ?_
    refine J_icmp_lt (tgt := 27) dX11_part_15 (by decide) (fun z4 => ?_) (fun z4 => ?_)
    · refine J_iconst (v := (-1)) dX11_part_27 (by decide) ?_
      exact J_ireturn rfl (Nat.le_refl _) (Nat.le_refl _) rfl dX11_part_28
    · refine J_aload dX11_part_18 rfl ?_
      refine J_iload_n dX11_part_20 rfl rfl ?_
      refine K_callV_i (As := [vI x2]) mcX3_has mlX11_129 rfl (by decide) (sq3_0 hb3) (ct3_has G t b3 x2 hb3 S2) rfl rfl (Nat.le_of_ble_eq_true rfl) (by decide) (Nat.le_of_ble_eq_true rfl) dX11_part_21 (fun q5 S6 => ?_)
      refine J_if_ne (tgt := 29) dX11_part_24 (by decide) (fun z7 => ?_) (fun z7 => ?_)
      · refine J_iconst (v := (-1)) dX11_part_27 (by decide) ?_
        exact J_ireturn rfl (Nat.le_refl _) (Nat.le_refl _) rfl dX11_part_28
      · refine J_iload_n dX11_part_29 rfl rfl ?_
        refine J_iconst (v := (-1)) dX11_part_30 (by decide) ?_
        refine J_icmp_ne (tgt := 41) dX11_part_31 (by decide) (fun z8 => ?_) (fun z8 => ?_)
        · refine J_aload dX11_part_34 rfl ?_
          refine J_iload_n dX11_part_36 rfl rfl ?_
          refine K_callV_i (As := [vI x2]) mcX3_writtenLength mlX11_139 rfl (by decide) (sq3_0 hb3) (ct3_writtenLength G t b3 x2 hb3 S6) rfl rfl (Nat.le_of_ble_eq_true rfl) (by decide) (Nat.le_of_ble_eq_true rfl) dX11_part_37 (fun q15 S16 => ?_)
          exact J_ireturn rfl (Nat.le_refl _) (Nat.le_refl _) rfl dX11_part_40
        · refine J_iload_n dX11_part_41 rfl rfl ?_
          refine J_if_lt (tgt := 55) dX11_part_42 (by decide) (fun z9 => ?_) (fun z9 => ?_)
          · refine J_iconst (v := (-1)) dX11_part_55 (by decide) ?_
            exact J_ireturn rfl (Nat.le_refl _) (Nat.le_refl _) rfl dX11_part_56
          · refine J_iload_n dX11_part_45 rfl rfl ?_
            refine J_aload dX11_part_46 rfl ?_
            refine J_iload_n dX11_part_48 rfl rfl ?_
            refine K_callV_i (As := [vI x2]) mcX3_writtenLength mlX11_139 rfl (by decide) (sq3_0 hb3) (ct3_writtenLength G t b3 x2 hb3 S6) rfl rfl (Nat.le_of_ble_eq_true rfl) (by decide) (Nat.le_of_ble_eq_true rfl) dX11_part_49 (fun q10 S11 => ?_)
            refine J_icmp_lt (tgt := 57) dX11_part_52 (by decide) (fun z12 => ?_) (fun z12 => ?_)
            · refine J_aload dX11_part_57 rfl ?_
              refine J_iload_n dX11_part_59 rfl rfl ?_
              refine J_iload_n dX11_part_60 rfl rfl ?_
              refine K_callV_i (As := [vI x2, vI x3]) mcX3_written mlX11_142 rfl (by decide) (sq3_0 hb3) (ct3_written G t b3 x2 x3 hb3 S11) rfl rfl (Nat.le_of_ble_eq_true rfl) (by decide) (Nat.le_of_ble_eq_true rfl) dX11_part_61 (fun q13 S14 => ?_)
              exact J_ireturn rfl (Nat.le_refl _) (Nat.le_refl _) rfl dX11_part_64
            · refine J_iconst (v := (-1)) dX11_part_55 (by decide) ?_
              exact J_ireturn rfl (Nat.le_refl _) (Nat.le_refl _) rfl dX11_part_56
theorem dX11_clear_0 : decode cX11_clear 0 = .ok (.aload_n 0, 1) := by decide +kernel
theorem dX11_clear_1 : decode cX11_clear 1 = .ok (.getfield 22, 3) := by decide +kernel
theorem dX11_clear_4 : decode cX11_clear 4 = .ok (.invokevirtual 146, 3) := by decide +kernel
theorem dX11_clear_7 : decode cX11_clear 7 = .ok (.istore_n 1, 1) := by decide +kernel
theorem dX11_clear_8 : decode cX11_clear 8 = .ok (.aload_n 0, 1) := by decide +kernel
theorem dX11_clear_9 : decode cX11_clear 9 = .ok (.getfield 22, 3) := by decide +kernel
theorem dX11_clear_12 : decode cX11_clear 12 = .ok (.invokevirtual 149, 3) := by decide +kernel
theorem dX11_clear_15 : decode cX11_clear 15 = .ok (.iload_n 1, 1) := by decide +kernel
theorem dX11_clear_16 : decode cX11_clear 16 = .ok (.ireturn, 1) := by decide +kernel
set_option maxRecDepth 100000 in
set_option maxHeartbeats 4000000 in
theorem ct11_clear (G : Gm) (t : Nat)    (S : St) : Ct G YX11_clear yX11_clear 2 0 0 (fI t) (f11_clear S) [vR (some 0)] (MM t S) := by
  refine Ct_of_J [some (vR (some 0)), none] (by decide) rfl (fun h => by cases h) (Nat.le_of_ble_eq_true rfl) (And.intro rfl (trivial)) ?_
  unfold f11_clear
  refine J_aload_n dX11_clear_0 rfl rfl ?_
  refine K_getR (r := some (2)) cf11 flX11_22 (sq 0 rfl) rfl (Or.inl ⟨_, rfl⟩) dX11_clear_1 ?_
  refine K_callV_i (As := []) mcX6_length mlX11_146 rfl (by decide) (sq 2 rfl) (ct6_length G t 2 (by decide) S) rfl rfl (Nat.le_of_ble_eq_true rfl) (by decide) (Nat.le_of_ble_eq_true rfl) dX11_clear_4 (fun q1 S2 => ?_)
  refine J_istore_n [some (vR (some 0)), some (vI q1)] dX11_clear_7 rfl (Nat.le_of_ble_eq_true rfl) rfl rfl ?_
  refine J_aload_n dX11_clear_8 rfl rfl ?_
  refine K_getR (r := some (2)) cf11 flX11_22 (sq 0 rfl) rfl (Or.inl ⟨_, rfl⟩) dX11_clear_9 ?_
  refine K_callV_v (As := []) mcX6_beEmpty mlX11_149 rfl (by decide) (sq 2 rfl) (ct6_beEmpty G t 2 (by decide) S2) rfl rfl (Nat.le_of_ble_eq_true rfl) (by decide) (Nat.le_of_ble_eq_true rfl) dX11_clear_12 (fun q3 S4 => ?_)
  refine J_iload_n dX11_clear_15 rfl rfl ?_
  exact J_ireturn rfl (Nat.le_refl _) (Nat.le_refl _) rfl dX11_clear_16
theorem dX11_add_0 : decode cX11_add 0 = .ok (.iload_n 1, 1) := by decide +kernel
theorem dX11_add_1 : decode cX11_add 1 = .ok (.ifCond .lt 19, 3) := by decide +kernel
theorem dX11_add_4 : decode cX11_add 4 = .ok (.iload_n 1, 1) := by decide +kernel
theorem dX11_add_5 : decode cX11_add 5 = .ok (.bipush 12, 2) := by decide +kernel
theorem dX11_add_7 : decode cX11_add 7 = .ok (.if_icmp .ge 13, 3) := by decide +kernel
theorem dX11_add_10 : decode cX11_add 10 = .ok (.aload_n 0, 1) := by decide +kernel
theorem dX11_add_11 : decode cX11_add 11 = .ok (.getfield 22, 3) := by decide +kernel
theorem dX11_add_14 : decode cX11_add 14 = .ok (.invokevirtual 152, 3) := by decide +kernel
theorem dX11_add_17 : decode cX11_add 17 = .ok (.ifCond .eq 5, 3) := by decide +kernel
theorem dX11_add_20 : decode cX11_add 20 = .ok (.iconst (-1), 1) := by decide +kernel
theorem dX11_add_21 : decode cX11_add 21 = .ok (.ireturn, 1) := by decide +kernel
theorem dX11_add_22 : decode cX11_add 22 = .ok (.aload_n 0, 1) := by decide +kernel
theorem dX11_add_23 : decode cX11_add 23 = .ok (.getfield 22, 3) := by decide +kernel
theorem dX11_add_26 : decode cX11_add 26 = .ok (.iload_n 1, 1) := by decide +kernel
theorem dX11_add_27 : decode cX11_add 27 = .ok (.invokevirtual 156, 3) := by decide +kernel
theorem dX11_add_30 : decode cX11_add 30 = .ok (.ifCond .ne 6, 3) := by decide +kernel
theorem dX11_add_33 : decode cX11_add 33 = .ok (.bipush (-3), 2) := by decide +kernel
theorem dX11_add_35 : decode cX11_add 35 = .ok (.ireturn, 1) := by decide +kernel
theorem dX11_add_36 : decode cX11_add 36 = .ok (.aload_n 0, 1) := by decide +kernel
theorem dX11_add_37 : decode cX11_add 37 = .ok (.getfield 22, 3) := by decide +kernel
theorem dX11_add_40 : decode cX11_add 40 = .ok (.invokevirtual 146, 3) := by decide +kernel
theorem dX11_add_43 : decode cX11_add 43 = .ok (.ireturn, 1) := by decide +kernel
set_option maxRecDepth 100000 in
set_option maxHeartbeats 4000000 in
theorem ct11_add (G : Gm) (t : Nat)  (x1 : Int32)  (S : St) : Ct G YX11_add yX11_add 3 0 0 (fI t) (f11_add x1 S) [vR (some 0), vI x1] (MM t S) := by
  refine Ct_of_J [some (vR (some 0)), some (vI x1)] (by decide) rfl (fun h => by cases h) (Nat.le_of_ble_eq_true rfl) (And.intro rfl (And.intro rfl (trivial))) ?_
  unfold f11_add
  refine J_iload_n dX11_add_0 rfl rfl ?_
  refine J_if_lt (tgt := 20) dX11_add_1 (by decide) (fun z1 => ?_) (fun z1 => ?_)
  · refine J_iconst (v := (-1)) dX11_add_20 (by decide) ?_
    exact J_ireturn rfl (Nat.le_refl _) (Nat.le_refl _) rfl dX11_add_21
  · refine J_iload_n dX11_add_4 rfl rfl ?_
    refine J_bipush (v := nI 12) dX11_add_5 (by decide) ?_
    refine J_icmp_ge (tgt := 20) dX11_add_7 (by decide) (fun z2 => ?_) (fun z2 => ?_)
    · refine J_iconst (v := (-1)) dX11_add_20 (by decide) ?_
      exact J_ireturn rfl (Nat.le_refl _) (Nat.le_refl _) rfl dX11_add_21
    · refine J_aload_n dX11_add_10 rfl rfl ?_
      refine K_getR (r := some (2)) cf11 flX11_22 (sq 0 rfl) rfl (Or.inl ⟨_, rfl⟩) dX11_add_11 ?_
      refine K_callV_i (As := []) mcX6_isClosed mlX11_152 rfl (by decide) (sq 2 rfl) (ct6_isClosed G t 2 (by decide) S) rfl rfl (Nat.le_of_ble_eq_true rfl) (by decide) (Nat.le_of_ble_eq_true rfl) dX11_add_14 (fun q3 S4 => ?_)
      refine J_if_eq (tgt := 22) dX11_add_17 (by decide) (fun z5 => ?_) (fun z5 => ?_)
      · refine J_aload_n dX11_add_22 rfl rfl ?_
        refine K_getR (r := some (2)) cf11 flX11_22 (sq 0 rfl) rfl (Or.inl ⟨_, rfl⟩) dX11_add_23 ?_
        refine J_iload_n dX11_add_26 rfl rfl ?_
        refine K_callV_i (As := [vI x1]) mcX6_push mlX11_156 rfl (by decide) (sq 2 rfl) (ct6_push G t 2 x1 (by decide) S4) rfl rfl (Nat.le_of_ble_eq_true rfl) (by decide) (Nat.le_of_ble_eq_true rfl) dX11_add_27 (fun q6 S7 => ?_)
        refine J_if_ne (tgt := 36) dX11_add_30 (by decide) (fun z8 => ?_) (fun z8 => ?_)
        · refine J_bipush (v := (-3)) dX11_add_33 (by decide) ?_
          exact J_ireturn rfl (Nat.le_refl _) (Nat.le_refl _) rfl dX11_add_35
        · refine J_aload_n dX11_add_36 rfl rfl ?_
          refine K_getR (r := some (2)) cf11 flX11_22 (sq 0 rfl) rfl (Or.inl ⟨_, rfl⟩) dX11_add_37 ?_
          refine K_callV_i (As := []) mcX6_length mlX11_146 rfl (by decide) (sq 2 rfl) (ct6_length G t 2 (by decide) S7) rfl rfl (Nat.le_of_ble_eq_true rfl) (by decide) (Nat.le_of_ble_eq_true rfl) dX11_add_40 (fun q9 S10 => ?_)
          exact J_ireturn rfl (Nat.le_refl _) (Nat.le_refl _) rfl dX11_add_43
      · refine J_iconst (v := (-1)) dX11_add_20 (by decide) ?_
        exact J_ireturn rfl (Nat.le_refl _) (Nat.le_refl _) rfl dX11_add_21
theorem dX11_order_0 : decode cX11_order 0 = .ok (.iload_n 1, 1) := by decide +kernel
theorem dX11_order_1 : decode cX11_order 1 = .ok (.iconst (-1), 1) := by decide +kernel
theorem dX11_order_2 : decode cX11_order 2 = .ok (.if_icmp .ne 13, 3) := by decide +kernel
theorem dX11_order_5 : decode cX11_order 5 = .ok (.aload_n 0, 1) := by decide +kernel
theorem dX11_order_6 : decode cX11_order 6 = .ok (.getfield 22, 3) := by decide +kernel
theorem dX11_order_9 : decode cX11_order 9 = .ok (.invokevirtual 146, 3) := by decide +kernel
theorem dX11_order_12 : decode cX11_order 12 = .ok (.goto 11, 3) := by decide +kernel
theorem dX11_order_15 : decode cX11_order 15 = .ok (.aload_n 0, 1) := by decide +kernel
theorem dX11_order_16 : decode cX11_order 16 = .ok (.getfield 22, 3) := by decide +kernel
theorem dX11_order_19 : decode cX11_order 19 = .ok (.iload_n 1, 1) := by decide +kernel
theorem dX11_order_20 : decode cX11_order 20 = .ok (.invokevirtual 159, 3) := by decide +kernel
theorem dX11_order_23 : decode cX11_order 23 = .ok (.ireturn, 1) := by decide +kernel
set_option maxRecDepth 100000 in
set_option maxHeartbeats 4000000 in
theorem ct11_order (G : Gm) (t : Nat)  (x1 : Int32)  (S : St) : Ct G YX11_order yX11_order 2 0 0 (fI t) (f11_order x1 S) [vR (some 0), vI x1] (MM t S) := by
  refine Ct_of_J [some (vR (some 0)), some (vI x1)] (by decide) rfl (fun h => by cases h) (Nat.le_of_ble_eq_true rfl) (And.intro rfl (And.intro rfl (trivial))) ?_
  unfold f11_order
  refine J_iload_n dX11_order_0 rfl rfl ?_
  refine J_iconst (v := (-1)) dX11_order_1 (by decide) ?_
  refine J_icmp_ne (tgt := 15) dX11_order_2 (by decide) (fun z1 => ?_) (fun z1 => ?_)
  · refine J_aload_n dX11_order_5 rfl rfl ?_
    refine K_getR (r := some (2)) cf11 flX11_22 (sq 0 rfl) rfl (Or.inl ⟨_, rfl⟩) dX11_order_6 ?_
    refine K_callV_i (As := []) mcX6_length mlX11_146 rfl (by decide) (sq 2 rfl) (ct6_length G t 2 (by decide) S) rfl rfl (Nat.le_of_ble_eq_true rfl) (by decide) (Nat.le_of_ble_eq_true rfl) dX11_order_9 (fun q4 S5 => ?_)
    refine J_goto (tgt := 23) dX11_order_12 (by decide) ?_
    exact J_ireturn rfl (Nat.le_refl _) (Nat.le_refl _) rfl dX11_order_23
  · refine J_aload_n dX11_order_15 rfl rfl ?_
    refine K_getR (r := some (2)) cf11 flX11_22 (sq 0 rfl) rfl (Or.inl ⟨_, rfl⟩) dX11_order_16 ?_
    refine J_iload_n dX11_order_19 rfl rfl ?_
    refine K_callV_i (As := [vI x1]) mcX6_orderAt mlX11_159 rfl (by decide) (sq 2 rfl) (ct6_orderAt G t 2 x1 (by decide) S) rfl rfl (Nat.le_of_ble_eq_true rfl) (by decide) (Nat.le_of_ble_eq_true rfl) dX11_order_20 (fun q2 S3 => ?_)
    exact J_ireturn rfl (Nat.le_refl _) (Nat.le_refl _) rfl dX11_order_23
theorem dX11_size_0 : decode cX11_size 0 = .ok (.aload_n 0, 1) := by decide +kernel
theorem dX11_size_1 : decode cX11_size 1 = .ok (.iload_n 1, 1) := by decide +kernel
theorem dX11_size_2 : decode cX11_size 2 = .ok (.invokevirtual 118, 3) := by decide +kernel
theorem dX11_size_5 : decode cX11_size 5 = .ok (.astore_n 2, 1) := by decide +kernel
theorem dX11_size_6 : decode cX11_size 6 = .ok (.aload_n 2, 1) := by decide +kernel
theorem dX11_size_7 : decode cX11_size 7 = .ok (.ifnonnull 5, 3) := by decide +kernel
theorem dX11_size_10 : decode cX11_size 10 = .ok (.iconst (-1), 1) := by decide +kernel
theorem dX11_size_11 : decode cX11_size 11 = .ok (.ireturn, 1) := by decide +kernel
theorem dX11_size_12 : decode cX11_size 12 = .ok (.aload_n 2, 1) := by decide +kernel
theorem dX11_size_13 : decode cX11_size 13 = .ok (.aload_n 0, 1) := by decide +kernel
theorem dX11_size_14 : decode cX11_size 14 = .ok (.getfield 22, 3) := by decide +kernel
theorem dX11_size_17 : decode cX11_size 17 = .ok (.invokevirtual 162, 3) := by decide +kernel
theorem dX11_size_20 : decode cX11_size 20 = .ok (.ireturn, 1) := by decide +kernel
set_option maxRecDepth 100000 in
set_option maxHeartbeats 4000000 in
theorem ct11_size (G : Gm) (t : Nat) (N : Nat) (x1 : Int32)  (S : St) : Ct G YX11_size yX11_size 4 0 0 (fI t) (f11_size N x1 S) [vR (some 0), vI x1] (MM t S) := by
  refine Ct_of_J [some (vR (some 0)), some (vI x1), none] (by decide) rfl (fun h => by cases h) (Nat.le_of_ble_eq_true rfl) (And.intro rfl (And.intro rfl (trivial))) ?_
  unfold f11_size
  refine J_aload_n dX11_size_0 rfl rfl ?_
  refine J_iload_n dX11_size_1 rfl rfl ?_
  refine K_callV_r (As := [vI x1]) mcX11_languageAt mlX11_118 rfl (by decide) (sq 0 rfl) (ct11_languageAt G t x1 S) rfl rfl (Nat.le_of_ble_eq_true rfl) (by decide) (Nat.le_of_ble_eq_true rfl) dX11_size_2 (fun q1 S2 => ?_)
  refine J_astore_n [some (vR (some 0)), some (vI x1), some (vR q1)] dX11_size_5 rfl (Nat.le_of_ble_eq_true rfl) rfl rfl ?_
  refine J_aload_n dX11_size_6 rfl rfl ?_
  refine J_ifnonnull (tgt := 12) dX11_size_7 (by decide) (fun hr => ?_) (fun b3 hr => ?_)
  · subst hr
    refine J_iconst (v := (-1)) dX11_size_10 (by decide) ?_
    exact J_ireturn rfl (Nat.le_refl _) (Nat.le_refl _) rfl dX11_size_11
  · subst hr
    refine J_ckA (fun hb3 => ?_)
    refine J_aload_n dX11_size_12 rfl rfl ?_
    refine J_aload_n dX11_size_13 rfl rfl ?_
    refine K_getR (r := some (2)) cf11 flX11_22 (sq 0 rfl) rfl (Or.inl ⟨_, rfl⟩) dX11_size_14 ?_
    refine K_callV_i (As := [vR (some 2)]) mcX3_sizeOf mlX11_162 rfl (by decide) (sq3_0 hb3) (ct3_sizeOf G t N b3 2 hb3 (by decide) S2) rfl rfl (Nat.le_of_ble_eq_true rfl) (by decide) (Nat.le_of_ble_eq_true rfl) dX11_size_17 (fun q4 S5 => ?_)
    exact J_ireturn rfl (Nat.le_refl _) (Nat.le_refl _) rfl dX11_size_20
theorem dX11_decoded_0 : decode cX11_decoded 0 = .ok (.iload_n 3, 1) := by decide +kernel
theorem dX11_decoded_1 : decode cX11_decoded 1 = .ok (.ifCond .ge 6, 3) := by decide +kernel
theorem dX11_decoded_4 : decode cX11_decoded 4 = .ok (.bipush (-2), 2) := by decide +kernel
theorem dX11_decoded_6 : decode cX11_decoded 6 = .ok (.ireturn, 1) := by decide +kernel
theorem dX11_decoded_7 : decode cX11_decoded 7 = .ok (.aload_n 0, 1) := by decide +kernel
theorem dX11_decoded_8 : decode cX11_decoded 8 = .ok (.getfield 26, 3) := by decide +kernel
theorem dX11_decoded_11 : decode cX11_decoded 11 = .ok (.invokevirtual 149, 3) := by decide +kernel
theorem dX11_decoded_14 : decode cX11_decoded 14 = .ok (.iconst 0, 1) := by decide +kernel
theorem dX11_decoded_15 : decode cX11_decoded 15 = .ok (.istore 4, 2) := by decide +kernel
theorem dX11_decoded_17 : decode cX11_decoded 17 = .ok (.iconst 0, 1) := by decide +kernel
theorem dX11_decoded_18 : decode cX11_decoded 18 = .ok (.istore 5, 2) := by decide +kernel
theorem dX11_decoded_20 : decode cX11_decoded 20 = .ok (.iload_n 3, 1) := by decide +kernel
theorem dX11_decoded_21 : decode cX11_decoded 21 = .ok (.istore 6, 2) := by decide +kernel
theorem dX11_decoded_23 : decode cX11_decoded 23 = .ok (.iload 6, 2) := by decide +kernel
theorem dX11_decoded_25 : decode cX11_decoded 25 = .ok (.aload_n 0, 1) := by decide +kernel
theorem dX11_decoded_26 : decode cX11_decoded 26 = .ok (.getfield 104, 3) := by decide +kernel
theorem dX11_decoded_29 : decode cX11_decoded 29 = .ok (.iload_n 2, 1) := by decide +kernel
theorem dX11_decoded_30 : decode cX11_decoded 30 = .ok (.invokevirtual 394, 3) := by decide +kernel
theorem dX11_decoded_33 : decode cX11_decoded 33 = .ok (.if_icmp .ge 104, 3) := by decide +kernel
theorem dX11_decoded_36 : decode cX11_decoded 36 = .ok (.iload 4, 2) := by decide +kernel
theorem dX11_decoded_38 : decode cX11_decoded 38 = .ok (.iconst 2, 1) := by decide +kernel
theorem dX11_decoded_39 : decode cX11_decoded 39 = .ok (.imul, 1) := by decide +kernel
theorem dX11_decoded_40 : decode cX11_decoded 40 = .ok (.aload_n 0, 1) := by decide +kernel
theorem dX11_decoded_41 : decode cX11_decoded 41 = .ok (.getfield 104, 3) := by decide +kernel
theorem dX11_decoded_44 : decode cX11_decoded 44 = .ok (.iload_n 2, 1) := by decide +kernel
theorem dX11_decoded_45 : decode cX11_decoded 45 = .ok (.iload 6, 2) := by decide +kernel
theorem dX11_decoded_47 : decode cX11_decoded 47 = .ok (.invokevirtual 364, 3) := by decide +kernel
theorem dX11_decoded_50 : decode cX11_decoded 50 = .ok (.lconst 0, 1) := by decide +kernel
theorem dX11_decoded_51 : decode cX11_decoded 51 = .ok (.lcmp, 1) := by decide +kernel
theorem dX11_decoded_52 : decode cX11_decoded 52 = .ok (.ifCond .eq 7, 3) := by decide +kernel
theorem dX11_decoded_55 : decode cX11_decoded 55 = .ok (.iconst 1, 1) := by decide +kernel
theorem dX11_decoded_56 : decode cX11_decoded 56 = .ok (.goto 4, 3) := by decide +kernel
theorem dX11_decoded_59 : decode cX11_decoded 59 = .ok (.iconst 0, 1) := by decide +kernel
theorem dX11_decoded_60 : decode cX11_decoded 60 = .ok (.iadd, 1) := by decide +kernel
theorem dX11_decoded_61 : decode cX11_decoded 61 = .ok (.istore 4, 2) := by decide +kernel
theorem dX11_decoded_63 : decode cX11_decoded 63 = .ok (.iinc 5 1, 3) := by decide +kernel
theorem dX11_decoded_66 : decode cX11_decoded 66 = .ok (.aload_n 1, 1) := by decide +kernel
theorem dX11_decoded_67 : decode cX11_decoded 67 = .ok (.iload 4, 2) := by decide +kernel
theorem dX11_decoded_69 : decode cX11_decoded 69 = .ok (.iload 5, 2) := by decide +kernel
theorem dX11_decoded_71 : decode cX11_decoded 71 = .ok (.invokevirtual 396, 3) := by decide +kernel
theorem dX11_decoded_74 : decode cX11_decoded 74 = .ok (.istore 7, 2) := by decide +kernel
theorem dX11_decoded_76 : decode cX11_decoded 76 = .ok (.iload 7, 2) := by decide +kernel
theorem dX11_decoded_78 : decode cX11_decoded 78 = .ok (.ifCond .ge 13, 3) := by decide +kernel
theorem dX11_decoded_81 : decode cX11_decoded 81 = .ok (.iload 5, 2) := by decide +kernel
theorem dX11_decoded_83 : decode cX11_decoded 83 = .ok (.bipush 6, 2) := by decide +kernel
theorem dX11_decoded_85 : decode cX11_decoded 85 = .ok (.if_icmp .ge 6, 3) := by decide +kernel
theorem dX11_decoded_88 : decode cX11_decoded 88 = .ok (.goto 43, 3) := by decide +kernel
theorem dX11_decoded_91 : decode cX11_decoded 91 = .ok (.iload 7, 2) := by decide +kernel
theorem dX11_decoded_93 : decode cX11_decoded 93 = .ok (.ifCond .lt 15, 3) := by decide +kernel
theorem dX11_decoded_96 : decode cX11_decoded 96 = .ok (.aload_n 0, 1) := by decide +kernel
theorem dX11_decoded_97 : decode cX11_decoded 97 = .ok (.getfield 26, 3) := by decide +kernel
theorem dX11_decoded_100 : decode cX11_decoded 100 = .ok (.iload 7, 2) := by decide +kernel
theorem dX11_decoded_102 : decode cX11_decoded 102 = .ok (.invokevirtual 156, 3) := by decide +kernel
theorem dX11_decoded_105 : decode cX11_decoded 105 = .ok (.ifCond .ne 6, 3) := by decide +kernel
theorem dX11_decoded_108 : decode cX11_decoded 108 = .ok (.bipush (-5), 2) := by decide +kernel
theorem dX11_decoded_110 : decode cX11_decoded 110 = .ok (.ireturn, 1) := by decide +kernel
theorem dX11_decoded_111 : decode cX11_decoded 111 = .ok (.iload 7, 2) := by decide +kernel
theorem dX11_decoded_113 : decode cX11_decoded 113 = .ok (.ifCond .ne 12, 3) := by decide +kernel
theorem dX11_decoded_116 : decode cX11_decoded 116 = .ok (.aload_n 1, 1) := by decide +kernel
theorem dX11_decoded_117 : decode cX11_decoded 117 = .ok (.aload_n 0, 1) := by decide +kernel
theorem dX11_decoded_118 : decode cX11_decoded 118 = .ok (.getfield 26, 3) := by decide +kernel
theorem dX11_decoded_121 : decode cX11_decoded 121 = .ok (.invokevirtual 162, 3) := by decide +kernel
theorem dX11_decoded_124 : decode cX11_decoded 124 = .ok (.ireturn, 1) := by decide +kernel
theorem dX11_decoded_125 : decode cX11_decoded 125 = .ok (.iconst 0, 1) := by decide +kernel
theorem dX11_decoded_126 : decode cX11_decoded 126 = .ok (.istore 4, 2) := by decide +kernel
theorem dX11_decoded_128 : decode cX11_decoded 128 = .ok (.iconst 0, 1) := by decide +kernel
theorem dX11_decoded_129 : decode cX11_decoded 129 = .ok (.istore 5, 2) := by decide +kernel
theorem dX11_decoded_131 : decode cX11_decoded 131 = .ok (.iinc 6 1, 3) := by decide +kernel
theorem dX11_decoded_134 : decode cX11_decoded 134 = .ok (.goto (-111), 3) := by decide +kernel
theorem dX11_decoded_137 : decode cX11_decoded 137 = .ok (.bipush (-2), 2) := by decide +kernel
theorem dX11_decoded_139 : decode cX11_decoded 139 = .ok (.ireturn, 1) := by decide +kernel
set_option maxRecDepth 100000 in
set_option maxHeartbeats 4000000 in
theorem t11_decoded_j91 (G : Gm) (t : Nat) (N : Nat) (a1 : Nat) (x2 : Int32) (x6 : Int32) (x7 : Int32) (h1 : a1 ∈ ad3) (k23 : Int32 → Int32 → Int32 → St → Option (Int32 × St)) (hk23 : ∀ (yx4 : Int32) (yx5 : Int32) (yx6 : Int32) (S : St), J G YX11_decoded 4 0 0 (fI t) 0 0 23 [some (vR (some 0)), some (vR (some a1)), some (vI x2), none, some (vI yx4), some (vI yx5), some (vI yx6), none] [] (MM t S) (k23 yx4 yx5 yx6 S)) : ∀  (S : St), J G YX11_decoded 4 0 0 (fI t) 0 0 91 [some (vR (some 0)), some (vR (some a1)), some (vI x2), none, none, none, some (vI x6), some (vI x7)] [] (MM t S) (f11_decoded_j91 N a1 x2 x6 x7 k23 S) := by
  intro S
  unfold f11_decoded_j91
  refine J_iload dX11_decoded_91 rfl ?_
  refine J_if_lt (tgt := 108) dX11_decoded_93 (by decide) (fun z1 => ?_) (fun z1 => ?_)
  · refine J_bipush (v := (-5)) dX11_decoded_108 (by decide) ?_
    exact J_ireturn rfl (Nat.le_refl _) (Nat.le_refl _) rfl dX11_decoded_110
  · refine J_aload_n dX11_decoded_96 rfl rfl ?_
    refine K_getR (r := some (4)) cf11 flX11_26 (sq 0 rfl) rfl (Or.inl ⟨_, rfl⟩) dX11_decoded_97 ?_
    refine J_iload dX11_decoded_100 rfl ?_
    refine K_callV_i (As := [vI x7]) mcX6_push mlX11_156 rfl (by decide) (sq 4 rfl) (ct6_push G t 4 x7 (by decide) S) rfl rfl (Nat.le_of_ble_eq_true rfl) (by decide) (Nat.le_of_ble_eq_true rfl) dX11_decoded_102 (fun q2 S3 => ?_)
    refine J_if_ne (tgt := 111) dX11_decoded_105 (by decide) (fun z4 => ?_) (fun z4 => ?_)
    · refine J_bipush (v := (-5)) dX11_decoded_108 (by decide) ?_
      exact J_ireturn rfl (Nat.le_refl _) (Nat.le_refl _) rfl dX11_decoded_110
    · refine J_iload dX11_decoded_111 rfl ?_
      refine J_if_ne (tgt := 125) dX11_decoded_113 (by decide) (fun z5 => ?_) (fun z5 => ?_)
      · refine J_aload_n dX11_decoded_116 rfl rfl ?_
        refine J_aload_n dX11_decoded_117 rfl rfl ?_
        refine K_getR (r := some (4)) cf11 flX11_26 (sq 0 rfl) rfl (Or.inl ⟨_, rfl⟩) dX11_decoded_118 ?_
        refine K_callV_i (As := [vR (some 4)]) mcX3_sizeOf mlX11_162 rfl (by decide) (sq3_0 h1) (ct3_sizeOf G t N a1 4 h1 (by decide) S3) rfl rfl (Nat.le_of_ble_eq_true rfl) (by decide) (Nat.le_of_ble_eq_true rfl) dX11_decoded_121 (fun q6 S7 => ?_)
        exact J_ireturn rfl (Nat.le_refl _) (Nat.le_refl _) rfl dX11_decoded_124
      · refine J_iconst (v := nI 0) dX11_decoded_125 (by decide) ?_
        refine J_istore [some (vR (some 0)), some (vR (some a1)), some (vI x2), none, some (vI (nI 0)), none, some (vI x6), some (vI x7)] dX11_decoded_126 (Nat.le_of_ble_eq_true rfl) rfl rfl ?_
        refine J_iconst (v := nI 0) dX11_decoded_128 (by decide) ?_
        refine J_istore [some (vR (some 0)), some (vR (some a1)), some (vI x2), none, some (vI (nI 0)), some (vI (nI 0)), some (vI x6), some (vI x7)] dX11_decoded_129 (Nat.le_of_ble_eq_true rfl) rfl rfl ?_
        refine J_iinc (v := x6 + nI 1) [some (vR (some 0)), some (vR (some a1)), some (vI x2), none, some (vI (nI 0)), some (vI (nI 0)), some (vI (x6 + nI 1)), some (vI x7)] dX11_decoded_131 rfl rfl (Nat.le_of_ble_eq_true rfl) rfl rfl ?_
        refine J_goto (tgt := 23) dX11_decoded_134 (by decide) ?_
        exact J_sb (hk23 (nI 0) (nI 0) (x6 + nI 1) S3) (And.intro rfl (And.intro rfl (And.intro rfl (And.intro rfl (And.intro rfl (And.intro rfl (trivial)))))))
set_option maxRecDepth 100000 in
set_option maxHeartbeats 4000000 in
theorem t11_decoded_j60 (G : Gm) (t : Nat) (N : Nat) (a1 : Nat) (x2 : Int32) (x5 : Int32) (x6 : Int32) (h1 : a1 ∈ ad3) (k23 : Int32 → Int32 → Int32 → St → Option (Int32 × St)) (hk23 : ∀ (yx4 : Int32) (yx5 : Int32) (yx6 : Int32) (S : St), J G YX11_decoded 4 0 0 (fI t) 0 0 23 [some (vR (some 0)), some (vR (some a1)), some (vI x2), none, some (vI yx4), some (vI yx5), some (vI yx6), none] [] (MM t S) (k23 yx4 yx5 yx6 S)) : ∀ (xs0 : Int32) (xs1 : Int32) (S : St), J G YX11_decoded 4 0 0 (fI t) 0 0 60 [some (vR (some 0)), some (vR (some a1)), some (vI x2), none, none, some (vI x5), some (vI x6), none] [vI xs0, vI xs1] (MM t S) (f11_decoded_j60 N a1 x2 x5 x6 k23 xs0 xs1 S) := by
  intro xs0 xs1 S
  unfold f11_decoded_j60
  refine J_iadd dX11_decoded_60 ?_
  refine J_ltI (fun v1 _ => ?_)
  refine J_istore [some (vR (some 0)), some (vR (some a1)), some (vI x2), none, some (vI v1), some (vI x5), some (vI x6), none] dX11_decoded_61 (Nat.le_of_ble_eq_true rfl) rfl rfl ?_
  refine J_iinc (v := x5 + nI 1) [some (vR (some 0)), some (vR (some a1)), some (vI x2), none, some (vI v1), some (vI (x5 + nI 1)), some (vI x6), none] dX11_decoded_63 rfl rfl (Nat.le_of_ble_eq_true rfl) rfl rfl ?_
  refine J_aload_n dX11_decoded_66 rfl rfl ?_
  refine J_iload dX11_decoded_67 rfl ?_
  refine J_iload dX11_decoded_69 rfl ?_
  refine K_callV_i (As := [vI v1, vI (x5 + nI 1)]) mcX3_orderWith mlX11_396 rfl (by decide) (sq3_0 h1) (ct3_orderWith G t N a1 v1 (x5 + nI 1) h1 S) rfl rfl (Nat.le_of_ble_eq_true rfl) (by decide) (Nat.le_of_ble_eq_true rfl) dX11_decoded_71 (fun q2 S3 => ?_)
  refine J_istore [some (vR (some 0)), some (vR (some a1)), some (vI x2), none, some (vI v1), some (vI (x5 + nI 1)), some (vI x6), some (vI q2)] dX11_decoded_74 (Nat.le_of_ble_eq_true rfl) rfl rfl ?_
  refine J_iload dX11_decoded_76 rfl ?_
  refine J_if_ge (tgt := 91) dX11_decoded_78 (by decide) (fun z4 => ?_) (fun z4 => ?_)
  · exact J_sb (t11_decoded_j91 G t N a1 x2 x6 q2 h1 k23 hk23 S3) (And.intro rfl (And.intro rfl (And.intro rfl (And.intro rfl (And.intro rfl (trivial))))))
  · refine J_iload dX11_decoded_81 rfl ?_
    refine J_bipush (v := nI 6) dX11_decoded_83 (by decide) ?_
    refine J_icmp_ge (tgt := 91) dX11_decoded_85 (by decide) (fun z5 => ?_) (fun z5 => ?_)
    · exact J_sb (t11_decoded_j91 G t N a1 x2 x6 q2 h1 k23 hk23 S3) (And.intro rfl (And.intro rfl (And.intro rfl (And.intro rfl (And.intro rfl (trivial))))))
    · refine J_goto (tgt := 131) dX11_decoded_88 (by decide) ?_
      refine J_iinc (v := x6 + nI 1) [some (vR (some 0)), some (vR (some a1)), some (vI x2), none, some (vI v1), some (vI (x5 + nI 1)), some (vI (x6 + nI 1)), some (vI q2)] dX11_decoded_131 rfl rfl (Nat.le_of_ble_eq_true rfl) rfl rfl ?_
      refine J_goto (tgt := 23) dX11_decoded_134 (by decide) ?_
      exact J_sb (hk23 v1 (x5 + nI 1) (x6 + nI 1) S3) (And.intro rfl (And.intro rfl (And.intro rfl (And.intro rfl (And.intro rfl (And.intro rfl (trivial)))))))
set_option maxRecDepth 100000 in
set_option maxHeartbeats 4000000 in
theorem t11_decoded_h23 (G : Gm) (t : Nat) (N : Nat) (a1 : Nat) (x2 : Int32) (h1 : a1 ∈ ad3)   : ∀ (n : Nat) (x4 : Int32) (x5 : Int32) (x6 : Int32) (S : St), J G YX11_decoded 4 0 0 (fI t) 0 0 23 [some (vR (some 0)), some (vR (some a1)), some (vI x2), none, some (vI x4), some (vI x5), some (vI x6), none] [] (MM t S) (f11_decoded_h23 N a1 x2 n x4 x5 x6 S) := by
  intro n
  induction n with
  | zero => intro x4 x5 x6 S; exact J_none
  | succ n ih =>
    intro x4 x5 x6 S
    rw [f11_decoded_h23]
    refine J_iload dX11_decoded_23 rfl ?_
    refine J_aload_n dX11_decoded_25 rfl rfl ?_
    refine K_getR (r := some (39)) cf11 flX11_104 (sq 0 rfl) rfl (Or.inl ⟨_, rfl⟩) dX11_decoded_26 ?_
    refine J_iload_n dX11_decoded_29 rfl rfl ?_
    refine K_callV_i (As := [vI x2]) mcX8_length mlX11_394 rfl (by decide) (sq 39 rfl) (ct8_length G t x2 S) rfl rfl (Nat.le_of_ble_eq_true rfl) (by decide) (Nat.le_of_ble_eq_true rfl) dX11_decoded_30 (fun q1 S2 => ?_)
    refine J_icmp_ge (tgt := 137) dX11_decoded_33 (by decide) (fun z3 => ?_) (fun z3 => ?_)
    · refine J_bipush (v := (-2)) dX11_decoded_137 (by decide) ?_
      exact J_ireturn rfl (Nat.le_refl _) (Nat.le_refl _) rfl dX11_decoded_139
    · refine J_iload dX11_decoded_36 rfl ?_
      refine J_iconst (v := nI 2) dX11_decoded_38 (by decide) ?_
      refine J_imul dX11_decoded_39 ?_
      refine J_aload_n dX11_decoded_40 rfl rfl ?_
      refine K_getR (r := some (39)) cf11 flX11_104 (sq 0 rfl) rfl (Or.inl ⟨_, rfl⟩) dX11_decoded_41 ?_
      refine J_iload_n dX11_decoded_44 rfl rfl ?_
      refine J_iload dX11_decoded_45 rfl ?_
      refine K_callV_l (As := [vI x2, vI x6]) mcX8_get mlX11_364 rfl (by decide) (sq 39 rfl) (ct8_get G t x2 x6 S2) rfl rfl (Nat.le_of_ble_eq_true rfl) (by decide) (Nat.le_of_ble_eq_true rfl) dX11_decoded_47 (fun q4 S5 => ?_)
      refine J_lconst (v := lN 0) dX11_decoded_50 (by decide) ?_
      refine J_lcmp dX11_decoded_51 ?_
      refine J_if_eq (tgt := 59) dX11_decoded_52 (by decide) (fun z6 => ?_) (fun z6 => ?_)
      · refine J_iconst (v := nI 0) dX11_decoded_59 (by decide) ?_
        exact J_sb (t11_decoded_j60 G t N a1 x2 x5 x6 h1 (f11_decoded_h23 N a1 x2 n) ih (nI 0) (x4 * (nI 2)) S5) (And.intro rfl (And.intro rfl (And.intro rfl (And.intro rfl (And.intro rfl (trivial))))))
      · refine J_iconst (v := nI 1) dX11_decoded_55 (by decide) ?_
        refine J_goto (tgt := 60) dX11_decoded_56 (by decide) ?_
        exact J_sb (t11_decoded_j60 G t N a1 x2 x5 x6 h1 (f11_decoded_h23 N a1 x2 n) ih (nI 1) (x4 * (nI 2)) S5) (And.intro rfl (And.intro rfl (And.intro rfl (And.intro rfl (And.intro rfl (trivial))))))
set_option maxRecDepth 100000 in
set_option maxHeartbeats 4000000 in
theorem ct11_decoded (G : Gm) (t : Nat) (N : Nat) (a1 : Nat) (x2 : Int32) (x3 : Int32) (h1 : a1 ∈ ad3) (S : St) : Ct G YX11_decoded yX11_decoded 4 0 0 (fI t) (f11_decoded N a1 x2 x3 S) [vR (some 0), vR (some a1), vI x2, vI x3] (MM t S) := by
  refine Ct_of_J [some (vR (some 0)), some (vR (some a1)), some (vI x2), some (vI x3), none, none, none, none] (by decide) rfl (fun h => by cases h) (Nat.le_of_ble_eq_true rfl) (And.intro rfl (And.intro rfl (And.intro rfl (And.intro rfl (trivial))))) ?_
  unfold f11_decoded
  refine J_iload_n dX11_decoded_0 rfl rfl ?_
  refine J_if_ge (tgt := 7) dX11_decoded_1 (by decide) (fun z1 => ?_) (fun z1 => ?_)
  · refine J_aload_n dX11_decoded_7 rfl rfl ?_
    refine K_getR (r := some (4)) cf11 flX11_26 (sq 0 rfl) rfl (Or.inl ⟨_, rfl⟩) dX11_decoded_8 ?_
    refine K_callV_v (As := []) mcX6_beEmpty mlX11_149 rfl (by decide) (sq 4 rfl) (ct6_beEmpty G t 4 (by decide) S) rfl rfl (Nat.le_of_ble_eq_true rfl) (by decide) (Nat.le_of_ble_eq_true rfl) dX11_decoded_11 (fun q2 S3 => ?_)
    refine J_iconst (v := nI 0) dX11_decoded_14 (by decide) ?_
    refine J_istore [some (vR (some 0)), some (vR (some a1)), some (vI x2), some (vI x3), some (vI (nI 0)), none, none, none] dX11_decoded_15 (Nat.le_of_ble_eq_true rfl) rfl rfl ?_
    refine J_iconst (v := nI 0) dX11_decoded_17 (by decide) ?_
    refine J_istore [some (vR (some 0)), some (vR (some a1)), some (vI x2), some (vI x3), some (vI (nI 0)), some (vI (nI 0)), none, none] dX11_decoded_18 (Nat.le_of_ble_eq_true rfl) rfl rfl ?_
    refine J_iload_n dX11_decoded_20 rfl rfl ?_
    refine J_istore [some (vR (some 0)), some (vR (some a1)), some (vI x2), some (vI x3), some (vI (nI 0)), some (vI (nI 0)), some (vI x3), none] dX11_decoded_21 (Nat.le_of_ble_eq_true rfl) rfl rfl ?_
    exact J_sb (t11_decoded_h23 G t N a1 x2 h1 N (nI 0) (nI 0) x3 S3) (And.intro rfl (And.intro rfl (And.intro rfl (And.intro rfl (And.intro rfl (And.intro rfl (trivial)))))))
  · refine J_bipush (v := (-2)) dX11_decoded_4 (by decide) ?_
    exact J_ireturn rfl (Nat.le_refl _) (Nat.le_refl _) rfl dX11_decoded_6
theorem dX11_read_0 : decode cX11_read 0 = .ok (.aload_n 0, 1) := by decide +kernel
theorem dX11_read_1 : decode cX11_read 1 = .ok (.iload_n 1, 1) := by decide +kernel
theorem dX11_read_2 : decode cX11_read 2 = .ok (.invokevirtual 118, 3) := by decide +kernel
theorem dX11_read_5 : decode cX11_read 5 = .ok (.astore 4, 2) := by decide +kernel
theorem dX11_read_7 : decode cX11_read 7 = .ok (.aload 4, 2) := by decide +kernel
theorem dX11_read_9 : decode cX11_read 9 = .ok (.ifnull 14, 3) := by decide +kernel
theorem dX11_read_12 : decode cX11_read 12 = .ok (.aload_n 0, 1) := by decide +kernel
theorem dX11_read_13 : decode cX11_read 13 = .ok (.getfield 104, 3) := by decide +kernel
theorem dX11_read_16 : decode cX11_read 16 = .ok (.iload_n 2, 1) := by decide +kernel
theorem dX11_read_17 : decode cX11_read 17 = .ok (.invokevirtual 166, 3) := by decide +kernel
theorem dX11_read_20 : decode cX11_read 20 = .ok (.ifCond .ne 5, 3) := by decide +kernel
theorem dX11_read_23 : decode cX11_read 23 = .ok (.iconst (-1), 1) := by decide +kernel
theorem dX11_read_24 : decode cX11_read 24 = .ok (.ireturn, 1) := by decide +kernel
theorem dX11_read_25 : decode cX11_read 25 = .ok (.aload_n 0, 1) := by decide +kernel
theorem dX11_read_26 : decode cX11_read 26 = .ok (.getfield 104, 3) := by decide +kernel
theorem dX11_read_29 : decode cX11_read 29 = .ok (.iload_n 2, 1) := by decide +kernel
theorem dX11_read_30 : decode cX11_read 30 = .ok (.invokevirtual 169, 3) := by decide +kernel
theorem dX11_read_33 : decode cX11_read 33 = .ok (.ifCond .eq 6, 3) := by decide +kernel
theorem dX11_read_36 : decode cX11_read 36 = .ok (.bipush (-2), 2) := by decide +kernel
theorem dX11_read_38 : decode cX11_read 38 = .ok (.ireturn, 1) := by decide +kernel
theorem dX11_read_39 : decode cX11_read 39 = .ok (.aload_n 0, 1) := by decide +kernel
theorem dX11_read_40 : decode cX11_read 40 = .ok (.getfield 104, 3) := by decide +kernel
theorem dX11_read_43 : decode cX11_read 43 = .ok (.iload_n 2, 1) := by decide +kernel
theorem dX11_read_44 : decode cX11_read 44 = .ok (.invokevirtual 172, 3) := by decide +kernel
theorem dX11_read_47 : decode cX11_read 47 = .ok (.ifCond .ne 6, 3) := by decide +kernel
theorem dX11_read_50 : decode cX11_read 50 = .ok (.bipush (-12), 2) := by decide +kernel
theorem dX11_read_52 : decode cX11_read 52 = .ok (.ireturn, 1) := by decide +kernel
theorem dX11_read_53 : decode cX11_read 53 = .ok (.aload_n 0, 1) := by decide +kernel
theorem dX11_read_54 : decode cX11_read 54 = .ok (.aload 4, 2) := by decide +kernel
theorem dX11_read_56 : decode cX11_read 56 = .ok (.iload_n 2, 1) := by decide +kernel
theorem dX11_read_57 : decode cX11_read 57 = .ok (.iload_n 3, 1) := by decide +kernel
theorem dX11_read_58 : decode cX11_read 58 = .ok (.invokevirtual 175, 3) := by decide +kernel
theorem dX11_read_61 : decode cX11_read 61 = .ok (.istore 5, 2) := by decide +kernel
theorem dX11_read_63 : decode cX11_read 63 = .ok (.iload 5, 2) := by decide +kernel
theorem dX11_read_65 : decode cX11_read 65 = .ok (.ifCond .le 14, 3) := by decide +kernel
theorem dX11_read_68 : decode cX11_read 68 = .ok (.aload_n 0, 1) := by decide +kernel
theorem dX11_read_69 : decode cX11_read 69 = .ok (.getfield 22, 3) := by decide +kernel
theorem dX11_read_72 : decode cX11_read 72 = .ok (.aload_n 0, 1) := by decide +kernel
theorem dX11_read_73 : decode cX11_read 73 = .ok (.getfield 26, 3) := by decide +kernel
theorem dX11_read_76 : decode cX11_read 76 = .ok (.invokevirtual 179, 3) := by decide +kernel
theorem dX11_read_79 : decode cX11_read 79 = .ok (.iload 5, 2) := by decide +kernel
theorem dX11_read_81 : decode cX11_read 81 = .ok (.ireturn, 1) := by decide +kernel
set_option maxRecDepth 100000 in
set_option maxHeartbeats 4000000 in
theorem ct11_read (G : Gm) (t : Nat) (N : Nat) (x1 : Int32) (x2 : Int32) (x3 : Int32)  (S : St) : Ct G YX11_read yX11_read 5 0 0 (fI t) (f11_read N x1 x2 x3 S) [vR (some 0), vI x1, vI x2, vI x3] (MM t S) := by
  refine Ct_of_J [some (vR (some 0)), some (vI x1), some (vI x2), some (vI x3), none, none] (by decide) rfl (fun h => by cases h) (Nat.le_of_ble_eq_true rfl) (And.intro rfl (And.intro rfl (And.intro rfl (And.intro rfl (trivial))))) ?_
  unfold f11_read
  refine J_aload_n dX11_read_0 rfl rfl ?_
  refine J_iload_n dX11_read_1 rfl rfl ?_
  refine K_callV_r (As := [vI x1]) mcX11_languageAt mlX11_118 rfl (by decide) (sq 0 rfl) (ct11_languageAt G t x1 S) rfl rfl (Nat.le_of_ble_eq_true rfl) (by decide) (Nat.le_of_ble_eq_true rfl) dX11_read_2 (fun q1 S2 => ?_)
  refine J_astore [some (vR (some 0)), some (vI x1), some (vI x2), some (vI x3), some (vR q1), none] dX11_read_5 (Nat.le_of_ble_eq_true rfl) rfl rfl ?_
  refine J_aload dX11_read_7 rfl ?_
  refine J_ifnull (tgt := 23) dX11_read_9 (by decide) (fun hr => ?_) (fun b3 hr => ?_)
  · subst hr
    refine J_iconst (v := (-1)) dX11_read_23 (by decide) ?_
    exact J_ireturn rfl (Nat.le_refl _) (Nat.le_refl _) rfl dX11_read_24
  · subst hr
    refine J_ckA (fun hb3 => ?_)
    refine J_aload_n dX11_read_12 rfl rfl ?_
    refine K_getR (r := some (39)) cf11 flX11_104 (sq 0 rfl) rfl (Or.inl ⟨_, rfl⟩) dX11_read_13 ?_
    refine J_iload_n dX11_read_16 rfl rfl ?_
    refine K_callV_i (As := [vI x2]) mcX8_isShelf mlX11_166 rfl (by decide) (sq 39 rfl) (ct8_isShelf G t x2 S2) rfl rfl (Nat.le_of_ble_eq_true rfl) (by decide) (Nat.le_of_ble_eq_true rfl) dX11_read_17 (fun q4 S5 => ?_)
    refine J_if_ne (tgt := 25) dX11_read_20 (by decide) (fun z6 => ?_) (fun z6 => ?_)
    · refine J_iconst (v := (-1)) dX11_read_23 (by decide) ?_
      exact J_ireturn rfl (Nat.le_refl _) (Nat.le_refl _) rfl dX11_read_24
    · refine J_aload_n dX11_read_25 rfl rfl ?_
      refine K_getR (r := some (39)) cf11 flX11_104 (sq 0 rfl) rfl (Or.inl ⟨_, rfl⟩) dX11_read_26 ?_
      refine J_iload_n dX11_read_29 rfl rfl ?_
      refine K_callV_i (As := [vI x2]) mcX8_holdsNothing mlX11_169 rfl (by decide) (sq 39 rfl) (ct8_holdsNothing G t x2 S5) rfl rfl (Nat.le_of_ble_eq_true rfl) (by decide) (Nat.le_of_ble_eq_true rfl) dX11_read_30 (fun q7 S8 => ?_)
      refine J_if_eq (tgt := 39) dX11_read_33 (by decide) (fun z9 => ?_) (fun z9 => ?_)
      · refine J_aload_n dX11_read_39 rfl rfl ?_
        refine K_getR (r := some (39)) cf11 flX11_104 (sq 0 rfl) rfl (Or.inl ⟨_, rfl⟩) dX11_read_40 ?_
        refine J_iload_n dX11_read_43 rfl rfl ?_
        refine K_callV_i (As := [vI x2]) mcX8_holdsBooleans mlX11_172 rfl (by decide) (sq 39 rfl) (ct8_holdsBooleans G t x2 S8) rfl rfl (Nat.le_of_ble_eq_true rfl) (by decide) (Nat.le_of_ble_eq_true rfl) dX11_read_44 (fun q10 S11 => ?_)
        refine J_if_ne (tgt := 53) dX11_read_47 (by decide) (fun z12 => ?_) (fun z12 => ?_)
        · refine J_bipush (v := (-12)) dX11_read_50 (by decide) ?_
          exact J_ireturn rfl (Nat.le_refl _) (Nat.le_refl _) rfl dX11_read_52
        · refine J_aload_n dX11_read_53 rfl rfl ?_
          refine J_aload dX11_read_54 rfl ?_
          refine J_iload_n dX11_read_56 rfl rfl ?_
          refine J_iload_n dX11_read_57 rfl rfl ?_
          refine K_callV_i (As := [vR (some b3), vI x2, vI x3]) mcX11_decoded mlX11_175 rfl (by decide) (sq 0 rfl) (ct11_decoded G t N b3 x2 x3 hb3 S11) rfl rfl (Nat.le_of_ble_eq_true rfl) (by decide) (Nat.le_of_ble_eq_true rfl) dX11_read_58 (fun q13 S14 => ?_)
          refine J_istore [some (vR (some 0)), some (vI x1), some (vI x2), some (vI x3), some (vR (some b3)), some (vI q13)] dX11_read_61 (Nat.le_of_ble_eq_true rfl) rfl rfl ?_
          refine J_iload dX11_read_63 rfl ?_
          refine J_if_le (tgt := 79) dX11_read_65 (by decide) (fun z15 => ?_) (fun z15 => ?_)
          · refine J_iload dX11_read_79 rfl ?_
            exact J_ireturn rfl (Nat.le_refl _) (Nat.le_refl _) rfl dX11_read_81
          · refine J_aload_n dX11_read_68 rfl rfl ?_
            refine K_getR (r := some (2)) cf11 flX11_22 (sq 0 rfl) rfl (Or.inl ⟨_, rfl⟩) dX11_read_69 ?_
            refine J_aload_n dX11_read_72 rfl rfl ?_
            refine K_getR (r := some (4)) cf11 flX11_26 (sq 0 rfl) rfl (Or.inl ⟨_, rfl⟩) dX11_read_73 ?_
            refine K_callV_v (As := [vR (some 4)]) mcX6_become mlX11_179 rfl (by decide) (sq 2 rfl) (ct6_become G t 2 4 (by decide) (by decide) S14) rfl rfl (Nat.le_of_ble_eq_true rfl) (by decide) (Nat.le_of_ble_eq_true rfl) dX11_read_76 (fun q16 S17 => ?_)
            refine J_iload dX11_read_79 rfl ?_
            exact J_ireturn rfl (Nat.le_refl _) (Nat.le_refl _) rfl dX11_read_81
      · refine J_bipush (v := (-2)) dX11_read_36 (by decide) ?_
        exact J_ireturn rfl (Nat.le_refl _) (Nat.le_refl _) rfl dX11_read_38
theorem dX11_isNumber_0 : decode cX11_isNumber 0 = .ok (.iload_n 0, 1) := by decide +kernel
theorem dX11_isNumber_1 : decode cX11_isNumber 1 = .ok (.ifCond .lt 14, 3) := by decide +kernel
theorem dX11_isNumber_4 : decode cX11_isNumber 4 = .ok (.iload_n 0, 1) := by decide +kernel
theorem dX11_isNumber_5 : decode cX11_isNumber 5 = .ok (.sipush 1000, 3) := by decide +kernel
theorem dX11_isNumber_8 : decode cX11_isNumber 8 = .ok (.if_icmp .ge 7, 3) := by decide +kernel
theorem dX11_isNumber_11 : decode cX11_isNumber 11 = .ok (.iconst 1, 1) := by decide +kernel
theorem dX11_isNumber_12 : decode cX11_isNumber 12 = .ok (.goto 4, 3) := by decide +kernel
theorem dX11_isNumber_15 : decode cX11_isNumber 15 = .ok (.iconst 0, 1) := by decide +kernel
theorem dX11_isNumber_16 : decode cX11_isNumber 16 = .ok (.ireturn, 1) := by decide +kernel
set_option maxRecDepth 100000 in
set_option maxHeartbeats 4000000 in
theorem ct11_isNumber (G : Gm) (t : Nat)  (x0 : Int32)  (S : St) : Ct G YX11_isNumber yX11_isNumber 1 0 0 (fI t) (f11_isNumber x0 S) [vI x0] (MM t S) := by
  refine Ct_of_J [some (vI x0)] (by decide) rfl (fun h => by cases h) (Nat.le_of_ble_eq_true rfl) (And.intro rfl (trivial)) ?_
  unfold f11_isNumber
  refine J_iload_n dX11_isNumber_0 rfl rfl ?_
  refine J_if_lt (tgt := 15) dX11_isNumber_1 (by decide) (fun z1 => ?_) (fun z1 => ?_)
  · refine J_iconst (v := nI 0) dX11_isNumber_15 (by decide) ?_
    exact J_zreturn (by decide) rfl (Nat.le_refl _) (Nat.le_refl _) rfl dX11_isNumber_16
  · refine J_iload_n dX11_isNumber_4 rfl rfl ?_
    refine J_sipush (v := nI 1000) dX11_isNumber_5 (by decide) ?_
    refine J_icmp_ge (tgt := 15) dX11_isNumber_8 (by decide) (fun z2 => ?_) (fun z2 => ?_)
    · refine J_iconst (v := nI 0) dX11_isNumber_15 (by decide) ?_
      exact J_zreturn (by decide) rfl (Nat.le_refl _) (Nat.le_refl _) rfl dX11_isNumber_16
    · refine J_iconst (v := nI 1) dX11_isNumber_11 (by decide) ?_
      refine J_goto (tgt := 16) dX11_isNumber_12 (by decide) ?_
      exact J_zreturn (by decide) rfl (Nat.le_refl _) (Nat.le_refl _) rfl dX11_isNumber_16
theorem dX11_run_0 : decode cX11_run 0 = .ok (.aload_n 0, 1) := by decide +kernel
theorem dX11_run_1 : decode cX11_run 1 = .ok (.iload_n 1, 1) := by decide +kernel
theorem dX11_run_2 : decode cX11_run 2 = .ok (.invokevirtual 118, 3) := by decide +kernel
theorem dX11_run_5 : decode cX11_run 5 = .ok (.astore 4, 2) := by decide +kernel
theorem dX11_run_7 : decode cX11_run 7 = .ok (.aload 4, 2) := by decide +kernel
theorem dX11_run_9 : decode cX11_run 9 = .ok (.ifnull 17, 3) := by decide +kernel
theorem dX11_run_12 : decode cX11_run 12 = .ok (.iload_n 2, 1) := by decide +kernel
theorem dX11_run_13 : decode cX11_run 13 = .ok (.invokestatic 183, 3) := by decide +kernel
theorem dX11_run_16 : decode cX11_run 16 = .ok (.ifCond .eq 10, 3) := by decide +kernel
theorem dX11_run_19 : decode cX11_run 19 = .ok (.iload_n 3, 1) := by decide +kernel
theorem dX11_run_20 : decode cX11_run 20 = .ok (.invokestatic 183, 3) := by decide +kernel
theorem dX11_run_23 : decode cX11_run 23 = .ok (.ifCond .ne 5, 3) := by decide +kernel
theorem dX11_run_26 : decode cX11_run 26 = .ok (.iconst (-1), 1) := by decide +kernel
theorem dX11_run_27 : decode cX11_run 27 = .ok (.ireturn, 1) := by decide +kernel
theorem dX11_run_28 : decode cX11_run 28 = .ok (.aload 4, 2) := by decide +kernel
theorem dX11_run_30 : decode cX11_run 30 = .ok (.aload_n 0, 1) := by decide +kernel
theorem dX11_run_31 : decode cX11_run 31 = .ok (.getfield 22, 3) := by decide +kernel
theorem dX11_run_34 : decode cX11_run 34 = .ok (.invokevirtual 162, 3) := by decide +kernel
theorem dX11_run_37 : decode cX11_run 37 = .ok (.ifCond .ge 6, 3) := by decide +kernel
theorem dX11_run_40 : decode cX11_run 40 = .ok (.bipush (-5), 2) := by decide +kernel
theorem dX11_run_42 : decode cX11_run 42 = .ok (.ireturn, 1) := by decide +kernel
theorem dX11_run_43 : decode cX11_run 43 = .ok (.aload_n 0, 1) := by decide +kernel
theorem dX11_run_44 : decode cX11_run 44 = .ok (.getfield 32, 3) := by decide +kernel
theorem dX11_run_47 : decode cX11_run 47 = .ok (.aload 4, 2) := by decide +kernel
theorem dX11_run_49 : decode cX11_run 49 = .ok (.aload_n 0, 1) := by decide +kernel
theorem dX11_run_50 : decode cX11_run 50 = .ok (.getfield 22, 3) := by decide +kernel
theorem dX11_run_53 : decode cX11_run 53 = .ok (.iload_n 2, 1) := by decide +kernel
theorem dX11_run_54 : decode cX11_run 54 = .ok (.invokevirtual 186, 3) := by decide +kernel
theorem dX11_run_57 : decode cX11_run 57 = .ok (.aload_n 0, 1) := by decide +kernel
theorem dX11_run_58 : decode cX11_run 58 = .ok (.getfield 32, 3) := by decide +kernel
theorem dX11_run_61 : decode cX11_run 61 = .ok (.iload_n 3, 1) := by decide +kernel
theorem dX11_run_62 : decode cX11_run 62 = .ok (.invokevirtual 190, 3) := by decide +kernel
theorem dX11_run_65 : decode cX11_run 65 = .ok (.aload_n 0, 1) := by decide +kernel
theorem dX11_run_66 : decode cX11_run 66 = .ok (.getfield 32, 3) := by decide +kernel
theorem dX11_run_69 : decode cX11_run 69 = .ok (.aload_n 0, 1) := by decide +kernel
theorem dX11_run_70 : decode cX11_run 70 = .ok (.getfield 36, 3) := by decide +kernel
theorem dX11_run_73 : decode cX11_run 73 = .ok (.invokevirtual 193, 3) := by decide +kernel
theorem dX11_run_76 : decode cX11_run 76 = .ok (.aload_n 0, 1) := by decide +kernel
theorem dX11_run_77 : decode cX11_run 77 = .ok (.iconst 1, 1) := by decide +kernel
theorem dX11_run_78 : decode cX11_run 78 = .ok (.putfield 40, 3) := by decide +kernel
theorem dX11_run_81 : decode cX11_run 81 = .ok (.aload_n 0, 1) := by decide +kernel
theorem dX11_run_82 : decode cX11_run 82 = .ok (.getfield 32, 3) := by decide +kernel
theorem dX11_run_85 : decode cX11_run 85 = .ok (.invokevirtual 197, 3) := by decide +kernel
theorem dX11_run_88 : decode cX11_run 88 = .ok (.ireturn, 1) := by decide +kernel
set_option maxRecDepth 100000 in
set_option maxHeartbeats 4000000 in
theorem ct11_run (G : Gm) (t : Nat) (N : Nat) (x1 : Int32) (x2 : Int32) (x3 : Int32)  (S : St) : Ct G YX11_run yX11_run 5 0 0 (fI t) (f11_run N x1 x2 x3 S) [vR (some 0), vI x1, vI x2, vI x3] (MM t S) := by
  refine Ct_of_J [some (vR (some 0)), some (vI x1), some (vI x2), some (vI x3), none] (by decide) rfl (fun h => by cases h) (Nat.le_of_ble_eq_true rfl) (And.intro rfl (And.intro rfl (And.intro rfl (And.intro rfl (trivial))))) ?_
  unfold f11_run
  refine J_aload_n dX11_run_0 rfl rfl ?_
  refine J_iload_n dX11_run_1 rfl rfl ?_
  refine K_callV_r (As := [vI x1]) mcX11_languageAt mlX11_118 rfl (by decide) (sq 0 rfl) (ct11_languageAt G t x1 S) rfl rfl (Nat.le_of_ble_eq_true rfl) (by decide) (Nat.le_of_ble_eq_true rfl) dX11_run_2 (fun q1 S2 => ?_)
  refine J_astore [some (vR (some 0)), some (vI x1), some (vI x2), some (vI x3), some (vR q1)] dX11_run_5 (Nat.le_of_ble_eq_true rfl) rfl rfl ?_
  refine J_aload dX11_run_7 rfl ?_
  refine J_ifnull (tgt := 26) dX11_run_9 (by decide) (fun hr => ?_) (fun b3 hr => ?_)
  · subst hr
    refine J_iconst (v := (-1)) dX11_run_26 (by decide) ?_
    exact J_ireturn rfl (Nat.le_refl _) (Nat.le_refl _) rfl dX11_run_27
  · subst hr
    refine J_ckA (fun hb3 => ?_)
    refine J_iload_n dX11_run_12 rfl rfl ?_
    refine K_callS_i (As := [vI x2]) mcX11_isNumber mlX11_183 (ct11_isNumber G t x2 S2) rfl rfl (Nat.le_of_ble_eq_true rfl) (by decide) (Nat.le_of_ble_eq_true rfl) dX11_run_13 (fun q4 S5 => ?_)
    refine J_if_eq (tgt := 26) dX11_run_16 (by decide) (fun z6 => ?_) (fun z6 => ?_)
    · refine J_iconst (v := (-1)) dX11_run_26 (by decide) ?_
      exact J_ireturn rfl (Nat.le_refl _) (Nat.le_refl _) rfl dX11_run_27
    · refine J_iload_n dX11_run_19 rfl rfl ?_
      refine K_callS_i (As := [vI x3]) mcX11_isNumber mlX11_183 (ct11_isNumber G t x3 S5) rfl rfl (Nat.le_of_ble_eq_true rfl) (by decide) (Nat.le_of_ble_eq_true rfl) dX11_run_20 (fun q7 S8 => ?_)
      refine J_if_ne (tgt := 28) dX11_run_23 (by decide) (fun z9 => ?_) (fun z9 => ?_)
      · refine J_iconst (v := (-1)) dX11_run_26 (by decide) ?_
        exact J_ireturn rfl (Nat.le_refl _) (Nat.le_refl _) rfl dX11_run_27
      · refine J_aload dX11_run_28 rfl ?_
        refine J_aload_n dX11_run_30 rfl rfl ?_
        refine K_getR (r := some (2)) cf11 flX11_22 (sq 0 rfl) rfl (Or.inl ⟨_, rfl⟩) dX11_run_31 ?_
        refine K_callV_i (As := [vR (some 2)]) mcX3_sizeOf mlX11_162 rfl (by decide) (sq3_0 hb3) (ct3_sizeOf G t N b3 2 hb3 (by decide) S8) rfl rfl (Nat.le_of_ble_eq_true rfl) (by decide) (Nat.le_of_ble_eq_true rfl) dX11_run_34 (fun q10 S11 => ?_)
        refine J_if_ge (tgt := 43) dX11_run_37 (by decide) (fun z12 => ?_) (fun z12 => ?_)
        · refine J_aload_n dX11_run_43 rfl rfl ?_
          refine K_getR (r := some (6)) cf11 flX11_32 (sq 0 rfl) rfl (Or.inl ⟨_, rfl⟩) dX11_run_44 ?_
          refine J_aload dX11_run_47 rfl ?_
          refine J_aload_n dX11_run_49 rfl rfl ?_
          refine K_getR (r := some (2)) cf11 flX11_22 (sq 0 rfl) rfl (Or.inl ⟨_, rfl⟩) dX11_run_50 ?_
          refine J_iload_n dX11_run_53 rfl rfl ?_
          refine K_callV_v (As := [vR (some b3), vR (some 2), vI x2]) mcX4_start mlX11_186 rfl (by decide) (sq 6 rfl) (ct4_start G t N b3 2 x2 hb3 (by decide) S11) rfl rfl (Nat.le_of_ble_eq_true rfl) (by decide) (Nat.le_of_ble_eq_true rfl) dX11_run_54 (fun q13 S14 => ?_)
          refine J_aload_n dX11_run_57 rfl rfl ?_
          refine K_getR (r := some (6)) cf11 flX11_32 (sq 0 rfl) rfl (Or.inl ⟨_, rfl⟩) dX11_run_58 ?_
          refine J_iload_n dX11_run_61 rfl rfl ?_
          refine K_callV_v (As := [vI x3]) mcX4_goOn mlX11_190 rfl (by decide) (sq 6 rfl) (ct4_goOn G t N x3 S14) rfl rfl (Nat.le_of_ble_eq_true rfl) (by decide) (Nat.le_of_ble_eq_true rfl) dX11_run_62 (fun q15 S16 => ?_)
          refine J_aload_n dX11_run_65 rfl rfl ?_
          refine K_getR (r := some (6)) cf11 flX11_32 (sq 0 rfl) rfl (Or.inl ⟨_, rfl⟩) dX11_run_66 ?_
          refine J_aload_n dX11_run_69 rfl rfl ?_
          refine K_getR (r := some (10)) cf11 flX11_36 (sq 0 rfl) rfl (Or.inr ⟨_, rfl⟩) dX11_run_70 ?_
          refine K_callV_v (As := [vR (some 10)]) mcX4_tell mlX11_193 rfl (by decide) (sq 6 rfl) (ct4_tell G t S16) rfl rfl (Nat.le_of_ble_eq_true rfl) (by decide) (Nat.le_of_ble_eq_true rfl) dX11_run_73 (fun q17 S18 => ?_)
          refine J_aload_n dX11_run_76 rfl rfl ?_
          refine J_iconst (v := nI 1) dX11_run_77 (by decide) ?_
          refine K_putZ (by decide) cf11 flX11_40 (sq 0 rfl) rfl dX11_run_78 ?_
          refine J_ltS (fun S19 _ => ?_)
          refine J_aload_n dX11_run_81 rfl rfl ?_
          refine K_getR (r := some (6)) cf11 flX11_32 (sq 0 rfl) rfl (Or.inl ⟨_, rfl⟩) dX11_run_82 ?_
          refine K_callV_i (As := []) mcX4_state mlX11_197 rfl (by decide) (sq 6 rfl) (ct4_state G t S19) rfl rfl (Nat.le_of_ble_eq_true rfl) (by decide) (Nat.le_of_ble_eq_true rfl) dX11_run_85 (fun q20 S21 => ?_)
          exact J_ireturn rfl (Nat.le_refl _) (Nat.le_refl _) rfl dX11_run_88
        · refine J_bipush (v := (-5)) dX11_run_40 (by decide) ?_
          exact J_ireturn rfl (Nat.le_refl _) (Nat.le_refl _) rfl dX11_run_42
theorem dX11_ran_0 : decode cX11_ran 0 = .ok (.aload_n 0, 1) := by decide +kernel
theorem dX11_ran_1 : decode cX11_ran 1 = .ok (.getfield 40, 3) := by decide +kernel
theorem dX11_ran_4 : decode cX11_ran 4 = .ok (.ifCond .ne 5, 3) := by decide +kernel
theorem dX11_ran_7 : decode cX11_ran 7 = .ok (.iconst (-1), 1) := by decide +kernel
theorem dX11_ran_8 : decode cX11_ran 8 = .ok (.ireturn, 1) := by decide +kernel
theorem dX11_ran_9 : decode cX11_ran 9 = .ok (.iload_n 1, 1) := by decide +kernel
theorem dX11_ran_10 : decode cX11_ran 10 = .ok (.ifCond .lt 15, 3) := by decide +kernel
theorem dX11_ran_13 : decode cX11_ran 13 = .ok (.iload_n 1, 1) := by decide +kernel
theorem dX11_ran_14 : decode cX11_ran 14 = .ok (.iconst 3, 1) := by decide +kernel
theorem dX11_ran_15 : decode cX11_ran 15 = .ok (.if_icmp .gt 10, 3) := by decide +kernel
theorem dX11_ran_18 : decode cX11_ran 18 = .ok (.aload_n 0, 1) := by decide +kernel
theorem dX11_ran_19 : decode cX11_ran 19 = .ok (.getfield 36, 3) := by decide +kernel
theorem dX11_ran_22 : decode cX11_ran 22 = .ok (.iload_n 1, 1) := by decide +kernel
theorem dX11_ran_23 : decode cX11_ran 23 = .ok (.iaload, 1) := by decide +kernel
theorem dX11_ran_24 : decode cX11_ran 24 = .ok (.ireturn, 1) := by decide +kernel
theorem dX11_ran_25 : decode cX11_ran 25 = .ok (.iload_n 1, 1) := by decide +kernel
theorem dX11_ran_26 : decode cX11_ran 26 = .ok (.bipush 10, 2) := by decide +kernel
theorem dX11_ran_28 : decode cX11_ran 28 = .ok (.if_icmp .lt 38, 3) := by decide +kernel
theorem dX11_ran_31 : decode cX11_ran 31 = .ok (.iload_n 1, 1) := by decide +kernel
theorem dX11_ran_32 : decode cX11_ran 32 = .ok (.bipush 10, 2) := by decide +kernel
theorem dX11_ran_34 : decode cX11_ran 34 = .ok (.isub, 1) := by decide +kernel
theorem dX11_ran_35 : decode cX11_ran 35 = .ok (.aload_n 0, 1) := by decide +kernel
theorem dX11_ran_36 : decode cX11_ran 36 = .ok (.getfield 36, 3) := by decide +kernel
theorem dX11_ran_39 : decode cX11_ran 39 = .ok (.iconst 3, 1) := by decide +kernel
theorem dX11_ran_40 : decode cX11_ran 40 = .ok (.iaload, 1) := by decide +kernel
theorem dX11_ran_41 : decode cX11_ran 41 = .ok (.if_icmp .ge 25, 3) := by decide +kernel
theorem dX11_ran_44 : decode cX11_ran 44 = .ok (.iload_n 1, 1) := by decide +kernel
theorem dX11_ran_45 : decode cX11_ran 45 = .ok (.bipush 6, 2) := by decide +kernel
theorem dX11_ran_47 : decode cX11_ran 47 = .ok (.isub, 1) := by decide +kernel
theorem dX11_ran_48 : decode cX11_ran 48 = .ok (.aload_n 0, 1) := by decide +kernel
theorem dX11_ran_49 : decode cX11_ran 49 = .ok (.getfield 36, 3) := by decide +kernel
theorem dX11_ran_52 : decode cX11_ran 52 = .ok (.arraylength, 1) := by decide +kernel
theorem dX11_ran_53 : decode cX11_ran 53 = .ok (.if_icmp .ge 13, 3) := by decide +kernel
theorem dX11_ran_56 : decode cX11_ran 56 = .ok (.aload_n 0, 1) := by decide +kernel
theorem dX11_ran_57 : decode cX11_ran 57 = .ok (.getfield 36, 3) := by decide +kernel
theorem dX11_ran_60 : decode cX11_ran 60 = .ok (.iload_n 1, 1) := by decide +kernel
theorem dX11_ran_61 : decode cX11_ran 61 = .ok (.bipush 6, 2) := by decide +kernel
theorem dX11_ran_63 : decode cX11_ran 63 = .ok (.isub, 1) := by decide +kernel
theorem dX11_ran_64 : decode cX11_ran 64 = .ok (.iaload, 1) := by decide +kernel
theorem dX11_ran_65 : decode cX11_ran 65 = .ok (.ireturn, 1) := by decide +kernel
theorem dX11_ran_66 : decode cX11_ran 66 = .ok (.iconst (-1), 1) := by decide +kernel
theorem dX11_ran_67 : decode cX11_ran 67 = .ok (.ireturn, 1) := by decide +kernel
set_option maxRecDepth 100000 in
set_option maxHeartbeats 4000000 in
theorem t11_ran_j25 (G : Gm) (t : Nat)  (x1 : Int32)    : ∀  (S : St), J G YX11_ran 1 0 0 (fI t) 0 0 25 [some (vR (some 0)), some (vI x1)] [] (MM t S) (f11_ran_j25 x1 S) := by
  intro S
  unfold f11_ran_j25
  refine J_iload_n dX11_ran_25 rfl rfl ?_
  refine J_bipush (v := nI 10) dX11_ran_26 (by decide) ?_
  refine J_icmp_lt (tgt := 66) dX11_ran_28 (by decide) (fun z1 => ?_) (fun z1 => ?_)
  · refine J_iconst (v := (-1)) dX11_ran_66 (by decide) ?_
    exact J_ireturn rfl (Nat.le_refl _) (Nat.le_refl _) rfl dX11_ran_67
  · refine J_iload_n dX11_ran_31 rfl rfl ?_
    refine J_bipush (v := nI 10) dX11_ran_32 (by decide) ?_
    refine J_isub dX11_ran_34 ?_
    refine J_aload_n dX11_ran_35 rfl rfl ?_
    refine K_getR (r := some (10)) cf11 flX11_36 (sq 0 rfl) rfl (Or.inr ⟨_, rfl⟩) dX11_ran_36 ?_
    refine J_iconst (v := nI 3) dX11_ran_39 (by decide) ?_
    refine K_iald (sq 10 rfl) dX11_ran_40 ?_
    refine J_icmp_ge (tgt := 66) dX11_ran_41 (by decide) (fun z2 => ?_) (fun z2 => ?_)
    · refine J_iconst (v := (-1)) dX11_ran_66 (by decide) ?_
      exact J_ireturn rfl (Nat.le_refl _) (Nat.le_refl _) rfl dX11_ran_67
    · refine J_iload_n dX11_ran_44 rfl rfl ?_
      refine J_bipush (v := nI 6) dX11_ran_45 (by decide) ?_
      refine J_isub dX11_ran_47 ?_
      refine J_aload_n dX11_ran_48 rfl rfl ?_
      refine K_getR (r := some (10)) cf11 flX11_36 (sq 0 rfl) rfl (Or.inr ⟨_, rfl⟩) dX11_ran_49 ?_
      refine K_alen (v := nI 12) (sq 10 rfl) (by decide) rfl dX11_ran_52 ?_
      refine J_icmp_ge (tgt := 66) dX11_ran_53 (by decide) (fun z3 => ?_) (fun z3 => ?_)
      · refine J_iconst (v := (-1)) dX11_ran_66 (by decide) ?_
        exact J_ireturn rfl (Nat.le_refl _) (Nat.le_refl _) rfl dX11_ran_67
      · refine J_aload_n dX11_ran_56 rfl rfl ?_
        refine K_getR (r := some (10)) cf11 flX11_36 (sq 0 rfl) rfl (Or.inr ⟨_, rfl⟩) dX11_ran_57 ?_
        refine J_iload_n dX11_ran_60 rfl rfl ?_
        refine J_bipush (v := nI 6) dX11_ran_61 (by decide) ?_
        refine J_isub dX11_ran_63 ?_
        refine K_iald (sq 10 rfl) dX11_ran_64 ?_
        exact J_ireturn rfl (Nat.le_refl _) (Nat.le_refl _) rfl dX11_ran_65
set_option maxRecDepth 100000 in
set_option maxHeartbeats 4000000 in
theorem ct11_ran (G : Gm) (t : Nat)  (x1 : Int32)  (S : St) : Ct G YX11_ran yX11_ran 1 0 0 (fI t) (f11_ran x1 S) [vR (some 0), vI x1] (MM t S) := by
  refine Ct_of_J [some (vR (some 0)), some (vI x1)] (by decide) rfl (fun h => by cases h) (Nat.le_of_ble_eq_true rfl) (And.intro rfl (And.intro rfl (trivial))) ?_
  unfold f11_ran
  refine J_aload_n dX11_ran_0 rfl rfl ?_
  refine K_getI cf11 flX11_40 (sq 0 rfl) (Or.inr rfl) dX11_ran_1 ?_
  refine J_if_ne (tgt := 9) dX11_ran_4 (by decide) (fun z1 => ?_) (fun z1 => ?_)
  · refine J_iconst (v := (-1)) dX11_ran_7 (by decide) ?_
    exact J_ireturn rfl (Nat.le_refl _) (Nat.le_refl _) rfl dX11_ran_8
  · refine J_iload_n dX11_ran_9 rfl rfl ?_
    refine J_if_lt (tgt := 25) dX11_ran_10 (by decide) (fun z2 => ?_) (fun z2 => ?_)
    · exact J_sb (t11_ran_j25 G t x1 S) (And.intro rfl (And.intro rfl (trivial)))
    · refine J_iload_n dX11_ran_13 rfl rfl ?_
      refine J_iconst (v := nI 3) dX11_ran_14 (by decide) ?_
      refine J_icmp_gt (tgt := 25) dX11_ran_15 (by decide) (fun z3 => ?_) (fun z3 => ?_)
      · exact J_sb (t11_ran_j25 G t x1 S) (And.intro rfl (And.intro rfl (trivial)))
      · refine J_aload_n dX11_ran_18 rfl rfl ?_
        refine K_getR (r := some (10)) cf11 flX11_36 (sq 0 rfl) rfl (Or.inr ⟨_, rfl⟩) dX11_ran_19 ?_
        refine J_iload_n dX11_ran_22 rfl rfl ?_
        refine K_iald (sq 10 rfl) dX11_ran_23 ?_
        exact J_ireturn rfl (Nat.le_refl _) (Nat.le_refl _) rfl dX11_ran_24
theorem dX11_next_0 : decode cX11_next 0 = .ok (.aload_n 0, 1) := by decide +kernel
theorem dX11_next_1 : decode cX11_next 1 = .ok (.iload_n 1, 1) := by decide +kernel
theorem dX11_next_2 : decode cX11_next 2 = .ok (.invokevirtual 118, 3) := by decide +kernel
theorem dX11_next_5 : decode cX11_next 5 = .ok (.astore_n 2, 1) := by decide +kernel
theorem dX11_next_6 : decode cX11_next 6 = .ok (.aload_n 2, 1) := by decide +kernel
theorem dX11_next_7 : decode cX11_next 7 = .ok (.ifnonnull 5, 3) := by decide +kernel
theorem dX11_next_10 : decode cX11_next 10 = .ok (.iconst (-1), 1) := by decide +kernel
theorem dX11_next_11 : decode cX11_next 11 = .ok (.ireturn, 1) := by decide +kernel
theorem dX11_next_12 : decode cX11_next 12 = .ok (.aload_n 0, 1) := by decide +kernel
theorem dX11_next_13 : decode cX11_next 13 = .ok (.getfield 22, 3) := by decide +kernel
theorem dX11_next_16 : decode cX11_next 16 = .ok (.invokevirtual 146, 3) := by decide +kernel
theorem dX11_next_19 : decode cX11_next 19 = .ok (.ifCond .le 17, 3) := by decide +kernel
theorem dX11_next_22 : decode cX11_next 22 = .ok (.aload_n 2, 1) := by decide +kernel
theorem dX11_next_23 : decode cX11_next 23 = .ok (.aload_n 0, 1) := by decide +kernel
theorem dX11_next_24 : decode cX11_next 24 = .ok (.getfield 22, 3) := by decide +kernel
theorem dX11_next_27 : decode cX11_next 27 = .ok (.invokevirtual 162, 3) := by decide +kernel
theorem dX11_next_30 : decode cX11_next 30 = .ok (.ifCond .ge 6, 3) := by decide +kernel
theorem dX11_next_33 : decode cX11_next 33 = .ok (.bipush (-5), 2) := by decide +kernel
theorem dX11_next_35 : decode cX11_next 35 = .ok (.ireturn, 1) := by decide +kernel
theorem dX11_next_36 : decode cX11_next 36 = .ok (.aload_n 2, 1) := by decide +kernel
theorem dX11_next_37 : decode cX11_next 37 = .ok (.aload_n 0, 1) := by decide +kernel
theorem dX11_next_38 : decode cX11_next 38 = .ok (.getfield 22, 3) := by decide +kernel
theorem dX11_next_41 : decode cX11_next 41 = .ok (.bipush 14, 2) := by decide +kernel
theorem dX11_next_43 : decode cX11_next 43 = .ok (.invokevirtual 200, 3) := by decide +kernel
theorem dX11_next_46 : decode cX11_next 46 = .ok (.istore_n 3, 1) := by decide +kernel
theorem dX11_next_47 : decode cX11_next 47 = .ok (.iload_n 3, 1) := by decide +kernel
theorem dX11_next_48 : decode cX11_next 48 = .ok (.ifCond .le 7, 3) := by decide +kernel
theorem dX11_next_51 : decode cX11_next 51 = .ok (.iload_n 3, 1) := by decide +kernel
theorem dX11_next_52 : decode cX11_next 52 = .ok (.goto 5, 3) := by decide +kernel
theorem dX11_next_55 : decode cX11_next 55 = .ok (.bipush (-2), 2) := by decide +kernel
theorem dX11_next_57 : decode cX11_next 57 = .ok (.ireturn, 1) := by decide +kernel
set_option maxRecDepth 100000 in
set_option maxHeartbeats 4000000 in
theorem t11_next_j36 (G : Gm) (t : Nat) (N : Nat) (a2 : Nat) (h2 : a2 ∈ ad3)   : ∀  (S : St), J G YX11_next 6 0 0 (fI t) 0 0 36 [some (vR (some 0)), none, some (vR (some a2)), none] [] (MM t S) (f11_next_j36 N a2 S) := by
  intro S
  unfold f11_next_j36
  refine J_aload_n dX11_next_36 rfl rfl ?_
  refine J_aload_n dX11_next_37 rfl rfl ?_
  refine K_getR (r := some (2)) cf11 flX11_22 (sq 0 rfl) rfl (Or.inl ⟨_, rfl⟩) dX11_next_38 ?_
  refine J_bipush (v := nI 14) dX11_next_41 (by decide) ?_
  refine K_callV_i (As := [vR (some 2), vI (nI 14)]) mcX3_follow mlX11_200 rfl (by decide) (sq3_0 h2) (ct3_follow G t N a2 2 (nI 14) h2 (by decide) S) rfl rfl (Nat.le_of_ble_eq_true rfl) (by decide) (Nat.le_of_ble_eq_true rfl) dX11_next_43 (fun q1 S2 => ?_)
  refine J_istore_n [some (vR (some 0)), none, some (vR (some a2)), some (vI q1)] dX11_next_46 rfl (Nat.le_of_ble_eq_true rfl) rfl rfl ?_
  refine J_iload_n dX11_next_47 rfl rfl ?_
  refine J_if_le (tgt := 55) dX11_next_48 (by decide) (fun z3 => ?_) (fun z3 => ?_)
  · refine J_bipush (v := (-2)) dX11_next_55 (by decide) ?_
    exact J_ireturn rfl (Nat.le_refl _) (Nat.le_refl _) rfl dX11_next_57
  · refine J_iload_n dX11_next_51 rfl rfl ?_
    refine J_goto (tgt := 57) dX11_next_52 (by decide) ?_
    exact J_ireturn rfl (Nat.le_refl _) (Nat.le_refl _) rfl dX11_next_57
set_option maxRecDepth 100000 in
set_option maxHeartbeats 4000000 in
theorem ct11_next (G : Gm) (t : Nat) (N : Nat) (x1 : Int32)  (S : St) : Ct G YX11_next yX11_next 6 0 0 (fI t) (f11_next N x1 S) [vR (some 0), vI x1] (MM t S) := by
  refine Ct_of_J [some (vR (some 0)), some (vI x1), none, none] (by decide) rfl (fun h => by cases h) (Nat.le_of_ble_eq_true rfl) (And.intro rfl (And.intro rfl (trivial))) ?_
  unfold f11_next
  refine J_aload_n dX11_next_0 rfl rfl ?_
  refine J_iload_n dX11_next_1 rfl rfl ?_
  refine K_callV_r (As := [vI x1]) mcX11_languageAt mlX11_118 rfl (by decide) (sq 0 rfl) (ct11_languageAt G t x1 S) rfl rfl (Nat.le_of_ble_eq_true rfl) (by decide) (Nat.le_of_ble_eq_true rfl) dX11_next_2 (fun q1 S2 => ?_)
  refine J_astore_n [some (vR (some 0)), some (vI x1), some (vR q1), none] dX11_next_5 rfl (Nat.le_of_ble_eq_true rfl) rfl rfl ?_
  refine J_aload_n dX11_next_6 rfl rfl ?_
  refine J_ifnonnull (tgt := 12) dX11_next_7 (by decide) (fun hr => ?_) (fun b3 hr => ?_)
  · subst hr
    refine J_iconst (v := (-1)) dX11_next_10 (by decide) ?_
    exact J_ireturn rfl (Nat.le_refl _) (Nat.le_refl _) rfl dX11_next_11
  · subst hr
    refine J_ckA (fun hb3 => ?_)
    refine J_aload_n dX11_next_12 rfl rfl ?_
    refine K_getR (r := some (2)) cf11 flX11_22 (sq 0 rfl) rfl (Or.inl ⟨_, rfl⟩) dX11_next_13 ?_
    refine K_callV_i (As := []) mcX6_length mlX11_146 rfl (by decide) (sq 2 rfl) (ct6_length G t 2 (by decide) S2) rfl rfl (Nat.le_of_ble_eq_true rfl) (by decide) (Nat.le_of_ble_eq_true rfl) dX11_next_16 (fun q4 S5 => ?_)
    refine J_if_le (tgt := 36) dX11_next_19 (by decide) (fun z6 => ?_) (fun z6 => ?_)
    · exact J_sb (t11_next_j36 G t N b3 hb3 S5) (And.intro rfl (And.intro rfl (trivial)))
    · refine J_aload_n dX11_next_22 rfl rfl ?_
      refine J_aload_n dX11_next_23 rfl rfl ?_
      refine K_getR (r := some (2)) cf11 flX11_22 (sq 0 rfl) rfl (Or.inl ⟨_, rfl⟩) dX11_next_24 ?_
      refine K_callV_i (As := [vR (some 2)]) mcX3_sizeOf mlX11_162 rfl (by decide) (sq3_0 hb3) (ct3_sizeOf G t N b3 2 hb3 (by decide) S5) rfl rfl (Nat.le_of_ble_eq_true rfl) (by decide) (Nat.le_of_ble_eq_true rfl) dX11_next_27 (fun q7 S8 => ?_)
      refine J_if_ge (tgt := 36) dX11_next_30 (by decide) (fun z9 => ?_) (fun z9 => ?_)
      · exact J_sb (t11_next_j36 G t N b3 hb3 S8) (And.intro rfl (And.intro rfl (trivial)))
      · refine J_bipush (v := (-5)) dX11_next_33 (by decide) ?_
        exact J_ireturn rfl (Nat.le_refl _) (Nat.le_refl _) rfl dX11_next_35
theorem dX11_feed_0 : decode cX11_feed 0 = .ok (.iload_n 1, 1) := by decide +kernel
theorem dX11_feed_1 : decode cX11_feed 1 = .ok (.iconst 1, 1) := by decide +kernel
theorem dX11_feed_2 : decode cX11_feed 2 = .ok (.if_icmp .lt 8, 3) := by decide +kernel
theorem dX11_feed_5 : decode cX11_feed 5 = .ok (.iload_n 1, 1) := by decide +kernel
theorem dX11_feed_6 : decode cX11_feed 6 = .ok (.iconst 4, 1) := by decide +kernel
theorem dX11_feed_7 : decode cX11_feed 7 = .ok (.if_icmp .le 5, 3) := by decide +kernel
theorem dX11_feed_10 : decode cX11_feed 10 = .ok (.iconst (-1), 1) := by decide +kernel
theorem dX11_feed_11 : decode cX11_feed 11 = .ok (.ireturn, 1) := by decide +kernel
theorem dX11_feed_12 : decode cX11_feed 12 = .ok (.aload_n 0, 1) := by decide +kernel
theorem dX11_feed_13 : decode cX11_feed 13 = .ok (.getfield 47, 3) := by decide +kernel
theorem dX11_feed_16 : decode cX11_feed 16 = .ok (.invokevirtual 204, 3) := by decide +kernel
theorem dX11_feed_19 : decode cX11_feed 19 = .ok (.iload_n 1, 1) := by decide +kernel
theorem dX11_feed_20 : decode cX11_feed 20 = .ok (.iadd, 1) := by decide +kernel
theorem dX11_feed_21 : decode cX11_feed 21 = .ok (.bipush 60, 2) := by decide +kernel
theorem dX11_feed_23 : decode cX11_feed 23 = .ok (.if_icmp .le 6, 3) := by decide +kernel
theorem dX11_feed_26 : decode cX11_feed 26 = .ok (.bipush (-3), 2) := by decide +kernel
theorem dX11_feed_28 : decode cX11_feed 28 = .ok (.ireturn, 1) := by decide +kernel
theorem dX11_feed_29 : decode cX11_feed 29 = .ok (.iload_n 2, 1) := by decide +kernel
theorem dX11_feed_30 : decode cX11_feed 30 = .ok (.istore_n 3, 1) := by decide +kernel
theorem dX11_feed_31 : decode cX11_feed 31 = .ok (.iconst 0, 1) := by decide +kernel
theorem dX11_feed_32 : decode cX11_feed 32 = .ok (.istore 4, 2) := by decide +kernel
theorem dX11_feed_34 : decode cX11_feed 34 = .ok (.iload 4, 2) := by decide +kernel
theorem dX11_feed_36 : decode cX11_feed 36 = .ok (.iload_n 1, 1) := by decide +kernel
theorem dX11_feed_37 : decode cX11_feed 37 = .ok (.if_icmp .ge 26, 3) := by decide +kernel
theorem dX11_feed_40 : decode cX11_feed 40 = .ok (.aload_n 0, 1) := by decide +kernel
theorem dX11_feed_41 : decode cX11_feed 41 = .ok (.getfield 47, 3) := by decide +kernel
theorem dX11_feed_44 : decode cX11_feed 44 = .ok (.iload_n 3, 1) := by decide +kernel
theorem dX11_feed_45 : decode cX11_feed 45 = .ok (.sipush 255, 3) := by decide +kernel
theorem dX11_feed_48 : decode cX11_feed 48 = .ok (.iand, 1) := by decide +kernel
theorem dX11_feed_49 : decode cX11_feed 49 = .ok (.invokevirtual 205, 3) := by decide +kernel
theorem dX11_feed_52 : decode cX11_feed 52 = .ok (.iload_n 3, 1) := by decide +kernel
theorem dX11_feed_53 : decode cX11_feed 53 = .ok (.bipush 8, 2) := by decide +kernel
theorem dX11_feed_55 : decode cX11_feed 55 = .ok (.iushr, 1) := by decide +kernel
theorem dX11_feed_56 : decode cX11_feed 56 = .ok (.istore_n 3, 1) := by decide +kernel
theorem dX11_feed_57 : decode cX11_feed 57 = .ok (.iinc 4 1, 3) := by decide +kernel
theorem dX11_feed_60 : decode cX11_feed 60 = .ok (.goto (-26), 3) := by decide +kernel
theorem dX11_feed_63 : decode cX11_feed 63 = .ok (.aload_n 0, 1) := by decide +kernel
theorem dX11_feed_64 : decode cX11_feed 64 = .ok (.getfield 47, 3) := by decide +kernel
theorem dX11_feed_67 : decode cX11_feed 67 = .ok (.invokevirtual 204, 3) := by decide +kernel
theorem dX11_feed_70 : decode cX11_feed 70 = .ok (.ireturn, 1) := by decide +kernel
set_option maxRecDepth 100000 in
set_option maxHeartbeats 4000000 in
theorem t11_feed_h34 (G : Gm) (t : Nat) (N : Nat) (x1 : Int32)    : ∀ (n : Nat) (x3 : Int32) (x4 : Int32) (S : St), J G YX11_feed 2 0 0 (fI t) 0 0 34 [some (vR (some 0)), some (vI x1), none, some (vI x3), some (vI x4)] [] (MM t S) (f11_feed_h34 N x1 n x3 x4 S) := by
  intro n
  induction n with
  | zero => intro x3 x4 S; exact J_none
  | succ n ih =>
    intro x3 x4 S
    rw [f11_feed_h34]
    refine J_iload dX11_feed_34 rfl ?_
    refine J_iload_n dX11_feed_36 rfl rfl ?_
    refine J_icmp_ge (tgt := 63) dX11_feed_37 (by decide) (fun z1 => ?_) (fun z1 => ?_)
    · refine J_aload_n dX11_feed_63 rfl rfl ?_
      refine K_getR (r := some (11)) cf11 flX11_47 (sq 0 rfl) rfl (Or.inl ⟨_, rfl⟩) dX11_feed_64 ?_
      refine K_callV_i (As := []) mcX9_length mlX11_204 rfl (by decide) (sq 11 rfl) (ct9_length G t S) rfl rfl (Nat.le_of_ble_eq_true rfl) (by decide) (Nat.le_of_ble_eq_true rfl) dX11_feed_67 (fun q2 S3 => ?_)
      exact J_ireturn rfl (Nat.le_refl _) (Nat.le_refl _) rfl dX11_feed_70
    · refine J_aload_n dX11_feed_40 rfl rfl ?_
      refine K_getR (r := some (11)) cf11 flX11_47 (sq 0 rfl) rfl (Or.inl ⟨_, rfl⟩) dX11_feed_41 ?_
      refine J_iload_n dX11_feed_44 rfl rfl ?_
      refine J_sipush (v := nI 255) dX11_feed_45 (by decide) ?_
      refine J_iand dX11_feed_48 ?_
      refine K_callV_v (As := [vI (x3 &&& (nI 255))]) mcX9_push mlX11_205 rfl (by decide) (sq 11 rfl) (ct9_push G t (x3 &&& (nI 255)) S) rfl rfl (Nat.le_of_ble_eq_true rfl) (by decide) (Nat.le_of_ble_eq_true rfl) dX11_feed_49 (fun q4 S5 => ?_)
      refine J_iload_n dX11_feed_52 rfl rfl ?_
      refine J_bipush (v := nI 8) dX11_feed_53 (by decide) ?_
      refine J_iushr dX11_feed_55 ?_
      refine J_ltI (fun v6 _ => ?_)
      refine J_istore_n [some (vR (some 0)), some (vI x1), none, some (vI v6), some (vI x4)] dX11_feed_56 rfl (Nat.le_of_ble_eq_true rfl) rfl rfl ?_
      refine J_iinc (v := x4 + nI 1) [some (vR (some 0)), some (vI x1), none, some (vI v6), some (vI (x4 + nI 1))] dX11_feed_57 rfl rfl (Nat.le_of_ble_eq_true rfl) rfl rfl ?_
      refine J_goto (tgt := 34) dX11_feed_60 (by decide) ?_
      exact J_sb (ih v6 (x4 + nI 1) S5) (And.intro rfl (And.intro rfl (And.intro rfl (And.intro rfl (trivial)))))
set_option maxRecDepth 100000 in
set_option maxHeartbeats 4000000 in
theorem ct11_feed (G : Gm) (t : Nat) (N : Nat) (x1 : Int32) (x2 : Int32)  (S : St) : Ct G YX11_feed yX11_feed 2 0 0 (fI t) (f11_feed N x1 x2 S) [vR (some 0), vI x1, vI x2] (MM t S) := by
  refine Ct_of_J [some (vR (some 0)), some (vI x1), some (vI x2), none, none] (by decide) rfl (fun h => by cases h) (Nat.le_of_ble_eq_true rfl) (And.intro rfl (And.intro rfl (And.intro rfl (trivial)))) ?_
  unfold f11_feed
  refine J_iload_n dX11_feed_0 rfl rfl ?_
  refine J_iconst (v := nI 1) dX11_feed_1 (by decide) ?_
  refine J_icmp_lt (tgt := 10) dX11_feed_2 (by decide) (fun z1 => ?_) (fun z1 => ?_)
  · refine J_iconst (v := (-1)) dX11_feed_10 (by decide) ?_
    exact J_ireturn rfl (Nat.le_refl _) (Nat.le_refl _) rfl dX11_feed_11
  · refine J_iload_n dX11_feed_5 rfl rfl ?_
    refine J_iconst (v := nI 4) dX11_feed_6 (by decide) ?_
    refine J_icmp_le (tgt := 12) dX11_feed_7 (by decide) (fun z2 => ?_) (fun z2 => ?_)
    · refine J_aload_n dX11_feed_12 rfl rfl ?_
      refine K_getR (r := some (11)) cf11 flX11_47 (sq 0 rfl) rfl (Or.inl ⟨_, rfl⟩) dX11_feed_13 ?_
      refine K_callV_i (As := []) mcX9_length mlX11_204 rfl (by decide) (sq 11 rfl) (ct9_length G t S) rfl rfl (Nat.le_of_ble_eq_true rfl) (by decide) (Nat.le_of_ble_eq_true rfl) dX11_feed_16 (fun q3 S4 => ?_)
      refine J_iload_n dX11_feed_19 rfl rfl ?_
      refine J_iadd dX11_feed_20 ?_
      refine J_bipush (v := nI 60) dX11_feed_21 (by decide) ?_
      refine J_icmp_le (tgt := 29) dX11_feed_23 (by decide) (fun z5 => ?_) (fun z5 => ?_)
      · refine J_iload_n dX11_feed_29 rfl rfl ?_
        refine J_istore_n [some (vR (some 0)), some (vI x1), some (vI x2), some (vI x2), none] dX11_feed_30 rfl (Nat.le_of_ble_eq_true rfl) rfl rfl ?_
        refine J_iconst (v := nI 0) dX11_feed_31 (by decide) ?_
        refine J_istore [some (vR (some 0)), some (vI x1), some (vI x2), some (vI x2), some (vI (nI 0))] dX11_feed_32 (Nat.le_of_ble_eq_true rfl) rfl rfl ?_
        exact J_sb (t11_feed_h34 G t N x1 N x2 (nI 0) S4) (And.intro rfl (And.intro rfl (And.intro rfl (And.intro rfl (trivial)))))
      · refine J_bipush (v := (-3)) dX11_feed_26 (by decide) ?_
        exact J_ireturn rfl (Nat.le_refl _) (Nat.le_refl _) rfl dX11_feed_28
    · refine J_iconst (v := (-1)) dX11_feed_10 (by decide) ?_
      exact J_ireturn rfl (Nat.le_refl _) (Nat.le_refl _) rfl dX11_feed_11
theorem dX11_task_0 : decode cX11_task 0 = .ok (.iload_n 1, 1) := by decide +kernel
theorem dX11_task_1 : decode cX11_task 1 = .ok (.invokestatic 183, 3) := by decide +kernel
theorem dX11_task_4 : decode cX11_task 4 = .ok (.ifCond .ne 5, 3) := by decide +kernel
theorem dX11_task_7 : decode cX11_task 7 = .ok (.iconst (-1), 1) := by decide +kernel
theorem dX11_task_8 : decode cX11_task 8 = .ok (.ireturn, 1) := by decide +kernel
theorem dX11_task_9 : decode cX11_task 9 = .ok (.aload_n 0, 1) := by decide +kernel
theorem dX11_task_10 : decode cX11_task 10 = .ok (.getfield 57, 3) := by decide +kernel
theorem dX11_task_13 : decode cX11_task 13 = .ok (.bipush 10, 2) := by decide +kernel
theorem dX11_task_15 : decode cX11_task 15 = .ok (.if_icmp .lt 6, 3) := by decide +kernel
theorem dX11_task_18 : decode cX11_task 18 = .ok (.bipush (-3), 2) := by decide +kernel
theorem dX11_task_20 : decode cX11_task 20 = .ok (.ireturn, 1) := by decide +kernel
theorem dX11_task_21 : decode cX11_task 21 = .ok (.aload_n 0, 1) := by decide +kernel
theorem dX11_task_22 : decode cX11_task 22 = .ok (.getfield 47, 3) := by decide +kernel
theorem dX11_task_25 : decode cX11_task 25 = .ok (.aload_n 0, 1) := by decide +kernel
theorem dX11_task_26 : decode cX11_task 26 = .ok (.getfield 53, 3) := by decide +kernel
theorem dX11_task_29 : decode cX11_task 29 = .ok (.aload_n 0, 1) := by decide +kernel
theorem dX11_task_30 : decode cX11_task 30 = .ok (.getfield 57, 3) := by decide +kernel
theorem dX11_task_33 : decode cX11_task 33 = .ok (.aaload, 1) := by decide +kernel
theorem dX11_task_34 : decode cX11_task 34 = .ok (.iload_n 1, 1) := by decide +kernel
theorem dX11_task_35 : decode cX11_task 35 = .ok (.invokevirtual 207, 3) := by decide +kernel
theorem dX11_task_38 : decode cX11_task 38 = .ok (.istore_n 2, 1) := by decide +kernel
theorem dX11_task_39 : decode cX11_task 39 = .ok (.aload_n 0, 1) := by decide +kernel
theorem dX11_task_40 : decode cX11_task 40 = .ok (.getfield 47, 3) := by decide +kernel
theorem dX11_task_43 : decode cX11_task 43 = .ok (.invokevirtual 211, 3) := by decide +kernel
theorem dX11_task_46 : decode cX11_task 46 = .ok (.iload_n 2, 1) := by decide +kernel
theorem dX11_task_47 : decode cX11_task 47 = .ok (.ifCond .lt 8, 3) := by decide +kernel
theorem dX11_task_50 : decode cX11_task 50 = .ok (.bipush (-100), 2) := by decide +kernel
theorem dX11_task_52 : decode cX11_task 52 = .ok (.iload_n 2, 1) := by decide +kernel
theorem dX11_task_53 : decode cX11_task 53 = .ok (.isub, 1) := by decide +kernel
theorem dX11_task_54 : decode cX11_task 54 = .ok (.ireturn, 1) := by decide +kernel
theorem dX11_task_55 : decode cX11_task 55 = .ok (.aload_n 0, 1) := by decide +kernel
theorem dX11_task_56 : decode cX11_task 56 = .ok (.dup, 1) := by decide +kernel
theorem dX11_task_57 : decode cX11_task 57 = .ok (.getfield 57, 3) := by decide +kernel
theorem dX11_task_60 : decode cX11_task 60 = .ok (.iconst 1, 1) := by decide +kernel
theorem dX11_task_61 : decode cX11_task 61 = .ok (.iadd, 1) := by decide +kernel
theorem dX11_task_62 : decode cX11_task 62 = .ok (.putfield 57, 3) := by decide +kernel
theorem dX11_task_65 : decode cX11_task 65 = .ok (.aload_n 0, 1) := by decide +kernel
theorem dX11_task_66 : decode cX11_task 66 = .ok (.getfield 57, 3) := by decide +kernel
theorem dX11_task_69 : decode cX11_task 69 = .ok (.iconst 1, 1) := by decide +kernel
theorem dX11_task_70 : decode cX11_task 70 = .ok (.isub, 1) := by decide +kernel
theorem dX11_task_71 : decode cX11_task 71 = .ok (.ireturn, 1) := by decide +kernel
set_option maxRecDepth 100000 in
set_option maxHeartbeats 4000000 in
theorem ct11_task (G : Gm) (t : Nat) (N : Nat) (x1 : Int32)  (S : St) : Ct G YX11_task yX11_task 24 0 0 (fI t) (f11_task N x1 S) [vR (some 0), vI x1] (MM t S) := by
  refine Ct_of_J [some (vR (some 0)), some (vI x1), none] (by decide) rfl (fun h => by cases h) (Nat.le_of_ble_eq_true rfl) (And.intro rfl (And.intro rfl (trivial))) ?_
  unfold f11_task
  refine J_iload_n dX11_task_0 rfl rfl ?_
  refine K_callS_i (As := [vI x1]) mcX11_isNumber mlX11_183 (ct11_isNumber G t x1 S) rfl rfl (Nat.le_of_ble_eq_true rfl) (by decide) (Nat.le_of_ble_eq_true rfl) dX11_task_1 (fun q1 S2 => ?_)
  refine J_if_ne (tgt := 9) dX11_task_4 (by decide) (fun z3 => ?_) (fun z3 => ?_)
  · refine J_iconst (v := (-1)) dX11_task_7 (by decide) ?_
    exact J_ireturn rfl (Nat.le_refl _) (Nat.le_refl _) rfl dX11_task_8
  · refine J_aload_n dX11_task_9 rfl rfl ?_
    refine K_getI cf11 flX11_57 (sq 0 rfl) (Or.inl rfl) dX11_task_10 ?_
    refine J_bipush (v := nI 10) dX11_task_13 (by decide) ?_
    refine J_icmp_lt (tgt := 21) dX11_task_15 (by decide) (fun z4 => ?_) (fun z4 => ?_)
    · refine J_aload_n dX11_task_21 rfl rfl ?_
      refine K_getR (r := some (11)) cf11 flX11_47 (sq 0 rfl) rfl (Or.inl ⟨_, rfl⟩) dX11_task_22 ?_
      refine J_aload_n dX11_task_25 rfl rfl ?_
      refine K_getR (r := some (13)) cf11 flX11_53 (sq 0 rfl) rfl (Or.inr ⟨_, rfl⟩) dX11_task_26 ?_
      refine J_aload_n dX11_task_29 rfl rfl ?_
      refine K_getI cf11 flX11_57 (sq 0 rfl) (Or.inl rfl) dX11_task_30 ?_
      refine K_aald (f := fun j => some (116 + 3 * j)) (sq 13 rfl) (by decide) (aq13) dX11_task_33 (fun i5 => ?_)
      refine J_iload_n dX11_task_34 rfl rfl ?_
      refine K_callV_i (As := [vR (some (116 + 3 * (S2.1 0 9).toNatClampNeg)), vI x1]) mcX9_writeTo mlX11_207 rfl (by decide) (sq 11 rfl) (ct9_writeTo G t N (116 + 3 * (S2.1 0 9).toNatClampNeg) x1 (am13 i5) S2) rfl rfl (Nat.le_of_ble_eq_true rfl) (by decide) (Nat.le_of_ble_eq_true rfl) dX11_task_35 (fun q6 S7 => ?_)
      refine J_istore_n [some (vR (some 0)), some (vI x1), some (vI q6)] dX11_task_38 rfl (Nat.le_of_ble_eq_true rfl) rfl rfl ?_
      refine J_aload_n dX11_task_39 rfl rfl ?_
      refine K_getR (r := some (11)) cf11 flX11_47 (sq 0 rfl) rfl (Or.inl ⟨_, rfl⟩) dX11_task_40 ?_
      refine K_callV_v (As := []) mcX9_beEmpty mlX11_211 rfl (by decide) (sq 11 rfl) (ct9_beEmpty G t S7) rfl rfl (Nat.le_of_ble_eq_true rfl) (by decide) (Nat.le_of_ble_eq_true rfl) dX11_task_43 (fun q8 S9 => ?_)
      refine J_iload_n dX11_task_46 rfl rfl ?_
      refine J_if_lt (tgt := 55) dX11_task_47 (by decide) (fun z10 => ?_) (fun z10 => ?_)
      · refine J_aload_n dX11_task_55 rfl rfl ?_
        refine J_dup dX11_task_56 rfl ?_
        refine K_getI cf11 flX11_57 (sq 0 rfl) (Or.inl rfl) dX11_task_57 ?_
        refine J_iconst (v := nI 1) dX11_task_60 (by decide) ?_
        refine J_iadd dX11_task_61 ?_
        refine K_putI cf11 flX11_57 (sq 0 rfl) rfl dX11_task_62 ?_
        refine J_ltS (fun S11 _ => ?_)
        refine J_aload_n dX11_task_65 rfl rfl ?_
        refine K_getI cf11 flX11_57 (sq 0 rfl) (Or.inl rfl) dX11_task_66 ?_
        refine J_iconst (v := nI 1) dX11_task_69 (by decide) ?_
        refine J_isub dX11_task_70 ?_
        exact J_ireturn rfl (Nat.le_refl _) (Nat.le_refl _) rfl dX11_task_71
      · refine J_bipush (v := (-100)) dX11_task_50 (by decide) ?_
        refine J_iload_n dX11_task_52 rfl rfl ?_
        refine J_isub dX11_task_53 ?_
        exact J_ireturn rfl (Nat.le_refl _) (Nat.le_refl _) rfl dX11_task_54
    · refine J_bipush (v := (-3)) dX11_task_18 (by decide) ?_
      exact J_ireturn rfl (Nat.le_refl _) (Nat.le_refl _) rfl dX11_task_20
theorem dX11_taskAt_0 : decode cX11_taskAt 0 = .ok (.iload_n 1, 1) := by decide +kernel
theorem dX11_taskAt_1 : decode cX11_taskAt 1 = .ok (.ifCond .lt 29, 3) := by decide +kernel
theorem dX11_taskAt_4 : decode cX11_taskAt 4 = .ok (.iload_n 1, 1) := by decide +kernel
theorem dX11_taskAt_5 : decode cX11_taskAt 5 = .ok (.aload_n 0, 1) := by decide +kernel
theorem dX11_taskAt_6 : decode cX11_taskAt 6 = .ok (.getfield 57, 3) := by decide +kernel
theorem dX11_taskAt_9 : decode cX11_taskAt 9 = .ok (.if_icmp .ge 21, 3) := by decide +kernel
theorem dX11_taskAt_12 : decode cX11_taskAt 12 = .ok (.iload_n 1, 1) := by decide +kernel
theorem dX11_taskAt_13 : decode cX11_taskAt 13 = .ok (.aload_n 0, 1) := by decide +kernel
theorem dX11_taskAt_14 : decode cX11_taskAt 14 = .ok (.getfield 53, 3) := by decide +kernel
theorem dX11_taskAt_17 : decode cX11_taskAt 17 = .ok (.arraylength, 1) := by decide +kernel
theorem dX11_taskAt_18 : decode cX11_taskAt 18 = .ok (.if_icmp .ge 12, 3) := by decide +kernel
theorem dX11_taskAt_21 : decode cX11_taskAt 21 = .ok (.aload_n 0, 1) := by decide +kernel
theorem dX11_taskAt_22 : decode cX11_taskAt 22 = .ok (.getfield 53, 3) := by decide +kernel
theorem dX11_taskAt_25 : decode cX11_taskAt 25 = .ok (.iload_n 1, 1) := by decide +kernel
theorem dX11_taskAt_26 : decode cX11_taskAt 26 = .ok (.aaload, 1) := by decide +kernel
theorem dX11_taskAt_27 : decode cX11_taskAt 27 = .ok (.goto 4, 3) := by decide +kernel
theorem dX11_taskAt_30 : decode cX11_taskAt 30 = .ok (.aconst_null, 1) := by decide +kernel
theorem dX11_taskAt_31 : decode cX11_taskAt 31 = .ok (.areturn, 1) := by decide +kernel
set_option maxRecDepth 100000 in
set_option maxHeartbeats 4000000 in
theorem ct11_taskAt (G : Gm) (t : Nat)  (x1 : Int32)  (S : St) : Ct G YX11_taskAt yX11_taskAt 1 0 0 (fR t) (f11_taskAt x1 S) [vR (some 0), vI x1] (MM t S) := by
  refine Ct_of_J [some (vR (some 0)), some (vI x1)] (by decide) rfl (fun h => by cases h) (Nat.le_of_ble_eq_true rfl) (And.intro rfl (And.intro rfl (trivial))) ?_
  unfold f11_taskAt
  refine J_iload_n dX11_taskAt_0 rfl rfl ?_
  refine J_if_lt (tgt := 30) dX11_taskAt_1 (by decide) (fun z1 => ?_) (fun z1 => ?_)
  · refine J_aconst_null dX11_taskAt_30 ?_
    exact J_areturn rfl (Nat.le_refl _) (Nat.le_refl _) rfl dX11_taskAt_31
  · refine J_iload_n dX11_taskAt_4 rfl rfl ?_
    refine J_aload_n dX11_taskAt_5 rfl rfl ?_
    refine K_getI cf11 flX11_57 (sq 0 rfl) (Or.inl rfl) dX11_taskAt_6 ?_
    refine J_icmp_ge (tgt := 30) dX11_taskAt_9 (by decide) (fun z2 => ?_) (fun z2 => ?_)
    · refine J_aconst_null dX11_taskAt_30 ?_
      exact J_areturn rfl (Nat.le_refl _) (Nat.le_refl _) rfl dX11_taskAt_31
    · refine J_iload_n dX11_taskAt_12 rfl rfl ?_
      refine J_aload_n dX11_taskAt_13 rfl rfl ?_
      refine K_getR (r := some (13)) cf11 flX11_53 (sq 0 rfl) rfl (Or.inr ⟨_, rfl⟩) dX11_taskAt_14 ?_
      refine K_alen (v := nI 10) (sq 13 rfl) (by decide) rfl dX11_taskAt_17 ?_
      refine J_icmp_ge (tgt := 30) dX11_taskAt_18 (by decide) (fun z3 => ?_) (fun z3 => ?_)
      · refine J_aconst_null dX11_taskAt_30 ?_
        exact J_areturn rfl (Nat.le_refl _) (Nat.le_refl _) rfl dX11_taskAt_31
      · refine J_aload_n dX11_taskAt_21 rfl rfl ?_
        refine K_getR (r := some (13)) cf11 flX11_53 (sq 0 rfl) rfl (Or.inr ⟨_, rfl⟩) dX11_taskAt_22 ?_
        refine J_iload_n dX11_taskAt_25 rfl rfl ?_
        refine K_aald (f := fun j => some (116 + 3 * j)) (sq 13 rfl) (by decide) (aq13) dX11_taskAt_26 (fun i4 => ?_)
        refine J_goto (tgt := 31) dX11_taskAt_27 (by decide) ?_
        exact J_areturn rfl (Nat.le_refl _) (Nat.le_refl _) rfl dX11_taskAt_31
theorem dX11_passes_0 : decode cX11_passes 0 = .ok (.aload_n 0, 1) := by decide +kernel
theorem dX11_passes_1 : decode cX11_passes 1 = .ok (.iload_n 1, 1) := by decide +kernel
theorem dX11_passes_2 : decode cX11_passes 2 = .ok (.invokevirtual 118, 3) := by decide +kernel
theorem dX11_passes_5 : decode cX11_passes 5 = .ok (.astore 4, 2) := by decide +kernel
theorem dX11_passes_7 : decode cX11_passes 7 = .ok (.aload_n 0, 1) := by decide +kernel
theorem dX11_passes_8 : decode cX11_passes 8 = .ok (.iload_n 2, 1) := by decide +kernel
theorem dX11_passes_9 : decode cX11_passes 9 = .ok (.invokevirtual 212, 3) := by decide +kernel
theorem dX11_passes_12 : decode cX11_passes 12 = .ok (.astore 5, 2) := by decide +kernel
theorem dX11_passes_14 : decode cX11_passes 14 = .ok (.aload 4, 2) := by decide +kernel
theorem dX11_passes_16 : decode cX11_passes 16 = .ok (.ifnull 15, 3) := by decide +kernel
theorem dX11_passes_19 : decode cX11_passes 19 = .ok (.aload 5, 2) := by decide +kernel
theorem dX11_passes_21 : decode cX11_passes 21 = .ok (.ifnull 10, 3) := by decide +kernel
theorem dX11_passes_24 : decode cX11_passes 24 = .ok (.iload_n 3, 1) := by decide +kernel
theorem dX11_passes_25 : decode cX11_passes 25 = .ok (.invokestatic 183, 3) := by decide +kernel
theorem dX11_passes_28 : decode cX11_passes 28 = .ok (.ifCond .ne 5, 3) := by decide +kernel
theorem dX11_passes_31 : decode cX11_passes 31 = .ok (.iconst (-1), 1) := by decide +kernel
theorem dX11_passes_32 : decode cX11_passes 32 = .ok (.ireturn, 1) := by decide +kernel
theorem dX11_passes_33 : decode cX11_passes 33 = .ok (.aload 4, 2) := by decide +kernel
theorem dX11_passes_35 : decode cX11_passes 35 = .ok (.aload_n 0, 1) := by decide +kernel
theorem dX11_passes_36 : decode cX11_passes 36 = .ok (.getfield 22, 3) := by decide +kernel
theorem dX11_passes_39 : decode cX11_passes 39 = .ok (.invokevirtual 162, 3) := by decide +kernel
theorem dX11_passes_42 : decode cX11_passes 42 = .ok (.ifCond .ge 6, 3) := by decide +kernel
theorem dX11_passes_45 : decode cX11_passes 45 = .ok (.bipush (-5), 2) := by decide +kernel
theorem dX11_passes_47 : decode cX11_passes 47 = .ok (.ireturn, 1) := by decide +kernel
theorem dX11_passes_48 : decode cX11_passes 48 = .ok (.aload_n 0, 1) := by decide +kernel
theorem dX11_passes_49 : decode cX11_passes 49 = .ok (.getfield 32, 3) := by decide +kernel
theorem dX11_passes_52 : decode cX11_passes 52 = .ok (.aload 4, 2) := by decide +kernel
theorem dX11_passes_54 : decode cX11_passes 54 = .ok (.aload_n 0, 1) := by decide +kernel
theorem dX11_passes_55 : decode cX11_passes 55 = .ok (.getfield 22, 3) := by decide +kernel
theorem dX11_passes_58 : decode cX11_passes 58 = .ok (.aload 5, 2) := by decide +kernel
theorem dX11_passes_60 : decode cX11_passes 60 = .ok (.invokevirtual 216, 3) := by decide +kernel
theorem dX11_passes_63 : decode cX11_passes 63 = .ok (.invokevirtual 186, 3) := by decide +kernel
theorem dX11_passes_66 : decode cX11_passes 66 = .ok (.aload_n 0, 1) := by decide +kernel
theorem dX11_passes_67 : decode cX11_passes 67 = .ok (.getfield 32, 3) := by decide +kernel
theorem dX11_passes_70 : decode cX11_passes 70 = .ok (.iload_n 3, 1) := by decide +kernel
theorem dX11_passes_71 : decode cX11_passes 71 = .ok (.invokevirtual 190, 3) := by decide +kernel
theorem dX11_passes_74 : decode cX11_passes 74 = .ok (.aload 5, 2) := by decide +kernel
theorem dX11_passes_76 : decode cX11_passes 76 = .ok (.aload_n 0, 1) := by decide +kernel
theorem dX11_passes_77 : decode cX11_passes 77 = .ok (.getfield 32, 3) := by decide +kernel
theorem dX11_passes_80 : decode cX11_passes 80 = .ok (.invokevirtual 219, 3) := by decide +kernel
theorem dX11_passes_83 : decode cX11_passes 83 = .ok (.ifCond .eq 7, 3) := by decide +kernel
theorem dX11_passes_86 : decode cX11_passes 86 = .ok (.iconst 1, 1) := by decide +kernel
theorem dX11_passes_87 : decode cX11_passes 87 = .ok (.goto 4, 3) := by decide +kernel
theorem dX11_passes_90 : decode cX11_passes 90 = .ok (.iconst 0, 1) := by decide +kernel
theorem dX11_passes_91 : decode cX11_passes 91 = .ok (.ireturn, 1) := by decide +kernel
set_option maxRecDepth 100000 in
set_option maxHeartbeats 4000000 in
theorem ct11_passes (G : Gm) (t : Nat) (N : Nat) (x1 : Int32) (x2 : Int32) (x3 : Int32)  (S : St) : Ct G YX11_passes yX11_passes 5 0 0 (fI t) (f11_passes N x1 x2 x3 S) [vR (some 0), vI x1, vI x2, vI x3] (MM t S) := by
  refine Ct_of_J [some (vR (some 0)), some (vI x1), some (vI x2), some (vI x3), none, none] (by decide) rfl (fun h => by cases h) (Nat.le_of_ble_eq_true rfl) (And.intro rfl (And.intro rfl (And.intro rfl (And.intro rfl (trivial))))) ?_
  unfold f11_passes
  refine J_aload_n dX11_passes_0 rfl rfl ?_
  refine J_iload_n dX11_passes_1 rfl rfl ?_
  refine K_callV_r (As := [vI x1]) mcX11_languageAt mlX11_118 rfl (by decide) (sq 0 rfl) (ct11_languageAt G t x1 S) rfl rfl (Nat.le_of_ble_eq_true rfl) (by decide) (Nat.le_of_ble_eq_true rfl) dX11_passes_2 (fun q1 S2 => ?_)
  refine J_astore [some (vR (some 0)), some (vI x1), some (vI x2), some (vI x3), some (vR q1), none] dX11_passes_5 (Nat.le_of_ble_eq_true rfl) rfl rfl ?_
  refine J_aload_n dX11_passes_7 rfl rfl ?_
  refine J_iload_n dX11_passes_8 rfl rfl ?_
  refine K_callV_r (As := [vI x2]) mcX11_taskAt mlX11_212 rfl (by decide) (sq 0 rfl) (ct11_taskAt G t x2 S2) rfl rfl (Nat.le_of_ble_eq_true rfl) (by decide) (Nat.le_of_ble_eq_true rfl) dX11_passes_9 (fun q3 S4 => ?_)
  refine J_astore [some (vR (some 0)), some (vI x1), some (vI x2), some (vI x3), some (vR q1), some (vR q3)] dX11_passes_12 (Nat.le_of_ble_eq_true rfl) rfl rfl ?_
  refine J_aload dX11_passes_14 rfl ?_
  refine J_ifnull (tgt := 31) dX11_passes_16 (by decide) (fun hr => ?_) (fun b5 hr => ?_)
  · subst hr
    refine J_iconst (v := (-1)) dX11_passes_31 (by decide) ?_
    exact J_ireturn rfl (Nat.le_refl _) (Nat.le_refl _) rfl dX11_passes_32
  · subst hr
    refine J_ckA (fun hb5 => ?_)
    refine J_aload dX11_passes_19 rfl ?_
    refine J_ifnull (tgt := 31) dX11_passes_21 (by decide) (fun hr => ?_) (fun b6 hr => ?_)
    · subst hr
      refine J_iconst (v := (-1)) dX11_passes_31 (by decide) ?_
      exact J_ireturn rfl (Nat.le_refl _) (Nat.le_refl _) rfl dX11_passes_32
    · subst hr
      refine J_ckA (fun hb6 => ?_)
      refine J_iload_n dX11_passes_24 rfl rfl ?_
      refine K_callS_i (As := [vI x3]) mcX11_isNumber mlX11_183 (ct11_isNumber G t x3 S4) rfl rfl (Nat.le_of_ble_eq_true rfl) (by decide) (Nat.le_of_ble_eq_true rfl) dX11_passes_25 (fun q7 S8 => ?_)
      refine J_if_ne (tgt := 33) dX11_passes_28 (by decide) (fun z9 => ?_) (fun z9 => ?_)
      · refine J_iconst (v := (-1)) dX11_passes_31 (by decide) ?_
        exact J_ireturn rfl (Nat.le_refl _) (Nat.le_refl _) rfl dX11_passes_32
      · refine J_aload dX11_passes_33 rfl ?_
        refine J_aload_n dX11_passes_35 rfl rfl ?_
        refine K_getR (r := some (2)) cf11 flX11_22 (sq 0 rfl) rfl (Or.inl ⟨_, rfl⟩) dX11_passes_36 ?_
        refine K_callV_i (As := [vR (some 2)]) mcX3_sizeOf mlX11_162 rfl (by decide) (sq3_0 hb5) (ct3_sizeOf G t N b5 2 hb5 (by decide) S8) rfl rfl (Nat.le_of_ble_eq_true rfl) (by decide) (Nat.le_of_ble_eq_true rfl) dX11_passes_39 (fun q10 S11 => ?_)
        refine J_if_ge (tgt := 48) dX11_passes_42 (by decide) (fun z12 => ?_) (fun z12 => ?_)
        · refine J_aload_n dX11_passes_48 rfl rfl ?_
          refine K_getR (r := some (6)) cf11 flX11_32 (sq 0 rfl) rfl (Or.inl ⟨_, rfl⟩) dX11_passes_49 ?_
          refine J_aload dX11_passes_52 rfl ?_
          refine J_aload_n dX11_passes_54 rfl rfl ?_
          refine K_getR (r := some (2)) cf11 flX11_22 (sq 0 rfl) rfl (Or.inl ⟨_, rfl⟩) dX11_passes_55 ?_
          refine J_aload dX11_passes_58 rfl ?_
          refine K_callV_i (As := []) mcX1_input mlX11_216 rfl (by decide) (sq1_0 hb6) (ct1_input G t b6 hb6 S11) rfl rfl (Nat.le_of_ble_eq_true rfl) (by decide) (Nat.le_of_ble_eq_true rfl) dX11_passes_60 (fun q13 S14 => ?_)
          refine K_callV_v (As := [vR (some b5), vR (some 2), vI q13]) mcX4_start mlX11_186 rfl (by decide) (sq 6 rfl) (ct4_start G t N b5 2 q13 hb5 (by decide) S14) rfl rfl (Nat.le_of_ble_eq_true rfl) (by decide) (Nat.le_of_ble_eq_true rfl) dX11_passes_63 (fun q15 S16 => ?_)
          refine J_aload_n dX11_passes_66 rfl rfl ?_
          refine K_getR (r := some (6)) cf11 flX11_32 (sq 0 rfl) rfl (Or.inl ⟨_, rfl⟩) dX11_passes_67 ?_
          refine J_iload_n dX11_passes_70 rfl rfl ?_
          refine K_callV_v (As := [vI x3]) mcX4_goOn mlX11_190 rfl (by decide) (sq 6 rfl) (ct4_goOn G t N x3 S16) rfl rfl (Nat.le_of_ble_eq_true rfl) (by decide) (Nat.le_of_ble_eq_true rfl) dX11_passes_71 (fun q17 S18 => ?_)
          refine J_aload dX11_passes_74 rfl ?_
          refine J_aload_n dX11_passes_76 rfl rfl ?_
          refine K_getR (r := some (6)) cf11 flX11_32 (sq 0 rfl) rfl (Or.inl ⟨_, rfl⟩) dX11_passes_77 ?_
          refine K_callV_i (As := [vR (some 6)]) mcX1_isPassedBy mlX11_219 rfl (by decide) (sq1_0 hb6) (ct1_isPassedBy G t N b6 hb6 S18) rfl rfl (Nat.le_of_ble_eq_true rfl) (by decide) (Nat.le_of_ble_eq_true rfl) dX11_passes_80 (fun q19 S20 => ?_)
          refine J_if_eq (tgt := 90) dX11_passes_83 (by decide) (fun z21 => ?_) (fun z21 => ?_)
          · refine J_iconst (v := nI 0) dX11_passes_90 (by decide) ?_
            exact J_ireturn rfl (Nat.le_refl _) (Nat.le_refl _) rfl dX11_passes_91
          · refine J_iconst (v := nI 1) dX11_passes_86 (by decide) ?_
            refine J_goto (tgt := 91) dX11_passes_87 (by decide) ?_
            exact J_ireturn rfl (Nat.le_refl _) (Nat.le_refl _) rfl dX11_passes_91
        · refine J_bipush (v := (-5)) dX11_passes_45 (by decide) ?_
          exact J_ireturn rfl (Nat.le_refl _) (Nat.le_refl _) rfl dX11_passes_47
theorem dX11_isPhase_0 : decode cX11_isPhase 0 = .ok (.iload_n 0, 1) := by decide +kernel
theorem dX11_isPhase_1 : decode cX11_isPhase 1 = .ok (.iconst 1, 1) := by decide +kernel
theorem dX11_isPhase_2 : decode cX11_isPhase 2 = .ok (.if_icmp .lt 13, 3) := by decide +kernel
theorem dX11_isPhase_5 : decode cX11_isPhase 5 = .ok (.iload_n 0, 1) := by decide +kernel
theorem dX11_isPhase_6 : decode cX11_isPhase 6 = .ok (.bipush 14, 2) := by decide +kernel
theorem dX11_isPhase_8 : decode cX11_isPhase 8 = .ok (.if_icmp .gt 7, 3) := by decide +kernel
theorem dX11_isPhase_11 : decode cX11_isPhase 11 = .ok (.iconst 1, 1) := by decide +kernel
theorem dX11_isPhase_12 : decode cX11_isPhase 12 = .ok (.goto 4, 3) := by decide +kernel
theorem dX11_isPhase_15 : decode cX11_isPhase 15 = .ok (.iconst 0, 1) := by decide +kernel
theorem dX11_isPhase_16 : decode cX11_isPhase 16 = .ok (.ireturn, 1) := by decide +kernel
set_option maxRecDepth 100000 in
set_option maxHeartbeats 4000000 in
theorem ct11_isPhase (G : Gm) (t : Nat)  (x0 : Int32)  (S : St) : Ct G YX11_isPhase yX11_isPhase 1 0 0 (fI t) (f11_isPhase x0 S) [vI x0] (MM t S) := by
  refine Ct_of_J [some (vI x0)] (by decide) rfl (fun h => by cases h) (Nat.le_of_ble_eq_true rfl) (And.intro rfl (trivial)) ?_
  unfold f11_isPhase
  refine J_iload_n dX11_isPhase_0 rfl rfl ?_
  refine J_iconst (v := nI 1) dX11_isPhase_1 (by decide) ?_
  refine J_icmp_lt (tgt := 15) dX11_isPhase_2 (by decide) (fun z1 => ?_) (fun z1 => ?_)
  · refine J_iconst (v := nI 0) dX11_isPhase_15 (by decide) ?_
    exact J_zreturn (by decide) rfl (Nat.le_refl _) (Nat.le_refl _) rfl dX11_isPhase_16
  · refine J_iload_n dX11_isPhase_5 rfl rfl ?_
    refine J_bipush (v := nI 14) dX11_isPhase_6 (by decide) ?_
    refine J_icmp_gt (tgt := 15) dX11_isPhase_8 (by decide) (fun z2 => ?_) (fun z2 => ?_)
    · refine J_iconst (v := nI 0) dX11_isPhase_15 (by decide) ?_
      exact J_zreturn (by decide) rfl (Nat.le_refl _) (Nat.le_refl _) rfl dX11_isPhase_16
    · refine J_iconst (v := nI 1) dX11_isPhase_11 (by decide) ?_
      refine J_goto (tgt := 16) dX11_isPhase_12 (by decide) ?_
      exact J_zreturn (by decide) rfl (Nat.le_refl _) (Nat.le_refl _) rfl dX11_isPhase_16
theorem dX11_search_0 : decode cX11_search 0 = .ok (.aload_n 0, 1) := by decide +kernel
theorem dX11_search_1 : decode cX11_search 1 = .ok (.iload_n 1, 1) := by decide +kernel
theorem dX11_search_2 : decode cX11_search 2 = .ok (.invokevirtual 118, 3) := by decide +kernel
theorem dX11_search_5 : decode cX11_search 5 = .ok (.astore 4, 2) := by decide +kernel
theorem dX11_search_7 : decode cX11_search 7 = .ok (.aload_n 0, 1) := by decide +kernel
theorem dX11_search_8 : decode cX11_search 8 = .ok (.iload_n 2, 1) := by decide +kernel
theorem dX11_search_9 : decode cX11_search 9 = .ok (.invokevirtual 212, 3) := by decide +kernel
theorem dX11_search_12 : decode cX11_search 12 = .ok (.astore 5, 2) := by decide +kernel
theorem dX11_search_14 : decode cX11_search 14 = .ok (.aload 4, 2) := by decide +kernel
theorem dX11_search_16 : decode cX11_search 16 = .ok (.ifnull 15, 3) := by decide +kernel
theorem dX11_search_19 : decode cX11_search 19 = .ok (.aload 5, 2) := by decide +kernel
theorem dX11_search_21 : decode cX11_search 21 = .ok (.ifnull 10, 3) := by decide +kernel
theorem dX11_search_24 : decode cX11_search 24 = .ok (.iload_n 3, 1) := by decide +kernel
theorem dX11_search_25 : decode cX11_search 25 = .ok (.invokestatic 223, 3) := by decide +kernel
theorem dX11_search_28 : decode cX11_search 28 = .ok (.ifCond .ne 5, 3) := by decide +kernel
theorem dX11_search_31 : decode cX11_search 31 = .ok (.iconst (-1), 1) := by decide +kernel
theorem dX11_search_32 : decode cX11_search 32 = .ok (.ireturn, 1) := by decide +kernel
theorem dX11_search_33 : decode cX11_search 33 = .ok (.aload_n 0, 1) := by decide +kernel
theorem dX11_search_34 : decode cX11_search 34 = .ok (.getfield 63, 3) := by decide +kernel
theorem dX11_search_37 : decode cX11_search 37 = .ok (.aload 4, 2) := by decide +kernel
theorem dX11_search_39 : decode cX11_search 39 = .ok (.aload 5, 2) := by decide +kernel
theorem dX11_search_41 : decode cX11_search 41 = .ok (.iload_n 3, 1) := by decide +kernel
theorem dX11_search_42 : decode cX11_search 42 = .ok (.aload_n 0, 1) := by decide +kernel
theorem dX11_search_43 : decode cX11_search 43 = .ok (.getfield 32, 3) := by decide +kernel
theorem dX11_search_46 : decode cX11_search 46 = .ok (.invokevirtual 226, 3) := by decide +kernel
theorem dX11_search_49 : decode cX11_search 49 = .ok (.aload_n 0, 1) := by decide +kernel
theorem dX11_search_50 : decode cX11_search 50 = .ok (.iconst 1, 1) := by decide +kernel
theorem dX11_search_51 : decode cX11_search 51 = .ok (.putfield 70, 3) := by decide +kernel
theorem dX11_search_54 : decode cX11_search 54 = .ok (.aload_n 0, 1) := by decide +kernel
theorem dX11_search_55 : decode cX11_search 55 = .ok (.getfield 63, 3) := by decide +kernel
theorem dX11_search_58 : decode cX11_search 58 = .ok (.invokevirtual 230, 3) := by decide +kernel
theorem dX11_search_61 : decode cX11_search 61 = .ok (.ifCond .ne 6, 3) := by decide +kernel
theorem dX11_search_64 : decode cX11_search 64 = .ok (.bipush (-2), 2) := by decide +kernel
theorem dX11_search_66 : decode cX11_search 66 = .ok (.ireturn, 1) := by decide +kernel
theorem dX11_search_67 : decode cX11_search 67 = .ok (.aload_n 0, 1) := by decide +kernel
theorem dX11_search_68 : decode cX11_search 68 = .ok (.getfield 22, 3) := by decide +kernel
theorem dX11_search_71 : decode cX11_search 71 = .ok (.aload_n 0, 1) := by decide +kernel
theorem dX11_search_72 : decode cX11_search 72 = .ok (.getfield 63, 3) := by decide +kernel
theorem dX11_search_75 : decode cX11_search 75 = .ok (.invokevirtual 233, 3) := by decide +kernel
theorem dX11_search_78 : decode cX11_search 78 = .ok (.invokevirtual 179, 3) := by decide +kernel
theorem dX11_search_81 : decode cX11_search 81 = .ok (.aload_n 0, 1) := by decide +kernel
theorem dX11_search_82 : decode cX11_search 82 = .ok (.getfield 63, 3) := by decide +kernel
theorem dX11_search_85 : decode cX11_search 85 = .ok (.invokevirtual 237, 3) := by decide +kernel
theorem dX11_search_88 : decode cX11_search 88 = .ok (.ireturn, 1) := by decide +kernel
set_option maxRecDepth 100000 in
set_option maxHeartbeats 4000000 in
theorem ct11_search (G : Gm) (t : Nat) (N : Nat) (x1 : Int32) (x2 : Int32) (x3 : Int32)  (S : St) : Ct G YX11_search yX11_search 8 0 0 (fI t) (f11_search N x1 x2 x3 S) [vR (some 0), vI x1, vI x2, vI x3] (MM t S) := by
  refine Ct_of_J [some (vR (some 0)), some (vI x1), some (vI x2), some (vI x3), none, none] (by decide) rfl (fun h => by cases h) (Nat.le_of_ble_eq_true rfl) (And.intro rfl (And.intro rfl (And.intro rfl (And.intro rfl (trivial))))) ?_
  unfold f11_search
  refine J_aload_n dX11_search_0 rfl rfl ?_
  refine J_iload_n dX11_search_1 rfl rfl ?_
  refine K_callV_r (As := [vI x1]) mcX11_languageAt mlX11_118 rfl (by decide) (sq 0 rfl) (ct11_languageAt G t x1 S) rfl rfl (Nat.le_of_ble_eq_true rfl) (by decide) (Nat.le_of_ble_eq_true rfl) dX11_search_2 (fun q1 S2 => ?_)
  refine J_astore [some (vR (some 0)), some (vI x1), some (vI x2), some (vI x3), some (vR q1), none] dX11_search_5 (Nat.le_of_ble_eq_true rfl) rfl rfl ?_
  refine J_aload_n dX11_search_7 rfl rfl ?_
  refine J_iload_n dX11_search_8 rfl rfl ?_
  refine K_callV_r (As := [vI x2]) mcX11_taskAt mlX11_212 rfl (by decide) (sq 0 rfl) (ct11_taskAt G t x2 S2) rfl rfl (Nat.le_of_ble_eq_true rfl) (by decide) (Nat.le_of_ble_eq_true rfl) dX11_search_9 (fun q3 S4 => ?_)
  refine J_astore [some (vR (some 0)), some (vI x1), some (vI x2), some (vI x3), some (vR q1), some (vR q3)] dX11_search_12 (Nat.le_of_ble_eq_true rfl) rfl rfl ?_
  refine J_aload dX11_search_14 rfl ?_
  refine J_ifnull (tgt := 31) dX11_search_16 (by decide) (fun hr => ?_) (fun b5 hr => ?_)
  · subst hr
    refine J_iconst (v := (-1)) dX11_search_31 (by decide) ?_
    exact J_ireturn rfl (Nat.le_refl _) (Nat.le_refl _) rfl dX11_search_32
  · subst hr
    refine J_ckA (fun hb5 => ?_)
    refine J_aload dX11_search_19 rfl ?_
    refine J_ifnull (tgt := 31) dX11_search_21 (by decide) (fun hr => ?_) (fun b6 hr => ?_)
    · subst hr
      refine J_iconst (v := (-1)) dX11_search_31 (by decide) ?_
      exact J_ireturn rfl (Nat.le_refl _) (Nat.le_refl _) rfl dX11_search_32
    · subst hr
      refine J_ckA (fun hb6 => ?_)
      refine J_iload_n dX11_search_24 rfl rfl ?_
      refine K_callS_i (As := [vI x3]) mcX11_isPhase mlX11_223 (ct11_isPhase G t x3 S4) rfl rfl (Nat.le_of_ble_eq_true rfl) (by decide) (Nat.le_of_ble_eq_true rfl) dX11_search_25 (fun q7 S8 => ?_)
      refine J_if_ne (tgt := 33) dX11_search_28 (by decide) (fun z9 => ?_) (fun z9 => ?_)
      · refine J_iconst (v := (-1)) dX11_search_31 (by decide) ?_
        exact J_ireturn rfl (Nat.le_refl _) (Nat.le_refl _) rfl dX11_search_32
      · refine J_aload_n dX11_search_33 rfl rfl ?_
        refine K_getR (r := some (14)) cf11 flX11_63 (sq 0 rfl) rfl (Or.inl ⟨_, rfl⟩) dX11_search_34 ?_
        refine J_aload dX11_search_37 rfl ?_
        refine J_aload dX11_search_39 rfl ?_
        refine J_iload_n dX11_search_41 rfl rfl ?_
        refine J_aload_n dX11_search_42 rfl rfl ?_
        refine K_getR (r := some (6)) cf11 flX11_32 (sq 0 rfl) rfl (Or.inl ⟨_, rfl⟩) dX11_search_43 ?_
        refine K_callV_v (As := [vR (some b5), vR (some b6), vI x3, vR (some 6)]) mcX7_look mlX11_226 rfl (by decide) (sq 14 rfl) (ct7_look G t N 14 b5 b6 x3 (by decide) hb5 hb6 S8) rfl rfl (Nat.le_of_ble_eq_true rfl) (by decide) (Nat.le_of_ble_eq_true rfl) dX11_search_46 (fun q10 S11 => ?_)
        refine J_aload_n dX11_search_49 rfl rfl ?_
        refine J_iconst (v := nI 1) dX11_search_50 (by decide) ?_
        refine K_putZ (by decide) cf11 flX11_70 (sq 0 rfl) rfl dX11_search_51 ?_
        refine J_ltS (fun S12 _ => ?_)
        refine J_aload_n dX11_search_54 rfl rfl ?_
        refine K_getR (r := some (14)) cf11 flX11_63 (sq 0 rfl) rfl (Or.inl ⟨_, rfl⟩) dX11_search_55 ?_
        refine K_callV_i (As := []) mcX7_hasAnswer mlX11_230 rfl (by decide) (sq 14 rfl) (ct7_hasAnswer G t 14 (by decide) S12) rfl rfl (Nat.le_of_ble_eq_true rfl) (by decide) (Nat.le_of_ble_eq_true rfl) dX11_search_58 (fun q13 S14 => ?_)
        refine J_if_ne (tgt := 67) dX11_search_61 (by decide) (fun z15 => ?_) (fun z15 => ?_)
        · refine J_bipush (v := (-2)) dX11_search_64 (by decide) ?_
          exact J_ireturn rfl (Nat.le_refl _) (Nat.le_refl _) rfl dX11_search_66
        · refine J_aload_n dX11_search_67 rfl rfl ?_
          refine K_getR (r := some (2)) cf11 flX11_22 (sq 0 rfl) rfl (Or.inl ⟨_, rfl⟩) dX11_search_68 ?_
          refine J_aload_n dX11_search_71 rfl rfl ?_
          refine K_getR (r := some (14)) cf11 flX11_63 (sq 0 rfl) rfl (Or.inl ⟨_, rfl⟩) dX11_search_72 ?_
          refine K_callV_r (As := []) mcX7_answer mlX11_233 rfl (by decide) (sq 14 rfl) (ct7_answer G t 14 (by decide) S14) rfl rfl (Nat.le_of_ble_eq_true rfl) (by decide) (Nat.le_of_ble_eq_true rfl) dX11_search_75 (fun q16 S17 => ?_)
          refine J_onR (fun b18 hr => ?_)
          subst hr
          refine J_ckA (fun hb18 => ?_)
          refine K_callV_v (As := [vR (some b18)]) mcX6_become mlX11_179 rfl (by decide) (sq 2 rfl) (ct6_become G t 2 b18 (by decide) hb18 S17) rfl rfl (Nat.le_of_ble_eq_true rfl) (by decide) (Nat.le_of_ble_eq_true rfl) dX11_search_78 (fun q19 S20 => ?_)
          refine J_aload_n dX11_search_81 rfl rfl ?_
          refine K_getR (r := some (14)) cf11 flX11_63 (sq 0 rfl) rfl (Or.inl ⟨_, rfl⟩) dX11_search_82 ?_
          refine K_callV_i (As := []) mcX7_phase mlX11_237 rfl (by decide) (sq 14 rfl) (ct7_phase G t 14 (by decide) S20) rfl rfl (Nat.le_of_ble_eq_true rfl) (by decide) (Nat.le_of_ble_eq_true rfl) dX11_search_85 (fun q21 S22 => ?_)
          exact J_ireturn rfl (Nat.le_refl _) (Nat.le_refl _) rfl dX11_search_88
theorem dX11_searched_0 : decode cX11_searched 0 = .ok (.aload_n 0, 1) := by decide +kernel
theorem dX11_searched_1 : decode cX11_searched 1 = .ok (.getfield 70, 3) := by decide +kernel
theorem dX11_searched_4 : decode cX11_searched 4 = .ok (.ifCond .ne 5, 3) := by decide +kernel
theorem dX11_searched_7 : decode cX11_searched 7 = .ok (.iconst (-1), 1) := by decide +kernel
theorem dX11_searched_8 : decode cX11_searched 8 = .ok (.ireturn, 1) := by decide +kernel
theorem dX11_searched_9 : decode cX11_searched 9 = .ok (.iload_n 1, 1) := by decide +kernel
theorem dX11_searched_10 : decode cX11_searched 10 = .ok (.tableswitch 104 0 4 #[34, 42, 65, 88, 96], 34) := by decide +kernel
theorem dX11_searched_44 : decode cX11_searched 44 = .ok (.aload_n 0, 1) := by decide +kernel
theorem dX11_searched_45 : decode cX11_searched 45 = .ok (.getfield 63, 3) := by decide +kernel
theorem dX11_searched_48 : decode cX11_searched 48 = .ok (.invokevirtual 240, 3) := by decide +kernel
theorem dX11_searched_51 : decode cX11_searched 51 = .ok (.ireturn, 1) := by decide +kernel
theorem dX11_searched_52 : decode cX11_searched 52 = .ok (.aload_n 0, 1) := by decide +kernel
theorem dX11_searched_53 : decode cX11_searched 53 = .ok (.getfield 63, 3) := by decide +kernel
theorem dX11_searched_56 : decode cX11_searched 56 = .ok (.invokevirtual 230, 3) := by decide +kernel
theorem dX11_searched_59 : decode cX11_searched 59 = .ok (.ifCond .eq 13, 3) := by decide +kernel
theorem dX11_searched_62 : decode cX11_searched 62 = .ok (.aload_n 0, 1) := by decide +kernel
theorem dX11_searched_63 : decode cX11_searched 63 = .ok (.getfield 63, 3) := by decide +kernel
theorem dX11_searched_66 : decode cX11_searched 66 = .ok (.invokevirtual 241, 3) := by decide +kernel
theorem dX11_searched_69 : decode cX11_searched 69 = .ok (.goto 5, 3) := by decide +kernel
theorem dX11_searched_72 : decode cX11_searched 72 = .ok (.bipush (-2), 2) := by decide +kernel
theorem dX11_searched_74 : decode cX11_searched 74 = .ok (.ireturn, 1) := by decide +kernel
theorem dX11_searched_75 : decode cX11_searched 75 = .ok (.aload_n 0, 1) := by decide +kernel
theorem dX11_searched_76 : decode cX11_searched 76 = .ok (.getfield 63, 3) := by decide +kernel
theorem dX11_searched_79 : decode cX11_searched 79 = .ok (.invokevirtual 230, 3) := by decide +kernel
theorem dX11_searched_82 : decode cX11_searched 82 = .ok (.ifCond .eq 13, 3) := by decide +kernel
theorem dX11_searched_85 : decode cX11_searched 85 = .ok (.aload_n 0, 1) := by decide +kernel
theorem dX11_searched_86 : decode cX11_searched 86 = .ok (.getfield 63, 3) := by decide +kernel
theorem dX11_searched_89 : decode cX11_searched 89 = .ok (.invokevirtual 244, 3) := by decide +kernel
theorem dX11_searched_92 : decode cX11_searched 92 = .ok (.goto 5, 3) := by decide +kernel
theorem dX11_searched_95 : decode cX11_searched 95 = .ok (.bipush (-2), 2) := by decide +kernel
theorem dX11_searched_97 : decode cX11_searched 97 = .ok (.ireturn, 1) := by decide +kernel
theorem dX11_searched_98 : decode cX11_searched 98 = .ok (.aload_n 0, 1) := by decide +kernel
theorem dX11_searched_99 : decode cX11_searched 99 = .ok (.getfield 63, 3) := by decide +kernel
theorem dX11_searched_102 : decode cX11_searched 102 = .ok (.invokevirtual 247, 3) := by decide +kernel
theorem dX11_searched_105 : decode cX11_searched 105 = .ok (.ireturn, 1) := by decide +kernel
theorem dX11_searched_106 : decode cX11_searched 106 = .ok (.aload_n 0, 1) := by decide +kernel
theorem dX11_searched_107 : decode cX11_searched 107 = .ok (.getfield 63, 3) := by decide +kernel
theorem dX11_searched_110 : decode cX11_searched 110 = .ok (.invokevirtual 250, 3) := by decide +kernel
theorem dX11_searched_113 : decode cX11_searched 113 = .ok (.ireturn, 1) := by decide +kernel
theorem dX11_searched_114 : decode cX11_searched 114 = .ok (.iconst (-1), 1) := by decide +kernel
theorem dX11_searched_115 : decode cX11_searched 115 = .ok (.ireturn, 1) := by decide +kernel
set_option maxRecDepth 100000 in
set_option maxHeartbeats 4000000 in
theorem ct11_searched (G : Gm) (t : Nat)  (x1 : Int32)  (S : St) : Ct G YX11_searched yX11_searched 2 0 0 (fI t) (f11_searched x1 S) [vR (some 0), vI x1] (MM t S) := by
  refine Ct_of_J [some (vR (some 0)), some (vI x1)] (by decide) rfl (fun h => by cases h) (Nat.le_of_ble_eq_true rfl) (And.intro rfl (And.intro rfl (trivial))) ?_
  unfold f11_searched
  refine J_aload_n dX11_searched_0 rfl rfl ?_
  refine K_getI cf11 flX11_70 (sq 0 rfl) (Or.inr rfl) dX11_searched_1 ?_
  refine J_if_ne (tgt := 9) dX11_searched_4 (by decide) (fun z1 => ?_) (fun z1 => ?_)
  · refine J_iconst (v := (-1)) dX11_searched_7 (by decide) ?_
    exact J_ireturn rfl (Nat.le_refl _) (Nat.le_refl _) rfl dX11_searched_8
  · refine J_iload_n dX11_searched_9 rfl rfl ?_
    refine J_table (td := 114) _ dX11_searched_10 (fun z h1 h2 => cov_of (lo := (0)) (N := 5) (ks := [nI 0, nI 1, nI 2, nI 3, nI 4]) (by decide) z h1 (by omega)) ?_ (by decide) ?_
    · refine List.forall_mem_cons.mpr ⟨tb_mk (o := 34) (tgt := 44) (by decide) (fun _ => ?_), ?_⟩
      · refine J_aload_n dX11_searched_44 rfl rfl ?_
        refine K_getR (r := some (14)) cf11 flX11_63 (sq 0 rfl) rfl (Or.inl ⟨_, rfl⟩) dX11_searched_45 ?_
        refine K_callV_i (As := []) mcX7_sum mlX11_240 rfl (by decide) (sq 14 rfl) (ct7_sum G t 14 (by decide) S) rfl rfl (Nat.le_of_ble_eq_true rfl) (by decide) (Nat.le_of_ble_eq_true rfl) dX11_searched_48 (fun q2 S3 => ?_)
        exact J_ireturn rfl (Nat.le_refl _) (Nat.le_refl _) rfl dX11_searched_51
      · refine List.forall_mem_cons.mpr ⟨tb_mk (o := 42) (tgt := 52) (by decide) (fun _ => ?_), ?_⟩
        · refine J_aload_n dX11_searched_52 rfl rfl ?_
          refine K_getR (r := some (14)) cf11 flX11_63 (sq 0 rfl) rfl (Or.inl ⟨_, rfl⟩) dX11_searched_53 ?_
          refine K_callV_i (As := []) mcX7_hasAnswer mlX11_230 rfl (by decide) (sq 14 rfl) (ct7_hasAnswer G t 14 (by decide) S) rfl rfl (Nat.le_of_ble_eq_true rfl) (by decide) (Nat.le_of_ble_eq_true rfl) dX11_searched_56 (fun q4 S5 => ?_)
          refine J_if_eq (tgt := 72) dX11_searched_59 (by decide) (fun z6 => ?_) (fun z6 => ?_)
          · refine J_bipush (v := (-2)) dX11_searched_72 (by decide) ?_
            exact J_ireturn rfl (Nat.le_refl _) (Nat.le_refl _) rfl dX11_searched_74
          · refine J_aload_n dX11_searched_62 rfl rfl ?_
            refine K_getR (r := some (14)) cf11 flX11_63 (sq 0 rfl) rfl (Or.inl ⟨_, rfl⟩) dX11_searched_63 ?_
            refine K_callV_i (As := []) mcX7_answerSteps mlX11_241 rfl (by decide) (sq 14 rfl) (ct7_answerSteps G t 14 (by decide) S5) rfl rfl (Nat.le_of_ble_eq_true rfl) (by decide) (Nat.le_of_ble_eq_true rfl) dX11_searched_66 (fun q7 S8 => ?_)
            refine J_goto (tgt := 74) dX11_searched_69 (by decide) ?_
            exact J_ireturn rfl (Nat.le_refl _) (Nat.le_refl _) rfl dX11_searched_74
        · refine List.forall_mem_cons.mpr ⟨tb_mk (o := 65) (tgt := 75) (by decide) (fun _ => ?_), ?_⟩
          · refine J_aload_n dX11_searched_75 rfl rfl ?_
            refine K_getR (r := some (14)) cf11 flX11_63 (sq 0 rfl) rfl (Or.inl ⟨_, rfl⟩) dX11_searched_76 ?_
            refine K_callV_i (As := []) mcX7_hasAnswer mlX11_230 rfl (by decide) (sq 14 rfl) (ct7_hasAnswer G t 14 (by decide) S) rfl rfl (Nat.le_of_ble_eq_true rfl) (by decide) (Nat.le_of_ble_eq_true rfl) dX11_searched_79 (fun q9 S10 => ?_)
            refine J_if_eq (tgt := 95) dX11_searched_82 (by decide) (fun z11 => ?_) (fun z11 => ?_)
            · refine J_bipush (v := (-2)) dX11_searched_95 (by decide) ?_
              exact J_ireturn rfl (Nat.le_refl _) (Nat.le_refl _) rfl dX11_searched_97
            · refine J_aload_n dX11_searched_85 rfl rfl ?_
              refine K_getR (r := some (14)) cf11 flX11_63 (sq 0 rfl) rfl (Or.inl ⟨_, rfl⟩) dX11_searched_86 ?_
              refine K_callV_i (As := []) mcX7_factor mlX11_244 rfl (by decide) (sq 14 rfl) (ct7_factor G t 14 (by decide) S10) rfl rfl (Nat.le_of_ble_eq_true rfl) (by decide) (Nat.le_of_ble_eq_true rfl) dX11_searched_89 (fun q12 S13 => ?_)
              refine J_goto (tgt := 97) dX11_searched_92 (by decide) ?_
              exact J_ireturn rfl (Nat.le_refl _) (Nat.le_refl _) rfl dX11_searched_97
          · refine List.forall_mem_cons.mpr ⟨tb_mk (o := 88) (tgt := 98) (by decide) (fun _ => ?_), ?_⟩
            · refine J_aload_n dX11_searched_98 rfl rfl ?_
              refine K_getR (r := some (14)) cf11 flX11_63 (sq 0 rfl) rfl (Or.inl ⟨_, rfl⟩) dX11_searched_99 ?_
              refine K_callV_i (As := []) mcX7_begun mlX11_247 rfl (by decide) (sq 14 rfl) (ct7_begun G t 14 (by decide) S) rfl rfl (Nat.le_of_ble_eq_true rfl) (by decide) (Nat.le_of_ble_eq_true rfl) dX11_searched_102 (fun q14 S15 => ?_)
              exact J_ireturn rfl (Nat.le_refl _) (Nat.le_refl _) rfl dX11_searched_105
            · refine List.forall_mem_cons.mpr ⟨tb_mk (o := 96) (tgt := 106) (by decide) (fun _ => ?_), ?_⟩
              · refine J_aload_n dX11_searched_106 rfl rfl ?_
                refine K_getR (r := some (14)) cf11 flX11_63 (sq 0 rfl) rfl (Or.inl ⟨_, rfl⟩) dX11_searched_107 ?_
                refine K_callV_i (As := []) mcX7_hanging mlX11_250 rfl (by decide) (sq 14 rfl) (ct7_hanging G t 14 (by decide) S) rfl rfl (Nat.le_of_ble_eq_true rfl) (by decide) (Nat.le_of_ble_eq_true rfl) dX11_searched_110 (fun q16 S17 => ?_)
                exact J_ireturn rfl (Nat.le_refl _) (Nat.le_refl _) rfl dX11_searched_113
              · exact fun _ h => absurd h List.not_mem_nil
    · refine J_iconst (v := (-1)) dX11_searched_114 (by decide) ?_
      exact J_ireturn rfl (Nat.le_refl _) (Nat.le_refl _) rfl dX11_searched_115
theorem dX11_say_0 : decode cX11_say 0 = .ok (.iload_n 1, 1) := by decide +kernel
theorem dX11_say_1 : decode cX11_say 1 = .ok (.invokestatic 183, 3) := by decide +kernel
theorem dX11_say_4 : decode cX11_say 4 = .ok (.ifCond .ne 5, 3) := by decide +kernel
theorem dX11_say_7 : decode cX11_say 7 = .ok (.iconst (-1), 1) := by decide +kernel
theorem dX11_say_8 : decode cX11_say 8 = .ok (.ireturn, 1) := by decide +kernel
theorem dX11_say_9 : decode cX11_say 9 = .ok (.aload_n 0, 1) := by decide +kernel
theorem dX11_say_10 : decode cX11_say 10 = .ok (.getfield 76, 3) := by decide +kernel
theorem dX11_say_13 : decode cX11_say 13 = .ok (.iload_n 1, 1) := by decide +kernel
theorem dX11_say_14 : decode cX11_say 14 = .ok (.invokevirtual 253, 3) := by decide +kernel
theorem dX11_say_17 : decode cX11_say 17 = .ok (.ifCond .ne 6, 3) := by decide +kernel
theorem dX11_say_20 : decode cX11_say 20 = .ok (.bipush (-3), 2) := by decide +kernel
theorem dX11_say_22 : decode cX11_say 22 = .ok (.ireturn, 1) := by decide +kernel
theorem dX11_say_23 : decode cX11_say 23 = .ok (.aload_n 0, 1) := by decide +kernel
theorem dX11_say_24 : decode cX11_say 24 = .ok (.getfield 76, 3) := by decide +kernel
theorem dX11_say_27 : decode cX11_say 27 = .ok (.invokevirtual 254, 3) := by decide +kernel
theorem dX11_say_30 : decode cX11_say 30 = .ok (.ireturn, 1) := by decide +kernel
set_option maxRecDepth 100000 in
set_option maxHeartbeats 4000000 in
theorem ct11_say (G : Gm) (t : Nat)  (x1 : Int32)  (S : St) : Ct G YX11_say yX11_say 2 0 0 (fI t) (f11_say x1 S) [vR (some 0), vI x1] (MM t S) := by
  refine Ct_of_J [some (vR (some 0)), some (vI x1)] (by decide) rfl (fun h => by cases h) (Nat.le_of_ble_eq_true rfl) (And.intro rfl (And.intro rfl (trivial))) ?_
  unfold f11_say
  refine J_iload_n dX11_say_0 rfl rfl ?_
  refine K_callS_i (As := [vI x1]) mcX11_isNumber mlX11_183 (ct11_isNumber G t x1 S) rfl rfl (Nat.le_of_ble_eq_true rfl) (by decide) (Nat.le_of_ble_eq_true rfl) dX11_say_1 (fun q1 S2 => ?_)
  refine J_if_ne (tgt := 9) dX11_say_4 (by decide) (fun z3 => ?_) (fun z3 => ?_)
  · refine J_iconst (v := (-1)) dX11_say_7 (by decide) ?_
    exact J_ireturn rfl (Nat.le_refl _) (Nat.le_refl _) rfl dX11_say_8
  · refine J_aload_n dX11_say_9 rfl rfl ?_
    refine K_getR (r := some (24)) cf11 flX11_76 (sq 0 rfl) rfl (Or.inl ⟨_, rfl⟩) dX11_say_10 ?_
    refine J_iload_n dX11_say_13 rfl rfl ?_
    refine K_callV_i (As := [vI x1]) mcX10_push mlX11_253 rfl (by decide) (sq 24 rfl) (ct10_push G t x1 S2) rfl rfl (Nat.le_of_ble_eq_true rfl) (by decide) (Nat.le_of_ble_eq_true rfl) dX11_say_14 (fun q4 S5 => ?_)
    refine J_if_ne (tgt := 23) dX11_say_17 (by decide) (fun z6 => ?_) (fun z6 => ?_)
    · refine J_bipush (v := (-3)) dX11_say_20 (by decide) ?_
      exact J_ireturn rfl (Nat.le_refl _) (Nat.le_refl _) rfl dX11_say_22
    · refine J_aload_n dX11_say_23 rfl rfl ?_
      refine K_getR (r := some (24)) cf11 flX11_76 (sq 0 rfl) rfl (Or.inl ⟨_, rfl⟩) dX11_say_24 ?_
      refine K_callV_i (As := []) mcX10_length mlX11_254 rfl (by decide) (sq 24 rfl) (ct10_length G t S5) rfl rfl (Nat.le_of_ble_eq_true rfl) (by decide) (Nat.le_of_ble_eq_true rfl) dX11_say_27 (fun q7 S8 => ?_)
      exact J_ireturn rfl (Nat.le_refl _) (Nat.le_refl _) rfl dX11_say_30
theorem dX11_unsay_0 : decode cX11_unsay 0 = .ok (.aload_n 0, 1) := by decide +kernel
theorem dX11_unsay_1 : decode cX11_unsay 1 = .ok (.getfield 76, 3) := by decide +kernel
theorem dX11_unsay_4 : decode cX11_unsay 4 = .ok (.invokevirtual 254, 3) := by decide +kernel
theorem dX11_unsay_7 : decode cX11_unsay 7 = .ok (.istore_n 1, 1) := by decide +kernel
theorem dX11_unsay_8 : decode cX11_unsay 8 = .ok (.aload_n 0, 1) := by decide +kernel
theorem dX11_unsay_9 : decode cX11_unsay 9 = .ok (.getfield 76, 3) := by decide +kernel
theorem dX11_unsay_12 : decode cX11_unsay 12 = .ok (.invokevirtual 255, 3) := by decide +kernel
theorem dX11_unsay_15 : decode cX11_unsay 15 = .ok (.iload_n 1, 1) := by decide +kernel
theorem dX11_unsay_16 : decode cX11_unsay 16 = .ok (.ireturn, 1) := by decide +kernel
set_option maxRecDepth 100000 in
set_option maxHeartbeats 4000000 in
theorem ct11_unsay (G : Gm) (t : Nat)    (S : St) : Ct G YX11_unsay yX11_unsay 2 0 0 (fI t) (f11_unsay S) [vR (some 0)] (MM t S) := by
  refine Ct_of_J [some (vR (some 0)), none] (by decide) rfl (fun h => by cases h) (Nat.le_of_ble_eq_true rfl) (And.intro rfl (trivial)) ?_
  unfold f11_unsay
  refine J_aload_n dX11_unsay_0 rfl rfl ?_
  refine K_getR (r := some (24)) cf11 flX11_76 (sq 0 rfl) rfl (Or.inl ⟨_, rfl⟩) dX11_unsay_1 ?_
  refine K_callV_i (As := []) mcX10_length mlX11_254 rfl (by decide) (sq 24 rfl) (ct10_length G t S) rfl rfl (Nat.le_of_ble_eq_true rfl) (by decide) (Nat.le_of_ble_eq_true rfl) dX11_unsay_4 (fun q1 S2 => ?_)
  refine J_istore_n [some (vR (some 0)), some (vI q1)] dX11_unsay_7 rfl (Nat.le_of_ble_eq_true rfl) rfl rfl ?_
  refine J_aload_n dX11_unsay_8 rfl rfl ?_
  refine K_getR (r := some (24)) cf11 flX11_76 (sq 0 rfl) rfl (Or.inl ⟨_, rfl⟩) dX11_unsay_9 ?_
  refine K_callV_v (As := []) mcX10_beEmpty mlX11_255 rfl (by decide) (sq 24 rfl) (ct10_beEmpty G t S2) rfl rfl (Nat.le_of_ble_eq_true rfl) (by decide) (Nat.le_of_ble_eq_true rfl) dX11_unsay_12 (fun q3 S4 => ?_)
  refine J_iload_n dX11_unsay_15 rfl rfl ?_
  exact J_ireturn rfl (Nat.le_refl _) (Nat.le_refl _) rfl dX11_unsay_16
theorem dX11_isSizeAndSteps_0 : decode cX11_isSizeAndSteps 0 = .ok (.iload_n 0, 1) := by decide +kernel
theorem dX11_isSizeAndSteps_1 : decode cX11_isSizeAndSteps 1 = .ok (.sipush 1000, 3) := by decide +kernel
theorem dX11_isSizeAndSteps_4 : decode cX11_isSizeAndSteps 4 = .ok (.idiv, 1) := by decide +kernel
theorem dX11_isSizeAndSteps_5 : decode cX11_isSizeAndSteps 5 = .ok (.istore_n 1, 1) := by decide +kernel
theorem dX11_isSizeAndSteps_6 : decode cX11_isSizeAndSteps 6 = .ok (.iload_n 0, 1) := by decide +kernel
theorem dX11_isSizeAndSteps_7 : decode cX11_isSizeAndSteps 7 = .ok (.sipush 1000, 3) := by decide +kernel
theorem dX11_isSizeAndSteps_10 : decode cX11_isSizeAndSteps 10 = .ok (.irem, 1) := by decide +kernel
theorem dX11_isSizeAndSteps_11 : decode cX11_isSizeAndSteps 11 = .ok (.istore_n 2, 1) := by decide +kernel
theorem dX11_isSizeAndSteps_12 : decode cX11_isSizeAndSteps 12 = .ok (.iload_n 0, 1) := by decide +kernel
theorem dX11_isSizeAndSteps_13 : decode cX11_isSizeAndSteps 13 = .ok (.ifCond .le 30, 3) := by decide +kernel
theorem dX11_isSizeAndSteps_16 : decode cX11_isSizeAndSteps 16 = .ok (.iload_n 1, 1) := by decide +kernel
theorem dX11_isSizeAndSteps_17 : decode cX11_isSizeAndSteps 17 = .ok (.iconst 1, 1) := by decide +kernel
theorem dX11_isSizeAndSteps_18 : decode cX11_isSizeAndSteps 18 = .ok (.if_icmp .lt 25, 3) := by decide +kernel
theorem dX11_isSizeAndSteps_21 : decode cX11_isSizeAndSteps 21 = .ok (.iload_n 1, 1) := by decide +kernel
theorem dX11_isSizeAndSteps_22 : decode cX11_isSizeAndSteps 22 = .ok (.bipush 12, 2) := by decide +kernel
theorem dX11_isSizeAndSteps_24 : decode cX11_isSizeAndSteps 24 = .ok (.if_icmp .gt 19, 3) := by decide +kernel
theorem dX11_isSizeAndSteps_27 : decode cX11_isSizeAndSteps 27 = .ok (.iload_n 2, 1) := by decide +kernel
theorem dX11_isSizeAndSteps_28 : decode cX11_isSizeAndSteps 28 = .ok (.iconst 1, 1) := by decide +kernel
theorem dX11_isSizeAndSteps_29 : decode cX11_isSizeAndSteps 29 = .ok (.if_icmp .lt 14, 3) := by decide +kernel
theorem dX11_isSizeAndSteps_32 : decode cX11_isSizeAndSteps 32 = .ok (.iload_n 2, 1) := by decide +kernel
theorem dX11_isSizeAndSteps_33 : decode cX11_isSizeAndSteps 33 = .ok (.sipush 200, 3) := by decide +kernel
theorem dX11_isSizeAndSteps_36 : decode cX11_isSizeAndSteps 36 = .ok (.if_icmp .gt 7, 3) := by decide +kernel
theorem dX11_isSizeAndSteps_39 : decode cX11_isSizeAndSteps 39 = .ok (.iconst 1, 1) := by decide +kernel
theorem dX11_isSizeAndSteps_40 : decode cX11_isSizeAndSteps 40 = .ok (.goto 4, 3) := by decide +kernel
theorem dX11_isSizeAndSteps_43 : decode cX11_isSizeAndSteps 43 = .ok (.iconst 0, 1) := by decide +kernel
theorem dX11_isSizeAndSteps_44 : decode cX11_isSizeAndSteps 44 = .ok (.ireturn, 1) := by decide +kernel
set_option maxRecDepth 100000 in
set_option maxHeartbeats 4000000 in
theorem ct11_isSizeAndSteps (G : Gm) (t : Nat)  (x0 : Int32)  (S : St) : Ct G YX11_isSizeAndSteps yX11_isSizeAndSteps 1 0 0 (fI t) (f11_isSizeAndSteps x0 S) [vI x0] (MM t S) := by
  refine Ct_of_J [some (vI x0), none, none] (by decide) rfl (fun h => by cases h) (Nat.le_of_ble_eq_true rfl) (And.intro rfl (trivial)) ?_
  unfold f11_isSizeAndSteps
  refine J_iload_n dX11_isSizeAndSteps_0 rfl rfl ?_
  refine J_sipush (v := nI 1000) dX11_isSizeAndSteps_1 (by decide) ?_
  refine J_idiv (by decide) dX11_isSizeAndSteps_4 ?_
  refine J_ltI (fun v1 _ => ?_)
  refine J_istore_n [some (vI x0), some (vI v1), none] dX11_isSizeAndSteps_5 rfl (Nat.le_of_ble_eq_true rfl) rfl rfl ?_
  refine J_iload_n dX11_isSizeAndSteps_6 rfl rfl ?_
  refine J_sipush (v := nI 1000) dX11_isSizeAndSteps_7 (by decide) ?_
  refine J_irem (by decide) dX11_isSizeAndSteps_10 ?_
  refine J_ltI (fun v2 _ => ?_)
  refine J_istore_n [some (vI x0), some (vI v1), some (vI v2)] dX11_isSizeAndSteps_11 rfl (Nat.le_of_ble_eq_true rfl) rfl rfl ?_
  refine J_iload_n dX11_isSizeAndSteps_12 rfl rfl ?_
  refine J_if_le (tgt := 43) dX11_isSizeAndSteps_13 (by decide) (fun z3 => ?_) (fun z3 => ?_)
  · refine J_iconst (v := nI 0) dX11_isSizeAndSteps_43 (by decide) ?_
    exact J_zreturn (by decide) rfl (Nat.le_refl _) (Nat.le_refl _) rfl dX11_isSizeAndSteps_44
  · refine J_iload_n dX11_isSizeAndSteps_16 rfl rfl ?_
    refine J_iconst (v := nI 1) dX11_isSizeAndSteps_17 (by decide) ?_
    refine J_icmp_lt (tgt := 43) dX11_isSizeAndSteps_18 (by decide) (fun z4 => ?_) (fun z4 => ?_)
    · refine J_iconst (v := nI 0) dX11_isSizeAndSteps_43 (by decide) ?_
      exact J_zreturn (by decide) rfl (Nat.le_refl _) (Nat.le_refl _) rfl dX11_isSizeAndSteps_44
    · refine J_iload_n dX11_isSizeAndSteps_21 rfl rfl ?_
      refine J_bipush (v := nI 12) dX11_isSizeAndSteps_22 (by decide) ?_
      refine J_icmp_gt (tgt := 43) dX11_isSizeAndSteps_24 (by decide) (fun z5 => ?_) (fun z5 => ?_)
      · refine J_iconst (v := nI 0) dX11_isSizeAndSteps_43 (by decide) ?_
        exact J_zreturn (by decide) rfl (Nat.le_refl _) (Nat.le_refl _) rfl dX11_isSizeAndSteps_44
      · refine J_iload_n dX11_isSizeAndSteps_27 rfl rfl ?_
        refine J_iconst (v := nI 1) dX11_isSizeAndSteps_28 (by decide) ?_
        refine J_icmp_lt (tgt := 43) dX11_isSizeAndSteps_29 (by decide) (fun z6 => ?_) (fun z6 => ?_)
        · refine J_iconst (v := nI 0) dX11_isSizeAndSteps_43 (by decide) ?_
          exact J_zreturn (by decide) rfl (Nat.le_refl _) (Nat.le_refl _) rfl dX11_isSizeAndSteps_44
        · refine J_iload_n dX11_isSizeAndSteps_32 rfl rfl ?_
          refine J_sipush (v := nI 200) dX11_isSizeAndSteps_33 (by decide) ?_
          refine J_icmp_gt (tgt := 43) dX11_isSizeAndSteps_36 (by decide) (fun z7 => ?_) (fun z7 => ?_)
          · refine J_iconst (v := nI 0) dX11_isSizeAndSteps_43 (by decide) ?_
            exact J_zreturn (by decide) rfl (Nat.le_refl _) (Nat.le_refl _) rfl dX11_isSizeAndSteps_44
          · refine J_iconst (v := nI 1) dX11_isSizeAndSteps_39 (by decide) ?_
            refine J_goto (tgt := 44) dX11_isSizeAndSteps_40 (by decide) ?_
            exact J_zreturn (by decide) rfl (Nat.le_refl _) (Nat.le_refl _) rfl dX11_isSizeAndSteps_44
theorem dX11_votes_0 : decode cX11_votes 0 = .ok (.aload_n 0, 1) := by decide +kernel
theorem dX11_votes_1 : decode cX11_votes 1 = .ok (.iload_n 1, 1) := by decide +kernel
theorem dX11_votes_2 : decode cX11_votes 2 = .ok (.invokevirtual 118, 3) := by decide +kernel
theorem dX11_votes_5 : decode cX11_votes 5 = .ok (.astore 5, 2) := by decide +kernel
theorem dX11_votes_7 : decode cX11_votes 7 = .ok (.aload 5, 2) := by decide +kernel
theorem dX11_votes_9 : decode cX11_votes 9 = .ok (.ifnull 19, 3) := by decide +kernel
theorem dX11_votes_12 : decode cX11_votes 12 = .ok (.iload_n 2, 1) := by decide +kernel
theorem dX11_votes_13 : decode cX11_votes 13 = .ok (.invokestatic 256, 3) := by decide +kernel
theorem dX11_votes_16 : decode cX11_votes 16 = .ok (.ifCond .eq 12, 3) := by decide +kernel
theorem dX11_votes_19 : decode cX11_votes 19 = .ok (.iload_n 3, 1) := by decide +kernel
theorem dX11_votes_20 : decode cX11_votes 20 = .ok (.ifCond .lt 8, 3) := by decide +kernel
theorem dX11_votes_23 : decode cX11_votes 23 = .ok (.iload_n 3, 1) := by decide +kernel
theorem dX11_votes_24 : decode cX11_votes 24 = .ok (.iconst 3, 1) := by decide +kernel
theorem dX11_votes_25 : decode cX11_votes 25 = .ok (.if_icmp .le 5, 3) := by decide +kernel
theorem dX11_votes_28 : decode cX11_votes 28 = .ok (.iconst (-1), 1) := by decide +kernel
theorem dX11_votes_29 : decode cX11_votes 29 = .ok (.ireturn, 1) := by decide +kernel
theorem dX11_votes_30 : decode cX11_votes 30 = .ok (.iload_n 3, 1) := by decide +kernel
theorem dX11_votes_31 : decode cX11_votes 31 = .ok (.ifCond .ne 13, 3) := by decide +kernel
theorem dX11_votes_34 : decode cX11_votes 34 = .ok (.iload 4, 2) := by decide +kernel
theorem dX11_votes_36 : decode cX11_votes 36 = .ok (.invokestatic 183, 3) := by decide +kernel
theorem dX11_votes_39 : decode cX11_votes 39 = .ok (.ifCond .ne 5, 3) := by decide +kernel
theorem dX11_votes_42 : decode cX11_votes 42 = .ok (.iconst (-1), 1) := by decide +kernel
theorem dX11_votes_43 : decode cX11_votes 43 = .ok (.ireturn, 1) := by decide +kernel
theorem dX11_votes_44 : decode cX11_votes 44 = .ok (.aload_n 0, 1) := by decide +kernel
theorem dX11_votes_45 : decode cX11_votes 45 = .ok (.getfield 83, 3) := by decide +kernel
theorem dX11_votes_48 : decode cX11_votes 48 = .ok (.aload 5, 2) := by decide +kernel
theorem dX11_votes_50 : decode cX11_votes 50 = .ok (.aload_n 0, 1) := by decide +kernel
theorem dX11_votes_51 : decode cX11_votes 51 = .ok (.getfield 76, 3) := by decide +kernel
theorem dX11_votes_54 : decode cX11_votes 54 = .ok (.iload_n 2, 1) := by decide +kernel
theorem dX11_votes_55 : decode cX11_votes 55 = .ok (.sipush 1000, 3) := by decide +kernel
theorem dX11_votes_58 : decode cX11_votes 58 = .ok (.idiv, 1) := by decide +kernel
theorem dX11_votes_59 : decode cX11_votes 59 = .ok (.iload_n 2, 1) := by decide +kernel
theorem dX11_votes_60 : decode cX11_votes 60 = .ok (.sipush 1000, 3) := by decide +kernel
theorem dX11_votes_63 : decode cX11_votes 63 = .ok (.irem, 1) := by decide +kernel
theorem dX11_votes_64 : decode cX11_votes 64 = .ok (.aload_n 0, 1) := by decide +kernel
theorem dX11_votes_65 : decode cX11_votes 65 = .ok (.getfield 32, 3) := by decide +kernel
theorem dX11_votes_68 : decode cX11_votes 68 = .ok (.invokevirtual 259, 3) := by decide +kernel
theorem dX11_votes_71 : decode cX11_votes 71 = .ok (.iload_n 3, 1) := by decide +kernel
theorem dX11_votes_72 : decode cX11_votes 72 = .ok (.tableswitch 54 0 2 #[28, 38, 46], 28) := by decide +kernel
theorem dX11_votes_100 : decode cX11_votes 100 = .ok (.aload_n 0, 1) := by decide +kernel
theorem dX11_votes_101 : decode cX11_votes 101 = .ok (.getfield 83, 3) := by decide +kernel
theorem dX11_votes_104 : decode cX11_votes 104 = .ok (.iload 4, 2) := by decide +kernel
theorem dX11_votes_106 : decode cX11_votes 106 = .ok (.invokevirtual 263, 3) := by decide +kernel
theorem dX11_votes_109 : decode cX11_votes 109 = .ok (.ireturn, 1) := by decide +kernel
theorem dX11_votes_110 : decode cX11_votes 110 = .ok (.aload_n 0, 1) := by decide +kernel
theorem dX11_votes_111 : decode cX11_votes 111 = .ok (.getfield 83, 3) := by decide +kernel
theorem dX11_votes_114 : decode cX11_votes 114 = .ok (.invokevirtual 266, 3) := by decide +kernel
theorem dX11_votes_117 : decode cX11_votes 117 = .ok (.ireturn, 1) := by decide +kernel
theorem dX11_votes_118 : decode cX11_votes 118 = .ok (.aload_n 0, 1) := by decide +kernel
theorem dX11_votes_119 : decode cX11_votes 119 = .ok (.getfield 83, 3) := by decide +kernel
theorem dX11_votes_122 : decode cX11_votes 122 = .ok (.invokevirtual 269, 3) := by decide +kernel
theorem dX11_votes_125 : decode cX11_votes 125 = .ok (.ireturn, 1) := by decide +kernel
theorem dX11_votes_126 : decode cX11_votes 126 = .ok (.aload_n 0, 1) := by decide +kernel
theorem dX11_votes_127 : decode cX11_votes 127 = .ok (.getfield 83, 3) := by decide +kernel
theorem dX11_votes_130 : decode cX11_votes 130 = .ok (.invokevirtual 272, 3) := by decide +kernel
theorem dX11_votes_133 : decode cX11_votes 133 = .ok (.ireturn, 1) := by decide +kernel
set_option maxRecDepth 100000 in
set_option maxHeartbeats 4000000 in
theorem t11_votes_j44 (G : Gm) (t : Nat) (N : Nat) (x2 : Int32) (x3 : Int32) (x4 : Int32) (a5 : Nat) (h5 : a5 ∈ ad3)   : ∀  (S : St), J G YX11_votes 7 0 0 (fI t) 0 0 44 [some (vR (some 0)), none, some (vI x2), some (vI x3), some (vI x4), some (vR (some a5))] [] (MM t S) (f11_votes_j44 N x2 x3 x4 a5 S) := by
  intro S
  unfold f11_votes_j44
  refine J_aload_n dX11_votes_44 rfl rfl ?_
  refine K_getR (r := some (26)) cf11 flX11_83 (sq 0 rfl) rfl (Or.inl ⟨_, rfl⟩) dX11_votes_45 ?_
  refine J_aload dX11_votes_48 rfl ?_
  refine J_aload_n dX11_votes_50 rfl rfl ?_
  refine K_getR (r := some (24)) cf11 flX11_76 (sq 0 rfl) rfl (Or.inl ⟨_, rfl⟩) dX11_votes_51 ?_
  refine J_iload_n dX11_votes_54 rfl rfl ?_
  refine J_sipush (v := nI 1000) dX11_votes_55 (by decide) ?_
  refine J_idiv (by decide) dX11_votes_58 ?_
  refine J_iload_n dX11_votes_59 rfl rfl ?_
  refine J_sipush (v := nI 1000) dX11_votes_60 (by decide) ?_
  refine J_irem (by decide) dX11_votes_63 ?_
  refine J_aload_n dX11_votes_64 rfl rfl ?_
  refine K_getR (r := some (6)) cf11 flX11_32 (sq 0 rfl) rfl (Or.inl ⟨_, rfl⟩) dX11_votes_65 ?_
  refine K_callV_v (As := [vR (some a5), vR (some 24), vI (x2 / (nI 1000)), vI (remI x2 (nI 1000)), vR (some 6)]) mcX5_hold mlX11_259 rfl (by decide) (sq 26 rfl) (ct5_hold G t N a5 (x2 / (nI 1000)) (remI x2 (nI 1000)) h5 S) rfl rfl (Nat.le_of_ble_eq_true rfl) (by decide) (Nat.le_of_ble_eq_true rfl) dX11_votes_68 (fun q1 S2 => ?_)
  refine J_iload_n dX11_votes_71 rfl rfl ?_
  refine J_table (td := 126) _ dX11_votes_72 (fun z h1 h2 => cov_of (lo := (0)) (N := 3) (ks := [nI 0, nI 1, nI 2]) (by decide) z h1 (by omega)) ?_ (by decide) ?_
  · refine List.forall_mem_cons.mpr ⟨tb_mk (o := 28) (tgt := 100) (by decide) (fun _ => ?_), ?_⟩
    · refine J_aload_n dX11_votes_100 rfl rfl ?_
      refine K_getR (r := some (26)) cf11 flX11_83 (sq 0 rfl) rfl (Or.inl ⟨_, rfl⟩) dX11_votes_101 ?_
      refine J_iload dX11_votes_104 rfl ?_
      refine K_callV_i (As := [vI x4]) mcX5_votesFor mlX11_263 rfl (by decide) (sq 26 rfl) (ct5_votesFor G t x4 S2) rfl rfl (Nat.le_of_ble_eq_true rfl) (by decide) (Nat.le_of_ble_eq_true rfl) dX11_votes_106 (fun q3 S4 => ?_)
      exact J_ireturn rfl (Nat.le_refl _) (Nat.le_refl _) rfl dX11_votes_109
    · refine List.forall_mem_cons.mpr ⟨tb_mk (o := 38) (tgt := 110) (by decide) (fun _ => ?_), ?_⟩
      · refine J_aload_n dX11_votes_110 rfl rfl ?_
        refine K_getR (r := some (26)) cf11 flX11_83 (sq 0 rfl) rfl (Or.inl ⟨_, rfl⟩) dX11_votes_111 ?_
        refine K_callV_i (As := []) mcX5_most mlX11_266 rfl (by decide) (sq 26 rfl) (ct5_most G t N S2) rfl rfl (Nat.le_of_ble_eq_true rfl) (by decide) (Nat.le_of_ble_eq_true rfl) dX11_votes_114 (fun q5 S6 => ?_)
        exact J_ireturn rfl (Nat.le_refl _) (Nat.le_refl _) rfl dX11_votes_117
      · refine List.forall_mem_cons.mpr ⟨tb_mk (o := 46) (tgt := 118) (by decide) (fun _ => ?_), ?_⟩
        · refine J_aload_n dX11_votes_118 rfl rfl ?_
          refine K_getR (r := some (26)) cf11 flX11_83 (sq 0 rfl) rfl (Or.inl ⟨_, rfl⟩) dX11_votes_119 ?_
          refine K_callV_i (As := []) mcX5_all mlX11_269 rfl (by decide) (sq 26 rfl) (ct5_all G t S2) rfl rfl (Nat.le_of_ble_eq_true rfl) (by decide) (Nat.le_of_ble_eq_true rfl) dX11_votes_122 (fun q7 S8 => ?_)
          exact J_ireturn rfl (Nat.le_refl _) (Nat.le_refl _) rfl dX11_votes_125
        · exact fun _ h => absurd h List.not_mem_nil
  · refine J_aload_n dX11_votes_126 rfl rfl ?_
    refine K_getR (r := some (26)) cf11 flX11_83 (sq 0 rfl) rfl (Or.inl ⟨_, rfl⟩) dX11_votes_127 ?_
    refine K_callV_i (As := []) mcX5_open mlX11_272 rfl (by decide) (sq 26 rfl) (ct5_open G t S2) rfl rfl (Nat.le_of_ble_eq_true rfl) (by decide) (Nat.le_of_ble_eq_true rfl) dX11_votes_130 (fun q9 S10 => ?_)
    exact J_ireturn rfl (Nat.le_refl _) (Nat.le_refl _) rfl dX11_votes_133
set_option maxRecDepth 100000 in
set_option maxHeartbeats 4000000 in
theorem ct11_votes (G : Gm) (t : Nat) (N : Nat) (x1 : Int32) (x2 : Int32) (x3 : Int32) (x4 : Int32)  (S : St) : Ct G YX11_votes yX11_votes 7 0 0 (fI t) (f11_votes N x1 x2 x3 x4 S) [vR (some 0), vI x1, vI x2, vI x3, vI x4] (MM t S) := by
  refine Ct_of_J [some (vR (some 0)), some (vI x1), some (vI x2), some (vI x3), some (vI x4), none] (by decide) rfl (fun h => by cases h) (Nat.le_of_ble_eq_true rfl) (And.intro rfl (And.intro rfl (And.intro rfl (And.intro rfl (And.intro rfl (trivial)))))) ?_
  unfold f11_votes
  refine J_aload_n dX11_votes_0 rfl rfl ?_
  refine J_iload_n dX11_votes_1 rfl rfl ?_
  refine K_callV_r (As := [vI x1]) mcX11_languageAt mlX11_118 rfl (by decide) (sq 0 rfl) (ct11_languageAt G t x1 S) rfl rfl (Nat.le_of_ble_eq_true rfl) (by decide) (Nat.le_of_ble_eq_true rfl) dX11_votes_2 (fun q1 S2 => ?_)
  refine J_astore [some (vR (some 0)), some (vI x1), some (vI x2), some (vI x3), some (vI x4), some (vR q1)] dX11_votes_5 (Nat.le_of_ble_eq_true rfl) rfl rfl ?_
  refine J_aload dX11_votes_7 rfl ?_
  refine J_ifnull (tgt := 28) dX11_votes_9 (by decide) (fun hr => ?_) (fun b3 hr => ?_)
  · subst hr
    refine J_iconst (v := (-1)) dX11_votes_28 (by decide) ?_
    exact J_ireturn rfl (Nat.le_refl _) (Nat.le_refl _) rfl dX11_votes_29
  · subst hr
    refine J_ckA (fun hb3 => ?_)
    refine J_iload_n dX11_votes_12 rfl rfl ?_
    refine K_callS_i (As := [vI x2]) mcX11_isSizeAndSteps mlX11_256 (ct11_isSizeAndSteps G t x2 S2) rfl rfl (Nat.le_of_ble_eq_true rfl) (by decide) (Nat.le_of_ble_eq_true rfl) dX11_votes_13 (fun q4 S5 => ?_)
    refine J_if_eq (tgt := 28) dX11_votes_16 (by decide) (fun z6 => ?_) (fun z6 => ?_)
    · refine J_iconst (v := (-1)) dX11_votes_28 (by decide) ?_
      exact J_ireturn rfl (Nat.le_refl _) (Nat.le_refl _) rfl dX11_votes_29
    · refine J_iload_n dX11_votes_19 rfl rfl ?_
      refine J_if_lt (tgt := 28) dX11_votes_20 (by decide) (fun z7 => ?_) (fun z7 => ?_)
      · refine J_iconst (v := (-1)) dX11_votes_28 (by decide) ?_
        exact J_ireturn rfl (Nat.le_refl _) (Nat.le_refl _) rfl dX11_votes_29
      · refine J_iload_n dX11_votes_23 rfl rfl ?_
        refine J_iconst (v := nI 3) dX11_votes_24 (by decide) ?_
        refine J_icmp_le (tgt := 30) dX11_votes_25 (by decide) (fun z8 => ?_) (fun z8 => ?_)
        · refine J_iload_n dX11_votes_30 rfl rfl ?_
          refine J_if_ne (tgt := 44) dX11_votes_31 (by decide) (fun z9 => ?_) (fun z9 => ?_)
          · refine J_iload dX11_votes_34 rfl ?_
            refine K_callS_i (As := [vI x4]) mcX11_isNumber mlX11_183 (ct11_isNumber G t x4 S5) rfl rfl (Nat.le_of_ble_eq_true rfl) (by decide) (Nat.le_of_ble_eq_true rfl) dX11_votes_36 (fun q10 S11 => ?_)
            refine J_if_ne (tgt := 44) dX11_votes_39 (by decide) (fun z12 => ?_) (fun z12 => ?_)
            · refine J_iconst (v := (-1)) dX11_votes_42 (by decide) ?_
              exact J_ireturn rfl (Nat.le_refl _) (Nat.le_refl _) rfl dX11_votes_43
            · exact J_sb (t11_votes_j44 G t N x2 x3 x4 b3 hb3 S11) (And.intro rfl (And.intro rfl (And.intro rfl (And.intro rfl (And.intro rfl (trivial))))))
          · exact J_sb (t11_votes_j44 G t N x2 x3 x4 b3 hb3 S5) (And.intro rfl (And.intro rfl (And.intro rfl (And.intro rfl (And.intro rfl (trivial))))))
        · refine J_iconst (v := (-1)) dX11_votes_28 (by decide) ?_
          exact J_ireturn rfl (Nat.le_refl _) (Nat.le_refl _) rfl dX11_votes_29
theorem dX11_shortest_0 : decode cX11_shortest 0 = .ok (.aload_n 0, 1) := by decide +kernel
theorem dX11_shortest_1 : decode cX11_shortest 1 = .ok (.iload_n 1, 1) := by decide +kernel
theorem dX11_shortest_2 : decode cX11_shortest 2 = .ok (.invokevirtual 118, 3) := by decide +kernel
theorem dX11_shortest_5 : decode cX11_shortest 5 = .ok (.astore 4, 2) := by decide +kernel
theorem dX11_shortest_7 : decode cX11_shortest 7 = .ok (.aload 4, 2) := by decide +kernel
theorem dX11_shortest_9 : decode cX11_shortest 9 = .ok (.ifnull 19, 3) := by decide +kernel
theorem dX11_shortest_12 : decode cX11_shortest 12 = .ok (.iload_n 2, 1) := by decide +kernel
theorem dX11_shortest_13 : decode cX11_shortest 13 = .ok (.invokestatic 256, 3) := by decide +kernel
theorem dX11_shortest_16 : decode cX11_shortest 16 = .ok (.ifCond .eq 12, 3) := by decide +kernel
theorem dX11_shortest_19 : decode cX11_shortest 19 = .ok (.iload_n 3, 1) := by decide +kernel
theorem dX11_shortest_20 : decode cX11_shortest 20 = .ok (.ifCond .lt 8, 3) := by decide +kernel
theorem dX11_shortest_23 : decode cX11_shortest 23 = .ok (.iload_n 3, 1) := by decide +kernel
theorem dX11_shortest_24 : decode cX11_shortest 24 = .ok (.iconst 2, 1) := by decide +kernel
theorem dX11_shortest_25 : decode cX11_shortest 25 = .ok (.if_icmp .le 5, 3) := by decide +kernel
theorem dX11_shortest_28 : decode cX11_shortest 28 = .ok (.iconst (-1), 1) := by decide +kernel
theorem dX11_shortest_29 : decode cX11_shortest 29 = .ok (.ireturn, 1) := by decide +kernel
theorem dX11_shortest_30 : decode cX11_shortest 30 = .ok (.aload_n 0, 1) := by decide +kernel
theorem dX11_shortest_31 : decode cX11_shortest 31 = .ok (.getfield 83, 3) := by decide +kernel
theorem dX11_shortest_34 : decode cX11_shortest 34 = .ok (.aload 4, 2) := by decide +kernel
theorem dX11_shortest_36 : decode cX11_shortest 36 = .ok (.aload_n 0, 1) := by decide +kernel
theorem dX11_shortest_37 : decode cX11_shortest 37 = .ok (.getfield 76, 3) := by decide +kernel
theorem dX11_shortest_40 : decode cX11_shortest 40 = .ok (.iload_n 2, 1) := by decide +kernel
theorem dX11_shortest_41 : decode cX11_shortest 41 = .ok (.sipush 1000, 3) := by decide +kernel
theorem dX11_shortest_44 : decode cX11_shortest 44 = .ok (.idiv, 1) := by decide +kernel
theorem dX11_shortest_45 : decode cX11_shortest 45 = .ok (.iload_n 2, 1) := by decide +kernel
theorem dX11_shortest_46 : decode cX11_shortest 46 = .ok (.sipush 1000, 3) := by decide +kernel
theorem dX11_shortest_49 : decode cX11_shortest 49 = .ok (.irem, 1) := by decide +kernel
theorem dX11_shortest_50 : decode cX11_shortest 50 = .ok (.aload_n 0, 1) := by decide +kernel
theorem dX11_shortest_51 : decode cX11_shortest 51 = .ok (.getfield 32, 3) := by decide +kernel
theorem dX11_shortest_54 : decode cX11_shortest 54 = .ok (.invokevirtual 275, 3) := by decide +kernel
theorem dX11_shortest_57 : decode cX11_shortest 57 = .ok (.iload_n 3, 1) := by decide +kernel
theorem dX11_shortest_58 : decode cX11_shortest 58 = .ok (.iconst 2, 1) := by decide +kernel
theorem dX11_shortest_59 : decode cX11_shortest 59 = .ok (.if_icmp .ne 11, 3) := by decide +kernel
theorem dX11_shortest_62 : decode cX11_shortest 62 = .ok (.aload_n 0, 1) := by decide +kernel
theorem dX11_shortest_63 : decode cX11_shortest 63 = .ok (.getfield 83, 3) := by decide +kernel
theorem dX11_shortest_66 : decode cX11_shortest 66 = .ok (.invokevirtual 278, 3) := by decide +kernel
theorem dX11_shortest_69 : decode cX11_shortest 69 = .ok (.ireturn, 1) := by decide +kernel
theorem dX11_shortest_70 : decode cX11_shortest 70 = .ok (.aload_n 0, 1) := by decide +kernel
theorem dX11_shortest_71 : decode cX11_shortest 71 = .ok (.getfield 83, 3) := by decide +kernel
theorem dX11_shortest_74 : decode cX11_shortest 74 = .ok (.invokevirtual 278, 3) := by decide +kernel
theorem dX11_shortest_77 : decode cX11_shortest 77 = .ok (.ifCond .ne 6, 3) := by decide +kernel
theorem dX11_shortest_80 : decode cX11_shortest 80 = .ok (.bipush (-2), 2) := by decide +kernel
theorem dX11_shortest_82 : decode cX11_shortest 82 = .ok (.ireturn, 1) := by decide +kernel
theorem dX11_shortest_83 : decode cX11_shortest 83 = .ok (.iload_n 3, 1) := by decide +kernel
theorem dX11_shortest_84 : decode cX11_shortest 84 = .ok (.iconst 1, 1) := by decide +kernel
theorem dX11_shortest_85 : decode cX11_shortest 85 = .ok (.if_icmp .ne 19, 3) := by decide +kernel
theorem dX11_shortest_88 : decode cX11_shortest 88 = .ok (.aload_n 0, 1) := by decide +kernel
theorem dX11_shortest_89 : decode cX11_shortest 89 = .ok (.getfield 83, 3) := by decide +kernel
theorem dX11_shortest_92 : decode cX11_shortest 92 = .ok (.invokevirtual 281, 3) := by decide +kernel
theorem dX11_shortest_95 : decode cX11_shortest 95 = .ok (.ifCond .eq 7, 3) := by decide +kernel
theorem dX11_shortest_98 : decode cX11_shortest 98 = .ok (.iconst 1, 1) := by decide +kernel
theorem dX11_shortest_99 : decode cX11_shortest 99 = .ok (.goto 4, 3) := by decide +kernel
theorem dX11_shortest_102 : decode cX11_shortest 102 = .ok (.iconst 0, 1) := by decide +kernel
theorem dX11_shortest_103 : decode cX11_shortest 103 = .ok (.ireturn, 1) := by decide +kernel
theorem dX11_shortest_104 : decode cX11_shortest 104 = .ok (.aload_n 0, 1) := by decide +kernel
theorem dX11_shortest_105 : decode cX11_shortest 105 = .ok (.getfield 22, 3) := by decide +kernel
theorem dX11_shortest_108 : decode cX11_shortest 108 = .ok (.aload_n 0, 1) := by decide +kernel
theorem dX11_shortest_109 : decode cX11_shortest 109 = .ok (.getfield 83, 3) := by decide +kernel
theorem dX11_shortest_112 : decode cX11_shortest 112 = .ok (.invokevirtual 284, 3) := by decide +kernel
theorem dX11_shortest_115 : decode cX11_shortest 115 = .ok (.invokevirtual 179, 3) := by decide +kernel
theorem dX11_shortest_118 : decode cX11_shortest 118 = .ok (.aload 4, 2) := by decide +kernel
theorem dX11_shortest_120 : decode cX11_shortest 120 = .ok (.aload_n 0, 1) := by decide +kernel
theorem dX11_shortest_121 : decode cX11_shortest 121 = .ok (.getfield 22, 3) := by decide +kernel
theorem dX11_shortest_124 : decode cX11_shortest 124 = .ok (.invokevirtual 162, 3) := by decide +kernel
theorem dX11_shortest_127 : decode cX11_shortest 127 = .ok (.ireturn, 1) := by decide +kernel
set_option maxRecDepth 100000 in
set_option maxHeartbeats 4000000 in
theorem ct11_shortest (G : Gm) (t : Nat) (N : Nat) (x1 : Int32) (x2 : Int32) (x3 : Int32)  (S : St) : Ct G YX11_shortest yX11_shortest 7 0 0 (fI t) (f11_shortest N x1 x2 x3 S) [vR (some 0), vI x1, vI x2, vI x3] (MM t S) := by
  refine Ct_of_J [some (vR (some 0)), some (vI x1), some (vI x2), some (vI x3), none] (by decide) rfl (fun h => by cases h) (Nat.le_of_ble_eq_true rfl) (And.intro rfl (And.intro rfl (And.intro rfl (And.intro rfl (trivial))))) ?_
  unfold f11_shortest
  refine J_aload_n dX11_shortest_0 rfl rfl ?_
  refine J_iload_n dX11_shortest_1 rfl rfl ?_
  refine K_callV_r (As := [vI x1]) mcX11_languageAt mlX11_118 rfl (by decide) (sq 0 rfl) (ct11_languageAt G t x1 S) rfl rfl (Nat.le_of_ble_eq_true rfl) (by decide) (Nat.le_of_ble_eq_true rfl) dX11_shortest_2 (fun q1 S2 => ?_)
  refine J_astore [some (vR (some 0)), some (vI x1), some (vI x2), some (vI x3), some (vR q1)] dX11_shortest_5 (Nat.le_of_ble_eq_true rfl) rfl rfl ?_
  refine J_aload dX11_shortest_7 rfl ?_
  refine J_ifnull (tgt := 28) dX11_shortest_9 (by decide) (fun hr => ?_) (fun b3 hr => ?_)
  · subst hr
    refine J_iconst (v := (-1)) dX11_shortest_28 (by decide) ?_
    exact J_ireturn rfl (Nat.le_refl _) (Nat.le_refl _) rfl dX11_shortest_29
  · subst hr
    refine J_ckA (fun hb3 => ?_)
    refine J_iload_n dX11_shortest_12 rfl rfl ?_
    refine K_callS_i (As := [vI x2]) mcX11_isSizeAndSteps mlX11_256 (ct11_isSizeAndSteps G t x2 S2) rfl rfl (Nat.le_of_ble_eq_true rfl) (by decide) (Nat.le_of_ble_eq_true rfl) dX11_shortest_13 (fun q4 S5 => ?_)
    refine J_if_eq (tgt := 28) dX11_shortest_16 (by decide) (fun z6 => ?_) (fun z6 => ?_)
    · refine J_iconst (v := (-1)) dX11_shortest_28 (by decide) ?_
      exact J_ireturn rfl (Nat.le_refl _) (Nat.le_refl _) rfl dX11_shortest_29
    · refine J_iload_n dX11_shortest_19 rfl rfl ?_
      refine J_if_lt (tgt := 28) dX11_shortest_20 (by decide) (fun z7 => ?_) (fun z7 => ?_)
      · refine J_iconst (v := (-1)) dX11_shortest_28 (by decide) ?_
        exact J_ireturn rfl (Nat.le_refl _) (Nat.le_refl _) rfl dX11_shortest_29
      · refine J_iload_n dX11_shortest_23 rfl rfl ?_
        refine J_iconst (v := nI 2) dX11_shortest_24 (by decide) ?_
        refine J_icmp_le (tgt := 30) dX11_shortest_25 (by decide) (fun z8 => ?_) (fun z8 => ?_)
        · refine J_aload_n dX11_shortest_30 rfl rfl ?_
          refine K_getR (r := some (26)) cf11 flX11_83 (sq 0 rfl) rfl (Or.inl ⟨_, rfl⟩) dX11_shortest_31 ?_
          refine J_aload dX11_shortest_34 rfl ?_
          refine J_aload_n dX11_shortest_36 rfl rfl ?_
          refine K_getR (r := some (24)) cf11 flX11_76 (sq 0 rfl) rfl (Or.inl ⟨_, rfl⟩) dX11_shortest_37 ?_
          refine J_iload_n dX11_shortest_40 rfl rfl ?_
          refine J_sipush (v := nI 1000) dX11_shortest_41 (by decide) ?_
          refine J_idiv (by decide) dX11_shortest_44 ?_
          refine J_iload_n dX11_shortest_45 rfl rfl ?_
          refine J_sipush (v := nI 1000) dX11_shortest_46 (by decide) ?_
          refine J_irem (by decide) dX11_shortest_49 ?_
          refine J_aload_n dX11_shortest_50 rfl rfl ?_
          refine K_getR (r := some (6)) cf11 flX11_32 (sq 0 rfl) rfl (Or.inl ⟨_, rfl⟩) dX11_shortest_51 ?_
          refine K_callV_v (As := [vR (some b3), vR (some 24), vI (x2 / (nI 1000)), vI (remI x2 (nI 1000)), vR (some 6)]) mcX5_findShortest mlX11_275 rfl (by decide) (sq 26 rfl) (ct5_findShortest G t N b3 (x2 / (nI 1000)) (remI x2 (nI 1000)) hb3 S5) rfl rfl (Nat.le_of_ble_eq_true rfl) (by decide) (Nat.le_of_ble_eq_true rfl) dX11_shortest_54 (fun q9 S10 => ?_)
          refine J_iload_n dX11_shortest_57 rfl rfl ?_
          refine J_iconst (v := nI 2) dX11_shortest_58 (by decide) ?_
          refine J_icmp_ne (tgt := 70) dX11_shortest_59 (by decide) (fun z11 => ?_) (fun z11 => ?_)
          · refine J_aload_n dX11_shortest_62 rfl rfl ?_
            refine K_getR (r := some (26)) cf11 flX11_83 (sq 0 rfl) rfl (Or.inl ⟨_, rfl⟩) dX11_shortest_63 ?_
            refine K_callV_i (As := []) mcX5_howManyJust mlX11_278 rfl (by decide) (sq 26 rfl) (ct5_howManyJust G t S10) rfl rfl (Nat.le_of_ble_eq_true rfl) (by decide) (Nat.le_of_ble_eq_true rfl) dX11_shortest_66 (fun q26 S27 => ?_)
            exact J_ireturn rfl (Nat.le_refl _) (Nat.le_refl _) rfl dX11_shortest_69
          · refine J_aload_n dX11_shortest_70 rfl rfl ?_
            refine K_getR (r := some (26)) cf11 flX11_83 (sq 0 rfl) rfl (Or.inl ⟨_, rfl⟩) dX11_shortest_71 ?_
            refine K_callV_i (As := []) mcX5_howManyJust mlX11_278 rfl (by decide) (sq 26 rfl) (ct5_howManyJust G t S10) rfl rfl (Nat.le_of_ble_eq_true rfl) (by decide) (Nat.le_of_ble_eq_true rfl) dX11_shortest_74 (fun q12 S13 => ?_)
            refine J_if_ne (tgt := 83) dX11_shortest_77 (by decide) (fun z14 => ?_) (fun z14 => ?_)
            · refine J_bipush (v := (-2)) dX11_shortest_80 (by decide) ?_
              exact J_ireturn rfl (Nat.le_refl _) (Nat.le_refl _) rfl dX11_shortest_82
            · refine J_iload_n dX11_shortest_83 rfl rfl ?_
              refine J_iconst (v := nI 1) dX11_shortest_84 (by decide) ?_
              refine J_icmp_ne (tgt := 104) dX11_shortest_85 (by decide) (fun z15 => ?_) (fun z15 => ?_)
              · refine J_aload_n dX11_shortest_88 rfl rfl ?_
                refine K_getR (r := some (26)) cf11 flX11_83 (sq 0 rfl) rfl (Or.inl ⟨_, rfl⟩) dX11_shortest_89 ?_
                refine K_callV_i (As := []) mcX5_isShown mlX11_281 rfl (by decide) (sq 26 rfl) (ct5_isShown G t S13) rfl rfl (Nat.le_of_ble_eq_true rfl) (by decide) (Nat.le_of_ble_eq_true rfl) dX11_shortest_92 (fun q23 S24 => ?_)
                refine J_if_eq (tgt := 102) dX11_shortest_95 (by decide) (fun z25 => ?_) (fun z25 => ?_)
                · refine J_iconst (v := nI 0) dX11_shortest_102 (by decide) ?_
                  exact J_ireturn rfl (Nat.le_refl _) (Nat.le_refl _) rfl dX11_shortest_103
                · refine J_iconst (v := nI 1) dX11_shortest_98 (by decide) ?_
                  refine J_goto (tgt := 103) dX11_shortest_99 (by decide) ?_
                  exact J_ireturn rfl (Nat.le_refl _) (Nat.le_refl _) rfl dX11_shortest_103
              · refine J_aload_n dX11_shortest_104 rfl rfl ?_
                refine K_getR (r := some (2)) cf11 flX11_22 (sq 0 rfl) rfl (Or.inl ⟨_, rfl⟩) dX11_shortest_105 ?_
                refine J_aload_n dX11_shortest_108 rfl rfl ?_
                refine K_getR (r := some (26)) cf11 flX11_83 (sq 0 rfl) rfl (Or.inl ⟨_, rfl⟩) dX11_shortest_109 ?_
                refine K_callV_r (As := []) mcX5_shortestOne mlX11_284 rfl (by decide) (sq 26 rfl) (ct5_shortestOne G t S13) rfl rfl (Nat.le_of_ble_eq_true rfl) (by decide) (Nat.le_of_ble_eq_true rfl) dX11_shortest_112 (fun q16 S17 => ?_)
                refine J_onR (fun b18 hr => ?_)
                subst hr
                refine J_ckA (fun hb18 => ?_)
                refine K_callV_v (As := [vR (some b18)]) mcX6_become mlX11_179 rfl (by decide) (sq 2 rfl) (ct6_become G t 2 b18 (by decide) hb18 S17) rfl rfl (Nat.le_of_ble_eq_true rfl) (by decide) (Nat.le_of_ble_eq_true rfl) dX11_shortest_115 (fun q19 S20 => ?_)
                refine J_aload dX11_shortest_118 rfl ?_
                refine J_aload_n dX11_shortest_120 rfl rfl ?_
                refine K_getR (r := some (2)) cf11 flX11_22 (sq 0 rfl) rfl (Or.inl ⟨_, rfl⟩) dX11_shortest_121 ?_
                refine K_callV_i (As := [vR (some 2)]) mcX3_sizeOf mlX11_162 rfl (by decide) (sq3_0 hb3) (ct3_sizeOf G t N b3 2 hb3 (by decide) S20) rfl rfl (Nat.le_of_ble_eq_true rfl) (by decide) (Nat.le_of_ble_eq_true rfl) dX11_shortest_124 (fun q21 S22 => ?_)
                exact J_ireturn rfl (Nat.le_refl _) (Nat.le_refl _) rfl dX11_shortest_127
        · refine J_iconst (v := (-1)) dX11_shortest_28 (by decide) ?_
          exact J_ireturn rfl (Nat.le_refl _) (Nat.le_refl _) rfl dX11_shortest_29
theorem dX11_census_0 : decode cX11_census 0 = .ok (.aload_n 0, 1) := by decide +kernel
theorem dX11_census_1 : decode cX11_census 1 = .ok (.iload_n 1, 1) := by decide +kernel
theorem dX11_census_2 : decode cX11_census 2 = .ok (.invokevirtual 118, 3) := by decide +kernel
theorem dX11_census_5 : decode cX11_census 5 = .ok (.astore 5, 2) := by decide +kernel
theorem dX11_census_7 : decode cX11_census 7 = .ok (.aload 5, 2) := by decide +kernel
theorem dX11_census_9 : decode cX11_census 9 = .ok (.ifnull 29, 3) := by decide +kernel
theorem dX11_census_12 : decode cX11_census 12 = .ok (.iload_n 2, 1) := by decide +kernel
theorem dX11_census_13 : decode cX11_census 13 = .ok (.invokestatic 256, 3) := by decide +kernel
theorem dX11_census_16 : decode cX11_census 16 = .ok (.ifCond .eq 22, 3) := by decide +kernel
theorem dX11_census_19 : decode cX11_census 19 = .ok (.iload_n 3, 1) := by decide +kernel
theorem dX11_census_20 : decode cX11_census 20 = .ok (.invokestatic 183, 3) := by decide +kernel
theorem dX11_census_23 : decode cX11_census 23 = .ok (.ifCond .eq 15, 3) := by decide +kernel
theorem dX11_census_26 : decode cX11_census 26 = .ok (.iload 4, 2) := by decide +kernel
theorem dX11_census_28 : decode cX11_census 28 = .ok (.ifCond .lt 10, 3) := by decide +kernel
theorem dX11_census_31 : decode cX11_census 31 = .ok (.iload 4, 2) := by decide +kernel
theorem dX11_census_33 : decode cX11_census 33 = .ok (.bipush 6, 2) := by decide +kernel
theorem dX11_census_35 : decode cX11_census 35 = .ok (.if_icmp .le 5, 3) := by decide +kernel
theorem dX11_census_38 : decode cX11_census 38 = .ok (.iconst (-1), 1) := by decide +kernel
theorem dX11_census_39 : decode cX11_census 39 = .ok (.ireturn, 1) := by decide +kernel
theorem dX11_census_40 : decode cX11_census 40 = .ok (.aload_n 0, 1) := by decide +kernel
theorem dX11_census_41 : decode cX11_census 41 = .ok (.getfield 90, 3) := by decide +kernel
theorem dX11_census_44 : decode cX11_census 44 = .ok (.aload 5, 2) := by decide +kernel
theorem dX11_census_46 : decode cX11_census 46 = .ok (.iload_n 2, 1) := by decide +kernel
theorem dX11_census_47 : decode cX11_census 47 = .ok (.sipush 1000, 3) := by decide +kernel
theorem dX11_census_50 : decode cX11_census 50 = .ok (.idiv, 1) := by decide +kernel
theorem dX11_census_51 : decode cX11_census 51 = .ok (.iload_n 2, 1) := by decide +kernel
theorem dX11_census_52 : decode cX11_census 52 = .ok (.sipush 1000, 3) := by decide +kernel
theorem dX11_census_55 : decode cX11_census 55 = .ok (.irem, 1) := by decide +kernel
theorem dX11_census_56 : decode cX11_census 56 = .ok (.iload_n 3, 1) := by decide +kernel
theorem dX11_census_57 : decode cX11_census 57 = .ok (.aload_n 0, 1) := by decide +kernel
theorem dX11_census_58 : decode cX11_census 58 = .ok (.getfield 32, 3) := by decide +kernel
theorem dX11_census_61 : decode cX11_census 61 = .ok (.invokevirtual 287, 3) := by decide +kernel
theorem dX11_census_64 : decode cX11_census 64 = .ok (.iload 4, 2) := by decide +kernel
theorem dX11_census_66 : decode cX11_census 66 = .ok (.iconst 4, 1) := by decide +kernel
theorem dX11_census_67 : decode cX11_census 67 = .ok (.if_icmp .ne 27, 3) := by decide +kernel
theorem dX11_census_70 : decode cX11_census 70 = .ok (.aload_n 0, 1) := by decide +kernel
theorem dX11_census_71 : decode cX11_census 71 = .ok (.getfield 90, 3) := by decide +kernel
theorem dX11_census_74 : decode cX11_census 74 = .ok (.invokevirtual 291, 3) := by decide +kernel
theorem dX11_census_77 : decode cX11_census 77 = .ok (.ifCond .le 17, 3) := by decide +kernel
theorem dX11_census_80 : decode cX11_census 80 = .ok (.aload_n 0, 1) := by decide +kernel
theorem dX11_census_81 : decode cX11_census 81 = .ok (.getfield 22, 3) := by decide +kernel
theorem dX11_census_84 : decode cX11_census 84 = .ok (.aload_n 0, 1) := by decide +kernel
theorem dX11_census_85 : decode cX11_census 85 = .ok (.getfield 90, 3) := by decide +kernel
theorem dX11_census_88 : decode cX11_census 88 = .ok (.invokevirtual 294, 3) := by decide +kernel
theorem dX11_census_91 : decode cX11_census 91 = .ok (.invokevirtual 179, 3) := by decide +kernel
theorem dX11_census_94 : decode cX11_census 94 = .ok (.iload 4, 2) := by decide +kernel
theorem dX11_census_96 : decode cX11_census 96 = .ok (.tableswitch 88 0 5 #[40, 48, 56, 64, 72, 80], 40) := by decide +kernel
theorem dX11_census_136 : decode cX11_census 136 = .ok (.aload_n 0, 1) := by decide +kernel
theorem dX11_census_137 : decode cX11_census 137 = .ok (.getfield 90, 3) := by decide +kernel
theorem dX11_census_140 : decode cX11_census 140 = .ok (.invokevirtual 297, 3) := by decide +kernel
theorem dX11_census_143 : decode cX11_census 143 = .ok (.ireturn, 1) := by decide +kernel
theorem dX11_census_144 : decode cX11_census 144 = .ok (.aload_n 0, 1) := by decide +kernel
theorem dX11_census_145 : decode cX11_census 145 = .ok (.getfield 90, 3) := by decide +kernel
theorem dX11_census_148 : decode cX11_census 148 = .ok (.invokevirtual 300, 3) := by decide +kernel
theorem dX11_census_151 : decode cX11_census 151 = .ok (.ireturn, 1) := by decide +kernel
theorem dX11_census_152 : decode cX11_census 152 = .ok (.aload_n 0, 1) := by decide +kernel
theorem dX11_census_153 : decode cX11_census 153 = .ok (.getfield 90, 3) := by decide +kernel
theorem dX11_census_156 : decode cX11_census 156 = .ok (.invokevirtual 303, 3) := by decide +kernel
theorem dX11_census_159 : decode cX11_census 159 = .ok (.ireturn, 1) := by decide +kernel
theorem dX11_census_160 : decode cX11_census 160 = .ok (.aload_n 0, 1) := by decide +kernel
theorem dX11_census_161 : decode cX11_census 161 = .ok (.getfield 90, 3) := by decide +kernel
theorem dX11_census_164 : decode cX11_census 164 = .ok (.invokevirtual 304, 3) := by decide +kernel
theorem dX11_census_167 : decode cX11_census 167 = .ok (.ireturn, 1) := by decide +kernel
theorem dX11_census_168 : decode cX11_census 168 = .ok (.aload_n 0, 1) := by decide +kernel
theorem dX11_census_169 : decode cX11_census 169 = .ok (.getfield 90, 3) := by decide +kernel
theorem dX11_census_172 : decode cX11_census 172 = .ok (.invokevirtual 291, 3) := by decide +kernel
theorem dX11_census_175 : decode cX11_census 175 = .ok (.ireturn, 1) := by decide +kernel
theorem dX11_census_176 : decode cX11_census 176 = .ok (.aload_n 0, 1) := by decide +kernel
theorem dX11_census_177 : decode cX11_census 177 = .ok (.getfield 90, 3) := by decide +kernel
theorem dX11_census_180 : decode cX11_census 180 = .ok (.invokevirtual 307, 3) := by decide +kernel
theorem dX11_census_183 : decode cX11_census 183 = .ok (.ireturn, 1) := by decide +kernel
theorem dX11_census_184 : decode cX11_census 184 = .ok (.aload_n 0, 1) := by decide +kernel
theorem dX11_census_185 : decode cX11_census 185 = .ok (.getfield 90, 3) := by decide +kernel
theorem dX11_census_188 : decode cX11_census 188 = .ok (.iload_n 2, 1) := by decide +kernel
theorem dX11_census_189 : decode cX11_census 189 = .ok (.sipush 1000, 3) := by decide +kernel
theorem dX11_census_192 : decode cX11_census 192 = .ok (.idiv, 1) := by decide +kernel
theorem dX11_census_193 : decode cX11_census 193 = .ok (.invokevirtual 310, 3) := by decide +kernel
theorem dX11_census_196 : decode cX11_census 196 = .ok (.ireturn, 1) := by decide +kernel
set_option maxRecDepth 100000 in
set_option maxHeartbeats 4000000 in
theorem t11_census_j94 (G : Gm) (t : Nat) (N : Nat) (x2 : Int32) (x4 : Int32)    : ∀  (S : St), J G YX11_census 7 0 0 (fI t) 0 0 94 [some (vR (some 0)), none, some (vI x2), none, some (vI x4), none] [] (MM t S) (f11_census_j94 N x2 x4 S) := by
  intro S
  unfold f11_census_j94
  refine J_iload dX11_census_94 rfl ?_
  refine J_table (td := 184) _ dX11_census_96 (fun z h1 h2 => cov_of (lo := (0)) (N := 6) (ks := [nI 0, nI 1, nI 2, nI 3, nI 4, nI 5]) (by decide) z h1 (by omega)) ?_ (by decide) ?_
  · refine List.forall_mem_cons.mpr ⟨tb_mk (o := 40) (tgt := 136) (by decide) (fun _ => ?_), ?_⟩
    · refine J_aload_n dX11_census_136 rfl rfl ?_
      refine K_getR (r := some (32)) cf11 flX11_90 (sq 0 rfl) rfl (Or.inl ⟨_, rfl⟩) dX11_census_137 ?_
      refine K_callV_i (As := []) mcX2_programs mlX11_297 rfl (by decide) (sq 32 rfl) (ct2_programs G t S) rfl rfl (Nat.le_of_ble_eq_true rfl) (by decide) (Nat.le_of_ble_eq_true rfl) dX11_census_140 (fun q1 S2 => ?_)
      exact J_ireturn rfl (Nat.le_refl _) (Nat.le_refl _) rfl dX11_census_143
    · refine List.forall_mem_cons.mpr ⟨tb_mk (o := 48) (tgt := 144) (by decide) (fun _ => ?_), ?_⟩
      · refine J_aload_n dX11_census_144 rfl rfl ?_
        refine K_getR (r := some (32)) cf11 flX11_90 (sq 0 rfl) rfl (Or.inl ⟨_, rfl⟩) dX11_census_145 ?_
        refine K_callV_i (As := []) mcX2_ended mlX11_300 rfl (by decide) (sq 32 rfl) (ct2_ended G t S) rfl rfl (Nat.le_of_ble_eq_true rfl) (by decide) (Nat.le_of_ble_eq_true rfl) dX11_census_148 (fun q3 S4 => ?_)
        exact J_ireturn rfl (Nat.le_refl _) (Nat.le_refl _) rfl dX11_census_151
      · refine List.forall_mem_cons.mpr ⟨tb_mk (o := 56) (tgt := 152) (by decide) (fun _ => ?_), ?_⟩
        · refine J_aload_n dX11_census_152 rfl rfl ?_
          refine K_getR (r := some (32)) cf11 flX11_90 (sq 0 rfl) rfl (Or.inl ⟨_, rfl⟩) dX11_census_153 ?_
          refine K_callV_i (As := []) mcX2_hanging mlX11_303 rfl (by decide) (sq 32 rfl) (ct2_hanging G t S) rfl rfl (Nat.le_of_ble_eq_true rfl) (by decide) (Nat.le_of_ble_eq_true rfl) dX11_census_156 (fun q5 S6 => ?_)
          exact J_ireturn rfl (Nat.le_refl _) (Nat.le_refl _) rfl dX11_census_159
        · refine List.forall_mem_cons.mpr ⟨tb_mk (o := 64) (tgt := 160) (by decide) (fun _ => ?_), ?_⟩
          · refine J_aload_n dX11_census_160 rfl rfl ?_
            refine K_getR (r := some (32)) cf11 flX11_90 (sq 0 rfl) rfl (Or.inl ⟨_, rfl⟩) dX11_census_161 ?_
            refine K_callV_i (As := []) mcX2_unsettled mlX11_304 rfl (by decide) (sq 32 rfl) (ct2_unsettled G t S) rfl rfl (Nat.le_of_ble_eq_true rfl) (by decide) (Nat.le_of_ble_eq_true rfl) dX11_census_164 (fun q7 S8 => ?_)
            exact J_ireturn rfl (Nat.le_refl _) (Nat.le_refl _) rfl dX11_census_167
          · refine List.forall_mem_cons.mpr ⟨tb_mk (o := 72) (tgt := 168) (by decide) (fun _ => ?_), ?_⟩
            · refine J_aload_n dX11_census_168 rfl rfl ?_
              refine K_getR (r := some (32)) cf11 flX11_90 (sq 0 rfl) rfl (Or.inl ⟨_, rfl⟩) dX11_census_169 ?_
              refine K_callV_i (As := []) mcX2_mostSteps mlX11_291 rfl (by decide) (sq 32 rfl) (ct2_mostSteps G t S) rfl rfl (Nat.le_of_ble_eq_true rfl) (by decide) (Nat.le_of_ble_eq_true rfl) dX11_census_172 (fun q9 S10 => ?_)
              exact J_ireturn rfl (Nat.le_refl _) (Nat.le_refl _) rfl dX11_census_175
            · refine List.forall_mem_cons.mpr ⟨tb_mk (o := 80) (tgt := 176) (by decide) (fun _ => ?_), ?_⟩
              · refine J_aload_n dX11_census_176 rfl rfl ?_
                refine K_getR (r := some (32)) cf11 flX11_90 (sq 0 rfl) rfl (Or.inl ⟨_, rfl⟩) dX11_census_177 ?_
                refine K_callV_i (As := []) mcX2_share mlX11_307 rfl (by decide) (sq 32 rfl) (ct2_share G t S) rfl rfl (Nat.le_of_ble_eq_true rfl) (by decide) (Nat.le_of_ble_eq_true rfl) dX11_census_180 (fun q11 S12 => ?_)
                exact J_ireturn rfl (Nat.le_refl _) (Nat.le_refl _) rfl dX11_census_183
              · exact fun _ h => absurd h List.not_mem_nil
  · refine J_aload_n dX11_census_184 rfl rfl ?_
    refine K_getR (r := some (32)) cf11 flX11_90 (sq 0 rfl) rfl (Or.inl ⟨_, rfl⟩) dX11_census_185 ?_
    refine J_iload_n dX11_census_188 rfl rfl ?_
    refine J_sipush (v := nI 1000) dX11_census_189 (by decide) ?_
    refine J_idiv (by decide) dX11_census_192 ?_
    refine K_callV_i (As := [vI (x2 / (nI 1000))]) mcX2_sureBits mlX11_310 rfl (by decide) (sq 32 rfl) (ct2_sureBits G t N (x2 / (nI 1000)) S) rfl rfl (Nat.le_of_ble_eq_true rfl) (by decide) (Nat.le_of_ble_eq_true rfl) dX11_census_193 (fun q13 S14 => ?_)
    exact J_ireturn rfl (Nat.le_refl _) (Nat.le_refl _) rfl dX11_census_196
set_option maxRecDepth 100000 in
set_option maxHeartbeats 4000000 in
theorem ct11_census (G : Gm) (t : Nat) (N : Nat) (x1 : Int32) (x2 : Int32) (x3 : Int32) (x4 : Int32)  (S : St) : Ct G YX11_census yX11_census 7 0 0 (fI t) (f11_census N x1 x2 x3 x4 S) [vR (some 0), vI x1, vI x2, vI x3, vI x4] (MM t S) := by
  refine Ct_of_J [some (vR (some 0)), some (vI x1), some (vI x2), some (vI x3), some (vI x4), none] (by decide) rfl (fun h => by cases h) (Nat.le_of_ble_eq_true rfl) (And.intro rfl (And.intro rfl (And.intro rfl (And.intro rfl (And.intro rfl (trivial)))))) ?_
  unfold f11_census
  refine J_aload_n dX11_census_0 rfl rfl ?_
  refine J_iload_n dX11_census_1 rfl rfl ?_
  refine K_callV_r (As := [vI x1]) mcX11_languageAt mlX11_118 rfl (by decide) (sq 0 rfl) (ct11_languageAt G t x1 S) rfl rfl (Nat.le_of_ble_eq_true rfl) (by decide) (Nat.le_of_ble_eq_true rfl) dX11_census_2 (fun q1 S2 => ?_)
  refine J_astore [some (vR (some 0)), some (vI x1), some (vI x2), some (vI x3), some (vI x4), some (vR q1)] dX11_census_5 (Nat.le_of_ble_eq_true rfl) rfl rfl ?_
  refine J_aload dX11_census_7 rfl ?_
  refine J_ifnull (tgt := 38) dX11_census_9 (by decide) (fun hr => ?_) (fun b3 hr => ?_)
  · subst hr
    refine J_iconst (v := (-1)) dX11_census_38 (by decide) ?_
    exact J_ireturn rfl (Nat.le_refl _) (Nat.le_refl _) rfl dX11_census_39
  · subst hr
    refine J_ckA (fun hb3 => ?_)
    refine J_iload_n dX11_census_12 rfl rfl ?_
    refine K_callS_i (As := [vI x2]) mcX11_isSizeAndSteps mlX11_256 (ct11_isSizeAndSteps G t x2 S2) rfl rfl (Nat.le_of_ble_eq_true rfl) (by decide) (Nat.le_of_ble_eq_true rfl) dX11_census_13 (fun q4 S5 => ?_)
    refine J_if_eq (tgt := 38) dX11_census_16 (by decide) (fun z6 => ?_) (fun z6 => ?_)
    · refine J_iconst (v := (-1)) dX11_census_38 (by decide) ?_
      exact J_ireturn rfl (Nat.le_refl _) (Nat.le_refl _) rfl dX11_census_39
    · refine J_iload_n dX11_census_19 rfl rfl ?_
      refine K_callS_i (As := [vI x3]) mcX11_isNumber mlX11_183 (ct11_isNumber G t x3 S5) rfl rfl (Nat.le_of_ble_eq_true rfl) (by decide) (Nat.le_of_ble_eq_true rfl) dX11_census_20 (fun q7 S8 => ?_)
      refine J_if_eq (tgt := 38) dX11_census_23 (by decide) (fun z9 => ?_) (fun z9 => ?_)
      · refine J_iconst (v := (-1)) dX11_census_38 (by decide) ?_
        exact J_ireturn rfl (Nat.le_refl _) (Nat.le_refl _) rfl dX11_census_39
      · refine J_iload dX11_census_26 rfl ?_
        refine J_if_lt (tgt := 38) dX11_census_28 (by decide) (fun z10 => ?_) (fun z10 => ?_)
        · refine J_iconst (v := (-1)) dX11_census_38 (by decide) ?_
          exact J_ireturn rfl (Nat.le_refl _) (Nat.le_refl _) rfl dX11_census_39
        · refine J_iload dX11_census_31 rfl ?_
          refine J_bipush (v := nI 6) dX11_census_33 (by decide) ?_
          refine J_icmp_le (tgt := 40) dX11_census_35 (by decide) (fun z11 => ?_) (fun z11 => ?_)
          · refine J_aload_n dX11_census_40 rfl rfl ?_
            refine K_getR (r := some (32)) cf11 flX11_90 (sq 0 rfl) rfl (Or.inl ⟨_, rfl⟩) dX11_census_41 ?_
            refine J_aload dX11_census_44 rfl ?_
            refine J_iload_n dX11_census_46 rfl rfl ?_
            refine J_sipush (v := nI 1000) dX11_census_47 (by decide) ?_
            refine J_idiv (by decide) dX11_census_50 ?_
            refine J_iload_n dX11_census_51 rfl rfl ?_
            refine J_sipush (v := nI 1000) dX11_census_52 (by decide) ?_
            refine J_irem (by decide) dX11_census_55 ?_
            refine J_iload_n dX11_census_56 rfl rfl ?_
            refine J_aload_n dX11_census_57 rfl rfl ?_
            refine K_getR (r := some (6)) cf11 flX11_32 (sq 0 rfl) rfl (Or.inl ⟨_, rfl⟩) dX11_census_58 ?_
            refine K_callV_v (As := [vR (some b3), vI (x2 / (nI 1000)), vI (remI x2 (nI 1000)), vI x3, vR (some 6)]) mcX2_take mlX11_287 rfl (by decide) (sq 32 rfl) (ct2_take G t N b3 (x2 / (nI 1000)) (remI x2 (nI 1000)) x3 hb3 S8) rfl rfl (Nat.le_of_ble_eq_true rfl) (by decide) (Nat.le_of_ble_eq_true rfl) dX11_census_61 (fun q12 S13 => ?_)
            refine J_iload dX11_census_64 rfl ?_
            refine J_iconst (v := nI 4) dX11_census_66 (by decide) ?_
            refine J_icmp_ne (tgt := 94) dX11_census_67 (by decide) (fun z14 => ?_) (fun z14 => ?_)
            · refine J_aload_n dX11_census_70 rfl rfl ?_
              refine K_getR (r := some (32)) cf11 flX11_90 (sq 0 rfl) rfl (Or.inl ⟨_, rfl⟩) dX11_census_71 ?_
              refine K_callV_i (As := []) mcX2_mostSteps mlX11_291 rfl (by decide) (sq 32 rfl) (ct2_mostSteps G t S13) rfl rfl (Nat.le_of_ble_eq_true rfl) (by decide) (Nat.le_of_ble_eq_true rfl) dX11_census_74 (fun q15 S16 => ?_)
              refine J_if_le (tgt := 94) dX11_census_77 (by decide) (fun z17 => ?_) (fun z17 => ?_)
              · exact J_sb (t11_census_j94 G t N x2 x4 S16) (And.intro rfl (And.intro rfl (And.intro rfl (trivial))))
              · refine J_aload_n dX11_census_80 rfl rfl ?_
                refine K_getR (r := some (2)) cf11 flX11_22 (sq 0 rfl) rfl (Or.inl ⟨_, rfl⟩) dX11_census_81 ?_
                refine J_aload_n dX11_census_84 rfl rfl ?_
                refine K_getR (r := some (32)) cf11 flX11_90 (sq 0 rfl) rfl (Or.inl ⟨_, rfl⟩) dX11_census_85 ?_
                refine K_callV_r (As := []) mcX2_slowest mlX11_294 rfl (by decide) (sq 32 rfl) (ct2_slowest G t S16) rfl rfl (Nat.le_of_ble_eq_true rfl) (by decide) (Nat.le_of_ble_eq_true rfl) dX11_census_88 (fun q18 S19 => ?_)
                refine J_onR (fun b20 hr => ?_)
                subst hr
                refine J_ckA (fun hb20 => ?_)
                refine K_callV_v (As := [vR (some b20)]) mcX6_become mlX11_179 rfl (by decide) (sq 2 rfl) (ct6_become G t 2 b20 (by decide) hb20 S19) rfl rfl (Nat.le_of_ble_eq_true rfl) (by decide) (Nat.le_of_ble_eq_true rfl) dX11_census_91 (fun q21 S22 => ?_)
                exact J_sb (t11_census_j94 G t N x2 x4 S22) (And.intro rfl (And.intro rfl (And.intro rfl (trivial))))
            · exact J_sb (t11_census_j94 G t N x2 x4 S13) (And.intro rfl (And.intro rfl (And.intro rfl (trivial))))
          · refine J_iconst (v := (-1)) dX11_census_38 (by decide) ?_
            exact J_ireturn rfl (Nat.le_refl _) (Nat.le_refl _) rfl dX11_census_39
theorem dX11_helped_0 : decode cX11_helped 0 = .ok (.aload_n 0, 1) := by decide +kernel
theorem dX11_helped_1 : decode cX11_helped 1 = .ok (.iload_n 1, 1) := by decide +kernel
theorem dX11_helped_2 : decode cX11_helped 2 = .ok (.invokevirtual 118, 3) := by decide +kernel
theorem dX11_helped_5 : decode cX11_helped 5 = .ok (.astore_n 2, 1) := by decide +kernel
theorem dX11_helped_6 : decode cX11_helped 6 = .ok (.aload_n 2, 1) := by decide +kernel
theorem dX11_helped_7 : decode cX11_helped 7 = .ok (.ifnonnull 5, 3) := by decide +kernel
theorem dX11_helped_10 : decode cX11_helped 10 = .ok (.iconst (-1), 1) := by decide +kernel
theorem dX11_helped_11 : decode cX11_helped 11 = .ok (.ireturn, 1) := by decide +kernel
theorem dX11_helped_12 : decode cX11_helped 12 = .ok (.aload_n 2, 1) := by decide +kernel
theorem dX11_helped_13 : decode cX11_helped 13 = .ok (.aload_n 0, 1) := by decide +kernel
theorem dX11_helped_14 : decode cX11_helped 14 = .ok (.getfield 22, 3) := by decide +kernel
theorem dX11_helped_17 : decode cX11_helped 17 = .ok (.invokevirtual 162, 3) := by decide +kernel
theorem dX11_helped_20 : decode cX11_helped 20 = .ok (.ifCond .ge 6, 3) := by decide +kernel
theorem dX11_helped_23 : decode cX11_helped 23 = .ok (.bipush (-5), 2) := by decide +kernel
theorem dX11_helped_25 : decode cX11_helped 25 = .ok (.ireturn, 1) := by decide +kernel
theorem dX11_helped_26 : decode cX11_helped 26 = .ok (.aload_n 0, 1) := by decide +kernel
theorem dX11_helped_27 : decode cX11_helped 27 = .ok (.getfield 15, 3) := by decide +kernel
theorem dX11_helped_30 : decode cX11_helped 30 = .ok (.bipush 6, 2) := by decide +kernel
theorem dX11_helped_32 : decode cX11_helped 32 = .ok (.if_icmp .lt 6, 3) := by decide +kernel
theorem dX11_helped_35 : decode cX11_helped 35 = .ok (.bipush (-3), 2) := by decide +kernel
theorem dX11_helped_37 : decode cX11_helped 37 = .ok (.ireturn, 1) := by decide +kernel
theorem dX11_helped_38 : decode cX11_helped 38 = .ok (.aload_n 0, 1) := by decide +kernel
theorem dX11_helped_39 : decode cX11_helped 39 = .ok (.getfield 11, 3) := by decide +kernel
theorem dX11_helped_42 : decode cX11_helped 42 = .ok (.aload_n 0, 1) := by decide +kernel
theorem dX11_helped_43 : decode cX11_helped 43 = .ok (.getfield 15, 3) := by decide +kernel
theorem dX11_helped_46 : decode cX11_helped 46 = .ok (.aaload, 1) := by decide +kernel
theorem dX11_helped_47 : decode cX11_helped 47 = .ok (.aload_n 2, 1) := by decide +kernel
theorem dX11_helped_48 : decode cX11_helped 48 = .ok (.aload_n 0, 1) := by decide +kernel
theorem dX11_helped_49 : decode cX11_helped 49 = .ok (.getfield 22, 3) := by decide +kernel
theorem dX11_helped_52 : decode cX11_helped 52 = .ok (.invokevirtual 313, 3) := by decide +kernel
theorem dX11_helped_55 : decode cX11_helped 55 = .ok (.aload_n 0, 1) := by decide +kernel
theorem dX11_helped_56 : decode cX11_helped 56 = .ok (.dup, 1) := by decide +kernel
theorem dX11_helped_57 : decode cX11_helped 57 = .ok (.getfield 15, 3) := by decide +kernel
theorem dX11_helped_60 : decode cX11_helped 60 = .ok (.iconst 1, 1) := by decide +kernel
theorem dX11_helped_61 : decode cX11_helped 61 = .ok (.iadd, 1) := by decide +kernel
theorem dX11_helped_62 : decode cX11_helped 62 = .ok (.putfield 15, 3) := by decide +kernel
theorem dX11_helped_65 : decode cX11_helped 65 = .ok (.aload_n 0, 1) := by decide +kernel
theorem dX11_helped_66 : decode cX11_helped 66 = .ok (.getfield 15, 3) := by decide +kernel
theorem dX11_helped_69 : decode cX11_helped 69 = .ok (.iconst 1, 1) := by decide +kernel
theorem dX11_helped_70 : decode cX11_helped 70 = .ok (.isub, 1) := by decide +kernel
theorem dX11_helped_71 : decode cX11_helped 71 = .ok (.ireturn, 1) := by decide +kernel
set_option maxRecDepth 100000 in
set_option maxHeartbeats 4000000 in
theorem ct11_helped (G : Gm) (t : Nat) (N : Nat) (x1 : Int32)  (S : St) : Ct G YX11_helped yX11_helped 5 0 0 (fI t) (f11_helped N x1 S) [vR (some 0), vI x1] (MM t S) := by
  refine Ct_of_J [some (vR (some 0)), some (vI x1), none] (by decide) rfl (fun h => by cases h) (Nat.le_of_ble_eq_true rfl) (And.intro rfl (And.intro rfl (trivial))) ?_
  unfold f11_helped
  refine J_aload_n dX11_helped_0 rfl rfl ?_
  refine J_iload_n dX11_helped_1 rfl rfl ?_
  refine K_callV_r (As := [vI x1]) mcX11_languageAt mlX11_118 rfl (by decide) (sq 0 rfl) (ct11_languageAt G t x1 S) rfl rfl (Nat.le_of_ble_eq_true rfl) (by decide) (Nat.le_of_ble_eq_true rfl) dX11_helped_2 (fun q1 S2 => ?_)
  refine J_astore_n [some (vR (some 0)), some (vI x1), some (vR q1)] dX11_helped_5 rfl (Nat.le_of_ble_eq_true rfl) rfl rfl ?_
  refine J_aload_n dX11_helped_6 rfl rfl ?_
  refine J_ifnonnull (tgt := 12) dX11_helped_7 (by decide) (fun hr => ?_) (fun b3 hr => ?_)
  · subst hr
    refine J_iconst (v := (-1)) dX11_helped_10 (by decide) ?_
    exact J_ireturn rfl (Nat.le_refl _) (Nat.le_refl _) rfl dX11_helped_11
  · subst hr
    refine J_ckA (fun hb3 => ?_)
    refine J_aload_n dX11_helped_12 rfl rfl ?_
    refine J_aload_n dX11_helped_13 rfl rfl ?_
    refine K_getR (r := some (2)) cf11 flX11_22 (sq 0 rfl) rfl (Or.inl ⟨_, rfl⟩) dX11_helped_14 ?_
    refine K_callV_i (As := [vR (some 2)]) mcX3_sizeOf mlX11_162 rfl (by decide) (sq3_0 hb3) (ct3_sizeOf G t N b3 2 hb3 (by decide) S2) rfl rfl (Nat.le_of_ble_eq_true rfl) (by decide) (Nat.le_of_ble_eq_true rfl) dX11_helped_17 (fun q4 S5 => ?_)
    refine J_if_ge (tgt := 26) dX11_helped_20 (by decide) (fun z6 => ?_) (fun z6 => ?_)
    · refine J_aload_n dX11_helped_26 rfl rfl ?_
      refine K_getI cf11 flX11_15 (sq 0 rfl) (Or.inl rfl) dX11_helped_27 ?_
      refine J_bipush (v := nI 6) dX11_helped_30 (by decide) ?_
      refine J_icmp_lt (tgt := 38) dX11_helped_32 (by decide) (fun z7 => ?_) (fun z7 => ?_)
      · refine J_aload_n dX11_helped_38 rfl rfl ?_
        refine K_getR (r := some (1)) cf11 flX11_11 (sq 0 rfl) rfl (Or.inr ⟨_, rfl⟩) dX11_helped_39 ?_
        refine J_aload_n dX11_helped_42 rfl rfl ?_
        refine K_getI cf11 flX11_15 (sq 0 rfl) (Or.inl rfl) dX11_helped_43 ?_
        refine K_aald (f := fun j => some (50 + 11 * j)) (sq 1 rfl) (by decide) (aq1) dX11_helped_46 (fun i8 => ?_)
        refine J_aload_n dX11_helped_47 rfl rfl ?_
        refine J_aload_n dX11_helped_48 rfl rfl ?_
        refine K_getR (r := some (2)) cf11 flX11_22 (sq 0 rfl) rfl (Or.inl ⟨_, rfl⟩) dX11_helped_49 ?_
        refine K_callV_v (As := [vR (some b3), vR (some 2)]) mcX3_beHelped mlX11_313 rfl (by decide) (sq3_0 (am1 i8)) (ct3_beHelped G t N (50 + 11 * (S5.1 0 1).toNatClampNeg) b3 2 (am1 i8) hb3 (by decide) S5) rfl rfl (Nat.le_of_ble_eq_true rfl) (by decide) (Nat.le_of_ble_eq_true rfl) dX11_helped_52 (fun q9 S10 => ?_)
        refine J_aload_n dX11_helped_55 rfl rfl ?_
        refine J_dup dX11_helped_56 rfl ?_
        refine K_getI cf11 flX11_15 (sq 0 rfl) (Or.inl rfl) dX11_helped_57 ?_
        refine J_iconst (v := nI 1) dX11_helped_60 (by decide) ?_
        refine J_iadd dX11_helped_61 ?_
        refine K_putI cf11 flX11_15 (sq 0 rfl) rfl dX11_helped_62 ?_
        refine J_ltS (fun S11 _ => ?_)
        refine J_aload_n dX11_helped_65 rfl rfl ?_
        refine K_getI cf11 flX11_15 (sq 0 rfl) (Or.inl rfl) dX11_helped_66 ?_
        refine J_iconst (v := nI 1) dX11_helped_69 (by decide) ?_
        refine J_isub dX11_helped_70 ?_
        exact J_ireturn rfl (Nat.le_refl _) (Nat.le_refl _) rfl dX11_helped_71
      · refine J_bipush (v := (-3)) dX11_helped_35 (by decide) ?_
        exact J_ireturn rfl (Nat.le_refl _) (Nat.le_refl _) rfl dX11_helped_37
    · refine J_bipush (v := (-5)) dX11_helped_23 (by decide) ?_
      exact J_ireturn rfl (Nat.le_refl _) (Nat.le_refl _) rfl dX11_helped_25
theorem dX11_isPart_0 : decode cX11_isPart 0 = .ok (.iload_n 1, 1) := by decide +kernel
theorem dX11_isPart_1 : decode cX11_isPart 1 = .ok (.ifCond .lt 33, 3) := by decide +kernel
theorem dX11_isPart_4 : decode cX11_isPart 4 = .ok (.iload_n 2, 1) := by decide +kernel
theorem dX11_isPart_5 : decode cX11_isPart 5 = .ok (.iload_n 1, 1) := by decide +kernel
theorem dX11_isPart_6 : decode cX11_isPart 6 = .ok (.if_icmp .lt 28, 3) := by decide +kernel
theorem dX11_isPart_9 : decode cX11_isPart 9 = .ok (.iload_n 2, 1) := by decide +kernel
theorem dX11_isPart_10 : decode cX11_isPart 10 = .ok (.aload_n 0, 1) := by decide +kernel
theorem dX11_isPart_11 : decode cX11_isPart 11 = .ok (.getfield 22, 3) := by decide +kernel
theorem dX11_isPart_14 : decode cX11_isPart 14 = .ok (.invokevirtual 146, 3) := by decide +kernel
theorem dX11_isPart_17 : decode cX11_isPart 17 = .ok (.if_icmp .ge 17, 3) := by decide +kernel
theorem dX11_isPart_20 : decode cX11_isPart 20 = .ok (.iload_n 2, 1) := by decide +kernel
theorem dX11_isPart_21 : decode cX11_isPart 21 = .ok (.iload_n 1, 1) := by decide +kernel
theorem dX11_isPart_22 : decode cX11_isPart 22 = .ok (.isub, 1) := by decide +kernel
theorem dX11_isPart_23 : decode cX11_isPart 23 = .ok (.iconst 1, 1) := by decide +kernel
theorem dX11_isPart_24 : decode cX11_isPart 24 = .ok (.if_icmp .lt 10, 3) := by decide +kernel
theorem dX11_isPart_27 : decode cX11_isPart 27 = .ok (.iload_n 2, 1) := by decide +kernel
theorem dX11_isPart_28 : decode cX11_isPart 28 = .ok (.iload_n 1, 1) := by decide +kernel
theorem dX11_isPart_29 : decode cX11_isPart 29 = .ok (.isub, 1) := by decide +kernel
theorem dX11_isPart_30 : decode cX11_isPart 30 = .ok (.iconst 3, 1) := by decide +kernel
theorem dX11_isPart_31 : decode cX11_isPart 31 = .ok (.if_icmp .le 5, 3) := by decide +kernel
theorem dX11_isPart_34 : decode cX11_isPart 34 = .ok (.iconst 0, 1) := by decide +kernel
theorem dX11_isPart_35 : decode cX11_isPart 35 = .ok (.ireturn, 1) := by decide +kernel
theorem dX11_isPart_36 : decode cX11_isPart 36 = .ok (.iload_n 1, 1) := by decide +kernel
theorem dX11_isPart_37 : decode cX11_isPart 37 = .ok (.istore_n 3, 1) := by decide +kernel
theorem dX11_isPart_38 : decode cX11_isPart 38 = .ok (.iload_n 3, 1) := by decide +kernel
theorem dX11_isPart_39 : decode cX11_isPart 39 = .ok (.iload_n 2, 1) := by decide +kernel
theorem dX11_isPart_40 : decode cX11_isPart 40 = .ok (.if_icmp .gt 35, 3) := by decide +kernel
theorem dX11_isPart_43 : decode cX11_isPart 43 = .ok (.aload_n 0, 1) := by decide +kernel
theorem dX11_isPart_44 : decode cX11_isPart 44 = .ok (.getfield 22, 3) := by decide +kernel
theorem dX11_isPart_47 : decode cX11_isPart 47 = .ok (.iload_n 3, 1) := by decide +kernel
theorem dX11_isPart_48 : decode cX11_isPart 48 = .ok (.invokevirtual 159, 3) := by decide +kernel
theorem dX11_isPart_51 : decode cX11_isPart 51 = .ok (.ifCond .eq 16, 3) := by decide +kernel
theorem dX11_isPart_54 : decode cX11_isPart 54 = .ok (.aload_n 0, 1) := by decide +kernel
theorem dX11_isPart_55 : decode cX11_isPart 55 = .ok (.getfield 22, 3) := by decide +kernel
theorem dX11_isPart_58 : decode cX11_isPart 58 = .ok (.iload_n 3, 1) := by decide +kernel
theorem dX11_isPart_59 : decode cX11_isPart 59 = .ok (.invokevirtual 159, 3) := by decide +kernel
theorem dX11_isPart_62 : decode cX11_isPart 62 = .ok (.bipush 8, 2) := by decide +kernel
theorem dX11_isPart_64 : decode cX11_isPart 64 = .ok (.if_icmp .lt 5, 3) := by decide +kernel
theorem dX11_isPart_67 : decode cX11_isPart 67 = .ok (.iconst 0, 1) := by decide +kernel
theorem dX11_isPart_68 : decode cX11_isPart 68 = .ok (.ireturn, 1) := by decide +kernel
theorem dX11_isPart_69 : decode cX11_isPart 69 = .ok (.iinc 3 1, 3) := by decide +kernel
theorem dX11_isPart_72 : decode cX11_isPart 72 = .ok (.goto (-34), 3) := by decide +kernel
theorem dX11_isPart_75 : decode cX11_isPart 75 = .ok (.iconst 1, 1) := by decide +kernel
theorem dX11_isPart_76 : decode cX11_isPart 76 = .ok (.ireturn, 1) := by decide +kernel
set_option maxRecDepth 100000 in
set_option maxHeartbeats 4000000 in
theorem t11_isPart_h38 (G : Gm) (t : Nat) (N : Nat) (x2 : Int32)    : ∀ (n : Nat) (x3 : Int32) (S : St), J G YX11_isPart 2 0 0 (fI t) 0 0 38 [some (vR (some 0)), none, some (vI x2), some (vI x3)] [] (MM t S) (f11_isPart_h38 N x2 n x3 S) := by
  intro n
  induction n with
  | zero => intro x3 S; exact J_none
  | succ n ih =>
    intro x3 S
    rw [f11_isPart_h38]
    refine J_iload_n dX11_isPart_38 rfl rfl ?_
    refine J_iload_n dX11_isPart_39 rfl rfl ?_
    refine J_icmp_gt (tgt := 75) dX11_isPart_40 (by decide) (fun z1 => ?_) (fun z1 => ?_)
    · refine J_iconst (v := nI 1) dX11_isPart_75 (by decide) ?_
      exact J_zreturn (by decide) rfl (Nat.le_refl _) (Nat.le_refl _) rfl dX11_isPart_76
    · refine J_aload_n dX11_isPart_43 rfl rfl ?_
      refine K_getR (r := some (2)) cf11 flX11_22 (sq 0 rfl) rfl (Or.inl ⟨_, rfl⟩) dX11_isPart_44 ?_
      refine J_iload_n dX11_isPart_47 rfl rfl ?_
      refine K_callV_i (As := [vI x3]) mcX6_orderAt mlX11_159 rfl (by decide) (sq 2 rfl) (ct6_orderAt G t 2 x3 (by decide) S) rfl rfl (Nat.le_of_ble_eq_true rfl) (by decide) (Nat.le_of_ble_eq_true rfl) dX11_isPart_48 (fun q2 S3 => ?_)
      refine J_if_eq (tgt := 67) dX11_isPart_51 (by decide) (fun z4 => ?_) (fun z4 => ?_)
      · refine J_iconst (v := nI 0) dX11_isPart_67 (by decide) ?_
        exact J_zreturn (by decide) rfl (Nat.le_refl _) (Nat.le_refl _) rfl dX11_isPart_68
      · refine J_aload_n dX11_isPart_54 rfl rfl ?_
        refine K_getR (r := some (2)) cf11 flX11_22 (sq 0 rfl) rfl (Or.inl ⟨_, rfl⟩) dX11_isPart_55 ?_
        refine J_iload_n dX11_isPart_58 rfl rfl ?_
        refine K_callV_i (As := [vI x3]) mcX6_orderAt mlX11_159 rfl (by decide) (sq 2 rfl) (ct6_orderAt G t 2 x3 (by decide) S3) rfl rfl (Nat.le_of_ble_eq_true rfl) (by decide) (Nat.le_of_ble_eq_true rfl) dX11_isPart_59 (fun q5 S6 => ?_)
        refine J_bipush (v := nI 8) dX11_isPart_62 (by decide) ?_
        refine J_icmp_lt (tgt := 69) dX11_isPart_64 (by decide) (fun z7 => ?_) (fun z7 => ?_)
        · refine J_iinc (v := x3 + nI 1) [some (vR (some 0)), none, some (vI x2), some (vI (x3 + nI 1))] dX11_isPart_69 rfl rfl (Nat.le_of_ble_eq_true rfl) rfl rfl ?_
          refine J_goto (tgt := 38) dX11_isPart_72 (by decide) ?_
          exact J_sb (ih (x3 + nI 1) S6) (And.intro rfl (And.intro rfl (And.intro rfl (trivial))))
        · refine J_iconst (v := nI 0) dX11_isPart_67 (by decide) ?_
          exact J_zreturn (by decide) rfl (Nat.le_refl _) (Nat.le_refl _) rfl dX11_isPart_68
set_option maxRecDepth 100000 in
set_option maxHeartbeats 4000000 in
theorem ct11_isPart (G : Gm) (t : Nat) (N : Nat) (x1 : Int32) (x2 : Int32)  (S : St) : Ct G YX11_isPart yX11_isPart 2 0 0 (fI t) (f11_isPart N x1 x2 S) [vR (some 0), vI x1, vI x2] (MM t S) := by
  refine Ct_of_J [some (vR (some 0)), some (vI x1), some (vI x2), none] (by decide) rfl (fun h => by cases h) (Nat.le_of_ble_eq_true rfl) (And.intro rfl (And.intro rfl (And.intro rfl (trivial)))) ?_
  unfold f11_isPart
  refine J_iload_n dX11_isPart_0 rfl rfl ?_
  refine J_if_lt (tgt := 34) dX11_isPart_1 (by decide) (fun z1 => ?_) (fun z1 => ?_)
  · refine J_iconst (v := nI 0) dX11_isPart_34 (by decide) ?_
    exact J_zreturn (by decide) rfl (Nat.le_refl _) (Nat.le_refl _) rfl dX11_isPart_35
  · refine J_iload_n dX11_isPart_4 rfl rfl ?_
    refine J_iload_n dX11_isPart_5 rfl rfl ?_
    refine J_icmp_lt (tgt := 34) dX11_isPart_6 (by decide) (fun z2 => ?_) (fun z2 => ?_)
    · refine J_iconst (v := nI 0) dX11_isPart_34 (by decide) ?_
      exact J_zreturn (by decide) rfl (Nat.le_refl _) (Nat.le_refl _) rfl dX11_isPart_35
    · refine J_iload_n dX11_isPart_9 rfl rfl ?_
      refine J_aload_n dX11_isPart_10 rfl rfl ?_
      refine K_getR (r := some (2)) cf11 flX11_22 (sq 0 rfl) rfl (Or.inl ⟨_, rfl⟩) dX11_isPart_11 ?_
      refine K_callV_i (As := []) mcX6_length mlX11_146 rfl (by decide) (sq 2 rfl) (ct6_length G t 2 (by decide) S) rfl rfl (Nat.le_of_ble_eq_true rfl) (by decide) (Nat.le_of_ble_eq_true rfl) dX11_isPart_14 (fun q3 S4 => ?_)
      refine J_icmp_ge (tgt := 34) dX11_isPart_17 (by decide) (fun z5 => ?_) (fun z5 => ?_)
      · refine J_iconst (v := nI 0) dX11_isPart_34 (by decide) ?_
        exact J_zreturn (by decide) rfl (Nat.le_refl _) (Nat.le_refl _) rfl dX11_isPart_35
      · refine J_iload_n dX11_isPart_20 rfl rfl ?_
        refine J_iload_n dX11_isPart_21 rfl rfl ?_
        refine J_isub dX11_isPart_22 ?_
        refine J_iconst (v := nI 1) dX11_isPart_23 (by decide) ?_
        refine J_icmp_lt (tgt := 34) dX11_isPart_24 (by decide) (fun z6 => ?_) (fun z6 => ?_)
        · refine J_iconst (v := nI 0) dX11_isPart_34 (by decide) ?_
          exact J_zreturn (by decide) rfl (Nat.le_refl _) (Nat.le_refl _) rfl dX11_isPart_35
        · refine J_iload_n dX11_isPart_27 rfl rfl ?_
          refine J_iload_n dX11_isPart_28 rfl rfl ?_
          refine J_isub dX11_isPart_29 ?_
          refine J_iconst (v := nI 3) dX11_isPart_30 (by decide) ?_
          refine J_icmp_le (tgt := 36) dX11_isPart_31 (by decide) (fun z7 => ?_) (fun z7 => ?_)
          · refine J_iload_n dX11_isPart_36 rfl rfl ?_
            refine J_istore_n [some (vR (some 0)), some (vI x1), some (vI x2), some (vI x1)] dX11_isPart_37 rfl (Nat.le_of_ble_eq_true rfl) rfl rfl ?_
            exact J_sb (t11_isPart_h38 G t N x2 N x1 S4) (And.intro rfl (And.intro rfl (And.intro rfl (trivial))))
          · refine J_iconst (v := nI 0) dX11_isPart_34 (by decide) ?_
            exact J_zreturn (by decide) rfl (Nat.le_refl _) (Nat.le_refl _) rfl dX11_isPart_35
theorem dX11_learn_0 : decode cX11_learn 0 = .ok (.aload_n 0, 1) := by decide +kernel
theorem dX11_learn_1 : decode cX11_learn 1 = .ok (.iload_n 1, 1) := by decide +kernel
theorem dX11_learn_2 : decode cX11_learn 2 = .ok (.invokevirtual 118, 3) := by decide +kernel
theorem dX11_learn_5 : decode cX11_learn 5 = .ok (.astore 5, 2) := by decide +kernel
theorem dX11_learn_7 : decode cX11_learn 7 = .ok (.aload 5, 2) := by decide +kernel
theorem dX11_learn_9 : decode cX11_learn 9 = .ok (.ifnull 35, 3) := by decide +kernel
theorem dX11_learn_12 : decode cX11_learn 12 = .ok (.aload_n 0, 1) := by decide +kernel
theorem dX11_learn_13 : decode cX11_learn 13 = .ok (.iload_n 2, 1) := by decide +kernel
theorem dX11_learn_14 : decode cX11_learn 14 = .ok (.iload_n 3, 1) := by decide +kernel
theorem dX11_learn_15 : decode cX11_learn 15 = .ok (.invokevirtual 317, 3) := by decide +kernel
theorem dX11_learn_18 : decode cX11_learn 18 = .ok (.ifCond .eq 26, 3) := by decide +kernel
theorem dX11_learn_21 : decode cX11_learn 21 = .ok (.iload 4, 2) := by decide +kernel
theorem dX11_learn_23 : decode cX11_learn 23 = .ok (.iconst 1, 1) := by decide +kernel
theorem dX11_learn_24 : decode cX11_learn 24 = .ok (.if_icmp .lt 20, 3) := by decide +kernel
theorem dX11_learn_27 : decode cX11_learn 27 = .ok (.iload 4, 2) := by decide +kernel
theorem dX11_learn_29 : decode cX11_learn 29 = .ok (.bipush 6, 2) := by decide +kernel
theorem dX11_learn_31 : decode cX11_learn 31 = .ok (.if_icmp .gt 13, 3) := by decide +kernel
theorem dX11_learn_34 : decode cX11_learn 34 = .ok (.aload 5, 2) := by decide +kernel
theorem dX11_learn_36 : decode cX11_learn 36 = .ok (.invokevirtual 122, 3) := by decide +kernel
theorem dX11_learn_39 : decode cX11_learn 39 = .ok (.bipush 12, 2) := by decide +kernel
theorem dX11_learn_41 : decode cX11_learn 41 = .ok (.if_icmp .lt 5, 3) := by decide +kernel
theorem dX11_learn_44 : decode cX11_learn 44 = .ok (.iconst (-1), 1) := by decide +kernel
theorem dX11_learn_45 : decode cX11_learn 45 = .ok (.ireturn, 1) := by decide +kernel
theorem dX11_learn_46 : decode cX11_learn 46 = .ok (.aload 5, 2) := by decide +kernel
theorem dX11_learn_48 : decode cX11_learn 48 = .ok (.aload_n 0, 1) := by decide +kernel
theorem dX11_learn_49 : decode cX11_learn 49 = .ok (.getfield 22, 3) := by decide +kernel
theorem dX11_learn_52 : decode cX11_learn 52 = .ok (.invokevirtual 162, 3) := by decide +kernel
theorem dX11_learn_55 : decode cX11_learn 55 = .ok (.ifCond .lt 19, 3) := by decide +kernel
theorem dX11_learn_58 : decode cX11_learn 58 = .ok (.aload 5, 2) := by decide +kernel
theorem dX11_learn_60 : decode cX11_learn 60 = .ok (.invokevirtual 126, 3) := by decide +kernel
theorem dX11_learn_63 : decode cX11_learn 63 = .ok (.bipush 64, 2) := by decide +kernel
theorem dX11_learn_65 : decode cX11_learn 65 = .ok (.iload 4, 2) := by decide +kernel
theorem dX11_learn_67 : decode cX11_learn 67 = .ok (.ishr, 1) := by decide +kernel
theorem dX11_learn_68 : decode cX11_learn 68 = .ok (.iadd, 1) := by decide +kernel
theorem dX11_learn_69 : decode cX11_learn 69 = .ok (.bipush 64, 2) := by decide +kernel
theorem dX11_learn_71 : decode cX11_learn 71 = .ok (.if_icmp .le 6, 3) := by decide +kernel
theorem dX11_learn_74 : decode cX11_learn 74 = .ok (.bipush (-5), 2) := by decide +kernel
theorem dX11_learn_76 : decode cX11_learn 76 = .ok (.ireturn, 1) := by decide +kernel
theorem dX11_learn_77 : decode cX11_learn 77 = .ok (.aload_n 0, 1) := by decide +kernel
theorem dX11_learn_78 : decode cX11_learn 78 = .ok (.getfield 15, 3) := by decide +kernel
theorem dX11_learn_81 : decode cX11_learn 81 = .ok (.bipush 6, 2) := by decide +kernel
theorem dX11_learn_83 : decode cX11_learn 83 = .ok (.if_icmp .lt 6, 3) := by decide +kernel
theorem dX11_learn_86 : decode cX11_learn 86 = .ok (.bipush (-3), 2) := by decide +kernel
theorem dX11_learn_88 : decode cX11_learn 88 = .ok (.ireturn, 1) := by decide +kernel
theorem dX11_learn_89 : decode cX11_learn 89 = .ok (.aload_n 0, 1) := by decide +kernel
theorem dX11_learn_90 : decode cX11_learn 90 = .ok (.getfield 11, 3) := by decide +kernel
theorem dX11_learn_93 : decode cX11_learn 93 = .ok (.aload_n 0, 1) := by decide +kernel
theorem dX11_learn_94 : decode cX11_learn 94 = .ok (.getfield 15, 3) := by decide +kernel
theorem dX11_learn_97 : decode cX11_learn 97 = .ok (.aaload, 1) := by decide +kernel
theorem dX11_learn_98 : decode cX11_learn 98 = .ok (.aload 5, 2) := by decide +kernel
theorem dX11_learn_100 : decode cX11_learn 100 = .ok (.aload_n 0, 1) := by decide +kernel
theorem dX11_learn_101 : decode cX11_learn 101 = .ok (.getfield 22, 3) := by decide +kernel
theorem dX11_learn_104 : decode cX11_learn 104 = .ok (.iload_n 2, 1) := by decide +kernel
theorem dX11_learn_105 : decode cX11_learn 105 = .ok (.iload_n 3, 1) := by decide +kernel
theorem dX11_learn_106 : decode cX11_learn 106 = .ok (.iload 4, 2) := by decide +kernel
theorem dX11_learn_108 : decode cX11_learn 108 = .ok (.invokevirtual 321, 3) := by decide +kernel
theorem dX11_learn_111 : decode cX11_learn 111 = .ok (.aload_n 0, 1) := by decide +kernel
theorem dX11_learn_112 : decode cX11_learn 112 = .ok (.dup, 1) := by decide +kernel
theorem dX11_learn_113 : decode cX11_learn 113 = .ok (.getfield 15, 3) := by decide +kernel
theorem dX11_learn_116 : decode cX11_learn 116 = .ok (.iconst 1, 1) := by decide +kernel
theorem dX11_learn_117 : decode cX11_learn 117 = .ok (.iadd, 1) := by decide +kernel
theorem dX11_learn_118 : decode cX11_learn 118 = .ok (.putfield 15, 3) := by decide +kernel
theorem dX11_learn_121 : decode cX11_learn 121 = .ok (.aload_n 0, 1) := by decide +kernel
theorem dX11_learn_122 : decode cX11_learn 122 = .ok (.getfield 15, 3) := by decide +kernel
theorem dX11_learn_125 : decode cX11_learn 125 = .ok (.iconst 1, 1) := by decide +kernel
theorem dX11_learn_126 : decode cX11_learn 126 = .ok (.isub, 1) := by decide +kernel
theorem dX11_learn_127 : decode cX11_learn 127 = .ok (.ireturn, 1) := by decide +kernel
set_option maxRecDepth 100000 in
set_option maxHeartbeats 4000000 in
theorem ct11_learn (G : Gm) (t : Nat) (N : Nat) (x1 : Int32) (x2 : Int32) (x3 : Int32) (x4 : Int32)  (S : St) : Ct G YX11_learn yX11_learn 5 0 0 (fI t) (f11_learn N x1 x2 x3 x4 S) [vR (some 0), vI x1, vI x2, vI x3, vI x4] (MM t S) := by
  refine Ct_of_J [some (vR (some 0)), some (vI x1), some (vI x2), some (vI x3), some (vI x4), none] (by decide) rfl (fun h => by cases h) (Nat.le_of_ble_eq_true rfl) (And.intro rfl (And.intro rfl (And.intro rfl (And.intro rfl (And.intro rfl (trivial)))))) ?_
  unfold f11_learn
  refine J_aload_n dX11_learn_0 rfl rfl ?_
  refine J_iload_n dX11_learn_1 rfl rfl ?_
  refine K_callV_r (As := [vI x1]) mcX11_languageAt mlX11_118 rfl (by decide) (sq 0 rfl) (ct11_languageAt G t x1 S) rfl rfl (Nat.le_of_ble_eq_true rfl) (by decide) (Nat.le_of_ble_eq_true rfl) dX11_learn_2 (fun q1 S2 => ?_)
  refine J_astore [some (vR (some 0)), some (vI x1), some (vI x2), some (vI x3), some (vI x4), some (vR q1)] dX11_learn_5 (Nat.le_of_ble_eq_true rfl) rfl rfl ?_
  refine J_aload dX11_learn_7 rfl ?_
  refine J_ifnull (tgt := 44) dX11_learn_9 (by decide) (fun hr => ?_) (fun b3 hr => ?_)
  · subst hr
    refine J_iconst (v := (-1)) dX11_learn_44 (by decide) ?_
    exact J_ireturn rfl (Nat.le_refl _) (Nat.le_refl _) rfl dX11_learn_45
  · subst hr
    refine J_ckA (fun hb3 => ?_)
    refine J_aload_n dX11_learn_12 rfl rfl ?_
    refine J_iload_n dX11_learn_13 rfl rfl ?_
    refine J_iload_n dX11_learn_14 rfl rfl ?_
    refine K_callV_i (As := [vI x2, vI x3]) mcX11_isPart mlX11_317 rfl (by decide) (sq 0 rfl) (ct11_isPart G t N x2 x3 S2) rfl rfl (Nat.le_of_ble_eq_true rfl) (by decide) (Nat.le_of_ble_eq_true rfl) dX11_learn_15 (fun q4 S5 => ?_)
    refine J_if_eq (tgt := 44) dX11_learn_18 (by decide) (fun z6 => ?_) (fun z6 => ?_)
    · refine J_iconst (v := (-1)) dX11_learn_44 (by decide) ?_
      exact J_ireturn rfl (Nat.le_refl _) (Nat.le_refl _) rfl dX11_learn_45
    · refine J_iload dX11_learn_21 rfl ?_
      refine J_iconst (v := nI 1) dX11_learn_23 (by decide) ?_
      refine J_icmp_lt (tgt := 44) dX11_learn_24 (by decide) (fun z7 => ?_) (fun z7 => ?_)
      · refine J_iconst (v := (-1)) dX11_learn_44 (by decide) ?_
        exact J_ireturn rfl (Nat.le_refl _) (Nat.le_refl _) rfl dX11_learn_45
      · refine J_iload dX11_learn_27 rfl ?_
        refine J_bipush (v := nI 6) dX11_learn_29 (by decide) ?_
        refine J_icmp_gt (tgt := 44) dX11_learn_31 (by decide) (fun z8 => ?_) (fun z8 => ?_)
        · refine J_iconst (v := (-1)) dX11_learn_44 (by decide) ?_
          exact J_ireturn rfl (Nat.le_refl _) (Nat.le_refl _) rfl dX11_learn_45
        · refine J_aload dX11_learn_34 rfl ?_
          refine K_callV_i (As := []) mcX3_howManyOrders mlX11_122 rfl (by decide) (sq3_0 hb3) (ct3_howManyOrders G t b3 hb3 S5) rfl rfl (Nat.le_of_ble_eq_true rfl) (by decide) (Nat.le_of_ble_eq_true rfl) dX11_learn_36 (fun q9 S10 => ?_)
          refine J_bipush (v := nI 12) dX11_learn_39 (by decide) ?_
          refine J_icmp_lt (tgt := 46) dX11_learn_41 (by decide) (fun z11 => ?_) (fun z11 => ?_)
          · refine J_aload dX11_learn_46 rfl ?_
            refine J_aload_n dX11_learn_48 rfl rfl ?_
            refine K_getR (r := some (2)) cf11 flX11_22 (sq 0 rfl) rfl (Or.inl ⟨_, rfl⟩) dX11_learn_49 ?_
            refine K_callV_i (As := [vR (some 2)]) mcX3_sizeOf mlX11_162 rfl (by decide) (sq3_0 hb3) (ct3_sizeOf G t N b3 2 hb3 (by decide) S10) rfl rfl (Nat.le_of_ble_eq_true rfl) (by decide) (Nat.le_of_ble_eq_true rfl) dX11_learn_52 (fun q12 S13 => ?_)
            refine J_if_lt (tgt := 74) dX11_learn_55 (by decide) (fun z14 => ?_) (fun z14 => ?_)
            · refine J_bipush (v := (-5)) dX11_learn_74 (by decide) ?_
              exact J_ireturn rfl (Nat.le_refl _) (Nat.le_refl _) rfl dX11_learn_76
            · refine J_aload dX11_learn_58 rfl ?_
              refine K_callV_i (As := []) mcX3_sum mlX11_126 rfl (by decide) (sq3_0 hb3) (ct3_sum G t N b3 hb3 S13) rfl rfl (Nat.le_of_ble_eq_true rfl) (by decide) (Nat.le_of_ble_eq_true rfl) dX11_learn_60 (fun q15 S16 => ?_)
              refine J_bipush (v := nI 64) dX11_learn_63 (by decide) ?_
              refine J_iload dX11_learn_65 rfl ?_
              refine J_ishr dX11_learn_67 ?_
              refine J_iadd dX11_learn_68 ?_
              refine J_bipush (v := nI 64) dX11_learn_69 (by decide) ?_
              refine J_icmp_le (tgt := 77) dX11_learn_71 (by decide) (fun z17 => ?_) (fun z17 => ?_)
              · refine J_aload_n dX11_learn_77 rfl rfl ?_
                refine K_getI cf11 flX11_15 (sq 0 rfl) (Or.inl rfl) dX11_learn_78 ?_
                refine J_bipush (v := nI 6) dX11_learn_81 (by decide) ?_
                refine J_icmp_lt (tgt := 89) dX11_learn_83 (by decide) (fun z18 => ?_) (fun z18 => ?_)
                · refine J_aload_n dX11_learn_89 rfl rfl ?_
                  refine K_getR (r := some (1)) cf11 flX11_11 (sq 0 rfl) rfl (Or.inr ⟨_, rfl⟩) dX11_learn_90 ?_
                  refine J_aload_n dX11_learn_93 rfl rfl ?_
                  refine K_getI cf11 flX11_15 (sq 0 rfl) (Or.inl rfl) dX11_learn_94 ?_
                  refine K_aald (f := fun j => some (50 + 11 * j)) (sq 1 rfl) (by decide) (aq1) dX11_learn_97 (fun i19 => ?_)
                  refine J_aload dX11_learn_98 rfl ?_
                  refine J_aload_n dX11_learn_100 rfl rfl ?_
                  refine K_getR (r := some (2)) cf11 flX11_22 (sq 0 rfl) rfl (Or.inl ⟨_, rfl⟩) dX11_learn_101 ?_
                  refine J_iload_n dX11_learn_104 rfl rfl ?_
                  refine J_iload_n dX11_learn_105 rfl rfl ?_
                  refine J_iload dX11_learn_106 rfl ?_
                  refine K_callV_v (As := [vR (some b3), vR (some 2), vI x2, vI x3, vI x4]) mcX3_beTaught mlX11_321 rfl (by decide) (sq3_0 (am1 i19)) (ct3_beTaught G t N (50 + 11 * (S16.1 0 1).toNatClampNeg) b3 2 x2 x3 x4 (am1 i19) hb3 (by decide) S16) rfl rfl (Nat.le_of_ble_eq_true rfl) (by decide) (Nat.le_of_ble_eq_true rfl) dX11_learn_108 (fun q20 S21 => ?_)
                  refine J_aload_n dX11_learn_111 rfl rfl ?_
                  refine J_dup dX11_learn_112 rfl ?_
                  refine K_getI cf11 flX11_15 (sq 0 rfl) (Or.inl rfl) dX11_learn_113 ?_
                  refine J_iconst (v := nI 1) dX11_learn_116 (by decide) ?_
                  refine J_iadd dX11_learn_117 ?_
                  refine K_putI cf11 flX11_15 (sq 0 rfl) rfl dX11_learn_118 ?_
                  refine J_ltS (fun S22 _ => ?_)
                  refine J_aload_n dX11_learn_121 rfl rfl ?_
                  refine K_getI cf11 flX11_15 (sq 0 rfl) (Or.inl rfl) dX11_learn_122 ?_
                  refine J_iconst (v := nI 1) dX11_learn_125 (by decide) ?_
                  refine J_isub dX11_learn_126 ?_
                  exact J_ireturn rfl (Nat.le_refl _) (Nat.le_refl _) rfl dX11_learn_127
                · refine J_bipush (v := (-3)) dX11_learn_86 (by decide) ?_
                  exact J_ireturn rfl (Nat.le_refl _) (Nat.le_refl _) rfl dX11_learn_88
              · refine J_bipush (v := (-5)) dX11_learn_74 (by decide) ?_
                exact J_ireturn rfl (Nat.le_refl _) (Nat.le_refl _) rfl dX11_learn_76
          · refine J_iconst (v := (-1)) dX11_learn_44 (by decide) ?_
            exact J_ireturn rfl (Nat.le_refl _) (Nat.le_refl _) rfl dX11_learn_45
theorem dX11_cheaper_0 : decode cX11_cheaper 0 = .ok (.aload_n 0, 1) := by decide +kernel
theorem dX11_cheaper_1 : decode cX11_cheaper 1 = .ok (.iload_n 1, 1) := by decide +kernel
theorem dX11_cheaper_2 : decode cX11_cheaper 2 = .ok (.invokevirtual 118, 3) := by decide +kernel
theorem dX11_cheaper_5 : decode cX11_cheaper 5 = .ok (.astore 5, 2) := by decide +kernel
theorem dX11_cheaper_7 : decode cX11_cheaper 7 = .ok (.aload_n 0, 1) := by decide +kernel
theorem dX11_cheaper_8 : decode cX11_cheaper 8 = .ok (.iload_n 2, 1) := by decide +kernel
theorem dX11_cheaper_9 : decode cX11_cheaper 9 = .ok (.invokevirtual 118, 3) := by decide +kernel
theorem dX11_cheaper_12 : decode cX11_cheaper 12 = .ok (.astore 6, 2) := by decide +kernel
theorem dX11_cheaper_14 : decode cX11_cheaper 14 = .ok (.aload_n 0, 1) := by decide +kernel
theorem dX11_cheaper_15 : decode cX11_cheaper 15 = .ok (.iload_n 3, 1) := by decide +kernel
theorem dX11_cheaper_16 : decode cX11_cheaper 16 = .ok (.invokevirtual 212, 3) := by decide +kernel
theorem dX11_cheaper_19 : decode cX11_cheaper 19 = .ok (.astore 7, 2) := by decide +kernel
theorem dX11_cheaper_21 : decode cX11_cheaper 21 = .ok (.aload 5, 2) := by decide +kernel
theorem dX11_cheaper_23 : decode cX11_cheaper 23 = .ok (.ifnull 21, 3) := by decide +kernel
theorem dX11_cheaper_26 : decode cX11_cheaper 26 = .ok (.aload 6, 2) := by decide +kernel
theorem dX11_cheaper_28 : decode cX11_cheaper 28 = .ok (.ifnull 16, 3) := by decide +kernel
theorem dX11_cheaper_31 : decode cX11_cheaper 31 = .ok (.aload 7, 2) := by decide +kernel
theorem dX11_cheaper_33 : decode cX11_cheaper 33 = .ok (.ifnull 11, 3) := by decide +kernel
theorem dX11_cheaper_36 : decode cX11_cheaper 36 = .ok (.iload 4, 2) := by decide +kernel
theorem dX11_cheaper_38 : decode cX11_cheaper 38 = .ok (.invokestatic 223, 3) := by decide +kernel
theorem dX11_cheaper_41 : decode cX11_cheaper 41 = .ok (.ifCond .ne 7, 3) := by decide +kernel
theorem dX11_cheaper_44 : decode cX11_cheaper 44 = .ok (.ldc_w 325, 3) := by decide +kernel
theorem dX11_cheaper_47 : decode cX11_cheaper 47 = .ok (.ireturn, 1) := by decide +kernel
theorem dX11_cheaper_48 : decode cX11_cheaper 48 = .ok (.aload_n 0, 1) := by decide +kernel
theorem dX11_cheaper_49 : decode cX11_cheaper 49 = .ok (.getfield 67, 3) := by decide +kernel
theorem dX11_cheaper_52 : decode cX11_cheaper 52 = .ok (.aload 5, 2) := by decide +kernel
theorem dX11_cheaper_54 : decode cX11_cheaper 54 = .ok (.aload 7, 2) := by decide +kernel
theorem dX11_cheaper_56 : decode cX11_cheaper 56 = .ok (.iload 4, 2) := by decide +kernel
theorem dX11_cheaper_58 : decode cX11_cheaper 58 = .ok (.aload_n 0, 1) := by decide +kernel
theorem dX11_cheaper_59 : decode cX11_cheaper 59 = .ok (.getfield 32, 3) := by decide +kernel
theorem dX11_cheaper_62 : decode cX11_cheaper 62 = .ok (.invokevirtual 226, 3) := by decide +kernel
theorem dX11_cheaper_65 : decode cX11_cheaper 65 = .ok (.aload_n 0, 1) := by decide +kernel
theorem dX11_cheaper_66 : decode cX11_cheaper 66 = .ok (.getfield 67, 3) := by decide +kernel
theorem dX11_cheaper_69 : decode cX11_cheaper 69 = .ok (.invokevirtual 230, 3) := by decide +kernel
theorem dX11_cheaper_72 : decode cX11_cheaper 72 = .ok (.ifCond .ne 7, 3) := by decide +kernel
theorem dX11_cheaper_75 : decode cX11_cheaper 75 = .ok (.ldc_w 325, 3) := by decide +kernel
theorem dX11_cheaper_78 : decode cX11_cheaper 78 = .ok (.ireturn, 1) := by decide +kernel
theorem dX11_cheaper_79 : decode cX11_cheaper 79 = .ok (.aload_n 0, 1) := by decide +kernel
theorem dX11_cheaper_80 : decode cX11_cheaper 80 = .ok (.getfield 67, 3) := by decide +kernel
theorem dX11_cheaper_83 : decode cX11_cheaper 83 = .ok (.invokevirtual 240, 3) := by decide +kernel
theorem dX11_cheaper_86 : decode cX11_cheaper 86 = .ok (.istore 8, 2) := by decide +kernel
theorem dX11_cheaper_88 : decode cX11_cheaper 88 = .ok (.aload_n 0, 1) := by decide +kernel
theorem dX11_cheaper_89 : decode cX11_cheaper 89 = .ok (.getfield 67, 3) := by decide +kernel
theorem dX11_cheaper_92 : decode cX11_cheaper 92 = .ok (.aload 6, 2) := by decide +kernel
theorem dX11_cheaper_94 : decode cX11_cheaper 94 = .ok (.aload 7, 2) := by decide +kernel
theorem dX11_cheaper_96 : decode cX11_cheaper 96 = .ok (.iload 4, 2) := by decide +kernel
theorem dX11_cheaper_98 : decode cX11_cheaper 98 = .ok (.aload_n 0, 1) := by decide +kernel
theorem dX11_cheaper_99 : decode cX11_cheaper 99 = .ok (.getfield 32, 3) := by decide +kernel
theorem dX11_cheaper_102 : decode cX11_cheaper 102 = .ok (.invokevirtual 226, 3) := by decide +kernel
theorem dX11_cheaper_105 : decode cX11_cheaper 105 = .ok (.aload_n 0, 1) := by decide +kernel
theorem dX11_cheaper_106 : decode cX11_cheaper 106 = .ok (.getfield 67, 3) := by decide +kernel
theorem dX11_cheaper_109 : decode cX11_cheaper 109 = .ok (.invokevirtual 230, 3) := by decide +kernel
theorem dX11_cheaper_112 : decode cX11_cheaper 112 = .ok (.ifCond .ne 7, 3) := by decide +kernel
theorem dX11_cheaper_115 : decode cX11_cheaper 115 = .ok (.ldc_w 325, 3) := by decide +kernel
theorem dX11_cheaper_118 : decode cX11_cheaper 118 = .ok (.ireturn, 1) := by decide +kernel
theorem dX11_cheaper_119 : decode cX11_cheaper 119 = .ok (.iload 8, 2) := by decide +kernel
theorem dX11_cheaper_121 : decode cX11_cheaper 121 = .ok (.aload_n 0, 1) := by decide +kernel
theorem dX11_cheaper_122 : decode cX11_cheaper 122 = .ok (.getfield 67, 3) := by decide +kernel
theorem dX11_cheaper_125 : decode cX11_cheaper 125 = .ok (.invokevirtual 240, 3) := by decide +kernel
theorem dX11_cheaper_128 : decode cX11_cheaper 128 = .ok (.isub, 1) := by decide +kernel
theorem dX11_cheaper_129 : decode cX11_cheaper 129 = .ok (.ireturn, 1) := by decide +kernel
set_option maxRecDepth 100000 in
set_option maxHeartbeats 4000000 in
theorem ct11_cheaper (G : Gm) (t : Nat) (N : Nat) (x1 : Int32) (x2 : Int32) (x3 : Int32) (x4 : Int32)  (S : St) : Ct G YX11_cheaper yX11_cheaper 8 0 0 (fI t) (f11_cheaper N x1 x2 x3 x4 S) [vR (some 0), vI x1, vI x2, vI x3, vI x4] (MM t S) := by
  refine Ct_of_J [some (vR (some 0)), some (vI x1), some (vI x2), some (vI x3), some (vI x4), none, none, none, none] (by decide) rfl (fun h => by cases h) (Nat.le_of_ble_eq_true rfl) (And.intro rfl (And.intro rfl (And.intro rfl (And.intro rfl (And.intro rfl (trivial)))))) ?_
  unfold f11_cheaper
  refine J_aload_n dX11_cheaper_0 rfl rfl ?_
  refine J_iload_n dX11_cheaper_1 rfl rfl ?_
  refine K_callV_r (As := [vI x1]) mcX11_languageAt mlX11_118 rfl (by decide) (sq 0 rfl) (ct11_languageAt G t x1 S) rfl rfl (Nat.le_of_ble_eq_true rfl) (by decide) (Nat.le_of_ble_eq_true rfl) dX11_cheaper_2 (fun q1 S2 => ?_)
  refine J_astore [some (vR (some 0)), some (vI x1), some (vI x2), some (vI x3), some (vI x4), some (vR q1), none, none, none] dX11_cheaper_5 (Nat.le_of_ble_eq_true rfl) rfl rfl ?_
  refine J_aload_n dX11_cheaper_7 rfl rfl ?_
  refine J_iload_n dX11_cheaper_8 rfl rfl ?_
  refine K_callV_r (As := [vI x2]) mcX11_languageAt mlX11_118 rfl (by decide) (sq 0 rfl) (ct11_languageAt G t x2 S2) rfl rfl (Nat.le_of_ble_eq_true rfl) (by decide) (Nat.le_of_ble_eq_true rfl) dX11_cheaper_9 (fun q3 S4 => ?_)
  refine J_astore [some (vR (some 0)), some (vI x1), some (vI x2), some (vI x3), some (vI x4), some (vR q1), some (vR q3), none, none] dX11_cheaper_12 (Nat.le_of_ble_eq_true rfl) rfl rfl ?_
  refine J_aload_n dX11_cheaper_14 rfl rfl ?_
  refine J_iload_n dX11_cheaper_15 rfl rfl ?_
  refine K_callV_r (As := [vI x3]) mcX11_taskAt mlX11_212 rfl (by decide) (sq 0 rfl) (ct11_taskAt G t x3 S4) rfl rfl (Nat.le_of_ble_eq_true rfl) (by decide) (Nat.le_of_ble_eq_true rfl) dX11_cheaper_16 (fun q5 S6 => ?_)
  refine J_astore [some (vR (some 0)), some (vI x1), some (vI x2), some (vI x3), some (vI x4), some (vR q1), some (vR q3), some (vR q5), none] dX11_cheaper_19 (Nat.le_of_ble_eq_true rfl) rfl rfl ?_
  refine J_aload dX11_cheaper_21 rfl ?_
  refine J_ifnull (tgt := 44) dX11_cheaper_23 (by decide) (fun hr => ?_) (fun b7 hr => ?_)
  · subst hr
    refine J_ldc_w (v := (-2000000000)) wX11_325 dX11_cheaper_44 ?_
    exact J_ireturn rfl (Nat.le_refl _) (Nat.le_refl _) rfl dX11_cheaper_47
  · subst hr
    refine J_ckA (fun hb7 => ?_)
    refine J_aload dX11_cheaper_26 rfl ?_
    refine J_ifnull (tgt := 44) dX11_cheaper_28 (by decide) (fun hr => ?_) (fun b8 hr => ?_)
    · subst hr
      refine J_ldc_w (v := (-2000000000)) wX11_325 dX11_cheaper_44 ?_
      exact J_ireturn rfl (Nat.le_refl _) (Nat.le_refl _) rfl dX11_cheaper_47
    · subst hr
      refine J_ckA (fun hb8 => ?_)
      refine J_aload dX11_cheaper_31 rfl ?_
      refine J_ifnull (tgt := 44) dX11_cheaper_33 (by decide) (fun hr => ?_) (fun b9 hr => ?_)
      · subst hr
        refine J_ldc_w (v := (-2000000000)) wX11_325 dX11_cheaper_44 ?_
        exact J_ireturn rfl (Nat.le_refl _) (Nat.le_refl _) rfl dX11_cheaper_47
      · subst hr
        refine J_ckA (fun hb9 => ?_)
        refine J_iload dX11_cheaper_36 rfl ?_
        refine K_callS_i (As := [vI x4]) mcX11_isPhase mlX11_223 (ct11_isPhase G t x4 S6) rfl rfl (Nat.le_of_ble_eq_true rfl) (by decide) (Nat.le_of_ble_eq_true rfl) dX11_cheaper_38 (fun q10 S11 => ?_)
        refine J_if_ne (tgt := 48) dX11_cheaper_41 (by decide) (fun z12 => ?_) (fun z12 => ?_)
        · refine J_ldc_w (v := (-2000000000)) wX11_325 dX11_cheaper_44 ?_
          exact J_ireturn rfl (Nat.le_refl _) (Nat.le_refl _) rfl dX11_cheaper_47
        · refine J_aload_n dX11_cheaper_48 rfl rfl ?_
          refine K_getR (r := some (19)) cf11 flX11_67 (sq 0 rfl) rfl (Or.inl ⟨_, rfl⟩) dX11_cheaper_49 ?_
          refine J_aload dX11_cheaper_52 rfl ?_
          refine J_aload dX11_cheaper_54 rfl ?_
          refine J_iload dX11_cheaper_56 rfl ?_
          refine J_aload_n dX11_cheaper_58 rfl rfl ?_
          refine K_getR (r := some (6)) cf11 flX11_32 (sq 0 rfl) rfl (Or.inl ⟨_, rfl⟩) dX11_cheaper_59 ?_
          refine K_callV_v (As := [vR (some b7), vR (some b9), vI x4, vR (some 6)]) mcX7_look mlX11_226 rfl (by decide) (sq 19 rfl) (ct7_look G t N 19 b7 b9 x4 (by decide) hb7 hb9 S11) rfl rfl (Nat.le_of_ble_eq_true rfl) (by decide) (Nat.le_of_ble_eq_true rfl) dX11_cheaper_62 (fun q13 S14 => ?_)
          refine J_aload_n dX11_cheaper_65 rfl rfl ?_
          refine K_getR (r := some (19)) cf11 flX11_67 (sq 0 rfl) rfl (Or.inl ⟨_, rfl⟩) dX11_cheaper_66 ?_
          refine K_callV_i (As := []) mcX7_hasAnswer mlX11_230 rfl (by decide) (sq 19 rfl) (ct7_hasAnswer G t 19 (by decide) S14) rfl rfl (Nat.le_of_ble_eq_true rfl) (by decide) (Nat.le_of_ble_eq_true rfl) dX11_cheaper_69 (fun q15 S16 => ?_)
          refine J_if_ne (tgt := 79) dX11_cheaper_72 (by decide) (fun z17 => ?_) (fun z17 => ?_)
          · refine J_ldc_w (v := (-2000000000)) wX11_325 dX11_cheaper_75 ?_
            exact J_ireturn rfl (Nat.le_refl _) (Nat.le_refl _) rfl dX11_cheaper_78
          · refine J_aload_n dX11_cheaper_79 rfl rfl ?_
            refine K_getR (r := some (19)) cf11 flX11_67 (sq 0 rfl) rfl (Or.inl ⟨_, rfl⟩) dX11_cheaper_80 ?_
            refine K_callV_i (As := []) mcX7_sum mlX11_240 rfl (by decide) (sq 19 rfl) (ct7_sum G t 19 (by decide) S16) rfl rfl (Nat.le_of_ble_eq_true rfl) (by decide) (Nat.le_of_ble_eq_true rfl) dX11_cheaper_83 (fun q18 S19 => ?_)
            refine J_istore [some (vR (some 0)), some (vI x1), some (vI x2), some (vI x3), some (vI x4), some (vR (some b7)), some (vR (some b8)), some (vR (some b9)), some (vI q18)] dX11_cheaper_86 (Nat.le_of_ble_eq_true rfl) rfl rfl ?_
            refine J_aload_n dX11_cheaper_88 rfl rfl ?_
            refine K_getR (r := some (19)) cf11 flX11_67 (sq 0 rfl) rfl (Or.inl ⟨_, rfl⟩) dX11_cheaper_89 ?_
            refine J_aload dX11_cheaper_92 rfl ?_
            refine J_aload dX11_cheaper_94 rfl ?_
            refine J_iload dX11_cheaper_96 rfl ?_
            refine J_aload_n dX11_cheaper_98 rfl rfl ?_
            refine K_getR (r := some (6)) cf11 flX11_32 (sq 0 rfl) rfl (Or.inl ⟨_, rfl⟩) dX11_cheaper_99 ?_
            refine K_callV_v (As := [vR (some b8), vR (some b9), vI x4, vR (some 6)]) mcX7_look mlX11_226 rfl (by decide) (sq 19 rfl) (ct7_look G t N 19 b8 b9 x4 (by decide) hb8 hb9 S19) rfl rfl (Nat.le_of_ble_eq_true rfl) (by decide) (Nat.le_of_ble_eq_true rfl) dX11_cheaper_102 (fun q20 S21 => ?_)
            refine J_aload_n dX11_cheaper_105 rfl rfl ?_
            refine K_getR (r := some (19)) cf11 flX11_67 (sq 0 rfl) rfl (Or.inl ⟨_, rfl⟩) dX11_cheaper_106 ?_
            refine K_callV_i (As := []) mcX7_hasAnswer mlX11_230 rfl (by decide) (sq 19 rfl) (ct7_hasAnswer G t 19 (by decide) S21) rfl rfl (Nat.le_of_ble_eq_true rfl) (by decide) (Nat.le_of_ble_eq_true rfl) dX11_cheaper_109 (fun q22 S23 => ?_)
            refine J_if_ne (tgt := 119) dX11_cheaper_112 (by decide) (fun z24 => ?_) (fun z24 => ?_)
            · refine J_ldc_w (v := (-2000000000)) wX11_325 dX11_cheaper_115 ?_
              exact J_ireturn rfl (Nat.le_refl _) (Nat.le_refl _) rfl dX11_cheaper_118
            · refine J_iload dX11_cheaper_119 rfl ?_
              refine J_aload_n dX11_cheaper_121 rfl rfl ?_
              refine K_getR (r := some (19)) cf11 flX11_67 (sq 0 rfl) rfl (Or.inl ⟨_, rfl⟩) dX11_cheaper_122 ?_
              refine K_callV_i (As := []) mcX7_sum mlX11_240 rfl (by decide) (sq 19 rfl) (ct7_sum G t 19 (by decide) S23) rfl rfl (Nat.le_of_ble_eq_true rfl) (by decide) (Nat.le_of_ble_eq_true rfl) dX11_cheaper_125 (fun q25 S26 => ?_)
              refine J_isub dX11_cheaper_128 ?_
              exact J_ireturn rfl (Nat.le_refl _) (Nat.le_refl _) rfl dX11_cheaper_129
theorem dX11_price_0 : decode cX11_price 0 = .ok (.aload_n 0, 1) := by decide +kernel
theorem dX11_price_1 : decode cX11_price 1 = .ok (.iload_n 1, 1) := by decide +kernel
theorem dX11_price_2 : decode cX11_price 2 = .ok (.invokevirtual 118, 3) := by decide +kernel
theorem dX11_price_5 : decode cX11_price 5 = .ok (.astore_n 3, 1) := by decide +kernel
theorem dX11_price_6 : decode cX11_price 6 = .ok (.aload_n 0, 1) := by decide +kernel
theorem dX11_price_7 : decode cX11_price 7 = .ok (.iload_n 2, 1) := by decide +kernel
theorem dX11_price_8 : decode cX11_price 8 = .ok (.invokevirtual 118, 3) := by decide +kernel
theorem dX11_price_11 : decode cX11_price 11 = .ok (.astore 4, 2) := by decide +kernel
theorem dX11_price_13 : decode cX11_price 13 = .ok (.aload_n 3, 1) := by decide +kernel
theorem dX11_price_14 : decode cX11_price 14 = .ok (.ifnull 8, 3) := by decide +kernel
theorem dX11_price_17 : decode cX11_price 17 = .ok (.aload 4, 2) := by decide +kernel
theorem dX11_price_19 : decode cX11_price 19 = .ok (.ifnonnull 7, 3) := by decide +kernel
theorem dX11_price_22 : decode cX11_price 22 = .ok (.ldc_w 325, 3) := by decide +kernel
theorem dX11_price_25 : decode cX11_price 25 = .ok (.ireturn, 1) := by decide +kernel
theorem dX11_price_26 : decode cX11_price 26 = .ok (.aload 4, 2) := by decide +kernel
theorem dX11_price_28 : decode cX11_price 28 = .ok (.iconst 0, 1) := by decide +kernel
theorem dX11_price_29 : decode cX11_price 29 = .ok (.invokevirtual 133, 3) := by decide +kernel
theorem dX11_price_32 : decode cX11_price 32 = .ok (.aload_n 3, 1) := by decide +kernel
theorem dX11_price_33 : decode cX11_price 33 = .ok (.iconst 0, 1) := by decide +kernel
theorem dX11_price_34 : decode cX11_price 34 = .ok (.invokevirtual 133, 3) := by decide +kernel
theorem dX11_price_37 : decode cX11_price 37 = .ok (.isub, 1) := by decide +kernel
theorem dX11_price_38 : decode cX11_price 38 = .ok (.istore 5, 2) := by decide +kernel
theorem dX11_price_40 : decode cX11_price 40 = .ok (.iconst 1, 1) := by decide +kernel
theorem dX11_price_41 : decode cX11_price 41 = .ok (.istore 6, 2) := by decide +kernel
theorem dX11_price_43 : decode cX11_price 43 = .ok (.iload 6, 2) := by decide +kernel
theorem dX11_price_45 : decode cX11_price 45 = .ok (.bipush 8, 2) := by decide +kernel
theorem dX11_price_47 : decode cX11_price 47 = .ok (.if_icmp .ge 30, 3) := by decide +kernel
theorem dX11_price_50 : decode cX11_price 50 = .ok (.iload 5, 2) := by decide +kernel
theorem dX11_price_52 : decode cX11_price 52 = .ok (.aload 4, 2) := by decide +kernel
theorem dX11_price_54 : decode cX11_price 54 = .ok (.iload 6, 2) := by decide +kernel
theorem dX11_price_56 : decode cX11_price 56 = .ok (.invokevirtual 133, 3) := by decide +kernel
theorem dX11_price_59 : decode cX11_price 59 = .ok (.aload_n 3, 1) := by decide +kernel
theorem dX11_price_60 : decode cX11_price 60 = .ok (.iload 6, 2) := by decide +kernel
theorem dX11_price_62 : decode cX11_price 62 = .ok (.invokevirtual 133, 3) := by decide +kernel
theorem dX11_price_65 : decode cX11_price 65 = .ok (.isub, 1) := by decide +kernel
theorem dX11_price_66 : decode cX11_price 66 = .ok (.invokestatic 326, 3) := by decide +kernel
theorem dX11_price_69 : decode cX11_price 69 = .ok (.istore 5, 2) := by decide +kernel
theorem dX11_price_71 : decode cX11_price 71 = .ok (.iinc 6 1, 3) := by decide +kernel
theorem dX11_price_74 : decode cX11_price 74 = .ok (.goto (-31), 3) := by decide +kernel
theorem dX11_price_77 : decode cX11_price 77 = .ok (.iload 5, 2) := by decide +kernel
theorem dX11_price_79 : decode cX11_price 79 = .ok (.ireturn, 1) := by decide +kernel
set_option maxRecDepth 100000 in
set_option maxHeartbeats 4000000 in
theorem t11_price_h43 (G : Gm) (t : Nat) (N : Nat) (a3 : Nat) (a4 : Nat) (h3 : a3 ∈ ad3) (h4 : a4 ∈ ad3)   : ∀ (n : Nat) (x5 : Int32) (x6 : Int32) (S : St), J G YX11_price 2 0 0 (fI t) 0 0 43 [none, none, none, some (vR (some a3)), some (vR (some a4)), some (vI x5), some (vI x6)] [] (MM t S) (f11_price_h43 N a3 a4 n x5 x6 S) := by
  intro n
  induction n with
  | zero => intro x5 x6 S; exact J_none
  | succ n ih =>
    intro x5 x6 S
    rw [f11_price_h43]
    refine J_iload dX11_price_43 rfl ?_
    refine J_bipush (v := nI 8) dX11_price_45 (by decide) ?_
    refine J_icmp_ge (tgt := 77) dX11_price_47 (by decide) (fun z1 => ?_) (fun z1 => ?_)
    · refine J_iload dX11_price_77 rfl ?_
      exact J_ireturn rfl (Nat.le_refl _) (Nat.le_refl _) rfl dX11_price_79
    · refine J_iload dX11_price_50 rfl ?_
      refine J_aload dX11_price_52 rfl ?_
      refine J_iload dX11_price_54 rfl ?_
      refine K_callV_i (As := [vI x6]) mcX3_bitsOf mlX11_133 rfl (by decide) (sq3_0 h4) (ct3_bitsOf G t a4 x6 h4 S) rfl rfl (Nat.le_of_ble_eq_true rfl) (by decide) (Nat.le_of_ble_eq_true rfl) dX11_price_56 (fun q2 S3 => ?_)
      refine J_aload_n dX11_price_59 rfl rfl ?_
      refine J_iload dX11_price_60 rfl ?_
      refine K_callV_i (As := [vI x6]) mcX3_bitsOf mlX11_133 rfl (by decide) (sq3_0 h3) (ct3_bitsOf G t a3 x6 h3 S3) rfl rfl (Nat.le_of_ble_eq_true rfl) (by decide) (Nat.le_of_ble_eq_true rfl) dX11_price_62 (fun q4 S5 => ?_)
      refine J_isub dX11_price_65 ?_
      refine J_mmax mlX11_326 (Nat.le_of_ble_eq_true rfl) (by decide) dX11_price_66 ?_
      refine J_ltI (fun v6 _ => ?_)
      refine J_istore [none, none, none, some (vR (some a3)), some (vR (some a4)), some (vI v6), some (vI x6)] dX11_price_69 (Nat.le_of_ble_eq_true rfl) rfl rfl ?_
      refine J_iinc (v := x6 + nI 1) [none, none, none, some (vR (some a3)), some (vR (some a4)), some (vI v6), some (vI (x6 + nI 1))] dX11_price_71 rfl rfl (Nat.le_of_ble_eq_true rfl) rfl rfl ?_
      refine J_goto (tgt := 43) dX11_price_74 (by decide) ?_
      exact J_sb (ih v6 (x6 + nI 1) S5) (And.intro rfl (And.intro rfl (And.intro rfl (And.intro rfl (trivial)))))
set_option maxRecDepth 100000 in
set_option maxHeartbeats 4000000 in
theorem ct11_price (G : Gm) (t : Nat) (N : Nat) (x1 : Int32) (x2 : Int32)  (S : St) : Ct G YX11_price yX11_price 2 0 0 (fI t) (f11_price N x1 x2 S) [vR (some 0), vI x1, vI x2] (MM t S) := by
  refine Ct_of_J [some (vR (some 0)), some (vI x1), some (vI x2), none, none, none, none] (by decide) rfl (fun h => by cases h) (Nat.le_of_ble_eq_true rfl) (And.intro rfl (And.intro rfl (And.intro rfl (trivial)))) ?_
  unfold f11_price
  refine J_aload_n dX11_price_0 rfl rfl ?_
  refine J_iload_n dX11_price_1 rfl rfl ?_
  refine K_callV_r (As := [vI x1]) mcX11_languageAt mlX11_118 rfl (by decide) (sq 0 rfl) (ct11_languageAt G t x1 S) rfl rfl (Nat.le_of_ble_eq_true rfl) (by decide) (Nat.le_of_ble_eq_true rfl) dX11_price_2 (fun q1 S2 => ?_)
  refine J_astore_n [some (vR (some 0)), some (vI x1), some (vI x2), some (vR q1), none, none, none] dX11_price_5 rfl (Nat.le_of_ble_eq_true rfl) rfl rfl ?_
  refine J_aload_n dX11_price_6 rfl rfl ?_
  refine J_iload_n dX11_price_7 rfl rfl ?_
  refine K_callV_r (As := [vI x2]) mcX11_languageAt mlX11_118 rfl (by decide) (sq 0 rfl) (ct11_languageAt G t x2 S2) rfl rfl (Nat.le_of_ble_eq_true rfl) (by decide) (Nat.le_of_ble_eq_true rfl) dX11_price_8 (fun q3 S4 => ?_)
  refine J_astore [some (vR (some 0)), some (vI x1), some (vI x2), some (vR q1), some (vR q3), none, none] dX11_price_11 (Nat.le_of_ble_eq_true rfl) rfl rfl ?_
  refine J_aload_n dX11_price_13 rfl rfl ?_
  refine J_ifnull (tgt := 22) dX11_price_14 (by decide) (fun hr => ?_) (fun b5 hr => ?_)
  · subst hr
    refine J_ldc_w (v := (-2000000000)) wX11_325 dX11_price_22 ?_
    exact J_ireturn rfl (Nat.le_refl _) (Nat.le_refl _) rfl dX11_price_25
  · subst hr
    refine J_ckA (fun hb5 => ?_)
    refine J_aload dX11_price_17 rfl ?_
    refine J_ifnonnull (tgt := 26) dX11_price_19 (by decide) (fun hr => ?_) (fun b6 hr => ?_)
    · subst hr
      refine J_ldc_w (v := (-2000000000)) wX11_325 dX11_price_22 ?_
      exact J_ireturn rfl (Nat.le_refl _) (Nat.le_refl _) rfl dX11_price_25
    · subst hr
      refine J_ckA (fun hb6 => ?_)
      refine J_aload dX11_price_26 rfl ?_
      refine J_iconst (v := nI 0) dX11_price_28 (by decide) ?_
      refine K_callV_i (As := [vI (nI 0)]) mcX3_bitsOf mlX11_133 rfl (by decide) (sq3_0 hb6) (ct3_bitsOf G t b6 (nI 0) hb6 S4) rfl rfl (Nat.le_of_ble_eq_true rfl) (by decide) (Nat.le_of_ble_eq_true rfl) dX11_price_29 (fun q7 S8 => ?_)
      refine J_aload_n dX11_price_32 rfl rfl ?_
      refine J_iconst (v := nI 0) dX11_price_33 (by decide) ?_
      refine K_callV_i (As := [vI (nI 0)]) mcX3_bitsOf mlX11_133 rfl (by decide) (sq3_0 hb5) (ct3_bitsOf G t b5 (nI 0) hb5 S8) rfl rfl (Nat.le_of_ble_eq_true rfl) (by decide) (Nat.le_of_ble_eq_true rfl) dX11_price_34 (fun q9 S10 => ?_)
      refine J_isub dX11_price_37 ?_
      refine J_ltI (fun v11 _ => ?_)
      refine J_istore [some (vR (some 0)), some (vI x1), some (vI x2), some (vR (some b5)), some (vR (some b6)), some (vI v11), none] dX11_price_38 (Nat.le_of_ble_eq_true rfl) rfl rfl ?_
      refine J_iconst (v := nI 1) dX11_price_40 (by decide) ?_
      refine J_istore [some (vR (some 0)), some (vI x1), some (vI x2), some (vR (some b5)), some (vR (some b6)), some (vI v11), some (vI (nI 1))] dX11_price_41 (Nat.le_of_ble_eq_true rfl) rfl rfl ?_
      exact J_sb (t11_price_h43 G t N b5 b6 hb5 hb6 N v11 (nI 1) S10) (And.intro rfl (And.intro rfl (And.intro rfl (And.intro rfl (trivial)))))
theorem dX11_translated_0 : decode cX11_translated 0 = .ok (.aload_n 0, 1) := by decide +kernel
theorem dX11_translated_1 : decode cX11_translated 1 = .ok (.iload_n 1, 1) := by decide +kernel
theorem dX11_translated_2 : decode cX11_translated 2 = .ok (.invokevirtual 118, 3) := by decide +kernel
theorem dX11_translated_5 : decode cX11_translated 5 = .ok (.astore_n 3, 1) := by decide +kernel
theorem dX11_translated_6 : decode cX11_translated 6 = .ok (.aload_n 0, 1) := by decide +kernel
theorem dX11_translated_7 : decode cX11_translated 7 = .ok (.iload_n 2, 1) := by decide +kernel
theorem dX11_translated_8 : decode cX11_translated 8 = .ok (.invokevirtual 118, 3) := by decide +kernel
theorem dX11_translated_11 : decode cX11_translated 11 = .ok (.astore 4, 2) := by decide +kernel
theorem dX11_translated_13 : decode cX11_translated 13 = .ok (.aload_n 3, 1) := by decide +kernel
theorem dX11_translated_14 : decode cX11_translated 14 = .ok (.ifnull 8, 3) := by decide +kernel
theorem dX11_translated_17 : decode cX11_translated 17 = .ok (.aload 4, 2) := by decide +kernel
theorem dX11_translated_19 : decode cX11_translated 19 = .ok (.ifnonnull 5, 3) := by decide +kernel
theorem dX11_translated_22 : decode cX11_translated 22 = .ok (.iconst (-1), 1) := by decide +kernel
theorem dX11_translated_23 : decode cX11_translated 23 = .ok (.ireturn, 1) := by decide +kernel
theorem dX11_translated_24 : decode cX11_translated 24 = .ok (.aload_n 3, 1) := by decide +kernel
theorem dX11_translated_25 : decode cX11_translated 25 = .ok (.aload_n 0, 1) := by decide +kernel
theorem dX11_translated_26 : decode cX11_translated 26 = .ok (.getfield 22, 3) := by decide +kernel
theorem dX11_translated_29 : decode cX11_translated 29 = .ok (.invokevirtual 162, 3) := by decide +kernel
theorem dX11_translated_32 : decode cX11_translated 32 = .ok (.ifCond .ge 6, 3) := by decide +kernel
theorem dX11_translated_35 : decode cX11_translated 35 = .ok (.bipush (-5), 2) := by decide +kernel
theorem dX11_translated_37 : decode cX11_translated 37 = .ok (.ireturn, 1) := by decide +kernel
theorem dX11_translated_38 : decode cX11_translated 38 = .ok (.aload_n 0, 1) := by decide +kernel
theorem dX11_translated_39 : decode cX11_translated 39 = .ok (.getfield 26, 3) := by decide +kernel
theorem dX11_translated_42 : decode cX11_translated 42 = .ok (.invokevirtual 149, 3) := by decide +kernel
theorem dX11_translated_45 : decode cX11_translated 45 = .ok (.iconst 0, 1) := by decide +kernel
theorem dX11_translated_46 : decode cX11_translated 46 = .ok (.istore 5, 2) := by decide +kernel
theorem dX11_translated_48 : decode cX11_translated 48 = .ok (.iload 5, 2) := by decide +kernel
theorem dX11_translated_50 : decode cX11_translated 50 = .ok (.aload_n 0, 1) := by decide +kernel
theorem dX11_translated_51 : decode cX11_translated 51 = .ok (.getfield 22, 3) := by decide +kernel
theorem dX11_translated_54 : decode cX11_translated 54 = .ok (.invokevirtual 146, 3) := by decide +kernel
theorem dX11_translated_57 : decode cX11_translated 57 = .ok (.if_icmp .ge 61, 3) := by decide +kernel
theorem dX11_translated_60 : decode cX11_translated 60 = .ok (.aload_n 0, 1) := by decide +kernel
theorem dX11_translated_61 : decode cX11_translated 61 = .ok (.getfield 22, 3) := by decide +kernel
theorem dX11_translated_64 : decode cX11_translated 64 = .ok (.iload 5, 2) := by decide +kernel
theorem dX11_translated_66 : decode cX11_translated 66 = .ok (.invokevirtual 159, 3) := by decide +kernel
theorem dX11_translated_69 : decode cX11_translated 69 = .ok (.istore 6, 2) := by decide +kernel
theorem dX11_translated_71 : decode cX11_translated 71 = .ok (.iconst 0, 1) := by decide +kernel
theorem dX11_translated_72 : decode cX11_translated 72 = .ok (.istore 7, 2) := by decide +kernel
theorem dX11_translated_74 : decode cX11_translated 74 = .ok (.iload 7, 2) := by decide +kernel
theorem dX11_translated_76 : decode cX11_translated 76 = .ok (.aload_n 3, 1) := by decide +kernel
theorem dX11_translated_77 : decode cX11_translated 77 = .ok (.iload 6, 2) := by decide +kernel
theorem dX11_translated_79 : decode cX11_translated 79 = .ok (.invokevirtual 139, 3) := by decide +kernel
theorem dX11_translated_82 : decode cX11_translated 82 = .ok (.if_icmp .ge 30, 3) := by decide +kernel
theorem dX11_translated_85 : decode cX11_translated 85 = .ok (.aload_n 0, 1) := by decide +kernel
theorem dX11_translated_86 : decode cX11_translated 86 = .ok (.getfield 26, 3) := by decide +kernel
theorem dX11_translated_89 : decode cX11_translated 89 = .ok (.aload_n 3, 1) := by decide +kernel
theorem dX11_translated_90 : decode cX11_translated 90 = .ok (.iload 6, 2) := by decide +kernel
theorem dX11_translated_92 : decode cX11_translated 92 = .ok (.iload 7, 2) := by decide +kernel
theorem dX11_translated_94 : decode cX11_translated 94 = .ok (.invokevirtual 142, 3) := by decide +kernel
theorem dX11_translated_97 : decode cX11_translated 97 = .ok (.invokevirtual 156, 3) := by decide +kernel
theorem dX11_translated_100 : decode cX11_translated 100 = .ok (.ifCond .ne 6, 3) := by decide +kernel
theorem dX11_translated_103 : decode cX11_translated 103 = .ok (.bipush (-2), 2) := by decide +kernel
theorem dX11_translated_105 : decode cX11_translated 105 = .ok (.ireturn, 1) := by decide +kernel
theorem dX11_translated_106 : decode cX11_translated 106 = .ok (.iinc 7 1, 3) := by decide +kernel
theorem dX11_translated_109 : decode cX11_translated 109 = .ok (.goto (-35), 3) := by decide +kernel
theorem dX11_translated_112 : decode cX11_translated 112 = .ok (.iinc 5 1, 3) := by decide +kernel
theorem dX11_translated_115 : decode cX11_translated 115 = .ok (.goto (-67), 3) := by decide +kernel
theorem dX11_translated_118 : decode cX11_translated 118 = .ok (.aload 4, 2) := by decide +kernel
theorem dX11_translated_120 : decode cX11_translated 120 = .ok (.aload_n 0, 1) := by decide +kernel
theorem dX11_translated_121 : decode cX11_translated 121 = .ok (.getfield 26, 3) := by decide +kernel
theorem dX11_translated_124 : decode cX11_translated 124 = .ok (.invokevirtual 162, 3) := by decide +kernel
theorem dX11_translated_127 : decode cX11_translated 127 = .ok (.ireturn, 1) := by decide +kernel
set_option maxRecDepth 100000 in
set_option maxHeartbeats 4000000 in
theorem t11_translated_h74 (G : Gm) (t : Nat) (N : Nat) (a3 : Nat) (a4 : Nat) (x5 : Int32) (x6 : Int32) (h3 : a3 ∈ ad3) (h4 : a4 ∈ ad3) (k48 : Int32 → St → Option (Int32 × St)) (hk48 : ∀ (yx5 : Int32) (S : St), J G YX11_translated 4 0 0 (fI t) 0 0 48 [some (vR (some 0)), none, none, some (vR (some a3)), some (vR (some a4)), some (vI yx5), none, none] [] (MM t S) (k48 yx5 S)) : ∀ (n : Nat) (x7 : Int32) (S : St), J G YX11_translated 4 0 0 (fI t) 0 0 74 [some (vR (some 0)), none, none, some (vR (some a3)), some (vR (some a4)), some (vI x5), some (vI x6), some (vI x7)] [] (MM t S) (f11_translated_h74 N a3 a4 x5 x6 k48 n x7 S) := by
  intro n
  induction n with
  | zero => intro x7 S; exact J_none
  | succ n ih =>
    intro x7 S
    rw [f11_translated_h74]
    refine J_iload dX11_translated_74 rfl ?_
    refine J_aload_n dX11_translated_76 rfl rfl ?_
    refine J_iload dX11_translated_77 rfl ?_
    refine K_callV_i (As := [vI x6]) mcX3_writtenLength mlX11_139 rfl (by decide) (sq3_0 h3) (ct3_writtenLength G t a3 x6 h3 S) rfl rfl (Nat.le_of_ble_eq_true rfl) (by decide) (Nat.le_of_ble_eq_true rfl) dX11_translated_79 (fun q1 S2 => ?_)
    refine J_icmp_ge (tgt := 112) dX11_translated_82 (by decide) (fun z3 => ?_) (fun z3 => ?_)
    · refine J_iinc (v := x5 + nI 1) [some (vR (some 0)), none, none, some (vR (some a3)), some (vR (some a4)), some (vI (x5 + nI 1)), some (vI x6), some (vI x7)] dX11_translated_112 rfl rfl (Nat.le_of_ble_eq_true rfl) rfl rfl ?_
      refine J_goto (tgt := 48) dX11_translated_115 (by decide) ?_
      exact J_sb (hk48 (x5 + nI 1) S2) (And.intro rfl (And.intro rfl (And.intro rfl (And.intro rfl (trivial)))))
    · refine J_aload_n dX11_translated_85 rfl rfl ?_
      refine K_getR (r := some (4)) cf11 flX11_26 (sq 0 rfl) rfl (Or.inl ⟨_, rfl⟩) dX11_translated_86 ?_
      refine J_aload_n dX11_translated_89 rfl rfl ?_
      refine J_iload dX11_translated_90 rfl ?_
      refine J_iload dX11_translated_92 rfl ?_
      refine K_callV_i (As := [vI x6, vI x7]) mcX3_written mlX11_142 rfl (by decide) (sq3_0 h3) (ct3_written G t a3 x6 x7 h3 S2) rfl rfl (Nat.le_of_ble_eq_true rfl) (by decide) (Nat.le_of_ble_eq_true rfl) dX11_translated_94 (fun q4 S5 => ?_)
      refine K_callV_i (As := [vI q4]) mcX6_push mlX11_156 rfl (by decide) (sq 4 rfl) (ct6_push G t 4 q4 (by decide) S5) rfl rfl (Nat.le_of_ble_eq_true rfl) (by decide) (Nat.le_of_ble_eq_true rfl) dX11_translated_97 (fun q6 S7 => ?_)
      refine J_if_ne (tgt := 106) dX11_translated_100 (by decide) (fun z8 => ?_) (fun z8 => ?_)
      · refine J_bipush (v := (-2)) dX11_translated_103 (by decide) ?_
        exact J_ireturn rfl (Nat.le_refl _) (Nat.le_refl _) rfl dX11_translated_105
      · refine J_iinc (v := x7 + nI 1) [some (vR (some 0)), none, none, some (vR (some a3)), some (vR (some a4)), some (vI x5), some (vI x6), some (vI (x7 + nI 1))] dX11_translated_106 rfl rfl (Nat.le_of_ble_eq_true rfl) rfl rfl ?_
        refine J_goto (tgt := 74) dX11_translated_109 (by decide) ?_
        exact J_sb (ih (x7 + nI 1) S7) (And.intro rfl (And.intro rfl (And.intro rfl (And.intro rfl (And.intro rfl (And.intro rfl (trivial)))))))
set_option maxRecDepth 100000 in
set_option maxHeartbeats 4000000 in
theorem t11_translated_h48 (G : Gm) (t : Nat) (N : Nat) (a3 : Nat) (a4 : Nat) (h3 : a3 ∈ ad3) (h4 : a4 ∈ ad3)   : ∀ (n : Nat) (x5 : Int32) (S : St), J G YX11_translated 4 0 0 (fI t) 0 0 48 [some (vR (some 0)), none, none, some (vR (some a3)), some (vR (some a4)), some (vI x5), none, none] [] (MM t S) (f11_translated_h48 N a3 a4 n x5 S) := by
  intro n
  induction n with
  | zero => intro x5 S; exact J_none
  | succ n ih =>
    intro x5 S
    rw [f11_translated_h48]
    refine J_iload dX11_translated_48 rfl ?_
    refine J_aload_n dX11_translated_50 rfl rfl ?_
    refine K_getR (r := some (2)) cf11 flX11_22 (sq 0 rfl) rfl (Or.inl ⟨_, rfl⟩) dX11_translated_51 ?_
    refine K_callV_i (As := []) mcX6_length mlX11_146 rfl (by decide) (sq 2 rfl) (ct6_length G t 2 (by decide) S) rfl rfl (Nat.le_of_ble_eq_true rfl) (by decide) (Nat.le_of_ble_eq_true rfl) dX11_translated_54 (fun q1 S2 => ?_)
    refine J_icmp_ge (tgt := 118) dX11_translated_57 (by decide) (fun z3 => ?_) (fun z3 => ?_)
    · refine J_aload dX11_translated_118 rfl ?_
      refine J_aload_n dX11_translated_120 rfl rfl ?_
      refine K_getR (r := some (4)) cf11 flX11_26 (sq 0 rfl) rfl (Or.inl ⟨_, rfl⟩) dX11_translated_121 ?_
      refine K_callV_i (As := [vR (some 4)]) mcX3_sizeOf mlX11_162 rfl (by decide) (sq3_0 h4) (ct3_sizeOf G t N a4 4 h4 (by decide) S2) rfl rfl (Nat.le_of_ble_eq_true rfl) (by decide) (Nat.le_of_ble_eq_true rfl) dX11_translated_124 (fun q4 S5 => ?_)
      exact J_ireturn rfl (Nat.le_refl _) (Nat.le_refl _) rfl dX11_translated_127
    · refine J_aload_n dX11_translated_60 rfl rfl ?_
      refine K_getR (r := some (2)) cf11 flX11_22 (sq 0 rfl) rfl (Or.inl ⟨_, rfl⟩) dX11_translated_61 ?_
      refine J_iload dX11_translated_64 rfl ?_
      refine K_callV_i (As := [vI x5]) mcX6_orderAt mlX11_159 rfl (by decide) (sq 2 rfl) (ct6_orderAt G t 2 x5 (by decide) S2) rfl rfl (Nat.le_of_ble_eq_true rfl) (by decide) (Nat.le_of_ble_eq_true rfl) dX11_translated_66 (fun q6 S7 => ?_)
      refine J_istore [some (vR (some 0)), none, none, some (vR (some a3)), some (vR (some a4)), some (vI x5), some (vI q6), none] dX11_translated_69 (Nat.le_of_ble_eq_true rfl) rfl rfl ?_
      refine J_iconst (v := nI 0) dX11_translated_71 (by decide) ?_
      refine J_istore [some (vR (some 0)), none, none, some (vR (some a3)), some (vR (some a4)), some (vI x5), some (vI q6), some (vI (nI 0))] dX11_translated_72 (Nat.le_of_ble_eq_true rfl) rfl rfl ?_
      exact J_sb (t11_translated_h74 G t N a3 a4 x5 q6 h3 h4 (f11_translated_h48 N a3 a4 n) ih N (nI 0) S7) (And.intro rfl (And.intro rfl (And.intro rfl (And.intro rfl (And.intro rfl (And.intro rfl (trivial)))))))
set_option maxRecDepth 100000 in
set_option maxHeartbeats 4000000 in
theorem ct11_translated (G : Gm) (t : Nat) (N : Nat) (x1 : Int32) (x2 : Int32)  (S : St) : Ct G YX11_translated yX11_translated 4 0 0 (fI t) (f11_translated N x1 x2 S) [vR (some 0), vI x1, vI x2] (MM t S) := by
  refine Ct_of_J [some (vR (some 0)), some (vI x1), some (vI x2), none, none, none, none, none] (by decide) rfl (fun h => by cases h) (Nat.le_of_ble_eq_true rfl) (And.intro rfl (And.intro rfl (And.intro rfl (trivial)))) ?_
  unfold f11_translated
  refine J_aload_n dX11_translated_0 rfl rfl ?_
  refine J_iload_n dX11_translated_1 rfl rfl ?_
  refine K_callV_r (As := [vI x1]) mcX11_languageAt mlX11_118 rfl (by decide) (sq 0 rfl) (ct11_languageAt G t x1 S) rfl rfl (Nat.le_of_ble_eq_true rfl) (by decide) (Nat.le_of_ble_eq_true rfl) dX11_translated_2 (fun q1 S2 => ?_)
  refine J_astore_n [some (vR (some 0)), some (vI x1), some (vI x2), some (vR q1), none, none, none, none] dX11_translated_5 rfl (Nat.le_of_ble_eq_true rfl) rfl rfl ?_
  refine J_aload_n dX11_translated_6 rfl rfl ?_
  refine J_iload_n dX11_translated_7 rfl rfl ?_
  refine K_callV_r (As := [vI x2]) mcX11_languageAt mlX11_118 rfl (by decide) (sq 0 rfl) (ct11_languageAt G t x2 S2) rfl rfl (Nat.le_of_ble_eq_true rfl) (by decide) (Nat.le_of_ble_eq_true rfl) dX11_translated_8 (fun q3 S4 => ?_)
  refine J_astore [some (vR (some 0)), some (vI x1), some (vI x2), some (vR q1), some (vR q3), none, none, none] dX11_translated_11 (Nat.le_of_ble_eq_true rfl) rfl rfl ?_
  refine J_aload_n dX11_translated_13 rfl rfl ?_
  refine J_ifnull (tgt := 22) dX11_translated_14 (by decide) (fun hr => ?_) (fun b5 hr => ?_)
  · subst hr
    refine J_iconst (v := (-1)) dX11_translated_22 (by decide) ?_
    exact J_ireturn rfl (Nat.le_refl _) (Nat.le_refl _) rfl dX11_translated_23
  · subst hr
    refine J_ckA (fun hb5 => ?_)
    refine J_aload dX11_translated_17 rfl ?_
    refine J_ifnonnull (tgt := 24) dX11_translated_19 (by decide) (fun hr => ?_) (fun b6 hr => ?_)
    · subst hr
      refine J_iconst (v := (-1)) dX11_translated_22 (by decide) ?_
      exact J_ireturn rfl (Nat.le_refl _) (Nat.le_refl _) rfl dX11_translated_23
    · subst hr
      refine J_ckA (fun hb6 => ?_)
      refine J_aload_n dX11_translated_24 rfl rfl ?_
      refine J_aload_n dX11_translated_25 rfl rfl ?_
      refine K_getR (r := some (2)) cf11 flX11_22 (sq 0 rfl) rfl (Or.inl ⟨_, rfl⟩) dX11_translated_26 ?_
      refine K_callV_i (As := [vR (some 2)]) mcX3_sizeOf mlX11_162 rfl (by decide) (sq3_0 hb5) (ct3_sizeOf G t N b5 2 hb5 (by decide) S4) rfl rfl (Nat.le_of_ble_eq_true rfl) (by decide) (Nat.le_of_ble_eq_true rfl) dX11_translated_29 (fun q7 S8 => ?_)
      refine J_if_ge (tgt := 38) dX11_translated_32 (by decide) (fun z9 => ?_) (fun z9 => ?_)
      · refine J_aload_n dX11_translated_38 rfl rfl ?_
        refine K_getR (r := some (4)) cf11 flX11_26 (sq 0 rfl) rfl (Or.inl ⟨_, rfl⟩) dX11_translated_39 ?_
        refine K_callV_v (As := []) mcX6_beEmpty mlX11_149 rfl (by decide) (sq 4 rfl) (ct6_beEmpty G t 4 (by decide) S8) rfl rfl (Nat.le_of_ble_eq_true rfl) (by decide) (Nat.le_of_ble_eq_true rfl) dX11_translated_42 (fun q10 S11 => ?_)
        refine J_iconst (v := nI 0) dX11_translated_45 (by decide) ?_
        refine J_istore [some (vR (some 0)), some (vI x1), some (vI x2), some (vR (some b5)), some (vR (some b6)), some (vI (nI 0)), none, none] dX11_translated_46 (Nat.le_of_ble_eq_true rfl) rfl rfl ?_
        exact J_sb (t11_translated_h48 G t N b5 b6 hb5 hb6 N (nI 0) S11) (And.intro rfl (And.intro rfl (And.intro rfl (And.intro rfl (trivial)))))
      · refine J_bipush (v := (-5)) dX11_translated_35 (by decide) ?_
        exact J_ireturn rfl (Nat.le_refl _) (Nat.le_refl _) rfl dX11_translated_37
theorem dX11_languageOfOrder_0 : decode cX11_languageOfOrder 0 = .ok (.iload_n 1, 1) := by decide +kernel
theorem dX11_languageOfOrder_1 : decode cX11_languageOfOrder 1 = .ok (.ifCond .ge 7, 3) := by decide +kernel
theorem dX11_languageOfOrder_4 : decode cX11_languageOfOrder 4 = .ok (.aconst_null, 1) := by decide +kernel
theorem dX11_languageOfOrder_5 : decode cX11_languageOfOrder 5 = .ok (.goto 11, 3) := by decide +kernel
theorem dX11_languageOfOrder_8 : decode cX11_languageOfOrder 8 = .ok (.aload_n 0, 1) := by decide +kernel
theorem dX11_languageOfOrder_9 : decode cX11_languageOfOrder 9 = .ok (.iload_n 1, 1) := by decide +kernel
theorem dX11_languageOfOrder_10 : decode cX11_languageOfOrder 10 = .ok (.bipush 100, 2) := by decide +kernel
theorem dX11_languageOfOrder_12 : decode cX11_languageOfOrder 12 = .ok (.idiv, 1) := by decide +kernel
theorem dX11_languageOfOrder_13 : decode cX11_languageOfOrder 13 = .ok (.invokevirtual 118, 3) := by decide +kernel
theorem dX11_languageOfOrder_16 : decode cX11_languageOfOrder 16 = .ok (.astore_n 2, 1) := by decide +kernel
theorem dX11_languageOfOrder_17 : decode cX11_languageOfOrder 17 = .ok (.aload_n 2, 1) := by decide +kernel
theorem dX11_languageOfOrder_18 : decode cX11_languageOfOrder 18 = .ok (.ifnull 18, 3) := by decide +kernel
theorem dX11_languageOfOrder_21 : decode cX11_languageOfOrder 21 = .ok (.aload_n 2, 1) := by decide +kernel
theorem dX11_languageOfOrder_22 : decode cX11_languageOfOrder 22 = .ok (.iload_n 1, 1) := by decide +kernel
theorem dX11_languageOfOrder_23 : decode cX11_languageOfOrder 23 = .ok (.bipush 100, 2) := by decide +kernel
theorem dX11_languageOfOrder_25 : decode cX11_languageOfOrder 25 = .ok (.irem, 1) := by decide +kernel
theorem dX11_languageOfOrder_26 : decode cX11_languageOfOrder 26 = .ok (.invokevirtual 129, 3) := by decide +kernel
theorem dX11_languageOfOrder_29 : decode cX11_languageOfOrder 29 = .ok (.ifCond .eq 7, 3) := by decide +kernel
theorem dX11_languageOfOrder_32 : decode cX11_languageOfOrder 32 = .ok (.aload_n 2, 1) := by decide +kernel
theorem dX11_languageOfOrder_33 : decode cX11_languageOfOrder 33 = .ok (.goto 4, 3) := by decide +kernel
theorem dX11_languageOfOrder_36 : decode cX11_languageOfOrder 36 = .ok (.aconst_null, 1) := by decide +kernel
theorem dX11_languageOfOrder_37 : decode cX11_languageOfOrder 37 = .ok (.areturn, 1) := by decide +kernel
set_option maxRecDepth 100000 in
set_option maxHeartbeats 4000000 in
theorem t11_languageOfOrder_j16 (G : Gm) (t : Nat)  (x1 : Int32)    : ∀ (rs0 : Option Nat) (S : St), J G YX11_languageOfOrder 2 0 0 (fR t) 0 0 16 [none, some (vI x1), none] [vR rs0] (MM t S) (f11_languageOfOrder_j16 x1 rs0 S) := by
  intro rs0 S
  unfold f11_languageOfOrder_j16
  refine J_astore_n [none, some (vI x1), some (vR rs0)] dX11_languageOfOrder_16 rfl (Nat.le_of_ble_eq_true rfl) rfl rfl ?_
  refine J_aload_n dX11_languageOfOrder_17 rfl rfl ?_
  refine J_ifnull (tgt := 36) dX11_languageOfOrder_18 (by decide) (fun hr => ?_) (fun b1 hr => ?_)
  · subst hr
    refine J_aconst_null dX11_languageOfOrder_36 ?_
    exact J_areturn rfl (Nat.le_refl _) (Nat.le_refl _) rfl dX11_languageOfOrder_37
  · subst hr
    refine J_ckA (fun hb1 => ?_)
    refine J_aload_n dX11_languageOfOrder_21 rfl rfl ?_
    refine J_iload_n dX11_languageOfOrder_22 rfl rfl ?_
    refine J_bipush (v := nI 100) dX11_languageOfOrder_23 (by decide) ?_
    refine J_irem (by decide) dX11_languageOfOrder_25 ?_
    refine K_callV_i (As := [vI (remI x1 (nI 100))]) mcX3_has mlX11_129 rfl (by decide) (sq3_0 hb1) (ct3_has G t b1 (remI x1 (nI 100)) hb1 S) rfl rfl (Nat.le_of_ble_eq_true rfl) (by decide) (Nat.le_of_ble_eq_true rfl) dX11_languageOfOrder_26 (fun q2 S3 => ?_)
    refine J_if_eq (tgt := 36) dX11_languageOfOrder_29 (by decide) (fun z4 => ?_) (fun z4 => ?_)
    · refine J_aconst_null dX11_languageOfOrder_36 ?_
      exact J_areturn rfl (Nat.le_refl _) (Nat.le_refl _) rfl dX11_languageOfOrder_37
    · refine J_aload_n dX11_languageOfOrder_32 rfl rfl ?_
      refine J_goto (tgt := 37) dX11_languageOfOrder_33 (by decide) ?_
      exact J_areturn rfl (Nat.le_refl _) (Nat.le_refl _) rfl dX11_languageOfOrder_37
set_option maxRecDepth 100000 in
set_option maxHeartbeats 4000000 in
theorem ct11_languageOfOrder (G : Gm) (t : Nat)  (x1 : Int32)  (S : St) : Ct G YX11_languageOfOrder yX11_languageOfOrder 2 0 0 (fR t) (f11_languageOfOrder x1 S) [vR (some 0), vI x1] (MM t S) := by
  refine Ct_of_J [some (vR (some 0)), some (vI x1), none] (by decide) rfl (fun h => by cases h) (Nat.le_of_ble_eq_true rfl) (And.intro rfl (And.intro rfl (trivial))) ?_
  unfold f11_languageOfOrder
  refine J_iload_n dX11_languageOfOrder_0 rfl rfl ?_
  refine J_if_ge (tgt := 8) dX11_languageOfOrder_1 (by decide) (fun z1 => ?_) (fun z1 => ?_)
  · refine J_aload_n dX11_languageOfOrder_8 rfl rfl ?_
    refine J_iload_n dX11_languageOfOrder_9 rfl rfl ?_
    refine J_bipush (v := nI 100) dX11_languageOfOrder_10 (by decide) ?_
    refine J_idiv (by decide) dX11_languageOfOrder_12 ?_
    refine K_callV_r (As := [vI (x1 / (nI 100))]) mcX11_languageAt mlX11_118 rfl (by decide) (sq 0 rfl) (ct11_languageAt G t (x1 / (nI 100)) S) rfl rfl (Nat.le_of_ble_eq_true rfl) (by decide) (Nat.le_of_ble_eq_true rfl) dX11_languageOfOrder_13 (fun q2 S3 => ?_)
    exact J_sb (t11_languageOfOrder_j16 G t x1 q2 S3) (And.intro rfl (trivial))
  · refine J_aconst_null dX11_languageOfOrder_4 ?_
    refine J_goto (tgt := 16) dX11_languageOfOrder_5 (by decide) ?_
    exact J_sb (t11_languageOfOrder_j16 G t x1 none S) (And.intro rfl (trivial))
theorem dX11_act_0 : decode cX11_act 0 = .ok (.aload_n 0, 1) := by decide +kernel
theorem dX11_act_1 : decode cX11_act 1 = .ok (.getfield 97, 3) := by decide +kernel
theorem dX11_act_4 : decode cX11_act 4 = .ok (.invokevirtual 331, 3) := by decide +kernel
theorem dX11_act_7 : decode cX11_act 7 = .ok (.aload_n 0, 1) := by decide +kernel
theorem dX11_act_8 : decode cX11_act 8 = .ok (.iload_n 1, 1) := by decide +kernel
theorem dX11_act_9 : decode cX11_act 9 = .ok (.invokevirtual 332, 3) := by decide +kernel
theorem dX11_act_12 : decode cX11_act 12 = .ok (.astore 4, 2) := by decide +kernel
theorem dX11_act_14 : decode cX11_act 14 = .ok (.aload 4, 2) := by decide +kernel
theorem dX11_act_16 : decode cX11_act 16 = .ok (.ifnull 12, 3) := by decide +kernel
theorem dX11_act_19 : decode cX11_act 19 = .ok (.iload_n 2, 1) := by decide +kernel
theorem dX11_act_20 : decode cX11_act 20 = .ok (.ifCond .lt 8, 3) := by decide +kernel
theorem dX11_act_23 : decode cX11_act 23 = .ok (.iload_n 2, 1) := by decide +kernel
theorem dX11_act_24 : decode cX11_act 24 = .ok (.iconst 3, 1) := by decide +kernel
theorem dX11_act_25 : decode cX11_act 25 = .ok (.if_icmp .le 5, 3) := by decide +kernel
theorem dX11_act_28 : decode cX11_act 28 = .ok (.iconst 0, 1) := by decide +kernel
theorem dX11_act_29 : decode cX11_act 29 = .ok (.ireturn, 1) := by decide +kernel
theorem dX11_act_30 : decode cX11_act 30 = .ok (.aload_n 0, 1) := by decide +kernel
theorem dX11_act_31 : decode cX11_act 31 = .ok (.getfield 97, 3) := by decide +kernel
theorem dX11_act_34 : decode cX11_act 34 = .ok (.iload_n 1, 1) := by decide +kernel
theorem dX11_act_35 : decode cX11_act 35 = .ok (.bipush 100, 2) := by decide +kernel
theorem dX11_act_37 : decode cX11_act 37 = .ok (.irem, 1) := by decide +kernel
theorem dX11_act_38 : decode cX11_act 38 = .ok (.aload 4, 2) := by decide +kernel
theorem dX11_act_40 : decode cX11_act 40 = .ok (.iload_n 1, 1) := by decide +kernel
theorem dX11_act_41 : decode cX11_act 41 = .ok (.bipush 100, 2) := by decide +kernel
theorem dX11_act_43 : decode cX11_act 43 = .ok (.irem, 1) := by decide +kernel
theorem dX11_act_44 : decode cX11_act 44 = .ok (.invokevirtual 133, 3) := by decide +kernel
theorem dX11_act_47 : decode cX11_act 47 = .ok (.iload_n 2, 1) := by decide +kernel
theorem dX11_act_48 : decode cX11_act 48 = .ok (.iload_n 3, 1) := by decide +kernel
theorem dX11_act_49 : decode cX11_act 49 = .ok (.invokevirtual 335, 3) := by decide +kernel
theorem dX11_act_52 : decode cX11_act 52 = .ok (.ireturn, 1) := by decide +kernel
set_option maxRecDepth 100000 in
set_option maxHeartbeats 4000000 in
theorem ct11_act (G : Gm) (t : Nat) (N : Nat) (x1 : Int32) (x2 : Int32) (x3 : Int32)  (S : St) : Ct G YX11_act yX11_act 41 0 0 (fI t) (f11_act N x1 x2 x3 S) [vR (some 0), vI x1, vI x2, vI x3] (MM t S) := by
  refine Ct_of_J [some (vR (some 0)), some (vI x1), some (vI x2), some (vI x3), none] (by decide) rfl (fun h => by cases h) (Nat.le_of_ble_eq_true rfl) (And.intro rfl (And.intro rfl (And.intro rfl (And.intro rfl (trivial))))) ?_
  unfold f11_act
  refine J_aload_n dX11_act_0 rfl rfl ?_
  refine K_getR (r := some (37)) cf11 flX11_97 (sq 0 rfl) rfl (Or.inl ⟨_, rfl⟩) dX11_act_1 ?_
  refine K_callV_v (As := []) mcX0_beEmpty mlX11_331 rfl (by decide) (sq 37 rfl) (ct0_beEmpty G t S) rfl rfl (Nat.le_of_ble_eq_true rfl) (by decide) (Nat.le_of_ble_eq_true rfl) dX11_act_4 (fun q1 S2 => ?_)
  refine J_aload_n dX11_act_7 rfl rfl ?_
  refine J_iload_n dX11_act_8 rfl rfl ?_
  refine K_callV_r (As := [vI x1]) mcX11_languageOfOrder mlX11_332 rfl (by decide) (sq 0 rfl) (ct11_languageOfOrder G t x1 S2) rfl rfl (Nat.le_of_ble_eq_true rfl) (by decide) (Nat.le_of_ble_eq_true rfl) dX11_act_9 (fun q3 S4 => ?_)
  refine J_astore [some (vR (some 0)), some (vI x1), some (vI x2), some (vI x3), some (vR q3)] dX11_act_12 (Nat.le_of_ble_eq_true rfl) rfl rfl ?_
  refine J_aload dX11_act_14 rfl ?_
  refine J_ifnull (tgt := 28) dX11_act_16 (by decide) (fun hr => ?_) (fun b5 hr => ?_)
  · subst hr
    refine J_iconst (v := nI 0) dX11_act_28 (by decide) ?_
    exact J_ireturn rfl (Nat.le_refl _) (Nat.le_refl _) rfl dX11_act_29
  · subst hr
    refine J_ckA (fun hb5 => ?_)
    refine J_iload_n dX11_act_19 rfl rfl ?_
    refine J_if_lt (tgt := 28) dX11_act_20 (by decide) (fun z6 => ?_) (fun z6 => ?_)
    · refine J_iconst (v := nI 0) dX11_act_28 (by decide) ?_
      exact J_ireturn rfl (Nat.le_refl _) (Nat.le_refl _) rfl dX11_act_29
    · refine J_iload_n dX11_act_23 rfl rfl ?_
      refine J_iconst (v := nI 3) dX11_act_24 (by decide) ?_
      refine J_icmp_le (tgt := 30) dX11_act_25 (by decide) (fun z7 => ?_) (fun z7 => ?_)
      · refine J_aload_n dX11_act_30 rfl rfl ?_
        refine K_getR (r := some (37)) cf11 flX11_97 (sq 0 rfl) rfl (Or.inl ⟨_, rfl⟩) dX11_act_31 ?_
        refine J_iload_n dX11_act_34 rfl rfl ?_
        refine J_bipush (v := nI 100) dX11_act_35 (by decide) ?_
        refine J_irem (by decide) dX11_act_37 ?_
        refine J_aload dX11_act_38 rfl ?_
        refine J_iload_n dX11_act_40 rfl rfl ?_
        refine J_bipush (v := nI 100) dX11_act_41 (by decide) ?_
        refine J_irem (by decide) dX11_act_43 ?_
        refine K_callV_i (As := [vI (remI x1 (nI 100))]) mcX3_bitsOf mlX11_133 rfl (by decide) (sq3_0 hb5) (ct3_bitsOf G t b5 (remI x1 (nI 100)) hb5 S4) rfl rfl (Nat.le_of_ble_eq_true rfl) (by decide) (Nat.le_of_ble_eq_true rfl) dX11_act_44 (fun q8 S9 => ?_)
        refine J_iload_n dX11_act_47 rfl rfl ?_
        refine J_iload_n dX11_act_48 rfl rfl ?_
        refine K_callV_i (As := [vI (remI x1 (nI 100)), vI q8, vI x2, vI x3]) mcX0_perform mlX11_335 rfl (by decide) (sq 37 rfl) (ct0_perform G t N (remI x1 (nI 100)) q8 x2 x3 S9) rfl rfl (Nat.le_of_ble_eq_true rfl) (by decide) (Nat.le_of_ble_eq_true rfl) dX11_act_49 (fun q10 S11 => ?_)
        exact J_ireturn rfl (Nat.le_refl _) (Nat.le_refl _) rfl dX11_act_52
      · refine J_iconst (v := nI 0) dX11_act_28 (by decide) ?_
        exact J_ireturn rfl (Nat.le_refl _) (Nat.le_refl _) rfl dX11_act_29
theorem dX11_trace_0 : decode cX11_trace 0 = .ok (.aload_n 0, 1) := by decide +kernel
theorem dX11_trace_1 : decode cX11_trace 1 = .ok (.getfield 97, 3) := by decide +kernel
theorem dX11_trace_4 : decode cX11_trace 4 = .ok (.iload_n 1, 1) := by decide +kernel
theorem dX11_trace_5 : decode cX11_trace 5 = .ok (.invokevirtual 339, 3) := by decide +kernel
theorem dX11_trace_8 : decode cX11_trace 8 = .ok (.ireturn, 1) := by decide +kernel
set_option maxRecDepth 100000 in
set_option maxHeartbeats 4000000 in
theorem ct11_trace (G : Gm) (t : Nat)  (x1 : Int32)  (S : St) : Ct G YX11_trace yX11_trace 2 0 0 (fI t) (f11_trace x1 S) [vR (some 0), vI x1] (MM t S) := by
  refine Ct_of_J [some (vR (some 0)), some (vI x1)] (by decide) rfl (fun h => by cases h) (Nat.le_of_ble_eq_true rfl) (And.intro rfl (And.intro rfl (trivial))) ?_
  unfold f11_trace
  refine J_aload_n dX11_trace_0 rfl rfl ?_
  refine K_getR (r := some (37)) cf11 flX11_97 (sq 0 rfl) rfl (Or.inl ⟨_, rfl⟩) dX11_trace_1 ?_
  refine J_iload_n dX11_trace_4 rfl rfl ?_
  refine K_callV_i (As := [vI x1]) mcX0_keptAt mlX11_339 rfl (by decide) (sq 37 rfl) (ct0_keptAt G t x1 S) rfl rfl (Nat.le_of_ble_eq_true rfl) (by decide) (Nat.le_of_ble_eq_true rfl) dX11_trace_5 (fun q1 S2 => ?_)
  exact J_ireturn rfl (Nat.le_refl _) (Nat.le_refl _) rfl dX11_trace_8
theorem dX11_keep_0 : decode cX11_keep 0 = .ok (.aload_n 0, 1) := by decide +kernel
theorem dX11_keep_1 : decode cX11_keep 1 = .ok (.getfield 104, 3) := by decide +kernel
theorem dX11_keep_4 : decode cX11_keep 4 = .ok (.iload_n 1, 1) := by decide +kernel
theorem dX11_keep_5 : decode cX11_keep 5 = .ok (.invokevirtual 166, 3) := by decide +kernel
theorem dX11_keep_8 : decode cX11_keep 8 = .ok (.ifCond .ne 5, 3) := by decide +kernel
theorem dX11_keep_11 : decode cX11_keep 11 = .ok (.iconst (-1), 1) := by decide +kernel
theorem dX11_keep_12 : decode cX11_keep 12 = .ok (.ireturn, 1) := by decide +kernel
theorem dX11_keep_13 : decode cX11_keep 13 = .ok (.iload_n 2, 1) := by decide +kernel
theorem dX11_keep_14 : decode cX11_keep 14 = .ok (.iconst (-1), 1) := by decide +kernel
theorem dX11_keep_15 : decode cX11_keep 15 = .ok (.if_icmp .ne 13, 3) := by decide +kernel
theorem dX11_keep_18 : decode cX11_keep 18 = .ok (.aload_n 0, 1) := by decide +kernel
theorem dX11_keep_19 : decode cX11_keep 19 = .ok (.getfield 104, 3) := by decide +kernel
theorem dX11_keep_22 : decode cX11_keep 22 = .ok (.iload_n 1, 1) := by decide +kernel
theorem dX11_keep_23 : decode cX11_keep 23 = .ok (.invokevirtual 342, 3) := by decide +kernel
theorem dX11_keep_26 : decode cX11_keep 26 = .ok (.iconst 1, 1) := by decide +kernel
theorem dX11_keep_27 : decode cX11_keep 27 = .ok (.ireturn, 1) := by decide +kernel
theorem dX11_keep_28 : decode cX11_keep 28 = .ok (.aload_n 0, 1) := by decide +kernel
theorem dX11_keep_29 : decode cX11_keep 29 = .ok (.iload_n 2, 1) := by decide +kernel
theorem dX11_keep_30 : decode cX11_keep 30 = .ok (.invokevirtual 332, 3) := by decide +kernel
theorem dX11_keep_33 : decode cX11_keep 33 = .ok (.ifnonnull 5, 3) := by decide +kernel
theorem dX11_keep_36 : decode cX11_keep 36 = .ok (.iconst (-1), 1) := by decide +kernel
theorem dX11_keep_37 : decode cX11_keep 37 = .ok (.ireturn, 1) := by decide +kernel
theorem dX11_keep_38 : decode cX11_keep 38 = .ok (.aload_n 0, 1) := by decide +kernel
theorem dX11_keep_39 : decode cX11_keep 39 = .ok (.getfield 104, 3) := by decide +kernel
theorem dX11_keep_42 : decode cX11_keep 42 = .ok (.iload_n 1, 1) := by decide +kernel
theorem dX11_keep_43 : decode cX11_keep 43 = .ok (.iload_n 2, 1) := by decide +kernel
theorem dX11_keep_44 : decode cX11_keep 44 = .ok (.invokevirtual 345, 3) := by decide +kernel
theorem dX11_keep_47 : decode cX11_keep 47 = .ok (.iconst 1, 1) := by decide +kernel
theorem dX11_keep_48 : decode cX11_keep 48 = .ok (.ireturn, 1) := by decide +kernel
set_option maxRecDepth 100000 in
set_option maxHeartbeats 4000000 in
theorem ct11_keep (G : Gm) (t : Nat)  (x1 : Int32) (x2 : Int32)  (S : St) : Ct G YX11_keep yX11_keep 4 0 0 (fI t) (f11_keep x1 x2 S) [vR (some 0), vI x1, vI x2] (MM t S) := by
  refine Ct_of_J [some (vR (some 0)), some (vI x1), some (vI x2)] (by decide) rfl (fun h => by cases h) (Nat.le_of_ble_eq_true rfl) (And.intro rfl (And.intro rfl (And.intro rfl (trivial)))) ?_
  unfold f11_keep
  refine J_aload_n dX11_keep_0 rfl rfl ?_
  refine K_getR (r := some (39)) cf11 flX11_104 (sq 0 rfl) rfl (Or.inl ⟨_, rfl⟩) dX11_keep_1 ?_
  refine J_iload_n dX11_keep_4 rfl rfl ?_
  refine K_callV_i (As := [vI x1]) mcX8_isShelf mlX11_166 rfl (by decide) (sq 39 rfl) (ct8_isShelf G t x1 S) rfl rfl (Nat.le_of_ble_eq_true rfl) (by decide) (Nat.le_of_ble_eq_true rfl) dX11_keep_5 (fun q1 S2 => ?_)
  refine J_if_ne (tgt := 13) dX11_keep_8 (by decide) (fun z3 => ?_) (fun z3 => ?_)
  · refine J_iconst (v := (-1)) dX11_keep_11 (by decide) ?_
    exact J_ireturn rfl (Nat.le_refl _) (Nat.le_refl _) rfl dX11_keep_12
  · refine J_iload_n dX11_keep_13 rfl rfl ?_
    refine J_iconst (v := (-1)) dX11_keep_14 (by decide) ?_
    refine J_icmp_ne (tgt := 28) dX11_keep_15 (by decide) (fun z4 => ?_) (fun z4 => ?_)
    · refine J_aload_n dX11_keep_18 rfl rfl ?_
      refine K_getR (r := some (39)) cf11 flX11_104 (sq 0 rfl) rfl (Or.inl ⟨_, rfl⟩) dX11_keep_19 ?_
      refine J_iload_n dX11_keep_22 rfl rfl ?_
      refine K_callV_v (As := [vI x1]) mcX8_holdNothing mlX11_342 rfl (by decide) (sq 39 rfl) (ct8_holdNothing G t x1 S2) rfl rfl (Nat.le_of_ble_eq_true rfl) (by decide) (Nat.le_of_ble_eq_true rfl) dX11_keep_23 (fun q10 S11 => ?_)
      refine J_iconst (v := nI 1) dX11_keep_26 (by decide) ?_
      exact J_ireturn rfl (Nat.le_refl _) (Nat.le_refl _) rfl dX11_keep_27
    · refine J_aload_n dX11_keep_28 rfl rfl ?_
      refine J_iload_n dX11_keep_29 rfl rfl ?_
      refine K_callV_r (As := [vI x2]) mcX11_languageOfOrder mlX11_332 rfl (by decide) (sq 0 rfl) (ct11_languageOfOrder G t x2 S2) rfl rfl (Nat.le_of_ble_eq_true rfl) (by decide) (Nat.le_of_ble_eq_true rfl) dX11_keep_30 (fun q5 S6 => ?_)
      refine J_ifnonnull (tgt := 38) dX11_keep_33 (by decide) (fun hr => ?_) (fun b7 hr => ?_)
      · subst hr
        refine J_iconst (v := (-1)) dX11_keep_36 (by decide) ?_
        exact J_ireturn rfl (Nat.le_refl _) (Nat.le_refl _) rfl dX11_keep_37
      · subst hr
        refine J_ckA (fun hb7 => ?_)
        refine J_aload_n dX11_keep_38 rfl rfl ?_
        refine K_getR (r := some (39)) cf11 flX11_104 (sq 0 rfl) rfl (Or.inl ⟨_, rfl⟩) dX11_keep_39 ?_
        refine J_iload_n dX11_keep_42 rfl rfl ?_
        refine J_iload_n dX11_keep_43 rfl rfl ?_
        refine K_callV_v (As := [vI x1, vI x2]) mcX8_holdOrder mlX11_345 rfl (by decide) (sq 39 rfl) (ct8_holdOrder G t x1 x2 S6) rfl rfl (Nat.le_of_ble_eq_true rfl) (by decide) (Nat.le_of_ble_eq_true rfl) dX11_keep_44 (fun q8 S9 => ?_)
        refine J_iconst (v := nI 1) dX11_keep_47 (by decide) ?_
        exact J_ireturn rfl (Nat.le_refl _) (Nat.le_refl _) rfl dX11_keep_48
theorem dX11_row_0 : decode cX11_row 0 = .ok (.aload_n 0, 1) := by decide +kernel
theorem dX11_row_1 : decode cX11_row 1 = .ok (.getfield 104, 3) := by decide +kernel
theorem dX11_row_4 : decode cX11_row 4 = .ok (.iload_n 1, 1) := by decide +kernel
theorem dX11_row_5 : decode cX11_row 5 = .ok (.invokevirtual 166, 3) := by decide +kernel
theorem dX11_row_8 : decode cX11_row 8 = .ok (.ifCond .eq 18, 3) := by decide +kernel
theorem dX11_row_11 : decode cX11_row 11 = .ok (.iload_n 2, 1) := by decide +kernel
theorem dX11_row_12 : decode cX11_row 12 = .ok (.ifCond .lt 14, 3) := by decide +kernel
theorem dX11_row_15 : decode cX11_row 15 = .ok (.iload_n 2, 1) := by decide +kernel
theorem dX11_row_16 : decode cX11_row 16 = .ok (.iconst 4, 1) := by decide +kernel
theorem dX11_row_17 : decode cX11_row 17 = .ok (.if_icmp .gt 9, 3) := by decide +kernel
theorem dX11_row_20 : decode cX11_row 20 = .ok (.iload_n 3, 1) := by decide +kernel
theorem dX11_row_21 : decode cX11_row 21 = .ok (.bipush 60, 2) := by decide +kernel
theorem dX11_row_23 : decode cX11_row 23 = .ok (.if_icmp .le 5, 3) := by decide +kernel
theorem dX11_row_26 : decode cX11_row 26 = .ok (.iconst (-1), 1) := by decide +kernel
theorem dX11_row_27 : decode cX11_row 27 = .ok (.ireturn, 1) := by decide +kernel
theorem dX11_row_28 : decode cX11_row 28 = .ok (.iload_n 3, 1) := by decide +kernel
theorem dX11_row_29 : decode cX11_row 29 = .ok (.ifCond .ge 6, 3) := by decide +kernel
theorem dX11_row_32 : decode cX11_row 32 = .ok (.bipush (-14), 2) := by decide +kernel
theorem dX11_row_34 : decode cX11_row 34 = .ok (.ireturn, 1) := by decide +kernel
theorem dX11_row_35 : decode cX11_row 35 = .ok (.aload_n 0, 1) := by decide +kernel
theorem dX11_row_36 : decode cX11_row 36 = .ok (.getfield 104, 3) := by decide +kernel
theorem dX11_row_39 : decode cX11_row 39 = .ok (.iload_n 1, 1) := by decide +kernel
theorem dX11_row_40 : decode cX11_row 40 = .ok (.iload_n 2, 1) := by decide +kernel
theorem dX11_row_41 : decode cX11_row 41 = .ok (.iload_n 3, 1) := by decide +kernel
theorem dX11_row_42 : decode cX11_row 42 = .ok (.invokevirtual 349, 3) := by decide +kernel
theorem dX11_row_45 : decode cX11_row 45 = .ok (.iconst 1, 1) := by decide +kernel
theorem dX11_row_46 : decode cX11_row 46 = .ok (.ireturn, 1) := by decide +kernel
set_option maxRecDepth 100000 in
set_option maxHeartbeats 4000000 in
theorem ct11_row (G : Gm) (t : Nat)  (x1 : Int32) (x2 : Int32) (x3 : Int32)  (S : St) : Ct G YX11_row yX11_row 4 0 0 (fI t) (f11_row x1 x2 x3 S) [vR (some 0), vI x1, vI x2, vI x3] (MM t S) := by
  refine Ct_of_J [some (vR (some 0)), some (vI x1), some (vI x2), some (vI x3)] (by decide) rfl (fun h => by cases h) (Nat.le_of_ble_eq_true rfl) (And.intro rfl (And.intro rfl (And.intro rfl (And.intro rfl (trivial))))) ?_
  unfold f11_row
  refine J_aload_n dX11_row_0 rfl rfl ?_
  refine K_getR (r := some (39)) cf11 flX11_104 (sq 0 rfl) rfl (Or.inl ⟨_, rfl⟩) dX11_row_1 ?_
  refine J_iload_n dX11_row_4 rfl rfl ?_
  refine K_callV_i (As := [vI x1]) mcX8_isShelf mlX11_166 rfl (by decide) (sq 39 rfl) (ct8_isShelf G t x1 S) rfl rfl (Nat.le_of_ble_eq_true rfl) (by decide) (Nat.le_of_ble_eq_true rfl) dX11_row_5 (fun q1 S2 => ?_)
  refine J_if_eq (tgt := 26) dX11_row_8 (by decide) (fun z3 => ?_) (fun z3 => ?_)
  · refine J_iconst (v := (-1)) dX11_row_26 (by decide) ?_
    exact J_ireturn rfl (Nat.le_refl _) (Nat.le_refl _) rfl dX11_row_27
  · refine J_iload_n dX11_row_11 rfl rfl ?_
    refine J_if_lt (tgt := 26) dX11_row_12 (by decide) (fun z4 => ?_) (fun z4 => ?_)
    · refine J_iconst (v := (-1)) dX11_row_26 (by decide) ?_
      exact J_ireturn rfl (Nat.le_refl _) (Nat.le_refl _) rfl dX11_row_27
    · refine J_iload_n dX11_row_15 rfl rfl ?_
      refine J_iconst (v := nI 4) dX11_row_16 (by decide) ?_
      refine J_icmp_gt (tgt := 26) dX11_row_17 (by decide) (fun z5 => ?_) (fun z5 => ?_)
      · refine J_iconst (v := (-1)) dX11_row_26 (by decide) ?_
        exact J_ireturn rfl (Nat.le_refl _) (Nat.le_refl _) rfl dX11_row_27
      · refine J_iload_n dX11_row_20 rfl rfl ?_
        refine J_bipush (v := nI 60) dX11_row_21 (by decide) ?_
        refine J_icmp_le (tgt := 28) dX11_row_23 (by decide) (fun z6 => ?_) (fun z6 => ?_)
        · refine J_iload_n dX11_row_28 rfl rfl ?_
          refine J_if_ge (tgt := 35) dX11_row_29 (by decide) (fun z7 => ?_) (fun z7 => ?_)
          · refine J_aload_n dX11_row_35 rfl rfl ?_
            refine K_getR (r := some (39)) cf11 flX11_104 (sq 0 rfl) rfl (Or.inl ⟨_, rfl⟩) dX11_row_36 ?_
            refine J_iload_n dX11_row_39 rfl rfl ?_
            refine J_iload_n dX11_row_40 rfl rfl ?_
            refine J_iload_n dX11_row_41 rfl rfl ?_
            refine K_callV_v (As := [vI x1, vI x2, vI x3]) mcX8_holdRow mlX11_349 rfl (by decide) (sq 39 rfl) (ct8_holdRow G t x1 x2 x3 S2) rfl rfl (Nat.le_of_ble_eq_true rfl) (by decide) (Nat.le_of_ble_eq_true rfl) dX11_row_42 (fun q8 S9 => ?_)
            refine J_iconst (v := nI 1) dX11_row_45 (by decide) ?_
            exact J_ireturn rfl (Nat.le_refl _) (Nat.le_refl _) rfl dX11_row_46
          · refine J_bipush (v := (-14)) dX11_row_32 (by decide) ?_
            exact J_ireturn rfl (Nat.le_refl _) (Nat.le_refl _) rfl dX11_row_34
        · refine J_iconst (v := (-1)) dX11_row_26 (by decide) ?_
          exact J_ireturn rfl (Nat.le_refl _) (Nat.le_refl _) rfl dX11_row_27
theorem dX11_hasPlaces_0 : decode cX11_hasPlaces 0 = .ok (.iload_n 2, 1) := by decide +kernel
theorem dX11_hasPlaces_1 : decode cX11_hasPlaces 1 = .ok (.ifCond .lt 33, 3) := by decide +kernel
theorem dX11_hasPlaces_4 : decode cX11_hasPlaces 4 = .ok (.iload_n 2, 1) := by decide +kernel
theorem dX11_hasPlaces_5 : decode cX11_hasPlaces 5 = .ok (.aload_n 0, 1) := by decide +kernel
theorem dX11_hasPlaces_6 : decode cX11_hasPlaces 6 = .ok (.getfield 104, 3) := by decide +kernel
theorem dX11_hasPlaces_9 : decode cX11_hasPlaces 9 = .ok (.iload_n 1, 1) := by decide +kernel
theorem dX11_hasPlaces_10 : decode cX11_hasPlaces 10 = .ok (.invokevirtual 394, 3) := by decide +kernel
theorem dX11_hasPlaces_13 : decode cX11_hasPlaces 13 = .ok (.if_icmp .gt 21, 3) := by decide +kernel
theorem dX11_hasPlaces_16 : decode cX11_hasPlaces 16 = .ok (.iload_n 3, 1) := by decide +kernel
theorem dX11_hasPlaces_17 : decode cX11_hasPlaces 17 = .ok (.aload_n 0, 1) := by decide +kernel
theorem dX11_hasPlaces_18 : decode cX11_hasPlaces 18 = .ok (.getfield 104, 3) := by decide +kernel
theorem dX11_hasPlaces_21 : decode cX11_hasPlaces 21 = .ok (.iload_n 1, 1) := by decide +kernel
theorem dX11_hasPlaces_22 : decode cX11_hasPlaces 22 = .ok (.invokevirtual 394, 3) := by decide +kernel
theorem dX11_hasPlaces_25 : decode cX11_hasPlaces 25 = .ok (.iload_n 2, 1) := by decide +kernel
theorem dX11_hasPlaces_26 : decode cX11_hasPlaces 26 = .ok (.isub, 1) := by decide +kernel
theorem dX11_hasPlaces_27 : decode cX11_hasPlaces 27 = .ok (.if_icmp .gt 7, 3) := by decide +kernel
theorem dX11_hasPlaces_30 : decode cX11_hasPlaces 30 = .ok (.iconst 1, 1) := by decide +kernel
theorem dX11_hasPlaces_31 : decode cX11_hasPlaces 31 = .ok (.goto 4, 3) := by decide +kernel
theorem dX11_hasPlaces_34 : decode cX11_hasPlaces 34 = .ok (.iconst 0, 1) := by decide +kernel
theorem dX11_hasPlaces_35 : decode cX11_hasPlaces 35 = .ok (.ireturn, 1) := by decide +kernel
set_option maxRecDepth 100000 in
set_option maxHeartbeats 4000000 in
theorem ct11_hasPlaces (G : Gm) (t : Nat)  (x1 : Int32) (x2 : Int32) (x3 : Int32)  (S : St) : Ct G YX11_hasPlaces yX11_hasPlaces 3 0 0 (fI t) (f11_hasPlaces x1 x2 x3 S) [vR (some 0), vI x1, vI x2, vI x3] (MM t S) := by
  refine Ct_of_J [some (vR (some 0)), some (vI x1), some (vI x2), some (vI x3)] (by decide) rfl (fun h => by cases h) (Nat.le_of_ble_eq_true rfl) (And.intro rfl (And.intro rfl (And.intro rfl (And.intro rfl (trivial))))) ?_
  unfold f11_hasPlaces
  refine J_iload_n dX11_hasPlaces_0 rfl rfl ?_
  refine J_if_lt (tgt := 34) dX11_hasPlaces_1 (by decide) (fun z1 => ?_) (fun z1 => ?_)
  · refine J_iconst (v := nI 0) dX11_hasPlaces_34 (by decide) ?_
    exact J_zreturn (by decide) rfl (Nat.le_refl _) (Nat.le_refl _) rfl dX11_hasPlaces_35
  · refine J_iload_n dX11_hasPlaces_4 rfl rfl ?_
    refine J_aload_n dX11_hasPlaces_5 rfl rfl ?_
    refine K_getR (r := some (39)) cf11 flX11_104 (sq 0 rfl) rfl (Or.inl ⟨_, rfl⟩) dX11_hasPlaces_6 ?_
    refine J_iload_n dX11_hasPlaces_9 rfl rfl ?_
    refine K_callV_i (As := [vI x1]) mcX8_length mlX11_394 rfl (by decide) (sq 39 rfl) (ct8_length G t x1 S) rfl rfl (Nat.le_of_ble_eq_true rfl) (by decide) (Nat.le_of_ble_eq_true rfl) dX11_hasPlaces_10 (fun q2 S3 => ?_)
    refine J_icmp_gt (tgt := 34) dX11_hasPlaces_13 (by decide) (fun z4 => ?_) (fun z4 => ?_)
    · refine J_iconst (v := nI 0) dX11_hasPlaces_34 (by decide) ?_
      exact J_zreturn (by decide) rfl (Nat.le_refl _) (Nat.le_refl _) rfl dX11_hasPlaces_35
    · refine J_iload_n dX11_hasPlaces_16 rfl rfl ?_
      refine J_aload_n dX11_hasPlaces_17 rfl rfl ?_
      refine K_getR (r := some (39)) cf11 flX11_104 (sq 0 rfl) rfl (Or.inl ⟨_, rfl⟩) dX11_hasPlaces_18 ?_
      refine J_iload_n dX11_hasPlaces_21 rfl rfl ?_
      refine K_callV_i (As := [vI x1]) mcX8_length mlX11_394 rfl (by decide) (sq 39 rfl) (ct8_length G t x1 S3) rfl rfl (Nat.le_of_ble_eq_true rfl) (by decide) (Nat.le_of_ble_eq_true rfl) dX11_hasPlaces_22 (fun q5 S6 => ?_)
      refine J_iload_n dX11_hasPlaces_25 rfl rfl ?_
      refine J_isub dX11_hasPlaces_26 ?_
      refine J_icmp_gt (tgt := 34) dX11_hasPlaces_27 (by decide) (fun z7 => ?_) (fun z7 => ?_)
      · refine J_iconst (v := nI 0) dX11_hasPlaces_34 (by decide) ?_
        exact J_zreturn (by decide) rfl (Nat.le_refl _) (Nat.le_refl _) rfl dX11_hasPlaces_35
      · refine J_iconst (v := nI 1) dX11_hasPlaces_30 (by decide) ?_
        refine J_goto (tgt := 35) dX11_hasPlaces_31 (by decide) ?_
        exact J_zreturn (by decide) rfl (Nat.le_refl _) (Nat.le_refl _) rfl dX11_hasPlaces_35
theorem dX11_refusalAt_0 : decode cX11_refusalAt 0 = .ok (.aload_n 0, 1) := by decide +kernel
theorem dX11_refusalAt_1 : decode cX11_refusalAt 1 = .ok (.getfield 104, 3) := by decide +kernel
theorem dX11_refusalAt_4 : decode cX11_refusalAt 4 = .ok (.iload_n 1, 1) := by decide +kernel
theorem dX11_refusalAt_5 : decode cX11_refusalAt 5 = .ok (.invokevirtual 166, 3) := by decide +kernel
theorem dX11_refusalAt_8 : decode cX11_refusalAt 8 = .ok (.ifCond .ne 5, 3) := by decide +kernel
theorem dX11_refusalAt_11 : decode cX11_refusalAt 11 = .ok (.iconst (-1), 1) := by decide +kernel
theorem dX11_refusalAt_12 : decode cX11_refusalAt 12 = .ok (.ireturn, 1) := by decide +kernel
theorem dX11_refusalAt_13 : decode cX11_refusalAt 13 = .ok (.aload_n 0, 1) := by decide +kernel
theorem dX11_refusalAt_14 : decode cX11_refusalAt 14 = .ok (.getfield 104, 3) := by decide +kernel
theorem dX11_refusalAt_17 : decode cX11_refusalAt 17 = .ok (.iload_n 1, 1) := by decide +kernel
theorem dX11_refusalAt_18 : decode cX11_refusalAt 18 = .ok (.invokevirtual 169, 3) := by decide +kernel
theorem dX11_refusalAt_21 : decode cX11_refusalAt 21 = .ok (.ifCond .eq 6, 3) := by decide +kernel
theorem dX11_refusalAt_24 : decode cX11_refusalAt 24 = .ok (.bipush (-11), 2) := by decide +kernel
theorem dX11_refusalAt_26 : decode cX11_refusalAt 26 = .ok (.ireturn, 1) := by decide +kernel
theorem dX11_refusalAt_27 : decode cX11_refusalAt 27 = .ok (.aload_n 0, 1) := by decide +kernel
theorem dX11_refusalAt_28 : decode cX11_refusalAt 28 = .ok (.getfield 104, 3) := by decide +kernel
theorem dX11_refusalAt_31 : decode cX11_refusalAt 31 = .ok (.iload_n 1, 1) := by decide +kernel
theorem dX11_refusalAt_32 : decode cX11_refusalAt 32 = .ok (.invokevirtual 368, 3) := by decide +kernel
theorem dX11_refusalAt_35 : decode cX11_refusalAt 35 = .ok (.ifCond .ne 6, 3) := by decide +kernel
theorem dX11_refusalAt_38 : decode cX11_refusalAt 38 = .ok (.bipush (-12), 2) := by decide +kernel
theorem dX11_refusalAt_40 : decode cX11_refusalAt 40 = .ok (.ireturn, 1) := by decide +kernel
theorem dX11_refusalAt_41 : decode cX11_refusalAt 41 = .ok (.aload_n 0, 1) := by decide +kernel
theorem dX11_refusalAt_42 : decode cX11_refusalAt 42 = .ok (.iload_n 1, 1) := by decide +kernel
theorem dX11_refusalAt_43 : decode cX11_refusalAt 43 = .ok (.iload_n 2, 1) := by decide +kernel
theorem dX11_refusalAt_44 : decode cX11_refusalAt 44 = .ok (.iconst 1, 1) := by decide +kernel
theorem dX11_refusalAt_45 : decode cX11_refusalAt 45 = .ok (.invokevirtual 374, 3) := by decide +kernel
theorem dX11_refusalAt_48 : decode cX11_refusalAt 48 = .ok (.ifCond .eq 7, 3) := by decide +kernel
theorem dX11_refusalAt_51 : decode cX11_refusalAt 51 = .ok (.iconst 0, 1) := by decide +kernel
theorem dX11_refusalAt_52 : decode cX11_refusalAt 52 = .ok (.goto 5, 3) := by decide +kernel
theorem dX11_refusalAt_55 : decode cX11_refusalAt 55 = .ok (.bipush (-13), 2) := by decide +kernel
theorem dX11_refusalAt_57 : decode cX11_refusalAt 57 = .ok (.ireturn, 1) := by decide +kernel
set_option maxRecDepth 100000 in
set_option maxHeartbeats 4000000 in
theorem ct11_refusalAt (G : Gm) (t : Nat)  (x1 : Int32) (x2 : Int32)  (S : St) : Ct G YX11_refusalAt yX11_refusalAt 4 0 0 (fI t) (f11_refusalAt x1 x2 S) [vR (some 0), vI x1, vI x2] (MM t S) := by
  refine Ct_of_J [some (vR (some 0)), some (vI x1), some (vI x2)] (by decide) rfl (fun h => by cases h) (Nat.le_of_ble_eq_true rfl) (And.intro rfl (And.intro rfl (And.intro rfl (trivial)))) ?_
  unfold f11_refusalAt
  refine J_aload_n dX11_refusalAt_0 rfl rfl ?_
  refine K_getR (r := some (39)) cf11 flX11_104 (sq 0 rfl) rfl (Or.inl ⟨_, rfl⟩) dX11_refusalAt_1 ?_
  refine J_iload_n dX11_refusalAt_4 rfl rfl ?_
  refine K_callV_i (As := [vI x1]) mcX8_isShelf mlX11_166 rfl (by decide) (sq 39 rfl) (ct8_isShelf G t x1 S) rfl rfl (Nat.le_of_ble_eq_true rfl) (by decide) (Nat.le_of_ble_eq_true rfl) dX11_refusalAt_5 (fun q1 S2 => ?_)
  refine J_if_ne (tgt := 13) dX11_refusalAt_8 (by decide) (fun z3 => ?_) (fun z3 => ?_)
  · refine J_iconst (v := (-1)) dX11_refusalAt_11 (by decide) ?_
    exact J_ireturn rfl (Nat.le_refl _) (Nat.le_refl _) rfl dX11_refusalAt_12
  · refine J_aload_n dX11_refusalAt_13 rfl rfl ?_
    refine K_getR (r := some (39)) cf11 flX11_104 (sq 0 rfl) rfl (Or.inl ⟨_, rfl⟩) dX11_refusalAt_14 ?_
    refine J_iload_n dX11_refusalAt_17 rfl rfl ?_
    refine K_callV_i (As := [vI x1]) mcX8_holdsNothing mlX11_169 rfl (by decide) (sq 39 rfl) (ct8_holdsNothing G t x1 S2) rfl rfl (Nat.le_of_ble_eq_true rfl) (by decide) (Nat.le_of_ble_eq_true rfl) dX11_refusalAt_18 (fun q4 S5 => ?_)
    refine J_if_eq (tgt := 27) dX11_refusalAt_21 (by decide) (fun z6 => ?_) (fun z6 => ?_)
    · refine J_aload_n dX11_refusalAt_27 rfl rfl ?_
      refine K_getR (r := some (39)) cf11 flX11_104 (sq 0 rfl) rfl (Or.inl ⟨_, rfl⟩) dX11_refusalAt_28 ?_
      refine J_iload_n dX11_refusalAt_31 rfl rfl ?_
      refine K_callV_i (As := [vI x1]) mcX8_holdsRow mlX11_368 rfl (by decide) (sq 39 rfl) (ct8_holdsRow G t x1 S5) rfl rfl (Nat.le_of_ble_eq_true rfl) (by decide) (Nat.le_of_ble_eq_true rfl) dX11_refusalAt_32 (fun q7 S8 => ?_)
      refine J_if_ne (tgt := 41) dX11_refusalAt_35 (by decide) (fun z9 => ?_) (fun z9 => ?_)
      · refine J_bipush (v := (-12)) dX11_refusalAt_38 (by decide) ?_
        exact J_ireturn rfl (Nat.le_refl _) (Nat.le_refl _) rfl dX11_refusalAt_40
      · refine J_aload_n dX11_refusalAt_41 rfl rfl ?_
        refine J_iload_n dX11_refusalAt_42 rfl rfl ?_
        refine J_iload_n dX11_refusalAt_43 rfl rfl ?_
        refine J_iconst (v := nI 1) dX11_refusalAt_44 (by decide) ?_
        refine K_callV_i (As := [vI x1, vI x2, vI (nI 1)]) mcX11_hasPlaces mlX11_374 rfl (by decide) (sq 0 rfl) (ct11_hasPlaces G t x1 x2 (nI 1) S8) rfl rfl (Nat.le_of_ble_eq_true rfl) (by decide) (Nat.le_of_ble_eq_true rfl) dX11_refusalAt_45 (fun q10 S11 => ?_)
        refine J_if_eq (tgt := 55) dX11_refusalAt_48 (by decide) (fun z12 => ?_) (fun z12 => ?_)
        · refine J_bipush (v := (-13)) dX11_refusalAt_55 (by decide) ?_
          exact J_ireturn rfl (Nat.le_refl _) (Nat.le_refl _) rfl dX11_refusalAt_57
        · refine J_iconst (v := nI 0) dX11_refusalAt_51 (by decide) ?_
          refine J_goto (tgt := 57) dX11_refusalAt_52 (by decide) ?_
          exact J_ireturn rfl (Nat.le_refl _) (Nat.le_refl _) rfl dX11_refusalAt_57
    · refine J_bipush (v := (-11)) dX11_refusalAt_24 (by decide) ?_
      exact J_ireturn rfl (Nat.le_refl _) (Nat.le_refl _) rfl dX11_refusalAt_26
theorem dX11_put_0 : decode cX11_put 0 = .ok (.aload_n 0, 1) := by decide +kernel
theorem dX11_put_1 : decode cX11_put 1 = .ok (.iload_n 1, 1) := by decide +kernel
theorem dX11_put_2 : decode cX11_put 2 = .ok (.iload_n 2, 1) := by decide +kernel
theorem dX11_put_3 : decode cX11_put 3 = .ok (.invokevirtual 353, 3) := by decide +kernel
theorem dX11_put_6 : decode cX11_put 6 = .ok (.istore 5, 2) := by decide +kernel
theorem dX11_put_8 : decode cX11_put 8 = .ok (.iload 5, 2) := by decide +kernel
theorem dX11_put_10 : decode cX11_put 10 = .ok (.ifCond .eq 6, 3) := by decide +kernel
theorem dX11_put_13 : decode cX11_put 13 = .ok (.iload 5, 2) := by decide +kernel
theorem dX11_put_15 : decode cX11_put 15 = .ok (.ireturn, 1) := by decide +kernel
theorem dX11_put_16 : decode cX11_put 16 = .ok (.aload_n 0, 1) := by decide +kernel
theorem dX11_put_17 : decode cX11_put 17 = .ok (.getfield 104, 3) := by decide +kernel
theorem dX11_put_20 : decode cX11_put 20 = .ok (.iload_n 1, 1) := by decide +kernel
theorem dX11_put_21 : decode cX11_put 21 = .ok (.iload_n 2, 1) := by decide +kernel
theorem dX11_put_22 : decode cX11_put 22 = .ok (.lload_n 3, 1) := by decide +kernel
theorem dX11_put_23 : decode cX11_put 23 = .ok (.invokevirtual 356, 3) := by decide +kernel
theorem dX11_put_26 : decode cX11_put 26 = .ok (.iconst 1, 1) := by decide +kernel
theorem dX11_put_27 : decode cX11_put 27 = .ok (.ireturn, 1) := by decide +kernel
set_option maxRecDepth 100000 in
set_option maxHeartbeats 4000000 in
theorem ct11_put (G : Gm) (t : Nat)  (x1 : Int32) (x2 : Int32) (l3 : Int64)  (S : St) : Ct G YX11_put yX11_put 5 0 0 (fI t) (f11_put x1 x2 l3 S) [vR (some 0), vI x1, vI x2, vL l3] (MM t S) := by
  refine Ct_of_J [some (vR (some 0)), some (vI x1), some (vI x2), some (vL l3), none, none] (by decide) rfl (fun h => by cases h) (Nat.le_of_ble_eq_true rfl) (And.intro rfl (And.intro rfl (And.intro rfl (And.intro rfl (trivial))))) ?_
  unfold f11_put
  refine J_aload_n dX11_put_0 rfl rfl ?_
  refine J_iload_n dX11_put_1 rfl rfl ?_
  refine J_iload_n dX11_put_2 rfl rfl ?_
  refine K_callV_i (As := [vI x1, vI x2]) mcX11_refusalAt mlX11_353 rfl (by decide) (sq 0 rfl) (ct11_refusalAt G t x1 x2 S) rfl rfl (Nat.le_of_ble_eq_true rfl) (by decide) (Nat.le_of_ble_eq_true rfl) dX11_put_3 (fun q1 S2 => ?_)
  refine J_istore [some (vR (some 0)), some (vI x1), some (vI x2), some (vL l3), none, some (vI q1)] dX11_put_6 (Nat.le_of_ble_eq_true rfl) rfl rfl ?_
  refine J_iload dX11_put_8 rfl ?_
  refine J_if_eq (tgt := 16) dX11_put_10 (by decide) (fun z3 => ?_) (fun z3 => ?_)
  · refine J_aload_n dX11_put_16 rfl rfl ?_
    refine K_getR (r := some (39)) cf11 flX11_104 (sq 0 rfl) rfl (Or.inl ⟨_, rfl⟩) dX11_put_17 ?_
    refine J_iload_n dX11_put_20 rfl rfl ?_
    refine J_iload_n dX11_put_21 rfl rfl ?_
    refine J_lload_n dX11_put_22 rfl rfl ?_
    refine K_callV_v (As := [vI x1, vI x2, vL l3]) mcX8_set mlX11_356 rfl (by decide) (sq 39 rfl) (ct8_set G t x1 x2 l3 S2) rfl rfl (Nat.le_of_ble_eq_true rfl) (by decide) (Nat.le_of_ble_eq_true rfl) dX11_put_23 (fun q4 S5 => ?_)
    refine J_iconst (v := nI 1) dX11_put_26 (by decide) ?_
    exact J_ireturn rfl (Nat.le_refl _) (Nat.le_refl _) rfl dX11_put_27
  · refine J_iload dX11_put_13 rfl ?_
    exact J_ireturn rfl (Nat.le_refl _) (Nat.le_refl _) rfl dX11_put_15
theorem dX11_element_0 : decode cX11_element 0 = .ok (.aload_n 0, 1) := by decide +kernel
theorem dX11_element_1 : decode cX11_element 1 = .ok (.iload_n 1, 1) := by decide +kernel
theorem dX11_element_2 : decode cX11_element 2 = .ok (.iload_n 2, 1) := by decide +kernel
theorem dX11_element_3 : decode cX11_element 3 = .ok (.invokevirtual 353, 3) := by decide +kernel
theorem dX11_element_6 : decode cX11_element 6 = .ok (.ifCond .eq 7, 3) := by decide +kernel
theorem dX11_element_9 : decode cX11_element 9 = .ok (.ldc2_w 362, 3) := by decide +kernel
theorem dX11_element_12 : decode cX11_element 12 = .ok (.lreturn, 1) := by decide +kernel
theorem dX11_element_13 : decode cX11_element 13 = .ok (.aload_n 0, 1) := by decide +kernel
theorem dX11_element_14 : decode cX11_element 14 = .ok (.getfield 104, 3) := by decide +kernel
theorem dX11_element_17 : decode cX11_element 17 = .ok (.iload_n 1, 1) := by decide +kernel
theorem dX11_element_18 : decode cX11_element 18 = .ok (.iload_n 2, 1) := by decide +kernel
theorem dX11_element_19 : decode cX11_element 19 = .ok (.invokevirtual 364, 3) := by decide +kernel
theorem dX11_element_22 : decode cX11_element 22 = .ok (.lreturn, 1) := by decide +kernel
set_option maxRecDepth 100000 in
set_option maxHeartbeats 4000000 in
theorem ct11_element (G : Gm) (t : Nat)  (x1 : Int32) (x2 : Int32)  (S : St) : Ct G YX11_element yX11_element 5 0 0 (fL t) (f11_element x1 x2 S) [vR (some 0), vI x1, vI x2] (MM t S) := by
  refine Ct_of_J [some (vR (some 0)), some (vI x1), some (vI x2)] (by decide) rfl (fun h => by cases h) (Nat.le_of_ble_eq_true rfl) (And.intro rfl (And.intro rfl (And.intro rfl (trivial)))) ?_
  unfold f11_element
  refine J_aload_n dX11_element_0 rfl rfl ?_
  refine J_iload_n dX11_element_1 rfl rfl ?_
  refine J_iload_n dX11_element_2 rfl rfl ?_
  refine K_callV_i (As := [vI x1, vI x2]) mcX11_refusalAt mlX11_353 rfl (by decide) (sq 0 rfl) (ct11_refusalAt G t x1 x2 S) rfl rfl (Nat.le_of_ble_eq_true rfl) (by decide) (Nat.le_of_ble_eq_true rfl) dX11_element_3 (fun q1 S2 => ?_)
  refine J_if_eq (tgt := 13) dX11_element_6 (by decide) (fun z3 => ?_) (fun z3 => ?_)
  · refine J_aload_n dX11_element_13 rfl rfl ?_
    refine K_getR (r := some (39)) cf11 flX11_104 (sq 0 rfl) rfl (Or.inl ⟨_, rfl⟩) dX11_element_14 ?_
    refine J_iload_n dX11_element_17 rfl rfl ?_
    refine J_iload_n dX11_element_18 rfl rfl ?_
    refine K_callV_l (As := [vI x1, vI x2]) mcX8_get mlX11_364 rfl (by decide) (sq 39 rfl) (ct8_get G t x1 x2 S2) rfl rfl (Nat.le_of_ble_eq_true rfl) (by decide) (Nat.le_of_ble_eq_true rfl) dX11_element_19 (fun q4 S5 => ?_)
    exact J_lreturn rfl (Nat.le_refl _) (Nat.le_refl _) rfl dX11_element_22
  · refine J_ldc2_w (v := (-9223372036854775808)) wX11_362 dX11_element_9 ?_
    exact J_lreturn rfl (Nat.le_refl _) (Nat.le_refl _) rfl dX11_element_12
theorem dX11_shift_0 : decode cX11_shift 0 = .ok (.aload_n 0, 1) := by decide +kernel
theorem dX11_shift_1 : decode cX11_shift 1 = .ok (.getfield 104, 3) := by decide +kernel
theorem dX11_shift_4 : decode cX11_shift 4 = .ok (.iload_n 1, 1) := by decide +kernel
theorem dX11_shift_5 : decode cX11_shift 5 = .ok (.invokevirtual 166, 3) := by decide +kernel
theorem dX11_shift_8 : decode cX11_shift 8 = .ok (.ifCond .eq 14, 3) := by decide +kernel
theorem dX11_shift_11 : decode cX11_shift 11 = .ok (.aload_n 0, 1) := by decide +kernel
theorem dX11_shift_12 : decode cX11_shift 12 = .ok (.getfield 104, 3) := by decide +kernel
theorem dX11_shift_15 : decode cX11_shift 15 = .ok (.iload_n 3, 1) := by decide +kernel
theorem dX11_shift_16 : decode cX11_shift 16 = .ok (.invokevirtual 166, 3) := by decide +kernel
theorem dX11_shift_19 : decode cX11_shift 19 = .ok (.ifCond .ne 5, 3) := by decide +kernel
theorem dX11_shift_22 : decode cX11_shift 22 = .ok (.iconst (-1), 1) := by decide +kernel
theorem dX11_shift_23 : decode cX11_shift 23 = .ok (.ireturn, 1) := by decide +kernel
theorem dX11_shift_24 : decode cX11_shift 24 = .ok (.aload_n 0, 1) := by decide +kernel
theorem dX11_shift_25 : decode cX11_shift 25 = .ok (.getfield 104, 3) := by decide +kernel
theorem dX11_shift_28 : decode cX11_shift 28 = .ok (.iload_n 1, 1) := by decide +kernel
theorem dX11_shift_29 : decode cX11_shift 29 = .ok (.invokevirtual 169, 3) := by decide +kernel
theorem dX11_shift_32 : decode cX11_shift 32 = .ok (.ifCond .ne 14, 3) := by decide +kernel
theorem dX11_shift_35 : decode cX11_shift 35 = .ok (.aload_n 0, 1) := by decide +kernel
theorem dX11_shift_36 : decode cX11_shift 36 = .ok (.getfield 104, 3) := by decide +kernel
theorem dX11_shift_39 : decode cX11_shift 39 = .ok (.iload_n 3, 1) := by decide +kernel
theorem dX11_shift_40 : decode cX11_shift 40 = .ok (.invokevirtual 169, 3) := by decide +kernel
theorem dX11_shift_43 : decode cX11_shift 43 = .ok (.ifCond .eq 6, 3) := by decide +kernel
theorem dX11_shift_46 : decode cX11_shift 46 = .ok (.bipush (-11), 2) := by decide +kernel
theorem dX11_shift_48 : decode cX11_shift 48 = .ok (.ireturn, 1) := by decide +kernel
theorem dX11_shift_49 : decode cX11_shift 49 = .ok (.aload_n 0, 1) := by decide +kernel
theorem dX11_shift_50 : decode cX11_shift 50 = .ok (.getfield 104, 3) := by decide +kernel
theorem dX11_shift_53 : decode cX11_shift 53 = .ok (.iload_n 1, 1) := by decide +kernel
theorem dX11_shift_54 : decode cX11_shift 54 = .ok (.invokevirtual 368, 3) := by decide +kernel
theorem dX11_shift_57 : decode cX11_shift 57 = .ok (.ifCond .eq 22, 3) := by decide +kernel
theorem dX11_shift_60 : decode cX11_shift 60 = .ok (.aload_n 0, 1) := by decide +kernel
theorem dX11_shift_61 : decode cX11_shift 61 = .ok (.getfield 104, 3) := by decide +kernel
theorem dX11_shift_64 : decode cX11_shift 64 = .ok (.iload_n 1, 1) := by decide +kernel
theorem dX11_shift_65 : decode cX11_shift 65 = .ok (.invokevirtual 371, 3) := by decide +kernel
theorem dX11_shift_68 : decode cX11_shift 68 = .ok (.aload_n 0, 1) := by decide +kernel
theorem dX11_shift_69 : decode cX11_shift 69 = .ok (.getfield 104, 3) := by decide +kernel
theorem dX11_shift_72 : decode cX11_shift 72 = .ok (.iload_n 3, 1) := by decide +kernel
theorem dX11_shift_73 : decode cX11_shift 73 = .ok (.invokevirtual 371, 3) := by decide +kernel
theorem dX11_shift_76 : decode cX11_shift 76 = .ok (.if_icmp .eq 6, 3) := by decide +kernel
theorem dX11_shift_79 : decode cX11_shift 79 = .ok (.bipush (-12), 2) := by decide +kernel
theorem dX11_shift_81 : decode cX11_shift 81 = .ok (.ireturn, 1) := by decide +kernel
theorem dX11_shift_82 : decode cX11_shift 82 = .ok (.iload 5, 2) := by decide +kernel
theorem dX11_shift_84 : decode cX11_shift 84 = .ok (.ifCond .lt 26, 3) := by decide +kernel
theorem dX11_shift_87 : decode cX11_shift 87 = .ok (.aload_n 0, 1) := by decide +kernel
theorem dX11_shift_88 : decode cX11_shift 88 = .ok (.iload_n 1, 1) := by decide +kernel
theorem dX11_shift_89 : decode cX11_shift 89 = .ok (.iload_n 2, 1) := by decide +kernel
theorem dX11_shift_90 : decode cX11_shift 90 = .ok (.iload 5, 2) := by decide +kernel
theorem dX11_shift_92 : decode cX11_shift 92 = .ok (.invokevirtual 374, 3) := by decide +kernel
theorem dX11_shift_95 : decode cX11_shift 95 = .ok (.ifCond .eq 15, 3) := by decide +kernel
theorem dX11_shift_98 : decode cX11_shift 98 = .ok (.aload_n 0, 1) := by decide +kernel
theorem dX11_shift_99 : decode cX11_shift 99 = .ok (.iload_n 3, 1) := by decide +kernel
theorem dX11_shift_100 : decode cX11_shift 100 = .ok (.iload 4, 2) := by decide +kernel
theorem dX11_shift_102 : decode cX11_shift 102 = .ok (.iload 5, 2) := by decide +kernel
theorem dX11_shift_104 : decode cX11_shift 104 = .ok (.invokevirtual 374, 3) := by decide +kernel
theorem dX11_shift_107 : decode cX11_shift 107 = .ok (.ifCond .ne 6, 3) := by decide +kernel
theorem dX11_shift_110 : decode cX11_shift 110 = .ok (.bipush (-13), 2) := by decide +kernel
theorem dX11_shift_112 : decode cX11_shift 112 = .ok (.ireturn, 1) := by decide +kernel
theorem dX11_shift_113 : decode cX11_shift 113 = .ok (.aload_n 0, 1) := by decide +kernel
theorem dX11_shift_114 : decode cX11_shift 114 = .ok (.getfield 104, 3) := by decide +kernel
theorem dX11_shift_117 : decode cX11_shift 117 = .ok (.iload_n 1, 1) := by decide +kernel
theorem dX11_shift_118 : decode cX11_shift 118 = .ok (.iload_n 2, 1) := by decide +kernel
theorem dX11_shift_119 : decode cX11_shift 119 = .ok (.iload_n 3, 1) := by decide +kernel
theorem dX11_shift_120 : decode cX11_shift 120 = .ok (.iload 4, 2) := by decide +kernel
theorem dX11_shift_122 : decode cX11_shift 122 = .ok (.iload 5, 2) := by decide +kernel
theorem dX11_shift_124 : decode cX11_shift 124 = .ok (.invokevirtual 378, 3) := by decide +kernel
theorem dX11_shift_127 : decode cX11_shift 127 = .ok (.iload 5, 2) := by decide +kernel
theorem dX11_shift_129 : decode cX11_shift 129 = .ok (.ireturn, 1) := by decide +kernel
set_option maxRecDepth 100000 in
set_option maxHeartbeats 4000000 in
theorem ct11_shift (G : Gm) (t : Nat)  (x1 : Int32) (x2 : Int32) (x3 : Int32) (x4 : Int32) (x5 : Int32)  (S : St) : Ct G YX11_shift yX11_shift 4 0 0 (fI t) (f11_shift x1 x2 x3 x4 x5 S) [vR (some 0), vI x1, vI x2, vI x3, vI x4, vI x5] (MM t S) := by
  refine Ct_of_J [some (vR (some 0)), some (vI x1), some (vI x2), some (vI x3), some (vI x4), some (vI x5)] (by decide) rfl (fun h => by cases h) (Nat.le_of_ble_eq_true rfl) (And.intro rfl (And.intro rfl (And.intro rfl (And.intro rfl (And.intro rfl (And.intro rfl (trivial))))))) ?_
  unfold f11_shift
  refine J_aload_n dX11_shift_0 rfl rfl ?_
  refine K_getR (r := some (39)) cf11 flX11_104 (sq 0 rfl) rfl (Or.inl ⟨_, rfl⟩) dX11_shift_1 ?_
  refine J_iload_n dX11_shift_4 rfl rfl ?_
  refine K_callV_i (As := [vI x1]) mcX8_isShelf mlX11_166 rfl (by decide) (sq 39 rfl) (ct8_isShelf G t x1 S) rfl rfl (Nat.le_of_ble_eq_true rfl) (by decide) (Nat.le_of_ble_eq_true rfl) dX11_shift_5 (fun q1 S2 => ?_)
  refine J_if_eq (tgt := 22) dX11_shift_8 (by decide) (fun z3 => ?_) (fun z3 => ?_)
  · refine J_iconst (v := (-1)) dX11_shift_22 (by decide) ?_
    exact J_ireturn rfl (Nat.le_refl _) (Nat.le_refl _) rfl dX11_shift_23
  · refine J_aload_n dX11_shift_11 rfl rfl ?_
    refine K_getR (r := some (39)) cf11 flX11_104 (sq 0 rfl) rfl (Or.inl ⟨_, rfl⟩) dX11_shift_12 ?_
    refine J_iload_n dX11_shift_15 rfl rfl ?_
    refine K_callV_i (As := [vI x3]) mcX8_isShelf mlX11_166 rfl (by decide) (sq 39 rfl) (ct8_isShelf G t x3 S2) rfl rfl (Nat.le_of_ble_eq_true rfl) (by decide) (Nat.le_of_ble_eq_true rfl) dX11_shift_16 (fun q4 S5 => ?_)
    refine J_if_ne (tgt := 24) dX11_shift_19 (by decide) (fun z6 => ?_) (fun z6 => ?_)
    · refine J_iconst (v := (-1)) dX11_shift_22 (by decide) ?_
      exact J_ireturn rfl (Nat.le_refl _) (Nat.le_refl _) rfl dX11_shift_23
    · refine J_aload_n dX11_shift_24 rfl rfl ?_
      refine K_getR (r := some (39)) cf11 flX11_104 (sq 0 rfl) rfl (Or.inl ⟨_, rfl⟩) dX11_shift_25 ?_
      refine J_iload_n dX11_shift_28 rfl rfl ?_
      refine K_callV_i (As := [vI x1]) mcX8_holdsNothing mlX11_169 rfl (by decide) (sq 39 rfl) (ct8_holdsNothing G t x1 S5) rfl rfl (Nat.le_of_ble_eq_true rfl) (by decide) (Nat.le_of_ble_eq_true rfl) dX11_shift_29 (fun q7 S8 => ?_)
      refine J_if_ne (tgt := 46) dX11_shift_32 (by decide) (fun z9 => ?_) (fun z9 => ?_)
      · refine J_aload_n dX11_shift_35 rfl rfl ?_
        refine K_getR (r := some (39)) cf11 flX11_104 (sq 0 rfl) rfl (Or.inl ⟨_, rfl⟩) dX11_shift_36 ?_
        refine J_iload_n dX11_shift_39 rfl rfl ?_
        refine K_callV_i (As := [vI x3]) mcX8_holdsNothing mlX11_169 rfl (by decide) (sq 39 rfl) (ct8_holdsNothing G t x3 S8) rfl rfl (Nat.le_of_ble_eq_true rfl) (by decide) (Nat.le_of_ble_eq_true rfl) dX11_shift_40 (fun q10 S11 => ?_)
        refine J_if_eq (tgt := 49) dX11_shift_43 (by decide) (fun z12 => ?_) (fun z12 => ?_)
        · refine J_aload_n dX11_shift_49 rfl rfl ?_
          refine K_getR (r := some (39)) cf11 flX11_104 (sq 0 rfl) rfl (Or.inl ⟨_, rfl⟩) dX11_shift_50 ?_
          refine J_iload_n dX11_shift_53 rfl rfl ?_
          refine K_callV_i (As := [vI x1]) mcX8_holdsRow mlX11_368 rfl (by decide) (sq 39 rfl) (ct8_holdsRow G t x1 S11) rfl rfl (Nat.le_of_ble_eq_true rfl) (by decide) (Nat.le_of_ble_eq_true rfl) dX11_shift_54 (fun q13 S14 => ?_)
          refine J_if_eq (tgt := 79) dX11_shift_57 (by decide) (fun z15 => ?_) (fun z15 => ?_)
          · refine J_bipush (v := (-12)) dX11_shift_79 (by decide) ?_
            exact J_ireturn rfl (Nat.le_refl _) (Nat.le_refl _) rfl dX11_shift_81
          · refine J_aload_n dX11_shift_60 rfl rfl ?_
            refine K_getR (r := some (39)) cf11 flX11_104 (sq 0 rfl) rfl (Or.inl ⟨_, rfl⟩) dX11_shift_61 ?_
            refine J_iload_n dX11_shift_64 rfl rfl ?_
            refine K_callV_i (As := [vI x1]) mcX8_sort mlX11_371 rfl (by decide) (sq 39 rfl) (ct8_sort G t x1 S14) rfl rfl (Nat.le_of_ble_eq_true rfl) (by decide) (Nat.le_of_ble_eq_true rfl) dX11_shift_65 (fun q16 S17 => ?_)
            refine J_aload_n dX11_shift_68 rfl rfl ?_
            refine K_getR (r := some (39)) cf11 flX11_104 (sq 0 rfl) rfl (Or.inl ⟨_, rfl⟩) dX11_shift_69 ?_
            refine J_iload_n dX11_shift_72 rfl rfl ?_
            refine K_callV_i (As := [vI x3]) mcX8_sort mlX11_371 rfl (by decide) (sq 39 rfl) (ct8_sort G t x3 S17) rfl rfl (Nat.le_of_ble_eq_true rfl) (by decide) (Nat.le_of_ble_eq_true rfl) dX11_shift_73 (fun q18 S19 => ?_)
            refine J_icmp_eq (tgt := 82) dX11_shift_76 (by decide) (fun z20 => ?_) (fun z20 => ?_)
            · refine J_iload dX11_shift_82 rfl ?_
              refine J_if_lt (tgt := 110) dX11_shift_84 (by decide) (fun z21 => ?_) (fun z21 => ?_)
              · refine J_bipush (v := (-13)) dX11_shift_110 (by decide) ?_
                exact J_ireturn rfl (Nat.le_refl _) (Nat.le_refl _) rfl dX11_shift_112
              · refine J_aload_n dX11_shift_87 rfl rfl ?_
                refine J_iload_n dX11_shift_88 rfl rfl ?_
                refine J_iload_n dX11_shift_89 rfl rfl ?_
                refine J_iload dX11_shift_90 rfl ?_
                refine K_callV_i (As := [vI x1, vI x2, vI x5]) mcX11_hasPlaces mlX11_374 rfl (by decide) (sq 0 rfl) (ct11_hasPlaces G t x1 x2 x5 S19) rfl rfl (Nat.le_of_ble_eq_true rfl) (by decide) (Nat.le_of_ble_eq_true rfl) dX11_shift_92 (fun q22 S23 => ?_)
                refine J_if_eq (tgt := 110) dX11_shift_95 (by decide) (fun z24 => ?_) (fun z24 => ?_)
                · refine J_bipush (v := (-13)) dX11_shift_110 (by decide) ?_
                  exact J_ireturn rfl (Nat.le_refl _) (Nat.le_refl _) rfl dX11_shift_112
                · refine J_aload_n dX11_shift_98 rfl rfl ?_
                  refine J_iload_n dX11_shift_99 rfl rfl ?_
                  refine J_iload dX11_shift_100 rfl ?_
                  refine J_iload dX11_shift_102 rfl ?_
                  refine K_callV_i (As := [vI x3, vI x4, vI x5]) mcX11_hasPlaces mlX11_374 rfl (by decide) (sq 0 rfl) (ct11_hasPlaces G t x3 x4 x5 S23) rfl rfl (Nat.le_of_ble_eq_true rfl) (by decide) (Nat.le_of_ble_eq_true rfl) dX11_shift_104 (fun q25 S26 => ?_)
                  refine J_if_ne (tgt := 113) dX11_shift_107 (by decide) (fun z27 => ?_) (fun z27 => ?_)
                  · refine J_bipush (v := (-13)) dX11_shift_110 (by decide) ?_
                    exact J_ireturn rfl (Nat.le_refl _) (Nat.le_refl _) rfl dX11_shift_112
                  · refine J_aload_n dX11_shift_113 rfl rfl ?_
                    refine K_getR (r := some (39)) cf11 flX11_104 (sq 0 rfl) rfl (Or.inl ⟨_, rfl⟩) dX11_shift_114 ?_
                    refine J_iload_n dX11_shift_117 rfl rfl ?_
                    refine J_iload_n dX11_shift_118 rfl rfl ?_
                    refine J_iload_n dX11_shift_119 rfl rfl ?_
                    refine J_iload dX11_shift_120 rfl ?_
                    refine J_iload dX11_shift_122 rfl ?_
                    refine K_callV_v (As := [vI x1, vI x2, vI x3, vI x4, vI x5]) mcX8_copy mlX11_378 rfl (by decide) (sq 39 rfl) (ct8_copy G t x1 x2 x3 x4 x5 S26) rfl rfl (Nat.le_of_ble_eq_true rfl) (by decide) (Nat.le_of_ble_eq_true rfl) dX11_shift_124 (fun q28 S29 => ?_)
                    refine J_iload dX11_shift_127 rfl ?_
                    exact J_ireturn rfl (Nat.le_refl _) (Nat.le_refl _) rfl dX11_shift_129
            · refine J_bipush (v := (-12)) dX11_shift_79 (by decide) ?_
              exact J_ireturn rfl (Nat.le_refl _) (Nat.le_refl _) rfl dX11_shift_81
        · refine J_bipush (v := (-11)) dX11_shift_46 (by decide) ?_
          exact J_ireturn rfl (Nat.le_refl _) (Nat.le_refl _) rfl dX11_shift_48
      · refine J_bipush (v := (-11)) dX11_shift_46 (by decide) ?_
        exact J_ireturn rfl (Nat.le_refl _) (Nat.le_refl _) rfl dX11_shift_48
theorem dX11_taken_0 : decode cX11_taken 0 = .ok (.aload_n 0, 1) := by decide +kernel
theorem dX11_taken_1 : decode cX11_taken 1 = .ok (.getfield 104, 3) := by decide +kernel
theorem dX11_taken_4 : decode cX11_taken 4 = .ok (.iload_n 1, 1) := by decide +kernel
theorem dX11_taken_5 : decode cX11_taken 5 = .ok (.invokevirtual 166, 3) := by decide +kernel
theorem dX11_taken_8 : decode cX11_taken 8 = .ok (.ifCond .eq 13, 3) := by decide +kernel
theorem dX11_taken_11 : decode cX11_taken 11 = .ok (.iload_n 2, 1) := by decide +kernel
theorem dX11_taken_12 : decode cX11_taken 12 = .ok (.ifCond .lt 9, 3) := by decide +kernel
theorem dX11_taken_15 : decode cX11_taken 15 = .ok (.iload_n 2, 1) := by decide +kernel
theorem dX11_taken_16 : decode cX11_taken 16 = .ok (.bipush 6, 2) := by decide +kernel
theorem dX11_taken_18 : decode cX11_taken 18 = .ok (.if_icmp .le 5, 3) := by decide +kernel
theorem dX11_taken_21 : decode cX11_taken 21 = .ok (.iconst (-1), 1) := by decide +kernel
theorem dX11_taken_22 : decode cX11_taken 22 = .ok (.ireturn, 1) := by decide +kernel
theorem dX11_taken_23 : decode cX11_taken 23 = .ok (.aload_n 0, 1) := by decide +kernel
theorem dX11_taken_24 : decode cX11_taken 24 = .ok (.getfield 104, 3) := by decide +kernel
theorem dX11_taken_27 : decode cX11_taken 27 = .ok (.iload_n 1, 1) := by decide +kernel
theorem dX11_taken_28 : decode cX11_taken 28 = .ok (.invokevirtual 169, 3) := by decide +kernel
theorem dX11_taken_31 : decode cX11_taken 31 = .ok (.ifCond .eq 6, 3) := by decide +kernel
theorem dX11_taken_34 : decode cX11_taken 34 = .ok (.bipush (-11), 2) := by decide +kernel
theorem dX11_taken_36 : decode cX11_taken 36 = .ok (.ireturn, 1) := by decide +kernel
theorem dX11_taken_37 : decode cX11_taken 37 = .ok (.aload_n 0, 1) := by decide +kernel
theorem dX11_taken_38 : decode cX11_taken 38 = .ok (.getfield 104, 3) := by decide +kernel
theorem dX11_taken_41 : decode cX11_taken 41 = .ok (.iload_n 1, 1) := by decide +kernel
theorem dX11_taken_42 : decode cX11_taken 42 = .ok (.invokevirtual 368, 3) := by decide +kernel
theorem dX11_taken_45 : decode cX11_taken 45 = .ok (.ifCond .eq 6, 3) := by decide +kernel
theorem dX11_taken_48 : decode cX11_taken 48 = .ok (.bipush (-12), 2) := by decide +kernel
theorem dX11_taken_50 : decode cX11_taken 50 = .ok (.ireturn, 1) := by decide +kernel
theorem dX11_taken_51 : decode cX11_taken 51 = .ok (.aload_n 0, 1) := by decide +kernel
theorem dX11_taken_52 : decode cX11_taken 52 = .ok (.getfield 104, 3) := by decide +kernel
theorem dX11_taken_55 : decode cX11_taken 55 = .ok (.iload_n 1, 1) := by decide +kernel
theorem dX11_taken_56 : decode cX11_taken 56 = .ok (.invokevirtual 382, 3) := by decide +kernel
theorem dX11_taken_59 : decode cX11_taken 59 = .ok (.bipush 100, 2) := by decide +kernel
theorem dX11_taken_61 : decode cX11_taken 61 = .ok (.irem, 1) := by decide +kernel
theorem dX11_taken_62 : decode cX11_taken 62 = .ok (.invokestatic 385, 3) := by decide +kernel
theorem dX11_taken_65 : decode cX11_taken 65 = .ok (.istore_n 3, 1) := by decide +kernel
theorem dX11_taken_66 : decode cX11_taken 66 = .ok (.iload_n 3, 1) := by decide +kernel
theorem dX11_taken_67 : decode cX11_taken 67 = .ok (.iload_n 2, 1) := by decide +kernel
theorem dX11_taken_68 : decode cX11_taken 68 = .ok (.invokestatic 388, 3) := by decide +kernel
theorem dX11_taken_71 : decode cX11_taken 71 = .ok (.ifCond .eq 7, 3) := by decide +kernel
theorem dX11_taken_74 : decode cX11_taken 74 = .ok (.iload_n 3, 1) := by decide +kernel
theorem dX11_taken_75 : decode cX11_taken 75 = .ok (.goto 5, 3) := by decide +kernel
theorem dX11_taken_78 : decode cX11_taken 78 = .ok (.bipush (-12), 2) := by decide +kernel
theorem dX11_taken_80 : decode cX11_taken 80 = .ok (.ireturn, 1) := by decide +kernel
set_option maxRecDepth 100000 in
set_option maxHeartbeats 4000000 in
theorem ct11_taken (G : Gm) (t : Nat) (N : Nat) (x1 : Int32) (x2 : Int32)  (S : St) : Ct G YX11_taken yX11_taken 4 0 0 (fI t) (f11_taken N x1 x2 S) [vR (some 0), vI x1, vI x2] (MM t S) := by
  refine Ct_of_J [some (vR (some 0)), some (vI x1), some (vI x2), none] (by decide) rfl (fun h => by cases h) (Nat.le_of_ble_eq_true rfl) (And.intro rfl (And.intro rfl (And.intro rfl (trivial)))) ?_
  unfold f11_taken
  refine J_aload_n dX11_taken_0 rfl rfl ?_
  refine K_getR (r := some (39)) cf11 flX11_104 (sq 0 rfl) rfl (Or.inl ⟨_, rfl⟩) dX11_taken_1 ?_
  refine J_iload_n dX11_taken_4 rfl rfl ?_
  refine K_callV_i (As := [vI x1]) mcX8_isShelf mlX11_166 rfl (by decide) (sq 39 rfl) (ct8_isShelf G t x1 S) rfl rfl (Nat.le_of_ble_eq_true rfl) (by decide) (Nat.le_of_ble_eq_true rfl) dX11_taken_5 (fun q1 S2 => ?_)
  refine J_if_eq (tgt := 21) dX11_taken_8 (by decide) (fun z3 => ?_) (fun z3 => ?_)
  · refine J_iconst (v := (-1)) dX11_taken_21 (by decide) ?_
    exact J_ireturn rfl (Nat.le_refl _) (Nat.le_refl _) rfl dX11_taken_22
  · refine J_iload_n dX11_taken_11 rfl rfl ?_
    refine J_if_lt (tgt := 21) dX11_taken_12 (by decide) (fun z4 => ?_) (fun z4 => ?_)
    · refine J_iconst (v := (-1)) dX11_taken_21 (by decide) ?_
      exact J_ireturn rfl (Nat.le_refl _) (Nat.le_refl _) rfl dX11_taken_22
    · refine J_iload_n dX11_taken_15 rfl rfl ?_
      refine J_bipush (v := nI 6) dX11_taken_16 (by decide) ?_
      refine J_icmp_le (tgt := 23) dX11_taken_18 (by decide) (fun z5 => ?_) (fun z5 => ?_)
      · refine J_aload_n dX11_taken_23 rfl rfl ?_
        refine K_getR (r := some (39)) cf11 flX11_104 (sq 0 rfl) rfl (Or.inl ⟨_, rfl⟩) dX11_taken_24 ?_
        refine J_iload_n dX11_taken_27 rfl rfl ?_
        refine K_callV_i (As := [vI x1]) mcX8_holdsNothing mlX11_169 rfl (by decide) (sq 39 rfl) (ct8_holdsNothing G t x1 S2) rfl rfl (Nat.le_of_ble_eq_true rfl) (by decide) (Nat.le_of_ble_eq_true rfl) dX11_taken_28 (fun q6 S7 => ?_)
        refine J_if_eq (tgt := 37) dX11_taken_31 (by decide) (fun z8 => ?_) (fun z8 => ?_)
        · refine J_aload_n dX11_taken_37 rfl rfl ?_
          refine K_getR (r := some (39)) cf11 flX11_104 (sq 0 rfl) rfl (Or.inl ⟨_, rfl⟩) dX11_taken_38 ?_
          refine J_iload_n dX11_taken_41 rfl rfl ?_
          refine K_callV_i (As := [vI x1]) mcX8_holdsRow mlX11_368 rfl (by decide) (sq 39 rfl) (ct8_holdsRow G t x1 S7) rfl rfl (Nat.le_of_ble_eq_true rfl) (by decide) (Nat.le_of_ble_eq_true rfl) dX11_taken_42 (fun q9 S10 => ?_)
          refine J_if_eq (tgt := 51) dX11_taken_45 (by decide) (fun z11 => ?_) (fun z11 => ?_)
          · refine J_aload_n dX11_taken_51 rfl rfl ?_
            refine K_getR (r := some (39)) cf11 flX11_104 (sq 0 rfl) rfl (Or.inl ⟨_, rfl⟩) dX11_taken_52 ?_
            refine J_iload_n dX11_taken_55 rfl rfl ?_
            refine K_callV_i (As := [vI x1]) mcX8_heldOrder mlX11_382 rfl (by decide) (sq 39 rfl) (ct8_heldOrder G t x1 S10) rfl rfl (Nat.le_of_ble_eq_true rfl) (by decide) (Nat.le_of_ble_eq_true rfl) dX11_taken_56 (fun q12 S13 => ?_)
            refine J_bipush (v := nI 100) dX11_taken_59 (by decide) ?_
            refine J_irem (by decide) dX11_taken_61 ?_
            refine K_callS_i (As := [vI (remI q12 (nI 100))]) mcX0_kindOf mlX11_385 (ct0_kindOf G t (remI q12 (nI 100)) S13) rfl rfl (Nat.le_of_ble_eq_true rfl) (by decide) (Nat.le_of_ble_eq_true rfl) dX11_taken_62 (fun q14 S15 => ?_)
            refine J_istore_n [some (vR (some 0)), some (vI x1), some (vI x2), some (vI q14)] dX11_taken_65 rfl (Nat.le_of_ble_eq_true rfl) rfl rfl ?_
            refine J_iload_n dX11_taken_66 rfl rfl ?_
            refine J_iload_n dX11_taken_67 rfl rfl ?_
            refine K_callS_i (As := [vI q14, vI x2]) mcX0_isUnder mlX11_388 (ct0_isUnder G t N q14 x2 S15) rfl rfl (Nat.le_of_ble_eq_true rfl) (by decide) (Nat.le_of_ble_eq_true rfl) dX11_taken_68 (fun q16 S17 => ?_)
            refine J_if_eq (tgt := 78) dX11_taken_71 (by decide) (fun z18 => ?_) (fun z18 => ?_)
            · refine J_bipush (v := (-12)) dX11_taken_78 (by decide) ?_
              exact J_ireturn rfl (Nat.le_refl _) (Nat.le_refl _) rfl dX11_taken_80
            · refine J_iload_n dX11_taken_74 rfl rfl ?_
              refine J_goto (tgt := 80) dX11_taken_75 (by decide) ?_
              exact J_ireturn rfl (Nat.le_refl _) (Nat.le_refl _) rfl dX11_taken_80
          · refine J_bipush (v := (-12)) dX11_taken_48 (by decide) ?_
            exact J_ireturn rfl (Nat.le_refl _) (Nat.le_refl _) rfl dX11_taken_50
        · refine J_bipush (v := (-11)) dX11_taken_34 (by decide) ?_
          exact J_ireturn rfl (Nat.le_refl _) (Nat.le_refl _) rfl dX11_taken_36
      · refine J_iconst (v := (-1)) dX11_taken_21 (by decide) ?_
        exact J_ireturn rfl (Nat.le_refl _) (Nat.le_refl _) rfl dX11_taken_22
theorem dX11_count_0 : decode cX11_count 0 = .ok (.iload_n 1, 1) := by decide +kernel
theorem dX11_count_1 : decode cX11_count 1 = .ok (.tableswitch 69 0 4 #[35, 40, 45, 53, 61], 35) := by decide +kernel
theorem dX11_count_36 : decode cX11_count 36 = .ok (.aload_n 0, 1) := by decide +kernel
theorem dX11_count_37 : decode cX11_count 37 = .ok (.getfield 15, 3) := by decide +kernel
theorem dX11_count_40 : decode cX11_count 40 = .ok (.ireturn, 1) := by decide +kernel
theorem dX11_count_41 : decode cX11_count 41 = .ok (.aload_n 0, 1) := by decide +kernel
theorem dX11_count_42 : decode cX11_count 42 = .ok (.getfield 57, 3) := by decide +kernel
theorem dX11_count_45 : decode cX11_count 45 = .ok (.ireturn, 1) := by decide +kernel
theorem dX11_count_46 : decode cX11_count 46 = .ok (.aload_n 0, 1) := by decide +kernel
theorem dX11_count_47 : decode cX11_count 47 = .ok (.getfield 47, 3) := by decide +kernel
theorem dX11_count_50 : decode cX11_count 50 = .ok (.invokevirtual 204, 3) := by decide +kernel
theorem dX11_count_53 : decode cX11_count 53 = .ok (.ireturn, 1) := by decide +kernel
theorem dX11_count_54 : decode cX11_count 54 = .ok (.aload_n 0, 1) := by decide +kernel
theorem dX11_count_55 : decode cX11_count 55 = .ok (.getfield 76, 3) := by decide +kernel
theorem dX11_count_58 : decode cX11_count 58 = .ok (.invokevirtual 254, 3) := by decide +kernel
theorem dX11_count_61 : decode cX11_count 61 = .ok (.ireturn, 1) := by decide +kernel
theorem dX11_count_62 : decode cX11_count 62 = .ok (.aload_n 0, 1) := by decide +kernel
theorem dX11_count_63 : decode cX11_count 63 = .ok (.getfield 97, 3) := by decide +kernel
theorem dX11_count_66 : decode cX11_count 66 = .ok (.invokevirtual 391, 3) := by decide +kernel
theorem dX11_count_69 : decode cX11_count 69 = .ok (.ireturn, 1) := by decide +kernel
theorem dX11_count_70 : decode cX11_count 70 = .ok (.iconst (-1), 1) := by decide +kernel
theorem dX11_count_71 : decode cX11_count 71 = .ok (.ireturn, 1) := by decide +kernel
set_option maxRecDepth 100000 in
set_option maxHeartbeats 4000000 in
theorem ct11_count (G : Gm) (t : Nat)  (x1 : Int32)  (S : St) : Ct G YX11_count yX11_count 2 0 0 (fI t) (f11_count x1 S) [vR (some 0), vI x1] (MM t S) := by
  refine Ct_of_J [some (vR (some 0)), some (vI x1)] (by decide) rfl (fun h => by cases h) (Nat.le_of_ble_eq_true rfl) (And.intro rfl (And.intro rfl (trivial))) ?_
  unfold f11_count
  refine J_iload_n dX11_count_0 rfl rfl ?_
  refine J_table (td := 70) _ dX11_count_1 (fun z h1 h2 => cov_of (lo := (0)) (N := 5) (ks := [nI 0, nI 1, nI 2, nI 3, nI 4]) (by decide) z h1 (by omega)) ?_ (by decide) ?_
  · refine List.forall_mem_cons.mpr ⟨tb_mk (o := 35) (tgt := 36) (by decide) (fun _ => ?_), ?_⟩
    · refine J_aload_n dX11_count_36 rfl rfl ?_
      refine K_getI cf11 flX11_15 (sq 0 rfl) (Or.inl rfl) dX11_count_37 ?_
      exact J_ireturn rfl (Nat.le_refl _) (Nat.le_refl _) rfl dX11_count_40
    · refine List.forall_mem_cons.mpr ⟨tb_mk (o := 40) (tgt := 41) (by decide) (fun _ => ?_), ?_⟩
      · refine J_aload_n dX11_count_41 rfl rfl ?_
        refine K_getI cf11 flX11_57 (sq 0 rfl) (Or.inl rfl) dX11_count_42 ?_
        exact J_ireturn rfl (Nat.le_refl _) (Nat.le_refl _) rfl dX11_count_45
      · refine List.forall_mem_cons.mpr ⟨tb_mk (o := 45) (tgt := 46) (by decide) (fun _ => ?_), ?_⟩
        · refine J_aload_n dX11_count_46 rfl rfl ?_
          refine K_getR (r := some (11)) cf11 flX11_47 (sq 0 rfl) rfl (Or.inl ⟨_, rfl⟩) dX11_count_47 ?_
          refine K_callV_i (As := []) mcX9_length mlX11_204 rfl (by decide) (sq 11 rfl) (ct9_length G t S) rfl rfl (Nat.le_of_ble_eq_true rfl) (by decide) (Nat.le_of_ble_eq_true rfl) dX11_count_50 (fun q1 S2 => ?_)
          exact J_ireturn rfl (Nat.le_refl _) (Nat.le_refl _) rfl dX11_count_53
        · refine List.forall_mem_cons.mpr ⟨tb_mk (o := 53) (tgt := 54) (by decide) (fun _ => ?_), ?_⟩
          · refine J_aload_n dX11_count_54 rfl rfl ?_
            refine K_getR (r := some (24)) cf11 flX11_76 (sq 0 rfl) rfl (Or.inl ⟨_, rfl⟩) dX11_count_55 ?_
            refine K_callV_i (As := []) mcX10_length mlX11_254 rfl (by decide) (sq 24 rfl) (ct10_length G t S) rfl rfl (Nat.le_of_ble_eq_true rfl) (by decide) (Nat.le_of_ble_eq_true rfl) dX11_count_58 (fun q3 S4 => ?_)
            exact J_ireturn rfl (Nat.le_refl _) (Nat.le_refl _) rfl dX11_count_61
          · refine List.forall_mem_cons.mpr ⟨tb_mk (o := 61) (tgt := 62) (by decide) (fun _ => ?_), ?_⟩
            · refine J_aload_n dX11_count_62 rfl rfl ?_
              refine K_getR (r := some (37)) cf11 flX11_97 (sq 0 rfl) rfl (Or.inl ⟨_, rfl⟩) dX11_count_63 ?_
              refine K_callV_i (As := []) mcX0_began mlX11_391 rfl (by decide) (sq 37 rfl) (ct0_began G t S) rfl rfl (Nat.le_of_ble_eq_true rfl) (by decide) (Nat.le_of_ble_eq_true rfl) dX11_count_66 (fun q5 S6 => ?_)
              exact J_ireturn rfl (Nat.le_refl _) (Nat.le_refl _) rfl dX11_count_69
            · exact fun _ h => absurd h List.not_mem_nil
  · refine J_iconst (v := (-1)) dX11_count_70 (by decide) ?_
    exact J_ireturn rfl (Nat.le_refl _) (Nat.le_refl _) rfl dX11_count_71
