theorem dX12_element_0 : decode cX12_element 0 = .ok (.aload_n 0, 1) := by decide +kernel
theorem dX12_element_1 : decode cX12_element 1 = .ok (.iload_n 1, 1) := by decide +kernel
theorem dX12_element_2 : decode cX12_element 2 = .ok (.iload_n 2, 1) := by decide +kernel
theorem dX12_element_3 : decode cX12_element 3 = .ok (.invokevirtual 382, 3) := by decide +kernel
theorem dX12_element_6 : decode cX12_element 6 = .ok (.ifCond .eq 9, 3) := by decide +kernel
theorem dX12_element_9 : decode cX12_element 9 = .ok (.ldc2_w 391, 3) := by decide +kernel
theorem dX12_element_12 : decode cX12_element 12 = .ok (.goto 14, 3) := by decide +kernel
theorem dX12_element_15 : decode cX12_element 15 = .ok (.aload_n 0, 1) := by decide +kernel
theorem dX12_element_16 : decode cX12_element 16 = .ok (.getfield 94, 3) := by decide +kernel
theorem dX12_element_19 : decode cX12_element 19 = .ok (.bipush 60, 2) := by decide +kernel
theorem dX12_element_21 : decode cX12_element 21 = .ok (.iload_n 1, 1) := by decide +kernel
theorem dX12_element_22 : decode cX12_element 22 = .ok (.imul, 1) := by decide +kernel
theorem dX12_element_23 : decode cX12_element 23 = .ok (.iload_n 2, 1) := by decide +kernel
theorem dX12_element_24 : decode cX12_element 24 = .ok (.iadd, 1) := by decide +kernel
theorem dX12_element_25 : decode cX12_element 25 = .ok (.laload, 1) := by decide +kernel
theorem dX12_element_26 : decode cX12_element 26 = .ok (.lreturn, 1) := by decide +kernel
set_option maxRecDepth 100000 in
set_option maxHeartbeats 4000000 in
theorem ct12_element (G : Gm) (t : Nat)  (x1 : Int32) (x2 : Int32)  (S : St) : Ct G YX12_element yX12_element 4 0 0 (fL t) (f12_element x1 x2 S) [vR (some 146), vI x1, vI x2] (MM t S) := by
  refine Ct_of_J [some (vR (some 146)), some (vI x1), some (vI x2)] (by decide) rfl (fun h => by cases h) (Nat.le_of_ble_eq_true rfl) (And.intro rfl (And.intro rfl (And.intro rfl (trivial)))) ?_
  unfold f12_element
  refine J_aload_n dX12_element_0 rfl rfl ?_
  refine J_iload_n dX12_element_1 rfl rfl ?_
  refine J_iload_n dX12_element_2 rfl rfl ?_
  refine K_callV_i (As := [vI x1, vI x2]) mcX12_refusal mlX12_382 rfl (by decide) (sq 146 rfl) (ct12_refusal G t x1 x2 S) rfl rfl (Nat.le_of_ble_eq_true rfl) (by decide) (Nat.le_of_ble_eq_true rfl) dX12_element_3 (fun q1 S2 => ?_)
  refine J_if_eq (tgt := 15) dX12_element_6 (by decide) (fun z3 => ?_) (fun z3 => ?_)
  · refine J_aload_n dX12_element_15 rfl rfl ?_
    refine K_getR (r := some (172)) cf12 flX12_94 (sq 146 rfl) rfl (Or.inr ⟨_, rfl⟩) dX12_element_16 ?_
    refine J_bipush (v := nI 60) dX12_element_19 (by decide) ?_
    refine J_iload_n dX12_element_21 rfl rfl ?_
    refine J_imul dX12_element_22 ?_
    refine J_iload_n dX12_element_23 rfl rfl ?_
    refine J_iadd dX12_element_24 ?_
    refine K_lald (sq 172 rfl) dX12_element_25 ?_
    exact J_lreturn rfl (Nat.le_refl _) (Nat.le_refl _) rfl dX12_element_26
  · refine J_ldc2_w (v := (-9223372036854775808)) wX12_391 dX12_element_9 ?_
    refine J_goto (tgt := 26) dX12_element_12 (by decide) ?_
    exact J_lreturn rfl (Nat.le_refl _) (Nat.le_refl _) rfl dX12_element_26
theorem dX12_shift_0 : decode cX12_shift 0 = .ok (.iload_n 1, 1) := by decide +kernel
theorem dX12_shift_1 : decode cX12_shift 1 = .ok (.invokestatic 379, 3) := by decide +kernel
theorem dX12_shift_4 : decode cX12_shift 4 = .ok (.ifCond .eq 10, 3) := by decide +kernel
theorem dX12_shift_7 : decode cX12_shift 7 = .ok (.iload_n 3, 1) := by decide +kernel
theorem dX12_shift_8 : decode cX12_shift 8 = .ok (.invokestatic 379, 3) := by decide +kernel
theorem dX12_shift_11 : decode cX12_shift 11 = .ok (.ifCond .ne 5, 3) := by decide +kernel
theorem dX12_shift_14 : decode cX12_shift 14 = .ok (.iconst (-1), 1) := by decide +kernel
theorem dX12_shift_15 : decode cX12_shift 15 = .ok (.ireturn, 1) := by decide +kernel
theorem dX12_shift_16 : decode cX12_shift 16 = .ok (.aload_n 0, 1) := by decide +kernel
theorem dX12_shift_17 : decode cX12_shift 17 = .ok (.getfield 88, 3) := by decide +kernel
theorem dX12_shift_20 : decode cX12_shift 20 = .ok (.iload_n 1, 1) := by decide +kernel
theorem dX12_shift_21 : decode cX12_shift 21 = .ok (.iaload, 1) := by decide +kernel
theorem dX12_shift_22 : decode cX12_shift 22 = .ok (.ifCond .lt 12, 3) := by decide +kernel
theorem dX12_shift_25 : decode cX12_shift 25 = .ok (.aload_n 0, 1) := by decide +kernel
theorem dX12_shift_26 : decode cX12_shift 26 = .ok (.getfield 88, 3) := by decide +kernel
theorem dX12_shift_29 : decode cX12_shift 29 = .ok (.iload_n 3, 1) := by decide +kernel
theorem dX12_shift_30 : decode cX12_shift 30 = .ok (.iaload, 1) := by decide +kernel
theorem dX12_shift_31 : decode cX12_shift 31 = .ok (.ifCond .ge 6, 3) := by decide +kernel
theorem dX12_shift_34 : decode cX12_shift 34 = .ok (.bipush (-11), 2) := by decide +kernel
theorem dX12_shift_36 : decode cX12_shift 36 = .ok (.ireturn, 1) := by decide +kernel
theorem dX12_shift_37 : decode cX12_shift 37 = .ok (.aload_n 0, 1) := by decide +kernel
theorem dX12_shift_38 : decode cX12_shift 38 = .ok (.getfield 88, 3) := by decide +kernel
theorem dX12_shift_41 : decode cX12_shift 41 = .ok (.iload_n 1, 1) := by decide +kernel
theorem dX12_shift_42 : decode cX12_shift 42 = .ok (.iaload, 1) := by decide +kernel
theorem dX12_shift_43 : decode cX12_shift 43 = .ok (.sipush 1000, 3) := by decide +kernel
theorem dX12_shift_46 : decode cX12_shift 46 = .ok (.if_icmp .lt 18, 3) := by decide +kernel
theorem dX12_shift_49 : decode cX12_shift 49 = .ok (.aload_n 0, 1) := by decide +kernel
theorem dX12_shift_50 : decode cX12_shift 50 = .ok (.getfield 88, 3) := by decide +kernel
theorem dX12_shift_53 : decode cX12_shift 53 = .ok (.iload_n 1, 1) := by decide +kernel
theorem dX12_shift_54 : decode cX12_shift 54 = .ok (.iaload, 1) := by decide +kernel
theorem dX12_shift_55 : decode cX12_shift 55 = .ok (.aload_n 0, 1) := by decide +kernel
theorem dX12_shift_56 : decode cX12_shift 56 = .ok (.getfield 88, 3) := by decide +kernel
theorem dX12_shift_59 : decode cX12_shift 59 = .ok (.iload_n 3, 1) := by decide +kernel
theorem dX12_shift_60 : decode cX12_shift 60 = .ok (.iaload, 1) := by decide +kernel
theorem dX12_shift_61 : decode cX12_shift 61 = .ok (.if_icmp .eq 6, 3) := by decide +kernel
theorem dX12_shift_64 : decode cX12_shift 64 = .ok (.bipush (-12), 2) := by decide +kernel
theorem dX12_shift_66 : decode cX12_shift 66 = .ok (.ireturn, 1) := by decide +kernel
theorem dX12_shift_67 : decode cX12_shift 67 = .ok (.iload 5, 2) := by decide +kernel
theorem dX12_shift_69 : decode cX12_shift 69 = .ok (.ifCond .lt 39, 3) := by decide +kernel
theorem dX12_shift_72 : decode cX12_shift 72 = .ok (.iload_n 2, 1) := by decide +kernel
theorem dX12_shift_73 : decode cX12_shift 73 = .ok (.ifCond .lt 35, 3) := by decide +kernel
theorem dX12_shift_76 : decode cX12_shift 76 = .ok (.iload 4, 2) := by decide +kernel
theorem dX12_shift_78 : decode cX12_shift 78 = .ok (.ifCond .lt 30, 3) := by decide +kernel
theorem dX12_shift_81 : decode cX12_shift 81 = .ok (.iload_n 2, 1) := by decide +kernel
theorem dX12_shift_82 : decode cX12_shift 82 = .ok (.aload_n 0, 1) := by decide +kernel
theorem dX12_shift_83 : decode cX12_shift 83 = .ok (.getfield 91, 3) := by decide +kernel
theorem dX12_shift_86 : decode cX12_shift 86 = .ok (.iload_n 1, 1) := by decide +kernel
theorem dX12_shift_87 : decode cX12_shift 87 = .ok (.iaload, 1) := by decide +kernel
theorem dX12_shift_88 : decode cX12_shift 88 = .ok (.iload 5, 2) := by decide +kernel
theorem dX12_shift_90 : decode cX12_shift 90 = .ok (.isub, 1) := by decide +kernel
theorem dX12_shift_91 : decode cX12_shift 91 = .ok (.if_icmp .gt 17, 3) := by decide +kernel
theorem dX12_shift_94 : decode cX12_shift 94 = .ok (.iload 4, 2) := by decide +kernel
theorem dX12_shift_96 : decode cX12_shift 96 = .ok (.aload_n 0, 1) := by decide +kernel
theorem dX12_shift_97 : decode cX12_shift 97 = .ok (.getfield 91, 3) := by decide +kernel
theorem dX12_shift_100 : decode cX12_shift 100 = .ok (.iload_n 3, 1) := by decide +kernel
theorem dX12_shift_101 : decode cX12_shift 101 = .ok (.iaload, 1) := by decide +kernel
theorem dX12_shift_102 : decode cX12_shift 102 = .ok (.iload 5, 2) := by decide +kernel
theorem dX12_shift_104 : decode cX12_shift 104 = .ok (.isub, 1) := by decide +kernel
theorem dX12_shift_105 : decode cX12_shift 105 = .ok (.if_icmp .le 6, 3) := by decide +kernel
theorem dX12_shift_108 : decode cX12_shift 108 = .ok (.bipush (-13), 2) := by decide +kernel
theorem dX12_shift_110 : decode cX12_shift 110 = .ok (.ireturn, 1) := by decide +kernel
theorem dX12_shift_111 : decode cX12_shift 111 = .ok (.iconst 0, 1) := by decide +kernel
theorem dX12_shift_112 : decode cX12_shift 112 = .ok (.istore 6, 2) := by decide +kernel
theorem dX12_shift_114 : decode cX12_shift 114 = .ok (.iload 6, 2) := by decide +kernel
theorem dX12_shift_116 : decode cX12_shift 116 = .ok (.iload 5, 2) := by decide +kernel
theorem dX12_shift_118 : decode cX12_shift 118 = .ok (.if_icmp .ge 30, 3) := by decide +kernel
theorem dX12_shift_121 : decode cX12_shift 121 = .ok (.aload_n 0, 1) := by decide +kernel
theorem dX12_shift_122 : decode cX12_shift 122 = .ok (.getfield 97, 3) := by decide +kernel
theorem dX12_shift_125 : decode cX12_shift 125 = .ok (.iload 6, 2) := by decide +kernel
theorem dX12_shift_127 : decode cX12_shift 127 = .ok (.aload_n 0, 1) := by decide +kernel
theorem dX12_shift_128 : decode cX12_shift 128 = .ok (.getfield 94, 3) := by decide +kernel
theorem dX12_shift_131 : decode cX12_shift 131 = .ok (.bipush 60, 2) := by decide +kernel
theorem dX12_shift_133 : decode cX12_shift 133 = .ok (.iload_n 1, 1) := by decide +kernel
theorem dX12_shift_134 : decode cX12_shift 134 = .ok (.imul, 1) := by decide +kernel
theorem dX12_shift_135 : decode cX12_shift 135 = .ok (.iload_n 2, 1) := by decide +kernel
theorem dX12_shift_136 : decode cX12_shift 136 = .ok (.iadd, 1) := by decide +kernel
theorem dX12_shift_137 : decode cX12_shift 137 = .ok (.iload 6, 2) := by decide +kernel
theorem dX12_shift_139 : decode cX12_shift 139 = .ok (.iadd, 1) := by decide +kernel
theorem dX12_shift_140 : decode cX12_shift 140 = .ok (.laload, 1) := by decide +kernel
theorem dX12_shift_141 : decode cX12_shift 141 = .ok (.lastore, 1) := by decide +kernel
theorem dX12_shift_142 : decode cX12_shift 142 = .ok (.iinc 6 1, 3) := by decide +kernel
theorem dX12_shift_145 : decode cX12_shift 145 = .ok (.goto (-31), 3) := by decide +kernel
theorem dX12_shift_148 : decode cX12_shift 148 = .ok (.iconst 0, 1) := by decide +kernel
theorem dX12_shift_149 : decode cX12_shift 149 = .ok (.istore 6, 2) := by decide +kernel
theorem dX12_shift_151 : decode cX12_shift 151 = .ok (.iload 6, 2) := by decide +kernel
theorem dX12_shift_153 : decode cX12_shift 153 = .ok (.iload 5, 2) := by decide +kernel
theorem dX12_shift_155 : decode cX12_shift 155 = .ok (.if_icmp .ge 31, 3) := by decide +kernel
theorem dX12_shift_158 : decode cX12_shift 158 = .ok (.aload_n 0, 1) := by decide +kernel
theorem dX12_shift_159 : decode cX12_shift 159 = .ok (.getfield 94, 3) := by decide +kernel
theorem dX12_shift_162 : decode cX12_shift 162 = .ok (.bipush 60, 2) := by decide +kernel
theorem dX12_shift_164 : decode cX12_shift 164 = .ok (.iload_n 3, 1) := by decide +kernel
theorem dX12_shift_165 : decode cX12_shift 165 = .ok (.imul, 1) := by decide +kernel
theorem dX12_shift_166 : decode cX12_shift 166 = .ok (.iload 4, 2) := by decide +kernel
theorem dX12_shift_168 : decode cX12_shift 168 = .ok (.iadd, 1) := by decide +kernel
theorem dX12_shift_169 : decode cX12_shift 169 = .ok (.iload 6, 2) := by decide +kernel
theorem dX12_shift_171 : decode cX12_shift 171 = .ok (.iadd, 1) := by decide +kernel
theorem dX12_shift_172 : decode cX12_shift 172 = .ok (.aload_n 0, 1) := by decide +kernel
theorem dX12_shift_173 : decode cX12_shift 173 = .ok (.getfield 97, 3) := by decide +kernel
theorem dX12_shift_176 : decode cX12_shift 176 = .ok (.iload 6, 2) := by decide +kernel
theorem dX12_shift_178 : decode cX12_shift 178 = .ok (.laload, 1) := by decide +kernel
theorem dX12_shift_179 : decode cX12_shift 179 = .ok (.lastore, 1) := by decide +kernel
theorem dX12_shift_180 : decode cX12_shift 180 = .ok (.iinc 6 1, 3) := by decide +kernel
theorem dX12_shift_183 : decode cX12_shift 183 = .ok (.goto (-32), 3) := by decide +kernel
theorem dX12_shift_186 : decode cX12_shift 186 = .ok (.iload 5, 2) := by decide +kernel
theorem dX12_shift_188 : decode cX12_shift 188 = .ok (.ireturn, 1) := by decide +kernel
set_option maxRecDepth 100000 in
set_option maxHeartbeats 4000000 in
theorem t12_shift_h151 (G : Gm) (t : Nat) (N : Nat) (x3 : Int32) (x4 : Int32) (x5 : Int32)    : ∀ (n : Nat) (x6 : Int32) (S : St), J G YX12_shift 3 0 0 (fI t) 0 0 151 [some (vR (some 146)), none, none, some (vI x3), some (vI x4), some (vI x5), some (vI x6)] [] (MM t S) (f12_shift_h151 N x3 x4 x5 n x6 S) := by
  intro n
  induction n with
  | zero => intro x6 S; exact J_none
  | succ n ih =>
    intro x6 S
    rw [f12_shift_h151]
    refine J_iload dX12_shift_151 rfl ?_
    refine J_iload dX12_shift_153 rfl ?_
    refine J_icmp_ge (tgt := 186) dX12_shift_155 (by decide) (fun z1 => ?_) (fun z1 => ?_)
    · refine J_iload dX12_shift_186 rfl ?_
      exact J_ireturn rfl (Nat.le_refl _) (Nat.le_refl _) rfl dX12_shift_188
    · refine J_aload_n dX12_shift_158 rfl rfl ?_
      refine K_getR (r := some (172)) cf12 flX12_94 (sq 146 rfl) rfl (Or.inr ⟨_, rfl⟩) dX12_shift_159 ?_
      refine J_bipush (v := nI 60) dX12_shift_162 (by decide) ?_
      refine J_iload_n dX12_shift_164 rfl rfl ?_
      refine J_imul dX12_shift_165 ?_
      refine J_iload dX12_shift_166 rfl ?_
      refine J_iadd dX12_shift_168 ?_
      refine J_iload dX12_shift_169 rfl ?_
      refine J_iadd dX12_shift_171 ?_
      refine J_aload_n dX12_shift_172 rfl rfl ?_
      refine K_getR (r := some (173)) cf12 flX12_97 (sq 146 rfl) rfl (Or.inr ⟨_, rfl⟩) dX12_shift_173 ?_
      refine J_iload dX12_shift_176 rfl ?_
      refine K_lald (sq 173 rfl) dX12_shift_178 ?_
      refine K_last (sq 172 rfl) dX12_shift_179 ?_
      refine J_ltS (fun S2 _ => ?_)
      refine J_iinc (v := x6 + nI 1) [some (vR (some 146)), none, none, some (vI x3), some (vI x4), some (vI x5), some (vI (x6 + nI 1))] dX12_shift_180 rfl rfl (Nat.le_of_ble_eq_true rfl) rfl rfl ?_
      refine J_goto (tgt := 151) dX12_shift_183 (by decide) ?_
      exact J_sb (ih (x6 + nI 1) S2) (And.intro rfl (And.intro rfl (And.intro rfl (And.intro rfl (And.intro rfl (trivial))))))
set_option maxRecDepth 100000 in
set_option maxHeartbeats 4000000 in
theorem t12_shift_h114 (G : Gm) (t : Nat) (N : Nat) (x1 : Int32) (x2 : Int32) (x3 : Int32) (x4 : Int32) (x5 : Int32)    : ∀ (n : Nat) (x6 : Int32) (S : St), J G YX12_shift 3 0 0 (fI t) 0 0 114 [some (vR (some 146)), some (vI x1), some (vI x2), some (vI x3), some (vI x4), some (vI x5), some (vI x6)] [] (MM t S) (f12_shift_h114 N x1 x2 x3 x4 x5 n x6 S) := by
  intro n
  induction n with
  | zero => intro x6 S; exact J_none
  | succ n ih =>
    intro x6 S
    rw [f12_shift_h114]
    refine J_iload dX12_shift_114 rfl ?_
    refine J_iload dX12_shift_116 rfl ?_
    refine J_icmp_ge (tgt := 148) dX12_shift_118 (by decide) (fun z1 => ?_) (fun z1 => ?_)
    · refine J_iconst (v := nI 0) dX12_shift_148 (by decide) ?_
      refine J_istore [some (vR (some 146)), some (vI x1), some (vI x2), some (vI x3), some (vI x4), some (vI x5), some (vI (nI 0))] dX12_shift_149 (Nat.le_of_ble_eq_true rfl) rfl rfl ?_
      exact J_sb (t12_shift_h151 G t N x3 x4 x5 N (nI 0) S) (And.intro rfl (And.intro rfl (And.intro rfl (And.intro rfl (And.intro rfl (trivial))))))
    · refine J_aload_n dX12_shift_121 rfl rfl ?_
      refine K_getR (r := some (173)) cf12 flX12_97 (sq 146 rfl) rfl (Or.inr ⟨_, rfl⟩) dX12_shift_122 ?_
      refine J_iload dX12_shift_125 rfl ?_
      refine J_aload_n dX12_shift_127 rfl rfl ?_
      refine K_getR (r := some (172)) cf12 flX12_94 (sq 146 rfl) rfl (Or.inr ⟨_, rfl⟩) dX12_shift_128 ?_
      refine J_bipush (v := nI 60) dX12_shift_131 (by decide) ?_
      refine J_iload_n dX12_shift_133 rfl rfl ?_
      refine J_imul dX12_shift_134 ?_
      refine J_iload_n dX12_shift_135 rfl rfl ?_
      refine J_iadd dX12_shift_136 ?_
      refine J_iload dX12_shift_137 rfl ?_
      refine J_iadd dX12_shift_139 ?_
      refine K_lald (sq 172 rfl) dX12_shift_140 ?_
      refine K_last (sq 173 rfl) dX12_shift_141 ?_
      refine J_ltS (fun S2 _ => ?_)
      refine J_iinc (v := x6 + nI 1) [some (vR (some 146)), some (vI x1), some (vI x2), some (vI x3), some (vI x4), some (vI x5), some (vI (x6 + nI 1))] dX12_shift_142 rfl rfl (Nat.le_of_ble_eq_true rfl) rfl rfl ?_
      refine J_goto (tgt := 114) dX12_shift_145 (by decide) ?_
      exact J_sb (ih (x6 + nI 1) S2) (And.intro rfl (And.intro rfl (And.intro rfl (And.intro rfl (And.intro rfl (And.intro rfl (And.intro rfl (trivial))))))))
set_option maxRecDepth 100000 in
set_option maxHeartbeats 4000000 in
theorem ct12_shift (G : Gm) (t : Nat) (N : Nat) (x1 : Int32) (x2 : Int32) (x3 : Int32) (x4 : Int32) (x5 : Int32)  (S : St) : Ct G YX12_shift yX12_shift 3 0 0 (fI t) (f12_shift N x1 x2 x3 x4 x5 S) [vR (some 146), vI x1, vI x2, vI x3, vI x4, vI x5] (MM t S) := by
  refine Ct_of_J [some (vR (some 146)), some (vI x1), some (vI x2), some (vI x3), some (vI x4), some (vI x5), none] (by decide) rfl (fun h => by cases h) (Nat.le_of_ble_eq_true rfl) (And.intro rfl (And.intro rfl (And.intro rfl (And.intro rfl (And.intro rfl (And.intro rfl (trivial))))))) ?_
  unfold f12_shift
  refine J_iload_n dX12_shift_0 rfl rfl ?_
  refine K_callS_i (As := [vI x1]) mcX12_isShelf mlX12_379 (ct12_isShelf G t x1 S) rfl rfl (Nat.le_of_ble_eq_true rfl) (by decide) (Nat.le_of_ble_eq_true rfl) dX12_shift_1 (fun q1 S2 => ?_)
  refine J_if_eq (tgt := 14) dX12_shift_4 (by decide) (fun z3 => ?_) (fun z3 => ?_)
  · refine J_iconst (v := (-1)) dX12_shift_14 (by decide) ?_
    exact J_ireturn rfl (Nat.le_refl _) (Nat.le_refl _) rfl dX12_shift_15
  · refine J_iload_n dX12_shift_7 rfl rfl ?_
    refine K_callS_i (As := [vI x3]) mcX12_isShelf mlX12_379 (ct12_isShelf G t x3 S2) rfl rfl (Nat.le_of_ble_eq_true rfl) (by decide) (Nat.le_of_ble_eq_true rfl) dX12_shift_8 (fun q4 S5 => ?_)
    refine J_if_ne (tgt := 16) dX12_shift_11 (by decide) (fun z6 => ?_) (fun z6 => ?_)
    · refine J_iconst (v := (-1)) dX12_shift_14 (by decide) ?_
      exact J_ireturn rfl (Nat.le_refl _) (Nat.le_refl _) rfl dX12_shift_15
    · refine J_aload_n dX12_shift_16 rfl rfl ?_
      refine K_getR (r := some (170)) cf12 flX12_88 (sq 146 rfl) rfl (Or.inr ⟨_, rfl⟩) dX12_shift_17 ?_
      refine J_iload_n dX12_shift_20 rfl rfl ?_
      refine K_iald (sq 170 rfl) dX12_shift_21 ?_
      refine J_if_lt (tgt := 34) dX12_shift_22 (by decide) (fun z7 => ?_) (fun z7 => ?_)
      · refine J_bipush (v := (-11)) dX12_shift_34 (by decide) ?_
        exact J_ireturn rfl (Nat.le_refl _) (Nat.le_refl _) rfl dX12_shift_36
      · refine J_aload_n dX12_shift_25 rfl rfl ?_
        refine K_getR (r := some (170)) cf12 flX12_88 (sq 146 rfl) rfl (Or.inr ⟨_, rfl⟩) dX12_shift_26 ?_
        refine J_iload_n dX12_shift_29 rfl rfl ?_
        refine K_iald (sq 170 rfl) dX12_shift_30 ?_
        refine J_if_ge (tgt := 37) dX12_shift_31 (by decide) (fun z8 => ?_) (fun z8 => ?_)
        · refine J_aload_n dX12_shift_37 rfl rfl ?_
          refine K_getR (r := some (170)) cf12 flX12_88 (sq 146 rfl) rfl (Or.inr ⟨_, rfl⟩) dX12_shift_38 ?_
          refine J_iload_n dX12_shift_41 rfl rfl ?_
          refine K_iald (sq 170 rfl) dX12_shift_42 ?_
          refine J_sipush (v := nI 1000) dX12_shift_43 (by decide) ?_
          refine J_icmp_lt (tgt := 64) dX12_shift_46 (by decide) (fun z9 => ?_) (fun z9 => ?_)
          · refine J_bipush (v := (-12)) dX12_shift_64 (by decide) ?_
            exact J_ireturn rfl (Nat.le_refl _) (Nat.le_refl _) rfl dX12_shift_66
          · refine J_aload_n dX12_shift_49 rfl rfl ?_
            refine K_getR (r := some (170)) cf12 flX12_88 (sq 146 rfl) rfl (Or.inr ⟨_, rfl⟩) dX12_shift_50 ?_
            refine J_iload_n dX12_shift_53 rfl rfl ?_
            refine K_iald (sq 170 rfl) dX12_shift_54 ?_
            refine J_aload_n dX12_shift_55 rfl rfl ?_
            refine K_getR (r := some (170)) cf12 flX12_88 (sq 146 rfl) rfl (Or.inr ⟨_, rfl⟩) dX12_shift_56 ?_
            refine J_iload_n dX12_shift_59 rfl rfl ?_
            refine K_iald (sq 170 rfl) dX12_shift_60 ?_
            refine J_icmp_eq (tgt := 67) dX12_shift_61 (by decide) (fun z10 => ?_) (fun z10 => ?_)
            · refine J_iload dX12_shift_67 rfl ?_
              refine J_if_lt (tgt := 108) dX12_shift_69 (by decide) (fun z11 => ?_) (fun z11 => ?_)
              · refine J_bipush (v := (-13)) dX12_shift_108 (by decide) ?_
                exact J_ireturn rfl (Nat.le_refl _) (Nat.le_refl _) rfl dX12_shift_110
              · refine J_iload_n dX12_shift_72 rfl rfl ?_
                refine J_if_lt (tgt := 108) dX12_shift_73 (by decide) (fun z12 => ?_) (fun z12 => ?_)
                · refine J_bipush (v := (-13)) dX12_shift_108 (by decide) ?_
                  exact J_ireturn rfl (Nat.le_refl _) (Nat.le_refl _) rfl dX12_shift_110
                · refine J_iload dX12_shift_76 rfl ?_
                  refine J_if_lt (tgt := 108) dX12_shift_78 (by decide) (fun z13 => ?_) (fun z13 => ?_)
                  · refine J_bipush (v := (-13)) dX12_shift_108 (by decide) ?_
                    exact J_ireturn rfl (Nat.le_refl _) (Nat.le_refl _) rfl dX12_shift_110
                  · refine J_iload_n dX12_shift_81 rfl rfl ?_
                    refine J_aload_n dX12_shift_82 rfl rfl ?_
                    refine K_getR (r := some (171)) cf12 flX12_91 (sq 146 rfl) rfl (Or.inr ⟨_, rfl⟩) dX12_shift_83 ?_
                    refine J_iload_n dX12_shift_86 rfl rfl ?_
                    refine K_iald (sq 171 rfl) dX12_shift_87 ?_
                    refine J_iload dX12_shift_88 rfl ?_
                    refine J_isub dX12_shift_90 ?_
                    refine J_icmp_gt (tgt := 108) dX12_shift_91 (by decide) (fun z14 => ?_) (fun z14 => ?_)
                    · refine J_bipush (v := (-13)) dX12_shift_108 (by decide) ?_
                      exact J_ireturn rfl (Nat.le_refl _) (Nat.le_refl _) rfl dX12_shift_110
                    · refine J_iload dX12_shift_94 rfl ?_
                      refine J_aload_n dX12_shift_96 rfl rfl ?_
                      refine K_getR (r := some (171)) cf12 flX12_91 (sq 146 rfl) rfl (Or.inr ⟨_, rfl⟩) dX12_shift_97 ?_
                      refine J_iload_n dX12_shift_100 rfl rfl ?_
                      refine K_iald (sq 171 rfl) dX12_shift_101 ?_
                      refine J_iload dX12_shift_102 rfl ?_
                      refine J_isub dX12_shift_104 ?_
                      refine J_icmp_le (tgt := 111) dX12_shift_105 (by decide) (fun z15 => ?_) (fun z15 => ?_)
                      · refine J_iconst (v := nI 0) dX12_shift_111 (by decide) ?_
                        refine J_istore [some (vR (some 146)), some (vI x1), some (vI x2), some (vI x3), some (vI x4), some (vI x5), some (vI (nI 0))] dX12_shift_112 (Nat.le_of_ble_eq_true rfl) rfl rfl ?_
                        exact J_sb (t12_shift_h114 G t N x1 x2 x3 x4 x5 N (nI 0) S5) (And.intro rfl (And.intro rfl (And.intro rfl (And.intro rfl (And.intro rfl (And.intro rfl (And.intro rfl (trivial))))))))
                      · refine J_bipush (v := (-13)) dX12_shift_108 (by decide) ?_
                        exact J_ireturn rfl (Nat.le_refl _) (Nat.le_refl _) rfl dX12_shift_110
            · refine J_bipush (v := (-12)) dX12_shift_64 (by decide) ?_
              exact J_ireturn rfl (Nat.le_refl _) (Nat.le_refl _) rfl dX12_shift_66
        · refine J_bipush (v := (-11)) dX12_shift_34 (by decide) ?_
          exact J_ireturn rfl (Nat.le_refl _) (Nat.le_refl _) rfl dX12_shift_36
theorem dX12_taken_0 : decode cX12_taken 0 = .ok (.iload_n 1, 1) := by decide +kernel
theorem dX12_taken_1 : decode cX12_taken 1 = .ok (.invokestatic 379, 3) := by decide +kernel
theorem dX12_taken_4 : decode cX12_taken 4 = .ok (.ifCond .eq 15, 3) := by decide +kernel
theorem dX12_taken_7 : decode cX12_taken 7 = .ok (.iload_n 2, 1) := by decide +kernel
theorem dX12_taken_8 : decode cX12_taken 8 = .ok (.i2l, 1) := by decide +kernel
theorem dX12_taken_9 : decode cX12_taken 9 = .ok (.lconst 0, 1) := by decide +kernel
theorem dX12_taken_10 : decode cX12_taken 10 = .ok (.ldc2_w 107, 3) := by decide +kernel
theorem dX12_taken_13 : decode cX12_taken 13 = .ok (.invokestatic 109, 3) := by decide +kernel
theorem dX12_taken_16 : decode cX12_taken 16 = .ok (.ifCond .ne 5, 3) := by decide +kernel
theorem dX12_taken_19 : decode cX12_taken 19 = .ok (.iconst (-1), 1) := by decide +kernel
theorem dX12_taken_20 : decode cX12_taken 20 = .ok (.ireturn, 1) := by decide +kernel
theorem dX12_taken_21 : decode cX12_taken 21 = .ok (.aload_n 0, 1) := by decide +kernel
theorem dX12_taken_22 : decode cX12_taken 22 = .ok (.getfield 88, 3) := by decide +kernel
theorem dX12_taken_25 : decode cX12_taken 25 = .ok (.iload_n 1, 1) := by decide +kernel
theorem dX12_taken_26 : decode cX12_taken 26 = .ok (.iaload, 1) := by decide +kernel
theorem dX12_taken_27 : decode cX12_taken 27 = .ok (.ifCond .ge 6, 3) := by decide +kernel
theorem dX12_taken_30 : decode cX12_taken 30 = .ok (.bipush (-11), 2) := by decide +kernel
theorem dX12_taken_32 : decode cX12_taken 32 = .ok (.ireturn, 1) := by decide +kernel
theorem dX12_taken_33 : decode cX12_taken 33 = .ok (.aload_n 0, 1) := by decide +kernel
theorem dX12_taken_34 : decode cX12_taken 34 = .ok (.getfield 88, 3) := by decide +kernel
theorem dX12_taken_37 : decode cX12_taken 37 = .ok (.iload_n 1, 1) := by decide +kernel
theorem dX12_taken_38 : decode cX12_taken 38 = .ok (.iaload, 1) := by decide +kernel
theorem dX12_taken_39 : decode cX12_taken 39 = .ok (.sipush 1000, 3) := by decide +kernel
theorem dX12_taken_42 : decode cX12_taken 42 = .ok (.if_icmp .lt 6, 3) := by decide +kernel
theorem dX12_taken_45 : decode cX12_taken 45 = .ok (.bipush (-12), 2) := by decide +kernel
theorem dX12_taken_47 : decode cX12_taken 47 = .ok (.ireturn, 1) := by decide +kernel
theorem dX12_taken_48 : decode cX12_taken 48 = .ok (.aload_n 0, 1) := by decide +kernel
theorem dX12_taken_49 : decode cX12_taken 49 = .ok (.getfield 88, 3) := by decide +kernel
theorem dX12_taken_52 : decode cX12_taken 52 = .ok (.iload_n 1, 1) := by decide +kernel
theorem dX12_taken_53 : decode cX12_taken 53 = .ok (.iaload, 1) := by decide +kernel
theorem dX12_taken_54 : decode cX12_taken 54 = .ok (.bipush 100, 2) := by decide +kernel
theorem dX12_taken_56 : decode cX12_taken 56 = .ok (.irem, 1) := by decide +kernel
theorem dX12_taken_57 : decode cX12_taken 57 = .ok (.invokestatic 374, 3) := by decide +kernel
theorem dX12_taken_60 : decode cX12_taken 60 = .ok (.istore_n 3, 1) := by decide +kernel
theorem dX12_taken_61 : decode cX12_taken 61 = .ok (.iload_n 3, 1) := by decide +kernel
theorem dX12_taken_62 : decode cX12_taken 62 = .ok (.istore 4, 2) := by decide +kernel
theorem dX12_taken_64 : decode cX12_taken 64 = .ok (.iload 4, 2) := by decide +kernel
theorem dX12_taken_66 : decode cX12_taken 66 = .ok (.iload_n 2, 1) := by decide +kernel
theorem dX12_taken_67 : decode cX12_taken 67 = .ok (.if_icmp .eq 18, 3) := by decide +kernel
theorem dX12_taken_70 : decode cX12_taken 70 = .ok (.iload 4, 2) := by decide +kernel
theorem dX12_taken_72 : decode cX12_taken 72 = .ok (.ifCond .le 13, 3) := by decide +kernel
theorem dX12_taken_75 : decode cX12_taken 75 = .ok (.iload 4, 2) := by decide +kernel
theorem dX12_taken_77 : decode cX12_taken 77 = .ok (.invokestatic 350, 3) := by decide +kernel
theorem dX12_taken_80 : decode cX12_taken 80 = .ok (.istore 4, 2) := by decide +kernel
theorem dX12_taken_82 : decode cX12_taken 82 = .ok (.goto (-18), 3) := by decide +kernel
theorem dX12_taken_85 : decode cX12_taken 85 = .ok (.iload 4, 2) := by decide +kernel
theorem dX12_taken_87 : decode cX12_taken 87 = .ok (.iload_n 2, 1) := by decide +kernel
theorem dX12_taken_88 : decode cX12_taken 88 = .ok (.if_icmp .ne 7, 3) := by decide +kernel
theorem dX12_taken_91 : decode cX12_taken 91 = .ok (.iload_n 3, 1) := by decide +kernel
theorem dX12_taken_92 : decode cX12_taken 92 = .ok (.goto 5, 3) := by decide +kernel
theorem dX12_taken_95 : decode cX12_taken 95 = .ok (.bipush (-12), 2) := by decide +kernel
theorem dX12_taken_97 : decode cX12_taken 97 = .ok (.ireturn, 1) := by decide +kernel
set_option maxRecDepth 100000 in
set_option maxHeartbeats 4000000 in
theorem t12_taken_j85 (G : Gm) (t : Nat) (N : Nat) (x2 : Int32) (x3 : Int32) (x4 : Int32)    : ∀  (S : St), J G YX12_taken 3 0 0 (fI t) 0 0 85 [none, none, some (vI x2), some (vI x3), some (vI x4)] [] (MM t S) (f12_taken_j85 N x2 x3 x4 S) := by
  intro S
  unfold f12_taken_j85
  refine J_iload dX12_taken_85 rfl ?_
  refine J_iload_n dX12_taken_87 rfl rfl ?_
  refine J_icmp_ne (tgt := 95) dX12_taken_88 (by decide) (fun z1 => ?_) (fun z1 => ?_)
  · refine J_iload_n dX12_taken_91 rfl rfl ?_
    refine J_goto (tgt := 97) dX12_taken_92 (by decide) ?_
    exact J_ireturn rfl (Nat.le_refl _) (Nat.le_refl _) rfl dX12_taken_97
  · refine J_bipush (v := (-12)) dX12_taken_95 (by decide) ?_
    exact J_ireturn rfl (Nat.le_refl _) (Nat.le_refl _) rfl dX12_taken_97
set_option maxRecDepth 100000 in
set_option maxHeartbeats 4000000 in
theorem t12_taken_h64 (G : Gm) (t : Nat) (N : Nat) (x2 : Int32) (x3 : Int32)    : ∀ (n : Nat) (x4 : Int32) (S : St), J G YX12_taken 3 0 0 (fI t) 0 0 64 [none, none, some (vI x2), some (vI x3), some (vI x4)] [] (MM t S) (f12_taken_h64 N x2 x3 n x4 S) := by
  intro n
  induction n with
  | zero => intro x4 S; exact J_none
  | succ n ih =>
    intro x4 S
    rw [f12_taken_h64]
    refine J_iload dX12_taken_64 rfl ?_
    refine J_iload_n dX12_taken_66 rfl rfl ?_
    refine J_icmp_eq (tgt := 85) dX12_taken_67 (by decide) (fun z1 => ?_) (fun z1 => ?_)
    · exact J_sb (t12_taken_j85 G t N x2 x3 x4 S) (And.intro rfl (And.intro rfl (And.intro rfl (trivial))))
    · refine J_iload dX12_taken_70 rfl ?_
      refine J_if_le (tgt := 85) dX12_taken_72 (by decide) (fun z2 => ?_) (fun z2 => ?_)
      · exact J_sb (t12_taken_j85 G t N x2 x3 x4 S) (And.intro rfl (And.intro rfl (And.intro rfl (trivial))))
      · refine J_iload dX12_taken_75 rfl ?_
        refine K_callS_i (As := [vI x4]) mcX12_above mlX12_350 (ct12_above G t x4 S) rfl rfl (Nat.le_of_ble_eq_true rfl) (by decide) (Nat.le_of_ble_eq_true rfl) dX12_taken_77 (fun q3 S4 => ?_)
        refine J_istore [none, none, some (vI x2), some (vI x3), some (vI q3)] dX12_taken_80 (Nat.le_of_ble_eq_true rfl) rfl rfl ?_
        refine J_goto (tgt := 64) dX12_taken_82 (by decide) ?_
        exact J_sb (ih q3 S4) (And.intro rfl (And.intro rfl (And.intro rfl (trivial))))
set_option maxRecDepth 100000 in
set_option maxHeartbeats 4000000 in
theorem ct12_taken (G : Gm) (t : Nat) (N : Nat) (x1 : Int32) (x2 : Int32)  (S : St) : Ct G YX12_taken yX12_taken 3 0 0 (fI t) (f12_taken N x1 x2 S) [vR (some 146), vI x1, vI x2] (MM t S) := by
  refine Ct_of_J [some (vR (some 146)), some (vI x1), some (vI x2), none, none] (by decide) rfl (fun h => by cases h) (Nat.le_of_ble_eq_true rfl) (And.intro rfl (And.intro rfl (And.intro rfl (trivial)))) ?_
  unfold f12_taken
  refine J_iload_n dX12_taken_0 rfl rfl ?_
  refine K_callS_i (As := [vI x1]) mcX12_isShelf mlX12_379 (ct12_isShelf G t x1 S) rfl rfl (Nat.le_of_ble_eq_true rfl) (by decide) (Nat.le_of_ble_eq_true rfl) dX12_taken_1 (fun q1 S2 => ?_)
  refine J_if_eq (tgt := 19) dX12_taken_4 (by decide) (fun z3 => ?_) (fun z3 => ?_)
  · refine J_iconst (v := (-1)) dX12_taken_19 (by decide) ?_
    exact J_ireturn rfl (Nat.le_refl _) (Nat.le_refl _) rfl dX12_taken_20
  · refine J_iload_n dX12_taken_7 rfl rfl ?_
    refine J_i2l dX12_taken_8 ?_
    refine J_lconst (v := lN 0) dX12_taken_9 (by decide) ?_
    refine J_ldc2_w (v := lN 6) wX12_107 dX12_taken_10 ?_
    refine K_callS_i (As := [vL x2.toInt64, vL (lN 0), vL (lN 6)]) mcX12_within mlX12_109 (ct12_within G t x2.toInt64 (lN 0) (lN 6) S2) rfl rfl (Nat.le_of_ble_eq_true rfl) (by decide) (Nat.le_of_ble_eq_true rfl) dX12_taken_13 (fun q4 S5 => ?_)
    refine J_if_ne (tgt := 21) dX12_taken_16 (by decide) (fun z6 => ?_) (fun z6 => ?_)
    · refine J_iconst (v := (-1)) dX12_taken_19 (by decide) ?_
      exact J_ireturn rfl (Nat.le_refl _) (Nat.le_refl _) rfl dX12_taken_20
    · refine J_aload_n dX12_taken_21 rfl rfl ?_
      refine K_getR (r := some (170)) cf12 flX12_88 (sq 146 rfl) rfl (Or.inr ⟨_, rfl⟩) dX12_taken_22 ?_
      refine J_iload_n dX12_taken_25 rfl rfl ?_
      refine K_iald (sq 170 rfl) dX12_taken_26 ?_
      refine J_if_ge (tgt := 33) dX12_taken_27 (by decide) (fun z7 => ?_) (fun z7 => ?_)
      · refine J_aload_n dX12_taken_33 rfl rfl ?_
        refine K_getR (r := some (170)) cf12 flX12_88 (sq 146 rfl) rfl (Or.inr ⟨_, rfl⟩) dX12_taken_34 ?_
        refine J_iload_n dX12_taken_37 rfl rfl ?_
        refine K_iald (sq 170 rfl) dX12_taken_38 ?_
        refine J_sipush (v := nI 1000) dX12_taken_39 (by decide) ?_
        refine J_icmp_lt (tgt := 48) dX12_taken_42 (by decide) (fun z8 => ?_) (fun z8 => ?_)
        · refine J_aload_n dX12_taken_48 rfl rfl ?_
          refine K_getR (r := some (170)) cf12 flX12_88 (sq 146 rfl) rfl (Or.inr ⟨_, rfl⟩) dX12_taken_49 ?_
          refine J_iload_n dX12_taken_52 rfl rfl ?_
          refine K_iald (sq 170 rfl) dX12_taken_53 ?_
          refine J_bipush (v := nI 100) dX12_taken_54 (by decide) ?_
          refine J_irem (by decide) dX12_taken_56 ?_
          refine K_callS_i (As := [vI (remI (S5.1 170 x1.toNatClampNeg) (nI 100))]) mcX12_kindOf mlX12_374 (ct12_kindOf G t (remI (S5.1 170 x1.toNatClampNeg) (nI 100)) S5) rfl rfl (Nat.le_of_ble_eq_true rfl) (by decide) (Nat.le_of_ble_eq_true rfl) dX12_taken_57 (fun q9 S10 => ?_)
          refine J_istore_n [some (vR (some 146)), some (vI x1), some (vI x2), some (vI q9), none] dX12_taken_60 rfl (Nat.le_of_ble_eq_true rfl) rfl rfl ?_
          refine J_iload_n dX12_taken_61 rfl rfl ?_
          refine J_istore [some (vR (some 146)), some (vI x1), some (vI x2), some (vI q9), some (vI q9)] dX12_taken_62 (Nat.le_of_ble_eq_true rfl) rfl rfl ?_
          exact J_sb (t12_taken_h64 G t N x2 q9 N q9 S10) (And.intro rfl (And.intro rfl (And.intro rfl (trivial))))
        · refine J_bipush (v := (-12)) dX12_taken_45 (by decide) ?_
          exact J_ireturn rfl (Nat.le_refl _) (Nat.le_refl _) rfl dX12_taken_47
      · refine J_bipush (v := (-11)) dX12_taken_30 (by decide) ?_
        exact J_ireturn rfl (Nat.le_refl _) (Nat.le_refl _) rfl dX12_taken_32
theorem dX12_read_0 : decode cX12_read 0 = .ok (.aload_n 0, 1) := by decide +kernel
theorem dX12_read_1 : decode cX12_read 1 = .ok (.iload_n 1, 1) := by decide +kernel
theorem dX12_read_2 : decode cX12_read 2 = .ok (.invokevirtual 117, 3) := by decide +kernel
theorem dX12_read_5 : decode cX12_read 5 = .ok (.ifCond .eq 10, 3) := by decide +kernel
theorem dX12_read_8 : decode cX12_read 8 = .ok (.iload_n 2, 1) := by decide +kernel
theorem dX12_read_9 : decode cX12_read 9 = .ok (.invokestatic 379, 3) := by decide +kernel
theorem dX12_read_12 : decode cX12_read 12 = .ok (.ifCond .ne 5, 3) := by decide +kernel
theorem dX12_read_15 : decode cX12_read 15 = .ok (.iconst (-1), 1) := by decide +kernel
theorem dX12_read_16 : decode cX12_read 16 = .ok (.ireturn, 1) := by decide +kernel
theorem dX12_read_17 : decode cX12_read 17 = .ok (.aload_n 0, 1) := by decide +kernel
theorem dX12_read_18 : decode cX12_read 18 = .ok (.getfield 88, 3) := by decide +kernel
theorem dX12_read_21 : decode cX12_read 21 = .ok (.iload_n 2, 1) := by decide +kernel
theorem dX12_read_22 : decode cX12_read 22 = .ok (.iaload, 1) := by decide +kernel
theorem dX12_read_23 : decode cX12_read 23 = .ok (.iconst (-1), 1) := by decide +kernel
theorem dX12_read_24 : decode cX12_read 24 = .ok (.if_icmp .eq 18, 3) := by decide +kernel
theorem dX12_read_27 : decode cX12_read 27 = .ok (.aload_n 0, 1) := by decide +kernel
theorem dX12_read_28 : decode cX12_read 28 = .ok (.getfield 88, 3) := by decide +kernel
theorem dX12_read_31 : decode cX12_read 31 = .ok (.iload_n 2, 1) := by decide +kernel
theorem dX12_read_32 : decode cX12_read 32 = .ok (.iaload, 1) := by decide +kernel
theorem dX12_read_33 : decode cX12_read 33 = .ok (.sipush 1004, 3) := by decide +kernel
theorem dX12_read_36 : decode cX12_read 36 = .ok (.if_icmp .eq 6, 3) := by decide +kernel
theorem dX12_read_39 : decode cX12_read 39 = .ok (.bipush (-12), 2) := by decide +kernel
theorem dX12_read_41 : decode cX12_read 41 = .ok (.ireturn, 1) := by decide +kernel
theorem dX12_read_42 : decode cX12_read 42 = .ok (.iload_n 3, 1) := by decide +kernel
theorem dX12_read_43 : decode cX12_read 43 = .ok (.i2l, 1) := by decide +kernel
theorem dX12_read_44 : decode cX12_read 44 = .ok (.lstore 4, 2) := by decide +kernel
theorem dX12_read_46 : decode cX12_read 46 = .ok (.lconst 0, 1) := by decide +kernel
theorem dX12_read_47 : decode cX12_read 47 = .ok (.lstore 6, 2) := by decide +kernel
theorem dX12_read_49 : decode cX12_read 49 = .ok (.iconst 0, 1) := by decide +kernel
theorem dX12_read_50 : decode cX12_read 50 = .ok (.istore 8, 2) := by decide +kernel
theorem dX12_read_52 : decode cX12_read 52 = .ok (.iconst 1, 1) := by decide +kernel
theorem dX12_read_53 : decode cX12_read 53 = .ok (.istore 9, 2) := by decide +kernel
theorem dX12_read_55 : decode cX12_read 55 = .ok (.iload 9, 2) := by decide +kernel
theorem dX12_read_57 : decode cX12_read 57 = .ok (.ifCond .eq 196, 3) := by decide +kernel
theorem dX12_read_60 : decode cX12_read 60 = .ok (.iconst 0, 1) := by decide +kernel
theorem dX12_read_61 : decode cX12_read 61 = .ok (.istore 10, 2) := by decide +kernel
theorem dX12_read_63 : decode cX12_read 63 = .ok (.iconst 0, 1) := by decide +kernel
theorem dX12_read_64 : decode cX12_read 64 = .ok (.istore 11, 2) := by decide +kernel
theorem dX12_read_66 : decode cX12_read 66 = .ok (.iconst (-1), 1) := by decide +kernel
theorem dX12_read_67 : decode cX12_read 67 = .ok (.istore 12, 2) := by decide +kernel
theorem dX12_read_69 : decode cX12_read 69 = .ok (.iload 12, 2) := by decide +kernel
theorem dX12_read_71 : decode cX12_read 71 = .ok (.ifCond .ge 141, 3) := by decide +kernel
theorem dX12_read_74 : decode cX12_read 74 = .ok (.iload 10, 2) := by decide +kernel
theorem dX12_read_76 : decode cX12_read 76 = .ok (.bipush 6, 2) := by decide +kernel
theorem dX12_read_78 : decode cX12_read 78 = .ok (.if_icmp .ne 6, 3) := by decide +kernel
theorem dX12_read_81 : decode cX12_read 81 = .ok (.bipush (-5), 2) := by decide +kernel
theorem dX12_read_83 : decode cX12_read 83 = .ok (.ireturn, 1) := by decide +kernel
theorem dX12_read_84 : decode cX12_read 84 = .ok (.aload_n 0, 1) := by decide +kernel
theorem dX12_read_85 : decode cX12_read 85 = .ok (.getfield 88, 3) := by decide +kernel
theorem dX12_read_88 : decode cX12_read 88 = .ok (.iload_n 2, 1) := by decide +kernel
theorem dX12_read_89 : decode cX12_read 89 = .ok (.iaload, 1) := by decide +kernel
theorem dX12_read_90 : decode cX12_read 90 = .ok (.iconst (-1), 1) := by decide +kernel
theorem dX12_read_91 : decode cX12_read 91 = .ok (.if_icmp .eq 23, 3) := by decide +kernel
theorem dX12_read_94 : decode cX12_read 94 = .ok (.lload 4, 2) := by decide +kernel
theorem dX12_read_96 : decode cX12_read 96 = .ok (.lconst 0, 1) := by decide +kernel
theorem dX12_read_97 : decode cX12_read 97 = .ok (.lcmp, 1) := by decide +kernel
theorem dX12_read_98 : decode cX12_read 98 = .ok (.ifCond .lt 16, 3) := by decide +kernel
theorem dX12_read_101 : decode cX12_read 101 = .ok (.lload 4, 2) := by decide +kernel
theorem dX12_read_103 : decode cX12_read 103 = .ok (.aload_n 0, 1) := by decide +kernel
theorem dX12_read_104 : decode cX12_read 104 = .ok (.getfield 91, 3) := by decide +kernel
theorem dX12_read_107 : decode cX12_read 107 = .ok (.iload_n 2, 1) := by decide +kernel
theorem dX12_read_108 : decode cX12_read 108 = .ok (.iaload, 1) := by decide +kernel
theorem dX12_read_109 : decode cX12_read 109 = .ok (.i2l, 1) := by decide +kernel
theorem dX12_read_110 : decode cX12_read 110 = .ok (.lcmp, 1) := by decide +kernel
theorem dX12_read_111 : decode cX12_read 111 = .ok (.ifCond .lt 6, 3) := by decide +kernel
theorem dX12_read_114 : decode cX12_read 114 = .ok (.bipush (-2), 2) := by decide +kernel
theorem dX12_read_116 : decode cX12_read 116 = .ok (.ireturn, 1) := by decide +kernel
theorem dX12_read_117 : decode cX12_read 117 = .ok (.iconst 2, 1) := by decide +kernel
theorem dX12_read_118 : decode cX12_read 118 = .ok (.iload 11, 2) := by decide +kernel
theorem dX12_read_120 : decode cX12_read 120 = .ok (.imul, 1) := by decide +kernel
theorem dX12_read_121 : decode cX12_read 121 = .ok (.aload_n 0, 1) := by decide +kernel
theorem dX12_read_122 : decode cX12_read 122 = .ok (.getfield 94, 3) := by decide +kernel
theorem dX12_read_125 : decode cX12_read 125 = .ok (.bipush 60, 2) := by decide +kernel
theorem dX12_read_127 : decode cX12_read 127 = .ok (.iload_n 2, 1) := by decide +kernel
theorem dX12_read_128 : decode cX12_read 128 = .ok (.imul, 1) := by decide +kernel
theorem dX12_read_129 : decode cX12_read 129 = .ok (.lload 4, 2) := by decide +kernel
theorem dX12_read_131 : decode cX12_read 131 = .ok (.l2i, 1) := by decide +kernel
theorem dX12_read_132 : decode cX12_read 132 = .ok (.iadd, 1) := by decide +kernel
theorem dX12_read_133 : decode cX12_read 133 = .ok (.laload, 1) := by decide +kernel
theorem dX12_read_134 : decode cX12_read 134 = .ok (.l2i, 1) := by decide +kernel
theorem dX12_read_135 : decode cX12_read 135 = .ok (.iadd, 1) := by decide +kernel
theorem dX12_read_136 : decode cX12_read 136 = .ok (.istore 11, 2) := by decide +kernel
theorem dX12_read_138 : decode cX12_read 138 = .ok (.iinc 10 1, 3) := by decide +kernel
theorem dX12_read_141 : decode cX12_read 141 = .ok (.lload 4, 2) := by decide +kernel
theorem dX12_read_143 : decode cX12_read 143 = .ok (.lconst 1, 1) := by decide +kernel
theorem dX12_read_144 : decode cX12_read 144 = .ok (.ladd, 1) := by decide +kernel
theorem dX12_read_145 : decode cX12_read 145 = .ok (.lstore 4, 2) := by decide +kernel
theorem dX12_read_147 : decode cX12_read 147 = .ok (.iconst 0, 1) := by decide +kernel
theorem dX12_read_148 : decode cX12_read 148 = .ok (.istore 13, 2) := by decide +kernel
theorem dX12_read_150 : decode cX12_read 150 = .ok (.iload 13, 2) := by decide +kernel
theorem dX12_read_152 : decode cX12_read 152 = .ok (.aload_n 0, 1) := by decide +kernel
theorem dX12_read_153 : decode cX12_read 153 = .ok (.iload_n 1, 1) := by decide +kernel
theorem dX12_read_154 : decode cX12_read 154 = .ok (.invokevirtual 103, 3) := by decide +kernel
theorem dX12_read_157 : decode cX12_read 157 = .ok (.if_icmp .ge 52, 3) := by decide +kernel
theorem dX12_read_160 : decode cX12_read 160 = .ok (.aload_n 0, 1) := by decide +kernel
theorem dX12_read_161 : decode cX12_read 161 = .ok (.getfield 9, 3) := by decide +kernel
theorem dX12_read_164 : decode cX12_read 164 = .ok (.bipush 12, 2) := by decide +kernel
theorem dX12_read_166 : decode cX12_read 166 = .ok (.iload_n 1, 1) := by decide +kernel
theorem dX12_read_167 : decode cX12_read 167 = .ok (.imul, 1) := by decide +kernel
theorem dX12_read_168 : decode cX12_read 168 = .ok (.iload 13, 2) := by decide +kernel
theorem dX12_read_170 : decode cX12_read 170 = .ok (.iadd, 1) := by decide +kernel
theorem dX12_read_171 : decode cX12_read 171 = .ok (.iaload, 1) := by decide +kernel
theorem dX12_read_172 : decode cX12_read 172 = .ok (.iload 10, 2) := by decide +kernel
theorem dX12_read_174 : decode cX12_read 174 = .ok (.if_icmp .ne 25, 3) := by decide +kernel
theorem dX12_read_177 : decode cX12_read 177 = .ok (.aload_n 0, 1) := by decide +kernel
theorem dX12_read_178 : decode cX12_read 178 = .ok (.getfield 13, 3) := by decide +kernel
theorem dX12_read_181 : decode cX12_read 181 = .ok (.bipush 12, 2) := by decide +kernel
theorem dX12_read_183 : decode cX12_read 183 = .ok (.iload_n 1, 1) := by decide +kernel
theorem dX12_read_184 : decode cX12_read 184 = .ok (.imul, 1) := by decide +kernel
theorem dX12_read_185 : decode cX12_read 185 = .ok (.iload 13, 2) := by decide +kernel
theorem dX12_read_187 : decode cX12_read 187 = .ok (.iadd, 1) := by decide +kernel
theorem dX12_read_188 : decode cX12_read 188 = .ok (.iaload, 1) := by decide +kernel
theorem dX12_read_189 : decode cX12_read 189 = .ok (.iload 11, 2) := by decide +kernel
theorem dX12_read_191 : decode cX12_read 191 = .ok (.if_icmp .ne 8, 3) := by decide +kernel
theorem dX12_read_194 : decode cX12_read 194 = .ok (.iload 13, 2) := by decide +kernel
theorem dX12_read_196 : decode cX12_read 196 = .ok (.goto 5, 3) := by decide +kernel
theorem dX12_read_199 : decode cX12_read 199 = .ok (.iload 12, 2) := by decide +kernel
theorem dX12_read_201 : decode cX12_read 201 = .ok (.istore 12, 2) := by decide +kernel
theorem dX12_read_203 : decode cX12_read 203 = .ok (.iinc 13 1, 3) := by decide +kernel
theorem dX12_read_206 : decode cX12_read 206 = .ok (.goto (-56), 3) := by decide +kernel
theorem dX12_read_209 : decode cX12_read 209 = .ok (.goto (-140), 3) := by decide +kernel
theorem dX12_read_212 : decode cX12_read 212 = .ok (.iload 8, 2) := by decide +kernel
theorem dX12_read_214 : decode cX12_read 214 = .ok (.bipush 12, 2) := by decide +kernel
theorem dX12_read_216 : decode cX12_read 216 = .ok (.if_icmp .ne 6, 3) := by decide +kernel
theorem dX12_read_219 : decode cX12_read 219 = .ok (.bipush (-5), 2) := by decide +kernel
theorem dX12_read_221 : decode cX12_read 221 = .ok (.ireturn, 1) := by decide +kernel
theorem dX12_read_222 : decode cX12_read 222 = .ok (.lload 6, 2) := by decide +kernel
theorem dX12_read_224 : decode cX12_read 224 = .ok (.iload 12, 2) := by decide +kernel
theorem dX12_read_226 : decode cX12_read 226 = .ok (.i2l, 1) := by decide +kernel
theorem dX12_read_227 : decode cX12_read 227 = .ok (.iconst 4, 1) := by decide +kernel
theorem dX12_read_228 : decode cX12_read 228 = .ok (.iload 8, 2) := by decide +kernel
theorem dX12_read_230 : decode cX12_read 230 = .ok (.imul, 1) := by decide +kernel
theorem dX12_read_231 : decode cX12_read 231 = .ok (.lshl, 1) := by decide +kernel
theorem dX12_read_232 : decode cX12_read 232 = .ok (.lor, 1) := by decide +kernel
theorem dX12_read_233 : decode cX12_read 233 = .ok (.lstore 6, 2) := by decide +kernel
theorem dX12_read_235 : decode cX12_read 235 = .ok (.iinc 8 1, 3) := by decide +kernel
theorem dX12_read_238 : decode cX12_read 238 = .ok (.iload 12, 2) := by decide +kernel
theorem dX12_read_240 : decode cX12_read 240 = .ok (.ifCond .eq 7, 3) := by decide +kernel
theorem dX12_read_243 : decode cX12_read 243 = .ok (.iconst 1, 1) := by decide +kernel
theorem dX12_read_244 : decode cX12_read 244 = .ok (.goto 4, 3) := by decide +kernel
theorem dX12_read_247 : decode cX12_read 247 = .ok (.iconst 0, 1) := by decide +kernel
theorem dX12_read_248 : decode cX12_read 248 = .ok (.istore 9, 2) := by decide +kernel
theorem dX12_read_250 : decode cX12_read 250 = .ok (.goto (-195), 3) := by decide +kernel
theorem dX12_read_253 : decode cX12_read 253 = .ok (.aload_n 0, 1) := by decide +kernel
theorem dX12_read_254 : decode cX12_read 254 = .ok (.lload 6, 2) := by decide +kernel
theorem dX12_read_256 : decode cX12_read 256 = .ok (.invokevirtual 207, 3) := by decide +kernel
theorem dX12_read_259 : decode cX12_read 259 = .ok (.aload_n 0, 1) := by decide +kernel
theorem dX12_read_260 : decode cX12_read 260 = .ok (.iload_n 1, 1) := by decide +kernel
theorem dX12_read_261 : decode cX12_read 261 = .ok (.invokevirtual 136, 3) := by decide +kernel
theorem dX12_read_264 : decode cX12_read 264 = .ok (.ireturn, 1) := by decide +kernel
set_option maxRecDepth 100000 in
set_option maxHeartbeats 4000000 in
theorem t12_read_j248 (G : Gm) (t : Nat) (N : Nat) (x1 : Int32) (x2 : Int32) (l4 : Int64) (l6 : Int64) (x8 : Int32)  (k55 : Int64 → Int64 → Int32 → Int32 → St → Option (Int32 × St)) (hk55 : ∀ (yl4 : Int64) (yl6 : Int64) (yx8 : Int32) (yx9 : Int32) (S : St), J G YX12_read 3 0 0 (fI t) 0 0 55 [some (vR (some 146)), some (vI x1), some (vI x2), none, some (vL yl4), none, some (vL yl6), none, some (vI yx8), some (vI yx9), none, none, none, none] [] (MM t S) (k55 yl4 yl6 yx8 yx9 S)) : ∀ (xs0 : Int32) (S : St), J G YX12_read 3 0 0 (fI t) 0 0 248 [some (vR (some 146)), some (vI x1), some (vI x2), none, some (vL l4), none, some (vL l6), none, some (vI x8), none, none, none, none, none] [vI xs0] (MM t S) (f12_read_j248 N x1 x2 l4 l6 x8 k55 xs0 S) := by
  intro xs0 S
  unfold f12_read_j248
  refine J_istore [some (vR (some 146)), some (vI x1), some (vI x2), none, some (vL l4), none, some (vL l6), none, some (vI x8), some (vI xs0), none, none, none, none] dX12_read_248 (Nat.le_of_ble_eq_true rfl) rfl rfl ?_
  refine J_goto (tgt := 55) dX12_read_250 (by decide) ?_
  exact J_sb (hk55 l4 l6 x8 xs0 S) (And.intro rfl (And.intro rfl (And.intro rfl (And.intro rfl (And.intro rfl (And.intro rfl (And.intro rfl (trivial))))))))
set_option maxRecDepth 100000 in
set_option maxHeartbeats 4000000 in
theorem t12_read_j201 (G : Gm) (t : Nat) (N : Nat) (x1 : Int32) (x2 : Int32) (l4 : Int64) (l6 : Int64) (x8 : Int32) (x10 : Int32) (x11 : Int32) (x13 : Int32)  (k55 : Int64 → Int64 → Int32 → Int32 → St → Option (Int32 × St)) (k69 : Int64 → Int32 → Int32 → Int32 → St → Option (Int32 × St)) (k150 : Int32 → Int32 → St → Option (Int32 × St)) (hk55 : ∀ (yl4 : Int64) (yl6 : Int64) (yx8 : Int32) (yx9 : Int32) (S : St), J G YX12_read 3 0 0 (fI t) 0 0 55 [some (vR (some 146)), some (vI x1), some (vI x2), none, some (vL yl4), none, some (vL yl6), none, some (vI yx8), some (vI yx9), none, none, none, none] [] (MM t S) (k55 yl4 yl6 yx8 yx9 S)) (hk69 : ∀ (yl4 : Int64) (yx10 : Int32) (yx11 : Int32) (yx12 : Int32) (S : St), J G YX12_read 3 0 0 (fI t) 0 0 69 [some (vR (some 146)), some (vI x1), some (vI x2), none, some (vL yl4), none, some (vL l6), none, some (vI x8), none, some (vI yx10), some (vI yx11), some (vI yx12), none] [] (MM t S) (k69 yl4 yx10 yx11 yx12 S)) (hk150 : ∀ (yx12 : Int32) (yx13 : Int32) (S : St), J G YX12_read 3 0 0 (fI t) 0 0 150 [some (vR (some 146)), some (vI x1), some (vI x2), none, some (vL l4), none, some (vL l6), none, some (vI x8), none, some (vI x10), some (vI x11), some (vI yx12), some (vI yx13)] [] (MM t S) (k150 yx12 yx13 S)) : ∀ (xs0 : Int32) (S : St), J G YX12_read 3 0 0 (fI t) 0 0 201 [some (vR (some 146)), some (vI x1), some (vI x2), none, some (vL l4), none, some (vL l6), none, some (vI x8), none, some (vI x10), some (vI x11), none, some (vI x13)] [vI xs0] (MM t S) (f12_read_j201 N x1 x2 l4 l6 x8 x10 x11 x13 k55 k69 k150 xs0 S) := by
  intro xs0 S
  unfold f12_read_j201
  refine J_istore [some (vR (some 146)), some (vI x1), some (vI x2), none, some (vL l4), none, some (vL l6), none, some (vI x8), none, some (vI x10), some (vI x11), some (vI xs0), some (vI x13)] dX12_read_201 (Nat.le_of_ble_eq_true rfl) rfl rfl ?_
  refine J_iinc (v := x13 + nI 1) [some (vR (some 146)), some (vI x1), some (vI x2), none, some (vL l4), none, some (vL l6), none, some (vI x8), none, some (vI x10), some (vI x11), some (vI xs0), some (vI (x13 + nI 1))] dX12_read_203 rfl rfl (Nat.le_of_ble_eq_true rfl) rfl rfl ?_
  refine J_goto (tgt := 150) dX12_read_206 (by decide) ?_
  exact J_sb (hk150 xs0 (x13 + nI 1) S) (And.intro rfl (And.intro rfl (And.intro rfl (And.intro rfl (And.intro rfl (And.intro rfl (And.intro rfl (And.intro rfl (And.intro rfl (And.intro rfl (trivial)))))))))))
set_option maxRecDepth 100000 in
set_option maxHeartbeats 4000000 in
theorem t12_read_j199 (G : Gm) (t : Nat) (N : Nat) (x1 : Int32) (x2 : Int32) (l4 : Int64) (l6 : Int64) (x8 : Int32) (x10 : Int32) (x11 : Int32) (x12 : Int32) (x13 : Int32)  (k55 : Int64 → Int64 → Int32 → Int32 → St → Option (Int32 × St)) (k69 : Int64 → Int32 → Int32 → Int32 → St → Option (Int32 × St)) (k150 : Int32 → Int32 → St → Option (Int32 × St)) (hk55 : ∀ (yl4 : Int64) (yl6 : Int64) (yx8 : Int32) (yx9 : Int32) (S : St), J G YX12_read 3 0 0 (fI t) 0 0 55 [some (vR (some 146)), some (vI x1), some (vI x2), none, some (vL yl4), none, some (vL yl6), none, some (vI yx8), some (vI yx9), none, none, none, none] [] (MM t S) (k55 yl4 yl6 yx8 yx9 S)) (hk69 : ∀ (yl4 : Int64) (yx10 : Int32) (yx11 : Int32) (yx12 : Int32) (S : St), J G YX12_read 3 0 0 (fI t) 0 0 69 [some (vR (some 146)), some (vI x1), some (vI x2), none, some (vL yl4), none, some (vL l6), none, some (vI x8), none, some (vI yx10), some (vI yx11), some (vI yx12), none] [] (MM t S) (k69 yl4 yx10 yx11 yx12 S)) (hk150 : ∀ (yx12 : Int32) (yx13 : Int32) (S : St), J G YX12_read 3 0 0 (fI t) 0 0 150 [some (vR (some 146)), some (vI x1), some (vI x2), none, some (vL l4), none, some (vL l6), none, some (vI x8), none, some (vI x10), some (vI x11), some (vI yx12), some (vI yx13)] [] (MM t S) (k150 yx12 yx13 S)) : ∀  (S : St), J G YX12_read 3 0 0 (fI t) 0 0 199 [some (vR (some 146)), some (vI x1), some (vI x2), none, some (vL l4), none, some (vL l6), none, some (vI x8), none, some (vI x10), some (vI x11), some (vI x12), some (vI x13)] [] (MM t S) (f12_read_j199 N x1 x2 l4 l6 x8 x10 x11 x12 x13 k55 k69 k150 S) := by
  intro S
  unfold f12_read_j199
  refine J_iload dX12_read_199 rfl ?_
  exact J_sb (t12_read_j201 G t N x1 x2 l4 l6 x8 x10 x11 x13 k55 k69 k150 hk55 hk69 hk150 x12 S) (And.intro rfl (And.intro rfl (And.intro rfl (And.intro rfl (And.intro rfl (And.intro rfl (And.intro rfl (And.intro rfl (And.intro rfl (trivial))))))))))
set_option maxRecDepth 100000 in
set_option maxHeartbeats 4000000 in
theorem t12_read_h150 (G : Gm) (t : Nat) (N : Nat) (x1 : Int32) (x2 : Int32) (l4 : Int64) (l6 : Int64) (x8 : Int32) (x10 : Int32) (x11 : Int32)  (k55 : Int64 → Int64 → Int32 → Int32 → St → Option (Int32 × St)) (k69 : Int64 → Int32 → Int32 → Int32 → St → Option (Int32 × St)) (hk55 : ∀ (yl4 : Int64) (yl6 : Int64) (yx8 : Int32) (yx9 : Int32) (S : St), J G YX12_read 3 0 0 (fI t) 0 0 55 [some (vR (some 146)), some (vI x1), some (vI x2), none, some (vL yl4), none, some (vL yl6), none, some (vI yx8), some (vI yx9), none, none, none, none] [] (MM t S) (k55 yl4 yl6 yx8 yx9 S)) (hk69 : ∀ (yl4 : Int64) (yx10 : Int32) (yx11 : Int32) (yx12 : Int32) (S : St), J G YX12_read 3 0 0 (fI t) 0 0 69 [some (vR (some 146)), some (vI x1), some (vI x2), none, some (vL yl4), none, some (vL l6), none, some (vI x8), none, some (vI yx10), some (vI yx11), some (vI yx12), none] [] (MM t S) (k69 yl4 yx10 yx11 yx12 S)) : ∀ (n : Nat) (x12 : Int32) (x13 : Int32) (S : St), J G YX12_read 3 0 0 (fI t) 0 0 150 [some (vR (some 146)), some (vI x1), some (vI x2), none, some (vL l4), none, some (vL l6), none, some (vI x8), none, some (vI x10), some (vI x11), some (vI x12), some (vI x13)] [] (MM t S) (f12_read_h150 N x1 x2 l4 l6 x8 x10 x11 k55 k69 n x12 x13 S) := by
  intro n
  induction n with
  | zero => intro x12 x13 S; exact J_none
  | succ n ih =>
    intro x12 x13 S
    rw [f12_read_h150]
    refine J_iload dX12_read_150 rfl ?_
    refine J_aload_n dX12_read_152 rfl rfl ?_
    refine J_iload_n dX12_read_153 rfl rfl ?_
    refine K_callV_i (As := [vI x1]) mcX12_ordersOf mlX12_103 rfl (by decide) (sq 146 rfl) (ct12_ordersOf G t x1 S) rfl rfl (Nat.le_of_ble_eq_true rfl) (by decide) (Nat.le_of_ble_eq_true rfl) dX12_read_154 (fun q1 S2 => ?_)
    refine J_icmp_ge (tgt := 209) dX12_read_157 (by decide) (fun z3 => ?_) (fun z3 => ?_)
    · refine J_goto (tgt := 69) dX12_read_209 (by decide) ?_
      exact J_sb (hk69 l4 x10 x11 x12 S2) (And.intro rfl (And.intro rfl (And.intro rfl (And.intro rfl (And.intro rfl (And.intro rfl (And.intro rfl (And.intro rfl (And.intro rfl (trivial))))))))))
    · refine J_aload_n dX12_read_160 rfl rfl ?_
      refine K_getR (r := some (147)) cf12 flX12_9 (sq 146 rfl) rfl (Or.inr ⟨_, rfl⟩) dX12_read_161 ?_
      refine J_bipush (v := nI 12) dX12_read_164 (by decide) ?_
      refine J_iload_n dX12_read_166 rfl rfl ?_
      refine J_imul dX12_read_167 ?_
      refine J_iload dX12_read_168 rfl ?_
      refine J_iadd dX12_read_170 ?_
      refine K_iald (sq 147 rfl) dX12_read_171 ?_
      refine J_iload dX12_read_172 rfl ?_
      refine J_icmp_ne (tgt := 199) dX12_read_174 (by decide) (fun z4 => ?_) (fun z4 => ?_)
      · refine J_aload_n dX12_read_177 rfl rfl ?_
        refine K_getR (r := some (148)) cf12 flX12_13 (sq 146 rfl) rfl (Or.inr ⟨_, rfl⟩) dX12_read_178 ?_
        refine J_bipush (v := nI 12) dX12_read_181 (by decide) ?_
        refine J_iload_n dX12_read_183 rfl rfl ?_
        refine J_imul dX12_read_184 ?_
        refine J_iload dX12_read_185 rfl ?_
        refine J_iadd dX12_read_187 ?_
        refine K_iald (sq 148 rfl) dX12_read_188 ?_
        refine J_iload dX12_read_189 rfl ?_
        refine J_icmp_ne (tgt := 199) dX12_read_191 (by decide) (fun z5 => ?_) (fun z5 => ?_)
        · refine J_iload dX12_read_194 rfl ?_
          refine J_goto (tgt := 201) dX12_read_196 (by decide) ?_
          exact J_sb (t12_read_j201 G t N x1 x2 l4 l6 x8 x10 x11 x13 k55 k69 (f12_read_h150 N x1 x2 l4 l6 x8 x10 x11 k55 k69 n) hk55 hk69 ih x13 S2) (And.intro rfl (And.intro rfl (And.intro rfl (And.intro rfl (And.intro rfl (And.intro rfl (And.intro rfl (And.intro rfl (And.intro rfl (trivial))))))))))
        · exact J_sb (t12_read_j199 G t N x1 x2 l4 l6 x8 x10 x11 x12 x13 k55 k69 (f12_read_h150 N x1 x2 l4 l6 x8 x10 x11 k55 k69 n) hk55 hk69 ih S2) (And.intro rfl (And.intro rfl (And.intro rfl (And.intro rfl (And.intro rfl (And.intro rfl (And.intro rfl (And.intro rfl (And.intro rfl (And.intro rfl (trivial)))))))))))
      · exact J_sb (t12_read_j199 G t N x1 x2 l4 l6 x8 x10 x11 x12 x13 k55 k69 (f12_read_h150 N x1 x2 l4 l6 x8 x10 x11 k55 k69 n) hk55 hk69 ih S2) (And.intro rfl (And.intro rfl (And.intro rfl (And.intro rfl (And.intro rfl (And.intro rfl (And.intro rfl (And.intro rfl (And.intro rfl (And.intro rfl (trivial)))))))))))
set_option maxRecDepth 100000 in
set_option maxHeartbeats 4000000 in
theorem t12_read_h69 (G : Gm) (t : Nat) (N : Nat) (x1 : Int32) (x2 : Int32) (l6 : Int64) (x8 : Int32)  (k55 : Int64 → Int64 → Int32 → Int32 → St → Option (Int32 × St)) (hk55 : ∀ (yl4 : Int64) (yl6 : Int64) (yx8 : Int32) (yx9 : Int32) (S : St), J G YX12_read 3 0 0 (fI t) 0 0 55 [some (vR (some 146)), some (vI x1), some (vI x2), none, some (vL yl4), none, some (vL yl6), none, some (vI yx8), some (vI yx9), none, none, none, none] [] (MM t S) (k55 yl4 yl6 yx8 yx9 S)) : ∀ (n : Nat) (l4 : Int64) (x10 : Int32) (x11 : Int32) (x12 : Int32) (S : St), J G YX12_read 3 0 0 (fI t) 0 0 69 [some (vR (some 146)), some (vI x1), some (vI x2), none, some (vL l4), none, some (vL l6), none, some (vI x8), none, some (vI x10), some (vI x11), some (vI x12), none] [] (MM t S) (f12_read_h69 N x1 x2 l6 x8 k55 n l4 x10 x11 x12 S) := by
  intro n
  induction n with
  | zero => intro l4 x10 x11 x12 S; exact J_none
  | succ n ih =>
    intro l4 x10 x11 x12 S
    rw [f12_read_h69]
    refine J_iload dX12_read_69 rfl ?_
    refine J_if_ge (tgt := 212) dX12_read_71 (by decide) (fun z1 => ?_) (fun z1 => ?_)
    · refine J_iload dX12_read_212 rfl ?_
      refine J_bipush (v := nI 12) dX12_read_214 (by decide) ?_
      refine J_icmp_ne (tgt := 222) dX12_read_216 (by decide) (fun z2 => ?_) (fun z2 => ?_)
      · refine J_bipush (v := (-5)) dX12_read_219 (by decide) ?_
        exact J_ireturn rfl (Nat.le_refl _) (Nat.le_refl _) rfl dX12_read_221
      · refine J_lload dX12_read_222 rfl ?_
        refine J_iload dX12_read_224 rfl ?_
        refine J_i2l dX12_read_226 ?_
        refine J_iconst (v := nI 4) dX12_read_227 (by decide) ?_
        refine J_iload dX12_read_228 rfl ?_
        refine J_imul dX12_read_230 ?_
        refine J_lshl dX12_read_231 ?_
        refine J_lor dX12_read_232 ?_
        refine J_ltJ (fun v3 _ => ?_)
        refine J_lstore [some (vR (some 146)), some (vI x1), some (vI x2), none, some (vL l4), none, some (vL v3), none, some (vI x8), none, some (vI x10), some (vI x11), some (vI x12), none] dX12_read_233 (Nat.le_of_ble_eq_true rfl) rfl rfl ?_
        refine J_iinc (v := x8 + nI 1) [some (vR (some 146)), some (vI x1), some (vI x2), none, some (vL l4), none, some (vL v3), none, some (vI (x8 + nI 1)), none, some (vI x10), some (vI x11), some (vI x12), none] dX12_read_235 rfl rfl (Nat.le_of_ble_eq_true rfl) rfl rfl ?_
        refine J_iload dX12_read_238 rfl ?_
        refine J_if_eq (tgt := 247) dX12_read_240 (by decide) (fun z4 => ?_) (fun z4 => ?_)
        · refine J_iconst (v := nI 0) dX12_read_247 (by decide) ?_
          exact J_sb (t12_read_j248 G t N x1 x2 l4 v3 (x8 + nI 1) k55 hk55 (nI 0) S) (And.intro rfl (And.intro rfl (And.intro rfl (And.intro rfl (And.intro rfl (And.intro rfl (trivial)))))))
        · refine J_iconst (v := nI 1) dX12_read_243 (by decide) ?_
          refine J_goto (tgt := 248) dX12_read_244 (by decide) ?_
          exact J_sb (t12_read_j248 G t N x1 x2 l4 v3 (x8 + nI 1) k55 hk55 (nI 1) S) (And.intro rfl (And.intro rfl (And.intro rfl (And.intro rfl (And.intro rfl (And.intro rfl (trivial)))))))
    · refine J_iload dX12_read_74 rfl ?_
      refine J_bipush (v := nI 6) dX12_read_76 (by decide) ?_
      refine J_icmp_ne (tgt := 84) dX12_read_78 (by decide) (fun z5 => ?_) (fun z5 => ?_)
      · refine J_bipush (v := (-5)) dX12_read_81 (by decide) ?_
        exact J_ireturn rfl (Nat.le_refl _) (Nat.le_refl _) rfl dX12_read_83
      · refine J_aload_n dX12_read_84 rfl rfl ?_
        refine K_getR (r := some (170)) cf12 flX12_88 (sq 146 rfl) rfl (Or.inr ⟨_, rfl⟩) dX12_read_85 ?_
        refine J_iload_n dX12_read_88 rfl rfl ?_
        refine K_iald (sq 170 rfl) dX12_read_89 ?_
        refine J_iconst (v := (-1)) dX12_read_90 (by decide) ?_
        refine J_icmp_eq (tgt := 114) dX12_read_91 (by decide) (fun z6 => ?_) (fun z6 => ?_)
        · refine J_bipush (v := (-2)) dX12_read_114 (by decide) ?_
          exact J_ireturn rfl (Nat.le_refl _) (Nat.le_refl _) rfl dX12_read_116
        · refine J_lload dX12_read_94 rfl ?_
          refine J_lconst (v := lN 0) dX12_read_96 (by decide) ?_
          refine J_lcmp dX12_read_97 ?_
          refine J_if_lt (tgt := 114) dX12_read_98 (by decide) (fun z7 => ?_) (fun z7 => ?_)
          · refine J_bipush (v := (-2)) dX12_read_114 (by decide) ?_
            exact J_ireturn rfl (Nat.le_refl _) (Nat.le_refl _) rfl dX12_read_116
          · refine J_lload dX12_read_101 rfl ?_
            refine J_aload_n dX12_read_103 rfl rfl ?_
            refine K_getR (r := some (171)) cf12 flX12_91 (sq 146 rfl) rfl (Or.inr ⟨_, rfl⟩) dX12_read_104 ?_
            refine J_iload_n dX12_read_107 rfl rfl ?_
            refine K_iald (sq 171 rfl) dX12_read_108 ?_
            refine J_i2l dX12_read_109 ?_
            refine J_lcmp dX12_read_110 ?_
            refine J_if_lt (tgt := 117) dX12_read_111 (by decide) (fun z8 => ?_) (fun z8 => ?_)
            · refine J_iconst (v := nI 2) dX12_read_117 (by decide) ?_
              refine J_iload dX12_read_118 rfl ?_
              refine J_imul dX12_read_120 ?_
              refine J_aload_n dX12_read_121 rfl rfl ?_
              refine K_getR (r := some (172)) cf12 flX12_94 (sq 146 rfl) rfl (Or.inr ⟨_, rfl⟩) dX12_read_122 ?_
              refine J_bipush (v := nI 60) dX12_read_125 (by decide) ?_
              refine J_iload_n dX12_read_127 rfl rfl ?_
              refine J_imul dX12_read_128 ?_
              refine J_lload dX12_read_129 rfl ?_
              refine J_l2i dX12_read_131 ?_
              refine J_iadd dX12_read_132 ?_
              refine K_lald (sq 172 rfl) dX12_read_133 ?_
              refine J_l2i dX12_read_134 ?_
              refine J_iadd dX12_read_135 ?_
              refine J_ltI (fun v9 _ => ?_)
              refine J_istore [some (vR (some 146)), some (vI x1), some (vI x2), none, some (vL l4), none, some (vL l6), none, some (vI x8), none, some (vI x10), some (vI v9), some (vI x12), none] dX12_read_136 (Nat.le_of_ble_eq_true rfl) rfl rfl ?_
              refine J_iinc (v := x10 + nI 1) [some (vR (some 146)), some (vI x1), some (vI x2), none, some (vL l4), none, some (vL l6), none, some (vI x8), none, some (vI (x10 + nI 1)), some (vI v9), some (vI x12), none] dX12_read_138 rfl rfl (Nat.le_of_ble_eq_true rfl) rfl rfl ?_
              refine J_lload dX12_read_141 rfl ?_
              refine J_lconst (v := lN 1) dX12_read_143 (by decide) ?_
              refine J_ladd dX12_read_144 ?_
              refine J_ltJ (fun v10 _ => ?_)
              refine J_lstore [some (vR (some 146)), some (vI x1), some (vI x2), none, some (vL v10), none, some (vL l6), none, some (vI x8), none, some (vI (x10 + nI 1)), some (vI v9), some (vI x12), none] dX12_read_145 (Nat.le_of_ble_eq_true rfl) rfl rfl ?_
              refine J_iconst (v := nI 0) dX12_read_147 (by decide) ?_
              refine J_istore [some (vR (some 146)), some (vI x1), some (vI x2), none, some (vL v10), none, some (vL l6), none, some (vI x8), none, some (vI (x10 + nI 1)), some (vI v9), some (vI x12), some (vI (nI 0))] dX12_read_148 (Nat.le_of_ble_eq_true rfl) rfl rfl ?_
              exact J_sb (t12_read_h150 G t N x1 x2 v10 l6 x8 (x10 + nI 1) v9 k55 (f12_read_h69 N x1 x2 l6 x8 k55 n) hk55 ih N x12 (nI 0) S) (And.intro rfl (And.intro rfl (And.intro rfl (And.intro rfl (And.intro rfl (And.intro rfl (And.intro rfl (And.intro rfl (And.intro rfl (And.intro rfl (trivial)))))))))))
            · refine J_bipush (v := (-2)) dX12_read_114 (by decide) ?_
              exact J_ireturn rfl (Nat.le_refl _) (Nat.le_refl _) rfl dX12_read_116
set_option maxRecDepth 100000 in
set_option maxHeartbeats 4000000 in
theorem t12_read_h55 (G : Gm) (t : Nat) (N : Nat) (x1 : Int32) (x2 : Int32)    : ∀ (n : Nat) (l4 : Int64) (l6 : Int64) (x8 : Int32) (x9 : Int32) (S : St), J G YX12_read 3 0 0 (fI t) 0 0 55 [some (vR (some 146)), some (vI x1), some (vI x2), none, some (vL l4), none, some (vL l6), none, some (vI x8), some (vI x9), none, none, none, none] [] (MM t S) (f12_read_h55 N x1 x2 n l4 l6 x8 x9 S) := by
  intro n
  induction n with
  | zero => intro l4 l6 x8 x9 S; exact J_none
  | succ n ih =>
    intro l4 l6 x8 x9 S
    rw [f12_read_h55]
    refine J_iload dX12_read_55 rfl ?_
    refine J_if_eq (tgt := 253) dX12_read_57 (by decide) (fun z1 => ?_) (fun z1 => ?_)
    · refine J_aload_n dX12_read_253 rfl rfl ?_
      refine J_lload dX12_read_254 rfl ?_
      refine K_callV_v (As := [vL l6]) mcX12_lookAt mlX12_207 rfl (by decide) (sq 146 rfl) (ct12_lookAt G t N l6 S) rfl rfl (Nat.le_of_ble_eq_true rfl) (by decide) (Nat.le_of_ble_eq_true rfl) dX12_read_256 (fun q2 S3 => ?_)
      refine J_aload_n dX12_read_259 rfl rfl ?_
      refine J_iload_n dX12_read_260 rfl rfl ?_
      refine K_callV_i (As := [vI x1]) mcX12_sizeIn mlX12_136 rfl (by decide) (sq 146 rfl) (ct12_sizeIn G t N x1 S3) rfl rfl (Nat.le_of_ble_eq_true rfl) (by decide) (Nat.le_of_ble_eq_true rfl) dX12_read_261 (fun q4 S5 => ?_)
      exact J_ireturn rfl (Nat.le_refl _) (Nat.le_refl _) rfl dX12_read_264
    · refine J_iconst (v := nI 0) dX12_read_60 (by decide) ?_
      refine J_istore [some (vR (some 146)), some (vI x1), some (vI x2), none, some (vL l4), none, some (vL l6), none, some (vI x8), some (vI x9), some (vI (nI 0)), none, none, none] dX12_read_61 (Nat.le_of_ble_eq_true rfl) rfl rfl ?_
      refine J_iconst (v := nI 0) dX12_read_63 (by decide) ?_
      refine J_istore [some (vR (some 146)), some (vI x1), some (vI x2), none, some (vL l4), none, some (vL l6), none, some (vI x8), some (vI x9), some (vI (nI 0)), some (vI (nI 0)), none, none] dX12_read_64 (Nat.le_of_ble_eq_true rfl) rfl rfl ?_
      refine J_iconst (v := (-1)) dX12_read_66 (by decide) ?_
      refine J_istore [some (vR (some 146)), some (vI x1), some (vI x2), none, some (vL l4), none, some (vL l6), none, some (vI x8), some (vI x9), some (vI (nI 0)), some (vI (nI 0)), some (vI (-1)), none] dX12_read_67 (Nat.le_of_ble_eq_true rfl) rfl rfl ?_
      exact J_sb (t12_read_h69 G t N x1 x2 l6 x8 (f12_read_h55 N x1 x2 n) ih N l4 (nI 0) (nI 0) (-1) S) (And.intro rfl (And.intro rfl (And.intro rfl (And.intro rfl (And.intro rfl (And.intro rfl (And.intro rfl (And.intro rfl (And.intro rfl (trivial))))))))))
set_option maxRecDepth 100000 in
set_option maxHeartbeats 4000000 in
theorem t12_read_j42 (G : Gm) (t : Nat) (N : Nat) (x1 : Int32) (x2 : Int32) (x3 : Int32)    : ∀  (S : St), J G YX12_read 3 0 0 (fI t) 0 0 42 [some (vR (some 146)), some (vI x1), some (vI x2), some (vI x3), none, none, none, none, none, none, none, none, none, none] [] (MM t S) (f12_read_j42 N x1 x2 x3 S) := by
  intro S
  unfold f12_read_j42
  refine J_iload_n dX12_read_42 rfl rfl ?_
  refine J_i2l dX12_read_43 ?_
  refine J_ltJ (fun v1 _ => ?_)
  refine J_lstore [some (vR (some 146)), some (vI x1), some (vI x2), some (vI x3), some (vL v1), none, none, none, none, none, none, none, none, none] dX12_read_44 (Nat.le_of_ble_eq_true rfl) rfl rfl ?_
  refine J_lconst (v := lN 0) dX12_read_46 (by decide) ?_
  refine J_lstore [some (vR (some 146)), some (vI x1), some (vI x2), some (vI x3), some (vL v1), none, some (vL (lN 0)), none, none, none, none, none, none, none] dX12_read_47 (Nat.le_of_ble_eq_true rfl) rfl rfl ?_
  refine J_iconst (v := nI 0) dX12_read_49 (by decide) ?_
  refine J_istore [some (vR (some 146)), some (vI x1), some (vI x2), some (vI x3), some (vL v1), none, some (vL (lN 0)), none, some (vI (nI 0)), none, none, none, none, none] dX12_read_50 (Nat.le_of_ble_eq_true rfl) rfl rfl ?_
  refine J_iconst (v := nI 1) dX12_read_52 (by decide) ?_
  refine J_istore [some (vR (some 146)), some (vI x1), some (vI x2), some (vI x3), some (vL v1), none, some (vL (lN 0)), none, some (vI (nI 0)), some (vI (nI 1)), none, none, none, none] dX12_read_53 (Nat.le_of_ble_eq_true rfl) rfl rfl ?_
  exact J_sb (t12_read_h55 G t N x1 x2 N v1 (lN 0) (nI 0) (nI 1) S) (And.intro rfl (And.intro rfl (And.intro rfl (And.intro rfl (And.intro rfl (And.intro rfl (And.intro rfl (trivial))))))))
set_option maxRecDepth 100000 in
set_option maxHeartbeats 4000000 in
theorem ct12_read (G : Gm) (t : Nat) (N : Nat) (x1 : Int32) (x2 : Int32) (x3 : Int32)  (S : St) : Ct G YX12_read yX12_read 3 0 0 (fI t) (f12_read N x1 x2 x3 S) [vR (some 146), vI x1, vI x2, vI x3] (MM t S) := by
  refine Ct_of_J [some (vR (some 146)), some (vI x1), some (vI x2), some (vI x3), none, none, none, none, none, none, none, none, none, none] (by decide) rfl (fun h => by cases h) (Nat.le_of_ble_eq_true rfl) (And.intro rfl (And.intro rfl (And.intro rfl (And.intro rfl (trivial))))) ?_
  unfold f12_read
  refine J_aload_n dX12_read_0 rfl rfl ?_
  refine J_iload_n dX12_read_1 rfl rfl ?_
  refine K_callV_i (As := [vI x1]) mcX12_isLanguage mlX12_117 rfl (by decide) (sq 146 rfl) (ct12_isLanguage G t x1 S) rfl rfl (Nat.le_of_ble_eq_true rfl) (by decide) (Nat.le_of_ble_eq_true rfl) dX12_read_2 (fun q1 S2 => ?_)
  refine J_if_eq (tgt := 15) dX12_read_5 (by decide) (fun z3 => ?_) (fun z3 => ?_)
  · refine J_iconst (v := (-1)) dX12_read_15 (by decide) ?_
    exact J_ireturn rfl (Nat.le_refl _) (Nat.le_refl _) rfl dX12_read_16
  · refine J_iload_n dX12_read_8 rfl rfl ?_
    refine K_callS_i (As := [vI x2]) mcX12_isShelf mlX12_379 (ct12_isShelf G t x2 S2) rfl rfl (Nat.le_of_ble_eq_true rfl) (by decide) (Nat.le_of_ble_eq_true rfl) dX12_read_9 (fun q4 S5 => ?_)
    refine J_if_ne (tgt := 17) dX12_read_12 (by decide) (fun z6 => ?_) (fun z6 => ?_)
    · refine J_iconst (v := (-1)) dX12_read_15 (by decide) ?_
      exact J_ireturn rfl (Nat.le_refl _) (Nat.le_refl _) rfl dX12_read_16
    · refine J_aload_n dX12_read_17 rfl rfl ?_
      refine K_getR (r := some (170)) cf12 flX12_88 (sq 146 rfl) rfl (Or.inr ⟨_, rfl⟩) dX12_read_18 ?_
      refine J_iload_n dX12_read_21 rfl rfl ?_
      refine K_iald (sq 170 rfl) dX12_read_22 ?_
      refine J_iconst (v := (-1)) dX12_read_23 (by decide) ?_
      refine J_icmp_eq (tgt := 42) dX12_read_24 (by decide) (fun z7 => ?_) (fun z7 => ?_)
      · exact J_sb (t12_read_j42 G t N x1 x2 x3 S5) (And.intro rfl (And.intro rfl (And.intro rfl (And.intro rfl (trivial)))))
      · refine J_aload_n dX12_read_27 rfl rfl ?_
        refine K_getR (r := some (170)) cf12 flX12_88 (sq 146 rfl) rfl (Or.inr ⟨_, rfl⟩) dX12_read_28 ?_
        refine J_iload_n dX12_read_31 rfl rfl ?_
        refine K_iald (sq 170 rfl) dX12_read_32 ?_
        refine J_sipush (v := nI 1004) dX12_read_33 (by decide) ?_
        refine J_icmp_eq (tgt := 42) dX12_read_36 (by decide) (fun z8 => ?_) (fun z8 => ?_)
        · exact J_sb (t12_read_j42 G t N x1 x2 x3 S5) (And.intro rfl (And.intro rfl (And.intro rfl (And.intro rfl (trivial)))))
        · refine J_bipush (v := (-12)) dX12_read_39 (by decide) ?_
          exact J_ireturn rfl (Nat.le_refl _) (Nat.le_refl _) rfl dX12_read_41
theorem dX12_count_0 : decode cX12_count 0 = .ok (.iload_n 1, 1) := by decide +kernel
theorem dX12_count_1 : decode cX12_count 1 = .ok (.tableswitch 60 0 4 #[35, 40, 45, 50, 55], 35) := by decide +kernel
theorem dX12_count_36 : decode cX12_count 36 = .ok (.aload_n 0, 1) := by decide +kernel
theorem dX12_count_37 : decode cX12_count 37 = .ok (.getfield 100, 3) := by decide +kernel
theorem dX12_count_40 : decode cX12_count 40 = .ok (.ireturn, 1) := by decide +kernel
theorem dX12_count_41 : decode cX12_count 41 = .ok (.aload_n 0, 1) := by decide +kernel
theorem dX12_count_42 : decode cX12_count 42 = .ok (.getfield 261, 3) := by decide +kernel
theorem dX12_count_45 : decode cX12_count 45 = .ok (.ireturn, 1) := by decide +kernel
theorem dX12_count_46 : decode cX12_count 46 = .ok (.aload_n 0, 1) := by decide +kernel
theorem dX12_count_47 : decode cX12_count 47 = .ok (.getfield 213, 3) := by decide +kernel
theorem dX12_count_50 : decode cX12_count 50 = .ok (.ireturn, 1) := by decide +kernel
theorem dX12_count_51 : decode cX12_count 51 = .ok (.aload_n 0, 1) := by decide +kernel
theorem dX12_count_52 : decode cX12_count 52 = .ok (.getfield 314, 3) := by decide +kernel
theorem dX12_count_55 : decode cX12_count 55 = .ok (.ireturn, 1) := by decide +kernel
theorem dX12_count_56 : decode cX12_count 56 = .ok (.aload_n 0, 1) := by decide +kernel
theorem dX12_count_57 : decode cX12_count 57 = .ok (.getfield 341, 3) := by decide +kernel
theorem dX12_count_60 : decode cX12_count 60 = .ok (.ireturn, 1) := by decide +kernel
theorem dX12_count_61 : decode cX12_count 61 = .ok (.iconst (-1), 1) := by decide +kernel
theorem dX12_count_62 : decode cX12_count 62 = .ok (.ireturn, 1) := by decide +kernel
set_option maxRecDepth 100000 in
set_option maxHeartbeats 4000000 in
theorem ct12_count (G : Gm) (t : Nat)  (x1 : Int32)  (S : St) : Ct G YX12_count yX12_count 1 0 0 (fI t) (f12_count x1 S) [vR (some 146), vI x1] (MM t S) := by
  refine Ct_of_J [some (vR (some 146)), some (vI x1)] (by decide) rfl (fun h => by cases h) (Nat.le_of_ble_eq_true rfl) (And.intro rfl (And.intro rfl (trivial))) ?_
  unfold f12_count
  refine J_iload_n dX12_count_0 rfl rfl ?_
  refine J_table (td := 61) _ dX12_count_1 (fun z h1 h2 => cov_of (lo := (0)) (N := 5) (ks := [nI 0, nI 1, nI 2, nI 3, nI 4]) (by decide) z h1 (by omega)) ?_ (by decide) ?_
  · refine List.forall_mem_cons.mpr ⟨tb_mk (o := 35) (tgt := 36) (by decide) (fun _ => ?_), ?_⟩
    · refine J_aload_n dX12_count_36 rfl rfl ?_
      refine K_getI cf12 flX12_100 (sq 146 rfl) (Or.inl rfl) dX12_count_37 ?_
      exact J_ireturn rfl (Nat.le_refl _) (Nat.le_refl _) rfl dX12_count_40
    · refine List.forall_mem_cons.mpr ⟨tb_mk (o := 40) (tgt := 41) (by decide) (fun _ => ?_), ?_⟩
      · refine J_aload_n dX12_count_41 rfl rfl ?_
        refine K_getI cf12 flX12_261 (sq 146 rfl) (Or.inl rfl) dX12_count_42 ?_
        exact J_ireturn rfl (Nat.le_refl _) (Nat.le_refl _) rfl dX12_count_45
      · refine List.forall_mem_cons.mpr ⟨tb_mk (o := 45) (tgt := 46) (by decide) (fun _ => ?_), ?_⟩
        · refine J_aload_n dX12_count_46 rfl rfl ?_
          refine K_getI cf12 flX12_213 (sq 146 rfl) (Or.inl rfl) dX12_count_47 ?_
          exact J_ireturn rfl (Nat.le_refl _) (Nat.le_refl _) rfl dX12_count_50
        · refine List.forall_mem_cons.mpr ⟨tb_mk (o := 50) (tgt := 51) (by decide) (fun _ => ?_), ?_⟩
          · refine J_aload_n dX12_count_51 rfl rfl ?_
            refine K_getI cf12 flX12_314 (sq 146 rfl) (Or.inl rfl) dX12_count_52 ?_
            exact J_ireturn rfl (Nat.le_refl _) (Nat.le_refl _) rfl dX12_count_55
          · refine List.forall_mem_cons.mpr ⟨tb_mk (o := 55) (tgt := 56) (by decide) (fun _ => ?_), ?_⟩
            · refine J_aload_n dX12_count_56 rfl rfl ?_
              refine K_getI cf12 flX12_341 (sq 146 rfl) (Or.inl rfl) dX12_count_57 ?_
              exact J_ireturn rfl (Nat.le_refl _) (Nat.le_refl _) rfl dX12_count_60
            · exact fun _ h => absurd h List.not_mem_nil
  · refine J_iconst (v := (-1)) dX12_count_61 (by decide) ?_
    exact J_ireturn rfl (Nat.le_refl _) (Nat.le_refl _) rfl dX12_count_62
