theorem dX12_learn_0 : decode cX12_learn 0 = .ok (.aload_n 0, 1) := by decide +kernel
theorem dX12_learn_1 : decode cX12_learn 1 = .ok (.iload_n 1, 1) := by decide +kernel
theorem dX12_learn_2 : decode cX12_learn 2 = .ok (.invokevirtual 117, 3) := by decide +kernel
theorem dX12_learn_5 : decode cX12_learn 5 = .ok (.ifCond .eq 65, 3) := by decide +kernel
theorem dX12_learn_8 : decode cX12_learn 8 = .ok (.iload 4, 2) := by decide +kernel
theorem dX12_learn_10 : decode cX12_learn 10 = .ok (.i2l, 1) := by decide +kernel
theorem dX12_learn_11 : decode cX12_learn 11 = .ok (.lconst 1, 1) := by decide +kernel
theorem dX12_learn_12 : decode cX12_learn 12 = .ok (.ldc2_w 107, 3) := by decide +kernel
theorem dX12_learn_15 : decode cX12_learn 15 = .ok (.invokestatic 109, 3) := by decide +kernel
theorem dX12_learn_18 : decode cX12_learn 18 = .ok (.ifCond .eq 52, 3) := by decide +kernel
theorem dX12_learn_21 : decode cX12_learn 21 = .ok (.iload_n 2, 1) := by decide +kernel
theorem dX12_learn_22 : decode cX12_learn 22 = .ok (.ifCond .lt 48, 3) := by decide +kernel
theorem dX12_learn_25 : decode cX12_learn 25 = .ok (.iload_n 3, 1) := by decide +kernel
theorem dX12_learn_26 : decode cX12_learn 26 = .ok (.aload_n 0, 1) := by decide +kernel
theorem dX12_learn_27 : decode cX12_learn 27 = .ok (.getfield 128, 3) := by decide +kernel
theorem dX12_learn_30 : decode cX12_learn 30 = .ok (.if_icmp .ge 40, 3) := by decide +kernel
theorem dX12_learn_33 : decode cX12_learn 33 = .ok (.iload_n 3, 1) := by decide +kernel
theorem dX12_learn_34 : decode cX12_learn 34 = .ok (.i2l, 1) := by decide +kernel
theorem dX12_learn_35 : decode cX12_learn 35 = .ok (.iload_n 2, 1) := by decide +kernel
theorem dX12_learn_36 : decode cX12_learn 36 = .ok (.i2l, 1) := by decide +kernel
theorem dX12_learn_37 : decode cX12_learn 37 = .ok (.lsub, 1) := by decide +kernel
theorem dX12_learn_38 : decode cX12_learn 38 = .ok (.lconst 1, 1) := by decide +kernel
theorem dX12_learn_39 : decode cX12_learn 39 = .ok (.ldc2_w 324, 3) := by decide +kernel
theorem dX12_learn_42 : decode cX12_learn 42 = .ok (.invokestatic 109, 3) := by decide +kernel
theorem dX12_learn_45 : decode cX12_learn 45 = .ok (.ifCond .eq 25, 3) := by decide +kernel
theorem dX12_learn_48 : decode cX12_learn 48 = .ok (.aload_n 0, 1) := by decide +kernel
theorem dX12_learn_49 : decode cX12_learn 49 = .ok (.getfield 25, 3) := by decide +kernel
theorem dX12_learn_52 : decode cX12_learn 52 = .ok (.aload_n 0, 1) := by decide +kernel
theorem dX12_learn_53 : decode cX12_learn 53 = .ok (.iload_n 1, 1) := by decide +kernel
theorem dX12_learn_54 : decode cX12_learn 54 = .ok (.invokevirtual 117, 3) := by decide +kernel
theorem dX12_learn_57 : decode cX12_learn 57 = .ok (.ifCond .eq 7, 3) := by decide +kernel
theorem dX12_learn_60 : decode cX12_learn 60 = .ok (.iload_n 1, 1) := by decide +kernel
theorem dX12_learn_61 : decode cX12_learn 61 = .ok (.goto 4, 3) := by decide +kernel
theorem dX12_learn_64 : decode cX12_learn 64 = .ok (.iconst 0, 1) := by decide +kernel
theorem dX12_learn_65 : decode cX12_learn 65 = .ok (.iaload, 1) := by decide +kernel
theorem dX12_learn_66 : decode cX12_learn 66 = .ok (.iconst 4, 1) := by decide +kernel
theorem dX12_learn_67 : decode cX12_learn 67 = .ok (.if_icmp .ne 5, 3) := by decide +kernel
theorem dX12_learn_70 : decode cX12_learn 70 = .ok (.iconst (-1), 1) := by decide +kernel
theorem dX12_learn_71 : decode cX12_learn 71 = .ok (.ireturn, 1) := by decide +kernel
theorem dX12_learn_72 : decode cX12_learn 72 = .ok (.iload_n 2, 1) := by decide +kernel
theorem dX12_learn_73 : decode cX12_learn 73 = .ok (.istore 5, 2) := by decide +kernel
theorem dX12_learn_75 : decode cX12_learn 75 = .ok (.iload 5, 2) := by decide +kernel
theorem dX12_learn_77 : decode cX12_learn 77 = .ok (.iload_n 3, 1) := by decide +kernel
theorem dX12_learn_78 : decode cX12_learn 78 = .ok (.if_icmp .gt 29, 3) := by decide +kernel
theorem dX12_learn_81 : decode cX12_learn 81 = .ok (.aload_n 0, 1) := by decide +kernel
theorem dX12_learn_82 : decode cX12_learn 82 = .ok (.getfield 28, 3) := by decide +kernel
theorem dX12_learn_85 : decode cX12_learn 85 = .ok (.iload 5, 2) := by decide +kernel
theorem dX12_learn_87 : decode cX12_learn 87 = .ok (.iaload, 1) := by decide +kernel
theorem dX12_learn_88 : decode cX12_learn 88 = .ok (.i2l, 1) := by decide +kernel
theorem dX12_learn_89 : decode cX12_learn 89 = .ok (.lconst 1, 1) := by decide +kernel
theorem dX12_learn_90 : decode cX12_learn 90 = .ok (.ldc2_w 338, 3) := by decide +kernel
theorem dX12_learn_93 : decode cX12_learn 93 = .ok (.invokestatic 109, 3) := by decide +kernel
theorem dX12_learn_96 : decode cX12_learn 96 = .ok (.ifCond .ne 5, 3) := by decide +kernel
theorem dX12_learn_99 : decode cX12_learn 99 = .ok (.iconst (-1), 1) := by decide +kernel
theorem dX12_learn_100 : decode cX12_learn 100 = .ok (.ireturn, 1) := by decide +kernel
theorem dX12_learn_101 : decode cX12_learn 101 = .ok (.iinc 5 1, 3) := by decide +kernel
theorem dX12_learn_104 : decode cX12_learn 104 = .ok (.goto (-29), 3) := by decide +kernel
theorem dX12_learn_107 : decode cX12_learn 107 = .ok (.aload_n 0, 1) := by decide +kernel
theorem dX12_learn_108 : decode cX12_learn 108 = .ok (.iload_n 1, 1) := by decide +kernel
theorem dX12_learn_109 : decode cX12_learn 109 = .ok (.invokevirtual 133, 3) := by decide +kernel
theorem dX12_learn_112 : decode cX12_learn 112 = .ok (.ifCond .eq 19, 3) := by decide +kernel
theorem dX12_learn_115 : decode cX12_learn 115 = .ok (.aload_n 0, 1) := by decide +kernel
theorem dX12_learn_116 : decode cX12_learn 116 = .ok (.iload_n 1, 1) := by decide +kernel
theorem dX12_learn_117 : decode cX12_learn 117 = .ok (.invokevirtual 121, 3) := by decide +kernel
theorem dX12_learn_120 : decode cX12_learn 120 = .ok (.bipush 64, 2) := by decide +kernel
theorem dX12_learn_122 : decode cX12_learn 122 = .ok (.iload 4, 2) := by decide +kernel
theorem dX12_learn_124 : decode cX12_learn 124 = .ok (.ishr, 1) := by decide +kernel
theorem dX12_learn_125 : decode cX12_learn 125 = .ok (.iadd, 1) := by decide +kernel
theorem dX12_learn_126 : decode cX12_learn 126 = .ok (.bipush 64, 2) := by decide +kernel
theorem dX12_learn_128 : decode cX12_learn 128 = .ok (.if_icmp .le 6, 3) := by decide +kernel
theorem dX12_learn_131 : decode cX12_learn 131 = .ok (.bipush (-5), 2) := by decide +kernel
theorem dX12_learn_133 : decode cX12_learn 133 = .ok (.ireturn, 1) := by decide +kernel
theorem dX12_learn_134 : decode cX12_learn 134 = .ok (.aload_n 0, 1) := by decide +kernel
theorem dX12_learn_135 : decode cX12_learn 135 = .ok (.getfield 100, 3) := by decide +kernel
theorem dX12_learn_138 : decode cX12_learn 138 = .ok (.bipush 6, 2) := by decide +kernel
theorem dX12_learn_140 : decode cX12_learn 140 = .ok (.if_icmp .ne 6, 3) := by decide +kernel
theorem dX12_learn_143 : decode cX12_learn 143 = .ok (.bipush (-3), 2) := by decide +kernel
theorem dX12_learn_145 : decode cX12_learn 145 = .ok (.ireturn, 1) := by decide +kernel
theorem dX12_learn_146 : decode cX12_learn 146 = .ok (.aload_n 0, 1) := by decide +kernel
theorem dX12_learn_147 : decode cX12_learn 147 = .ok (.iload_n 1, 1) := by decide +kernel
theorem dX12_learn_148 : decode cX12_learn 148 = .ok (.invokevirtual 335, 3) := by decide +kernel
theorem dX12_learn_151 : decode cX12_learn 151 = .ok (.iconst 4, 1) := by decide +kernel
theorem dX12_learn_152 : decode cX12_learn 152 = .ok (.aload_n 0, 1) := by decide +kernel
theorem dX12_learn_153 : decode cX12_learn 153 = .ok (.getfield 100, 3) := by decide +kernel
theorem dX12_learn_156 : decode cX12_learn 156 = .ok (.imul, 1) := by decide +kernel
theorem dX12_learn_157 : decode cX12_learn 157 = .ok (.aload_n 0, 1) := by decide +kernel
theorem dX12_learn_158 : decode cX12_learn 158 = .ok (.getfield 25, 3) := by decide +kernel
theorem dX12_learn_161 : decode cX12_learn 161 = .ok (.iload_n 1, 1) := by decide +kernel
theorem dX12_learn_162 : decode cX12_learn 162 = .ok (.iaload, 1) := by decide +kernel
theorem dX12_learn_163 : decode cX12_learn 163 = .ok (.iadd, 1) := by decide +kernel
theorem dX12_learn_164 : decode cX12_learn 164 = .ok (.istore 5, 2) := by decide +kernel
theorem dX12_learn_166 : decode cX12_learn 166 = .ok (.aload_n 0, 1) := by decide +kernel
theorem dX12_learn_167 : decode cX12_learn 167 = .ok (.getfield 22, 3) := by decide +kernel
theorem dX12_learn_170 : decode cX12_learn 170 = .ok (.iload 5, 2) := by decide +kernel
theorem dX12_learn_172 : decode cX12_learn 172 = .ok (.iload_n 3, 1) := by decide +kernel
theorem dX12_learn_173 : decode cX12_learn 173 = .ok (.iload_n 2, 1) := by decide +kernel
theorem dX12_learn_174 : decode cX12_learn 174 = .ok (.isub, 1) := by decide +kernel
theorem dX12_learn_175 : decode cX12_learn 175 = .ok (.iconst 1, 1) := by decide +kernel
theorem dX12_learn_176 : decode cX12_learn 176 = .ok (.iadd, 1) := by decide +kernel
theorem dX12_learn_177 : decode cX12_learn 177 = .ok (.iastore, 1) := by decide +kernel
theorem dX12_learn_178 : decode cX12_learn 178 = .ok (.iload_n 2, 1) := by decide +kernel
theorem dX12_learn_179 : decode cX12_learn 179 = .ok (.istore 6, 2) := by decide +kernel
theorem dX12_learn_181 : decode cX12_learn 181 = .ok (.iload 6, 2) := by decide +kernel
theorem dX12_learn_183 : decode cX12_learn 183 = .ok (.iload_n 3, 1) := by decide +kernel
theorem dX12_learn_184 : decode cX12_learn 184 = .ok (.if_icmp .gt 30, 3) := by decide +kernel
theorem dX12_learn_187 : decode cX12_learn 187 = .ok (.aload_n 0, 1) := by decide +kernel
theorem dX12_learn_188 : decode cX12_learn 188 = .ok (.getfield 19, 3) := by decide +kernel
theorem dX12_learn_191 : decode cX12_learn 191 = .ok (.iconst 4, 1) := by decide +kernel
theorem dX12_learn_192 : decode cX12_learn 192 = .ok (.iload 5, 2) := by decide +kernel
theorem dX12_learn_194 : decode cX12_learn 194 = .ok (.imul, 1) := by decide +kernel
theorem dX12_learn_195 : decode cX12_learn 195 = .ok (.iload 6, 2) := by decide +kernel
theorem dX12_learn_197 : decode cX12_learn 197 = .ok (.iadd, 1) := by decide +kernel
theorem dX12_learn_198 : decode cX12_learn 198 = .ok (.iload_n 2, 1) := by decide +kernel
theorem dX12_learn_199 : decode cX12_learn 199 = .ok (.isub, 1) := by decide +kernel
theorem dX12_learn_200 : decode cX12_learn 200 = .ok (.aload_n 0, 1) := by decide +kernel
theorem dX12_learn_201 : decode cX12_learn 201 = .ok (.getfield 28, 3) := by decide +kernel
theorem dX12_learn_204 : decode cX12_learn 204 = .ok (.iload 6, 2) := by decide +kernel
theorem dX12_learn_206 : decode cX12_learn 206 = .ok (.iaload, 1) := by decide +kernel
theorem dX12_learn_207 : decode cX12_learn 207 = .ok (.iastore, 1) := by decide +kernel
theorem dX12_learn_208 : decode cX12_learn 208 = .ok (.iinc 6 1, 3) := by decide +kernel
theorem dX12_learn_211 : decode cX12_learn 211 = .ok (.goto (-30), 3) := by decide +kernel
theorem dX12_learn_214 : decode cX12_learn 214 = .ok (.aload_n 0, 1) := by decide +kernel
theorem dX12_learn_215 : decode cX12_learn 215 = .ok (.getfield 9, 3) := by decide +kernel
theorem dX12_learn_218 : decode cX12_learn 218 = .ok (.bipush 12, 2) := by decide +kernel
theorem dX12_learn_220 : decode cX12_learn 220 = .ok (.aload_n 0, 1) := by decide +kernel
theorem dX12_learn_221 : decode cX12_learn 221 = .ok (.getfield 100, 3) := by decide +kernel
theorem dX12_learn_224 : decode cX12_learn 224 = .ok (.imul, 1) := by decide +kernel
theorem dX12_learn_225 : decode cX12_learn 225 = .ok (.bipush 8, 2) := by decide +kernel
theorem dX12_learn_227 : decode cX12_learn 227 = .ok (.iadd, 1) := by decide +kernel
theorem dX12_learn_228 : decode cX12_learn 228 = .ok (.aload_n 0, 1) := by decide +kernel
theorem dX12_learn_229 : decode cX12_learn 229 = .ok (.getfield 25, 3) := by decide +kernel
theorem dX12_learn_232 : decode cX12_learn 232 = .ok (.iload_n 1, 1) := by decide +kernel
theorem dX12_learn_233 : decode cX12_learn 233 = .ok (.iaload, 1) := by decide +kernel
theorem dX12_learn_234 : decode cX12_learn 234 = .ok (.iadd, 1) := by decide +kernel
theorem dX12_learn_235 : decode cX12_learn 235 = .ok (.iload 4, 2) := by decide +kernel
theorem dX12_learn_237 : decode cX12_learn 237 = .ok (.iastore, 1) := by decide +kernel
theorem dX12_learn_238 : decode cX12_learn 238 = .ok (.aload_n 0, 1) := by decide +kernel
theorem dX12_learn_239 : decode cX12_learn 239 = .ok (.getfield 25, 3) := by decide +kernel
theorem dX12_learn_242 : decode cX12_learn 242 = .ok (.aload_n 0, 1) := by decide +kernel
theorem dX12_learn_243 : decode cX12_learn 243 = .ok (.getfield 100, 3) := by decide +kernel
theorem dX12_learn_246 : decode cX12_learn 246 = .ok (.dup2, 1) := by decide +kernel
theorem dX12_learn_247 : decode cX12_learn 247 = .ok (.iaload, 1) := by decide +kernel
theorem dX12_learn_248 : decode cX12_learn 248 = .ok (.iconst 1, 1) := by decide +kernel
theorem dX12_learn_249 : decode cX12_learn 249 = .ok (.iadd, 1) := by decide +kernel
theorem dX12_learn_250 : decode cX12_learn 250 = .ok (.iastore, 1) := by decide +kernel
theorem dX12_learn_251 : decode cX12_learn 251 = .ok (.aload_n 0, 1) := by decide +kernel
theorem dX12_learn_252 : decode cX12_learn 252 = .ok (.aload_n 0, 1) := by decide +kernel
theorem dX12_learn_253 : decode cX12_learn 253 = .ok (.getfield 100, 3) := by decide +kernel
theorem dX12_learn_256 : decode cX12_learn 256 = .ok (.invokevirtual 113, 3) := by decide +kernel
theorem dX12_learn_259 : decode cX12_learn 259 = .ok (.aload_n 0, 1) := by decide +kernel
theorem dX12_learn_260 : decode cX12_learn 260 = .ok (.dup, 1) := by decide +kernel
theorem dX12_learn_261 : decode cX12_learn 261 = .ok (.getfield 100, 3) := by decide +kernel
theorem dX12_learn_264 : decode cX12_learn 264 = .ok (.iconst 1, 1) := by decide +kernel
theorem dX12_learn_265 : decode cX12_learn 265 = .ok (.iadd, 1) := by decide +kernel
theorem dX12_learn_266 : decode cX12_learn 266 = .ok (.putfield 100, 3) := by decide +kernel
theorem dX12_learn_269 : decode cX12_learn 269 = .ok (.aload_n 0, 1) := by decide +kernel
theorem dX12_learn_270 : decode cX12_learn 270 = .ok (.getfield 100, 3) := by decide +kernel
theorem dX12_learn_273 : decode cX12_learn 273 = .ok (.iconst 1, 1) := by decide +kernel
theorem dX12_learn_274 : decode cX12_learn 274 = .ok (.isub, 1) := by decide +kernel
theorem dX12_learn_275 : decode cX12_learn 275 = .ok (.ireturn, 1) := by decide +kernel
set_option maxRecDepth 100000 in
set_option maxHeartbeats 4000000 in
theorem t12_learn_h181 (G : Gm) (t : Nat) (N : Nat) (x1 : Int32) (x2 : Int32) (x3 : Int32) (x4 : Int32) (x5 : Int32)    : ∀ (n : Nat) (x6 : Int32) (S : St), J G YX12_learn 4 0 0 (fI t) 0 0 181 [some (vR (some 146)), some (vI x1), some (vI x2), some (vI x3), some (vI x4), some (vI x5), some (vI x6)] [] (MM t S) (f12_learn_h181 N x1 x2 x3 x4 x5 n x6 S) := by
  intro n
  induction n with
  | zero => intro x6 S; exact J_none
  | succ n ih =>
    intro x6 S
    rw [f12_learn_h181]
    refine J_iload dX12_learn_181 rfl ?_
    refine J_iload_n dX12_learn_183 rfl rfl ?_
    refine J_icmp_gt (tgt := 214) dX12_learn_184 (by decide) (fun z1 => ?_) (fun z1 => ?_)
    · refine J_aload_n dX12_learn_214 rfl rfl ?_
      refine K_getR (r := some (147)) cf12 flX12_9 (sq 146 rfl) rfl (Or.inr ⟨_, rfl⟩) dX12_learn_215 ?_
      refine J_bipush (v := nI 12) dX12_learn_218 (by decide) ?_
      refine J_aload_n dX12_learn_220 rfl rfl ?_
      refine K_getI cf12 flX12_100 (sq 146 rfl) (Or.inl rfl) dX12_learn_221 ?_
      refine J_imul dX12_learn_224 ?_
      refine J_bipush (v := nI 8) dX12_learn_225 (by decide) ?_
      refine J_iadd dX12_learn_227 ?_
      refine J_aload_n dX12_learn_228 rfl rfl ?_
      refine K_getR (r := some (152)) cf12 flX12_25 (sq 146 rfl) rfl (Or.inr ⟨_, rfl⟩) dX12_learn_229 ?_
      refine J_iload_n dX12_learn_232 rfl rfl ?_
      refine K_iald (sq 152 rfl) dX12_learn_233 ?_
      refine J_iadd dX12_learn_234 ?_
      refine J_iload dX12_learn_235 rfl ?_
      refine K_iast (sq 147 rfl) dX12_learn_237 ?_
      refine J_ltS (fun S2 _ => ?_)
      refine J_aload_n dX12_learn_238 rfl rfl ?_
      refine K_getR (r := some (152)) cf12 flX12_25 (sq 146 rfl) rfl (Or.inr ⟨_, rfl⟩) dX12_learn_239 ?_
      refine J_aload_n dX12_learn_242 rfl rfl ?_
      refine K_getI cf12 flX12_100 (sq 146 rfl) (Or.inl rfl) dX12_learn_243 ?_
      refine J_dup2 dX12_learn_246 rfl rfl ?_
      refine K_iald (sq 152 rfl) dX12_learn_247 ?_
      refine J_iconst (v := nI 1) dX12_learn_248 (by decide) ?_
      refine J_iadd dX12_learn_249 ?_
      refine K_iast (sq 152 rfl) dX12_learn_250 ?_
      refine J_ltS (fun S3 _ => ?_)
      refine J_aload_n dX12_learn_251 rfl rfl ?_
      refine J_aload_n dX12_learn_252 rfl rfl ?_
      refine K_getI cf12 flX12_100 (sq 146 rfl) (Or.inl rfl) dX12_learn_253 ?_
      refine K_callV_v (As := [vI (S3.1 146 6)]) mcX12_giveCodes mlX12_113 rfl (by decide) (sq 146 rfl) (ct12_giveCodes G t N (S3.1 146 6) S3) rfl rfl (Nat.le_of_ble_eq_true rfl) (by decide) (Nat.le_of_ble_eq_true rfl) dX12_learn_256 (fun q4 S5 => ?_)
      refine J_aload_n dX12_learn_259 rfl rfl ?_
      refine J_dup dX12_learn_260 rfl ?_
      refine K_getI cf12 flX12_100 (sq 146 rfl) (Or.inl rfl) dX12_learn_261 ?_
      refine J_iconst (v := nI 1) dX12_learn_264 (by decide) ?_
      refine J_iadd dX12_learn_265 ?_
      refine K_putI cf12 flX12_100 (sq 146 rfl) rfl dX12_learn_266 ?_
      refine J_ltS (fun S6 _ => ?_)
      refine J_aload_n dX12_learn_269 rfl rfl ?_
      refine K_getI cf12 flX12_100 (sq 146 rfl) (Or.inl rfl) dX12_learn_270 ?_
      refine J_iconst (v := nI 1) dX12_learn_273 (by decide) ?_
      refine J_isub dX12_learn_274 ?_
      exact J_ireturn rfl (Nat.le_refl _) (Nat.le_refl _) rfl dX12_learn_275
    · refine J_aload_n dX12_learn_187 rfl rfl ?_
      refine K_getR (r := some (150)) cf12 flX12_19 (sq 146 rfl) rfl (Or.inr ⟨_, rfl⟩) dX12_learn_188 ?_
      refine J_iconst (v := nI 4) dX12_learn_191 (by decide) ?_
      refine J_iload dX12_learn_192 rfl ?_
      refine J_imul dX12_learn_194 ?_
      refine J_iload dX12_learn_195 rfl ?_
      refine J_iadd dX12_learn_197 ?_
      refine J_iload_n dX12_learn_198 rfl rfl ?_
      refine J_isub dX12_learn_199 ?_
      refine J_aload_n dX12_learn_200 rfl rfl ?_
      refine K_getR (r := some (153)) cf12 flX12_28 (sq 146 rfl) rfl (Or.inr ⟨_, rfl⟩) dX12_learn_201 ?_
      refine J_iload dX12_learn_204 rfl ?_
      refine K_iald (sq 153 rfl) dX12_learn_206 ?_
      refine K_iast (sq 150 rfl) dX12_learn_207 ?_
      refine J_ltS (fun S7 _ => ?_)
      refine J_iinc (v := x6 + nI 1) [some (vR (some 146)), some (vI x1), some (vI x2), some (vI x3), some (vI x4), some (vI x5), some (vI (x6 + nI 1))] dX12_learn_208 rfl rfl (Nat.le_of_ble_eq_true rfl) rfl rfl ?_
      refine J_goto (tgt := 181) dX12_learn_211 (by decide) ?_
      exact J_sb (ih (x6 + nI 1) S7) (And.intro rfl (And.intro rfl (And.intro rfl (And.intro rfl (And.intro rfl (And.intro rfl (And.intro rfl (trivial))))))))
set_option maxRecDepth 100000 in
set_option maxHeartbeats 4000000 in
theorem t12_learn_h75 (G : Gm) (t : Nat) (N : Nat) (x1 : Int32) (x2 : Int32) (x3 : Int32) (x4 : Int32)    : ∀ (n : Nat) (x5 : Int32) (S : St), J G YX12_learn 4 0 0 (fI t) 0 0 75 [some (vR (some 146)), some (vI x1), some (vI x2), some (vI x3), some (vI x4), some (vI x5), none] [] (MM t S) (f12_learn_h75 N x1 x2 x3 x4 n x5 S) := by
  intro n
  induction n with
  | zero => intro x5 S; exact J_none
  | succ n ih =>
    intro x5 S
    rw [f12_learn_h75]
    refine J_iload dX12_learn_75 rfl ?_
    refine J_iload_n dX12_learn_77 rfl rfl ?_
    refine J_icmp_gt (tgt := 107) dX12_learn_78 (by decide) (fun z1 => ?_) (fun z1 => ?_)
    · refine J_aload_n dX12_learn_107 rfl rfl ?_
      refine J_iload_n dX12_learn_108 rfl rfl ?_
      refine K_callV_i (As := [vI x1]) mcX12_isProgram mlX12_133 rfl (by decide) (sq 146 rfl) (ct12_isProgram G t N x1 S) rfl rfl (Nat.le_of_ble_eq_true rfl) (by decide) (Nat.le_of_ble_eq_true rfl) dX12_learn_109 (fun q2 S3 => ?_)
      refine J_if_eq (tgt := 131) dX12_learn_112 (by decide) (fun z4 => ?_) (fun z4 => ?_)
      · refine J_bipush (v := (-5)) dX12_learn_131 (by decide) ?_
        exact J_ireturn rfl (Nat.le_refl _) (Nat.le_refl _) rfl dX12_learn_133
      · refine J_aload_n dX12_learn_115 rfl rfl ?_
        refine J_iload_n dX12_learn_116 rfl rfl ?_
        refine K_callV_i (As := [vI x1]) mcX12_sumOf mlX12_121 rfl (by decide) (sq 146 rfl) (ct12_sumOf G t N x1 S3) rfl rfl (Nat.le_of_ble_eq_true rfl) (by decide) (Nat.le_of_ble_eq_true rfl) dX12_learn_117 (fun q5 S6 => ?_)
        refine J_bipush (v := nI 64) dX12_learn_120 (by decide) ?_
        refine J_iload dX12_learn_122 rfl ?_
        refine J_ishr dX12_learn_124 ?_
        refine J_iadd dX12_learn_125 ?_
        refine J_bipush (v := nI 64) dX12_learn_126 (by decide) ?_
        refine J_icmp_le (tgt := 134) dX12_learn_128 (by decide) (fun z7 => ?_) (fun z7 => ?_)
        · refine J_aload_n dX12_learn_134 rfl rfl ?_
          refine K_getI cf12 flX12_100 (sq 146 rfl) (Or.inl rfl) dX12_learn_135 ?_
          refine J_bipush (v := nI 6) dX12_learn_138 (by decide) ?_
          refine J_icmp_ne (tgt := 146) dX12_learn_140 (by decide) (fun z8 => ?_) (fun z8 => ?_)
          · refine J_bipush (v := (-3)) dX12_learn_143 (by decide) ?_
            exact J_ireturn rfl (Nat.le_refl _) (Nat.le_refl _) rfl dX12_learn_145
          · refine J_aload_n dX12_learn_146 rfl rfl ?_
            refine J_iload_n dX12_learn_147 rfl rfl ?_
            refine K_callV_v (As := [vI x1]) mcX12_copy mlX12_335 rfl (by decide) (sq 146 rfl) (ct12_copy G t N x1 S6) rfl rfl (Nat.le_of_ble_eq_true rfl) (by decide) (Nat.le_of_ble_eq_true rfl) dX12_learn_148 (fun q9 S10 => ?_)
            refine J_iconst (v := nI 4) dX12_learn_151 (by decide) ?_
            refine J_aload_n dX12_learn_152 rfl rfl ?_
            refine K_getI cf12 flX12_100 (sq 146 rfl) (Or.inl rfl) dX12_learn_153 ?_
            refine J_imul dX12_learn_156 ?_
            refine J_aload_n dX12_learn_157 rfl rfl ?_
            refine K_getR (r := some (152)) cf12 flX12_25 (sq 146 rfl) rfl (Or.inr ⟨_, rfl⟩) dX12_learn_158 ?_
            refine J_iload_n dX12_learn_161 rfl rfl ?_
            refine K_iald (sq 152 rfl) dX12_learn_162 ?_
            refine J_iadd dX12_learn_163 ?_
            refine J_ltI (fun v11 _ => ?_)
            refine J_istore [some (vR (some 146)), some (vI x1), some (vI x2), some (vI x3), some (vI x4), some (vI v11), none] dX12_learn_164 (Nat.le_of_ble_eq_true rfl) rfl rfl ?_
            refine J_aload_n dX12_learn_166 rfl rfl ?_
            refine K_getR (r := some (151)) cf12 flX12_22 (sq 146 rfl) rfl (Or.inr ⟨_, rfl⟩) dX12_learn_167 ?_
            refine J_iload dX12_learn_170 rfl ?_
            refine J_iload_n dX12_learn_172 rfl rfl ?_
            refine J_iload_n dX12_learn_173 rfl rfl ?_
            refine J_isub dX12_learn_174 ?_
            refine J_iconst (v := nI 1) dX12_learn_175 (by decide) ?_
            refine J_iadd dX12_learn_176 ?_
            refine K_iast (sq 151 rfl) dX12_learn_177 ?_
            refine J_ltS (fun S12 _ => ?_)
            refine J_iload_n dX12_learn_178 rfl rfl ?_
            refine J_istore [some (vR (some 146)), some (vI x1), some (vI x2), some (vI x3), some (vI x4), some (vI v11), some (vI x2)] dX12_learn_179 (Nat.le_of_ble_eq_true rfl) rfl rfl ?_
            exact J_sb (t12_learn_h181 G t N x1 x2 x3 x4 v11 N x2 S12) (And.intro rfl (And.intro rfl (And.intro rfl (And.intro rfl (And.intro rfl (And.intro rfl (And.intro rfl (trivial))))))))
        · refine J_bipush (v := (-5)) dX12_learn_131 (by decide) ?_
          exact J_ireturn rfl (Nat.le_refl _) (Nat.le_refl _) rfl dX12_learn_133
    · refine J_aload_n dX12_learn_81 rfl rfl ?_
      refine K_getR (r := some (153)) cf12 flX12_28 (sq 146 rfl) rfl (Or.inr ⟨_, rfl⟩) dX12_learn_82 ?_
      refine J_iload dX12_learn_85 rfl ?_
      refine K_iald (sq 153 rfl) dX12_learn_87 ?_
      refine J_i2l dX12_learn_88 ?_
      refine J_lconst (v := lN 1) dX12_learn_89 (by decide) ?_
      refine J_ldc2_w (v := lN 7) wX12_338 dX12_learn_90 ?_
      refine K_callS_i (As := [vL ((S.1 153 x5.toNatClampNeg).toInt64), vL (lN 1), vL (lN 7)]) mcX12_within mlX12_109 (ct12_within G t ((S.1 153 x5.toNatClampNeg).toInt64) (lN 1) (lN 7) S) rfl rfl (Nat.le_of_ble_eq_true rfl) (by decide) (Nat.le_of_ble_eq_true rfl) dX12_learn_93 (fun q13 S14 => ?_)
      refine J_if_ne (tgt := 101) dX12_learn_96 (by decide) (fun z15 => ?_) (fun z15 => ?_)
      · refine J_iconst (v := (-1)) dX12_learn_99 (by decide) ?_
        exact J_ireturn rfl (Nat.le_refl _) (Nat.le_refl _) rfl dX12_learn_100
      · refine J_iinc (v := x5 + nI 1) [some (vR (some 146)), some (vI x1), some (vI x2), some (vI x3), some (vI x4), some (vI (x5 + nI 1)), none] dX12_learn_101 rfl rfl (Nat.le_of_ble_eq_true rfl) rfl rfl ?_
        refine J_goto (tgt := 75) dX12_learn_104 (by decide) ?_
        exact J_sb (ih (x5 + nI 1) S14) (And.intro rfl (And.intro rfl (And.intro rfl (And.intro rfl (And.intro rfl (And.intro rfl (trivial)))))))
set_option maxRecDepth 100000 in
set_option maxHeartbeats 4000000 in
theorem t12_learn_j65 (G : Gm) (t : Nat) (N : Nat) (x1 : Int32) (x2 : Int32) (x3 : Int32) (x4 : Int32)    : ∀ (xs0 : Int32) (S : St), J G YX12_learn 4 0 0 (fI t) 0 0 65 [some (vR (some 146)), some (vI x1), some (vI x2), some (vI x3), some (vI x4), none, none] [vI xs0, vR (some 152)] (MM t S) (f12_learn_j65 N x1 x2 x3 x4 xs0 S) := by
  intro xs0 S
  unfold f12_learn_j65
  refine K_iald (sq 152 rfl) dX12_learn_65 ?_
  refine J_iconst (v := nI 4) dX12_learn_66 (by decide) ?_
  refine J_icmp_ne (tgt := 72) dX12_learn_67 (by decide) (fun z1 => ?_) (fun z1 => ?_)
  · refine J_iconst (v := (-1)) dX12_learn_70 (by decide) ?_
    exact J_ireturn rfl (Nat.le_refl _) (Nat.le_refl _) rfl dX12_learn_71
  · refine J_iload_n dX12_learn_72 rfl rfl ?_
    refine J_istore [some (vR (some 146)), some (vI x1), some (vI x2), some (vI x3), some (vI x4), some (vI x2), none] dX12_learn_73 (Nat.le_of_ble_eq_true rfl) rfl rfl ?_
    exact J_sb (t12_learn_h75 G t N x1 x2 x3 x4 N x2 S) (And.intro rfl (And.intro rfl (And.intro rfl (And.intro rfl (And.intro rfl (And.intro rfl (trivial)))))))
set_option maxRecDepth 100000 in
set_option maxHeartbeats 4000000 in
theorem ct12_learn (G : Gm) (t : Nat) (N : Nat) (x1 : Int32) (x2 : Int32) (x3 : Int32) (x4 : Int32)  (S : St) : Ct G YX12_learn yX12_learn 4 0 0 (fI t) (f12_learn N x1 x2 x3 x4 S) [vR (some 146), vI x1, vI x2, vI x3, vI x4] (MM t S) := by
  refine Ct_of_J [some (vR (some 146)), some (vI x1), some (vI x2), some (vI x3), some (vI x4), none, none] (by decide) rfl (fun h => by cases h) (Nat.le_of_ble_eq_true rfl) (And.intro rfl (And.intro rfl (And.intro rfl (And.intro rfl (And.intro rfl (trivial)))))) ?_
  unfold f12_learn
  refine J_aload_n dX12_learn_0 rfl rfl ?_
  refine J_iload_n dX12_learn_1 rfl rfl ?_
  refine K_callV_i (As := [vI x1]) mcX12_isLanguage mlX12_117 rfl (by decide) (sq 146 rfl) (ct12_isLanguage G t x1 S) rfl rfl (Nat.le_of_ble_eq_true rfl) (by decide) (Nat.le_of_ble_eq_true rfl) dX12_learn_2 (fun q1 S2 => ?_)
  refine J_if_eq (tgt := 70) dX12_learn_5 (by decide) (fun z3 => ?_) (fun z3 => ?_)
  · refine J_iconst (v := (-1)) dX12_learn_70 (by decide) ?_
    exact J_ireturn rfl (Nat.le_refl _) (Nat.le_refl _) rfl dX12_learn_71
  · refine J_iload dX12_learn_8 rfl ?_
    refine J_i2l dX12_learn_10 ?_
    refine J_lconst (v := lN 1) dX12_learn_11 (by decide) ?_
    refine J_ldc2_w (v := lN 6) wX12_107 dX12_learn_12 ?_
    refine K_callS_i (As := [vL x4.toInt64, vL (lN 1), vL (lN 6)]) mcX12_within mlX12_109 (ct12_within G t x4.toInt64 (lN 1) (lN 6) S2) rfl rfl (Nat.le_of_ble_eq_true rfl) (by decide) (Nat.le_of_ble_eq_true rfl) dX12_learn_15 (fun q4 S5 => ?_)
    refine J_if_eq (tgt := 70) dX12_learn_18 (by decide) (fun z6 => ?_) (fun z6 => ?_)
    · refine J_iconst (v := (-1)) dX12_learn_70 (by decide) ?_
      exact J_ireturn rfl (Nat.le_refl _) (Nat.le_refl _) rfl dX12_learn_71
    · refine J_iload_n dX12_learn_21 rfl rfl ?_
      refine J_if_lt (tgt := 70) dX12_learn_22 (by decide) (fun z7 => ?_) (fun z7 => ?_)
      · refine J_iconst (v := (-1)) dX12_learn_70 (by decide) ?_
        exact J_ireturn rfl (Nat.le_refl _) (Nat.le_refl _) rfl dX12_learn_71
      · refine J_iload_n dX12_learn_25 rfl rfl ?_
        refine J_aload_n dX12_learn_26 rfl rfl ?_
        refine K_getI cf12 flX12_128 (sq 146 rfl) (Or.inl rfl) dX12_learn_27 ?_
        refine J_icmp_ge (tgt := 70) dX12_learn_30 (by decide) (fun z8 => ?_) (fun z8 => ?_)
        · refine J_iconst (v := (-1)) dX12_learn_70 (by decide) ?_
          exact J_ireturn rfl (Nat.le_refl _) (Nat.le_refl _) rfl dX12_learn_71
        · refine J_iload_n dX12_learn_33 rfl rfl ?_
          refine J_i2l dX12_learn_34 ?_
          refine J_iload_n dX12_learn_35 rfl rfl ?_
          refine J_i2l dX12_learn_36 ?_
          refine J_lsub dX12_learn_37 ?_
          refine J_lconst (v := lN 1) dX12_learn_38 (by decide) ?_
          refine J_ldc2_w (v := lN 3) wX12_324 dX12_learn_39 ?_
          refine K_callS_i (As := [vL (x3.toInt64 - x2.toInt64), vL (lN 1), vL (lN 3)]) mcX12_within mlX12_109 (ct12_within G t (x3.toInt64 - x2.toInt64) (lN 1) (lN 3) S5) rfl rfl (Nat.le_of_ble_eq_true rfl) (by decide) (Nat.le_of_ble_eq_true rfl) dX12_learn_42 (fun q9 S10 => ?_)
          refine J_if_eq (tgt := 70) dX12_learn_45 (by decide) (fun z11 => ?_) (fun z11 => ?_)
          · refine J_iconst (v := (-1)) dX12_learn_70 (by decide) ?_
            exact J_ireturn rfl (Nat.le_refl _) (Nat.le_refl _) rfl dX12_learn_71
          · refine J_aload_n dX12_learn_48 rfl rfl ?_
            refine K_getR (r := some (152)) cf12 flX12_25 (sq 146 rfl) rfl (Or.inr ⟨_, rfl⟩) dX12_learn_49 ?_
            refine J_aload_n dX12_learn_52 rfl rfl ?_
            refine J_iload_n dX12_learn_53 rfl rfl ?_
            refine K_callV_i (As := [vI x1]) mcX12_isLanguage mlX12_117 rfl (by decide) (sq 146 rfl) (ct12_isLanguage G t x1 S10) rfl rfl (Nat.le_of_ble_eq_true rfl) (by decide) (Nat.le_of_ble_eq_true rfl) dX12_learn_54 (fun q12 S13 => ?_)
            refine J_if_eq (tgt := 64) dX12_learn_57 (by decide) (fun z14 => ?_) (fun z14 => ?_)
            · refine J_iconst (v := nI 0) dX12_learn_64 (by decide) ?_
              exact J_sb (t12_learn_j65 G t N x1 x2 x3 x4 (nI 0) S13) (And.intro rfl (And.intro rfl (And.intro rfl (And.intro rfl (And.intro rfl (trivial))))))
            · refine J_iload_n dX12_learn_60 rfl rfl ?_
              refine J_goto (tgt := 65) dX12_learn_61 (by decide) ?_
              exact J_sb (t12_learn_j65 G t N x1 x2 x3 x4 x1 S13) (And.intro rfl (And.intro rfl (And.intro rfl (And.intro rfl (And.intro rfl (trivial))))))
theorem dX12_cheaper_0 : decode cX12_cheaper 0 = .ok (.aload_n 0, 1) := by decide +kernel
theorem dX12_cheaper_1 : decode cX12_cheaper 1 = .ok (.iload_n 1, 1) := by decide +kernel
theorem dX12_cheaper_2 : decode cX12_cheaper 2 = .ok (.invokevirtual 117, 3) := by decide +kernel
theorem dX12_cheaper_5 : decode cX12_cheaper 5 = .ok (.ifCond .eq 43, 3) := by decide +kernel
theorem dX12_cheaper_8 : decode cX12_cheaper 8 = .ok (.aload_n 0, 1) := by decide +kernel
theorem dX12_cheaper_9 : decode cX12_cheaper 9 = .ok (.iload_n 2, 1) := by decide +kernel
theorem dX12_cheaper_10 : decode cX12_cheaper 10 = .ok (.invokevirtual 117, 3) := by decide +kernel
theorem dX12_cheaper_13 : decode cX12_cheaper 13 = .ok (.ifCond .eq 35, 3) := by decide +kernel
theorem dX12_cheaper_16 : decode cX12_cheaper 16 = .ok (.aload_n 0, 1) := by decide +kernel
theorem dX12_cheaper_17 : decode cX12_cheaper 17 = .ok (.iload_n 3, 1) := by decide +kernel
theorem dX12_cheaper_18 : decode cX12_cheaper 18 = .ok (.invokevirtual 268, 3) := by decide +kernel
theorem dX12_cheaper_21 : decode cX12_cheaper 21 = .ok (.ifCond .eq 27, 3) := by decide +kernel
theorem dX12_cheaper_24 : decode cX12_cheaper 24 = .ok (.iload 4, 2) := by decide +kernel
theorem dX12_cheaper_26 : decode cX12_cheaper 26 = .ok (.i2l, 1) := by decide +kernel
theorem dX12_cheaper_27 : decode cX12_cheaper 27 = .ok (.lconst 1, 1) := by decide +kernel
theorem dX12_cheaper_28 : decode cX12_cheaper 28 = .ok (.ldc2_w 296, 3) := by decide +kernel
theorem dX12_cheaper_31 : decode cX12_cheaper 31 = .ok (.invokestatic 109, 3) := by decide +kernel
theorem dX12_cheaper_34 : decode cX12_cheaper 34 = .ok (.ifCond .eq 14, 3) := by decide +kernel
theorem dX12_cheaper_37 : decode cX12_cheaper 37 = .ok (.aload_n 0, 1) := by decide +kernel
theorem dX12_cheaper_38 : decode cX12_cheaper 38 = .ok (.iload_n 1, 1) := by decide +kernel
theorem dX12_cheaper_39 : decode cX12_cheaper 39 = .ok (.iload_n 3, 1) := by decide +kernel
theorem dX12_cheaper_40 : decode cX12_cheaper 40 = .ok (.iload 4, 2) := by decide +kernel
theorem dX12_cheaper_42 : decode cX12_cheaper 42 = .ok (.invokevirtual 298, 3) := by decide +kernel
theorem dX12_cheaper_45 : decode cX12_cheaper 45 = .ok (.ifCond .ne 7, 3) := by decide +kernel
theorem dX12_cheaper_48 : decode cX12_cheaper 48 = .ok (.ldc_w 340, 3) := by decide +kernel
theorem dX12_cheaper_51 : decode cX12_cheaper 51 = .ok (.ireturn, 1) := by decide +kernel
theorem dX12_cheaper_52 : decode cX12_cheaper 52 = .ok (.aload_n 0, 1) := by decide +kernel
theorem dX12_cheaper_53 : decode cX12_cheaper 53 = .ok (.getfield 274, 3) := by decide +kernel
theorem dX12_cheaper_56 : decode cX12_cheaper 56 = .ok (.istore 5, 2) := by decide +kernel
theorem dX12_cheaper_58 : decode cX12_cheaper 58 = .ok (.aload_n 0, 1) := by decide +kernel
theorem dX12_cheaper_59 : decode cX12_cheaper 59 = .ok (.iload_n 2, 1) := by decide +kernel
theorem dX12_cheaper_60 : decode cX12_cheaper 60 = .ok (.iload_n 3, 1) := by decide +kernel
theorem dX12_cheaper_61 : decode cX12_cheaper 61 = .ok (.iload 4, 2) := by decide +kernel
theorem dX12_cheaper_63 : decode cX12_cheaper 63 = .ok (.invokevirtual 298, 3) := by decide +kernel
theorem dX12_cheaper_66 : decode cX12_cheaper 66 = .ok (.ifCond .eq 13, 3) := by decide +kernel
theorem dX12_cheaper_69 : decode cX12_cheaper 69 = .ok (.iload 5, 2) := by decide +kernel
theorem dX12_cheaper_71 : decode cX12_cheaper 71 = .ok (.aload_n 0, 1) := by decide +kernel
theorem dX12_cheaper_72 : decode cX12_cheaper 72 = .ok (.getfield 274, 3) := by decide +kernel
theorem dX12_cheaper_75 : decode cX12_cheaper 75 = .ok (.isub, 1) := by decide +kernel
theorem dX12_cheaper_76 : decode cX12_cheaper 76 = .ok (.goto 6, 3) := by decide +kernel
theorem dX12_cheaper_79 : decode cX12_cheaper 79 = .ok (.ldc_w 340, 3) := by decide +kernel
theorem dX12_cheaper_82 : decode cX12_cheaper 82 = .ok (.ireturn, 1) := by decide +kernel
set_option maxRecDepth 100000 in
set_option maxHeartbeats 4000000 in
theorem ct12_cheaper (G : Gm) (t : Nat) (N : Nat) (x1 : Int32) (x2 : Int32) (x3 : Int32) (x4 : Int32)  (S : St) : Ct G YX12_cheaper yX12_cheaper 35 0 0 (fI t) (f12_cheaper N x1 x2 x3 x4 S) [vR (some 146), vI x1, vI x2, vI x3, vI x4] (MM t S) := by
  refine Ct_of_J [some (vR (some 146)), some (vI x1), some (vI x2), some (vI x3), some (vI x4), none] (by decide) rfl (fun h => by cases h) (Nat.le_of_ble_eq_true rfl) (And.intro rfl (And.intro rfl (And.intro rfl (And.intro rfl (And.intro rfl (trivial)))))) ?_
  unfold f12_cheaper
  refine J_aload_n dX12_cheaper_0 rfl rfl ?_
  refine J_iload_n dX12_cheaper_1 rfl rfl ?_
  refine K_callV_i (As := [vI x1]) mcX12_isLanguage mlX12_117 rfl (by decide) (sq 146 rfl) (ct12_isLanguage G t x1 S) rfl rfl (Nat.le_of_ble_eq_true rfl) (by decide) (Nat.le_of_ble_eq_true rfl) dX12_cheaper_2 (fun q1 S2 => ?_)
  refine J_if_eq (tgt := 48) dX12_cheaper_5 (by decide) (fun z3 => ?_) (fun z3 => ?_)
  · refine J_ldc_w (v := (-2000000000)) wX12_340 dX12_cheaper_48 ?_
    exact J_ireturn rfl (Nat.le_refl _) (Nat.le_refl _) rfl dX12_cheaper_51
  · refine J_aload_n dX12_cheaper_8 rfl rfl ?_
    refine J_iload_n dX12_cheaper_9 rfl rfl ?_
    refine K_callV_i (As := [vI x2]) mcX12_isLanguage mlX12_117 rfl (by decide) (sq 146 rfl) (ct12_isLanguage G t x2 S2) rfl rfl (Nat.le_of_ble_eq_true rfl) (by decide) (Nat.le_of_ble_eq_true rfl) dX12_cheaper_10 (fun q4 S5 => ?_)
    refine J_if_eq (tgt := 48) dX12_cheaper_13 (by decide) (fun z6 => ?_) (fun z6 => ?_)
    · refine J_ldc_w (v := (-2000000000)) wX12_340 dX12_cheaper_48 ?_
      exact J_ireturn rfl (Nat.le_refl _) (Nat.le_refl _) rfl dX12_cheaper_51
    · refine J_aload_n dX12_cheaper_16 rfl rfl ?_
      refine J_iload_n dX12_cheaper_17 rfl rfl ?_
      refine K_callV_i (As := [vI x3]) mcX12_isTask mlX12_268 rfl (by decide) (sq 146 rfl) (ct12_isTask G t x3 S5) rfl rfl (Nat.le_of_ble_eq_true rfl) (by decide) (Nat.le_of_ble_eq_true rfl) dX12_cheaper_18 (fun q7 S8 => ?_)
      refine J_if_eq (tgt := 48) dX12_cheaper_21 (by decide) (fun z9 => ?_) (fun z9 => ?_)
      · refine J_ldc_w (v := (-2000000000)) wX12_340 dX12_cheaper_48 ?_
        exact J_ireturn rfl (Nat.le_refl _) (Nat.le_refl _) rfl dX12_cheaper_51
      · refine J_iload dX12_cheaper_24 rfl ?_
        refine J_i2l dX12_cheaper_26 ?_
        refine J_lconst (v := lN 1) dX12_cheaper_27 (by decide) ?_
        refine J_ldc2_w (v := lN 14) wX12_296 dX12_cheaper_28 ?_
        refine K_callS_i (As := [vL x4.toInt64, vL (lN 1), vL (lN 14)]) mcX12_within mlX12_109 (ct12_within G t x4.toInt64 (lN 1) (lN 14) S8) rfl rfl (Nat.le_of_ble_eq_true rfl) (by decide) (Nat.le_of_ble_eq_true rfl) dX12_cheaper_31 (fun q10 S11 => ?_)
        refine J_if_eq (tgt := 48) dX12_cheaper_34 (by decide) (fun z12 => ?_) (fun z12 => ?_)
        · refine J_ldc_w (v := (-2000000000)) wX12_340 dX12_cheaper_48 ?_
          exact J_ireturn rfl (Nat.le_refl _) (Nat.le_refl _) rfl dX12_cheaper_51
        · refine J_aload_n dX12_cheaper_37 rfl rfl ?_
          refine J_iload_n dX12_cheaper_38 rfl rfl ?_
          refine J_iload_n dX12_cheaper_39 rfl rfl ?_
          refine J_iload dX12_cheaper_40 rfl ?_
          refine K_callV_i (As := [vI x1, vI x3, vI x4]) mcX12_find mlX12_298 rfl (by decide) (sq 146 rfl) (ct12_find G t N x1 x3 x4 S11) rfl rfl (Nat.le_of_ble_eq_true rfl) (by decide) (Nat.le_of_ble_eq_true rfl) dX12_cheaper_42 (fun q13 S14 => ?_)
          refine J_if_ne (tgt := 52) dX12_cheaper_45 (by decide) (fun z15 => ?_) (fun z15 => ?_)
          · refine J_ldc_w (v := (-2000000000)) wX12_340 dX12_cheaper_48 ?_
            exact J_ireturn rfl (Nat.le_refl _) (Nat.le_refl _) rfl dX12_cheaper_51
          · refine J_aload_n dX12_cheaper_52 rfl rfl ?_
            refine K_getI cf12 flX12_274 (sq 146 rfl) (Or.inl rfl) dX12_cheaper_53 ?_
            refine J_ltI (fun v16 _ => ?_)
            refine J_istore [some (vR (some 146)), some (vI x1), some (vI x2), some (vI x3), some (vI x4), some (vI v16)] dX12_cheaper_56 (Nat.le_of_ble_eq_true rfl) rfl rfl ?_
            refine J_aload_n dX12_cheaper_58 rfl rfl ?_
            refine J_iload_n dX12_cheaper_59 rfl rfl ?_
            refine J_iload_n dX12_cheaper_60 rfl rfl ?_
            refine J_iload dX12_cheaper_61 rfl ?_
            refine K_callV_i (As := [vI x2, vI x3, vI x4]) mcX12_find mlX12_298 rfl (by decide) (sq 146 rfl) (ct12_find G t N x2 x3 x4 S14) rfl rfl (Nat.le_of_ble_eq_true rfl) (by decide) (Nat.le_of_ble_eq_true rfl) dX12_cheaper_63 (fun q17 S18 => ?_)
            refine J_if_eq (tgt := 79) dX12_cheaper_66 (by decide) (fun z19 => ?_) (fun z19 => ?_)
            · refine J_ldc_w (v := (-2000000000)) wX12_340 dX12_cheaper_79 ?_
              exact J_ireturn rfl (Nat.le_refl _) (Nat.le_refl _) rfl dX12_cheaper_82
            · refine J_iload dX12_cheaper_69 rfl ?_
              refine J_aload_n dX12_cheaper_71 rfl rfl ?_
              refine K_getI cf12 flX12_274 (sq 146 rfl) (Or.inl rfl) dX12_cheaper_72 ?_
              refine J_isub dX12_cheaper_75 ?_
              refine J_goto (tgt := 82) dX12_cheaper_76 (by decide) ?_
              exact J_ireturn rfl (Nat.le_refl _) (Nat.le_refl _) rfl dX12_cheaper_82
theorem dX12_price_0 : decode cX12_price 0 = .ok (.aload_n 0, 1) := by decide +kernel
theorem dX12_price_1 : decode cX12_price 1 = .ok (.iload_n 1, 1) := by decide +kernel
theorem dX12_price_2 : decode cX12_price 2 = .ok (.invokevirtual 117, 3) := by decide +kernel
theorem dX12_price_5 : decode cX12_price 5 = .ok (.ifCond .eq 11, 3) := by decide +kernel
theorem dX12_price_8 : decode cX12_price 8 = .ok (.aload_n 0, 1) := by decide +kernel
theorem dX12_price_9 : decode cX12_price 9 = .ok (.iload_n 2, 1) := by decide +kernel
theorem dX12_price_10 : decode cX12_price 10 = .ok (.invokevirtual 117, 3) := by decide +kernel
theorem dX12_price_13 : decode cX12_price 13 = .ok (.ifCond .ne 7, 3) := by decide +kernel
theorem dX12_price_16 : decode cX12_price 16 = .ok (.ldc_w 340, 3) := by decide +kernel
theorem dX12_price_19 : decode cX12_price 19 = .ok (.ireturn, 1) := by decide +kernel
theorem dX12_price_20 : decode cX12_price 20 = .ok (.bipush (-6), 2) := by decide +kernel
theorem dX12_price_22 : decode cX12_price 22 = .ok (.istore_n 3, 1) := by decide +kernel
theorem dX12_price_23 : decode cX12_price 23 = .ok (.iconst 0, 1) := by decide +kernel
theorem dX12_price_24 : decode cX12_price 24 = .ok (.istore 4, 2) := by decide +kernel
theorem dX12_price_26 : decode cX12_price 26 = .ok (.iload 4, 2) := by decide +kernel
theorem dX12_price_28 : decode cX12_price 28 = .ok (.bipush 8, 2) := by decide +kernel
theorem dX12_price_30 : decode cX12_price 30 = .ok (.if_icmp .ge 49, 3) := by decide +kernel
theorem dX12_price_33 : decode cX12_price 33 = .ok (.aload_n 0, 1) := by decide +kernel
theorem dX12_price_34 : decode cX12_price 34 = .ok (.getfield 9, 3) := by decide +kernel
theorem dX12_price_37 : decode cX12_price 37 = .ok (.bipush 12, 2) := by decide +kernel
theorem dX12_price_39 : decode cX12_price 39 = .ok (.iload_n 2, 1) := by decide +kernel
theorem dX12_price_40 : decode cX12_price 40 = .ok (.imul, 1) := by decide +kernel
theorem dX12_price_41 : decode cX12_price 41 = .ok (.iload 4, 2) := by decide +kernel
theorem dX12_price_43 : decode cX12_price 43 = .ok (.iadd, 1) := by decide +kernel
theorem dX12_price_44 : decode cX12_price 44 = .ok (.iaload, 1) := by decide +kernel
theorem dX12_price_45 : decode cX12_price 45 = .ok (.aload_n 0, 1) := by decide +kernel
theorem dX12_price_46 : decode cX12_price 46 = .ok (.getfield 9, 3) := by decide +kernel
theorem dX12_price_49 : decode cX12_price 49 = .ok (.bipush 12, 2) := by decide +kernel
theorem dX12_price_51 : decode cX12_price 51 = .ok (.iload_n 1, 1) := by decide +kernel
theorem dX12_price_52 : decode cX12_price 52 = .ok (.imul, 1) := by decide +kernel
theorem dX12_price_53 : decode cX12_price 53 = .ok (.iload 4, 2) := by decide +kernel
theorem dX12_price_55 : decode cX12_price 55 = .ok (.iadd, 1) := by decide +kernel
theorem dX12_price_56 : decode cX12_price 56 = .ok (.iaload, 1) := by decide +kernel
theorem dX12_price_57 : decode cX12_price 57 = .ok (.isub, 1) := by decide +kernel
theorem dX12_price_58 : decode cX12_price 58 = .ok (.istore 5, 2) := by decide +kernel
theorem dX12_price_60 : decode cX12_price 60 = .ok (.iload 5, 2) := by decide +kernel
theorem dX12_price_62 : decode cX12_price 62 = .ok (.iload_n 3, 1) := by decide +kernel
theorem dX12_price_63 : decode cX12_price 63 = .ok (.if_icmp .le 8, 3) := by decide +kernel
theorem dX12_price_66 : decode cX12_price 66 = .ok (.iload 5, 2) := by decide +kernel
theorem dX12_price_68 : decode cX12_price 68 = .ok (.goto 4, 3) := by decide +kernel
theorem dX12_price_71 : decode cX12_price 71 = .ok (.iload_n 3, 1) := by decide +kernel
theorem dX12_price_72 : decode cX12_price 72 = .ok (.istore_n 3, 1) := by decide +kernel
theorem dX12_price_73 : decode cX12_price 73 = .ok (.iinc 4 1, 3) := by decide +kernel
theorem dX12_price_76 : decode cX12_price 76 = .ok (.goto (-50), 3) := by decide +kernel
theorem dX12_price_79 : decode cX12_price 79 = .ok (.iload_n 3, 1) := by decide +kernel
theorem dX12_price_80 : decode cX12_price 80 = .ok (.ireturn, 1) := by decide +kernel
set_option maxRecDepth 100000 in
set_option maxHeartbeats 4000000 in
theorem t12_price_j72 (G : Gm) (t : Nat) (N : Nat) (x1 : Int32) (x2 : Int32) (x4 : Int32)  (k26 : Int32 → Int32 → St → Option (Int32 × St)) (hk26 : ∀ (yx3 : Int32) (yx4 : Int32) (S : St), J G YX12_price 2 0 0 (fI t) 0 0 26 [some (vR (some 146)), some (vI x1), some (vI x2), some (vI yx3), some (vI yx4), none] [] (MM t S) (k26 yx3 yx4 S)) : ∀ (xs0 : Int32) (S : St), J G YX12_price 2 0 0 (fI t) 0 0 72 [some (vR (some 146)), some (vI x1), some (vI x2), none, some (vI x4), none] [vI xs0] (MM t S) (f12_price_j72 N x1 x2 x4 k26 xs0 S) := by
  intro xs0 S
  unfold f12_price_j72
  refine J_istore_n [some (vR (some 146)), some (vI x1), some (vI x2), some (vI xs0), some (vI x4), none] dX12_price_72 rfl (Nat.le_of_ble_eq_true rfl) rfl rfl ?_
  refine J_iinc (v := x4 + nI 1) [some (vR (some 146)), some (vI x1), some (vI x2), some (vI xs0), some (vI (x4 + nI 1)), none] dX12_price_73 rfl rfl (Nat.le_of_ble_eq_true rfl) rfl rfl ?_
  refine J_goto (tgt := 26) dX12_price_76 (by decide) ?_
  exact J_sb (hk26 xs0 (x4 + nI 1) S) (And.intro rfl (And.intro rfl (And.intro rfl (And.intro rfl (And.intro rfl (trivial))))))
set_option maxRecDepth 100000 in
set_option maxHeartbeats 4000000 in
theorem t12_price_h26 (G : Gm) (t : Nat) (N : Nat) (x1 : Int32) (x2 : Int32)    : ∀ (n : Nat) (x3 : Int32) (x4 : Int32) (S : St), J G YX12_price 2 0 0 (fI t) 0 0 26 [some (vR (some 146)), some (vI x1), some (vI x2), some (vI x3), some (vI x4), none] [] (MM t S) (f12_price_h26 N x1 x2 n x3 x4 S) := by
  intro n
  induction n with
  | zero => intro x3 x4 S; exact J_none
  | succ n ih =>
    intro x3 x4 S
    rw [f12_price_h26]
    refine J_iload dX12_price_26 rfl ?_
    refine J_bipush (v := nI 8) dX12_price_28 (by decide) ?_
    refine J_icmp_ge (tgt := 79) dX12_price_30 (by decide) (fun z1 => ?_) (fun z1 => ?_)
    · refine J_iload_n dX12_price_79 rfl rfl ?_
      exact J_ireturn rfl (Nat.le_refl _) (Nat.le_refl _) rfl dX12_price_80
    · refine J_aload_n dX12_price_33 rfl rfl ?_
      refine K_getR (r := some (147)) cf12 flX12_9 (sq 146 rfl) rfl (Or.inr ⟨_, rfl⟩) dX12_price_34 ?_
      refine J_bipush (v := nI 12) dX12_price_37 (by decide) ?_
      refine J_iload_n dX12_price_39 rfl rfl ?_
      refine J_imul dX12_price_40 ?_
      refine J_iload dX12_price_41 rfl ?_
      refine J_iadd dX12_price_43 ?_
      refine K_iald (sq 147 rfl) dX12_price_44 ?_
      refine J_aload_n dX12_price_45 rfl rfl ?_
      refine K_getR (r := some (147)) cf12 flX12_9 (sq 146 rfl) rfl (Or.inr ⟨_, rfl⟩) dX12_price_46 ?_
      refine J_bipush (v := nI 12) dX12_price_49 (by decide) ?_
      refine J_iload_n dX12_price_51 rfl rfl ?_
      refine J_imul dX12_price_52 ?_
      refine J_iload dX12_price_53 rfl ?_
      refine J_iadd dX12_price_55 ?_
      refine K_iald (sq 147 rfl) dX12_price_56 ?_
      refine J_isub dX12_price_57 ?_
      refine J_ltI (fun v2 _ => ?_)
      refine J_istore [some (vR (some 146)), some (vI x1), some (vI x2), some (vI x3), some (vI x4), some (vI v2)] dX12_price_58 (Nat.le_of_ble_eq_true rfl) rfl rfl ?_
      refine J_iload dX12_price_60 rfl ?_
      refine J_iload_n dX12_price_62 rfl rfl ?_
      refine J_icmp_le (tgt := 71) dX12_price_63 (by decide) (fun z3 => ?_) (fun z3 => ?_)
      · refine J_iload_n dX12_price_71 rfl rfl ?_
        exact J_sb (t12_price_j72 G t N x1 x2 x4 (f12_price_h26 N x1 x2 n) ih x3 S) (And.intro rfl (And.intro rfl (And.intro rfl (And.intro rfl (trivial)))))
      · refine J_iload dX12_price_66 rfl ?_
        refine J_goto (tgt := 72) dX12_price_68 (by decide) ?_
        exact J_sb (t12_price_j72 G t N x1 x2 x4 (f12_price_h26 N x1 x2 n) ih v2 S) (And.intro rfl (And.intro rfl (And.intro rfl (And.intro rfl (trivial)))))
set_option maxRecDepth 100000 in
set_option maxHeartbeats 4000000 in
theorem ct12_price (G : Gm) (t : Nat) (N : Nat) (x1 : Int32) (x2 : Int32)  (S : St) : Ct G YX12_price yX12_price 2 0 0 (fI t) (f12_price N x1 x2 S) [vR (some 146), vI x1, vI x2] (MM t S) := by
  refine Ct_of_J [some (vR (some 146)), some (vI x1), some (vI x2), none, none, none] (by decide) rfl (fun h => by cases h) (Nat.le_of_ble_eq_true rfl) (And.intro rfl (And.intro rfl (And.intro rfl (trivial)))) ?_
  unfold f12_price
  refine J_aload_n dX12_price_0 rfl rfl ?_
  refine J_iload_n dX12_price_1 rfl rfl ?_
  refine K_callV_i (As := [vI x1]) mcX12_isLanguage mlX12_117 rfl (by decide) (sq 146 rfl) (ct12_isLanguage G t x1 S) rfl rfl (Nat.le_of_ble_eq_true rfl) (by decide) (Nat.le_of_ble_eq_true rfl) dX12_price_2 (fun q1 S2 => ?_)
  refine J_if_eq (tgt := 16) dX12_price_5 (by decide) (fun z3 => ?_) (fun z3 => ?_)
  · refine J_ldc_w (v := (-2000000000)) wX12_340 dX12_price_16 ?_
    exact J_ireturn rfl (Nat.le_refl _) (Nat.le_refl _) rfl dX12_price_19
  · refine J_aload_n dX12_price_8 rfl rfl ?_
    refine J_iload_n dX12_price_9 rfl rfl ?_
    refine K_callV_i (As := [vI x2]) mcX12_isLanguage mlX12_117 rfl (by decide) (sq 146 rfl) (ct12_isLanguage G t x2 S2) rfl rfl (Nat.le_of_ble_eq_true rfl) (by decide) (Nat.le_of_ble_eq_true rfl) dX12_price_10 (fun q4 S5 => ?_)
    refine J_if_ne (tgt := 20) dX12_price_13 (by decide) (fun z6 => ?_) (fun z6 => ?_)
    · refine J_ldc_w (v := (-2000000000)) wX12_340 dX12_price_16 ?_
      exact J_ireturn rfl (Nat.le_refl _) (Nat.le_refl _) rfl dX12_price_19
    · refine J_bipush (v := (-6)) dX12_price_20 (by decide) ?_
      refine J_istore_n [some (vR (some 146)), some (vI x1), some (vI x2), some (vI (-6)), none, none] dX12_price_22 rfl (Nat.le_of_ble_eq_true rfl) rfl rfl ?_
      refine J_iconst (v := nI 0) dX12_price_23 (by decide) ?_
      refine J_istore [some (vR (some 146)), some (vI x1), some (vI x2), some (vI (-6)), some (vI (nI 0)), none] dX12_price_24 (Nat.le_of_ble_eq_true rfl) rfl rfl ?_
      exact J_sb (t12_price_h26 G t N x1 x2 N (-6) (nI 0) S5) (And.intro rfl (And.intro rfl (And.intro rfl (And.intro rfl (And.intro rfl (trivial))))))
theorem dX12_translated_0 : decode cX12_translated 0 = .ok (.aload_n 0, 1) := by decide +kernel
theorem dX12_translated_1 : decode cX12_translated 1 = .ok (.iload_n 1, 1) := by decide +kernel
theorem dX12_translated_2 : decode cX12_translated 2 = .ok (.invokevirtual 117, 3) := by decide +kernel
theorem dX12_translated_5 : decode cX12_translated 5 = .ok (.ifCond .eq 11, 3) := by decide +kernel
theorem dX12_translated_8 : decode cX12_translated 8 = .ok (.aload_n 0, 1) := by decide +kernel
theorem dX12_translated_9 : decode cX12_translated 9 = .ok (.iload_n 2, 1) := by decide +kernel
theorem dX12_translated_10 : decode cX12_translated 10 = .ok (.invokevirtual 117, 3) := by decide +kernel
theorem dX12_translated_13 : decode cX12_translated 13 = .ok (.ifCond .ne 5, 3) := by decide +kernel
theorem dX12_translated_16 : decode cX12_translated 16 = .ok (.iconst (-1), 1) := by decide +kernel
theorem dX12_translated_17 : decode cX12_translated 17 = .ok (.ireturn, 1) := by decide +kernel
theorem dX12_translated_18 : decode cX12_translated 18 = .ok (.aload_n 0, 1) := by decide +kernel
theorem dX12_translated_19 : decode cX12_translated 19 = .ok (.iload_n 1, 1) := by decide +kernel
theorem dX12_translated_20 : decode cX12_translated 20 = .ok (.invokevirtual 133, 3) := by decide +kernel
theorem dX12_translated_23 : decode cX12_translated 23 = .ok (.ifCond .ne 6, 3) := by decide +kernel
theorem dX12_translated_26 : decode cX12_translated 26 = .ok (.bipush (-5), 2) := by decide +kernel
theorem dX12_translated_28 : decode cX12_translated 28 = .ok (.ireturn, 1) := by decide +kernel
theorem dX12_translated_29 : decode cX12_translated 29 = .ok (.aload_n 0, 1) := by decide +kernel
theorem dX12_translated_30 : decode cX12_translated 30 = .ok (.iload_n 1, 1) := by decide +kernel
theorem dX12_translated_31 : decode cX12_translated 31 = .ok (.aload_n 0, 1) := by decide +kernel
theorem dX12_translated_32 : decode cX12_translated 32 = .ok (.invokevirtual 179, 3) := by decide +kernel
theorem dX12_translated_35 : decode cX12_translated 35 = .ok (.invokevirtual 166, 3) := by decide +kernel
theorem dX12_translated_38 : decode cX12_translated 38 = .ok (.iconst 0, 1) := by decide +kernel
theorem dX12_translated_39 : decode cX12_translated 39 = .ok (.istore_n 3, 1) := by decide +kernel
theorem dX12_translated_40 : decode cX12_translated 40 = .ok (.iconst 0, 1) := by decide +kernel
theorem dX12_translated_41 : decode cX12_translated 41 = .ok (.istore 4, 2) := by decide +kernel
theorem dX12_translated_43 : decode cX12_translated 43 = .ok (.iload 4, 2) := by decide +kernel
theorem dX12_translated_45 : decode cX12_translated 45 = .ok (.aload_n 0, 1) := by decide +kernel
theorem dX12_translated_46 : decode cX12_translated 46 = .ok (.getfield 141, 3) := by decide +kernel
theorem dX12_translated_49 : decode cX12_translated 49 = .ok (.if_icmp .ge 29, 3) := by decide +kernel
theorem dX12_translated_52 : decode cX12_translated 52 = .ok (.iload_n 3, 1) := by decide +kernel
theorem dX12_translated_53 : decode cX12_translated 53 = .ok (.aload_n 0, 1) := by decide +kernel
theorem dX12_translated_54 : decode cX12_translated 54 = .ok (.getfield 9, 3) := by decide +kernel
theorem dX12_translated_57 : decode cX12_translated 57 = .ok (.bipush 12, 2) := by decide +kernel
theorem dX12_translated_59 : decode cX12_translated 59 = .ok (.iload_n 2, 1) := by decide +kernel
theorem dX12_translated_60 : decode cX12_translated 60 = .ok (.imul, 1) := by decide +kernel
theorem dX12_translated_61 : decode cX12_translated 61 = .ok (.aload_n 0, 1) := by decide +kernel
theorem dX12_translated_62 : decode cX12_translated 62 = .ok (.getfield 31, 3) := by decide +kernel
theorem dX12_translated_65 : decode cX12_translated 65 = .ok (.iload 4, 2) := by decide +kernel
theorem dX12_translated_67 : decode cX12_translated 67 = .ok (.iaload, 1) := by decide +kernel
theorem dX12_translated_68 : decode cX12_translated 68 = .ok (.iadd, 1) := by decide +kernel
theorem dX12_translated_69 : decode cX12_translated 69 = .ok (.iaload, 1) := by decide +kernel
theorem dX12_translated_70 : decode cX12_translated 70 = .ok (.iadd, 1) := by decide +kernel
theorem dX12_translated_71 : decode cX12_translated 71 = .ok (.istore_n 3, 1) := by decide +kernel
theorem dX12_translated_72 : decode cX12_translated 72 = .ok (.iinc 4 1, 3) := by decide +kernel
theorem dX12_translated_75 : decode cX12_translated 75 = .ok (.goto (-32), 3) := by decide +kernel
theorem dX12_translated_78 : decode cX12_translated 78 = .ok (.aload_n 0, 1) := by decide +kernel
theorem dX12_translated_79 : decode cX12_translated 79 = .ok (.getfield 141, 3) := by decide +kernel
theorem dX12_translated_82 : decode cX12_translated 82 = .ok (.bipush 12, 2) := by decide +kernel
theorem dX12_translated_84 : decode cX12_translated 84 = .ok (.if_icmp .le 8, 3) := by decide +kernel
theorem dX12_translated_87 : decode cX12_translated 87 = .ok (.bipush (-2), 2) := by decide +kernel
theorem dX12_translated_89 : decode cX12_translated 89 = .ok (.goto 4, 3) := by decide +kernel
theorem dX12_translated_92 : decode cX12_translated 92 = .ok (.iload_n 3, 1) := by decide +kernel
theorem dX12_translated_93 : decode cX12_translated 93 = .ok (.ireturn, 1) := by decide +kernel
set_option maxRecDepth 100000 in
set_option maxHeartbeats 4000000 in
theorem t12_translated_h43 (G : Gm) (t : Nat) (N : Nat) (x2 : Int32)    : ∀ (n : Nat) (x3 : Int32) (x4 : Int32) (S : St), J G YX12_translated 4 0 0 (fI t) 0 0 43 [some (vR (some 146)), none, some (vI x2), some (vI x3), some (vI x4)] [] (MM t S) (f12_translated_h43 N x2 n x3 x4 S) := by
  intro n
  induction n with
  | zero => intro x3 x4 S; exact J_none
  | succ n ih =>
    intro x3 x4 S
    rw [f12_translated_h43]
    refine J_iload dX12_translated_43 rfl ?_
    refine J_aload_n dX12_translated_45 rfl rfl ?_
    refine K_getI cf12 flX12_141 (sq 146 rfl) (Or.inl rfl) dX12_translated_46 ?_
    refine J_icmp_ge (tgt := 78) dX12_translated_49 (by decide) (fun z1 => ?_) (fun z1 => ?_)
    · refine J_aload_n dX12_translated_78 rfl rfl ?_
      refine K_getI cf12 flX12_141 (sq 146 rfl) (Or.inl rfl) dX12_translated_79 ?_
      refine J_bipush (v := nI 12) dX12_translated_82 (by decide) ?_
      refine J_icmp_le (tgt := 92) dX12_translated_84 (by decide) (fun z2 => ?_) (fun z2 => ?_)
      · refine J_iload_n dX12_translated_92 rfl rfl ?_
        exact J_ireturn rfl (Nat.le_refl _) (Nat.le_refl _) rfl dX12_translated_93
      · refine J_bipush (v := (-2)) dX12_translated_87 (by decide) ?_
        refine J_goto (tgt := 93) dX12_translated_89 (by decide) ?_
        exact J_ireturn rfl (Nat.le_refl _) (Nat.le_refl _) rfl dX12_translated_93
    · refine J_iload_n dX12_translated_52 rfl rfl ?_
      refine J_aload_n dX12_translated_53 rfl rfl ?_
      refine K_getR (r := some (147)) cf12 flX12_9 (sq 146 rfl) rfl (Or.inr ⟨_, rfl⟩) dX12_translated_54 ?_
      refine J_bipush (v := nI 12) dX12_translated_57 (by decide) ?_
      refine J_iload_n dX12_translated_59 rfl rfl ?_
      refine J_imul dX12_translated_60 ?_
      refine J_aload_n dX12_translated_61 rfl rfl ?_
      refine K_getR (r := some (154)) cf12 flX12_31 (sq 146 rfl) rfl (Or.inr ⟨_, rfl⟩) dX12_translated_62 ?_
      refine J_iload dX12_translated_65 rfl ?_
      refine K_iald (sq 154 rfl) dX12_translated_67 ?_
      refine J_iadd dX12_translated_68 ?_
      refine K_iald (sq 147 rfl) dX12_translated_69 ?_
      refine J_iadd dX12_translated_70 ?_
      refine J_ltI (fun v3 _ => ?_)
      refine J_istore_n [some (vR (some 146)), none, some (vI x2), some (vI v3), some (vI x4)] dX12_translated_71 rfl (Nat.le_of_ble_eq_true rfl) rfl rfl ?_
      refine J_iinc (v := x4 + nI 1) [some (vR (some 146)), none, some (vI x2), some (vI v3), some (vI (x4 + nI 1))] dX12_translated_72 rfl rfl (Nat.le_of_ble_eq_true rfl) rfl rfl ?_
      refine J_goto (tgt := 43) dX12_translated_75 (by decide) ?_
      exact J_sb (ih v3 (x4 + nI 1) S) (And.intro rfl (And.intro rfl (And.intro rfl (And.intro rfl (trivial)))))
set_option maxRecDepth 100000 in
set_option maxHeartbeats 4000000 in
theorem ct12_translated (G : Gm) (t : Nat) (N : Nat) (x1 : Int32) (x2 : Int32)  (S : St) : Ct G YX12_translated yX12_translated 4 0 0 (fI t) (f12_translated N x1 x2 S) [vR (some 146), vI x1, vI x2] (MM t S) := by
  refine Ct_of_J [some (vR (some 146)), some (vI x1), some (vI x2), none, none] (by decide) rfl (fun h => by cases h) (Nat.le_of_ble_eq_true rfl) (And.intro rfl (And.intro rfl (And.intro rfl (trivial)))) ?_
  unfold f12_translated
  refine J_aload_n dX12_translated_0 rfl rfl ?_
  refine J_iload_n dX12_translated_1 rfl rfl ?_
  refine K_callV_i (As := [vI x1]) mcX12_isLanguage mlX12_117 rfl (by decide) (sq 146 rfl) (ct12_isLanguage G t x1 S) rfl rfl (Nat.le_of_ble_eq_true rfl) (by decide) (Nat.le_of_ble_eq_true rfl) dX12_translated_2 (fun q1 S2 => ?_)
  refine J_if_eq (tgt := 16) dX12_translated_5 (by decide) (fun z3 => ?_) (fun z3 => ?_)
  · refine J_iconst (v := (-1)) dX12_translated_16 (by decide) ?_
    exact J_ireturn rfl (Nat.le_refl _) (Nat.le_refl _) rfl dX12_translated_17
  · refine J_aload_n dX12_translated_8 rfl rfl ?_
    refine J_iload_n dX12_translated_9 rfl rfl ?_
    refine K_callV_i (As := [vI x2]) mcX12_isLanguage mlX12_117 rfl (by decide) (sq 146 rfl) (ct12_isLanguage G t x2 S2) rfl rfl (Nat.le_of_ble_eq_true rfl) (by decide) (Nat.le_of_ble_eq_true rfl) dX12_translated_10 (fun q4 S5 => ?_)
    refine J_if_ne (tgt := 18) dX12_translated_13 (by decide) (fun z6 => ?_) (fun z6 => ?_)
    · refine J_iconst (v := (-1)) dX12_translated_16 (by decide) ?_
      exact J_ireturn rfl (Nat.le_refl _) (Nat.le_refl _) rfl dX12_translated_17
    · refine J_aload_n dX12_translated_18 rfl rfl ?_
      refine J_iload_n dX12_translated_19 rfl rfl ?_
      refine K_callV_i (As := [vI x1]) mcX12_isProgram mlX12_133 rfl (by decide) (sq 146 rfl) (ct12_isProgram G t N x1 S5) rfl rfl (Nat.le_of_ble_eq_true rfl) (by decide) (Nat.le_of_ble_eq_true rfl) dX12_translated_20 (fun q7 S8 => ?_)
      refine J_if_ne (tgt := 29) dX12_translated_23 (by decide) (fun z9 => ?_) (fun z9 => ?_)
      · refine J_bipush (v := (-5)) dX12_translated_26 (by decide) ?_
        exact J_ireturn rfl (Nat.le_refl _) (Nat.le_refl _) rfl dX12_translated_28
      · refine J_aload_n dX12_translated_29 rfl rfl ?_
        refine J_iload_n dX12_translated_30 rfl rfl ?_
        refine J_aload_n dX12_translated_31 rfl rfl ?_
        refine K_callV_l (As := []) mcX12_packed mlX12_179 rfl (by decide) (sq 146 rfl) (ct12_packed G t N S8) rfl rfl (Nat.le_of_ble_eq_true rfl) (by decide) (Nat.le_of_ble_eq_true rfl) dX12_translated_32 (fun q10 S11 => ?_)
        refine K_callV_v (As := [vI x1, vL q10]) mcX12_write mlX12_166 rfl (by decide) (sq 146 rfl) (ct12_write G t N x1 q10 S11) rfl rfl (Nat.le_of_ble_eq_true rfl) (by decide) (Nat.le_of_ble_eq_true rfl) dX12_translated_35 (fun q12 S13 => ?_)
        refine J_iconst (v := nI 0) dX12_translated_38 (by decide) ?_
        refine J_istore_n [some (vR (some 146)), some (vI x1), some (vI x2), some (vI (nI 0)), none] dX12_translated_39 rfl (Nat.le_of_ble_eq_true rfl) rfl rfl ?_
        refine J_iconst (v := nI 0) dX12_translated_40 (by decide) ?_
        refine J_istore [some (vR (some 146)), some (vI x1), some (vI x2), some (vI (nI 0)), some (vI (nI 0))] dX12_translated_41 (Nat.le_of_ble_eq_true rfl) rfl rfl ?_
        exact J_sb (t12_translated_h43 G t N x2 N (nI 0) (nI 0) S13) (And.intro rfl (And.intro rfl (And.intro rfl (And.intro rfl (trivial)))))
theorem dX12_kindOf_0 : decode cX12_kindOf 0 = .ok (.iload_n 0, 1) := by decide +kernel
theorem dX12_kindOf_1 : decode cX12_kindOf 1 = .ok (.ifCond .ne 7, 3) := by decide +kernel
theorem dX12_kindOf_4 : decode cX12_kindOf 4 = .ok (.iconst 1, 1) := by decide +kernel
theorem dX12_kindOf_5 : decode cX12_kindOf 5 = .ok (.goto 43, 3) := by decide +kernel
theorem dX12_kindOf_8 : decode cX12_kindOf 8 = .ok (.iload_n 0, 1) := by decide +kernel
theorem dX12_kindOf_9 : decode cX12_kindOf 9 = .ok (.iconst 3, 1) := by decide +kernel
theorem dX12_kindOf_10 : decode cX12_kindOf 10 = .ok (.if_icmp .ne 7, 3) := by decide +kernel
theorem dX12_kindOf_13 : decode cX12_kindOf 13 = .ok (.iconst 3, 1) := by decide +kernel
theorem dX12_kindOf_14 : decode cX12_kindOf 14 = .ok (.goto 34, 3) := by decide +kernel
theorem dX12_kindOf_17 : decode cX12_kindOf 17 = .ok (.iload_n 0, 1) := by decide +kernel
theorem dX12_kindOf_18 : decode cX12_kindOf 18 = .ok (.iconst 4, 1) := by decide +kernel
theorem dX12_kindOf_19 : decode cX12_kindOf 19 = .ok (.if_icmp .ne 7, 3) := by decide +kernel
theorem dX12_kindOf_22 : decode cX12_kindOf 22 = .ok (.iconst 4, 1) := by decide +kernel
theorem dX12_kindOf_23 : decode cX12_kindOf 23 = .ok (.goto 25, 3) := by decide +kernel
theorem dX12_kindOf_26 : decode cX12_kindOf 26 = .ok (.iload_n 0, 1) := by decide +kernel
theorem dX12_kindOf_27 : decode cX12_kindOf 27 = .ok (.bipush 6, 2) := by decide +kernel
theorem dX12_kindOf_29 : decode cX12_kindOf 29 = .ok (.if_icmp .ge 7, 3) := by decide +kernel
theorem dX12_kindOf_32 : decode cX12_kindOf 32 = .ok (.iconst 2, 1) := by decide +kernel
theorem dX12_kindOf_33 : decode cX12_kindOf 33 = .ok (.goto 15, 3) := by decide +kernel
theorem dX12_kindOf_36 : decode cX12_kindOf 36 = .ok (.iload_n 0, 1) := by decide +kernel
theorem dX12_kindOf_37 : decode cX12_kindOf 37 = .ok (.bipush 8, 2) := by decide +kernel
theorem dX12_kindOf_39 : decode cX12_kindOf 39 = .ok (.if_icmp .ge 7, 3) := by decide +kernel
theorem dX12_kindOf_42 : decode cX12_kindOf 42 = .ok (.iconst 5, 1) := by decide +kernel
theorem dX12_kindOf_43 : decode cX12_kindOf 43 = .ok (.goto 5, 3) := by decide +kernel
theorem dX12_kindOf_46 : decode cX12_kindOf 46 = .ok (.bipush 6, 2) := by decide +kernel
theorem dX12_kindOf_48 : decode cX12_kindOf 48 = .ok (.ireturn, 1) := by decide +kernel
set_option maxRecDepth 100000 in
set_option maxHeartbeats 4000000 in
theorem ct12_kindOf (G : Gm) (t : Nat)  (x0 : Int32)  (S : St) : Ct G YX12_kindOf yX12_kindOf 1 0 0 (fI t) (f12_kindOf x0 S) [vI x0] (MM t S) := by
  refine Ct_of_J [some (vI x0)] (by decide) rfl (fun h => by cases h) (Nat.le_of_ble_eq_true rfl) (And.intro rfl (trivial)) ?_
  unfold f12_kindOf
  refine J_iload_n dX12_kindOf_0 rfl rfl ?_
  refine J_if_ne (tgt := 8) dX12_kindOf_1 (by decide) (fun z1 => ?_) (fun z1 => ?_)
  · refine J_iconst (v := nI 1) dX12_kindOf_4 (by decide) ?_
    refine J_goto (tgt := 48) dX12_kindOf_5 (by decide) ?_
    exact J_ireturn rfl (Nat.le_refl _) (Nat.le_refl _) rfl dX12_kindOf_48
  · refine J_iload_n dX12_kindOf_8 rfl rfl ?_
    refine J_iconst (v := nI 3) dX12_kindOf_9 (by decide) ?_
    refine J_icmp_ne (tgt := 17) dX12_kindOf_10 (by decide) (fun z2 => ?_) (fun z2 => ?_)
    · refine J_iconst (v := nI 3) dX12_kindOf_13 (by decide) ?_
      refine J_goto (tgt := 48) dX12_kindOf_14 (by decide) ?_
      exact J_ireturn rfl (Nat.le_refl _) (Nat.le_refl _) rfl dX12_kindOf_48
    · refine J_iload_n dX12_kindOf_17 rfl rfl ?_
      refine J_iconst (v := nI 4) dX12_kindOf_18 (by decide) ?_
      refine J_icmp_ne (tgt := 26) dX12_kindOf_19 (by decide) (fun z3 => ?_) (fun z3 => ?_)
      · refine J_iconst (v := nI 4) dX12_kindOf_22 (by decide) ?_
        refine J_goto (tgt := 48) dX12_kindOf_23 (by decide) ?_
        exact J_ireturn rfl (Nat.le_refl _) (Nat.le_refl _) rfl dX12_kindOf_48
      · refine J_iload_n dX12_kindOf_26 rfl rfl ?_
        refine J_bipush (v := nI 6) dX12_kindOf_27 (by decide) ?_
        refine J_icmp_ge (tgt := 36) dX12_kindOf_29 (by decide) (fun z4 => ?_) (fun z4 => ?_)
        · refine J_iload_n dX12_kindOf_36 rfl rfl ?_
          refine J_bipush (v := nI 8) dX12_kindOf_37 (by decide) ?_
          refine J_icmp_ge (tgt := 46) dX12_kindOf_39 (by decide) (fun z5 => ?_) (fun z5 => ?_)
          · refine J_bipush (v := nI 6) dX12_kindOf_46 (by decide) ?_
            exact J_ireturn rfl (Nat.le_refl _) (Nat.le_refl _) rfl dX12_kindOf_48
          · refine J_iconst (v := nI 5) dX12_kindOf_42 (by decide) ?_
            refine J_goto (tgt := 48) dX12_kindOf_43 (by decide) ?_
            exact J_ireturn rfl (Nat.le_refl _) (Nat.le_refl _) rfl dX12_kindOf_48
        · refine J_iconst (v := nI 2) dX12_kindOf_32 (by decide) ?_
          refine J_goto (tgt := 48) dX12_kindOf_33 (by decide) ?_
          exact J_ireturn rfl (Nat.le_refl _) (Nat.le_refl _) rfl dX12_kindOf_48
theorem dX12_above_0 : decode cX12_above 0 = .ok (.iload_n 0, 1) := by decide +kernel
theorem dX12_above_1 : decode cX12_above 1 = .ok (.iconst 3, 1) := by decide +kernel
theorem dX12_above_2 : decode cX12_above 2 = .ok (.if_icmp .eq 8, 3) := by decide +kernel
theorem dX12_above_5 : decode cX12_above 5 = .ok (.iload_n 0, 1) := by decide +kernel
theorem dX12_above_6 : decode cX12_above 6 = .ok (.iconst 4, 1) := by decide +kernel
theorem dX12_above_7 : decode cX12_above 7 = .ok (.if_icmp .ne 7, 3) := by decide +kernel
theorem dX12_above_10 : decode cX12_above 10 = .ok (.iconst 2, 1) := by decide +kernel
theorem dX12_above_11 : decode cX12_above 11 = .ok (.goto 14, 3) := by decide +kernel
theorem dX12_above_14 : decode cX12_above 14 = .ok (.iload_n 0, 1) := by decide +kernel
theorem dX12_above_15 : decode cX12_above 15 = .ok (.bipush 6, 2) := by decide +kernel
theorem dX12_above_17 : decode cX12_above 17 = .ok (.if_icmp .ne 7, 3) := by decide +kernel
theorem dX12_above_20 : decode cX12_above 20 = .ok (.iconst 5, 1) := by decide +kernel
theorem dX12_above_21 : decode cX12_above 21 = .ok (.goto 4, 3) := by decide +kernel
theorem dX12_above_24 : decode cX12_above 24 = .ok (.iconst 0, 1) := by decide +kernel
theorem dX12_above_25 : decode cX12_above 25 = .ok (.ireturn, 1) := by decide +kernel
set_option maxRecDepth 100000 in
set_option maxHeartbeats 4000000 in
theorem ct12_above (G : Gm) (t : Nat)  (x0 : Int32)  (S : St) : Ct G YX12_above yX12_above 1 0 0 (fI t) (f12_above x0 S) [vI x0] (MM t S) := by
  refine Ct_of_J [some (vI x0)] (by decide) rfl (fun h => by cases h) (Nat.le_of_ble_eq_true rfl) (And.intro rfl (trivial)) ?_
  unfold f12_above
  refine J_iload_n dX12_above_0 rfl rfl ?_
  refine J_iconst (v := nI 3) dX12_above_1 (by decide) ?_
  refine J_icmp_eq (tgt := 10) dX12_above_2 (by decide) (fun z1 => ?_) (fun z1 => ?_)
  · refine J_iconst (v := nI 2) dX12_above_10 (by decide) ?_
    refine J_goto (tgt := 25) dX12_above_11 (by decide) ?_
    exact J_ireturn rfl (Nat.le_refl _) (Nat.le_refl _) rfl dX12_above_25
  · refine J_iload_n dX12_above_5 rfl rfl ?_
    refine J_iconst (v := nI 4) dX12_above_6 (by decide) ?_
    refine J_icmp_ne (tgt := 14) dX12_above_7 (by decide) (fun z2 => ?_) (fun z2 => ?_)
    · refine J_iconst (v := nI 2) dX12_above_10 (by decide) ?_
      refine J_goto (tgt := 25) dX12_above_11 (by decide) ?_
      exact J_ireturn rfl (Nat.le_refl _) (Nat.le_refl _) rfl dX12_above_25
    · refine J_iload_n dX12_above_14 rfl rfl ?_
      refine J_bipush (v := nI 6) dX12_above_15 (by decide) ?_
      refine J_icmp_ne (tgt := 24) dX12_above_17 (by decide) (fun z3 => ?_) (fun z3 => ?_)
      · refine J_iconst (v := nI 5) dX12_above_20 (by decide) ?_
        refine J_goto (tgt := 25) dX12_above_21 (by decide) ?_
        exact J_ireturn rfl (Nat.le_refl _) (Nat.le_refl _) rfl dX12_above_25
      · refine J_iconst (v := nI 0) dX12_above_24 (by decide) ?_
        exact J_ireturn rfl (Nat.le_refl _) (Nat.le_refl _) rfl dX12_above_25
theorem dX12_ranBody_0 : decode cX12_ranBody 0 = .ok (.aload_n 0, 1) := by decide +kernel
theorem dX12_ranBody_1 : decode cX12_ranBody 1 = .ok (.getfield 341, 3) := by decide +kernel
theorem dX12_ranBody_4 : decode cX12_ranBody 4 = .ok (.bipush 24, 2) := by decide +kernel
theorem dX12_ranBody_6 : decode cX12_ranBody 6 = .ok (.if_icmp .ge 13, 3) := by decide +kernel
theorem dX12_ranBody_9 : decode cX12_ranBody 9 = .ok (.aload_n 0, 1) := by decide +kernel
theorem dX12_ranBody_10 : decode cX12_ranBody 10 = .ok (.getfield 85, 3) := by decide +kernel
theorem dX12_ranBody_13 : decode cX12_ranBody 13 = .ok (.aload_n 0, 1) := by decide +kernel
theorem dX12_ranBody_14 : decode cX12_ranBody 14 = .ok (.getfield 341, 3) := by decide +kernel
theorem dX12_ranBody_17 : decode cX12_ranBody 17 = .ok (.iload_n 1, 1) := by decide +kernel
theorem dX12_ranBody_18 : decode cX12_ranBody 18 = .ok (.iastore, 1) := by decide +kernel
theorem dX12_ranBody_19 : decode cX12_ranBody 19 = .ok (.aload_n 0, 1) := by decide +kernel
theorem dX12_ranBody_20 : decode cX12_ranBody 20 = .ok (.dup, 1) := by decide +kernel
theorem dX12_ranBody_21 : decode cX12_ranBody 21 = .ok (.getfield 341, 3) := by decide +kernel
theorem dX12_ranBody_24 : decode cX12_ranBody 24 = .ok (.iconst 1, 1) := by decide +kernel
theorem dX12_ranBody_25 : decode cX12_ranBody 25 = .ok (.iadd, 1) := by decide +kernel
theorem dX12_ranBody_26 : decode cX12_ranBody 26 = .ok (.putfield 341, 3) := by decide +kernel
theorem dX12_ranBody_29 : decode cX12_ranBody 29 = .ok (.return_, 1) := by decide +kernel
set_option maxRecDepth 100000 in
set_option maxHeartbeats 4000000 in
theorem t12_ranBody_j19 (G : Gm) (t : Nat)      : ∀  (S : St), J G YX12_ranBody 1 0 0 (fV t) 0 0 19 [some (vR (some 146)), none] [] (MM t S) (f12_ranBody_j19 S) := by
  intro S
  unfold f12_ranBody_j19
  refine J_aload_n dX12_ranBody_19 rfl rfl ?_
  refine J_dup dX12_ranBody_20 rfl ?_
  refine K_getI cf12 flX12_341 (sq 146 rfl) (Or.inl rfl) dX12_ranBody_21 ?_
  refine J_iconst (v := nI 1) dX12_ranBody_24 (by decide) ?_
  refine J_iadd dX12_ranBody_25 ?_
  refine K_putI cf12 flX12_341 (sq 146 rfl) rfl dX12_ranBody_26 ?_
  refine J_ltS (fun S1 _ => ?_)
  exact J_return rfl (Nat.le_refl _) (Nat.le_refl _) rfl dX12_ranBody_29
set_option maxRecDepth 100000 in
set_option maxHeartbeats 4000000 in
theorem ct12_ranBody (G : Gm) (t : Nat)  (x1 : Int32)  (S : St) : Ct G YX12_ranBody yX12_ranBody 1 0 0 (fV t) (f12_ranBody x1 S) [vR (some 146), vI x1] (MM t S) := by
  refine Ct_of_J [some (vR (some 146)), some (vI x1)] (by decide) rfl (fun h => by cases h) (Nat.le_of_ble_eq_true rfl) (And.intro rfl (And.intro rfl (trivial))) ?_
  unfold f12_ranBody
  refine J_aload_n dX12_ranBody_0 rfl rfl ?_
  refine K_getI cf12 flX12_341 (sq 146 rfl) (Or.inl rfl) dX12_ranBody_1 ?_
  refine J_bipush (v := nI 24) dX12_ranBody_4 (by decide) ?_
  refine J_icmp_ge (tgt := 19) dX12_ranBody_6 (by decide) (fun z1 => ?_) (fun z1 => ?_)
  · exact J_sb (t12_ranBody_j19 G t S) (And.intro rfl (trivial))
  · refine J_aload_n dX12_ranBody_9 rfl rfl ?_
    refine K_getR (r := some (169)) cf12 flX12_85 (sq 146 rfl) rfl (Or.inr ⟨_, rfl⟩) dX12_ranBody_10 ?_
    refine J_aload_n dX12_ranBody_13 rfl rfl ?_
    refine K_getI cf12 flX12_341 (sq 146 rfl) (Or.inl rfl) dX12_ranBody_14 ?_
    refine J_iload_n dX12_ranBody_17 rfl rfl ?_
    refine K_iast (sq 169 rfl) dX12_ranBody_18 ?_
    refine J_ltS (fun S2 _ => ?_)
    exact J_sb (t12_ranBody_j19 G t S2) (And.intro rfl (trivial))
theorem dX12_stepsAct_0 : decode cX12_stepsAct 0 = .ok (.iload_n 1, 1) := by decide +kernel
theorem dX12_stepsAct_1 : decode cX12_stepsAct 1 = .ok (.lookupswitch 84 #[(0, 35), (2, 47), (6, 65)], 35) := by decide +kernel
theorem dX12_stepsAct_36 : decode cX12_stepsAct 36 = .ok (.aload_n 0, 1) := by decide +kernel
theorem dX12_stepsAct_37 : decode cX12_stepsAct 37 = .ok (.iconst 1, 1) := by decide +kernel
theorem dX12_stepsAct_38 : decode cX12_stepsAct 38 = .ok (.invokevirtual 344, 3) := by decide +kernel
theorem dX12_stepsAct_41 : decode cX12_stepsAct 41 = .ok (.iload_n 2, 1) := by decide +kernel
theorem dX12_stepsAct_42 : decode cX12_stepsAct 42 = .ok (.aload_n 0, 1) := by decide +kernel
theorem dX12_stepsAct_43 : decode cX12_stepsAct 43 = .ok (.getfield 347, 3) := by decide +kernel
theorem dX12_stepsAct_46 : decode cX12_stepsAct 46 = .ok (.iadd, 1) := by decide +kernel
theorem dX12_stepsAct_47 : decode cX12_stepsAct 47 = .ok (.ireturn, 1) := by decide +kernel
theorem dX12_stepsAct_48 : decode cX12_stepsAct 48 = .ok (.aload_n 0, 1) := by decide +kernel
theorem dX12_stepsAct_49 : decode cX12_stepsAct 49 = .ok (.bipush 30, 2) := by decide +kernel
theorem dX12_stepsAct_51 : decode cX12_stepsAct 51 = .ok (.invokevirtual 344, 3) := by decide +kernel
theorem dX12_stepsAct_54 : decode cX12_stepsAct 54 = .ok (.aload_n 0, 1) := by decide +kernel
theorem dX12_stepsAct_55 : decode cX12_stepsAct 55 = .ok (.iconst 2, 1) := by decide +kernel
theorem dX12_stepsAct_56 : decode cX12_stepsAct 56 = .ok (.invokestatic 350, 3) := by decide +kernel
theorem dX12_stepsAct_59 : decode cX12_stepsAct 59 = .ok (.iload_n 2, 1) := by decide +kernel
theorem dX12_stepsAct_60 : decode cX12_stepsAct 60 = .ok (.invokevirtual 353, 3) := by decide +kernel
theorem dX12_stepsAct_63 : decode cX12_stepsAct 63 = .ok (.iconst 1, 1) := by decide +kernel
theorem dX12_stepsAct_64 : decode cX12_stepsAct 64 = .ok (.iadd, 1) := by decide +kernel
theorem dX12_stepsAct_65 : decode cX12_stepsAct 65 = .ok (.ireturn, 1) := by decide +kernel
theorem dX12_stepsAct_66 : decode cX12_stepsAct 66 = .ok (.aload_n 0, 1) := by decide +kernel
theorem dX12_stepsAct_67 : decode cX12_stepsAct 67 = .ok (.bipush 70, 2) := by decide +kernel
theorem dX12_stepsAct_69 : decode cX12_stepsAct 69 = .ok (.invokevirtual 344, 3) := by decide +kernel
theorem dX12_stepsAct_72 : decode cX12_stepsAct 72 = .ok (.aload_n 0, 1) := by decide +kernel
theorem dX12_stepsAct_73 : decode cX12_stepsAct 73 = .ok (.bipush 6, 2) := by decide +kernel
theorem dX12_stepsAct_75 : decode cX12_stepsAct 75 = .ok (.invokestatic 350, 3) := by decide +kernel
theorem dX12_stepsAct_78 : decode cX12_stepsAct 78 = .ok (.iload_n 2, 1) := by decide +kernel
theorem dX12_stepsAct_79 : decode cX12_stepsAct 79 = .ok (.iconst 1, 1) := by decide +kernel
theorem dX12_stepsAct_80 : decode cX12_stepsAct 80 = .ok (.iadd, 1) := by decide +kernel
theorem dX12_stepsAct_81 : decode cX12_stepsAct 81 = .ok (.invokevirtual 353, 3) := by decide +kernel
theorem dX12_stepsAct_84 : decode cX12_stepsAct 84 = .ok (.ireturn, 1) := by decide +kernel
theorem dX12_stepsAct_85 : decode cX12_stepsAct 85 = .ok (.aload_n 0, 1) := by decide +kernel
theorem dX12_stepsAct_86 : decode cX12_stepsAct 86 = .ok (.iload_n 1, 1) := by decide +kernel
theorem dX12_stepsAct_87 : decode cX12_stepsAct 87 = .ok (.invokestatic 350, 3) := by decide +kernel
theorem dX12_stepsAct_90 : decode cX12_stepsAct 90 = .ok (.iload_n 2, 1) := by decide +kernel
theorem dX12_stepsAct_91 : decode cX12_stepsAct 91 = .ok (.invokevirtual 353, 3) := by decide +kernel
theorem dX12_stepsAct_94 : decode cX12_stepsAct 94 = .ok (.ireturn, 1) := by decide +kernel
set_option maxRecDepth 100000 in
set_option maxHeartbeats 4000000 in
theorem ct12_stepsAct_b (G : Gm) (t : Nat) (pv : Int32 → Int32 → St → Option (Int32 × St)) (dv : Nat) (hdv : 2 ≤ dv) (hpv : ∀ (x1 : Int32) (x2 : Int32)  (S : St), Ct G YX12_stepsAct yX12_stepsAct dv 0 0 (fI t) (pv x1 x2 S) [vR (some 146), vI x1, vI x2] (MM t S)) (x1 : Int32) (x2 : Int32)  (S : St) : Ct G YX12_stepsAct yX12_stepsAct (dv + 1) 0 0 (fI t) (f12_stepsAct_b pv x1 x2 S) [vR (some 146), vI x1, vI x2] (MM t S) := by
  refine Ct_of_J [some (vR (some 146)), some (vI x1), some (vI x2)] (by decide) rfl (fun h => by cases h) (Nat.le_of_ble_eq_true rfl) (And.intro rfl (And.intro rfl (And.intro rfl (trivial)))) ?_
  unfold f12_stepsAct_b
  refine J_iload_n dX12_stepsAct_0 rfl rfl ?_
  refine J_lookup (td := 85) _ dX12_stepsAct_1 (by decide) (by decide) (by rfl) ?_ (by decide) ?_
  · refine List.forall_mem_cons.mpr ⟨lk_mk (o := 35) (tgt := 36) (by decide) (fun _ => ?_), ?_⟩
    · refine J_aload_n dX12_stepsAct_36 rfl rfl ?_
      refine J_iconst (v := nI 1) dX12_stepsAct_37 (by decide) ?_
      refine K_callV_v (As := [vI (nI 1)]) mcX12_ranBody mlX12_344 rfl (by decide) (sq 146 rfl) (ct12_ranBody G t (nI 1) S) rfl rfl (Nat.le_of_ble_eq_true rfl) (by omega) (Nat.le_of_ble_eq_true rfl) dX12_stepsAct_38 (fun q1 S2 => ?_)
      refine J_iload_n dX12_stepsAct_41 rfl rfl ?_
      refine J_aload_n dX12_stepsAct_42 rfl rfl ?_
      refine K_getI cf12 flX12_347 (sq 146 rfl) (Or.inl rfl) dX12_stepsAct_43 ?_
      refine J_iadd dX12_stepsAct_46 ?_
      exact J_ireturn rfl (Nat.le_refl _) (Nat.le_refl _) rfl dX12_stepsAct_47
    · refine List.forall_mem_cons.mpr ⟨lk_mk (o := 47) (tgt := 48) (by decide) (fun _ => ?_), ?_⟩
      · refine J_aload_n dX12_stepsAct_48 rfl rfl ?_
        refine J_bipush (v := nI 30) dX12_stepsAct_49 (by decide) ?_
        refine K_callV_v (As := [vI (nI 30)]) mcX12_ranBody mlX12_344 rfl (by decide) (sq 146 rfl) (ct12_ranBody G t (nI 30) S) rfl rfl (Nat.le_of_ble_eq_true rfl) (by omega) (Nat.le_of_ble_eq_true rfl) dX12_stepsAct_51 (fun q3 S4 => ?_)
        refine J_aload_n dX12_stepsAct_54 rfl rfl ?_
        refine J_iconst (v := nI 2) dX12_stepsAct_55 (by decide) ?_
        refine K_callS_i (As := [vI (nI 2)]) mcX12_above mlX12_350 (ct12_above G t (nI 2) S4) rfl rfl (Nat.le_of_ble_eq_true rfl) (by omega) (Nat.le_of_ble_eq_true rfl) dX12_stepsAct_56 (fun q5 S6 => ?_)
        refine J_iload_n dX12_stepsAct_59 rfl rfl ?_
        refine K_callV_i (As := [vI q5, vI x2]) mcX12_stepsAct mlX12_353 rfl (by decide) (sq 146 rfl) (hpv q5 x2  S6) rfl rfl (Nat.le_of_ble_eq_true rfl) (by omega) (Nat.le_of_ble_eq_true rfl) dX12_stepsAct_60 (fun q7 S8 => ?_)
        refine J_iconst (v := nI 1) dX12_stepsAct_63 (by decide) ?_
        refine J_iadd dX12_stepsAct_64 ?_
        exact J_ireturn rfl (Nat.le_refl _) (Nat.le_refl _) rfl dX12_stepsAct_65
      · refine List.forall_mem_cons.mpr ⟨lk_mk (o := 65) (tgt := 66) (by decide) (fun _ => ?_), ?_⟩
        · refine J_aload_n dX12_stepsAct_66 rfl rfl ?_
          refine J_bipush (v := nI 70) dX12_stepsAct_67 (by decide) ?_
          refine K_callV_v (As := [vI (nI 70)]) mcX12_ranBody mlX12_344 rfl (by decide) (sq 146 rfl) (ct12_ranBody G t (nI 70) S) rfl rfl (Nat.le_of_ble_eq_true rfl) (by omega) (Nat.le_of_ble_eq_true rfl) dX12_stepsAct_69 (fun q9 S10 => ?_)
          refine J_aload_n dX12_stepsAct_72 rfl rfl ?_
          refine J_bipush (v := nI 6) dX12_stepsAct_73 (by decide) ?_
          refine K_callS_i (As := [vI (nI 6)]) mcX12_above mlX12_350 (ct12_above G t (nI 6) S10) rfl rfl (Nat.le_of_ble_eq_true rfl) (by omega) (Nat.le_of_ble_eq_true rfl) dX12_stepsAct_75 (fun q11 S12 => ?_)
          refine J_iload_n dX12_stepsAct_78 rfl rfl ?_
          refine J_iconst (v := nI 1) dX12_stepsAct_79 (by decide) ?_
          refine J_iadd dX12_stepsAct_80 ?_
          refine K_callV_i (As := [vI q11, vI (x2 + (nI 1))]) mcX12_stepsAct mlX12_353 rfl (by decide) (sq 146 rfl) (hpv q11 (x2 + (nI 1))  S12) rfl rfl (Nat.le_of_ble_eq_true rfl) (by omega) (Nat.le_of_ble_eq_true rfl) dX12_stepsAct_81 (fun q13 S14 => ?_)
          exact J_ireturn rfl (Nat.le_refl _) (Nat.le_refl _) rfl dX12_stepsAct_84
        · exact fun _ h => absurd h List.not_mem_nil
  · refine J_aload_n dX12_stepsAct_85 rfl rfl ?_
    refine J_iload_n dX12_stepsAct_86 rfl rfl ?_
    refine K_callS_i (As := [vI x1]) mcX12_above mlX12_350 (ct12_above G t x1 S) rfl rfl (Nat.le_of_ble_eq_true rfl) (by omega) (Nat.le_of_ble_eq_true rfl) dX12_stepsAct_87 (fun q15 S16 => ?_)
    refine J_iload_n dX12_stepsAct_90 rfl rfl ?_
    refine K_callV_i (As := [vI q15, vI x2]) mcX12_stepsAct mlX12_353 rfl (by decide) (sq 146 rfl) (hpv q15 x2  S16) rfl rfl (Nat.le_of_ble_eq_true rfl) (by omega) (Nat.le_of_ble_eq_true rfl) dX12_stepsAct_91 (fun q17 S18 => ?_)
    exact J_ireturn rfl (Nat.le_refl _) (Nat.le_refl _) rfl dX12_stepsAct_94
theorem ct12_stepsAct (G : Gm) (t : Nat) : ∀ (n : Nat) (x1 : Int32) (x2 : Int32)  (S : St), Ct G YX12_stepsAct yX12_stepsAct (1 * n + 2) 0 0 (fI t) (f12_stepsAct n x1 x2 S) [vR (some 146), vI x1, vI x2] (MM t S)
  | 0, _, _, _ => fun u hu => absurd (show none = some u from hu) (by simp)
  | n + 1, x1, x2, S => by
    rw [show 1 * (n + 1) + 2 = 1 * n + 2 + 1 by omega]
    exact ct12_stepsAct_b G t (f12_stepsAct n) _ (by omega) (ct12_stepsAct G t n) x1 x2 S
theorem dX12_costs_0 : decode cX12_costs 0 = .ok (.iload_n 1, 1) := by decide +kernel
theorem dX12_costs_1 : decode cX12_costs 1 = .ok (.lookupswitch 76 #[(0, 27), (3, 48)], 27) := by decide +kernel
theorem dX12_costs_28 : decode cX12_costs 28 = .ok (.aload_n 0, 1) := by decide +kernel
theorem dX12_costs_29 : decode cX12_costs 29 = .ok (.bipush 10, 2) := by decide +kernel
theorem dX12_costs_31 : decode cX12_costs 31 = .ok (.invokevirtual 344, 3) := by decide +kernel
theorem dX12_costs_34 : decode cX12_costs 34 = .ok (.aload_n 0, 1) := by decide +kernel
theorem dX12_costs_35 : decode cX12_costs 35 = .ok (.aload_n 0, 1) := by decide +kernel
theorem dX12_costs_36 : decode cX12_costs 36 = .ok (.getfield 356, 3) := by decide +kernel
theorem dX12_costs_39 : decode cX12_costs 39 = .ok (.iload_n 2, 1) := by decide +kernel
theorem dX12_costs_40 : decode cX12_costs 40 = .ok (.invokevirtual 353, 3) := by decide +kernel
theorem dX12_costs_43 : decode cX12_costs 43 = .ok (.aload_n 0, 1) := by decide +kernel
theorem dX12_costs_44 : decode cX12_costs 44 = .ok (.getfield 359, 3) := by decide +kernel
theorem dX12_costs_47 : decode cX12_costs 47 = .ok (.imul, 1) := by decide +kernel
theorem dX12_costs_48 : decode cX12_costs 48 = .ok (.ireturn, 1) := by decide +kernel
theorem dX12_costs_49 : decode cX12_costs 49 = .ok (.aload_n 0, 1) := by decide +kernel
theorem dX12_costs_50 : decode cX12_costs 50 = .ok (.bipush 40, 2) := by decide +kernel
theorem dX12_costs_52 : decode cX12_costs 52 = .ok (.invokevirtual 344, 3) := by decide +kernel
theorem dX12_costs_55 : decode cX12_costs 55 = .ok (.aload_n 0, 1) := by decide +kernel
theorem dX12_costs_56 : decode cX12_costs 56 = .ok (.iconst 3, 1) := by decide +kernel
theorem dX12_costs_57 : decode cX12_costs 57 = .ok (.invokestatic 350, 3) := by decide +kernel
theorem dX12_costs_60 : decode cX12_costs 60 = .ok (.iload_n 2, 1) := by decide +kernel
theorem dX12_costs_61 : decode cX12_costs 61 = .ok (.invokevirtual 362, 3) := by decide +kernel
theorem dX12_costs_64 : decode cX12_costs 64 = .ok (.istore_n 3, 1) := by decide +kernel
theorem dX12_costs_65 : decode cX12_costs 65 = .ok (.iload_n 3, 1) := by decide +kernel
theorem dX12_costs_66 : decode cX12_costs 66 = .ok (.aload_n 0, 1) := by decide +kernel
theorem dX12_costs_67 : decode cX12_costs 67 = .ok (.aload_n 0, 1) := by decide +kernel
theorem dX12_costs_68 : decode cX12_costs 68 = .ok (.getfield 356, 3) := by decide +kernel
theorem dX12_costs_71 : decode cX12_costs 71 = .ok (.iconst 2, 1) := by decide +kernel
theorem dX12_costs_72 : decode cX12_costs 72 = .ok (.invokevirtual 353, 3) := by decide +kernel
theorem dX12_costs_75 : decode cX12_costs 75 = .ok (.iadd, 1) := by decide +kernel
theorem dX12_costs_76 : decode cX12_costs 76 = .ok (.ireturn, 1) := by decide +kernel
theorem dX12_costs_77 : decode cX12_costs 77 = .ok (.aload_n 0, 1) := by decide +kernel
theorem dX12_costs_78 : decode cX12_costs 78 = .ok (.iload_n 1, 1) := by decide +kernel
theorem dX12_costs_79 : decode cX12_costs 79 = .ok (.invokestatic 350, 3) := by decide +kernel
theorem dX12_costs_82 : decode cX12_costs 82 = .ok (.iload_n 2, 1) := by decide +kernel
theorem dX12_costs_83 : decode cX12_costs 83 = .ok (.invokevirtual 362, 3) := by decide +kernel
theorem dX12_costs_86 : decode cX12_costs 86 = .ok (.ireturn, 1) := by decide +kernel
set_option maxRecDepth 100000 in
set_option maxHeartbeats 4000000 in
theorem ct12_costs_b (G : Gm) (t : Nat) (pv : Int32 → Int32 → St → Option (Int32 × St)) (dv : Nat) (hdv : 9 ≤ dv) (hpv : ∀ (x1 : Int32) (x2 : Int32)  (S : St), Ct G YX12_costs yX12_costs dv 0 0 (fI t) (pv x1 x2 S) [vR (some 146), vI x1, vI x2] (MM t S)) (x1 : Int32) (x2 : Int32)  (S : St) : Ct G YX12_costs yX12_costs (dv + 1) 0 0 (fI t) (f12_costs_b pv x1 x2 S) [vR (some 146), vI x1, vI x2] (MM t S) := by
  refine Ct_of_J [some (vR (some 146)), some (vI x1), some (vI x2), none] (by decide) rfl (fun h => by cases h) (Nat.le_of_ble_eq_true rfl) (And.intro rfl (And.intro rfl (And.intro rfl (trivial)))) ?_
  unfold f12_costs_b
  refine J_iload_n dX12_costs_0 rfl rfl ?_
  refine J_lookup (td := 77) _ dX12_costs_1 (by decide) (by decide) (by rfl) ?_ (by decide) ?_
  · refine List.forall_mem_cons.mpr ⟨lk_mk (o := 27) (tgt := 28) (by decide) (fun _ => ?_), ?_⟩
    · refine J_aload_n dX12_costs_28 rfl rfl ?_
      refine J_bipush (v := nI 10) dX12_costs_29 (by decide) ?_
      refine K_callV_v (As := [vI (nI 10)]) mcX12_ranBody mlX12_344 rfl (by decide) (sq 146 rfl) (ct12_ranBody G t (nI 10) S) rfl rfl (Nat.le_of_ble_eq_true rfl) (by omega) (Nat.le_of_ble_eq_true rfl) dX12_costs_31 (fun q1 S2 => ?_)
      refine J_aload_n dX12_costs_34 rfl rfl ?_
      refine J_aload_n dX12_costs_35 rfl rfl ?_
      refine K_getI cf12 flX12_356 (sq 146 rfl) (Or.inl rfl) dX12_costs_36 ?_
      refine J_iload_n dX12_costs_39 rfl rfl ?_
      refine K_callV_i (As := [vI (S2.1 146 60), vI x2]) mcX12_stepsAct mlX12_353 rfl (by decide) (sq 146 rfl) (ct12_stepsAct G t 6 (S2.1 146 60) x2 S2) rfl rfl (Nat.le_of_ble_eq_true rfl) (by omega) (Nat.le_of_ble_eq_true rfl) dX12_costs_40 (fun q3 S4 => ?_)
      refine J_aload_n dX12_costs_43 rfl rfl ?_
      refine K_getI cf12 flX12_359 (sq 146 rfl) (Or.inl rfl) dX12_costs_44 ?_
      refine J_imul dX12_costs_47 ?_
      exact J_ireturn rfl (Nat.le_refl _) (Nat.le_refl _) rfl dX12_costs_48
    · refine List.forall_mem_cons.mpr ⟨lk_mk (o := 48) (tgt := 49) (by decide) (fun _ => ?_), ?_⟩
      · refine J_aload_n dX12_costs_49 rfl rfl ?_
        refine J_bipush (v := nI 40) dX12_costs_50 (by decide) ?_
        refine K_callV_v (As := [vI (nI 40)]) mcX12_ranBody mlX12_344 rfl (by decide) (sq 146 rfl) (ct12_ranBody G t (nI 40) S) rfl rfl (Nat.le_of_ble_eq_true rfl) (by omega) (Nat.le_of_ble_eq_true rfl) dX12_costs_52 (fun q5 S6 => ?_)
        refine J_aload_n dX12_costs_55 rfl rfl ?_
        refine J_iconst (v := nI 3) dX12_costs_56 (by decide) ?_
        refine K_callS_i (As := [vI (nI 3)]) mcX12_above mlX12_350 (ct12_above G t (nI 3) S6) rfl rfl (Nat.le_of_ble_eq_true rfl) (by omega) (Nat.le_of_ble_eq_true rfl) dX12_costs_57 (fun q7 S8 => ?_)
        refine J_iload_n dX12_costs_60 rfl rfl ?_
        refine K_callV_i (As := [vI q7, vI x2]) mcX12_costs mlX12_362 rfl (by decide) (sq 146 rfl) (hpv q7 x2  S8) rfl rfl (Nat.le_of_ble_eq_true rfl) (by omega) (Nat.le_of_ble_eq_true rfl) dX12_costs_61 (fun q9 S10 => ?_)
        refine J_istore_n [some (vR (some 146)), some (vI x1), some (vI x2), some (vI q9)] dX12_costs_64 rfl (Nat.le_of_ble_eq_true rfl) rfl rfl ?_
        refine J_iload_n dX12_costs_65 rfl rfl ?_
        refine J_aload_n dX12_costs_66 rfl rfl ?_
        refine J_aload_n dX12_costs_67 rfl rfl ?_
        refine K_getI cf12 flX12_356 (sq 146 rfl) (Or.inl rfl) dX12_costs_68 ?_
        refine J_iconst (v := nI 2) dX12_costs_71 (by decide) ?_
        refine K_callV_i (As := [vI (S10.1 146 60), vI (nI 2)]) mcX12_stepsAct mlX12_353 rfl (by decide) (sq 146 rfl) (ct12_stepsAct G t 6 (S10.1 146 60) (nI 2) S10) rfl rfl (Nat.le_of_ble_eq_true rfl) (by omega) (Nat.le_of_ble_eq_true rfl) dX12_costs_72 (fun q11 S12 => ?_)
        refine J_iadd dX12_costs_75 ?_
        exact J_ireturn rfl (Nat.le_refl _) (Nat.le_refl _) rfl dX12_costs_76
      · exact fun _ h => absurd h List.not_mem_nil
  · refine J_aload_n dX12_costs_77 rfl rfl ?_
    refine J_iload_n dX12_costs_78 rfl rfl ?_
    refine K_callS_i (As := [vI x1]) mcX12_above mlX12_350 (ct12_above G t x1 S) rfl rfl (Nat.le_of_ble_eq_true rfl) (by omega) (Nat.le_of_ble_eq_true rfl) dX12_costs_79 (fun q13 S14 => ?_)
    refine J_iload_n dX12_costs_82 rfl rfl ?_
    refine K_callV_i (As := [vI q13, vI x2]) mcX12_costs mlX12_362 rfl (by decide) (sq 146 rfl) (hpv q13 x2  S14) rfl rfl (Nat.le_of_ble_eq_true rfl) (by omega) (Nat.le_of_ble_eq_true rfl) dX12_costs_83 (fun q15 S16 => ?_)
    exact J_ireturn rfl (Nat.le_refl _) (Nat.le_refl _) rfl dX12_costs_86
theorem ct12_costs (G : Gm) (t : Nat) : ∀ (n : Nat) (x1 : Int32) (x2 : Int32)  (S : St), Ct G YX12_costs yX12_costs (1 * n + 9) 0 0 (fI t) (f12_costs n x1 x2 S) [vR (some 146), vI x1, vI x2] (MM t S)
  | 0, _, _, _ => fun u hu => absurd (show none = some u from hu) (by simp)
  | n + 1, x1, x2, S => by
    rw [show 1 * (n + 1) + 9 = 1 * n + 9 + 1 by omega]
    exact ct12_costs_b G t (f12_costs n) _ (by omega) (ct12_costs G t n) x1 x2 S
theorem dX12_goes_0 : decode cX12_goes 0 = .ok (.iload_n 1, 1) := by decide +kernel
theorem dX12_goes_1 : decode cX12_goes 1 = .ok (.tableswitch 120 0 6 #[43, 56, 120, 120, 120, 73, 91], 43) := by decide +kernel
theorem dX12_goes_44 : decode cX12_goes 44 = .ok (.aload_n 0, 1) := by decide +kernel
theorem dX12_goes_45 : decode cX12_goes 45 = .ok (.bipush 11, 2) := by decide +kernel
theorem dX12_goes_47 : decode cX12_goes 47 = .ok (.invokevirtual 344, 3) := by decide +kernel
theorem dX12_goes_50 : decode cX12_goes 50 = .ok (.iload_n 2, 1) := by decide +kernel
theorem dX12_goes_51 : decode cX12_goes 51 = .ok (.aload_n 0, 1) := by decide +kernel
theorem dX12_goes_52 : decode cX12_goes 52 = .ok (.getfield 347, 3) := by decide +kernel
theorem dX12_goes_55 : decode cX12_goes 55 = .ok (.ixor, 1) := by decide +kernel
theorem dX12_goes_56 : decode cX12_goes 56 = .ok (.ireturn, 1) := by decide +kernel
theorem dX12_goes_57 : decode cX12_goes 57 = .ok (.aload_n 0, 1) := by decide +kernel
theorem dX12_goes_58 : decode cX12_goes 58 = .ok (.bipush 20, 2) := by decide +kernel
theorem dX12_goes_60 : decode cX12_goes 60 = .ok (.invokevirtual 344, 3) := by decide +kernel
theorem dX12_goes_63 : decode cX12_goes 63 = .ok (.aload_n 0, 1) := by decide +kernel
theorem dX12_goes_64 : decode cX12_goes 64 = .ok (.iconst 1, 1) := by decide +kernel
theorem dX12_goes_65 : decode cX12_goes 65 = .ok (.invokestatic 350, 3) := by decide +kernel
theorem dX12_goes_68 : decode cX12_goes 68 = .ok (.iload_n 2, 1) := by decide +kernel
theorem dX12_goes_69 : decode cX12_goes 69 = .ok (.invokevirtual 365, 3) := by decide +kernel
theorem dX12_goes_72 : decode cX12_goes 72 = .ok (.ineg, 1) := by decide +kernel
theorem dX12_goes_73 : decode cX12_goes 73 = .ok (.ireturn, 1) := by decide +kernel
theorem dX12_goes_74 : decode cX12_goes 74 = .ok (.aload_n 0, 1) := by decide +kernel
theorem dX12_goes_75 : decode cX12_goes 75 = .ok (.bipush 60, 2) := by decide +kernel
theorem dX12_goes_77 : decode cX12_goes 77 = .ok (.invokevirtual 344, 3) := by decide +kernel
theorem dX12_goes_80 : decode cX12_goes 80 = .ok (.aload_n 0, 1) := by decide +kernel
theorem dX12_goes_81 : decode cX12_goes 81 = .ok (.iconst 5, 1) := by decide +kernel
theorem dX12_goes_82 : decode cX12_goes 82 = .ok (.invokestatic 350, 3) := by decide +kernel
theorem dX12_goes_85 : decode cX12_goes 85 = .ok (.iload_n 2, 1) := by decide +kernel
theorem dX12_goes_86 : decode cX12_goes 86 = .ok (.invokevirtual 365, 3) := by decide +kernel
theorem dX12_goes_89 : decode cX12_goes 89 = .ok (.iconst 3, 1) := by decide +kernel
theorem dX12_goes_90 : decode cX12_goes 90 = .ok (.imul, 1) := by decide +kernel
theorem dX12_goes_91 : decode cX12_goes 91 = .ok (.ireturn, 1) := by decide +kernel
theorem dX12_goes_92 : decode cX12_goes 92 = .ok (.aload_n 0, 1) := by decide +kernel
theorem dX12_goes_93 : decode cX12_goes 93 = .ok (.bipush 71, 2) := by decide +kernel
theorem dX12_goes_95 : decode cX12_goes 95 = .ok (.invokevirtual 344, 3) := by decide +kernel
theorem dX12_goes_98 : decode cX12_goes 98 = .ok (.aload_n 0, 1) := by decide +kernel
theorem dX12_goes_99 : decode cX12_goes 99 = .ok (.bipush 6, 2) := by decide +kernel
theorem dX12_goes_101 : decode cX12_goes 101 = .ok (.invokestatic 350, 3) := by decide +kernel
theorem dX12_goes_104 : decode cX12_goes 104 = .ok (.iload_n 2, 1) := by decide +kernel
theorem dX12_goes_105 : decode cX12_goes 105 = .ok (.invokevirtual 365, 3) := by decide +kernel
theorem dX12_goes_108 : decode cX12_goes 108 = .ok (.istore_n 3, 1) := by decide +kernel
theorem dX12_goes_109 : decode cX12_goes 109 = .ok (.iload_n 3, 1) := by decide +kernel
theorem dX12_goes_110 : decode cX12_goes 110 = .ok (.aload_n 0, 1) := by decide +kernel
theorem dX12_goes_111 : decode cX12_goes 111 = .ok (.aload_n 0, 1) := by decide +kernel
theorem dX12_goes_112 : decode cX12_goes 112 = .ok (.getfield 356, 3) := by decide +kernel
theorem dX12_goes_115 : decode cX12_goes 115 = .ok (.iconst 1, 1) := by decide +kernel
theorem dX12_goes_116 : decode cX12_goes 116 = .ok (.invokevirtual 362, 3) := by decide +kernel
theorem dX12_goes_119 : decode cX12_goes 119 = .ok (.isub, 1) := by decide +kernel
theorem dX12_goes_120 : decode cX12_goes 120 = .ok (.ireturn, 1) := by decide +kernel
theorem dX12_goes_121 : decode cX12_goes 121 = .ok (.aload_n 0, 1) := by decide +kernel
theorem dX12_goes_122 : decode cX12_goes 122 = .ok (.iload_n 1, 1) := by decide +kernel
theorem dX12_goes_123 : decode cX12_goes 123 = .ok (.invokestatic 350, 3) := by decide +kernel
theorem dX12_goes_126 : decode cX12_goes 126 = .ok (.iload_n 2, 1) := by decide +kernel
theorem dX12_goes_127 : decode cX12_goes 127 = .ok (.invokevirtual 365, 3) := by decide +kernel
theorem dX12_goes_130 : decode cX12_goes 130 = .ok (.ireturn, 1) := by decide +kernel
set_option maxRecDepth 100000 in
set_option maxHeartbeats 4000000 in
theorem t12_goes_j121 (G : Gm) (t : Nat) (pv : Int32 → Int32 → St → Option (Int32 × St)) (dv : Nat) (hdv : 16 ≤ dv) (hpv : ∀ (x1 : Int32) (x2 : Int32)  (S : St), Ct G YX12_goes yX12_goes dv 0 0 (fI t) (pv x1 x2 S) [vR (some 146), vI x1, vI x2] (MM t S)) (x1 : Int32) (x2 : Int32)    : ∀  (S : St), J G YX12_goes (dv + 1) 0 0 (fI t) 0 0 121 [some (vR (some 146)), some (vI x1), some (vI x2), none] [] (MM t S) (f12_goes_j121 pv x1 x2 S) := by
  intro S
  unfold f12_goes_j121
  refine J_aload_n dX12_goes_121 rfl rfl ?_
  refine J_iload_n dX12_goes_122 rfl rfl ?_
  refine K_callS_i (As := [vI x1]) mcX12_above mlX12_350 (ct12_above G t x1 S) rfl rfl (Nat.le_of_ble_eq_true rfl) (by omega) (Nat.le_of_ble_eq_true rfl) dX12_goes_123 (fun q1 S2 => ?_)
  refine J_iload_n dX12_goes_126 rfl rfl ?_
  refine K_callV_i (As := [vI q1, vI x2]) mcX12_goes mlX12_365 rfl (by decide) (sq 146 rfl) (hpv q1 x2  S2) rfl rfl (Nat.le_of_ble_eq_true rfl) (by omega) (Nat.le_of_ble_eq_true rfl) dX12_goes_127 (fun q3 S4 => ?_)
  exact J_ireturn rfl (Nat.le_refl _) (Nat.le_refl _) rfl dX12_goes_130
set_option maxRecDepth 100000 in
set_option maxHeartbeats 4000000 in
theorem ct12_goes_b (G : Gm) (t : Nat) (pv : Int32 → Int32 → St → Option (Int32 × St)) (dv : Nat) (hdv : 16 ≤ dv) (hpv : ∀ (x1 : Int32) (x2 : Int32)  (S : St), Ct G YX12_goes yX12_goes dv 0 0 (fI t) (pv x1 x2 S) [vR (some 146), vI x1, vI x2] (MM t S)) (x1 : Int32) (x2 : Int32)  (S : St) : Ct G YX12_goes yX12_goes (dv + 1) 0 0 (fI t) (f12_goes_b pv x1 x2 S) [vR (some 146), vI x1, vI x2] (MM t S) := by
  refine Ct_of_J [some (vR (some 146)), some (vI x1), some (vI x2), none] (by decide) rfl (fun h => by cases h) (Nat.le_of_ble_eq_true rfl) (And.intro rfl (And.intro rfl (And.intro rfl (trivial)))) ?_
  unfold f12_goes_b
  refine J_iload_n dX12_goes_0 rfl rfl ?_
  refine J_table (td := 121) _ dX12_goes_1 (fun z h1 h2 => cov_of (lo := (0)) (N := 7) (ks := [nI 0, nI 1, nI 2, nI 3, nI 4, nI 5, nI 6]) (by decide) z h1 (by omega)) ?_ (by decide) ?_
  · refine List.forall_mem_cons.mpr ⟨tb_mk (o := 43) (tgt := 44) (by decide) (fun _ => ?_), ?_⟩
    · refine J_aload_n dX12_goes_44 rfl rfl ?_
      refine J_bipush (v := nI 11) dX12_goes_45 (by decide) ?_
      refine K_callV_v (As := [vI (nI 11)]) mcX12_ranBody mlX12_344 rfl (by decide) (sq 146 rfl) (ct12_ranBody G t (nI 11) S) rfl rfl (Nat.le_of_ble_eq_true rfl) (by omega) (Nat.le_of_ble_eq_true rfl) dX12_goes_47 (fun q1 S2 => ?_)
      refine J_iload_n dX12_goes_50 rfl rfl ?_
      refine J_aload_n dX12_goes_51 rfl rfl ?_
      refine K_getI cf12 flX12_347 (sq 146 rfl) (Or.inl rfl) dX12_goes_52 ?_
      refine J_ixor dX12_goes_55 ?_
      exact J_ireturn rfl (Nat.le_refl _) (Nat.le_refl _) rfl dX12_goes_56
    · refine List.forall_mem_cons.mpr ⟨tb_mk (o := 56) (tgt := 57) (by decide) (fun _ => ?_), ?_⟩
      · refine J_aload_n dX12_goes_57 rfl rfl ?_
        refine J_bipush (v := nI 20) dX12_goes_58 (by decide) ?_
        refine K_callV_v (As := [vI (nI 20)]) mcX12_ranBody mlX12_344 rfl (by decide) (sq 146 rfl) (ct12_ranBody G t (nI 20) S) rfl rfl (Nat.le_of_ble_eq_true rfl) (by omega) (Nat.le_of_ble_eq_true rfl) dX12_goes_60 (fun q3 S4 => ?_)
        refine J_aload_n dX12_goes_63 rfl rfl ?_
        refine J_iconst (v := nI 1) dX12_goes_64 (by decide) ?_
        refine K_callS_i (As := [vI (nI 1)]) mcX12_above mlX12_350 (ct12_above G t (nI 1) S4) rfl rfl (Nat.le_of_ble_eq_true rfl) (by omega) (Nat.le_of_ble_eq_true rfl) dX12_goes_65 (fun q5 S6 => ?_)
        refine J_iload_n dX12_goes_68 rfl rfl ?_
        refine K_callV_i (As := [vI q5, vI x2]) mcX12_goes mlX12_365 rfl (by decide) (sq 146 rfl) (hpv q5 x2  S6) rfl rfl (Nat.le_of_ble_eq_true rfl) (by omega) (Nat.le_of_ble_eq_true rfl) dX12_goes_69 (fun q7 S8 => ?_)
        refine J_ineg dX12_goes_72 ?_
        exact J_ireturn rfl (Nat.le_refl _) (Nat.le_refl _) rfl dX12_goes_73
      · refine List.forall_mem_cons.mpr ⟨tb_mk (o := 120) (tgt := 121) (by decide) (fun _ => ?_), ?_⟩
        · exact J_sb (t12_goes_j121 G t pv dv hdv hpv x1 x2 S) (And.intro rfl (And.intro rfl (And.intro rfl (trivial))))
        · refine List.forall_mem_cons.mpr ⟨tb_mk (o := 120) (tgt := 121) (by decide) (fun _ => ?_), ?_⟩
          · exact J_sb (t12_goes_j121 G t pv dv hdv hpv x1 x2 S) (And.intro rfl (And.intro rfl (And.intro rfl (trivial))))
          · refine List.forall_mem_cons.mpr ⟨tb_mk (o := 120) (tgt := 121) (by decide) (fun _ => ?_), ?_⟩
            · exact J_sb (t12_goes_j121 G t pv dv hdv hpv x1 x2 S) (And.intro rfl (And.intro rfl (And.intro rfl (trivial))))
            · refine List.forall_mem_cons.mpr ⟨tb_mk (o := 73) (tgt := 74) (by decide) (fun _ => ?_), ?_⟩
              · refine J_aload_n dX12_goes_74 rfl rfl ?_
                refine J_bipush (v := nI 60) dX12_goes_75 (by decide) ?_
                refine K_callV_v (As := [vI (nI 60)]) mcX12_ranBody mlX12_344 rfl (by decide) (sq 146 rfl) (ct12_ranBody G t (nI 60) S) rfl rfl (Nat.le_of_ble_eq_true rfl) (by omega) (Nat.le_of_ble_eq_true rfl) dX12_goes_77 (fun q9 S10 => ?_)
                refine J_aload_n dX12_goes_80 rfl rfl ?_
                refine J_iconst (v := nI 5) dX12_goes_81 (by decide) ?_
                refine K_callS_i (As := [vI (nI 5)]) mcX12_above mlX12_350 (ct12_above G t (nI 5) S10) rfl rfl (Nat.le_of_ble_eq_true rfl) (by omega) (Nat.le_of_ble_eq_true rfl) dX12_goes_82 (fun q11 S12 => ?_)
                refine J_iload_n dX12_goes_85 rfl rfl ?_
                refine K_callV_i (As := [vI q11, vI x2]) mcX12_goes mlX12_365 rfl (by decide) (sq 146 rfl) (hpv q11 x2  S12) rfl rfl (Nat.le_of_ble_eq_true rfl) (by omega) (Nat.le_of_ble_eq_true rfl) dX12_goes_86 (fun q13 S14 => ?_)
                refine J_iconst (v := nI 3) dX12_goes_89 (by decide) ?_
                refine J_imul dX12_goes_90 ?_
                exact J_ireturn rfl (Nat.le_refl _) (Nat.le_refl _) rfl dX12_goes_91
              · refine List.forall_mem_cons.mpr ⟨tb_mk (o := 91) (tgt := 92) (by decide) (fun _ => ?_), ?_⟩
                · refine J_aload_n dX12_goes_92 rfl rfl ?_
                  refine J_bipush (v := nI 71) dX12_goes_93 (by decide) ?_
                  refine K_callV_v (As := [vI (nI 71)]) mcX12_ranBody mlX12_344 rfl (by decide) (sq 146 rfl) (ct12_ranBody G t (nI 71) S) rfl rfl (Nat.le_of_ble_eq_true rfl) (by omega) (Nat.le_of_ble_eq_true rfl) dX12_goes_95 (fun q15 S16 => ?_)
                  refine J_aload_n dX12_goes_98 rfl rfl ?_
                  refine J_bipush (v := nI 6) dX12_goes_99 (by decide) ?_
                  refine K_callS_i (As := [vI (nI 6)]) mcX12_above mlX12_350 (ct12_above G t (nI 6) S16) rfl rfl (Nat.le_of_ble_eq_true rfl) (by omega) (Nat.le_of_ble_eq_true rfl) dX12_goes_101 (fun q17 S18 => ?_)
                  refine J_iload_n dX12_goes_104 rfl rfl ?_
                  refine K_callV_i (As := [vI q17, vI x2]) mcX12_goes mlX12_365 rfl (by decide) (sq 146 rfl) (hpv q17 x2  S18) rfl rfl (Nat.le_of_ble_eq_true rfl) (by omega) (Nat.le_of_ble_eq_true rfl) dX12_goes_105 (fun q19 S20 => ?_)
                  refine J_istore_n [some (vR (some 146)), some (vI x1), some (vI x2), some (vI q19)] dX12_goes_108 rfl (Nat.le_of_ble_eq_true rfl) rfl rfl ?_
                  refine J_iload_n dX12_goes_109 rfl rfl ?_
                  refine J_aload_n dX12_goes_110 rfl rfl ?_
                  refine J_aload_n dX12_goes_111 rfl rfl ?_
                  refine K_getI cf12 flX12_356 (sq 146 rfl) (Or.inl rfl) dX12_goes_112 ?_
                  refine J_iconst (v := nI 1) dX12_goes_115 (by decide) ?_
                  refine K_callV_i (As := [vI (S20.1 146 60), vI (nI 1)]) mcX12_costs mlX12_362 rfl (by decide) (sq 146 rfl) (ct12_costs G t 6 (S20.1 146 60) (nI 1) S20) rfl rfl (Nat.le_of_ble_eq_true rfl) (by omega) (Nat.le_of_ble_eq_true rfl) dX12_goes_116 (fun q21 S22 => ?_)
                  refine J_isub dX12_goes_119 ?_
                  exact J_ireturn rfl (Nat.le_refl _) (Nat.le_refl _) rfl dX12_goes_120
                · exact fun _ h => absurd h List.not_mem_nil
  · exact J_sb (t12_goes_j121 G t pv dv hdv hpv x1 x2 S) (And.intro rfl (And.intro rfl (And.intro rfl (trivial))))
theorem ct12_goes (G : Gm) (t : Nat) : ∀ (n : Nat) (x1 : Int32) (x2 : Int32)  (S : St), Ct G YX12_goes yX12_goes (1 * n + 16) 0 0 (fI t) (f12_goes n x1 x2 S) [vR (some 146), vI x1, vI x2] (MM t S)
  | 0, _, _, _ => fun u hu => absurd (show none = some u from hu) (by simp)
  | n + 1, x1, x2, S => by
    rw [show 1 * (n + 1) + 16 = 1 * n + 16 + 1 by omega]
    exact ct12_goes_b G t (f12_goes n) _ (by omega) (ct12_goes G t n) x1 x2 S
theorem dX12_tells_0 : decode cX12_tells 0 = .ok (.iload_n 1, 1) := by decide +kernel
theorem dX12_tells_1 : decode cX12_tells 1 = .ok (.lookupswitch 73 #[(0, 27), (4, 54)], 27) := by decide +kernel
theorem dX12_tells_28 : decode cX12_tells 28 = .ok (.aload_n 0, 1) := by decide +kernel
theorem dX12_tells_29 : decode cX12_tells 29 = .ok (.iconst 2, 1) := by decide +kernel
theorem dX12_tells_30 : decode cX12_tells 30 = .ok (.invokevirtual 344, 3) := by decide +kernel
theorem dX12_tells_33 : decode cX12_tells 33 = .ok (.aload_n 0, 1) := by decide +kernel
theorem dX12_tells_34 : decode cX12_tells 34 = .ok (.aload_n 0, 1) := by decide +kernel
theorem dX12_tells_35 : decode cX12_tells 35 = .ok (.getfield 356, 3) := by decide +kernel
theorem dX12_tells_38 : decode cX12_tells 38 = .ok (.iload_n 2, 1) := by decide +kernel
theorem dX12_tells_39 : decode cX12_tells 39 = .ok (.invokevirtual 362, 3) := by decide +kernel
theorem dX12_tells_42 : decode cX12_tells 42 = .ok (.istore_n 3, 1) := by decide +kernel
theorem dX12_tells_43 : decode cX12_tells 43 = .ok (.iload_n 3, 1) := by decide +kernel
theorem dX12_tells_44 : decode cX12_tells 44 = .ok (.aload_n 0, 1) := by decide +kernel
theorem dX12_tells_45 : decode cX12_tells 45 = .ok (.aload_n 0, 1) := by decide +kernel
theorem dX12_tells_46 : decode cX12_tells 46 = .ok (.getfield 356, 3) := by decide +kernel
theorem dX12_tells_49 : decode cX12_tells 49 = .ok (.iconst 1, 1) := by decide +kernel
theorem dX12_tells_50 : decode cX12_tells 50 = .ok (.invokevirtual 365, 3) := by decide +kernel
theorem dX12_tells_53 : decode cX12_tells 53 = .ok (.isub, 1) := by decide +kernel
theorem dX12_tells_54 : decode cX12_tells 54 = .ok (.ireturn, 1) := by decide +kernel
theorem dX12_tells_55 : decode cX12_tells 55 = .ok (.aload_n 0, 1) := by decide +kernel
theorem dX12_tells_56 : decode cX12_tells 56 = .ok (.bipush 50, 2) := by decide +kernel
theorem dX12_tells_58 : decode cX12_tells 58 = .ok (.invokevirtual 344, 3) := by decide +kernel
theorem dX12_tells_61 : decode cX12_tells 61 = .ok (.aload_n 0, 1) := by decide +kernel
theorem dX12_tells_62 : decode cX12_tells 62 = .ok (.iconst 4, 1) := by decide +kernel
theorem dX12_tells_63 : decode cX12_tells 63 = .ok (.invokestatic 350, 3) := by decide +kernel
theorem dX12_tells_66 : decode cX12_tells 66 = .ok (.iload_n 2, 1) := by decide +kernel
theorem dX12_tells_67 : decode cX12_tells 67 = .ok (.invokevirtual 368, 3) := by decide +kernel
theorem dX12_tells_70 : decode cX12_tells 70 = .ok (.bipush 6, 2) := by decide +kernel
theorem dX12_tells_72 : decode cX12_tells 72 = .ok (.ixor, 1) := by decide +kernel
theorem dX12_tells_73 : decode cX12_tells 73 = .ok (.ireturn, 1) := by decide +kernel
theorem dX12_tells_74 : decode cX12_tells 74 = .ok (.aload_n 0, 1) := by decide +kernel
theorem dX12_tells_75 : decode cX12_tells 75 = .ok (.iload_n 1, 1) := by decide +kernel
theorem dX12_tells_76 : decode cX12_tells 76 = .ok (.invokestatic 350, 3) := by decide +kernel
theorem dX12_tells_79 : decode cX12_tells 79 = .ok (.iload_n 2, 1) := by decide +kernel
theorem dX12_tells_80 : decode cX12_tells 80 = .ok (.invokevirtual 368, 3) := by decide +kernel
theorem dX12_tells_83 : decode cX12_tells 83 = .ok (.ireturn, 1) := by decide +kernel
set_option maxRecDepth 100000 in
set_option maxHeartbeats 4000000 in
theorem ct12_tells_b (G : Gm) (t : Nat) (pv : Int32 → Int32 → St → Option (Int32 × St)) (dv : Nat) (hdv : 23 ≤ dv) (hpv : ∀ (x1 : Int32) (x2 : Int32)  (S : St), Ct G YX12_tells yX12_tells dv 0 0 (fI t) (pv x1 x2 S) [vR (some 146), vI x1, vI x2] (MM t S)) (x1 : Int32) (x2 : Int32)  (S : St) : Ct G YX12_tells yX12_tells (dv + 1) 0 0 (fI t) (f12_tells_b pv x1 x2 S) [vR (some 146), vI x1, vI x2] (MM t S) := by
  refine Ct_of_J [some (vR (some 146)), some (vI x1), some (vI x2), none] (by decide) rfl (fun h => by cases h) (Nat.le_of_ble_eq_true rfl) (And.intro rfl (And.intro rfl (And.intro rfl (trivial)))) ?_
  unfold f12_tells_b
  refine J_iload_n dX12_tells_0 rfl rfl ?_
  refine J_lookup (td := 74) _ dX12_tells_1 (by decide) (by decide) (by rfl) ?_ (by decide) ?_
  · refine List.forall_mem_cons.mpr ⟨lk_mk (o := 27) (tgt := 28) (by decide) (fun _ => ?_), ?_⟩
    · refine J_aload_n dX12_tells_28 rfl rfl ?_
      refine J_iconst (v := nI 2) dX12_tells_29 (by decide) ?_
      refine K_callV_v (As := [vI (nI 2)]) mcX12_ranBody mlX12_344 rfl (by decide) (sq 146 rfl) (ct12_ranBody G t (nI 2) S) rfl rfl (Nat.le_of_ble_eq_true rfl) (by omega) (Nat.le_of_ble_eq_true rfl) dX12_tells_30 (fun q1 S2 => ?_)
      refine J_aload_n dX12_tells_33 rfl rfl ?_
      refine J_aload_n dX12_tells_34 rfl rfl ?_
      refine K_getI cf12 flX12_356 (sq 146 rfl) (Or.inl rfl) dX12_tells_35 ?_
      refine J_iload_n dX12_tells_38 rfl rfl ?_
      refine K_callV_i (As := [vI (S2.1 146 60), vI x2]) mcX12_costs mlX12_362 rfl (by decide) (sq 146 rfl) (ct12_costs G t 6 (S2.1 146 60) x2 S2) rfl rfl (Nat.le_of_ble_eq_true rfl) (by omega) (Nat.le_of_ble_eq_true rfl) dX12_tells_39 (fun q3 S4 => ?_)
      refine J_istore_n [some (vR (some 146)), some (vI x1), some (vI x2), some (vI q3)] dX12_tells_42 rfl (Nat.le_of_ble_eq_true rfl) rfl rfl ?_
      refine J_iload_n dX12_tells_43 rfl rfl ?_
      refine J_aload_n dX12_tells_44 rfl rfl ?_
      refine J_aload_n dX12_tells_45 rfl rfl ?_
      refine K_getI cf12 flX12_356 (sq 146 rfl) (Or.inl rfl) dX12_tells_46 ?_
      refine J_iconst (v := nI 1) dX12_tells_49 (by decide) ?_
      refine K_callV_i (As := [vI (S4.1 146 60), vI (nI 1)]) mcX12_goes mlX12_365 rfl (by decide) (sq 146 rfl) (ct12_goes G t 6 (S4.1 146 60) (nI 1) S4) rfl rfl (Nat.le_of_ble_eq_true rfl) (by omega) (Nat.le_of_ble_eq_true rfl) dX12_tells_50 (fun q5 S6 => ?_)
      refine J_isub dX12_tells_53 ?_
      exact J_ireturn rfl (Nat.le_refl _) (Nat.le_refl _) rfl dX12_tells_54
    · refine List.forall_mem_cons.mpr ⟨lk_mk (o := 54) (tgt := 55) (by decide) (fun _ => ?_), ?_⟩
      · refine J_aload_n dX12_tells_55 rfl rfl ?_
        refine J_bipush (v := nI 50) dX12_tells_56 (by decide) ?_
        refine K_callV_v (As := [vI (nI 50)]) mcX12_ranBody mlX12_344 rfl (by decide) (sq 146 rfl) (ct12_ranBody G t (nI 50) S) rfl rfl (Nat.le_of_ble_eq_true rfl) (by omega) (Nat.le_of_ble_eq_true rfl) dX12_tells_58 (fun q7 S8 => ?_)
        refine J_aload_n dX12_tells_61 rfl rfl ?_
        refine J_iconst (v := nI 4) dX12_tells_62 (by decide) ?_
        refine K_callS_i (As := [vI (nI 4)]) mcX12_above mlX12_350 (ct12_above G t (nI 4) S8) rfl rfl (Nat.le_of_ble_eq_true rfl) (by omega) (Nat.le_of_ble_eq_true rfl) dX12_tells_63 (fun q9 S10 => ?_)
        refine J_iload_n dX12_tells_66 rfl rfl ?_
        refine K_callV_i (As := [vI q9, vI x2]) mcX12_tells mlX12_368 rfl (by decide) (sq 146 rfl) (hpv q9 x2  S10) rfl rfl (Nat.le_of_ble_eq_true rfl) (by omega) (Nat.le_of_ble_eq_true rfl) dX12_tells_67 (fun q11 S12 => ?_)
        refine J_bipush (v := nI 6) dX12_tells_70 (by decide) ?_
        refine J_ixor dX12_tells_72 ?_
        exact J_ireturn rfl (Nat.le_refl _) (Nat.le_refl _) rfl dX12_tells_73
      · exact fun _ h => absurd h List.not_mem_nil
  · refine J_aload_n dX12_tells_74 rfl rfl ?_
    refine J_iload_n dX12_tells_75 rfl rfl ?_
    refine K_callS_i (As := [vI x1]) mcX12_above mlX12_350 (ct12_above G t x1 S) rfl rfl (Nat.le_of_ble_eq_true rfl) (by omega) (Nat.le_of_ble_eq_true rfl) dX12_tells_76 (fun q13 S14 => ?_)
    refine J_iload_n dX12_tells_79 rfl rfl ?_
    refine K_callV_i (As := [vI q13, vI x2]) mcX12_tells mlX12_368 rfl (by decide) (sq 146 rfl) (hpv q13 x2  S14) rfl rfl (Nat.le_of_ble_eq_true rfl) (by omega) (Nat.le_of_ble_eq_true rfl) dX12_tells_80 (fun q15 S16 => ?_)
    exact J_ireturn rfl (Nat.le_refl _) (Nat.le_refl _) rfl dX12_tells_83
theorem ct12_tells (G : Gm) (t : Nat) : ∀ (n : Nat) (x1 : Int32) (x2 : Int32)  (S : St), Ct G YX12_tells yX12_tells (1 * n + 23) 0 0 (fI t) (f12_tells n x1 x2 S) [vR (some 146), vI x1, vI x2] (MM t S)
  | 0, _, _, _ => fun u hu => absurd (show none = some u from hu) (by simp)
  | n + 1, x1, x2, S => by
    rw [show 1 * (n + 1) + 23 = 1 * n + 23 + 1 by omega]
    exact ct12_tells_b G t (f12_tells n) _ (by omega) (ct12_tells G t n) x1 x2 S
theorem dX12_isOrder_0 : decode cX12_isOrder 0 = .ok (.iload_n 1, 1) := by decide +kernel
theorem dX12_isOrder_1 : decode cX12_isOrder 1 = .ok (.ifCond .lt 48, 3) := by decide +kernel
theorem dX12_isOrder_4 : decode cX12_isOrder 4 = .ok (.aload_n 0, 1) := by decide +kernel
theorem dX12_isOrder_5 : decode cX12_isOrder 5 = .ok (.iload_n 1, 1) := by decide +kernel
theorem dX12_isOrder_6 : decode cX12_isOrder 6 = .ok (.bipush 100, 2) := by decide +kernel
theorem dX12_isOrder_8 : decode cX12_isOrder 8 = .ok (.idiv, 1) := by decide +kernel
theorem dX12_isOrder_9 : decode cX12_isOrder 9 = .ok (.invokevirtual 117, 3) := by decide +kernel
theorem dX12_isOrder_12 : decode cX12_isOrder 12 = .ok (.ifCond .eq 37, 3) := by decide +kernel
theorem dX12_isOrder_15 : decode cX12_isOrder 15 = .ok (.aload_n 0, 1) := by decide +kernel
theorem dX12_isOrder_16 : decode cX12_isOrder 16 = .ok (.aload_n 0, 1) := by decide +kernel
theorem dX12_isOrder_17 : decode cX12_isOrder 17 = .ok (.iload_n 1, 1) := by decide +kernel
theorem dX12_isOrder_18 : decode cX12_isOrder 18 = .ok (.bipush 100, 2) := by decide +kernel
theorem dX12_isOrder_20 : decode cX12_isOrder 20 = .ok (.idiv, 1) := by decide +kernel
theorem dX12_isOrder_21 : decode cX12_isOrder 21 = .ok (.invokevirtual 117, 3) := by decide +kernel
theorem dX12_isOrder_24 : decode cX12_isOrder 24 = .ok (.ifCond .eq 10, 3) := by decide +kernel
theorem dX12_isOrder_27 : decode cX12_isOrder 27 = .ok (.iload_n 1, 1) := by decide +kernel
theorem dX12_isOrder_28 : decode cX12_isOrder 28 = .ok (.bipush 100, 2) := by decide +kernel
theorem dX12_isOrder_30 : decode cX12_isOrder 30 = .ok (.idiv, 1) := by decide +kernel
theorem dX12_isOrder_31 : decode cX12_isOrder 31 = .ok (.goto 4, 3) := by decide +kernel
theorem dX12_isOrder_34 : decode cX12_isOrder 34 = .ok (.iconst 0, 1) := by decide +kernel
theorem dX12_isOrder_35 : decode cX12_isOrder 35 = .ok (.iload_n 1, 1) := by decide +kernel
theorem dX12_isOrder_36 : decode cX12_isOrder 36 = .ok (.bipush 100, 2) := by decide +kernel
theorem dX12_isOrder_38 : decode cX12_isOrder 38 = .ok (.irem, 1) := by decide +kernel
theorem dX12_isOrder_39 : decode cX12_isOrder 39 = .ok (.invokevirtual 124, 3) := by decide +kernel
theorem dX12_isOrder_42 : decode cX12_isOrder 42 = .ok (.ifCond .eq 7, 3) := by decide +kernel
theorem dX12_isOrder_45 : decode cX12_isOrder 45 = .ok (.iconst 1, 1) := by decide +kernel
theorem dX12_isOrder_46 : decode cX12_isOrder 46 = .ok (.goto 4, 3) := by decide +kernel
theorem dX12_isOrder_49 : decode cX12_isOrder 49 = .ok (.iconst 0, 1) := by decide +kernel
theorem dX12_isOrder_50 : decode cX12_isOrder 50 = .ok (.ireturn, 1) := by decide +kernel
set_option maxRecDepth 100000 in
set_option maxHeartbeats 4000000 in
theorem t12_isOrder_j35 (G : Gm) (t : Nat)  (x1 : Int32)    : ∀ (xs0 : Int32) (S : St), J G YX12_isOrder 3 0 0 (fI t) 0 0 35 [none, some (vI x1)] [vI xs0, vR (some 146)] (MM t S) (f12_isOrder_j35 x1 xs0 S) := by
  intro xs0 S
  unfold f12_isOrder_j35
  refine J_iload_n dX12_isOrder_35 rfl rfl ?_
  refine J_bipush (v := nI 100) dX12_isOrder_36 (by decide) ?_
  refine J_irem (by decide) dX12_isOrder_38 ?_
  refine K_callV_i (As := [vI xs0, vI (remI x1 (nI 100))]) mcX12_hasOrder mlX12_124 rfl (by decide) (sq 146 rfl) (ct12_hasOrder G t xs0 (remI x1 (nI 100)) S) rfl rfl (Nat.le_of_ble_eq_true rfl) (by decide) (Nat.le_of_ble_eq_true rfl) dX12_isOrder_39 (fun q1 S2 => ?_)
  refine J_if_eq (tgt := 49) dX12_isOrder_42 (by decide) (fun z3 => ?_) (fun z3 => ?_)
  · refine J_iconst (v := nI 0) dX12_isOrder_49 (by decide) ?_
    exact J_zreturn (by decide) rfl (Nat.le_refl _) (Nat.le_refl _) rfl dX12_isOrder_50
  · refine J_iconst (v := nI 1) dX12_isOrder_45 (by decide) ?_
    refine J_goto (tgt := 50) dX12_isOrder_46 (by decide) ?_
    exact J_zreturn (by decide) rfl (Nat.le_refl _) (Nat.le_refl _) rfl dX12_isOrder_50
set_option maxRecDepth 100000 in
set_option maxHeartbeats 4000000 in
theorem ct12_isOrder (G : Gm) (t : Nat)  (x1 : Int32)  (S : St) : Ct G YX12_isOrder yX12_isOrder 3 0 0 (fI t) (f12_isOrder x1 S) [vR (some 146), vI x1] (MM t S) := by
  refine Ct_of_J [some (vR (some 146)), some (vI x1)] (by decide) rfl (fun h => by cases h) (Nat.le_of_ble_eq_true rfl) (And.intro rfl (And.intro rfl (trivial))) ?_
  unfold f12_isOrder
  refine J_iload_n dX12_isOrder_0 rfl rfl ?_
  refine J_if_lt (tgt := 49) dX12_isOrder_1 (by decide) (fun z1 => ?_) (fun z1 => ?_)
  · refine J_iconst (v := nI 0) dX12_isOrder_49 (by decide) ?_
    exact J_zreturn (by decide) rfl (Nat.le_refl _) (Nat.le_refl _) rfl dX12_isOrder_50
  · refine J_aload_n dX12_isOrder_4 rfl rfl ?_
    refine J_iload_n dX12_isOrder_5 rfl rfl ?_
    refine J_bipush (v := nI 100) dX12_isOrder_6 (by decide) ?_
    refine J_idiv (by decide) dX12_isOrder_8 ?_
    refine K_callV_i (As := [vI (x1 / (nI 100))]) mcX12_isLanguage mlX12_117 rfl (by decide) (sq 146 rfl) (ct12_isLanguage G t (x1 / (nI 100)) S) rfl rfl (Nat.le_of_ble_eq_true rfl) (by decide) (Nat.le_of_ble_eq_true rfl) dX12_isOrder_9 (fun q2 S3 => ?_)
    refine J_if_eq (tgt := 49) dX12_isOrder_12 (by decide) (fun z4 => ?_) (fun z4 => ?_)
    · refine J_iconst (v := nI 0) dX12_isOrder_49 (by decide) ?_
      exact J_zreturn (by decide) rfl (Nat.le_refl _) (Nat.le_refl _) rfl dX12_isOrder_50
    · refine J_aload_n dX12_isOrder_15 rfl rfl ?_
      refine J_aload_n dX12_isOrder_16 rfl rfl ?_
      refine J_iload_n dX12_isOrder_17 rfl rfl ?_
      refine J_bipush (v := nI 100) dX12_isOrder_18 (by decide) ?_
      refine J_idiv (by decide) dX12_isOrder_20 ?_
      refine K_callV_i (As := [vI (x1 / (nI 100))]) mcX12_isLanguage mlX12_117 rfl (by decide) (sq 146 rfl) (ct12_isLanguage G t (x1 / (nI 100)) S3) rfl rfl (Nat.le_of_ble_eq_true rfl) (by decide) (Nat.le_of_ble_eq_true rfl) dX12_isOrder_21 (fun q5 S6 => ?_)
      refine J_if_eq (tgt := 34) dX12_isOrder_24 (by decide) (fun z7 => ?_) (fun z7 => ?_)
      · refine J_iconst (v := nI 0) dX12_isOrder_34 (by decide) ?_
        exact J_sb (t12_isOrder_j35 G t x1 (nI 0) S6) (And.intro rfl (trivial))
      · refine J_iload_n dX12_isOrder_27 rfl rfl ?_
        refine J_bipush (v := nI 100) dX12_isOrder_28 (by decide) ?_
        refine J_idiv (by decide) dX12_isOrder_30 ?_
        refine J_goto (tgt := 35) dX12_isOrder_31 (by decide) ?_
        exact J_sb (t12_isOrder_j35 G t x1 (x1 / (nI 100)) S6) (And.intro rfl (trivial))
theorem dX12_act_0 : decode cX12_act 0 = .ok (.aload_n 0, 1) := by decide +kernel
theorem dX12_act_1 : decode cX12_act 1 = .ok (.iconst 0, 1) := by decide +kernel
theorem dX12_act_2 : decode cX12_act 2 = .ok (.putfield 341, 3) := by decide +kernel
theorem dX12_act_5 : decode cX12_act 5 = .ok (.aload_n 0, 1) := by decide +kernel
theorem dX12_act_6 : decode cX12_act 6 = .ok (.iload_n 1, 1) := by decide +kernel
theorem dX12_act_7 : decode cX12_act 7 = .ok (.invokevirtual 371, 3) := by decide +kernel
theorem dX12_act_10 : decode cX12_act 10 = .ok (.ifCond .eq 15, 3) := by decide +kernel
theorem dX12_act_13 : decode cX12_act 13 = .ok (.iload_n 2, 1) := by decide +kernel
theorem dX12_act_14 : decode cX12_act 14 = .ok (.i2l, 1) := by decide +kernel
theorem dX12_act_15 : decode cX12_act 15 = .ok (.lconst 0, 1) := by decide +kernel
theorem dX12_act_16 : decode cX12_act 16 = .ok (.ldc2_w 324, 3) := by decide +kernel
theorem dX12_act_19 : decode cX12_act 19 = .ok (.invokestatic 109, 3) := by decide +kernel
theorem dX12_act_22 : decode cX12_act 22 = .ok (.ifCond .ne 5, 3) := by decide +kernel
theorem dX12_act_25 : decode cX12_act 25 = .ok (.iconst 0, 1) := by decide +kernel
theorem dX12_act_26 : decode cX12_act 26 = .ok (.ireturn, 1) := by decide +kernel
theorem dX12_act_27 : decode cX12_act 27 = .ok (.aload_n 0, 1) := by decide +kernel
theorem dX12_act_28 : decode cX12_act 28 = .ok (.iload_n 1, 1) := by decide +kernel
theorem dX12_act_29 : decode cX12_act 29 = .ok (.bipush 100, 2) := by decide +kernel
theorem dX12_act_31 : decode cX12_act 31 = .ok (.irem, 1) := by decide +kernel
theorem dX12_act_32 : decode cX12_act 32 = .ok (.putfield 347, 3) := by decide +kernel
theorem dX12_act_35 : decode cX12_act 35 = .ok (.aload_n 0, 1) := by decide +kernel
theorem dX12_act_36 : decode cX12_act 36 = .ok (.aload_n 0, 1) := by decide +kernel
theorem dX12_act_37 : decode cX12_act 37 = .ok (.getfield 9, 3) := by decide +kernel
theorem dX12_act_40 : decode cX12_act 40 = .ok (.bipush 12, 2) := by decide +kernel
theorem dX12_act_42 : decode cX12_act 42 = .ok (.iload_n 1, 1) := by decide +kernel
theorem dX12_act_43 : decode cX12_act 43 = .ok (.bipush 100, 2) := by decide +kernel
theorem dX12_act_45 : decode cX12_act 45 = .ok (.idiv, 1) := by decide +kernel
theorem dX12_act_46 : decode cX12_act 46 = .ok (.imul, 1) := by decide +kernel
theorem dX12_act_47 : decode cX12_act 47 = .ok (.aload_n 0, 1) := by decide +kernel
theorem dX12_act_48 : decode cX12_act 48 = .ok (.getfield 347, 3) := by decide +kernel
theorem dX12_act_51 : decode cX12_act 51 = .ok (.iadd, 1) := by decide +kernel
theorem dX12_act_52 : decode cX12_act 52 = .ok (.iaload, 1) := by decide +kernel
theorem dX12_act_53 : decode cX12_act 53 = .ok (.putfield 359, 3) := by decide +kernel
theorem dX12_act_56 : decode cX12_act 56 = .ok (.aload_n 0, 1) := by decide +kernel
theorem dX12_act_57 : decode cX12_act 57 = .ok (.aload_n 0, 1) := by decide +kernel
theorem dX12_act_58 : decode cX12_act 58 = .ok (.getfield 347, 3) := by decide +kernel
theorem dX12_act_61 : decode cX12_act 61 = .ok (.invokestatic 374, 3) := by decide +kernel
theorem dX12_act_64 : decode cX12_act 64 = .ok (.putfield 356, 3) := by decide +kernel
theorem dX12_act_67 : decode cX12_act 67 = .ok (.iload_n 2, 1) := by decide +kernel
theorem dX12_act_68 : decode cX12_act 68 = .ok (.ifCond .ne 15, 3) := by decide +kernel
theorem dX12_act_71 : decode cX12_act 71 = .ok (.aload_n 0, 1) := by decide +kernel
theorem dX12_act_72 : decode cX12_act 72 = .ok (.aload_n 0, 1) := by decide +kernel
theorem dX12_act_73 : decode cX12_act 73 = .ok (.getfield 356, 3) := by decide +kernel
theorem dX12_act_76 : decode cX12_act 76 = .ok (.iload_n 3, 1) := by decide +kernel
theorem dX12_act_77 : decode cX12_act 77 = .ok (.invokevirtual 353, 3) := by decide +kernel
theorem dX12_act_80 : decode cX12_act 80 = .ok (.goto 46, 3) := by decide +kernel
theorem dX12_act_83 : decode cX12_act 83 = .ok (.iload_n 2, 1) := by decide +kernel
theorem dX12_act_84 : decode cX12_act 84 = .ok (.iconst 1, 1) := by decide +kernel
theorem dX12_act_85 : decode cX12_act 85 = .ok (.if_icmp .ne 15, 3) := by decide +kernel
theorem dX12_act_88 : decode cX12_act 88 = .ok (.aload_n 0, 1) := by decide +kernel
theorem dX12_act_89 : decode cX12_act 89 = .ok (.aload_n 0, 1) := by decide +kernel
theorem dX12_act_90 : decode cX12_act 90 = .ok (.getfield 356, 3) := by decide +kernel
theorem dX12_act_93 : decode cX12_act 93 = .ok (.iload_n 3, 1) := by decide +kernel
theorem dX12_act_94 : decode cX12_act 94 = .ok (.invokevirtual 362, 3) := by decide +kernel
theorem dX12_act_97 : decode cX12_act 97 = .ok (.goto 29, 3) := by decide +kernel
theorem dX12_act_100 : decode cX12_act 100 = .ok (.iload_n 2, 1) := by decide +kernel
theorem dX12_act_101 : decode cX12_act 101 = .ok (.iconst 2, 1) := by decide +kernel
theorem dX12_act_102 : decode cX12_act 102 = .ok (.if_icmp .ne 15, 3) := by decide +kernel
theorem dX12_act_105 : decode cX12_act 105 = .ok (.aload_n 0, 1) := by decide +kernel
theorem dX12_act_106 : decode cX12_act 106 = .ok (.aload_n 0, 1) := by decide +kernel
theorem dX12_act_107 : decode cX12_act 107 = .ok (.getfield 356, 3) := by decide +kernel
theorem dX12_act_110 : decode cX12_act 110 = .ok (.iload_n 3, 1) := by decide +kernel
theorem dX12_act_111 : decode cX12_act 111 = .ok (.invokevirtual 365, 3) := by decide +kernel
theorem dX12_act_114 : decode cX12_act 114 = .ok (.goto 12, 3) := by decide +kernel
theorem dX12_act_117 : decode cX12_act 117 = .ok (.aload_n 0, 1) := by decide +kernel
theorem dX12_act_118 : decode cX12_act 118 = .ok (.aload_n 0, 1) := by decide +kernel
theorem dX12_act_119 : decode cX12_act 119 = .ok (.getfield 356, 3) := by decide +kernel
theorem dX12_act_122 : decode cX12_act 122 = .ok (.iload_n 3, 1) := by decide +kernel
theorem dX12_act_123 : decode cX12_act 123 = .ok (.invokevirtual 368, 3) := by decide +kernel
theorem dX12_act_126 : decode cX12_act 126 = .ok (.ireturn, 1) := by decide +kernel
set_option maxRecDepth 100000 in
set_option maxHeartbeats 4000000 in
theorem ct12_act (G : Gm) (t : Nat)  (x1 : Int32) (x2 : Int32) (x3 : Int32)  (S : St) : Ct G YX12_act yX12_act 30 0 0 (fI t) (f12_act x1 x2 x3 S) [vR (some 146), vI x1, vI x2, vI x3] (MM t S) := by
  refine Ct_of_J [some (vR (some 146)), some (vI x1), some (vI x2), some (vI x3)] (by decide) rfl (fun h => by cases h) (Nat.le_of_ble_eq_true rfl) (And.intro rfl (And.intro rfl (And.intro rfl (And.intro rfl (trivial))))) ?_
  unfold f12_act
  refine J_aload_n dX12_act_0 rfl rfl ?_
  refine J_iconst (v := nI 0) dX12_act_1 (by decide) ?_
  refine K_putI cf12 flX12_341 (sq 146 rfl) rfl dX12_act_2 ?_
  refine J_ltS (fun S1 _ => ?_)
  refine J_aload_n dX12_act_5 rfl rfl ?_
  refine J_iload_n dX12_act_6 rfl rfl ?_
  refine K_callV_i (As := [vI x1]) mcX12_isOrder mlX12_371 rfl (by decide) (sq 146 rfl) (ct12_isOrder G t x1 S1) rfl rfl (Nat.le_of_ble_eq_true rfl) (by decide) (Nat.le_of_ble_eq_true rfl) dX12_act_7 (fun q2 S3 => ?_)
  refine J_if_eq (tgt := 25) dX12_act_10 (by decide) (fun z4 => ?_) (fun z4 => ?_)
  · refine J_iconst (v := nI 0) dX12_act_25 (by decide) ?_
    exact J_ireturn rfl (Nat.le_refl _) (Nat.le_refl _) rfl dX12_act_26
  · refine J_iload_n dX12_act_13 rfl rfl ?_
    refine J_i2l dX12_act_14 ?_
    refine J_lconst (v := lN 0) dX12_act_15 (by decide) ?_
    refine J_ldc2_w (v := lN 3) wX12_324 dX12_act_16 ?_
    refine K_callS_i (As := [vL x2.toInt64, vL (lN 0), vL (lN 3)]) mcX12_within mlX12_109 (ct12_within G t x2.toInt64 (lN 0) (lN 3) S3) rfl rfl (Nat.le_of_ble_eq_true rfl) (by decide) (Nat.le_of_ble_eq_true rfl) dX12_act_19 (fun q5 S6 => ?_)
    refine J_if_ne (tgt := 27) dX12_act_22 (by decide) (fun z7 => ?_) (fun z7 => ?_)
    · refine J_iconst (v := nI 0) dX12_act_25 (by decide) ?_
      exact J_ireturn rfl (Nat.le_refl _) (Nat.le_refl _) rfl dX12_act_26
    · refine J_aload_n dX12_act_27 rfl rfl ?_
      refine J_iload_n dX12_act_28 rfl rfl ?_
      refine J_bipush (v := nI 100) dX12_act_29 (by decide) ?_
      refine J_irem (by decide) dX12_act_31 ?_
      refine K_putI cf12 flX12_347 (sq 146 rfl) rfl dX12_act_32 ?_
      refine J_ltS (fun S8 _ => ?_)
      refine J_aload_n dX12_act_35 rfl rfl ?_
      refine J_aload_n dX12_act_36 rfl rfl ?_
      refine K_getR (r := some (147)) cf12 flX12_9 (sq 146 rfl) rfl (Or.inr ⟨_, rfl⟩) dX12_act_37 ?_
      refine J_bipush (v := nI 12) dX12_act_40 (by decide) ?_
      refine J_iload_n dX12_act_42 rfl rfl ?_
      refine J_bipush (v := nI 100) dX12_act_43 (by decide) ?_
      refine J_idiv (by decide) dX12_act_45 ?_
      refine J_imul dX12_act_46 ?_
      refine J_aload_n dX12_act_47 rfl rfl ?_
      refine K_getI cf12 flX12_347 (sq 146 rfl) (Or.inl rfl) dX12_act_48 ?_
      refine J_iadd dX12_act_51 ?_
      refine K_iald (sq 147 rfl) dX12_act_52 ?_
      refine K_putI cf12 flX12_359 (sq 146 rfl) rfl dX12_act_53 ?_
      refine J_ltS (fun S9 _ => ?_)
      refine J_aload_n dX12_act_56 rfl rfl ?_
      refine J_aload_n dX12_act_57 rfl rfl ?_
      refine K_getI cf12 flX12_347 (sq 146 rfl) (Or.inl rfl) dX12_act_58 ?_
      refine K_callS_i (As := [vI (S9.1 146 58)]) mcX12_kindOf mlX12_374 (ct12_kindOf G t (S9.1 146 58) S9) rfl rfl (Nat.le_of_ble_eq_true rfl) (by decide) (Nat.le_of_ble_eq_true rfl) dX12_act_61 (fun q10 S11 => ?_)
      refine K_putI cf12 flX12_356 (sq 146 rfl) rfl dX12_act_64 ?_
      refine J_ltS (fun S12 _ => ?_)
      refine J_iload_n dX12_act_67 rfl rfl ?_
      refine J_if_ne (tgt := 83) dX12_act_68 (by decide) (fun z13 => ?_) (fun z13 => ?_)
      · refine J_aload_n dX12_act_71 rfl rfl ?_
        refine J_aload_n dX12_act_72 rfl rfl ?_
        refine K_getI cf12 flX12_356 (sq 146 rfl) (Or.inl rfl) dX12_act_73 ?_
        refine J_iload_n dX12_act_76 rfl rfl ?_
        refine K_callV_i (As := [vI (S12.1 146 60), vI x3]) mcX12_stepsAct mlX12_353 rfl (by decide) (sq 146 rfl) (ct12_stepsAct G t 6 (S12.1 146 60) x3 S12) rfl rfl (Nat.le_of_ble_eq_true rfl) (by decide) (Nat.le_of_ble_eq_true rfl) dX12_act_77 (fun q22 S23 => ?_)
        refine J_goto (tgt := 126) dX12_act_80 (by decide) ?_
        exact J_ireturn rfl (Nat.le_refl _) (Nat.le_refl _) rfl dX12_act_126
      · refine J_iload_n dX12_act_83 rfl rfl ?_
        refine J_iconst (v := nI 1) dX12_act_84 (by decide) ?_
        refine J_icmp_ne (tgt := 100) dX12_act_85 (by decide) (fun z14 => ?_) (fun z14 => ?_)
        · refine J_aload_n dX12_act_88 rfl rfl ?_
          refine J_aload_n dX12_act_89 rfl rfl ?_
          refine K_getI cf12 flX12_356 (sq 146 rfl) (Or.inl rfl) dX12_act_90 ?_
          refine J_iload_n dX12_act_93 rfl rfl ?_
          refine K_callV_i (As := [vI (S12.1 146 60), vI x3]) mcX12_costs mlX12_362 rfl (by decide) (sq 146 rfl) (ct12_costs G t 6 (S12.1 146 60) x3 S12) rfl rfl (Nat.le_of_ble_eq_true rfl) (by decide) (Nat.le_of_ble_eq_true rfl) dX12_act_94 (fun q20 S21 => ?_)
          refine J_goto (tgt := 126) dX12_act_97 (by decide) ?_
          exact J_ireturn rfl (Nat.le_refl _) (Nat.le_refl _) rfl dX12_act_126
        · refine J_iload_n dX12_act_100 rfl rfl ?_
          refine J_iconst (v := nI 2) dX12_act_101 (by decide) ?_
          refine J_icmp_ne (tgt := 117) dX12_act_102 (by decide) (fun z15 => ?_) (fun z15 => ?_)
          · refine J_aload_n dX12_act_105 rfl rfl ?_
            refine J_aload_n dX12_act_106 rfl rfl ?_
            refine K_getI cf12 flX12_356 (sq 146 rfl) (Or.inl rfl) dX12_act_107 ?_
            refine J_iload_n dX12_act_110 rfl rfl ?_
            refine K_callV_i (As := [vI (S12.1 146 60), vI x3]) mcX12_goes mlX12_365 rfl (by decide) (sq 146 rfl) (ct12_goes G t 6 (S12.1 146 60) x3 S12) rfl rfl (Nat.le_of_ble_eq_true rfl) (by decide) (Nat.le_of_ble_eq_true rfl) dX12_act_111 (fun q18 S19 => ?_)
            refine J_goto (tgt := 126) dX12_act_114 (by decide) ?_
            exact J_ireturn rfl (Nat.le_refl _) (Nat.le_refl _) rfl dX12_act_126
          · refine J_aload_n dX12_act_117 rfl rfl ?_
            refine J_aload_n dX12_act_118 rfl rfl ?_
            refine K_getI cf12 flX12_356 (sq 146 rfl) (Or.inl rfl) dX12_act_119 ?_
            refine J_iload_n dX12_act_122 rfl rfl ?_
            refine K_callV_i (As := [vI (S12.1 146 60), vI x3]) mcX12_tells mlX12_368 rfl (by decide) (sq 146 rfl) (ct12_tells G t 6 (S12.1 146 60) x3 S12) rfl rfl (Nat.le_of_ble_eq_true rfl) (by decide) (Nat.le_of_ble_eq_true rfl) dX12_act_123 (fun q16 S17 => ?_)
            exact J_ireturn rfl (Nat.le_refl _) (Nat.le_refl _) rfl dX12_act_126
theorem dX12_trace_0 : decode cX12_trace 0 = .ok (.iload_n 1, 1) := by decide +kernel
theorem dX12_trace_1 : decode cX12_trace 1 = .ok (.ifCond .lt 26, 3) := by decide +kernel
theorem dX12_trace_4 : decode cX12_trace 4 = .ok (.iload_n 1, 1) := by decide +kernel
theorem dX12_trace_5 : decode cX12_trace 5 = .ok (.aload_n 0, 1) := by decide +kernel
theorem dX12_trace_6 : decode cX12_trace 6 = .ok (.getfield 341, 3) := by decide +kernel
theorem dX12_trace_9 : decode cX12_trace 9 = .ok (.if_icmp .ge 18, 3) := by decide +kernel
theorem dX12_trace_12 : decode cX12_trace 12 = .ok (.iload_n 1, 1) := by decide +kernel
theorem dX12_trace_13 : decode cX12_trace 13 = .ok (.bipush 24, 2) := by decide +kernel
theorem dX12_trace_15 : decode cX12_trace 15 = .ok (.if_icmp .ge 12, 3) := by decide +kernel
theorem dX12_trace_18 : decode cX12_trace 18 = .ok (.aload_n 0, 1) := by decide +kernel
theorem dX12_trace_19 : decode cX12_trace 19 = .ok (.getfield 85, 3) := by decide +kernel
theorem dX12_trace_22 : decode cX12_trace 22 = .ok (.iload_n 1, 1) := by decide +kernel
theorem dX12_trace_23 : decode cX12_trace 23 = .ok (.iaload, 1) := by decide +kernel
theorem dX12_trace_24 : decode cX12_trace 24 = .ok (.goto 4, 3) := by decide +kernel
theorem dX12_trace_27 : decode cX12_trace 27 = .ok (.iconst (-1), 1) := by decide +kernel
theorem dX12_trace_28 : decode cX12_trace 28 = .ok (.ireturn, 1) := by decide +kernel
set_option maxRecDepth 100000 in
set_option maxHeartbeats 4000000 in
theorem ct12_trace (G : Gm) (t : Nat)  (x1 : Int32)  (S : St) : Ct G YX12_trace yX12_trace 1 0 0 (fI t) (f12_trace x1 S) [vR (some 146), vI x1] (MM t S) := by
  refine Ct_of_J [some (vR (some 146)), some (vI x1)] (by decide) rfl (fun h => by cases h) (Nat.le_of_ble_eq_true rfl) (And.intro rfl (And.intro rfl (trivial))) ?_
  unfold f12_trace
  refine J_iload_n dX12_trace_0 rfl rfl ?_
  refine J_if_lt (tgt := 27) dX12_trace_1 (by decide) (fun z1 => ?_) (fun z1 => ?_)
  · refine J_iconst (v := (-1)) dX12_trace_27 (by decide) ?_
    exact J_ireturn rfl (Nat.le_refl _) (Nat.le_refl _) rfl dX12_trace_28
  · refine J_iload_n dX12_trace_4 rfl rfl ?_
    refine J_aload_n dX12_trace_5 rfl rfl ?_
    refine K_getI cf12 flX12_341 (sq 146 rfl) (Or.inl rfl) dX12_trace_6 ?_
    refine J_icmp_ge (tgt := 27) dX12_trace_9 (by decide) (fun z2 => ?_) (fun z2 => ?_)
    · refine J_iconst (v := (-1)) dX12_trace_27 (by decide) ?_
      exact J_ireturn rfl (Nat.le_refl _) (Nat.le_refl _) rfl dX12_trace_28
    · refine J_iload_n dX12_trace_12 rfl rfl ?_
      refine J_bipush (v := nI 24) dX12_trace_13 (by decide) ?_
      refine J_icmp_ge (tgt := 27) dX12_trace_15 (by decide) (fun z3 => ?_) (fun z3 => ?_)
      · refine J_iconst (v := (-1)) dX12_trace_27 (by decide) ?_
        exact J_ireturn rfl (Nat.le_refl _) (Nat.le_refl _) rfl dX12_trace_28
      · refine J_aload_n dX12_trace_18 rfl rfl ?_
        refine K_getR (r := some (169)) cf12 flX12_85 (sq 146 rfl) rfl (Or.inr ⟨_, rfl⟩) dX12_trace_19 ?_
        refine J_iload_n dX12_trace_22 rfl rfl ?_
        refine K_iald (sq 169 rfl) dX12_trace_23 ?_
        refine J_goto (tgt := 28) dX12_trace_24 (by decide) ?_
        exact J_ireturn rfl (Nat.le_refl _) (Nat.le_refl _) rfl dX12_trace_28
theorem dX12_isShelf_0 : decode cX12_isShelf 0 = .ok (.iload_n 0, 1) := by decide +kernel
theorem dX12_isShelf_1 : decode cX12_isShelf 1 = .ok (.i2l, 1) := by decide +kernel
theorem dX12_isShelf_2 : decode cX12_isShelf 2 = .ok (.lconst 0, 1) := by decide +kernel
theorem dX12_isShelf_3 : decode cX12_isShelf 3 = .ok (.ldc2_w 377, 3) := by decide +kernel
theorem dX12_isShelf_6 : decode cX12_isShelf 6 = .ok (.invokestatic 109, 3) := by decide +kernel
theorem dX12_isShelf_9 : decode cX12_isShelf 9 = .ok (.ireturn, 1) := by decide +kernel
set_option maxRecDepth 100000 in
set_option maxHeartbeats 4000000 in
theorem ct12_isShelf (G : Gm) (t : Nat)  (x0 : Int32)  (S : St) : Ct G YX12_isShelf yX12_isShelf 2 0 0 (fI t) (f12_isShelf x0 S) [vI x0] (MM t S) := by
  refine Ct_of_J [some (vI x0)] (by decide) rfl (fun h => by cases h) (Nat.le_of_ble_eq_true rfl) (And.intro rfl (trivial)) ?_
  unfold f12_isShelf
  refine J_iload_n dX12_isShelf_0 rfl rfl ?_
  refine J_i2l dX12_isShelf_1 ?_
  refine J_lconst (v := lN 0) dX12_isShelf_2 (by decide) ?_
  refine J_ldc2_w (v := lN 5) wX12_377 dX12_isShelf_3 ?_
  refine K_callS_i (As := [vL x0.toInt64, vL (lN 0), vL (lN 5)]) mcX12_within mlX12_109 (ct12_within G t x0.toInt64 (lN 0) (lN 5) S) rfl rfl (Nat.le_of_ble_eq_true rfl) (by decide) (Nat.le_of_ble_eq_true rfl) dX12_isShelf_6 (fun q1 S2 => ?_)
  refine J_ckB (fun hz => ?_)
  exact J_zreturn hz rfl (Nat.le_refl _) (Nat.le_refl _) rfl dX12_isShelf_9
theorem dX12_keep_0 : decode cX12_keep 0 = .ok (.iload_n 1, 1) := by decide +kernel
theorem dX12_keep_1 : decode cX12_keep 1 = .ok (.invokestatic 379, 3) := by decide +kernel
theorem dX12_keep_4 : decode cX12_keep 4 = .ok (.ifCond .eq 16, 3) := by decide +kernel
theorem dX12_keep_7 : decode cX12_keep 7 = .ok (.iload_n 2, 1) := by decide +kernel
theorem dX12_keep_8 : decode cX12_keep 8 = .ok (.iconst (-1), 1) := by decide +kernel
theorem dX12_keep_9 : decode cX12_keep 9 = .ok (.if_icmp .eq 13, 3) := by decide +kernel
theorem dX12_keep_12 : decode cX12_keep 12 = .ok (.aload_n 0, 1) := by decide +kernel
theorem dX12_keep_13 : decode cX12_keep 13 = .ok (.iload_n 2, 1) := by decide +kernel
theorem dX12_keep_14 : decode cX12_keep 14 = .ok (.invokevirtual 371, 3) := by decide +kernel
theorem dX12_keep_17 : decode cX12_keep 17 = .ok (.ifCond .ne 5, 3) := by decide +kernel
theorem dX12_keep_20 : decode cX12_keep 20 = .ok (.iconst (-1), 1) := by decide +kernel
theorem dX12_keep_21 : decode cX12_keep 21 = .ok (.ireturn, 1) := by decide +kernel
theorem dX12_keep_22 : decode cX12_keep 22 = .ok (.aload_n 0, 1) := by decide +kernel
theorem dX12_keep_23 : decode cX12_keep 23 = .ok (.getfield 88, 3) := by decide +kernel
theorem dX12_keep_26 : decode cX12_keep 26 = .ok (.iload_n 1, 1) := by decide +kernel
theorem dX12_keep_27 : decode cX12_keep 27 = .ok (.iload_n 2, 1) := by decide +kernel
theorem dX12_keep_28 : decode cX12_keep 28 = .ok (.iastore, 1) := by decide +kernel
theorem dX12_keep_29 : decode cX12_keep 29 = .ok (.aload_n 0, 1) := by decide +kernel
theorem dX12_keep_30 : decode cX12_keep 30 = .ok (.getfield 91, 3) := by decide +kernel
theorem dX12_keep_33 : decode cX12_keep 33 = .ok (.iload_n 1, 1) := by decide +kernel
theorem dX12_keep_34 : decode cX12_keep 34 = .ok (.iconst 0, 1) := by decide +kernel
theorem dX12_keep_35 : decode cX12_keep 35 = .ok (.iastore, 1) := by decide +kernel
theorem dX12_keep_36 : decode cX12_keep 36 = .ok (.iconst 1, 1) := by decide +kernel
theorem dX12_keep_37 : decode cX12_keep 37 = .ok (.ireturn, 1) := by decide +kernel
set_option maxRecDepth 100000 in
set_option maxHeartbeats 4000000 in
theorem t12_keep_j22 (G : Gm) (t : Nat)  (x1 : Int32) (x2 : Int32)    : ∀  (S : St), J G YX12_keep 4 0 0 (fI t) 0 0 22 [some (vR (some 146)), some (vI x1), some (vI x2)] [] (MM t S) (f12_keep_j22 x1 x2 S) := by
  intro S
  unfold f12_keep_j22
  refine J_aload_n dX12_keep_22 rfl rfl ?_
  refine K_getR (r := some (170)) cf12 flX12_88 (sq 146 rfl) rfl (Or.inr ⟨_, rfl⟩) dX12_keep_23 ?_
  refine J_iload_n dX12_keep_26 rfl rfl ?_
  refine J_iload_n dX12_keep_27 rfl rfl ?_
  refine K_iast (sq 170 rfl) dX12_keep_28 ?_
  refine J_ltS (fun S1 _ => ?_)
  refine J_aload_n dX12_keep_29 rfl rfl ?_
  refine K_getR (r := some (171)) cf12 flX12_91 (sq 146 rfl) rfl (Or.inr ⟨_, rfl⟩) dX12_keep_30 ?_
  refine J_iload_n dX12_keep_33 rfl rfl ?_
  refine J_iconst (v := nI 0) dX12_keep_34 (by decide) ?_
  refine K_iast (sq 171 rfl) dX12_keep_35 ?_
  refine J_ltS (fun S2 _ => ?_)
  refine J_iconst (v := nI 1) dX12_keep_36 (by decide) ?_
  exact J_ireturn rfl (Nat.le_refl _) (Nat.le_refl _) rfl dX12_keep_37
set_option maxRecDepth 100000 in
set_option maxHeartbeats 4000000 in
theorem ct12_keep (G : Gm) (t : Nat)  (x1 : Int32) (x2 : Int32)  (S : St) : Ct G YX12_keep yX12_keep 4 0 0 (fI t) (f12_keep x1 x2 S) [vR (some 146), vI x1, vI x2] (MM t S) := by
  refine Ct_of_J [some (vR (some 146)), some (vI x1), some (vI x2)] (by decide) rfl (fun h => by cases h) (Nat.le_of_ble_eq_true rfl) (And.intro rfl (And.intro rfl (And.intro rfl (trivial)))) ?_
  unfold f12_keep
  refine J_iload_n dX12_keep_0 rfl rfl ?_
  refine K_callS_i (As := [vI x1]) mcX12_isShelf mlX12_379 (ct12_isShelf G t x1 S) rfl rfl (Nat.le_of_ble_eq_true rfl) (by decide) (Nat.le_of_ble_eq_true rfl) dX12_keep_1 (fun q1 S2 => ?_)
  refine J_if_eq (tgt := 20) dX12_keep_4 (by decide) (fun z3 => ?_) (fun z3 => ?_)
  · refine J_iconst (v := (-1)) dX12_keep_20 (by decide) ?_
    exact J_ireturn rfl (Nat.le_refl _) (Nat.le_refl _) rfl dX12_keep_21
  · refine J_iload_n dX12_keep_7 rfl rfl ?_
    refine J_iconst (v := (-1)) dX12_keep_8 (by decide) ?_
    refine J_icmp_eq (tgt := 22) dX12_keep_9 (by decide) (fun z4 => ?_) (fun z4 => ?_)
    · exact J_sb (t12_keep_j22 G t x1 x2 S2) (And.intro rfl (And.intro rfl (And.intro rfl (trivial))))
    · refine J_aload_n dX12_keep_12 rfl rfl ?_
      refine J_iload_n dX12_keep_13 rfl rfl ?_
      refine K_callV_i (As := [vI x2]) mcX12_isOrder mlX12_371 rfl (by decide) (sq 146 rfl) (ct12_isOrder G t x2 S2) rfl rfl (Nat.le_of_ble_eq_true rfl) (by decide) (Nat.le_of_ble_eq_true rfl) dX12_keep_14 (fun q5 S6 => ?_)
      refine J_if_ne (tgt := 22) dX12_keep_17 (by decide) (fun z7 => ?_) (fun z7 => ?_)
      · refine J_iconst (v := (-1)) dX12_keep_20 (by decide) ?_
        exact J_ireturn rfl (Nat.le_refl _) (Nat.le_refl _) rfl dX12_keep_21
      · exact J_sb (t12_keep_j22 G t x1 x2 S6) (And.intro rfl (And.intro rfl (And.intro rfl (trivial))))
theorem dX12_row_0 : decode cX12_row 0 = .ok (.iload_n 1, 1) := by decide +kernel
theorem dX12_row_1 : decode cX12_row 1 = .ok (.invokestatic 379, 3) := by decide +kernel
theorem dX12_row_4 : decode cX12_row 4 = .ok (.ifCond .eq 21, 3) := by decide +kernel
theorem dX12_row_7 : decode cX12_row 7 = .ok (.iload_n 2, 1) := by decide +kernel
theorem dX12_row_8 : decode cX12_row 8 = .ok (.i2l, 1) := by decide +kernel
theorem dX12_row_9 : decode cX12_row 9 = .ok (.lconst 0, 1) := by decide +kernel
theorem dX12_row_10 : decode cX12_row 10 = .ok (.ldc2_w 211, 3) := by decide +kernel
theorem dX12_row_13 : decode cX12_row 13 = .ok (.invokestatic 109, 3) := by decide +kernel
theorem dX12_row_16 : decode cX12_row 16 = .ok (.ifCond .eq 9, 3) := by decide +kernel
theorem dX12_row_19 : decode cX12_row 19 = .ok (.iload_n 3, 1) := by decide +kernel
theorem dX12_row_20 : decode cX12_row 20 = .ok (.bipush 60, 2) := by decide +kernel
theorem dX12_row_22 : decode cX12_row 22 = .ok (.if_icmp .le 5, 3) := by decide +kernel
theorem dX12_row_25 : decode cX12_row 25 = .ok (.iconst (-1), 1) := by decide +kernel
theorem dX12_row_26 : decode cX12_row 26 = .ok (.ireturn, 1) := by decide +kernel
theorem dX12_row_27 : decode cX12_row 27 = .ok (.iload_n 3, 1) := by decide +kernel
theorem dX12_row_28 : decode cX12_row 28 = .ok (.ifCond .ge 6, 3) := by decide +kernel
theorem dX12_row_31 : decode cX12_row 31 = .ok (.bipush (-14), 2) := by decide +kernel
theorem dX12_row_33 : decode cX12_row 33 = .ok (.ireturn, 1) := by decide +kernel
theorem dX12_row_34 : decode cX12_row 34 = .ok (.aload_n 0, 1) := by decide +kernel
theorem dX12_row_35 : decode cX12_row 35 = .ok (.getfield 88, 3) := by decide +kernel
theorem dX12_row_38 : decode cX12_row 38 = .ok (.iload_n 1, 1) := by decide +kernel
theorem dX12_row_39 : decode cX12_row 39 = .ok (.sipush 1000, 3) := by decide +kernel
theorem dX12_row_42 : decode cX12_row 42 = .ok (.iload_n 2, 1) := by decide +kernel
theorem dX12_row_43 : decode cX12_row 43 = .ok (.iadd, 1) := by decide +kernel
theorem dX12_row_44 : decode cX12_row 44 = .ok (.iastore, 1) := by decide +kernel
theorem dX12_row_45 : decode cX12_row 45 = .ok (.aload_n 0, 1) := by decide +kernel
theorem dX12_row_46 : decode cX12_row 46 = .ok (.getfield 91, 3) := by decide +kernel
theorem dX12_row_49 : decode cX12_row 49 = .ok (.iload_n 1, 1) := by decide +kernel
theorem dX12_row_50 : decode cX12_row 50 = .ok (.iload_n 3, 1) := by decide +kernel
theorem dX12_row_51 : decode cX12_row 51 = .ok (.iastore, 1) := by decide +kernel
theorem dX12_row_52 : decode cX12_row 52 = .ok (.bipush 60, 2) := by decide +kernel
theorem dX12_row_54 : decode cX12_row 54 = .ok (.iload_n 1, 1) := by decide +kernel
theorem dX12_row_55 : decode cX12_row 55 = .ok (.imul, 1) := by decide +kernel
theorem dX12_row_56 : decode cX12_row 56 = .ok (.istore 4, 2) := by decide +kernel
theorem dX12_row_58 : decode cX12_row 58 = .ok (.iload 4, 2) := by decide +kernel
theorem dX12_row_60 : decode cX12_row 60 = .ok (.bipush 60, 2) := by decide +kernel
theorem dX12_row_62 : decode cX12_row 62 = .ok (.iload_n 1, 1) := by decide +kernel
theorem dX12_row_63 : decode cX12_row 63 = .ok (.imul, 1) := by decide +kernel
theorem dX12_row_64 : decode cX12_row 64 = .ok (.bipush 60, 2) := by decide +kernel
theorem dX12_row_66 : decode cX12_row 66 = .ok (.iadd, 1) := by decide +kernel
theorem dX12_row_67 : decode cX12_row 67 = .ok (.if_icmp .ge 17, 3) := by decide +kernel
theorem dX12_row_70 : decode cX12_row 70 = .ok (.aload_n 0, 1) := by decide +kernel
theorem dX12_row_71 : decode cX12_row 71 = .ok (.getfield 94, 3) := by decide +kernel
theorem dX12_row_74 : decode cX12_row 74 = .ok (.iload 4, 2) := by decide +kernel
theorem dX12_row_76 : decode cX12_row 76 = .ok (.lconst 0, 1) := by decide +kernel
theorem dX12_row_77 : decode cX12_row 77 = .ok (.lastore, 1) := by decide +kernel
theorem dX12_row_78 : decode cX12_row 78 = .ok (.iinc 4 1, 3) := by decide +kernel
theorem dX12_row_81 : decode cX12_row 81 = .ok (.goto (-23), 3) := by decide +kernel
theorem dX12_row_84 : decode cX12_row 84 = .ok (.iconst 1, 1) := by decide +kernel
theorem dX12_row_85 : decode cX12_row 85 = .ok (.ireturn, 1) := by decide +kernel
set_option maxRecDepth 100000 in
set_option maxHeartbeats 4000000 in
theorem t12_row_h58 (G : Gm) (t : Nat) (N : Nat) (x1 : Int32)    : ∀ (n : Nat) (x4 : Int32) (S : St), J G YX12_row 3 0 0 (fI t) 0 0 58 [some (vR (some 146)), some (vI x1), none, none, some (vI x4)] [] (MM t S) (f12_row_h58 N x1 n x4 S) := by
  intro n
  induction n with
  | zero => intro x4 S; exact J_none
  | succ n ih =>
    intro x4 S
    rw [f12_row_h58]
    refine J_iload dX12_row_58 rfl ?_
    refine J_bipush (v := nI 60) dX12_row_60 (by decide) ?_
    refine J_iload_n dX12_row_62 rfl rfl ?_
    refine J_imul dX12_row_63 ?_
    refine J_bipush (v := nI 60) dX12_row_64 (by decide) ?_
    refine J_iadd dX12_row_66 ?_
    refine J_icmp_ge (tgt := 84) dX12_row_67 (by decide) (fun z1 => ?_) (fun z1 => ?_)
    · refine J_iconst (v := nI 1) dX12_row_84 (by decide) ?_
      exact J_ireturn rfl (Nat.le_refl _) (Nat.le_refl _) rfl dX12_row_85
    · refine J_aload_n dX12_row_70 rfl rfl ?_
      refine K_getR (r := some (172)) cf12 flX12_94 (sq 146 rfl) rfl (Or.inr ⟨_, rfl⟩) dX12_row_71 ?_
      refine J_iload dX12_row_74 rfl ?_
      refine J_lconst (v := lN 0) dX12_row_76 (by decide) ?_
      refine K_last (sq 172 rfl) dX12_row_77 ?_
      refine J_ltS (fun S2 _ => ?_)
      refine J_iinc (v := x4 + nI 1) [some (vR (some 146)), some (vI x1), none, none, some (vI (x4 + nI 1))] dX12_row_78 rfl rfl (Nat.le_of_ble_eq_true rfl) rfl rfl ?_
      refine J_goto (tgt := 58) dX12_row_81 (by decide) ?_
      exact J_sb (ih (x4 + nI 1) S2) (And.intro rfl (And.intro rfl (And.intro rfl (trivial))))
set_option maxRecDepth 100000 in
set_option maxHeartbeats 4000000 in
theorem ct12_row (G : Gm) (t : Nat) (N : Nat) (x1 : Int32) (x2 : Int32) (x3 : Int32)  (S : St) : Ct G YX12_row yX12_row 3 0 0 (fI t) (f12_row N x1 x2 x3 S) [vR (some 146), vI x1, vI x2, vI x3] (MM t S) := by
  refine Ct_of_J [some (vR (some 146)), some (vI x1), some (vI x2), some (vI x3), none] (by decide) rfl (fun h => by cases h) (Nat.le_of_ble_eq_true rfl) (And.intro rfl (And.intro rfl (And.intro rfl (And.intro rfl (trivial))))) ?_
  unfold f12_row
  refine J_iload_n dX12_row_0 rfl rfl ?_
  refine K_callS_i (As := [vI x1]) mcX12_isShelf mlX12_379 (ct12_isShelf G t x1 S) rfl rfl (Nat.le_of_ble_eq_true rfl) (by decide) (Nat.le_of_ble_eq_true rfl) dX12_row_1 (fun q1 S2 => ?_)
  refine J_if_eq (tgt := 25) dX12_row_4 (by decide) (fun z3 => ?_) (fun z3 => ?_)
  · refine J_iconst (v := (-1)) dX12_row_25 (by decide) ?_
    exact J_ireturn rfl (Nat.le_refl _) (Nat.le_refl _) rfl dX12_row_26
  · refine J_iload_n dX12_row_7 rfl rfl ?_
    refine J_i2l dX12_row_8 ?_
    refine J_lconst (v := lN 0) dX12_row_9 (by decide) ?_
    refine J_ldc2_w (v := lN 4) wX12_211 dX12_row_10 ?_
    refine K_callS_i (As := [vL x2.toInt64, vL (lN 0), vL (lN 4)]) mcX12_within mlX12_109 (ct12_within G t x2.toInt64 (lN 0) (lN 4) S2) rfl rfl (Nat.le_of_ble_eq_true rfl) (by decide) (Nat.le_of_ble_eq_true rfl) dX12_row_13 (fun q4 S5 => ?_)
    refine J_if_eq (tgt := 25) dX12_row_16 (by decide) (fun z6 => ?_) (fun z6 => ?_)
    · refine J_iconst (v := (-1)) dX12_row_25 (by decide) ?_
      exact J_ireturn rfl (Nat.le_refl _) (Nat.le_refl _) rfl dX12_row_26
    · refine J_iload_n dX12_row_19 rfl rfl ?_
      refine J_bipush (v := nI 60) dX12_row_20 (by decide) ?_
      refine J_icmp_le (tgt := 27) dX12_row_22 (by decide) (fun z7 => ?_) (fun z7 => ?_)
      · refine J_iload_n dX12_row_27 rfl rfl ?_
        refine J_if_ge (tgt := 34) dX12_row_28 (by decide) (fun z8 => ?_) (fun z8 => ?_)
        · refine J_aload_n dX12_row_34 rfl rfl ?_
          refine K_getR (r := some (170)) cf12 flX12_88 (sq 146 rfl) rfl (Or.inr ⟨_, rfl⟩) dX12_row_35 ?_
          refine J_iload_n dX12_row_38 rfl rfl ?_
          refine J_sipush (v := nI 1000) dX12_row_39 (by decide) ?_
          refine J_iload_n dX12_row_42 rfl rfl ?_
          refine J_iadd dX12_row_43 ?_
          refine K_iast (sq 170 rfl) dX12_row_44 ?_
          refine J_ltS (fun S9 _ => ?_)
          refine J_aload_n dX12_row_45 rfl rfl ?_
          refine K_getR (r := some (171)) cf12 flX12_91 (sq 146 rfl) rfl (Or.inr ⟨_, rfl⟩) dX12_row_46 ?_
          refine J_iload_n dX12_row_49 rfl rfl ?_
          refine J_iload_n dX12_row_50 rfl rfl ?_
          refine K_iast (sq 171 rfl) dX12_row_51 ?_
          refine J_ltS (fun S10 _ => ?_)
          refine J_bipush (v := nI 60) dX12_row_52 (by decide) ?_
          refine J_iload_n dX12_row_54 rfl rfl ?_
          refine J_imul dX12_row_55 ?_
          refine J_ltI (fun v11 _ => ?_)
          refine J_istore [some (vR (some 146)), some (vI x1), some (vI x2), some (vI x3), some (vI v11)] dX12_row_56 (Nat.le_of_ble_eq_true rfl) rfl rfl ?_
          exact J_sb (t12_row_h58 G t N x1 N v11 S10) (And.intro rfl (And.intro rfl (And.intro rfl (trivial))))
        · refine J_bipush (v := (-14)) dX12_row_31 (by decide) ?_
          exact J_ireturn rfl (Nat.le_refl _) (Nat.le_refl _) rfl dX12_row_33
      · refine J_iconst (v := (-1)) dX12_row_25 (by decide) ?_
        exact J_ireturn rfl (Nat.le_refl _) (Nat.le_refl _) rfl dX12_row_26
theorem dX12_refusal_0 : decode cX12_refusal 0 = .ok (.iload_n 1, 1) := by decide +kernel
theorem dX12_refusal_1 : decode cX12_refusal 1 = .ok (.invokestatic 379, 3) := by decide +kernel
theorem dX12_refusal_4 : decode cX12_refusal 4 = .ok (.ifCond .ne 5, 3) := by decide +kernel
theorem dX12_refusal_7 : decode cX12_refusal 7 = .ok (.iconst (-1), 1) := by decide +kernel
theorem dX12_refusal_8 : decode cX12_refusal 8 = .ok (.ireturn, 1) := by decide +kernel
theorem dX12_refusal_9 : decode cX12_refusal 9 = .ok (.aload_n 0, 1) := by decide +kernel
theorem dX12_refusal_10 : decode cX12_refusal 10 = .ok (.getfield 88, 3) := by decide +kernel
theorem dX12_refusal_13 : decode cX12_refusal 13 = .ok (.iload_n 1, 1) := by decide +kernel
theorem dX12_refusal_14 : decode cX12_refusal 14 = .ok (.iaload, 1) := by decide +kernel
theorem dX12_refusal_15 : decode cX12_refusal 15 = .ok (.ifCond .ge 6, 3) := by decide +kernel
theorem dX12_refusal_18 : decode cX12_refusal 18 = .ok (.bipush (-11), 2) := by decide +kernel
theorem dX12_refusal_20 : decode cX12_refusal 20 = .ok (.ireturn, 1) := by decide +kernel
theorem dX12_refusal_21 : decode cX12_refusal 21 = .ok (.aload_n 0, 1) := by decide +kernel
theorem dX12_refusal_22 : decode cX12_refusal 22 = .ok (.getfield 88, 3) := by decide +kernel
theorem dX12_refusal_25 : decode cX12_refusal 25 = .ok (.iload_n 1, 1) := by decide +kernel
theorem dX12_refusal_26 : decode cX12_refusal 26 = .ok (.iaload, 1) := by decide +kernel
theorem dX12_refusal_27 : decode cX12_refusal 27 = .ok (.sipush 1000, 3) := by decide +kernel
theorem dX12_refusal_30 : decode cX12_refusal 30 = .ok (.if_icmp .ge 6, 3) := by decide +kernel
theorem dX12_refusal_33 : decode cX12_refusal 33 = .ok (.bipush (-12), 2) := by decide +kernel
theorem dX12_refusal_35 : decode cX12_refusal 35 = .ok (.ireturn, 1) := by decide +kernel
theorem dX12_refusal_36 : decode cX12_refusal 36 = .ok (.iload_n 2, 1) := by decide +kernel
theorem dX12_refusal_37 : decode cX12_refusal 37 = .ok (.ifCond .lt 17, 3) := by decide +kernel
theorem dX12_refusal_40 : decode cX12_refusal 40 = .ok (.iload_n 2, 1) := by decide +kernel
theorem dX12_refusal_41 : decode cX12_refusal 41 = .ok (.aload_n 0, 1) := by decide +kernel
theorem dX12_refusal_42 : decode cX12_refusal 42 = .ok (.getfield 91, 3) := by decide +kernel
theorem dX12_refusal_45 : decode cX12_refusal 45 = .ok (.iload_n 1, 1) := by decide +kernel
theorem dX12_refusal_46 : decode cX12_refusal 46 = .ok (.iaload, 1) := by decide +kernel
theorem dX12_refusal_47 : decode cX12_refusal 47 = .ok (.if_icmp .ge 7, 3) := by decide +kernel
theorem dX12_refusal_50 : decode cX12_refusal 50 = .ok (.iconst 0, 1) := by decide +kernel
theorem dX12_refusal_51 : decode cX12_refusal 51 = .ok (.goto 5, 3) := by decide +kernel
theorem dX12_refusal_54 : decode cX12_refusal 54 = .ok (.bipush (-13), 2) := by decide +kernel
theorem dX12_refusal_56 : decode cX12_refusal 56 = .ok (.ireturn, 1) := by decide +kernel
set_option maxRecDepth 100000 in
set_option maxHeartbeats 4000000 in
theorem ct12_refusal (G : Gm) (t : Nat)  (x1 : Int32) (x2 : Int32)  (S : St) : Ct G YX12_refusal yX12_refusal 3 0 0 (fI t) (f12_refusal x1 x2 S) [vR (some 146), vI x1, vI x2] (MM t S) := by
  refine Ct_of_J [some (vR (some 146)), some (vI x1), some (vI x2)] (by decide) rfl (fun h => by cases h) (Nat.le_of_ble_eq_true rfl) (And.intro rfl (And.intro rfl (And.intro rfl (trivial)))) ?_
  unfold f12_refusal
  refine J_iload_n dX12_refusal_0 rfl rfl ?_
  refine K_callS_i (As := [vI x1]) mcX12_isShelf mlX12_379 (ct12_isShelf G t x1 S) rfl rfl (Nat.le_of_ble_eq_true rfl) (by decide) (Nat.le_of_ble_eq_true rfl) dX12_refusal_1 (fun q1 S2 => ?_)
  refine J_if_ne (tgt := 9) dX12_refusal_4 (by decide) (fun z3 => ?_) (fun z3 => ?_)
  · refine J_iconst (v := (-1)) dX12_refusal_7 (by decide) ?_
    exact J_ireturn rfl (Nat.le_refl _) (Nat.le_refl _) rfl dX12_refusal_8
  · refine J_aload_n dX12_refusal_9 rfl rfl ?_
    refine K_getR (r := some (170)) cf12 flX12_88 (sq 146 rfl) rfl (Or.inr ⟨_, rfl⟩) dX12_refusal_10 ?_
    refine J_iload_n dX12_refusal_13 rfl rfl ?_
    refine K_iald (sq 170 rfl) dX12_refusal_14 ?_
    refine J_if_ge (tgt := 21) dX12_refusal_15 (by decide) (fun z4 => ?_) (fun z4 => ?_)
    · refine J_aload_n dX12_refusal_21 rfl rfl ?_
      refine K_getR (r := some (170)) cf12 flX12_88 (sq 146 rfl) rfl (Or.inr ⟨_, rfl⟩) dX12_refusal_22 ?_
      refine J_iload_n dX12_refusal_25 rfl rfl ?_
      refine K_iald (sq 170 rfl) dX12_refusal_26 ?_
      refine J_sipush (v := nI 1000) dX12_refusal_27 (by decide) ?_
      refine J_icmp_ge (tgt := 36) dX12_refusal_30 (by decide) (fun z5 => ?_) (fun z5 => ?_)
      · refine J_iload_n dX12_refusal_36 rfl rfl ?_
        refine J_if_lt (tgt := 54) dX12_refusal_37 (by decide) (fun z6 => ?_) (fun z6 => ?_)
        · refine J_bipush (v := (-13)) dX12_refusal_54 (by decide) ?_
          exact J_ireturn rfl (Nat.le_refl _) (Nat.le_refl _) rfl dX12_refusal_56
        · refine J_iload_n dX12_refusal_40 rfl rfl ?_
          refine J_aload_n dX12_refusal_41 rfl rfl ?_
          refine K_getR (r := some (171)) cf12 flX12_91 (sq 146 rfl) rfl (Or.inr ⟨_, rfl⟩) dX12_refusal_42 ?_
          refine J_iload_n dX12_refusal_45 rfl rfl ?_
          refine K_iald (sq 171 rfl) dX12_refusal_46 ?_
          refine J_icmp_ge (tgt := 54) dX12_refusal_47 (by decide) (fun z7 => ?_) (fun z7 => ?_)
          · refine J_bipush (v := (-13)) dX12_refusal_54 (by decide) ?_
            exact J_ireturn rfl (Nat.le_refl _) (Nat.le_refl _) rfl dX12_refusal_56
          · refine J_iconst (v := nI 0) dX12_refusal_50 (by decide) ?_
            refine J_goto (tgt := 56) dX12_refusal_51 (by decide) ?_
            exact J_ireturn rfl (Nat.le_refl _) (Nat.le_refl _) rfl dX12_refusal_56
      · refine J_bipush (v := (-12)) dX12_refusal_33 (by decide) ?_
        exact J_ireturn rfl (Nat.le_refl _) (Nat.le_refl _) rfl dX12_refusal_35
    · refine J_bipush (v := (-11)) dX12_refusal_18 (by decide) ?_
      exact J_ireturn rfl (Nat.le_refl _) (Nat.le_refl _) rfl dX12_refusal_20
theorem dX12_asSort_0 : decode cX12_asSort 0 = .ok (.iload_n 0, 1) := by decide +kernel
theorem dX12_asSort_1 : decode cX12_asSort 1 = .ok (.ifCond .ne 10, 3) := by decide +kernel
theorem dX12_asSort_4 : decode cX12_asSort 4 = .ok (.lload_n 1, 1) := by decide +kernel
theorem dX12_asSort_5 : decode cX12_asSort 5 = .ok (.l2i, 1) := by decide +kernel
theorem dX12_asSort_6 : decode cX12_asSort 6 = .ok (.i2b, 1) := by decide +kernel
theorem dX12_asSort_7 : decode cX12_asSort 7 = .ok (.i2l, 1) := by decide +kernel
theorem dX12_asSort_8 : decode cX12_asSort 8 = .ok (.goto 46, 3) := by decide +kernel
theorem dX12_asSort_11 : decode cX12_asSort 11 = .ok (.iload_n 0, 1) := by decide +kernel
theorem dX12_asSort_12 : decode cX12_asSort 12 = .ok (.iconst 1, 1) := by decide +kernel
theorem dX12_asSort_13 : decode cX12_asSort 13 = .ok (.if_icmp .ne 10, 3) := by decide +kernel
theorem dX12_asSort_16 : decode cX12_asSort 16 = .ok (.lload_n 1, 1) := by decide +kernel
theorem dX12_asSort_17 : decode cX12_asSort 17 = .ok (.l2i, 1) := by decide +kernel
theorem dX12_asSort_18 : decode cX12_asSort 18 = .ok (.i2s, 1) := by decide +kernel
theorem dX12_asSort_19 : decode cX12_asSort 19 = .ok (.i2l, 1) := by decide +kernel
theorem dX12_asSort_20 : decode cX12_asSort 20 = .ok (.goto 34, 3) := by decide +kernel
theorem dX12_asSort_23 : decode cX12_asSort 23 = .ok (.iload_n 0, 1) := by decide +kernel
theorem dX12_asSort_24 : decode cX12_asSort 24 = .ok (.iconst 2, 1) := by decide +kernel
theorem dX12_asSort_25 : decode cX12_asSort 25 = .ok (.if_icmp .ne 9, 3) := by decide +kernel
theorem dX12_asSort_28 : decode cX12_asSort 28 = .ok (.lload_n 1, 1) := by decide +kernel
theorem dX12_asSort_29 : decode cX12_asSort 29 = .ok (.l2i, 1) := by decide +kernel
theorem dX12_asSort_30 : decode cX12_asSort 30 = .ok (.i2l, 1) := by decide +kernel
theorem dX12_asSort_31 : decode cX12_asSort 31 = .ok (.goto 23, 3) := by decide +kernel
theorem dX12_asSort_34 : decode cX12_asSort 34 = .ok (.iload_n 0, 1) := by decide +kernel
theorem dX12_asSort_35 : decode cX12_asSort 35 = .ok (.iconst 4, 1) := by decide +kernel
theorem dX12_asSort_36 : decode cX12_asSort 36 = .ok (.if_icmp .ne 17, 3) := by decide +kernel
theorem dX12_asSort_39 : decode cX12_asSort 39 = .ok (.lload_n 1, 1) := by decide +kernel
theorem dX12_asSort_40 : decode cX12_asSort 40 = .ok (.lconst 0, 1) := by decide +kernel
theorem dX12_asSort_41 : decode cX12_asSort 41 = .ok (.lcmp, 1) := by decide +kernel
theorem dX12_asSort_42 : decode cX12_asSort 42 = .ok (.ifCond .eq 7, 3) := by decide +kernel
theorem dX12_asSort_45 : decode cX12_asSort 45 = .ok (.lconst 1, 1) := by decide +kernel
theorem dX12_asSort_46 : decode cX12_asSort 46 = .ok (.goto 8, 3) := by decide +kernel
theorem dX12_asSort_49 : decode cX12_asSort 49 = .ok (.lconst 0, 1) := by decide +kernel
theorem dX12_asSort_50 : decode cX12_asSort 50 = .ok (.goto 4, 3) := by decide +kernel
theorem dX12_asSort_53 : decode cX12_asSort 53 = .ok (.lload_n 1, 1) := by decide +kernel
theorem dX12_asSort_54 : decode cX12_asSort 54 = .ok (.lreturn, 1) := by decide +kernel
set_option maxRecDepth 100000 in
set_option maxHeartbeats 4000000 in
theorem ct12_asSort (G : Gm) (t : Nat)  (x0 : Int32) (l1 : Int64)  (S : St) : Ct G YX12_asSort yX12_asSort 1 0 0 (fL t) (f12_asSort x0 l1 S) [vI x0, vL l1] (MM t S) := by
  refine Ct_of_J [some (vI x0), some (vL l1), none] (by decide) rfl (fun h => by cases h) (Nat.le_of_ble_eq_true rfl) (And.intro rfl (And.intro rfl (trivial))) ?_
  unfold f12_asSort
  refine J_iload_n dX12_asSort_0 rfl rfl ?_
  refine J_if_ne (tgt := 11) dX12_asSort_1 (by decide) (fun z1 => ?_) (fun z1 => ?_)
  · refine J_lload_n dX12_asSort_4 rfl rfl ?_
    refine J_l2i dX12_asSort_5 ?_
    refine J_i2b dX12_asSort_6 ?_
    refine J_i2l dX12_asSort_7 ?_
    refine J_goto (tgt := 54) dX12_asSort_8 (by decide) ?_
    exact J_lreturn rfl (Nat.le_refl _) (Nat.le_refl _) rfl dX12_asSort_54
  · refine J_iload_n dX12_asSort_11 rfl rfl ?_
    refine J_iconst (v := nI 1) dX12_asSort_12 (by decide) ?_
    refine J_icmp_ne (tgt := 23) dX12_asSort_13 (by decide) (fun z2 => ?_) (fun z2 => ?_)
    · refine J_lload_n dX12_asSort_16 rfl rfl ?_
      refine J_l2i dX12_asSort_17 ?_
      refine J_i2s dX12_asSort_18 ?_
      refine J_i2l dX12_asSort_19 ?_
      refine J_goto (tgt := 54) dX12_asSort_20 (by decide) ?_
      exact J_lreturn rfl (Nat.le_refl _) (Nat.le_refl _) rfl dX12_asSort_54
    · refine J_iload_n dX12_asSort_23 rfl rfl ?_
      refine J_iconst (v := nI 2) dX12_asSort_24 (by decide) ?_
      refine J_icmp_ne (tgt := 34) dX12_asSort_25 (by decide) (fun z3 => ?_) (fun z3 => ?_)
      · refine J_lload_n dX12_asSort_28 rfl rfl ?_
        refine J_l2i dX12_asSort_29 ?_
        refine J_i2l dX12_asSort_30 ?_
        refine J_goto (tgt := 54) dX12_asSort_31 (by decide) ?_
        exact J_lreturn rfl (Nat.le_refl _) (Nat.le_refl _) rfl dX12_asSort_54
      · refine J_iload_n dX12_asSort_34 rfl rfl ?_
        refine J_iconst (v := nI 4) dX12_asSort_35 (by decide) ?_
        refine J_icmp_ne (tgt := 53) dX12_asSort_36 (by decide) (fun z4 => ?_) (fun z4 => ?_)
        · refine J_lload_n dX12_asSort_39 rfl rfl ?_
          refine J_lconst (v := lN 0) dX12_asSort_40 (by decide) ?_
          refine J_lcmp dX12_asSort_41 ?_
          refine J_if_eq (tgt := 49) dX12_asSort_42 (by decide) (fun z5 => ?_) (fun z5 => ?_)
          · refine J_lconst (v := lN 0) dX12_asSort_49 (by decide) ?_
            refine J_goto (tgt := 54) dX12_asSort_50 (by decide) ?_
            exact J_lreturn rfl (Nat.le_refl _) (Nat.le_refl _) rfl dX12_asSort_54
          · refine J_lconst (v := lN 1) dX12_asSort_45 (by decide) ?_
            refine J_goto (tgt := 54) dX12_asSort_46 (by decide) ?_
            exact J_lreturn rfl (Nat.le_refl _) (Nat.le_refl _) rfl dX12_asSort_54
        · refine J_lload_n dX12_asSort_53 rfl rfl ?_
          exact J_lreturn rfl (Nat.le_refl _) (Nat.le_refl _) rfl dX12_asSort_54
theorem dX12_put_0 : decode cX12_put 0 = .ok (.aload_n 0, 1) := by decide +kernel
theorem dX12_put_1 : decode cX12_put 1 = .ok (.iload_n 1, 1) := by decide +kernel
theorem dX12_put_2 : decode cX12_put 2 = .ok (.iload_n 2, 1) := by decide +kernel
theorem dX12_put_3 : decode cX12_put 3 = .ok (.invokevirtual 382, 3) := by decide +kernel
theorem dX12_put_6 : decode cX12_put 6 = .ok (.istore 5, 2) := by decide +kernel
theorem dX12_put_8 : decode cX12_put 8 = .ok (.iload 5, 2) := by decide +kernel
theorem dX12_put_10 : decode cX12_put 10 = .ok (.ifCond .ne 28, 3) := by decide +kernel
theorem dX12_put_13 : decode cX12_put 13 = .ok (.aload_n 0, 1) := by decide +kernel
theorem dX12_put_14 : decode cX12_put 14 = .ok (.getfield 94, 3) := by decide +kernel
theorem dX12_put_17 : decode cX12_put 17 = .ok (.bipush 60, 2) := by decide +kernel
theorem dX12_put_19 : decode cX12_put 19 = .ok (.iload_n 1, 1) := by decide +kernel
theorem dX12_put_20 : decode cX12_put 20 = .ok (.imul, 1) := by decide +kernel
theorem dX12_put_21 : decode cX12_put 21 = .ok (.iload_n 2, 1) := by decide +kernel
theorem dX12_put_22 : decode cX12_put 22 = .ok (.iadd, 1) := by decide +kernel
theorem dX12_put_23 : decode cX12_put 23 = .ok (.aload_n 0, 1) := by decide +kernel
theorem dX12_put_24 : decode cX12_put 24 = .ok (.getfield 88, 3) := by decide +kernel
theorem dX12_put_27 : decode cX12_put 27 = .ok (.iload_n 1, 1) := by decide +kernel
theorem dX12_put_28 : decode cX12_put 28 = .ok (.iaload, 1) := by decide +kernel
theorem dX12_put_29 : decode cX12_put 29 = .ok (.sipush 1000, 3) := by decide +kernel
theorem dX12_put_32 : decode cX12_put 32 = .ok (.isub, 1) := by decide +kernel
theorem dX12_put_33 : decode cX12_put 33 = .ok (.lload_n 3, 1) := by decide +kernel
theorem dX12_put_34 : decode cX12_put 34 = .ok (.invokestatic 385, 3) := by decide +kernel
theorem dX12_put_37 : decode cX12_put 37 = .ok (.lastore, 1) := by decide +kernel
theorem dX12_put_38 : decode cX12_put 38 = .ok (.iload 5, 2) := by decide +kernel
theorem dX12_put_40 : decode cX12_put 40 = .ok (.ifCond .ne 7, 3) := by decide +kernel
theorem dX12_put_43 : decode cX12_put 43 = .ok (.iconst 1, 1) := by decide +kernel
theorem dX12_put_44 : decode cX12_put 44 = .ok (.goto 5, 3) := by decide +kernel
theorem dX12_put_47 : decode cX12_put 47 = .ok (.iload 5, 2) := by decide +kernel
theorem dX12_put_49 : decode cX12_put 49 = .ok (.ireturn, 1) := by decide +kernel
set_option maxRecDepth 100000 in
set_option maxHeartbeats 4000000 in
theorem t12_put_j38 (G : Gm) (t : Nat)  (x5 : Int32)    : ∀  (S : St), J G YX12_put 4 0 0 (fI t) 0 0 38 [none, none, none, none, none, some (vI x5)] [] (MM t S) (f12_put_j38 x5 S) := by
  intro S
  unfold f12_put_j38
  refine J_iload dX12_put_38 rfl ?_
  refine J_if_ne (tgt := 47) dX12_put_40 (by decide) (fun z1 => ?_) (fun z1 => ?_)
  · refine J_iconst (v := nI 1) dX12_put_43 (by decide) ?_
    refine J_goto (tgt := 49) dX12_put_44 (by decide) ?_
    exact J_ireturn rfl (Nat.le_refl _) (Nat.le_refl _) rfl dX12_put_49
  · refine J_iload dX12_put_47 rfl ?_
    exact J_ireturn rfl (Nat.le_refl _) (Nat.le_refl _) rfl dX12_put_49
set_option maxRecDepth 100000 in
set_option maxHeartbeats 4000000 in
theorem ct12_put (G : Gm) (t : Nat)  (x1 : Int32) (x2 : Int32) (l3 : Int64)  (S : St) : Ct G YX12_put yX12_put 4 0 0 (fI t) (f12_put x1 x2 l3 S) [vR (some 146), vI x1, vI x2, vL l3] (MM t S) := by
  refine Ct_of_J [some (vR (some 146)), some (vI x1), some (vI x2), some (vL l3), none, none] (by decide) rfl (fun h => by cases h) (Nat.le_of_ble_eq_true rfl) (And.intro rfl (And.intro rfl (And.intro rfl (And.intro rfl (trivial))))) ?_
  unfold f12_put
  refine J_aload_n dX12_put_0 rfl rfl ?_
  refine J_iload_n dX12_put_1 rfl rfl ?_
  refine J_iload_n dX12_put_2 rfl rfl ?_
  refine K_callV_i (As := [vI x1, vI x2]) mcX12_refusal mlX12_382 rfl (by decide) (sq 146 rfl) (ct12_refusal G t x1 x2 S) rfl rfl (Nat.le_of_ble_eq_true rfl) (by decide) (Nat.le_of_ble_eq_true rfl) dX12_put_3 (fun q1 S2 => ?_)
  refine J_istore [some (vR (some 146)), some (vI x1), some (vI x2), some (vL l3), none, some (vI q1)] dX12_put_6 (Nat.le_of_ble_eq_true rfl) rfl rfl ?_
  refine J_iload dX12_put_8 rfl ?_
  refine J_if_ne (tgt := 38) dX12_put_10 (by decide) (fun z3 => ?_) (fun z3 => ?_)
  · refine J_aload_n dX12_put_13 rfl rfl ?_
    refine K_getR (r := some (172)) cf12 flX12_94 (sq 146 rfl) rfl (Or.inr ⟨_, rfl⟩) dX12_put_14 ?_
    refine J_bipush (v := nI 60) dX12_put_17 (by decide) ?_
    refine J_iload_n dX12_put_19 rfl rfl ?_
    refine J_imul dX12_put_20 ?_
    refine J_iload_n dX12_put_21 rfl rfl ?_
    refine J_iadd dX12_put_22 ?_
    refine J_aload_n dX12_put_23 rfl rfl ?_
    refine K_getR (r := some (170)) cf12 flX12_88 (sq 146 rfl) rfl (Or.inr ⟨_, rfl⟩) dX12_put_24 ?_
    refine J_iload_n dX12_put_27 rfl rfl ?_
    refine K_iald (sq 170 rfl) dX12_put_28 ?_
    refine J_sipush (v := nI 1000) dX12_put_29 (by decide) ?_
    refine J_isub dX12_put_32 ?_
    refine J_lload_n dX12_put_33 rfl rfl ?_
    refine K_callS_l (As := [vI ((S2.1 170 x1.toNatClampNeg) - (nI 1000)), vL l3]) mcX12_asSort mlX12_385 (ct12_asSort G t ((S2.1 170 x1.toNatClampNeg) - (nI 1000)) l3 S2) rfl rfl (Nat.le_of_ble_eq_true rfl) (by decide) (Nat.le_of_ble_eq_true rfl) dX12_put_34 (fun q4 S5 => ?_)
    refine K_last (sq 172 rfl) dX12_put_37 ?_
    refine J_ltS (fun S6 _ => ?_)
    exact J_sb (t12_put_j38 G t q1 S6) (And.intro rfl (trivial))
  · exact J_sb (t12_put_j38 G t q1 S2) (And.intro rfl (trivial))
