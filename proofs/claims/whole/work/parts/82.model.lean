theorem dX12_find_0 : decode cX12_find 0 = .ok (.aload_n 0, 1) := by decide +kernel
theorem dX12_find_1 : decode cX12_find 1 = .ok (.iload_n 1, 1) := by decide +kernel
theorem dX12_find_2 : decode cX12_find 2 = .ok (.iload_n 3, 1) := by decide +kernel
theorem dX12_find_3 : decode cX12_find 3 = .ok (.invokevirtual 203, 3) := by decide +kernel
theorem dX12_find_6 : decode cX12_find 6 = .ok (.iconst 0, 1) := by decide +kernel
theorem dX12_find_7 : decode cX12_find 7 = .ok (.istore 4, 2) := by decide +kernel
theorem dX12_find_9 : decode cX12_find 9 = .ok (.iload 4, 2) := by decide +kernel
theorem dX12_find_11 : decode cX12_find 11 = .ok (.aload_n 0, 1) := by decide +kernel
theorem dX12_find_12 : decode cX12_find 12 = .ok (.getfield 196, 3) := by decide +kernel
theorem dX12_find_15 : decode cX12_find 15 = .ok (.if_icmp .ge 17, 3) := by decide +kernel
theorem dX12_find_18 : decode cX12_find 18 = .ok (.aload_n 0, 1) := by decide +kernel
theorem dX12_find_19 : decode cX12_find 19 = .ok (.getfield 72, 3) := by decide +kernel
theorem dX12_find_22 : decode cX12_find 22 = .ok (.iload 4, 2) := by decide +kernel
theorem dX12_find_24 : decode cX12_find 24 = .ok (.iconst 0, 1) := by decide +kernel
theorem dX12_find_25 : decode cX12_find 25 = .ok (.bastore, 1) := by decide +kernel
theorem dX12_find_26 : decode cX12_find 26 = .ok (.iinc 4 1, 3) := by decide +kernel
theorem dX12_find_29 : decode cX12_find 29 = .ok (.goto (-20), 3) := by decide +kernel
theorem dX12_find_32 : decode cX12_find 32 = .ok (.aload_n 0, 1) := by decide +kernel
theorem dX12_find_33 : decode cX12_find 33 = .ok (.iconst 0, 1) := by decide +kernel
theorem dX12_find_34 : decode cX12_find 34 = .ok (.putfield 274, 3) := by decide +kernel
theorem dX12_find_37 : decode cX12_find 37 = .ok (.aload_n 0, 1) := by decide +kernel
theorem dX12_find_38 : decode cX12_find 38 = .ok (.iconst 0, 1) := by decide +kernel
theorem dX12_find_39 : decode cX12_find 39 = .ok (.putfield 277, 3) := by decide +kernel
theorem dX12_find_42 : decode cX12_find 42 = .ok (.aload_n 0, 1) := by decide +kernel
theorem dX12_find_43 : decode cX12_find 43 = .ok (.iconst 0, 1) := by decide +kernel
theorem dX12_find_44 : decode cX12_find 44 = .ok (.putfield 280, 3) := by decide +kernel
theorem dX12_find_47 : decode cX12_find 47 = .ok (.aload_n 0, 1) := by decide +kernel
theorem dX12_find_48 : decode cX12_find 48 = .ok (.bipush (-2), 2) := by decide +kernel
theorem dX12_find_50 : decode cX12_find 50 = .ok (.putfield 283, 3) := by decide +kernel
theorem dX12_find_53 : decode cX12_find 53 = .ok (.iconst 1, 1) := by decide +kernel
theorem dX12_find_54 : decode cX12_find 54 = .ok (.istore 4, 2) := by decide +kernel
theorem dX12_find_56 : decode cX12_find 56 = .ok (.iload 4, 2) := by decide +kernel
theorem dX12_find_58 : decode cX12_find 58 = .ok (.iload_n 3, 1) := by decide +kernel
theorem dX12_find_59 : decode cX12_find 59 = .ok (.if_icmp .gt 231, 3) := by decide +kernel
theorem dX12_find_62 : decode cX12_find 62 = .ok (.iconst 0, 1) := by decide +kernel
theorem dX12_find_63 : decode cX12_find 63 = .ok (.istore 5, 2) := by decide +kernel
theorem dX12_find_65 : decode cX12_find 65 = .ok (.iload 5, 2) := by decide +kernel
theorem dX12_find_67 : decode cX12_find 67 = .ok (.aload_n 0, 1) := by decide +kernel
theorem dX12_find_68 : decode cX12_find 68 = .ok (.getfield 196, 3) := by decide +kernel
theorem dX12_find_71 : decode cX12_find 71 = .ok (.if_icmp .ge 213, 3) := by decide +kernel
theorem dX12_find_74 : decode cX12_find 74 = .ok (.aload_n 0, 1) := by decide +kernel
theorem dX12_find_75 : decode cX12_find 75 = .ok (.getfield 57, 3) := by decide +kernel
theorem dX12_find_78 : decode cX12_find 78 = .ok (.iload 5, 2) := by decide +kernel
theorem dX12_find_80 : decode cX12_find 80 = .ok (.iaload, 1) := by decide +kernel
theorem dX12_find_81 : decode cX12_find 81 = .ok (.iload 4, 2) := by decide +kernel
theorem dX12_find_83 : decode cX12_find 83 = .ok (.if_icmp .gt 201, 3) := by decide +kernel
theorem dX12_find_86 : decode cX12_find 86 = .ok (.aload_n 0, 1) := by decide +kernel
theorem dX12_find_87 : decode cX12_find 87 = .ok (.getfield 72, 3) := by decide +kernel
theorem dX12_find_90 : decode cX12_find 90 = .ok (.iload 5, 2) := by decide +kernel
theorem dX12_find_92 : decode cX12_find 92 = .ok (.baload, 1) := by decide +kernel
theorem dX12_find_93 : decode cX12_find 93 = .ok (.ifCond .ne 185, 3) := by decide +kernel
theorem dX12_find_96 : decode cX12_find 96 = .ok (.iconst 1, 1) := by decide +kernel
theorem dX12_find_97 : decode cX12_find 97 = .ok (.iload 4, 2) := by decide +kernel
theorem dX12_find_99 : decode cX12_find 99 = .ok (.aload_n 0, 1) := by decide +kernel
theorem dX12_find_100 : decode cX12_find 100 = .ok (.getfield 57, 3) := by decide +kernel
theorem dX12_find_103 : decode cX12_find 103 = .ok (.iload 5, 2) := by decide +kernel
theorem dX12_find_105 : decode cX12_find 105 = .ok (.iaload, 1) := by decide +kernel
theorem dX12_find_106 : decode cX12_find 106 = .ok (.isub, 1) := by decide +kernel
theorem dX12_find_107 : decode cX12_find 107 = .ok (.ishl, 1) := by decide +kernel
theorem dX12_find_108 : decode cX12_find 108 = .ok (.istore 6, 2) := by decide +kernel
theorem dX12_find_110 : decode cX12_find 110 = .ok (.iload 4, 2) := by decide +kernel
theorem dX12_find_112 : decode cX12_find 112 = .ok (.aload_n 0, 1) := by decide +kernel
theorem dX12_find_113 : decode cX12_find 113 = .ok (.getfield 57, 3) := by decide +kernel
theorem dX12_find_116 : decode cX12_find 116 = .ok (.iload 5, 2) := by decide +kernel
theorem dX12_find_118 : decode cX12_find 118 = .ok (.iaload, 1) := by decide +kernel
theorem dX12_find_119 : decode cX12_find 119 = .ok (.if_icmp .le 10, 3) := by decide +kernel
theorem dX12_find_122 : decode cX12_find 122 = .ok (.iload 6, 2) := by decide +kernel
theorem dX12_find_124 : decode cX12_find 124 = .ok (.iconst 2, 1) := by decide +kernel
theorem dX12_find_125 : decode cX12_find 125 = .ok (.idiv, 1) := by decide +kernel
theorem dX12_find_126 : decode cX12_find 126 = .ok (.goto 4, 3) := by decide +kernel
theorem dX12_find_129 : decode cX12_find 129 = .ok (.iconst 0, 1) := by decide +kernel
theorem dX12_find_130 : decode cX12_find 130 = .ok (.istore 7, 2) := by decide +kernel
theorem dX12_find_132 : decode cX12_find 132 = .ok (.aload_n 0, 1) := by decide +kernel
theorem dX12_find_133 : decode cX12_find 133 = .ok (.dup, 1) := by decide +kernel
theorem dX12_find_134 : decode cX12_find 134 = .ok (.getfield 277, 3) := by decide +kernel
theorem dX12_find_137 : decode cX12_find 137 = .ok (.iload 7, 2) := by decide +kernel
theorem dX12_find_139 : decode cX12_find 139 = .ok (.ifCond .ne 7, 3) := by decide +kernel
theorem dX12_find_142 : decode cX12_find 142 = .ok (.iconst 1, 1) := by decide +kernel
theorem dX12_find_143 : decode cX12_find 143 = .ok (.goto 4, 3) := by decide +kernel
theorem dX12_find_146 : decode cX12_find 146 = .ok (.iconst 0, 1) := by decide +kernel
theorem dX12_find_147 : decode cX12_find 147 = .ok (.iadd, 1) := by decide +kernel
theorem dX12_find_148 : decode cX12_find 148 = .ok (.putfield 277, 3) := by decide +kernel
theorem dX12_find_151 : decode cX12_find 151 = .ok (.aload_n 0, 1) := by decide +kernel
theorem dX12_find_152 : decode cX12_find 152 = .ok (.iload_n 1, 1) := by decide +kernel
theorem dX12_find_153 : decode cX12_find 153 = .ok (.aload_n 0, 1) := by decide +kernel
theorem dX12_find_154 : decode cX12_find 154 = .ok (.getfield 53, 3) := by decide +kernel
theorem dX12_find_157 : decode cX12_find 157 = .ok (.iload 5, 2) := by decide +kernel
theorem dX12_find_159 : decode cX12_find 159 = .ok (.laload, 1) := by decide +kernel
theorem dX12_find_160 : decode cX12_find 160 = .ok (.aload_n 0, 1) := by decide +kernel
theorem dX12_find_161 : decode cX12_find 161 = .ok (.getfield 69, 3) := by decide +kernel
theorem dX12_find_164 : decode cX12_find 164 = .ok (.iload_n 2, 1) := by decide +kernel
theorem dX12_find_165 : decode cX12_find 165 = .ok (.iaload, 1) := by decide +kernel
theorem dX12_find_166 : decode cX12_find 166 = .ok (.iload 6, 2) := by decide +kernel
theorem dX12_find_168 : decode cX12_find 168 = .ok (.invokevirtual 183, 3) := by decide +kernel
theorem dX12_find_171 : decode cX12_find 171 = .ok (.istore 8, 2) := by decide +kernel
theorem dX12_find_173 : decode cX12_find 173 = .ok (.aload_n 0, 1) := by decide +kernel
theorem dX12_find_174 : decode cX12_find 174 = .ok (.dup, 1) := by decide +kernel
theorem dX12_find_175 : decode cX12_find 175 = .ok (.getfield 274, 3) := by decide +kernel
theorem dX12_find_178 : decode cX12_find 178 = .ok (.aload_n 0, 1) := by decide +kernel
theorem dX12_find_179 : decode cX12_find 179 = .ok (.getfield 153, 3) := by decide +kernel
theorem dX12_find_182 : decode cX12_find 182 = .ok (.iload 7, 2) := by decide +kernel
theorem dX12_find_184 : decode cX12_find 184 = .ok (.isub, 1) := by decide +kernel
theorem dX12_find_185 : decode cX12_find 185 = .ok (.iadd, 1) := by decide +kernel
theorem dX12_find_186 : decode cX12_find 186 = .ok (.putfield 274, 3) := by decide +kernel
theorem dX12_find_189 : decode cX12_find 189 = .ok (.aload_n 0, 1) := by decide +kernel
theorem dX12_find_190 : decode cX12_find 190 = .ok (.getfield 72, 3) := by decide +kernel
theorem dX12_find_193 : decode cX12_find 193 = .ok (.iload 5, 2) := by decide +kernel
theorem dX12_find_195 : decode cX12_find 195 = .ok (.iload 8, 2) := by decide +kernel
theorem dX12_find_197 : decode cX12_find 197 = .ok (.iconst 2, 1) := by decide +kernel
theorem dX12_find_198 : decode cX12_find 198 = .ok (.if_icmp .eq 7, 3) := by decide +kernel
theorem dX12_find_201 : decode cX12_find 201 = .ok (.iconst 1, 1) := by decide +kernel
theorem dX12_find_202 : decode cX12_find 202 = .ok (.goto 4, 3) := by decide +kernel
theorem dX12_find_205 : decode cX12_find 205 = .ok (.iconst 0, 1) := by decide +kernel
theorem dX12_find_206 : decode cX12_find 206 = .ok (.bastore, 1) := by decide +kernel
theorem dX12_find_207 : decode cX12_find 207 = .ok (.aload_n 0, 1) := by decide +kernel
theorem dX12_find_208 : decode cX12_find 208 = .ok (.dup, 1) := by decide +kernel
theorem dX12_find_209 : decode cX12_find 209 = .ok (.getfield 280, 3) := by decide +kernel
theorem dX12_find_212 : decode cX12_find 212 = .ok (.iload 8, 2) := by decide +kernel
theorem dX12_find_214 : decode cX12_find 214 = .ok (.iconst 1, 1) := by decide +kernel
theorem dX12_find_215 : decode cX12_find 215 = .ok (.if_icmp .ne 7, 3) := by decide +kernel
theorem dX12_find_218 : decode cX12_find 218 = .ok (.iconst 1, 1) := by decide +kernel
theorem dX12_find_219 : decode cX12_find 219 = .ok (.goto 4, 3) := by decide +kernel
theorem dX12_find_222 : decode cX12_find 222 = .ok (.iconst 0, 1) := by decide +kernel
theorem dX12_find_223 : decode cX12_find 223 = .ok (.iadd, 1) := by decide +kernel
theorem dX12_find_224 : decode cX12_find 224 = .ok (.putfield 280, 3) := by decide +kernel
theorem dX12_find_227 : decode cX12_find 227 = .ok (.iload 8, 2) := by decide +kernel
theorem dX12_find_229 : decode cX12_find 229 = .ok (.ifCond .ne 49, 3) := by decide +kernel
theorem dX12_find_232 : decode cX12_find 232 = .ok (.aload_n 0, 1) := by decide +kernel
theorem dX12_find_233 : decode cX12_find 233 = .ok (.iload_n 2, 1) := by decide +kernel
theorem dX12_find_234 : decode cX12_find 234 = .ok (.invokevirtual 271, 3) := by decide +kernel
theorem dX12_find_237 : decode cX12_find 237 = .ok (.ifCond .eq 41, 3) := by decide +kernel
theorem dX12_find_240 : decode cX12_find 240 = .ok (.aload_n 0, 1) := by decide +kernel
theorem dX12_find_241 : decode cX12_find 241 = .ok (.aload_n 0, 1) := by decide +kernel
theorem dX12_find_242 : decode cX12_find 242 = .ok (.getfield 153, 3) := by decide +kernel
theorem dX12_find_245 : decode cX12_find 245 = .ok (.putfield 286, 3) := by decide +kernel
theorem dX12_find_248 : decode cX12_find 248 = .ok (.aload_n 0, 1) := by decide +kernel
theorem dX12_find_249 : decode cX12_find 249 = .ok (.aload_n 0, 1) := by decide +kernel
theorem dX12_find_250 : decode cX12_find 250 = .ok (.getfield 57, 3) := by decide +kernel
theorem dX12_find_253 : decode cX12_find 253 = .ok (.iload 5, 2) := by decide +kernel
theorem dX12_find_255 : decode cX12_find 255 = .ok (.iaload, 1) := by decide +kernel
theorem dX12_find_256 : decode cX12_find 256 = .ok (.putfield 289, 3) := by decide +kernel
theorem dX12_find_259 : decode cX12_find 259 = .ok (.aload_n 0, 1) := by decide +kernel
theorem dX12_find_260 : decode cX12_find 260 = .ok (.aload_n 0, 1) := by decide +kernel
theorem dX12_find_261 : decode cX12_find 261 = .ok (.getfield 53, 3) := by decide +kernel
theorem dX12_find_264 : decode cX12_find 264 = .ok (.iload 5, 2) := by decide +kernel
theorem dX12_find_266 : decode cX12_find 266 = .ok (.laload, 1) := by decide +kernel
theorem dX12_find_267 : decode cX12_find 267 = .ok (.putfield 292, 3) := by decide +kernel
theorem dX12_find_270 : decode cX12_find 270 = .ok (.aload_n 0, 1) := by decide +kernel
theorem dX12_find_271 : decode cX12_find 271 = .ok (.iload 4, 2) := by decide +kernel
theorem dX12_find_273 : decode cX12_find 273 = .ok (.putfield 283, 3) := by decide +kernel
theorem dX12_find_276 : decode cX12_find 276 = .ok (.iconst 1, 1) := by decide +kernel
theorem dX12_find_277 : decode cX12_find 277 = .ok (.ireturn, 1) := by decide +kernel
theorem dX12_find_278 : decode cX12_find 278 = .ok (.iinc 5 1, 3) := by decide +kernel
theorem dX12_find_281 : decode cX12_find 281 = .ok (.goto (-216), 3) := by decide +kernel
theorem dX12_find_284 : decode cX12_find 284 = .ok (.iinc 4 1, 3) := by decide +kernel
theorem dX12_find_287 : decode cX12_find 287 = .ok (.goto (-231), 3) := by decide +kernel
theorem dX12_find_290 : decode cX12_find 290 = .ok (.iconst 0, 1) := by decide +kernel
theorem dX12_find_291 : decode cX12_find 291 = .ok (.ireturn, 1) := by decide +kernel
set_option maxRecDepth 100000 in
set_option maxHeartbeats 4000000 in
theorem t12_find_j223 (G : Gm) (t : Nat) (N : Nat) (x1 : Int32) (x2 : Int32) (x3 : Int32) (x4 : Int32) (x5 : Int32) (x8 : Int32)  (k56 : Int32 → St → Option (Int32 × St)) (k65 : Int32 → St → Option (Int32 × St)) (hk56 : ∀ (yx4 : Int32) (S : St), J G YX12_find 34 0 0 (fI t) 0 0 56 [some (vR (some 146)), some (vI x1), some (vI x2), some (vI x3), some (vI yx4), none, none, none, none] [] (MM t S) (k56 yx4 S)) (hk65 : ∀ (yx5 : Int32) (S : St), J G YX12_find 34 0 0 (fI t) 0 0 65 [some (vR (some 146)), some (vI x1), some (vI x2), some (vI x3), some (vI x4), some (vI yx5), none, none, none] [] (MM t S) (k65 yx5 S)) : ∀ (xs0 : Int32) (xs1 : Int32) (S : St), J G YX12_find 34 0 0 (fI t) 0 0 223 [some (vR (some 146)), some (vI x1), some (vI x2), some (vI x3), some (vI x4), some (vI x5), none, none, some (vI x8)] [vI xs0, vI xs1, vR (some 146)] (MM t S) (f12_find_j223 N x1 x2 x3 x4 x5 x8 k56 k65 xs0 xs1 S) := by
  intro xs0 xs1 S
  unfold f12_find_j223
  refine J_iadd dX12_find_223 ?_
  refine K_putI cf12 flX12_280 (sq 146 rfl) rfl dX12_find_224 ?_
  refine J_ltS (fun S1 _ => ?_)
  refine J_iload dX12_find_227 rfl ?_
  refine J_if_ne (tgt := 278) dX12_find_229 (by decide) (fun z2 => ?_) (fun z2 => ?_)
  · refine J_aload_n dX12_find_232 rfl rfl ?_
    refine J_iload_n dX12_find_233 rfl rfl ?_
    refine K_callV_i (As := [vI x2]) mcX12_isPassed mlX12_271 rfl (by decide) (sq 146 rfl) (ct12_isPassed G t N x2 S1) rfl rfl (Nat.le_of_ble_eq_true rfl) (by decide) (Nat.le_of_ble_eq_true rfl) dX12_find_234 (fun q3 S4 => ?_)
    refine J_if_eq (tgt := 278) dX12_find_237 (by decide) (fun z5 => ?_) (fun z5 => ?_)
    · refine J_iinc (v := x5 + nI 1) [some (vR (some 146)), some (vI x1), some (vI x2), some (vI x3), some (vI x4), some (vI (x5 + nI 1)), none, none, some (vI x8)] dX12_find_278 rfl rfl (Nat.le_of_ble_eq_true rfl) rfl rfl ?_
      refine J_goto (tgt := 65) dX12_find_281 (by decide) ?_
      exact J_sb (hk65 (x5 + nI 1) S4) (And.intro rfl (And.intro rfl (And.intro rfl (And.intro rfl (And.intro rfl (And.intro rfl (trivial)))))))
    · refine J_aload_n dX12_find_240 rfl rfl ?_
      refine J_aload_n dX12_find_241 rfl rfl ?_
      refine K_getI cf12 flX12_153 (sq 146 rfl) (Or.inl rfl) dX12_find_242 ?_
      refine K_putI cf12 flX12_286 (sq 146 rfl) rfl dX12_find_245 ?_
      refine J_ltS (fun S6 _ => ?_)
      refine J_aload_n dX12_find_248 rfl rfl ?_
      refine J_aload_n dX12_find_249 rfl rfl ?_
      refine K_getR (r := some (161)) cf12 flX12_57 (sq 146 rfl) rfl (Or.inr ⟨_, rfl⟩) dX12_find_250 ?_
      refine J_iload dX12_find_253 rfl ?_
      refine K_iald (sq 161 rfl) dX12_find_255 ?_
      refine K_putI cf12 flX12_289 (sq 146 rfl) rfl dX12_find_256 ?_
      refine J_ltS (fun S7 _ => ?_)
      refine J_aload_n dX12_find_259 rfl rfl ?_
      refine J_aload_n dX12_find_260 rfl rfl ?_
      refine K_getR (r := some (160)) cf12 flX12_53 (sq 146 rfl) rfl (Or.inr ⟨_, rfl⟩) dX12_find_261 ?_
      refine J_iload dX12_find_264 rfl ?_
      refine K_lald (sq 160 rfl) dX12_find_266 ?_
      refine K_putL cf12 flX12_292 (sq 146 rfl) rfl dX12_find_267 ?_
      refine J_ltS (fun S8 _ => ?_)
      refine J_aload_n dX12_find_270 rfl rfl ?_
      refine J_iload dX12_find_271 rfl ?_
      refine K_putI cf12 flX12_283 (sq 146 rfl) rfl dX12_find_273 ?_
      refine J_ltS (fun S9 _ => ?_)
      refine J_iconst (v := nI 1) dX12_find_276 (by decide) ?_
      exact J_zreturn (by decide) rfl (Nat.le_refl _) (Nat.le_refl _) rfl dX12_find_277
  · refine J_iinc (v := x5 + nI 1) [some (vR (some 146)), some (vI x1), some (vI x2), some (vI x3), some (vI x4), some (vI (x5 + nI 1)), none, none, some (vI x8)] dX12_find_278 rfl rfl (Nat.le_of_ble_eq_true rfl) rfl rfl ?_
    refine J_goto (tgt := 65) dX12_find_281 (by decide) ?_
    exact J_sb (hk65 (x5 + nI 1) S1) (And.intro rfl (And.intro rfl (And.intro rfl (And.intro rfl (And.intro rfl (And.intro rfl (trivial)))))))
set_option maxRecDepth 100000 in
set_option maxHeartbeats 4000000 in
theorem t12_find_j206 (G : Gm) (t : Nat) (N : Nat) (x1 : Int32) (x2 : Int32) (x3 : Int32) (x4 : Int32) (x5 : Int32) (x8 : Int32)  (k56 : Int32 → St → Option (Int32 × St)) (k65 : Int32 → St → Option (Int32 × St)) (hk56 : ∀ (yx4 : Int32) (S : St), J G YX12_find 34 0 0 (fI t) 0 0 56 [some (vR (some 146)), some (vI x1), some (vI x2), some (vI x3), some (vI yx4), none, none, none, none] [] (MM t S) (k56 yx4 S)) (hk65 : ∀ (yx5 : Int32) (S : St), J G YX12_find 34 0 0 (fI t) 0 0 65 [some (vR (some 146)), some (vI x1), some (vI x2), some (vI x3), some (vI x4), some (vI yx5), none, none, none] [] (MM t S) (k65 yx5 S)) : ∀ (xs0 : Int32) (xs1 : Int32) (S : St), J G YX12_find 34 0 0 (fI t) 0 0 206 [some (vR (some 146)), some (vI x1), some (vI x2), some (vI x3), some (vI x4), some (vI x5), none, none, some (vI x8)] [vI xs0, vI xs1, vR (some 166)] (MM t S) (f12_find_j206 N x1 x2 x3 x4 x5 x8 k56 k65 xs0 xs1 S) := by
  intro xs0 xs1 S
  unfold f12_find_j206
  refine J_ckB (fun hz => ?_)
  refine K_zast hz (sq 166 rfl) dX12_find_206 ?_
  refine J_ltS (fun S1 _ => ?_)
  refine J_aload_n dX12_find_207 rfl rfl ?_
  refine J_dup dX12_find_208 rfl ?_
  refine K_getI cf12 flX12_280 (sq 146 rfl) (Or.inl rfl) dX12_find_209 ?_
  refine J_iload dX12_find_212 rfl ?_
  refine J_iconst (v := nI 1) dX12_find_214 (by decide) ?_
  refine J_icmp_ne (tgt := 222) dX12_find_215 (by decide) (fun z2 => ?_) (fun z2 => ?_)
  · refine J_iconst (v := nI 1) dX12_find_218 (by decide) ?_
    refine J_goto (tgt := 223) dX12_find_219 (by decide) ?_
    exact J_sb (t12_find_j223 G t N x1 x2 x3 x4 x5 x8 k56 k65 hk56 hk65 (nI 1) (S1.1 146 46) S1) (And.intro rfl (And.intro rfl (And.intro rfl (And.intro rfl (And.intro rfl (And.intro rfl (And.intro rfl (trivial))))))))
  · refine J_iconst (v := nI 0) dX12_find_222 (by decide) ?_
    exact J_sb (t12_find_j223 G t N x1 x2 x3 x4 x5 x8 k56 k65 hk56 hk65 (nI 0) (S1.1 146 46) S1) (And.intro rfl (And.intro rfl (And.intro rfl (And.intro rfl (And.intro rfl (And.intro rfl (And.intro rfl (trivial))))))))
set_option maxRecDepth 100000 in
set_option maxHeartbeats 4000000 in
theorem t12_find_j147 (G : Gm) (t : Nat) (N : Nat) (x1 : Int32) (x2 : Int32) (x3 : Int32) (x4 : Int32) (x5 : Int32) (x6 : Int32) (x7 : Int32)  (k56 : Int32 → St → Option (Int32 × St)) (k65 : Int32 → St → Option (Int32 × St)) (hk56 : ∀ (yx4 : Int32) (S : St), J G YX12_find 34 0 0 (fI t) 0 0 56 [some (vR (some 146)), some (vI x1), some (vI x2), some (vI x3), some (vI yx4), none, none, none, none] [] (MM t S) (k56 yx4 S)) (hk65 : ∀ (yx5 : Int32) (S : St), J G YX12_find 34 0 0 (fI t) 0 0 65 [some (vR (some 146)), some (vI x1), some (vI x2), some (vI x3), some (vI x4), some (vI yx5), none, none, none] [] (MM t S) (k65 yx5 S)) : ∀ (xs0 : Int32) (xs1 : Int32) (S : St), J G YX12_find 34 0 0 (fI t) 0 0 147 [some (vR (some 146)), some (vI x1), some (vI x2), some (vI x3), some (vI x4), some (vI x5), some (vI x6), some (vI x7), none] [vI xs0, vI xs1, vR (some 146)] (MM t S) (f12_find_j147 N x1 x2 x3 x4 x5 x6 x7 k56 k65 xs0 xs1 S) := by
  intro xs0 xs1 S
  unfold f12_find_j147
  refine J_iadd dX12_find_147 ?_
  refine K_putI cf12 flX12_277 (sq 146 rfl) rfl dX12_find_148 ?_
  refine J_ltS (fun S1 _ => ?_)
  refine J_aload_n dX12_find_151 rfl rfl ?_
  refine J_iload_n dX12_find_152 rfl rfl ?_
  refine J_aload_n dX12_find_153 rfl rfl ?_
  refine K_getR (r := some (160)) cf12 flX12_53 (sq 146 rfl) rfl (Or.inr ⟨_, rfl⟩) dX12_find_154 ?_
  refine J_iload dX12_find_157 rfl ?_
  refine K_lald (sq 160 rfl) dX12_find_159 ?_
  refine J_aload_n dX12_find_160 rfl rfl ?_
  refine K_getR (r := some (165)) cf12 flX12_69 (sq 146 rfl) rfl (Or.inr ⟨_, rfl⟩) dX12_find_161 ?_
  refine J_iload_n dX12_find_164 rfl rfl ?_
  refine K_iald (sq 165 rfl) dX12_find_165 ?_
  refine J_iload dX12_find_166 rfl ?_
  refine K_callV_i (As := [vI x1, vL (S1.2 160 x5.toNatClampNeg), vI (S1.1 165 x2.toNatClampNeg), vI x6]) mcX12_runFor mlX12_183 rfl (by decide) (sq 146 rfl) (ct12_runFor G t N x1 (S1.2 160 x5.toNatClampNeg) (S1.1 165 x2.toNatClampNeg) x6 S1) rfl rfl (Nat.le_of_ble_eq_true rfl) (by decide) (Nat.le_of_ble_eq_true rfl) dX12_find_168 (fun q2 S3 => ?_)
  refine J_istore [some (vR (some 146)), some (vI x1), some (vI x2), some (vI x3), some (vI x4), some (vI x5), some (vI x6), some (vI x7), some (vI q2)] dX12_find_171 (Nat.le_of_ble_eq_true rfl) rfl rfl ?_
  refine J_aload_n dX12_find_173 rfl rfl ?_
  refine J_dup dX12_find_174 rfl ?_
  refine K_getI cf12 flX12_274 (sq 146 rfl) (Or.inl rfl) dX12_find_175 ?_
  refine J_aload_n dX12_find_178 rfl rfl ?_
  refine K_getI cf12 flX12_153 (sq 146 rfl) (Or.inl rfl) dX12_find_179 ?_
  refine J_iload dX12_find_182 rfl ?_
  refine J_isub dX12_find_184 ?_
  refine J_iadd dX12_find_185 ?_
  refine K_putI cf12 flX12_274 (sq 146 rfl) rfl dX12_find_186 ?_
  refine J_ltS (fun S4 _ => ?_)
  refine J_aload_n dX12_find_189 rfl rfl ?_
  refine K_getR (r := some (166)) cf12 flX12_72 (sq 146 rfl) rfl (Or.inr ⟨_, rfl⟩) dX12_find_190 ?_
  refine J_iload dX12_find_193 rfl ?_
  refine J_iload dX12_find_195 rfl ?_
  refine J_iconst (v := nI 2) dX12_find_197 (by decide) ?_
  refine J_icmp_eq (tgt := 205) dX12_find_198 (by decide) (fun z5 => ?_) (fun z5 => ?_)
  · refine J_iconst (v := nI 0) dX12_find_205 (by decide) ?_
    exact J_sb (t12_find_j206 G t N x1 x2 x3 x4 x5 q2 k56 k65 hk56 hk65 (nI 0) x5 S4) (And.intro rfl (And.intro rfl (And.intro rfl (And.intro rfl (And.intro rfl (And.intro rfl (And.intro rfl (trivial))))))))
  · refine J_iconst (v := nI 1) dX12_find_201 (by decide) ?_
    refine J_goto (tgt := 206) dX12_find_202 (by decide) ?_
    exact J_sb (t12_find_j206 G t N x1 x2 x3 x4 x5 q2 k56 k65 hk56 hk65 (nI 1) x5 S4) (And.intro rfl (And.intro rfl (And.intro rfl (And.intro rfl (And.intro rfl (And.intro rfl (And.intro rfl (trivial))))))))
set_option maxRecDepth 100000 in
set_option maxHeartbeats 4000000 in
theorem t12_find_j130 (G : Gm) (t : Nat) (N : Nat) (x1 : Int32) (x2 : Int32) (x3 : Int32) (x4 : Int32) (x5 : Int32) (x6 : Int32)  (k56 : Int32 → St → Option (Int32 × St)) (k65 : Int32 → St → Option (Int32 × St)) (hk56 : ∀ (yx4 : Int32) (S : St), J G YX12_find 34 0 0 (fI t) 0 0 56 [some (vR (some 146)), some (vI x1), some (vI x2), some (vI x3), some (vI yx4), none, none, none, none] [] (MM t S) (k56 yx4 S)) (hk65 : ∀ (yx5 : Int32) (S : St), J G YX12_find 34 0 0 (fI t) 0 0 65 [some (vR (some 146)), some (vI x1), some (vI x2), some (vI x3), some (vI x4), some (vI yx5), none, none, none] [] (MM t S) (k65 yx5 S)) : ∀ (xs0 : Int32) (S : St), J G YX12_find 34 0 0 (fI t) 0 0 130 [some (vR (some 146)), some (vI x1), some (vI x2), some (vI x3), some (vI x4), some (vI x5), some (vI x6), none, none] [vI xs0] (MM t S) (f12_find_j130 N x1 x2 x3 x4 x5 x6 k56 k65 xs0 S) := by
  intro xs0 S
  unfold f12_find_j130
  refine J_istore [some (vR (some 146)), some (vI x1), some (vI x2), some (vI x3), some (vI x4), some (vI x5), some (vI x6), some (vI xs0), none] dX12_find_130 (Nat.le_of_ble_eq_true rfl) rfl rfl ?_
  refine J_aload_n dX12_find_132 rfl rfl ?_
  refine J_dup dX12_find_133 rfl ?_
  refine K_getI cf12 flX12_277 (sq 146 rfl) (Or.inl rfl) dX12_find_134 ?_
  refine J_iload dX12_find_137 rfl ?_
  refine J_if_ne (tgt := 146) dX12_find_139 (by decide) (fun z1 => ?_) (fun z1 => ?_)
  · refine J_iconst (v := nI 1) dX12_find_142 (by decide) ?_
    refine J_goto (tgt := 147) dX12_find_143 (by decide) ?_
    exact J_sb (t12_find_j147 G t N x1 x2 x3 x4 x5 x6 xs0 k56 k65 hk56 hk65 (nI 1) (S.1 146 45) S) (And.intro rfl (And.intro rfl (And.intro rfl (And.intro rfl (And.intro rfl (And.intro rfl (And.intro rfl (And.intro rfl (trivial)))))))))
  · refine J_iconst (v := nI 0) dX12_find_146 (by decide) ?_
    exact J_sb (t12_find_j147 G t N x1 x2 x3 x4 x5 x6 xs0 k56 k65 hk56 hk65 (nI 0) (S.1 146 45) S) (And.intro rfl (And.intro rfl (And.intro rfl (And.intro rfl (And.intro rfl (And.intro rfl (And.intro rfl (And.intro rfl (trivial)))))))))
set_option maxRecDepth 100000 in
set_option maxHeartbeats 4000000 in
theorem t12_find_h65 (G : Gm) (t : Nat) (N : Nat) (x1 : Int32) (x2 : Int32) (x3 : Int32) (x4 : Int32)  (k56 : Int32 → St → Option (Int32 × St)) (hk56 : ∀ (yx4 : Int32) (S : St), J G YX12_find 34 0 0 (fI t) 0 0 56 [some (vR (some 146)), some (vI x1), some (vI x2), some (vI x3), some (vI yx4), none, none, none, none] [] (MM t S) (k56 yx4 S)) : ∀ (n : Nat) (x5 : Int32) (S : St), J G YX12_find 34 0 0 (fI t) 0 0 65 [some (vR (some 146)), some (vI x1), some (vI x2), some (vI x3), some (vI x4), some (vI x5), none, none, none] [] (MM t S) (f12_find_h65 N x1 x2 x3 x4 k56 n x5 S) := by
  intro n
  induction n with
  | zero => intro x5 S; exact J_none
  | succ n ih =>
    intro x5 S
    rw [f12_find_h65]
    refine J_iload dX12_find_65 rfl ?_
    refine J_aload_n dX12_find_67 rfl rfl ?_
    refine K_getI cf12 flX12_196 (sq 146 rfl) (Or.inl rfl) dX12_find_68 ?_
    refine J_icmp_ge (tgt := 284) dX12_find_71 (by decide) (fun z1 => ?_) (fun z1 => ?_)
    · refine J_iinc (v := x4 + nI 1) [some (vR (some 146)), some (vI x1), some (vI x2), some (vI x3), some (vI (x4 + nI 1)), some (vI x5), none, none, none] dX12_find_284 rfl rfl (Nat.le_of_ble_eq_true rfl) rfl rfl ?_
      refine J_goto (tgt := 56) dX12_find_287 (by decide) ?_
      exact J_sb (hk56 (x4 + nI 1) S) (And.intro rfl (And.intro rfl (And.intro rfl (And.intro rfl (And.intro rfl (trivial))))))
    · refine J_aload_n dX12_find_74 rfl rfl ?_
      refine K_getR (r := some (161)) cf12 flX12_57 (sq 146 rfl) rfl (Or.inr ⟨_, rfl⟩) dX12_find_75 ?_
      refine J_iload dX12_find_78 rfl ?_
      refine K_iald (sq 161 rfl) dX12_find_80 ?_
      refine J_iload dX12_find_81 rfl ?_
      refine J_icmp_gt (tgt := 284) dX12_find_83 (by decide) (fun z2 => ?_) (fun z2 => ?_)
      · refine J_iinc (v := x4 + nI 1) [some (vR (some 146)), some (vI x1), some (vI x2), some (vI x3), some (vI (x4 + nI 1)), some (vI x5), none, none, none] dX12_find_284 rfl rfl (Nat.le_of_ble_eq_true rfl) rfl rfl ?_
        refine J_goto (tgt := 56) dX12_find_287 (by decide) ?_
        exact J_sb (hk56 (x4 + nI 1) S) (And.intro rfl (And.intro rfl (And.intro rfl (And.intro rfl (And.intro rfl (trivial))))))
      · refine J_aload_n dX12_find_86 rfl rfl ?_
        refine K_getR (r := some (166)) cf12 flX12_72 (sq 146 rfl) rfl (Or.inr ⟨_, rfl⟩) dX12_find_87 ?_
        refine J_iload dX12_find_90 rfl ?_
        refine K_zald (sq 166 rfl) dX12_find_92 ?_
        refine J_if_ne (tgt := 278) dX12_find_93 (by decide) (fun z3 => ?_) (fun z3 => ?_)
        · refine J_iconst (v := nI 1) dX12_find_96 (by decide) ?_
          refine J_iload dX12_find_97 rfl ?_
          refine J_aload_n dX12_find_99 rfl rfl ?_
          refine K_getR (r := some (161)) cf12 flX12_57 (sq 146 rfl) rfl (Or.inr ⟨_, rfl⟩) dX12_find_100 ?_
          refine J_iload dX12_find_103 rfl ?_
          refine K_iald (sq 161 rfl) dX12_find_105 ?_
          refine J_isub dX12_find_106 ?_
          refine J_ishl dX12_find_107 ?_
          refine J_ltI (fun v4 _ => ?_)
          refine J_istore [some (vR (some 146)), some (vI x1), some (vI x2), some (vI x3), some (vI x4), some (vI x5), some (vI v4), none, none] dX12_find_108 (Nat.le_of_ble_eq_true rfl) rfl rfl ?_
          refine J_iload dX12_find_110 rfl ?_
          refine J_aload_n dX12_find_112 rfl rfl ?_
          refine K_getR (r := some (161)) cf12 flX12_57 (sq 146 rfl) rfl (Or.inr ⟨_, rfl⟩) dX12_find_113 ?_
          refine J_iload dX12_find_116 rfl ?_
          refine K_iald (sq 161 rfl) dX12_find_118 ?_
          refine J_icmp_le (tgt := 129) dX12_find_119 (by decide) (fun z5 => ?_) (fun z5 => ?_)
          · refine J_iconst (v := nI 0) dX12_find_129 (by decide) ?_
            exact J_sb (t12_find_j130 G t N x1 x2 x3 x4 x5 v4 k56 (f12_find_h65 N x1 x2 x3 x4 k56 n) hk56 ih (nI 0) S) (And.intro rfl (And.intro rfl (And.intro rfl (And.intro rfl (And.intro rfl (And.intro rfl (And.intro rfl (trivial))))))))
          · refine J_iload dX12_find_122 rfl ?_
            refine J_iconst (v := nI 2) dX12_find_124 (by decide) ?_
            refine J_idiv (by decide) dX12_find_125 ?_
            refine J_goto (tgt := 130) dX12_find_126 (by decide) ?_
            exact J_sb (t12_find_j130 G t N x1 x2 x3 x4 x5 v4 k56 (f12_find_h65 N x1 x2 x3 x4 k56 n) hk56 ih (v4 / (nI 2)) S) (And.intro rfl (And.intro rfl (And.intro rfl (And.intro rfl (And.intro rfl (And.intro rfl (And.intro rfl (trivial))))))))
        · refine J_iinc (v := x5 + nI 1) [some (vR (some 146)), some (vI x1), some (vI x2), some (vI x3), some (vI x4), some (vI (x5 + nI 1)), none, none, none] dX12_find_278 rfl rfl (Nat.le_of_ble_eq_true rfl) rfl rfl ?_
          refine J_goto (tgt := 65) dX12_find_281 (by decide) ?_
          exact J_sb (ih (x5 + nI 1) S) (And.intro rfl (And.intro rfl (And.intro rfl (And.intro rfl (And.intro rfl (And.intro rfl (trivial)))))))
set_option maxRecDepth 100000 in
set_option maxHeartbeats 4000000 in
theorem t12_find_h56 (G : Gm) (t : Nat) (N : Nat) (x1 : Int32) (x2 : Int32) (x3 : Int32)    : ∀ (n : Nat) (x4 : Int32) (S : St), J G YX12_find 34 0 0 (fI t) 0 0 56 [some (vR (some 146)), some (vI x1), some (vI x2), some (vI x3), some (vI x4), none, none, none, none] [] (MM t S) (f12_find_h56 N x1 x2 x3 n x4 S) := by
  intro n
  induction n with
  | zero => intro x4 S; exact J_none
  | succ n ih =>
    intro x4 S
    rw [f12_find_h56]
    refine J_iload dX12_find_56 rfl ?_
    refine J_iload_n dX12_find_58 rfl rfl ?_
    refine J_icmp_gt (tgt := 290) dX12_find_59 (by decide) (fun z1 => ?_) (fun z1 => ?_)
    · refine J_iconst (v := nI 0) dX12_find_290 (by decide) ?_
      exact J_zreturn (by decide) rfl (Nat.le_refl _) (Nat.le_refl _) rfl dX12_find_291
    · refine J_iconst (v := nI 0) dX12_find_62 (by decide) ?_
      refine J_istore [some (vR (some 146)), some (vI x1), some (vI x2), some (vI x3), some (vI x4), some (vI (nI 0)), none, none, none] dX12_find_63 (Nat.le_of_ble_eq_true rfl) rfl rfl ?_
      exact J_sb (t12_find_h65 G t N x1 x2 x3 x4 (f12_find_h56 N x1 x2 x3 n) ih N (nI 0) S) (And.intro rfl (And.intro rfl (And.intro rfl (And.intro rfl (And.intro rfl (And.intro rfl (trivial)))))))
set_option maxRecDepth 100000 in
set_option maxHeartbeats 4000000 in
theorem t12_find_h9 (G : Gm) (t : Nat) (N : Nat) (x1 : Int32) (x2 : Int32) (x3 : Int32)    : ∀ (n : Nat) (x4 : Int32) (S : St), J G YX12_find 34 0 0 (fI t) 0 0 9 [some (vR (some 146)), some (vI x1), some (vI x2), some (vI x3), some (vI x4), none, none, none, none] [] (MM t S) (f12_find_h9 N x1 x2 x3 n x4 S) := by
  intro n
  induction n with
  | zero => intro x4 S; exact J_none
  | succ n ih =>
    intro x4 S
    rw [f12_find_h9]
    refine J_iload dX12_find_9 rfl ?_
    refine J_aload_n dX12_find_11 rfl rfl ?_
    refine K_getI cf12 flX12_196 (sq 146 rfl) (Or.inl rfl) dX12_find_12 ?_
    refine J_icmp_ge (tgt := 32) dX12_find_15 (by decide) (fun z1 => ?_) (fun z1 => ?_)
    · refine J_aload_n dX12_find_32 rfl rfl ?_
      refine J_iconst (v := nI 0) dX12_find_33 (by decide) ?_
      refine K_putI cf12 flX12_274 (sq 146 rfl) rfl dX12_find_34 ?_
      refine J_ltS (fun S2 _ => ?_)
      refine J_aload_n dX12_find_37 rfl rfl ?_
      refine J_iconst (v := nI 0) dX12_find_38 (by decide) ?_
      refine K_putI cf12 flX12_277 (sq 146 rfl) rfl dX12_find_39 ?_
      refine J_ltS (fun S3 _ => ?_)
      refine J_aload_n dX12_find_42 rfl rfl ?_
      refine J_iconst (v := nI 0) dX12_find_43 (by decide) ?_
      refine K_putI cf12 flX12_280 (sq 146 rfl) rfl dX12_find_44 ?_
      refine J_ltS (fun S4 _ => ?_)
      refine J_aload_n dX12_find_47 rfl rfl ?_
      refine J_bipush (v := (-2)) dX12_find_48 (by decide) ?_
      refine K_putI cf12 flX12_283 (sq 146 rfl) rfl dX12_find_50 ?_
      refine J_ltS (fun S5 _ => ?_)
      refine J_iconst (v := nI 1) dX12_find_53 (by decide) ?_
      refine J_istore [some (vR (some 146)), some (vI x1), some (vI x2), some (vI x3), some (vI (nI 1)), none, none, none, none] dX12_find_54 (Nat.le_of_ble_eq_true rfl) rfl rfl ?_
      exact J_sb (t12_find_h56 G t N x1 x2 x3 N (nI 1) S5) (And.intro rfl (And.intro rfl (And.intro rfl (And.intro rfl (And.intro rfl (trivial))))))
    · refine J_aload_n dX12_find_18 rfl rfl ?_
      refine K_getR (r := some (166)) cf12 flX12_72 (sq 146 rfl) rfl (Or.inr ⟨_, rfl⟩) dX12_find_19 ?_
      refine J_iload dX12_find_22 rfl ?_
      refine J_iconst (v := nI 0) dX12_find_24 (by decide) ?_
      refine K_zast (by decide) (sq 166 rfl) dX12_find_25 ?_
      refine J_ltS (fun S6 _ => ?_)
      refine J_iinc (v := x4 + nI 1) [some (vR (some 146)), some (vI x1), some (vI x2), some (vI x3), some (vI (x4 + nI 1)), none, none, none, none] dX12_find_26 rfl rfl (Nat.le_of_ble_eq_true rfl) rfl rfl ?_
      refine J_goto (tgt := 9) dX12_find_29 (by decide) ?_
      exact J_sb (ih (x4 + nI 1) S6) (And.intro rfl (And.intro rfl (And.intro rfl (And.intro rfl (And.intro rfl (trivial))))))
set_option maxRecDepth 100000 in
set_option maxHeartbeats 4000000 in
theorem ct12_find (G : Gm) (t : Nat) (N : Nat) (x1 : Int32) (x2 : Int32) (x3 : Int32)  (S : St) : Ct G YX12_find yX12_find 34 0 0 (fI t) (f12_find N x1 x2 x3 S) [vR (some 146), vI x1, vI x2, vI x3] (MM t S) := by
  refine Ct_of_J [some (vR (some 146)), some (vI x1), some (vI x2), some (vI x3), none, none, none, none, none] (by decide) rfl (fun h => by cases h) (Nat.le_of_ble_eq_true rfl) (And.intro rfl (And.intro rfl (And.intro rfl (And.intro rfl (trivial))))) ?_
  unfold f12_find
  refine J_aload_n dX12_find_0 rfl rfl ?_
  refine J_iload_n dX12_find_1 rfl rfl ?_
  refine J_iload_n dX12_find_2 rfl rfl ?_
  refine K_callV_v (As := [vI x1, vI x3]) mcX12_listAll mlX12_203 rfl (by decide) (sq 146 rfl) (ct12_listAll G t N x1 x3 S) rfl rfl (Nat.le_of_ble_eq_true rfl) (by decide) (Nat.le_of_ble_eq_true rfl) dX12_find_3 (fun q1 S2 => ?_)
  refine J_iconst (v := nI 0) dX12_find_6 (by decide) ?_
  refine J_istore [some (vR (some 146)), some (vI x1), some (vI x2), some (vI x3), some (vI (nI 0)), none, none, none, none] dX12_find_7 (Nat.le_of_ble_eq_true rfl) rfl rfl ?_
  exact J_sb (t12_find_h9 G t N x1 x2 x3 N (nI 0) S2) (And.intro rfl (And.intro rfl (And.intro rfl (And.intro rfl (And.intro rfl (trivial))))))
theorem dX12_search_0 : decode cX12_search 0 = .ok (.aload_n 0, 1) := by decide +kernel
theorem dX12_search_1 : decode cX12_search 1 = .ok (.iload_n 1, 1) := by decide +kernel
theorem dX12_search_2 : decode cX12_search 2 = .ok (.invokevirtual 117, 3) := by decide +kernel
theorem dX12_search_5 : decode cX12_search 5 = .ok (.ifCond .eq 23, 3) := by decide +kernel
theorem dX12_search_8 : decode cX12_search 8 = .ok (.aload_n 0, 1) := by decide +kernel
theorem dX12_search_9 : decode cX12_search 9 = .ok (.iload_n 2, 1) := by decide +kernel
theorem dX12_search_10 : decode cX12_search 10 = .ok (.invokevirtual 268, 3) := by decide +kernel
theorem dX12_search_13 : decode cX12_search 13 = .ok (.ifCond .eq 15, 3) := by decide +kernel
theorem dX12_search_16 : decode cX12_search 16 = .ok (.iload_n 3, 1) := by decide +kernel
theorem dX12_search_17 : decode cX12_search 17 = .ok (.i2l, 1) := by decide +kernel
theorem dX12_search_18 : decode cX12_search 18 = .ok (.lconst 1, 1) := by decide +kernel
theorem dX12_search_19 : decode cX12_search 19 = .ok (.ldc2_w 296, 3) := by decide +kernel
theorem dX12_search_22 : decode cX12_search 22 = .ok (.invokestatic 109, 3) := by decide +kernel
theorem dX12_search_25 : decode cX12_search 25 = .ok (.ifCond .ne 5, 3) := by decide +kernel
theorem dX12_search_28 : decode cX12_search 28 = .ok (.iconst (-1), 1) := by decide +kernel
theorem dX12_search_29 : decode cX12_search 29 = .ok (.ireturn, 1) := by decide +kernel
theorem dX12_search_30 : decode cX12_search 30 = .ok (.aload_n 0, 1) := by decide +kernel
theorem dX12_search_31 : decode cX12_search 31 = .ok (.iload_n 1, 1) := by decide +kernel
theorem dX12_search_32 : decode cX12_search 32 = .ok (.iload_n 2, 1) := by decide +kernel
theorem dX12_search_33 : decode cX12_search 33 = .ok (.iload_n 3, 1) := by decide +kernel
theorem dX12_search_34 : decode cX12_search 34 = .ok (.invokevirtual 298, 3) := by decide +kernel
theorem dX12_search_37 : decode cX12_search 37 = .ok (.istore 4, 2) := by decide +kernel
theorem dX12_search_39 : decode cX12_search 39 = .ok (.aload_n 0, 1) := by decide +kernel
theorem dX12_search_40 : decode cX12_search 40 = .ok (.aload_n 0, 1) := by decide +kernel
theorem dX12_search_41 : decode cX12_search 41 = .ok (.getfield 274, 3) := by decide +kernel
theorem dX12_search_44 : decode cX12_search 44 = .ok (.putfield 76, 3) := by decide +kernel
theorem dX12_search_47 : decode cX12_search 47 = .ok (.aload_n 0, 1) := by decide +kernel
theorem dX12_search_48 : decode cX12_search 48 = .ok (.aload_n 0, 1) := by decide +kernel
theorem dX12_search_49 : decode cX12_search 49 = .ok (.getfield 277, 3) := by decide +kernel
theorem dX12_search_52 : decode cX12_search 52 = .ok (.putfield 302, 3) := by decide +kernel
theorem dX12_search_55 : decode cX12_search 55 = .ok (.aload_n 0, 1) := by decide +kernel
theorem dX12_search_56 : decode cX12_search 56 = .ok (.aload_n 0, 1) := by decide +kernel
theorem dX12_search_57 : decode cX12_search 57 = .ok (.getfield 280, 3) := by decide +kernel
theorem dX12_search_60 : decode cX12_search 60 = .ok (.putfield 305, 3) := by decide +kernel
theorem dX12_search_63 : decode cX12_search 63 = .ok (.aload_n 0, 1) := by decide +kernel
theorem dX12_search_64 : decode cX12_search 64 = .ok (.iload 4, 2) := by decide +kernel
theorem dX12_search_66 : decode cX12_search 66 = .ok (.ifCond .eq 10, 3) := by decide +kernel
theorem dX12_search_69 : decode cX12_search 69 = .ok (.aload_n 0, 1) := by decide +kernel
theorem dX12_search_70 : decode cX12_search 70 = .ok (.getfield 286, 3) := by decide +kernel
theorem dX12_search_73 : decode cX12_search 73 = .ok (.goto 5, 3) := by decide +kernel
theorem dX12_search_76 : decode cX12_search 76 = .ok (.bipush (-2), 2) := by decide +kernel
theorem dX12_search_78 : decode cX12_search 78 = .ok (.putfield 308, 3) := by decide +kernel
theorem dX12_search_81 : decode cX12_search 81 = .ok (.iload 4, 2) := by decide +kernel
theorem dX12_search_83 : decode cX12_search 83 = .ok (.ifCond .eq 17, 3) := by decide +kernel
theorem dX12_search_86 : decode cX12_search 86 = .ok (.iconst 1, 1) := by decide +kernel
theorem dX12_search_87 : decode cX12_search 87 = .ok (.aload_n 0, 1) := by decide +kernel
theorem dX12_search_88 : decode cX12_search 88 = .ok (.getfield 289, 3) := by decide +kernel
theorem dX12_search_91 : decode cX12_search 91 = .ok (.ishl, 1) := by decide +kernel
theorem dX12_search_92 : decode cX12_search 92 = .ok (.aload_n 0, 1) := by decide +kernel
theorem dX12_search_93 : decode cX12_search 93 = .ok (.getfield 286, 3) := by decide +kernel
theorem dX12_search_96 : decode cX12_search 96 = .ok (.imul, 1) := by decide +kernel
theorem dX12_search_97 : decode cX12_search 97 = .ok (.goto 4, 3) := by decide +kernel
theorem dX12_search_100 : decode cX12_search 100 = .ok (.iconst 1, 1) := by decide +kernel
theorem dX12_search_101 : decode cX12_search 101 = .ok (.istore 5, 2) := by decide +kernel
theorem dX12_search_103 : decode cX12_search 103 = .ok (.aload_n 0, 1) := by decide +kernel
theorem dX12_search_104 : decode cX12_search 104 = .ok (.iload 4, 2) := by decide +kernel
theorem dX12_search_106 : decode cX12_search 106 = .ok (.ifCond .eq 18, 3) := by decide +kernel
theorem dX12_search_109 : decode cX12_search 109 = .ok (.aload_n 0, 1) := by decide +kernel
theorem dX12_search_110 : decode cX12_search 110 = .ok (.getfield 274, 3) := by decide +kernel
theorem dX12_search_113 : decode cX12_search 113 = .ok (.iload 5, 2) := by decide +kernel
theorem dX12_search_115 : decode cX12_search 115 = .ok (.iadd, 1) := by decide +kernel
theorem dX12_search_116 : decode cX12_search 116 = .ok (.iconst 1, 1) := by decide +kernel
theorem dX12_search_117 : decode cX12_search 117 = .ok (.isub, 1) := by decide +kernel
theorem dX12_search_118 : decode cX12_search 118 = .ok (.iload 5, 2) := by decide +kernel
theorem dX12_search_120 : decode cX12_search 120 = .ok (.idiv, 1) := by decide +kernel
theorem dX12_search_121 : decode cX12_search 121 = .ok (.goto 5, 3) := by decide +kernel
theorem dX12_search_124 : decode cX12_search 124 = .ok (.bipush (-2), 2) := by decide +kernel
theorem dX12_search_126 : decode cX12_search 126 = .ok (.putfield 311, 3) := by decide +kernel
theorem dX12_search_129 : decode cX12_search 129 = .ok (.iload 4, 2) := by decide +kernel
theorem dX12_search_131 : decode cX12_search 131 = .ok (.ifCond .eq 11, 3) := by decide +kernel
theorem dX12_search_134 : decode cX12_search 134 = .ok (.aload_n 0, 1) := by decide +kernel
theorem dX12_search_135 : decode cX12_search 135 = .ok (.aload_n 0, 1) := by decide +kernel
theorem dX12_search_136 : decode cX12_search 136 = .ok (.getfield 292, 3) := by decide +kernel
theorem dX12_search_139 : decode cX12_search 139 = .ok (.invokevirtual 207, 3) := by decide +kernel
theorem dX12_search_142 : decode cX12_search 142 = .ok (.aload_n 0, 1) := by decide +kernel
theorem dX12_search_143 : decode cX12_search 143 = .ok (.getfield 283, 3) := by decide +kernel
theorem dX12_search_146 : decode cX12_search 146 = .ok (.ireturn, 1) := by decide +kernel
set_option maxRecDepth 100000 in
set_option maxHeartbeats 4000000 in
theorem t12_search_j142 (G : Gm) (t : Nat) (N : Nat)     : ∀  (S : St), J G YX12_search 35 0 0 (fI t) 0 0 142 [some (vR (some 146)), none, none, none, none, none] [] (MM t S) (f12_search_j142 N S) := by
  intro S
  unfold f12_search_j142
  refine J_aload_n dX12_search_142 rfl rfl ?_
  refine K_getI cf12 flX12_283 (sq 146 rfl) (Or.inl rfl) dX12_search_143 ?_
  exact J_ireturn rfl (Nat.le_refl _) (Nat.le_refl _) rfl dX12_search_146
set_option maxRecDepth 100000 in
set_option maxHeartbeats 4000000 in
theorem t12_search_j126 (G : Gm) (t : Nat) (N : Nat) (x4 : Int32)    : ∀ (xs0 : Int32) (S : St), J G YX12_search 35 0 0 (fI t) 0 0 126 [some (vR (some 146)), none, none, none, some (vI x4), none] [vI xs0, vR (some 146)] (MM t S) (f12_search_j126 N x4 xs0 S) := by
  intro xs0 S
  unfold f12_search_j126
  refine K_putI cf12 flX12_311 (sq 146 rfl) rfl dX12_search_126 ?_
  refine J_ltS (fun S1 _ => ?_)
  refine J_iload dX12_search_129 rfl ?_
  refine J_if_eq (tgt := 142) dX12_search_131 (by decide) (fun z2 => ?_) (fun z2 => ?_)
  · exact J_sb (t12_search_j142 G t N S1) (And.intro rfl (trivial))
  · refine J_aload_n dX12_search_134 rfl rfl ?_
    refine J_aload_n dX12_search_135 rfl rfl ?_
    refine K_getL cf12 flX12_292 (sq 146 rfl) rfl dX12_search_136 ?_
    refine K_callV_v (As := [vL (S1.2 146 44)]) mcX12_lookAt mlX12_207 rfl (by decide) (sq 146 rfl) (ct12_lookAt G t N (S1.2 146 44) S1) rfl rfl (Nat.le_of_ble_eq_true rfl) (by decide) (Nat.le_of_ble_eq_true rfl) dX12_search_139 (fun q3 S4 => ?_)
    exact J_sb (t12_search_j142 G t N S4) (And.intro rfl (trivial))
set_option maxRecDepth 100000 in
set_option maxHeartbeats 4000000 in
theorem t12_search_j101 (G : Gm) (t : Nat) (N : Nat) (x4 : Int32)    : ∀ (xs0 : Int32) (S : St), J G YX12_search 35 0 0 (fI t) 0 0 101 [some (vR (some 146)), none, none, none, some (vI x4), none] [vI xs0] (MM t S) (f12_search_j101 N x4 xs0 S) := by
  intro xs0 S
  unfold f12_search_j101
  refine J_istore [some (vR (some 146)), none, none, none, some (vI x4), some (vI xs0)] dX12_search_101 (Nat.le_of_ble_eq_true rfl) rfl rfl ?_
  refine J_aload_n dX12_search_103 rfl rfl ?_
  refine J_iload dX12_search_104 rfl ?_
  refine J_if_eq (tgt := 124) dX12_search_106 (by decide) (fun z1 => ?_) (fun z1 => ?_)
  · refine J_bipush (v := (-2)) dX12_search_124 (by decide) ?_
    exact J_sb (t12_search_j126 G t N x4 (-2) S) (And.intro rfl (And.intro rfl (trivial)))
  · refine J_aload_n dX12_search_109 rfl rfl ?_
    refine K_getI cf12 flX12_274 (sq 146 rfl) (Or.inl rfl) dX12_search_110 ?_
    refine J_iload dX12_search_113 rfl ?_
    refine J_iadd dX12_search_115 ?_
    refine J_iconst (v := nI 1) dX12_search_116 (by decide) ?_
    refine J_isub dX12_search_117 ?_
    refine J_iload dX12_search_118 rfl ?_
    refine J_idivZ dX12_search_120 ?_
    refine J_goto (tgt := 126) dX12_search_121 (by decide) ?_
    exact J_sb (t12_search_j126 G t N x4 ((((S.1 146 41) + xs0) - (nI 1)) / xs0) S) (And.intro rfl (And.intro rfl (trivial)))
set_option maxRecDepth 100000 in
set_option maxHeartbeats 4000000 in
theorem t12_search_j78 (G : Gm) (t : Nat) (N : Nat) (x4 : Int32)    : ∀ (xs0 : Int32) (S : St), J G YX12_search 35 0 0 (fI t) 0 0 78 [some (vR (some 146)), none, none, none, some (vI x4), none] [vI xs0, vR (some 146)] (MM t S) (f12_search_j78 N x4 xs0 S) := by
  intro xs0 S
  unfold f12_search_j78
  refine K_putI cf12 flX12_308 (sq 146 rfl) rfl dX12_search_78 ?_
  refine J_ltS (fun S1 _ => ?_)
  refine J_iload dX12_search_81 rfl ?_
  refine J_if_eq (tgt := 100) dX12_search_83 (by decide) (fun z2 => ?_) (fun z2 => ?_)
  · refine J_iconst (v := nI 1) dX12_search_100 (by decide) ?_
    exact J_sb (t12_search_j101 G t N x4 (nI 1) S1) (And.intro rfl (And.intro rfl (trivial)))
  · refine J_iconst (v := nI 1) dX12_search_86 (by decide) ?_
    refine J_aload_n dX12_search_87 rfl rfl ?_
    refine K_getI cf12 flX12_289 (sq 146 rfl) (Or.inl rfl) dX12_search_88 ?_
    refine J_ishl dX12_search_91 ?_
    refine J_aload_n dX12_search_92 rfl rfl ?_
    refine K_getI cf12 flX12_286 (sq 146 rfl) (Or.inl rfl) dX12_search_93 ?_
    refine J_imul dX12_search_96 ?_
    refine J_goto (tgt := 101) dX12_search_97 (by decide) ?_
    exact J_sb (t12_search_j101 G t N x4 ((shlI (nI 1) (S1.1 146 43)) * (S1.1 146 42)) S1) (And.intro rfl (And.intro rfl (trivial)))
set_option maxRecDepth 100000 in
set_option maxHeartbeats 4000000 in
theorem ct12_search (G : Gm) (t : Nat) (N : Nat) (x1 : Int32) (x2 : Int32) (x3 : Int32)  (S : St) : Ct G YX12_search yX12_search 35 0 0 (fI t) (f12_search N x1 x2 x3 S) [vR (some 146), vI x1, vI x2, vI x3] (MM t S) := by
  refine Ct_of_J [some (vR (some 146)), some (vI x1), some (vI x2), some (vI x3), none, none] (by decide) rfl (fun h => by cases h) (Nat.le_of_ble_eq_true rfl) (And.intro rfl (And.intro rfl (And.intro rfl (And.intro rfl (trivial))))) ?_
  unfold f12_search
  refine J_aload_n dX12_search_0 rfl rfl ?_
  refine J_iload_n dX12_search_1 rfl rfl ?_
  refine K_callV_i (As := [vI x1]) mcX12_isLanguage mlX12_117 rfl (by decide) (sq 146 rfl) (ct12_isLanguage G t x1 S) rfl rfl (Nat.le_of_ble_eq_true rfl) (by decide) (Nat.le_of_ble_eq_true rfl) dX12_search_2 (fun q1 S2 => ?_)
  refine J_if_eq (tgt := 28) dX12_search_5 (by decide) (fun z3 => ?_) (fun z3 => ?_)
  · refine J_iconst (v := (-1)) dX12_search_28 (by decide) ?_
    exact J_ireturn rfl (Nat.le_refl _) (Nat.le_refl _) rfl dX12_search_29
  · refine J_aload_n dX12_search_8 rfl rfl ?_
    refine J_iload_n dX12_search_9 rfl rfl ?_
    refine K_callV_i (As := [vI x2]) mcX12_isTask mlX12_268 rfl (by decide) (sq 146 rfl) (ct12_isTask G t x2 S2) rfl rfl (Nat.le_of_ble_eq_true rfl) (by decide) (Nat.le_of_ble_eq_true rfl) dX12_search_10 (fun q4 S5 => ?_)
    refine J_if_eq (tgt := 28) dX12_search_13 (by decide) (fun z6 => ?_) (fun z6 => ?_)
    · refine J_iconst (v := (-1)) dX12_search_28 (by decide) ?_
      exact J_ireturn rfl (Nat.le_refl _) (Nat.le_refl _) rfl dX12_search_29
    · refine J_iload_n dX12_search_16 rfl rfl ?_
      refine J_i2l dX12_search_17 ?_
      refine J_lconst (v := lN 1) dX12_search_18 (by decide) ?_
      refine J_ldc2_w (v := lN 14) wX12_296 dX12_search_19 ?_
      refine K_callS_i (As := [vL x3.toInt64, vL (lN 1), vL (lN 14)]) mcX12_within mlX12_109 (ct12_within G t x3.toInt64 (lN 1) (lN 14) S5) rfl rfl (Nat.le_of_ble_eq_true rfl) (by decide) (Nat.le_of_ble_eq_true rfl) dX12_search_22 (fun q7 S8 => ?_)
      refine J_if_ne (tgt := 30) dX12_search_25 (by decide) (fun z9 => ?_) (fun z9 => ?_)
      · refine J_iconst (v := (-1)) dX12_search_28 (by decide) ?_
        exact J_ireturn rfl (Nat.le_refl _) (Nat.le_refl _) rfl dX12_search_29
      · refine J_aload_n dX12_search_30 rfl rfl ?_
        refine J_iload_n dX12_search_31 rfl rfl ?_
        refine J_iload_n dX12_search_32 rfl rfl ?_
        refine J_iload_n dX12_search_33 rfl rfl ?_
        refine K_callV_i (As := [vI x1, vI x2, vI x3]) mcX12_find mlX12_298 rfl (by decide) (sq 146 rfl) (ct12_find G t N x1 x2 x3 S8) rfl rfl (Nat.le_of_ble_eq_true rfl) (by decide) (Nat.le_of_ble_eq_true rfl) dX12_search_34 (fun q10 S11 => ?_)
        refine J_istore [some (vR (some 146)), some (vI x1), some (vI x2), some (vI x3), some (vI q10), none] dX12_search_37 (Nat.le_of_ble_eq_true rfl) rfl rfl ?_
        refine J_aload_n dX12_search_39 rfl rfl ?_
        refine J_aload_n dX12_search_40 rfl rfl ?_
        refine K_getI cf12 flX12_274 (sq 146 rfl) (Or.inl rfl) dX12_search_41 ?_
        refine K_putI cf12 flX12_76 (sq 146 rfl) rfl dX12_search_44 ?_
        refine J_ltS (fun S12 _ => ?_)
        refine J_aload_n dX12_search_47 rfl rfl ?_
        refine J_aload_n dX12_search_48 rfl rfl ?_
        refine K_getI cf12 flX12_277 (sq 146 rfl) (Or.inl rfl) dX12_search_49 ?_
        refine K_putI cf12 flX12_302 (sq 146 rfl) rfl dX12_search_52 ?_
        refine J_ltS (fun S13 _ => ?_)
        refine J_aload_n dX12_search_55 rfl rfl ?_
        refine J_aload_n dX12_search_56 rfl rfl ?_
        refine K_getI cf12 flX12_280 (sq 146 rfl) (Or.inl rfl) dX12_search_57 ?_
        refine K_putI cf12 flX12_305 (sq 146 rfl) rfl dX12_search_60 ?_
        refine J_ltS (fun S14 _ => ?_)
        refine J_aload_n dX12_search_63 rfl rfl ?_
        refine J_iload dX12_search_64 rfl ?_
        refine J_if_eq (tgt := 76) dX12_search_66 (by decide) (fun z15 => ?_) (fun z15 => ?_)
        · refine J_bipush (v := (-2)) dX12_search_76 (by decide) ?_
          exact J_sb (t12_search_j78 G t N q10 (-2) S14) (And.intro rfl (And.intro rfl (trivial)))
        · refine J_aload_n dX12_search_69 rfl rfl ?_
          refine K_getI cf12 flX12_286 (sq 146 rfl) (Or.inl rfl) dX12_search_70 ?_
          refine J_goto (tgt := 78) dX12_search_73 (by decide) ?_
          exact J_sb (t12_search_j78 G t N q10 (S14.1 146 42) S14) (And.intro rfl (And.intro rfl (trivial)))
theorem dX12_searched_0 : decode cX12_searched 0 = .ok (.aload_n 0, 1) := by decide +kernel
theorem dX12_searched_1 : decode cX12_searched 1 = .ok (.getfield 76, 3) := by decide +kernel
theorem dX12_searched_4 : decode cX12_searched 4 = .ok (.ifCond .ge 5, 3) := by decide +kernel
theorem dX12_searched_7 : decode cX12_searched 7 = .ok (.iconst (-1), 1) := by decide +kernel
theorem dX12_searched_8 : decode cX12_searched 8 = .ok (.ireturn, 1) := by decide +kernel
theorem dX12_searched_9 : decode cX12_searched 9 = .ok (.iload_n 1, 1) := by decide +kernel
theorem dX12_searched_10 : decode cX12_searched 10 = .ok (.tableswitch 59 0 4 #[34, 39, 44, 49, 54], 34) := by decide +kernel
theorem dX12_searched_44 : decode cX12_searched 44 = .ok (.aload_n 0, 1) := by decide +kernel
theorem dX12_searched_45 : decode cX12_searched 45 = .ok (.getfield 76, 3) := by decide +kernel
theorem dX12_searched_48 : decode cX12_searched 48 = .ok (.ireturn, 1) := by decide +kernel
theorem dX12_searched_49 : decode cX12_searched 49 = .ok (.aload_n 0, 1) := by decide +kernel
theorem dX12_searched_50 : decode cX12_searched 50 = .ok (.getfield 308, 3) := by decide +kernel
theorem dX12_searched_53 : decode cX12_searched 53 = .ok (.ireturn, 1) := by decide +kernel
theorem dX12_searched_54 : decode cX12_searched 54 = .ok (.aload_n 0, 1) := by decide +kernel
theorem dX12_searched_55 : decode cX12_searched 55 = .ok (.getfield 311, 3) := by decide +kernel
theorem dX12_searched_58 : decode cX12_searched 58 = .ok (.ireturn, 1) := by decide +kernel
theorem dX12_searched_59 : decode cX12_searched 59 = .ok (.aload_n 0, 1) := by decide +kernel
theorem dX12_searched_60 : decode cX12_searched 60 = .ok (.getfield 302, 3) := by decide +kernel
theorem dX12_searched_63 : decode cX12_searched 63 = .ok (.ireturn, 1) := by decide +kernel
theorem dX12_searched_64 : decode cX12_searched 64 = .ok (.aload_n 0, 1) := by decide +kernel
theorem dX12_searched_65 : decode cX12_searched 65 = .ok (.getfield 305, 3) := by decide +kernel
theorem dX12_searched_68 : decode cX12_searched 68 = .ok (.ireturn, 1) := by decide +kernel
theorem dX12_searched_69 : decode cX12_searched 69 = .ok (.iconst (-1), 1) := by decide +kernel
theorem dX12_searched_70 : decode cX12_searched 70 = .ok (.ireturn, 1) := by decide +kernel
set_option maxRecDepth 100000 in
set_option maxHeartbeats 4000000 in
theorem ct12_searched (G : Gm) (t : Nat)  (x1 : Int32)  (S : St) : Ct G YX12_searched yX12_searched 1 0 0 (fI t) (f12_searched x1 S) [vR (some 146), vI x1] (MM t S) := by
  refine Ct_of_J [some (vR (some 146)), some (vI x1)] (by decide) rfl (fun h => by cases h) (Nat.le_of_ble_eq_true rfl) (And.intro rfl (And.intro rfl (trivial))) ?_
  unfold f12_searched
  refine J_aload_n dX12_searched_0 rfl rfl ?_
  refine K_getI cf12 flX12_76 (sq 146 rfl) (Or.inl rfl) dX12_searched_1 ?_
  refine J_if_ge (tgt := 9) dX12_searched_4 (by decide) (fun z1 => ?_) (fun z1 => ?_)
  · refine J_iload_n dX12_searched_9 rfl rfl ?_
    refine J_table (td := 69) _ dX12_searched_10 (fun z h1 h2 => cov_of (lo := (0)) (N := 5) (ks := [nI 0, nI 1, nI 2, nI 3, nI 4]) (by decide) z h1 (by omega)) ?_ (by decide) ?_
    · refine List.forall_mem_cons.mpr ⟨tb_mk (o := 34) (tgt := 44) (by decide) (fun _ => ?_), ?_⟩
      · refine J_aload_n dX12_searched_44 rfl rfl ?_
        refine K_getI cf12 flX12_76 (sq 146 rfl) (Or.inl rfl) dX12_searched_45 ?_
        exact J_ireturn rfl (Nat.le_refl _) (Nat.le_refl _) rfl dX12_searched_48
      · refine List.forall_mem_cons.mpr ⟨tb_mk (o := 39) (tgt := 49) (by decide) (fun _ => ?_), ?_⟩
        · refine J_aload_n dX12_searched_49 rfl rfl ?_
          refine K_getI cf12 flX12_308 (sq 146 rfl) (Or.inl rfl) dX12_searched_50 ?_
          exact J_ireturn rfl (Nat.le_refl _) (Nat.le_refl _) rfl dX12_searched_53
        · refine List.forall_mem_cons.mpr ⟨tb_mk (o := 44) (tgt := 54) (by decide) (fun _ => ?_), ?_⟩
          · refine J_aload_n dX12_searched_54 rfl rfl ?_
            refine K_getI cf12 flX12_311 (sq 146 rfl) (Or.inl rfl) dX12_searched_55 ?_
            exact J_ireturn rfl (Nat.le_refl _) (Nat.le_refl _) rfl dX12_searched_58
          · refine List.forall_mem_cons.mpr ⟨tb_mk (o := 49) (tgt := 59) (by decide) (fun _ => ?_), ?_⟩
            · refine J_aload_n dX12_searched_59 rfl rfl ?_
              refine K_getI cf12 flX12_302 (sq 146 rfl) (Or.inl rfl) dX12_searched_60 ?_
              exact J_ireturn rfl (Nat.le_refl _) (Nat.le_refl _) rfl dX12_searched_63
            · refine List.forall_mem_cons.mpr ⟨tb_mk (o := 54) (tgt := 64) (by decide) (fun _ => ?_), ?_⟩
              · refine J_aload_n dX12_searched_64 rfl rfl ?_
                refine K_getI cf12 flX12_305 (sq 146 rfl) (Or.inl rfl) dX12_searched_65 ?_
                exact J_ireturn rfl (Nat.le_refl _) (Nat.le_refl _) rfl dX12_searched_68
              · exact fun _ h => absurd h List.not_mem_nil
    · refine J_iconst (v := (-1)) dX12_searched_69 (by decide) ?_
      exact J_ireturn rfl (Nat.le_refl _) (Nat.le_refl _) rfl dX12_searched_70
  · refine J_iconst (v := (-1)) dX12_searched_7 (by decide) ?_
    exact J_ireturn rfl (Nat.le_refl _) (Nat.le_refl _) rfl dX12_searched_8
theorem dX12_say_0 : decode cX12_say 0 = .ok (.iload_n 1, 1) := by decide +kernel
theorem dX12_say_1 : decode cX12_say 1 = .ok (.i2l, 1) := by decide +kernel
theorem dX12_say_2 : decode cX12_say 2 = .ok (.lconst 0, 1) := by decide +kernel
theorem dX12_say_3 : decode cX12_say 3 = .ok (.ldc2_w 177, 3) := by decide +kernel
theorem dX12_say_6 : decode cX12_say 6 = .ok (.invokestatic 109, 3) := by decide +kernel
theorem dX12_say_9 : decode cX12_say 9 = .ok (.ifCond .ne 5, 3) := by decide +kernel
theorem dX12_say_12 : decode cX12_say 12 = .ok (.iconst (-1), 1) := by decide +kernel
theorem dX12_say_13 : decode cX12_say 13 = .ok (.ireturn, 1) := by decide +kernel
theorem dX12_say_14 : decode cX12_say 14 = .ok (.aload_n 0, 1) := by decide +kernel
theorem dX12_say_15 : decode cX12_say 15 = .ok (.getfield 314, 3) := by decide +kernel
theorem dX12_say_18 : decode cX12_say 18 = .ok (.bipush 8, 2) := by decide +kernel
theorem dX12_say_20 : decode cX12_say 20 = .ok (.if_icmp .ne 6, 3) := by decide +kernel
theorem dX12_say_23 : decode cX12_say 23 = .ok (.bipush (-3), 2) := by decide +kernel
theorem dX12_say_25 : decode cX12_say 25 = .ok (.ireturn, 1) := by decide +kernel
theorem dX12_say_26 : decode cX12_say 26 = .ok (.aload_n 0, 1) := by decide +kernel
theorem dX12_say_27 : decode cX12_say 27 = .ok (.getfield 79, 3) := by decide +kernel
theorem dX12_say_30 : decode cX12_say 30 = .ok (.aload_n 0, 1) := by decide +kernel
theorem dX12_say_31 : decode cX12_say 31 = .ok (.getfield 314, 3) := by decide +kernel
theorem dX12_say_34 : decode cX12_say 34 = .ok (.iload_n 1, 1) := by decide +kernel
theorem dX12_say_35 : decode cX12_say 35 = .ok (.iastore, 1) := by decide +kernel
theorem dX12_say_36 : decode cX12_say 36 = .ok (.aload_n 0, 1) := by decide +kernel
theorem dX12_say_37 : decode cX12_say 37 = .ok (.dup, 1) := by decide +kernel
theorem dX12_say_38 : decode cX12_say 38 = .ok (.getfield 314, 3) := by decide +kernel
theorem dX12_say_41 : decode cX12_say 41 = .ok (.iconst 1, 1) := by decide +kernel
theorem dX12_say_42 : decode cX12_say 42 = .ok (.iadd, 1) := by decide +kernel
theorem dX12_say_43 : decode cX12_say 43 = .ok (.putfield 314, 3) := by decide +kernel
theorem dX12_say_46 : decode cX12_say 46 = .ok (.aload_n 0, 1) := by decide +kernel
theorem dX12_say_47 : decode cX12_say 47 = .ok (.getfield 314, 3) := by decide +kernel
theorem dX12_say_50 : decode cX12_say 50 = .ok (.ireturn, 1) := by decide +kernel
set_option maxRecDepth 100000 in
set_option maxHeartbeats 4000000 in
theorem ct12_say (G : Gm) (t : Nat)  (x1 : Int32)  (S : St) : Ct G YX12_say yX12_say 2 0 0 (fI t) (f12_say x1 S) [vR (some 146), vI x1] (MM t S) := by
  refine Ct_of_J [some (vR (some 146)), some (vI x1)] (by decide) rfl (fun h => by cases h) (Nat.le_of_ble_eq_true rfl) (And.intro rfl (And.intro rfl (trivial))) ?_
  unfold f12_say
  refine J_iload_n dX12_say_0 rfl rfl ?_
  refine J_i2l dX12_say_1 ?_
  refine J_lconst (v := lN 0) dX12_say_2 (by decide) ?_
  refine J_ldc2_w (v := lN 999) wX12_177 dX12_say_3 ?_
  refine K_callS_i (As := [vL x1.toInt64, vL (lN 0), vL (lN 999)]) mcX12_within mlX12_109 (ct12_within G t x1.toInt64 (lN 0) (lN 999) S) rfl rfl (Nat.le_of_ble_eq_true rfl) (by decide) (Nat.le_of_ble_eq_true rfl) dX12_say_6 (fun q1 S2 => ?_)
  refine J_if_ne (tgt := 14) dX12_say_9 (by decide) (fun z3 => ?_) (fun z3 => ?_)
  · refine J_iconst (v := (-1)) dX12_say_12 (by decide) ?_
    exact J_ireturn rfl (Nat.le_refl _) (Nat.le_refl _) rfl dX12_say_13
  · refine J_aload_n dX12_say_14 rfl rfl ?_
    refine K_getI cf12 flX12_314 (sq 146 rfl) (Or.inl rfl) dX12_say_15 ?_
    refine J_bipush (v := nI 8) dX12_say_18 (by decide) ?_
    refine J_icmp_ne (tgt := 26) dX12_say_20 (by decide) (fun z4 => ?_) (fun z4 => ?_)
    · refine J_bipush (v := (-3)) dX12_say_23 (by decide) ?_
      exact J_ireturn rfl (Nat.le_refl _) (Nat.le_refl _) rfl dX12_say_25
    · refine J_aload_n dX12_say_26 rfl rfl ?_
      refine K_getR (r := some (167)) cf12 flX12_79 (sq 146 rfl) rfl (Or.inr ⟨_, rfl⟩) dX12_say_27 ?_
      refine J_aload_n dX12_say_30 rfl rfl ?_
      refine K_getI cf12 flX12_314 (sq 146 rfl) (Or.inl rfl) dX12_say_31 ?_
      refine J_iload_n dX12_say_34 rfl rfl ?_
      refine K_iast (sq 167 rfl) dX12_say_35 ?_
      refine J_ltS (fun S5 _ => ?_)
      refine J_aload_n dX12_say_36 rfl rfl ?_
      refine J_dup dX12_say_37 rfl ?_
      refine K_getI cf12 flX12_314 (sq 146 rfl) (Or.inl rfl) dX12_say_38 ?_
      refine J_iconst (v := nI 1) dX12_say_41 (by decide) ?_
      refine J_iadd dX12_say_42 ?_
      refine K_putI cf12 flX12_314 (sq 146 rfl) rfl dX12_say_43 ?_
      refine J_ltS (fun S6 _ => ?_)
      refine J_aload_n dX12_say_46 rfl rfl ?_
      refine K_getI cf12 flX12_314 (sq 146 rfl) (Or.inl rfl) dX12_say_47 ?_
      exact J_ireturn rfl (Nat.le_refl _) (Nat.le_refl _) rfl dX12_say_50
theorem dX12_unsay_0 : decode cX12_unsay 0 = .ok (.aload_n 0, 1) := by decide +kernel
theorem dX12_unsay_1 : decode cX12_unsay 1 = .ok (.getfield 314, 3) := by decide +kernel
theorem dX12_unsay_4 : decode cX12_unsay 4 = .ok (.istore_n 1, 1) := by decide +kernel
theorem dX12_unsay_5 : decode cX12_unsay 5 = .ok (.aload_n 0, 1) := by decide +kernel
theorem dX12_unsay_6 : decode cX12_unsay 6 = .ok (.iconst 0, 1) := by decide +kernel
theorem dX12_unsay_7 : decode cX12_unsay 7 = .ok (.putfield 314, 3) := by decide +kernel
theorem dX12_unsay_10 : decode cX12_unsay 10 = .ok (.iload_n 1, 1) := by decide +kernel
theorem dX12_unsay_11 : decode cX12_unsay 11 = .ok (.ireturn, 1) := by decide +kernel
set_option maxRecDepth 100000 in
set_option maxHeartbeats 4000000 in
theorem ct12_unsay (G : Gm) (t : Nat)    (S : St) : Ct G YX12_unsay yX12_unsay 1 0 0 (fI t) (f12_unsay S) [vR (some 146)] (MM t S) := by
  refine Ct_of_J [some (vR (some 146)), none] (by decide) rfl (fun h => by cases h) (Nat.le_of_ble_eq_true rfl) (And.intro rfl (trivial)) ?_
  unfold f12_unsay
  refine J_aload_n dX12_unsay_0 rfl rfl ?_
  refine K_getI cf12 flX12_314 (sq 146 rfl) (Or.inl rfl) dX12_unsay_1 ?_
  refine J_ltI (fun v1 _ => ?_)
  refine J_istore_n [some (vR (some 146)), some (vI v1)] dX12_unsay_4 rfl (Nat.le_of_ble_eq_true rfl) rfl rfl ?_
  refine J_aload_n dX12_unsay_5 rfl rfl ?_
  refine J_iconst (v := nI 0) dX12_unsay_6 (by decide) ?_
  refine K_putI cf12 flX12_314 (sq 146 rfl) rfl dX12_unsay_7 ?_
  refine J_ltS (fun S2 _ => ?_)
  refine J_iload_n dX12_unsay_10 rfl rfl ?_
  exact J_ireturn rfl (Nat.le_refl _) (Nat.le_refl _) rfl dX12_unsay_11
theorem dX12_isBound_0 : decode cX12_isBound 0 = .ok (.iload_n 0, 1) := by decide +kernel
theorem dX12_isBound_1 : decode cX12_isBound 1 = .ok (.ifCond .lt 39, 3) := by decide +kernel
theorem dX12_isBound_4 : decode cX12_isBound 4 = .ok (.iload_n 0, 1) := by decide +kernel
theorem dX12_isBound_5 : decode cX12_isBound 5 = .ok (.sipush 1000, 3) := by decide +kernel
theorem dX12_isBound_8 : decode cX12_isBound 8 = .ok (.idiv, 1) := by decide +kernel
theorem dX12_isBound_9 : decode cX12_isBound 9 = .ok (.i2l, 1) := by decide +kernel
theorem dX12_isBound_10 : decode cX12_isBound 10 = .ok (.lconst 1, 1) := by decide +kernel
theorem dX12_isBound_11 : decode cX12_isBound 11 = .ok (.ldc2_w 317, 3) := by decide +kernel
theorem dX12_isBound_14 : decode cX12_isBound 14 = .ok (.invokestatic 109, 3) := by decide +kernel
theorem dX12_isBound_17 : decode cX12_isBound 17 = .ok (.ifCond .eq 23, 3) := by decide +kernel
theorem dX12_isBound_20 : decode cX12_isBound 20 = .ok (.iload_n 0, 1) := by decide +kernel
theorem dX12_isBound_21 : decode cX12_isBound 21 = .ok (.sipush 1000, 3) := by decide +kernel
theorem dX12_isBound_24 : decode cX12_isBound 24 = .ok (.irem, 1) := by decide +kernel
theorem dX12_isBound_25 : decode cX12_isBound 25 = .ok (.i2l, 1) := by decide +kernel
theorem dX12_isBound_26 : decode cX12_isBound 26 = .ok (.lconst 1, 1) := by decide +kernel
theorem dX12_isBound_27 : decode cX12_isBound 27 = .ok (.ldc2_w 319, 3) := by decide +kernel
theorem dX12_isBound_30 : decode cX12_isBound 30 = .ok (.invokestatic 109, 3) := by decide +kernel
theorem dX12_isBound_33 : decode cX12_isBound 33 = .ok (.ifCond .eq 7, 3) := by decide +kernel
theorem dX12_isBound_36 : decode cX12_isBound 36 = .ok (.iconst 1, 1) := by decide +kernel
theorem dX12_isBound_37 : decode cX12_isBound 37 = .ok (.goto 4, 3) := by decide +kernel
theorem dX12_isBound_40 : decode cX12_isBound 40 = .ok (.iconst 0, 1) := by decide +kernel
theorem dX12_isBound_41 : decode cX12_isBound 41 = .ok (.ireturn, 1) := by decide +kernel
set_option maxRecDepth 100000 in
set_option maxHeartbeats 4000000 in
theorem ct12_isBound (G : Gm) (t : Nat)  (x0 : Int32)  (S : St) : Ct G YX12_isBound yX12_isBound 2 0 0 (fI t) (f12_isBound x0 S) [vI x0] (MM t S) := by
  refine Ct_of_J [some (vI x0)] (by decide) rfl (fun h => by cases h) (Nat.le_of_ble_eq_true rfl) (And.intro rfl (trivial)) ?_
  unfold f12_isBound
  refine J_iload_n dX12_isBound_0 rfl rfl ?_
  refine J_if_lt (tgt := 40) dX12_isBound_1 (by decide) (fun z1 => ?_) (fun z1 => ?_)
  · refine J_iconst (v := nI 0) dX12_isBound_40 (by decide) ?_
    exact J_zreturn (by decide) rfl (Nat.le_refl _) (Nat.le_refl _) rfl dX12_isBound_41
  · refine J_iload_n dX12_isBound_4 rfl rfl ?_
    refine J_sipush (v := nI 1000) dX12_isBound_5 (by decide) ?_
    refine J_idiv (by decide) dX12_isBound_8 ?_
    refine J_i2l dX12_isBound_9 ?_
    refine J_lconst (v := lN 1) dX12_isBound_10 (by decide) ?_
    refine J_ldc2_w (v := lN 12) wX12_317 dX12_isBound_11 ?_
    refine K_callS_i (As := [vL ((x0 / (nI 1000)).toInt64), vL (lN 1), vL (lN 12)]) mcX12_within mlX12_109 (ct12_within G t ((x0 / (nI 1000)).toInt64) (lN 1) (lN 12) S) rfl rfl (Nat.le_of_ble_eq_true rfl) (by decide) (Nat.le_of_ble_eq_true rfl) dX12_isBound_14 (fun q2 S3 => ?_)
    refine J_if_eq (tgt := 40) dX12_isBound_17 (by decide) (fun z4 => ?_) (fun z4 => ?_)
    · refine J_iconst (v := nI 0) dX12_isBound_40 (by decide) ?_
      exact J_zreturn (by decide) rfl (Nat.le_refl _) (Nat.le_refl _) rfl dX12_isBound_41
    · refine J_iload_n dX12_isBound_20 rfl rfl ?_
      refine J_sipush (v := nI 1000) dX12_isBound_21 (by decide) ?_
      refine J_irem (by decide) dX12_isBound_24 ?_
      refine J_i2l dX12_isBound_25 ?_
      refine J_lconst (v := lN 1) dX12_isBound_26 (by decide) ?_
      refine J_ldc2_w (v := lN 200) wX12_319 dX12_isBound_27 ?_
      refine K_callS_i (As := [vL ((remI x0 (nI 1000)).toInt64), vL (lN 1), vL (lN 200)]) mcX12_within mlX12_109 (ct12_within G t ((remI x0 (nI 1000)).toInt64) (lN 1) (lN 200) S3) rfl rfl (Nat.le_of_ble_eq_true rfl) (by decide) (Nat.le_of_ble_eq_true rfl) dX12_isBound_30 (fun q5 S6 => ?_)
      refine J_if_eq (tgt := 40) dX12_isBound_33 (by decide) (fun z7 => ?_) (fun z7 => ?_)
      · refine J_iconst (v := nI 0) dX12_isBound_40 (by decide) ?_
        exact J_zreturn (by decide) rfl (Nat.le_refl _) (Nat.le_refl _) rfl dX12_isBound_41
      · refine J_iconst (v := nI 1) dX12_isBound_36 (by decide) ?_
        refine J_goto (tgt := 41) dX12_isBound_37 (by decide) ?_
        exact J_zreturn (by decide) rfl (Nat.le_refl _) (Nat.le_refl _) rfl dX12_isBound_41
theorem dX12_alike_0 : decode cX12_alike 0 = .ok (.iconst 0, 1) := by decide +kernel
theorem dX12_alike_1 : decode cX12_alike 1 = .ok (.istore_n 1, 1) := by decide +kernel
theorem dX12_alike_2 : decode cX12_alike 2 = .ok (.iload_n 1, 1) := by decide +kernel
theorem dX12_alike_3 : decode cX12_alike 3 = .ok (.aload_n 0, 1) := by decide +kernel
theorem dX12_alike_4 : decode cX12_alike 4 = .ok (.getfield 156, 3) := by decide +kernel
theorem dX12_alike_7 : decode cX12_alike 7 = .ok (.if_icmp .ge 32, 3) := by decide +kernel
theorem dX12_alike_10 : decode cX12_alike 10 = .ok (.iload_n 1, 1) := by decide +kernel
theorem dX12_alike_11 : decode cX12_alike 11 = .ok (.aload_n 0, 1) := by decide +kernel
theorem dX12_alike_12 : decode cX12_alike 12 = .ok (.getfield 314, 3) := by decide +kernel
theorem dX12_alike_15 : decode cX12_alike 15 = .ok (.if_icmp .ge 24, 3) := by decide +kernel
theorem dX12_alike_18 : decode cX12_alike 18 = .ok (.aload_n 0, 1) := by decide +kernel
theorem dX12_alike_19 : decode cX12_alike 19 = .ok (.getfield 34, 3) := by decide +kernel
theorem dX12_alike_22 : decode cX12_alike 22 = .ok (.iload_n 1, 1) := by decide +kernel
theorem dX12_alike_23 : decode cX12_alike 23 = .ok (.iaload, 1) := by decide +kernel
theorem dX12_alike_24 : decode cX12_alike 24 = .ok (.aload_n 0, 1) := by decide +kernel
theorem dX12_alike_25 : decode cX12_alike 25 = .ok (.getfield 79, 3) := by decide +kernel
theorem dX12_alike_28 : decode cX12_alike 28 = .ok (.iload_n 1, 1) := by decide +kernel
theorem dX12_alike_29 : decode cX12_alike 29 = .ok (.iaload, 1) := by decide +kernel
theorem dX12_alike_30 : decode cX12_alike 30 = .ok (.if_icmp .ne 9, 3) := by decide +kernel
theorem dX12_alike_33 : decode cX12_alike 33 = .ok (.iinc 1 1, 3) := by decide +kernel
theorem dX12_alike_36 : decode cX12_alike 36 = .ok (.goto (-34), 3) := by decide +kernel
theorem dX12_alike_39 : decode cX12_alike 39 = .ok (.iload_n 1, 1) := by decide +kernel
theorem dX12_alike_40 : decode cX12_alike 40 = .ok (.ireturn, 1) := by decide +kernel
set_option maxRecDepth 100000 in
set_option maxHeartbeats 4000000 in
theorem t12_alike_h2 (G : Gm) (t : Nat) (N : Nat)     : ∀ (n : Nat) (x1 : Int32) (S : St), J G YX12_alike 1 0 0 (fI t) 0 0 2 [some (vR (some 146)), some (vI x1)] [] (MM t S) (f12_alike_h2 N n x1 S) := by
  intro n
  induction n with
  | zero => intro x1 S; exact J_none
  | succ n ih =>
    intro x1 S
    rw [f12_alike_h2]
    refine J_iload_n dX12_alike_2 rfl rfl ?_
    refine J_aload_n dX12_alike_3 rfl rfl ?_
    refine K_getI cf12 flX12_156 (sq 146 rfl) (Or.inl rfl) dX12_alike_4 ?_
    refine J_icmp_ge (tgt := 39) dX12_alike_7 (by decide) (fun z1 => ?_) (fun z1 => ?_)
    · refine J_iload_n dX12_alike_39 rfl rfl ?_
      exact J_ireturn rfl (Nat.le_refl _) (Nat.le_refl _) rfl dX12_alike_40
    · refine J_iload_n dX12_alike_10 rfl rfl ?_
      refine J_aload_n dX12_alike_11 rfl rfl ?_
      refine K_getI cf12 flX12_314 (sq 146 rfl) (Or.inl rfl) dX12_alike_12 ?_
      refine J_icmp_ge (tgt := 39) dX12_alike_15 (by decide) (fun z2 => ?_) (fun z2 => ?_)
      · refine J_iload_n dX12_alike_39 rfl rfl ?_
        exact J_ireturn rfl (Nat.le_refl _) (Nat.le_refl _) rfl dX12_alike_40
      · refine J_aload_n dX12_alike_18 rfl rfl ?_
        refine K_getR (r := some (155)) cf12 flX12_34 (sq 146 rfl) rfl (Or.inr ⟨_, rfl⟩) dX12_alike_19 ?_
        refine J_iload_n dX12_alike_22 rfl rfl ?_
        refine K_iald (sq 155 rfl) dX12_alike_23 ?_
        refine J_aload_n dX12_alike_24 rfl rfl ?_
        refine K_getR (r := some (167)) cf12 flX12_79 (sq 146 rfl) rfl (Or.inr ⟨_, rfl⟩) dX12_alike_25 ?_
        refine J_iload_n dX12_alike_28 rfl rfl ?_
        refine K_iald (sq 167 rfl) dX12_alike_29 ?_
        refine J_icmp_ne (tgt := 39) dX12_alike_30 (by decide) (fun z3 => ?_) (fun z3 => ?_)
        · refine J_iinc (v := x1 + nI 1) [some (vR (some 146)), some (vI (x1 + nI 1))] dX12_alike_33 rfl rfl (Nat.le_of_ble_eq_true rfl) rfl rfl ?_
          refine J_goto (tgt := 2) dX12_alike_36 (by decide) ?_
          exact J_sb (ih (x1 + nI 1) S) (And.intro rfl (And.intro rfl (trivial)))
        · refine J_iload_n dX12_alike_39 rfl rfl ?_
          exact J_ireturn rfl (Nat.le_refl _) (Nat.le_refl _) rfl dX12_alike_40
set_option maxRecDepth 100000 in
set_option maxHeartbeats 4000000 in
theorem ct12_alike (G : Gm) (t : Nat) (N : Nat)   (S : St) : Ct G YX12_alike yX12_alike 1 0 0 (fI t) (f12_alike N S) [vR (some 146)] (MM t S) := by
  refine Ct_of_J [some (vR (some 146)), none] (by decide) rfl (fun h => by cases h) (Nat.le_of_ble_eq_true rfl) (And.intro rfl (trivial)) ?_
  unfold f12_alike
  refine J_iconst (v := nI 0) dX12_alike_0 (by decide) ?_
  refine J_istore_n [some (vR (some 146)), some (vI (nI 0))] dX12_alike_1 rfl (Nat.le_of_ble_eq_true rfl) rfl rfl ?_
  exact J_sb (t12_alike_h2 G t N N (nI 0) S) (And.intro rfl (And.intro rfl (trivial)))
theorem dX12_votes_0 : decode cX12_votes 0 = .ok (.aload_n 0, 1) := by decide +kernel
theorem dX12_votes_1 : decode cX12_votes 1 = .ok (.iload_n 1, 1) := by decide +kernel
theorem dX12_votes_2 : decode cX12_votes 2 = .ok (.invokevirtual 117, 3) := by decide +kernel
theorem dX12_votes_5 : decode cX12_votes 5 = .ok (.ifCond .eq 39, 3) := by decide +kernel
theorem dX12_votes_8 : decode cX12_votes 8 = .ok (.iload_n 2, 1) := by decide +kernel
theorem dX12_votes_9 : decode cX12_votes 9 = .ok (.invokestatic 321, 3) := by decide +kernel
theorem dX12_votes_12 : decode cX12_votes 12 = .ok (.ifCond .eq 32, 3) := by decide +kernel
theorem dX12_votes_15 : decode cX12_votes 15 = .ok (.iload_n 3, 1) := by decide +kernel
theorem dX12_votes_16 : decode cX12_votes 16 = .ok (.i2l, 1) := by decide +kernel
theorem dX12_votes_17 : decode cX12_votes 17 = .ok (.lconst 0, 1) := by decide +kernel
theorem dX12_votes_18 : decode cX12_votes 18 = .ok (.ldc2_w 324, 3) := by decide +kernel
theorem dX12_votes_21 : decode cX12_votes 21 = .ok (.invokestatic 109, 3) := by decide +kernel
theorem dX12_votes_24 : decode cX12_votes 24 = .ok (.ifCond .eq 20, 3) := by decide +kernel
theorem dX12_votes_27 : decode cX12_votes 27 = .ok (.iload_n 3, 1) := by decide +kernel
theorem dX12_votes_28 : decode cX12_votes 28 = .ok (.ifCond .ne 18, 3) := by decide +kernel
theorem dX12_votes_31 : decode cX12_votes 31 = .ok (.iload 4, 2) := by decide +kernel
theorem dX12_votes_33 : decode cX12_votes 33 = .ok (.i2l, 1) := by decide +kernel
theorem dX12_votes_34 : decode cX12_votes 34 = .ok (.lconst 0, 1) := by decide +kernel
theorem dX12_votes_35 : decode cX12_votes 35 = .ok (.ldc2_w 177, 3) := by decide +kernel
theorem dX12_votes_38 : decode cX12_votes 38 = .ok (.invokestatic 109, 3) := by decide +kernel
theorem dX12_votes_41 : decode cX12_votes 41 = .ok (.ifCond .ne 5, 3) := by decide +kernel
theorem dX12_votes_44 : decode cX12_votes 44 = .ok (.iconst (-1), 1) := by decide +kernel
theorem dX12_votes_45 : decode cX12_votes 45 = .ok (.ireturn, 1) := by decide +kernel
theorem dX12_votes_46 : decode cX12_votes 46 = .ok (.iload_n 2, 1) := by decide +kernel
theorem dX12_votes_47 : decode cX12_votes 47 = .ok (.sipush 1000, 3) := by decide +kernel
theorem dX12_votes_50 : decode cX12_votes 50 = .ok (.idiv, 1) := by decide +kernel
theorem dX12_votes_51 : decode cX12_votes 51 = .ok (.istore 5, 2) := by decide +kernel
theorem dX12_votes_53 : decode cX12_votes 53 = .ok (.iconst 0, 1) := by decide +kernel
theorem dX12_votes_54 : decode cX12_votes 54 = .ok (.istore 6, 2) := by decide +kernel
theorem dX12_votes_56 : decode cX12_votes 56 = .ok (.iload 6, 2) := by decide +kernel
theorem dX12_votes_58 : decode cX12_votes 58 = .ok (.sipush 1000, 3) := by decide +kernel
theorem dX12_votes_61 : decode cX12_votes 61 = .ok (.if_icmp .ge 17, 3) := by decide +kernel
theorem dX12_votes_64 : decode cX12_votes 64 = .ok (.aload_n 0, 1) := by decide +kernel
theorem dX12_votes_65 : decode cX12_votes 65 = .ok (.getfield 82, 3) := by decide +kernel
theorem dX12_votes_68 : decode cX12_votes 68 = .ok (.iload 6, 2) := by decide +kernel
theorem dX12_votes_70 : decode cX12_votes 70 = .ok (.iconst 0, 1) := by decide +kernel
theorem dX12_votes_71 : decode cX12_votes 71 = .ok (.iastore, 1) := by decide +kernel
theorem dX12_votes_72 : decode cX12_votes 72 = .ok (.iinc 6 1, 3) := by decide +kernel
theorem dX12_votes_75 : decode cX12_votes 75 = .ok (.goto (-19), 3) := by decide +kernel
theorem dX12_votes_78 : decode cX12_votes 78 = .ok (.iconst 0, 1) := by decide +kernel
theorem dX12_votes_79 : decode cX12_votes 79 = .ok (.istore 6, 2) := by decide +kernel
theorem dX12_votes_81 : decode cX12_votes 81 = .ok (.iconst 0, 1) := by decide +kernel
theorem dX12_votes_82 : decode cX12_votes 82 = .ok (.istore 7, 2) := by decide +kernel
theorem dX12_votes_84 : decode cX12_votes 84 = .ok (.aload_n 0, 1) := by decide +kernel
theorem dX12_votes_85 : decode cX12_votes 85 = .ok (.iload_n 1, 1) := by decide +kernel
theorem dX12_votes_86 : decode cX12_votes 86 = .ok (.iload 5, 2) := by decide +kernel
theorem dX12_votes_88 : decode cX12_votes 88 = .ok (.invokevirtual 203, 3) := by decide +kernel
theorem dX12_votes_91 : decode cX12_votes 91 = .ok (.iconst 0, 1) := by decide +kernel
theorem dX12_votes_92 : decode cX12_votes 92 = .ok (.istore 8, 2) := by decide +kernel
theorem dX12_votes_94 : decode cX12_votes 94 = .ok (.iload 8, 2) := by decide +kernel
theorem dX12_votes_96 : decode cX12_votes 96 = .ok (.aload_n 0, 1) := by decide +kernel
theorem dX12_votes_97 : decode cX12_votes 97 = .ok (.getfield 196, 3) := by decide +kernel
theorem dX12_votes_100 : decode cX12_votes 100 = .ok (.if_icmp .ge 118, 3) := by decide +kernel
theorem dX12_votes_103 : decode cX12_votes 103 = .ok (.iconst 1, 1) := by decide +kernel
theorem dX12_votes_104 : decode cX12_votes 104 = .ok (.iload 5, 2) := by decide +kernel
theorem dX12_votes_106 : decode cX12_votes 106 = .ok (.aload_n 0, 1) := by decide +kernel
theorem dX12_votes_107 : decode cX12_votes 107 = .ok (.getfield 57, 3) := by decide +kernel
theorem dX12_votes_110 : decode cX12_votes 110 = .ok (.iload 8, 2) := by decide +kernel
theorem dX12_votes_112 : decode cX12_votes 112 = .ok (.iaload, 1) := by decide +kernel
theorem dX12_votes_113 : decode cX12_votes 113 = .ok (.isub, 1) := by decide +kernel
theorem dX12_votes_114 : decode cX12_votes 114 = .ok (.ishl, 1) := by decide +kernel
theorem dX12_votes_115 : decode cX12_votes 115 = .ok (.istore 9, 2) := by decide +kernel
theorem dX12_votes_117 : decode cX12_votes 117 = .ok (.aload_n 0, 1) := by decide +kernel
theorem dX12_votes_118 : decode cX12_votes 118 = .ok (.iload_n 1, 1) := by decide +kernel
theorem dX12_votes_119 : decode cX12_votes 119 = .ok (.aload_n 0, 1) := by decide +kernel
theorem dX12_votes_120 : decode cX12_votes 120 = .ok (.getfield 53, 3) := by decide +kernel
theorem dX12_votes_123 : decode cX12_votes 123 = .ok (.iload 8, 2) := by decide +kernel
theorem dX12_votes_125 : decode cX12_votes 125 = .ok (.laload, 1) := by decide +kernel
theorem dX12_votes_126 : decode cX12_votes 126 = .ok (.iconst 0, 1) := by decide +kernel
theorem dX12_votes_127 : decode cX12_votes 127 = .ok (.iload_n 2, 1) := by decide +kernel
theorem dX12_votes_128 : decode cX12_votes 128 = .ok (.sipush 1000, 3) := by decide +kernel
theorem dX12_votes_131 : decode cX12_votes 131 = .ok (.irem, 1) := by decide +kernel
theorem dX12_votes_132 : decode cX12_votes 132 = .ok (.invokevirtual 183, 3) := by decide +kernel
theorem dX12_votes_135 : decode cX12_votes 135 = .ok (.istore 10, 2) := by decide +kernel
theorem dX12_votes_137 : decode cX12_votes 137 = .ok (.aload_n 0, 1) := by decide +kernel
theorem dX12_votes_138 : decode cX12_votes 138 = .ok (.invokevirtual 326, 3) := by decide +kernel
theorem dX12_votes_141 : decode cX12_votes 141 = .ok (.aload_n 0, 1) := by decide +kernel
theorem dX12_votes_142 : decode cX12_votes 142 = .ok (.getfield 314, 3) := by decide +kernel
theorem dX12_votes_145 : decode cX12_votes 145 = .ok (.if_icmp .ne 43, 3) := by decide +kernel
theorem dX12_votes_148 : decode cX12_votes 148 = .ok (.aload_n 0, 1) := by decide +kernel
theorem dX12_votes_149 : decode cX12_votes 149 = .ok (.getfield 156, 3) := by decide +kernel
theorem dX12_votes_152 : decode cX12_votes 152 = .ok (.aload_n 0, 1) := by decide +kernel
theorem dX12_votes_153 : decode cX12_votes 153 = .ok (.getfield 314, 3) := by decide +kernel
theorem dX12_votes_156 : decode cX12_votes 156 = .ok (.if_icmp .le 32, 3) := by decide +kernel
theorem dX12_votes_159 : decode cX12_votes 159 = .ok (.aload_n 0, 1) := by decide +kernel
theorem dX12_votes_160 : decode cX12_votes 160 = .ok (.getfield 82, 3) := by decide +kernel
theorem dX12_votes_163 : decode cX12_votes 163 = .ok (.aload_n 0, 1) := by decide +kernel
theorem dX12_votes_164 : decode cX12_votes 164 = .ok (.getfield 34, 3) := by decide +kernel
theorem dX12_votes_167 : decode cX12_votes 167 = .ok (.aload_n 0, 1) := by decide +kernel
theorem dX12_votes_168 : decode cX12_votes 168 = .ok (.getfield 314, 3) := by decide +kernel
theorem dX12_votes_171 : decode cX12_votes 171 = .ok (.iaload, 1) := by decide +kernel
theorem dX12_votes_172 : decode cX12_votes 172 = .ok (.dup2, 1) := by decide +kernel
theorem dX12_votes_173 : decode cX12_votes 173 = .ok (.iaload, 1) := by decide +kernel
theorem dX12_votes_174 : decode cX12_votes 174 = .ok (.iload 9, 2) := by decide +kernel
theorem dX12_votes_176 : decode cX12_votes 176 = .ok (.iadd, 1) := by decide +kernel
theorem dX12_votes_177 : decode cX12_votes 177 = .ok (.iastore, 1) := by decide +kernel
theorem dX12_votes_178 : decode cX12_votes 178 = .ok (.iload 7, 2) := by decide +kernel
theorem dX12_votes_180 : decode cX12_votes 180 = .ok (.iload 9, 2) := by decide +kernel
theorem dX12_votes_182 : decode cX12_votes 182 = .ok (.iadd, 1) := by decide +kernel
theorem dX12_votes_183 : decode cX12_votes 183 = .ok (.istore 7, 2) := by decide +kernel
theorem dX12_votes_185 : decode cX12_votes 185 = .ok (.goto 27, 3) := by decide +kernel
theorem dX12_votes_188 : decode cX12_votes 188 = .ok (.aload_n 0, 1) := by decide +kernel
theorem dX12_votes_189 : decode cX12_votes 189 = .ok (.invokevirtual 326, 3) := by decide +kernel
theorem dX12_votes_192 : decode cX12_votes 192 = .ok (.aload_n 0, 1) := by decide +kernel
theorem dX12_votes_193 : decode cX12_votes 193 = .ok (.getfield 156, 3) := by decide +kernel
theorem dX12_votes_196 : decode cX12_votes 196 = .ok (.if_icmp .ne 16, 3) := by decide +kernel
theorem dX12_votes_199 : decode cX12_votes 199 = .ok (.iload 10, 2) := by decide +kernel
theorem dX12_votes_201 : decode cX12_votes 201 = .ok (.iconst 2, 1) := by decide +kernel
theorem dX12_votes_202 : decode cX12_votes 202 = .ok (.if_icmp .ne 10, 3) := by decide +kernel
theorem dX12_votes_205 : decode cX12_votes 205 = .ok (.iload 6, 2) := by decide +kernel
theorem dX12_votes_207 : decode cX12_votes 207 = .ok (.iload 9, 2) := by decide +kernel
theorem dX12_votes_209 : decode cX12_votes 209 = .ok (.iadd, 1) := by decide +kernel
theorem dX12_votes_210 : decode cX12_votes 210 = .ok (.istore 6, 2) := by decide +kernel
theorem dX12_votes_212 : decode cX12_votes 212 = .ok (.iinc 8 1, 3) := by decide +kernel
theorem dX12_votes_215 : decode cX12_votes 215 = .ok (.goto (-121), 3) := by decide +kernel
theorem dX12_votes_218 : decode cX12_votes 218 = .ok (.iconst 0, 1) := by decide +kernel
theorem dX12_votes_219 : decode cX12_votes 219 = .ok (.istore 8, 2) := by decide +kernel
theorem dX12_votes_221 : decode cX12_votes 221 = .ok (.iconst 1, 1) := by decide +kernel
theorem dX12_votes_222 : decode cX12_votes 222 = .ok (.istore 9, 2) := by decide +kernel
theorem dX12_votes_224 : decode cX12_votes 224 = .ok (.iload 9, 2) := by decide +kernel
theorem dX12_votes_226 : decode cX12_votes 226 = .ok (.sipush 1000, 3) := by decide +kernel
theorem dX12_votes_229 : decode cX12_votes 229 = .ok (.if_icmp .ge 35, 3) := by decide +kernel
theorem dX12_votes_232 : decode cX12_votes 232 = .ok (.aload_n 0, 1) := by decide +kernel
theorem dX12_votes_233 : decode cX12_votes 233 = .ok (.getfield 82, 3) := by decide +kernel
theorem dX12_votes_236 : decode cX12_votes 236 = .ok (.iload 9, 2) := by decide +kernel
theorem dX12_votes_238 : decode cX12_votes 238 = .ok (.iaload, 1) := by decide +kernel
theorem dX12_votes_239 : decode cX12_votes 239 = .ok (.aload_n 0, 1) := by decide +kernel
theorem dX12_votes_240 : decode cX12_votes 240 = .ok (.getfield 82, 3) := by decide +kernel
theorem dX12_votes_243 : decode cX12_votes 243 = .ok (.iload 8, 2) := by decide +kernel
theorem dX12_votes_245 : decode cX12_votes 245 = .ok (.iaload, 1) := by decide +kernel
theorem dX12_votes_246 : decode cX12_votes 246 = .ok (.if_icmp .le 8, 3) := by decide +kernel
theorem dX12_votes_249 : decode cX12_votes 249 = .ok (.iload 9, 2) := by decide +kernel
theorem dX12_votes_251 : decode cX12_votes 251 = .ok (.goto 5, 3) := by decide +kernel
theorem dX12_votes_254 : decode cX12_votes 254 = .ok (.iload 8, 2) := by decide +kernel
theorem dX12_votes_256 : decode cX12_votes 256 = .ok (.istore 8, 2) := by decide +kernel
theorem dX12_votes_258 : decode cX12_votes 258 = .ok (.iinc 9 1, 3) := by decide +kernel
theorem dX12_votes_261 : decode cX12_votes 261 = .ok (.goto (-37), 3) := by decide +kernel
theorem dX12_votes_264 : decode cX12_votes 264 = .ok (.iload_n 3, 1) := by decide +kernel
theorem dX12_votes_265 : decode cX12_votes 265 = .ok (.ifCond .ne 13, 3) := by decide +kernel
theorem dX12_votes_268 : decode cX12_votes 268 = .ok (.aload_n 0, 1) := by decide +kernel
theorem dX12_votes_269 : decode cX12_votes 269 = .ok (.getfield 82, 3) := by decide +kernel
theorem dX12_votes_272 : decode cX12_votes 272 = .ok (.iload 4, 2) := by decide +kernel
theorem dX12_votes_274 : decode cX12_votes 274 = .ok (.iaload, 1) := by decide +kernel
theorem dX12_votes_275 : decode cX12_votes 275 = .ok (.goto 35, 3) := by decide +kernel
theorem dX12_votes_278 : decode cX12_votes 278 = .ok (.iload_n 3, 1) := by decide +kernel
theorem dX12_votes_279 : decode cX12_votes 279 = .ok (.iconst 2, 1) := by decide +kernel
theorem dX12_votes_280 : decode cX12_votes 280 = .ok (.if_icmp .ne 8, 3) := by decide +kernel
theorem dX12_votes_283 : decode cX12_votes 283 = .ok (.iload 7, 2) := by decide +kernel
theorem dX12_votes_285 : decode cX12_votes 285 = .ok (.goto 25, 3) := by decide +kernel
theorem dX12_votes_288 : decode cX12_votes 288 = .ok (.iload_n 3, 1) := by decide +kernel
theorem dX12_votes_289 : decode cX12_votes 289 = .ok (.iconst 3, 1) := by decide +kernel
theorem dX12_votes_290 : decode cX12_votes 290 = .ok (.if_icmp .ne 8, 3) := by decide +kernel
theorem dX12_votes_293 : decode cX12_votes 293 = .ok (.iload 6, 2) := by decide +kernel
theorem dX12_votes_295 : decode cX12_votes 295 = .ok (.goto 15, 3) := by decide +kernel
theorem dX12_votes_298 : decode cX12_votes 298 = .ok (.iload 7, 2) := by decide +kernel
theorem dX12_votes_300 : decode cX12_votes 300 = .ok (.ifCond .ne 8, 3) := by decide +kernel
theorem dX12_votes_303 : decode cX12_votes 303 = .ok (.bipush (-2), 2) := by decide +kernel
theorem dX12_votes_305 : decode cX12_votes 305 = .ok (.goto 5, 3) := by decide +kernel
theorem dX12_votes_308 : decode cX12_votes 308 = .ok (.iload 8, 2) := by decide +kernel
theorem dX12_votes_310 : decode cX12_votes 310 = .ok (.ireturn, 1) := by decide +kernel
set_option maxRecDepth 100000 in
set_option maxHeartbeats 4000000 in
theorem t12_votes_j256 (G : Gm) (t : Nat) (N : Nat) (x3 : Int32) (x4 : Int32) (x6 : Int32) (x7 : Int32) (x9 : Int32)  (k224 : Int32 → Int32 → St → Option (Int32 × St)) (hk224 : ∀ (yx8 : Int32) (yx9 : Int32) (S : St), J G YX12_votes 18 0 0 (fI t) 0 0 224 [some (vR (some 146)), none, none, some (vI x3), some (vI x4), none, some (vI x6), some (vI x7), some (vI yx8), some (vI yx9), none] [] (MM t S) (k224 yx8 yx9 S)) : ∀ (xs0 : Int32) (S : St), J G YX12_votes 18 0 0 (fI t) 0 0 256 [some (vR (some 146)), none, none, some (vI x3), some (vI x4), none, some (vI x6), some (vI x7), none, some (vI x9), none] [vI xs0] (MM t S) (f12_votes_j256 N x3 x4 x6 x7 x9 k224 xs0 S) := by
  intro xs0 S
  unfold f12_votes_j256
  refine J_istore [some (vR (some 146)), none, none, some (vI x3), some (vI x4), none, some (vI x6), some (vI x7), some (vI xs0), some (vI x9), none] dX12_votes_256 (Nat.le_of_ble_eq_true rfl) rfl rfl ?_
  refine J_iinc (v := x9 + nI 1) [some (vR (some 146)), none, none, some (vI x3), some (vI x4), none, some (vI x6), some (vI x7), some (vI xs0), some (vI (x9 + nI 1)), none] dX12_votes_258 rfl rfl (Nat.le_of_ble_eq_true rfl) rfl rfl ?_
  refine J_goto (tgt := 224) dX12_votes_261 (by decide) ?_
  exact J_sb (hk224 xs0 (x9 + nI 1) S) (And.intro rfl (And.intro rfl (And.intro rfl (And.intro rfl (And.intro rfl (And.intro rfl (And.intro rfl (trivial))))))))
set_option maxRecDepth 100000 in
set_option maxHeartbeats 4000000 in
theorem t12_votes_h224 (G : Gm) (t : Nat) (N : Nat) (x3 : Int32) (x4 : Int32) (x6 : Int32) (x7 : Int32)    : ∀ (n : Nat) (x8 : Int32) (x9 : Int32) (S : St), J G YX12_votes 18 0 0 (fI t) 0 0 224 [some (vR (some 146)), none, none, some (vI x3), some (vI x4), none, some (vI x6), some (vI x7), some (vI x8), some (vI x9), none] [] (MM t S) (f12_votes_h224 N x3 x4 x6 x7 n x8 x9 S) := by
  intro n
  induction n with
  | zero => intro x8 x9 S; exact J_none
  | succ n ih =>
    intro x8 x9 S
    rw [f12_votes_h224]
    refine J_iload dX12_votes_224 rfl ?_
    refine J_sipush (v := nI 1000) dX12_votes_226 (by decide) ?_
    refine J_icmp_ge (tgt := 264) dX12_votes_229 (by decide) (fun z1 => ?_) (fun z1 => ?_)
    · refine J_iload_n dX12_votes_264 rfl rfl ?_
      refine J_if_ne (tgt := 278) dX12_votes_265 (by decide) (fun z2 => ?_) (fun z2 => ?_)
      · refine J_aload_n dX12_votes_268 rfl rfl ?_
        refine K_getR (r := some (168)) cf12 flX12_82 (sq 146 rfl) rfl (Or.inr ⟨_, rfl⟩) dX12_votes_269 ?_
        refine J_iload dX12_votes_272 rfl ?_
        refine K_iald (sq 168 rfl) dX12_votes_274 ?_
        refine J_goto (tgt := 310) dX12_votes_275 (by decide) ?_
        exact J_ireturn rfl (Nat.le_refl _) (Nat.le_refl _) rfl dX12_votes_310
      · refine J_iload_n dX12_votes_278 rfl rfl ?_
        refine J_iconst (v := nI 2) dX12_votes_279 (by decide) ?_
        refine J_icmp_ne (tgt := 288) dX12_votes_280 (by decide) (fun z3 => ?_) (fun z3 => ?_)
        · refine J_iload dX12_votes_283 rfl ?_
          refine J_goto (tgt := 310) dX12_votes_285 (by decide) ?_
          exact J_ireturn rfl (Nat.le_refl _) (Nat.le_refl _) rfl dX12_votes_310
        · refine J_iload_n dX12_votes_288 rfl rfl ?_
          refine J_iconst (v := nI 3) dX12_votes_289 (by decide) ?_
          refine J_icmp_ne (tgt := 298) dX12_votes_290 (by decide) (fun z4 => ?_) (fun z4 => ?_)
          · refine J_iload dX12_votes_293 rfl ?_
            refine J_goto (tgt := 310) dX12_votes_295 (by decide) ?_
            exact J_ireturn rfl (Nat.le_refl _) (Nat.le_refl _) rfl dX12_votes_310
          · refine J_iload dX12_votes_298 rfl ?_
            refine J_if_ne (tgt := 308) dX12_votes_300 (by decide) (fun z5 => ?_) (fun z5 => ?_)
            · refine J_bipush (v := (-2)) dX12_votes_303 (by decide) ?_
              refine J_goto (tgt := 310) dX12_votes_305 (by decide) ?_
              exact J_ireturn rfl (Nat.le_refl _) (Nat.le_refl _) rfl dX12_votes_310
            · refine J_iload dX12_votes_308 rfl ?_
              exact J_ireturn rfl (Nat.le_refl _) (Nat.le_refl _) rfl dX12_votes_310
    · refine J_aload_n dX12_votes_232 rfl rfl ?_
      refine K_getR (r := some (168)) cf12 flX12_82 (sq 146 rfl) rfl (Or.inr ⟨_, rfl⟩) dX12_votes_233 ?_
      refine J_iload dX12_votes_236 rfl ?_
      refine K_iald (sq 168 rfl) dX12_votes_238 ?_
      refine J_aload_n dX12_votes_239 rfl rfl ?_
      refine K_getR (r := some (168)) cf12 flX12_82 (sq 146 rfl) rfl (Or.inr ⟨_, rfl⟩) dX12_votes_240 ?_
      refine J_iload dX12_votes_243 rfl ?_
      refine K_iald (sq 168 rfl) dX12_votes_245 ?_
      refine J_icmp_le (tgt := 254) dX12_votes_246 (by decide) (fun z6 => ?_) (fun z6 => ?_)
      · refine J_iload dX12_votes_254 rfl ?_
        exact J_sb (t12_votes_j256 G t N x3 x4 x6 x7 x9 (f12_votes_h224 N x3 x4 x6 x7 n) ih x8 S) (And.intro rfl (And.intro rfl (And.intro rfl (And.intro rfl (And.intro rfl (And.intro rfl (trivial)))))))
      · refine J_iload dX12_votes_249 rfl ?_
        refine J_goto (tgt := 256) dX12_votes_251 (by decide) ?_
        exact J_sb (t12_votes_j256 G t N x3 x4 x6 x7 x9 (f12_votes_h224 N x3 x4 x6 x7 n) ih x9 S) (And.intro rfl (And.intro rfl (And.intro rfl (And.intro rfl (And.intro rfl (And.intro rfl (trivial)))))))
set_option maxRecDepth 100000 in
set_option maxHeartbeats 4000000 in
theorem t12_votes_j188 (G : Gm) (t : Nat) (N : Nat) (x1 : Int32) (x2 : Int32) (x3 : Int32) (x4 : Int32) (x5 : Int32) (x6 : Int32) (x7 : Int32) (x8 : Int32) (x9 : Int32) (x10 : Int32)  (k94 : Int32 → Int32 → Int32 → St → Option (Int32 × St)) (hk94 : ∀ (yx6 : Int32) (yx7 : Int32) (yx8 : Int32) (S : St), J G YX12_votes 18 0 0 (fI t) 0 0 94 [some (vR (some 146)), some (vI x1), some (vI x2), some (vI x3), some (vI x4), some (vI x5), some (vI yx6), some (vI yx7), some (vI yx8), none, none] [] (MM t S) (k94 yx6 yx7 yx8 S)) : ∀  (S : St), J G YX12_votes 18 0 0 (fI t) 0 0 188 [some (vR (some 146)), some (vI x1), some (vI x2), some (vI x3), some (vI x4), some (vI x5), some (vI x6), some (vI x7), some (vI x8), some (vI x9), some (vI x10)] [] (MM t S) (f12_votes_j188 N x1 x2 x3 x4 x5 x6 x7 x8 x9 x10 k94 S) := by
  intro S
  unfold f12_votes_j188
  refine J_aload_n dX12_votes_188 rfl rfl ?_
  refine K_callV_i (As := []) mcX12_alike mlX12_326 rfl (by decide) (sq 146 rfl) (ct12_alike G t N S) rfl rfl (Nat.le_of_ble_eq_true rfl) (by decide) (Nat.le_of_ble_eq_true rfl) dX12_votes_189 (fun q1 S2 => ?_)
  refine J_aload_n dX12_votes_192 rfl rfl ?_
  refine K_getI cf12 flX12_156 (sq 146 rfl) (Or.inl rfl) dX12_votes_193 ?_
  refine J_icmp_ne (tgt := 212) dX12_votes_196 (by decide) (fun z3 => ?_) (fun z3 => ?_)
  · refine J_iload dX12_votes_199 rfl ?_
    refine J_iconst (v := nI 2) dX12_votes_201 (by decide) ?_
    refine J_icmp_ne (tgt := 212) dX12_votes_202 (by decide) (fun z4 => ?_) (fun z4 => ?_)
    · refine J_iload dX12_votes_205 rfl ?_
      refine J_iload dX12_votes_207 rfl ?_
      refine J_iadd dX12_votes_209 ?_
      refine J_ltI (fun v5 _ => ?_)
      refine J_istore [some (vR (some 146)), some (vI x1), some (vI x2), some (vI x3), some (vI x4), some (vI x5), some (vI v5), some (vI x7), some (vI x8), some (vI x9), some (vI x10)] dX12_votes_210 (Nat.le_of_ble_eq_true rfl) rfl rfl ?_
      refine J_iinc (v := x8 + nI 1) [some (vR (some 146)), some (vI x1), some (vI x2), some (vI x3), some (vI x4), some (vI x5), some (vI v5), some (vI x7), some (vI (x8 + nI 1)), some (vI x9), some (vI x10)] dX12_votes_212 rfl rfl (Nat.le_of_ble_eq_true rfl) rfl rfl ?_
      refine J_goto (tgt := 94) dX12_votes_215 (by decide) ?_
      exact J_sb (hk94 v5 x7 (x8 + nI 1) S2) (And.intro rfl (And.intro rfl (And.intro rfl (And.intro rfl (And.intro rfl (And.intro rfl (And.intro rfl (And.intro rfl (And.intro rfl (trivial))))))))))
    · refine J_iinc (v := x8 + nI 1) [some (vR (some 146)), some (vI x1), some (vI x2), some (vI x3), some (vI x4), some (vI x5), some (vI x6), some (vI x7), some (vI (x8 + nI 1)), some (vI x9), some (vI x10)] dX12_votes_212 rfl rfl (Nat.le_of_ble_eq_true rfl) rfl rfl ?_
      refine J_goto (tgt := 94) dX12_votes_215 (by decide) ?_
      exact J_sb (hk94 x6 x7 (x8 + nI 1) S2) (And.intro rfl (And.intro rfl (And.intro rfl (And.intro rfl (And.intro rfl (And.intro rfl (And.intro rfl (And.intro rfl (And.intro rfl (trivial))))))))))
  · refine J_iinc (v := x8 + nI 1) [some (vR (some 146)), some (vI x1), some (vI x2), some (vI x3), some (vI x4), some (vI x5), some (vI x6), some (vI x7), some (vI (x8 + nI 1)), some (vI x9), some (vI x10)] dX12_votes_212 rfl rfl (Nat.le_of_ble_eq_true rfl) rfl rfl ?_
    refine J_goto (tgt := 94) dX12_votes_215 (by decide) ?_
    exact J_sb (hk94 x6 x7 (x8 + nI 1) S2) (And.intro rfl (And.intro rfl (And.intro rfl (And.intro rfl (And.intro rfl (And.intro rfl (And.intro rfl (And.intro rfl (And.intro rfl (trivial))))))))))
set_option maxRecDepth 100000 in
set_option maxHeartbeats 4000000 in
theorem t12_votes_h94 (G : Gm) (t : Nat) (N : Nat) (x1 : Int32) (x2 : Int32) (x3 : Int32) (x4 : Int32) (x5 : Int32)    : ∀ (n : Nat) (x6 : Int32) (x7 : Int32) (x8 : Int32) (S : St), J G YX12_votes 18 0 0 (fI t) 0 0 94 [some (vR (some 146)), some (vI x1), some (vI x2), some (vI x3), some (vI x4), some (vI x5), some (vI x6), some (vI x7), some (vI x8), none, none] [] (MM t S) (f12_votes_h94 N x1 x2 x3 x4 x5 n x6 x7 x8 S) := by
  intro n
  induction n with
  | zero => intro x6 x7 x8 S; exact J_none
  | succ n ih =>
    intro x6 x7 x8 S
    rw [f12_votes_h94]
    refine J_iload dX12_votes_94 rfl ?_
    refine J_aload_n dX12_votes_96 rfl rfl ?_
    refine K_getI cf12 flX12_196 (sq 146 rfl) (Or.inl rfl) dX12_votes_97 ?_
    refine J_icmp_ge (tgt := 218) dX12_votes_100 (by decide) (fun z1 => ?_) (fun z1 => ?_)
    · refine J_iconst (v := nI 0) dX12_votes_218 (by decide) ?_
      refine J_istore [some (vR (some 146)), some (vI x1), some (vI x2), some (vI x3), some (vI x4), some (vI x5), some (vI x6), some (vI x7), some (vI (nI 0)), none, none] dX12_votes_219 (Nat.le_of_ble_eq_true rfl) rfl rfl ?_
      refine J_iconst (v := nI 1) dX12_votes_221 (by decide) ?_
      refine J_istore [some (vR (some 146)), some (vI x1), some (vI x2), some (vI x3), some (vI x4), some (vI x5), some (vI x6), some (vI x7), some (vI (nI 0)), some (vI (nI 1)), none] dX12_votes_222 (Nat.le_of_ble_eq_true rfl) rfl rfl ?_
      exact J_sb (t12_votes_h224 G t N x3 x4 x6 x7 N (nI 0) (nI 1) S) (And.intro rfl (And.intro rfl (And.intro rfl (And.intro rfl (And.intro rfl (And.intro rfl (And.intro rfl (trivial))))))))
    · refine J_iconst (v := nI 1) dX12_votes_103 (by decide) ?_
      refine J_iload dX12_votes_104 rfl ?_
      refine J_aload_n dX12_votes_106 rfl rfl ?_
      refine K_getR (r := some (161)) cf12 flX12_57 (sq 146 rfl) rfl (Or.inr ⟨_, rfl⟩) dX12_votes_107 ?_
      refine J_iload dX12_votes_110 rfl ?_
      refine K_iald (sq 161 rfl) dX12_votes_112 ?_
      refine J_isub dX12_votes_113 ?_
      refine J_ishl dX12_votes_114 ?_
      refine J_ltI (fun v2 _ => ?_)
      refine J_istore [some (vR (some 146)), some (vI x1), some (vI x2), some (vI x3), some (vI x4), some (vI x5), some (vI x6), some (vI x7), some (vI x8), some (vI v2), none] dX12_votes_115 (Nat.le_of_ble_eq_true rfl) rfl rfl ?_
      refine J_aload_n dX12_votes_117 rfl rfl ?_
      refine J_iload_n dX12_votes_118 rfl rfl ?_
      refine J_aload_n dX12_votes_119 rfl rfl ?_
      refine K_getR (r := some (160)) cf12 flX12_53 (sq 146 rfl) rfl (Or.inr ⟨_, rfl⟩) dX12_votes_120 ?_
      refine J_iload dX12_votes_123 rfl ?_
      refine K_lald (sq 160 rfl) dX12_votes_125 ?_
      refine J_iconst (v := nI 0) dX12_votes_126 (by decide) ?_
      refine J_iload_n dX12_votes_127 rfl rfl ?_
      refine J_sipush (v := nI 1000) dX12_votes_128 (by decide) ?_
      refine J_irem (by decide) dX12_votes_131 ?_
      refine K_callV_i (As := [vI x1, vL (S.2 160 x8.toNatClampNeg), vI (nI 0), vI (remI x2 (nI 1000))]) mcX12_runFor mlX12_183 rfl (by decide) (sq 146 rfl) (ct12_runFor G t N x1 (S.2 160 x8.toNatClampNeg) (nI 0) (remI x2 (nI 1000)) S) rfl rfl (Nat.le_of_ble_eq_true rfl) (by decide) (Nat.le_of_ble_eq_true rfl) dX12_votes_132 (fun q3 S4 => ?_)
      refine J_istore [some (vR (some 146)), some (vI x1), some (vI x2), some (vI x3), some (vI x4), some (vI x5), some (vI x6), some (vI x7), some (vI x8), some (vI v2), some (vI q3)] dX12_votes_135 (Nat.le_of_ble_eq_true rfl) rfl rfl ?_
      refine J_aload_n dX12_votes_137 rfl rfl ?_
      refine K_callV_i (As := []) mcX12_alike mlX12_326 rfl (by decide) (sq 146 rfl) (ct12_alike G t N S4) rfl rfl (Nat.le_of_ble_eq_true rfl) (by decide) (Nat.le_of_ble_eq_true rfl) dX12_votes_138 (fun q5 S6 => ?_)
      refine J_aload_n dX12_votes_141 rfl rfl ?_
      refine K_getI cf12 flX12_314 (sq 146 rfl) (Or.inl rfl) dX12_votes_142 ?_
      refine J_icmp_ne (tgt := 188) dX12_votes_145 (by decide) (fun z7 => ?_) (fun z7 => ?_)
      · refine J_aload_n dX12_votes_148 rfl rfl ?_
        refine K_getI cf12 flX12_156 (sq 146 rfl) (Or.inl rfl) dX12_votes_149 ?_
        refine J_aload_n dX12_votes_152 rfl rfl ?_
        refine K_getI cf12 flX12_314 (sq 146 rfl) (Or.inl rfl) dX12_votes_153 ?_
        refine J_icmp_le (tgt := 188) dX12_votes_156 (by decide) (fun z8 => ?_) (fun z8 => ?_)
        · exact J_sb (t12_votes_j188 G t N x1 x2 x3 x4 x5 x6 x7 x8 v2 q3 (f12_votes_h94 N x1 x2 x3 x4 x5 n) ih S6) (And.intro rfl (And.intro rfl (And.intro rfl (And.intro rfl (And.intro rfl (And.intro rfl (And.intro rfl (And.intro rfl (And.intro rfl (And.intro rfl (And.intro rfl (trivial))))))))))))
        · refine J_aload_n dX12_votes_159 rfl rfl ?_
          refine K_getR (r := some (168)) cf12 flX12_82 (sq 146 rfl) rfl (Or.inr ⟨_, rfl⟩) dX12_votes_160 ?_
          refine J_aload_n dX12_votes_163 rfl rfl ?_
          refine K_getR (r := some (155)) cf12 flX12_34 (sq 146 rfl) rfl (Or.inr ⟨_, rfl⟩) dX12_votes_164 ?_
          refine J_aload_n dX12_votes_167 rfl rfl ?_
          refine K_getI cf12 flX12_314 (sq 146 rfl) (Or.inl rfl) dX12_votes_168 ?_
          refine K_iald (sq 155 rfl) dX12_votes_171 ?_
          refine J_dup2 dX12_votes_172 rfl rfl ?_
          refine K_iald (sq 168 rfl) dX12_votes_173 ?_
          refine J_iload dX12_votes_174 rfl ?_
          refine J_iadd dX12_votes_176 ?_
          refine K_iast (sq 168 rfl) dX12_votes_177 ?_
          refine J_ltS (fun S9 _ => ?_)
          refine J_iload dX12_votes_178 rfl ?_
          refine J_iload dX12_votes_180 rfl ?_
          refine J_iadd dX12_votes_182 ?_
          refine J_ltI (fun v10 _ => ?_)
          refine J_istore [some (vR (some 146)), some (vI x1), some (vI x2), some (vI x3), some (vI x4), some (vI x5), some (vI x6), some (vI v10), some (vI x8), some (vI v2), some (vI q3)] dX12_votes_183 (Nat.le_of_ble_eq_true rfl) rfl rfl ?_
          refine J_goto (tgt := 212) dX12_votes_185 (by decide) ?_
          refine J_iinc (v := x8 + nI 1) [some (vR (some 146)), some (vI x1), some (vI x2), some (vI x3), some (vI x4), some (vI x5), some (vI x6), some (vI v10), some (vI (x8 + nI 1)), some (vI v2), some (vI q3)] dX12_votes_212 rfl rfl (Nat.le_of_ble_eq_true rfl) rfl rfl ?_
          refine J_goto (tgt := 94) dX12_votes_215 (by decide) ?_
          exact J_sb (ih x6 v10 (x8 + nI 1) S9) (And.intro rfl (And.intro rfl (And.intro rfl (And.intro rfl (And.intro rfl (And.intro rfl (And.intro rfl (And.intro rfl (And.intro rfl (trivial))))))))))
      · exact J_sb (t12_votes_j188 G t N x1 x2 x3 x4 x5 x6 x7 x8 v2 q3 (f12_votes_h94 N x1 x2 x3 x4 x5 n) ih S6) (And.intro rfl (And.intro rfl (And.intro rfl (And.intro rfl (And.intro rfl (And.intro rfl (And.intro rfl (And.intro rfl (And.intro rfl (And.intro rfl (And.intro rfl (trivial))))))))))))
set_option maxRecDepth 100000 in
set_option maxHeartbeats 4000000 in
theorem t12_votes_h56 (G : Gm) (t : Nat) (N : Nat) (x1 : Int32) (x2 : Int32) (x3 : Int32) (x4 : Int32) (x5 : Int32)    : ∀ (n : Nat) (x6 : Int32) (S : St), J G YX12_votes 18 0 0 (fI t) 0 0 56 [some (vR (some 146)), some (vI x1), some (vI x2), some (vI x3), some (vI x4), some (vI x5), some (vI x6), none, none, none, none] [] (MM t S) (f12_votes_h56 N x1 x2 x3 x4 x5 n x6 S) := by
  intro n
  induction n with
  | zero => intro x6 S; exact J_none
  | succ n ih =>
    intro x6 S
    rw [f12_votes_h56]
    refine J_iload dX12_votes_56 rfl ?_
    refine J_sipush (v := nI 1000) dX12_votes_58 (by decide) ?_
    refine J_icmp_ge (tgt := 78) dX12_votes_61 (by decide) (fun z1 => ?_) (fun z1 => ?_)
    · refine J_iconst (v := nI 0) dX12_votes_78 (by decide) ?_
      refine J_istore [some (vR (some 146)), some (vI x1), some (vI x2), some (vI x3), some (vI x4), some (vI x5), some (vI (nI 0)), none, none, none, none] dX12_votes_79 (Nat.le_of_ble_eq_true rfl) rfl rfl ?_
      refine J_iconst (v := nI 0) dX12_votes_81 (by decide) ?_
      refine J_istore [some (vR (some 146)), some (vI x1), some (vI x2), some (vI x3), some (vI x4), some (vI x5), some (vI (nI 0)), some (vI (nI 0)), none, none, none] dX12_votes_82 (Nat.le_of_ble_eq_true rfl) rfl rfl ?_
      refine J_aload_n dX12_votes_84 rfl rfl ?_
      refine J_iload_n dX12_votes_85 rfl rfl ?_
      refine J_iload dX12_votes_86 rfl ?_
      refine K_callV_v (As := [vI x1, vI x5]) mcX12_listAll mlX12_203 rfl (by decide) (sq 146 rfl) (ct12_listAll G t N x1 x5 S) rfl rfl (Nat.le_of_ble_eq_true rfl) (by decide) (Nat.le_of_ble_eq_true rfl) dX12_votes_88 (fun q2 S3 => ?_)
      refine J_iconst (v := nI 0) dX12_votes_91 (by decide) ?_
      refine J_istore [some (vR (some 146)), some (vI x1), some (vI x2), some (vI x3), some (vI x4), some (vI x5), some (vI (nI 0)), some (vI (nI 0)), some (vI (nI 0)), none, none] dX12_votes_92 (Nat.le_of_ble_eq_true rfl) rfl rfl ?_
      exact J_sb (t12_votes_h94 G t N x1 x2 x3 x4 x5 N (nI 0) (nI 0) (nI 0) S3) (And.intro rfl (And.intro rfl (And.intro rfl (And.intro rfl (And.intro rfl (And.intro rfl (And.intro rfl (And.intro rfl (And.intro rfl (trivial))))))))))
    · refine J_aload_n dX12_votes_64 rfl rfl ?_
      refine K_getR (r := some (168)) cf12 flX12_82 (sq 146 rfl) rfl (Or.inr ⟨_, rfl⟩) dX12_votes_65 ?_
      refine J_iload dX12_votes_68 rfl ?_
      refine J_iconst (v := nI 0) dX12_votes_70 (by decide) ?_
      refine K_iast (sq 168 rfl) dX12_votes_71 ?_
      refine J_ltS (fun S4 _ => ?_)
      refine J_iinc (v := x6 + nI 1) [some (vR (some 146)), some (vI x1), some (vI x2), some (vI x3), some (vI x4), some (vI x5), some (vI (x6 + nI 1)), none, none, none, none] dX12_votes_72 rfl rfl (Nat.le_of_ble_eq_true rfl) rfl rfl ?_
      refine J_goto (tgt := 56) dX12_votes_75 (by decide) ?_
      exact J_sb (ih (x6 + nI 1) S4) (And.intro rfl (And.intro rfl (And.intro rfl (And.intro rfl (And.intro rfl (And.intro rfl (And.intro rfl (trivial))))))))
set_option maxRecDepth 100000 in
set_option maxHeartbeats 4000000 in
theorem t12_votes_j46 (G : Gm) (t : Nat) (N : Nat) (x1 : Int32) (x2 : Int32) (x3 : Int32) (x4 : Int32)    : ∀  (S : St), J G YX12_votes 18 0 0 (fI t) 0 0 46 [some (vR (some 146)), some (vI x1), some (vI x2), some (vI x3), some (vI x4), none, none, none, none, none, none] [] (MM t S) (f12_votes_j46 N x1 x2 x3 x4 S) := by
  intro S
  unfold f12_votes_j46
  refine J_iload_n dX12_votes_46 rfl rfl ?_
  refine J_sipush (v := nI 1000) dX12_votes_47 (by decide) ?_
  refine J_idiv (by decide) dX12_votes_50 ?_
  refine J_ltI (fun v1 _ => ?_)
  refine J_istore [some (vR (some 146)), some (vI x1), some (vI x2), some (vI x3), some (vI x4), some (vI v1), none, none, none, none, none] dX12_votes_51 (Nat.le_of_ble_eq_true rfl) rfl rfl ?_
  refine J_iconst (v := nI 0) dX12_votes_53 (by decide) ?_
  refine J_istore [some (vR (some 146)), some (vI x1), some (vI x2), some (vI x3), some (vI x4), some (vI v1), some (vI (nI 0)), none, none, none, none] dX12_votes_54 (Nat.le_of_ble_eq_true rfl) rfl rfl ?_
  exact J_sb (t12_votes_h56 G t N x1 x2 x3 x4 v1 N (nI 0) S) (And.intro rfl (And.intro rfl (And.intro rfl (And.intro rfl (And.intro rfl (And.intro rfl (And.intro rfl (trivial))))))))
set_option maxRecDepth 100000 in
set_option maxHeartbeats 4000000 in
theorem ct12_votes (G : Gm) (t : Nat) (N : Nat) (x1 : Int32) (x2 : Int32) (x3 : Int32) (x4 : Int32)  (S : St) : Ct G YX12_votes yX12_votes 18 0 0 (fI t) (f12_votes N x1 x2 x3 x4 S) [vR (some 146), vI x1, vI x2, vI x3, vI x4] (MM t S) := by
  refine Ct_of_J [some (vR (some 146)), some (vI x1), some (vI x2), some (vI x3), some (vI x4), none, none, none, none, none, none] (by decide) rfl (fun h => by cases h) (Nat.le_of_ble_eq_true rfl) (And.intro rfl (And.intro rfl (And.intro rfl (And.intro rfl (And.intro rfl (trivial)))))) ?_
  unfold f12_votes
  refine J_aload_n dX12_votes_0 rfl rfl ?_
  refine J_iload_n dX12_votes_1 rfl rfl ?_
  refine K_callV_i (As := [vI x1]) mcX12_isLanguage mlX12_117 rfl (by decide) (sq 146 rfl) (ct12_isLanguage G t x1 S) rfl rfl (Nat.le_of_ble_eq_true rfl) (by decide) (Nat.le_of_ble_eq_true rfl) dX12_votes_2 (fun q1 S2 => ?_)
  refine J_if_eq (tgt := 44) dX12_votes_5 (by decide) (fun z3 => ?_) (fun z3 => ?_)
  · refine J_iconst (v := (-1)) dX12_votes_44 (by decide) ?_
    exact J_ireturn rfl (Nat.le_refl _) (Nat.le_refl _) rfl dX12_votes_45
  · refine J_iload_n dX12_votes_8 rfl rfl ?_
    refine K_callS_i (As := [vI x2]) mcX12_isBound mlX12_321 (ct12_isBound G t x2 S2) rfl rfl (Nat.le_of_ble_eq_true rfl) (by decide) (Nat.le_of_ble_eq_true rfl) dX12_votes_9 (fun q4 S5 => ?_)
    refine J_if_eq (tgt := 44) dX12_votes_12 (by decide) (fun z6 => ?_) (fun z6 => ?_)
    · refine J_iconst (v := (-1)) dX12_votes_44 (by decide) ?_
      exact J_ireturn rfl (Nat.le_refl _) (Nat.le_refl _) rfl dX12_votes_45
    · refine J_iload_n dX12_votes_15 rfl rfl ?_
      refine J_i2l dX12_votes_16 ?_
      refine J_lconst (v := lN 0) dX12_votes_17 (by decide) ?_
      refine J_ldc2_w (v := lN 3) wX12_324 dX12_votes_18 ?_
      refine K_callS_i (As := [vL x3.toInt64, vL (lN 0), vL (lN 3)]) mcX12_within mlX12_109 (ct12_within G t x3.toInt64 (lN 0) (lN 3) S5) rfl rfl (Nat.le_of_ble_eq_true rfl) (by decide) (Nat.le_of_ble_eq_true rfl) dX12_votes_21 (fun q7 S8 => ?_)
      refine J_if_eq (tgt := 44) dX12_votes_24 (by decide) (fun z9 => ?_) (fun z9 => ?_)
      · refine J_iconst (v := (-1)) dX12_votes_44 (by decide) ?_
        exact J_ireturn rfl (Nat.le_refl _) (Nat.le_refl _) rfl dX12_votes_45
      · refine J_iload_n dX12_votes_27 rfl rfl ?_
        refine J_if_ne (tgt := 46) dX12_votes_28 (by decide) (fun z10 => ?_) (fun z10 => ?_)
        · refine J_iload dX12_votes_31 rfl ?_
          refine J_i2l dX12_votes_33 ?_
          refine J_lconst (v := lN 0) dX12_votes_34 (by decide) ?_
          refine J_ldc2_w (v := lN 999) wX12_177 dX12_votes_35 ?_
          refine K_callS_i (As := [vL x4.toInt64, vL (lN 0), vL (lN 999)]) mcX12_within mlX12_109 (ct12_within G t x4.toInt64 (lN 0) (lN 999) S8) rfl rfl (Nat.le_of_ble_eq_true rfl) (by decide) (Nat.le_of_ble_eq_true rfl) dX12_votes_38 (fun q11 S12 => ?_)
          refine J_if_ne (tgt := 46) dX12_votes_41 (by decide) (fun z13 => ?_) (fun z13 => ?_)
          · refine J_iconst (v := (-1)) dX12_votes_44 (by decide) ?_
            exact J_ireturn rfl (Nat.le_refl _) (Nat.le_refl _) rfl dX12_votes_45
          · exact J_sb (t12_votes_j46 G t N x1 x2 x3 x4 S12) (And.intro rfl (And.intro rfl (And.intro rfl (And.intro rfl (And.intro rfl (trivial))))))
        · exact J_sb (t12_votes_j46 G t N x1 x2 x3 x4 S8) (And.intro rfl (And.intro rfl (And.intro rfl (And.intro rfl (And.intro rfl (trivial))))))
theorem dX12_shortest_0 : decode cX12_shortest 0 = .ok (.aload_n 0, 1) := by decide +kernel
theorem dX12_shortest_1 : decode cX12_shortest 1 = .ok (.iload_n 1, 1) := by decide +kernel
theorem dX12_shortest_2 : decode cX12_shortest 2 = .ok (.invokevirtual 117, 3) := by decide +kernel
theorem dX12_shortest_5 : decode cX12_shortest 5 = .ok (.ifCond .eq 22, 3) := by decide +kernel
theorem dX12_shortest_8 : decode cX12_shortest 8 = .ok (.iload_n 2, 1) := by decide +kernel
theorem dX12_shortest_9 : decode cX12_shortest 9 = .ok (.invokestatic 321, 3) := by decide +kernel
theorem dX12_shortest_12 : decode cX12_shortest 12 = .ok (.ifCond .eq 15, 3) := by decide +kernel
theorem dX12_shortest_15 : decode cX12_shortest 15 = .ok (.iload_n 3, 1) := by decide +kernel
theorem dX12_shortest_16 : decode cX12_shortest 16 = .ok (.i2l, 1) := by decide +kernel
theorem dX12_shortest_17 : decode cX12_shortest 17 = .ok (.lconst 0, 1) := by decide +kernel
theorem dX12_shortest_18 : decode cX12_shortest 18 = .ok (.ldc2_w 329, 3) := by decide +kernel
theorem dX12_shortest_21 : decode cX12_shortest 21 = .ok (.invokestatic 109, 3) := by decide +kernel
theorem dX12_shortest_24 : decode cX12_shortest 24 = .ok (.ifCond .ne 5, 3) := by decide +kernel
theorem dX12_shortest_27 : decode cX12_shortest 27 = .ok (.iconst (-1), 1) := by decide +kernel
theorem dX12_shortest_28 : decode cX12_shortest 28 = .ok (.ireturn, 1) := by decide +kernel
theorem dX12_shortest_29 : decode cX12_shortest 29 = .ok (.aload_n 0, 1) := by decide +kernel
theorem dX12_shortest_30 : decode cX12_shortest 30 = .ok (.iload_n 1, 1) := by decide +kernel
theorem dX12_shortest_31 : decode cX12_shortest 31 = .ok (.iload_n 2, 1) := by decide +kernel
theorem dX12_shortest_32 : decode cX12_shortest 32 = .ok (.sipush 1000, 3) := by decide +kernel
theorem dX12_shortest_35 : decode cX12_shortest 35 = .ok (.idiv, 1) := by decide +kernel
theorem dX12_shortest_36 : decode cX12_shortest 36 = .ok (.invokevirtual 203, 3) := by decide +kernel
theorem dX12_shortest_39 : decode cX12_shortest 39 = .ok (.iconst (-1), 1) := by decide +kernel
theorem dX12_shortest_40 : decode cX12_shortest 40 = .ok (.istore 4, 2) := by decide +kernel
theorem dX12_shortest_42 : decode cX12_shortest 42 = .ok (.iconst 0, 1) := by decide +kernel
theorem dX12_shortest_43 : decode cX12_shortest 43 = .ok (.istore 5, 2) := by decide +kernel
theorem dX12_shortest_45 : decode cX12_shortest 45 = .ok (.iconst 1, 1) := by decide +kernel
theorem dX12_shortest_46 : decode cX12_shortest 46 = .ok (.istore 6, 2) := by decide +kernel
theorem dX12_shortest_48 : decode cX12_shortest 48 = .ok (.iconst 0, 1) := by decide +kernel
theorem dX12_shortest_49 : decode cX12_shortest 49 = .ok (.istore 7, 2) := by decide +kernel
theorem dX12_shortest_51 : decode cX12_shortest 51 = .ok (.iload 7, 2) := by decide +kernel
theorem dX12_shortest_53 : decode cX12_shortest 53 = .ok (.aload_n 0, 1) := by decide +kernel
theorem dX12_shortest_54 : decode cX12_shortest 54 = .ok (.getfield 196, 3) := by decide +kernel
theorem dX12_shortest_57 : decode cX12_shortest 57 = .ok (.if_icmp .ge 96, 3) := by decide +kernel
theorem dX12_shortest_60 : decode cX12_shortest 60 = .ok (.aload_n 0, 1) := by decide +kernel
theorem dX12_shortest_61 : decode cX12_shortest 61 = .ok (.iload_n 1, 1) := by decide +kernel
theorem dX12_shortest_62 : decode cX12_shortest 62 = .ok (.aload_n 0, 1) := by decide +kernel
theorem dX12_shortest_63 : decode cX12_shortest 63 = .ok (.getfield 53, 3) := by decide +kernel
theorem dX12_shortest_66 : decode cX12_shortest 66 = .ok (.iload 7, 2) := by decide +kernel
theorem dX12_shortest_68 : decode cX12_shortest 68 = .ok (.laload, 1) := by decide +kernel
theorem dX12_shortest_69 : decode cX12_shortest 69 = .ok (.iconst 0, 1) := by decide +kernel
theorem dX12_shortest_70 : decode cX12_shortest 70 = .ok (.iload_n 2, 1) := by decide +kernel
theorem dX12_shortest_71 : decode cX12_shortest 71 = .ok (.sipush 1000, 3) := by decide +kernel
theorem dX12_shortest_74 : decode cX12_shortest 74 = .ok (.irem, 1) := by decide +kernel
theorem dX12_shortest_75 : decode cX12_shortest 75 = .ok (.invokevirtual 183, 3) := by decide +kernel
theorem dX12_shortest_78 : decode cX12_shortest 78 = .ok (.istore 8, 2) := by decide +kernel
theorem dX12_shortest_80 : decode cX12_shortest 80 = .ok (.iload 8, 2) := by decide +kernel
theorem dX12_shortest_82 : decode cX12_shortest 82 = .ok (.ifCond .ne 42, 3) := by decide +kernel
theorem dX12_shortest_85 : decode cX12_shortest 85 = .ok (.aload_n 0, 1) := by decide +kernel
theorem dX12_shortest_86 : decode cX12_shortest 86 = .ok (.getfield 156, 3) := by decide +kernel
theorem dX12_shortest_89 : decode cX12_shortest 89 = .ok (.aload_n 0, 1) := by decide +kernel
theorem dX12_shortest_90 : decode cX12_shortest 90 = .ok (.getfield 314, 3) := by decide +kernel
theorem dX12_shortest_93 : decode cX12_shortest 93 = .ok (.if_icmp .ne 31, 3) := by decide +kernel
theorem dX12_shortest_96 : decode cX12_shortest 96 = .ok (.aload_n 0, 1) := by decide +kernel
theorem dX12_shortest_97 : decode cX12_shortest 97 = .ok (.invokevirtual 326, 3) := by decide +kernel
theorem dX12_shortest_100 : decode cX12_shortest 100 = .ok (.aload_n 0, 1) := by decide +kernel
theorem dX12_shortest_101 : decode cX12_shortest 101 = .ok (.getfield 314, 3) := by decide +kernel
theorem dX12_shortest_104 : decode cX12_shortest 104 = .ok (.if_icmp .ne 20, 3) := by decide +kernel
theorem dX12_shortest_107 : decode cX12_shortest 107 = .ok (.iload 4, 2) := by decide +kernel
theorem dX12_shortest_109 : decode cX12_shortest 109 = .ok (.ifCond .ge 8, 3) := by decide +kernel
theorem dX12_shortest_112 : decode cX12_shortest 112 = .ok (.iload 7, 2) := by decide +kernel
theorem dX12_shortest_114 : decode cX12_shortest 114 = .ok (.goto 5, 3) := by decide +kernel
theorem dX12_shortest_117 : decode cX12_shortest 117 = .ok (.iload 4, 2) := by decide +kernel
theorem dX12_shortest_119 : decode cX12_shortest 119 = .ok (.istore 4, 2) := by decide +kernel
theorem dX12_shortest_121 : decode cX12_shortest 121 = .ok (.iinc 5 1, 3) := by decide +kernel
theorem dX12_shortest_124 : decode cX12_shortest 124 = .ok (.iload 6, 2) := by decide +kernel
theorem dX12_shortest_126 : decode cX12_shortest 126 = .ok (.ifCond .eq 18, 3) := by decide +kernel
theorem dX12_shortest_129 : decode cX12_shortest 129 = .ok (.iload 4, 2) := by decide +kernel
theorem dX12_shortest_131 : decode cX12_shortest 131 = .ok (.ifCond .ge 9, 3) := by decide +kernel
theorem dX12_shortest_134 : decode cX12_shortest 134 = .ok (.iload 8, 2) := by decide +kernel
theorem dX12_shortest_136 : decode cX12_shortest 136 = .ok (.iconst 2, 1) := by decide +kernel
theorem dX12_shortest_137 : decode cX12_shortest 137 = .ok (.if_icmp .eq 7, 3) := by decide +kernel
theorem dX12_shortest_140 : decode cX12_shortest 140 = .ok (.iconst 1, 1) := by decide +kernel
theorem dX12_shortest_141 : decode cX12_shortest 141 = .ok (.goto 4, 3) := by decide +kernel
theorem dX12_shortest_144 : decode cX12_shortest 144 = .ok (.iconst 0, 1) := by decide +kernel
theorem dX12_shortest_145 : decode cX12_shortest 145 = .ok (.istore 6, 2) := by decide +kernel
theorem dX12_shortest_147 : decode cX12_shortest 147 = .ok (.iinc 7 1, 3) := by decide +kernel
theorem dX12_shortest_150 : decode cX12_shortest 150 = .ok (.goto (-99), 3) := by decide +kernel
theorem dX12_shortest_153 : decode cX12_shortest 153 = .ok (.iload_n 3, 1) := by decide +kernel
theorem dX12_shortest_154 : decode cX12_shortest 154 = .ok (.iconst 2, 1) := by decide +kernel
theorem dX12_shortest_155 : decode cX12_shortest 155 = .ok (.if_icmp .ne 6, 3) := by decide +kernel
theorem dX12_shortest_158 : decode cX12_shortest 158 = .ok (.iload 5, 2) := by decide +kernel
theorem dX12_shortest_160 : decode cX12_shortest 160 = .ok (.ireturn, 1) := by decide +kernel
theorem dX12_shortest_161 : decode cX12_shortest 161 = .ok (.iload 4, 2) := by decide +kernel
theorem dX12_shortest_163 : decode cX12_shortest 163 = .ok (.ifCond .ge 6, 3) := by decide +kernel
theorem dX12_shortest_166 : decode cX12_shortest 166 = .ok (.bipush (-2), 2) := by decide +kernel
theorem dX12_shortest_168 : decode cX12_shortest 168 = .ok (.ireturn, 1) := by decide +kernel
theorem dX12_shortest_169 : decode cX12_shortest 169 = .ok (.iload_n 3, 1) := by decide +kernel
theorem dX12_shortest_170 : decode cX12_shortest 170 = .ok (.iconst 1, 1) := by decide +kernel
theorem dX12_shortest_171 : decode cX12_shortest 171 = .ok (.if_icmp .ne 14, 3) := by decide +kernel
theorem dX12_shortest_174 : decode cX12_shortest 174 = .ok (.iload 6, 2) := by decide +kernel
theorem dX12_shortest_176 : decode cX12_shortest 176 = .ok (.ifCond .eq 7, 3) := by decide +kernel
theorem dX12_shortest_179 : decode cX12_shortest 179 = .ok (.iconst 1, 1) := by decide +kernel
theorem dX12_shortest_180 : decode cX12_shortest 180 = .ok (.goto 4, 3) := by decide +kernel
theorem dX12_shortest_183 : decode cX12_shortest 183 = .ok (.iconst 0, 1) := by decide +kernel
theorem dX12_shortest_184 : decode cX12_shortest 184 = .ok (.ireturn, 1) := by decide +kernel
theorem dX12_shortest_185 : decode cX12_shortest 185 = .ok (.aload_n 0, 1) := by decide +kernel
theorem dX12_shortest_186 : decode cX12_shortest 186 = .ok (.aload_n 0, 1) := by decide +kernel
theorem dX12_shortest_187 : decode cX12_shortest 187 = .ok (.getfield 53, 3) := by decide +kernel
theorem dX12_shortest_190 : decode cX12_shortest 190 = .ok (.iload 4, 2) := by decide +kernel
theorem dX12_shortest_192 : decode cX12_shortest 192 = .ok (.laload, 1) := by decide +kernel
theorem dX12_shortest_193 : decode cX12_shortest 193 = .ok (.invokevirtual 207, 3) := by decide +kernel
theorem dX12_shortest_196 : decode cX12_shortest 196 = .ok (.aload_n 0, 1) := by decide +kernel
theorem dX12_shortest_197 : decode cX12_shortest 197 = .ok (.getfield 57, 3) := by decide +kernel
theorem dX12_shortest_200 : decode cX12_shortest 200 = .ok (.iload 4, 2) := by decide +kernel
theorem dX12_shortest_202 : decode cX12_shortest 202 = .ok (.iaload, 1) := by decide +kernel
theorem dX12_shortest_203 : decode cX12_shortest 203 = .ok (.ireturn, 1) := by decide +kernel
set_option maxRecDepth 100000 in
set_option maxHeartbeats 4000000 in
theorem t12_shortest_j145 (G : Gm) (t : Nat) (N : Nat) (x1 : Int32) (x2 : Int32) (x3 : Int32) (x4 : Int32) (x5 : Int32) (x7 : Int32)  (k51 : Int32 → Int32 → Int32 → Int32 → St → Option (Int32 × St)) (hk51 : ∀ (yx4 : Int32) (yx5 : Int32) (yx6 : Int32) (yx7 : Int32) (S : St), J G YX12_shortest 18 0 0 (fI t) 0 0 51 [some (vR (some 146)), some (vI x1), some (vI x2), some (vI x3), some (vI yx4), some (vI yx5), some (vI yx6), some (vI yx7), none] [] (MM t S) (k51 yx4 yx5 yx6 yx7 S)) : ∀ (xs0 : Int32) (S : St), J G YX12_shortest 18 0 0 (fI t) 0 0 145 [some (vR (some 146)), some (vI x1), some (vI x2), some (vI x3), some (vI x4), some (vI x5), none, some (vI x7), none] [vI xs0] (MM t S) (f12_shortest_j145 N x1 x2 x3 x4 x5 x7 k51 xs0 S) := by
  intro xs0 S
  unfold f12_shortest_j145
  refine J_istore [some (vR (some 146)), some (vI x1), some (vI x2), some (vI x3), some (vI x4), some (vI x5), some (vI xs0), some (vI x7), none] dX12_shortest_145 (Nat.le_of_ble_eq_true rfl) rfl rfl ?_
  refine J_iinc (v := x7 + nI 1) [some (vR (some 146)), some (vI x1), some (vI x2), some (vI x3), some (vI x4), some (vI x5), some (vI xs0), some (vI (x7 + nI 1)), none] dX12_shortest_147 rfl rfl (Nat.le_of_ble_eq_true rfl) rfl rfl ?_
  refine J_goto (tgt := 51) dX12_shortest_150 (by decide) ?_
  exact J_sb (hk51 x4 x5 xs0 (x7 + nI 1) S) (And.intro rfl (And.intro rfl (And.intro rfl (And.intro rfl (And.intro rfl (And.intro rfl (And.intro rfl (And.intro rfl (trivial)))))))))
set_option maxRecDepth 100000 in
set_option maxHeartbeats 4000000 in
theorem t12_shortest_j144 (G : Gm) (t : Nat) (N : Nat) (x1 : Int32) (x2 : Int32) (x3 : Int32) (x4 : Int32) (x5 : Int32) (x7 : Int32)  (k51 : Int32 → Int32 → Int32 → Int32 → St → Option (Int32 × St)) (hk51 : ∀ (yx4 : Int32) (yx5 : Int32) (yx6 : Int32) (yx7 : Int32) (S : St), J G YX12_shortest 18 0 0 (fI t) 0 0 51 [some (vR (some 146)), some (vI x1), some (vI x2), some (vI x3), some (vI yx4), some (vI yx5), some (vI yx6), some (vI yx7), none] [] (MM t S) (k51 yx4 yx5 yx6 yx7 S)) : ∀  (S : St), J G YX12_shortest 18 0 0 (fI t) 0 0 144 [some (vR (some 146)), some (vI x1), some (vI x2), some (vI x3), some (vI x4), some (vI x5), none, some (vI x7), none] [] (MM t S) (f12_shortest_j144 N x1 x2 x3 x4 x5 x7 k51 S) := by
  intro S
  unfold f12_shortest_j144
  refine J_iconst (v := nI 0) dX12_shortest_144 (by decide) ?_
  exact J_sb (t12_shortest_j145 G t N x1 x2 x3 x4 x5 x7 k51 hk51 (nI 0) S) (And.intro rfl (And.intro rfl (And.intro rfl (And.intro rfl (And.intro rfl (And.intro rfl (And.intro rfl (trivial))))))))
set_option maxRecDepth 100000 in
set_option maxHeartbeats 4000000 in
theorem t12_shortest_j140 (G : Gm) (t : Nat) (N : Nat) (x1 : Int32) (x2 : Int32) (x3 : Int32) (x4 : Int32) (x5 : Int32) (x7 : Int32)  (k51 : Int32 → Int32 → Int32 → Int32 → St → Option (Int32 × St)) (hk51 : ∀ (yx4 : Int32) (yx5 : Int32) (yx6 : Int32) (yx7 : Int32) (S : St), J G YX12_shortest 18 0 0 (fI t) 0 0 51 [some (vR (some 146)), some (vI x1), some (vI x2), some (vI x3), some (vI yx4), some (vI yx5), some (vI yx6), some (vI yx7), none] [] (MM t S) (k51 yx4 yx5 yx6 yx7 S)) : ∀  (S : St), J G YX12_shortest 18 0 0 (fI t) 0 0 140 [some (vR (some 146)), some (vI x1), some (vI x2), some (vI x3), some (vI x4), some (vI x5), none, some (vI x7), none] [] (MM t S) (f12_shortest_j140 N x1 x2 x3 x4 x5 x7 k51 S) := by
  intro S
  unfold f12_shortest_j140
  refine J_iconst (v := nI 1) dX12_shortest_140 (by decide) ?_
  refine J_goto (tgt := 145) dX12_shortest_141 (by decide) ?_
  exact J_sb (t12_shortest_j145 G t N x1 x2 x3 x4 x5 x7 k51 hk51 (nI 1) S) (And.intro rfl (And.intro rfl (And.intro rfl (And.intro rfl (And.intro rfl (And.intro rfl (And.intro rfl (trivial))))))))
set_option maxRecDepth 100000 in
set_option maxHeartbeats 4000000 in
theorem t12_shortest_j124 (G : Gm) (t : Nat) (N : Nat) (x1 : Int32) (x2 : Int32) (x3 : Int32) (x4 : Int32) (x5 : Int32) (x6 : Int32) (x7 : Int32) (x8 : Int32)  (k51 : Int32 → Int32 → Int32 → Int32 → St → Option (Int32 × St)) (hk51 : ∀ (yx4 : Int32) (yx5 : Int32) (yx6 : Int32) (yx7 : Int32) (S : St), J G YX12_shortest 18 0 0 (fI t) 0 0 51 [some (vR (some 146)), some (vI x1), some (vI x2), some (vI x3), some (vI yx4), some (vI yx5), some (vI yx6), some (vI yx7), none] [] (MM t S) (k51 yx4 yx5 yx6 yx7 S)) : ∀  (S : St), J G YX12_shortest 18 0 0 (fI t) 0 0 124 [some (vR (some 146)), some (vI x1), some (vI x2), some (vI x3), some (vI x4), some (vI x5), some (vI x6), some (vI x7), some (vI x8)] [] (MM t S) (f12_shortest_j124 N x1 x2 x3 x4 x5 x6 x7 x8 k51 S) := by
  intro S
  unfold f12_shortest_j124
  refine J_iload dX12_shortest_124 rfl ?_
  refine J_if_eq (tgt := 144) dX12_shortest_126 (by decide) (fun z1 => ?_) (fun z1 => ?_)
  · exact J_sb (t12_shortest_j144 G t N x1 x2 x3 x4 x5 x7 k51 hk51 S) (And.intro rfl (And.intro rfl (And.intro rfl (And.intro rfl (And.intro rfl (And.intro rfl (And.intro rfl (trivial))))))))
  · refine J_iload dX12_shortest_129 rfl ?_
    refine J_if_ge (tgt := 140) dX12_shortest_131 (by decide) (fun z2 => ?_) (fun z2 => ?_)
    · exact J_sb (t12_shortest_j140 G t N x1 x2 x3 x4 x5 x7 k51 hk51 S) (And.intro rfl (And.intro rfl (And.intro rfl (And.intro rfl (And.intro rfl (And.intro rfl (And.intro rfl (trivial))))))))
    · refine J_iload dX12_shortest_134 rfl ?_
      refine J_iconst (v := nI 2) dX12_shortest_136 (by decide) ?_
      refine J_icmp_eq (tgt := 144) dX12_shortest_137 (by decide) (fun z3 => ?_) (fun z3 => ?_)
      · exact J_sb (t12_shortest_j144 G t N x1 x2 x3 x4 x5 x7 k51 hk51 S) (And.intro rfl (And.intro rfl (And.intro rfl (And.intro rfl (And.intro rfl (And.intro rfl (And.intro rfl (trivial))))))))
      · exact J_sb (t12_shortest_j140 G t N x1 x2 x3 x4 x5 x7 k51 hk51 S) (And.intro rfl (And.intro rfl (And.intro rfl (And.intro rfl (And.intro rfl (And.intro rfl (And.intro rfl (trivial))))))))
set_option maxRecDepth 100000 in
set_option maxHeartbeats 4000000 in
theorem t12_shortest_j119 (G : Gm) (t : Nat) (N : Nat) (x1 : Int32) (x2 : Int32) (x3 : Int32) (x5 : Int32) (x6 : Int32) (x7 : Int32) (x8 : Int32)  (k51 : Int32 → Int32 → Int32 → Int32 → St → Option (Int32 × St)) (hk51 : ∀ (yx4 : Int32) (yx5 : Int32) (yx6 : Int32) (yx7 : Int32) (S : St), J G YX12_shortest 18 0 0 (fI t) 0 0 51 [some (vR (some 146)), some (vI x1), some (vI x2), some (vI x3), some (vI yx4), some (vI yx5), some (vI yx6), some (vI yx7), none] [] (MM t S) (k51 yx4 yx5 yx6 yx7 S)) : ∀ (xs0 : Int32) (S : St), J G YX12_shortest 18 0 0 (fI t) 0 0 119 [some (vR (some 146)), some (vI x1), some (vI x2), some (vI x3), none, some (vI x5), some (vI x6), some (vI x7), some (vI x8)] [vI xs0] (MM t S) (f12_shortest_j119 N x1 x2 x3 x5 x6 x7 x8 k51 xs0 S) := by
  intro xs0 S
  unfold f12_shortest_j119
  refine J_istore [some (vR (some 146)), some (vI x1), some (vI x2), some (vI x3), some (vI xs0), some (vI x5), some (vI x6), some (vI x7), some (vI x8)] dX12_shortest_119 (Nat.le_of_ble_eq_true rfl) rfl rfl ?_
  refine J_iinc (v := x5 + nI 1) [some (vR (some 146)), some (vI x1), some (vI x2), some (vI x3), some (vI xs0), some (vI (x5 + nI 1)), some (vI x6), some (vI x7), some (vI x8)] dX12_shortest_121 rfl rfl (Nat.le_of_ble_eq_true rfl) rfl rfl ?_
  exact J_sb (t12_shortest_j124 G t N x1 x2 x3 xs0 (x5 + nI 1) x6 x7 x8 k51 hk51 S) (And.intro rfl (And.intro rfl (And.intro rfl (And.intro rfl (And.intro rfl (And.intro rfl (And.intro rfl (And.intro rfl (And.intro rfl (trivial))))))))))
set_option maxRecDepth 100000 in
set_option maxHeartbeats 4000000 in
theorem t12_shortest_h51 (G : Gm) (t : Nat) (N : Nat) (x1 : Int32) (x2 : Int32) (x3 : Int32)    : ∀ (n : Nat) (x4 : Int32) (x5 : Int32) (x6 : Int32) (x7 : Int32) (S : St), J G YX12_shortest 18 0 0 (fI t) 0 0 51 [some (vR (some 146)), some (vI x1), some (vI x2), some (vI x3), some (vI x4), some (vI x5), some (vI x6), some (vI x7), none] [] (MM t S) (f12_shortest_h51 N x1 x2 x3 n x4 x5 x6 x7 S) := by
  intro n
  induction n with
  | zero => intro x4 x5 x6 x7 S; exact J_none
  | succ n ih =>
    intro x4 x5 x6 x7 S
    rw [f12_shortest_h51]
    refine J_iload dX12_shortest_51 rfl ?_
    refine J_aload_n dX12_shortest_53 rfl rfl ?_
    refine K_getI cf12 flX12_196 (sq 146 rfl) (Or.inl rfl) dX12_shortest_54 ?_
    refine J_icmp_ge (tgt := 153) dX12_shortest_57 (by decide) (fun z1 => ?_) (fun z1 => ?_)
    · refine J_iload_n dX12_shortest_153 rfl rfl ?_
      refine J_iconst (v := nI 2) dX12_shortest_154 (by decide) ?_
      refine J_icmp_ne (tgt := 161) dX12_shortest_155 (by decide) (fun z2 => ?_) (fun z2 => ?_)
      · refine J_iload dX12_shortest_158 rfl ?_
        exact J_ireturn rfl (Nat.le_refl _) (Nat.le_refl _) rfl dX12_shortest_160
      · refine J_iload dX12_shortest_161 rfl ?_
        refine J_if_ge (tgt := 169) dX12_shortest_163 (by decide) (fun z3 => ?_) (fun z3 => ?_)
        · refine J_iload_n dX12_shortest_169 rfl rfl ?_
          refine J_iconst (v := nI 1) dX12_shortest_170 (by decide) ?_
          refine J_icmp_ne (tgt := 185) dX12_shortest_171 (by decide) (fun z4 => ?_) (fun z4 => ?_)
          · refine J_iload dX12_shortest_174 rfl ?_
            refine J_if_eq (tgt := 183) dX12_shortest_176 (by decide) (fun z7 => ?_) (fun z7 => ?_)
            · refine J_iconst (v := nI 0) dX12_shortest_183 (by decide) ?_
              exact J_ireturn rfl (Nat.le_refl _) (Nat.le_refl _) rfl dX12_shortest_184
            · refine J_iconst (v := nI 1) dX12_shortest_179 (by decide) ?_
              refine J_goto (tgt := 184) dX12_shortest_180 (by decide) ?_
              exact J_ireturn rfl (Nat.le_refl _) (Nat.le_refl _) rfl dX12_shortest_184
          · refine J_aload_n dX12_shortest_185 rfl rfl ?_
            refine J_aload_n dX12_shortest_186 rfl rfl ?_
            refine K_getR (r := some (160)) cf12 flX12_53 (sq 146 rfl) rfl (Or.inr ⟨_, rfl⟩) dX12_shortest_187 ?_
            refine J_iload dX12_shortest_190 rfl ?_
            refine K_lald (sq 160 rfl) dX12_shortest_192 ?_
            refine K_callV_v (As := [vL (S.2 160 x4.toNatClampNeg)]) mcX12_lookAt mlX12_207 rfl (by decide) (sq 146 rfl) (ct12_lookAt G t N (S.2 160 x4.toNatClampNeg) S) rfl rfl (Nat.le_of_ble_eq_true rfl) (by decide) (Nat.le_of_ble_eq_true rfl) dX12_shortest_193 (fun q5 S6 => ?_)
            refine J_aload_n dX12_shortest_196 rfl rfl ?_
            refine K_getR (r := some (161)) cf12 flX12_57 (sq 146 rfl) rfl (Or.inr ⟨_, rfl⟩) dX12_shortest_197 ?_
            refine J_iload dX12_shortest_200 rfl ?_
            refine K_iald (sq 161 rfl) dX12_shortest_202 ?_
            exact J_ireturn rfl (Nat.le_refl _) (Nat.le_refl _) rfl dX12_shortest_203
        · refine J_bipush (v := (-2)) dX12_shortest_166 (by decide) ?_
          exact J_ireturn rfl (Nat.le_refl _) (Nat.le_refl _) rfl dX12_shortest_168
    · refine J_aload_n dX12_shortest_60 rfl rfl ?_
      refine J_iload_n dX12_shortest_61 rfl rfl ?_
      refine J_aload_n dX12_shortest_62 rfl rfl ?_
      refine K_getR (r := some (160)) cf12 flX12_53 (sq 146 rfl) rfl (Or.inr ⟨_, rfl⟩) dX12_shortest_63 ?_
      refine J_iload dX12_shortest_66 rfl ?_
      refine K_lald (sq 160 rfl) dX12_shortest_68 ?_
      refine J_iconst (v := nI 0) dX12_shortest_69 (by decide) ?_
      refine J_iload_n dX12_shortest_70 rfl rfl ?_
      refine J_sipush (v := nI 1000) dX12_shortest_71 (by decide) ?_
      refine J_irem (by decide) dX12_shortest_74 ?_
      refine K_callV_i (As := [vI x1, vL (S.2 160 x7.toNatClampNeg), vI (nI 0), vI (remI x2 (nI 1000))]) mcX12_runFor mlX12_183 rfl (by decide) (sq 146 rfl) (ct12_runFor G t N x1 (S.2 160 x7.toNatClampNeg) (nI 0) (remI x2 (nI 1000)) S) rfl rfl (Nat.le_of_ble_eq_true rfl) (by decide) (Nat.le_of_ble_eq_true rfl) dX12_shortest_75 (fun q8 S9 => ?_)
      refine J_istore [some (vR (some 146)), some (vI x1), some (vI x2), some (vI x3), some (vI x4), some (vI x5), some (vI x6), some (vI x7), some (vI q8)] dX12_shortest_78 (Nat.le_of_ble_eq_true rfl) rfl rfl ?_
      refine J_iload dX12_shortest_80 rfl ?_
      refine J_if_ne (tgt := 124) dX12_shortest_82 (by decide) (fun z10 => ?_) (fun z10 => ?_)
      · refine J_aload_n dX12_shortest_85 rfl rfl ?_
        refine K_getI cf12 flX12_156 (sq 146 rfl) (Or.inl rfl) dX12_shortest_86 ?_
        refine J_aload_n dX12_shortest_89 rfl rfl ?_
        refine K_getI cf12 flX12_314 (sq 146 rfl) (Or.inl rfl) dX12_shortest_90 ?_
        refine J_icmp_ne (tgt := 124) dX12_shortest_93 (by decide) (fun z11 => ?_) (fun z11 => ?_)
        · refine J_aload_n dX12_shortest_96 rfl rfl ?_
          refine K_callV_i (As := []) mcX12_alike mlX12_326 rfl (by decide) (sq 146 rfl) (ct12_alike G t N S9) rfl rfl (Nat.le_of_ble_eq_true rfl) (by decide) (Nat.le_of_ble_eq_true rfl) dX12_shortest_97 (fun q12 S13 => ?_)
          refine J_aload_n dX12_shortest_100 rfl rfl ?_
          refine K_getI cf12 flX12_314 (sq 146 rfl) (Or.inl rfl) dX12_shortest_101 ?_
          refine J_icmp_ne (tgt := 124) dX12_shortest_104 (by decide) (fun z14 => ?_) (fun z14 => ?_)
          · refine J_iload dX12_shortest_107 rfl ?_
            refine J_if_ge (tgt := 117) dX12_shortest_109 (by decide) (fun z15 => ?_) (fun z15 => ?_)
            · refine J_iload dX12_shortest_117 rfl ?_
              exact J_sb (t12_shortest_j119 G t N x1 x2 x3 x5 x6 x7 q8 (f12_shortest_h51 N x1 x2 x3 n) ih x4 S13) (And.intro rfl (And.intro rfl (And.intro rfl (And.intro rfl (And.intro rfl (And.intro rfl (And.intro rfl (And.intro rfl (trivial)))))))))
            · refine J_iload dX12_shortest_112 rfl ?_
              refine J_goto (tgt := 119) dX12_shortest_114 (by decide) ?_
              exact J_sb (t12_shortest_j119 G t N x1 x2 x3 x5 x6 x7 q8 (f12_shortest_h51 N x1 x2 x3 n) ih x7 S13) (And.intro rfl (And.intro rfl (And.intro rfl (And.intro rfl (And.intro rfl (And.intro rfl (And.intro rfl (And.intro rfl (trivial)))))))))
          · exact J_sb (t12_shortest_j124 G t N x1 x2 x3 x4 x5 x6 x7 q8 (f12_shortest_h51 N x1 x2 x3 n) ih S13) (And.intro rfl (And.intro rfl (And.intro rfl (And.intro rfl (And.intro rfl (And.intro rfl (And.intro rfl (And.intro rfl (And.intro rfl (trivial))))))))))
        · exact J_sb (t12_shortest_j124 G t N x1 x2 x3 x4 x5 x6 x7 q8 (f12_shortest_h51 N x1 x2 x3 n) ih S9) (And.intro rfl (And.intro rfl (And.intro rfl (And.intro rfl (And.intro rfl (And.intro rfl (And.intro rfl (And.intro rfl (And.intro rfl (trivial))))))))))
      · exact J_sb (t12_shortest_j124 G t N x1 x2 x3 x4 x5 x6 x7 q8 (f12_shortest_h51 N x1 x2 x3 n) ih S9) (And.intro rfl (And.intro rfl (And.intro rfl (And.intro rfl (And.intro rfl (And.intro rfl (And.intro rfl (And.intro rfl (And.intro rfl (trivial))))))))))
set_option maxRecDepth 100000 in
set_option maxHeartbeats 4000000 in
theorem ct12_shortest (G : Gm) (t : Nat) (N : Nat) (x1 : Int32) (x2 : Int32) (x3 : Int32)  (S : St) : Ct G YX12_shortest yX12_shortest 18 0 0 (fI t) (f12_shortest N x1 x2 x3 S) [vR (some 146), vI x1, vI x2, vI x3] (MM t S) := by
  refine Ct_of_J [some (vR (some 146)), some (vI x1), some (vI x2), some (vI x3), none, none, none, none, none] (by decide) rfl (fun h => by cases h) (Nat.le_of_ble_eq_true rfl) (And.intro rfl (And.intro rfl (And.intro rfl (And.intro rfl (trivial))))) ?_
  unfold f12_shortest
  refine J_aload_n dX12_shortest_0 rfl rfl ?_
  refine J_iload_n dX12_shortest_1 rfl rfl ?_
  refine K_callV_i (As := [vI x1]) mcX12_isLanguage mlX12_117 rfl (by decide) (sq 146 rfl) (ct12_isLanguage G t x1 S) rfl rfl (Nat.le_of_ble_eq_true rfl) (by decide) (Nat.le_of_ble_eq_true rfl) dX12_shortest_2 (fun q1 S2 => ?_)
  refine J_if_eq (tgt := 27) dX12_shortest_5 (by decide) (fun z3 => ?_) (fun z3 => ?_)
  · refine J_iconst (v := (-1)) dX12_shortest_27 (by decide) ?_
    exact J_ireturn rfl (Nat.le_refl _) (Nat.le_refl _) rfl dX12_shortest_28
  · refine J_iload_n dX12_shortest_8 rfl rfl ?_
    refine K_callS_i (As := [vI x2]) mcX12_isBound mlX12_321 (ct12_isBound G t x2 S2) rfl rfl (Nat.le_of_ble_eq_true rfl) (by decide) (Nat.le_of_ble_eq_true rfl) dX12_shortest_9 (fun q4 S5 => ?_)
    refine J_if_eq (tgt := 27) dX12_shortest_12 (by decide) (fun z6 => ?_) (fun z6 => ?_)
    · refine J_iconst (v := (-1)) dX12_shortest_27 (by decide) ?_
      exact J_ireturn rfl (Nat.le_refl _) (Nat.le_refl _) rfl dX12_shortest_28
    · refine J_iload_n dX12_shortest_15 rfl rfl ?_
      refine J_i2l dX12_shortest_16 ?_
      refine J_lconst (v := lN 0) dX12_shortest_17 (by decide) ?_
      refine J_ldc2_w (v := lN 2) wX12_329 dX12_shortest_18 ?_
      refine K_callS_i (As := [vL x3.toInt64, vL (lN 0), vL (lN 2)]) mcX12_within mlX12_109 (ct12_within G t x3.toInt64 (lN 0) (lN 2) S5) rfl rfl (Nat.le_of_ble_eq_true rfl) (by decide) (Nat.le_of_ble_eq_true rfl) dX12_shortest_21 (fun q7 S8 => ?_)
      refine J_if_ne (tgt := 29) dX12_shortest_24 (by decide) (fun z9 => ?_) (fun z9 => ?_)
      · refine J_iconst (v := (-1)) dX12_shortest_27 (by decide) ?_
        exact J_ireturn rfl (Nat.le_refl _) (Nat.le_refl _) rfl dX12_shortest_28
      · refine J_aload_n dX12_shortest_29 rfl rfl ?_
        refine J_iload_n dX12_shortest_30 rfl rfl ?_
        refine J_iload_n dX12_shortest_31 rfl rfl ?_
        refine J_sipush (v := nI 1000) dX12_shortest_32 (by decide) ?_
        refine J_idiv (by decide) dX12_shortest_35 ?_
        refine K_callV_v (As := [vI x1, vI (x2 / (nI 1000))]) mcX12_listAll mlX12_203 rfl (by decide) (sq 146 rfl) (ct12_listAll G t N x1 (x2 / (nI 1000)) S8) rfl rfl (Nat.le_of_ble_eq_true rfl) (by decide) (Nat.le_of_ble_eq_true rfl) dX12_shortest_36 (fun q10 S11 => ?_)
        refine J_iconst (v := (-1)) dX12_shortest_39 (by decide) ?_
        refine J_istore [some (vR (some 146)), some (vI x1), some (vI x2), some (vI x3), some (vI (-1)), none, none, none, none] dX12_shortest_40 (Nat.le_of_ble_eq_true rfl) rfl rfl ?_
        refine J_iconst (v := nI 0) dX12_shortest_42 (by decide) ?_
        refine J_istore [some (vR (some 146)), some (vI x1), some (vI x2), some (vI x3), some (vI (-1)), some (vI (nI 0)), none, none, none] dX12_shortest_43 (Nat.le_of_ble_eq_true rfl) rfl rfl ?_
        refine J_iconst (v := nI 1) dX12_shortest_45 (by decide) ?_
        refine J_istore [some (vR (some 146)), some (vI x1), some (vI x2), some (vI x3), some (vI (-1)), some (vI (nI 0)), some (vI (nI 1)), none, none] dX12_shortest_46 (Nat.le_of_ble_eq_true rfl) rfl rfl ?_
        refine J_iconst (v := nI 0) dX12_shortest_48 (by decide) ?_
        refine J_istore [some (vR (some 146)), some (vI x1), some (vI x2), some (vI x3), some (vI (-1)), some (vI (nI 0)), some (vI (nI 1)), some (vI (nI 0)), none] dX12_shortest_49 (Nat.le_of_ble_eq_true rfl) rfl rfl ?_
        exact J_sb (t12_shortest_h51 G t N x1 x2 x3 N (-1) (nI 0) (nI 1) (nI 0) S11) (And.intro rfl (And.intro rfl (And.intro rfl (And.intro rfl (And.intro rfl (And.intro rfl (And.intro rfl (And.intro rfl (trivial)))))))))
theorem dX12_sureBits_0 : decode cX12_sureBits 0 = .ok (.iconst 1, 1) := by decide +kernel
theorem dX12_sureBits_1 : decode cX12_sureBits 1 = .ok (.iload_n 0, 1) := by decide +kernel
theorem dX12_sureBits_2 : decode cX12_sureBits 2 = .ok (.ishl, 1) := by decide +kernel
theorem dX12_sureBits_3 : decode cX12_sureBits 3 = .ok (.iconst 1, 1) := by decide +kernel
theorem dX12_sureBits_4 : decode cX12_sureBits 4 = .ok (.isub, 1) := by decide +kernel
theorem dX12_sureBits_5 : decode cX12_sureBits 5 = .ok (.istore_n 3, 1) := by decide +kernel
theorem dX12_sureBits_6 : decode cX12_sureBits 6 = .ok (.iload_n 1, 1) := by decide +kernel
theorem dX12_sureBits_7 : decode cX12_sureBits 7 = .ok (.iload_n 3, 1) := by decide +kernel
theorem dX12_sureBits_8 : decode cX12_sureBits 8 = .ok (.if_icmp .le 7, 3) := by decide +kernel
theorem dX12_sureBits_11 : decode cX12_sureBits 11 = .ok (.iload_n 3, 1) := by decide +kernel
theorem dX12_sureBits_12 : decode cX12_sureBits 12 = .ok (.goto 4, 3) := by decide +kernel
theorem dX12_sureBits_15 : decode cX12_sureBits 15 = .ok (.iload_n 1, 1) := by decide +kernel
theorem dX12_sureBits_16 : decode cX12_sureBits 16 = .ok (.istore 4, 2) := by decide +kernel
theorem dX12_sureBits_18 : decode cX12_sureBits 18 = .ok (.iload_n 2, 1) := by decide +kernel
theorem dX12_sureBits_19 : decode cX12_sureBits 19 = .ok (.iload_n 3, 1) := by decide +kernel
theorem dX12_sureBits_20 : decode cX12_sureBits 20 = .ok (.if_icmp .le 7, 3) := by decide +kernel
theorem dX12_sureBits_23 : decode cX12_sureBits 23 = .ok (.iload_n 3, 1) := by decide +kernel
theorem dX12_sureBits_24 : decode cX12_sureBits 24 = .ok (.goto 4, 3) := by decide +kernel
theorem dX12_sureBits_27 : decode cX12_sureBits 27 = .ok (.iload_n 2, 1) := by decide +kernel
theorem dX12_sureBits_28 : decode cX12_sureBits 28 = .ok (.istore 5, 2) := by decide +kernel
theorem dX12_sureBits_30 : decode cX12_sureBits 30 = .ok (.iconst 0, 1) := by decide +kernel
theorem dX12_sureBits_31 : decode cX12_sureBits 31 = .ok (.istore 6, 2) := by decide +kernel
theorem dX12_sureBits_33 : decode cX12_sureBits 33 = .ok (.iload 6, 2) := by decide +kernel
theorem dX12_sureBits_35 : decode cX12_sureBits 35 = .ok (.iload_n 0, 1) := by decide +kernel
theorem dX12_sureBits_36 : decode cX12_sureBits 36 = .ok (.if_icmp .ge 30, 3) := by decide +kernel
theorem dX12_sureBits_39 : decode cX12_sureBits 39 = .ok (.iload 4, 2) := by decide +kernel
theorem dX12_sureBits_41 : decode cX12_sureBits 41 = .ok (.iload_n 0, 1) := by decide +kernel
theorem dX12_sureBits_42 : decode cX12_sureBits 42 = .ok (.iconst 1, 1) := by decide +kernel
theorem dX12_sureBits_43 : decode cX12_sureBits 43 = .ok (.isub, 1) := by decide +kernel
theorem dX12_sureBits_44 : decode cX12_sureBits 44 = .ok (.iload 6, 2) := by decide +kernel
theorem dX12_sureBits_46 : decode cX12_sureBits 46 = .ok (.isub, 1) := by decide +kernel
theorem dX12_sureBits_47 : decode cX12_sureBits 47 = .ok (.ishr, 1) := by decide +kernel
theorem dX12_sureBits_48 : decode cX12_sureBits 48 = .ok (.iload 5, 2) := by decide +kernel
theorem dX12_sureBits_50 : decode cX12_sureBits 50 = .ok (.iload_n 0, 1) := by decide +kernel
theorem dX12_sureBits_51 : decode cX12_sureBits 51 = .ok (.iconst 1, 1) := by decide +kernel
theorem dX12_sureBits_52 : decode cX12_sureBits 52 = .ok (.isub, 1) := by decide +kernel
theorem dX12_sureBits_53 : decode cX12_sureBits 53 = .ok (.iload 6, 2) := by decide +kernel
theorem dX12_sureBits_55 : decode cX12_sureBits 55 = .ok (.isub, 1) := by decide +kernel
theorem dX12_sureBits_56 : decode cX12_sureBits 56 = .ok (.ishr, 1) := by decide +kernel
theorem dX12_sureBits_57 : decode cX12_sureBits 57 = .ok (.if_icmp .ne 9, 3) := by decide +kernel
theorem dX12_sureBits_60 : decode cX12_sureBits 60 = .ok (.iinc 6 1, 3) := by decide +kernel
theorem dX12_sureBits_63 : decode cX12_sureBits 63 = .ok (.goto (-30), 3) := by decide +kernel
theorem dX12_sureBits_66 : decode cX12_sureBits 66 = .ok (.iload 6, 2) := by decide +kernel
theorem dX12_sureBits_68 : decode cX12_sureBits 68 = .ok (.ireturn, 1) := by decide +kernel
set_option maxRecDepth 100000 in
set_option maxHeartbeats 4000000 in
theorem t12_sureBits_h33 (G : Gm) (t : Nat) (N : Nat) (x0 : Int32) (x4 : Int32) (x5 : Int32)    : ∀ (n : Nat) (x6 : Int32) (S : St), J G YX12_sureBits 1 0 0 (fI t) 0 0 33 [some (vI x0), none, none, none, some (vI x4), some (vI x5), some (vI x6)] [] (MM t S) (f12_sureBits_h33 N x0 x4 x5 n x6 S) := by
  intro n
  induction n with
  | zero => intro x6 S; exact J_none
  | succ n ih =>
    intro x6 S
    rw [f12_sureBits_h33]
    refine J_iload dX12_sureBits_33 rfl ?_
    refine J_iload_n dX12_sureBits_35 rfl rfl ?_
    refine J_icmp_ge (tgt := 66) dX12_sureBits_36 (by decide) (fun z1 => ?_) (fun z1 => ?_)
    · refine J_iload dX12_sureBits_66 rfl ?_
      exact J_ireturn rfl (Nat.le_refl _) (Nat.le_refl _) rfl dX12_sureBits_68
    · refine J_iload dX12_sureBits_39 rfl ?_
      refine J_iload_n dX12_sureBits_41 rfl rfl ?_
      refine J_iconst (v := nI 1) dX12_sureBits_42 (by decide) ?_
      refine J_isub dX12_sureBits_43 ?_
      refine J_iload dX12_sureBits_44 rfl ?_
      refine J_isub dX12_sureBits_46 ?_
      refine J_ishr dX12_sureBits_47 ?_
      refine J_iload dX12_sureBits_48 rfl ?_
      refine J_iload_n dX12_sureBits_50 rfl rfl ?_
      refine J_iconst (v := nI 1) dX12_sureBits_51 (by decide) ?_
      refine J_isub dX12_sureBits_52 ?_
      refine J_iload dX12_sureBits_53 rfl ?_
      refine J_isub dX12_sureBits_55 ?_
      refine J_ishr dX12_sureBits_56 ?_
      refine J_icmp_ne (tgt := 66) dX12_sureBits_57 (by decide) (fun z2 => ?_) (fun z2 => ?_)
      · refine J_iinc (v := x6 + nI 1) [some (vI x0), none, none, none, some (vI x4), some (vI x5), some (vI (x6 + nI 1))] dX12_sureBits_60 rfl rfl (Nat.le_of_ble_eq_true rfl) rfl rfl ?_
        refine J_goto (tgt := 33) dX12_sureBits_63 (by decide) ?_
        exact J_sb (ih (x6 + nI 1) S) (And.intro rfl (And.intro rfl (And.intro rfl (And.intro rfl (trivial)))))
      · refine J_iload dX12_sureBits_66 rfl ?_
        exact J_ireturn rfl (Nat.le_refl _) (Nat.le_refl _) rfl dX12_sureBits_68
set_option maxRecDepth 100000 in
set_option maxHeartbeats 4000000 in
theorem t12_sureBits_j28 (G : Gm) (t : Nat) (N : Nat) (x0 : Int32) (x4 : Int32)    : ∀ (xs0 : Int32) (S : St), J G YX12_sureBits 1 0 0 (fI t) 0 0 28 [some (vI x0), none, none, none, some (vI x4), none, none] [vI xs0] (MM t S) (f12_sureBits_j28 N x0 x4 xs0 S) := by
  intro xs0 S
  unfold f12_sureBits_j28
  refine J_istore [some (vI x0), none, none, none, some (vI x4), some (vI xs0), none] dX12_sureBits_28 (Nat.le_of_ble_eq_true rfl) rfl rfl ?_
  refine J_iconst (v := nI 0) dX12_sureBits_30 (by decide) ?_
  refine J_istore [some (vI x0), none, none, none, some (vI x4), some (vI xs0), some (vI (nI 0))] dX12_sureBits_31 (Nat.le_of_ble_eq_true rfl) rfl rfl ?_
  exact J_sb (t12_sureBits_h33 G t N x0 x4 xs0 N (nI 0) S) (And.intro rfl (And.intro rfl (And.intro rfl (And.intro rfl (trivial)))))
set_option maxRecDepth 100000 in
set_option maxHeartbeats 4000000 in
theorem t12_sureBits_j16 (G : Gm) (t : Nat) (N : Nat) (x0 : Int32) (x2 : Int32) (x3 : Int32)    : ∀ (xs0 : Int32) (S : St), J G YX12_sureBits 1 0 0 (fI t) 0 0 16 [some (vI x0), none, some (vI x2), some (vI x3), none, none, none] [vI xs0] (MM t S) (f12_sureBits_j16 N x0 x2 x3 xs0 S) := by
  intro xs0 S
  unfold f12_sureBits_j16
  refine J_istore [some (vI x0), none, some (vI x2), some (vI x3), some (vI xs0), none, none] dX12_sureBits_16 (Nat.le_of_ble_eq_true rfl) rfl rfl ?_
  refine J_iload_n dX12_sureBits_18 rfl rfl ?_
  refine J_iload_n dX12_sureBits_19 rfl rfl ?_
  refine J_icmp_le (tgt := 27) dX12_sureBits_20 (by decide) (fun z1 => ?_) (fun z1 => ?_)
  · refine J_iload_n dX12_sureBits_27 rfl rfl ?_
    exact J_sb (t12_sureBits_j28 G t N x0 xs0 x2 S) (And.intro rfl (And.intro rfl (trivial)))
  · refine J_iload_n dX12_sureBits_23 rfl rfl ?_
    refine J_goto (tgt := 28) dX12_sureBits_24 (by decide) ?_
    exact J_sb (t12_sureBits_j28 G t N x0 xs0 x3 S) (And.intro rfl (And.intro rfl (trivial)))
set_option maxRecDepth 100000 in
set_option maxHeartbeats 4000000 in
theorem ct12_sureBits (G : Gm) (t : Nat) (N : Nat) (x0 : Int32) (x1 : Int32) (x2 : Int32)  (S : St) : Ct G YX12_sureBits yX12_sureBits 1 0 0 (fI t) (f12_sureBits N x0 x1 x2 S) [vI x0, vI x1, vI x2] (MM t S) := by
  refine Ct_of_J [some (vI x0), some (vI x1), some (vI x2), none, none, none, none] (by decide) rfl (fun h => by cases h) (Nat.le_of_ble_eq_true rfl) (And.intro rfl (And.intro rfl (And.intro rfl (trivial)))) ?_
  unfold f12_sureBits
  refine J_iconst (v := nI 1) dX12_sureBits_0 (by decide) ?_
  refine J_iload_n dX12_sureBits_1 rfl rfl ?_
  refine J_ishl dX12_sureBits_2 ?_
  refine J_iconst (v := nI 1) dX12_sureBits_3 (by decide) ?_
  refine J_isub dX12_sureBits_4 ?_
  refine J_ltI (fun v1 _ => ?_)
  refine J_istore_n [some (vI x0), some (vI x1), some (vI x2), some (vI v1), none, none, none] dX12_sureBits_5 rfl (Nat.le_of_ble_eq_true rfl) rfl rfl ?_
  refine J_iload_n dX12_sureBits_6 rfl rfl ?_
  refine J_iload_n dX12_sureBits_7 rfl rfl ?_
  refine J_icmp_le (tgt := 15) dX12_sureBits_8 (by decide) (fun z2 => ?_) (fun z2 => ?_)
  · refine J_iload_n dX12_sureBits_15 rfl rfl ?_
    exact J_sb (t12_sureBits_j16 G t N x0 x2 v1 x1 S) (And.intro rfl (And.intro rfl (And.intro rfl (trivial))))
  · refine J_iload_n dX12_sureBits_11 rfl rfl ?_
    refine J_goto (tgt := 16) dX12_sureBits_12 (by decide) ?_
    exact J_sb (t12_sureBits_j16 G t N x0 x2 v1 v1 S) (And.intro rfl (And.intro rfl (And.intro rfl (trivial))))
theorem dX12_census_0 : decode cX12_census 0 = .ok (.aload_n 0, 1) := by decide +kernel
theorem dX12_census_1 : decode cX12_census 1 = .ok (.iload_n 1, 1) := by decide +kernel
theorem dX12_census_2 : decode cX12_census 2 = .ok (.invokevirtual 117, 3) := by decide +kernel
theorem dX12_census_5 : decode cX12_census 5 = .ok (.ifCond .eq 35, 3) := by decide +kernel
theorem dX12_census_8 : decode cX12_census 8 = .ok (.iload_n 2, 1) := by decide +kernel
theorem dX12_census_9 : decode cX12_census 9 = .ok (.invokestatic 321, 3) := by decide +kernel
theorem dX12_census_12 : decode cX12_census 12 = .ok (.ifCond .eq 28, 3) := by decide +kernel
theorem dX12_census_15 : decode cX12_census 15 = .ok (.iload_n 3, 1) := by decide +kernel
theorem dX12_census_16 : decode cX12_census 16 = .ok (.i2l, 1) := by decide +kernel
theorem dX12_census_17 : decode cX12_census 17 = .ok (.lconst 0, 1) := by decide +kernel
theorem dX12_census_18 : decode cX12_census 18 = .ok (.ldc2_w 177, 3) := by decide +kernel
theorem dX12_census_21 : decode cX12_census 21 = .ok (.invokestatic 109, 3) := by decide +kernel
theorem dX12_census_24 : decode cX12_census 24 = .ok (.ifCond .eq 16, 3) := by decide +kernel
theorem dX12_census_27 : decode cX12_census 27 = .ok (.iload 4, 2) := by decide +kernel
theorem dX12_census_29 : decode cX12_census 29 = .ok (.i2l, 1) := by decide +kernel
theorem dX12_census_30 : decode cX12_census 30 = .ok (.lconst 0, 1) := by decide +kernel
theorem dX12_census_31 : decode cX12_census 31 = .ok (.ldc2_w 107, 3) := by decide +kernel
theorem dX12_census_34 : decode cX12_census 34 = .ok (.invokestatic 109, 3) := by decide +kernel
theorem dX12_census_37 : decode cX12_census 37 = .ok (.ifCond .ne 5, 3) := by decide +kernel
theorem dX12_census_40 : decode cX12_census 40 = .ok (.iconst (-1), 1) := by decide +kernel
theorem dX12_census_41 : decode cX12_census 41 = .ok (.ireturn, 1) := by decide +kernel
theorem dX12_census_42 : decode cX12_census 42 = .ok (.iload_n 2, 1) := by decide +kernel
theorem dX12_census_43 : decode cX12_census 43 = .ok (.sipush 1000, 3) := by decide +kernel
theorem dX12_census_46 : decode cX12_census 46 = .ok (.idiv, 1) := by decide +kernel
theorem dX12_census_47 : decode cX12_census 47 = .ok (.istore 5, 2) := by decide +kernel
theorem dX12_census_49 : decode cX12_census 49 = .ok (.aload_n 0, 1) := by decide +kernel
theorem dX12_census_50 : decode cX12_census 50 = .ok (.iload_n 1, 1) := by decide +kernel
theorem dX12_census_51 : decode cX12_census 51 = .ok (.iload 5, 2) := by decide +kernel
theorem dX12_census_53 : decode cX12_census 53 = .ok (.invokevirtual 203, 3) := by decide +kernel
theorem dX12_census_56 : decode cX12_census 56 = .ok (.iconst 3, 1) := by decide +kernel
theorem dX12_census_57 : decode cX12_census 57 = .ok (.newarray .int, 2) := by decide +kernel
theorem dX12_census_59 : decode cX12_census 59 = .ok (.dup, 1) := by decide +kernel
theorem dX12_census_60 : decode cX12_census 60 = .ok (.iconst 0, 1) := by decide +kernel
theorem dX12_census_61 : decode cX12_census 61 = .ok (.iconst 0, 1) := by decide +kernel
theorem dX12_census_62 : decode cX12_census 62 = .ok (.iastore, 1) := by decide +kernel
theorem dX12_census_63 : decode cX12_census 63 = .ok (.dup, 1) := by decide +kernel
theorem dX12_census_64 : decode cX12_census 64 = .ok (.iconst 1, 1) := by decide +kernel
theorem dX12_census_65 : decode cX12_census 65 = .ok (.iconst 0, 1) := by decide +kernel
theorem dX12_census_66 : decode cX12_census 66 = .ok (.iastore, 1) := by decide +kernel
theorem dX12_census_67 : decode cX12_census 67 = .ok (.dup, 1) := by decide +kernel
theorem dX12_census_68 : decode cX12_census 68 = .ok (.iconst 2, 1) := by decide +kernel
theorem dX12_census_69 : decode cX12_census 69 = .ok (.iconst 0, 1) := by decide +kernel
theorem dX12_census_70 : decode cX12_census 70 = .ok (.iastore, 1) := by decide +kernel
theorem dX12_census_71 : decode cX12_census 71 = .ok (.astore 6, 2) := by decide +kernel
theorem dX12_census_73 : decode cX12_census 73 = .ok (.iconst 0, 1) := by decide +kernel
theorem dX12_census_74 : decode cX12_census 74 = .ok (.istore 7, 2) := by decide +kernel
theorem dX12_census_76 : decode cX12_census 76 = .ok (.iconst 0, 1) := by decide +kernel
theorem dX12_census_77 : decode cX12_census 77 = .ok (.istore 8, 2) := by decide +kernel
theorem dX12_census_79 : decode cX12_census 79 = .ok (.iconst 0, 1) := by decide +kernel
theorem dX12_census_80 : decode cX12_census 80 = .ok (.istore 9, 2) := by decide +kernel
theorem dX12_census_82 : decode cX12_census 82 = .ok (.iconst (-1), 1) := by decide +kernel
theorem dX12_census_83 : decode cX12_census 83 = .ok (.istore 10, 2) := by decide +kernel
theorem dX12_census_85 : decode cX12_census 85 = .ok (.iconst 0, 1) := by decide +kernel
theorem dX12_census_86 : decode cX12_census 86 = .ok (.istore 11, 2) := by decide +kernel
theorem dX12_census_88 : decode cX12_census 88 = .ok (.iload 11, 2) := by decide +kernel
theorem dX12_census_90 : decode cX12_census 90 = .ok (.aload_n 0, 1) := by decide +kernel
theorem dX12_census_91 : decode cX12_census 91 = .ok (.getfield 196, 3) := by decide +kernel
theorem dX12_census_94 : decode cX12_census 94 = .ok (.if_icmp .ge 109, 3) := by decide +kernel
theorem dX12_census_97 : decode cX12_census 97 = .ok (.aload_n 0, 1) := by decide +kernel
theorem dX12_census_98 : decode cX12_census 98 = .ok (.iload_n 1, 1) := by decide +kernel
theorem dX12_census_99 : decode cX12_census 99 = .ok (.aload_n 0, 1) := by decide +kernel
theorem dX12_census_100 : decode cX12_census 100 = .ok (.getfield 53, 3) := by decide +kernel
theorem dX12_census_103 : decode cX12_census 103 = .ok (.iload 11, 2) := by decide +kernel
theorem dX12_census_105 : decode cX12_census 105 = .ok (.laload, 1) := by decide +kernel
theorem dX12_census_106 : decode cX12_census 106 = .ok (.iload_n 3, 1) := by decide +kernel
theorem dX12_census_107 : decode cX12_census 107 = .ok (.iload_n 2, 1) := by decide +kernel
theorem dX12_census_108 : decode cX12_census 108 = .ok (.sipush 1000, 3) := by decide +kernel
theorem dX12_census_111 : decode cX12_census 111 = .ok (.irem, 1) := by decide +kernel
theorem dX12_census_112 : decode cX12_census 112 = .ok (.invokevirtual 183, 3) := by decide +kernel
theorem dX12_census_115 : decode cX12_census 115 = .ok (.istore 12, 2) := by decide +kernel
theorem dX12_census_117 : decode cX12_census 117 = .ok (.aload 6, 2) := by decide +kernel
theorem dX12_census_119 : decode cX12_census 119 = .ok (.iload 12, 2) := by decide +kernel
theorem dX12_census_121 : decode cX12_census 121 = .ok (.dup2, 1) := by decide +kernel
theorem dX12_census_122 : decode cX12_census 122 = .ok (.iaload, 1) := by decide +kernel
theorem dX12_census_123 : decode cX12_census 123 = .ok (.iconst 1, 1) := by decide +kernel
theorem dX12_census_124 : decode cX12_census 124 = .ok (.iadd, 1) := by decide +kernel
theorem dX12_census_125 : decode cX12_census 125 = .ok (.iastore, 1) := by decide +kernel
theorem dX12_census_126 : decode cX12_census 126 = .ok (.iconst 1, 1) := by decide +kernel
theorem dX12_census_127 : decode cX12_census 127 = .ok (.iload 5, 2) := by decide +kernel
theorem dX12_census_129 : decode cX12_census 129 = .ok (.aload_n 0, 1) := by decide +kernel
theorem dX12_census_130 : decode cX12_census 130 = .ok (.getfield 57, 3) := by decide +kernel
theorem dX12_census_133 : decode cX12_census 133 = .ok (.iload 11, 2) := by decide +kernel
theorem dX12_census_135 : decode cX12_census 135 = .ok (.iaload, 1) := by decide +kernel
theorem dX12_census_136 : decode cX12_census 136 = .ok (.isub, 1) := by decide +kernel
theorem dX12_census_137 : decode cX12_census 137 = .ok (.ishl, 1) := by decide +kernel
theorem dX12_census_138 : decode cX12_census 138 = .ok (.istore 13, 2) := by decide +kernel
theorem dX12_census_140 : decode cX12_census 140 = .ok (.iload 7, 2) := by decide +kernel
theorem dX12_census_142 : decode cX12_census 142 = .ok (.iload 12, 2) := by decide +kernel
theorem dX12_census_144 : decode cX12_census 144 = .ok (.ifCond .ne 8, 3) := by decide +kernel
theorem dX12_census_147 : decode cX12_census 147 = .ok (.iload 13, 2) := by decide +kernel
theorem dX12_census_149 : decode cX12_census 149 = .ok (.goto 4, 3) := by decide +kernel
theorem dX12_census_152 : decode cX12_census 152 = .ok (.iconst 0, 1) := by decide +kernel
theorem dX12_census_153 : decode cX12_census 153 = .ok (.iadd, 1) := by decide +kernel
theorem dX12_census_154 : decode cX12_census 154 = .ok (.istore 7, 2) := by decide +kernel
theorem dX12_census_156 : decode cX12_census 156 = .ok (.iload 8, 2) := by decide +kernel
theorem dX12_census_158 : decode cX12_census 158 = .ok (.iload 12, 2) := by decide +kernel
theorem dX12_census_160 : decode cX12_census 160 = .ok (.iconst 2, 1) := by decide +kernel
theorem dX12_census_161 : decode cX12_census 161 = .ok (.if_icmp .ne 8, 3) := by decide +kernel
theorem dX12_census_164 : decode cX12_census 164 = .ok (.iload 13, 2) := by decide +kernel
theorem dX12_census_166 : decode cX12_census 166 = .ok (.goto 4, 3) := by decide +kernel
theorem dX12_census_169 : decode cX12_census 169 = .ok (.iconst 0, 1) := by decide +kernel
theorem dX12_census_170 : decode cX12_census 170 = .ok (.iadd, 1) := by decide +kernel
theorem dX12_census_171 : decode cX12_census 171 = .ok (.istore 8, 2) := by decide +kernel
theorem dX12_census_173 : decode cX12_census 173 = .ok (.iload 12, 2) := by decide +kernel
theorem dX12_census_175 : decode cX12_census 175 = .ok (.ifCond .ne 22, 3) := by decide +kernel
theorem dX12_census_178 : decode cX12_census 178 = .ok (.aload_n 0, 1) := by decide +kernel
theorem dX12_census_179 : decode cX12_census 179 = .ok (.getfield 153, 3) := by decide +kernel
theorem dX12_census_182 : decode cX12_census 182 = .ok (.iload 9, 2) := by decide +kernel
theorem dX12_census_184 : decode cX12_census 184 = .ok (.if_icmp .le 13, 3) := by decide +kernel
theorem dX12_census_187 : decode cX12_census 187 = .ok (.aload_n 0, 1) := by decide +kernel
theorem dX12_census_188 : decode cX12_census 188 = .ok (.getfield 153, 3) := by decide +kernel
theorem dX12_census_191 : decode cX12_census 191 = .ok (.istore 9, 2) := by decide +kernel
theorem dX12_census_193 : decode cX12_census 193 = .ok (.iload 11, 2) := by decide +kernel
theorem dX12_census_195 : decode cX12_census 195 = .ok (.istore 10, 2) := by decide +kernel
theorem dX12_census_197 : decode cX12_census 197 = .ok (.iinc 11 1, 3) := by decide +kernel
theorem dX12_census_200 : decode cX12_census 200 = .ok (.goto (-112), 3) := by decide +kernel
theorem dX12_census_203 : decode cX12_census 203 = .ok (.iload 4, 2) := by decide +kernel
theorem dX12_census_205 : decode cX12_census 205 = .ok (.tableswitch 83 0 6 #[43, 83, 83, 83, 48, 67, 70], 43) := by decide +kernel
theorem dX12_census_248 : decode cX12_census 248 = .ok (.aload_n 0, 1) := by decide +kernel
theorem dX12_census_249 : decode cX12_census 249 = .ok (.getfield 196, 3) := by decide +kernel
theorem dX12_census_252 : decode cX12_census 252 = .ok (.ireturn, 1) := by decide +kernel
theorem dX12_census_253 : decode cX12_census 253 = .ok (.iload 10, 2) := by decide +kernel
theorem dX12_census_255 : decode cX12_census 255 = .ok (.ifCond .lt 14, 3) := by decide +kernel
theorem dX12_census_258 : decode cX12_census 258 = .ok (.aload_n 0, 1) := by decide +kernel
theorem dX12_census_259 : decode cX12_census 259 = .ok (.aload_n 0, 1) := by decide +kernel
theorem dX12_census_260 : decode cX12_census 260 = .ok (.getfield 53, 3) := by decide +kernel
theorem dX12_census_263 : decode cX12_census 263 = .ok (.iload 10, 2) := by decide +kernel
theorem dX12_census_265 : decode cX12_census 265 = .ok (.laload, 1) := by decide +kernel
theorem dX12_census_266 : decode cX12_census 266 = .ok (.invokevirtual 207, 3) := by decide +kernel
theorem dX12_census_269 : decode cX12_census 269 = .ok (.iload 9, 2) := by decide +kernel
theorem dX12_census_271 : decode cX12_census 271 = .ok (.ireturn, 1) := by decide +kernel
theorem dX12_census_272 : decode cX12_census 272 = .ok (.iload 7, 2) := by decide +kernel
theorem dX12_census_274 : decode cX12_census 274 = .ok (.ireturn, 1) := by decide +kernel
theorem dX12_census_275 : decode cX12_census 275 = .ok (.iload 5, 2) := by decide +kernel
theorem dX12_census_277 : decode cX12_census 277 = .ok (.iload 7, 2) := by decide +kernel
theorem dX12_census_279 : decode cX12_census 279 = .ok (.iload 7, 2) := by decide +kernel
theorem dX12_census_281 : decode cX12_census 281 = .ok (.iload 8, 2) := by decide +kernel
theorem dX12_census_283 : decode cX12_census 283 = .ok (.iadd, 1) := by decide +kernel
theorem dX12_census_284 : decode cX12_census 284 = .ok (.invokestatic 331, 3) := by decide +kernel
theorem dX12_census_287 : decode cX12_census 287 = .ok (.ireturn, 1) := by decide +kernel
theorem dX12_census_288 : decode cX12_census 288 = .ok (.aload 6, 2) := by decide +kernel
theorem dX12_census_290 : decode cX12_census 290 = .ok (.iload 4, 2) := by decide +kernel
theorem dX12_census_292 : decode cX12_census 292 = .ok (.iconst 1, 1) := by decide +kernel
theorem dX12_census_293 : decode cX12_census 293 = .ok (.isub, 1) := by decide +kernel
theorem dX12_census_294 : decode cX12_census 294 = .ok (.iaload, 1) := by decide +kernel
theorem dX12_census_295 : decode cX12_census 295 = .ok (.ireturn, 1) := by decide +kernel
set_option maxRecDepth 100000 in
set_option maxHeartbeats 4000000 in
theorem t12_census_j288 (G : Gm) (t : Nat) (N : Nat) (x4 : Int32)    : ∀  (S : St), J G YX12_census 18 1 3 fC 1 3 288 [none, none, none, none, some (vI x4), none, some (vR (some (174 + t))), none, none, none, none, none, none, none] [] (MM (t + 1) S) (f12_census_j288 t N x4 S) := by
  intro S
  unfold f12_census_j288
  refine J_aload dX12_census_288 rfl ?_
  refine J_iload dX12_census_290 rfl ?_
  refine J_iconst (v := nI 1) dX12_census_292 (by decide) ?_
  refine J_isub dX12_census_293 ?_
  refine K_iald (sqt) dX12_census_294 ?_
  exact J_ireturn rfl (by decide) (by decide) rfl dX12_census_295
set_option maxRecDepth 100000 in
set_option maxHeartbeats 4000000 in
theorem t12_census_j170 (G : Gm) (t : Nat) (N : Nat) (x1 : Int32) (x2 : Int32) (x3 : Int32) (x4 : Int32) (x5 : Int32) (x7 : Int32) (x9 : Int32) (x10 : Int32) (x11 : Int32) (x12 : Int32)  (k88 : Int32 → Int32 → Int32 → Int32 → Int32 → St → Option ((Int32 × Nat) × St)) (hk88 : ∀ (yx7 : Int32) (yx8 : Int32) (yx9 : Int32) (yx10 : Int32) (yx11 : Int32) (S : St), J G YX12_census 18 1 3 fC 1 3 88 [some (vR (some 146)), some (vI x1), some (vI x2), some (vI x3), some (vI x4), some (vI x5), some (vR (some (174 + t))), some (vI yx7), some (vI yx8), some (vI yx9), some (vI yx10), some (vI yx11), none, none] [] (MM (t + 1) S) (k88 yx7 yx8 yx9 yx10 yx11 S)) : ∀ (xs0 : Int32) (xs1 : Int32) (S : St), J G YX12_census 18 1 3 fC 1 3 170 [some (vR (some 146)), some (vI x1), some (vI x2), some (vI x3), some (vI x4), some (vI x5), some (vR (some (174 + t))), some (vI x7), none, some (vI x9), some (vI x10), some (vI x11), some (vI x12), none] [vI xs0, vI xs1] (MM (t + 1) S) (f12_census_j170 t N x1 x2 x3 x4 x5 x7 x9 x10 x11 x12 k88 xs0 xs1 S) := by
  intro xs0 xs1 S
  unfold f12_census_j170
  refine J_iadd dX12_census_170 ?_
  refine J_ltI (fun v1 _ => ?_)
  refine J_istore [some (vR (some 146)), some (vI x1), some (vI x2), some (vI x3), some (vI x4), some (vI x5), some (vR (some (174 + t))), some (vI x7), some (vI v1), some (vI x9), some (vI x10), some (vI x11), some (vI x12), none] dX12_census_171 (Nat.le_of_ble_eq_true rfl) rfl rfl ?_
  refine J_iload dX12_census_173 rfl ?_
  refine J_if_ne (tgt := 197) dX12_census_175 (by decide) (fun z2 => ?_) (fun z2 => ?_)
  · refine J_aload_n dX12_census_178 rfl rfl ?_
    refine K_getI cf12 flX12_153 (sq 146 rfl) (Or.inl rfl) dX12_census_179 ?_
    refine J_iload dX12_census_182 rfl ?_
    refine J_icmp_le (tgt := 197) dX12_census_184 (by decide) (fun z3 => ?_) (fun z3 => ?_)
    · refine J_iinc (v := x11 + nI 1) [some (vR (some 146)), some (vI x1), some (vI x2), some (vI x3), some (vI x4), some (vI x5), some (vR (some (174 + t))), some (vI x7), some (vI v1), some (vI x9), some (vI x10), some (vI (x11 + nI 1)), some (vI x12), none] dX12_census_197 rfl rfl (Nat.le_of_ble_eq_true rfl) rfl rfl ?_
      refine J_goto (tgt := 88) dX12_census_200 (by decide) ?_
      exact J_sb (hk88 x7 v1 x9 x10 (x11 + nI 1) S) (And.intro rfl (And.intro rfl (And.intro rfl (And.intro rfl (And.intro rfl (And.intro rfl (And.intro rfl (And.intro rfl (And.intro rfl (And.intro rfl (And.intro rfl (And.intro rfl (trivial)))))))))))))
    · refine J_aload_n dX12_census_187 rfl rfl ?_
      refine K_getI cf12 flX12_153 (sq 146 rfl) (Or.inl rfl) dX12_census_188 ?_
      refine J_ltI (fun v4 _ => ?_)
      refine J_istore [some (vR (some 146)), some (vI x1), some (vI x2), some (vI x3), some (vI x4), some (vI x5), some (vR (some (174 + t))), some (vI x7), some (vI v1), some (vI v4), some (vI x10), some (vI x11), some (vI x12), none] dX12_census_191 (Nat.le_of_ble_eq_true rfl) rfl rfl ?_
      refine J_iload dX12_census_193 rfl ?_
      refine J_istore [some (vR (some 146)), some (vI x1), some (vI x2), some (vI x3), some (vI x4), some (vI x5), some (vR (some (174 + t))), some (vI x7), some (vI v1), some (vI v4), some (vI x11), some (vI x11), some (vI x12), none] dX12_census_195 (Nat.le_of_ble_eq_true rfl) rfl rfl ?_
      refine J_iinc (v := x11 + nI 1) [some (vR (some 146)), some (vI x1), some (vI x2), some (vI x3), some (vI x4), some (vI x5), some (vR (some (174 + t))), some (vI x7), some (vI v1), some (vI v4), some (vI x11), some (vI (x11 + nI 1)), some (vI x12), none] dX12_census_197 rfl rfl (Nat.le_of_ble_eq_true rfl) rfl rfl ?_
      refine J_goto (tgt := 88) dX12_census_200 (by decide) ?_
      exact J_sb (hk88 x7 v1 v4 x11 (x11 + nI 1) S) (And.intro rfl (And.intro rfl (And.intro rfl (And.intro rfl (And.intro rfl (And.intro rfl (And.intro rfl (And.intro rfl (And.intro rfl (And.intro rfl (And.intro rfl (And.intro rfl (trivial)))))))))))))
  · refine J_iinc (v := x11 + nI 1) [some (vR (some 146)), some (vI x1), some (vI x2), some (vI x3), some (vI x4), some (vI x5), some (vR (some (174 + t))), some (vI x7), some (vI v1), some (vI x9), some (vI x10), some (vI (x11 + nI 1)), some (vI x12), none] dX12_census_197 rfl rfl (Nat.le_of_ble_eq_true rfl) rfl rfl ?_
    refine J_goto (tgt := 88) dX12_census_200 (by decide) ?_
    exact J_sb (hk88 x7 v1 x9 x10 (x11 + nI 1) S) (And.intro rfl (And.intro rfl (And.intro rfl (And.intro rfl (And.intro rfl (And.intro rfl (And.intro rfl (And.intro rfl (And.intro rfl (And.intro rfl (And.intro rfl (And.intro rfl (trivial)))))))))))))
set_option maxRecDepth 100000 in
set_option maxHeartbeats 4000000 in
theorem t12_census_j153 (G : Gm) (t : Nat) (N : Nat) (x1 : Int32) (x2 : Int32) (x3 : Int32) (x4 : Int32) (x5 : Int32) (x8 : Int32) (x9 : Int32) (x10 : Int32) (x11 : Int32) (x12 : Int32) (x13 : Int32)  (k88 : Int32 → Int32 → Int32 → Int32 → Int32 → St → Option ((Int32 × Nat) × St)) (hk88 : ∀ (yx7 : Int32) (yx8 : Int32) (yx9 : Int32) (yx10 : Int32) (yx11 : Int32) (S : St), J G YX12_census 18 1 3 fC 1 3 88 [some (vR (some 146)), some (vI x1), some (vI x2), some (vI x3), some (vI x4), some (vI x5), some (vR (some (174 + t))), some (vI yx7), some (vI yx8), some (vI yx9), some (vI yx10), some (vI yx11), none, none] [] (MM (t + 1) S) (k88 yx7 yx8 yx9 yx10 yx11 S)) : ∀ (xs0 : Int32) (xs1 : Int32) (S : St), J G YX12_census 18 1 3 fC 1 3 153 [some (vR (some 146)), some (vI x1), some (vI x2), some (vI x3), some (vI x4), some (vI x5), some (vR (some (174 + t))), none, some (vI x8), some (vI x9), some (vI x10), some (vI x11), some (vI x12), some (vI x13)] [vI xs0, vI xs1] (MM (t + 1) S) (f12_census_j153 t N x1 x2 x3 x4 x5 x8 x9 x10 x11 x12 x13 k88 xs0 xs1 S) := by
  intro xs0 xs1 S
  unfold f12_census_j153
  refine J_iadd dX12_census_153 ?_
  refine J_ltI (fun v1 _ => ?_)
  refine J_istore [some (vR (some 146)), some (vI x1), some (vI x2), some (vI x3), some (vI x4), some (vI x5), some (vR (some (174 + t))), some (vI v1), some (vI x8), some (vI x9), some (vI x10), some (vI x11), some (vI x12), some (vI x13)] dX12_census_154 (Nat.le_of_ble_eq_true rfl) rfl rfl ?_
  refine J_iload dX12_census_156 rfl ?_
  refine J_iload dX12_census_158 rfl ?_
  refine J_iconst (v := nI 2) dX12_census_160 (by decide) ?_
  refine J_icmp_ne (tgt := 169) dX12_census_161 (by decide) (fun z2 => ?_) (fun z2 => ?_)
  · refine J_iload dX12_census_164 rfl ?_
    refine J_goto (tgt := 170) dX12_census_166 (by decide) ?_
    exact J_sb (t12_census_j170 G t N x1 x2 x3 x4 x5 v1 x9 x10 x11 x12 k88 hk88 x13 x8 S) (And.intro rfl (And.intro rfl (And.intro rfl (And.intro rfl (And.intro rfl (And.intro rfl (And.intro rfl (And.intro rfl (And.intro rfl (And.intro rfl (And.intro rfl (And.intro rfl (trivial)))))))))))))
  · refine J_iconst (v := nI 0) dX12_census_169 (by decide) ?_
    exact J_sb (t12_census_j170 G t N x1 x2 x3 x4 x5 v1 x9 x10 x11 x12 k88 hk88 (nI 0) x8 S) (And.intro rfl (And.intro rfl (And.intro rfl (And.intro rfl (And.intro rfl (And.intro rfl (And.intro rfl (And.intro rfl (And.intro rfl (And.intro rfl (And.intro rfl (And.intro rfl (trivial)))))))))))))
set_option maxRecDepth 100000 in
set_option maxHeartbeats 4000000 in
theorem t12_census_h88 (G : Gm) (t : Nat) (N : Nat) (x1 : Int32) (x2 : Int32) (x3 : Int32) (x4 : Int32) (x5 : Int32)    : ∀ (n : Nat) (x7 : Int32) (x8 : Int32) (x9 : Int32) (x10 : Int32) (x11 : Int32) (S : St), J G YX12_census 18 1 3 fC 1 3 88 [some (vR (some 146)), some (vI x1), some (vI x2), some (vI x3), some (vI x4), some (vI x5), some (vR (some (174 + t))), some (vI x7), some (vI x8), some (vI x9), some (vI x10), some (vI x11), none, none] [] (MM (t + 1) S) (f12_census_h88 t N x1 x2 x3 x4 x5 n x7 x8 x9 x10 x11 S) := by
  intro n
  induction n with
  | zero => intro x7 x8 x9 x10 x11 S; exact J_none
  | succ n ih =>
    intro x7 x8 x9 x10 x11 S
    rw [f12_census_h88]
    refine J_iload dX12_census_88 rfl ?_
    refine J_aload_n dX12_census_90 rfl rfl ?_
    refine K_getI cf12 flX12_196 (sq 146 rfl) (Or.inl rfl) dX12_census_91 ?_
    refine J_icmp_ge (tgt := 203) dX12_census_94 (by decide) (fun z1 => ?_) (fun z1 => ?_)
    · refine J_iload dX12_census_203 rfl ?_
      refine J_table (td := 288) _ dX12_census_205 (fun z h1 h2 => cov_of (lo := (0)) (N := 7) (ks := [nI 0, nI 1, nI 2, nI 3, nI 4, nI 5, nI 6]) (by decide) z h1 (by omega)) ?_ (by decide) ?_
      · refine List.forall_mem_cons.mpr ⟨tb_mk (o := 43) (tgt := 248) (by decide) (fun _ => ?_), ?_⟩
        · refine J_aload_n dX12_census_248 rfl rfl ?_
          refine K_getI cf12 flX12_196 (sq 146 rfl) (Or.inl rfl) dX12_census_249 ?_
          exact J_ireturn rfl (by decide) (by decide) rfl dX12_census_252
        · refine List.forall_mem_cons.mpr ⟨tb_mk (o := 83) (tgt := 288) (by decide) (fun _ => ?_), ?_⟩
          · exact J_sb (t12_census_j288 G t N x4 S) (And.intro rfl (And.intro rfl (trivial)))
          · refine List.forall_mem_cons.mpr ⟨tb_mk (o := 83) (tgt := 288) (by decide) (fun _ => ?_), ?_⟩
            · exact J_sb (t12_census_j288 G t N x4 S) (And.intro rfl (And.intro rfl (trivial)))
            · refine List.forall_mem_cons.mpr ⟨tb_mk (o := 83) (tgt := 288) (by decide) (fun _ => ?_), ?_⟩
              · exact J_sb (t12_census_j288 G t N x4 S) (And.intro rfl (And.intro rfl (trivial)))
              · refine List.forall_mem_cons.mpr ⟨tb_mk (o := 48) (tgt := 253) (by decide) (fun _ => ?_), ?_⟩
                · refine J_iload dX12_census_253 rfl ?_
                  refine J_if_lt (tgt := 269) dX12_census_255 (by decide) (fun z2 => ?_) (fun z2 => ?_)
                  · refine J_iload dX12_census_269 rfl ?_
                    exact J_ireturn rfl (by decide) (by decide) rfl dX12_census_271
                  · refine J_aload_n dX12_census_258 rfl rfl ?_
                    refine J_aload_n dX12_census_259 rfl rfl ?_
                    refine K_getR (r := some (160)) cf12 flX12_53 (sq 146 rfl) rfl (Or.inr ⟨_, rfl⟩) dX12_census_260 ?_
                    refine J_iload dX12_census_263 rfl ?_
                    refine K_lald (sq 160 rfl) dX12_census_265 ?_
                    refine K_callV_v (As := [vL (S.2 160 x10.toNatClampNeg)]) mcX12_lookAt mlX12_207 rfl (by decide) (sq 146 rfl) (ct12_lookAt G (t + 1) N (S.2 160 x10.toNatClampNeg) S) rfl rfl (Nat.le_of_ble_eq_true rfl) (by decide) (Nat.le_of_ble_eq_true rfl) dX12_census_266 (fun q3 S4 => ?_)
                    refine J_iload dX12_census_269 rfl ?_
                    exact J_ireturn rfl (by decide) (by decide) rfl dX12_census_271
                · refine List.forall_mem_cons.mpr ⟨tb_mk (o := 67) (tgt := 272) (by decide) (fun _ => ?_), ?_⟩
                  · refine J_iload dX12_census_272 rfl ?_
                    exact J_ireturn rfl (by decide) (by decide) rfl dX12_census_274
                  · refine List.forall_mem_cons.mpr ⟨tb_mk (o := 70) (tgt := 275) (by decide) (fun _ => ?_), ?_⟩
                    · refine J_iload dX12_census_275 rfl ?_
                      refine J_iload dX12_census_277 rfl ?_
                      refine J_iload dX12_census_279 rfl ?_
                      refine J_iload dX12_census_281 rfl ?_
                      refine J_iadd dX12_census_283 ?_
                      refine K_callS_i (As := [vI x5, vI x7, vI (x7 + x8)]) mcX12_sureBits mlX12_331 (ct12_sureBits G (t + 1) N x5 x7 (x7 + x8) S) rfl rfl (Nat.le_of_ble_eq_true rfl) (by decide) (Nat.le_of_ble_eq_true rfl) dX12_census_284 (fun q5 S6 => ?_)
                      exact J_ireturn rfl (by decide) (by decide) rfl dX12_census_287
                    · exact fun _ h => absurd h List.not_mem_nil
      · exact J_sb (t12_census_j288 G t N x4 S) (And.intro rfl (And.intro rfl (trivial)))
    · refine J_aload_n dX12_census_97 rfl rfl ?_
      refine J_iload_n dX12_census_98 rfl rfl ?_
      refine J_aload_n dX12_census_99 rfl rfl ?_
      refine K_getR (r := some (160)) cf12 flX12_53 (sq 146 rfl) rfl (Or.inr ⟨_, rfl⟩) dX12_census_100 ?_
      refine J_iload dX12_census_103 rfl ?_
      refine K_lald (sq 160 rfl) dX12_census_105 ?_
      refine J_iload_n dX12_census_106 rfl rfl ?_
      refine J_iload_n dX12_census_107 rfl rfl ?_
      refine J_sipush (v := nI 1000) dX12_census_108 (by decide) ?_
      refine J_irem (by decide) dX12_census_111 ?_
      refine K_callV_i (As := [vI x1, vL (S.2 160 x11.toNatClampNeg), vI x3, vI (remI x2 (nI 1000))]) mcX12_runFor mlX12_183 rfl (by decide) (sq 146 rfl) (ct12_runFor G (t + 1) N x1 (S.2 160 x11.toNatClampNeg) x3 (remI x2 (nI 1000)) S) rfl rfl (Nat.le_of_ble_eq_true rfl) (by decide) (Nat.le_of_ble_eq_true rfl) dX12_census_112 (fun q7 S8 => ?_)
      refine J_istore [some (vR (some 146)), some (vI x1), some (vI x2), some (vI x3), some (vI x4), some (vI x5), some (vR (some (174 + t))), some (vI x7), some (vI x8), some (vI x9), some (vI x10), some (vI x11), some (vI q7), none] dX12_census_115 (Nat.le_of_ble_eq_true rfl) rfl rfl ?_
      refine J_aload dX12_census_117 rfl ?_
      refine J_iload dX12_census_119 rfl ?_
      refine J_dup2 dX12_census_121 rfl rfl ?_
      refine K_iald (sqt) dX12_census_122 ?_
      refine J_iconst (v := nI 1) dX12_census_123 (by decide) ?_
      refine J_iadd dX12_census_124 ?_
      refine K_iast (sqt) dX12_census_125 ?_
      refine J_ltS (fun S9 _ => ?_)
      refine J_iconst (v := nI 1) dX12_census_126 (by decide) ?_
      refine J_iload dX12_census_127 rfl ?_
      refine J_aload_n dX12_census_129 rfl rfl ?_
      refine K_getR (r := some (161)) cf12 flX12_57 (sq 146 rfl) rfl (Or.inr ⟨_, rfl⟩) dX12_census_130 ?_
      refine J_iload dX12_census_133 rfl ?_
      refine K_iald (sq 161 rfl) dX12_census_135 ?_
      refine J_isub dX12_census_136 ?_
      refine J_ishl dX12_census_137 ?_
      refine J_ltI (fun v10 _ => ?_)
      refine J_istore [some (vR (some 146)), some (vI x1), some (vI x2), some (vI x3), some (vI x4), some (vI x5), some (vR (some (174 + t))), some (vI x7), some (vI x8), some (vI x9), some (vI x10), some (vI x11), some (vI q7), some (vI v10)] dX12_census_138 (Nat.le_of_ble_eq_true rfl) rfl rfl ?_
      refine J_iload dX12_census_140 rfl ?_
      refine J_iload dX12_census_142 rfl ?_
      refine J_if_ne (tgt := 152) dX12_census_144 (by decide) (fun z11 => ?_) (fun z11 => ?_)
      · refine J_iload dX12_census_147 rfl ?_
        refine J_goto (tgt := 153) dX12_census_149 (by decide) ?_
        exact J_sb (t12_census_j153 G t N x1 x2 x3 x4 x5 x8 x9 x10 x11 q7 v10 (f12_census_h88 t N x1 x2 x3 x4 x5 n) ih v10 x7 S9) (And.intro rfl (And.intro rfl (And.intro rfl (And.intro rfl (And.intro rfl (And.intro rfl (And.intro rfl (And.intro rfl (And.intro rfl (And.intro rfl (And.intro rfl (And.intro rfl (And.intro rfl (trivial))))))))))))))
      · refine J_iconst (v := nI 0) dX12_census_152 (by decide) ?_
        exact J_sb (t12_census_j153 G t N x1 x2 x3 x4 x5 x8 x9 x10 x11 q7 v10 (f12_census_h88 t N x1 x2 x3 x4 x5 n) ih (nI 0) x7 S9) (And.intro rfl (And.intro rfl (And.intro rfl (And.intro rfl (And.intro rfl (And.intro rfl (And.intro rfl (And.intro rfl (And.intro rfl (And.intro rfl (And.intro rfl (And.intro rfl (And.intro rfl (trivial))))))))))))))
set_option maxRecDepth 100000 in
set_option maxHeartbeats 4000000 in
theorem ct12_census (G : Gm) (t : Nat) (N : Nat) (x1 : Int32) (x2 : Int32) (x3 : Int32) (x4 : Int32)  (S : St) : Ct G YX12_census yX12_census 18 1 3 (fC) (f12_census t N x1 x2 x3 x4 S) [vR (some 146), vI x1, vI x2, vI x3, vI x4] (MM t S) := by
  refine Ct_of_J [some (vR (some 146)), some (vI x1), some (vI x2), some (vI x3), some (vI x4), none, none, none, none, none, none, none, none, none] (by decide) rfl (fun h => by cases h) (Nat.le_of_ble_eq_true rfl) (And.intro rfl (And.intro rfl (And.intro rfl (And.intro rfl (And.intro rfl (trivial)))))) ?_
  unfold f12_census
  refine J_aload_n dX12_census_0 rfl rfl ?_
  refine J_iload_n dX12_census_1 rfl rfl ?_
  refine K_callV_i (As := [vI x1]) mcX12_isLanguage mlX12_117 rfl (by decide) (sq 146 rfl) (ct12_isLanguage G t x1 S) rfl rfl (Nat.le_of_ble_eq_true rfl) (by decide) (Nat.le_of_ble_eq_true rfl) dX12_census_2 (fun q1 S2 => ?_)
  refine J_if_eq (tgt := 40) dX12_census_5 (by decide) (fun z3 => ?_) (fun z3 => ?_)
  · refine J_iconst (v := (-1)) dX12_census_40 (by decide) ?_
    exact J_ireturn rfl (by decide) (by decide) rfl dX12_census_41
  · refine J_iload_n dX12_census_8 rfl rfl ?_
    refine K_callS_i (As := [vI x2]) mcX12_isBound mlX12_321 (ct12_isBound G t x2 S2) rfl rfl (Nat.le_of_ble_eq_true rfl) (by decide) (Nat.le_of_ble_eq_true rfl) dX12_census_9 (fun q4 S5 => ?_)
    refine J_if_eq (tgt := 40) dX12_census_12 (by decide) (fun z6 => ?_) (fun z6 => ?_)
    · refine J_iconst (v := (-1)) dX12_census_40 (by decide) ?_
      exact J_ireturn rfl (by decide) (by decide) rfl dX12_census_41
    · refine J_iload_n dX12_census_15 rfl rfl ?_
      refine J_i2l dX12_census_16 ?_
      refine J_lconst (v := lN 0) dX12_census_17 (by decide) ?_
      refine J_ldc2_w (v := lN 999) wX12_177 dX12_census_18 ?_
      refine K_callS_i (As := [vL x3.toInt64, vL (lN 0), vL (lN 999)]) mcX12_within mlX12_109 (ct12_within G t x3.toInt64 (lN 0) (lN 999) S5) rfl rfl (Nat.le_of_ble_eq_true rfl) (by decide) (Nat.le_of_ble_eq_true rfl) dX12_census_21 (fun q7 S8 => ?_)
      refine J_if_eq (tgt := 40) dX12_census_24 (by decide) (fun z9 => ?_) (fun z9 => ?_)
      · refine J_iconst (v := (-1)) dX12_census_40 (by decide) ?_
        exact J_ireturn rfl (by decide) (by decide) rfl dX12_census_41
      · refine J_iload dX12_census_27 rfl ?_
        refine J_i2l dX12_census_29 ?_
        refine J_lconst (v := lN 0) dX12_census_30 (by decide) ?_
        refine J_ldc2_w (v := lN 6) wX12_107 dX12_census_31 ?_
        refine K_callS_i (As := [vL x4.toInt64, vL (lN 0), vL (lN 6)]) mcX12_within mlX12_109 (ct12_within G t x4.toInt64 (lN 0) (lN 6) S8) rfl rfl (Nat.le_of_ble_eq_true rfl) (by decide) (Nat.le_of_ble_eq_true rfl) dX12_census_34 (fun q10 S11 => ?_)
        refine J_if_ne (tgt := 42) dX12_census_37 (by decide) (fun z12 => ?_) (fun z12 => ?_)
        · refine J_iconst (v := (-1)) dX12_census_40 (by decide) ?_
          exact J_ireturn rfl (by decide) (by decide) rfl dX12_census_41
        · refine J_iload_n dX12_census_42 rfl rfl ?_
          refine J_sipush (v := nI 1000) dX12_census_43 (by decide) ?_
          refine J_idiv (by decide) dX12_census_46 ?_
          refine J_ltI (fun v13 _ => ?_)
          refine J_istore [some (vR (some 146)), some (vI x1), some (vI x2), some (vI x3), some (vI x4), some (vI v13), none, none, none, none, none, none, none, none] dX12_census_47 (Nat.le_of_ble_eq_true rfl) rfl rfl ?_
          refine J_aload_n dX12_census_49 rfl rfl ?_
          refine J_iload_n dX12_census_50 rfl rfl ?_
          refine J_iload dX12_census_51 rfl ?_
          refine K_callV_v (As := [vI x1, vI v13]) mcX12_listAll mlX12_203 rfl (by decide) (sq 146 rfl) (ct12_listAll G t N x1 v13 S11) rfl rfl (Nat.le_of_ble_eq_true rfl) (by decide) (Nat.le_of_ble_eq_true rfl) dX12_census_53 (fun q14 S15 => ?_)
          refine J_iconst (v := nI 3) dX12_census_56 (by decide) ?_
          refine K_newi dX12_census_57 ?_
          refine J_ltS (fun S16 _ => ?_)
          refine J_dup dX12_census_59 rfl ?_
          refine J_iconst (v := nI 0) dX12_census_60 (by decide) ?_
          refine J_iconst (v := nI 0) dX12_census_61 (by decide) ?_
          refine K_iast (sqt) dX12_census_62 ?_
          refine J_ltS (fun S17 _ => ?_)
          refine J_dup dX12_census_63 rfl ?_
          refine J_iconst (v := nI 1) dX12_census_64 (by decide) ?_
          refine J_iconst (v := nI 0) dX12_census_65 (by decide) ?_
          refine K_iast (sqt) dX12_census_66 ?_
          refine J_ltS (fun S18 _ => ?_)
          refine J_dup dX12_census_67 rfl ?_
          refine J_iconst (v := nI 2) dX12_census_68 (by decide) ?_
          refine J_iconst (v := nI 0) dX12_census_69 (by decide) ?_
          refine K_iast (sqt) dX12_census_70 ?_
          refine J_ltS (fun S19 _ => ?_)
          refine J_astore [some (vR (some 146)), some (vI x1), some (vI x2), some (vI x3), some (vI x4), some (vI v13), some (vR (some (174 + t))), none, none, none, none, none, none, none] dX12_census_71 (Nat.le_of_ble_eq_true rfl) rfl rfl ?_
          refine J_iconst (v := nI 0) dX12_census_73 (by decide) ?_
          refine J_istore [some (vR (some 146)), some (vI x1), some (vI x2), some (vI x3), some (vI x4), some (vI v13), some (vR (some (174 + t))), some (vI (nI 0)), none, none, none, none, none, none] dX12_census_74 (Nat.le_of_ble_eq_true rfl) rfl rfl ?_
          refine J_iconst (v := nI 0) dX12_census_76 (by decide) ?_
          refine J_istore [some (vR (some 146)), some (vI x1), some (vI x2), some (vI x3), some (vI x4), some (vI v13), some (vR (some (174 + t))), some (vI (nI 0)), some (vI (nI 0)), none, none, none, none, none] dX12_census_77 (Nat.le_of_ble_eq_true rfl) rfl rfl ?_
          refine J_iconst (v := nI 0) dX12_census_79 (by decide) ?_
          refine J_istore [some (vR (some 146)), some (vI x1), some (vI x2), some (vI x3), some (vI x4), some (vI v13), some (vR (some (174 + t))), some (vI (nI 0)), some (vI (nI 0)), some (vI (nI 0)), none, none, none, none] dX12_census_80 (Nat.le_of_ble_eq_true rfl) rfl rfl ?_
          refine J_iconst (v := (-1)) dX12_census_82 (by decide) ?_
          refine J_istore [some (vR (some 146)), some (vI x1), some (vI x2), some (vI x3), some (vI x4), some (vI v13), some (vR (some (174 + t))), some (vI (nI 0)), some (vI (nI 0)), some (vI (nI 0)), some (vI (-1)), none, none, none] dX12_census_83 (Nat.le_of_ble_eq_true rfl) rfl rfl ?_
          refine J_iconst (v := nI 0) dX12_census_85 (by decide) ?_
          refine J_istore [some (vR (some 146)), some (vI x1), some (vI x2), some (vI x3), some (vI x4), some (vI v13), some (vR (some (174 + t))), some (vI (nI 0)), some (vI (nI 0)), some (vI (nI 0)), some (vI (-1)), some (vI (nI 0)), none, none] dX12_census_86 (Nat.le_of_ble_eq_true rfl) rfl rfl ?_
          exact J_sb (t12_census_h88 G t N x1 x2 x3 x4 v13 N (nI 0) (nI 0) (nI 0) (-1) (nI 0) S19) (And.intro rfl (And.intro rfl (And.intro rfl (And.intro rfl (And.intro rfl (And.intro rfl (And.intro rfl (And.intro rfl (And.intro rfl (And.intro rfl (And.intro rfl (And.intro rfl (trivial)))))))))))))
theorem dX12_copy_0 : decode cX12_copy 0 = .ok (.iconst 0, 1) := by decide +kernel
theorem dX12_copy_1 : decode cX12_copy 1 = .ok (.istore_n 2, 1) := by decide +kernel
theorem dX12_copy_2 : decode cX12_copy 2 = .ok (.iload_n 2, 1) := by decide +kernel
theorem dX12_copy_3 : decode cX12_copy 3 = .ok (.bipush 12, 2) := by decide +kernel
theorem dX12_copy_5 : decode cX12_copy 5 = .ok (.if_icmp .ge 34, 3) := by decide +kernel
theorem dX12_copy_8 : decode cX12_copy 8 = .ok (.aload_n 0, 1) := by decide +kernel
theorem dX12_copy_9 : decode cX12_copy 9 = .ok (.getfield 9, 3) := by decide +kernel
theorem dX12_copy_12 : decode cX12_copy 12 = .ok (.bipush 12, 2) := by decide +kernel
theorem dX12_copy_14 : decode cX12_copy 14 = .ok (.aload_n 0, 1) := by decide +kernel
theorem dX12_copy_15 : decode cX12_copy 15 = .ok (.getfield 100, 3) := by decide +kernel
theorem dX12_copy_18 : decode cX12_copy 18 = .ok (.imul, 1) := by decide +kernel
theorem dX12_copy_19 : decode cX12_copy 19 = .ok (.iload_n 2, 1) := by decide +kernel
theorem dX12_copy_20 : decode cX12_copy 20 = .ok (.iadd, 1) := by decide +kernel
theorem dX12_copy_21 : decode cX12_copy 21 = .ok (.aload_n 0, 1) := by decide +kernel
theorem dX12_copy_22 : decode cX12_copy 22 = .ok (.getfield 9, 3) := by decide +kernel
theorem dX12_copy_25 : decode cX12_copy 25 = .ok (.bipush 12, 2) := by decide +kernel
theorem dX12_copy_27 : decode cX12_copy 27 = .ok (.iload_n 1, 1) := by decide +kernel
theorem dX12_copy_28 : decode cX12_copy 28 = .ok (.imul, 1) := by decide +kernel
theorem dX12_copy_29 : decode cX12_copy 29 = .ok (.iload_n 2, 1) := by decide +kernel
theorem dX12_copy_30 : decode cX12_copy 30 = .ok (.iadd, 1) := by decide +kernel
theorem dX12_copy_31 : decode cX12_copy 31 = .ok (.iaload, 1) := by decide +kernel
theorem dX12_copy_32 : decode cX12_copy 32 = .ok (.iastore, 1) := by decide +kernel
theorem dX12_copy_33 : decode cX12_copy 33 = .ok (.iinc 2 1, 3) := by decide +kernel
theorem dX12_copy_36 : decode cX12_copy 36 = .ok (.goto (-34), 3) := by decide +kernel
theorem dX12_copy_39 : decode cX12_copy 39 = .ok (.iconst 0, 1) := by decide +kernel
theorem dX12_copy_40 : decode cX12_copy 40 = .ok (.istore_n 2, 1) := by decide +kernel
theorem dX12_copy_41 : decode cX12_copy 41 = .ok (.iload_n 2, 1) := by decide +kernel
theorem dX12_copy_42 : decode cX12_copy 42 = .ok (.iconst 4, 1) := by decide +kernel
theorem dX12_copy_43 : decode cX12_copy 43 = .ok (.if_icmp .ge 76, 3) := by decide +kernel
theorem dX12_copy_46 : decode cX12_copy 46 = .ok (.aload_n 0, 1) := by decide +kernel
theorem dX12_copy_47 : decode cX12_copy 47 = .ok (.getfield 22, 3) := by decide +kernel
theorem dX12_copy_50 : decode cX12_copy 50 = .ok (.iconst 4, 1) := by decide +kernel
theorem dX12_copy_51 : decode cX12_copy 51 = .ok (.aload_n 0, 1) := by decide +kernel
theorem dX12_copy_52 : decode cX12_copy 52 = .ok (.getfield 100, 3) := by decide +kernel
theorem dX12_copy_55 : decode cX12_copy 55 = .ok (.imul, 1) := by decide +kernel
theorem dX12_copy_56 : decode cX12_copy 56 = .ok (.iload_n 2, 1) := by decide +kernel
theorem dX12_copy_57 : decode cX12_copy 57 = .ok (.iadd, 1) := by decide +kernel
theorem dX12_copy_58 : decode cX12_copy 58 = .ok (.aload_n 0, 1) := by decide +kernel
theorem dX12_copy_59 : decode cX12_copy 59 = .ok (.getfield 22, 3) := by decide +kernel
theorem dX12_copy_62 : decode cX12_copy 62 = .ok (.iconst 4, 1) := by decide +kernel
theorem dX12_copy_63 : decode cX12_copy 63 = .ok (.iload_n 1, 1) := by decide +kernel
theorem dX12_copy_64 : decode cX12_copy 64 = .ok (.imul, 1) := by decide +kernel
theorem dX12_copy_65 : decode cX12_copy 65 = .ok (.iload_n 2, 1) := by decide +kernel
theorem dX12_copy_66 : decode cX12_copy 66 = .ok (.iadd, 1) := by decide +kernel
theorem dX12_copy_67 : decode cX12_copy 67 = .ok (.iaload, 1) := by decide +kernel
theorem dX12_copy_68 : decode cX12_copy 68 = .ok (.iastore, 1) := by decide +kernel
theorem dX12_copy_69 : decode cX12_copy 69 = .ok (.iconst 0, 1) := by decide +kernel
theorem dX12_copy_70 : decode cX12_copy 70 = .ok (.istore_n 3, 1) := by decide +kernel
theorem dX12_copy_71 : decode cX12_copy 71 = .ok (.iload_n 3, 1) := by decide +kernel
theorem dX12_copy_72 : decode cX12_copy 72 = .ok (.iconst 4, 1) := by decide +kernel
theorem dX12_copy_73 : decode cX12_copy 73 = .ok (.if_icmp .ge 40, 3) := by decide +kernel
theorem dX12_copy_76 : decode cX12_copy 76 = .ok (.aload_n 0, 1) := by decide +kernel
theorem dX12_copy_77 : decode cX12_copy 77 = .ok (.getfield 19, 3) := by decide +kernel
theorem dX12_copy_80 : decode cX12_copy 80 = .ok (.iconst 4, 1) := by decide +kernel
theorem dX12_copy_81 : decode cX12_copy 81 = .ok (.iconst 4, 1) := by decide +kernel
theorem dX12_copy_82 : decode cX12_copy 82 = .ok (.aload_n 0, 1) := by decide +kernel
theorem dX12_copy_83 : decode cX12_copy 83 = .ok (.getfield 100, 3) := by decide +kernel
theorem dX12_copy_86 : decode cX12_copy 86 = .ok (.imul, 1) := by decide +kernel
theorem dX12_copy_87 : decode cX12_copy 87 = .ok (.iload_n 2, 1) := by decide +kernel
theorem dX12_copy_88 : decode cX12_copy 88 = .ok (.iadd, 1) := by decide +kernel
theorem dX12_copy_89 : decode cX12_copy 89 = .ok (.imul, 1) := by decide +kernel
theorem dX12_copy_90 : decode cX12_copy 90 = .ok (.iload_n 3, 1) := by decide +kernel
theorem dX12_copy_91 : decode cX12_copy 91 = .ok (.iadd, 1) := by decide +kernel
theorem dX12_copy_92 : decode cX12_copy 92 = .ok (.aload_n 0, 1) := by decide +kernel
theorem dX12_copy_93 : decode cX12_copy 93 = .ok (.getfield 19, 3) := by decide +kernel
theorem dX12_copy_96 : decode cX12_copy 96 = .ok (.iconst 4, 1) := by decide +kernel
theorem dX12_copy_97 : decode cX12_copy 97 = .ok (.iconst 4, 1) := by decide +kernel
theorem dX12_copy_98 : decode cX12_copy 98 = .ok (.iload_n 1, 1) := by decide +kernel
theorem dX12_copy_99 : decode cX12_copy 99 = .ok (.imul, 1) := by decide +kernel
theorem dX12_copy_100 : decode cX12_copy 100 = .ok (.iload_n 2, 1) := by decide +kernel
theorem dX12_copy_101 : decode cX12_copy 101 = .ok (.iadd, 1) := by decide +kernel
theorem dX12_copy_102 : decode cX12_copy 102 = .ok (.imul, 1) := by decide +kernel
theorem dX12_copy_103 : decode cX12_copy 103 = .ok (.iload_n 3, 1) := by decide +kernel
theorem dX12_copy_104 : decode cX12_copy 104 = .ok (.iadd, 1) := by decide +kernel
theorem dX12_copy_105 : decode cX12_copy 105 = .ok (.iaload, 1) := by decide +kernel
theorem dX12_copy_106 : decode cX12_copy 106 = .ok (.iastore, 1) := by decide +kernel
theorem dX12_copy_107 : decode cX12_copy 107 = .ok (.iinc 3 1, 3) := by decide +kernel
theorem dX12_copy_110 : decode cX12_copy 110 = .ok (.goto (-39), 3) := by decide +kernel
theorem dX12_copy_113 : decode cX12_copy 113 = .ok (.iinc 2 1, 3) := by decide +kernel
theorem dX12_copy_116 : decode cX12_copy 116 = .ok (.goto (-75), 3) := by decide +kernel
theorem dX12_copy_119 : decode cX12_copy 119 = .ok (.aload_n 0, 1) := by decide +kernel
theorem dX12_copy_120 : decode cX12_copy 120 = .ok (.getfield 25, 3) := by decide +kernel
theorem dX12_copy_123 : decode cX12_copy 123 = .ok (.aload_n 0, 1) := by decide +kernel
theorem dX12_copy_124 : decode cX12_copy 124 = .ok (.getfield 100, 3) := by decide +kernel
theorem dX12_copy_127 : decode cX12_copy 127 = .ok (.aload_n 0, 1) := by decide +kernel
theorem dX12_copy_128 : decode cX12_copy 128 = .ok (.getfield 25, 3) := by decide +kernel
theorem dX12_copy_131 : decode cX12_copy 131 = .ok (.iload_n 1, 1) := by decide +kernel
theorem dX12_copy_132 : decode cX12_copy 132 = .ok (.iaload, 1) := by decide +kernel
theorem dX12_copy_133 : decode cX12_copy 133 = .ok (.iastore, 1) := by decide +kernel
theorem dX12_copy_134 : decode cX12_copy 134 = .ok (.return_, 1) := by decide +kernel
set_option maxRecDepth 100000 in
set_option maxHeartbeats 4000000 in
theorem t12_copy_h71 (G : Gm) (t : Nat) (N : Nat) (x1 : Int32) (x2 : Int32)  (k41 : Int32 → St → Option (Unit × St)) (hk41 : ∀ (yx2 : Int32) (S : St), J G YX12_copy 1 0 0 (fV t) 0 0 41 [some (vR (some 146)), some (vI x1), some (vI yx2), none] [] (MM t S) (k41 yx2 S)) : ∀ (n : Nat) (x3 : Int32) (S : St), J G YX12_copy 1 0 0 (fV t) 0 0 71 [some (vR (some 146)), some (vI x1), some (vI x2), some (vI x3)] [] (MM t S) (f12_copy_h71 N x1 x2 k41 n x3 S) := by
  intro n
  induction n with
  | zero => intro x3 S; exact J_none
  | succ n ih =>
    intro x3 S
    rw [f12_copy_h71]
    refine J_iload_n dX12_copy_71 rfl rfl ?_
    refine J_iconst (v := nI 4) dX12_copy_72 (by decide) ?_
    refine J_icmp_ge (tgt := 113) dX12_copy_73 (by decide) (fun z1 => ?_) (fun z1 => ?_)
    · refine J_iinc (v := x2 + nI 1) [some (vR (some 146)), some (vI x1), some (vI (x2 + nI 1)), some (vI x3)] dX12_copy_113 rfl rfl (Nat.le_of_ble_eq_true rfl) rfl rfl ?_
      refine J_goto (tgt := 41) dX12_copy_116 (by decide) ?_
      exact J_sb (hk41 (x2 + nI 1) S) (And.intro rfl (And.intro rfl (And.intro rfl (trivial))))
    · refine J_aload_n dX12_copy_76 rfl rfl ?_
      refine K_getR (r := some (150)) cf12 flX12_19 (sq 146 rfl) rfl (Or.inr ⟨_, rfl⟩) dX12_copy_77 ?_
      refine J_iconst (v := nI 4) dX12_copy_80 (by decide) ?_
      refine J_iconst (v := nI 4) dX12_copy_81 (by decide) ?_
      refine J_aload_n dX12_copy_82 rfl rfl ?_
      refine K_getI cf12 flX12_100 (sq 146 rfl) (Or.inl rfl) dX12_copy_83 ?_
      refine J_imul dX12_copy_86 ?_
      refine J_iload_n dX12_copy_87 rfl rfl ?_
      refine J_iadd dX12_copy_88 ?_
      refine J_imul dX12_copy_89 ?_
      refine J_iload_n dX12_copy_90 rfl rfl ?_
      refine J_iadd dX12_copy_91 ?_
      refine J_aload_n dX12_copy_92 rfl rfl ?_
      refine K_getR (r := some (150)) cf12 flX12_19 (sq 146 rfl) rfl (Or.inr ⟨_, rfl⟩) dX12_copy_93 ?_
      refine J_iconst (v := nI 4) dX12_copy_96 (by decide) ?_
      refine J_iconst (v := nI 4) dX12_copy_97 (by decide) ?_
      refine J_iload_n dX12_copy_98 rfl rfl ?_
      refine J_imul dX12_copy_99 ?_
      refine J_iload_n dX12_copy_100 rfl rfl ?_
      refine J_iadd dX12_copy_101 ?_
      refine J_imul dX12_copy_102 ?_
      refine J_iload_n dX12_copy_103 rfl rfl ?_
      refine J_iadd dX12_copy_104 ?_
      refine K_iald (sq 150 rfl) dX12_copy_105 ?_
      refine K_iast (sq 150 rfl) dX12_copy_106 ?_
      refine J_ltS (fun S2 _ => ?_)
      refine J_iinc (v := x3 + nI 1) [some (vR (some 146)), some (vI x1), some (vI x2), some (vI (x3 + nI 1))] dX12_copy_107 rfl rfl (Nat.le_of_ble_eq_true rfl) rfl rfl ?_
      refine J_goto (tgt := 71) dX12_copy_110 (by decide) ?_
      exact J_sb (ih (x3 + nI 1) S2) (And.intro rfl (And.intro rfl (And.intro rfl (And.intro rfl (trivial)))))
set_option maxRecDepth 100000 in
set_option maxHeartbeats 4000000 in
theorem t12_copy_h41 (G : Gm) (t : Nat) (N : Nat) (x1 : Int32)    : ∀ (n : Nat) (x2 : Int32) (S : St), J G YX12_copy 1 0 0 (fV t) 0 0 41 [some (vR (some 146)), some (vI x1), some (vI x2), none] [] (MM t S) (f12_copy_h41 N x1 n x2 S) := by
  intro n
  induction n with
  | zero => intro x2 S; exact J_none
  | succ n ih =>
    intro x2 S
    rw [f12_copy_h41]
    refine J_iload_n dX12_copy_41 rfl rfl ?_
    refine J_iconst (v := nI 4) dX12_copy_42 (by decide) ?_
    refine J_icmp_ge (tgt := 119) dX12_copy_43 (by decide) (fun z1 => ?_) (fun z1 => ?_)
    · refine J_aload_n dX12_copy_119 rfl rfl ?_
      refine K_getR (r := some (152)) cf12 flX12_25 (sq 146 rfl) rfl (Or.inr ⟨_, rfl⟩) dX12_copy_120 ?_
      refine J_aload_n dX12_copy_123 rfl rfl ?_
      refine K_getI cf12 flX12_100 (sq 146 rfl) (Or.inl rfl) dX12_copy_124 ?_
      refine J_aload_n dX12_copy_127 rfl rfl ?_
      refine K_getR (r := some (152)) cf12 flX12_25 (sq 146 rfl) rfl (Or.inr ⟨_, rfl⟩) dX12_copy_128 ?_
      refine J_iload_n dX12_copy_131 rfl rfl ?_
      refine K_iald (sq 152 rfl) dX12_copy_132 ?_
      refine K_iast (sq 152 rfl) dX12_copy_133 ?_
      refine J_ltS (fun S2 _ => ?_)
      exact J_return rfl (Nat.le_refl _) (Nat.le_refl _) rfl dX12_copy_134
    · refine J_aload_n dX12_copy_46 rfl rfl ?_
      refine K_getR (r := some (151)) cf12 flX12_22 (sq 146 rfl) rfl (Or.inr ⟨_, rfl⟩) dX12_copy_47 ?_
      refine J_iconst (v := nI 4) dX12_copy_50 (by decide) ?_
      refine J_aload_n dX12_copy_51 rfl rfl ?_
      refine K_getI cf12 flX12_100 (sq 146 rfl) (Or.inl rfl) dX12_copy_52 ?_
      refine J_imul dX12_copy_55 ?_
      refine J_iload_n dX12_copy_56 rfl rfl ?_
      refine J_iadd dX12_copy_57 ?_
      refine J_aload_n dX12_copy_58 rfl rfl ?_
      refine K_getR (r := some (151)) cf12 flX12_22 (sq 146 rfl) rfl (Or.inr ⟨_, rfl⟩) dX12_copy_59 ?_
      refine J_iconst (v := nI 4) dX12_copy_62 (by decide) ?_
      refine J_iload_n dX12_copy_63 rfl rfl ?_
      refine J_imul dX12_copy_64 ?_
      refine J_iload_n dX12_copy_65 rfl rfl ?_
      refine J_iadd dX12_copy_66 ?_
      refine K_iald (sq 151 rfl) dX12_copy_67 ?_
      refine K_iast (sq 151 rfl) dX12_copy_68 ?_
      refine J_ltS (fun S3 _ => ?_)
      refine J_iconst (v := nI 0) dX12_copy_69 (by decide) ?_
      refine J_istore_n [some (vR (some 146)), some (vI x1), some (vI x2), some (vI (nI 0))] dX12_copy_70 rfl (Nat.le_of_ble_eq_true rfl) rfl rfl ?_
      exact J_sb (t12_copy_h71 G t N x1 x2 (f12_copy_h41 N x1 n) ih N (nI 0) S3) (And.intro rfl (And.intro rfl (And.intro rfl (And.intro rfl (trivial)))))
set_option maxRecDepth 100000 in
set_option maxHeartbeats 4000000 in
theorem t12_copy_h2 (G : Gm) (t : Nat) (N : Nat) (x1 : Int32)    : ∀ (n : Nat) (x2 : Int32) (S : St), J G YX12_copy 1 0 0 (fV t) 0 0 2 [some (vR (some 146)), some (vI x1), some (vI x2), none] [] (MM t S) (f12_copy_h2 N x1 n x2 S) := by
  intro n
  induction n with
  | zero => intro x2 S; exact J_none
  | succ n ih =>
    intro x2 S
    rw [f12_copy_h2]
    refine J_iload_n dX12_copy_2 rfl rfl ?_
    refine J_bipush (v := nI 12) dX12_copy_3 (by decide) ?_
    refine J_icmp_ge (tgt := 39) dX12_copy_5 (by decide) (fun z1 => ?_) (fun z1 => ?_)
    · refine J_iconst (v := nI 0) dX12_copy_39 (by decide) ?_
      refine J_istore_n [some (vR (some 146)), some (vI x1), some (vI (nI 0)), none] dX12_copy_40 rfl (Nat.le_of_ble_eq_true rfl) rfl rfl ?_
      exact J_sb (t12_copy_h41 G t N x1 N (nI 0) S) (And.intro rfl (And.intro rfl (And.intro rfl (trivial))))
    · refine J_aload_n dX12_copy_8 rfl rfl ?_
      refine K_getR (r := some (147)) cf12 flX12_9 (sq 146 rfl) rfl (Or.inr ⟨_, rfl⟩) dX12_copy_9 ?_
      refine J_bipush (v := nI 12) dX12_copy_12 (by decide) ?_
      refine J_aload_n dX12_copy_14 rfl rfl ?_
      refine K_getI cf12 flX12_100 (sq 146 rfl) (Or.inl rfl) dX12_copy_15 ?_
      refine J_imul dX12_copy_18 ?_
      refine J_iload_n dX12_copy_19 rfl rfl ?_
      refine J_iadd dX12_copy_20 ?_
      refine J_aload_n dX12_copy_21 rfl rfl ?_
      refine K_getR (r := some (147)) cf12 flX12_9 (sq 146 rfl) rfl (Or.inr ⟨_, rfl⟩) dX12_copy_22 ?_
      refine J_bipush (v := nI 12) dX12_copy_25 (by decide) ?_
      refine J_iload_n dX12_copy_27 rfl rfl ?_
      refine J_imul dX12_copy_28 ?_
      refine J_iload_n dX12_copy_29 rfl rfl ?_
      refine J_iadd dX12_copy_30 ?_
      refine K_iald (sq 147 rfl) dX12_copy_31 ?_
      refine K_iast (sq 147 rfl) dX12_copy_32 ?_
      refine J_ltS (fun S2 _ => ?_)
      refine J_iinc (v := x2 + nI 1) [some (vR (some 146)), some (vI x1), some (vI (x2 + nI 1)), none] dX12_copy_33 rfl rfl (Nat.le_of_ble_eq_true rfl) rfl rfl ?_
      refine J_goto (tgt := 2) dX12_copy_36 (by decide) ?_
      exact J_sb (ih (x2 + nI 1) S2) (And.intro rfl (And.intro rfl (And.intro rfl (trivial))))
set_option maxRecDepth 100000 in
set_option maxHeartbeats 4000000 in
theorem ct12_copy (G : Gm) (t : Nat) (N : Nat) (x1 : Int32)  (S : St) : Ct G YX12_copy yX12_copy 1 0 0 (fV t) (f12_copy N x1 S) [vR (some 146), vI x1] (MM t S) := by
  refine Ct_of_J [some (vR (some 146)), some (vI x1), none, none] (by decide) rfl (fun h => by cases h) (Nat.le_of_ble_eq_true rfl) (And.intro rfl (And.intro rfl (trivial))) ?_
  unfold f12_copy
  refine J_iconst (v := nI 0) dX12_copy_0 (by decide) ?_
  refine J_istore_n [some (vR (some 146)), some (vI x1), some (vI (nI 0)), none] dX12_copy_1 rfl (Nat.le_of_ble_eq_true rfl) rfl rfl ?_
  exact J_sb (t12_copy_h2 G t N x1 N (nI 0) S) (And.intro rfl (And.intro rfl (And.intro rfl (trivial))))
theorem dX12_helped_0 : decode cX12_helped 0 = .ok (.aload_n 0, 1) := by decide +kernel
theorem dX12_helped_1 : decode cX12_helped 1 = .ok (.iload_n 1, 1) := by decide +kernel
theorem dX12_helped_2 : decode cX12_helped 2 = .ok (.invokevirtual 117, 3) := by decide +kernel
theorem dX12_helped_5 : decode cX12_helped 5 = .ok (.ifCond .ne 5, 3) := by decide +kernel
theorem dX12_helped_8 : decode cX12_helped 8 = .ok (.iconst (-1), 1) := by decide +kernel
theorem dX12_helped_9 : decode cX12_helped 9 = .ok (.ireturn, 1) := by decide +kernel
theorem dX12_helped_10 : decode cX12_helped 10 = .ok (.aload_n 0, 1) := by decide +kernel
theorem dX12_helped_11 : decode cX12_helped 11 = .ok (.iload_n 1, 1) := by decide +kernel
theorem dX12_helped_12 : decode cX12_helped 12 = .ok (.invokevirtual 133, 3) := by decide +kernel
theorem dX12_helped_15 : decode cX12_helped 15 = .ok (.ifCond .ne 6, 3) := by decide +kernel
theorem dX12_helped_18 : decode cX12_helped 18 = .ok (.bipush (-5), 2) := by decide +kernel
theorem dX12_helped_20 : decode cX12_helped 20 = .ok (.ireturn, 1) := by decide +kernel
theorem dX12_helped_21 : decode cX12_helped 21 = .ok (.aload_n 0, 1) := by decide +kernel
theorem dX12_helped_22 : decode cX12_helped 22 = .ok (.getfield 100, 3) := by decide +kernel
theorem dX12_helped_25 : decode cX12_helped 25 = .ok (.bipush 6, 2) := by decide +kernel
theorem dX12_helped_27 : decode cX12_helped 27 = .ok (.if_icmp .ne 6, 3) := by decide +kernel
theorem dX12_helped_30 : decode cX12_helped 30 = .ok (.bipush (-3), 2) := by decide +kernel
theorem dX12_helped_32 : decode cX12_helped 32 = .ok (.ireturn, 1) := by decide +kernel
theorem dX12_helped_33 : decode cX12_helped 33 = .ok (.aload_n 0, 1) := by decide +kernel
theorem dX12_helped_34 : decode cX12_helped 34 = .ok (.iload_n 1, 1) := by decide +kernel
theorem dX12_helped_35 : decode cX12_helped 35 = .ok (.invokevirtual 335, 3) := by decide +kernel
theorem dX12_helped_38 : decode cX12_helped 38 = .ok (.iconst 0, 1) := by decide +kernel
theorem dX12_helped_39 : decode cX12_helped 39 = .ok (.istore_n 2, 1) := by decide +kernel
theorem dX12_helped_40 : decode cX12_helped 40 = .ok (.iload_n 2, 1) := by decide +kernel
theorem dX12_helped_41 : decode cX12_helped 41 = .ok (.aload_n 0, 1) := by decide +kernel
theorem dX12_helped_42 : decode cX12_helped 42 = .ok (.iload_n 1, 1) := by decide +kernel
theorem dX12_helped_43 : decode cX12_helped 43 = .ok (.invokevirtual 103, 3) := by decide +kernel
theorem dX12_helped_46 : decode cX12_helped 46 = .ok (.if_icmp .ge 130, 3) := by decide +kernel
theorem dX12_helped_49 : decode cX12_helped 49 = .ok (.iconst 0, 1) := by decide +kernel
theorem dX12_helped_50 : decode cX12_helped 50 = .ok (.istore_n 3, 1) := by decide +kernel
theorem dX12_helped_51 : decode cX12_helped 51 = .ok (.iconst 0, 1) := by decide +kernel
theorem dX12_helped_52 : decode cX12_helped 52 = .ok (.istore 4, 2) := by decide +kernel
theorem dX12_helped_54 : decode cX12_helped 54 = .ok (.iload 4, 2) := by decide +kernel
theorem dX12_helped_56 : decode cX12_helped 56 = .ok (.aload_n 0, 1) := by decide +kernel
theorem dX12_helped_57 : decode cX12_helped 57 = .ok (.getfield 128, 3) := by decide +kernel
theorem dX12_helped_60 : decode cX12_helped 60 = .ok (.if_icmp .ge 30, 3) := by decide +kernel
theorem dX12_helped_63 : decode cX12_helped 63 = .ok (.iload_n 3, 1) := by decide +kernel
theorem dX12_helped_64 : decode cX12_helped 64 = .ok (.ifCond .ne 14, 3) := by decide +kernel
theorem dX12_helped_67 : decode cX12_helped 67 = .ok (.aload_n 0, 1) := by decide +kernel
theorem dX12_helped_68 : decode cX12_helped 68 = .ok (.getfield 28, 3) := by decide +kernel
theorem dX12_helped_71 : decode cX12_helped 71 = .ok (.iload 4, 2) := by decide +kernel
theorem dX12_helped_73 : decode cX12_helped 73 = .ok (.iaload, 1) := by decide +kernel
theorem dX12_helped_74 : decode cX12_helped 74 = .ok (.iload_n 2, 1) := by decide +kernel
theorem dX12_helped_75 : decode cX12_helped 75 = .ok (.if_icmp .ne 7, 3) := by decide +kernel
theorem dX12_helped_78 : decode cX12_helped 78 = .ok (.iconst 1, 1) := by decide +kernel
theorem dX12_helped_79 : decode cX12_helped 79 = .ok (.goto 4, 3) := by decide +kernel
theorem dX12_helped_82 : decode cX12_helped 82 = .ok (.iconst 0, 1) := by decide +kernel
theorem dX12_helped_83 : decode cX12_helped 83 = .ok (.istore_n 3, 1) := by decide +kernel
theorem dX12_helped_84 : decode cX12_helped 84 = .ok (.iinc 4 1, 3) := by decide +kernel
theorem dX12_helped_87 : decode cX12_helped 87 = .ok (.goto (-33), 3) := by decide +kernel
theorem dX12_helped_90 : decode cX12_helped 90 = .ok (.aload_n 0, 1) := by decide +kernel
theorem dX12_helped_91 : decode cX12_helped 91 = .ok (.getfield 9, 3) := by decide +kernel
theorem dX12_helped_94 : decode cX12_helped 94 = .ok (.bipush 12, 2) := by decide +kernel
theorem dX12_helped_96 : decode cX12_helped 96 = .ok (.aload_n 0, 1) := by decide +kernel
theorem dX12_helped_97 : decode cX12_helped 97 = .ok (.getfield 100, 3) := by decide +kernel
theorem dX12_helped_100 : decode cX12_helped 100 = .ok (.imul, 1) := by decide +kernel
theorem dX12_helped_101 : decode cX12_helped 101 = .ok (.iload_n 2, 1) := by decide +kernel
theorem dX12_helped_102 : decode cX12_helped 102 = .ok (.iadd, 1) := by decide +kernel
theorem dX12_helped_103 : decode cX12_helped 103 = .ok (.iaload, 1) := by decide +kernel
theorem dX12_helped_104 : decode cX12_helped 104 = .ok (.istore 4, 2) := by decide +kernel
theorem dX12_helped_106 : decode cX12_helped 106 = .ok (.iload_n 3, 1) := by decide +kernel
theorem dX12_helped_107 : decode cX12_helped 107 = .ok (.ifCond .eq 63, 3) := by decide +kernel
theorem dX12_helped_110 : decode cX12_helped 110 = .ok (.iload 4, 2) := by decide +kernel
theorem dX12_helped_112 : decode cX12_helped 112 = .ok (.iconst 1, 1) := by decide +kernel
theorem dX12_helped_113 : decode cX12_helped 113 = .ok (.if_icmp .le 57, 3) := by decide +kernel
theorem dX12_helped_116 : decode cX12_helped 116 = .ok (.bipush 64, 2) := by decide +kernel
theorem dX12_helped_118 : decode cX12_helped 118 = .ok (.iload 4, 2) := by decide +kernel
theorem dX12_helped_120 : decode cX12_helped 120 = .ok (.iconst 1, 1) := by decide +kernel
theorem dX12_helped_121 : decode cX12_helped 121 = .ok (.isub, 1) := by decide +kernel
theorem dX12_helped_122 : decode cX12_helped 122 = .ok (.ishr, 1) := by decide +kernel
theorem dX12_helped_123 : decode cX12_helped 123 = .ok (.bipush 64, 2) := by decide +kernel
theorem dX12_helped_125 : decode cX12_helped 125 = .ok (.iload 4, 2) := by decide +kernel
theorem dX12_helped_127 : decode cX12_helped 127 = .ok (.ishr, 1) := by decide +kernel
theorem dX12_helped_128 : decode cX12_helped 128 = .ok (.isub, 1) := by decide +kernel
theorem dX12_helped_129 : decode cX12_helped 129 = .ok (.istore 5, 2) := by decide +kernel
theorem dX12_helped_131 : decode cX12_helped 131 = .ok (.aload_n 0, 1) := by decide +kernel
theorem dX12_helped_132 : decode cX12_helped 132 = .ok (.getfield 9, 3) := by decide +kernel
theorem dX12_helped_135 : decode cX12_helped 135 = .ok (.bipush 12, 2) := by decide +kernel
theorem dX12_helped_137 : decode cX12_helped 137 = .ok (.aload_n 0, 1) := by decide +kernel
theorem dX12_helped_138 : decode cX12_helped 138 = .ok (.getfield 100, 3) := by decide +kernel
theorem dX12_helped_141 : decode cX12_helped 141 = .ok (.imul, 1) := by decide +kernel
theorem dX12_helped_142 : decode cX12_helped 142 = .ok (.iload_n 2, 1) := by decide +kernel
theorem dX12_helped_143 : decode cX12_helped 143 = .ok (.iadd, 1) := by decide +kernel
theorem dX12_helped_144 : decode cX12_helped 144 = .ok (.aload_n 0, 1) := by decide +kernel
theorem dX12_helped_145 : decode cX12_helped 145 = .ok (.aload_n 0, 1) := by decide +kernel
theorem dX12_helped_146 : decode cX12_helped 146 = .ok (.getfield 100, 3) := by decide +kernel
theorem dX12_helped_149 : decode cX12_helped 149 = .ok (.invokevirtual 121, 3) := by decide +kernel
theorem dX12_helped_152 : decode cX12_helped 152 = .ok (.iload 5, 2) := by decide +kernel
theorem dX12_helped_154 : decode cX12_helped 154 = .ok (.iadd, 1) := by decide +kernel
theorem dX12_helped_155 : decode cX12_helped 155 = .ok (.bipush 64, 2) := by decide +kernel
theorem dX12_helped_157 : decode cX12_helped 157 = .ok (.if_icmp .gt 10, 3) := by decide +kernel
theorem dX12_helped_160 : decode cX12_helped 160 = .ok (.iload 4, 2) := by decide +kernel
theorem dX12_helped_162 : decode cX12_helped 162 = .ok (.iconst 1, 1) := by decide +kernel
theorem dX12_helped_163 : decode cX12_helped 163 = .ok (.isub, 1) := by decide +kernel
theorem dX12_helped_164 : decode cX12_helped 164 = .ok (.goto 5, 3) := by decide +kernel
theorem dX12_helped_167 : decode cX12_helped 167 = .ok (.iload 4, 2) := by decide +kernel
theorem dX12_helped_169 : decode cX12_helped 169 = .ok (.iastore, 1) := by decide +kernel
theorem dX12_helped_170 : decode cX12_helped 170 = .ok (.iinc 2 1, 3) := by decide +kernel
theorem dX12_helped_173 : decode cX12_helped 173 = .ok (.goto (-133), 3) := by decide +kernel
theorem dX12_helped_176 : decode cX12_helped 176 = .ok (.aload_n 0, 1) := by decide +kernel
theorem dX12_helped_177 : decode cX12_helped 177 = .ok (.aload_n 0, 1) := by decide +kernel
theorem dX12_helped_178 : decode cX12_helped 178 = .ok (.getfield 100, 3) := by decide +kernel
theorem dX12_helped_181 : decode cX12_helped 181 = .ok (.invokevirtual 113, 3) := by decide +kernel
theorem dX12_helped_184 : decode cX12_helped 184 = .ok (.aload_n 0, 1) := by decide +kernel
theorem dX12_helped_185 : decode cX12_helped 185 = .ok (.dup, 1) := by decide +kernel
theorem dX12_helped_186 : decode cX12_helped 186 = .ok (.getfield 100, 3) := by decide +kernel
theorem dX12_helped_189 : decode cX12_helped 189 = .ok (.iconst 1, 1) := by decide +kernel
theorem dX12_helped_190 : decode cX12_helped 190 = .ok (.iadd, 1) := by decide +kernel
theorem dX12_helped_191 : decode cX12_helped 191 = .ok (.putfield 100, 3) := by decide +kernel
theorem dX12_helped_194 : decode cX12_helped 194 = .ok (.aload_n 0, 1) := by decide +kernel
theorem dX12_helped_195 : decode cX12_helped 195 = .ok (.getfield 100, 3) := by decide +kernel
theorem dX12_helped_198 : decode cX12_helped 198 = .ok (.iconst 1, 1) := by decide +kernel
theorem dX12_helped_199 : decode cX12_helped 199 = .ok (.isub, 1) := by decide +kernel
theorem dX12_helped_200 : decode cX12_helped 200 = .ok (.ireturn, 1) := by decide +kernel
set_option maxRecDepth 100000 in
set_option maxHeartbeats 4000000 in
theorem t12_helped_j169 (G : Gm) (t : Nat) (N : Nat) (x1 : Int32) (x2 : Int32)  (k40 : Int32 → St → Option (Int32 × St)) (hk40 : ∀ (yx2 : Int32) (S : St), J G YX12_helped 4 0 0 (fI t) 0 0 40 [some (vR (some 146)), some (vI x1), some (vI yx2), none, none, none] [] (MM t S) (k40 yx2 S)) : ∀ (xs0 : Int32) (xs1 : Int32) (S : St), J G YX12_helped 4 0 0 (fI t) 0 0 169 [some (vR (some 146)), some (vI x1), some (vI x2), none, none, none] [vI xs0, vI xs1, vR (some 147)] (MM t S) (f12_helped_j169 N x1 x2 k40 xs0 xs1 S) := by
  intro xs0 xs1 S
  unfold f12_helped_j169
  refine K_iast (sq 147 rfl) dX12_helped_169 ?_
  refine J_ltS (fun S1 _ => ?_)
  refine J_iinc (v := x2 + nI 1) [some (vR (some 146)), some (vI x1), some (vI (x2 + nI 1)), none, none, none] dX12_helped_170 rfl rfl (Nat.le_of_ble_eq_true rfl) rfl rfl ?_
  refine J_goto (tgt := 40) dX12_helped_173 (by decide) ?_
  exact J_sb (hk40 (x2 + nI 1) S1) (And.intro rfl (And.intro rfl (And.intro rfl (trivial))))
set_option maxRecDepth 100000 in
set_option maxHeartbeats 4000000 in
theorem t12_helped_j83 (G : Gm) (t : Nat) (N : Nat) (x1 : Int32) (x2 : Int32) (x4 : Int32)  (k40 : Int32 → St → Option (Int32 × St)) (k54 : Int32 → Int32 → St → Option (Int32 × St)) (hk40 : ∀ (yx2 : Int32) (S : St), J G YX12_helped 4 0 0 (fI t) 0 0 40 [some (vR (some 146)), some (vI x1), some (vI yx2), none, none, none] [] (MM t S) (k40 yx2 S)) (hk54 : ∀ (yx3 : Int32) (yx4 : Int32) (S : St), J G YX12_helped 4 0 0 (fI t) 0 0 54 [some (vR (some 146)), some (vI x1), some (vI x2), some (vI yx3), some (vI yx4), none] [] (MM t S) (k54 yx3 yx4 S)) : ∀ (xs0 : Int32) (S : St), J G YX12_helped 4 0 0 (fI t) 0 0 83 [some (vR (some 146)), some (vI x1), some (vI x2), none, some (vI x4), none] [vI xs0] (MM t S) (f12_helped_j83 N x1 x2 x4 k40 k54 xs0 S) := by
  intro xs0 S
  unfold f12_helped_j83
  refine J_istore_n [some (vR (some 146)), some (vI x1), some (vI x2), some (vI xs0), some (vI x4), none] dX12_helped_83 rfl (Nat.le_of_ble_eq_true rfl) rfl rfl ?_
  refine J_iinc (v := x4 + nI 1) [some (vR (some 146)), some (vI x1), some (vI x2), some (vI xs0), some (vI (x4 + nI 1)), none] dX12_helped_84 rfl rfl (Nat.le_of_ble_eq_true rfl) rfl rfl ?_
  refine J_goto (tgt := 54) dX12_helped_87 (by decide) ?_
  exact J_sb (hk54 xs0 (x4 + nI 1) S) (And.intro rfl (And.intro rfl (And.intro rfl (And.intro rfl (And.intro rfl (trivial))))))
set_option maxRecDepth 100000 in
set_option maxHeartbeats 4000000 in
theorem t12_helped_j78 (G : Gm) (t : Nat) (N : Nat) (x1 : Int32) (x2 : Int32) (x4 : Int32)  (k40 : Int32 → St → Option (Int32 × St)) (k54 : Int32 → Int32 → St → Option (Int32 × St)) (hk40 : ∀ (yx2 : Int32) (S : St), J G YX12_helped 4 0 0 (fI t) 0 0 40 [some (vR (some 146)), some (vI x1), some (vI yx2), none, none, none] [] (MM t S) (k40 yx2 S)) (hk54 : ∀ (yx3 : Int32) (yx4 : Int32) (S : St), J G YX12_helped 4 0 0 (fI t) 0 0 54 [some (vR (some 146)), some (vI x1), some (vI x2), some (vI yx3), some (vI yx4), none] [] (MM t S) (k54 yx3 yx4 S)) : ∀  (S : St), J G YX12_helped 4 0 0 (fI t) 0 0 78 [some (vR (some 146)), some (vI x1), some (vI x2), none, some (vI x4), none] [] (MM t S) (f12_helped_j78 N x1 x2 x4 k40 k54 S) := by
  intro S
  unfold f12_helped_j78
  refine J_iconst (v := nI 1) dX12_helped_78 (by decide) ?_
  refine J_goto (tgt := 83) dX12_helped_79 (by decide) ?_
  exact J_sb (t12_helped_j83 G t N x1 x2 x4 k40 k54 hk40 hk54 (nI 1) S) (And.intro rfl (And.intro rfl (And.intro rfl (And.intro rfl (trivial)))))
set_option maxRecDepth 100000 in
set_option maxHeartbeats 4000000 in
theorem t12_helped_h54 (G : Gm) (t : Nat) (N : Nat) (x1 : Int32) (x2 : Int32)  (k40 : Int32 → St → Option (Int32 × St)) (hk40 : ∀ (yx2 : Int32) (S : St), J G YX12_helped 4 0 0 (fI t) 0 0 40 [some (vR (some 146)), some (vI x1), some (vI yx2), none, none, none] [] (MM t S) (k40 yx2 S)) : ∀ (n : Nat) (x3 : Int32) (x4 : Int32) (S : St), J G YX12_helped 4 0 0 (fI t) 0 0 54 [some (vR (some 146)), some (vI x1), some (vI x2), some (vI x3), some (vI x4), none] [] (MM t S) (f12_helped_h54 N x1 x2 k40 n x3 x4 S) := by
  intro n
  induction n with
  | zero => intro x3 x4 S; exact J_none
  | succ n ih =>
    intro x3 x4 S
    rw [f12_helped_h54]
    refine J_iload dX12_helped_54 rfl ?_
    refine J_aload_n dX12_helped_56 rfl rfl ?_
    refine K_getI cf12 flX12_128 (sq 146 rfl) (Or.inl rfl) dX12_helped_57 ?_
    refine J_icmp_ge (tgt := 90) dX12_helped_60 (by decide) (fun z1 => ?_) (fun z1 => ?_)
    · refine J_aload_n dX12_helped_90 rfl rfl ?_
      refine K_getR (r := some (147)) cf12 flX12_9 (sq 146 rfl) rfl (Or.inr ⟨_, rfl⟩) dX12_helped_91 ?_
      refine J_bipush (v := nI 12) dX12_helped_94 (by decide) ?_
      refine J_aload_n dX12_helped_96 rfl rfl ?_
      refine K_getI cf12 flX12_100 (sq 146 rfl) (Or.inl rfl) dX12_helped_97 ?_
      refine J_imul dX12_helped_100 ?_
      refine J_iload_n dX12_helped_101 rfl rfl ?_
      refine J_iadd dX12_helped_102 ?_
      refine K_iald (sq 147 rfl) dX12_helped_103 ?_
      refine J_ltI (fun v2 _ => ?_)
      refine J_istore [some (vR (some 146)), some (vI x1), some (vI x2), some (vI x3), some (vI v2), none] dX12_helped_104 (Nat.le_of_ble_eq_true rfl) rfl rfl ?_
      refine J_iload_n dX12_helped_106 rfl rfl ?_
      refine J_if_eq (tgt := 170) dX12_helped_107 (by decide) (fun z3 => ?_) (fun z3 => ?_)
      · refine J_iinc (v := x2 + nI 1) [some (vR (some 146)), some (vI x1), some (vI (x2 + nI 1)), some (vI x3), some (vI v2), none] dX12_helped_170 rfl rfl (Nat.le_of_ble_eq_true rfl) rfl rfl ?_
        refine J_goto (tgt := 40) dX12_helped_173 (by decide) ?_
        exact J_sb (hk40 (x2 + nI 1) S) (And.intro rfl (And.intro rfl (And.intro rfl (trivial))))
      · refine J_iload dX12_helped_110 rfl ?_
        refine J_iconst (v := nI 1) dX12_helped_112 (by decide) ?_
        refine J_icmp_le (tgt := 170) dX12_helped_113 (by decide) (fun z4 => ?_) (fun z4 => ?_)
        · refine J_iinc (v := x2 + nI 1) [some (vR (some 146)), some (vI x1), some (vI (x2 + nI 1)), some (vI x3), some (vI v2), none] dX12_helped_170 rfl rfl (Nat.le_of_ble_eq_true rfl) rfl rfl ?_
          refine J_goto (tgt := 40) dX12_helped_173 (by decide) ?_
          exact J_sb (hk40 (x2 + nI 1) S) (And.intro rfl (And.intro rfl (And.intro rfl (trivial))))
        · refine J_bipush (v := nI 64) dX12_helped_116 (by decide) ?_
          refine J_iload dX12_helped_118 rfl ?_
          refine J_iconst (v := nI 1) dX12_helped_120 (by decide) ?_
          refine J_isub dX12_helped_121 ?_
          refine J_ishr dX12_helped_122 ?_
          refine J_bipush (v := nI 64) dX12_helped_123 (by decide) ?_
          refine J_iload dX12_helped_125 rfl ?_
          refine J_ishr dX12_helped_127 ?_
          refine J_isub dX12_helped_128 ?_
          refine J_ltI (fun v5 _ => ?_)
          refine J_istore [some (vR (some 146)), some (vI x1), some (vI x2), some (vI x3), some (vI v2), some (vI v5)] dX12_helped_129 (Nat.le_of_ble_eq_true rfl) rfl rfl ?_
          refine J_aload_n dX12_helped_131 rfl rfl ?_
          refine K_getR (r := some (147)) cf12 flX12_9 (sq 146 rfl) rfl (Or.inr ⟨_, rfl⟩) dX12_helped_132 ?_
          refine J_bipush (v := nI 12) dX12_helped_135 (by decide) ?_
          refine J_aload_n dX12_helped_137 rfl rfl ?_
          refine K_getI cf12 flX12_100 (sq 146 rfl) (Or.inl rfl) dX12_helped_138 ?_
          refine J_imul dX12_helped_141 ?_
          refine J_iload_n dX12_helped_142 rfl rfl ?_
          refine J_iadd dX12_helped_143 ?_
          refine J_aload_n dX12_helped_144 rfl rfl ?_
          refine J_aload_n dX12_helped_145 rfl rfl ?_
          refine K_getI cf12 flX12_100 (sq 146 rfl) (Or.inl rfl) dX12_helped_146 ?_
          refine K_callV_i (As := [vI (S.1 146 6)]) mcX12_sumOf mlX12_121 rfl (by decide) (sq 146 rfl) (ct12_sumOf G t N (S.1 146 6) S) rfl rfl (Nat.le_of_ble_eq_true rfl) (by decide) (Nat.le_of_ble_eq_true rfl) dX12_helped_149 (fun q6 S7 => ?_)
          refine J_iload dX12_helped_152 rfl ?_
          refine J_iadd dX12_helped_154 ?_
          refine J_bipush (v := nI 64) dX12_helped_155 (by decide) ?_
          refine J_icmp_gt (tgt := 167) dX12_helped_157 (by decide) (fun z8 => ?_) (fun z8 => ?_)
          · refine J_iload dX12_helped_167 rfl ?_
            exact J_sb (t12_helped_j169 G t N x1 x2 k40 hk40 v2 (((nI 12) * (S.1 146 6)) + x2) S7) (And.intro rfl (And.intro rfl (And.intro rfl (trivial))))
          · refine J_iload dX12_helped_160 rfl ?_
            refine J_iconst (v := nI 1) dX12_helped_162 (by decide) ?_
            refine J_isub dX12_helped_163 ?_
            refine J_goto (tgt := 169) dX12_helped_164 (by decide) ?_
            exact J_sb (t12_helped_j169 G t N x1 x2 k40 hk40 (v2 - (nI 1)) (((nI 12) * (S.1 146 6)) + x2) S7) (And.intro rfl (And.intro rfl (And.intro rfl (trivial))))
    · refine J_iload_n dX12_helped_63 rfl rfl ?_
      refine J_if_ne (tgt := 78) dX12_helped_64 (by decide) (fun z9 => ?_) (fun z9 => ?_)
      · refine J_aload_n dX12_helped_67 rfl rfl ?_
        refine K_getR (r := some (153)) cf12 flX12_28 (sq 146 rfl) rfl (Or.inr ⟨_, rfl⟩) dX12_helped_68 ?_
        refine J_iload dX12_helped_71 rfl ?_
        refine K_iald (sq 153 rfl) dX12_helped_73 ?_
        refine J_iload_n dX12_helped_74 rfl rfl ?_
        refine J_icmp_ne (tgt := 82) dX12_helped_75 (by decide) (fun z10 => ?_) (fun z10 => ?_)
        · exact J_sb (t12_helped_j78 G t N x1 x2 x4 k40 (f12_helped_h54 N x1 x2 k40 n) hk40 ih S) (And.intro rfl (And.intro rfl (And.intro rfl (And.intro rfl (trivial)))))
        · refine J_iconst (v := nI 0) dX12_helped_82 (by decide) ?_
          exact J_sb (t12_helped_j83 G t N x1 x2 x4 k40 (f12_helped_h54 N x1 x2 k40 n) hk40 ih (nI 0) S) (And.intro rfl (And.intro rfl (And.intro rfl (And.intro rfl (trivial)))))
      · exact J_sb (t12_helped_j78 G t N x1 x2 x4 k40 (f12_helped_h54 N x1 x2 k40 n) hk40 ih S) (And.intro rfl (And.intro rfl (And.intro rfl (And.intro rfl (trivial)))))
set_option maxRecDepth 100000 in
set_option maxHeartbeats 4000000 in
theorem t12_helped_h40 (G : Gm) (t : Nat) (N : Nat) (x1 : Int32)    : ∀ (n : Nat) (x2 : Int32) (S : St), J G YX12_helped 4 0 0 (fI t) 0 0 40 [some (vR (some 146)), some (vI x1), some (vI x2), none, none, none] [] (MM t S) (f12_helped_h40 N x1 n x2 S) := by
  intro n
  induction n with
  | zero => intro x2 S; exact J_none
  | succ n ih =>
    intro x2 S
    rw [f12_helped_h40]
    refine J_iload_n dX12_helped_40 rfl rfl ?_
    refine J_aload_n dX12_helped_41 rfl rfl ?_
    refine J_iload_n dX12_helped_42 rfl rfl ?_
    refine K_callV_i (As := [vI x1]) mcX12_ordersOf mlX12_103 rfl (by decide) (sq 146 rfl) (ct12_ordersOf G t x1 S) rfl rfl (Nat.le_of_ble_eq_true rfl) (by decide) (Nat.le_of_ble_eq_true rfl) dX12_helped_43 (fun q1 S2 => ?_)
    refine J_icmp_ge (tgt := 176) dX12_helped_46 (by decide) (fun z3 => ?_) (fun z3 => ?_)
    · refine J_aload_n dX12_helped_176 rfl rfl ?_
      refine J_aload_n dX12_helped_177 rfl rfl ?_
      refine K_getI cf12 flX12_100 (sq 146 rfl) (Or.inl rfl) dX12_helped_178 ?_
      refine K_callV_v (As := [vI (S2.1 146 6)]) mcX12_giveCodes mlX12_113 rfl (by decide) (sq 146 rfl) (ct12_giveCodes G t N (S2.1 146 6) S2) rfl rfl (Nat.le_of_ble_eq_true rfl) (by decide) (Nat.le_of_ble_eq_true rfl) dX12_helped_181 (fun q4 S5 => ?_)
      refine J_aload_n dX12_helped_184 rfl rfl ?_
      refine J_dup dX12_helped_185 rfl ?_
      refine K_getI cf12 flX12_100 (sq 146 rfl) (Or.inl rfl) dX12_helped_186 ?_
      refine J_iconst (v := nI 1) dX12_helped_189 (by decide) ?_
      refine J_iadd dX12_helped_190 ?_
      refine K_putI cf12 flX12_100 (sq 146 rfl) rfl dX12_helped_191 ?_
      refine J_ltS (fun S6 _ => ?_)
      refine J_aload_n dX12_helped_194 rfl rfl ?_
      refine K_getI cf12 flX12_100 (sq 146 rfl) (Or.inl rfl) dX12_helped_195 ?_
      refine J_iconst (v := nI 1) dX12_helped_198 (by decide) ?_
      refine J_isub dX12_helped_199 ?_
      exact J_ireturn rfl (Nat.le_refl _) (Nat.le_refl _) rfl dX12_helped_200
    · refine J_iconst (v := nI 0) dX12_helped_49 (by decide) ?_
      refine J_istore_n [some (vR (some 146)), some (vI x1), some (vI x2), some (vI (nI 0)), none, none] dX12_helped_50 rfl (Nat.le_of_ble_eq_true rfl) rfl rfl ?_
      refine J_iconst (v := nI 0) dX12_helped_51 (by decide) ?_
      refine J_istore [some (vR (some 146)), some (vI x1), some (vI x2), some (vI (nI 0)), some (vI (nI 0)), none] dX12_helped_52 (Nat.le_of_ble_eq_true rfl) rfl rfl ?_
      exact J_sb (t12_helped_h54 G t N x1 x2 (f12_helped_h40 N x1 n) ih N (nI 0) (nI 0) S2) (And.intro rfl (And.intro rfl (And.intro rfl (And.intro rfl (And.intro rfl (trivial))))))
set_option maxRecDepth 100000 in
set_option maxHeartbeats 4000000 in
theorem ct12_helped (G : Gm) (t : Nat) (N : Nat) (x1 : Int32)  (S : St) : Ct G YX12_helped yX12_helped 4 0 0 (fI t) (f12_helped N x1 S) [vR (some 146), vI x1] (MM t S) := by
  refine Ct_of_J [some (vR (some 146)), some (vI x1), none, none, none, none] (by decide) rfl (fun h => by cases h) (Nat.le_of_ble_eq_true rfl) (And.intro rfl (And.intro rfl (trivial))) ?_
  unfold f12_helped
  refine J_aload_n dX12_helped_0 rfl rfl ?_
  refine J_iload_n dX12_helped_1 rfl rfl ?_
  refine K_callV_i (As := [vI x1]) mcX12_isLanguage mlX12_117 rfl (by decide) (sq 146 rfl) (ct12_isLanguage G t x1 S) rfl rfl (Nat.le_of_ble_eq_true rfl) (by decide) (Nat.le_of_ble_eq_true rfl) dX12_helped_2 (fun q1 S2 => ?_)
  refine J_if_ne (tgt := 10) dX12_helped_5 (by decide) (fun z3 => ?_) (fun z3 => ?_)
  · refine J_iconst (v := (-1)) dX12_helped_8 (by decide) ?_
    exact J_ireturn rfl (Nat.le_refl _) (Nat.le_refl _) rfl dX12_helped_9
  · refine J_aload_n dX12_helped_10 rfl rfl ?_
    refine J_iload_n dX12_helped_11 rfl rfl ?_
    refine K_callV_i (As := [vI x1]) mcX12_isProgram mlX12_133 rfl (by decide) (sq 146 rfl) (ct12_isProgram G t N x1 S2) rfl rfl (Nat.le_of_ble_eq_true rfl) (by decide) (Nat.le_of_ble_eq_true rfl) dX12_helped_12 (fun q4 S5 => ?_)
    refine J_if_ne (tgt := 21) dX12_helped_15 (by decide) (fun z6 => ?_) (fun z6 => ?_)
    · refine J_bipush (v := (-5)) dX12_helped_18 (by decide) ?_
      exact J_ireturn rfl (Nat.le_refl _) (Nat.le_refl _) rfl dX12_helped_20
    · refine J_aload_n dX12_helped_21 rfl rfl ?_
      refine K_getI cf12 flX12_100 (sq 146 rfl) (Or.inl rfl) dX12_helped_22 ?_
      refine J_bipush (v := nI 6) dX12_helped_25 (by decide) ?_
      refine J_icmp_ne (tgt := 33) dX12_helped_27 (by decide) (fun z7 => ?_) (fun z7 => ?_)
      · refine J_bipush (v := (-3)) dX12_helped_30 (by decide) ?_
        exact J_ireturn rfl (Nat.le_refl _) (Nat.le_refl _) rfl dX12_helped_32
      · refine J_aload_n dX12_helped_33 rfl rfl ?_
        refine J_iload_n dX12_helped_34 rfl rfl ?_
        refine K_callV_v (As := [vI x1]) mcX12_copy mlX12_335 rfl (by decide) (sq 146 rfl) (ct12_copy G t N x1 S5) rfl rfl (Nat.le_of_ble_eq_true rfl) (by decide) (Nat.le_of_ble_eq_true rfl) dX12_helped_35 (fun q8 S9 => ?_)
        refine J_iconst (v := nI 0) dX12_helped_38 (by decide) ?_
        refine J_istore_n [some (vR (some 146)), some (vI x1), some (vI (nI 0)), none, none, none] dX12_helped_39 rfl (Nat.le_of_ble_eq_true rfl) rfl rfl ?_
        exact J_sb (t12_helped_h40 G t N x1 N (nI 0) S9) (And.intro rfl (And.intro rfl (And.intro rfl (trivial))))
