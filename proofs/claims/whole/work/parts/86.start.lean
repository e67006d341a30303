/-! The constructor of AllPrograms, statement by statement. -/
abbrev YX11_init : MD := (RX11, cX11_init, 2, none, true)
set_option maxRecDepth 100000 in
theorem mcX11_init : MC yX11_init YX11_init 0 := ⟨rfl, ⟨by decide, by decide, by decide +kernel⟩, in1 1 (by rfl) rfl, in1 21 (by rfl) rfl⟩
set_option maxRecDepth 100000 in
theorem miX11_init : Cond.instanceMethod yX11_init ∈ TT := in1 20 (by rfl) rfl
theorem dX11_init_0 : decode cX11_init 0 = .ok (.aload_n 0, 1) := by decide +kernel
theorem dX11_init_1 : decode cX11_init 1 = .ok (.invokespecial 1, 3) := by decide +kernel
theorem dX11_init_4 : decode cX11_init 4 = .ok (.aload_n 0, 1) := by decide +kernel
theorem dX11_init_5 : decode cX11_init 5 = .ok (.bipush 6, 2) := by decide +kernel
theorem dX11_init_7 : decode cX11_init 7 = .ok (.anewarray 9, 3) := by decide +kernel
theorem dX11_init_10 : decode cX11_init 10 = .ok (.putfield 11, 3) := by decide +kernel
theorem dX11_init_13 : decode cX11_init 13 = .ok (.aload_n 0, 1) := by decide +kernel
theorem dX11_init_14 : decode cX11_init 14 = .ok (.iconst 0, 1) := by decide +kernel
theorem dX11_init_15 : decode cX11_init 15 = .ok (.putfield 15, 3) := by decide +kernel
theorem dX11_init_18 : decode cX11_init 18 = .ok (.aload_n 0, 1) := by decide +kernel
theorem dX11_init_19 : decode cX11_init 19 = .ok (.new 19, 3) := by decide +kernel
theorem dX11_init_22 : decode cX11_init 22 = .ok (.dup, 1) := by decide +kernel
theorem dX11_init_23 : decode cX11_init 23 = .ok (.invokespecial 21, 3) := by decide +kernel
theorem dX11_init_26 : decode cX11_init 26 = .ok (.putfield 22, 3) := by decide +kernel
theorem dX11_init_29 : decode cX11_init 29 = .ok (.aload_n 0, 1) := by decide +kernel
theorem dX11_init_30 : decode cX11_init 30 = .ok (.new 19, 3) := by decide +kernel
theorem dX11_init_33 : decode cX11_init 33 = .ok (.dup, 1) := by decide +kernel
theorem dX11_init_34 : decode cX11_init 34 = .ok (.invokespecial 21, 3) := by decide +kernel
theorem dX11_init_37 : decode cX11_init 37 = .ok (.putfield 26, 3) := by decide +kernel
theorem dX11_init_40 : decode cX11_init 40 = .ok (.aload_n 0, 1) := by decide +kernel
theorem dX11_init_41 : decode cX11_init 41 = .ok (.new 29, 3) := by decide +kernel
theorem dX11_init_44 : decode cX11_init 44 = .ok (.dup, 1) := by decide +kernel
theorem dX11_init_45 : decode cX11_init 45 = .ok (.invokespecial 31, 3) := by decide +kernel
theorem dX11_init_48 : decode cX11_init 48 = .ok (.putfield 32, 3) := by decide +kernel
theorem dX11_init_51 : decode cX11_init 51 = .ok (.aload_n 0, 1) := by decide +kernel
theorem dX11_init_52 : decode cX11_init 52 = .ok (.bipush 12, 2) := by decide +kernel
theorem dX11_init_54 : decode cX11_init 54 = .ok (.newarray .int, 2) := by decide +kernel
theorem dX11_init_56 : decode cX11_init 56 = .ok (.putfield 36, 3) := by decide +kernel
theorem dX11_init_59 : decode cX11_init 59 = .ok (.aload_n 0, 1) := by decide +kernel
theorem dX11_init_60 : decode cX11_init 60 = .ok (.iconst 0, 1) := by decide +kernel
theorem dX11_init_61 : decode cX11_init 61 = .ok (.putfield 40, 3) := by decide +kernel
theorem dX11_init_64 : decode cX11_init 64 = .ok (.aload_n 0, 1) := by decide +kernel
theorem dX11_init_65 : decode cX11_init 65 = .ok (.new 44, 3) := by decide +kernel
theorem dX11_init_68 : decode cX11_init 68 = .ok (.dup, 1) := by decide +kernel
theorem dX11_init_69 : decode cX11_init 69 = .ok (.invokespecial 46, 3) := by decide +kernel
theorem dX11_init_72 : decode cX11_init 72 = .ok (.putfield 47, 3) := by decide +kernel
theorem dX11_init_75 : decode cX11_init 75 = .ok (.aload_n 0, 1) := by decide +kernel
theorem dX11_init_76 : decode cX11_init 76 = .ok (.bipush 10, 2) := by decide +kernel
theorem dX11_init_78 : decode cX11_init 78 = .ok (.anewarray 51, 3) := by decide +kernel
theorem dX11_init_81 : decode cX11_init 81 = .ok (.putfield 53, 3) := by decide +kernel
theorem dX11_init_84 : decode cX11_init 84 = .ok (.aload_n 0, 1) := by decide +kernel
theorem dX11_init_85 : decode cX11_init 85 = .ok (.iconst 0, 1) := by decide +kernel
theorem dX11_init_86 : decode cX11_init 86 = .ok (.putfield 57, 3) := by decide +kernel
theorem dX11_init_89 : decode cX11_init 89 = .ok (.aload_n 0, 1) := by decide +kernel
theorem dX11_init_90 : decode cX11_init 90 = .ok (.new 60, 3) := by decide +kernel
theorem dX11_init_93 : decode cX11_init 93 = .ok (.dup, 1) := by decide +kernel
theorem dX11_init_94 : decode cX11_init 94 = .ok (.invokespecial 62, 3) := by decide +kernel
theorem dX11_init_97 : decode cX11_init 97 = .ok (.putfield 63, 3) := by decide +kernel
theorem dX11_init_100 : decode cX11_init 100 = .ok (.aload_n 0, 1) := by decide +kernel
theorem dX11_init_101 : decode cX11_init 101 = .ok (.new 60, 3) := by decide +kernel
theorem dX11_init_104 : decode cX11_init 104 = .ok (.dup, 1) := by decide +kernel
theorem dX11_init_105 : decode cX11_init 105 = .ok (.invokespecial 62, 3) := by decide +kernel
theorem dX11_init_108 : decode cX11_init 108 = .ok (.putfield 67, 3) := by decide +kernel
theorem dX11_init_111 : decode cX11_init 111 = .ok (.aload_n 0, 1) := by decide +kernel
theorem dX11_init_112 : decode cX11_init 112 = .ok (.iconst 0, 1) := by decide +kernel
theorem dX11_init_113 : decode cX11_init 113 = .ok (.putfield 70, 3) := by decide +kernel
theorem dX11_init_116 : decode cX11_init 116 = .ok (.aload_n 0, 1) := by decide +kernel
theorem dX11_init_117 : decode cX11_init 117 = .ok (.new 73, 3) := by decide +kernel
theorem dX11_init_120 : decode cX11_init 120 = .ok (.dup, 1) := by decide +kernel
theorem dX11_init_121 : decode cX11_init 121 = .ok (.invokespecial 75, 3) := by decide +kernel
theorem dX11_init_124 : decode cX11_init 124 = .ok (.putfield 76, 3) := by decide +kernel
theorem dX11_init_127 : decode cX11_init 127 = .ok (.aload_n 0, 1) := by decide +kernel
theorem dX11_init_128 : decode cX11_init 128 = .ok (.new 80, 3) := by decide +kernel
theorem dX11_init_131 : decode cX11_init 131 = .ok (.dup, 1) := by decide +kernel
theorem dX11_init_132 : decode cX11_init 132 = .ok (.invokespecial 82, 3) := by decide +kernel
theorem dX11_init_135 : decode cX11_init 135 = .ok (.putfield 83, 3) := by decide +kernel
theorem dX11_init_138 : decode cX11_init 138 = .ok (.aload_n 0, 1) := by decide +kernel
theorem dX11_init_139 : decode cX11_init 139 = .ok (.new 87, 3) := by decide +kernel
theorem dX11_init_142 : decode cX11_init 142 = .ok (.dup, 1) := by decide +kernel
theorem dX11_init_143 : decode cX11_init 143 = .ok (.invokespecial 89, 3) := by decide +kernel
theorem dX11_init_146 : decode cX11_init 146 = .ok (.putfield 90, 3) := by decide +kernel
theorem dX11_init_149 : decode cX11_init 149 = .ok (.aload_n 0, 1) := by decide +kernel
theorem dX11_init_150 : decode cX11_init 150 = .ok (.new 94, 3) := by decide +kernel
theorem dX11_init_153 : decode cX11_init 153 = .ok (.dup, 1) := by decide +kernel
theorem dX11_init_154 : decode cX11_init 154 = .ok (.invokespecial 96, 3) := by decide +kernel
theorem dX11_init_157 : decode cX11_init 157 = .ok (.putfield 97, 3) := by decide +kernel
theorem dX11_init_160 : decode cX11_init 160 = .ok (.aload_n 0, 1) := by decide +kernel
theorem dX11_init_161 : decode cX11_init 161 = .ok (.new 101, 3) := by decide +kernel
theorem dX11_init_164 : decode cX11_init 164 = .ok (.dup, 1) := by decide +kernel
theorem dX11_init_165 : decode cX11_init 165 = .ok (.invokespecial 103, 3) := by decide +kernel
theorem dX11_init_168 : decode cX11_init 168 = .ok (.putfield 104, 3) := by decide +kernel
theorem dX11_init_171 : decode cX11_init 171 = .ok (.iconst 0, 1) := by decide +kernel
theorem dX11_init_172 : decode cX11_init 172 = .ok (.istore_n 1, 1) := by decide +kernel
theorem dX11_init_173 : decode cX11_init 173 = .ok (.iload_n 1, 1) := by decide +kernel
theorem dX11_init_174 : decode cX11_init 174 = .ok (.bipush 6, 2) := by decide +kernel
theorem dX11_init_176 : decode cX11_init 176 = .ok (.if_icmp .ge 22, 3) := by decide +kernel
theorem dX11_init_179 : decode cX11_init 179 = .ok (.aload_n 0, 1) := by decide +kernel
theorem dX11_init_180 : decode cX11_init 180 = .ok (.getfield 11, 3) := by decide +kernel
theorem dX11_init_183 : decode cX11_init 183 = .ok (.iload_n 1, 1) := by decide +kernel
theorem dX11_init_184 : decode cX11_init 184 = .ok (.new 9, 3) := by decide +kernel
theorem dX11_init_187 : decode cX11_init 187 = .ok (.dup, 1) := by decide +kernel
theorem dX11_init_188 : decode cX11_init 188 = .ok (.invokespecial 108, 3) := by decide +kernel
theorem dX11_init_191 : decode cX11_init 191 = .ok (.aastore, 1) := by decide +kernel
theorem dX11_init_192 : decode cX11_init 192 = .ok (.iinc 1 1, 3) := by decide +kernel
theorem dX11_init_195 : decode cX11_init 195 = .ok (.goto (-22), 3) := by decide +kernel
theorem dX11_init_198 : decode cX11_init 198 = .ok (.iconst 0, 1) := by decide +kernel
theorem dX11_init_199 : decode cX11_init 199 = .ok (.istore_n 1, 1) := by decide +kernel
theorem dX11_init_200 : decode cX11_init 200 = .ok (.iload_n 1, 1) := by decide +kernel
theorem dX11_init_201 : decode cX11_init 201 = .ok (.bipush 10, 2) := by decide +kernel
theorem dX11_init_203 : decode cX11_init 203 = .ok (.if_icmp .ge 22, 3) := by decide +kernel
theorem dX11_init_206 : decode cX11_init 206 = .ok (.aload_n 0, 1) := by decide +kernel
theorem dX11_init_207 : decode cX11_init 207 = .ok (.getfield 53, 3) := by decide +kernel
theorem dX11_init_210 : decode cX11_init 210 = .ok (.iload_n 1, 1) := by decide +kernel
theorem dX11_init_211 : decode cX11_init 211 = .ok (.new 51, 3) := by decide +kernel
theorem dX11_init_214 : decode cX11_init 214 = .ok (.dup, 1) := by decide +kernel
theorem dX11_init_215 : decode cX11_init 215 = .ok (.invokespecial 109, 3) := by decide +kernel
theorem dX11_init_218 : decode cX11_init 218 = .ok (.aastore, 1) := by decide +kernel
theorem dX11_init_219 : decode cX11_init 219 = .ok (.iinc 1 1, 3) := by decide +kernel
theorem dX11_init_222 : decode cX11_init 222 = .ok (.goto (-22), 3) := by decide +kernel
theorem dX11_init_225 : decode cX11_init 225 = .ok (.return_, 1) := by decide +kernel
set_option maxRecDepth 100000 in
theorem klX11_11 : FL RX11 11 11 0 true := ⟨_, rfl, by decide, in2 71 (by rfl) rfl, rfl, rfl⟩
set_option maxRecDepth 100000 in
theorem klX11_15 : FL RX11 15 11 1 false := ⟨_, rfl, by decide, in2 72 (by rfl) rfl, rfl, rfl⟩
set_option maxRecDepth 100000 in
theorem klX11_22 : FL RX11 22 11 2 true := ⟨_, rfl, by decide, in2 73 (by rfl) rfl, rfl, rfl⟩
set_option maxRecDepth 100000 in
theorem klX11_26 : FL RX11 26 11 3 true := ⟨_, rfl, by decide, in2 74 (by rfl) rfl, rfl, rfl⟩
set_option maxRecDepth 100000 in
theorem klX11_32 : FL RX11 32 11 4 true := ⟨_, rfl, by decide, in2 75 (by rfl) rfl, rfl, rfl⟩
set_option maxRecDepth 100000 in
theorem klX11_36 : FL RX11 36 11 5 true := ⟨_, rfl, by decide, in2 76 (by rfl) rfl, rfl, rfl⟩
set_option maxRecDepth 100000 in
theorem klX11_40 : FL RX11 40 11 6 false := ⟨_, rfl, by decide, in2 77 (by rfl) rfl, rfl, rfl⟩
set_option maxRecDepth 100000 in
theorem klX11_47 : FL RX11 47 11 7 true := ⟨_, rfl, by decide, in2 78 (by rfl) rfl, rfl, rfl⟩
set_option maxRecDepth 100000 in
theorem klX11_53 : FL RX11 53 11 8 true := ⟨_, rfl, by decide, in2 79 (by rfl) rfl, rfl, rfl⟩
set_option maxRecDepth 100000 in
theorem klX11_57 : FL RX11 57 11 9 false := ⟨_, rfl, by decide, in2 80 (by rfl) rfl, rfl, rfl⟩
set_option maxRecDepth 100000 in
theorem klX11_63 : FL RX11 63 11 10 true := ⟨_, rfl, by decide, in2 81 (by rfl) rfl, rfl, rfl⟩
set_option maxRecDepth 100000 in
theorem klX11_67 : FL RX11 67 11 11 true := ⟨_, rfl, by decide, in2 82 (by rfl) rfl, rfl, rfl⟩
set_option maxRecDepth 100000 in
theorem klX11_70 : FL RX11 70 11 12 false := ⟨_, rfl, by decide, in2 83 (by rfl) rfl, rfl, rfl⟩
set_option maxRecDepth 100000 in
theorem klX11_76 : FL RX11 76 11 13 true := ⟨_, rfl, by decide, in2 84 (by rfl) rfl, rfl, rfl⟩
set_option maxRecDepth 100000 in
theorem klX11_83 : FL RX11 83 11 14 true := ⟨_, rfl, by decide, in2 85 (by rfl) rfl, rfl, rfl⟩
set_option maxRecDepth 100000 in
theorem klX11_90 : FL RX11 90 11 15 true := ⟨_, rfl, by decide, in2 86 (by rfl) rfl, rfl, rfl⟩
set_option maxRecDepth 100000 in
theorem klX11_97 : FL RX11 97 11 16 true := ⟨_, rfl, by decide, in2 87 (by rfl) rfl, rfl, rfl⟩
set_option maxRecDepth 100000 in
theorem klX11_104 : FL RX11 104 11 17 true := ⟨_, rfl, by decide, in2 88 (by rfl) rfl, rfl, rfl⟩
def m0 : Hm := ([(11, nF 11)], fun _ _ => none, (fun _ _ => 0, fun _ _ => 0))
def m1 : Hm := (m0.1 ++ [(17, 6)], upR (m0.2.1) 0 0 (some 1), m0.2.2)
def m2 : Hm := (m1.1, m1.2.1, wI (m1.2.2) 0 1 (0))
def m3 : Hm := (m2.1 ++ [(6, nF 6)] ++ [(13, 12)], upR (upR (m2.2.1) (2) 0 (some (3))) 0 2 (some 2), wI (m2.2.2) (2) 1 (0))
def m4 : Hm := (m3.1 ++ [(6, nF 6)] ++ [(13, 12)], upR (upR (m3.2.1) (4) 0 (some (5))) 0 3 (some 4), wI (m3.2.2) (4) 1 (0))
def m5 : Hm := (m4.1 ++ [(4, nF 4)] ++ [(13, 48)] ++ [(13, 8)] ++ [(13, 20000)], upR (upR (upR (upR (m4.2.1) (6) 0 (some (7))) (6) 7 (some (8))) (6) 9 (some (9))) 0 4 (some 6), wI (wI (wI (wI (wI (wI (wI (wI (m4.2.2) (6) 1 (0)) (6) 2 (0)) (6) 3 (0)) (6) 4 (0)) (6) 5 (0)) (6) 6 (2)) (6) 8 (0)) (6) 10 (0))
def m6 : Hm := (m5.1 ++ [(13, 12)], upR (m5.2.1) 0 5 (some 10), m5.2.2)
def m7 : Hm := (m6.1, m6.2.1, wI (m6.2.2) 0 6 (0))
def m8 : Hm := (m7.1 ++ [(9, nF 9)] ++ [(13, 60)], upR (upR (m7.2.1) (11) 0 (some (12))) 0 7 (some 11), wI (wI (wI (m7.2.2) (11) 1 (0)) (11) 2 (0)) (11) 3 (-1))
def m9 : Hm := (m8.1 ++ [(16, 10)], upR (m8.2.1) 0 8 (some 13), m8.2.2)
def m10 : Hm := (m9.1, m9.2.1, wI (m9.2.2) 0 9 (0))
def m11 : Hm := (m10.1 ++ [(7, nF 7)] ++ [(6, nF 6)] ++ [(13, 12)] ++ [(6, nF 6)] ++ [(13, 12)], upR (upR (upR (upR (upR (m10.2.1) (15) 0 (some (16))) (14) 0 (some (15))) (17) 0 (some (18))) (14) 1 (some (17))) 0 10 (some 14), wI (wI (wI (wI (wI (wI (wI (wI (wI (m10.2.2) (15) 1 (0)) (17) 1 (0)) (14) 2 (0)) (14) 3 (0)) (14) 4 (0)) (14) 5 (0)) (14) 6 (0)) (14) 7 (0)) (14) 8 (0))
def m12 : Hm := (m11.1 ++ [(7, nF 7)] ++ [(6, nF 6)] ++ [(13, 12)] ++ [(6, nF 6)] ++ [(13, 12)], upR (upR (upR (upR (upR (m11.2.1) (20) 0 (some (21))) (19) 0 (some (20))) (22) 0 (some (23))) (19) 1 (some (22))) 0 11 (some 19), wI (wI (wI (wI (wI (wI (wI (wI (wI (m11.2.2) (20) 1 (0)) (22) 1 (0)) (19) 2 (0)) (19) 3 (0)) (19) 4 (0)) (19) 5 (0)) (19) 6 (0)) (19) 7 (0)) (19) 8 (0))
def m13 : Hm := (m12.1, m12.2.1, wI (m12.2.2) 0 12 (0))
def m14 : Hm := (m13.1 ++ [(10, nF 10)] ++ [(13, 8)], upR (upR (m13.2.1) (24) 0 (some (25))) 0 13 (some 24), wI (m13.2.2) (24) 1 (0))
def m15 : Hm := (m14.1 ++ [(5, nF 5)] ++ [(6, nF 6)] ++ [(13, 12)] ++ [(6, nF 6)] ++ [(13, 12)] ++ [(13, 1000)], upR (upR (upR (upR (upR (upR (m14.2.1) (27) 0 (some (28))) (26) 0 (some (27))) (29) 0 (some (30))) (26) 1 (some (29))) (26) 2 (some (31))) 0 14 (some 26), wI (wI (wI (wI (wI (wI (m14.2.2) (27) 1 (0)) (29) 1 (0)) (26) 3 (0)) (26) 4 (0)) (26) 5 (0)) (26) 6 (0))
def m16 : Hm := (m15.1 ++ [(2, nF 2)] ++ [(6, nF 6)] ++ [(13, 12)] ++ [(6, nF 6)] ++ [(13, 12)], upR (upR (upR (upR (upR (m15.2.1) (33) 0 (some (34))) (32) 0 (some (33))) (35) 0 (some (36))) (32) 1 (some (35))) 0 15 (some 32), wI (wI (wI (wI (wI (wI (wI (wI (m15.2.2) (33) 1 (0)) (35) 1 (0)) (32) 2 (0)) (32) 3 (0)) (32) 4 (0)) (32) 5 (0)) (32) 6 (0)) (32) 7 (0))
def m17 : Hm := (m16.1 ++ [(0, nF 0)] ++ [(13, 24)], upR (upR (m16.2.1) (37) 0 (some (38))) 0 16 (some 37), wI (wI (wI (wI (m16.2.2) (37) 1 (0)) (37) 2 (0)) (37) 3 (0)) (37) 4 (0))
def m18 : Hm := (m17.1 ++ [(8, nF 8)] ++ [(13, 6)] ++ [(13, 6)] ++ [(13, 6)] ++ ((19, 6) :: List.replicate 6 (14, 60)), upR (upR (rfM (upR (upR (upR (m17.2.1) (39) 0 (some (40))) (39) 1 (some (41))) (39) 2 (some (42))) (43) 6) (39) 3 (some (43))) 0 17 (some 39), fiI (m17.2.2) (40) 6 6)
def m19 : Hm := (m18.1 ++ [(3, nF 3)] ++ [(13, 12)] ++ [(13, 12)] ++ [(13, 12)] ++ ((18, 4) :: List.replicate 4 (13, 4)) ++ [(13, 4)] ++ [(13, 15)], upR (upR (upR (upR (rfM (upR (upR (upR (m18.2.1) (50) 1 (some (51))) (50) 2 (some (52))) (50) 3 (some (53))) (54) 4) (50) 4 (some (54))) (50) 5 (some (59))) (50) 6 (some (60))) 1 0 (some 50), wI (m18.2.2) (50) 0 (0))
def m20 : Hm := (m19.1 ++ [(3, nF 3)] ++ [(13, 12)] ++ [(13, 12)] ++ [(13, 12)] ++ ((18, 4) :: List.replicate 4 (13, 4)) ++ [(13, 4)] ++ [(13, 15)], upR (upR (upR (upR (rfM (upR (upR (upR (m19.2.1) (61) 1 (some (62))) (61) 2 (some (63))) (61) 3 (some (64))) (65) 4) (61) 4 (some (65))) (61) 5 (some (70))) (61) 6 (some (71))) 1 1 (some 61), wI (m19.2.2) (61) 0 (0))
def m21 : Hm := (m20.1 ++ [(3, nF 3)] ++ [(13, 12)] ++ [(13, 12)] ++ [(13, 12)] ++ ((18, 4) :: List.replicate 4 (13, 4)) ++ [(13, 4)] ++ [(13, 15)], upR (upR (upR (upR (rfM (upR (upR (upR (m20.2.1) (72) 1 (some (73))) (72) 2 (some (74))) (72) 3 (some (75))) (76) 4) (72) 4 (some (76))) (72) 5 (some (81))) (72) 6 (some (82))) 1 2 (some 72), wI (m20.2.2) (72) 0 (0))
def m22 : Hm := (m21.1 ++ [(3, nF 3)] ++ [(13, 12)] ++ [(13, 12)] ++ [(13, 12)] ++ ((18, 4) :: List.replicate 4 (13, 4)) ++ [(13, 4)] ++ [(13, 15)], upR (upR (upR (upR (rfM (upR (upR (upR (m21.2.1) (83) 1 (some (84))) (83) 2 (some (85))) (83) 3 (some (86))) (87) 4) (83) 4 (some (87))) (83) 5 (some (92))) (83) 6 (some (93))) 1 3 (some 83), wI (m21.2.2) (83) 0 (0))
def m23 : Hm := (m22.1 ++ [(3, nF 3)] ++ [(13, 12)] ++ [(13, 12)] ++ [(13, 12)] ++ ((18, 4) :: List.replicate 4 (13, 4)) ++ [(13, 4)] ++ [(13, 15)], upR (upR (upR (upR (rfM (upR (upR (upR (m22.2.1) (94) 1 (some (95))) (94) 2 (some (96))) (94) 3 (some (97))) (98) 4) (94) 4 (some (98))) (94) 5 (some (103))) (94) 6 (some (104))) 1 4 (some 94), wI (m22.2.2) (94) 0 (0))
def m24 : Hm := (m23.1 ++ [(3, nF 3)] ++ [(13, 12)] ++ [(13, 12)] ++ [(13, 12)] ++ ((18, 4) :: List.replicate 4 (13, 4)) ++ [(13, 4)] ++ [(13, 15)], upR (upR (upR (upR (rfM (upR (upR (upR (m23.2.1) (105) 1 (some (106))) (105) 2 (some (107))) (105) 3 (some (108))) (109) 4) (105) 4 (some (109))) (105) 5 (some (114))) (105) 6 (some (115))) 1 5 (some 105), wI (m23.2.2) (105) 0 (0))
def m25 : Hm := (m24.1 ++ [(1, nF 1)] ++ [(13, 60)] ++ [(13, 60)], upR (upR (upR (m24.2.1) (116) 0 (some (117))) (116) 3 (some (118))) 13 0 (some 116), wI (wI (wI (m24.2.2) (116) 1 (0)) (116) 2 (0)) (116) 4 (0))
def m26 : Hm := (m25.1 ++ [(1, nF 1)] ++ [(13, 60)] ++ [(13, 60)], upR (upR (upR (m25.2.1) (119) 0 (some (120))) (119) 3 (some (121))) 13 1 (some 119), wI (wI (wI (m25.2.2) (119) 1 (0)) (119) 2 (0)) (119) 4 (0))
def m27 : Hm := (m26.1 ++ [(1, nF 1)] ++ [(13, 60)] ++ [(13, 60)], upR (upR (upR (m26.2.1) (122) 0 (some (123))) (122) 3 (some (124))) 13 2 (some 122), wI (wI (wI (m26.2.2) (122) 1 (0)) (122) 2 (0)) (122) 4 (0))
def m28 : Hm := (m27.1 ++ [(1, nF 1)] ++ [(13, 60)] ++ [(13, 60)], upR (upR (upR (m27.2.1) (125) 0 (some (126))) (125) 3 (some (127))) 13 3 (some 125), wI (wI (wI (m27.2.2) (125) 1 (0)) (125) 2 (0)) (125) 4 (0))
def m29 : Hm := (m28.1 ++ [(1, nF 1)] ++ [(13, 60)] ++ [(13, 60)], upR (upR (upR (m28.2.1) (128) 0 (some (129))) (128) 3 (some (130))) 13 4 (some 128), wI (wI (wI (m28.2.2) (128) 1 (0)) (128) 2 (0)) (128) 4 (0))
def m30 : Hm := (m29.1 ++ [(1, nF 1)] ++ [(13, 60)] ++ [(13, 60)], upR (upR (upR (m29.2.1) (131) 0 (some (132))) (131) 3 (some (133))) 13 5 (some 131), wI (wI (wI (m29.2.2) (131) 1 (0)) (131) 2 (0)) (131) 4 (0))
def m31 : Hm := (m30.1 ++ [(1, nF 1)] ++ [(13, 60)] ++ [(13, 60)], upR (upR (upR (m30.2.1) (134) 0 (some (135))) (134) 3 (some (136))) 13 6 (some 134), wI (wI (wI (m30.2.2) (134) 1 (0)) (134) 2 (0)) (134) 4 (0))
def m32 : Hm := (m31.1 ++ [(1, nF 1)] ++ [(13, 60)] ++ [(13, 60)], upR (upR (upR (m31.2.1) (137) 0 (some (138))) (137) 3 (some (139))) 13 7 (some 137), wI (wI (wI (m31.2.2) (137) 1 (0)) (137) 2 (0)) (137) 4 (0))
def m33 : Hm := (m32.1 ++ [(1, nF 1)] ++ [(13, 60)] ++ [(13, 60)], upR (upR (upR (m32.2.1) (140) 0 (some (141))) (140) 3 (some (142))) 13 8 (some 140), wI (wI (wI (m32.2.2) (140) 1 (0)) (140) 2 (0)) (140) 4 (0))
def m34 : Hm := (m33.1 ++ [(1, nF 1)] ++ [(13, 60)] ++ [(13, 60)], upR (upR (upR (m33.2.1) (143) 0 (some (144))) (143) 3 (some (145))) 13 9 (some 143), wI (wI (wI (m33.2.2) (143) 1 (0)) (143) 2 (0)) (143) 4 (0))
theorem lm0 : m0.1.length = 1 := rfl
theorem gm0_0 : m0.1[0]? = some (11, nF 11) := rfl
theorem lm1 : m1.1.length = 2 := by
  show (m0.1 ++ [(17, 6)]).length = _
  simp [lm0]
theorem gm1_0 : m1.1[0]? = some (11, nF 11) := (ap_old gm0_0)
theorem gm1_1 : m1.1[1]? = some (17, 6) := ap_new lm0
theorem lm2 : m2.1.length = 2 := by
  show (m1.1).length = _
  simp [lm1]
theorem gm2_0 : m2.1[0]? = some (11, nF 11) := gm1_0
theorem gm2_1 : m2.1[1]? = some (17, 6) := gm1_1
theorem lm3 : m3.1.length = 4 := by
  show (m2.1 ++ [(6, nF 6)] ++ [(13, 12)]).length = _
  simp [lm2]
theorem gm3_0 : m3.1[0]? = some (11, nF 11) := (ap_old (ap_old gm2_0))
theorem gm3_1 : m3.1[1]? = some (17, 6) := (ap_old (ap_old gm2_1))
theorem lm4 : m4.1.length = 6 := by
  show (m3.1 ++ [(6, nF 6)] ++ [(13, 12)]).length = _
  simp [lm3]
theorem gm4_0 : m4.1[0]? = some (11, nF 11) := (ap_old (ap_old gm3_0))
theorem gm4_1 : m4.1[1]? = some (17, 6) := (ap_old (ap_old gm3_1))
theorem lm5 : m5.1.length = 10 := by
  show (m4.1 ++ [(4, nF 4)] ++ [(13, 48)] ++ [(13, 8)] ++ [(13, 20000)]).length = _
  simp [lm4]
theorem gm5_0 : m5.1[0]? = some (11, nF 11) := (ap_old (ap_old (ap_old (ap_old gm4_0))))
theorem gm5_1 : m5.1[1]? = some (17, 6) := (ap_old (ap_old (ap_old (ap_old gm4_1))))
theorem lm6 : m6.1.length = 11 := by
  show (m5.1 ++ [(13, 12)]).length = _
  simp [lm5]
theorem gm6_0 : m6.1[0]? = some (11, nF 11) := (ap_old gm5_0)
theorem gm6_1 : m6.1[1]? = some (17, 6) := (ap_old gm5_1)
theorem lm7 : m7.1.length = 11 := by
  show (m6.1).length = _
  simp [lm6]
theorem gm7_0 : m7.1[0]? = some (11, nF 11) := gm6_0
theorem gm7_1 : m7.1[1]? = some (17, 6) := gm6_1
theorem lm8 : m8.1.length = 13 := by
  show (m7.1 ++ [(9, nF 9)] ++ [(13, 60)]).length = _
  simp [lm7]
theorem gm8_0 : m8.1[0]? = some (11, nF 11) := (ap_old (ap_old gm7_0))
theorem gm8_1 : m8.1[1]? = some (17, 6) := (ap_old (ap_old gm7_1))
theorem lm9 : m9.1.length = 14 := by
  show (m8.1 ++ [(16, 10)]).length = _
  simp [lm8]
theorem gm9_0 : m9.1[0]? = some (11, nF 11) := (ap_old gm8_0)
theorem gm9_1 : m9.1[1]? = some (17, 6) := (ap_old gm8_1)
theorem gm9_13 : m9.1[13]? = some (16, 10) := ap_new lm8
theorem lm10 : m10.1.length = 14 := by
  show (m9.1).length = _
  simp [lm9]
theorem gm10_0 : m10.1[0]? = some (11, nF 11) := gm9_0
theorem gm10_1 : m10.1[1]? = some (17, 6) := gm9_1
theorem gm10_13 : m10.1[13]? = some (16, 10) := gm9_13
theorem lm11 : m11.1.length = 19 := by
  show (m10.1 ++ [(7, nF 7)] ++ [(6, nF 6)] ++ [(13, 12)] ++ [(6, nF 6)] ++ [(13, 12)]).length = _
  simp [lm10]
theorem gm11_0 : m11.1[0]? = some (11, nF 11) := (ap_old (ap_old (ap_old (ap_old (ap_old gm10_0)))))
theorem gm11_1 : m11.1[1]? = some (17, 6) := (ap_old (ap_old (ap_old (ap_old (ap_old gm10_1)))))
theorem gm11_13 : m11.1[13]? = some (16, 10) := (ap_old (ap_old (ap_old (ap_old (ap_old gm10_13)))))
theorem lm12 : m12.1.length = 24 := by
  show (m11.1 ++ [(7, nF 7)] ++ [(6, nF 6)] ++ [(13, 12)] ++ [(6, nF 6)] ++ [(13, 12)]).length = _
  simp [lm11]
theorem gm12_0 : m12.1[0]? = some (11, nF 11) := (ap_old (ap_old (ap_old (ap_old (ap_old gm11_0)))))
theorem gm12_1 : m12.1[1]? = some (17, 6) := (ap_old (ap_old (ap_old (ap_old (ap_old gm11_1)))))
theorem gm12_13 : m12.1[13]? = some (16, 10) := (ap_old (ap_old (ap_old (ap_old (ap_old gm11_13)))))
theorem lm13 : m13.1.length = 24 := by
  show (m12.1).length = _
  simp [lm12]
theorem gm13_0 : m13.1[0]? = some (11, nF 11) := gm12_0
theorem gm13_1 : m13.1[1]? = some (17, 6) := gm12_1
theorem gm13_13 : m13.1[13]? = some (16, 10) := gm12_13
theorem lm14 : m14.1.length = 26 := by
  show (m13.1 ++ [(10, nF 10)] ++ [(13, 8)]).length = _
  simp [lm13]
theorem gm14_0 : m14.1[0]? = some (11, nF 11) := (ap_old (ap_old gm13_0))
theorem gm14_1 : m14.1[1]? = some (17, 6) := (ap_old (ap_old gm13_1))
theorem gm14_13 : m14.1[13]? = some (16, 10) := (ap_old (ap_old gm13_13))
theorem lm15 : m15.1.length = 32 := by
  show (m14.1 ++ [(5, nF 5)] ++ [(6, nF 6)] ++ [(13, 12)] ++ [(6, nF 6)] ++ [(13, 12)] ++ [(13, 1000)]).length = _
  simp [lm14]
theorem gm15_0 : m15.1[0]? = some (11, nF 11) := (ap_old (ap_old (ap_old (ap_old (ap_old (ap_old gm14_0))))))
theorem gm15_1 : m15.1[1]? = some (17, 6) := (ap_old (ap_old (ap_old (ap_old (ap_old (ap_old gm14_1))))))
theorem gm15_13 : m15.1[13]? = some (16, 10) := (ap_old (ap_old (ap_old (ap_old (ap_old (ap_old gm14_13))))))
theorem lm16 : m16.1.length = 37 := by
  show (m15.1 ++ [(2, nF 2)] ++ [(6, nF 6)] ++ [(13, 12)] ++ [(6, nF 6)] ++ [(13, 12)]).length = _
  simp [lm15]
theorem gm16_0 : m16.1[0]? = some (11, nF 11) := (ap_old (ap_old (ap_old (ap_old (ap_old gm15_0)))))
theorem gm16_1 : m16.1[1]? = some (17, 6) := (ap_old (ap_old (ap_old (ap_old (ap_old gm15_1)))))
theorem gm16_13 : m16.1[13]? = some (16, 10) := (ap_old (ap_old (ap_old (ap_old (ap_old gm15_13)))))
theorem lm17 : m17.1.length = 39 := by
  show (m16.1 ++ [(0, nF 0)] ++ [(13, 24)]).length = _
  simp [lm16]
theorem gm17_0 : m17.1[0]? = some (11, nF 11) := (ap_old (ap_old gm16_0))
theorem gm17_1 : m17.1[1]? = some (17, 6) := (ap_old (ap_old gm16_1))
theorem gm17_13 : m17.1[13]? = some (16, 10) := (ap_old (ap_old gm16_13))
theorem lm18 : m18.1.length = 50 := by
  show (m17.1 ++ [(8, nF 8)] ++ [(13, 6)] ++ [(13, 6)] ++ [(13, 6)] ++ ((19, 6) :: List.replicate 6 (14, 60))).length = _
  simp [lm17]
theorem gm18_0 : m18.1[0]? = some (11, nF 11) := (ap_old (ap_old (ap_old (ap_old (ap_old gm17_0)))))
theorem gm18_1 : m18.1[1]? = some (17, 6) := (ap_old (ap_old (ap_old (ap_old (ap_old gm17_1)))))
theorem gm18_13 : m18.1[13]? = some (16, 10) := (ap_old (ap_old (ap_old (ap_old (ap_old gm17_13)))))
theorem rm18_0 : m18.2.1 0 0 = some 1 := by decide +kernel
theorem lm19 : m19.1.length = 61 := by
  show (m18.1 ++ [(3, nF 3)] ++ [(13, 12)] ++ [(13, 12)] ++ [(13, 12)] ++ ((18, 4) :: List.replicate 4 (13, 4)) ++ [(13, 4)] ++ [(13, 15)]).length = _
  simp [lm18]
theorem gm19_0 : m19.1[0]? = some (11, nF 11) := (ap_old (ap_old (ap_old (ap_old (ap_old (ap_old (ap_old gm18_0)))))))
theorem gm19_1 : m19.1[1]? = some (17, 6) := (ap_old (ap_old (ap_old (ap_old (ap_old (ap_old (ap_old gm18_1)))))))
theorem gm19_13 : m19.1[13]? = some (16, 10) := (ap_old (ap_old (ap_old (ap_old (ap_old (ap_old (ap_old gm18_13)))))))
theorem rm19_0 : m19.2.1 0 0 = some 1 := by decide +kernel
theorem lm20 : m20.1.length = 72 := by
  show (m19.1 ++ [(3, nF 3)] ++ [(13, 12)] ++ [(13, 12)] ++ [(13, 12)] ++ ((18, 4) :: List.replicate 4 (13, 4)) ++ [(13, 4)] ++ [(13, 15)]).length = _
  simp [lm19]
theorem gm20_0 : m20.1[0]? = some (11, nF 11) := (ap_old (ap_old (ap_old (ap_old (ap_old (ap_old (ap_old gm19_0)))))))
theorem gm20_1 : m20.1[1]? = some (17, 6) := (ap_old (ap_old (ap_old (ap_old (ap_old (ap_old (ap_old gm19_1)))))))
theorem gm20_13 : m20.1[13]? = some (16, 10) := (ap_old (ap_old (ap_old (ap_old (ap_old (ap_old (ap_old gm19_13)))))))
theorem rm20_0 : m20.2.1 0 0 = some 1 := by decide +kernel
theorem lm21 : m21.1.length = 83 := by
  show (m20.1 ++ [(3, nF 3)] ++ [(13, 12)] ++ [(13, 12)] ++ [(13, 12)] ++ ((18, 4) :: List.replicate 4 (13, 4)) ++ [(13, 4)] ++ [(13, 15)]).length = _
  simp [lm20]
theorem gm21_0 : m21.1[0]? = some (11, nF 11) := (ap_old (ap_old (ap_old (ap_old (ap_old (ap_old (ap_old gm20_0)))))))
theorem gm21_1 : m21.1[1]? = some (17, 6) := (ap_old (ap_old (ap_old (ap_old (ap_old (ap_old (ap_old gm20_1)))))))
theorem gm21_13 : m21.1[13]? = some (16, 10) := (ap_old (ap_old (ap_old (ap_old (ap_old (ap_old (ap_old gm20_13)))))))
theorem rm21_0 : m21.2.1 0 0 = some 1 := by decide +kernel
theorem lm22 : m22.1.length = 94 := by
  show (m21.1 ++ [(3, nF 3)] ++ [(13, 12)] ++ [(13, 12)] ++ [(13, 12)] ++ ((18, 4) :: List.replicate 4 (13, 4)) ++ [(13, 4)] ++ [(13, 15)]).length = _
  simp [lm21]
theorem gm22_0 : m22.1[0]? = some (11, nF 11) := (ap_old (ap_old (ap_old (ap_old (ap_old (ap_old (ap_old gm21_0)))))))
theorem gm22_1 : m22.1[1]? = some (17, 6) := (ap_old (ap_old (ap_old (ap_old (ap_old (ap_old (ap_old gm21_1)))))))
theorem gm22_13 : m22.1[13]? = some (16, 10) := (ap_old (ap_old (ap_old (ap_old (ap_old (ap_old (ap_old gm21_13)))))))
theorem rm22_0 : m22.2.1 0 0 = some 1 := by decide +kernel
theorem lm23 : m23.1.length = 105 := by
  show (m22.1 ++ [(3, nF 3)] ++ [(13, 12)] ++ [(13, 12)] ++ [(13, 12)] ++ ((18, 4) :: List.replicate 4 (13, 4)) ++ [(13, 4)] ++ [(13, 15)]).length = _
  simp [lm22]
theorem gm23_0 : m23.1[0]? = some (11, nF 11) := (ap_old (ap_old (ap_old (ap_old (ap_old (ap_old (ap_old gm22_0)))))))
theorem gm23_1 : m23.1[1]? = some (17, 6) := (ap_old (ap_old (ap_old (ap_old (ap_old (ap_old (ap_old gm22_1)))))))
theorem gm23_13 : m23.1[13]? = some (16, 10) := (ap_old (ap_old (ap_old (ap_old (ap_old (ap_old (ap_old gm22_13)))))))
theorem rm23_0 : m23.2.1 0 0 = some 1 := by decide +kernel
theorem lm24 : m24.1.length = 116 := by
  show (m23.1 ++ [(3, nF 3)] ++ [(13, 12)] ++ [(13, 12)] ++ [(13, 12)] ++ ((18, 4) :: List.replicate 4 (13, 4)) ++ [(13, 4)] ++ [(13, 15)]).length = _
  simp [lm23]
theorem gm24_0 : m24.1[0]? = some (11, nF 11) := (ap_old (ap_old (ap_old (ap_old (ap_old (ap_old (ap_old gm23_0)))))))
theorem gm24_1 : m24.1[1]? = some (17, 6) := (ap_old (ap_old (ap_old (ap_old (ap_old (ap_old (ap_old gm23_1)))))))
theorem gm24_13 : m24.1[13]? = some (16, 10) := (ap_old (ap_old (ap_old (ap_old (ap_old (ap_old (ap_old gm23_13)))))))
theorem rm24_8 : m24.2.1 0 8 = some 13 := by decide +kernel
theorem lm25 : m25.1.length = 119 := by
  show (m24.1 ++ [(1, nF 1)] ++ [(13, 60)] ++ [(13, 60)]).length = _
  simp [lm24]
theorem gm25_0 : m25.1[0]? = some (11, nF 11) := (ap_old (ap_old (ap_old gm24_0)))
theorem gm25_1 : m25.1[1]? = some (17, 6) := (ap_old (ap_old (ap_old gm24_1)))
theorem gm25_13 : m25.1[13]? = some (16, 10) := (ap_old (ap_old (ap_old gm24_13)))
theorem rm25_8 : m25.2.1 0 8 = some 13 := by decide +kernel
theorem lm26 : m26.1.length = 122 := by
  show (m25.1 ++ [(1, nF 1)] ++ [(13, 60)] ++ [(13, 60)]).length = _
  simp [lm25]
theorem gm26_0 : m26.1[0]? = some (11, nF 11) := (ap_old (ap_old (ap_old gm25_0)))
theorem gm26_1 : m26.1[1]? = some (17, 6) := (ap_old (ap_old (ap_old gm25_1)))
theorem gm26_13 : m26.1[13]? = some (16, 10) := (ap_old (ap_old (ap_old gm25_13)))
theorem rm26_8 : m26.2.1 0 8 = some 13 := by decide +kernel
theorem lm27 : m27.1.length = 125 := by
  show (m26.1 ++ [(1, nF 1)] ++ [(13, 60)] ++ [(13, 60)]).length = _
  simp [lm26]
theorem gm27_0 : m27.1[0]? = some (11, nF 11) := (ap_old (ap_old (ap_old gm26_0)))
theorem gm27_1 : m27.1[1]? = some (17, 6) := (ap_old (ap_old (ap_old gm26_1)))
theorem gm27_13 : m27.1[13]? = some (16, 10) := (ap_old (ap_old (ap_old gm26_13)))
theorem rm27_8 : m27.2.1 0 8 = some 13 := by decide +kernel
theorem lm28 : m28.1.length = 128 := by
  show (m27.1 ++ [(1, nF 1)] ++ [(13, 60)] ++ [(13, 60)]).length = _
  simp [lm27]
theorem gm28_0 : m28.1[0]? = some (11, nF 11) := (ap_old (ap_old (ap_old gm27_0)))
theorem gm28_1 : m28.1[1]? = some (17, 6) := (ap_old (ap_old (ap_old gm27_1)))
theorem gm28_13 : m28.1[13]? = some (16, 10) := (ap_old (ap_old (ap_old gm27_13)))
theorem rm28_8 : m28.2.1 0 8 = some 13 := by decide +kernel
theorem lm29 : m29.1.length = 131 := by
  show (m28.1 ++ [(1, nF 1)] ++ [(13, 60)] ++ [(13, 60)]).length = _
  simp [lm28]
theorem gm29_0 : m29.1[0]? = some (11, nF 11) := (ap_old (ap_old (ap_old gm28_0)))
theorem gm29_1 : m29.1[1]? = some (17, 6) := (ap_old (ap_old (ap_old gm28_1)))
theorem gm29_13 : m29.1[13]? = some (16, 10) := (ap_old (ap_old (ap_old gm28_13)))
theorem rm29_8 : m29.2.1 0 8 = some 13 := by decide +kernel
theorem lm30 : m30.1.length = 134 := by
  show (m29.1 ++ [(1, nF 1)] ++ [(13, 60)] ++ [(13, 60)]).length = _
  simp [lm29]
theorem gm30_0 : m30.1[0]? = some (11, nF 11) := (ap_old (ap_old (ap_old gm29_0)))
theorem gm30_1 : m30.1[1]? = some (17, 6) := (ap_old (ap_old (ap_old gm29_1)))
theorem gm30_13 : m30.1[13]? = some (16, 10) := (ap_old (ap_old (ap_old gm29_13)))
theorem rm30_8 : m30.2.1 0 8 = some 13 := by decide +kernel
theorem lm31 : m31.1.length = 137 := by
  show (m30.1 ++ [(1, nF 1)] ++ [(13, 60)] ++ [(13, 60)]).length = _
  simp [lm30]
theorem gm31_0 : m31.1[0]? = some (11, nF 11) := (ap_old (ap_old (ap_old gm30_0)))
theorem gm31_1 : m31.1[1]? = some (17, 6) := (ap_old (ap_old (ap_old gm30_1)))
theorem gm31_13 : m31.1[13]? = some (16, 10) := (ap_old (ap_old (ap_old gm30_13)))
theorem rm31_8 : m31.2.1 0 8 = some 13 := by decide +kernel
theorem lm32 : m32.1.length = 140 := by
  show (m31.1 ++ [(1, nF 1)] ++ [(13, 60)] ++ [(13, 60)]).length = _
  simp [lm31]
theorem gm32_0 : m32.1[0]? = some (11, nF 11) := (ap_old (ap_old (ap_old gm31_0)))
theorem gm32_1 : m32.1[1]? = some (17, 6) := (ap_old (ap_old (ap_old gm31_1)))
theorem gm32_13 : m32.1[13]? = some (16, 10) := (ap_old (ap_old (ap_old gm31_13)))
theorem rm32_8 : m32.2.1 0 8 = some 13 := by decide +kernel
theorem lm33 : m33.1.length = 143 := by
  show (m32.1 ++ [(1, nF 1)] ++ [(13, 60)] ++ [(13, 60)]).length = _
  simp [lm32]
theorem gm33_0 : m33.1[0]? = some (11, nF 11) := (ap_old (ap_old (ap_old gm32_0)))
theorem gm33_1 : m33.1[1]? = some (17, 6) := (ap_old (ap_old (ap_old gm32_1)))
theorem gm33_13 : m33.1[13]? = some (16, 10) := (ap_old (ap_old (ap_old gm32_13)))
theorem rm33_8 : m33.2.1 0 8 = some 13 := by decide +kernel
theorem lm34 : m34.1.length = 146 := by
  show (m33.1 ++ [(1, nF 1)] ++ [(13, 60)] ++ [(13, 60)]).length = _
  simp [lm33]
theorem gm34_0 : m34.1[0]? = some (11, nF 11) := (ap_old (ap_old (ap_old gm33_0)))
theorem gm34_1 : m34.1[1]? = some (17, 6) := (ap_old (ap_old (ap_old gm33_1)))
theorem gm34_13 : m34.1[13]? = some (16, 10) := (ap_old (ap_old (ap_old gm33_13)))
theorem sg34 (G : Gm) (hF : Fr m34) : J G YX11_init 3 145 23501 finH 145 23501 219 [some (vR (some 0)), some (vI (9))] [] m34 (some m34) := by
  refine J_iinc (v := 10) [some (vR (some 0)), some (vI (10))] dX11_init_219 rfl (by decide) (Nat.le_of_ble_eq_true rfl) rfl rfl ?_
  refine J_goto (tgt := 200) dX11_init_222 (by decide) ?_
  refine J_iload_n dX11_init_200 rfl rfl ?_
  refine J_bipush (v := 10) dX11_init_201 (by decide) ?_
  refine J_step_ge (tgt := 225) (by decide) dX11_init_203 (by decide) ?_
  exact J_return rfl (Nat.le_of_ble_eq_true rfl) (Nat.le_of_ble_eq_true rfl) rfl dX11_init_225
theorem sg33 (G : Gm) (hF : Fr m33) : J G YX11_init 3 145 23501 finH 142 23376 219 [some (vR (some 0)), some (vI (8))] [] m33 (some m34) := by
  refine J_iinc (v := 9) [some (vR (some 0)), some (vI (9))] dX11_init_219 rfl (by decide) (Nat.le_of_ble_eq_true rfl) rfl rfl ?_
  refine J_goto (tgt := 200) dX11_init_222 (by decide) ?_
  refine J_iload_n dX11_init_200 rfl rfl ?_
  refine J_bipush (v := 10) dX11_init_201 (by decide) ?_
  refine J_step_lt (tgt := 225) (by decide) dX11_init_203 (by decide) ?_
  refine J_aload_n dX11_init_206 rfl rfl ?_
  refine J_getR (r := some 13) cf11 klX11_53 gm33_0 (rm33_8) (Or.inr ⟨_, rfl⟩) dX11_init_207 ?_
  refine J_iload_n dX11_init_210 rfl rfl ?_
  refine J_new (a := 143) (C := RX1) cf1 rfl (in1 100 (by rfl) rfl) (in2 50 (by rfl) rfl) (in1 13 (by rfl) rfl) (by decide) hF lm33 (Nat.le_of_ble_eq_true rfl) (Nat.le_of_ble_eq_true rfl) dX11_init_211 ?_
  intro hF
  have hl1 : (m33.1 ++ [(1, nF 1)]).length = 144 := ap_len lm33 rfl
  have hg2 : (m33.1 ++ [(1, nF 1)])[0]? = some (11, nF 11) := ap_old gm33_0
  have hg3 : (m33.1 ++ [(1, nF 1)])[1]? = some (17, 6) := ap_old gm33_1
  have hg4 : (m33.1 ++ [(1, nF 1)])[13]? = some (16, 10) := ap_old gm33_13
  have hg5 : (m33.1 ++ [(1, nF 1)])[143]? = some (1, nF 1) := ap_new lm33
  have hF : Fr (m33.1 ++ [(1, nF 1)], m33.2.1, m33.2.2) := hF
  show J _ _ _ _ _ _ _ _ _ _ _ (m33.1 ++ [(1, nF 1)], m33.2.1, m33.2.2) _
  refine J_dup dX11_init_214 rfl ?_
  refine J_cN (cXr1 143 (m33.1 ++ [(1, nF 1)], m33.2.1, m33.2.2)) mcX1_init miX1_init (List.mem_of_getElem? (i := 12) rfl) rfl rfl (ctX1_init G hF hl1 hg5) rfl rfl (Nat.le_of_ble_eq_true rfl) (Nat.le_of_ble_eq_true rfl) (Nat.le_of_ble_eq_true rfl) (Nat.le_of_ble_eq_true rfl) (Nat.le_of_ble_eq_true rfl) dX11_init_215 ?_
  have hF := frX1 hF hl1
  have hl6 : (m33.1 ++ [(1, nF 1)] ++ [(13, 60)]).length = 145 := ap_len hl1 rfl
  have hg7 : (m33.1 ++ [(1, nF 1)] ++ [(13, 60)])[0]? = some (11, nF 11) := ap_old hg2
  have hg8 : (m33.1 ++ [(1, nF 1)] ++ [(13, 60)])[1]? = some (17, 6) := ap_old hg3
  have hg9 : (m33.1 ++ [(1, nF 1)] ++ [(13, 60)])[13]? = some (16, 10) := ap_old hg4
  have hg10 : (m33.1 ++ [(1, nF 1)] ++ [(13, 60)])[143]? = some (1, nF 1) := ap_old hg5
  have hl11 : (m33.1 ++ [(1, nF 1)] ++ [(13, 60)] ++ [(13, 60)]).length = 146 := ap_len hl6 rfl
  have hg12 : (m33.1 ++ [(1, nF 1)] ++ [(13, 60)] ++ [(13, 60)])[0]? = some (11, nF 11) := ap_old hg7
  have hg13 : (m33.1 ++ [(1, nF 1)] ++ [(13, 60)] ++ [(13, 60)])[1]? = some (17, 6) := ap_old hg8
  have hg14 : (m33.1 ++ [(1, nF 1)] ++ [(13, 60)] ++ [(13, 60)])[13]? = some (16, 10) := ap_old hg9
  have hg15 : (m33.1 ++ [(1, nF 1)] ++ [(13, 60)] ++ [(13, 60)])[143]? = some (1, nF 1) := ap_old hg10
  have hF : Fr (m33.1 ++ [(1, nF 1)] ++ [(13, 60)] ++ [(13, 60)], upR (upR (m33.2.1) (143) 0 (some (144))) (143) 3 (some (145)), wI (wI (wI (m33.2.2) (143) 1 (0)) (143) 2 (0)) (143) 4 (0)) := hF
  show J _ _ _ _ _ _ _ _ _ _ _ (m33.1 ++ [(1, nF 1)] ++ [(13, 60)] ++ [(13, 60)], upR (upR (m33.2.1) (143) 0 (some (144))) (143) 3 (some (145)), wI (wI (wI (m33.2.2) (143) 1 (0)) (143) 2 (0)) (143) 4 (0)) _
  refine J_aast (C := RX1) (ci := 1) (kd := 16) (N := 10) (by decide) rfl rfl (by decide) hF hg14 hg15 (by decide) (by decide) dX11_init_218 ?_
  intro hF
  exact sg34 G hF
theorem sg32 (G : Gm) (hF : Fr m32) : J G YX11_init 3 145 23501 finH 139 23251 219 [some (vR (some 0)), some (vI (7))] [] m32 (some m34) := by
  refine J_iinc (v := 8) [some (vR (some 0)), some (vI (8))] dX11_init_219 rfl (by decide) (Nat.le_of_ble_eq_true rfl) rfl rfl ?_
  refine J_goto (tgt := 200) dX11_init_222 (by decide) ?_
  refine J_iload_n dX11_init_200 rfl rfl ?_
  refine J_bipush (v := 10) dX11_init_201 (by decide) ?_
  refine J_step_lt (tgt := 225) (by decide) dX11_init_203 (by decide) ?_
  refine J_aload_n dX11_init_206 rfl rfl ?_
  refine J_getR (r := some 13) cf11 klX11_53 gm32_0 (rm32_8) (Or.inr ⟨_, rfl⟩) dX11_init_207 ?_
  refine J_iload_n dX11_init_210 rfl rfl ?_
  refine J_new (a := 140) (C := RX1) cf1 rfl (in1 100 (by rfl) rfl) (in2 50 (by rfl) rfl) (in1 13 (by rfl) rfl) (by decide) hF lm32 (Nat.le_of_ble_eq_true rfl) (Nat.le_of_ble_eq_true rfl) dX11_init_211 ?_
  intro hF
  have hl1 : (m32.1 ++ [(1, nF 1)]).length = 141 := ap_len lm32 rfl
  have hg2 : (m32.1 ++ [(1, nF 1)])[0]? = some (11, nF 11) := ap_old gm32_0
  have hg3 : (m32.1 ++ [(1, nF 1)])[1]? = some (17, 6) := ap_old gm32_1
  have hg4 : (m32.1 ++ [(1, nF 1)])[13]? = some (16, 10) := ap_old gm32_13
  have hg5 : (m32.1 ++ [(1, nF 1)])[140]? = some (1, nF 1) := ap_new lm32
  have hF : Fr (m32.1 ++ [(1, nF 1)], m32.2.1, m32.2.2) := hF
  show J _ _ _ _ _ _ _ _ _ _ _ (m32.1 ++ [(1, nF 1)], m32.2.1, m32.2.2) _
  refine J_dup dX11_init_214 rfl ?_
  refine J_cN (cXr1 140 (m32.1 ++ [(1, nF 1)], m32.2.1, m32.2.2)) mcX1_init miX1_init (List.mem_of_getElem? (i := 12) rfl) rfl rfl (ctX1_init G hF hl1 hg5) rfl rfl (Nat.le_of_ble_eq_true rfl) (Nat.le_of_ble_eq_true rfl) (Nat.le_of_ble_eq_true rfl) (Nat.le_of_ble_eq_true rfl) (Nat.le_of_ble_eq_true rfl) dX11_init_215 ?_
  have hF := frX1 hF hl1
  have hl6 : (m32.1 ++ [(1, nF 1)] ++ [(13, 60)]).length = 142 := ap_len hl1 rfl
  have hg7 : (m32.1 ++ [(1, nF 1)] ++ [(13, 60)])[0]? = some (11, nF 11) := ap_old hg2
  have hg8 : (m32.1 ++ [(1, nF 1)] ++ [(13, 60)])[1]? = some (17, 6) := ap_old hg3
  have hg9 : (m32.1 ++ [(1, nF 1)] ++ [(13, 60)])[13]? = some (16, 10) := ap_old hg4
  have hg10 : (m32.1 ++ [(1, nF 1)] ++ [(13, 60)])[140]? = some (1, nF 1) := ap_old hg5
  have hl11 : (m32.1 ++ [(1, nF 1)] ++ [(13, 60)] ++ [(13, 60)]).length = 143 := ap_len hl6 rfl
  have hg12 : (m32.1 ++ [(1, nF 1)] ++ [(13, 60)] ++ [(13, 60)])[0]? = some (11, nF 11) := ap_old hg7
  have hg13 : (m32.1 ++ [(1, nF 1)] ++ [(13, 60)] ++ [(13, 60)])[1]? = some (17, 6) := ap_old hg8
  have hg14 : (m32.1 ++ [(1, nF 1)] ++ [(13, 60)] ++ [(13, 60)])[13]? = some (16, 10) := ap_old hg9
  have hg15 : (m32.1 ++ [(1, nF 1)] ++ [(13, 60)] ++ [(13, 60)])[140]? = some (1, nF 1) := ap_old hg10
  have hF : Fr (m32.1 ++ [(1, nF 1)] ++ [(13, 60)] ++ [(13, 60)], upR (upR (m32.2.1) (140) 0 (some (141))) (140) 3 (some (142)), wI (wI (wI (m32.2.2) (140) 1 (0)) (140) 2 (0)) (140) 4 (0)) := hF
  show J _ _ _ _ _ _ _ _ _ _ _ (m32.1 ++ [(1, nF 1)] ++ [(13, 60)] ++ [(13, 60)], upR (upR (m32.2.1) (140) 0 (some (141))) (140) 3 (some (142)), wI (wI (wI (m32.2.2) (140) 1 (0)) (140) 2 (0)) (140) 4 (0)) _
  refine J_aast (C := RX1) (ci := 1) (kd := 16) (N := 10) (by decide) rfl rfl (by decide) hF hg14 hg15 (by decide) (by decide) dX11_init_218 ?_
  intro hF
  exact sg33 G hF
theorem sg31 (G : Gm) (hF : Fr m31) : J G YX11_init 3 145 23501 finH 136 23126 219 [some (vR (some 0)), some (vI (6))] [] m31 (some m34) := by
  refine J_iinc (v := 7) [some (vR (some 0)), some (vI (7))] dX11_init_219 rfl (by decide) (Nat.le_of_ble_eq_true rfl) rfl rfl ?_
  refine J_goto (tgt := 200) dX11_init_222 (by decide) ?_
  refine J_iload_n dX11_init_200 rfl rfl ?_
  refine J_bipush (v := 10) dX11_init_201 (by decide) ?_
  refine J_step_lt (tgt := 225) (by decide) dX11_init_203 (by decide) ?_
  refine J_aload_n dX11_init_206 rfl rfl ?_
  refine J_getR (r := some 13) cf11 klX11_53 gm31_0 (rm31_8) (Or.inr ⟨_, rfl⟩) dX11_init_207 ?_
  refine J_iload_n dX11_init_210 rfl rfl ?_
  refine J_new (a := 137) (C := RX1) cf1 rfl (in1 100 (by rfl) rfl) (in2 50 (by rfl) rfl) (in1 13 (by rfl) rfl) (by decide) hF lm31 (Nat.le_of_ble_eq_true rfl) (Nat.le_of_ble_eq_true rfl) dX11_init_211 ?_
  intro hF
  have hl1 : (m31.1 ++ [(1, nF 1)]).length = 138 := ap_len lm31 rfl
  have hg2 : (m31.1 ++ [(1, nF 1)])[0]? = some (11, nF 11) := ap_old gm31_0
  have hg3 : (m31.1 ++ [(1, nF 1)])[1]? = some (17, 6) := ap_old gm31_1
  have hg4 : (m31.1 ++ [(1, nF 1)])[13]? = some (16, 10) := ap_old gm31_13
  have hg5 : (m31.1 ++ [(1, nF 1)])[137]? = some (1, nF 1) := ap_new lm31
  have hF : Fr (m31.1 ++ [(1, nF 1)], m31.2.1, m31.2.2) := hF
  show J _ _ _ _ _ _ _ _ _ _ _ (m31.1 ++ [(1, nF 1)], m31.2.1, m31.2.2) _
  refine J_dup dX11_init_214 rfl ?_
  refine J_cN (cXr1 137 (m31.1 ++ [(1, nF 1)], m31.2.1, m31.2.2)) mcX1_init miX1_init (List.mem_of_getElem? (i := 12) rfl) rfl rfl (ctX1_init G hF hl1 hg5) rfl rfl (Nat.le_of_ble_eq_true rfl) (Nat.le_of_ble_eq_true rfl) (Nat.le_of_ble_eq_true rfl) (Nat.le_of_ble_eq_true rfl) (Nat.le_of_ble_eq_true rfl) dX11_init_215 ?_
  have hF := frX1 hF hl1
  have hl6 : (m31.1 ++ [(1, nF 1)] ++ [(13, 60)]).length = 139 := ap_len hl1 rfl
  have hg7 : (m31.1 ++ [(1, nF 1)] ++ [(13, 60)])[0]? = some (11, nF 11) := ap_old hg2
  have hg8 : (m31.1 ++ [(1, nF 1)] ++ [(13, 60)])[1]? = some (17, 6) := ap_old hg3
  have hg9 : (m31.1 ++ [(1, nF 1)] ++ [(13, 60)])[13]? = some (16, 10) := ap_old hg4
  have hg10 : (m31.1 ++ [(1, nF 1)] ++ [(13, 60)])[137]? = some (1, nF 1) := ap_old hg5
  have hl11 : (m31.1 ++ [(1, nF 1)] ++ [(13, 60)] ++ [(13, 60)]).length = 140 := ap_len hl6 rfl
  have hg12 : (m31.1 ++ [(1, nF 1)] ++ [(13, 60)] ++ [(13, 60)])[0]? = some (11, nF 11) := ap_old hg7
  have hg13 : (m31.1 ++ [(1, nF 1)] ++ [(13, 60)] ++ [(13, 60)])[1]? = some (17, 6) := ap_old hg8
  have hg14 : (m31.1 ++ [(1, nF 1)] ++ [(13, 60)] ++ [(13, 60)])[13]? = some (16, 10) := ap_old hg9
  have hg15 : (m31.1 ++ [(1, nF 1)] ++ [(13, 60)] ++ [(13, 60)])[137]? = some (1, nF 1) := ap_old hg10
  have hF : Fr (m31.1 ++ [(1, nF 1)] ++ [(13, 60)] ++ [(13, 60)], upR (upR (m31.2.1) (137) 0 (some (138))) (137) 3 (some (139)), wI (wI (wI (m31.2.2) (137) 1 (0)) (137) 2 (0)) (137) 4 (0)) := hF
  show J _ _ _ _ _ _ _ _ _ _ _ (m31.1 ++ [(1, nF 1)] ++ [(13, 60)] ++ [(13, 60)], upR (upR (m31.2.1) (137) 0 (some (138))) (137) 3 (some (139)), wI (wI (wI (m31.2.2) (137) 1 (0)) (137) 2 (0)) (137) 4 (0)) _
  refine J_aast (C := RX1) (ci := 1) (kd := 16) (N := 10) (by decide) rfl rfl (by decide) hF hg14 hg15 (by decide) (by decide) dX11_init_218 ?_
  intro hF
  exact sg32 G hF
theorem sg30 (G : Gm) (hF : Fr m30) : J G YX11_init 3 145 23501 finH 133 23001 219 [some (vR (some 0)), some (vI (5))] [] m30 (some m34) := by
  refine J_iinc (v := 6) [some (vR (some 0)), some (vI (6))] dX11_init_219 rfl (by decide) (Nat.le_of_ble_eq_true rfl) rfl rfl ?_
  refine J_goto (tgt := 200) dX11_init_222 (by decide) ?_
  refine J_iload_n dX11_init_200 rfl rfl ?_
  refine J_bipush (v := 10) dX11_init_201 (by decide) ?_
  refine J_step_lt (tgt := 225) (by decide) dX11_init_203 (by decide) ?_
  refine J_aload_n dX11_init_206 rfl rfl ?_
  refine J_getR (r := some 13) cf11 klX11_53 gm30_0 (rm30_8) (Or.inr ⟨_, rfl⟩) dX11_init_207 ?_
  refine J_iload_n dX11_init_210 rfl rfl ?_
  refine J_new (a := 134) (C := RX1) cf1 rfl (in1 100 (by rfl) rfl) (in2 50 (by rfl) rfl) (in1 13 (by rfl) rfl) (by decide) hF lm30 (Nat.le_of_ble_eq_true rfl) (Nat.le_of_ble_eq_true rfl) dX11_init_211 ?_
  intro hF
  have hl1 : (m30.1 ++ [(1, nF 1)]).length = 135 := ap_len lm30 rfl
  have hg2 : (m30.1 ++ [(1, nF 1)])[0]? = some (11, nF 11) := ap_old gm30_0
  have hg3 : (m30.1 ++ [(1, nF 1)])[1]? = some (17, 6) := ap_old gm30_1
  have hg4 : (m30.1 ++ [(1, nF 1)])[13]? = some (16, 10) := ap_old gm30_13
  have hg5 : (m30.1 ++ [(1, nF 1)])[134]? = some (1, nF 1) := ap_new lm30
  have hF : Fr (m30.1 ++ [(1, nF 1)], m30.2.1, m30.2.2) := hF
  show J _ _ _ _ _ _ _ _ _ _ _ (m30.1 ++ [(1, nF 1)], m30.2.1, m30.2.2) _
  refine J_dup dX11_init_214 rfl ?_
  refine J_cN (cXr1 134 (m30.1 ++ [(1, nF 1)], m30.2.1, m30.2.2)) mcX1_init miX1_init (List.mem_of_getElem? (i := 12) rfl) rfl rfl (ctX1_init G hF hl1 hg5) rfl rfl (Nat.le_of_ble_eq_true rfl) (Nat.le_of_ble_eq_true rfl) (Nat.le_of_ble_eq_true rfl) (Nat.le_of_ble_eq_true rfl) (Nat.le_of_ble_eq_true rfl) dX11_init_215 ?_
  have hF := frX1 hF hl1
  have hl6 : (m30.1 ++ [(1, nF 1)] ++ [(13, 60)]).length = 136 := ap_len hl1 rfl
  have hg7 : (m30.1 ++ [(1, nF 1)] ++ [(13, 60)])[0]? = some (11, nF 11) := ap_old hg2
  have hg8 : (m30.1 ++ [(1, nF 1)] ++ [(13, 60)])[1]? = some (17, 6) := ap_old hg3
  have hg9 : (m30.1 ++ [(1, nF 1)] ++ [(13, 60)])[13]? = some (16, 10) := ap_old hg4
  have hg10 : (m30.1 ++ [(1, nF 1)] ++ [(13, 60)])[134]? = some (1, nF 1) := ap_old hg5
  have hl11 : (m30.1 ++ [(1, nF 1)] ++ [(13, 60)] ++ [(13, 60)]).length = 137 := ap_len hl6 rfl
  have hg12 : (m30.1 ++ [(1, nF 1)] ++ [(13, 60)] ++ [(13, 60)])[0]? = some (11, nF 11) := ap_old hg7
  have hg13 : (m30.1 ++ [(1, nF 1)] ++ [(13, 60)] ++ [(13, 60)])[1]? = some (17, 6) := ap_old hg8
  have hg14 : (m30.1 ++ [(1, nF 1)] ++ [(13, 60)] ++ [(13, 60)])[13]? = some (16, 10) := ap_old hg9
  have hg15 : (m30.1 ++ [(1, nF 1)] ++ [(13, 60)] ++ [(13, 60)])[134]? = some (1, nF 1) := ap_old hg10
  have hF : Fr (m30.1 ++ [(1, nF 1)] ++ [(13, 60)] ++ [(13, 60)], upR (upR (m30.2.1) (134) 0 (some (135))) (134) 3 (some (136)), wI (wI (wI (m30.2.2) (134) 1 (0)) (134) 2 (0)) (134) 4 (0)) := hF
  show J _ _ _ _ _ _ _ _ _ _ _ (m30.1 ++ [(1, nF 1)] ++ [(13, 60)] ++ [(13, 60)], upR (upR (m30.2.1) (134) 0 (some (135))) (134) 3 (some (136)), wI (wI (wI (m30.2.2) (134) 1 (0)) (134) 2 (0)) (134) 4 (0)) _
  refine J_aast (C := RX1) (ci := 1) (kd := 16) (N := 10) (by decide) rfl rfl (by decide) hF hg14 hg15 (by decide) (by decide) dX11_init_218 ?_
  intro hF
  exact sg31 G hF
theorem sg29 (G : Gm) (hF : Fr m29) : J G YX11_init 3 145 23501 finH 130 22876 219 [some (vR (some 0)), some (vI (4))] [] m29 (some m34) := by
  refine J_iinc (v := 5) [some (vR (some 0)), some (vI (5))] dX11_init_219 rfl (by decide) (Nat.le_of_ble_eq_true rfl) rfl rfl ?_
  refine J_goto (tgt := 200) dX11_init_222 (by decide) ?_
  refine J_iload_n dX11_init_200 rfl rfl ?_
  refine J_bipush (v := 10) dX11_init_201 (by decide) ?_
  refine J_step_lt (tgt := 225) (by decide) dX11_init_203 (by decide) ?_
  refine J_aload_n dX11_init_206 rfl rfl ?_
  refine J_getR (r := some 13) cf11 klX11_53 gm29_0 (rm29_8) (Or.inr ⟨_, rfl⟩) dX11_init_207 ?_
  refine J_iload_n dX11_init_210 rfl rfl ?_
  refine J_new (a := 131) (C := RX1) cf1 rfl (in1 100 (by rfl) rfl) (in2 50 (by rfl) rfl) (in1 13 (by rfl) rfl) (by decide) hF lm29 (Nat.le_of_ble_eq_true rfl) (Nat.le_of_ble_eq_true rfl) dX11_init_211 ?_
  intro hF
  have hl1 : (m29.1 ++ [(1, nF 1)]).length = 132 := ap_len lm29 rfl
  have hg2 : (m29.1 ++ [(1, nF 1)])[0]? = some (11, nF 11) := ap_old gm29_0
  have hg3 : (m29.1 ++ [(1, nF 1)])[1]? = some (17, 6) := ap_old gm29_1
  have hg4 : (m29.1 ++ [(1, nF 1)])[13]? = some (16, 10) := ap_old gm29_13
  have hg5 : (m29.1 ++ [(1, nF 1)])[131]? = some (1, nF 1) := ap_new lm29
  have hF : Fr (m29.1 ++ [(1, nF 1)], m29.2.1, m29.2.2) := hF
  show J _ _ _ _ _ _ _ _ _ _ _ (m29.1 ++ [(1, nF 1)], m29.2.1, m29.2.2) _
  refine J_dup dX11_init_214 rfl ?_
  refine J_cN (cXr1 131 (m29.1 ++ [(1, nF 1)], m29.2.1, m29.2.2)) mcX1_init miX1_init (List.mem_of_getElem? (i := 12) rfl) rfl rfl (ctX1_init G hF hl1 hg5) rfl rfl (Nat.le_of_ble_eq_true rfl) (Nat.le_of_ble_eq_true rfl) (Nat.le_of_ble_eq_true rfl) (Nat.le_of_ble_eq_true rfl) (Nat.le_of_ble_eq_true rfl) dX11_init_215 ?_
  have hF := frX1 hF hl1
  have hl6 : (m29.1 ++ [(1, nF 1)] ++ [(13, 60)]).length = 133 := ap_len hl1 rfl
  have hg7 : (m29.1 ++ [(1, nF 1)] ++ [(13, 60)])[0]? = some (11, nF 11) := ap_old hg2
  have hg8 : (m29.1 ++ [(1, nF 1)] ++ [(13, 60)])[1]? = some (17, 6) := ap_old hg3
  have hg9 : (m29.1 ++ [(1, nF 1)] ++ [(13, 60)])[13]? = some (16, 10) := ap_old hg4
  have hg10 : (m29.1 ++ [(1, nF 1)] ++ [(13, 60)])[131]? = some (1, nF 1) := ap_old hg5
  have hl11 : (m29.1 ++ [(1, nF 1)] ++ [(13, 60)] ++ [(13, 60)]).length = 134 := ap_len hl6 rfl
  have hg12 : (m29.1 ++ [(1, nF 1)] ++ [(13, 60)] ++ [(13, 60)])[0]? = some (11, nF 11) := ap_old hg7
  have hg13 : (m29.1 ++ [(1, nF 1)] ++ [(13, 60)] ++ [(13, 60)])[1]? = some (17, 6) := ap_old hg8
  have hg14 : (m29.1 ++ [(1, nF 1)] ++ [(13, 60)] ++ [(13, 60)])[13]? = some (16, 10) := ap_old hg9
  have hg15 : (m29.1 ++ [(1, nF 1)] ++ [(13, 60)] ++ [(13, 60)])[131]? = some (1, nF 1) := ap_old hg10
  have hF : Fr (m29.1 ++ [(1, nF 1)] ++ [(13, 60)] ++ [(13, 60)], upR (upR (m29.2.1) (131) 0 (some (132))) (131) 3 (some (133)), wI (wI (wI (m29.2.2) (131) 1 (0)) (131) 2 (0)) (131) 4 (0)) := hF
  show J _ _ _ _ _ _ _ _ _ _ _ (m29.1 ++ [(1, nF 1)] ++ [(13, 60)] ++ [(13, 60)], upR (upR (m29.2.1) (131) 0 (some (132))) (131) 3 (some (133)), wI (wI (wI (m29.2.2) (131) 1 (0)) (131) 2 (0)) (131) 4 (0)) _
  refine J_aast (C := RX1) (ci := 1) (kd := 16) (N := 10) (by decide) rfl rfl (by decide) hF hg14 hg15 (by decide) (by decide) dX11_init_218 ?_
  intro hF
  exact sg30 G hF
theorem sg28 (G : Gm) (hF : Fr m28) : J G YX11_init 3 145 23501 finH 127 22751 219 [some (vR (some 0)), some (vI (3))] [] m28 (some m34) := by
  refine J_iinc (v := 4) [some (vR (some 0)), some (vI (4))] dX11_init_219 rfl (by decide) (Nat.le_of_ble_eq_true rfl) rfl rfl ?_
  refine J_goto (tgt := 200) dX11_init_222 (by decide) ?_
  refine J_iload_n dX11_init_200 rfl rfl ?_
  refine J_bipush (v := 10) dX11_init_201 (by decide) ?_
  refine J_step_lt (tgt := 225) (by decide) dX11_init_203 (by decide) ?_
  refine J_aload_n dX11_init_206 rfl rfl ?_
  refine J_getR (r := some 13) cf11 klX11_53 gm28_0 (rm28_8) (Or.inr ⟨_, rfl⟩) dX11_init_207 ?_
  refine J_iload_n dX11_init_210 rfl rfl ?_
  refine J_new (a := 128) (C := RX1) cf1 rfl (in1 100 (by rfl) rfl) (in2 50 (by rfl) rfl) (in1 13 (by rfl) rfl) (by decide) hF lm28 (Nat.le_of_ble_eq_true rfl) (Nat.le_of_ble_eq_true rfl) dX11_init_211 ?_
  intro hF
  have hl1 : (m28.1 ++ [(1, nF 1)]).length = 129 := ap_len lm28 rfl
  have hg2 : (m28.1 ++ [(1, nF 1)])[0]? = some (11, nF 11) := ap_old gm28_0
  have hg3 : (m28.1 ++ [(1, nF 1)])[1]? = some (17, 6) := ap_old gm28_1
  have hg4 : (m28.1 ++ [(1, nF 1)])[13]? = some (16, 10) := ap_old gm28_13
  have hg5 : (m28.1 ++ [(1, nF 1)])[128]? = some (1, nF 1) := ap_new lm28
  have hF : Fr (m28.1 ++ [(1, nF 1)], m28.2.1, m28.2.2) := hF
  show J _ _ _ _ _ _ _ _ _ _ _ (m28.1 ++ [(1, nF 1)], m28.2.1, m28.2.2) _
  refine J_dup dX11_init_214 rfl ?_
  refine J_cN (cXr1 128 (m28.1 ++ [(1, nF 1)], m28.2.1, m28.2.2)) mcX1_init miX1_init (List.mem_of_getElem? (i := 12) rfl) rfl rfl (ctX1_init G hF hl1 hg5) rfl rfl (Nat.le_of_ble_eq_true rfl) (Nat.le_of_ble_eq_true rfl) (Nat.le_of_ble_eq_true rfl) (Nat.le_of_ble_eq_true rfl) (Nat.le_of_ble_eq_true rfl) dX11_init_215 ?_
  have hF := frX1 hF hl1
  have hl6 : (m28.1 ++ [(1, nF 1)] ++ [(13, 60)]).length = 130 := ap_len hl1 rfl
  have hg7 : (m28.1 ++ [(1, nF 1)] ++ [(13, 60)])[0]? = some (11, nF 11) := ap_old hg2
  have hg8 : (m28.1 ++ [(1, nF 1)] ++ [(13, 60)])[1]? = some (17, 6) := ap_old hg3
  have hg9 : (m28.1 ++ [(1, nF 1)] ++ [(13, 60)])[13]? = some (16, 10) := ap_old hg4
  have hg10 : (m28.1 ++ [(1, nF 1)] ++ [(13, 60)])[128]? = some (1, nF 1) := ap_old hg5
  have hl11 : (m28.1 ++ [(1, nF 1)] ++ [(13, 60)] ++ [(13, 60)]).length = 131 := ap_len hl6 rfl
  have hg12 : (m28.1 ++ [(1, nF 1)] ++ [(13, 60)] ++ [(13, 60)])[0]? = some (11, nF 11) := ap_old hg7
  have hg13 : (m28.1 ++ [(1, nF 1)] ++ [(13, 60)] ++ [(13, 60)])[1]? = some (17, 6) := ap_old hg8
  have hg14 : (m28.1 ++ [(1, nF 1)] ++ [(13, 60)] ++ [(13, 60)])[13]? = some (16, 10) := ap_old hg9
  have hg15 : (m28.1 ++ [(1, nF 1)] ++ [(13, 60)] ++ [(13, 60)])[128]? = some (1, nF 1) := ap_old hg10
  have hF : Fr (m28.1 ++ [(1, nF 1)] ++ [(13, 60)] ++ [(13, 60)], upR (upR (m28.2.1) (128) 0 (some (129))) (128) 3 (some (130)), wI (wI (wI (m28.2.2) (128) 1 (0)) (128) 2 (0)) (128) 4 (0)) := hF
  show J _ _ _ _ _ _ _ _ _ _ _ (m28.1 ++ [(1, nF 1)] ++ [(13, 60)] ++ [(13, 60)], upR (upR (m28.2.1) (128) 0 (some (129))) (128) 3 (some (130)), wI (wI (wI (m28.2.2) (128) 1 (0)) (128) 2 (0)) (128) 4 (0)) _
  refine J_aast (C := RX1) (ci := 1) (kd := 16) (N := 10) (by decide) rfl rfl (by decide) hF hg14 hg15 (by decide) (by decide) dX11_init_218 ?_
  intro hF
  exact sg29 G hF
theorem sg27 (G : Gm) (hF : Fr m27) : J G YX11_init 3 145 23501 finH 124 22626 219 [some (vR (some 0)), some (vI (2))] [] m27 (some m34) := by
  refine J_iinc (v := 3) [some (vR (some 0)), some (vI (3))] dX11_init_219 rfl (by decide) (Nat.le_of_ble_eq_true rfl) rfl rfl ?_
  refine J_goto (tgt := 200) dX11_init_222 (by decide) ?_
  refine J_iload_n dX11_init_200 rfl rfl ?_
  refine J_bipush (v := 10) dX11_init_201 (by decide) ?_
  refine J_step_lt (tgt := 225) (by decide) dX11_init_203 (by decide) ?_
  refine J_aload_n dX11_init_206 rfl rfl ?_
  refine J_getR (r := some 13) cf11 klX11_53 gm27_0 (rm27_8) (Or.inr ⟨_, rfl⟩) dX11_init_207 ?_
  refine J_iload_n dX11_init_210 rfl rfl ?_
  refine J_new (a := 125) (C := RX1) cf1 rfl (in1 100 (by rfl) rfl) (in2 50 (by rfl) rfl) (in1 13 (by rfl) rfl) (by decide) hF lm27 (Nat.le_of_ble_eq_true rfl) (Nat.le_of_ble_eq_true rfl) dX11_init_211 ?_
  intro hF
  have hl1 : (m27.1 ++ [(1, nF 1)]).length = 126 := ap_len lm27 rfl
  have hg2 : (m27.1 ++ [(1, nF 1)])[0]? = some (11, nF 11) := ap_old gm27_0
  have hg3 : (m27.1 ++ [(1, nF 1)])[1]? = some (17, 6) := ap_old gm27_1
  have hg4 : (m27.1 ++ [(1, nF 1)])[13]? = some (16, 10) := ap_old gm27_13
  have hg5 : (m27.1 ++ [(1, nF 1)])[125]? = some (1, nF 1) := ap_new lm27
  have hF : Fr (m27.1 ++ [(1, nF 1)], m27.2.1, m27.2.2) := hF
  show J _ _ _ _ _ _ _ _ _ _ _ (m27.1 ++ [(1, nF 1)], m27.2.1, m27.2.2) _
  refine J_dup dX11_init_214 rfl ?_
  refine J_cN (cXr1 125 (m27.1 ++ [(1, nF 1)], m27.2.1, m27.2.2)) mcX1_init miX1_init (List.mem_of_getElem? (i := 12) rfl) rfl rfl (ctX1_init G hF hl1 hg5) rfl rfl (Nat.le_of_ble_eq_true rfl) (Nat.le_of_ble_eq_true rfl) (Nat.le_of_ble_eq_true rfl) (Nat.le_of_ble_eq_true rfl) (Nat.le_of_ble_eq_true rfl) dX11_init_215 ?_
  have hF := frX1 hF hl1
  have hl6 : (m27.1 ++ [(1, nF 1)] ++ [(13, 60)]).length = 127 := ap_len hl1 rfl
  have hg7 : (m27.1 ++ [(1, nF 1)] ++ [(13, 60)])[0]? = some (11, nF 11) := ap_old hg2
  have hg8 : (m27.1 ++ [(1, nF 1)] ++ [(13, 60)])[1]? = some (17, 6) := ap_old hg3
  have hg9 : (m27.1 ++ [(1, nF 1)] ++ [(13, 60)])[13]? = some (16, 10) := ap_old hg4
  have hg10 : (m27.1 ++ [(1, nF 1)] ++ [(13, 60)])[125]? = some (1, nF 1) := ap_old hg5
  have hl11 : (m27.1 ++ [(1, nF 1)] ++ [(13, 60)] ++ [(13, 60)]).length = 128 := ap_len hl6 rfl
  have hg12 : (m27.1 ++ [(1, nF 1)] ++ [(13, 60)] ++ [(13, 60)])[0]? = some (11, nF 11) := ap_old hg7
  have hg13 : (m27.1 ++ [(1, nF 1)] ++ [(13, 60)] ++ [(13, 60)])[1]? = some (17, 6) := ap_old hg8
  have hg14 : (m27.1 ++ [(1, nF 1)] ++ [(13, 60)] ++ [(13, 60)])[13]? = some (16, 10) := ap_old hg9
  have hg15 : (m27.1 ++ [(1, nF 1)] ++ [(13, 60)] ++ [(13, 60)])[125]? = some (1, nF 1) := ap_old hg10
  have hF : Fr (m27.1 ++ [(1, nF 1)] ++ [(13, 60)] ++ [(13, 60)], upR (upR (m27.2.1) (125) 0 (some (126))) (125) 3 (some (127)), wI (wI (wI (m27.2.2) (125) 1 (0)) (125) 2 (0)) (125) 4 (0)) := hF
  show J _ _ _ _ _ _ _ _ _ _ _ (m27.1 ++ [(1, nF 1)] ++ [(13, 60)] ++ [(13, 60)], upR (upR (m27.2.1) (125) 0 (some (126))) (125) 3 (some (127)), wI (wI (wI (m27.2.2) (125) 1 (0)) (125) 2 (0)) (125) 4 (0)) _
  refine J_aast (C := RX1) (ci := 1) (kd := 16) (N := 10) (by decide) rfl rfl (by decide) hF hg14 hg15 (by decide) (by decide) dX11_init_218 ?_
  intro hF
  exact sg28 G hF
theorem sg26 (G : Gm) (hF : Fr m26) : J G YX11_init 3 145 23501 finH 121 22501 219 [some (vR (some 0)), some (vI (1))] [] m26 (some m34) := by
  refine J_iinc (v := 2) [some (vR (some 0)), some (vI (2))] dX11_init_219 rfl (by decide) (Nat.le_of_ble_eq_true rfl) rfl rfl ?_
  refine J_goto (tgt := 200) dX11_init_222 (by decide) ?_
  refine J_iload_n dX11_init_200 rfl rfl ?_
  refine J_bipush (v := 10) dX11_init_201 (by decide) ?_
  refine J_step_lt (tgt := 225) (by decide) dX11_init_203 (by decide) ?_
  refine J_aload_n dX11_init_206 rfl rfl ?_
  refine J_getR (r := some 13) cf11 klX11_53 gm26_0 (rm26_8) (Or.inr ⟨_, rfl⟩) dX11_init_207 ?_
  refine J_iload_n dX11_init_210 rfl rfl ?_
  refine J_new (a := 122) (C := RX1) cf1 rfl (in1 100 (by rfl) rfl) (in2 50 (by rfl) rfl) (in1 13 (by rfl) rfl) (by decide) hF lm26 (Nat.le_of_ble_eq_true rfl) (Nat.le_of_ble_eq_true rfl) dX11_init_211 ?_
  intro hF
  have hl1 : (m26.1 ++ [(1, nF 1)]).length = 123 := ap_len lm26 rfl
  have hg2 : (m26.1 ++ [(1, nF 1)])[0]? = some (11, nF 11) := ap_old gm26_0
  have hg3 : (m26.1 ++ [(1, nF 1)])[1]? = some (17, 6) := ap_old gm26_1
  have hg4 : (m26.1 ++ [(1, nF 1)])[13]? = some (16, 10) := ap_old gm26_13
  have hg5 : (m26.1 ++ [(1, nF 1)])[122]? = some (1, nF 1) := ap_new lm26
  have hF : Fr (m26.1 ++ [(1, nF 1)], m26.2.1, m26.2.2) := hF
  show J _ _ _ _ _ _ _ _ _ _ _ (m26.1 ++ [(1, nF 1)], m26.2.1, m26.2.2) _
  refine J_dup dX11_init_214 rfl ?_
  refine J_cN (cXr1 122 (m26.1 ++ [(1, nF 1)], m26.2.1, m26.2.2)) mcX1_init miX1_init (List.mem_of_getElem? (i := 12) rfl) rfl rfl (ctX1_init G hF hl1 hg5) rfl rfl (Nat.le_of_ble_eq_true rfl) (Nat.le_of_ble_eq_true rfl) (Nat.le_of_ble_eq_true rfl) (Nat.le_of_ble_eq_true rfl) (Nat.le_of_ble_eq_true rfl) dX11_init_215 ?_
  have hF := frX1 hF hl1
  have hl6 : (m26.1 ++ [(1, nF 1)] ++ [(13, 60)]).length = 124 := ap_len hl1 rfl
  have hg7 : (m26.1 ++ [(1, nF 1)] ++ [(13, 60)])[0]? = some (11, nF 11) := ap_old hg2
  have hg8 : (m26.1 ++ [(1, nF 1)] ++ [(13, 60)])[1]? = some (17, 6) := ap_old hg3
  have hg9 : (m26.1 ++ [(1, nF 1)] ++ [(13, 60)])[13]? = some (16, 10) := ap_old hg4
  have hg10 : (m26.1 ++ [(1, nF 1)] ++ [(13, 60)])[122]? = some (1, nF 1) := ap_old hg5
  have hl11 : (m26.1 ++ [(1, nF 1)] ++ [(13, 60)] ++ [(13, 60)]).length = 125 := ap_len hl6 rfl
  have hg12 : (m26.1 ++ [(1, nF 1)] ++ [(13, 60)] ++ [(13, 60)])[0]? = some (11, nF 11) := ap_old hg7
  have hg13 : (m26.1 ++ [(1, nF 1)] ++ [(13, 60)] ++ [(13, 60)])[1]? = some (17, 6) := ap_old hg8
  have hg14 : (m26.1 ++ [(1, nF 1)] ++ [(13, 60)] ++ [(13, 60)])[13]? = some (16, 10) := ap_old hg9
  have hg15 : (m26.1 ++ [(1, nF 1)] ++ [(13, 60)] ++ [(13, 60)])[122]? = some (1, nF 1) := ap_old hg10
  have hF : Fr (m26.1 ++ [(1, nF 1)] ++ [(13, 60)] ++ [(13, 60)], upR (upR (m26.2.1) (122) 0 (some (123))) (122) 3 (some (124)), wI (wI (wI (m26.2.2) (122) 1 (0)) (122) 2 (0)) (122) 4 (0)) := hF
  show J _ _ _ _ _ _ _ _ _ _ _ (m26.1 ++ [(1, nF 1)] ++ [(13, 60)] ++ [(13, 60)], upR (upR (m26.2.1) (122) 0 (some (123))) (122) 3 (some (124)), wI (wI (wI (m26.2.2) (122) 1 (0)) (122) 2 (0)) (122) 4 (0)) _
  refine J_aast (C := RX1) (ci := 1) (kd := 16) (N := 10) (by decide) rfl rfl (by decide) hF hg14 hg15 (by decide) (by decide) dX11_init_218 ?_
  intro hF
  exact sg27 G hF
theorem sg25 (G : Gm) (hF : Fr m25) : J G YX11_init 3 145 23501 finH 118 22376 219 [some (vR (some 0)), some (vI (0))] [] m25 (some m34) := by
  refine J_iinc (v := 1) [some (vR (some 0)), some (vI (1))] dX11_init_219 rfl (by decide) (Nat.le_of_ble_eq_true rfl) rfl rfl ?_
  refine J_goto (tgt := 200) dX11_init_222 (by decide) ?_
  refine J_iload_n dX11_init_200 rfl rfl ?_
  refine J_bipush (v := 10) dX11_init_201 (by decide) ?_
  refine J_step_lt (tgt := 225) (by decide) dX11_init_203 (by decide) ?_
  refine J_aload_n dX11_init_206 rfl rfl ?_
  refine J_getR (r := some 13) cf11 klX11_53 gm25_0 (rm25_8) (Or.inr ⟨_, rfl⟩) dX11_init_207 ?_
  refine J_iload_n dX11_init_210 rfl rfl ?_
  refine J_new (a := 119) (C := RX1) cf1 rfl (in1 100 (by rfl) rfl) (in2 50 (by rfl) rfl) (in1 13 (by rfl) rfl) (by decide) hF lm25 (Nat.le_of_ble_eq_true rfl) (Nat.le_of_ble_eq_true rfl) dX11_init_211 ?_
  intro hF
  have hl1 : (m25.1 ++ [(1, nF 1)]).length = 120 := ap_len lm25 rfl
  have hg2 : (m25.1 ++ [(1, nF 1)])[0]? = some (11, nF 11) := ap_old gm25_0
  have hg3 : (m25.1 ++ [(1, nF 1)])[1]? = some (17, 6) := ap_old gm25_1
  have hg4 : (m25.1 ++ [(1, nF 1)])[13]? = some (16, 10) := ap_old gm25_13
  have hg5 : (m25.1 ++ [(1, nF 1)])[119]? = some (1, nF 1) := ap_new lm25
  have hF : Fr (m25.1 ++ [(1, nF 1)], m25.2.1, m25.2.2) := hF
  show J _ _ _ _ _ _ _ _ _ _ _ (m25.1 ++ [(1, nF 1)], m25.2.1, m25.2.2) _
  refine J_dup dX11_init_214 rfl ?_
  refine J_cN (cXr1 119 (m25.1 ++ [(1, nF 1)], m25.2.1, m25.2.2)) mcX1_init miX1_init (List.mem_of_getElem? (i := 12) rfl) rfl rfl (ctX1_init G hF hl1 hg5) rfl rfl (Nat.le_of_ble_eq_true rfl) (Nat.le_of_ble_eq_true rfl) (Nat.le_of_ble_eq_true rfl) (Nat.le_of_ble_eq_true rfl) (Nat.le_of_ble_eq_true rfl) dX11_init_215 ?_
  have hF := frX1 hF hl1
  have hl6 : (m25.1 ++ [(1, nF 1)] ++ [(13, 60)]).length = 121 := ap_len hl1 rfl
  have hg7 : (m25.1 ++ [(1, nF 1)] ++ [(13, 60)])[0]? = some (11, nF 11) := ap_old hg2
  have hg8 : (m25.1 ++ [(1, nF 1)] ++ [(13, 60)])[1]? = some (17, 6) := ap_old hg3
  have hg9 : (m25.1 ++ [(1, nF 1)] ++ [(13, 60)])[13]? = some (16, 10) := ap_old hg4
  have hg10 : (m25.1 ++ [(1, nF 1)] ++ [(13, 60)])[119]? = some (1, nF 1) := ap_old hg5
  have hl11 : (m25.1 ++ [(1, nF 1)] ++ [(13, 60)] ++ [(13, 60)]).length = 122 := ap_len hl6 rfl
  have hg12 : (m25.1 ++ [(1, nF 1)] ++ [(13, 60)] ++ [(13, 60)])[0]? = some (11, nF 11) := ap_old hg7
  have hg13 : (m25.1 ++ [(1, nF 1)] ++ [(13, 60)] ++ [(13, 60)])[1]? = some (17, 6) := ap_old hg8
  have hg14 : (m25.1 ++ [(1, nF 1)] ++ [(13, 60)] ++ [(13, 60)])[13]? = some (16, 10) := ap_old hg9
  have hg15 : (m25.1 ++ [(1, nF 1)] ++ [(13, 60)] ++ [(13, 60)])[119]? = some (1, nF 1) := ap_old hg10
  have hF : Fr (m25.1 ++ [(1, nF 1)] ++ [(13, 60)] ++ [(13, 60)], upR (upR (m25.2.1) (119) 0 (some (120))) (119) 3 (some (121)), wI (wI (wI (m25.2.2) (119) 1 (0)) (119) 2 (0)) (119) 4 (0)) := hF
  show J _ _ _ _ _ _ _ _ _ _ _ (m25.1 ++ [(1, nF 1)] ++ [(13, 60)] ++ [(13, 60)], upR (upR (m25.2.1) (119) 0 (some (120))) (119) 3 (some (121)), wI (wI (wI (m25.2.2) (119) 1 (0)) (119) 2 (0)) (119) 4 (0)) _
  refine J_aast (C := RX1) (ci := 1) (kd := 16) (N := 10) (by decide) rfl rfl (by decide) hF hg14 hg15 (by decide) (by decide) dX11_init_218 ?_
  intro hF
  exact sg26 G hF
theorem sg24 (G : Gm) (hF : Fr m24) : J G YX11_init 3 145 23501 finH 115 22251 192 [some (vR (some 0)), some (vI (5))] [] m24 (some m34) := by
  refine J_iinc (v := 6) [some (vR (some 0)), some (vI (6))] dX11_init_192 rfl (by decide) (Nat.le_of_ble_eq_true rfl) rfl rfl ?_
  refine J_goto (tgt := 173) dX11_init_195 (by decide) ?_
  refine J_iload_n dX11_init_173 rfl rfl ?_
  refine J_bipush (v := 6) dX11_init_174 (by decide) ?_
  refine J_step_ge (tgt := 198) (by decide) dX11_init_176 (by decide) ?_
  refine J_iconst (v := 0) dX11_init_198 (by decide) ?_
  refine J_istore_n [some (vR (some 0)), some (vI (0))] dX11_init_199 rfl (Nat.le_of_ble_eq_true rfl) rfl rfl ?_
  refine J_iload_n dX11_init_200 rfl rfl ?_
  refine J_bipush (v := 10) dX11_init_201 (by decide) ?_
  refine J_step_lt (tgt := 225) (by decide) dX11_init_203 (by decide) ?_
  refine J_aload_n dX11_init_206 rfl rfl ?_
  refine J_getR (r := some 13) cf11 klX11_53 gm24_0 (rm24_8) (Or.inr ⟨_, rfl⟩) dX11_init_207 ?_
  refine J_iload_n dX11_init_210 rfl rfl ?_
  refine J_new (a := 116) (C := RX1) cf1 rfl (in1 100 (by rfl) rfl) (in2 50 (by rfl) rfl) (in1 13 (by rfl) rfl) (by decide) hF lm24 (Nat.le_of_ble_eq_true rfl) (Nat.le_of_ble_eq_true rfl) dX11_init_211 ?_
  intro hF
  have hl1 : (m24.1 ++ [(1, nF 1)]).length = 117 := ap_len lm24 rfl
  have hg2 : (m24.1 ++ [(1, nF 1)])[0]? = some (11, nF 11) := ap_old gm24_0
  have hg3 : (m24.1 ++ [(1, nF 1)])[1]? = some (17, 6) := ap_old gm24_1
  have hg4 : (m24.1 ++ [(1, nF 1)])[13]? = some (16, 10) := ap_old gm24_13
  have hg5 : (m24.1 ++ [(1, nF 1)])[116]? = some (1, nF 1) := ap_new lm24
  have hF : Fr (m24.1 ++ [(1, nF 1)], m24.2.1, m24.2.2) := hF
  show J _ _ _ _ _ _ _ _ _ _ _ (m24.1 ++ [(1, nF 1)], m24.2.1, m24.2.2) _
  refine J_dup dX11_init_214 rfl ?_
  refine J_cN (cXr1 116 (m24.1 ++ [(1, nF 1)], m24.2.1, m24.2.2)) mcX1_init miX1_init (List.mem_of_getElem? (i := 12) rfl) rfl rfl (ctX1_init G hF hl1 hg5) rfl rfl (Nat.le_of_ble_eq_true rfl) (Nat.le_of_ble_eq_true rfl) (Nat.le_of_ble_eq_true rfl) (Nat.le_of_ble_eq_true rfl) (Nat.le_of_ble_eq_true rfl) dX11_init_215 ?_
  have hF := frX1 hF hl1
  have hl6 : (m24.1 ++ [(1, nF 1)] ++ [(13, 60)]).length = 118 := ap_len hl1 rfl
  have hg7 : (m24.1 ++ [(1, nF 1)] ++ [(13, 60)])[0]? = some (11, nF 11) := ap_old hg2
  have hg8 : (m24.1 ++ [(1, nF 1)] ++ [(13, 60)])[1]? = some (17, 6) := ap_old hg3
  have hg9 : (m24.1 ++ [(1, nF 1)] ++ [(13, 60)])[13]? = some (16, 10) := ap_old hg4
  have hg10 : (m24.1 ++ [(1, nF 1)] ++ [(13, 60)])[116]? = some (1, nF 1) := ap_old hg5
  have hl11 : (m24.1 ++ [(1, nF 1)] ++ [(13, 60)] ++ [(13, 60)]).length = 119 := ap_len hl6 rfl
  have hg12 : (m24.1 ++ [(1, nF 1)] ++ [(13, 60)] ++ [(13, 60)])[0]? = some (11, nF 11) := ap_old hg7
  have hg13 : (m24.1 ++ [(1, nF 1)] ++ [(13, 60)] ++ [(13, 60)])[1]? = some (17, 6) := ap_old hg8
  have hg14 : (m24.1 ++ [(1, nF 1)] ++ [(13, 60)] ++ [(13, 60)])[13]? = some (16, 10) := ap_old hg9
  have hg15 : (m24.1 ++ [(1, nF 1)] ++ [(13, 60)] ++ [(13, 60)])[116]? = some (1, nF 1) := ap_old hg10
  have hF : Fr (m24.1 ++ [(1, nF 1)] ++ [(13, 60)] ++ [(13, 60)], upR (upR (m24.2.1) (116) 0 (some (117))) (116) 3 (some (118)), wI (wI (wI (m24.2.2) (116) 1 (0)) (116) 2 (0)) (116) 4 (0)) := hF
  show J _ _ _ _ _ _ _ _ _ _ _ (m24.1 ++ [(1, nF 1)] ++ [(13, 60)] ++ [(13, 60)], upR (upR (m24.2.1) (116) 0 (some (117))) (116) 3 (some (118)), wI (wI (wI (m24.2.2) (116) 1 (0)) (116) 2 (0)) (116) 4 (0)) _
  refine J_aast (C := RX1) (ci := 1) (kd := 16) (N := 10) (by decide) rfl rfl (by decide) hF hg14 hg15 (by decide) (by decide) dX11_init_218 ?_
  intro hF
  exact sg25 G hF
theorem sg23 (G : Gm) (hF : Fr m23) : J G YX11_init 3 145 23501 finH 104 22169 192 [some (vR (some 0)), some (vI (4))] [] m23 (some m34) := by
  refine J_iinc (v := 5) [some (vR (some 0)), some (vI (5))] dX11_init_192 rfl (by decide) (Nat.le_of_ble_eq_true rfl) rfl rfl ?_
  refine J_goto (tgt := 173) dX11_init_195 (by decide) ?_
  refine J_iload_n dX11_init_173 rfl rfl ?_
  refine J_bipush (v := 6) dX11_init_174 (by decide) ?_
  refine J_step_lt (tgt := 198) (by decide) dX11_init_176 (by decide) ?_
  refine J_aload_n dX11_init_179 rfl rfl ?_
  refine J_getR (r := some 1) cf11 klX11_11 gm23_0 (rm23_0) (Or.inr ⟨_, rfl⟩) dX11_init_180 ?_
  refine J_iload_n dX11_init_183 rfl rfl ?_
  refine J_new (a := 105) (C := RX3) cf3 rfl (in1 25 (by rfl) rfl) (in2 21 (by rfl) rfl) (in1 12 (by rfl) rfl) (by decide) hF lm23 (Nat.le_of_ble_eq_true rfl) (Nat.le_of_ble_eq_true rfl) dX11_init_184 ?_
  intro hF
  have hl1 : (m23.1 ++ [(3, nF 3)]).length = 106 := ap_len lm23 rfl
  have hg2 : (m23.1 ++ [(3, nF 3)])[0]? = some (11, nF 11) := ap_old gm23_0
  have hg3 : (m23.1 ++ [(3, nF 3)])[1]? = some (17, 6) := ap_old gm23_1
  have hg4 : (m23.1 ++ [(3, nF 3)])[13]? = some (16, 10) := ap_old gm23_13
  have hg5 : (m23.1 ++ [(3, nF 3)])[105]? = some (3, nF 3) := ap_new lm23
  have hF : Fr (m23.1 ++ [(3, nF 3)], m23.2.1, m23.2.2) := hF
  show J _ _ _ _ _ _ _ _ _ _ _ (m23.1 ++ [(3, nF 3)], m23.2.1, m23.2.2) _
  refine J_dup dX11_init_187 rfl ?_
  refine J_cN (cXr3 105 (m23.1 ++ [(3, nF 3)], m23.2.1, m23.2.2)) mcX3_init miX3_init (List.mem_of_getElem? (i := 11) rfl) rfl rfl (ctX3_init G hF hl1 hg5) rfl rfl (Nat.le_of_ble_eq_true rfl) (Nat.le_of_ble_eq_true rfl) (Nat.le_of_ble_eq_true rfl) (Nat.le_of_ble_eq_true rfl) (Nat.le_of_ble_eq_true rfl) dX11_init_188 ?_
  have hF := frX3 hF hl1
  have hl6 : (m23.1 ++ [(3, nF 3)] ++ [(13, 12)]).length = 107 := ap_len hl1 rfl
  have hg7 : (m23.1 ++ [(3, nF 3)] ++ [(13, 12)])[0]? = some (11, nF 11) := ap_old hg2
  have hg8 : (m23.1 ++ [(3, nF 3)] ++ [(13, 12)])[1]? = some (17, 6) := ap_old hg3
  have hg9 : (m23.1 ++ [(3, nF 3)] ++ [(13, 12)])[13]? = some (16, 10) := ap_old hg4
  have hg10 : (m23.1 ++ [(3, nF 3)] ++ [(13, 12)])[105]? = some (3, nF 3) := ap_old hg5
  have hl11 : (m23.1 ++ [(3, nF 3)] ++ [(13, 12)] ++ [(13, 12)]).length = 108 := ap_len hl6 rfl
  have hg12 : (m23.1 ++ [(3, nF 3)] ++ [(13, 12)] ++ [(13, 12)])[0]? = some (11, nF 11) := ap_old hg7
  have hg13 : (m23.1 ++ [(3, nF 3)] ++ [(13, 12)] ++ [(13, 12)])[1]? = some (17, 6) := ap_old hg8
  have hg14 : (m23.1 ++ [(3, nF 3)] ++ [(13, 12)] ++ [(13, 12)])[13]? = some (16, 10) := ap_old hg9
  have hg15 : (m23.1 ++ [(3, nF 3)] ++ [(13, 12)] ++ [(13, 12)])[105]? = some (3, nF 3) := ap_old hg10
  have hl16 : (m23.1 ++ [(3, nF 3)] ++ [(13, 12)] ++ [(13, 12)] ++ [(13, 12)]).length = 109 := ap_len hl11 rfl
  have hg17 : (m23.1 ++ [(3, nF 3)] ++ [(13, 12)] ++ [(13, 12)] ++ [(13, 12)])[0]? = some (11, nF 11) := ap_old hg12
  have hg18 : (m23.1 ++ [(3, nF 3)] ++ [(13, 12)] ++ [(13, 12)] ++ [(13, 12)])[1]? = some (17, 6) := ap_old hg13
  have hg19 : (m23.1 ++ [(3, nF 3)] ++ [(13, 12)] ++ [(13, 12)] ++ [(13, 12)])[13]? = some (16, 10) := ap_old hg14
  have hg20 : (m23.1 ++ [(3, nF 3)] ++ [(13, 12)] ++ [(13, 12)] ++ [(13, 12)])[105]? = some (3, nF 3) := ap_old hg15
  have hl21 : (m23.1 ++ [(3, nF 3)] ++ [(13, 12)] ++ [(13, 12)] ++ [(13, 12)] ++ ((18, 4) :: List.replicate 4 (13, 4))).length = 114 := ap_len hl16 rfl
  have hg22 : (m23.1 ++ [(3, nF 3)] ++ [(13, 12)] ++ [(13, 12)] ++ [(13, 12)] ++ ((18, 4) :: List.replicate 4 (13, 4)))[0]? = some (11, nF 11) := ap_old hg17
  have hg23 : (m23.1 ++ [(3, nF 3)] ++ [(13, 12)] ++ [(13, 12)] ++ [(13, 12)] ++ ((18, 4) :: List.replicate 4 (13, 4)))[1]? = some (17, 6) := ap_old hg18
  have hg24 : (m23.1 ++ [(3, nF 3)] ++ [(13, 12)] ++ [(13, 12)] ++ [(13, 12)] ++ ((18, 4) :: List.replicate 4 (13, 4)))[13]? = some (16, 10) := ap_old hg19
  have hg25 : (m23.1 ++ [(3, nF 3)] ++ [(13, 12)] ++ [(13, 12)] ++ [(13, 12)] ++ ((18, 4) :: List.replicate 4 (13, 4)))[105]? = some (3, nF 3) := ap_old hg20
  have hl26 : (m23.1 ++ [(3, nF 3)] ++ [(13, 12)] ++ [(13, 12)] ++ [(13, 12)] ++ ((18, 4) :: List.replicate 4 (13, 4)) ++ [(13, 4)]).length = 115 := ap_len hl21 rfl
  have hg27 : (m23.1 ++ [(3, nF 3)] ++ [(13, 12)] ++ [(13, 12)] ++ [(13, 12)] ++ ((18, 4) :: List.replicate 4 (13, 4)) ++ [(13, 4)])[0]? = some (11, nF 11) := ap_old hg22
  have hg28 : (m23.1 ++ [(3, nF 3)] ++ [(13, 12)] ++ [(13, 12)] ++ [(13, 12)] ++ ((18, 4) :: List.replicate 4 (13, 4)) ++ [(13, 4)])[1]? = some (17, 6) := ap_old hg23
  have hg29 : (m23.1 ++ [(3, nF 3)] ++ [(13, 12)] ++ [(13, 12)] ++ [(13, 12)] ++ ((18, 4) :: List.replicate 4 (13, 4)) ++ [(13, 4)])[13]? = some (16, 10) := ap_old hg24
  have hg30 : (m23.1 ++ [(3, nF 3)] ++ [(13, 12)] ++ [(13, 12)] ++ [(13, 12)] ++ ((18, 4) :: List.replicate 4 (13, 4)) ++ [(13, 4)])[105]? = some (3, nF 3) := ap_old hg25
  have hl31 : (m23.1 ++ [(3, nF 3)] ++ [(13, 12)] ++ [(13, 12)] ++ [(13, 12)] ++ ((18, 4) :: List.replicate 4 (13, 4)) ++ [(13, 4)] ++ [(13, 15)]).length = 116 := ap_len hl26 rfl
  have hg32 : (m23.1 ++ [(3, nF 3)] ++ [(13, 12)] ++ [(13, 12)] ++ [(13, 12)] ++ ((18, 4) :: List.replicate 4 (13, 4)) ++ [(13, 4)] ++ [(13, 15)])[0]? = some (11, nF 11) := ap_old hg27
  have hg33 : (m23.1 ++ [(3, nF 3)] ++ [(13, 12)] ++ [(13, 12)] ++ [(13, 12)] ++ ((18, 4) :: List.replicate 4 (13, 4)) ++ [(13, 4)] ++ [(13, 15)])[1]? = some (17, 6) := ap_old hg28
  have hg34 : (m23.1 ++ [(3, nF 3)] ++ [(13, 12)] ++ [(13, 12)] ++ [(13, 12)] ++ ((18, 4) :: List.replicate 4 (13, 4)) ++ [(13, 4)] ++ [(13, 15)])[13]? = some (16, 10) := ap_old hg29
  have hg35 : (m23.1 ++ [(3, nF 3)] ++ [(13, 12)] ++ [(13, 12)] ++ [(13, 12)] ++ ((18, 4) :: List.replicate 4 (13, 4)) ++ [(13, 4)] ++ [(13, 15)])[105]? = some (3, nF 3) := ap_old hg30
  have hF : Fr (m23.1 ++ [(3, nF 3)] ++ [(13, 12)] ++ [(13, 12)] ++ [(13, 12)] ++ ((18, 4) :: List.replicate 4 (13, 4)) ++ [(13, 4)] ++ [(13, 15)], upR (upR (upR (rfM (upR (upR (upR (m23.2.1) (105) 1 (some (106))) (105) 2 (some (107))) (105) 3 (some (108))) (109) 4) (105) 4 (some (109))) (105) 5 (some (114))) (105) 6 (some (115)), wI (m23.2.2) (105) 0 (0)) := hF
  show J _ _ _ _ _ _ _ _ _ _ _ (m23.1 ++ [(3, nF 3)] ++ [(13, 12)] ++ [(13, 12)] ++ [(13, 12)] ++ ((18, 4) :: List.replicate 4 (13, 4)) ++ [(13, 4)] ++ [(13, 15)], upR (upR (upR (rfM (upR (upR (upR (m23.2.1) (105) 1 (some (106))) (105) 2 (some (107))) (105) 3 (some (108))) (109) 4) (105) 4 (some (109))) (105) 5 (some (114))) (105) 6 (some (115)), wI (m23.2.2) (105) 0 (0)) _
  refine J_aast (C := RX3) (ci := 3) (kd := 17) (N := 6) (by decide) rfl rfl (by decide) hF hg33 hg35 (by decide) (by decide) dX11_init_191 ?_
  intro hF
  exact sg24 G hF
theorem sg22 (G : Gm) (hF : Fr m22) : J G YX11_init 3 145 23501 finH 93 22087 192 [some (vR (some 0)), some (vI (3))] [] m22 (some m34) := by
  refine J_iinc (v := 4) [some (vR (some 0)), some (vI (4))] dX11_init_192 rfl (by decide) (Nat.le_of_ble_eq_true rfl) rfl rfl ?_
  refine J_goto (tgt := 173) dX11_init_195 (by decide) ?_
  refine J_iload_n dX11_init_173 rfl rfl ?_
  refine J_bipush (v := 6) dX11_init_174 (by decide) ?_
  refine J_step_lt (tgt := 198) (by decide) dX11_init_176 (by decide) ?_
  refine J_aload_n dX11_init_179 rfl rfl ?_
  refine J_getR (r := some 1) cf11 klX11_11 gm22_0 (rm22_0) (Or.inr ⟨_, rfl⟩) dX11_init_180 ?_
  refine J_iload_n dX11_init_183 rfl rfl ?_
  refine J_new (a := 94) (C := RX3) cf3 rfl (in1 25 (by rfl) rfl) (in2 21 (by rfl) rfl) (in1 12 (by rfl) rfl) (by decide) hF lm22 (Nat.le_of_ble_eq_true rfl) (Nat.le_of_ble_eq_true rfl) dX11_init_184 ?_
  intro hF
  have hl1 : (m22.1 ++ [(3, nF 3)]).length = 95 := ap_len lm22 rfl
  have hg2 : (m22.1 ++ [(3, nF 3)])[0]? = some (11, nF 11) := ap_old gm22_0
  have hg3 : (m22.1 ++ [(3, nF 3)])[1]? = some (17, 6) := ap_old gm22_1
  have hg4 : (m22.1 ++ [(3, nF 3)])[13]? = some (16, 10) := ap_old gm22_13
  have hg5 : (m22.1 ++ [(3, nF 3)])[94]? = some (3, nF 3) := ap_new lm22
  have hF : Fr (m22.1 ++ [(3, nF 3)], m22.2.1, m22.2.2) := hF
  show J _ _ _ _ _ _ _ _ _ _ _ (m22.1 ++ [(3, nF 3)], m22.2.1, m22.2.2) _
  refine J_dup dX11_init_187 rfl ?_
  refine J_cN (cXr3 94 (m22.1 ++ [(3, nF 3)], m22.2.1, m22.2.2)) mcX3_init miX3_init (List.mem_of_getElem? (i := 11) rfl) rfl rfl (ctX3_init G hF hl1 hg5) rfl rfl (Nat.le_of_ble_eq_true rfl) (Nat.le_of_ble_eq_true rfl) (Nat.le_of_ble_eq_true rfl) (Nat.le_of_ble_eq_true rfl) (Nat.le_of_ble_eq_true rfl) dX11_init_188 ?_
  have hF := frX3 hF hl1
  have hl6 : (m22.1 ++ [(3, nF 3)] ++ [(13, 12)]).length = 96 := ap_len hl1 rfl
  have hg7 : (m22.1 ++ [(3, nF 3)] ++ [(13, 12)])[0]? = some (11, nF 11) := ap_old hg2
  have hg8 : (m22.1 ++ [(3, nF 3)] ++ [(13, 12)])[1]? = some (17, 6) := ap_old hg3
  have hg9 : (m22.1 ++ [(3, nF 3)] ++ [(13, 12)])[13]? = some (16, 10) := ap_old hg4
  have hg10 : (m22.1 ++ [(3, nF 3)] ++ [(13, 12)])[94]? = some (3, nF 3) := ap_old hg5
  have hl11 : (m22.1 ++ [(3, nF 3)] ++ [(13, 12)] ++ [(13, 12)]).length = 97 := ap_len hl6 rfl
  have hg12 : (m22.1 ++ [(3, nF 3)] ++ [(13, 12)] ++ [(13, 12)])[0]? = some (11, nF 11) := ap_old hg7
  have hg13 : (m22.1 ++ [(3, nF 3)] ++ [(13, 12)] ++ [(13, 12)])[1]? = some (17, 6) := ap_old hg8
  have hg14 : (m22.1 ++ [(3, nF 3)] ++ [(13, 12)] ++ [(13, 12)])[13]? = some (16, 10) := ap_old hg9
  have hg15 : (m22.1 ++ [(3, nF 3)] ++ [(13, 12)] ++ [(13, 12)])[94]? = some (3, nF 3) := ap_old hg10
  have hl16 : (m22.1 ++ [(3, nF 3)] ++ [(13, 12)] ++ [(13, 12)] ++ [(13, 12)]).length = 98 := ap_len hl11 rfl
  have hg17 : (m22.1 ++ [(3, nF 3)] ++ [(13, 12)] ++ [(13, 12)] ++ [(13, 12)])[0]? = some (11, nF 11) := ap_old hg12
  have hg18 : (m22.1 ++ [(3, nF 3)] ++ [(13, 12)] ++ [(13, 12)] ++ [(13, 12)])[1]? = some (17, 6) := ap_old hg13
  have hg19 : (m22.1 ++ [(3, nF 3)] ++ [(13, 12)] ++ [(13, 12)] ++ [(13, 12)])[13]? = some (16, 10) := ap_old hg14
  have hg20 : (m22.1 ++ [(3, nF 3)] ++ [(13, 12)] ++ [(13, 12)] ++ [(13, 12)])[94]? = some (3, nF 3) := ap_old hg15
  have hl21 : (m22.1 ++ [(3, nF 3)] ++ [(13, 12)] ++ [(13, 12)] ++ [(13, 12)] ++ ((18, 4) :: List.replicate 4 (13, 4))).length = 103 := ap_len hl16 rfl
  have hg22 : (m22.1 ++ [(3, nF 3)] ++ [(13, 12)] ++ [(13, 12)] ++ [(13, 12)] ++ ((18, 4) :: List.replicate 4 (13, 4)))[0]? = some (11, nF 11) := ap_old hg17
  have hg23 : (m22.1 ++ [(3, nF 3)] ++ [(13, 12)] ++ [(13, 12)] ++ [(13, 12)] ++ ((18, 4) :: List.replicate 4 (13, 4)))[1]? = some (17, 6) := ap_old hg18
  have hg24 : (m22.1 ++ [(3, nF 3)] ++ [(13, 12)] ++ [(13, 12)] ++ [(13, 12)] ++ ((18, 4) :: List.replicate 4 (13, 4)))[13]? = some (16, 10) := ap_old hg19
  have hg25 : (m22.1 ++ [(3, nF 3)] ++ [(13, 12)] ++ [(13, 12)] ++ [(13, 12)] ++ ((18, 4) :: List.replicate 4 (13, 4)))[94]? = some (3, nF 3) := ap_old hg20
  have hl26 : (m22.1 ++ [(3, nF 3)] ++ [(13, 12)] ++ [(13, 12)] ++ [(13, 12)] ++ ((18, 4) :: List.replicate 4 (13, 4)) ++ [(13, 4)]).length = 104 := ap_len hl21 rfl
  have hg27 : (m22.1 ++ [(3, nF 3)] ++ [(13, 12)] ++ [(13, 12)] ++ [(13, 12)] ++ ((18, 4) :: List.replicate 4 (13, 4)) ++ [(13, 4)])[0]? = some (11, nF 11) := ap_old hg22
  have hg28 : (m22.1 ++ [(3, nF 3)] ++ [(13, 12)] ++ [(13, 12)] ++ [(13, 12)] ++ ((18, 4) :: List.replicate 4 (13, 4)) ++ [(13, 4)])[1]? = some (17, 6) := ap_old hg23
  have hg29 : (m22.1 ++ [(3, nF 3)] ++ [(13, 12)] ++ [(13, 12)] ++ [(13, 12)] ++ ((18, 4) :: List.replicate 4 (13, 4)) ++ [(13, 4)])[13]? = some (16, 10) := ap_old hg24
  have hg30 : (m22.1 ++ [(3, nF 3)] ++ [(13, 12)] ++ [(13, 12)] ++ [(13, 12)] ++ ((18, 4) :: List.replicate 4 (13, 4)) ++ [(13, 4)])[94]? = some (3, nF 3) := ap_old hg25
  have hl31 : (m22.1 ++ [(3, nF 3)] ++ [(13, 12)] ++ [(13, 12)] ++ [(13, 12)] ++ ((18, 4) :: List.replicate 4 (13, 4)) ++ [(13, 4)] ++ [(13, 15)]).length = 105 := ap_len hl26 rfl
  have hg32 : (m22.1 ++ [(3, nF 3)] ++ [(13, 12)] ++ [(13, 12)] ++ [(13, 12)] ++ ((18, 4) :: List.replicate 4 (13, 4)) ++ [(13, 4)] ++ [(13, 15)])[0]? = some (11, nF 11) := ap_old hg27
  have hg33 : (m22.1 ++ [(3, nF 3)] ++ [(13, 12)] ++ [(13, 12)] ++ [(13, 12)] ++ ((18, 4) :: List.replicate 4 (13, 4)) ++ [(13, 4)] ++ [(13, 15)])[1]? = some (17, 6) := ap_old hg28
  have hg34 : (m22.1 ++ [(3, nF 3)] ++ [(13, 12)] ++ [(13, 12)] ++ [(13, 12)] ++ ((18, 4) :: List.replicate 4 (13, 4)) ++ [(13, 4)] ++ [(13, 15)])[13]? = some (16, 10) := ap_old hg29
  have hg35 : (m22.1 ++ [(3, nF 3)] ++ [(13, 12)] ++ [(13, 12)] ++ [(13, 12)] ++ ((18, 4) :: List.replicate 4 (13, 4)) ++ [(13, 4)] ++ [(13, 15)])[94]? = some (3, nF 3) := ap_old hg30
  have hF : Fr (m22.1 ++ [(3, nF 3)] ++ [(13, 12)] ++ [(13, 12)] ++ [(13, 12)] ++ ((18, 4) :: List.replicate 4 (13, 4)) ++ [(13, 4)] ++ [(13, 15)], upR (upR (upR (rfM (upR (upR (upR (m22.2.1) (94) 1 (some (95))) (94) 2 (some (96))) (94) 3 (some (97))) (98) 4) (94) 4 (some (98))) (94) 5 (some (103))) (94) 6 (some (104)), wI (m22.2.2) (94) 0 (0)) := hF
  show J _ _ _ _ _ _ _ _ _ _ _ (m22.1 ++ [(3, nF 3)] ++ [(13, 12)] ++ [(13, 12)] ++ [(13, 12)] ++ ((18, 4) :: List.replicate 4 (13, 4)) ++ [(13, 4)] ++ [(13, 15)], upR (upR (upR (rfM (upR (upR (upR (m22.2.1) (94) 1 (some (95))) (94) 2 (some (96))) (94) 3 (some (97))) (98) 4) (94) 4 (some (98))) (94) 5 (some (103))) (94) 6 (some (104)), wI (m22.2.2) (94) 0 (0)) _
  refine J_aast (C := RX3) (ci := 3) (kd := 17) (N := 6) (by decide) rfl rfl (by decide) hF hg33 hg35 (by decide) (by decide) dX11_init_191 ?_
  intro hF
  exact sg23 G hF
theorem sg21 (G : Gm) (hF : Fr m21) : J G YX11_init 3 145 23501 finH 82 22005 192 [some (vR (some 0)), some (vI (2))] [] m21 (some m34) := by
  refine J_iinc (v := 3) [some (vR (some 0)), some (vI (3))] dX11_init_192 rfl (by decide) (Nat.le_of_ble_eq_true rfl) rfl rfl ?_
  refine J_goto (tgt := 173) dX11_init_195 (by decide) ?_
  refine J_iload_n dX11_init_173 rfl rfl ?_
  refine J_bipush (v := 6) dX11_init_174 (by decide) ?_
  refine J_step_lt (tgt := 198) (by decide) dX11_init_176 (by decide) ?_
  refine J_aload_n dX11_init_179 rfl rfl ?_
  refine J_getR (r := some 1) cf11 klX11_11 gm21_0 (rm21_0) (Or.inr ⟨_, rfl⟩) dX11_init_180 ?_
  refine J_iload_n dX11_init_183 rfl rfl ?_
  refine J_new (a := 83) (C := RX3) cf3 rfl (in1 25 (by rfl) rfl) (in2 21 (by rfl) rfl) (in1 12 (by rfl) rfl) (by decide) hF lm21 (Nat.le_of_ble_eq_true rfl) (Nat.le_of_ble_eq_true rfl) dX11_init_184 ?_
  intro hF
  have hl1 : (m21.1 ++ [(3, nF 3)]).length = 84 := ap_len lm21 rfl
  have hg2 : (m21.1 ++ [(3, nF 3)])[0]? = some (11, nF 11) := ap_old gm21_0
  have hg3 : (m21.1 ++ [(3, nF 3)])[1]? = some (17, 6) := ap_old gm21_1
  have hg4 : (m21.1 ++ [(3, nF 3)])[13]? = some (16, 10) := ap_old gm21_13
  have hg5 : (m21.1 ++ [(3, nF 3)])[83]? = some (3, nF 3) := ap_new lm21
  have hF : Fr (m21.1 ++ [(3, nF 3)], m21.2.1, m21.2.2) := hF
  show J _ _ _ _ _ _ _ _ _ _ _ (m21.1 ++ [(3, nF 3)], m21.2.1, m21.2.2) _
  refine J_dup dX11_init_187 rfl ?_
  refine J_cN (cXr3 83 (m21.1 ++ [(3, nF 3)], m21.2.1, m21.2.2)) mcX3_init miX3_init (List.mem_of_getElem? (i := 11) rfl) rfl rfl (ctX3_init G hF hl1 hg5) rfl rfl (Nat.le_of_ble_eq_true rfl) (Nat.le_of_ble_eq_true rfl) (Nat.le_of_ble_eq_true rfl) (Nat.le_of_ble_eq_true rfl) (Nat.le_of_ble_eq_true rfl) dX11_init_188 ?_
  have hF := frX3 hF hl1
  have hl6 : (m21.1 ++ [(3, nF 3)] ++ [(13, 12)]).length = 85 := ap_len hl1 rfl
  have hg7 : (m21.1 ++ [(3, nF 3)] ++ [(13, 12)])[0]? = some (11, nF 11) := ap_old hg2
  have hg8 : (m21.1 ++ [(3, nF 3)] ++ [(13, 12)])[1]? = some (17, 6) := ap_old hg3
  have hg9 : (m21.1 ++ [(3, nF 3)] ++ [(13, 12)])[13]? = some (16, 10) := ap_old hg4
  have hg10 : (m21.1 ++ [(3, nF 3)] ++ [(13, 12)])[83]? = some (3, nF 3) := ap_old hg5
  have hl11 : (m21.1 ++ [(3, nF 3)] ++ [(13, 12)] ++ [(13, 12)]).length = 86 := ap_len hl6 rfl
  have hg12 : (m21.1 ++ [(3, nF 3)] ++ [(13, 12)] ++ [(13, 12)])[0]? = some (11, nF 11) := ap_old hg7
  have hg13 : (m21.1 ++ [(3, nF 3)] ++ [(13, 12)] ++ [(13, 12)])[1]? = some (17, 6) := ap_old hg8
  have hg14 : (m21.1 ++ [(3, nF 3)] ++ [(13, 12)] ++ [(13, 12)])[13]? = some (16, 10) := ap_old hg9
  have hg15 : (m21.1 ++ [(3, nF 3)] ++ [(13, 12)] ++ [(13, 12)])[83]? = some (3, nF 3) := ap_old hg10
  have hl16 : (m21.1 ++ [(3, nF 3)] ++ [(13, 12)] ++ [(13, 12)] ++ [(13, 12)]).length = 87 := ap_len hl11 rfl
  have hg17 : (m21.1 ++ [(3, nF 3)] ++ [(13, 12)] ++ [(13, 12)] ++ [(13, 12)])[0]? = some (11, nF 11) := ap_old hg12
  have hg18 : (m21.1 ++ [(3, nF 3)] ++ [(13, 12)] ++ [(13, 12)] ++ [(13, 12)])[1]? = some (17, 6) := ap_old hg13
  have hg19 : (m21.1 ++ [(3, nF 3)] ++ [(13, 12)] ++ [(13, 12)] ++ [(13, 12)])[13]? = some (16, 10) := ap_old hg14
  have hg20 : (m21.1 ++ [(3, nF 3)] ++ [(13, 12)] ++ [(13, 12)] ++ [(13, 12)])[83]? = some (3, nF 3) := ap_old hg15
  have hl21 : (m21.1 ++ [(3, nF 3)] ++ [(13, 12)] ++ [(13, 12)] ++ [(13, 12)] ++ ((18, 4) :: List.replicate 4 (13, 4))).length = 92 := ap_len hl16 rfl
  have hg22 : (m21.1 ++ [(3, nF 3)] ++ [(13, 12)] ++ [(13, 12)] ++ [(13, 12)] ++ ((18, 4) :: List.replicate 4 (13, 4)))[0]? = some (11, nF 11) := ap_old hg17
  have hg23 : (m21.1 ++ [(3, nF 3)] ++ [(13, 12)] ++ [(13, 12)] ++ [(13, 12)] ++ ((18, 4) :: List.replicate 4 (13, 4)))[1]? = some (17, 6) := ap_old hg18
  have hg24 : (m21.1 ++ [(3, nF 3)] ++ [(13, 12)] ++ [(13, 12)] ++ [(13, 12)] ++ ((18, 4) :: List.replicate 4 (13, 4)))[13]? = some (16, 10) := ap_old hg19
  have hg25 : (m21.1 ++ [(3, nF 3)] ++ [(13, 12)] ++ [(13, 12)] ++ [(13, 12)] ++ ((18, 4) :: List.replicate 4 (13, 4)))[83]? = some (3, nF 3) := ap_old hg20
  have hl26 : (m21.1 ++ [(3, nF 3)] ++ [(13, 12)] ++ [(13, 12)] ++ [(13, 12)] ++ ((18, 4) :: List.replicate 4 (13, 4)) ++ [(13, 4)]).length = 93 := ap_len hl21 rfl
  have hg27 : (m21.1 ++ [(3, nF 3)] ++ [(13, 12)] ++ [(13, 12)] ++ [(13, 12)] ++ ((18, 4) :: List.replicate 4 (13, 4)) ++ [(13, 4)])[0]? = some (11, nF 11) := ap_old hg22
  have hg28 : (m21.1 ++ [(3, nF 3)] ++ [(13, 12)] ++ [(13, 12)] ++ [(13, 12)] ++ ((18, 4) :: List.replicate 4 (13, 4)) ++ [(13, 4)])[1]? = some (17, 6) := ap_old hg23
  have hg29 : (m21.1 ++ [(3, nF 3)] ++ [(13, 12)] ++ [(13, 12)] ++ [(13, 12)] ++ ((18, 4) :: List.replicate 4 (13, 4)) ++ [(13, 4)])[13]? = some (16, 10) := ap_old hg24
  have hg30 : (m21.1 ++ [(3, nF 3)] ++ [(13, 12)] ++ [(13, 12)] ++ [(13, 12)] ++ ((18, 4) :: List.replicate 4 (13, 4)) ++ [(13, 4)])[83]? = some (3, nF 3) := ap_old hg25
  have hl31 : (m21.1 ++ [(3, nF 3)] ++ [(13, 12)] ++ [(13, 12)] ++ [(13, 12)] ++ ((18, 4) :: List.replicate 4 (13, 4)) ++ [(13, 4)] ++ [(13, 15)]).length = 94 := ap_len hl26 rfl
  have hg32 : (m21.1 ++ [(3, nF 3)] ++ [(13, 12)] ++ [(13, 12)] ++ [(13, 12)] ++ ((18, 4) :: List.replicate 4 (13, 4)) ++ [(13, 4)] ++ [(13, 15)])[0]? = some (11, nF 11) := ap_old hg27
  have hg33 : (m21.1 ++ [(3, nF 3)] ++ [(13, 12)] ++ [(13, 12)] ++ [(13, 12)] ++ ((18, 4) :: List.replicate 4 (13, 4)) ++ [(13, 4)] ++ [(13, 15)])[1]? = some (17, 6) := ap_old hg28
  have hg34 : (m21.1 ++ [(3, nF 3)] ++ [(13, 12)] ++ [(13, 12)] ++ [(13, 12)] ++ ((18, 4) :: List.replicate 4 (13, 4)) ++ [(13, 4)] ++ [(13, 15)])[13]? = some (16, 10) := ap_old hg29
  have hg35 : (m21.1 ++ [(3, nF 3)] ++ [(13, 12)] ++ [(13, 12)] ++ [(13, 12)] ++ ((18, 4) :: List.replicate 4 (13, 4)) ++ [(13, 4)] ++ [(13, 15)])[83]? = some (3, nF 3) := ap_old hg30
  have hF : Fr (m21.1 ++ [(3, nF 3)] ++ [(13, 12)] ++ [(13, 12)] ++ [(13, 12)] ++ ((18, 4) :: List.replicate 4 (13, 4)) ++ [(13, 4)] ++ [(13, 15)], upR (upR (upR (rfM (upR (upR (upR (m21.2.1) (83) 1 (some (84))) (83) 2 (some (85))) (83) 3 (some (86))) (87) 4) (83) 4 (some (87))) (83) 5 (some (92))) (83) 6 (some (93)), wI (m21.2.2) (83) 0 (0)) := hF
  show J _ _ _ _ _ _ _ _ _ _ _ (m21.1 ++ [(3, nF 3)] ++ [(13, 12)] ++ [(13, 12)] ++ [(13, 12)] ++ ((18, 4) :: List.replicate 4 (13, 4)) ++ [(13, 4)] ++ [(13, 15)], upR (upR (upR (rfM (upR (upR (upR (m21.2.1) (83) 1 (some (84))) (83) 2 (some (85))) (83) 3 (some (86))) (87) 4) (83) 4 (some (87))) (83) 5 (some (92))) (83) 6 (some (93)), wI (m21.2.2) (83) 0 (0)) _
  refine J_aast (C := RX3) (ci := 3) (kd := 17) (N := 6) (by decide) rfl rfl (by decide) hF hg33 hg35 (by decide) (by decide) dX11_init_191 ?_
  intro hF
  exact sg22 G hF
theorem sg20 (G : Gm) (hF : Fr m20) : J G YX11_init 3 145 23501 finH 71 21923 192 [some (vR (some 0)), some (vI (1))] [] m20 (some m34) := by
  refine J_iinc (v := 2) [some (vR (some 0)), some (vI (2))] dX11_init_192 rfl (by decide) (Nat.le_of_ble_eq_true rfl) rfl rfl ?_
  refine J_goto (tgt := 173) dX11_init_195 (by decide) ?_
  refine J_iload_n dX11_init_173 rfl rfl ?_
  refine J_bipush (v := 6) dX11_init_174 (by decide) ?_
  refine J_step_lt (tgt := 198) (by decide) dX11_init_176 (by decide) ?_
  refine J_aload_n dX11_init_179 rfl rfl ?_
  refine J_getR (r := some 1) cf11 klX11_11 gm20_0 (rm20_0) (Or.inr ⟨_, rfl⟩) dX11_init_180 ?_
  refine J_iload_n dX11_init_183 rfl rfl ?_
  refine J_new (a := 72) (C := RX3) cf3 rfl (in1 25 (by rfl) rfl) (in2 21 (by rfl) rfl) (in1 12 (by rfl) rfl) (by decide) hF lm20 (Nat.le_of_ble_eq_true rfl) (Nat.le_of_ble_eq_true rfl) dX11_init_184 ?_
  intro hF
  have hl1 : (m20.1 ++ [(3, nF 3)]).length = 73 := ap_len lm20 rfl
  have hg2 : (m20.1 ++ [(3, nF 3)])[0]? = some (11, nF 11) := ap_old gm20_0
  have hg3 : (m20.1 ++ [(3, nF 3)])[1]? = some (17, 6) := ap_old gm20_1
  have hg4 : (m20.1 ++ [(3, nF 3)])[13]? = some (16, 10) := ap_old gm20_13
  have hg5 : (m20.1 ++ [(3, nF 3)])[72]? = some (3, nF 3) := ap_new lm20
  have hF : Fr (m20.1 ++ [(3, nF 3)], m20.2.1, m20.2.2) := hF
  show J _ _ _ _ _ _ _ _ _ _ _ (m20.1 ++ [(3, nF 3)], m20.2.1, m20.2.2) _
  refine J_dup dX11_init_187 rfl ?_
  refine J_cN (cXr3 72 (m20.1 ++ [(3, nF 3)], m20.2.1, m20.2.2)) mcX3_init miX3_init (List.mem_of_getElem? (i := 11) rfl) rfl rfl (ctX3_init G hF hl1 hg5) rfl rfl (Nat.le_of_ble_eq_true rfl) (Nat.le_of_ble_eq_true rfl) (Nat.le_of_ble_eq_true rfl) (Nat.le_of_ble_eq_true rfl) (Nat.le_of_ble_eq_true rfl) dX11_init_188 ?_
  have hF := frX3 hF hl1
  have hl6 : (m20.1 ++ [(3, nF 3)] ++ [(13, 12)]).length = 74 := ap_len hl1 rfl
  have hg7 : (m20.1 ++ [(3, nF 3)] ++ [(13, 12)])[0]? = some (11, nF 11) := ap_old hg2
  have hg8 : (m20.1 ++ [(3, nF 3)] ++ [(13, 12)])[1]? = some (17, 6) := ap_old hg3
  have hg9 : (m20.1 ++ [(3, nF 3)] ++ [(13, 12)])[13]? = some (16, 10) := ap_old hg4
  have hg10 : (m20.1 ++ [(3, nF 3)] ++ [(13, 12)])[72]? = some (3, nF 3) := ap_old hg5
  have hl11 : (m20.1 ++ [(3, nF 3)] ++ [(13, 12)] ++ [(13, 12)]).length = 75 := ap_len hl6 rfl
  have hg12 : (m20.1 ++ [(3, nF 3)] ++ [(13, 12)] ++ [(13, 12)])[0]? = some (11, nF 11) := ap_old hg7
  have hg13 : (m20.1 ++ [(3, nF 3)] ++ [(13, 12)] ++ [(13, 12)])[1]? = some (17, 6) := ap_old hg8
  have hg14 : (m20.1 ++ [(3, nF 3)] ++ [(13, 12)] ++ [(13, 12)])[13]? = some (16, 10) := ap_old hg9
  have hg15 : (m20.1 ++ [(3, nF 3)] ++ [(13, 12)] ++ [(13, 12)])[72]? = some (3, nF 3) := ap_old hg10
  have hl16 : (m20.1 ++ [(3, nF 3)] ++ [(13, 12)] ++ [(13, 12)] ++ [(13, 12)]).length = 76 := ap_len hl11 rfl
  have hg17 : (m20.1 ++ [(3, nF 3)] ++ [(13, 12)] ++ [(13, 12)] ++ [(13, 12)])[0]? = some (11, nF 11) := ap_old hg12
  have hg18 : (m20.1 ++ [(3, nF 3)] ++ [(13, 12)] ++ [(13, 12)] ++ [(13, 12)])[1]? = some (17, 6) := ap_old hg13
  have hg19 : (m20.1 ++ [(3, nF 3)] ++ [(13, 12)] ++ [(13, 12)] ++ [(13, 12)])[13]? = some (16, 10) := ap_old hg14
  have hg20 : (m20.1 ++ [(3, nF 3)] ++ [(13, 12)] ++ [(13, 12)] ++ [(13, 12)])[72]? = some (3, nF 3) := ap_old hg15
  have hl21 : (m20.1 ++ [(3, nF 3)] ++ [(13, 12)] ++ [(13, 12)] ++ [(13, 12)] ++ ((18, 4) :: List.replicate 4 (13, 4))).length = 81 := ap_len hl16 rfl
  have hg22 : (m20.1 ++ [(3, nF 3)] ++ [(13, 12)] ++ [(13, 12)] ++ [(13, 12)] ++ ((18, 4) :: List.replicate 4 (13, 4)))[0]? = some (11, nF 11) := ap_old hg17
  have hg23 : (m20.1 ++ [(3, nF 3)] ++ [(13, 12)] ++ [(13, 12)] ++ [(13, 12)] ++ ((18, 4) :: List.replicate 4 (13, 4)))[1]? = some (17, 6) := ap_old hg18
  have hg24 : (m20.1 ++ [(3, nF 3)] ++ [(13, 12)] ++ [(13, 12)] ++ [(13, 12)] ++ ((18, 4) :: List.replicate 4 (13, 4)))[13]? = some (16, 10) := ap_old hg19
  have hg25 : (m20.1 ++ [(3, nF 3)] ++ [(13, 12)] ++ [(13, 12)] ++ [(13, 12)] ++ ((18, 4) :: List.replicate 4 (13, 4)))[72]? = some (3, nF 3) := ap_old hg20
  have hl26 : (m20.1 ++ [(3, nF 3)] ++ [(13, 12)] ++ [(13, 12)] ++ [(13, 12)] ++ ((18, 4) :: List.replicate 4 (13, 4)) ++ [(13, 4)]).length = 82 := ap_len hl21 rfl
  have hg27 : (m20.1 ++ [(3, nF 3)] ++ [(13, 12)] ++ [(13, 12)] ++ [(13, 12)] ++ ((18, 4) :: List.replicate 4 (13, 4)) ++ [(13, 4)])[0]? = some (11, nF 11) := ap_old hg22
  have hg28 : (m20.1 ++ [(3, nF 3)] ++ [(13, 12)] ++ [(13, 12)] ++ [(13, 12)] ++ ((18, 4) :: List.replicate 4 (13, 4)) ++ [(13, 4)])[1]? = some (17, 6) := ap_old hg23
  have hg29 : (m20.1 ++ [(3, nF 3)] ++ [(13, 12)] ++ [(13, 12)] ++ [(13, 12)] ++ ((18, 4) :: List.replicate 4 (13, 4)) ++ [(13, 4)])[13]? = some (16, 10) := ap_old hg24
  have hg30 : (m20.1 ++ [(3, nF 3)] ++ [(13, 12)] ++ [(13, 12)] ++ [(13, 12)] ++ ((18, 4) :: List.replicate 4 (13, 4)) ++ [(13, 4)])[72]? = some (3, nF 3) := ap_old hg25
  have hl31 : (m20.1 ++ [(3, nF 3)] ++ [(13, 12)] ++ [(13, 12)] ++ [(13, 12)] ++ ((18, 4) :: List.replicate 4 (13, 4)) ++ [(13, 4)] ++ [(13, 15)]).length = 83 := ap_len hl26 rfl
  have hg32 : (m20.1 ++ [(3, nF 3)] ++ [(13, 12)] ++ [(13, 12)] ++ [(13, 12)] ++ ((18, 4) :: List.replicate 4 (13, 4)) ++ [(13, 4)] ++ [(13, 15)])[0]? = some (11, nF 11) := ap_old hg27
  have hg33 : (m20.1 ++ [(3, nF 3)] ++ [(13, 12)] ++ [(13, 12)] ++ [(13, 12)] ++ ((18, 4) :: List.replicate 4 (13, 4)) ++ [(13, 4)] ++ [(13, 15)])[1]? = some (17, 6) := ap_old hg28
  have hg34 : (m20.1 ++ [(3, nF 3)] ++ [(13, 12)] ++ [(13, 12)] ++ [(13, 12)] ++ ((18, 4) :: List.replicate 4 (13, 4)) ++ [(13, 4)] ++ [(13, 15)])[13]? = some (16, 10) := ap_old hg29
  have hg35 : (m20.1 ++ [(3, nF 3)] ++ [(13, 12)] ++ [(13, 12)] ++ [(13, 12)] ++ ((18, 4) :: List.replicate 4 (13, 4)) ++ [(13, 4)] ++ [(13, 15)])[72]? = some (3, nF 3) := ap_old hg30
  have hF : Fr (m20.1 ++ [(3, nF 3)] ++ [(13, 12)] ++ [(13, 12)] ++ [(13, 12)] ++ ((18, 4) :: List.replicate 4 (13, 4)) ++ [(13, 4)] ++ [(13, 15)], upR (upR (upR (rfM (upR (upR (upR (m20.2.1) (72) 1 (some (73))) (72) 2 (some (74))) (72) 3 (some (75))) (76) 4) (72) 4 (some (76))) (72) 5 (some (81))) (72) 6 (some (82)), wI (m20.2.2) (72) 0 (0)) := hF
  show J _ _ _ _ _ _ _ _ _ _ _ (m20.1 ++ [(3, nF 3)] ++ [(13, 12)] ++ [(13, 12)] ++ [(13, 12)] ++ ((18, 4) :: List.replicate 4 (13, 4)) ++ [(13, 4)] ++ [(13, 15)], upR (upR (upR (rfM (upR (upR (upR (m20.2.1) (72) 1 (some (73))) (72) 2 (some (74))) (72) 3 (some (75))) (76) 4) (72) 4 (some (76))) (72) 5 (some (81))) (72) 6 (some (82)), wI (m20.2.2) (72) 0 (0)) _
  refine J_aast (C := RX3) (ci := 3) (kd := 17) (N := 6) (by decide) rfl rfl (by decide) hF hg33 hg35 (by decide) (by decide) dX11_init_191 ?_
  intro hF
  exact sg21 G hF
theorem sg19 (G : Gm) (hF : Fr m19) : J G YX11_init 3 145 23501 finH 60 21841 192 [some (vR (some 0)), some (vI (0))] [] m19 (some m34) := by
  refine J_iinc (v := 1) [some (vR (some 0)), some (vI (1))] dX11_init_192 rfl (by decide) (Nat.le_of_ble_eq_true rfl) rfl rfl ?_
  refine J_goto (tgt := 173) dX11_init_195 (by decide) ?_
  refine J_iload_n dX11_init_173 rfl rfl ?_
  refine J_bipush (v := 6) dX11_init_174 (by decide) ?_
  refine J_step_lt (tgt := 198) (by decide) dX11_init_176 (by decide) ?_
  refine J_aload_n dX11_init_179 rfl rfl ?_
  refine J_getR (r := some 1) cf11 klX11_11 gm19_0 (rm19_0) (Or.inr ⟨_, rfl⟩) dX11_init_180 ?_
  refine J_iload_n dX11_init_183 rfl rfl ?_
  refine J_new (a := 61) (C := RX3) cf3 rfl (in1 25 (by rfl) rfl) (in2 21 (by rfl) rfl) (in1 12 (by rfl) rfl) (by decide) hF lm19 (Nat.le_of_ble_eq_true rfl) (Nat.le_of_ble_eq_true rfl) dX11_init_184 ?_
  intro hF
  have hl1 : (m19.1 ++ [(3, nF 3)]).length = 62 := ap_len lm19 rfl
  have hg2 : (m19.1 ++ [(3, nF 3)])[0]? = some (11, nF 11) := ap_old gm19_0
  have hg3 : (m19.1 ++ [(3, nF 3)])[1]? = some (17, 6) := ap_old gm19_1
  have hg4 : (m19.1 ++ [(3, nF 3)])[13]? = some (16, 10) := ap_old gm19_13
  have hg5 : (m19.1 ++ [(3, nF 3)])[61]? = some (3, nF 3) := ap_new lm19
  have hF : Fr (m19.1 ++ [(3, nF 3)], m19.2.1, m19.2.2) := hF
  show J _ _ _ _ _ _ _ _ _ _ _ (m19.1 ++ [(3, nF 3)], m19.2.1, m19.2.2) _
  refine J_dup dX11_init_187 rfl ?_
  refine J_cN (cXr3 61 (m19.1 ++ [(3, nF 3)], m19.2.1, m19.2.2)) mcX3_init miX3_init (List.mem_of_getElem? (i := 11) rfl) rfl rfl (ctX3_init G hF hl1 hg5) rfl rfl (Nat.le_of_ble_eq_true rfl) (Nat.le_of_ble_eq_true rfl) (Nat.le_of_ble_eq_true rfl) (Nat.le_of_ble_eq_true rfl) (Nat.le_of_ble_eq_true rfl) dX11_init_188 ?_
  have hF := frX3 hF hl1
  have hl6 : (m19.1 ++ [(3, nF 3)] ++ [(13, 12)]).length = 63 := ap_len hl1 rfl
  have hg7 : (m19.1 ++ [(3, nF 3)] ++ [(13, 12)])[0]? = some (11, nF 11) := ap_old hg2
  have hg8 : (m19.1 ++ [(3, nF 3)] ++ [(13, 12)])[1]? = some (17, 6) := ap_old hg3
  have hg9 : (m19.1 ++ [(3, nF 3)] ++ [(13, 12)])[13]? = some (16, 10) := ap_old hg4
  have hg10 : (m19.1 ++ [(3, nF 3)] ++ [(13, 12)])[61]? = some (3, nF 3) := ap_old hg5
  have hl11 : (m19.1 ++ [(3, nF 3)] ++ [(13, 12)] ++ [(13, 12)]).length = 64 := ap_len hl6 rfl
  have hg12 : (m19.1 ++ [(3, nF 3)] ++ [(13, 12)] ++ [(13, 12)])[0]? = some (11, nF 11) := ap_old hg7
  have hg13 : (m19.1 ++ [(3, nF 3)] ++ [(13, 12)] ++ [(13, 12)])[1]? = some (17, 6) := ap_old hg8
  have hg14 : (m19.1 ++ [(3, nF 3)] ++ [(13, 12)] ++ [(13, 12)])[13]? = some (16, 10) := ap_old hg9
  have hg15 : (m19.1 ++ [(3, nF 3)] ++ [(13, 12)] ++ [(13, 12)])[61]? = some (3, nF 3) := ap_old hg10
  have hl16 : (m19.1 ++ [(3, nF 3)] ++ [(13, 12)] ++ [(13, 12)] ++ [(13, 12)]).length = 65 := ap_len hl11 rfl
  have hg17 : (m19.1 ++ [(3, nF 3)] ++ [(13, 12)] ++ [(13, 12)] ++ [(13, 12)])[0]? = some (11, nF 11) := ap_old hg12
  have hg18 : (m19.1 ++ [(3, nF 3)] ++ [(13, 12)] ++ [(13, 12)] ++ [(13, 12)])[1]? = some (17, 6) := ap_old hg13
  have hg19 : (m19.1 ++ [(3, nF 3)] ++ [(13, 12)] ++ [(13, 12)] ++ [(13, 12)])[13]? = some (16, 10) := ap_old hg14
  have hg20 : (m19.1 ++ [(3, nF 3)] ++ [(13, 12)] ++ [(13, 12)] ++ [(13, 12)])[61]? = some (3, nF 3) := ap_old hg15
  have hl21 : (m19.1 ++ [(3, nF 3)] ++ [(13, 12)] ++ [(13, 12)] ++ [(13, 12)] ++ ((18, 4) :: List.replicate 4 (13, 4))).length = 70 := ap_len hl16 rfl
  have hg22 : (m19.1 ++ [(3, nF 3)] ++ [(13, 12)] ++ [(13, 12)] ++ [(13, 12)] ++ ((18, 4) :: List.replicate 4 (13, 4)))[0]? = some (11, nF 11) := ap_old hg17
  have hg23 : (m19.1 ++ [(3, nF 3)] ++ [(13, 12)] ++ [(13, 12)] ++ [(13, 12)] ++ ((18, 4) :: List.replicate 4 (13, 4)))[1]? = some (17, 6) := ap_old hg18
  have hg24 : (m19.1 ++ [(3, nF 3)] ++ [(13, 12)] ++ [(13, 12)] ++ [(13, 12)] ++ ((18, 4) :: List.replicate 4 (13, 4)))[13]? = some (16, 10) := ap_old hg19
  have hg25 : (m19.1 ++ [(3, nF 3)] ++ [(13, 12)] ++ [(13, 12)] ++ [(13, 12)] ++ ((18, 4) :: List.replicate 4 (13, 4)))[61]? = some (3, nF 3) := ap_old hg20
  have hl26 : (m19.1 ++ [(3, nF 3)] ++ [(13, 12)] ++ [(13, 12)] ++ [(13, 12)] ++ ((18, 4) :: List.replicate 4 (13, 4)) ++ [(13, 4)]).length = 71 := ap_len hl21 rfl
  have hg27 : (m19.1 ++ [(3, nF 3)] ++ [(13, 12)] ++ [(13, 12)] ++ [(13, 12)] ++ ((18, 4) :: List.replicate 4 (13, 4)) ++ [(13, 4)])[0]? = some (11, nF 11) := ap_old hg22
  have hg28 : (m19.1 ++ [(3, nF 3)] ++ [(13, 12)] ++ [(13, 12)] ++ [(13, 12)] ++ ((18, 4) :: List.replicate 4 (13, 4)) ++ [(13, 4)])[1]? = some (17, 6) := ap_old hg23
  have hg29 : (m19.1 ++ [(3, nF 3)] ++ [(13, 12)] ++ [(13, 12)] ++ [(13, 12)] ++ ((18, 4) :: List.replicate 4 (13, 4)) ++ [(13, 4)])[13]? = some (16, 10) := ap_old hg24
  have hg30 : (m19.1 ++ [(3, nF 3)] ++ [(13, 12)] ++ [(13, 12)] ++ [(13, 12)] ++ ((18, 4) :: List.replicate 4 (13, 4)) ++ [(13, 4)])[61]? = some (3, nF 3) := ap_old hg25
  have hl31 : (m19.1 ++ [(3, nF 3)] ++ [(13, 12)] ++ [(13, 12)] ++ [(13, 12)] ++ ((18, 4) :: List.replicate 4 (13, 4)) ++ [(13, 4)] ++ [(13, 15)]).length = 72 := ap_len hl26 rfl
  have hg32 : (m19.1 ++ [(3, nF 3)] ++ [(13, 12)] ++ [(13, 12)] ++ [(13, 12)] ++ ((18, 4) :: List.replicate 4 (13, 4)) ++ [(13, 4)] ++ [(13, 15)])[0]? = some (11, nF 11) := ap_old hg27
  have hg33 : (m19.1 ++ [(3, nF 3)] ++ [(13, 12)] ++ [(13, 12)] ++ [(13, 12)] ++ ((18, 4) :: List.replicate 4 (13, 4)) ++ [(13, 4)] ++ [(13, 15)])[1]? = some (17, 6) := ap_old hg28
  have hg34 : (m19.1 ++ [(3, nF 3)] ++ [(13, 12)] ++ [(13, 12)] ++ [(13, 12)] ++ ((18, 4) :: List.replicate 4 (13, 4)) ++ [(13, 4)] ++ [(13, 15)])[13]? = some (16, 10) := ap_old hg29
  have hg35 : (m19.1 ++ [(3, nF 3)] ++ [(13, 12)] ++ [(13, 12)] ++ [(13, 12)] ++ ((18, 4) :: List.replicate 4 (13, 4)) ++ [(13, 4)] ++ [(13, 15)])[61]? = some (3, nF 3) := ap_old hg30
  have hF : Fr (m19.1 ++ [(3, nF 3)] ++ [(13, 12)] ++ [(13, 12)] ++ [(13, 12)] ++ ((18, 4) :: List.replicate 4 (13, 4)) ++ [(13, 4)] ++ [(13, 15)], upR (upR (upR (rfM (upR (upR (upR (m19.2.1) (61) 1 (some (62))) (61) 2 (some (63))) (61) 3 (some (64))) (65) 4) (61) 4 (some (65))) (61) 5 (some (70))) (61) 6 (some (71)), wI (m19.2.2) (61) 0 (0)) := hF
  show J _ _ _ _ _ _ _ _ _ _ _ (m19.1 ++ [(3, nF 3)] ++ [(13, 12)] ++ [(13, 12)] ++ [(13, 12)] ++ ((18, 4) :: List.replicate 4 (13, 4)) ++ [(13, 4)] ++ [(13, 15)], upR (upR (upR (rfM (upR (upR (upR (m19.2.1) (61) 1 (some (62))) (61) 2 (some (63))) (61) 3 (some (64))) (65) 4) (61) 4 (some (65))) (61) 5 (some (70))) (61) 6 (some (71)), wI (m19.2.2) (61) 0 (0)) _
  refine J_aast (C := RX3) (ci := 3) (kd := 17) (N := 6) (by decide) rfl rfl (by decide) hF hg33 hg35 (by decide) (by decide) dX11_init_191 ?_
  intro hF
  exact sg20 G hF
theorem sg18 (G : Gm) (hF : Fr m18) : J G YX11_init 3 145 23501 finH 49 21759 171 [some (vR (some 0)), none] [] m18 (some m34) := by
  refine J_iconst (v := 0) dX11_init_171 (by decide) ?_
  refine J_istore_n [some (vR (some 0)), some (vI (0))] dX11_init_172 rfl (Nat.le_of_ble_eq_true rfl) rfl rfl ?_
  refine J_iload_n dX11_init_173 rfl rfl ?_
  refine J_bipush (v := 6) dX11_init_174 (by decide) ?_
  refine J_step_lt (tgt := 198) (by decide) dX11_init_176 (by decide) ?_
  refine J_aload_n dX11_init_179 rfl rfl ?_
  refine J_getR (r := some 1) cf11 klX11_11 gm18_0 (rm18_0) (Or.inr ⟨_, rfl⟩) dX11_init_180 ?_
  refine J_iload_n dX11_init_183 rfl rfl ?_
  refine J_new (a := 50) (C := RX3) cf3 rfl (in1 25 (by rfl) rfl) (in2 21 (by rfl) rfl) (in1 12 (by rfl) rfl) (by decide) hF lm18 (Nat.le_of_ble_eq_true rfl) (Nat.le_of_ble_eq_true rfl) dX11_init_184 ?_
  intro hF
  have hl1 : (m18.1 ++ [(3, nF 3)]).length = 51 := ap_len lm18 rfl
  have hg2 : (m18.1 ++ [(3, nF 3)])[0]? = some (11, nF 11) := ap_old gm18_0
  have hg3 : (m18.1 ++ [(3, nF 3)])[1]? = some (17, 6) := ap_old gm18_1
  have hg4 : (m18.1 ++ [(3, nF 3)])[13]? = some (16, 10) := ap_old gm18_13
  have hg5 : (m18.1 ++ [(3, nF 3)])[50]? = some (3, nF 3) := ap_new lm18
  have hF : Fr (m18.1 ++ [(3, nF 3)], m18.2.1, m18.2.2) := hF
  show J _ _ _ _ _ _ _ _ _ _ _ (m18.1 ++ [(3, nF 3)], m18.2.1, m18.2.2) _
  refine J_dup dX11_init_187 rfl ?_
  refine J_cN (cXr3 50 (m18.1 ++ [(3, nF 3)], m18.2.1, m18.2.2)) mcX3_init miX3_init (List.mem_of_getElem? (i := 11) rfl) rfl rfl (ctX3_init G hF hl1 hg5) rfl rfl (Nat.le_of_ble_eq_true rfl) (Nat.le_of_ble_eq_true rfl) (Nat.le_of_ble_eq_true rfl) (Nat.le_of_ble_eq_true rfl) (Nat.le_of_ble_eq_true rfl) dX11_init_188 ?_
  have hF := frX3 hF hl1
  have hl6 : (m18.1 ++ [(3, nF 3)] ++ [(13, 12)]).length = 52 := ap_len hl1 rfl
  have hg7 : (m18.1 ++ [(3, nF 3)] ++ [(13, 12)])[0]? = some (11, nF 11) := ap_old hg2
  have hg8 : (m18.1 ++ [(3, nF 3)] ++ [(13, 12)])[1]? = some (17, 6) := ap_old hg3
  have hg9 : (m18.1 ++ [(3, nF 3)] ++ [(13, 12)])[13]? = some (16, 10) := ap_old hg4
  have hg10 : (m18.1 ++ [(3, nF 3)] ++ [(13, 12)])[50]? = some (3, nF 3) := ap_old hg5
  have hl11 : (m18.1 ++ [(3, nF 3)] ++ [(13, 12)] ++ [(13, 12)]).length = 53 := ap_len hl6 rfl
  have hg12 : (m18.1 ++ [(3, nF 3)] ++ [(13, 12)] ++ [(13, 12)])[0]? = some (11, nF 11) := ap_old hg7
  have hg13 : (m18.1 ++ [(3, nF 3)] ++ [(13, 12)] ++ [(13, 12)])[1]? = some (17, 6) := ap_old hg8
  have hg14 : (m18.1 ++ [(3, nF 3)] ++ [(13, 12)] ++ [(13, 12)])[13]? = some (16, 10) := ap_old hg9
  have hg15 : (m18.1 ++ [(3, nF 3)] ++ [(13, 12)] ++ [(13, 12)])[50]? = some (3, nF 3) := ap_old hg10
  have hl16 : (m18.1 ++ [(3, nF 3)] ++ [(13, 12)] ++ [(13, 12)] ++ [(13, 12)]).length = 54 := ap_len hl11 rfl
  have hg17 : (m18.1 ++ [(3, nF 3)] ++ [(13, 12)] ++ [(13, 12)] ++ [(13, 12)])[0]? = some (11, nF 11) := ap_old hg12
  have hg18 : (m18.1 ++ [(3, nF 3)] ++ [(13, 12)] ++ [(13, 12)] ++ [(13, 12)])[1]? = some (17, 6) := ap_old hg13
  have hg19 : (m18.1 ++ [(3, nF 3)] ++ [(13, 12)] ++ [(13, 12)] ++ [(13, 12)])[13]? = some (16, 10) := ap_old hg14
  have hg20 : (m18.1 ++ [(3, nF 3)] ++ [(13, 12)] ++ [(13, 12)] ++ [(13, 12)])[50]? = some (3, nF 3) := ap_old hg15
  have hl21 : (m18.1 ++ [(3, nF 3)] ++ [(13, 12)] ++ [(13, 12)] ++ [(13, 12)] ++ ((18, 4) :: List.replicate 4 (13, 4))).length = 59 := ap_len hl16 rfl
  have hg22 : (m18.1 ++ [(3, nF 3)] ++ [(13, 12)] ++ [(13, 12)] ++ [(13, 12)] ++ ((18, 4) :: List.replicate 4 (13, 4)))[0]? = some (11, nF 11) := ap_old hg17
  have hg23 : (m18.1 ++ [(3, nF 3)] ++ [(13, 12)] ++ [(13, 12)] ++ [(13, 12)] ++ ((18, 4) :: List.replicate 4 (13, 4)))[1]? = some (17, 6) := ap_old hg18
  have hg24 : (m18.1 ++ [(3, nF 3)] ++ [(13, 12)] ++ [(13, 12)] ++ [(13, 12)] ++ ((18, 4) :: List.replicate 4 (13, 4)))[13]? = some (16, 10) := ap_old hg19
  have hg25 : (m18.1 ++ [(3, nF 3)] ++ [(13, 12)] ++ [(13, 12)] ++ [(13, 12)] ++ ((18, 4) :: List.replicate 4 (13, 4)))[50]? = some (3, nF 3) := ap_old hg20
  have hl26 : (m18.1 ++ [(3, nF 3)] ++ [(13, 12)] ++ [(13, 12)] ++ [(13, 12)] ++ ((18, 4) :: List.replicate 4 (13, 4)) ++ [(13, 4)]).length = 60 := ap_len hl21 rfl
  have hg27 : (m18.1 ++ [(3, nF 3)] ++ [(13, 12)] ++ [(13, 12)] ++ [(13, 12)] ++ ((18, 4) :: List.replicate 4 (13, 4)) ++ [(13, 4)])[0]? = some (11, nF 11) := ap_old hg22
  have hg28 : (m18.1 ++ [(3, nF 3)] ++ [(13, 12)] ++ [(13, 12)] ++ [(13, 12)] ++ ((18, 4) :: List.replicate 4 (13, 4)) ++ [(13, 4)])[1]? = some (17, 6) := ap_old hg23
  have hg29 : (m18.1 ++ [(3, nF 3)] ++ [(13, 12)] ++ [(13, 12)] ++ [(13, 12)] ++ ((18, 4) :: List.replicate 4 (13, 4)) ++ [(13, 4)])[13]? = some (16, 10) := ap_old hg24
  have hg30 : (m18.1 ++ [(3, nF 3)] ++ [(13, 12)] ++ [(13, 12)] ++ [(13, 12)] ++ ((18, 4) :: List.replicate 4 (13, 4)) ++ [(13, 4)])[50]? = some (3, nF 3) := ap_old hg25
  have hl31 : (m18.1 ++ [(3, nF 3)] ++ [(13, 12)] ++ [(13, 12)] ++ [(13, 12)] ++ ((18, 4) :: List.replicate 4 (13, 4)) ++ [(13, 4)] ++ [(13, 15)]).length = 61 := ap_len hl26 rfl
  have hg32 : (m18.1 ++ [(3, nF 3)] ++ [(13, 12)] ++ [(13, 12)] ++ [(13, 12)] ++ ((18, 4) :: List.replicate 4 (13, 4)) ++ [(13, 4)] ++ [(13, 15)])[0]? = some (11, nF 11) := ap_old hg27
  have hg33 : (m18.1 ++ [(3, nF 3)] ++ [(13, 12)] ++ [(13, 12)] ++ [(13, 12)] ++ ((18, 4) :: List.replicate 4 (13, 4)) ++ [(13, 4)] ++ [(13, 15)])[1]? = some (17, 6) := ap_old hg28
  have hg34 : (m18.1 ++ [(3, nF 3)] ++ [(13, 12)] ++ [(13, 12)] ++ [(13, 12)] ++ ((18, 4) :: List.replicate 4 (13, 4)) ++ [(13, 4)] ++ [(13, 15)])[13]? = some (16, 10) := ap_old hg29
  have hg35 : (m18.1 ++ [(3, nF 3)] ++ [(13, 12)] ++ [(13, 12)] ++ [(13, 12)] ++ ((18, 4) :: List.replicate 4 (13, 4)) ++ [(13, 4)] ++ [(13, 15)])[50]? = some (3, nF 3) := ap_old hg30
  have hF : Fr (m18.1 ++ [(3, nF 3)] ++ [(13, 12)] ++ [(13, 12)] ++ [(13, 12)] ++ ((18, 4) :: List.replicate 4 (13, 4)) ++ [(13, 4)] ++ [(13, 15)], upR (upR (upR (rfM (upR (upR (upR (m18.2.1) (50) 1 (some (51))) (50) 2 (some (52))) (50) 3 (some (53))) (54) 4) (50) 4 (some (54))) (50) 5 (some (59))) (50) 6 (some (60)), wI (m18.2.2) (50) 0 (0)) := hF
  show J _ _ _ _ _ _ _ _ _ _ _ (m18.1 ++ [(3, nF 3)] ++ [(13, 12)] ++ [(13, 12)] ++ [(13, 12)] ++ ((18, 4) :: List.replicate 4 (13, 4)) ++ [(13, 4)] ++ [(13, 15)], upR (upR (upR (rfM (upR (upR (upR (m18.2.1) (50) 1 (some (51))) (50) 2 (some (52))) (50) 3 (some (53))) (54) 4) (50) 4 (some (54))) (50) 5 (some (59))) (50) 6 (some (60)), wI (m18.2.2) (50) 0 (0)) _
  refine J_aast (C := RX3) (ci := 3) (kd := 17) (N := 6) (by decide) rfl rfl (by decide) hF hg33 hg35 (by decide) (by decide) dX11_init_191 ?_
  intro hF
  exact sg19 G hF
theorem sg17 (G : Gm) (hF : Fr m17) : J G YX11_init 3 145 23501 finH 38 21371 160 [some (vR (some 0)), none] [] m17 (some m34) := by
  refine J_aload_n dX11_init_160 rfl rfl ?_
  refine J_new (a := 39) (C := RX8) cf8 rfl (in1 236 (by rfl) rfl) (in1 237 (by rfl) rfl) (in1 10 (by rfl) rfl) (by decide) hF lm17 (Nat.le_of_ble_eq_true rfl) (Nat.le_of_ble_eq_true rfl) dX11_init_161 ?_
  intro hF
  have hl1 : (m17.1 ++ [(8, nF 8)]).length = 40 := ap_len lm17 rfl
  have hg2 : (m17.1 ++ [(8, nF 8)])[0]? = some (11, nF 11) := ap_old gm17_0
  have hg3 : (m17.1 ++ [(8, nF 8)])[1]? = some (17, 6) := ap_old gm17_1
  have hg4 : (m17.1 ++ [(8, nF 8)])[13]? = some (16, 10) := ap_old gm17_13
  have hg5 : (m17.1 ++ [(8, nF 8)])[39]? = some (8, nF 8) := ap_new lm17
  have hF : Fr (m17.1 ++ [(8, nF 8)], m17.2.1, m17.2.2) := hF
  show J _ _ _ _ _ _ _ _ _ _ _ (m17.1 ++ [(8, nF 8)], m17.2.1, m17.2.2) _
  refine J_dup dX11_init_164 rfl ?_
  refine J_cI (cXr8 39 (m17.1 ++ [(8, nF 8)], m17.2.1, m17.2.2)) mcX8_init miX8_init (in1 238 (by rfl) rfl) rfl rfl (ctX8_init G hF hl1 hg5) rfl rfl (Nat.le_of_ble_eq_true rfl) (Nat.le_of_ble_eq_true rfl) (Nat.le_of_ble_eq_true rfl) (Nat.le_of_ble_eq_true rfl) (Nat.le_of_ble_eq_true rfl) dX11_init_165 ?_
  have hF := frX8 hF hl1
  have hl6 : (m17.1 ++ [(8, nF 8)] ++ [(13, 6)]).length = 41 := ap_len hl1 rfl
  have hg7 : (m17.1 ++ [(8, nF 8)] ++ [(13, 6)])[0]? = some (11, nF 11) := ap_old hg2
  have hg8 : (m17.1 ++ [(8, nF 8)] ++ [(13, 6)])[1]? = some (17, 6) := ap_old hg3
  have hg9 : (m17.1 ++ [(8, nF 8)] ++ [(13, 6)])[13]? = some (16, 10) := ap_old hg4
  have hg10 : (m17.1 ++ [(8, nF 8)] ++ [(13, 6)])[39]? = some (8, nF 8) := ap_old hg5
  have hl11 : (m17.1 ++ [(8, nF 8)] ++ [(13, 6)] ++ [(13, 6)]).length = 42 := ap_len hl6 rfl
  have hg12 : (m17.1 ++ [(8, nF 8)] ++ [(13, 6)] ++ [(13, 6)])[0]? = some (11, nF 11) := ap_old hg7
  have hg13 : (m17.1 ++ [(8, nF 8)] ++ [(13, 6)] ++ [(13, 6)])[1]? = some (17, 6) := ap_old hg8
  have hg14 : (m17.1 ++ [(8, nF 8)] ++ [(13, 6)] ++ [(13, 6)])[13]? = some (16, 10) := ap_old hg9
  have hg15 : (m17.1 ++ [(8, nF 8)] ++ [(13, 6)] ++ [(13, 6)])[39]? = some (8, nF 8) := ap_old hg10
  have hl16 : (m17.1 ++ [(8, nF 8)] ++ [(13, 6)] ++ [(13, 6)] ++ [(13, 6)]).length = 43 := ap_len hl11 rfl
  have hg17 : (m17.1 ++ [(8, nF 8)] ++ [(13, 6)] ++ [(13, 6)] ++ [(13, 6)])[0]? = some (11, nF 11) := ap_old hg12
  have hg18 : (m17.1 ++ [(8, nF 8)] ++ [(13, 6)] ++ [(13, 6)] ++ [(13, 6)])[1]? = some (17, 6) := ap_old hg13
  have hg19 : (m17.1 ++ [(8, nF 8)] ++ [(13, 6)] ++ [(13, 6)] ++ [(13, 6)])[13]? = some (16, 10) := ap_old hg14
  have hg20 : (m17.1 ++ [(8, nF 8)] ++ [(13, 6)] ++ [(13, 6)] ++ [(13, 6)])[39]? = some (8, nF 8) := ap_old hg15
  have hl21 : (m17.1 ++ [(8, nF 8)] ++ [(13, 6)] ++ [(13, 6)] ++ [(13, 6)] ++ ((19, 6) :: List.replicate 6 (14, 60))).length = 50 := ap_len hl16 rfl
  have hg22 : (m17.1 ++ [(8, nF 8)] ++ [(13, 6)] ++ [(13, 6)] ++ [(13, 6)] ++ ((19, 6) :: List.replicate 6 (14, 60)))[0]? = some (11, nF 11) := ap_old hg17
  have hg23 : (m17.1 ++ [(8, nF 8)] ++ [(13, 6)] ++ [(13, 6)] ++ [(13, 6)] ++ ((19, 6) :: List.replicate 6 (14, 60)))[1]? = some (17, 6) := ap_old hg18
  have hg24 : (m17.1 ++ [(8, nF 8)] ++ [(13, 6)] ++ [(13, 6)] ++ [(13, 6)] ++ ((19, 6) :: List.replicate 6 (14, 60)))[13]? = some (16, 10) := ap_old hg19
  have hg25 : (m17.1 ++ [(8, nF 8)] ++ [(13, 6)] ++ [(13, 6)] ++ [(13, 6)] ++ ((19, 6) :: List.replicate 6 (14, 60)))[39]? = some (8, nF 8) := ap_old hg20
  have hF : Fr (m17.1 ++ [(8, nF 8)] ++ [(13, 6)] ++ [(13, 6)] ++ [(13, 6)] ++ ((19, 6) :: List.replicate 6 (14, 60)), upR (rfM (upR (upR (upR (m17.2.1) (39) 0 (some (40))) (39) 1 (some (41))) (39) 2 (some (42))) (43) 6) (39) 3 (some (43)), fiI (m17.2.2) (40) 6 6) := hF
  show J _ _ _ _ _ _ _ _ _ _ _ (m17.1 ++ [(8, nF 8)] ++ [(13, 6)] ++ [(13, 6)] ++ [(13, 6)] ++ ((19, 6) :: List.replicate 6 (14, 60)), upR (rfM (upR (upR (upR (m17.2.1) (39) 0 (some (40))) (39) 1 (some (41))) (39) 2 (some (42))) (43) 6) (39) 3 (some (43)), fiI (m17.2.2) (40) 6 6) _
  refine J_putRF rfl cf11 klX11_104 hF hg22 (Or.inl ⟨_, rfl⟩) dX11_init_168 ?_
  intro hF
  exact sg18 G hF
theorem sg16 (G : Gm) (hF : Fr m16) : J G YX11_init 3 145 23501 finH 36 21342 149 [some (vR (some 0)), none] [] m16 (some m34) := by
  refine J_aload_n dX11_init_149 rfl rfl ?_
  refine J_new (a := 37) (C := RX0) cf0 rfl (in1 214 (by rfl) rfl) (in1 215 (by rfl) rfl) (in1 9 (by rfl) rfl) (by decide) hF lm16 (Nat.le_of_ble_eq_true rfl) (Nat.le_of_ble_eq_true rfl) dX11_init_150 ?_
  intro hF
  have hl1 : (m16.1 ++ [(0, nF 0)]).length = 38 := ap_len lm16 rfl
  have hg2 : (m16.1 ++ [(0, nF 0)])[0]? = some (11, nF 11) := ap_old gm16_0
  have hg3 : (m16.1 ++ [(0, nF 0)])[1]? = some (17, 6) := ap_old gm16_1
  have hg4 : (m16.1 ++ [(0, nF 0)])[13]? = some (16, 10) := ap_old gm16_13
  have hg5 : (m16.1 ++ [(0, nF 0)])[37]? = some (0, nF 0) := ap_new lm16
  have hF : Fr (m16.1 ++ [(0, nF 0)], m16.2.1, m16.2.2) := hF
  show J _ _ _ _ _ _ _ _ _ _ _ (m16.1 ++ [(0, nF 0)], m16.2.1, m16.2.2) _
  refine J_dup dX11_init_153 rfl ?_
  refine J_cN (cXr0 37 (m16.1 ++ [(0, nF 0)], m16.2.1, m16.2.2)) mcX0_init miX0_init (List.mem_of_getElem? (i := 10) rfl) rfl rfl (ctX0_init G hF hl1 hg5) rfl rfl (Nat.le_of_ble_eq_true rfl) (Nat.le_of_ble_eq_true rfl) (Nat.le_of_ble_eq_true rfl) (Nat.le_of_ble_eq_true rfl) (Nat.le_of_ble_eq_true rfl) dX11_init_154 ?_
  have hF := frX0 hF hl1
  have hl6 : (m16.1 ++ [(0, nF 0)] ++ [(13, 24)]).length = 39 := ap_len hl1 rfl
  have hg7 : (m16.1 ++ [(0, nF 0)] ++ [(13, 24)])[0]? = some (11, nF 11) := ap_old hg2
  have hg8 : (m16.1 ++ [(0, nF 0)] ++ [(13, 24)])[1]? = some (17, 6) := ap_old hg3
  have hg9 : (m16.1 ++ [(0, nF 0)] ++ [(13, 24)])[13]? = some (16, 10) := ap_old hg4
  have hg10 : (m16.1 ++ [(0, nF 0)] ++ [(13, 24)])[37]? = some (0, nF 0) := ap_old hg5
  have hF : Fr (m16.1 ++ [(0, nF 0)] ++ [(13, 24)], upR (m16.2.1) (37) 0 (some (38)), wI (wI (wI (wI (m16.2.2) (37) 1 (0)) (37) 2 (0)) (37) 3 (0)) (37) 4 (0)) := hF
  show J _ _ _ _ _ _ _ _ _ _ _ (m16.1 ++ [(0, nF 0)] ++ [(13, 24)], upR (m16.2.1) (37) 0 (some (38)), wI (wI (wI (wI (m16.2.2) (37) 1 (0)) (37) 2 (0)) (37) 3 (0)) (37) 4 (0)) _
  refine J_putRF rfl cf11 klX11_97 hF hg7 (Or.inl ⟨_, rfl⟩) dX11_init_157 ?_
  intro hF
  exact sg17 G hF
theorem sg15 (G : Gm) (hF : Fr m15) : J G YX11_init 3 145 23501 finH 31 21306 138 [some (vR (some 0)), none] [] m15 (some m34) := by
  refine J_aload_n dX11_init_138 rfl rfl ?_
  refine J_new (a := 32) (C := RX2) cf2 rfl (in1 181 (by rfl) rfl) (in1 182 (by rfl) rfl) (in1 8 (by rfl) rfl) (by decide) hF lm15 (Nat.le_of_ble_eq_true rfl) (Nat.le_of_ble_eq_true rfl) dX11_init_139 ?_
  intro hF
  have hl1 : (m15.1 ++ [(2, nF 2)]).length = 33 := ap_len lm15 rfl
  have hg2 : (m15.1 ++ [(2, nF 2)])[0]? = some (11, nF 11) := ap_old gm15_0
  have hg3 : (m15.1 ++ [(2, nF 2)])[1]? = some (17, 6) := ap_old gm15_1
  have hg4 : (m15.1 ++ [(2, nF 2)])[13]? = some (16, 10) := ap_old gm15_13
  have hg5 : (m15.1 ++ [(2, nF 2)])[32]? = some (2, nF 2) := ap_new lm15
  have hF : Fr (m15.1 ++ [(2, nF 2)], m15.2.1, m15.2.2) := hF
  show J _ _ _ _ _ _ _ _ _ _ _ (m15.1 ++ [(2, nF 2)], m15.2.1, m15.2.2) _
  refine J_dup dX11_init_142 rfl ?_
  refine J_cN (cXr2 32 (m15.1 ++ [(2, nF 2)], m15.2.1, m15.2.2)) mcX2_init miX2_init (List.mem_of_getElem? (i := 8) rfl) rfl rfl (ctX2_init G hF hl1 hg5) rfl rfl (Nat.le_of_ble_eq_true rfl) (Nat.le_of_ble_eq_true rfl) (Nat.le_of_ble_eq_true rfl) (Nat.le_of_ble_eq_true rfl) (Nat.le_of_ble_eq_true rfl) dX11_init_143 ?_
  have hF := frX2 hF hl1
  have hl6 : (m15.1 ++ [(2, nF 2)] ++ [(6, nF 6)]).length = 34 := ap_len hl1 rfl
  have hg7 : (m15.1 ++ [(2, nF 2)] ++ [(6, nF 6)])[0]? = some (11, nF 11) := ap_old hg2
  have hg8 : (m15.1 ++ [(2, nF 2)] ++ [(6, nF 6)])[1]? = some (17, 6) := ap_old hg3
  have hg9 : (m15.1 ++ [(2, nF 2)] ++ [(6, nF 6)])[13]? = some (16, 10) := ap_old hg4
  have hg10 : (m15.1 ++ [(2, nF 2)] ++ [(6, nF 6)])[32]? = some (2, nF 2) := ap_old hg5
  have hl11 : (m15.1 ++ [(2, nF 2)] ++ [(6, nF 6)] ++ [(13, 12)]).length = 35 := ap_len hl6 rfl
  have hg12 : (m15.1 ++ [(2, nF 2)] ++ [(6, nF 6)] ++ [(13, 12)])[0]? = some (11, nF 11) := ap_old hg7
  have hg13 : (m15.1 ++ [(2, nF 2)] ++ [(6, nF 6)] ++ [(13, 12)])[1]? = some (17, 6) := ap_old hg8
  have hg14 : (m15.1 ++ [(2, nF 2)] ++ [(6, nF 6)] ++ [(13, 12)])[13]? = some (16, 10) := ap_old hg9
  have hg15 : (m15.1 ++ [(2, nF 2)] ++ [(6, nF 6)] ++ [(13, 12)])[32]? = some (2, nF 2) := ap_old hg10
  have hl16 : (m15.1 ++ [(2, nF 2)] ++ [(6, nF 6)] ++ [(13, 12)] ++ [(6, nF 6)]).length = 36 := ap_len hl11 rfl
  have hg17 : (m15.1 ++ [(2, nF 2)] ++ [(6, nF 6)] ++ [(13, 12)] ++ [(6, nF 6)])[0]? = some (11, nF 11) := ap_old hg12
  have hg18 : (m15.1 ++ [(2, nF 2)] ++ [(6, nF 6)] ++ [(13, 12)] ++ [(6, nF 6)])[1]? = some (17, 6) := ap_old hg13
  have hg19 : (m15.1 ++ [(2, nF 2)] ++ [(6, nF 6)] ++ [(13, 12)] ++ [(6, nF 6)])[13]? = some (16, 10) := ap_old hg14
  have hg20 : (m15.1 ++ [(2, nF 2)] ++ [(6, nF 6)] ++ [(13, 12)] ++ [(6, nF 6)])[32]? = some (2, nF 2) := ap_old hg15
  have hl21 : (m15.1 ++ [(2, nF 2)] ++ [(6, nF 6)] ++ [(13, 12)] ++ [(6, nF 6)] ++ [(13, 12)]).length = 37 := ap_len hl16 rfl
  have hg22 : (m15.1 ++ [(2, nF 2)] ++ [(6, nF 6)] ++ [(13, 12)] ++ [(6, nF 6)] ++ [(13, 12)])[0]? = some (11, nF 11) := ap_old hg17
  have hg23 : (m15.1 ++ [(2, nF 2)] ++ [(6, nF 6)] ++ [(13, 12)] ++ [(6, nF 6)] ++ [(13, 12)])[1]? = some (17, 6) := ap_old hg18
  have hg24 : (m15.1 ++ [(2, nF 2)] ++ [(6, nF 6)] ++ [(13, 12)] ++ [(6, nF 6)] ++ [(13, 12)])[13]? = some (16, 10) := ap_old hg19
  have hg25 : (m15.1 ++ [(2, nF 2)] ++ [(6, nF 6)] ++ [(13, 12)] ++ [(6, nF 6)] ++ [(13, 12)])[32]? = some (2, nF 2) := ap_old hg20
  have hF : Fr (m15.1 ++ [(2, nF 2)] ++ [(6, nF 6)] ++ [(13, 12)] ++ [(6, nF 6)] ++ [(13, 12)], upR (upR (upR (upR (m15.2.1) (33) 0 (some (34))) (32) 0 (some (33))) (35) 0 (some (36))) (32) 1 (some (35)), wI (wI (wI (wI (wI (wI (wI (wI (m15.2.2) (33) 1 (0)) (35) 1 (0)) (32) 2 (0)) (32) 3 (0)) (32) 4 (0)) (32) 5 (0)) (32) 6 (0)) (32) 7 (0)) := hF
  show J _ _ _ _ _ _ _ _ _ _ _ (m15.1 ++ [(2, nF 2)] ++ [(6, nF 6)] ++ [(13, 12)] ++ [(6, nF 6)] ++ [(13, 12)], upR (upR (upR (upR (m15.2.1) (33) 0 (some (34))) (32) 0 (some (33))) (35) 0 (some (36))) (32) 1 (some (35)), wI (wI (wI (wI (wI (wI (wI (wI (m15.2.2) (33) 1 (0)) (35) 1 (0)) (32) 2 (0)) (32) 3 (0)) (32) 4 (0)) (32) 5 (0)) (32) 6 (0)) (32) 7 (0)) _
  refine J_putRF rfl cf11 klX11_90 hF hg22 (Or.inl ⟨_, rfl⟩) dX11_init_146 ?_
  intro hF
  exact sg16 G hF
theorem sg14 (G : Gm) (hF : Fr m14) : J G YX11_init 3 145 23501 finH 25 20271 127 [some (vR (some 0)), none] [] m14 (some m34) := by
  refine J_aload_n dX11_init_127 rfl rfl ?_
  refine J_new (a := 26) (C := RX5) cf5 rfl (in1 151 (by rfl) rfl) (in1 152 (by rfl) rfl) (in1 7 (by rfl) rfl) (by decide) hF lm14 (Nat.le_of_ble_eq_true rfl) (Nat.le_of_ble_eq_true rfl) dX11_init_128 ?_
  intro hF
  have hl1 : (m14.1 ++ [(5, nF 5)]).length = 27 := ap_len lm14 rfl
  have hg2 : (m14.1 ++ [(5, nF 5)])[0]? = some (11, nF 11) := ap_old gm14_0
  have hg3 : (m14.1 ++ [(5, nF 5)])[1]? = some (17, 6) := ap_old gm14_1
  have hg4 : (m14.1 ++ [(5, nF 5)])[13]? = some (16, 10) := ap_old gm14_13
  have hg5 : (m14.1 ++ [(5, nF 5)])[26]? = some (5, nF 5) := ap_new lm14
  have hF : Fr (m14.1 ++ [(5, nF 5)], m14.2.1, m14.2.2) := hF
  show J _ _ _ _ _ _ _ _ _ _ _ (m14.1 ++ [(5, nF 5)], m14.2.1, m14.2.2) _
  refine J_dup dX11_init_131 rfl ?_
  refine J_cN (cXr5 26 (m14.1 ++ [(5, nF 5)], m14.2.1, m14.2.2)) mcX5_init miX5_init (List.mem_of_getElem? (i := 6) rfl) rfl rfl (ctX5_init G hF hl1 hg5) rfl rfl (Nat.le_of_ble_eq_true rfl) (Nat.le_of_ble_eq_true rfl) (Nat.le_of_ble_eq_true rfl) (Nat.le_of_ble_eq_true rfl) (Nat.le_of_ble_eq_true rfl) dX11_init_132 ?_
  have hF := frX5 hF hl1
  have hl6 : (m14.1 ++ [(5, nF 5)] ++ [(6, nF 6)]).length = 28 := ap_len hl1 rfl
  have hg7 : (m14.1 ++ [(5, nF 5)] ++ [(6, nF 6)])[0]? = some (11, nF 11) := ap_old hg2
  have hg8 : (m14.1 ++ [(5, nF 5)] ++ [(6, nF 6)])[1]? = some (17, 6) := ap_old hg3
  have hg9 : (m14.1 ++ [(5, nF 5)] ++ [(6, nF 6)])[13]? = some (16, 10) := ap_old hg4
  have hg10 : (m14.1 ++ [(5, nF 5)] ++ [(6, nF 6)])[26]? = some (5, nF 5) := ap_old hg5
  have hl11 : (m14.1 ++ [(5, nF 5)] ++ [(6, nF 6)] ++ [(13, 12)]).length = 29 := ap_len hl6 rfl
  have hg12 : (m14.1 ++ [(5, nF 5)] ++ [(6, nF 6)] ++ [(13, 12)])[0]? = some (11, nF 11) := ap_old hg7
  have hg13 : (m14.1 ++ [(5, nF 5)] ++ [(6, nF 6)] ++ [(13, 12)])[1]? = some (17, 6) := ap_old hg8
  have hg14 : (m14.1 ++ [(5, nF 5)] ++ [(6, nF 6)] ++ [(13, 12)])[13]? = some (16, 10) := ap_old hg9
  have hg15 : (m14.1 ++ [(5, nF 5)] ++ [(6, nF 6)] ++ [(13, 12)])[26]? = some (5, nF 5) := ap_old hg10
  have hl16 : (m14.1 ++ [(5, nF 5)] ++ [(6, nF 6)] ++ [(13, 12)] ++ [(6, nF 6)]).length = 30 := ap_len hl11 rfl
  have hg17 : (m14.1 ++ [(5, nF 5)] ++ [(6, nF 6)] ++ [(13, 12)] ++ [(6, nF 6)])[0]? = some (11, nF 11) := ap_old hg12
  have hg18 : (m14.1 ++ [(5, nF 5)] ++ [(6, nF 6)] ++ [(13, 12)] ++ [(6, nF 6)])[1]? = some (17, 6) := ap_old hg13
  have hg19 : (m14.1 ++ [(5, nF 5)] ++ [(6, nF 6)] ++ [(13, 12)] ++ [(6, nF 6)])[13]? = some (16, 10) := ap_old hg14
  have hg20 : (m14.1 ++ [(5, nF 5)] ++ [(6, nF 6)] ++ [(13, 12)] ++ [(6, nF 6)])[26]? = some (5, nF 5) := ap_old hg15
  have hl21 : (m14.1 ++ [(5, nF 5)] ++ [(6, nF 6)] ++ [(13, 12)] ++ [(6, nF 6)] ++ [(13, 12)]).length = 31 := ap_len hl16 rfl
  have hg22 : (m14.1 ++ [(5, nF 5)] ++ [(6, nF 6)] ++ [(13, 12)] ++ [(6, nF 6)] ++ [(13, 12)])[0]? = some (11, nF 11) := ap_old hg17
  have hg23 : (m14.1 ++ [(5, nF 5)] ++ [(6, nF 6)] ++ [(13, 12)] ++ [(6, nF 6)] ++ [(13, 12)])[1]? = some (17, 6) := ap_old hg18
  have hg24 : (m14.1 ++ [(5, nF 5)] ++ [(6, nF 6)] ++ [(13, 12)] ++ [(6, nF 6)] ++ [(13, 12)])[13]? = some (16, 10) := ap_old hg19
  have hg25 : (m14.1 ++ [(5, nF 5)] ++ [(6, nF 6)] ++ [(13, 12)] ++ [(6, nF 6)] ++ [(13, 12)])[26]? = some (5, nF 5) := ap_old hg20
  have hl26 : (m14.1 ++ [(5, nF 5)] ++ [(6, nF 6)] ++ [(13, 12)] ++ [(6, nF 6)] ++ [(13, 12)] ++ [(13, 1000)]).length = 32 := ap_len hl21 rfl
  have hg27 : (m14.1 ++ [(5, nF 5)] ++ [(6, nF 6)] ++ [(13, 12)] ++ [(6, nF 6)] ++ [(13, 12)] ++ [(13, 1000)])[0]? = some (11, nF 11) := ap_old hg22
  have hg28 : (m14.1 ++ [(5, nF 5)] ++ [(6, nF 6)] ++ [(13, 12)] ++ [(6, nF 6)] ++ [(13, 12)] ++ [(13, 1000)])[1]? = some (17, 6) := ap_old hg23
  have hg29 : (m14.1 ++ [(5, nF 5)] ++ [(6, nF 6)] ++ [(13, 12)] ++ [(6, nF 6)] ++ [(13, 12)] ++ [(13, 1000)])[13]? = some (16, 10) := ap_old hg24
  have hg30 : (m14.1 ++ [(5, nF 5)] ++ [(6, nF 6)] ++ [(13, 12)] ++ [(6, nF 6)] ++ [(13, 12)] ++ [(13, 1000)])[26]? = some (5, nF 5) := ap_old hg25
  have hF : Fr (m14.1 ++ [(5, nF 5)] ++ [(6, nF 6)] ++ [(13, 12)] ++ [(6, nF 6)] ++ [(13, 12)] ++ [(13, 1000)], upR (upR (upR (upR (upR (m14.2.1) (27) 0 (some (28))) (26) 0 (some (27))) (29) 0 (some (30))) (26) 1 (some (29))) (26) 2 (some (31)), wI (wI (wI (wI (wI (wI (m14.2.2) (27) 1 (0)) (29) 1 (0)) (26) 3 (0)) (26) 4 (0)) (26) 5 (0)) (26) 6 (0)) := hF
  show J _ _ _ _ _ _ _ _ _ _ _ (m14.1 ++ [(5, nF 5)] ++ [(6, nF 6)] ++ [(13, 12)] ++ [(6, nF 6)] ++ [(13, 12)] ++ [(13, 1000)], upR (upR (upR (upR (upR (m14.2.1) (27) 0 (some (28))) (26) 0 (some (27))) (29) 0 (some (30))) (26) 1 (some (29))) (26) 2 (some (31)), wI (wI (wI (wI (wI (wI (m14.2.2) (27) 1 (0)) (29) 1 (0)) (26) 3 (0)) (26) 4 (0)) (26) 5 (0)) (26) 6 (0)) _
  refine J_putRF rfl cf11 klX11_83 hF hg27 (Or.inl ⟨_, rfl⟩) dX11_init_135 ?_
  intro hF
  exact sg15 G hF
theorem sg13 (G : Gm) (hF : Fr m13) : J G YX11_init 3 145 23501 finH 23 20261 116 [some (vR (some 0)), none] [] m13 (some m34) := by
  refine J_aload_n dX11_init_116 rfl rfl ?_
  refine J_new (a := 24) (C := RX10) cf10 rfl (in1 138 (by rfl) rfl) (in1 139 (by rfl) rfl) (in1 6 (by rfl) rfl) (by decide) hF lm13 (Nat.le_of_ble_eq_true rfl) (Nat.le_of_ble_eq_true rfl) dX11_init_117 ?_
  intro hF
  have hl1 : (m13.1 ++ [(10, nF 10)]).length = 25 := ap_len lm13 rfl
  have hg2 : (m13.1 ++ [(10, nF 10)])[0]? = some (11, nF 11) := ap_old gm13_0
  have hg3 : (m13.1 ++ [(10, nF 10)])[1]? = some (17, 6) := ap_old gm13_1
  have hg4 : (m13.1 ++ [(10, nF 10)])[13]? = some (16, 10) := ap_old gm13_13
  have hg5 : (m13.1 ++ [(10, nF 10)])[24]? = some (10, nF 10) := ap_new lm13
  have hF : Fr (m13.1 ++ [(10, nF 10)], m13.2.1, m13.2.2) := hF
  show J _ _ _ _ _ _ _ _ _ _ _ (m13.1 ++ [(10, nF 10)], m13.2.1, m13.2.2) _
  refine J_dup dX11_init_120 rfl ?_
  refine J_cN (cXr10 24 (m13.1 ++ [(10, nF 10)], m13.2.1, m13.2.2)) mcX10_init miX10_init (List.mem_of_getElem? (i := 5) rfl) rfl rfl (ctX10_init G hF hl1 hg5) rfl rfl (Nat.le_of_ble_eq_true rfl) (Nat.le_of_ble_eq_true rfl) (Nat.le_of_ble_eq_true rfl) (Nat.le_of_ble_eq_true rfl) (Nat.le_of_ble_eq_true rfl) dX11_init_121 ?_
  have hF := frX10 hF hl1
  have hl6 : (m13.1 ++ [(10, nF 10)] ++ [(13, 8)]).length = 26 := ap_len hl1 rfl
  have hg7 : (m13.1 ++ [(10, nF 10)] ++ [(13, 8)])[0]? = some (11, nF 11) := ap_old hg2
  have hg8 : (m13.1 ++ [(10, nF 10)] ++ [(13, 8)])[1]? = some (17, 6) := ap_old hg3
  have hg9 : (m13.1 ++ [(10, nF 10)] ++ [(13, 8)])[13]? = some (16, 10) := ap_old hg4
  have hg10 : (m13.1 ++ [(10, nF 10)] ++ [(13, 8)])[24]? = some (10, nF 10) := ap_old hg5
  have hF : Fr (m13.1 ++ [(10, nF 10)] ++ [(13, 8)], upR (m13.2.1) (24) 0 (some (25)), wI (m13.2.2) (24) 1 (0)) := hF
  show J _ _ _ _ _ _ _ _ _ _ _ (m13.1 ++ [(10, nF 10)] ++ [(13, 8)], upR (m13.2.1) (24) 0 (some (25)), wI (m13.2.2) (24) 1 (0)) _
  refine J_putRF rfl cf11 klX11_76 hF hg7 (Or.inl ⟨_, rfl⟩) dX11_init_124 ?_
  intro hF
  exact sg14 G hF
theorem sg12 (G : Gm) (hF : Fr m12) : J G YX11_init 3 145 23501 finH 23 20261 111 [some (vR (some 0)), none] [] m12 (some m34) := by
  refine J_aload_n dX11_init_111 rfl rfl ?_
  refine J_iconst (v := 0) dX11_init_112 (by decide) ?_
  refine J_putZ (by decide) cf11 klX11_70 gm12_0 rfl dX11_init_113 ?_
  have hF := hF.wI (a := 0) (k := 12) (x := 0) (List.getElem?_eq_some_iff.mp gm12_0).1
  exact sg13 G hF
theorem sg11 (G : Gm) (hF : Fr m11) : J G YX11_init 3 145 23501 finH 18 20224 100 [some (vR (some 0)), none] [] m11 (some m34) := by
  refine J_aload_n dX11_init_100 rfl rfl ?_
  refine J_new (a := 19) (C := RX7) cf7 rfl (in1 102 (by rfl) rfl) (in1 103 (by rfl) rfl) (in1 5 (by rfl) rfl) (by decide) hF lm11 (Nat.le_of_ble_eq_true rfl) (Nat.le_of_ble_eq_true rfl) dX11_init_101 ?_
  intro hF
  have hl1 : (m11.1 ++ [(7, nF 7)]).length = 20 := ap_len lm11 rfl
  have hg2 : (m11.1 ++ [(7, nF 7)])[0]? = some (11, nF 11) := ap_old gm11_0
  have hg3 : (m11.1 ++ [(7, nF 7)])[1]? = some (17, 6) := ap_old gm11_1
  have hg4 : (m11.1 ++ [(7, nF 7)])[13]? = some (16, 10) := ap_old gm11_13
  have hg5 : (m11.1 ++ [(7, nF 7)])[19]? = some (7, nF 7) := ap_new lm11
  have hF : Fr (m11.1 ++ [(7, nF 7)], m11.2.1, m11.2.2) := hF
  show J _ _ _ _ _ _ _ _ _ _ _ (m11.1 ++ [(7, nF 7)], m11.2.1, m11.2.2) _
  refine J_dup dX11_init_104 rfl ?_
  refine J_cN (cXr7 19 (m11.1 ++ [(7, nF 7)], m11.2.1, m11.2.2)) mcX7_init miX7_init (List.mem_of_getElem? (i := 3) rfl) rfl rfl (ctX7_init G hF hl1 hg5) rfl rfl (Nat.le_of_ble_eq_true rfl) (Nat.le_of_ble_eq_true rfl) (Nat.le_of_ble_eq_true rfl) (Nat.le_of_ble_eq_true rfl) (Nat.le_of_ble_eq_true rfl) dX11_init_105 ?_
  have hF := frX7 hF hl1
  have hl6 : (m11.1 ++ [(7, nF 7)] ++ [(6, nF 6)]).length = 21 := ap_len hl1 rfl
  have hg7 : (m11.1 ++ [(7, nF 7)] ++ [(6, nF 6)])[0]? = some (11, nF 11) := ap_old hg2
  have hg8 : (m11.1 ++ [(7, nF 7)] ++ [(6, nF 6)])[1]? = some (17, 6) := ap_old hg3
  have hg9 : (m11.1 ++ [(7, nF 7)] ++ [(6, nF 6)])[13]? = some (16, 10) := ap_old hg4
  have hg10 : (m11.1 ++ [(7, nF 7)] ++ [(6, nF 6)])[19]? = some (7, nF 7) := ap_old hg5
  have hl11 : (m11.1 ++ [(7, nF 7)] ++ [(6, nF 6)] ++ [(13, 12)]).length = 22 := ap_len hl6 rfl
  have hg12 : (m11.1 ++ [(7, nF 7)] ++ [(6, nF 6)] ++ [(13, 12)])[0]? = some (11, nF 11) := ap_old hg7
  have hg13 : (m11.1 ++ [(7, nF 7)] ++ [(6, nF 6)] ++ [(13, 12)])[1]? = some (17, 6) := ap_old hg8
  have hg14 : (m11.1 ++ [(7, nF 7)] ++ [(6, nF 6)] ++ [(13, 12)])[13]? = some (16, 10) := ap_old hg9
  have hg15 : (m11.1 ++ [(7, nF 7)] ++ [(6, nF 6)] ++ [(13, 12)])[19]? = some (7, nF 7) := ap_old hg10
  have hl16 : (m11.1 ++ [(7, nF 7)] ++ [(6, nF 6)] ++ [(13, 12)] ++ [(6, nF 6)]).length = 23 := ap_len hl11 rfl
  have hg17 : (m11.1 ++ [(7, nF 7)] ++ [(6, nF 6)] ++ [(13, 12)] ++ [(6, nF 6)])[0]? = some (11, nF 11) := ap_old hg12
  have hg18 : (m11.1 ++ [(7, nF 7)] ++ [(6, nF 6)] ++ [(13, 12)] ++ [(6, nF 6)])[1]? = some (17, 6) := ap_old hg13
  have hg19 : (m11.1 ++ [(7, nF 7)] ++ [(6, nF 6)] ++ [(13, 12)] ++ [(6, nF 6)])[13]? = some (16, 10) := ap_old hg14
  have hg20 : (m11.1 ++ [(7, nF 7)] ++ [(6, nF 6)] ++ [(13, 12)] ++ [(6, nF 6)])[19]? = some (7, nF 7) := ap_old hg15
  have hl21 : (m11.1 ++ [(7, nF 7)] ++ [(6, nF 6)] ++ [(13, 12)] ++ [(6, nF 6)] ++ [(13, 12)]).length = 24 := ap_len hl16 rfl
  have hg22 : (m11.1 ++ [(7, nF 7)] ++ [(6, nF 6)] ++ [(13, 12)] ++ [(6, nF 6)] ++ [(13, 12)])[0]? = some (11, nF 11) := ap_old hg17
  have hg23 : (m11.1 ++ [(7, nF 7)] ++ [(6, nF 6)] ++ [(13, 12)] ++ [(6, nF 6)] ++ [(13, 12)])[1]? = some (17, 6) := ap_old hg18
  have hg24 : (m11.1 ++ [(7, nF 7)] ++ [(6, nF 6)] ++ [(13, 12)] ++ [(6, nF 6)] ++ [(13, 12)])[13]? = some (16, 10) := ap_old hg19
  have hg25 : (m11.1 ++ [(7, nF 7)] ++ [(6, nF 6)] ++ [(13, 12)] ++ [(6, nF 6)] ++ [(13, 12)])[19]? = some (7, nF 7) := ap_old hg20
  have hF : Fr (m11.1 ++ [(7, nF 7)] ++ [(6, nF 6)] ++ [(13, 12)] ++ [(6, nF 6)] ++ [(13, 12)], upR (upR (upR (upR (m11.2.1) (20) 0 (some (21))) (19) 0 (some (20))) (22) 0 (some (23))) (19) 1 (some (22)), wI (wI (wI (wI (wI (wI (wI (wI (wI (m11.2.2) (20) 1 (0)) (22) 1 (0)) (19) 2 (0)) (19) 3 (0)) (19) 4 (0)) (19) 5 (0)) (19) 6 (0)) (19) 7 (0)) (19) 8 (0)) := hF
  show J _ _ _ _ _ _ _ _ _ _ _ (m11.1 ++ [(7, nF 7)] ++ [(6, nF 6)] ++ [(13, 12)] ++ [(6, nF 6)] ++ [(13, 12)], upR (upR (upR (upR (m11.2.1) (20) 0 (some (21))) (19) 0 (some (20))) (22) 0 (some (23))) (19) 1 (some (22)), wI (wI (wI (wI (wI (wI (wI (wI (wI (m11.2.2) (20) 1 (0)) (22) 1 (0)) (19) 2 (0)) (19) 3 (0)) (19) 4 (0)) (19) 5 (0)) (19) 6 (0)) (19) 7 (0)) (19) 8 (0)) _
  refine J_putRF rfl cf11 klX11_67 hF hg22 (Or.inl ⟨_, rfl⟩) dX11_init_108 ?_
  intro hF
  exact sg12 G hF
theorem sg10 (G : Gm) (hF : Fr m10) : J G YX11_init 3 145 23501 finH 13 20187 89 [some (vR (some 0)), none] [] m10 (some m34) := by
  refine J_aload_n dX11_init_89 rfl rfl ?_
  refine J_new (a := 14) (C := RX7) cf7 rfl (in1 102 (by rfl) rfl) (in1 103 (by rfl) rfl) (in1 5 (by rfl) rfl) (by decide) hF lm10 (Nat.le_of_ble_eq_true rfl) (Nat.le_of_ble_eq_true rfl) dX11_init_90 ?_
  intro hF
  have hl1 : (m10.1 ++ [(7, nF 7)]).length = 15 := ap_len lm10 rfl
  have hg2 : (m10.1 ++ [(7, nF 7)])[0]? = some (11, nF 11) := ap_old gm10_0
  have hg3 : (m10.1 ++ [(7, nF 7)])[1]? = some (17, 6) := ap_old gm10_1
  have hg4 : (m10.1 ++ [(7, nF 7)])[13]? = some (16, 10) := ap_old gm10_13
  have hg5 : (m10.1 ++ [(7, nF 7)])[14]? = some (7, nF 7) := ap_new lm10
  have hF : Fr (m10.1 ++ [(7, nF 7)], m10.2.1, m10.2.2) := hF
  show J _ _ _ _ _ _ _ _ _ _ _ (m10.1 ++ [(7, nF 7)], m10.2.1, m10.2.2) _
  refine J_dup dX11_init_93 rfl ?_
  refine J_cN (cXr7 14 (m10.1 ++ [(7, nF 7)], m10.2.1, m10.2.2)) mcX7_init miX7_init (List.mem_of_getElem? (i := 3) rfl) rfl rfl (ctX7_init G hF hl1 hg5) rfl rfl (Nat.le_of_ble_eq_true rfl) (Nat.le_of_ble_eq_true rfl) (Nat.le_of_ble_eq_true rfl) (Nat.le_of_ble_eq_true rfl) (Nat.le_of_ble_eq_true rfl) dX11_init_94 ?_
  have hF := frX7 hF hl1
  have hl6 : (m10.1 ++ [(7, nF 7)] ++ [(6, nF 6)]).length = 16 := ap_len hl1 rfl
  have hg7 : (m10.1 ++ [(7, nF 7)] ++ [(6, nF 6)])[0]? = some (11, nF 11) := ap_old hg2
  have hg8 : (m10.1 ++ [(7, nF 7)] ++ [(6, nF 6)])[1]? = some (17, 6) := ap_old hg3
  have hg9 : (m10.1 ++ [(7, nF 7)] ++ [(6, nF 6)])[13]? = some (16, 10) := ap_old hg4
  have hg10 : (m10.1 ++ [(7, nF 7)] ++ [(6, nF 6)])[14]? = some (7, nF 7) := ap_old hg5
  have hl11 : (m10.1 ++ [(7, nF 7)] ++ [(6, nF 6)] ++ [(13, 12)]).length = 17 := ap_len hl6 rfl
  have hg12 : (m10.1 ++ [(7, nF 7)] ++ [(6, nF 6)] ++ [(13, 12)])[0]? = some (11, nF 11) := ap_old hg7
  have hg13 : (m10.1 ++ [(7, nF 7)] ++ [(6, nF 6)] ++ [(13, 12)])[1]? = some (17, 6) := ap_old hg8
  have hg14 : (m10.1 ++ [(7, nF 7)] ++ [(6, nF 6)] ++ [(13, 12)])[13]? = some (16, 10) := ap_old hg9
  have hg15 : (m10.1 ++ [(7, nF 7)] ++ [(6, nF 6)] ++ [(13, 12)])[14]? = some (7, nF 7) := ap_old hg10
  have hl16 : (m10.1 ++ [(7, nF 7)] ++ [(6, nF 6)] ++ [(13, 12)] ++ [(6, nF 6)]).length = 18 := ap_len hl11 rfl
  have hg17 : (m10.1 ++ [(7, nF 7)] ++ [(6, nF 6)] ++ [(13, 12)] ++ [(6, nF 6)])[0]? = some (11, nF 11) := ap_old hg12
  have hg18 : (m10.1 ++ [(7, nF 7)] ++ [(6, nF 6)] ++ [(13, 12)] ++ [(6, nF 6)])[1]? = some (17, 6) := ap_old hg13
  have hg19 : (m10.1 ++ [(7, nF 7)] ++ [(6, nF 6)] ++ [(13, 12)] ++ [(6, nF 6)])[13]? = some (16, 10) := ap_old hg14
  have hg20 : (m10.1 ++ [(7, nF 7)] ++ [(6, nF 6)] ++ [(13, 12)] ++ [(6, nF 6)])[14]? = some (7, nF 7) := ap_old hg15
  have hl21 : (m10.1 ++ [(7, nF 7)] ++ [(6, nF 6)] ++ [(13, 12)] ++ [(6, nF 6)] ++ [(13, 12)]).length = 19 := ap_len hl16 rfl
  have hg22 : (m10.1 ++ [(7, nF 7)] ++ [(6, nF 6)] ++ [(13, 12)] ++ [(6, nF 6)] ++ [(13, 12)])[0]? = some (11, nF 11) := ap_old hg17
  have hg23 : (m10.1 ++ [(7, nF 7)] ++ [(6, nF 6)] ++ [(13, 12)] ++ [(6, nF 6)] ++ [(13, 12)])[1]? = some (17, 6) := ap_old hg18
  have hg24 : (m10.1 ++ [(7, nF 7)] ++ [(6, nF 6)] ++ [(13, 12)] ++ [(6, nF 6)] ++ [(13, 12)])[13]? = some (16, 10) := ap_old hg19
  have hg25 : (m10.1 ++ [(7, nF 7)] ++ [(6, nF 6)] ++ [(13, 12)] ++ [(6, nF 6)] ++ [(13, 12)])[14]? = some (7, nF 7) := ap_old hg20
  have hF : Fr (m10.1 ++ [(7, nF 7)] ++ [(6, nF 6)] ++ [(13, 12)] ++ [(6, nF 6)] ++ [(13, 12)], upR (upR (upR (upR (m10.2.1) (15) 0 (some (16))) (14) 0 (some (15))) (17) 0 (some (18))) (14) 1 (some (17)), wI (wI (wI (wI (wI (wI (wI (wI (wI (m10.2.2) (15) 1 (0)) (17) 1 (0)) (14) 2 (0)) (14) 3 (0)) (14) 4 (0)) (14) 5 (0)) (14) 6 (0)) (14) 7 (0)) (14) 8 (0)) := hF
  show J _ _ _ _ _ _ _ _ _ _ _ (m10.1 ++ [(7, nF 7)] ++ [(6, nF 6)] ++ [(13, 12)] ++ [(6, nF 6)] ++ [(13, 12)], upR (upR (upR (upR (m10.2.1) (15) 0 (some (16))) (14) 0 (some (15))) (17) 0 (some (18))) (14) 1 (some (17)), wI (wI (wI (wI (wI (wI (wI (wI (wI (m10.2.2) (15) 1 (0)) (17) 1 (0)) (14) 2 (0)) (14) 3 (0)) (14) 4 (0)) (14) 5 (0)) (14) 6 (0)) (14) 7 (0)) (14) 8 (0)) _
  refine J_putRF rfl cf11 klX11_63 hF hg22 (Or.inl ⟨_, rfl⟩) dX11_init_97 ?_
  intro hF
  exact sg11 G hF
theorem sg9 (G : Gm) (hF : Fr m9) : J G YX11_init 3 145 23501 finH 13 20187 84 [some (vR (some 0)), none] [] m9 (some m34) := by
  refine J_aload_n dX11_init_84 rfl rfl ?_
  refine J_iconst (v := 0) dX11_init_85 (by decide) ?_
  refine J_putI cf11 klX11_57 gm9_0 rfl dX11_init_86 ?_
  have hF := hF.wI (a := 0) (k := 9) (x := 0) (List.getElem?_eq_some_iff.mp gm9_0).1
  exact sg10 G hF
theorem sg8 (G : Gm) (hF : Fr m8) : J G YX11_init 3 145 23501 finH 12 20177 75 [some (vR (some 0)), none] [] m8 (some m34) := by
  refine J_aload_n dX11_init_75 rfl rfl ?_
  refine J_bipush (v := 10) dX11_init_76 (by decide) ?_
  refine J_anew (a := 13) (N := 10) (kd := 16) (C := "AllPrograms$Ask") (by decide) rfl (fun U h => h.2.1) (in1 100 (by rfl) rfl) (by decide) (by decide) (by decide) hF lm8 (Nat.le_of_ble_eq_true rfl) (Nat.le_of_ble_eq_true rfl) dX11_init_78 ?_
  intro hF
  have hl1 : (m8.1 ++ [(16, 10)]).length = 14 := ap_len lm8 rfl
  have hg2 : (m8.1 ++ [(16, 10)])[0]? = some (11, nF 11) := ap_old gm8_0
  have hg3 : (m8.1 ++ [(16, 10)])[1]? = some (17, 6) := ap_old gm8_1
  have hg4 : (m8.1 ++ [(16, 10)])[13]? = some (16, 10) := ap_new lm8
  have hF : Fr (m8.1 ++ [(16, 10)], m8.2.1, m8.2.2) := hF
  show J _ _ _ _ _ _ _ _ _ _ _ (m8.1 ++ [(16, 10)], m8.2.1, m8.2.2) _
  refine J_putRF rfl cf11 klX11_53 hF hg2 (Or.inr ⟨_, rfl⟩) dX11_init_81 ?_
  intro hF
  exact sg9 G hF
theorem sg7 (G : Gm) (hF : Fr m7) : J G YX11_init 3 145 23501 finH 10 20113 64 [some (vR (some 0)), none] [] m7 (some m34) := by
  refine J_aload_n dX11_init_64 rfl rfl ?_
  refine J_new (a := 11) (C := RX9) cf9 rfl (in1 81 (by rfl) rfl) (in1 82 (by rfl) rfl) (in1 4 (by rfl) rfl) (by decide) hF lm7 (Nat.le_of_ble_eq_true rfl) (Nat.le_of_ble_eq_true rfl) dX11_init_65 ?_
  intro hF
  have hl1 : (m7.1 ++ [(9, nF 9)]).length = 12 := ap_len lm7 rfl
  have hg2 : (m7.1 ++ [(9, nF 9)])[0]? = some (11, nF 11) := ap_old gm7_0
  have hg3 : (m7.1 ++ [(9, nF 9)])[1]? = some (17, 6) := ap_old gm7_1
  have hg4 : (m7.1 ++ [(9, nF 9)])[11]? = some (9, nF 9) := ap_new lm7
  have hF : Fr (m7.1 ++ [(9, nF 9)], m7.2.1, m7.2.2) := hF
  show J _ _ _ _ _ _ _ _ _ _ _ (m7.1 ++ [(9, nF 9)], m7.2.1, m7.2.2) _
  refine J_dup dX11_init_68 rfl ?_
  refine J_cN (cXr9 11 (m7.1 ++ [(9, nF 9)], m7.2.1, m7.2.2)) mcX9_init miX9_init (List.mem_of_getElem? (i := 2) rfl) rfl rfl (ctX9_init G hF hl1 hg4) rfl rfl (Nat.le_of_ble_eq_true rfl) (Nat.le_of_ble_eq_true rfl) (Nat.le_of_ble_eq_true rfl) (Nat.le_of_ble_eq_true rfl) (Nat.le_of_ble_eq_true rfl) dX11_init_69 ?_
  have hF := frX9 hF hl1
  have hl5 : (m7.1 ++ [(9, nF 9)] ++ [(13, 60)]).length = 13 := ap_len hl1 rfl
  have hg6 : (m7.1 ++ [(9, nF 9)] ++ [(13, 60)])[0]? = some (11, nF 11) := ap_old hg2
  have hg7 : (m7.1 ++ [(9, nF 9)] ++ [(13, 60)])[1]? = some (17, 6) := ap_old hg3
  have hg8 : (m7.1 ++ [(9, nF 9)] ++ [(13, 60)])[11]? = some (9, nF 9) := ap_old hg4
  have hF : Fr (m7.1 ++ [(9, nF 9)] ++ [(13, 60)], upR (m7.2.1) (11) 0 (some (12)), wI (wI (wI (m7.2.2) (11) 1 (0)) (11) 2 (0)) (11) 3 (-1)) := hF
  show J _ _ _ _ _ _ _ _ _ _ _ (m7.1 ++ [(9, nF 9)] ++ [(13, 60)], upR (m7.2.1) (11) 0 (some (12)), wI (wI (wI (m7.2.2) (11) 1 (0)) (11) 2 (0)) (11) 3 (-1)) _
  refine J_putRF rfl cf11 klX11_47 hF hg6 (Or.inl ⟨_, rfl⟩) dX11_init_72 ?_
  intro hF
  exact sg8 G hF
theorem sg6 (G : Gm) (hF : Fr m6) : J G YX11_init 3 145 23501 finH 10 20113 59 [some (vR (some 0)), none] [] m6 (some m34) := by
  refine J_aload_n dX11_init_59 rfl rfl ?_
  refine J_iconst (v := 0) dX11_init_60 (by decide) ?_
  refine J_putZ (by decide) cf11 klX11_40 gm6_0 rfl dX11_init_61 ?_
  have hF := hF.wI (a := 0) (k := 6) (x := 0) (List.getElem?_eq_some_iff.mp gm6_0).1
  exact sg7 G hF
theorem sg5 (G : Gm) (hF : Fr m5) : J G YX11_init 3 145 23501 finH 9 20101 51 [some (vR (some 0)), none] [] m5 (some m34) := by
  refine J_aload_n dX11_init_51 rfl rfl ?_
  refine J_bipush (v := 12) dX11_init_52 (by decide) ?_
  refine J_newI (a := 10) (N := 12) (by decide) (by decide) (by decide) hF lm5 (Nat.le_of_ble_eq_true rfl) (Nat.le_of_ble_eq_true rfl) dX11_init_54 ?_
  intro hF
  have hl1 : (m5.1 ++ [(13, 12)]).length = 11 := ap_len lm5 rfl
  have hg2 : (m5.1 ++ [(13, 12)])[0]? = some (11, nF 11) := ap_old gm5_0
  have hg3 : (m5.1 ++ [(13, 12)])[1]? = some (17, 6) := ap_old gm5_1
  have hF : Fr (m5.1 ++ [(13, 12)], m5.2.1, m5.2.2) := hF
  show J _ _ _ _ _ _ _ _ _ _ _ (m5.1 ++ [(13, 12)], m5.2.1, m5.2.2) _
  refine J_putRF rfl cf11 klX11_36 hF hg2 (Or.inr ⟨_, rfl⟩) dX11_init_56 ?_
  intro hF
  exact sg6 G hF
theorem sg4 (G : Gm) (hF : Fr m4) : J G YX11_init 3 145 23501 finH 5 34 40 [some (vR (some 0)), none] [] m4 (some m34) := by
  refine J_aload_n dX11_init_40 rfl rfl ?_
  refine J_new (a := 6) (C := RX4) cf4 rfl (in1 41 (by rfl) rfl) (in1 42 (by rfl) rfl) (in1 3 (by rfl) rfl) (by decide) hF lm4 (Nat.le_of_ble_eq_true rfl) (Nat.le_of_ble_eq_true rfl) dX11_init_41 ?_
  intro hF
  have hl1 : (m4.1 ++ [(4, nF 4)]).length = 7 := ap_len lm4 rfl
  have hg2 : (m4.1 ++ [(4, nF 4)])[0]? = some (11, nF 11) := ap_old gm4_0
  have hg3 : (m4.1 ++ [(4, nF 4)])[1]? = some (17, 6) := ap_old gm4_1
  have hg4 : (m4.1 ++ [(4, nF 4)])[6]? = some (4, nF 4) := ap_new lm4
  have hF : Fr (m4.1 ++ [(4, nF 4)], m4.2.1, m4.2.2) := hF
  show J _ _ _ _ _ _ _ _ _ _ _ (m4.1 ++ [(4, nF 4)], m4.2.1, m4.2.2) _
  refine J_dup dX11_init_44 rfl ?_
  refine J_cN (cXr4 6 (m4.1 ++ [(4, nF 4)], m4.2.1, m4.2.2)) mcX4_init miX4_init (List.mem_of_getElem? (i := 1) rfl) rfl rfl (ctX4_init G hF hl1 hg4) rfl rfl (Nat.le_of_ble_eq_true rfl) (Nat.le_of_ble_eq_true rfl) (Nat.le_of_ble_eq_true rfl) (Nat.le_of_ble_eq_true rfl) (Nat.le_of_ble_eq_true rfl) dX11_init_45 ?_
  have hF := frX4 hF hl1
  have hl5 : (m4.1 ++ [(4, nF 4)] ++ [(13, 48)]).length = 8 := ap_len hl1 rfl
  have hg6 : (m4.1 ++ [(4, nF 4)] ++ [(13, 48)])[0]? = some (11, nF 11) := ap_old hg2
  have hg7 : (m4.1 ++ [(4, nF 4)] ++ [(13, 48)])[1]? = some (17, 6) := ap_old hg3
  have hg8 : (m4.1 ++ [(4, nF 4)] ++ [(13, 48)])[6]? = some (4, nF 4) := ap_old hg4
  have hl9 : (m4.1 ++ [(4, nF 4)] ++ [(13, 48)] ++ [(13, 8)]).length = 9 := ap_len hl5 rfl
  have hg10 : (m4.1 ++ [(4, nF 4)] ++ [(13, 48)] ++ [(13, 8)])[0]? = some (11, nF 11) := ap_old hg6
  have hg11 : (m4.1 ++ [(4, nF 4)] ++ [(13, 48)] ++ [(13, 8)])[1]? = some (17, 6) := ap_old hg7
  have hg12 : (m4.1 ++ [(4, nF 4)] ++ [(13, 48)] ++ [(13, 8)])[6]? = some (4, nF 4) := ap_old hg8
  have hl13 : (m4.1 ++ [(4, nF 4)] ++ [(13, 48)] ++ [(13, 8)] ++ [(13, 20000)]).length = 10 := ap_len hl9 rfl
  have hg14 : (m4.1 ++ [(4, nF 4)] ++ [(13, 48)] ++ [(13, 8)] ++ [(13, 20000)])[0]? = some (11, nF 11) := ap_old hg10
  have hg15 : (m4.1 ++ [(4, nF 4)] ++ [(13, 48)] ++ [(13, 8)] ++ [(13, 20000)])[1]? = some (17, 6) := ap_old hg11
  have hg16 : (m4.1 ++ [(4, nF 4)] ++ [(13, 48)] ++ [(13, 8)] ++ [(13, 20000)])[6]? = some (4, nF 4) := ap_old hg12
  have hF : Fr (m4.1 ++ [(4, nF 4)] ++ [(13, 48)] ++ [(13, 8)] ++ [(13, 20000)], upR (upR (upR (m4.2.1) (6) 0 (some (7))) (6) 7 (some (8))) (6) 9 (some (9)), wI (wI (wI (wI (wI (wI (wI (wI (m4.2.2) (6) 1 (0)) (6) 2 (0)) (6) 3 (0)) (6) 4 (0)) (6) 5 (0)) (6) 6 (2)) (6) 8 (0)) (6) 10 (0)) := hF
  show J _ _ _ _ _ _ _ _ _ _ _ (m4.1 ++ [(4, nF 4)] ++ [(13, 48)] ++ [(13, 8)] ++ [(13, 20000)], upR (upR (upR (m4.2.1) (6) 0 (some (7))) (6) 7 (some (8))) (6) 9 (some (9)), wI (wI (wI (wI (wI (wI (wI (wI (m4.2.2) (6) 1 (0)) (6) 2 (0)) (6) 3 (0)) (6) 4 (0)) (6) 5 (0)) (6) 6 (2)) (6) 8 (0)) (6) 10 (0)) _
  refine J_putRF rfl cf11 klX11_32 hF hg14 (Or.inl ⟨_, rfl⟩) dX11_init_48 ?_
  intro hF
  exact sg5 G hF
theorem sg3 (G : Gm) (hF : Fr m3) : J G YX11_init 3 145 23501 finH 3 20 29 [some (vR (some 0)), none] [] m3 (some m34) := by
  refine J_aload_n dX11_init_29 rfl rfl ?_
  refine J_new (a := 4) (C := RX6) cf6 rfl (in1 27 (by rfl) rfl) (in1 28 (by rfl) rfl) (in1 2 (by rfl) rfl) (by decide) hF lm3 (Nat.le_of_ble_eq_true rfl) (Nat.le_of_ble_eq_true rfl) dX11_init_30 ?_
  intro hF
  have hl1 : (m3.1 ++ [(6, nF 6)]).length = 5 := ap_len lm3 rfl
  have hg2 : (m3.1 ++ [(6, nF 6)])[0]? = some (11, nF 11) := ap_old gm3_0
  have hg3 : (m3.1 ++ [(6, nF 6)])[1]? = some (17, 6) := ap_old gm3_1
  have hg4 : (m3.1 ++ [(6, nF 6)])[4]? = some (6, nF 6) := ap_new lm3
  have hF : Fr (m3.1 ++ [(6, nF 6)], m3.2.1, m3.2.2) := hF
  show J _ _ _ _ _ _ _ _ _ _ _ (m3.1 ++ [(6, nF 6)], m3.2.1, m3.2.2) _
  refine J_dup dX11_init_33 rfl ?_
  refine J_cN (cXr6 4 (m3.1 ++ [(6, nF 6)], m3.2.1, m3.2.2)) mcX6_init miX6_init (List.mem_of_getElem? (i := 0) rfl) rfl rfl (ctX6_init G hF hl1 hg4) rfl rfl (Nat.le_of_ble_eq_true rfl) (Nat.le_of_ble_eq_true rfl) (Nat.le_of_ble_eq_true rfl) (Nat.le_of_ble_eq_true rfl) (Nat.le_of_ble_eq_true rfl) dX11_init_34 ?_
  have hF := frX6 hF hl1
  have hl5 : (m3.1 ++ [(6, nF 6)] ++ [(13, 12)]).length = 6 := ap_len hl1 rfl
  have hg6 : (m3.1 ++ [(6, nF 6)] ++ [(13, 12)])[0]? = some (11, nF 11) := ap_old hg2
  have hg7 : (m3.1 ++ [(6, nF 6)] ++ [(13, 12)])[1]? = some (17, 6) := ap_old hg3
  have hg8 : (m3.1 ++ [(6, nF 6)] ++ [(13, 12)])[4]? = some (6, nF 6) := ap_old hg4
  have hF : Fr (m3.1 ++ [(6, nF 6)] ++ [(13, 12)], upR (m3.2.1) (4) 0 (some (5)), wI (m3.2.2) (4) 1 (0)) := hF
  show J _ _ _ _ _ _ _ _ _ _ _ (m3.1 ++ [(6, nF 6)] ++ [(13, 12)], upR (m3.2.1) (4) 0 (some (5)), wI (m3.2.2) (4) 1 (0)) _
  refine J_putRF rfl cf11 klX11_26 hF hg6 (Or.inl ⟨_, rfl⟩) dX11_init_37 ?_
  intro hF
  exact sg4 G hF
theorem sg2 (G : Gm) (hF : Fr m2) : J G YX11_init 3 145 23501 finH 1 6 18 [some (vR (some 0)), none] [] m2 (some m34) := by
  refine J_aload_n dX11_init_18 rfl rfl ?_
  refine J_new (a := 2) (C := RX6) cf6 rfl (in1 27 (by rfl) rfl) (in1 28 (by rfl) rfl) (in1 2 (by rfl) rfl) (by decide) hF lm2 (Nat.le_of_ble_eq_true rfl) (Nat.le_of_ble_eq_true rfl) dX11_init_19 ?_
  intro hF
  have hl1 : (m2.1 ++ [(6, nF 6)]).length = 3 := ap_len lm2 rfl
  have hg2 : (m2.1 ++ [(6, nF 6)])[0]? = some (11, nF 11) := ap_old gm2_0
  have hg3 : (m2.1 ++ [(6, nF 6)])[1]? = some (17, 6) := ap_old gm2_1
  have hg4 : (m2.1 ++ [(6, nF 6)])[2]? = some (6, nF 6) := ap_new lm2
  have hF : Fr (m2.1 ++ [(6, nF 6)], m2.2.1, m2.2.2) := hF
  show J _ _ _ _ _ _ _ _ _ _ _ (m2.1 ++ [(6, nF 6)], m2.2.1, m2.2.2) _
  refine J_dup dX11_init_22 rfl ?_
  refine J_cN (cXr6 2 (m2.1 ++ [(6, nF 6)], m2.2.1, m2.2.2)) mcX6_init miX6_init (List.mem_of_getElem? (i := 0) rfl) rfl rfl (ctX6_init G hF hl1 hg4) rfl rfl (Nat.le_of_ble_eq_true rfl) (Nat.le_of_ble_eq_true rfl) (Nat.le_of_ble_eq_true rfl) (Nat.le_of_ble_eq_true rfl) (Nat.le_of_ble_eq_true rfl) dX11_init_23 ?_
  have hF := frX6 hF hl1
  have hl5 : (m2.1 ++ [(6, nF 6)] ++ [(13, 12)]).length = 4 := ap_len hl1 rfl
  have hg6 : (m2.1 ++ [(6, nF 6)] ++ [(13, 12)])[0]? = some (11, nF 11) := ap_old hg2
  have hg7 : (m2.1 ++ [(6, nF 6)] ++ [(13, 12)])[1]? = some (17, 6) := ap_old hg3
  have hg8 : (m2.1 ++ [(6, nF 6)] ++ [(13, 12)])[2]? = some (6, nF 6) := ap_old hg4
  have hF : Fr (m2.1 ++ [(6, nF 6)] ++ [(13, 12)], upR (m2.2.1) (2) 0 (some (3)), wI (m2.2.2) (2) 1 (0)) := hF
  show J _ _ _ _ _ _ _ _ _ _ _ (m2.1 ++ [(6, nF 6)] ++ [(13, 12)], upR (m2.2.1) (2) 0 (some (3)), wI (m2.2.2) (2) 1 (0)) _
  refine J_putRF rfl cf11 klX11_22 hF hg6 (Or.inl ⟨_, rfl⟩) dX11_init_26 ?_
  intro hF
  exact sg3 G hF
theorem sg1 (G : Gm) (hF : Fr m1) : J G YX11_init 3 145 23501 finH 1 6 13 [some (vR (some 0)), none] [] m1 (some m34) := by
  refine J_aload_n dX11_init_13 rfl rfl ?_
  refine J_iconst (v := 0) dX11_init_14 (by decide) ?_
  refine J_putI cf11 klX11_15 gm1_0 rfl dX11_init_15 ?_
  have hF := hF.wI (a := 0) (k := 1) (x := 0) (List.getElem?_eq_some_iff.mp gm1_0).1
  exact sg2 G hF
theorem sg0 (G : Gm) (hF : Fr m0) : J G YX11_init 3 145 23501 finH 0 0 0 [some (vR (some 0)), none] [] m0 (some m34) := by
  refine J_aload_n dX11_init_0 rfl rfl ?_
  refine J_objInit (in1 22 (by rfl) rfl) w_oi1 w_oi2 (Nat.le_of_ble_eq_true rfl) (Nat.le_of_ble_eq_true rfl) dX11_init_1 ?_
  refine J_aload_n dX11_init_4 rfl rfl ?_
  refine J_bipush (v := 6) dX11_init_5 (by decide) ?_
  refine J_anew (a := 1) (N := 6) (kd := 17) (C := "AllPrograms$Language") (by decide) rfl (fun U h => h.1) (in1 25 (by rfl) rfl) (by decide) (by decide) (by decide) hF lm0 (Nat.le_of_ble_eq_true rfl) (Nat.le_of_ble_eq_true rfl) dX11_init_7 ?_
  intro hF
  have hl1 : (m0.1 ++ [(17, 6)]).length = 2 := ap_len lm0 rfl
  have hg2 : (m0.1 ++ [(17, 6)])[0]? = some (11, nF 11) := ap_old gm0_0
  have hg3 : (m0.1 ++ [(17, 6)])[1]? = some (17, 6) := ap_new lm0
  have hF : Fr (m0.1 ++ [(17, 6)], m0.2.1, m0.2.2) := hF
  show J _ _ _ _ _ _ _ _ _ _ _ (m0.1 ++ [(17, 6)], m0.2.1, m0.2.2) _
  refine J_putRF rfl cf11 klX11_11 hF hg2 (Or.inr ⟨_, rfl⟩) dX11_init_10 ?_
  intro hF
  exact sg1 G hF
theorem fr_m0 : Fr m0 := fun _ _ _ => ⟨rfl, rfl, rfl⟩
theorem ctX11_init (G : Gm) : Ct G YX11_init yX11_init 3 145 23501 finH (some m34) [vR (some 0)] m0 := by
  refine Ct_of_J [some (vR (some 0)), none] (by decide) rfl (fun _ => rfl) (Nat.le_of_ble_eq_true rfl) (And.intro rfl trivial) ?_
  exact sg0 G fr_m0
def mE : Hm := cXr12 146 (m34.1 ++ [(12, nF 12)], m34.2.1, m34.2.2)
