/-! The memory behind both constructors is the one that the contracts speak of; the relation holds there. -/
theorem frm0 : Fr m0 := fr_m0
theorem frm1 : Fr m1 := by
  intro c hc k
  rw [lm1] at hc
  have h := frm0 c (by rw [lm0]; omega) k
  refine ⟨?_, ?_, h.2.2⟩
  · show (upR (m0.2.1) 0 0 (some 1)) c k = none
    simp only [upR, rfM]
    repeat rw [if_neg (by omega)]
    exact h.1
  · show (m0.2.2).1 c k = 0
    exact h.2.1
theorem frm2 : Fr m2 := by
  intro c hc k
  rw [lm2] at hc
  have h := frm1 c (by rw [lm1]; omega) k
  refine ⟨?_, ?_, h.2.2⟩
  · show (m1.2.1) c k = none
    exact h.1
  · show (wI (m1.2.2) 0 1 (0)).1 c k = 0
    simp only [wI, fiI]
    repeat rw [if_neg (by omega)]
    exact h.2.1
theorem frm3 : Fr m3 := by
  intro c hc k
  rw [lm3] at hc
  have h := frm2 c (by rw [lm2]; omega) k
  refine ⟨?_, ?_, h.2.2⟩
  · show (upR (upR (m2.2.1) (2) 0 (some (3))) 0 2 (some 2)) c k = none
    simp only [upR, rfM]
    repeat rw [if_neg (by omega)]
    exact h.1
  · show (wI (m2.2.2) (2) 1 (0)).1 c k = 0
    simp only [wI, fiI]
    repeat rw [if_neg (by omega)]
    exact h.2.1
theorem frm4 : Fr m4 := by
  intro c hc k
  rw [lm4] at hc
  have h := frm3 c (by rw [lm3]; omega) k
  refine ⟨?_, ?_, h.2.2⟩
  · show (upR (upR (m3.2.1) (4) 0 (some (5))) 0 3 (some 4)) c k = none
    simp only [upR, rfM]
    repeat rw [if_neg (by omega)]
    exact h.1
  · show (wI (m3.2.2) (4) 1 (0)).1 c k = 0
    simp only [wI, fiI]
    repeat rw [if_neg (by omega)]
    exact h.2.1
theorem frm5 : Fr m5 := by
  intro c hc k
  rw [lm5] at hc
  have h := frm4 c (by rw [lm4]; omega) k
  refine ⟨?_, ?_, h.2.2⟩
  · show (upR (upR (upR (upR (m4.2.1) (6) 0 (some (7))) (6) 7 (some (8))) (6) 9 (some (9))) 0 4 (some 6)) c k = none
    simp only [upR, rfM]
    repeat rw [if_neg (by omega)]
    exact h.1
  · show (wI (wI (wI (wI (wI (wI (wI (wI (m4.2.2) (6) 1 (0)) (6) 2 (0)) (6) 3 (0)) (6) 4 (0)) (6) 5 (0)) (6) 6 (2)) (6) 8 (0)) (6) 10 (0)).1 c k = 0
    simp only [wI, fiI]
    repeat rw [if_neg (by omega)]
    exact h.2.1
theorem frm6 : Fr m6 := by
  intro c hc k
  rw [lm6] at hc
  have h := frm5 c (by rw [lm5]; omega) k
  refine ⟨?_, ?_, h.2.2⟩
  · show (upR (m5.2.1) 0 5 (some 10)) c k = none
    simp only [upR, rfM]
    repeat rw [if_neg (by omega)]
    exact h.1
  · show (m5.2.2).1 c k = 0
    exact h.2.1
theorem frm7 : Fr m7 := by
  intro c hc k
  rw [lm7] at hc
  have h := frm6 c (by rw [lm6]; omega) k
  refine ⟨?_, ?_, h.2.2⟩
  · show (m6.2.1) c k = none
    exact h.1
  · show (wI (m6.2.2) 0 6 (0)).1 c k = 0
    simp only [wI, fiI]
    repeat rw [if_neg (by omega)]
    exact h.2.1
theorem frm8 : Fr m8 := by
  intro c hc k
  rw [lm8] at hc
  have h := frm7 c (by rw [lm7]; omega) k
  refine ⟨?_, ?_, h.2.2⟩
  · show (upR (upR (m7.2.1) (11) 0 (some (12))) 0 7 (some 11)) c k = none
    simp only [upR, rfM]
    repeat rw [if_neg (by omega)]
    exact h.1
  · show (wI (wI (wI (m7.2.2) (11) 1 (0)) (11) 2 (0)) (11) 3 (-1)).1 c k = 0
    simp only [wI, fiI]
    repeat rw [if_neg (by omega)]
    exact h.2.1
theorem frm9 : Fr m9 := by
  intro c hc k
  rw [lm9] at hc
  have h := frm8 c (by rw [lm8]; omega) k
  refine ⟨?_, ?_, h.2.2⟩
  · show (upR (m8.2.1) 0 8 (some 13)) c k = none
    simp only [upR, rfM]
    repeat rw [if_neg (by omega)]
    exact h.1
  · show (m8.2.2).1 c k = 0
    exact h.2.1
theorem frm10 : Fr m10 := by
  intro c hc k
  rw [lm10] at hc
  have h := frm9 c (by rw [lm9]; omega) k
  refine ⟨?_, ?_, h.2.2⟩
  · show (m9.2.1) c k = none
    exact h.1
  · show (wI (m9.2.2) 0 9 (0)).1 c k = 0
    simp only [wI, fiI]
    repeat rw [if_neg (by omega)]
    exact h.2.1
theorem frm11 : Fr m11 := by
  intro c hc k
  rw [lm11] at hc
  have h := frm10 c (by rw [lm10]; omega) k
  refine ⟨?_, ?_, h.2.2⟩
  · show (upR (upR (upR (upR (upR (m10.2.1) (15) 0 (some (16))) (14) 0 (some (15))) (17) 0 (some (18))) (14) 1 (some (17))) 0 10 (some 14)) c k = none
    simp only [upR, rfM]
    repeat rw [if_neg (by omega)]
    exact h.1
  · show (wI (wI (wI (wI (wI (wI (wI (wI (wI (m10.2.2) (15) 1 (0)) (17) 1 (0)) (14) 2 (0)) (14) 3 (0)) (14) 4 (0)) (14) 5 (0)) (14) 6 (0)) (14) 7 (0)) (14) 8 (0)).1 c k = 0
    simp only [wI, fiI]
    repeat rw [if_neg (by omega)]
    exact h.2.1
theorem frm12 : Fr m12 := by
  intro c hc k
  rw [lm12] at hc
  have h := frm11 c (by rw [lm11]; omega) k
  refine ⟨?_, ?_, h.2.2⟩
  · show (upR (upR (upR (upR (upR (m11.2.1) (20) 0 (some (21))) (19) 0 (some (20))) (22) 0 (some (23))) (19) 1 (some (22))) 0 11 (some 19)) c k = none
    simp only [upR, rfM]
    repeat rw [if_neg (by omega)]
    exact h.1
  · show (wI (wI (wI (wI (wI (wI (wI (wI (wI (m11.2.2) (20) 1 (0)) (22) 1 (0)) (19) 2 (0)) (19) 3 (0)) (19) 4 (0)) (19) 5 (0)) (19) 6 (0)) (19) 7 (0)) (19) 8 (0)).1 c k = 0
    simp only [wI, fiI]
    repeat rw [if_neg (by omega)]
    exact h.2.1
theorem frm13 : Fr m13 := by
  intro c hc k
  rw [lm13] at hc
  have h := frm12 c (by rw [lm12]; omega) k
  refine ⟨?_, ?_, h.2.2⟩
  · show (m12.2.1) c k = none
    exact h.1
  · show (wI (m12.2.2) 0 12 (0)).1 c k = 0
    simp only [wI, fiI]
    repeat rw [if_neg (by omega)]
    exact h.2.1
theorem frm14 : Fr m14 := by
  intro c hc k
  rw [lm14] at hc
  have h := frm13 c (by rw [lm13]; omega) k
  refine ⟨?_, ?_, h.2.2⟩
  · show (upR (upR (m13.2.1) (24) 0 (some (25))) 0 13 (some 24)) c k = none
    simp only [upR, rfM]
    repeat rw [if_neg (by omega)]
    exact h.1
  · show (wI (m13.2.2) (24) 1 (0)).1 c k = 0
    simp only [wI, fiI]
    repeat rw [if_neg (by omega)]
    exact h.2.1
theorem frm15 : Fr m15 := by
  intro c hc k
  rw [lm15] at hc
  have h := frm14 c (by rw [lm14]; omega) k
  refine ⟨?_, ?_, h.2.2⟩
  · show (upR (upR (upR (upR (upR (upR (m14.2.1) (27) 0 (some (28))) (26) 0 (some (27))) (29) 0 (some (30))) (26) 1 (some (29))) (26) 2 (some (31))) 0 14 (some 26)) c k = none
    simp only [upR, rfM]
    repeat rw [if_neg (by omega)]
    exact h.1
  · show (wI (wI (wI (wI (wI (wI (m14.2.2) (27) 1 (0)) (29) 1 (0)) (26) 3 (0)) (26) 4 (0)) (26) 5 (0)) (26) 6 (0)).1 c k = 0
    simp only [wI, fiI]
    repeat rw [if_neg (by omega)]
    exact h.2.1
theorem frm16 : Fr m16 := by
  intro c hc k
  rw [lm16] at hc
  have h := frm15 c (by rw [lm15]; omega) k
  refine ⟨?_, ?_, h.2.2⟩
  · show (upR (upR (upR (upR (upR (m15.2.1) (33) 0 (some (34))) (32) 0 (some (33))) (35) 0 (some (36))) (32) 1 (some (35))) 0 15 (some 32)) c k = none
    simp only [upR, rfM]
    repeat rw [if_neg (by omega)]
    exact h.1
  · show (wI (wI (wI (wI (wI (wI (wI (wI (m15.2.2) (33) 1 (0)) (35) 1 (0)) (32) 2 (0)) (32) 3 (0)) (32) 4 (0)) (32) 5 (0)) (32) 6 (0)) (32) 7 (0)).1 c k = 0
    simp only [wI, fiI]
    repeat rw [if_neg (by omega)]
    exact h.2.1
theorem frm17 : Fr m17 := by
  intro c hc k
  rw [lm17] at hc
  have h := frm16 c (by rw [lm16]; omega) k
  refine ⟨?_, ?_, h.2.2⟩
  · show (upR (upR (m16.2.1) (37) 0 (some (38))) 0 16 (some 37)) c k = none
    simp only [upR, rfM]
    repeat rw [if_neg (by omega)]
    exact h.1
  · show (wI (wI (wI (wI (m16.2.2) (37) 1 (0)) (37) 2 (0)) (37) 3 (0)) (37) 4 (0)).1 c k = 0
    simp only [wI, fiI]
    repeat rw [if_neg (by omega)]
    exact h.2.1
theorem frm18 : Fr m18 := by
  intro c hc k
  rw [lm18] at hc
  have h := frm17 c (by rw [lm17]; omega) k
  refine ⟨?_, ?_, h.2.2⟩
  · show (upR (upR (rfM (upR (upR (upR (m17.2.1) (39) 0 (some (40))) (39) 1 (some (41))) (39) 2 (some (42))) (43) 6) (39) 3 (some (43))) 0 17 (some 39)) c k = none
    simp only [upR, rfM]
    repeat rw [if_neg (by omega)]
    exact h.1
  · show (fiI (m17.2.2) (40) 6 6).1 c k = 0
    simp only [wI, fiI]
    repeat rw [if_neg (by omega)]
    exact h.2.1
theorem frm19 : Fr m19 := by
  intro c hc k
  rw [lm19] at hc
  have h := frm18 c (by rw [lm18]; omega) k
  refine ⟨?_, ?_, h.2.2⟩
  · show (upR (upR (upR (upR (rfM (upR (upR (upR (m18.2.1) (50) 1 (some (51))) (50) 2 (some (52))) (50) 3 (some (53))) (54) 4) (50) 4 (some (54))) (50) 5 (some (59))) (50) 6 (some (60))) 1 0 (some 50)) c k = none
    simp only [upR, rfM]
    repeat rw [if_neg (by omega)]
    exact h.1
  · show (wI (m18.2.2) (50) 0 (0)).1 c k = 0
    simp only [wI, fiI]
    repeat rw [if_neg (by omega)]
    exact h.2.1
theorem frm20 : Fr m20 := by
  intro c hc k
  rw [lm20] at hc
  have h := frm19 c (by rw [lm19]; omega) k
  refine ⟨?_, ?_, h.2.2⟩
  · show (upR (upR (upR (upR (rfM (upR (upR (upR (m19.2.1) (61) 1 (some (62))) (61) 2 (some (63))) (61) 3 (some (64))) (65) 4) (61) 4 (some (65))) (61) 5 (some (70))) (61) 6 (some (71))) 1 1 (some 61)) c k = none
    simp only [upR, rfM]
    repeat rw [if_neg (by omega)]
    exact h.1
  · show (wI (m19.2.2) (61) 0 (0)).1 c k = 0
    simp only [wI, fiI]
    repeat rw [if_neg (by omega)]
    exact h.2.1
theorem frm21 : Fr m21 := by
  intro c hc k
  rw [lm21] at hc
  have h := frm20 c (by rw [lm20]; omega) k
  refine ⟨?_, ?_, h.2.2⟩
  · show (upR (upR (upR (upR (rfM (upR (upR (upR (m20.2.1) (72) 1 (some (73))) (72) 2 (some (74))) (72) 3 (some (75))) (76) 4) (72) 4 (some (76))) (72) 5 (some (81))) (72) 6 (some (82))) 1 2 (some 72)) c k = none
    simp only [upR, rfM]
    repeat rw [if_neg (by omega)]
    exact h.1
  · show (wI (m20.2.2) (72) 0 (0)).1 c k = 0
    simp only [wI, fiI]
    repeat rw [if_neg (by omega)]
    exact h.2.1
theorem frm22 : Fr m22 := by
  intro c hc k
  rw [lm22] at hc
  have h := frm21 c (by rw [lm21]; omega) k
  refine ⟨?_, ?_, h.2.2⟩
  · show (upR (upR (upR (upR (rfM (upR (upR (upR (m21.2.1) (83) 1 (some (84))) (83) 2 (some (85))) (83) 3 (some (86))) (87) 4) (83) 4 (some (87))) (83) 5 (some (92))) (83) 6 (some (93))) 1 3 (some 83)) c k = none
    simp only [upR, rfM]
    repeat rw [if_neg (by omega)]
    exact h.1
  · show (wI (m21.2.2) (83) 0 (0)).1 c k = 0
    simp only [wI, fiI]
    repeat rw [if_neg (by omega)]
    exact h.2.1
theorem frm23 : Fr m23 := by
  intro c hc k
  rw [lm23] at hc
  have h := frm22 c (by rw [lm22]; omega) k
  refine ⟨?_, ?_, h.2.2⟩
  · show (upR (upR (upR (upR (rfM (upR (upR (upR (m22.2.1) (94) 1 (some (95))) (94) 2 (some (96))) (94) 3 (some (97))) (98) 4) (94) 4 (some (98))) (94) 5 (some (103))) (94) 6 (some (104))) 1 4 (some 94)) c k = none
    simp only [upR, rfM]
    repeat rw [if_neg (by omega)]
    exact h.1
  · show (wI (m22.2.2) (94) 0 (0)).1 c k = 0
    simp only [wI, fiI]
    repeat rw [if_neg (by omega)]
    exact h.2.1
theorem frm24 : Fr m24 := by
  intro c hc k
  rw [lm24] at hc
  have h := frm23 c (by rw [lm23]; omega) k
  refine ⟨?_, ?_, h.2.2⟩
  · show (upR (upR (upR (upR (rfM (upR (upR (upR (m23.2.1) (105) 1 (some (106))) (105) 2 (some (107))) (105) 3 (some (108))) (109) 4) (105) 4 (some (109))) (105) 5 (some (114))) (105) 6 (some (115))) 1 5 (some 105)) c k = none
    simp only [upR, rfM]
    repeat rw [if_neg (by omega)]
    exact h.1
  · show (wI (m23.2.2) (105) 0 (0)).1 c k = 0
    simp only [wI, fiI]
    repeat rw [if_neg (by omega)]
    exact h.2.1
theorem frm25 : Fr m25 := by
  intro c hc k
  rw [lm25] at hc
  have h := frm24 c (by rw [lm24]; omega) k
  refine ⟨?_, ?_, h.2.2⟩
  · show (upR (upR (upR (m24.2.1) (116) 0 (some (117))) (116) 3 (some (118))) 13 0 (some 116)) c k = none
    simp only [upR, rfM]
    repeat rw [if_neg (by omega)]
    exact h.1
  · show (wI (wI (wI (m24.2.2) (116) 1 (0)) (116) 2 (0)) (116) 4 (0)).1 c k = 0
    simp only [wI, fiI]
    repeat rw [if_neg (by omega)]
    exact h.2.1
theorem frm26 : Fr m26 := by
  intro c hc k
  rw [lm26] at hc
  have h := frm25 c (by rw [lm25]; omega) k
  refine ⟨?_, ?_, h.2.2⟩
  · show (upR (upR (upR (m25.2.1) (119) 0 (some (120))) (119) 3 (some (121))) 13 1 (some 119)) c k = none
    simp only [upR, rfM]
    repeat rw [if_neg (by omega)]
    exact h.1
  · show (wI (wI (wI (m25.2.2) (119) 1 (0)) (119) 2 (0)) (119) 4 (0)).1 c k = 0
    simp only [wI, fiI]
    repeat rw [if_neg (by omega)]
    exact h.2.1
theorem frm27 : Fr m27 := by
  intro c hc k
  rw [lm27] at hc
  have h := frm26 c (by rw [lm26]; omega) k
  refine ⟨?_, ?_, h.2.2⟩
  · show (upR (upR (upR (m26.2.1) (122) 0 (some (123))) (122) 3 (some (124))) 13 2 (some 122)) c k = none
    simp only [upR, rfM]
    repeat rw [if_neg (by omega)]
    exact h.1
  · show (wI (wI (wI (m26.2.2) (122) 1 (0)) (122) 2 (0)) (122) 4 (0)).1 c k = 0
    simp only [wI, fiI]
    repeat rw [if_neg (by omega)]
    exact h.2.1
theorem frm28 : Fr m28 := by
  intro c hc k
  rw [lm28] at hc
  have h := frm27 c (by rw [lm27]; omega) k
  refine ⟨?_, ?_, h.2.2⟩
  · show (upR (upR (upR (m27.2.1) (125) 0 (some (126))) (125) 3 (some (127))) 13 3 (some 125)) c k = none
    simp only [upR, rfM]
    repeat rw [if_neg (by omega)]
    exact h.1
  · show (wI (wI (wI (m27.2.2) (125) 1 (0)) (125) 2 (0)) (125) 4 (0)).1 c k = 0
    simp only [wI, fiI]
    repeat rw [if_neg (by omega)]
    exact h.2.1
theorem frm29 : Fr m29 := by
  intro c hc k
  rw [lm29] at hc
  have h := frm28 c (by rw [lm28]; omega) k
  refine ⟨?_, ?_, h.2.2⟩
  · show (upR (upR (upR (m28.2.1) (128) 0 (some (129))) (128) 3 (some (130))) 13 4 (some 128)) c k = none
    simp only [upR, rfM]
    repeat rw [if_neg (by omega)]
    exact h.1
  · show (wI (wI (wI (m28.2.2) (128) 1 (0)) (128) 2 (0)) (128) 4 (0)).1 c k = 0
    simp only [wI, fiI]
    repeat rw [if_neg (by omega)]
    exact h.2.1
theorem frm30 : Fr m30 := by
  intro c hc k
  rw [lm30] at hc
  have h := frm29 c (by rw [lm29]; omega) k
  refine ⟨?_, ?_, h.2.2⟩
  · show (upR (upR (upR (m29.2.1) (131) 0 (some (132))) (131) 3 (some (133))) 13 5 (some 131)) c k = none
    simp only [upR, rfM]
    repeat rw [if_neg (by omega)]
    exact h.1
  · show (wI (wI (wI (m29.2.2) (131) 1 (0)) (131) 2 (0)) (131) 4 (0)).1 c k = 0
    simp only [wI, fiI]
    repeat rw [if_neg (by omega)]
    exact h.2.1
theorem frm31 : Fr m31 := by
  intro c hc k
  rw [lm31] at hc
  have h := frm30 c (by rw [lm30]; omega) k
  refine ⟨?_, ?_, h.2.2⟩
  · show (upR (upR (upR (m30.2.1) (134) 0 (some (135))) (134) 3 (some (136))) 13 6 (some 134)) c k = none
    simp only [upR, rfM]
    repeat rw [if_neg (by omega)]
    exact h.1
  · show (wI (wI (wI (m30.2.2) (134) 1 (0)) (134) 2 (0)) (134) 4 (0)).1 c k = 0
    simp only [wI, fiI]
    repeat rw [if_neg (by omega)]
    exact h.2.1
theorem frm32 : Fr m32 := by
  intro c hc k
  rw [lm32] at hc
  have h := frm31 c (by rw [lm31]; omega) k
  refine ⟨?_, ?_, h.2.2⟩
  · show (upR (upR (upR (m31.2.1) (137) 0 (some (138))) (137) 3 (some (139))) 13 7 (some 137)) c k = none
    simp only [upR, rfM]
    repeat rw [if_neg (by omega)]
    exact h.1
  · show (wI (wI (wI (m31.2.2) (137) 1 (0)) (137) 2 (0)) (137) 4 (0)).1 c k = 0
    simp only [wI, fiI]
    repeat rw [if_neg (by omega)]
    exact h.2.1
theorem frm33 : Fr m33 := by
  intro c hc k
  rw [lm33] at hc
  have h := frm32 c (by rw [lm32]; omega) k
  refine ⟨?_, ?_, h.2.2⟩
  · show (upR (upR (upR (m32.2.1) (140) 0 (some (141))) (140) 3 (some (142))) 13 8 (some 140)) c k = none
    simp only [upR, rfM]
    repeat rw [if_neg (by omega)]
    exact h.1
  · show (wI (wI (wI (m32.2.2) (140) 1 (0)) (140) 2 (0)) (140) 4 (0)).1 c k = 0
    simp only [wI, fiI]
    repeat rw [if_neg (by omega)]
    exact h.2.1
theorem frm34 : Fr m34 := by
  intro c hc k
  rw [lm34] at hc
  have h := frm33 c (by rw [lm33]; omega) k
  refine ⟨?_, ?_, h.2.2⟩
  · show (upR (upR (upR (m33.2.1) (143) 0 (some (144))) (143) 3 (some (145))) 13 9 (some 143)) c k = none
    simp only [upR, rfM]
    repeat rw [if_neg (by omega)]
    exact h.1
  · show (wI (wI (wI (m33.2.2) (143) 1 (0)) (143) 2 (0)) (143) 4 (0)).1 c k = 0
    simp only [wI, fiI]
    repeat rw [if_neg (by omega)]
    exact h.2.1
def Ro (R : Nat → Nat → Option Nat) : Prop := ∀ c j, (174 ≤ c ∨ (20 ≤ j ∧ c ≠ 146) ∨ 72 ≤ j) → R c j = none
theorem ro_up {R : Nat → Nat → Option Nat} {a k : Nat} {v : Option Nat} (h : Ro R) (ha : a < 174) (hk : k < 20 ∨ (a = 146 ∧ k < 72)) : Ro (upR R a k v) := fun c j hc => by
  unfold upR
  rw [if_neg (fun q => by omega)]
  exact h c j hc
theorem ro_fM {R : Nat → Nat → Option Nat} {a n : Nat} (h : Ro R) (ha : a < 174) (hn : n ≤ 20) : Ro (rfM R a n) := fun c j hc => by
  unfold rfM
  by_cases q : c = a ∧ j < n
  · omega
  · rw [if_neg q]
    exact h c j hc
def Z9 (S : St) : Prop := ∀ j, S.1 9 j = 0
theorem z9_w {S : St} {a k : Nat} {x : Int32} (h : Z9 S) (ha : a ≠ 9) : Z9 (wI S a k x) := fun j => by
  show (if 9 = a ∧ j = k then x else S.1 9 j) = 0
  rw [if_neg (fun q => ha q.1.symm)]
  exact h j
theorem z9_f {S : St} {a n : Nat} {x : Int32} (h : Z9 S) (ha : a ≠ 9) : Z9 (fiI S a n x) := fun j => by
  show (if 9 = a ∧ j < n then x else S.1 9 j) = 0
  rw [if_neg (fun q => ha q.1.symm)]
  exact h j
theorem roM0 : Ro m0.2.1 := fun _ _ _ => rfl
theorem z9M0 : Z9 m0.2.2 := fun _ => rfl
theorem roM1 : Ro m1.2.1 := (ro_up roM0 (by decide) (by decide))
theorem z9M1 : Z9 m1.2.2 := z9M0
theorem roM2 : Ro m2.2.1 := roM1
theorem z9M2 : Z9 m2.2.2 := (z9_w z9M1 (by decide))
theorem roM3 : Ro m3.2.1 := (ro_up (ro_up roM2 (by decide) (by decide)) (by decide) (by decide))
theorem z9M3 : Z9 m3.2.2 := (z9_w z9M2 (by decide))
theorem roM4 : Ro m4.2.1 := (ro_up (ro_up roM3 (by decide) (by decide)) (by decide) (by decide))
theorem z9M4 : Z9 m4.2.2 := (z9_w z9M3 (by decide))
theorem roM5 : Ro m5.2.1 := (ro_up (ro_up (ro_up (ro_up roM4 (by decide) (by decide)) (by decide) (by decide)) (by decide) (by decide)) (by decide) (by decide))
theorem z9M5 : Z9 m5.2.2 := (z9_w (z9_w (z9_w (z9_w (z9_w (z9_w (z9_w (z9_w z9M4 (by decide)) (by decide)) (by decide)) (by decide)) (by decide)) (by decide)) (by decide)) (by decide))
theorem roM6 : Ro m6.2.1 := (ro_up roM5 (by decide) (by decide))
theorem z9M6 : Z9 m6.2.2 := z9M5
theorem roM7 : Ro m7.2.1 := roM6
theorem z9M7 : Z9 m7.2.2 := (z9_w z9M6 (by decide))
theorem roM8 : Ro m8.2.1 := (ro_up (ro_up roM7 (by decide) (by decide)) (by decide) (by decide))
theorem z9M8 : Z9 m8.2.2 := (z9_w (z9_w (z9_w z9M7 (by decide)) (by decide)) (by decide))
theorem roM9 : Ro m9.2.1 := (ro_up roM8 (by decide) (by decide))
theorem z9M9 : Z9 m9.2.2 := z9M8
theorem roM10 : Ro m10.2.1 := roM9
theorem z9M10 : Z9 m10.2.2 := (z9_w z9M9 (by decide))
theorem roM11 : Ro m11.2.1 := (ro_up (ro_up (ro_up (ro_up (ro_up roM10 (by decide) (by decide)) (by decide) (by decide)) (by decide) (by decide)) (by decide) (by decide)) (by decide) (by decide))
theorem z9M11 : Z9 m11.2.2 := (z9_w (z9_w (z9_w (z9_w (z9_w (z9_w (z9_w (z9_w (z9_w z9M10 (by decide)) (by decide)) (by decide)) (by decide)) (by decide)) (by decide)) (by decide)) (by decide)) (by decide))
theorem roM12 : Ro m12.2.1 := (ro_up (ro_up (ro_up (ro_up (ro_up roM11 (by decide) (by decide)) (by decide) (by decide)) (by decide) (by decide)) (by decide) (by decide)) (by decide) (by decide))
theorem z9M12 : Z9 m12.2.2 := (z9_w (z9_w (z9_w (z9_w (z9_w (z9_w (z9_w (z9_w (z9_w z9M11 (by decide)) (by decide)) (by decide)) (by decide)) (by decide)) (by decide)) (by decide)) (by decide)) (by decide))
theorem roM13 : Ro m13.2.1 := roM12
theorem z9M13 : Z9 m13.2.2 := (z9_w z9M12 (by decide))
theorem roM14 : Ro m14.2.1 := (ro_up (ro_up roM13 (by decide) (by decide)) (by decide) (by decide))
theorem z9M14 : Z9 m14.2.2 := (z9_w z9M13 (by decide))
theorem roM15 : Ro m15.2.1 := (ro_up (ro_up (ro_up (ro_up (ro_up (ro_up roM14 (by decide) (by decide)) (by decide) (by decide)) (by decide) (by decide)) (by decide) (by decide)) (by decide) (by decide)) (by decide) (by decide))
theorem z9M15 : Z9 m15.2.2 := (z9_w (z9_w (z9_w (z9_w (z9_w (z9_w z9M14 (by decide)) (by decide)) (by decide)) (by decide)) (by decide)) (by decide))
theorem roM16 : Ro m16.2.1 := (ro_up (ro_up (ro_up (ro_up (ro_up roM15 (by decide) (by decide)) (by decide) (by decide)) (by decide) (by decide)) (by decide) (by decide)) (by decide) (by decide))
theorem z9M16 : Z9 m16.2.2 := (z9_w (z9_w (z9_w (z9_w (z9_w (z9_w (z9_w (z9_w z9M15 (by decide)) (by decide)) (by decide)) (by decide)) (by decide)) (by decide)) (by decide)) (by decide))
theorem roM17 : Ro m17.2.1 := (ro_up (ro_up roM16 (by decide) (by decide)) (by decide) (by decide))
theorem z9M17 : Z9 m17.2.2 := (z9_w (z9_w (z9_w (z9_w z9M16 (by decide)) (by decide)) (by decide)) (by decide))
theorem roM18 : Ro m18.2.1 := (ro_up (ro_up (ro_fM (ro_up (ro_up (ro_up roM17 (by decide) (by decide)) (by decide) (by decide)) (by decide) (by decide)) (by decide) (by decide)) (by decide) (by decide)) (by decide) (by decide))
theorem z9M18 : Z9 m18.2.2 := (z9_f z9M17 (by decide))
theorem roM19 : Ro m19.2.1 := (ro_up (ro_up (ro_up (ro_up (ro_fM (ro_up (ro_up (ro_up roM18 (by decide) (by decide)) (by decide) (by decide)) (by decide) (by decide)) (by decide) (by decide)) (by decide) (by decide)) (by decide) (by decide)) (by decide) (by decide)) (by decide) (by decide))
theorem z9M19 : Z9 m19.2.2 := (z9_w z9M18 (by decide))
theorem roM20 : Ro m20.2.1 := (ro_up (ro_up (ro_up (ro_up (ro_fM (ro_up (ro_up (ro_up roM19 (by decide) (by decide)) (by decide) (by decide)) (by decide) (by decide)) (by decide) (by decide)) (by decide) (by decide)) (by decide) (by decide)) (by decide) (by decide)) (by decide) (by decide))
theorem z9M20 : Z9 m20.2.2 := (z9_w z9M19 (by decide))
theorem roM21 : Ro m21.2.1 := (ro_up (ro_up (ro_up (ro_up (ro_fM (ro_up (ro_up (ro_up roM20 (by decide) (by decide)) (by decide) (by decide)) (by decide) (by decide)) (by decide) (by decide)) (by decide) (by decide)) (by decide) (by decide)) (by decide) (by decide)) (by decide) (by decide))
theorem z9M21 : Z9 m21.2.2 := (z9_w z9M20 (by decide))
theorem roM22 : Ro m22.2.1 := (ro_up (ro_up (ro_up (ro_up (ro_fM (ro_up (ro_up (ro_up roM21 (by decide) (by decide)) (by decide) (by decide)) (by decide) (by decide)) (by decide) (by decide)) (by decide) (by decide)) (by decide) (by decide)) (by decide) (by decide)) (by decide) (by decide))
theorem z9M22 : Z9 m22.2.2 := (z9_w z9M21 (by decide))
theorem roM23 : Ro m23.2.1 := (ro_up (ro_up (ro_up (ro_up (ro_fM (ro_up (ro_up (ro_up roM22 (by decide) (by decide)) (by decide) (by decide)) (by decide) (by decide)) (by decide) (by decide)) (by decide) (by decide)) (by decide) (by decide)) (by decide) (by decide)) (by decide) (by decide))
theorem z9M23 : Z9 m23.2.2 := (z9_w z9M22 (by decide))
theorem roM24 : Ro m24.2.1 := (ro_up (ro_up (ro_up (ro_up (ro_fM (ro_up (ro_up (ro_up roM23 (by decide) (by decide)) (by decide) (by decide)) (by decide) (by decide)) (by decide) (by decide)) (by decide) (by decide)) (by decide) (by decide)) (by decide) (by decide)) (by decide) (by decide))
theorem z9M24 : Z9 m24.2.2 := (z9_w z9M23 (by decide))
theorem roM25 : Ro m25.2.1 := (ro_up (ro_up (ro_up roM24 (by decide) (by decide)) (by decide) (by decide)) (by decide) (by decide))
theorem z9M25 : Z9 m25.2.2 := (z9_w (z9_w (z9_w z9M24 (by decide)) (by decide)) (by decide))
theorem roM26 : Ro m26.2.1 := (ro_up (ro_up (ro_up roM25 (by decide) (by decide)) (by decide) (by decide)) (by decide) (by decide))
theorem z9M26 : Z9 m26.2.2 := (z9_w (z9_w (z9_w z9M25 (by decide)) (by decide)) (by decide))
theorem roM27 : Ro m27.2.1 := (ro_up (ro_up (ro_up roM26 (by decide) (by decide)) (by decide) (by decide)) (by decide) (by decide))
theorem z9M27 : Z9 m27.2.2 := (z9_w (z9_w (z9_w z9M26 (by decide)) (by decide)) (by decide))
theorem roM28 : Ro m28.2.1 := (ro_up (ro_up (ro_up roM27 (by decide) (by decide)) (by decide) (by decide)) (by decide) (by decide))
theorem z9M28 : Z9 m28.2.2 := (z9_w (z9_w (z9_w z9M27 (by decide)) (by decide)) (by decide))
theorem roM29 : Ro m29.2.1 := (ro_up (ro_up (ro_up roM28 (by decide) (by decide)) (by decide) (by decide)) (by decide) (by decide))
theorem z9M29 : Z9 m29.2.2 := (z9_w (z9_w (z9_w z9M28 (by decide)) (by decide)) (by decide))
theorem roM30 : Ro m30.2.1 := (ro_up (ro_up (ro_up roM29 (by decide) (by decide)) (by decide) (by decide)) (by decide) (by decide))
theorem z9M30 : Z9 m30.2.2 := (z9_w (z9_w (z9_w z9M29 (by decide)) (by decide)) (by decide))
theorem roM31 : Ro m31.2.1 := (ro_up (ro_up (ro_up roM30 (by decide) (by decide)) (by decide) (by decide)) (by decide) (by decide))
theorem z9M31 : Z9 m31.2.2 := (z9_w (z9_w (z9_w z9M30 (by decide)) (by decide)) (by decide))
theorem roM32 : Ro m32.2.1 := (ro_up (ro_up (ro_up roM31 (by decide) (by decide)) (by decide) (by decide)) (by decide) (by decide))
theorem z9M32 : Z9 m32.2.2 := (z9_w (z9_w (z9_w z9M31 (by decide)) (by decide)) (by decide))
theorem roM33 : Ro m33.2.1 := (ro_up (ro_up (ro_up roM32 (by decide) (by decide)) (by decide) (by decide)) (by decide) (by decide))
theorem z9M33 : Z9 m33.2.2 := (z9_w (z9_w (z9_w z9M32 (by decide)) (by decide)) (by decide))
theorem roM34 : Ro m34.2.1 := (ro_up (ro_up (ro_up roM33 (by decide) (by decide)) (by decide) (by decide)) (by decide) (by decide))
theorem z9M34 : Z9 m34.2.2 := (z9_w (z9_w (z9_w z9M33 (by decide)) (by decide)) (by decide))
theorem roE : Ro mE.2.1 := (ro_up (ro_up (ro_up (ro_up (ro_up (ro_up (ro_up (ro_up (ro_up (ro_up (ro_up (ro_up (ro_up (ro_up (ro_up (ro_up (ro_up (ro_up (ro_up (ro_up (ro_up (ro_up (ro_up (ro_up (ro_up (ro_up (ro_up roM34 (by decide) (by decide)) (by decide) (by decide)) (by decide) (by decide)) (by decide) (by decide)) (by decide) (by decide)) (by decide) (by decide)) (by decide) (by decide)) (by decide) (by decide)) (by decide) (by decide)) (by decide) (by decide)) (by decide) (by decide)) (by decide) (by decide)) (by decide) (by decide)) (by decide) (by decide)) (by decide) (by decide)) (by decide) (by decide)) (by decide) (by decide)) (by decide) (by decide)) (by decide) (by decide)) (by decide) (by decide)) (by decide) (by decide)) (by decide) (by decide)) (by decide) (by decide)) (by decide) (by decide)) (by decide) (by decide)) (by decide) (by decide)) (by decide) (by decide))
theorem z9E : Z9 mE.2.2 := (z9_w (z9_w (z9_w (z9_w (z9_w (z9_w (z9_w (z9_w z9M34 (by decide)) (by decide)) (by decide)) (by decide)) (by decide)) (by decide)) (by decide)) (by decide))
theorem rfT_len : rfT.length = 174 := by decide +kernel
theorem rfT_row : ∀ a, a < 174 → (rfT.getD a []).length ≤ 20 ∨ (a = 146 ∧ (rfT.getD a []).length ≤ 72) := by decide +kernel
theorem ro_rf0 : Ro rf0 := fun c j hc => by
  unfold rf0
  cases e : rfT[c]? with
  | none => rfl
  | some l =>
    have hl := (List.getElem?_eq_some_iff.mp e).1
    rw [rfT_len] at hl
    have h := rfT_row c hl
    rw [List.getD_eq_getElem?_getD, e] at h
    have h : l.length ≤ 20 ∨ (c = 146 ∧ l.length ≤ 72) := h
    have h2 : l[j]? = none := List.getElem?_eq_none (by omega)
    show (match l[j]? with
      | none => none
      | some r => r) = none
    rw [h2]
theorem rf_a : ∀ a, a < 174 → ∀ k, k < 20 → mE.2.1 a k = rf0 a k := by decide +kernel
theorem rf_b : ∀ k, k < 72 → mE.2.1 146 k = rf0 146 k := by decide +kernel
theorem mE_rf : mE.2.1 = rf0 := by
  funext c j
  by_cases h : 174 ≤ c ∨ (20 ≤ j ∧ c ≠ 146) ∨ 72 ≤ j
  · rw [roE c j h, ro_rf0 c j h]
  · by_cases h2 : c = 146
    · subst h2
      exact rf_b j (by omega)
    · exact rf_a c (by omega) j (by omega)
theorem mE_sh : mE.1 = SHt 0 := by decide +kernel
theorem mE_eq : mE = MM 0 mE.2.2 := by
  have h : mE = (mE.1, mE.2.1, mE.2.2) := rfl
  rw [h, mE_sh, mE_rf]
  rfl
theorem qa_start : QA mE.2.2 0 := by
  refine ⟨[], [], none, [], [], [], fun _ => (6, 0, 0), [], ⟨by decide, ?_, ?_, fun i g h => by simp at h⟩, ⟨⟨?_, by decide, fun x h => by simp at h, fun i x h => by simp at h⟩, ?_, fun i x h => by simp at h, fun i x h => by simp at h⟩, ⟨?_, ?_⟩, ⟨by decide, fun x h => by simp at h, ?_, fun i x h => by simp at h, ?_, fun i x h => by simp at h⟩, ⟨by decide, ?_, ?_, fun i q h => by simp at h⟩, ⟨by decide, fun x h => by simp at h, ?_, fun i x h => by simp at h, ?_, fun i x h => by simp at h⟩, fun d hd => ?_, ⟨by decide, ?_, fun i x _ h => by simp at h, ?_, fun i x _ h => by simp at h⟩, Or.inl ⟨?_, ?_⟩, ⟨0, by decide, ?_⟩, ⟨?_, (List.range 20).flatMap (fun x => (List.range 1000).map (fun y => (x, y))), ?_, ?_⟩⟩
  all_goals first | (show mE.2.2.1 _ _ = _; decide +kernel) | skip
  · show Sh1 mE.2.2 d (6, 0, 0)
    refine ⟨by decide, by decide, by decide, ?_, ?_, ?_, ?_, ?_, fun q => absurd q (by decide), fun q => absurd q (by decide)⟩
    · exact (by decide +kernel : ∀ d, d < 6 → mE.2.2.1 40 d = zI ((6 : Nat) : Int)) d hd
    · exact (by decide +kernel : ∀ d, d < 6 → mE.2.2.1 41 d = zI ((0 : Nat) : Int)) d hd
    · exact (by decide +kernel : ∀ d, d < 6 → mE.2.2.1 42 d = zI ((0 : Nat) : Int)) d hd
    · exact (by decide +kernel : ∀ d, d < 6 → mE.2.2.1 170 d = zI (-1)) d hd
    · exact (by decide +kernel : ∀ d, d < 6 → mE.2.2.1 171 d = zI ((0 : Nat) : Int)) d hd
  · exact fun k _ => ⟨0, Nat.le_refl _, z9E k⟩
  · exact fun x y hx hy => ⟨fun _ => List.mem_flatMap.mpr ⟨x, List.mem_range.mpr hx, List.mem_map.mpr ⟨y, List.mem_range.mpr hy, rfl⟩⟩, fun _ => z9E _⟩
set_option maxRecDepth 100000 in
theorem wins0 : Cond.instantiable RX0 5 ∈ TT := in1 215 (by rfl) rfl
set_option maxRecDepth 100000 in
theorem wins1 : Cond.instantiable RX1 5 ∈ TT := in2 50 (by rfl) rfl
set_option maxRecDepth 100000 in
theorem wins2 : Cond.instantiable RX2 8 ∈ TT := in1 182 (by rfl) rfl
set_option maxRecDepth 100000 in
theorem wins3 : Cond.instantiable RX3 7 ∈ TT := in2 21 (by rfl) rfl
set_option maxRecDepth 100000 in
theorem wins4 : Cond.instantiable RX4 11 ∈ TT := in1 42 (by rfl) rfl
set_option maxRecDepth 100000 in
theorem wins5 : Cond.instantiable RX5 7 ∈ TT := in1 152 (by rfl) rfl
set_option maxRecDepth 100000 in
theorem wins6 : Cond.instantiable RX6 2 ∈ TT := in1 28 (by rfl) rfl
set_option maxRecDepth 100000 in
theorem wins7 : Cond.instantiable RX7 9 ∈ TT := in1 103 (by rfl) rfl
set_option maxRecDepth 100000 in
theorem wins8 : Cond.instantiable RX8 4 ∈ TT := in1 237 (by rfl) rfl
set_option maxRecDepth 100000 in
theorem wins9 : Cond.instantiable RX9 4 ∈ TT := in1 82 (by rfl) rfl
set_option maxRecDepth 100000 in
theorem wins10 : Cond.instantiable RX10 2 ∈ TT := in1 139 (by rfl) rfl
set_option maxRecDepth 100000 in
theorem wins11 : Cond.instantiable RX11 18 ∈ TT := in1 18 (by rfl) rfl
set_option maxRecDepth 100000 in
theorem wins12 : Cond.instantiable RX12 65 ∈ TT := in5 199 (by rfl) rfl
theorem cfi {ci : Nat} {q : vw_C} (e : cls[ci]? = some q) : CF ci ∧ Cond.instantiable q.1 q.2.2 ∈ TT := by
  have hlt : ci < 13 := (List.getElem?_eq_some_iff.mp e).1
  have h : ci = 0 ∨ ci = 1 ∨ ci = 2 ∨ ci = 3 ∨ ci = 4 ∨ ci = 5 ∨ ci = 6 ∨ ci = 7 ∨ ci = 8 ∨ ci = 9 ∨ ci = 10 ∨ ci = 11 ∨ ci = 12 := by omega
  rcases h with rfl | rfl | rfl | rfl | rfl | rfl | rfl | rfl | rfl | rfl | rfl | rfl | rfl
  · have h : q = (RX0, TX0, 5) := Option.some.inj e.symm
    subst h
    exact ⟨cf0, wins0⟩
  · have h : q = (RX1, TX1, 5) := Option.some.inj e.symm
    subst h
    exact ⟨cf1, wins1⟩
  · have h : q = (RX2, TX2, 8) := Option.some.inj e.symm
    subst h
    exact ⟨cf2, wins2⟩
  · have h : q = (RX3, TX3, 7) := Option.some.inj e.symm
    subst h
    exact ⟨cf3, wins3⟩
  · have h : q = (RX4, TX4, 11) := Option.some.inj e.symm
    subst h
    exact ⟨cf4, wins4⟩
  · have h : q = (RX5, TX5, 7) := Option.some.inj e.symm
    subst h
    exact ⟨cf5, wins5⟩
  · have h : q = (RX6, TX6, 2) := Option.some.inj e.symm
    subst h
    exact ⟨cf6, wins6⟩
  · have h : q = (RX7, TX7, 9) := Option.some.inj e.symm
    subst h
    exact ⟨cf7, wins7⟩
  · have h : q = (RX8, TX8, 4) := Option.some.inj e.symm
    subst h
    exact ⟨cf8, wins8⟩
  · have h : q = (RX9, TX9, 4) := Option.some.inj e.symm
    subst h
    exact ⟨cf9, wins9⟩
  · have h : q = (RX10, TX10, 2) := Option.some.inj e.symm
    subst h
    exact ⟨cf10, wins10⟩
  · have h : q = (RX11, TX11, 18) := Option.some.inj e.symm
    subst h
    exact ⟨cf11, wins11⟩
  · have h : q = (RX12, TX12, 65) := Option.some.inj e.symm
    subst h
    exact ⟨cf12, wins12⟩
set_option maxRecDepth 100000 in
theorem wao17 : Cond.arrayOver (.object "AllPrograms$Language") ∈ lw_tbl := List.mem_append_right _ (show _ ∈ tables_1_1 ++ (tables_1_2 ++ (tables_1_3 ++ (tables_1_4 ++ (tables_1_5 ++ (tables_1_6 ++ (tables_1_7 ++ tables_1_8)))))) from List.mem_append_left _ (List.mem_of_getElem? (i := 26) (by rfl)))
set_option maxRecDepth 100000 in
theorem wao16 : Cond.arrayOver (.object "AllPrograms$Ask") ∈ lw_tbl := List.mem_append_right _ (show _ ∈ tables_1_1 ++ (tables_1_2 ++ (tables_1_3 ++ (tables_1_4 ++ (tables_1_5 ++ (tables_1_6 ++ (tables_1_7 ++ tables_1_8)))))) from List.mem_append_left _ (List.mem_of_getElem? (i := 101) (by rfl)))
set_option maxRecDepth 100000 in
theorem wao18 : Cond.arrayOver (.array .int) ∈ lw_tbl := List.mem_append_right _ (show _ ∈ tables_1_1 ++ (tables_1_2 ++ (tables_1_3 ++ (tables_1_4 ++ (tables_1_5 ++ (tables_1_6 ++ (tables_1_7 ++ tables_1_8)))))) from List.mem_append_right _ (List.mem_append_left _ (List.mem_of_getElem? (i := 27) (by rfl))))
set_option maxRecDepth 100000 in
theorem wao19 : Cond.arrayOver (.array .long) ∈ lw_tbl := List.mem_append_right _ (show _ ∈ tables_1_1 ++ (tables_1_2 ++ (tables_1_3 ++ (tables_1_4 ++ (tables_1_5 ++ (tables_1_6 ++ (tables_1_7 ++ tables_1_8)))))) from List.mem_append_right _ (List.mem_append_left _ (List.mem_of_getElem? (i := 3) (by rfl))))
set_option maxRecDepth 100000 in
theorem wnw0 : Cond.methodLinkNest RX11 21 yX6_init RX11 ∈ lw_tbl := List.mem_append_right _ (show _ ∈ tables_1_1 ++ (tables_1_2 ++ (tables_1_3 ++ (tables_1_4 ++ (tables_1_5 ++ (tables_1_6 ++ (tables_1_7 ++ tables_1_8)))))) from List.mem_append_left _ (List.mem_of_getElem? (i := 29) (by rfl)))
set_option maxRecDepth 100000 in
theorem wnw1 : Cond.methodLinkNest RX11 31 yX4_init RX11 ∈ lw_tbl := List.mem_append_right _ (show _ ∈ tables_1_1 ++ (tables_1_2 ++ (tables_1_3 ++ (tables_1_4 ++ (tables_1_5 ++ (tables_1_6 ++ (tables_1_7 ++ tables_1_8)))))) from List.mem_append_left _ (List.mem_of_getElem? (i := 43) (by rfl)))
set_option maxRecDepth 100000 in
theorem wnw2 : Cond.methodLinkNest RX11 46 yX9_init RX11 ∈ lw_tbl := List.mem_append_right _ (show _ ∈ tables_1_1 ++ (tables_1_2 ++ (tables_1_3 ++ (tables_1_4 ++ (tables_1_5 ++ (tables_1_6 ++ (tables_1_7 ++ tables_1_8)))))) from List.mem_append_left _ (List.mem_of_getElem? (i := 83) (by rfl)))
set_option maxRecDepth 100000 in
theorem wnw3 : Cond.methodLinkNest RX11 62 yX7_init RX11 ∈ lw_tbl := List.mem_append_right _ (show _ ∈ tables_1_1 ++ (tables_1_2 ++ (tables_1_3 ++ (tables_1_4 ++ (tables_1_5 ++ (tables_1_6 ++ (tables_1_7 ++ tables_1_8)))))) from List.mem_append_left _ (List.mem_of_getElem? (i := 104) (by rfl)))
set_option maxRecDepth 100000 in
theorem wnw4 : Cond.methodLinkNest RX7 11 yX6_init RX11 ∈ lw_tbl := List.mem_append_right _ (show _ ∈ tables_1_1 ++ (tables_1_2 ++ (tables_1_3 ++ (tables_1_4 ++ (tables_1_5 ++ (tables_1_6 ++ (tables_1_7 ++ tables_1_8)))))) from List.mem_append_left _ (List.mem_of_getElem? (i := 109) (by rfl)))
set_option maxRecDepth 100000 in
theorem wnw5 : Cond.methodLinkNest RX11 75 yX10_init RX11 ∈ lw_tbl := List.mem_append_right _ (show _ ∈ tables_1_1 ++ (tables_1_2 ++ (tables_1_3 ++ (tables_1_4 ++ (tables_1_5 ++ (tables_1_6 ++ (tables_1_7 ++ tables_1_8)))))) from List.mem_append_left _ (List.mem_of_getElem? (i := 140) (by rfl)))
set_option maxRecDepth 100000 in
theorem wnw6 : Cond.methodLinkNest RX11 82 yX5_init RX11 ∈ lw_tbl := List.mem_append_right _ (show _ ∈ tables_1_1 ++ (tables_1_2 ++ (tables_1_3 ++ (tables_1_4 ++ (tables_1_5 ++ (tables_1_6 ++ (tables_1_7 ++ tables_1_8)))))) from List.mem_append_left _ (List.mem_of_getElem? (i := 153) (by rfl)))
set_option maxRecDepth 100000 in
theorem wnw7 : Cond.methodLinkNest RX5 11 yX6_init RX11 ∈ lw_tbl := List.mem_append_right _ (show _ ∈ tables_1_1 ++ (tables_1_2 ++ (tables_1_3 ++ (tables_1_4 ++ (tables_1_5 ++ (tables_1_6 ++ (tables_1_7 ++ tables_1_8)))))) from List.mem_append_left _ (List.mem_of_getElem? (i := 158) (by rfl)))
set_option maxRecDepth 100000 in
theorem wnw8 : Cond.methodLinkNest RX11 89 yX2_init RX11 ∈ lw_tbl := List.mem_append_right _ (show _ ∈ tables_1_1 ++ (tables_1_2 ++ (tables_1_3 ++ (tables_1_4 ++ (tables_1_5 ++ (tables_1_6 ++ (tables_1_7 ++ tables_1_8)))))) from List.mem_append_left _ (List.mem_of_getElem? (i := 183) (by rfl)))
set_option maxRecDepth 100000 in
theorem wnw9 : Cond.methodLinkNest RX2 11 yX6_init RX11 ∈ lw_tbl := List.mem_append_right _ (show _ ∈ tables_1_1 ++ (tables_1_2 ++ (tables_1_3 ++ (tables_1_4 ++ (tables_1_5 ++ (tables_1_6 ++ (tables_1_7 ++ tables_1_8)))))) from List.mem_append_left _ (List.mem_of_getElem? (i := 188) (by rfl)))
set_option maxRecDepth 100000 in
theorem wnw10 : Cond.methodLinkNest RX11 96 yX0_init RX11 ∈ lw_tbl := List.mem_append_right _ (show _ ∈ tables_1_1 ++ (tables_1_2 ++ (tables_1_3 ++ (tables_1_4 ++ (tables_1_5 ++ (tables_1_6 ++ (tables_1_7 ++ tables_1_8)))))) from List.mem_append_left _ (List.mem_of_getElem? (i := 216) (by rfl)))
set_option maxRecDepth 100000 in
theorem wnw11 : Cond.methodLinkNest RX11 108 yX3_init RX11 ∈ lw_tbl := List.mem_append_right _ (show _ ∈ tables_1_1 ++ (tables_1_2 ++ (tables_1_3 ++ (tables_1_4 ++ (tables_1_5 ++ (tables_1_6 ++ (tables_1_7 ++ tables_1_8)))))) from List.mem_append_right _ (List.mem_append_left _ (List.mem_of_getElem? (i := 22) (by rfl))))
set_option maxRecDepth 100000 in
theorem wnw12 : Cond.methodLinkNest RX11 109 yX1_init RX11 ∈ lw_tbl := List.mem_append_right _ (show _ ∈ tables_1_1 ++ (tables_1_2 ++ (tables_1_3 ++ (tables_1_4 ++ (tables_1_5 ++ (tables_1_6 ++ (tables_1_7 ++ tables_1_8)))))) from List.mem_append_right _ (List.mem_append_left _ (List.mem_of_getElem? (i := 51) (by rfl))))
theorem nws {b : Nat} {s : State} (hts : ∀ w ∈ lw_tbl, w.before #[Value.ref b] s = true) : NWs s := by
  intro q hq
  simp only [nwl, List.mem_cons, List.not_mem_nil, or_false] at hq
  rcases hq with rfl | rfl | rfl | rfl | rfl | rfl | rfl | rfl | rfl | rfl | rfl | rfl | rfl
  · exact va_Nw.of rfl (hts _ wnw0)
  · exact va_Nw.of rfl (hts _ wnw1)
  · exact va_Nw.of rfl (hts _ wnw2)
  · exact va_Nw.of rfl (hts _ wnw3)
  · exact va_Nw.of rfl (hts _ wnw4)
  · exact va_Nw.of rfl (hts _ wnw5)
  · exact va_Nw.of rfl (hts _ wnw6)
  · exact va_Nw.of rfl (hts _ wnw7)
  · exact va_Nw.of rfl (hts _ wnw8)
  · exact va_Nw.of rfl (hts _ wnw9)
  · exact va_Nw.of rfl (hts _ wnw10)
  · exact va_Nw.of rfl (hts _ wnw11)
  · exact va_Nw.of rfl (hts _ wnw12)
set_option maxRecDepth 100000 in
theorem wLc7 : Cond.classLink R_law 7 RX11 ∈ TT := in1 17 (by rfl) rfl
set_option maxRecDepth 100000 in
theorem wLc10 : Cond.classLink R_law 10 RX12 ∈ TT := in5 198 (by rfl) rfl
set_option maxRecDepth 100000 in
theorem wLi11 : Cond.initialized RX11 ∈ TT := in1 1 (by rfl) rfl
set_option maxRecDepth 100000 in
theorem wLi12 : Cond.initialized RX12 ∈ TT := in1 14 (by rfl) rfl
set_option maxRecDepth 100000 in
theorem wLm9 : Cond.methodLink R_law 9 yX11_init ∈ TT := in1 19 (by rfl) rfl
set_option maxRecDepth 100000 in
theorem wLm12 : Cond.methodLink R_law 12 yX12_init ∈ TT := in5 200 (by rfl) rfl
