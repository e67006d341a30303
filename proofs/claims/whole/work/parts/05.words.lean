/-! The words of the table, by their places. -/
/-- the words that a method may ask of its caller -/
def TT : List Cond := lw_tbl.filter goodWord
theorem goodT {c' c : Cond} (h : c ∈ TT) : GoodIn (c' :: TT) (c :: TT) := fun w hw => by
  rcases List.mem_cons.mp hw with rfl | hw
  · exact ⟨List.mem_cons_of_mem _ h, good_of_word (List.mem_filter.mp h).2⟩
  · exact ⟨List.mem_cons_of_mem _ hw, good_of_word (List.mem_filter.mp hw).2⟩
theorem goodT0 {c : Cond} (h : c ∈ TT) : GoodIn TT (c :: TT) := fun w hw => by
  rcases List.mem_cons.mp hw with rfl | hw
  · exact ⟨h, good_of_word (List.mem_filter.mp h).2⟩
  · exact ⟨hw, good_of_word (List.mem_filter.mp hw).2⟩
abbrev MD : Type := String × ByteArray × Nat × Option FieldType × Bool
def nF (ci : Nat) : Nat := match cls[ci]? with
  | some q => q.2.2
  | none => 0
def CF (ci : Nat) : Prop := ∃ q : vw_C, cls[ci]? = some q ∧ (∀ w ∈ u_ws q.1 q.2.1 q.2.2, w ∈ TT) ∧ (∀ k, k < q.2.2 → parseFieldDescriptor (q.2.1 k).2.2.1 = some (fty ci k)) ∧ (∀ a, a < q.2.2 → ∀ b, b < q.2.2 → a ≠ b → (q.2.1 a).2.1 ≠ (q.2.1 b).2.1) ∧ ci < 13
def FL (own : String) (idx ci kf : Nat) (fn : Bool) : Prop := ∃ q : vw_C, cls[ci]? = some q ∧ kf < q.2.2 ∧ Cond.fieldLink own idx (q.2.1 kf).1 (q.2.1 kf).2.1 (q.2.1 kf).2.2.1 ∈ TT ∧ (q.2.1 kf).2.2.2 = fn ∧ (q.2.1 kf).1 = own
theorem nF_of {ci : Nat} {q : vw_C} (h : cls[ci]? = some q) : nF ci = q.2.2 := by unfold nF; rw [h]
/-- what a callee's words give -/
def MC (y : MethodName) (Y2 : MD) (na : Nat) : Prop := Y2.1 = y.cls ∧ (y.cls ≠ "java/lang/invoke/MethodHandle" ∧ y.cls ≠ "java/lang/invoke/VarHandle" ∧ (parseMethodDescriptor y.desc).map (fun d => d.parameters.length) = some na) ∧ Cond.initialized y.cls ∈ TT ∧ Cond.code y Y2.2.1 Y2.2.2.1 Y2.2.2.2.1 ∈ TT
theorem inP {w : Cond} (i : Nat) (h : (k2_sels lw_privs)[i]? = some w) (hg : goodWord w = true) : w ∈ TT := List.mem_filter.mpr ⟨List.mem_append_left _ (List.mem_of_getElem? h), hg⟩
theorem in1 {w : Cond} (i : Nat) (h : tables_1_1[i]? = some w) (hg : goodWord w = true) : w ∈ TT := List.mem_filter.mpr ⟨List.mem_append_right _ (show w ∈ tables_1_1 ++ (tables_1_2 ++ (tables_1_3 ++ (tables_1_4 ++ (tables_1_5 ++ (tables_1_6 ++ (tables_1_7 ++ tables_1_8)))))) from List.mem_append_left _ (List.mem_of_getElem? h)), hg⟩
theorem in2 {w : Cond} (i : Nat) (h : tables_1_2[i]? = some w) (hg : goodWord w = true) : w ∈ TT := List.mem_filter.mpr ⟨List.mem_append_right _ (show w ∈ tables_1_1 ++ (tables_1_2 ++ (tables_1_3 ++ (tables_1_4 ++ (tables_1_5 ++ (tables_1_6 ++ (tables_1_7 ++ tables_1_8)))))) from List.mem_append_right _ (List.mem_append_left _ (List.mem_of_getElem? h))), hg⟩
theorem in3 {w : Cond} (i : Nat) (h : tables_1_3[i]? = some w) (hg : goodWord w = true) : w ∈ TT := List.mem_filter.mpr ⟨List.mem_append_right _ (show w ∈ tables_1_1 ++ (tables_1_2 ++ (tables_1_3 ++ (tables_1_4 ++ (tables_1_5 ++ (tables_1_6 ++ (tables_1_7 ++ tables_1_8)))))) from List.mem_append_right _ (List.mem_append_right _ (List.mem_append_left _ (List.mem_of_getElem? h)))), hg⟩
theorem in4 {w : Cond} (i : Nat) (h : tables_1_4[i]? = some w) (hg : goodWord w = true) : w ∈ TT := List.mem_filter.mpr ⟨List.mem_append_right _ (show w ∈ tables_1_1 ++ (tables_1_2 ++ (tables_1_3 ++ (tables_1_4 ++ (tables_1_5 ++ (tables_1_6 ++ (tables_1_7 ++ tables_1_8)))))) from List.mem_append_right _ (List.mem_append_right _ (List.mem_append_right _ (List.mem_append_left _ (List.mem_of_getElem? h))))), hg⟩
theorem in5 {w : Cond} (i : Nat) (h : tables_1_5[i]? = some w) (hg : goodWord w = true) : w ∈ TT := List.mem_filter.mpr ⟨List.mem_append_right _ (show w ∈ tables_1_1 ++ (tables_1_2 ++ (tables_1_3 ++ (tables_1_4 ++ (tables_1_5 ++ (tables_1_6 ++ (tables_1_7 ++ tables_1_8)))))) from List.mem_append_right _ (List.mem_append_right _ (List.mem_append_right _ (List.mem_append_right _ (List.mem_append_left _ (List.mem_of_getElem? h)))))), hg⟩
theorem in6 {w : Cond} (i : Nat) (h : tables_1_6[i]? = some w) (hg : goodWord w = true) : w ∈ TT := List.mem_filter.mpr ⟨List.mem_append_right _ (show w ∈ tables_1_1 ++ (tables_1_2 ++ (tables_1_3 ++ (tables_1_4 ++ (tables_1_5 ++ (tables_1_6 ++ (tables_1_7 ++ tables_1_8)))))) from List.mem_append_right _ (List.mem_append_right _ (List.mem_append_right _ (List.mem_append_right _ (List.mem_append_right _ (List.mem_append_left _ (List.mem_of_getElem? h))))))), hg⟩
theorem in7 {w : Cond} (i : Nat) (h : tables_1_7[i]? = some w) (hg : goodWord w = true) : w ∈ TT := List.mem_filter.mpr ⟨List.mem_append_right _ (show w ∈ tables_1_1 ++ (tables_1_2 ++ (tables_1_3 ++ (tables_1_4 ++ (tables_1_5 ++ (tables_1_6 ++ (tables_1_7 ++ tables_1_8)))))) from List.mem_append_right _ (List.mem_append_right _ (List.mem_append_right _ (List.mem_append_right _ (List.mem_append_right _ (List.mem_append_right _ (List.mem_append_left _ (List.mem_of_getElem? h)))))))), hg⟩
theorem in8 {w : Cond} (i : Nat) (h : tables_1_8[i]? = some w) (hg : goodWord w = true) : w ∈ TT := List.mem_filter.mpr ⟨List.mem_append_right _ (show w ∈ tables_1_1 ++ (tables_1_2 ++ (tables_1_3 ++ (tables_1_4 ++ (tables_1_5 ++ (tables_1_6 ++ (tables_1_7 ++ tables_1_8)))))) from List.mem_append_right _ (List.mem_append_right _ (List.mem_append_right _ (List.mem_append_right _ (List.mem_append_right _ (List.mem_append_right _ (List.mem_append_right _ (List.mem_of_getElem? h)))))))), hg⟩
theorem inTs {ws : List Cond} (ps : List Nat) (hp : ws = ps.filterMap (fun i => lw_tbl[i]?)) (hg : ws.all goodWord = true) : ∀ v ∈ ws, v ∈ TT := fun v hv => by
  have h1 := List.all_eq_true.mp hg v hv
  rw [hp] at hv
  obtain ⟨i, -, hi⟩ := List.mem_filterMap.mp hv
  exact List.mem_filter.mpr ⟨List.mem_of_getElem? hi, h1⟩
theorem cf0 : CF 0 := ⟨_, rfl, inTs [307, 309, 311, 313, 315] (by decide +kernel) (by decide +kernel), tyX0_ok, nmX0, by decide⟩
theorem cf1 : CF 1 := ⟨_, rfl, inTs [382, 384, 386, 388, 390] (by decide +kernel) (by decide +kernel), tyX1_ok, nmX1, by decide⟩
theorem cf2 : CF 2 := ⟨_, rfl, inTs [279, 281, 283, 285, 287, 289, 291, 293] (by decide +kernel) (by decide +kernel), tyX2_ok, nmX2, by decide⟩
theorem cf3 : CF 3 := ⟨_, rfl, inTs [357, 359, 361, 363, 365, 367, 369] (by decide +kernel) (by decide +kernel), tyX3_ok, nmX3, by decide⟩
theorem cf4 : CF 4 := ⟨_, rfl, inTs [140, 142, 144, 146, 148, 150, 152, 154, 156, 158, 160] (by decide +kernel) (by decide +kernel), tyX4_ok, nmX4, by decide⟩
theorem cf5 : CF 5 := ⟨_, rfl, inTs [248, 250, 252, 254, 256, 258, 260] (by decide +kernel) (by decide +kernel), tyX5_ok, nmX5, by decide⟩
theorem cf6 : CF 6 := ⟨_, rfl, inTs [117, 119] (by decide +kernel) (by decide +kernel), tyX6_ok, nmX6, by decide⟩
theorem cf7 : CF 7 := ⟨_, rfl, inTs [201, 203, 205, 207, 209, 211, 213, 215, 217] (by decide +kernel) (by decide +kernel), tyX7_ok, nmX7, by decide⟩
theorem cf8 : CF 8 := ⟨_, rfl, inTs [333, 335, 337, 339] (by decide +kernel) (by decide +kernel), tyX8_ok, nmX8, by decide⟩
theorem cf9 : CF 9 := ⟨_, rfl, inTs [173, 175, 177, 179] (by decide +kernel) (by decide +kernel), tyX9_ok, nmX9, by decide⟩
theorem cf10 : CF 10 := ⟨_, rfl, inTs [228, 230] (by decide +kernel) (by decide +kernel), tyX10_ok, nmX10, by decide⟩
theorem cf11 : CF 11 := ⟨_, rfl, inTs [411, 413, 415, 417, 419, 421, 423, 425, 427, 429, 431, 433, 435, 437, 439, 441, 443, 445] (by decide +kernel) (by decide +kernel), tyX11_ok, nmX11, by decide⟩
theorem cf12 : CF 12 := ⟨_, rfl, inTs [1311, 1313, 1315, 1317, 1319, 1321, 1323, 1325, 1327, 1329, 1331, 1333, 1335, 1337, 1339, 1341, 1343, 1345, 1347, 1349, 1351, 1353, 1355, 1357, 1359, 1361, 1363, 1365, 1367, 1369, 1371, 1373, 1375, 1377, 1379, 1381, 1383, 1385, 1387, 1389, 1391, 1393, 1395, 1397, 1399, 1401, 1403, 1405, 1407, 1409, 1411, 1413, 1415, 1417, 1419, 1421, 1423, 1425, 1427, 1429, 1431, 1433, 1435, 1437, 1439] (by decide +kernel) (by decide +kernel), tyX12_ok, nmX12, by decide⟩
set_option maxRecDepth 100000 in
theorem flX0_11 : FL RX0 11 0 0 true := ⟨_, rfl, by decide, in1 220 (by rfl) rfl, rfl, rfl⟩
set_option maxRecDepth 100000 in
theorem flX0_15 : FL RX0 15 0 1 false := ⟨_, rfl, by decide, in1 221 (by rfl) rfl, rfl, rfl⟩
set_option maxRecDepth 100000 in
theorem flX0_19 : FL RX0 19 0 2 false := ⟨_, rfl, by decide, in1 222 (by rfl) rfl, rfl, rfl⟩
set_option maxRecDepth 100000 in
theorem flX0_22 : FL RX0 22 0 3 false := ⟨_, rfl, by decide, in1 223 (by rfl) rfl, rfl, rfl⟩
set_option maxRecDepth 100000 in
theorem flX0_25 : FL RX0 25 0 4 false := ⟨_, rfl, by decide, in1 224 (by rfl) rfl, rfl, rfl⟩
set_option maxRecDepth 100000 in
theorem flX1_9 : FL RX1 9 1 0 true := ⟨_, rfl, by decide, in2 55 (by rfl) rfl, rfl, rfl⟩
set_option maxRecDepth 100000 in
theorem flX1_15 : FL RX1 15 1 1 false := ⟨_, rfl, by decide, in2 56 (by rfl) rfl, rfl, rfl⟩
set_option maxRecDepth 100000 in
theorem flX1_19 : FL RX1 19 1 2 false := ⟨_, rfl, by decide, in2 57 (by rfl) rfl, rfl, rfl⟩
set_option maxRecDepth 100000 in
theorem flX1_22 : FL RX1 22 1 3 true := ⟨_, rfl, by decide, in2 58 (by rfl) rfl, rfl, rfl⟩
set_option maxRecDepth 100000 in
theorem flX1_25 : FL RX1 25 1 4 false := ⟨_, rfl, by decide, in2 59 (by rfl) rfl, rfl, rfl⟩
set_option maxRecDepth 100000 in
theorem flX10_9 : FL RX10 9 10 0 true := ⟨_, rfl, by decide, in1 144 (by rfl) rfl, rfl, rfl⟩
set_option maxRecDepth 100000 in
theorem flX10_15 : FL RX10 15 10 1 false := ⟨_, rfl, by decide, in1 145 (by rfl) rfl, rfl, rfl⟩
set_option maxRecDepth 100000 in
theorem flX11_11 : FL RX11 11 11 0 true := ⟨_, rfl, by decide, in2 71 (by rfl) rfl, rfl, rfl⟩
set_option maxRecDepth 100000 in
theorem flX11_15 : FL RX11 15 11 1 false := ⟨_, rfl, by decide, in2 72 (by rfl) rfl, rfl, rfl⟩
set_option maxRecDepth 100000 in
theorem flX11_22 : FL RX11 22 11 2 true := ⟨_, rfl, by decide, in2 73 (by rfl) rfl, rfl, rfl⟩
set_option maxRecDepth 100000 in
theorem flX11_26 : FL RX11 26 11 3 true := ⟨_, rfl, by decide, in2 74 (by rfl) rfl, rfl, rfl⟩
set_option maxRecDepth 100000 in
theorem flX11_32 : FL RX11 32 11 4 true := ⟨_, rfl, by decide, in2 75 (by rfl) rfl, rfl, rfl⟩
set_option maxRecDepth 100000 in
theorem flX11_36 : FL RX11 36 11 5 true := ⟨_, rfl, by decide, in2 76 (by rfl) rfl, rfl, rfl⟩
set_option maxRecDepth 100000 in
theorem flX11_40 : FL RX11 40 11 6 false := ⟨_, rfl, by decide, in2 77 (by rfl) rfl, rfl, rfl⟩
set_option maxRecDepth 100000 in
theorem flX11_47 : FL RX11 47 11 7 true := ⟨_, rfl, by decide, in2 78 (by rfl) rfl, rfl, rfl⟩
set_option maxRecDepth 100000 in
theorem flX11_53 : FL RX11 53 11 8 true := ⟨_, rfl, by decide, in2 79 (by rfl) rfl, rfl, rfl⟩
set_option maxRecDepth 100000 in
theorem flX11_57 : FL RX11 57 11 9 false := ⟨_, rfl, by decide, in2 80 (by rfl) rfl, rfl, rfl⟩
set_option maxRecDepth 100000 in
theorem flX11_63 : FL RX11 63 11 10 true := ⟨_, rfl, by decide, in2 81 (by rfl) rfl, rfl, rfl⟩
set_option maxRecDepth 100000 in
theorem flX11_67 : FL RX11 67 11 11 true := ⟨_, rfl, by decide, in2 82 (by rfl) rfl, rfl, rfl⟩
set_option maxRecDepth 100000 in
theorem flX11_70 : FL RX11 70 11 12 false := ⟨_, rfl, by decide, in2 83 (by rfl) rfl, rfl, rfl⟩
set_option maxRecDepth 100000 in
theorem flX11_76 : FL RX11 76 11 13 true := ⟨_, rfl, by decide, in2 84 (by rfl) rfl, rfl, rfl⟩
set_option maxRecDepth 100000 in
theorem flX11_83 : FL RX11 83 11 14 true := ⟨_, rfl, by decide, in2 85 (by rfl) rfl, rfl, rfl⟩
set_option maxRecDepth 100000 in
theorem flX11_90 : FL RX11 90 11 15 true := ⟨_, rfl, by decide, in2 86 (by rfl) rfl, rfl, rfl⟩
set_option maxRecDepth 100000 in
theorem flX11_97 : FL RX11 97 11 16 true := ⟨_, rfl, by decide, in2 87 (by rfl) rfl, rfl, rfl⟩
set_option maxRecDepth 100000 in
theorem flX11_104 : FL RX11 104 11 17 true := ⟨_, rfl, by decide, in2 88 (by rfl) rfl, rfl, rfl⟩
set_option maxRecDepth 100000 in
theorem flX12_9 : FL RX12 9 12 0 true := ⟨_, rfl, by decide, in5 204 (by rfl) rfl, rfl, rfl⟩
set_option maxRecDepth 100000 in
theorem flX12_13 : FL RX12 13 12 1 true := ⟨_, rfl, by decide, in5 205 (by rfl) rfl, rfl, rfl⟩
set_option maxRecDepth 100000 in
theorem flX12_16 : FL RX12 16 12 2 true := ⟨_, rfl, by decide, in5 206 (by rfl) rfl, rfl, rfl⟩
set_option maxRecDepth 100000 in
theorem flX12_19 : FL RX12 19 12 3 true := ⟨_, rfl, by decide, in5 207 (by rfl) rfl, rfl, rfl⟩
set_option maxRecDepth 100000 in
theorem flX12_22 : FL RX12 22 12 4 true := ⟨_, rfl, by decide, in5 208 (by rfl) rfl, rfl, rfl⟩
set_option maxRecDepth 100000 in
theorem flX12_25 : FL RX12 25 12 5 true := ⟨_, rfl, by decide, in5 209 (by rfl) rfl, rfl, rfl⟩
set_option maxRecDepth 100000 in
theorem flX12_28 : FL RX12 28 12 7 true := ⟨_, rfl, by decide, in5 211 (by rfl) rfl, rfl, rfl⟩
set_option maxRecDepth 100000 in
theorem flX12_31 : FL RX12 31 12 9 true := ⟨_, rfl, by decide, in5 213 (by rfl) rfl, rfl, rfl⟩
set_option maxRecDepth 100000 in
theorem flX12_34 : FL RX12 34 12 16 true := ⟨_, rfl, by decide, in5 220 (by rfl) rfl, rfl, rfl⟩
set_option maxRecDepth 100000 in
theorem flX12_37 : FL RX12 37 12 17 true := ⟨_, rfl, by decide, in5 221 (by rfl) rfl, rfl, rfl⟩
set_option maxRecDepth 100000 in
theorem flX12_40 : FL RX12 40 12 18 true := ⟨_, rfl, by decide, in5 222 (by rfl) rfl, rfl, rfl⟩
set_option maxRecDepth 100000 in
theorem flX12_43 : FL RX12 43 12 19 true := ⟨_, rfl, by decide, in5 223 (by rfl) rfl, rfl, rfl⟩
set_option maxRecDepth 100000 in
theorem flX12_46 : FL RX12 46 12 21 false := ⟨_, rfl, by decide, in5 225 (by rfl) rfl, rfl, rfl⟩
set_option maxRecDepth 100000 in
theorem flX12_50 : FL RX12 50 12 25 true := ⟨_, rfl, by decide, in5 229 (by rfl) rfl, rfl, rfl⟩
set_option maxRecDepth 100000 in
theorem flX12_53 : FL RX12 53 12 26 true := ⟨_, rfl, by decide, in5 230 (by rfl) rfl, rfl, rfl⟩
set_option maxRecDepth 100000 in
theorem flX12_57 : FL RX12 57 12 27 true := ⟨_, rfl, by decide, in5 231 (by rfl) rfl, rfl, rfl⟩
set_option maxRecDepth 100000 in
theorem flX12_60 : FL RX12 60 12 29 true := ⟨_, rfl, by decide, in5 233 (by rfl) rfl, rfl, rfl⟩
set_option maxRecDepth 100000 in
theorem flX12_63 : FL RX12 63 12 31 true := ⟨_, rfl, by decide, in5 235 (by rfl) rfl, rfl, rfl⟩
set_option maxRecDepth 100000 in
theorem flX12_66 : FL RX12 66 12 32 true := ⟨_, rfl, by decide, in5 236 (by rfl) rfl, rfl, rfl⟩
set_option maxRecDepth 100000 in
theorem flX12_69 : FL RX12 69 12 33 true := ⟨_, rfl, by decide, in5 237 (by rfl) rfl, rfl, rfl⟩
set_option maxRecDepth 100000 in
theorem flX12_72 : FL RX12 72 12 40 true := ⟨_, rfl, by decide, in6 4 (by rfl) rfl, rfl, rfl⟩
set_option maxRecDepth 100000 in
theorem flX12_76 : FL RX12 76 12 48 false := ⟨_, rfl, by decide, in6 12 (by rfl) rfl, rfl, rfl⟩
set_option maxRecDepth 100000 in
theorem flX12_79 : FL RX12 79 12 53 true := ⟨_, rfl, by decide, in6 17 (by rfl) rfl, rfl, rfl⟩
set_option maxRecDepth 100000 in
theorem flX12_82 : FL RX12 82 12 55 true := ⟨_, rfl, by decide, in6 19 (by rfl) rfl, rfl, rfl⟩
set_option maxRecDepth 100000 in
theorem flX12_85 : FL RX12 85 12 56 true := ⟨_, rfl, by decide, in6 20 (by rfl) rfl, rfl, rfl⟩
set_option maxRecDepth 100000 in
theorem flX12_88 : FL RX12 88 12 61 true := ⟨_, rfl, by decide, in6 25 (by rfl) rfl, rfl, rfl⟩
set_option maxRecDepth 100000 in
theorem flX12_91 : FL RX12 91 12 62 true := ⟨_, rfl, by decide, in6 26 (by rfl) rfl, rfl, rfl⟩
set_option maxRecDepth 100000 in
theorem flX12_94 : FL RX12 94 12 63 true := ⟨_, rfl, by decide, in6 27 (by rfl) rfl, rfl, rfl⟩
set_option maxRecDepth 100000 in
theorem flX12_97 : FL RX12 97 12 64 true := ⟨_, rfl, by decide, in6 28 (by rfl) rfl, rfl, rfl⟩
set_option maxRecDepth 100000 in
theorem flX12_100 : FL RX12 100 12 6 false := ⟨_, rfl, by decide, in5 210 (by rfl) rfl, rfl, rfl⟩
set_option maxRecDepth 100000 in
theorem flX12_128 : FL RX12 128 12 8 false := ⟨_, rfl, by decide, in5 212 (by rfl) rfl, rfl, rfl⟩
set_option maxRecDepth 100000 in
theorem flX12_141 : FL RX12 141 12 10 false := ⟨_, rfl, by decide, in5 214 (by rfl) rfl, rfl, rfl⟩
set_option maxRecDepth 100000 in
theorem flX12_144 : FL RX12 144 12 11 false := ⟨_, rfl, by decide, in5 215 (by rfl) rfl, rfl, rfl⟩
set_option maxRecDepth 100000 in
theorem flX12_147 : FL RX12 147 12 12 false := ⟨_, rfl, by decide, in5 216 (by rfl) rfl, rfl, rfl⟩
set_option maxRecDepth 100000 in
theorem flX12_150 : FL RX12 150 12 13 false := ⟨_, rfl, by decide, in5 217 (by rfl) rfl, rfl, rfl⟩
set_option maxRecDepth 100000 in
theorem flX12_153 : FL RX12 153 12 14 false := ⟨_, rfl, by decide, in5 218 (by rfl) rfl, rfl, rfl⟩
set_option maxRecDepth 100000 in
theorem flX12_156 : FL RX12 156 12 15 false := ⟨_, rfl, by decide, in5 219 (by rfl) rfl, rfl, rfl⟩
set_option maxRecDepth 100000 in
theorem flX12_159 : FL RX12 159 12 20 false := ⟨_, rfl, by decide, in5 224 (by rfl) rfl, rfl, rfl⟩
set_option maxRecDepth 100000 in
theorem flX12_187 : FL RX12 187 12 22 false := ⟨_, rfl, by decide, in5 226 (by rfl) rfl, rfl, rfl⟩
set_option maxRecDepth 100000 in
theorem flX12_190 : FL RX12 190 12 23 false := ⟨_, rfl, by decide, in5 227 (by rfl) rfl, rfl, rfl⟩
set_option maxRecDepth 100000 in
theorem flX12_193 : FL RX12 193 12 24 false := ⟨_, rfl, by decide, in5 228 (by rfl) rfl, rfl, rfl⟩
set_option maxRecDepth 100000 in
theorem flX12_196 : FL RX12 196 12 28 false := ⟨_, rfl, by decide, in5 232 (by rfl) rfl, rfl, rfl⟩
set_option maxRecDepth 100000 in
theorem flX12_213 : FL RX12 213 12 30 false := ⟨_, rfl, by decide, in5 234 (by rfl) rfl, rfl, rfl⟩
set_option maxRecDepth 100000 in
theorem flX12_216 : FL RX12 216 12 36 false := ⟨_, rfl, by decide, in6 0 (by rfl) rfl, rfl, rfl⟩
set_option maxRecDepth 100000 in
theorem flX12_219 : FL RX12 219 12 37 false := ⟨_, rfl, by decide, in6 1 (by rfl) rfl, rfl, rfl⟩
set_option maxRecDepth 100000 in
theorem flX12_222 : FL RX12 222 12 35 false := ⟨_, rfl, by decide, in5 239 (by rfl) rfl, rfl, rfl⟩
set_option maxRecDepth 100000 in
theorem flX12_225 : FL RX12 225 12 38 false := ⟨_, rfl, by decide, in6 2 (by rfl) rfl, rfl, rfl⟩
set_option maxRecDepth 100000 in
theorem flX12_240 : FL RX12 240 12 39 false := ⟨_, rfl, by decide, in6 3 (by rfl) rfl, rfl, rfl⟩
set_option maxRecDepth 100000 in
theorem flX12_261 : FL RX12 261 12 34 false := ⟨_, rfl, by decide, in5 238 (by rfl) rfl, rfl, rfl⟩
set_option maxRecDepth 100000 in
theorem flX12_274 : FL RX12 274 12 41 false := ⟨_, rfl, by decide, in6 5 (by rfl) rfl, rfl, rfl⟩
set_option maxRecDepth 100000 in
theorem flX12_277 : FL RX12 277 12 45 false := ⟨_, rfl, by decide, in6 9 (by rfl) rfl, rfl, rfl⟩
set_option maxRecDepth 100000 in
theorem flX12_280 : FL RX12 280 12 46 false := ⟨_, rfl, by decide, in6 10 (by rfl) rfl, rfl, rfl⟩
set_option maxRecDepth 100000 in
theorem flX12_283 : FL RX12 283 12 47 false := ⟨_, rfl, by decide, in6 11 (by rfl) rfl, rfl, rfl⟩
set_option maxRecDepth 100000 in
theorem flX12_286 : FL RX12 286 12 42 false := ⟨_, rfl, by decide, in6 6 (by rfl) rfl, rfl, rfl⟩
set_option maxRecDepth 100000 in
theorem flX12_289 : FL RX12 289 12 43 false := ⟨_, rfl, by decide, in6 7 (by rfl) rfl, rfl, rfl⟩
set_option maxRecDepth 100000 in
theorem flX12_292 : FL RX12 292 12 44 false := ⟨_, rfl, by decide, in6 8 (by rfl) rfl, rfl, rfl⟩
set_option maxRecDepth 100000 in
theorem flX12_302 : FL RX12 302 12 51 false := ⟨_, rfl, by decide, in6 15 (by rfl) rfl, rfl, rfl⟩
set_option maxRecDepth 100000 in
theorem flX12_305 : FL RX12 305 12 52 false := ⟨_, rfl, by decide, in6 16 (by rfl) rfl, rfl, rfl⟩
set_option maxRecDepth 100000 in
theorem flX12_308 : FL RX12 308 12 49 false := ⟨_, rfl, by decide, in6 13 (by rfl) rfl, rfl, rfl⟩
set_option maxRecDepth 100000 in
theorem flX12_311 : FL RX12 311 12 50 false := ⟨_, rfl, by decide, in6 14 (by rfl) rfl, rfl, rfl⟩
set_option maxRecDepth 100000 in
theorem flX12_314 : FL RX12 314 12 54 false := ⟨_, rfl, by decide, in6 18 (by rfl) rfl, rfl, rfl⟩
set_option maxRecDepth 100000 in
theorem flX12_341 : FL RX12 341 12 57 false := ⟨_, rfl, by decide, in6 21 (by rfl) rfl, rfl, rfl⟩
set_option maxRecDepth 100000 in
theorem flX12_347 : FL RX12 347 12 58 false := ⟨_, rfl, by decide, in6 22 (by rfl) rfl, rfl, rfl⟩
set_option maxRecDepth 100000 in
theorem flX12_356 : FL RX12 356 12 60 false := ⟨_, rfl, by decide, in6 24 (by rfl) rfl, rfl, rfl⟩
set_option maxRecDepth 100000 in
theorem flX12_359 : FL RX12 359 12 59 false := ⟨_, rfl, by decide, in6 23 (by rfl) rfl, rfl, rfl⟩
set_option maxRecDepth 100000 in
theorem flX2_12 : FL RX2 12 2 0 true := ⟨_, rfl, by decide, in1 189 (by rfl) rfl, rfl, rfl⟩
set_option maxRecDepth 100000 in
theorem flX2_18 : FL RX2 18 2 1 true := ⟨_, rfl, by decide, in1 190 (by rfl) rfl, rfl, rfl⟩
set_option maxRecDepth 100000 in
theorem flX2_21 : FL RX2 21 2 2 false := ⟨_, rfl, by decide, in1 191 (by rfl) rfl, rfl, rfl⟩
set_option maxRecDepth 100000 in
theorem flX2_25 : FL RX2 25 2 3 false := ⟨_, rfl, by decide, in1 192 (by rfl) rfl, rfl, rfl⟩
set_option maxRecDepth 100000 in
theorem flX2_28 : FL RX2 28 2 4 false := ⟨_, rfl, by decide, in1 193 (by rfl) rfl, rfl, rfl⟩
set_option maxRecDepth 100000 in
theorem flX2_31 : FL RX2 31 2 5 false := ⟨_, rfl, by decide, in1 194 (by rfl) rfl, rfl, rfl⟩
set_option maxRecDepth 100000 in
theorem flX2_34 : FL RX2 34 2 6 false := ⟨_, rfl, by decide, in1 195 (by rfl) rfl, rfl, rfl⟩
set_option maxRecDepth 100000 in
theorem flX2_37 : FL RX2 37 2 7 false := ⟨_, rfl, by decide, in1 196 (by rfl) rfl, rfl, rfl⟩
set_option maxRecDepth 100000 in
theorem flX3_9 : FL RX3 9 3 0 false := ⟨_, rfl, by decide, in2 28 (by rfl) rfl, rfl, rfl⟩
set_option maxRecDepth 100000 in
theorem flX3_15 : FL RX3 15 3 1 true := ⟨_, rfl, by decide, in2 29 (by rfl) rfl, rfl, rfl⟩
set_option maxRecDepth 100000 in
theorem flX3_19 : FL RX3 19 3 2 true := ⟨_, rfl, by decide, in2 30 (by rfl) rfl, rfl, rfl⟩
set_option maxRecDepth 100000 in
theorem flX3_22 : FL RX3 22 3 3 true := ⟨_, rfl, by decide, in2 31 (by rfl) rfl, rfl, rfl⟩
set_option maxRecDepth 100000 in
theorem flX3_27 : FL RX3 27 3 4 true := ⟨_, rfl, by decide, in2 32 (by rfl) rfl, rfl, rfl⟩
set_option maxRecDepth 100000 in
theorem flX3_30 : FL RX3 30 3 5 true := ⟨_, rfl, by decide, in2 33 (by rfl) rfl, rfl, rfl⟩
set_option maxRecDepth 100000 in
theorem flX3_33 : FL RX3 33 3 6 true := ⟨_, rfl, by decide, in2 34 (by rfl) rfl, rfl, rfl⟩
set_option maxRecDepth 100000 in
theorem flX4_11 : FL RX4 11 4 0 true := ⟨_, rfl, by decide, in1 47 (by rfl) rfl, rfl, rfl⟩
set_option maxRecDepth 100000 in
theorem flX4_17 : FL RX4 17 4 1 false := ⟨_, rfl, by decide, in1 48 (by rfl) rfl, rfl, rfl⟩
set_option maxRecDepth 100000 in
theorem flX4_21 : FL RX4 21 4 2 false := ⟨_, rfl, by decide, in1 49 (by rfl) rfl, rfl, rfl⟩
set_option maxRecDepth 100000 in
theorem flX4_24 : FL RX4 24 4 3 false := ⟨_, rfl, by decide, in1 50 (by rfl) rfl, rfl, rfl⟩
set_option maxRecDepth 100000 in
theorem flX4_27 : FL RX4 27 4 4 false := ⟨_, rfl, by decide, in1 51 (by rfl) rfl, rfl, rfl⟩
set_option maxRecDepth 100000 in
theorem flX4_30 : FL RX4 30 4 5 false := ⟨_, rfl, by decide, in1 52 (by rfl) rfl, rfl, rfl⟩
set_option maxRecDepth 100000 in
theorem flX4_33 : FL RX4 33 4 6 false := ⟨_, rfl, by decide, in1 53 (by rfl) rfl, rfl, rfl⟩
set_option maxRecDepth 100000 in
theorem flX4_36 : FL RX4 36 4 7 true := ⟨_, rfl, by decide, in1 54 (by rfl) rfl, rfl, rfl⟩
set_option maxRecDepth 100000 in
theorem flX4_39 : FL RX4 39 4 8 false := ⟨_, rfl, by decide, in1 55 (by rfl) rfl, rfl, rfl⟩
set_option maxRecDepth 100000 in
theorem flX4_42 : FL RX4 42 4 9 true := ⟨_, rfl, by decide, in1 56 (by rfl) rfl, rfl, rfl⟩
set_option maxRecDepth 100000 in
theorem flX4_45 : FL RX4 45 4 10 false := ⟨_, rfl, by decide, in1 57 (by rfl) rfl, rfl, rfl⟩
set_option maxRecDepth 100000 in
theorem flX5_12 : FL RX5 12 5 0 true := ⟨_, rfl, by decide, in1 159 (by rfl) rfl, rfl, rfl⟩
set_option maxRecDepth 100000 in
theorem flX5_18 : FL RX5 18 5 1 true := ⟨_, rfl, by decide, in1 160 (by rfl) rfl, rfl, rfl⟩
set_option maxRecDepth 100000 in
theorem flX5_21 : FL RX5 21 5 2 true := ⟨_, rfl, by decide, in1 161 (by rfl) rfl, rfl, rfl⟩
set_option maxRecDepth 100000 in
theorem flX5_25 : FL RX5 25 5 3 false := ⟨_, rfl, by decide, in1 162 (by rfl) rfl, rfl, rfl⟩
set_option maxRecDepth 100000 in
theorem flX5_29 : FL RX5 29 5 4 false := ⟨_, rfl, by decide, in1 163 (by rfl) rfl, rfl, rfl⟩
set_option maxRecDepth 100000 in
theorem flX5_32 : FL RX5 32 5 5 false := ⟨_, rfl, by decide, in1 164 (by rfl) rfl, rfl, rfl⟩
set_option maxRecDepth 100000 in
theorem flX5_35 : FL RX5 35 5 6 false := ⟨_, rfl, by decide, in1 165 (by rfl) rfl, rfl, rfl⟩
set_option maxRecDepth 100000 in
theorem flX6_9 : FL RX6 9 6 0 true := ⟨_, rfl, by decide, in1 33 (by rfl) rfl, rfl, rfl⟩
set_option maxRecDepth 100000 in
theorem flX6_15 : FL RX6 15 6 1 false := ⟨_, rfl, by decide, in1 34 (by rfl) rfl, rfl, rfl⟩
set_option maxRecDepth 100000 in
theorem flX7_12 : FL RX7 12 7 0 true := ⟨_, rfl, by decide, in1 110 (by rfl) rfl, rfl, rfl⟩
set_option maxRecDepth 100000 in
theorem flX7_18 : FL RX7 18 7 1 true := ⟨_, rfl, by decide, in1 111 (by rfl) rfl, rfl, rfl⟩
set_option maxRecDepth 100000 in
theorem flX7_21 : FL RX7 21 7 2 false := ⟨_, rfl, by decide, in1 112 (by rfl) rfl, rfl, rfl⟩
set_option maxRecDepth 100000 in
theorem flX7_25 : FL RX7 25 7 3 false := ⟨_, rfl, by decide, in1 113 (by rfl) rfl, rfl, rfl⟩
set_option maxRecDepth 100000 in
theorem flX7_29 : FL RX7 29 7 4 false := ⟨_, rfl, by decide, in1 114 (by rfl) rfl, rfl, rfl⟩
set_option maxRecDepth 100000 in
theorem flX7_32 : FL RX7 32 7 5 false := ⟨_, rfl, by decide, in1 115 (by rfl) rfl, rfl, rfl⟩
set_option maxRecDepth 100000 in
theorem flX7_35 : FL RX7 35 7 6 false := ⟨_, rfl, by decide, in1 116 (by rfl) rfl, rfl, rfl⟩
set_option maxRecDepth 100000 in
theorem flX7_38 : FL RX7 38 7 7 false := ⟨_, rfl, by decide, in1 117 (by rfl) rfl, rfl, rfl⟩
set_option maxRecDepth 100000 in
theorem flX7_41 : FL RX7 41 7 8 false := ⟨_, rfl, by decide, in1 118 (by rfl) rfl, rfl, rfl⟩
set_option maxRecDepth 100000 in
theorem flX8_9 : FL RX8 9 8 0 true := ⟨_, rfl, by decide, in2 7 (by rfl) rfl, rfl, rfl⟩
set_option maxRecDepth 100000 in
theorem flX8_13 : FL RX8 13 8 1 true := ⟨_, rfl, by decide, in2 8 (by rfl) rfl, rfl, rfl⟩
set_option maxRecDepth 100000 in
theorem flX8_16 : FL RX8 16 8 2 true := ⟨_, rfl, by decide, in2 9 (by rfl) rfl, rfl, rfl⟩
set_option maxRecDepth 100000 in
theorem flX8_21 : FL RX8 21 8 3 true := ⟨_, rfl, by decide, in2 10 (by rfl) rfl, rfl, rfl⟩
set_option maxRecDepth 100000 in
theorem flX9_9 : FL RX9 9 9 0 true := ⟨_, rfl, by decide, in1 87 (by rfl) rfl, rfl, rfl⟩
set_option maxRecDepth 100000 in
theorem flX9_13 : FL RX9 13 9 1 false := ⟨_, rfl, by decide, in1 88 (by rfl) rfl, rfl, rfl⟩
set_option maxRecDepth 100000 in
theorem flX9_17 : FL RX9 17 9 2 false := ⟨_, rfl, by decide, in1 89 (by rfl) rfl, rfl, rfl⟩
set_option maxRecDepth 100000 in
theorem flX9_20 : FL RX9 20 9 3 false := ⟨_, rfl, by decide, in1 90 (by rfl) rfl, rfl, rfl⟩
set_option maxRecDepth 100000 in
theorem wX11_325 : Cond.constant RX11 325 (-2000000000) ∈ TT := in5 55 (by rfl) rfl
set_option maxRecDepth 100000 in
theorem wX11_362 : Cond.constantLong RX11 362 (-9223372036854775808) ∈ TT := in5 167 (by rfl) rfl
set_option maxRecDepth 100000 in
theorem wX12_107 : Cond.constantLong RX12 107 (6) ∈ TT := in6 165 (by rfl) rfl
set_option maxRecDepth 100000 in
theorem wX12_131 : Cond.constantLong RX12 131 (11) ∈ TT := in6 205 (by rfl) rfl
set_option maxRecDepth 100000 in
theorem wX12_139 : Cond.constantLong RX12 139 (15) ∈ TT := in6 239 (by rfl) rfl
set_option maxRecDepth 100000 in
theorem wX12_177 : Cond.constantLong RX12 177 (999) ∈ TT := in6 226 (by rfl) rfl
set_option maxRecDepth 100000 in
theorem wX12_211 : Cond.constantLong RX12 211 (4) ∈ TT := in7 36 (by rfl) rfl
set_option maxRecDepth 100000 in
theorem wX12_296 : Cond.constantLong RX12 296 (14) ∈ TT := in7 101 (by rfl) rfl
set_option maxRecDepth 100000 in
theorem wX12_317 : Cond.constantLong RX12 317 (12) ∈ TT := in7 125 (by rfl) rfl
set_option maxRecDepth 100000 in
theorem wX12_319 : Cond.constantLong RX12 319 (200) ∈ TT := in7 126 (by rfl) rfl
set_option maxRecDepth 100000 in
theorem wX12_324 : Cond.constantLong RX12 324 (3) ∈ TT := in7 127 (by rfl) rfl
set_option maxRecDepth 100000 in
theorem wX12_329 : Cond.constantLong RX12 329 (2) ∈ TT := in7 136 (by rfl) rfl
set_option maxRecDepth 100000 in
theorem wX12_338 : Cond.constantLong RX12 338 (7) ∈ TT := in7 156 (by rfl) rfl
set_option maxRecDepth 100000 in
theorem wX12_340 : Cond.constant RX12 340 (-2000000000) ∈ TT := in7 161 (by rfl) rfl
set_option maxRecDepth 100000 in
theorem wX12_377 : Cond.constantLong RX12 377 (5) ∈ TT := in7 215 (by rfl) rfl
set_option maxRecDepth 100000 in
theorem wX12_391 : Cond.constantLong RX12 391 (-9223372036854775808) ∈ TT := in7 235 (by rfl) rfl
set_option maxRecDepth 100000 in
theorem wX2_49 : Cond.constant RX2 49 (1000000) ∈ TT := in4 218 (by rfl) rfl
set_option maxRecDepth 100000 in
theorem wX5_54 : Cond.constant RX5 54 (1000000) ∈ TT := in4 145 (by rfl) rfl
set_option maxRecDepth 100000 in
theorem wX7_67 : Cond.constant RX7 67 (1000000) ∈ TT := in4 48 (by rfl) rfl
set_option maxRecDepth 100000 in
theorem mlX0_28 : Cond.methodLink RX0 28 yX0_above ∈ TT := in5 94 (by rfl) rfl
set_option maxRecDepth 100000 in
theorem mlX0_32 : Cond.methodLink RX0 32 yX0_kindOf ∈ TT := in5 81 (by rfl) rfl
set_option maxRecDepth 100000 in
theorem mlX0_35 : Cond.methodLink RX0 35 yX0_from ∈ TT := in5 84 (by rfl) rfl
set_option maxRecDepth 100000 in
theorem mlX0_39 : Cond.methodLink RX0 39 yX0_ownBody ∈ TT := in5 91 (by rfl) rfl
set_option maxRecDepth 100000 in
theorem mlX0_43 : Cond.methodLink RX0 43 yX0_bodyOf ∈ TT := in5 88 (by rfl) rfl
set_option maxRecDepth 100000 in
theorem mlX0_46 : Cond.methodLink RX0 46 yX0_perform_ ∈ TT := in5 97 (by rfl) rfl
set_option maxRecDepth 100000 in
theorem mlX0_50 : Cond.methodLink RX0 50 yX0_own ∈ TT := in5 101 (by rfl) rfl
set_option maxRecDepth 100000 in
theorem mlX1_28 : Cond.methodLink RX1 28 yX4_state ∈ TT := in3 233 (by rfl) rfl
set_option maxRecDepth 100000 in
theorem mlX1_34 : Cond.methodLink RX1 34 yX4_saidCount ∈ TT := in3 234 (by rfl) rfl
set_option maxRecDepth 100000 in
theorem mlX1_37 : Cond.methodLink RX1 37 yX1_push ∈ TT := in3 238 (by rfl) rfl
set_option maxRecDepth 100000 in
theorem mlX1_41 : Cond.methodLink RX1 41 yX1_isName ∈ TT := in4 2 (by rfl) rfl
set_option maxRecDepth 100000 in
theorem mlX1_45 : Cond.methodLink RX1 45 yX1_valueOf ∈ TT := in4 3 (by rfl) rfl
set_option maxRecDepth 100000 in
theorem mlX1_49 : Cond.methodLink RX1 49 yX1_pop ∈ TT := in4 24 (by rfl) rfl
set_option maxRecDepth 100000 in
theorem mlX1_52 : Cond.methodLink RX1 52 yX1_joined ∈ TT := in4 28 (by rfl) rfl
set_option maxRecDepth 100000 in
theorem mlX1_56 : Cond.methodLink RX1 56 yX4_saidAt ∈ TT := in4 7 (by rfl) rfl
set_option maxRecDepth 100000 in
theorem mlX1_60 : Cond.methodLink RX1 60 yX4_saidSum ∈ TT := in4 11 (by rfl) rfl
set_option maxRecDepth 100000 in
theorem mlX1_63 : Cond.methodLink RX1 63 yX4_valueA ∈ TT := in4 16 (by rfl) rfl
set_option maxRecDepth 100000 in
theorem mlX1_66 : Cond.methodLink RX1 66 yX4_valueB ∈ TT := in4 20 (by rfl) rfl
set_option maxRecDepth 100000 in
theorem mlX11_110 : Cond.methodLink RX11 110 yX11_sumOfDigits ∈ TT := in2 130 (by rfl) rfl
set_option maxRecDepth 100000 in
theorem mlX11_114 : Cond.methodLink RX11 114 yX3_beMadeOf ∈ TT := in2 133 (by rfl) rfl
set_option maxRecDepth 100000 in
theorem mlX11_118 : Cond.methodLink RX11 118 yX11_languageAt ∈ TT := in2 168 (by rfl) rfl
set_option maxRecDepth 100000 in
theorem mlX11_122 : Cond.methodLink RX11 122 yX3_howManyOrders ∈ TT := in2 172 (by rfl) rfl
set_option maxRecDepth 100000 in
theorem mlX11_126 : Cond.methodLink RX11 126 yX3_sum ∈ TT := in2 176 (by rfl) rfl
set_option maxRecDepth 100000 in
theorem mlX11_129 : Cond.methodLink RX11 129 yX3_has ∈ TT := in2 180 (by rfl) rfl
set_option maxRecDepth 100000 in
theorem mlX11_133 : Cond.methodLink RX11 133 yX3_bitsOf ∈ TT := in2 184 (by rfl) rfl
set_option maxRecDepth 100000 in
theorem mlX11_136 : Cond.methodLink RX11 136 yX3_codeOf ∈ TT := in2 185 (by rfl) rfl
set_option maxRecDepth 100000 in
theorem mlX11_139 : Cond.methodLink RX11 139 yX3_writtenLength ∈ TT := in2 193 (by rfl) rfl
set_option maxRecDepth 100000 in
theorem mlX11_142 : Cond.methodLink RX11 142 yX3_written ∈ TT := in2 197 (by rfl) rfl
set_option maxRecDepth 100000 in
theorem mlX11_146 : Cond.methodLink RX11 146 yX6_length ∈ TT := in2 205 (by rfl) rfl
set_option maxRecDepth 100000 in
theorem mlX11_149 : Cond.methodLink RX11 149 yX6_beEmpty ∈ TT := in2 209 (by rfl) rfl
set_option maxRecDepth 100000 in
theorem mlX11_152 : Cond.methodLink RX11 152 yX6_isClosed ∈ TT := in2 217 (by rfl) rfl
set_option maxRecDepth 100000 in
theorem mlX11_156 : Cond.methodLink RX11 156 yX6_push ∈ TT := in2 225 (by rfl) rfl
set_option maxRecDepth 100000 in
theorem mlX11_159 : Cond.methodLink RX11 159 yX6_orderAt ∈ TT := in2 233 (by rfl) rfl
set_option maxRecDepth 100000 in
theorem mlX11_162 : Cond.methodLink RX11 162 yX3_sizeOf ∈ TT := in2 238 (by rfl) rfl
set_option maxRecDepth 100000 in
theorem mlX11_166 : Cond.methodLink RX11 166 yX8_isShelf ∈ TT := in3 10 (by rfl) rfl
set_option maxRecDepth 100000 in
theorem mlX11_169 : Cond.methodLink RX11 169 yX8_holdsNothing ∈ TT := in3 14 (by rfl) rfl
set_option maxRecDepth 100000 in
theorem mlX11_172 : Cond.methodLink RX11 172 yX8_holdsBooleans ∈ TT := in3 23 (by rfl) rfl
set_option maxRecDepth 100000 in
theorem mlX11_175 : Cond.methodLink RX11 175 yX11_decoded ∈ TT := in3 27 (by rfl) rfl
set_option maxRecDepth 100000 in
theorem mlX11_179 : Cond.methodLink RX11 179 yX6_become ∈ TT := in3 44 (by rfl) rfl
set_option maxRecDepth 100000 in
theorem mlX11_183 : Cond.methodLink RX11 183 yX11_isNumber ∈ TT := in3 55 (by rfl) rfl
set_option maxRecDepth 100000 in
theorem mlX11_186 : Cond.methodLink RX11 186 yX4_start ∈ TT := in3 58 (by rfl) rfl
set_option maxRecDepth 100000 in
theorem mlX11_190 : Cond.methodLink RX11 190 yX4_goOn ∈ TT := in3 74 (by rfl) rfl
set_option maxRecDepth 100000 in
theorem mlX11_193 : Cond.methodLink RX11 193 yX4_tell ∈ TT := in3 94 (by rfl) rfl
set_option maxRecDepth 100000 in
theorem mlX11_197 : Cond.methodLink RX11 197 yX4_state ∈ TT := in3 99 (by rfl) rfl
set_option maxRecDepth 100000 in
theorem mlX11_200 : Cond.methodLink RX11 200 yX3_follow ∈ TT := in3 111 (by rfl) rfl
set_option maxRecDepth 100000 in
theorem mlX11_204 : Cond.methodLink RX11 204 yX9_length ∈ TT := in3 145 (by rfl) rfl
set_option maxRecDepth 100000 in
theorem mlX11_205 : Cond.methodLink RX11 205 yX9_push ∈ TT := in3 149 (by rfl) rfl
set_option maxRecDepth 100000 in
theorem mlX11_207 : Cond.methodLink RX11 207 yX9_writeTo ∈ TT := in3 157 (by rfl) rfl
set_option maxRecDepth 100000 in
theorem mlX11_211 : Cond.methodLink RX11 211 yX9_beEmpty ∈ TT := in3 213 (by rfl) rfl
set_option maxRecDepth 100000 in
theorem mlX11_212 : Cond.methodLink RX11 212 yX11_taskAt ∈ TT := in3 221 (by rfl) rfl
set_option maxRecDepth 100000 in
theorem mlX11_216 : Cond.methodLink RX11 216 yX1_input ∈ TT := in3 225 (by rfl) rfl
set_option maxRecDepth 100000 in
theorem mlX11_219 : Cond.methodLink RX11 219 yX1_isPassedBy ∈ TT := in3 229 (by rfl) rfl
set_option maxRecDepth 100000 in
theorem mlX11_223 : Cond.methodLink RX11 223 yX11_isPhase ∈ TT := in4 35 (by rfl) rfl
set_option maxRecDepth 100000 in
theorem mlX11_226 : Cond.methodLink RX11 226 yX7_look ∈ TT := in4 38 (by rfl) rfl
set_option maxRecDepth 100000 in
theorem mlX11_230 : Cond.methodLink RX11 230 yX7_hasAnswer ∈ TT := in4 75 (by rfl) rfl
set_option maxRecDepth 100000 in
theorem mlX11_233 : Cond.methodLink RX11 233 yX7_answer ∈ TT := in4 79 (by rfl) rfl
set_option maxRecDepth 100000 in
theorem mlX11_237 : Cond.methodLink RX11 237 yX7_phase ∈ TT := in4 83 (by rfl) rfl
set_option maxRecDepth 100000 in
theorem mlX11_240 : Cond.methodLink RX11 240 yX7_sum ∈ TT := in4 91 (by rfl) rfl
set_option maxRecDepth 100000 in
theorem mlX11_241 : Cond.methodLink RX11 241 yX7_answerSteps ∈ TT := in4 95 (by rfl) rfl
set_option maxRecDepth 100000 in
theorem mlX11_244 : Cond.methodLink RX11 244 yX7_factor ∈ TT := in4 99 (by rfl) rfl
set_option maxRecDepth 100000 in
theorem mlX11_247 : Cond.methodLink RX11 247 yX7_begun ∈ TT := in4 103 (by rfl) rfl
set_option maxRecDepth 100000 in
theorem mlX11_250 : Cond.methodLink RX11 250 yX7_hanging ∈ TT := in4 107 (by rfl) rfl
set_option maxRecDepth 100000 in
theorem mlX11_253 : Cond.methodLink RX11 253 yX10_push ∈ TT := in4 115 (by rfl) rfl
set_option maxRecDepth 100000 in
theorem mlX11_254 : Cond.methodLink RX11 254 yX10_length ∈ TT := in4 119 (by rfl) rfl
set_option maxRecDepth 100000 in
theorem mlX11_255 : Cond.methodLink RX11 255 yX10_beEmpty ∈ TT := in4 127 (by rfl) rfl
set_option maxRecDepth 100000 in
theorem mlX11_256 : Cond.methodLink RX11 256 yX11_isSizeAndSteps ∈ TT := in4 135 (by rfl) rfl
set_option maxRecDepth 100000 in
theorem mlX11_259 : Cond.methodLink RX11 259 yX5_hold ∈ TT := in4 138 (by rfl) rfl
set_option maxRecDepth 100000 in
theorem mlX11_263 : Cond.methodLink RX11 263 yX5_votesFor ∈ TT := in4 165 (by rfl) rfl
set_option maxRecDepth 100000 in
theorem mlX11_266 : Cond.methodLink RX11 266 yX5_most ∈ TT := in4 169 (by rfl) rfl
set_option maxRecDepth 100000 in
theorem mlX11_269 : Cond.methodLink RX11 269 yX5_all ∈ TT := in4 174 (by rfl) rfl
set_option maxRecDepth 100000 in
theorem mlX11_272 : Cond.methodLink RX11 272 yX5_open ∈ TT := in4 178 (by rfl) rfl
set_option maxRecDepth 100000 in
theorem mlX11_275 : Cond.methodLink RX11 275 yX5_findShortest ∈ TT := in4 186 (by rfl) rfl
set_option maxRecDepth 100000 in
theorem mlX11_278 : Cond.methodLink RX11 278 yX5_howManyJust ∈ TT := in4 196 (by rfl) rfl
set_option maxRecDepth 100000 in
theorem mlX11_281 : Cond.methodLink RX11 281 yX5_isShown ∈ TT := in4 200 (by rfl) rfl
set_option maxRecDepth 100000 in
theorem mlX11_284 : Cond.methodLink RX11 284 yX5_shortestOne ∈ TT := in4 204 (by rfl) rfl
set_option maxRecDepth 100000 in
theorem mlX11_287 : Cond.methodLink RX11 287 yX2_take ∈ TT := in4 212 (by rfl) rfl
set_option maxRecDepth 100000 in
theorem mlX11_291 : Cond.methodLink RX11 291 yX2_mostSteps ∈ TT := in4 228 (by rfl) rfl
set_option maxRecDepth 100000 in
theorem mlX11_294 : Cond.methodLink RX11 294 yX2_slowest ∈ TT := in4 232 (by rfl) rfl
set_option maxRecDepth 100000 in
theorem mlX11_297 : Cond.methodLink RX11 297 yX2_programs ∈ TT := in4 236 (by rfl) rfl
set_option maxRecDepth 100000 in
theorem mlX11_300 : Cond.methodLink RX11 300 yX2_ended ∈ TT := in5 0 (by rfl) rfl
set_option maxRecDepth 100000 in
theorem mlX11_303 : Cond.methodLink RX11 303 yX2_hanging ∈ TT := in5 4 (by rfl) rfl
set_option maxRecDepth 100000 in
theorem mlX11_304 : Cond.methodLink RX11 304 yX2_unsettled ∈ TT := in5 8 (by rfl) rfl
set_option maxRecDepth 100000 in
theorem mlX11_307 : Cond.methodLink RX11 307 yX2_share ∈ TT := in5 12 (by rfl) rfl
set_option maxRecDepth 100000 in
theorem mlX11_310 : Cond.methodLink RX11 310 yX2_sureBits ∈ TT := in5 16 (by rfl) rfl
set_option maxRecDepth 100000 in
theorem mlX11_313 : Cond.methodLink RX11 313 yX3_beHelped ∈ TT := in5 25 (by rfl) rfl
set_option maxRecDepth 100000 in
theorem mlX11_317 : Cond.methodLink RX11 317 yX11_isPart ∈ TT := in5 43 (by rfl) rfl
set_option maxRecDepth 100000 in
theorem mlX11_321 : Cond.methodLink RX11 321 yX3_beTaught ∈ TT := in5 47 (by rfl) rfl
set_option maxRecDepth 100000 in
theorem mlX11_326 : Cond.methodLink RX11 326 Lib.Math.max.name ∈ TT := in5 60 (by rfl) rfl
set_option maxRecDepth 100000 in
theorem mlX11_331 : Cond.methodLink RX11 331 yX0_beEmpty ∈ TT := in5 69 (by rfl) rfl
set_option maxRecDepth 100000 in
theorem mlX11_332 : Cond.methodLink RX11 332 yX11_languageOfOrder ∈ TT := in5 73 (by rfl) rfl
set_option maxRecDepth 100000 in
theorem mlX11_335 : Cond.methodLink RX11 335 yX0_perform ∈ TT := in5 77 (by rfl) rfl
set_option maxRecDepth 100000 in
theorem mlX11_339 : Cond.methodLink RX11 339 yX0_keptAt ∈ TT := in5 109 (by rfl) rfl
set_option maxRecDepth 100000 in
theorem mlX11_342 : Cond.methodLink RX11 342 yX8_holdNothing ∈ TT := in5 117 (by rfl) rfl
set_option maxRecDepth 100000 in
theorem mlX11_345 : Cond.methodLink RX11 345 yX8_holdOrder ∈ TT := in5 128 (by rfl) rfl
set_option maxRecDepth 100000 in
theorem mlX11_349 : Cond.methodLink RX11 349 yX8_holdRow ∈ TT := in5 136 (by rfl) rfl
set_option maxRecDepth 100000 in
theorem mlX11_353 : Cond.methodLink RX11 353 yX11_refusalAt ∈ TT := in5 144 (by rfl) rfl
set_option maxRecDepth 100000 in
theorem mlX11_356 : Cond.methodLink RX11 356 yX8_set ∈ TT := in5 156 (by rfl) rfl
set_option maxRecDepth 100000 in
theorem mlX11_364 : Cond.methodLink RX11 364 yX8_get ∈ TT := in3 35 (by rfl) rfl
set_option maxRecDepth 100000 in
theorem mlX11_368 : Cond.methodLink RX11 368 yX8_holdsRow ∈ TT := in5 148 (by rfl) rfl
set_option maxRecDepth 100000 in
theorem mlX11_371 : Cond.methodLink RX11 371 yX8_sort ∈ TT := in5 172 (by rfl) rfl
set_option maxRecDepth 100000 in
theorem mlX11_374 : Cond.methodLink RX11 374 yX11_hasPlaces ∈ TT := in5 152 (by rfl) rfl
set_option maxRecDepth 100000 in
theorem mlX11_378 : Cond.methodLink RX11 378 yX8_copy ∈ TT := in5 173 (by rfl) rfl
set_option maxRecDepth 100000 in
theorem mlX11_382 : Cond.methodLink RX11 382 yX8_heldOrder ∈ TT := in5 182 (by rfl) rfl
set_option maxRecDepth 100000 in
theorem mlX11_385 : Cond.methodLink RX11 385 yX0_kindOf ∈ TT := in5 186 (by rfl) rfl
set_option maxRecDepth 100000 in
theorem mlX11_388 : Cond.methodLink RX11 388 yX0_isUnder ∈ TT := in5 187 (by rfl) rfl
set_option maxRecDepth 100000 in
theorem mlX11_391 : Cond.methodLink RX11 391 yX0_began ∈ TT := in5 194 (by rfl) rfl
set_option maxRecDepth 100000 in
theorem mlX11_394 : Cond.methodLink RX11 394 yX8_length ∈ TT := in3 31 (by rfl) rfl
set_option maxRecDepth 100000 in
theorem mlX11_396 : Cond.methodLink RX11 396 yX3_orderWith ∈ TT := in3 39 (by rfl) rfl
set_option maxRecDepth 100000 in
theorem mlX12_103 : Cond.methodLink RX12 103 yX12_ordersOf ∈ TT := in6 173 (by rfl) rfl
set_option maxRecDepth 100000 in
theorem mlX12_109 : Cond.methodLink RX12 109 yX12_within ∈ TT := in6 166 (by rfl) rfl
set_option maxRecDepth 100000 in
theorem mlX12_113 : Cond.methodLink RX12 113 yX12_giveCodes ∈ TT := in6 169 (by rfl) rfl
set_option maxRecDepth 100000 in
theorem mlX12_117 : Cond.methodLink RX12 117 yX12_isLanguage ∈ TT := in6 181 (by rfl) rfl
set_option maxRecDepth 100000 in
theorem mlX12_121 : Cond.methodLink RX12 121 yX12_sumOf ∈ TT := in6 185 (by rfl) rfl
set_option maxRecDepth 100000 in
theorem mlX12_124 : Cond.methodLink RX12 124 yX12_hasOrder ∈ TT := in6 189 (by rfl) rfl
set_option maxRecDepth 100000 in
theorem mlX12_133 : Cond.methodLink RX12 133 yX12_isProgram ∈ TT := in6 214 (by rfl) rfl
set_option maxRecDepth 100000 in
theorem mlX12_136 : Cond.methodLink RX12 136 yX12_sizeIn ∈ TT := in6 218 (by rfl) rfl
set_option maxRecDepth 100000 in
theorem mlX12_162 : Cond.methodLink RX12 162 yX12_cameSo ∈ TT := in7 8 (by rfl) rfl
set_option maxRecDepth 100000 in
theorem mlX12_166 : Cond.methodLink RX12 166 yX12_write ∈ TT := in6 235 (by rfl) rfl
set_option maxRecDepth 100000 in
theorem mlX12_170 : Cond.methodLink RX12 170 yX12_start ∈ TT := in7 0 (by rfl) rfl
set_option maxRecDepth 100000 in
theorem mlX12_173 : Cond.methodLink RX12 173 yX12_step ∈ TT := in7 4 (by rfl) rfl
set_option maxRecDepth 100000 in
theorem mlX12_179 : Cond.methodLink RX12 179 yX12_packed ∈ TT := in6 227 (by rfl) rfl
set_option maxRecDepth 100000 in
theorem mlX12_183 : Cond.methodLink RX12 183 yX12_runFor ∈ TT := in6 231 (by rfl) rfl
set_option maxRecDepth 100000 in
theorem mlX12_199 : Cond.methodLink RX12 199 yX12_listFrom ∈ TT := in7 24 (by rfl) rfl
set_option maxRecDepth 100000 in
theorem mlX12_203 : Cond.methodLink RX12 203 yX12_listAll ∈ TT := in7 20 (by rfl) rfl
set_option maxRecDepth 100000 in
theorem mlX12_207 : Cond.methodLink RX12 207 yX12_lookAt ∈ TT := in7 28 (by rfl) rfl
set_option maxRecDepth 100000 in
theorem mlX12_228 : Cond.methodLink RX12 228 yX12_byteAt ∈ TT := in7 57 (by rfl) rfl
set_option maxRecDepth 100000 in
theorem mlX12_231 : Cond.methodLink RX12 231 yX12_both ∈ TT := in7 49 (by rfl) rfl
set_option maxRecDepth 100000 in
theorem mlX12_234 : Cond.methodLink RX12 234 yX12_takes ∈ TT := in7 65 (by rfl) rfl
set_option maxRecDepth 100000 in
theorem mlX12_237 : Cond.methodLink RX12 237 yX12_turned ∈ TT := in7 53 (by rfl) rfl
set_option maxRecDepth 100000 in
theorem mlX12_243 : Cond.methodLink RX12 243 yX12_wrong ∈ TT := in7 61 (by rfl) rfl
set_option maxRecDepth 100000 in
theorem mlX12_246 : Cond.methodLink RX12 246 yX12_either ∈ TT := in7 45 (by rfl) rfl
set_option maxRecDepth 100000 in
theorem mlX12_249 : Cond.methodLink RX12 249 yX12_sums ∈ TT := in7 69 (by rfl) rfl
set_option maxRecDepth 100000 in
theorem mlX12_252 : Cond.methodLink RX12 252 yX12_product ∈ TT := in7 73 (by rfl) rfl
set_option maxRecDepth 100000 in
theorem mlX12_255 : Cond.methodLink RX12 255 yX12_one ∈ TT := in7 77 (by rfl) rfl
set_option maxRecDepth 100000 in
theorem mlX12_258 : Cond.methodLink RX12 258 yX12_named ∈ TT := in7 81 (by rfl) rfl
set_option maxRecDepth 100000 in
theorem mlX12_264 : Cond.methodLink RX12 264 yX12_workOut ∈ TT := in7 41 (by rfl) rfl
set_option maxRecDepth 100000 in
theorem mlX12_268 : Cond.methodLink RX12 268 yX12_isTask ∈ TT := in7 89 (by rfl) rfl
set_option maxRecDepth 100000 in
theorem mlX12_271 : Cond.methodLink RX12 271 yX12_isPassed ∈ TT := in7 93 (by rfl) rfl
set_option maxRecDepth 100000 in
theorem mlX12_298 : Cond.methodLink RX12 298 yX12_find ∈ TT := in7 102 (by rfl) rfl
set_option maxRecDepth 100000 in
theorem mlX12_321 : Cond.methodLink RX12 321 yX12_isBound ∈ TT := in7 122 (by rfl) rfl
set_option maxRecDepth 100000 in
theorem mlX12_326 : Cond.methodLink RX12 326 yX12_alike ∈ TT := in7 128 (by rfl) rfl
set_option maxRecDepth 100000 in
theorem mlX12_331 : Cond.methodLink RX12 331 yX12_sureBits ∈ TT := in7 141 (by rfl) rfl
set_option maxRecDepth 100000 in
theorem mlX12_335 : Cond.methodLink RX12 335 yX12_copy ∈ TT := in7 148 (by rfl) rfl
set_option maxRecDepth 100000 in
theorem mlX12_344 : Cond.methodLink RX12 344 yX12_ranBody ∈ TT := in7 185 (by rfl) rfl
set_option maxRecDepth 100000 in
theorem mlX12_350 : Cond.methodLink RX12 350 yX12_above ∈ TT := in7 189 (by rfl) rfl
set_option maxRecDepth 100000 in
theorem mlX12_353 : Cond.methodLink RX12 353 yX12_stepsAct ∈ TT := in7 181 (by rfl) rfl
set_option maxRecDepth 100000 in
theorem mlX12_362 : Cond.methodLink RX12 362 yX12_costs ∈ TT := in7 192 (by rfl) rfl
set_option maxRecDepth 100000 in
theorem mlX12_365 : Cond.methodLink RX12 365 yX12_goes ∈ TT := in7 196 (by rfl) rfl
set_option maxRecDepth 100000 in
theorem mlX12_368 : Cond.methodLink RX12 368 yX12_tells ∈ TT := in7 200 (by rfl) rfl
set_option maxRecDepth 100000 in
theorem mlX12_371 : Cond.methodLink RX12 371 yX12_isOrder ∈ TT := in7 174 (by rfl) rfl
set_option maxRecDepth 100000 in
theorem mlX12_374 : Cond.methodLink RX12 374 yX12_kindOf ∈ TT := in7 178 (by rfl) rfl
set_option maxRecDepth 100000 in
theorem mlX12_379 : Cond.methodLink RX12 379 yX12_isShelf ∈ TT := in7 212 (by rfl) rfl
set_option maxRecDepth 100000 in
theorem mlX12_382 : Cond.methodLink RX12 382 yX12_refusal ∈ TT := in7 224 (by rfl) rfl
set_option maxRecDepth 100000 in
theorem mlX12_385 : Cond.methodLink RX12 385 yX12_asSort ∈ TT := in7 228 (by rfl) rfl
set_option maxRecDepth 100000 in
theorem mlX2_40 : Cond.methodLink RX2 40 yX6_beEmpty ∈ TT := in4 216 (by rfl) rfl
set_option maxRecDepth 100000 in
theorem mlX2_43 : Cond.methodLink RX2 43 yX3_follow ∈ TT := in4 217 (by rfl) rfl
set_option maxRecDepth 100000 in
theorem mlX2_50 : Cond.methodLink RX2 50 yX4_start ∈ TT := in4 219 (by rfl) rfl
set_option maxRecDepth 100000 in
theorem mlX2_56 : Cond.methodLink RX2 56 yX4_goOn ∈ TT := in4 220 (by rfl) rfl
set_option maxRecDepth 100000 in
theorem mlX2_60 : Cond.methodLink RX2 60 yX2_enter ∈ TT := in4 221 (by rfl) rfl
set_option maxRecDepth 100000 in
theorem mlX2_64 : Cond.methodLink RX2 64 yX4_state ∈ TT := in4 225 (by rfl) rfl
set_option maxRecDepth 100000 in
theorem mlX2_68 : Cond.methodLink RX2 68 yX4_steps ∈ TT := in4 226 (by rfl) rfl
set_option maxRecDepth 100000 in
theorem mlX2_71 : Cond.methodLink RX2 71 yX6_become ∈ TT := in4 227 (by rfl) rfl
set_option maxRecDepth 100000 in
theorem mlX2_75 : Cond.methodLink RX2 75 Lib.Math.min.name ∈ TT := in5 20 (by rfl) rfl
set_option maxRecDepth 100000 in
theorem mlX3_36 : Cond.methodLink RX3 36 yX3_settle ∈ TT := in2 137 (by rfl) rfl
set_option maxRecDepth 100000 in
theorem mlX3_39 : Cond.methodLink RX3 39 yX3_beLike ∈ TT := in5 29 (by rfl) rfl
set_option maxRecDepth 100000 in
theorem mlX3_43 : Cond.methodLink RX3 43 yX6_holds ∈ TT := in5 34 (by rfl) rfl
set_option maxRecDepth 100000 in
theorem mlX3_49 : Cond.methodLink RX3 49 yX3_sum ∈ TT := in5 38 (by rfl) rfl
set_option maxRecDepth 100000 in
theorem mlX3_53 : Cond.methodLink RX3 53 yX6_orderAt ∈ TT := in3 4 (by rfl) rfl
set_option maxRecDepth 100000 in
theorem wlX3_57 : Cond.methodLink RX3 57 arraycopyName ∈ TT := in5 33 (by rfl) rfl
set_option maxRecDepth 100000 in
theorem mlX3_63 : Cond.methodLink RX3 63 yX3_sortByBits ∈ TT := in2 141 (by rfl) rfl
set_option maxRecDepth 100000 in
theorem mlX3_66 : Cond.methodLink RX3 66 yX3_giveCodes ∈ TT := in2 145 (by rfl) rfl
set_option maxRecDepth 100000 in
theorem mlX3_69 : Cond.methodLink RX3 69 yX3_countFewest ∈ TT := in2 153 (by rfl) rfl
set_option maxRecDepth 100000 in
theorem mlX3_72 : Cond.methodLink RX3 72 yX3_bitsOf ∈ TT := in2 149 (by rfl) rfl
set_option maxRecDepth 100000 in
theorem mlX3_75 : Cond.methodLink RX3 75 yX3_fewestFor ∈ TT := in2 157 (by rfl) rfl
set_option maxRecDepth 100000 in
theorem mlX3_78 : Cond.methodLink RX3 78 Lib.Math.min.name ∈ TT := in2 161 (by rfl) rfl
set_option maxRecDepth 100000 in
theorem mlX3_84 : Cond.methodLink RX3 84 yX3_codeOf ∈ TT := in3 43 (by rfl) rfl
set_option maxRecDepth 100000 in
theorem mlX3_87 : Cond.methodLink RX3 87 yX6_isClosed ∈ TT := in3 2 (by rfl) rfl
set_option maxRecDepth 100000 in
theorem mlX3_91 : Cond.methodLink RX3 91 yX6_length ∈ TT := in3 3 (by rfl) rfl
set_option maxRecDepth 100000 in
theorem mlX3_94 : Cond.methodLink RX3 94 yX3_has ∈ TT := in3 5 (by rfl) rfl
set_option maxRecDepth 100000 in
theorem mlX3_97 : Cond.methodLink RX3 97 yX3_sizeOf ∈ TT := in3 115 (by rfl) rfl
set_option maxRecDepth 100000 in
theorem mlX3_101 : Cond.methodLink RX3 101 yX3_becomeNextOfSize ∈ TT := in3 116 (by rfl) rfl
set_option maxRecDepth 100000 in
theorem mlX3_105 : Cond.methodLink RX3 105 yX6_beEmpty ∈ TT := in3 140 (by rfl) rfl
set_option maxRecDepth 100000 in
theorem mlX3_108 : Cond.methodLink RX3 108 yX3_fill ∈ TT := in3 136 (by rfl) rfl
set_option maxRecDepth 100000 in
theorem mlX3_112 : Cond.methodLink RX3 112 yX3_rankOf ∈ TT := in3 120 (by rfl) rfl
set_option maxRecDepth 100000 in
theorem mlX3_115 : Cond.methodLink RX3 115 yX3_firstThatFits ∈ TT := in3 124 (by rfl) rfl
set_option maxRecDepth 100000 in
theorem mlX3_119 : Cond.methodLink RX3 119 yX6_cut ∈ TT := in3 131 (by rfl) rfl
set_option maxRecDepth 100000 in
theorem mlX3_123 : Cond.methodLink RX3 123 yX6_push ∈ TT := in3 135 (by rfl) rfl
set_option maxRecDepth 100000 in
theorem mlX3_126 : Cond.methodLink RX3 126 Lib.Math.max.name ∈ TT := in3 128 (by rfl) rfl
set_option maxRecDepth 100000 in
theorem mlX4_48 : Cond.methodLink RX4 48 yX6_length ∈ TT := in3 62 (by rfl) rfl
set_option maxRecDepth 100000 in
theorem mlX4_53 : Cond.methodLink RX4 53 yX6_orderAt ∈ TT := in3 63 (by rfl) rfl
set_option maxRecDepth 100000 in
theorem mlX4_57 : Cond.methodLink RX4 57 yX4_writeOut ∈ TT := in3 64 (by rfl) rfl
set_option maxRecDepth 100000 in
theorem mlX4_61 : Cond.methodLink RX4 61 yX4_wasHereBefore ∈ TT := in3 70 (by rfl) rfl
set_option maxRecDepth 100000 in
theorem mlX4_65 : Cond.methodLink RX4 65 yX3_writtenLength ∈ TT := in3 68 (by rfl) rfl
set_option maxRecDepth 100000 in
theorem mlX4_68 : Cond.methodLink RX4 68 yX3_written ∈ TT := in3 69 (by rfl) rfl
set_option maxRecDepth 100000 in
theorem mlX4_72 : Cond.methodLink RX4 72 yX4_doOrder ∈ TT := in3 78 (by rfl) rfl
set_option maxRecDepth 100000 in
theorem mlX4_76 : Cond.methodLink RX4 76 yX4_print ∈ TT := in3 82 (by rfl) rfl
set_option maxRecDepth 100000 in
theorem mlX4_79 : Cond.methodLink RX4 79 yX4_swap ∈ TT := in3 86 (by rfl) rfl
set_option maxRecDepth 100000 in
theorem mlX4_82 : Cond.methodLink RX4 82 yX4_goBack ∈ TT := in3 90 (by rfl) rfl
set_option maxRecDepth 100000 in
theorem mlX4_85 : Cond.methodLink RX4 85 yX4_saidAt ∈ TT := in4 15 (by rfl) rfl
set_option maxRecDepth 100000 in
theorem mlX4_88 : Cond.methodLink RX4 88 yX10_length ∈ TT := in4 156 (by rfl) rfl
set_option maxRecDepth 100000 in
theorem mlX4_91 : Cond.methodLink RX4 91 yX10_numberAt ∈ TT := in4 157 (by rfl) rfl
set_option maxRecDepth 100000 in
theorem mlX4_94 : Cond.methodLink RX4 94 yX4_likeTold ∈ TT := in4 194 (by rfl) rfl
set_option maxRecDepth 100000 in
theorem wlX4_98 : Cond.methodLink RX4 98 arraycopyName ∈ TT := in3 98 (by rfl) rfl
set_option maxRecDepth 100000 in
theorem mlX5_39 : Cond.methodLink RX5 39 yJ7_fill_53178 ∈ TT := in4 142 (by rfl) rfl
set_option maxRecDepth 100000 in
theorem mlX5_45 : Cond.methodLink RX5 45 yX6_beEmpty ∈ TT := in4 143 (by rfl) rfl
set_option maxRecDepth 100000 in
theorem mlX5_48 : Cond.methodLink RX5 48 yX3_follow ∈ TT := in4 144 (by rfl) rfl
set_option maxRecDepth 100000 in
theorem mlX5_55 : Cond.methodLink RX5 55 yX4_start ∈ TT := in4 146 (by rfl) rfl
set_option maxRecDepth 100000 in
theorem mlX5_61 : Cond.methodLink RX5 61 yX4_goOn ∈ TT := in4 147 (by rfl) rfl
set_option maxRecDepth 100000 in
theorem mlX5_65 : Cond.methodLink RX5 65 yX5_takeVote ∈ TT := in4 148 (by rfl) rfl
set_option maxRecDepth 100000 in
theorem mlX5_69 : Cond.methodLink RX5 69 yX4_likeTold ∈ TT := in4 152 (by rfl) rfl
set_option maxRecDepth 100000 in
theorem mlX5_73 : Cond.methodLink RX5 73 yX10_length ∈ TT := in4 161 (by rfl) rfl
set_option maxRecDepth 100000 in
theorem mlX5_79 : Cond.methodLink RX5 79 yX4_saidCount ∈ TT := in4 162 (by rfl) rfl
set_option maxRecDepth 100000 in
theorem mlX5_82 : Cond.methodLink RX5 82 yX4_saidAt ∈ TT := in4 163 (by rfl) rfl
set_option maxRecDepth 100000 in
theorem mlX5_86 : Cond.methodLink RX5 86 yX4_state ∈ TT := in4 164 (by rfl) rfl
set_option maxRecDepth 100000 in
theorem mlX5_89 : Cond.methodLink RX5 89 yX4_saidJust ∈ TT := in4 190 (by rfl) rfl
set_option maxRecDepth 100000 in
theorem mlX5_93 : Cond.methodLink RX5 93 yX6_become ∈ TT := in4 195 (by rfl) rfl
set_option maxRecDepth 100000 in
theorem mlX5_97 : Cond.methodLink RX5 97 yX5_votesFor ∈ TT := in4 173 (by rfl) rfl
set_option maxRecDepth 100000 in
theorem mlX6_19 : Cond.methodLink RX6 19 yX6_orderAt ∈ TT := in2 221 (by rfl) rfl
set_option maxRecDepth 100000 in
theorem wlX6_23 : Cond.methodLink RX6 23 arraycopyName ∈ TT := in3 48 (by rfl) rfl
set_option maxRecDepth 100000 in
theorem mlX7_44 : Cond.methodLink RX7 44 yX7_findAnswer ∈ TT := in4 42 (by rfl) rfl
set_option maxRecDepth 100000 in
theorem mlX7_48 : Cond.methodLink RX7 48 yX1_input ∈ TT := in4 49 (by rfl) rfl
set_option maxRecDepth 100000 in
theorem mlX7_54 : Cond.methodLink RX7 54 yX7_addUp ∈ TT := in4 64 (by rfl) rfl
set_option maxRecDepth 100000 in
theorem mlX7_58 : Cond.methodLink RX7 58 yX6_beEmpty ∈ TT := in4 46 (by rfl) rfl
set_option maxRecDepth 100000 in
theorem mlX7_61 : Cond.methodLink RX7 61 yX3_follow ∈ TT := in4 47 (by rfl) rfl
set_option maxRecDepth 100000 in
theorem mlX7_68 : Cond.methodLink RX7 68 yX4_start ∈ TT := in4 50 (by rfl) rfl
set_option maxRecDepth 100000 in
theorem mlX7_74 : Cond.methodLink RX7 74 yX7_stepsIn ∈ TT := in4 51 (by rfl) rfl
set_option maxRecDepth 100000 in
theorem mlX7_78 : Cond.methodLink RX7 78 yX4_goOn ∈ TT := in4 54 (by rfl) rfl
set_option maxRecDepth 100000 in
theorem mlX7_82 : Cond.methodLink RX7 82 yX1_isPassedBy ∈ TT := in4 55 (by rfl) rfl
set_option maxRecDepth 100000 in
theorem mlX7_86 : Cond.methodLink RX7 86 yX6_become ∈ TT := in4 56 (by rfl) rfl
set_option maxRecDepth 100000 in
theorem mlX7_90 : Cond.methodLink RX7 90 yX4_steps ∈ TT := in4 57 (by rfl) rfl
set_option maxRecDepth 100000 in
theorem mlX7_93 : Cond.methodLink RX7 93 yX7_phaseOf ∈ TT := in4 61 (by rfl) rfl
set_option maxRecDepth 100000 in
theorem mlX7_96 : Cond.methodLink RX7 96 yX4_state ∈ TT := in4 68 (by rfl) rfl
set_option maxRecDepth 100000 in
theorem mlX7_99 : Cond.methodLink RX7 99 yX7_isAnswer ∈ TT := in4 69 (by rfl) rfl
set_option maxRecDepth 100000 in
theorem mlX7_103 : Cond.methodLink RX7 103 yX6_length ∈ TT := in4 73 (by rfl) rfl
set_option maxRecDepth 100000 in
theorem mlX7_106 : Cond.methodLink RX7 106 yX6_orderAt ∈ TT := in4 74 (by rfl) rfl
set_option maxRecDepth 100000 in
theorem mlX8_30 : Cond.methodLink RX8 30 yX8_isShelf ∈ TT := in3 22 (by rfl) rfl
set_option maxRecDepth 100000 in
theorem mlX8_34 : Cond.methodLink RX8 34 yX8_sort ∈ TT := in3 18 (by rfl) rfl
set_option maxRecDepth 100000 in
theorem mlX8_38 : Cond.methodLink RX8 38 yX8_become ∈ TT := in5 121 (by rfl) rfl
set_option maxRecDepth 100000 in
theorem mlX8_42 : Cond.methodLink RX8 42 yJ7_fill_d0a16 ∈ TT := in5 125 (by rfl) rfl
set_option maxRecDepth 100000 in
theorem mlX8_45 : Cond.methodLink RX8 45 yX8_held ∈ TT := in5 160 (by rfl) rfl
set_option maxRecDepth 100000 in
theorem wlX8_49 : Cond.methodLink RX8 49 arraycopyName ∈ TT := in5 177 (by rfl) rfl
set_option maxRecDepth 100000 in
theorem mlX9_23 : Cond.methodLink RX9 23 yX1_begin ∈ TT := in3 161 (by rfl) rfl
set_option maxRecDepth 100000 in
theorem mlX9_29 : Cond.methodLink RX9 29 yX9_readAny ∈ TT := in3 165 (by rfl) rfl
set_option maxRecDepth 100000 in
theorem mlX9_33 : Cond.methodLink RX9 33 yX9_fail ∈ TT := in3 199 (by rfl) rfl
set_option maxRecDepth 100000 in
theorem mlX9_36 : Cond.methodLink RX9 36 yX9_here ∈ TT := in3 173 (by rfl) rfl
set_option maxRecDepth 100000 in
theorem mlX9_40 : Cond.methodLink RX9 40 yX9_readOne ∈ TT := in3 169 (by rfl) rfl
set_option maxRecDepth 100000 in
theorem mlX9_43 : Cond.methodLink RX9 43 yX9_goesOnWith ∈ TT := in3 209 (by rfl) rfl
set_option maxRecDepth 100000 in
theorem mlX9_47 : Cond.methodLink RX9 47 yX1_write ∈ TT := in3 192 (by rfl) rfl
set_option maxRecDepth 100000 in
theorem mlX9_50 : Cond.methodLink RX9 50 yX9_writeIf ∈ TT := in3 206 (by rfl) rfl
set_option maxRecDepth 100000 in
theorem mlX9_54 : Cond.methodLink RX9 54 yX9_readCompared ∈ TT := in3 177 (by rfl) rfl
set_option maxRecDepth 100000 in
theorem mlX9_58 : Cond.methodLink RX9 58 yX9_readSum ∈ TT := in3 181 (by rfl) rfl
set_option maxRecDepth 100000 in
theorem mlX9_61 : Cond.methodLink RX9 61 yX9_readOperand ∈ TT := in3 185 (by rfl) rfl
set_option maxRecDepth 100000 in
theorem mlX9_64 : Cond.methodLink RX9 64 yX9_isSign ∈ TT := in3 203 (by rfl) rfl
set_option maxRecDepth 100000 in
theorem mlX9_68 : Cond.methodLink RX9 68 yX9_isDigit ∈ TT := in3 189 (by rfl) rfl
set_option maxRecDepth 100000 in
theorem mlX9_71 : Cond.methodLink RX9 71 yX1_isName ∈ TT := in3 196 (by rfl) rfl
abbrev YJ7_fill_53178 : MD := (RJ7, cJ7_fill_53178, 4, none, false)
abbrev YJ7_fill_d0a16 : MD := (RJ7, cJ7_fill_d0a16, 5, none, false)
abbrev YX6_length : MD := (RX6, cX6_length, 1, some .int, false)
abbrev YX6_orderAt : MD := (RX6, cX6_orderAt, 2, some .int, false)
abbrev YX6_isClosed : MD := (RX6, cX6_isClosed, 1, some .boolean, false)
abbrev YX6_holds : MD := (RX6, cX6_holds, 3, some .boolean, false)
abbrev YX6_push : MD := (RX6, cX6_push, 2, some .boolean, false)
abbrev YX6_cut : MD := (RX6, cX6_cut, 2, none, false)
abbrev YX6_beEmpty : MD := (RX6, cX6_beEmpty, 1, none, false)
abbrev YX6_become : MD := (RX6, cX6_become, 2, none, false)
abbrev YX10_length : MD := (RX10, cX10_length, 1, some .int, false)
abbrev YX10_numberAt : MD := (RX10, cX10_numberAt, 2, some .int, false)
abbrev YX10_push : MD := (RX10, cX10_push, 2, some .boolean, false)
abbrev YX10_beEmpty : MD := (RX10, cX10_beEmpty, 1, none, false)
abbrev YX0_kindOf : MD := (RX0, cX0_kindOf, 1, some .int, false)
abbrev YX0_above : MD := (RX0, cX0_above, 1, some .int, false)
abbrev YX0_isUnder : MD := (RX0, cX0_isUnder, 4, some .boolean, false)
abbrev YX0_began : MD := (RX0, cX0_began, 1, some .int, false)
abbrev YX0_keptAt : MD := (RX0, cX0_keptAt, 2, some .int, false)
abbrev YX0_beEmpty : MD := (RX0, cX0_beEmpty, 1, none, false)
abbrev YX0_ownBody : MD := (RX0, cX0_ownBody, 2, some .int, false)
abbrev YX0_bodyOf : MD := (RX0, cX0_bodyOf, 5, some .int, false)
abbrev YX0_own : MD := (RX0, cX0_own, 4, some .int, false)
abbrev YX0_perform_ : MD := (RX0, cX0_perform_, 4, some .int, false)
abbrev YX0_from : MD := (RX0, cX0_from, 6, some .int, false)
abbrev YX0_perform : MD := (RX0, cX0_perform, 5, some .int, false)
abbrev YX8_isShelf : MD := (RX8, cX8_isShelf, 2, some .boolean, false)
abbrev YX8_sort : MD := (RX8, cX8_sort, 2, some .int, false)
abbrev YX8_holdsNothing : MD := (RX8, cX8_holdsNothing, 2, some .boolean, false)
abbrev YX8_holdsRow : MD := (RX8, cX8_holdsRow, 2, some .boolean, false)
abbrev YX8_holdsBooleans : MD := (RX8, cX8_holdsBooleans, 2, some .boolean, false)
abbrev YX8_heldOrder : MD := (RX8, cX8_heldOrder, 2, some .int, false)
abbrev YX8_length : MD := (RX8, cX8_length, 2, some .int, false)
abbrev YX8_become : MD := (RX8, cX8_become, 5, none, false)
abbrev YX8_holdNothing : MD := (RX8, cX8_holdNothing, 2, none, false)
abbrev YX8_holdOrder : MD := (RX8, cX8_holdOrder, 3, none, false)
abbrev YX8_holdRow : MD := (RX8, cX8_holdRow, 4, none, false)
abbrev YX8_get : MD := (RX8, cX8_get, 3, some .long, false)
abbrev YX8_held : MD := (RX8, cX8_held, 3, some .long, false)
abbrev YX8_set : MD := (RX8, cX8_set, 5, none, false)
abbrev YX8_copy : MD := (RX8, cX8_copy, 6, none, false)
abbrev YX3_sortByBits : MD := (RX3, cX3_sortByBits, 4, none, false)
abbrev YX3_bitsOf : MD := (RX3, cX3_bitsOf, 2, some .int, false)
abbrev YX3_giveCodes : MD := (RX3, cX3_giveCodes, 5, none, false)
abbrev YX3_fewestFor : MD := (RX3, cX3_fewestFor, 2, some .int, false)
abbrev YX3_countFewest : MD := (RX3, cX3_countFewest, 3, none, false)
abbrev YX3_settle : MD := (RX3, cX3_settle, 1, none, false)
abbrev YX3_beMadeOf : MD := (RX3, cX3_beMadeOf, 4, none, false)
abbrev YX3_beLike : MD := (RX3, cX3_beLike, 3, none, false)
abbrev YX3_sum : MD := (RX3, cX3_sum, 3, some .int, false)
abbrev YX3_beHelped : MD := (RX3, cX3_beHelped, 4, none, false)
abbrev YX3_beTaught : MD := (RX3, cX3_beTaught, 8, none, false)
abbrev YX3_howManyOrders : MD := (RX3, cX3_howManyOrders, 1, some .int, false)
abbrev YX3_has : MD := (RX3, cX3_has, 2, some .boolean, false)
abbrev YX3_codeOf : MD := (RX3, cX3_codeOf, 2, some .int, false)
abbrev YX3_orderWith : MD := (RX3, cX3_orderWith, 4, some .int, false)
abbrev YX3_writtenLength : MD := (RX3, cX3_writtenLength, 3, some .int, false)
abbrev YX3_written : MD := (RX3, cX3_written, 4, some .int, false)
abbrev YX3_sizeOf : MD := (RX3, cX3_sizeOf, 4, some .int, false)
abbrev YX3_rankOf : MD := (RX3, cX3_rankOf, 3, some .int, false)
abbrev YX3_firstThatFits : MD := (RX3, cX3_firstThatFits, 8, some .int, false)
abbrev YX3_fill : MD := (RX3, cX3_fill, 6, none, false)
abbrev YX3_becomeNextOfSize : MD := (RX3, cX3_becomeNextOfSize, 7, some .boolean, false)
abbrev YX3_follow : MD := (RX3, cX3_follow, 5, some .int, false)
abbrev YX4_writeOut : MD := (RX4, cX4_writeOut, 4, none, false)
abbrev YX4_wasHereBefore : MD := (RX4, cX4_wasHereBefore, 3, some .boolean, false)
abbrev YX4_start : MD := (RX4, cX4_start, 5, none, false)
abbrev YX4_print : MD := (RX4, cX4_print, 1, none, false)
abbrev YX4_swap : MD := (RX4, cX4_swap, 2, none, false)
abbrev YX4_goBack : MD := (RX4, cX4_goBack, 1, none, false)
abbrev YX4_doOrder : MD := (RX4, cX4_doOrder, 2, none, false)
abbrev YX4_goOn : MD := (RX4, cX4_goOn, 2, none, false)
abbrev YX4_state : MD := (RX4, cX4_state, 1, some .int, false)
abbrev YX4_steps : MD := (RX4, cX4_steps, 1, some .int, false)
abbrev YX4_valueA : MD := (RX4, cX4_valueA, 1, some .int, false)
abbrev YX4_valueB : MD := (RX4, cX4_valueB, 1, some .int, false)
abbrev YX4_saidCount : MD := (RX4, cX4_saidCount, 1, some .int, false)
abbrev YX4_saidAt : MD := (RX4, cX4_saidAt, 2, some .int, false)
abbrev YX4_saidSum : MD := (RX4, cX4_saidSum, 3, some .int, false)
abbrev YX4_likeTold : MD := (RX4, cX4_likeTold, 3, some .int, false)
abbrev YX4_saidJust : MD := (RX4, cX4_saidJust, 2, some .boolean, false)
abbrev YX4_tell : MD := (RX4, cX4_tell, 2, none, false)
abbrev YX1_begin : MD := (RX1, cX1_begin, 2, none, false)
abbrev YX1_write : MD := (RX1, cX1_write, 2, none, false)
abbrev YX1_input : MD := (RX1, cX1_input, 1, some .int, false)
abbrev YX1_isName : MD := (RX1, cX1_isName, 1, some .boolean, false)
abbrev YX1_push : MD := (RX1, cX1_push, 2, none, false)
abbrev YX1_valueOf : MD := (RX1, cX1_valueOf, 3, some .int, false)
abbrev YX1_pop : MD := (RX1, cX1_pop, 1, some .int, false)
abbrev YX1_joined : MD := (RX1, cX1_joined, 3, some .int, false)
abbrev YX1_isPassedBy : MD := (RX1, cX1_isPassedBy, 5, some .boolean, false)
abbrev YX9_length : MD := (RX9, cX9_length, 1, some .int, false)
abbrev YX9_push : MD := (RX9, cX9_push, 2, none, false)
abbrev YX9_beEmpty : MD := (RX9, cX9_beEmpty, 1, none, false)
abbrev YX9_here : MD := (RX9, cX9_here, 1, some .int, false)
abbrev YX9_goesOnWith : MD := (RX9, cX9_goesOnWith, 2, some .boolean, false)
abbrev YX9_writeIf : MD := (RX9, cX9_writeIf, 3, none, false)
abbrev YX9_readAny : MD := (RX9, cX9_readAny, 5, none, false)
abbrev YX9_isDigit : MD := (RX9, cX9_isDigit, 1, some .boolean, false)
abbrev YX9_fail : MD := (RX9, cX9_fail, 1, none, false)
abbrev YX9_readOperand : MD := (RX9, cX9_readOperand, 4, none, false)
abbrev YX9_isSign : MD := (RX9, cX9_isSign, 1, some .boolean, false)
abbrev YX9_readSum : MD := (RX9, cX9_readSum, 6, none, false)
abbrev YX9_readCompared : MD := (RX9, cX9_readCompared, 3, none, false)
abbrev YX9_readOne : MD := (RX9, cX9_readOne, 3, none, false)
abbrev YX9_writeTo : MD := (RX9, cX9_writeTo, 3, some .int, false)
abbrev YX2_enter : MD := (RX2, cX2_enter, 3, none, false)
abbrev YX2_take : MD := (RX2, cX2_take, 8, none, false)
abbrev YX2_programs : MD := (RX2, cX2_programs, 1, some .int, false)
abbrev YX2_ended : MD := (RX2, cX2_ended, 1, some .int, false)
abbrev YX2_hanging : MD := (RX2, cX2_hanging, 1, some .int, false)
abbrev YX2_unsettled : MD := (RX2, cX2_unsettled, 1, some .int, false)
abbrev YX2_mostSteps : MD := (RX2, cX2_mostSteps, 1, some .int, false)
abbrev YX2_slowest : MD := (RX2, cX2_slowest, 1, some (.object "AllPrograms$Program"), false)
abbrev YX2_share : MD := (RX2, cX2_share, 1, some .int, false)
abbrev YX2_sureBits : MD := (RX2, cX2_sureBits, 6, some .int, false)
abbrev YX5_takeVote : MD := (RX5, cX5_takeVote, 6, none, false)
abbrev YX5_hold : MD := (RX5, cX5_hold, 8, none, false)
abbrev YX5_findShortest : MD := (RX5, cX5_findShortest, 8, none, false)
abbrev YX5_votesFor : MD := (RX5, cX5_votesFor, 2, some .int, false)
abbrev YX5_most : MD := (RX5, cX5_most, 3, some .int, false)
abbrev YX5_all : MD := (RX5, cX5_all, 1, some .int, false)
abbrev YX5_open : MD := (RX5, cX5_open, 1, some .int, false)
abbrev YX5_howManyJust : MD := (RX5, cX5_howManyJust, 1, some .int, false)
abbrev YX5_isShown : MD := (RX5, cX5_isShown, 1, some .boolean, false)
abbrev YX5_shortestOne : MD := (RX5, cX5_shortestOne, 1, some (.object "AllPrograms$Program"), false)
abbrev YX7_stepsIn : MD := (RX7, cX7_stepsIn, 3, some .int, false)
abbrev YX7_phaseOf : MD := (RX7, cX7_phaseOf, 3, some .int, false)
abbrev YX7_findAnswer : MD := (RX7, cX7_findAnswer, 7, none, false)
abbrev YX7_isAnswer : MD := (RX7, cX7_isAnswer, 2, some .boolean, false)
abbrev YX7_addUp : MD := (RX7, cX7_addUp, 8, none, false)
abbrev YX7_look : MD := (RX7, cX7_look, 5, none, false)
abbrev YX7_hasAnswer : MD := (RX7, cX7_hasAnswer, 1, some .boolean, false)
abbrev YX7_answer : MD := (RX7, cX7_answer, 1, some (.object "AllPrograms$Program"), false)
abbrev YX7_phase : MD := (RX7, cX7_phase, 1, some .int, false)
abbrev YX7_answerSteps : MD := (RX7, cX7_answerSteps, 1, some .int, false)
abbrev YX7_sum : MD := (RX7, cX7_sum, 1, some .int, false)
abbrev YX7_begun : MD := (RX7, cX7_begun, 1, some .int, false)
abbrev YX7_hanging : MD := (RX7, cX7_hanging, 1, some .int, false)
abbrev YX7_factor : MD := (RX7, cX7_factor, 2, some .int, false)
abbrev YX11_sumOfDigits : MD := (RX11, cX11_sumOfDigits, 5, some .int, false)
abbrev YX11_language : MD := (RX11, cX11_language, 3, some .int, false)
abbrev YX11_languageAt : MD := (RX11, cX11_languageAt, 2, some (.object "AllPrograms$Language"), false)
abbrev YX11_of : MD := (RX11, cX11_of, 4, some .int, false)
abbrev YX11_part : MD := (RX11, cX11_part, 5, some .int, false)
abbrev YX11_clear : MD := (RX11, cX11_clear, 2, some .int, false)
abbrev YX11_add : MD := (RX11, cX11_add, 2, some .int, false)
abbrev YX11_order : MD := (RX11, cX11_order, 2, some .int, false)
abbrev YX11_size : MD := (RX11, cX11_size, 3, some .int, false)
abbrev YX11_decoded : MD := (RX11, cX11_decoded, 8, some .int, false)
abbrev YX11_read : MD := (RX11, cX11_read, 6, some .int, false)
abbrev YX11_isNumber : MD := (RX11, cX11_isNumber, 1, some .boolean, false)
abbrev YX11_run : MD := (RX11, cX11_run, 5, some .int, false)
abbrev YX11_ran : MD := (RX11, cX11_ran, 2, some .int, false)
abbrev YX11_next : MD := (RX11, cX11_next, 4, some .int, false)
abbrev YX11_feed : MD := (RX11, cX11_feed, 5, some .int, false)
abbrev YX11_task : MD := (RX11, cX11_task, 3, some .int, false)
abbrev YX11_taskAt : MD := (RX11, cX11_taskAt, 2, some (.object "AllPrograms$Ask"), false)
abbrev YX11_passes : MD := (RX11, cX11_passes, 6, some .int, false)
abbrev YX11_isPhase : MD := (RX11, cX11_isPhase, 1, some .boolean, false)
abbrev YX11_search : MD := (RX11, cX11_search, 6, some .int, false)
abbrev YX11_searched : MD := (RX11, cX11_searched, 2, some .int, false)
abbrev YX11_say : MD := (RX11, cX11_say, 2, some .int, false)
abbrev YX11_unsay : MD := (RX11, cX11_unsay, 2, some .int, false)
abbrev YX11_isSizeAndSteps : MD := (RX11, cX11_isSizeAndSteps, 3, some .boolean, false)
abbrev YX11_votes : MD := (RX11, cX11_votes, 6, some .int, false)
abbrev YX11_shortest : MD := (RX11, cX11_shortest, 5, some .int, false)
abbrev YX11_census : MD := (RX11, cX11_census, 6, some .int, false)
abbrev YX11_helped : MD := (RX11, cX11_helped, 3, some .int, false)
abbrev YX11_isPart : MD := (RX11, cX11_isPart, 4, some .boolean, false)
abbrev YX11_learn : MD := (RX11, cX11_learn, 6, some .int, false)
abbrev YX11_cheaper : MD := (RX11, cX11_cheaper, 9, some .int, false)
abbrev YX11_price : MD := (RX11, cX11_price, 7, some .int, false)
abbrev YX11_translated : MD := (RX11, cX11_translated, 8, some .int, false)
abbrev YX11_languageOfOrder : MD := (RX11, cX11_languageOfOrder, 3, some (.object "AllPrograms$Language"), false)
abbrev YX11_act : MD := (RX11, cX11_act, 5, some .int, false)
abbrev YX11_trace : MD := (RX11, cX11_trace, 2, some .int, false)
abbrev YX11_keep : MD := (RX11, cX11_keep, 3, some .int, false)
abbrev YX11_row : MD := (RX11, cX11_row, 4, some .int, false)
abbrev YX11_hasPlaces : MD := (RX11, cX11_hasPlaces, 4, some .boolean, false)
abbrev YX11_refusalAt : MD := (RX11, cX11_refusalAt, 3, some .int, false)
abbrev YX11_put : MD := (RX11, cX11_put, 6, some .int, false)
abbrev YX11_element : MD := (RX11, cX11_element, 3, some .long, false)
abbrev YX11_shift : MD := (RX11, cX11_shift, 6, some .int, false)
abbrev YX11_taken : MD := (RX11, cX11_taken, 4, some .int, false)
abbrev YX11_count : MD := (RX11, cX11_count, 2, some .int, false)
abbrev YX12_within : MD := (RX12, cX12_within, 6, some .boolean, false)
abbrev YX12_isLanguage : MD := (RX12, cX12_isLanguage, 2, some .boolean, false)
abbrev YX12_ordersOf : MD := (RX12, cX12_ordersOf, 2, some .int, false)
abbrev YX12_hasOrder : MD := (RX12, cX12_hasOrder, 3, some .boolean, false)
abbrev YX12_sumOf : MD := (RX12, cX12_sumOf, 4, some .int, false)
abbrev YX12_giveCodes : MD := (RX12, cX12_giveCodes, 7, none, false)
abbrev YX12_language : MD := (RX12, cX12_language, 6, some .int, false)
abbrev YX12_of : MD := (RX12, cX12_of, 3, some .int, false)
abbrev YX12_part : MD := (RX12, cX12_part, 5, some .int, false)
abbrev YX12_clear : MD := (RX12, cX12_clear, 2, some .int, false)
abbrev YX12_add : MD := (RX12, cX12_add, 2, some .int, false)
abbrev YX12_order : MD := (RX12, cX12_order, 2, some .int, false)
abbrev YX12_isProgram : MD := (RX12, cX12_isProgram, 4, some .boolean, false)
abbrev YX12_sizeIn : MD := (RX12, cX12_sizeIn, 4, some .int, false)
abbrev YX12_size : MD := (RX12, cX12_size, 2, some .int, false)
abbrev YX12_packed : MD := (RX12, cX12_packed, 4, some .long, false)
abbrev YX12_lookAt : MD := (RX12, cX12_lookAt, 6, none, false)
abbrev YX12_write : MD := (RX12, cX12_write, 10, none, false)
abbrev YX12_start : MD := (RX12, cX12_start, 2, none, false)
abbrev YX12_cameSo : MD := (RX12, cX12_cameSo, 3, some .boolean, false)
abbrev YX12_step : MD := (RX12, cX12_step, 3, some .int, false)
abbrev YX12_runFor : MD := (RX12, cX12_runFor, 7, some .int, false)
abbrev YX12_run : MD := (RX12, cX12_run, 6, some .int, false)
abbrev YX12_ran : MD := (RX12, cX12_ran, 2, some .int, false)
abbrev YX12_listFrom : MD := (RX12, cX12_listFrom, 10, none, false)
abbrev YX12_listAll : MD := (RX12, cX12_listAll, 4, none, false)
abbrev YX12_next : MD := (RX12, cX12_next, 5, some .int, false)
abbrev YX12_feed : MD := (RX12, cX12_feed, 4, some .int, false)
abbrev YX12_byteAt : MD := (RX12, cX12_byteAt, 1, some .int, false)
abbrev YX12_wrong : MD := (RX12, cX12_wrong, 1, some .int, false)
abbrev YX12_takes : MD := (RX12, cX12_takes, 2, some .boolean, false)
abbrev YX12_both : MD := (RX12, cX12_both, 3, some .int, false)
abbrev YX12_either : MD := (RX12, cX12_either, 3, some .int, false)
abbrev YX12_named : MD := (RX12, cX12_named, 4, some .int, false)
abbrev YX12_one : MD := (RX12, cX12_one, 4, some .int, false)
abbrev YX12_product : MD := (RX12, cX12_product, 4, some .int, false)
abbrev YX12_sums : MD := (RX12, cX12_sums, 4, some .int, false)
abbrev YX12_turned : MD := (RX12, cX12_turned, 4, some .int, false)
abbrev YX12_workOut : MD := (RX12, cX12_workOut, 4, some .int, false)
abbrev YX12_task : MD := (RX12, cX12_task, 5, some .int, false)
abbrev YX12_isTask : MD := (RX12, cX12_isTask, 2, some .boolean, false)
abbrev YX12_isPassed : MD := (RX12, cX12_isPassed, 2, some .boolean, false)
abbrev YX12_passes : MD := (RX12, cX12_passes, 4, some .int, false)
abbrev YX12_find : MD := (RX12, cX12_find, 9, some .boolean, false)
abbrev YX12_search : MD := (RX12, cX12_search, 6, some .int, false)
abbrev YX12_searched : MD := (RX12, cX12_searched, 2, some .int, false)
abbrev YX12_say : MD := (RX12, cX12_say, 2, some .int, false)
abbrev YX12_unsay : MD := (RX12, cX12_unsay, 2, some .int, false)
abbrev YX12_isBound : MD := (RX12, cX12_isBound, 1, some .boolean, false)
abbrev YX12_alike : MD := (RX12, cX12_alike, 2, some .int, false)
abbrev YX12_votes : MD := (RX12, cX12_votes, 11, some .int, false)
abbrev YX12_shortest : MD := (RX12, cX12_shortest, 9, some .int, false)
abbrev YX12_sureBits : MD := (RX12, cX12_sureBits, 7, some .int, false)
abbrev YX12_census : MD := (RX12, cX12_census, 14, some .int, false)
abbrev YX12_copy : MD := (RX12, cX12_copy, 4, none, false)
abbrev YX12_helped : MD := (RX12, cX12_helped, 6, some .int, false)
abbrev YX12_learn : MD := (RX12, cX12_learn, 7, some .int, false)
abbrev YX12_cheaper : MD := (RX12, cX12_cheaper, 6, some .int, false)
abbrev YX12_price : MD := (RX12, cX12_price, 6, some .int, false)
abbrev YX12_translated : MD := (RX12, cX12_translated, 5, some .int, false)
abbrev YX12_kindOf : MD := (RX12, cX12_kindOf, 1, some .int, false)
abbrev YX12_above : MD := (RX12, cX12_above, 1, some .int, false)
abbrev YX12_ranBody : MD := (RX12, cX12_ranBody, 2, none, false)
abbrev YX12_stepsAct : MD := (RX12, cX12_stepsAct, 3, some .int, false)
abbrev YX12_costs : MD := (RX12, cX12_costs, 4, some .int, false)
abbrev YX12_goes : MD := (RX12, cX12_goes, 4, some .int, false)
abbrev YX12_tells : MD := (RX12, cX12_tells, 4, some .int, false)
abbrev YX12_isOrder : MD := (RX12, cX12_isOrder, 2, some .boolean, false)
abbrev YX12_act : MD := (RX12, cX12_act, 4, some .int, false)
abbrev YX12_trace : MD := (RX12, cX12_trace, 2, some .int, false)
abbrev YX12_isShelf : MD := (RX12, cX12_isShelf, 1, some .boolean, false)
abbrev YX12_keep : MD := (RX12, cX12_keep, 3, some .int, false)
abbrev YX12_row : MD := (RX12, cX12_row, 5, some .int, false)
abbrev YX12_refusal : MD := (RX12, cX12_refusal, 3, some .int, false)
abbrev YX12_asSort : MD := (RX12, cX12_asSort, 3, some .long, false)
abbrev YX12_put : MD := (RX12, cX12_put, 6, some .int, false)
abbrev YX12_element : MD := (RX12, cX12_element, 3, some .long, false)
abbrev YX12_shift : MD := (RX12, cX12_shift, 7, some .int, false)
abbrev YX12_taken : MD := (RX12, cX12_taken, 5, some .int, false)
abbrev YX12_read : MD := (RX12, cX12_read, 14, some .int, false)
abbrev YX12_count : MD := (RX12, cX12_count, 2, some .int, false)
def MI (y : MethodName) (Y2 : MD) (na : Nat) (C : String) : Prop := MC y Y2 na ∧ Cond.instanceMethod y ∈ TT ∧ Cond.selects C y y ∈ TT
def MSt (y : MethodName) (Y2 : MD) (na : Nat) : Prop := MC y Y2 na ∧ Cond.static y ∈ TT
set_option maxRecDepth 100000 in
theorem mcX6_length : MI yX6_length YX6_length 0 RX6 := ⟨⟨rfl, ⟨by decide, by decide, by decide +kernel⟩, in1 2 (by rfl) rfl, in2 208 (by rfl) rfl⟩, in2 206 (by rfl) rfl, in2 207 (by rfl) rfl⟩
set_option maxRecDepth 100000 in
theorem mcX6_orderAt : MI yX6_orderAt YX6_orderAt 1 RX6 := ⟨⟨rfl, ⟨by decide, by decide, by decide +kernel⟩, in1 2 (by rfl) rfl, in2 224 (by rfl) rfl⟩, in2 222 (by rfl) rfl, in2 223 (by rfl) rfl⟩
set_option maxRecDepth 100000 in
theorem mcX6_isClosed : MI yX6_isClosed YX6_isClosed 0 RX6 := ⟨⟨rfl, ⟨by decide, by decide, by decide +kernel⟩, in1 2 (by rfl) rfl, in2 220 (by rfl) rfl⟩, in2 218 (by rfl) rfl, in2 219 (by rfl) rfl⟩
set_option maxRecDepth 100000 in
theorem mcX6_holds : MI yX6_holds YX6_holds 1 RX6 := ⟨⟨rfl, ⟨by decide, by decide, by decide +kernel⟩, in1 2 (by rfl) rfl, in5 37 (by rfl) rfl⟩, in5 35 (by rfl) rfl, in5 36 (by rfl) rfl⟩
set_option maxRecDepth 100000 in
theorem mcX6_push : MI yX6_push YX6_push 1 RX6 := ⟨⟨rfl, ⟨by decide, by decide, by decide +kernel⟩, in1 2 (by rfl) rfl, in2 228 (by rfl) rfl⟩, in2 226 (by rfl) rfl, in2 227 (by rfl) rfl⟩
set_option maxRecDepth 100000 in
theorem mcX6_cut : MI yX6_cut YX6_cut 1 RX6 := ⟨⟨rfl, ⟨by decide, by decide, by decide +kernel⟩, in1 2 (by rfl) rfl, in3 134 (by rfl) rfl⟩, in3 132 (by rfl) rfl, in3 133 (by rfl) rfl⟩
set_option maxRecDepth 100000 in
theorem mcX6_beEmpty : MI yX6_beEmpty YX6_beEmpty 0 RX6 := ⟨⟨rfl, ⟨by decide, by decide, by decide +kernel⟩, in1 2 (by rfl) rfl, in2 212 (by rfl) rfl⟩, in2 210 (by rfl) rfl, in2 211 (by rfl) rfl⟩
set_option maxRecDepth 100000 in
theorem mcX6_become : MI yX6_become YX6_become 1 RX6 := ⟨⟨rfl, ⟨by decide, by decide, by decide +kernel⟩, in1 2 (by rfl) rfl, in3 47 (by rfl) rfl⟩, in3 45 (by rfl) rfl, in3 46 (by rfl) rfl⟩
set_option maxRecDepth 100000 in
theorem mcX10_length : MI yX10_length YX10_length 0 RX10 := ⟨⟨rfl, ⟨by decide, by decide, by decide +kernel⟩, in1 6 (by rfl) rfl, in4 122 (by rfl) rfl⟩, in4 120 (by rfl) rfl, in4 121 (by rfl) rfl⟩
set_option maxRecDepth 100000 in
theorem mcX10_numberAt : MI yX10_numberAt YX10_numberAt 1 RX10 := ⟨⟨rfl, ⟨by decide, by decide, by decide +kernel⟩, in1 6 (by rfl) rfl, in4 160 (by rfl) rfl⟩, in4 158 (by rfl) rfl, in4 159 (by rfl) rfl⟩
set_option maxRecDepth 100000 in
theorem mcX10_push : MI yX10_push YX10_push 1 RX10 := ⟨⟨rfl, ⟨by decide, by decide, by decide +kernel⟩, in1 6 (by rfl) rfl, in4 118 (by rfl) rfl⟩, in4 116 (by rfl) rfl, in4 117 (by rfl) rfl⟩
set_option maxRecDepth 100000 in
theorem mcX10_beEmpty : MI yX10_beEmpty YX10_beEmpty 0 RX10 := ⟨⟨rfl, ⟨by decide, by decide, by decide +kernel⟩, in1 6 (by rfl) rfl, in4 130 (by rfl) rfl⟩, in4 128 (by rfl) rfl, in4 129 (by rfl) rfl⟩
set_option maxRecDepth 100000 in
theorem mcX0_kindOf : MSt yX0_kindOf YX0_kindOf 1 := ⟨⟨rfl, ⟨by decide, by decide, by decide +kernel⟩, in1 9 (by rfl) rfl, in5 83 (by rfl) rfl⟩, in5 82 (by rfl) rfl⟩
set_option maxRecDepth 100000 in
theorem mcX0_above : MSt yX0_above YX0_above 1 := ⟨⟨rfl, ⟨by decide, by decide, by decide +kernel⟩, in1 9 (by rfl) rfl, in5 96 (by rfl) rfl⟩, in5 95 (by rfl) rfl⟩
set_option maxRecDepth 100000 in
theorem mcX0_isUnder : MSt yX0_isUnder YX0_isUnder 2 := ⟨⟨rfl, ⟨by decide, by decide, by decide +kernel⟩, in1 9 (by rfl) rfl, in5 189 (by rfl) rfl⟩, in5 188 (by rfl) rfl⟩
set_option maxRecDepth 100000 in
theorem mcX0_began : MI yX0_began YX0_began 0 RX0 := ⟨⟨rfl, ⟨by decide, by decide, by decide +kernel⟩, in1 9 (by rfl) rfl, in5 197 (by rfl) rfl⟩, in5 195 (by rfl) rfl, in5 196 (by rfl) rfl⟩
set_option maxRecDepth 100000 in
theorem mcX0_keptAt : MI yX0_keptAt YX0_keptAt 1 RX0 := ⟨⟨rfl, ⟨by decide, by decide, by decide +kernel⟩, in1 9 (by rfl) rfl, in5 112 (by rfl) rfl⟩, in5 110 (by rfl) rfl, in5 111 (by rfl) rfl⟩
set_option maxRecDepth 100000 in
theorem mcX0_beEmpty : MI yX0_beEmpty YX0_beEmpty 0 RX0 := ⟨⟨rfl, ⟨by decide, by decide, by decide +kernel⟩, in1 9 (by rfl) rfl, in5 72 (by rfl) rfl⟩, in5 70 (by rfl) rfl, in5 71 (by rfl) rfl⟩
set_option maxRecDepth 100000 in
theorem mcX0_ownBody : MSt yX0_ownBody YX0_ownBody 2 := ⟨⟨rfl, ⟨by decide, by decide, by decide +kernel⟩, in1 9 (by rfl) rfl, in5 93 (by rfl) rfl⟩, in5 92 (by rfl) rfl⟩
set_option maxRecDepth 100000 in
theorem mcX0_bodyOf : MSt yX0_bodyOf YX0_bodyOf 2 := ⟨⟨rfl, ⟨by decide, by decide, by decide +kernel⟩, in1 9 (by rfl) rfl, in5 90 (by rfl) rfl⟩, in5 89 (by rfl) rfl⟩
set_option maxRecDepth 100000 in
theorem mcX0_own : MI yX0_own YX0_own 3 RX0 := ⟨⟨rfl, ⟨by decide, by decide, by decide +kernel⟩, in1 9 (by rfl) rfl, in5 104 (by rfl) rfl⟩, in5 103 (by rfl) rfl, inP 39 (by rfl) rfl⟩
set_option maxRecDepth 100000 in
theorem mcX0_perform_ : MI yX0_perform_ YX0_perform_ 3 RX0 := ⟨⟨rfl, ⟨by decide, by decide, by decide +kernel⟩, in1 9 (by rfl) rfl, in5 100 (by rfl) rfl⟩, in5 99 (by rfl) rfl, inP 38 (by rfl) rfl⟩
set_option maxRecDepth 100000 in
theorem mcX0_from : MI yX0_from YX0_from 4 RX0 := ⟨⟨rfl, ⟨by decide, by decide, by decide +kernel⟩, in1 9 (by rfl) rfl, in5 87 (by rfl) rfl⟩, in5 86 (by rfl) rfl, inP 37 (by rfl) rfl⟩
set_option maxRecDepth 100000 in
theorem mcX0_perform : MI yX0_perform YX0_perform 4 RX0 := ⟨⟨rfl, ⟨by decide, by decide, by decide +kernel⟩, in1 9 (by rfl) rfl, in5 80 (by rfl) rfl⟩, in5 78 (by rfl) rfl, in5 79 (by rfl) rfl⟩
set_option maxRecDepth 100000 in
theorem mcX8_isShelf : MI yX8_isShelf YX8_isShelf 1 RX8 := ⟨⟨rfl, ⟨by decide, by decide, by decide +kernel⟩, in1 10 (by rfl) rfl, in3 13 (by rfl) rfl⟩, in3 11 (by rfl) rfl, in3 12 (by rfl) rfl⟩
set_option maxRecDepth 100000 in
theorem mcX8_sort : MI yX8_sort YX8_sort 1 RX8 := ⟨⟨rfl, ⟨by decide, by decide, by decide +kernel⟩, in1 10 (by rfl) rfl, in3 21 (by rfl) rfl⟩, in3 19 (by rfl) rfl, in3 20 (by rfl) rfl⟩
set_option maxRecDepth 100000 in
theorem mcX8_holdsNothing : MI yX8_holdsNothing YX8_holdsNothing 1 RX8 := ⟨⟨rfl, ⟨by decide, by decide, by decide +kernel⟩, in1 10 (by rfl) rfl, in3 17 (by rfl) rfl⟩, in3 15 (by rfl) rfl, in3 16 (by rfl) rfl⟩
set_option maxRecDepth 100000 in
theorem mcX8_holdsRow : MI yX8_holdsRow YX8_holdsRow 1 RX8 := ⟨⟨rfl, ⟨by decide, by decide, by decide +kernel⟩, in1 10 (by rfl) rfl, in5 151 (by rfl) rfl⟩, in5 149 (by rfl) rfl, in5 150 (by rfl) rfl⟩
set_option maxRecDepth 100000 in
theorem mcX8_holdsBooleans : MI yX8_holdsBooleans YX8_holdsBooleans 1 RX8 := ⟨⟨rfl, ⟨by decide, by decide, by decide +kernel⟩, in1 10 (by rfl) rfl, in3 26 (by rfl) rfl⟩, in3 24 (by rfl) rfl, in3 25 (by rfl) rfl⟩
set_option maxRecDepth 100000 in
theorem mcX8_heldOrder : MI yX8_heldOrder YX8_heldOrder 1 RX8 := ⟨⟨rfl, ⟨by decide, by decide, by decide +kernel⟩, in1 10 (by rfl) rfl, in5 185 (by rfl) rfl⟩, in5 183 (by rfl) rfl, in5 184 (by rfl) rfl⟩
set_option maxRecDepth 100000 in
theorem mcX8_length : MI yX8_length YX8_length 1 RX8 := ⟨⟨rfl, ⟨by decide, by decide, by decide +kernel⟩, in1 10 (by rfl) rfl, in3 34 (by rfl) rfl⟩, in3 32 (by rfl) rfl, in3 33 (by rfl) rfl⟩
set_option maxRecDepth 100000 in
theorem mcX8_become : MI yX8_become YX8_become 4 RX8 := ⟨⟨rfl, ⟨by decide, by decide, by decide +kernel⟩, in1 10 (by rfl) rfl, in5 124 (by rfl) rfl⟩, in5 123 (by rfl) rfl, inP 40 (by rfl) rfl⟩
set_option maxRecDepth 100000 in
theorem mcX8_holdNothing : MI yX8_holdNothing YX8_holdNothing 1 RX8 := ⟨⟨rfl, ⟨by decide, by decide, by decide +kernel⟩, in1 10 (by rfl) rfl, in5 120 (by rfl) rfl⟩, in5 118 (by rfl) rfl, in5 119 (by rfl) rfl⟩
set_option maxRecDepth 100000 in
theorem mcX8_holdOrder : MI yX8_holdOrder YX8_holdOrder 2 RX8 := ⟨⟨rfl, ⟨by decide, by decide, by decide +kernel⟩, in1 10 (by rfl) rfl, in5 131 (by rfl) rfl⟩, in5 129 (by rfl) rfl, in5 130 (by rfl) rfl⟩
set_option maxRecDepth 100000 in
theorem mcX8_holdRow : MI yX8_holdRow YX8_holdRow 3 RX8 := ⟨⟨rfl, ⟨by decide, by decide, by decide +kernel⟩, in1 10 (by rfl) rfl, in5 139 (by rfl) rfl⟩, in5 137 (by rfl) rfl, in5 138 (by rfl) rfl⟩
set_option maxRecDepth 100000 in
theorem mcX8_get : MI yX8_get YX8_get 2 RX8 := ⟨⟨rfl, ⟨by decide, by decide, by decide +kernel⟩, in1 10 (by rfl) rfl, in3 38 (by rfl) rfl⟩, in3 36 (by rfl) rfl, in3 37 (by rfl) rfl⟩
set_option maxRecDepth 100000 in
theorem mcX8_held : MSt yX8_held YX8_held 2 := ⟨⟨rfl, ⟨by decide, by decide, by decide +kernel⟩, in1 10 (by rfl) rfl, in5 162 (by rfl) rfl⟩, in5 161 (by rfl) rfl⟩
set_option maxRecDepth 100000 in
theorem mcX8_set : MI yX8_set YX8_set 3 RX8 := ⟨⟨rfl, ⟨by decide, by decide, by decide +kernel⟩, in1 10 (by rfl) rfl, in5 159 (by rfl) rfl⟩, in5 157 (by rfl) rfl, in5 158 (by rfl) rfl⟩
set_option maxRecDepth 100000 in
theorem mcX8_copy : MI yX8_copy YX8_copy 5 RX8 := ⟨⟨rfl, ⟨by decide, by decide, by decide +kernel⟩, in1 10 (by rfl) rfl, in5 176 (by rfl) rfl⟩, in5 174 (by rfl) rfl, in5 175 (by rfl) rfl⟩
set_option maxRecDepth 100000 in
theorem mcX3_sortByBits : MI yX3_sortByBits YX3_sortByBits 0 RX3 := ⟨⟨rfl, ⟨by decide, by decide, by decide +kernel⟩, in1 12 (by rfl) rfl, in2 144 (by rfl) rfl⟩, in2 143 (by rfl) rfl, inP 1 (by rfl) rfl⟩
set_option maxRecDepth 100000 in
theorem mcX3_bitsOf : MI yX3_bitsOf YX3_bitsOf 1 RX3 := ⟨⟨rfl, ⟨by decide, by decide, by decide +kernel⟩, in1 12 (by rfl) rfl, in2 152 (by rfl) rfl⟩, in2 150 (by rfl) rfl, in2 151 (by rfl) rfl⟩
set_option maxRecDepth 100000 in
theorem mcX3_giveCodes : MI yX3_giveCodes YX3_giveCodes 0 RX3 := ⟨⟨rfl, ⟨by decide, by decide, by decide +kernel⟩, in1 12 (by rfl) rfl, in2 148 (by rfl) rfl⟩, in2 147 (by rfl) rfl, inP 2 (by rfl) rfl⟩
set_option maxRecDepth 100000 in
theorem mcX3_fewestFor : MI yX3_fewestFor YX3_fewestFor 1 RX3 := ⟨⟨rfl, ⟨by decide, by decide, by decide +kernel⟩, in1 12 (by rfl) rfl, in2 160 (by rfl) rfl⟩, in2 159 (by rfl) rfl, inP 4 (by rfl) rfl⟩
set_option maxRecDepth 100000 in
theorem mcX3_countFewest : MI yX3_countFewest YX3_countFewest 0 RX3 := ⟨⟨rfl, ⟨by decide, by decide, by decide +kernel⟩, in1 12 (by rfl) rfl, in2 156 (by rfl) rfl⟩, in2 155 (by rfl) rfl, inP 3 (by rfl) rfl⟩
set_option maxRecDepth 100000 in
theorem mcX3_settle : MI yX3_settle YX3_settle 0 RX3 := ⟨⟨rfl, ⟨by decide, by decide, by decide +kernel⟩, in1 12 (by rfl) rfl, in2 140 (by rfl) rfl⟩, in2 139 (by rfl) rfl, inP 0 (by rfl) rfl⟩
set_option maxRecDepth 100000 in
theorem mcX3_beMadeOf : MI yX3_beMadeOf YX3_beMadeOf 1 RX3 := ⟨⟨rfl, ⟨by decide, by decide, by decide +kernel⟩, in1 12 (by rfl) rfl, in2 136 (by rfl) rfl⟩, in2 134 (by rfl) rfl, in2 135 (by rfl) rfl⟩
set_option maxRecDepth 100000 in
theorem mcX3_beLike : MI yX3_beLike YX3_beLike 1 RX3 := ⟨⟨rfl, ⟨by decide, by decide, by decide +kernel⟩, in1 12 (by rfl) rfl, in5 32 (by rfl) rfl⟩, in5 31 (by rfl) rfl, inP 34 (by rfl) rfl⟩
set_option maxRecDepth 100000 in
theorem mcX3_sum : MI yX3_sum YX3_sum 0 RX3 := ⟨⟨rfl, ⟨by decide, by decide, by decide +kernel⟩, in1 12 (by rfl) rfl, in2 179 (by rfl) rfl⟩, in2 177 (by rfl) rfl, in2 178 (by rfl) rfl⟩
set_option maxRecDepth 100000 in
theorem mcX3_beHelped : MI yX3_beHelped YX3_beHelped 2 RX3 := ⟨⟨rfl, ⟨by decide, by decide, by decide +kernel⟩, in1 12 (by rfl) rfl, in5 28 (by rfl) rfl⟩, in5 26 (by rfl) rfl, in5 27 (by rfl) rfl⟩
set_option maxRecDepth 100000 in
theorem mcX3_beTaught : MI yX3_beTaught YX3_beTaught 5 RX3 := ⟨⟨rfl, ⟨by decide, by decide, by decide +kernel⟩, in1 12 (by rfl) rfl, in5 50 (by rfl) rfl⟩, in5 48 (by rfl) rfl, in5 49 (by rfl) rfl⟩
set_option maxRecDepth 100000 in
theorem mcX3_howManyOrders : MI yX3_howManyOrders YX3_howManyOrders 0 RX3 := ⟨⟨rfl, ⟨by decide, by decide, by decide +kernel⟩, in1 12 (by rfl) rfl, in2 175 (by rfl) rfl⟩, in2 173 (by rfl) rfl, in2 174 (by rfl) rfl⟩
set_option maxRecDepth 100000 in
theorem mcX3_has : MI yX3_has YX3_has 1 RX3 := ⟨⟨rfl, ⟨by decide, by decide, by decide +kernel⟩, in1 12 (by rfl) rfl, in2 183 (by rfl) rfl⟩, in2 181 (by rfl) rfl, in2 182 (by rfl) rfl⟩
set_option maxRecDepth 100000 in
theorem mcX3_codeOf : MI yX3_codeOf YX3_codeOf 1 RX3 := ⟨⟨rfl, ⟨by decide, by decide, by decide +kernel⟩, in1 12 (by rfl) rfl, in2 188 (by rfl) rfl⟩, in2 186 (by rfl) rfl, in2 187 (by rfl) rfl⟩
set_option maxRecDepth 100000 in
theorem mcX3_orderWith : MI yX3_orderWith YX3_orderWith 2 RX3 := ⟨⟨rfl, ⟨by decide, by decide, by decide +kernel⟩, in1 12 (by rfl) rfl, in3 42 (by rfl) rfl⟩, in3 40 (by rfl) rfl, in3 41 (by rfl) rfl⟩
set_option maxRecDepth 100000 in
theorem mcX3_writtenLength : MI yX3_writtenLength YX3_writtenLength 1 RX3 := ⟨⟨rfl, ⟨by decide, by decide, by decide +kernel⟩, in1 12 (by rfl) rfl, in2 196 (by rfl) rfl⟩, in2 194 (by rfl) rfl, in2 195 (by rfl) rfl⟩
set_option maxRecDepth 100000 in
theorem mcX3_written : MI yX3_written YX3_written 2 RX3 := ⟨⟨rfl, ⟨by decide, by decide, by decide +kernel⟩, in1 12 (by rfl) rfl, in2 200 (by rfl) rfl⟩, in2 198 (by rfl) rfl, in2 199 (by rfl) rfl⟩
set_option maxRecDepth 100000 in
theorem mcX3_sizeOf : MI yX3_sizeOf YX3_sizeOf 1 RX3 := ⟨⟨rfl, ⟨by decide, by decide, by decide +kernel⟩, in1 12 (by rfl) rfl, in3 1 (by rfl) rfl⟩, in2 239 (by rfl) rfl, in3 0 (by rfl) rfl⟩
set_option maxRecDepth 100000 in
theorem mcX3_rankOf : MI yX3_rankOf YX3_rankOf 1 RX3 := ⟨⟨rfl, ⟨by decide, by decide, by decide +kernel⟩, in1 12 (by rfl) rfl, in3 123 (by rfl) rfl⟩, in3 122 (by rfl) rfl, inP 14 (by rfl) rfl⟩
set_option maxRecDepth 100000 in
theorem mcX3_firstThatFits : MI yX3_firstThatFits YX3_firstThatFits 3 RX3 := ⟨⟨rfl, ⟨by decide, by decide, by decide +kernel⟩, in1 12 (by rfl) rfl, in3 127 (by rfl) rfl⟩, in3 126 (by rfl) rfl, inP 15 (by rfl) rfl⟩
set_option maxRecDepth 100000 in
theorem mcX3_fill : MI yX3_fill YX3_fill 2 RX3 := ⟨⟨rfl, ⟨by decide, by decide, by decide +kernel⟩, in1 12 (by rfl) rfl, in3 139 (by rfl) rfl⟩, in3 138 (by rfl) rfl, inP 16 (by rfl) rfl⟩
set_option maxRecDepth 100000 in
theorem mcX3_becomeNextOfSize : MI yX3_becomeNextOfSize YX3_becomeNextOfSize 2 RX3 := ⟨⟨rfl, ⟨by decide, by decide, by decide +kernel⟩, in1 12 (by rfl) rfl, in3 119 (by rfl) rfl⟩, in3 118 (by rfl) rfl, inP 13 (by rfl) rfl⟩
set_option maxRecDepth 100000 in
theorem mcX3_follow : MI yX3_follow YX3_follow 2 RX3 := ⟨⟨rfl, ⟨by decide, by decide, by decide +kernel⟩, in1 12 (by rfl) rfl, in3 114 (by rfl) rfl⟩, in3 112 (by rfl) rfl, in3 113 (by rfl) rfl⟩
set_option maxRecDepth 100000 in
theorem mcX4_writeOut : MI yX4_writeOut YX4_writeOut 2 RX4 := ⟨⟨rfl, ⟨by decide, by decide, by decide +kernel⟩, in1 3 (by rfl) rfl, in3 67 (by rfl) rfl⟩, in3 66 (by rfl) rfl, inP 7 (by rfl) rfl⟩
set_option maxRecDepth 100000 in
theorem mcX4_wasHereBefore : MI yX4_wasHereBefore YX4_wasHereBefore 0 RX4 := ⟨⟨rfl, ⟨by decide, by decide, by decide +kernel⟩, in1 3 (by rfl) rfl, in3 73 (by rfl) rfl⟩, in3 72 (by rfl) rfl, inP 8 (by rfl) rfl⟩
set_option maxRecDepth 100000 in
theorem mcX4_start : MI yX4_start YX4_start 3 RX4 := ⟨⟨rfl, ⟨by decide, by decide, by decide +kernel⟩, in1 3 (by rfl) rfl, in3 61 (by rfl) rfl⟩, in3 59 (by rfl) rfl, in3 60 (by rfl) rfl⟩
set_option maxRecDepth 100000 in
theorem mcX4_print : MI yX4_print YX4_print 0 RX4 := ⟨⟨rfl, ⟨by decide, by decide, by decide +kernel⟩, in1 3 (by rfl) rfl, in3 85 (by rfl) rfl⟩, in3 84 (by rfl) rfl, inP 10 (by rfl) rfl⟩
set_option maxRecDepth 100000 in
theorem mcX4_swap : MI yX4_swap YX4_swap 0 RX4 := ⟨⟨rfl, ⟨by decide, by decide, by decide +kernel⟩, in1 3 (by rfl) rfl, in3 89 (by rfl) rfl⟩, in3 88 (by rfl) rfl, inP 11 (by rfl) rfl⟩
set_option maxRecDepth 100000 in
theorem mcX4_goBack : MI yX4_goBack YX4_goBack 0 RX4 := ⟨⟨rfl, ⟨by decide, by decide, by decide +kernel⟩, in1 3 (by rfl) rfl, in3 93 (by rfl) rfl⟩, in3 92 (by rfl) rfl, inP 12 (by rfl) rfl⟩
set_option maxRecDepth 100000 in
theorem mcX4_doOrder : MI yX4_doOrder YX4_doOrder 1 RX4 := ⟨⟨rfl, ⟨by decide, by decide, by decide +kernel⟩, in1 3 (by rfl) rfl, in3 81 (by rfl) rfl⟩, in3 80 (by rfl) rfl, inP 9 (by rfl) rfl⟩
set_option maxRecDepth 100000 in
theorem mcX4_goOn : MI yX4_goOn YX4_goOn 1 RX4 := ⟨⟨rfl, ⟨by decide, by decide, by decide +kernel⟩, in1 3 (by rfl) rfl, in3 77 (by rfl) rfl⟩, in3 75 (by rfl) rfl, in3 76 (by rfl) rfl⟩
set_option maxRecDepth 100000 in
theorem mcX4_state : MI yX4_state YX4_state 0 RX4 := ⟨⟨rfl, ⟨by decide, by decide, by decide +kernel⟩, in1 3 (by rfl) rfl, in3 102 (by rfl) rfl⟩, in3 100 (by rfl) rfl, in3 101 (by rfl) rfl⟩
set_option maxRecDepth 100000 in
theorem mcX4_steps : MI yX4_steps YX4_steps 0 RX4 := ⟨⟨rfl, ⟨by decide, by decide, by decide +kernel⟩, in1 3 (by rfl) rfl, in4 60 (by rfl) rfl⟩, in4 58 (by rfl) rfl, in4 59 (by rfl) rfl⟩
set_option maxRecDepth 100000 in
theorem mcX4_valueA : MI yX4_valueA YX4_valueA 0 RX4 := ⟨⟨rfl, ⟨by decide, by decide, by decide +kernel⟩, in1 3 (by rfl) rfl, in4 19 (by rfl) rfl⟩, in4 17 (by rfl) rfl, in4 18 (by rfl) rfl⟩
set_option maxRecDepth 100000 in
theorem mcX4_valueB : MI yX4_valueB YX4_valueB 0 RX4 := ⟨⟨rfl, ⟨by decide, by decide, by decide +kernel⟩, in1 3 (by rfl) rfl, in4 23 (by rfl) rfl⟩, in4 21 (by rfl) rfl, in4 22 (by rfl) rfl⟩
set_option maxRecDepth 100000 in
theorem mcX4_saidCount : MI yX4_saidCount YX4_saidCount 0 RX4 := ⟨⟨rfl, ⟨by decide, by decide, by decide +kernel⟩, in1 3 (by rfl) rfl, in3 237 (by rfl) rfl⟩, in3 235 (by rfl) rfl, in3 236 (by rfl) rfl⟩
set_option maxRecDepth 100000 in
theorem mcX4_saidAt : MI yX4_saidAt YX4_saidAt 1 RX4 := ⟨⟨rfl, ⟨by decide, by decide, by decide +kernel⟩, in1 3 (by rfl) rfl, in4 10 (by rfl) rfl⟩, in4 8 (by rfl) rfl, in4 9 (by rfl) rfl⟩
set_option maxRecDepth 100000 in
theorem mcX4_saidSum : MI yX4_saidSum YX4_saidSum 0 RX4 := ⟨⟨rfl, ⟨by decide, by decide, by decide +kernel⟩, in1 3 (by rfl) rfl, in4 14 (by rfl) rfl⟩, in4 12 (by rfl) rfl, in4 13 (by rfl) rfl⟩
set_option maxRecDepth 100000 in
theorem mcX4_likeTold : MI yX4_likeTold YX4_likeTold 1 RX4 := ⟨⟨rfl, ⟨by decide, by decide, by decide +kernel⟩, in1 3 (by rfl) rfl, in4 155 (by rfl) rfl⟩, in4 153 (by rfl) rfl, in4 154 (by rfl) rfl⟩
set_option maxRecDepth 100000 in
theorem mcX4_saidJust : MI yX4_saidJust YX4_saidJust 1 RX4 := ⟨⟨rfl, ⟨by decide, by decide, by decide +kernel⟩, in1 3 (by rfl) rfl, in4 193 (by rfl) rfl⟩, in4 191 (by rfl) rfl, in4 192 (by rfl) rfl⟩
set_option maxRecDepth 100000 in
theorem mcX4_tell : MI yX4_tell YX4_tell 1 RX4 := ⟨⟨rfl, ⟨by decide, by decide, by decide +kernel⟩, in1 3 (by rfl) rfl, in3 97 (by rfl) rfl⟩, in3 95 (by rfl) rfl, in3 96 (by rfl) rfl⟩
set_option maxRecDepth 100000 in
theorem mcX1_begin : MI yX1_begin YX1_begin 1 RX1 := ⟨⟨rfl, ⟨by decide, by decide, by decide +kernel⟩, in1 13 (by rfl) rfl, in3 164 (by rfl) rfl⟩, in3 162 (by rfl) rfl, in3 163 (by rfl) rfl⟩
set_option maxRecDepth 100000 in
theorem mcX1_write : MI yX1_write YX1_write 1 RX1 := ⟨⟨rfl, ⟨by decide, by decide, by decide +kernel⟩, in1 13 (by rfl) rfl, in3 195 (by rfl) rfl⟩, in3 193 (by rfl) rfl, in3 194 (by rfl) rfl⟩
set_option maxRecDepth 100000 in
theorem mcX1_input : MI yX1_input YX1_input 0 RX1 := ⟨⟨rfl, ⟨by decide, by decide, by decide +kernel⟩, in1 13 (by rfl) rfl, in3 228 (by rfl) rfl⟩, in3 226 (by rfl) rfl, in3 227 (by rfl) rfl⟩
set_option maxRecDepth 100000 in
theorem mcX1_isName : MSt yX1_isName YX1_isName 1 := ⟨⟨rfl, ⟨by decide, by decide, by decide +kernel⟩, in1 13 (by rfl) rfl, in3 198 (by rfl) rfl⟩, in3 197 (by rfl) rfl⟩
set_option maxRecDepth 100000 in
theorem mcX1_push : MI yX1_push YX1_push 1 RX1 := ⟨⟨rfl, ⟨by decide, by decide, by decide +kernel⟩, in1 13 (by rfl) rfl, in4 1 (by rfl) rfl⟩, in4 0 (by rfl) rfl, inP 26 (by rfl) rfl⟩
set_option maxRecDepth 100000 in
theorem mcX1_valueOf : MI yX1_valueOf YX1_valueOf 2 RX1 := ⟨⟨rfl, ⟨by decide, by decide, by decide +kernel⟩, in1 13 (by rfl) rfl, in4 6 (by rfl) rfl⟩, in4 5 (by rfl) rfl, inP 27 (by rfl) rfl⟩
set_option maxRecDepth 100000 in
theorem mcX1_pop : MI yX1_pop YX1_pop 0 RX1 := ⟨⟨rfl, ⟨by decide, by decide, by decide +kernel⟩, in1 13 (by rfl) rfl, in4 27 (by rfl) rfl⟩, in4 26 (by rfl) rfl, inP 28 (by rfl) rfl⟩
set_option maxRecDepth 100000 in
theorem mcX1_joined : MSt yX1_joined YX1_joined 3 := ⟨⟨rfl, ⟨by decide, by decide, by decide +kernel⟩, in1 13 (by rfl) rfl, in4 30 (by rfl) rfl⟩, in4 29 (by rfl) rfl⟩
set_option maxRecDepth 100000 in
theorem mcX1_isPassedBy : MI yX1_isPassedBy YX1_isPassedBy 1 RX1 := ⟨⟨rfl, ⟨by decide, by decide, by decide +kernel⟩, in1 13 (by rfl) rfl, in3 232 (by rfl) rfl⟩, in3 230 (by rfl) rfl, in3 231 (by rfl) rfl⟩
set_option maxRecDepth 100000 in
theorem mcX9_length : MI yX9_length YX9_length 0 RX9 := ⟨⟨rfl, ⟨by decide, by decide, by decide +kernel⟩, in1 4 (by rfl) rfl, in3 148 (by rfl) rfl⟩, in3 146 (by rfl) rfl, in3 147 (by rfl) rfl⟩
set_option maxRecDepth 100000 in
theorem mcX9_push : MI yX9_push YX9_push 1 RX9 := ⟨⟨rfl, ⟨by decide, by decide, by decide +kernel⟩, in1 4 (by rfl) rfl, in3 152 (by rfl) rfl⟩, in3 150 (by rfl) rfl, in3 151 (by rfl) rfl⟩
set_option maxRecDepth 100000 in
theorem mcX9_beEmpty : MI yX9_beEmpty YX9_beEmpty 0 RX9 := ⟨⟨rfl, ⟨by decide, by decide, by decide +kernel⟩, in1 4 (by rfl) rfl, in3 216 (by rfl) rfl⟩, in3 214 (by rfl) rfl, in3 215 (by rfl) rfl⟩
set_option maxRecDepth 100000 in
theorem mcX9_here : MI yX9_here YX9_here 0 RX9 := ⟨⟨rfl, ⟨by decide, by decide, by decide +kernel⟩, in1 4 (by rfl) rfl, in3 176 (by rfl) rfl⟩, in3 175 (by rfl) rfl, inP 19 (by rfl) rfl⟩
set_option maxRecDepth 100000 in
theorem mcX9_goesOnWith : MI yX9_goesOnWith YX9_goesOnWith 1 RX9 := ⟨⟨rfl, ⟨by decide, by decide, by decide +kernel⟩, in1 4 (by rfl) rfl, in3 212 (by rfl) rfl⟩, in3 211 (by rfl) rfl, inP 24 (by rfl) rfl⟩
set_option maxRecDepth 100000 in
theorem mcX9_writeIf : MSt yX9_writeIf YX9_writeIf 3 := ⟨⟨rfl, ⟨by decide, by decide, by decide +kernel⟩, in1 4 (by rfl) rfl, in3 208 (by rfl) rfl⟩, in3 207 (by rfl) rfl⟩
set_option maxRecDepth 100000 in
theorem mcX9_readAny : MI yX9_readAny YX9_readAny 2 RX9 := ⟨⟨rfl, ⟨by decide, by decide, by decide +kernel⟩, in1 4 (by rfl) rfl, in3 168 (by rfl) rfl⟩, in3 167 (by rfl) rfl, inP 17 (by rfl) rfl⟩
set_option maxRecDepth 100000 in
theorem mcX9_isDigit : MSt yX9_isDigit YX9_isDigit 1 := ⟨⟨rfl, ⟨by decide, by decide, by decide +kernel⟩, in1 4 (by rfl) rfl, in3 191 (by rfl) rfl⟩, in3 190 (by rfl) rfl⟩
set_option maxRecDepth 100000 in
theorem mcX9_fail : MI yX9_fail YX9_fail 0 RX9 := ⟨⟨rfl, ⟨by decide, by decide, by decide +kernel⟩, in1 4 (by rfl) rfl, in3 202 (by rfl) rfl⟩, in3 201 (by rfl) rfl, inP 23 (by rfl) rfl⟩
set_option maxRecDepth 100000 in
theorem mcX9_readOperand : MI yX9_readOperand YX9_readOperand 1 RX9 := ⟨⟨rfl, ⟨by decide, by decide, by decide +kernel⟩, in1 4 (by rfl) rfl, in3 188 (by rfl) rfl⟩, in3 187 (by rfl) rfl, inP 22 (by rfl) rfl⟩
set_option maxRecDepth 100000 in
theorem mcX9_isSign : MSt yX9_isSign YX9_isSign 1 := ⟨⟨rfl, ⟨by decide, by decide, by decide +kernel⟩, in1 4 (by rfl) rfl, in3 205 (by rfl) rfl⟩, in3 204 (by rfl) rfl⟩
set_option maxRecDepth 100000 in
theorem mcX9_readSum : MI yX9_readSum YX9_readSum 1 RX9 := ⟨⟨rfl, ⟨by decide, by decide, by decide +kernel⟩, in1 4 (by rfl) rfl, in3 184 (by rfl) rfl⟩, in3 183 (by rfl) rfl, inP 21 (by rfl) rfl⟩
set_option maxRecDepth 100000 in
theorem mcX9_readCompared : MI yX9_readCompared YX9_readCompared 1 RX9 := ⟨⟨rfl, ⟨by decide, by decide, by decide +kernel⟩, in1 4 (by rfl) rfl, in3 180 (by rfl) rfl⟩, in3 179 (by rfl) rfl, inP 20 (by rfl) rfl⟩
set_option maxRecDepth 100000 in
theorem mcX9_readOne : MI yX9_readOne YX9_readOne 2 RX9 := ⟨⟨rfl, ⟨by decide, by decide, by decide +kernel⟩, in1 4 (by rfl) rfl, in3 172 (by rfl) rfl⟩, in3 171 (by rfl) rfl, inP 18 (by rfl) rfl⟩
set_option maxRecDepth 100000 in
theorem mcX9_writeTo : MI yX9_writeTo YX9_writeTo 2 RX9 := ⟨⟨rfl, ⟨by decide, by decide, by decide +kernel⟩, in1 4 (by rfl) rfl, in3 160 (by rfl) rfl⟩, in3 158 (by rfl) rfl, in3 159 (by rfl) rfl⟩
set_option maxRecDepth 100000 in
theorem mcX2_enter : MI yX2_enter YX2_enter 2 RX2 := ⟨⟨rfl, ⟨by decide, by decide, by decide +kernel⟩, in1 8 (by rfl) rfl, in4 224 (by rfl) rfl⟩, in4 223 (by rfl) rfl, inP 33 (by rfl) rfl⟩
set_option maxRecDepth 100000 in
theorem mcX2_take : MI yX2_take YX2_take 5 RX2 := ⟨⟨rfl, ⟨by decide, by decide, by decide +kernel⟩, in1 8 (by rfl) rfl, in4 215 (by rfl) rfl⟩, in4 213 (by rfl) rfl, in4 214 (by rfl) rfl⟩
set_option maxRecDepth 100000 in
theorem mcX2_programs : MI yX2_programs YX2_programs 0 RX2 := ⟨⟨rfl, ⟨by decide, by decide, by decide +kernel⟩, in1 8 (by rfl) rfl, in4 239 (by rfl) rfl⟩, in4 237 (by rfl) rfl, in4 238 (by rfl) rfl⟩
set_option maxRecDepth 100000 in
theorem mcX2_ended : MI yX2_ended YX2_ended 0 RX2 := ⟨⟨rfl, ⟨by decide, by decide, by decide +kernel⟩, in1 8 (by rfl) rfl, in5 3 (by rfl) rfl⟩, in5 1 (by rfl) rfl, in5 2 (by rfl) rfl⟩
set_option maxRecDepth 100000 in
theorem mcX2_hanging : MI yX2_hanging YX2_hanging 0 RX2 := ⟨⟨rfl, ⟨by decide, by decide, by decide +kernel⟩, in1 8 (by rfl) rfl, in5 7 (by rfl) rfl⟩, in5 5 (by rfl) rfl, in5 6 (by rfl) rfl⟩
set_option maxRecDepth 100000 in
theorem mcX2_unsettled : MI yX2_unsettled YX2_unsettled 0 RX2 := ⟨⟨rfl, ⟨by decide, by decide, by decide +kernel⟩, in1 8 (by rfl) rfl, in5 11 (by rfl) rfl⟩, in5 9 (by rfl) rfl, in5 10 (by rfl) rfl⟩
set_option maxRecDepth 100000 in
theorem mcX2_mostSteps : MI yX2_mostSteps YX2_mostSteps 0 RX2 := ⟨⟨rfl, ⟨by decide, by decide, by decide +kernel⟩, in1 8 (by rfl) rfl, in4 231 (by rfl) rfl⟩, in4 229 (by rfl) rfl, in4 230 (by rfl) rfl⟩
set_option maxRecDepth 100000 in
theorem mcX2_slowest : MI yX2_slowest YX2_slowest 0 RX2 := ⟨⟨rfl, ⟨by decide, by decide, by decide +kernel⟩, in1 8 (by rfl) rfl, in4 235 (by rfl) rfl⟩, in4 233 (by rfl) rfl, in4 234 (by rfl) rfl⟩
set_option maxRecDepth 100000 in
theorem mcX2_share : MI yX2_share YX2_share 0 RX2 := ⟨⟨rfl, ⟨by decide, by decide, by decide +kernel⟩, in1 8 (by rfl) rfl, in5 15 (by rfl) rfl⟩, in5 13 (by rfl) rfl, in5 14 (by rfl) rfl⟩
set_option maxRecDepth 100000 in
theorem mcX2_sureBits : MI yX2_sureBits YX2_sureBits 1 RX2 := ⟨⟨rfl, ⟨by decide, by decide, by decide +kernel⟩, in1 8 (by rfl) rfl, in5 19 (by rfl) rfl⟩, in5 17 (by rfl) rfl, in5 18 (by rfl) rfl⟩
set_option maxRecDepth 100000 in
theorem mcX5_takeVote : MI yX5_takeVote YX5_takeVote 3 RX5 := ⟨⟨rfl, ⟨by decide, by decide, by decide +kernel⟩, in1 7 (by rfl) rfl, in4 151 (by rfl) rfl⟩, in4 150 (by rfl) rfl, inP 32 (by rfl) rfl⟩
set_option maxRecDepth 100000 in
theorem mcX5_hold : MI yX5_hold YX5_hold 5 RX5 := ⟨⟨rfl, ⟨by decide, by decide, by decide +kernel⟩, in1 7 (by rfl) rfl, in4 141 (by rfl) rfl⟩, in4 139 (by rfl) rfl, in4 140 (by rfl) rfl⟩
set_option maxRecDepth 100000 in
theorem mcX5_findShortest : MI yX5_findShortest YX5_findShortest 5 RX5 := ⟨⟨rfl, ⟨by decide, by decide, by decide +kernel⟩, in1 7 (by rfl) rfl, in4 189 (by rfl) rfl⟩, in4 187 (by rfl) rfl, in4 188 (by rfl) rfl⟩
set_option maxRecDepth 100000 in
theorem mcX5_votesFor : MI yX5_votesFor YX5_votesFor 1 RX5 := ⟨⟨rfl, ⟨by decide, by decide, by decide +kernel⟩, in1 7 (by rfl) rfl, in4 168 (by rfl) rfl⟩, in4 166 (by rfl) rfl, in4 167 (by rfl) rfl⟩
set_option maxRecDepth 100000 in
theorem mcX5_most : MI yX5_most YX5_most 0 RX5 := ⟨⟨rfl, ⟨by decide, by decide, by decide +kernel⟩, in1 7 (by rfl) rfl, in4 172 (by rfl) rfl⟩, in4 170 (by rfl) rfl, in4 171 (by rfl) rfl⟩
set_option maxRecDepth 100000 in
theorem mcX5_all : MI yX5_all YX5_all 0 RX5 := ⟨⟨rfl, ⟨by decide, by decide, by decide +kernel⟩, in1 7 (by rfl) rfl, in4 177 (by rfl) rfl⟩, in4 175 (by rfl) rfl, in4 176 (by rfl) rfl⟩
set_option maxRecDepth 100000 in
theorem mcX5_open : MI yX5_open YX5_open 0 RX5 := ⟨⟨rfl, ⟨by decide, by decide, by decide +kernel⟩, in1 7 (by rfl) rfl, in4 181 (by rfl) rfl⟩, in4 179 (by rfl) rfl, in4 180 (by rfl) rfl⟩
set_option maxRecDepth 100000 in
theorem mcX5_howManyJust : MI yX5_howManyJust YX5_howManyJust 0 RX5 := ⟨⟨rfl, ⟨by decide, by decide, by decide +kernel⟩, in1 7 (by rfl) rfl, in4 199 (by rfl) rfl⟩, in4 197 (by rfl) rfl, in4 198 (by rfl) rfl⟩
set_option maxRecDepth 100000 in
theorem mcX5_isShown : MI yX5_isShown YX5_isShown 0 RX5 := ⟨⟨rfl, ⟨by decide, by decide, by decide +kernel⟩, in1 7 (by rfl) rfl, in4 203 (by rfl) rfl⟩, in4 201 (by rfl) rfl, in4 202 (by rfl) rfl⟩
set_option maxRecDepth 100000 in
theorem mcX5_shortestOne : MI yX5_shortestOne YX5_shortestOne 0 RX5 := ⟨⟨rfl, ⟨by decide, by decide, by decide +kernel⟩, in1 7 (by rfl) rfl, in4 207 (by rfl) rfl⟩, in4 205 (by rfl) rfl, in4 206 (by rfl) rfl⟩
set_option maxRecDepth 100000 in
theorem mcX7_stepsIn : MSt yX7_stepsIn YX7_stepsIn 2 := ⟨⟨rfl, ⟨by decide, by decide, by decide +kernel⟩, in1 5 (by rfl) rfl, in4 53 (by rfl) rfl⟩, in4 52 (by rfl) rfl⟩
set_option maxRecDepth 100000 in
theorem mcX7_phaseOf : MSt yX7_phaseOf YX7_phaseOf 2 := ⟨⟨rfl, ⟨by decide, by decide, by decide +kernel⟩, in1 5 (by rfl) rfl, in4 63 (by rfl) rfl⟩, in4 62 (by rfl) rfl⟩
set_option maxRecDepth 100000 in
theorem mcX7_findAnswer : MI yX7_findAnswer YX7_findAnswer 4 RX7 := ⟨⟨rfl, ⟨by decide, by decide, by decide +kernel⟩, in1 5 (by rfl) rfl, in4 45 (by rfl) rfl⟩, in4 44 (by rfl) rfl, inP 29 (by rfl) rfl⟩
set_option maxRecDepth 100000 in
theorem mcX7_isAnswer : MI yX7_isAnswer YX7_isAnswer 0 RX7 := ⟨⟨rfl, ⟨by decide, by decide, by decide +kernel⟩, in1 5 (by rfl) rfl, in4 72 (by rfl) rfl⟩, in4 71 (by rfl) rfl, inP 31 (by rfl) rfl⟩
set_option maxRecDepth 100000 in
theorem mcX7_addUp : MI yX7_addUp YX7_addUp 4 RX7 := ⟨⟨rfl, ⟨by decide, by decide, by decide +kernel⟩, in1 5 (by rfl) rfl, in4 67 (by rfl) rfl⟩, in4 66 (by rfl) rfl, inP 30 (by rfl) rfl⟩
set_option maxRecDepth 100000 in
theorem mcX7_look : MI yX7_look YX7_look 4 RX7 := ⟨⟨rfl, ⟨by decide, by decide, by decide +kernel⟩, in1 5 (by rfl) rfl, in4 41 (by rfl) rfl⟩, in4 39 (by rfl) rfl, in4 40 (by rfl) rfl⟩
set_option maxRecDepth 100000 in
theorem mcX7_hasAnswer : MI yX7_hasAnswer YX7_hasAnswer 0 RX7 := ⟨⟨rfl, ⟨by decide, by decide, by decide +kernel⟩, in1 5 (by rfl) rfl, in4 78 (by rfl) rfl⟩, in4 76 (by rfl) rfl, in4 77 (by rfl) rfl⟩
set_option maxRecDepth 100000 in
theorem mcX7_answer : MI yX7_answer YX7_answer 0 RX7 := ⟨⟨rfl, ⟨by decide, by decide, by decide +kernel⟩, in1 5 (by rfl) rfl, in4 82 (by rfl) rfl⟩, in4 80 (by rfl) rfl, in4 81 (by rfl) rfl⟩
set_option maxRecDepth 100000 in
theorem mcX7_phase : MI yX7_phase YX7_phase 0 RX7 := ⟨⟨rfl, ⟨by decide, by decide, by decide +kernel⟩, in1 5 (by rfl) rfl, in4 86 (by rfl) rfl⟩, in4 84 (by rfl) rfl, in4 85 (by rfl) rfl⟩
set_option maxRecDepth 100000 in
theorem mcX7_answerSteps : MI yX7_answerSteps YX7_answerSteps 0 RX7 := ⟨⟨rfl, ⟨by decide, by decide, by decide +kernel⟩, in1 5 (by rfl) rfl, in4 98 (by rfl) rfl⟩, in4 96 (by rfl) rfl, in4 97 (by rfl) rfl⟩
set_option maxRecDepth 100000 in
theorem mcX7_sum : MI yX7_sum YX7_sum 0 RX7 := ⟨⟨rfl, ⟨by decide, by decide, by decide +kernel⟩, in1 5 (by rfl) rfl, in4 94 (by rfl) rfl⟩, in4 92 (by rfl) rfl, in4 93 (by rfl) rfl⟩
set_option maxRecDepth 100000 in
theorem mcX7_begun : MI yX7_begun YX7_begun 0 RX7 := ⟨⟨rfl, ⟨by decide, by decide, by decide +kernel⟩, in1 5 (by rfl) rfl, in4 106 (by rfl) rfl⟩, in4 104 (by rfl) rfl, in4 105 (by rfl) rfl⟩
set_option maxRecDepth 100000 in
theorem mcX7_hanging : MI yX7_hanging YX7_hanging 0 RX7 := ⟨⟨rfl, ⟨by decide, by decide, by decide +kernel⟩, in1 5 (by rfl) rfl, in4 110 (by rfl) rfl⟩, in4 108 (by rfl) rfl, in4 109 (by rfl) rfl⟩
set_option maxRecDepth 100000 in
theorem mcX7_factor : MI yX7_factor YX7_factor 0 RX7 := ⟨⟨rfl, ⟨by decide, by decide, by decide +kernel⟩, in1 5 (by rfl) rfl, in4 102 (by rfl) rfl⟩, in4 100 (by rfl) rfl, in4 101 (by rfl) rfl⟩
set_option maxRecDepth 100000 in
theorem mcX11_sumOfDigits : MSt yX11_sumOfDigits YX11_sumOfDigits 1 := ⟨⟨rfl, ⟨by decide, by decide, by decide +kernel⟩, in1 1 (by rfl) rfl, in2 132 (by rfl) rfl⟩, in2 131 (by rfl) rfl⟩
set_option maxRecDepth 100000 in
theorem mcX11_language : MI yX11_language YX11_language 1 RX11 := ⟨⟨rfl, ⟨by decide, by decide, by decide +kernel⟩, in1 1 (by rfl) rfl, in2 129 (by rfl) rfl⟩, in2 127 (by rfl) rfl, in2 128 (by rfl) rfl⟩
set_option maxRecDepth 100000 in
theorem mcX11_languageAt : MI yX11_languageAt YX11_languageAt 1 RX11 := ⟨⟨rfl, ⟨by decide, by decide, by decide +kernel⟩, in1 1 (by rfl) rfl, in2 171 (by rfl) rfl⟩, in2 170 (by rfl) rfl, inP 5 (by rfl) rfl⟩
set_option maxRecDepth 100000 in
theorem mcX11_of : MI yX11_of YX11_of 2 RX11 := ⟨⟨rfl, ⟨by decide, by decide, by decide +kernel⟩, in1 1 (by rfl) rfl, in2 167 (by rfl) rfl⟩, in2 165 (by rfl) rfl, in2 166 (by rfl) rfl⟩
set_option maxRecDepth 100000 in
theorem mcX11_part : MI yX11_part YX11_part 3 RX11 := ⟨⟨rfl, ⟨by decide, by decide, by decide +kernel⟩, in1 1 (by rfl) rfl, in2 192 (by rfl) rfl⟩, in2 190 (by rfl) rfl, in2 191 (by rfl) rfl⟩
set_option maxRecDepth 100000 in
theorem mcX11_clear : MI yX11_clear YX11_clear 0 RX11 := ⟨⟨rfl, ⟨by decide, by decide, by decide +kernel⟩, in1 1 (by rfl) rfl, in2 204 (by rfl) rfl⟩, in2 202 (by rfl) rfl, in2 203 (by rfl) rfl⟩
set_option maxRecDepth 100000 in
theorem mcX11_add : MI yX11_add YX11_add 1 RX11 := ⟨⟨rfl, ⟨by decide, by decide, by decide +kernel⟩, in1 1 (by rfl) rfl, in2 216 (by rfl) rfl⟩, in2 214 (by rfl) rfl, in2 215 (by rfl) rfl⟩
set_option maxRecDepth 100000 in
theorem mcX11_order : MI yX11_order YX11_order 1 RX11 := ⟨⟨rfl, ⟨by decide, by decide, by decide +kernel⟩, in1 1 (by rfl) rfl, in2 232 (by rfl) rfl⟩, in2 230 (by rfl) rfl, in2 231 (by rfl) rfl⟩
set_option maxRecDepth 100000 in
theorem mcX11_size : MI yX11_size YX11_size 1 RX11 := ⟨⟨rfl, ⟨by decide, by decide, by decide +kernel⟩, in1 1 (by rfl) rfl, in2 237 (by rfl) rfl⟩, in2 235 (by rfl) rfl, in2 236 (by rfl) rfl⟩
set_option maxRecDepth 100000 in
theorem mcX11_decoded : MI yX11_decoded YX11_decoded 3 RX11 := ⟨⟨rfl, ⟨by decide, by decide, by decide +kernel⟩, in1 1 (by rfl) rfl, in3 30 (by rfl) rfl⟩, in3 29 (by rfl) rfl, inP 6 (by rfl) rfl⟩
set_option maxRecDepth 100000 in
theorem mcX11_read : MI yX11_read YX11_read 3 RX11 := ⟨⟨rfl, ⟨by decide, by decide, by decide +kernel⟩, in1 1 (by rfl) rfl, in3 9 (by rfl) rfl⟩, in3 7 (by rfl) rfl, in3 8 (by rfl) rfl⟩
set_option maxRecDepth 100000 in
theorem mcX11_isNumber : MSt yX11_isNumber YX11_isNumber 1 := ⟨⟨rfl, ⟨by decide, by decide, by decide +kernel⟩, in1 1 (by rfl) rfl, in3 57 (by rfl) rfl⟩, in3 56 (by rfl) rfl⟩
set_option maxRecDepth 100000 in
theorem mcX11_run : MI yX11_run YX11_run 3 RX11 := ⟨⟨rfl, ⟨by decide, by decide, by decide +kernel⟩, in1 1 (by rfl) rfl, in3 54 (by rfl) rfl⟩, in3 52 (by rfl) rfl, in3 53 (by rfl) rfl⟩
set_option maxRecDepth 100000 in
theorem mcX11_ran : MI yX11_ran YX11_ran 1 RX11 := ⟨⟨rfl, ⟨by decide, by decide, by decide +kernel⟩, in1 1 (by rfl) rfl, in3 106 (by rfl) rfl⟩, in3 104 (by rfl) rfl, in3 105 (by rfl) rfl⟩
set_option maxRecDepth 100000 in
theorem mcX11_next : MI yX11_next YX11_next 1 RX11 := ⟨⟨rfl, ⟨by decide, by decide, by decide +kernel⟩, in1 1 (by rfl) rfl, in3 110 (by rfl) rfl⟩, in3 108 (by rfl) rfl, in3 109 (by rfl) rfl⟩
set_option maxRecDepth 100000 in
theorem mcX11_feed : MI yX11_feed YX11_feed 2 RX11 := ⟨⟨rfl, ⟨by decide, by decide, by decide +kernel⟩, in1 1 (by rfl) rfl, in3 144 (by rfl) rfl⟩, in3 142 (by rfl) rfl, in3 143 (by rfl) rfl⟩
set_option maxRecDepth 100000 in
theorem mcX11_task : MI yX11_task YX11_task 1 RX11 := ⟨⟨rfl, ⟨by decide, by decide, by decide +kernel⟩, in1 1 (by rfl) rfl, in3 156 (by rfl) rfl⟩, in3 154 (by rfl) rfl, in3 155 (by rfl) rfl⟩
set_option maxRecDepth 100000 in
theorem mcX11_taskAt : MI yX11_taskAt YX11_taskAt 1 RX11 := ⟨⟨rfl, ⟨by decide, by decide, by decide +kernel⟩, in1 1 (by rfl) rfl, in3 224 (by rfl) rfl⟩, in3 223 (by rfl) rfl, inP 25 (by rfl) rfl⟩
set_option maxRecDepth 100000 in
theorem mcX11_passes : MI yX11_passes YX11_passes 3 RX11 := ⟨⟨rfl, ⟨by decide, by decide, by decide +kernel⟩, in1 1 (by rfl) rfl, in3 220 (by rfl) rfl⟩, in3 218 (by rfl) rfl, in3 219 (by rfl) rfl⟩
set_option maxRecDepth 100000 in
theorem mcX11_isPhase : MSt yX11_isPhase YX11_isPhase 1 := ⟨⟨rfl, ⟨by decide, by decide, by decide +kernel⟩, in1 1 (by rfl) rfl, in4 37 (by rfl) rfl⟩, in4 36 (by rfl) rfl⟩
set_option maxRecDepth 100000 in
theorem mcX11_search : MI yX11_search YX11_search 3 RX11 := ⟨⟨rfl, ⟨by decide, by decide, by decide +kernel⟩, in1 1 (by rfl) rfl, in4 34 (by rfl) rfl⟩, in4 32 (by rfl) rfl, in4 33 (by rfl) rfl⟩
set_option maxRecDepth 100000 in
theorem mcX11_searched : MI yX11_searched YX11_searched 1 RX11 := ⟨⟨rfl, ⟨by decide, by decide, by decide +kernel⟩, in1 1 (by rfl) rfl, in4 90 (by rfl) rfl⟩, in4 88 (by rfl) rfl, in4 89 (by rfl) rfl⟩
set_option maxRecDepth 100000 in
theorem mcX11_say : MI yX11_say YX11_say 1 RX11 := ⟨⟨rfl, ⟨by decide, by decide, by decide +kernel⟩, in1 1 (by rfl) rfl, in4 114 (by rfl) rfl⟩, in4 112 (by rfl) rfl, in4 113 (by rfl) rfl⟩
set_option maxRecDepth 100000 in
theorem mcX11_unsay : MI yX11_unsay YX11_unsay 0 RX11 := ⟨⟨rfl, ⟨by decide, by decide, by decide +kernel⟩, in1 1 (by rfl) rfl, in4 126 (by rfl) rfl⟩, in4 124 (by rfl) rfl, in4 125 (by rfl) rfl⟩
set_option maxRecDepth 100000 in
theorem mcX11_isSizeAndSteps : MSt yX11_isSizeAndSteps YX11_isSizeAndSteps 1 := ⟨⟨rfl, ⟨by decide, by decide, by decide +kernel⟩, in1 1 (by rfl) rfl, in4 137 (by rfl) rfl⟩, in4 136 (by rfl) rfl⟩
set_option maxRecDepth 100000 in
theorem mcX11_votes : MI yX11_votes YX11_votes 4 RX11 := ⟨⟨rfl, ⟨by decide, by decide, by decide +kernel⟩, in1 1 (by rfl) rfl, in4 134 (by rfl) rfl⟩, in4 132 (by rfl) rfl, in4 133 (by rfl) rfl⟩
set_option maxRecDepth 100000 in
theorem mcX11_shortest : MI yX11_shortest YX11_shortest 3 RX11 := ⟨⟨rfl, ⟨by decide, by decide, by decide +kernel⟩, in1 1 (by rfl) rfl, in4 185 (by rfl) rfl⟩, in4 183 (by rfl) rfl, in4 184 (by rfl) rfl⟩
set_option maxRecDepth 100000 in
theorem mcX11_census : MI yX11_census YX11_census 4 RX11 := ⟨⟨rfl, ⟨by decide, by decide, by decide +kernel⟩, in1 1 (by rfl) rfl, in4 211 (by rfl) rfl⟩, in4 209 (by rfl) rfl, in4 210 (by rfl) rfl⟩
set_option maxRecDepth 100000 in
theorem mcX11_helped : MI yX11_helped YX11_helped 1 RX11 := ⟨⟨rfl, ⟨by decide, by decide, by decide +kernel⟩, in1 1 (by rfl) rfl, in5 24 (by rfl) rfl⟩, in5 22 (by rfl) rfl, in5 23 (by rfl) rfl⟩
set_option maxRecDepth 100000 in
theorem mcX11_isPart : MI yX11_isPart YX11_isPart 2 RX11 := ⟨⟨rfl, ⟨by decide, by decide, by decide +kernel⟩, in1 1 (by rfl) rfl, in5 46 (by rfl) rfl⟩, in5 45 (by rfl) rfl, inP 35 (by rfl) rfl⟩
set_option maxRecDepth 100000 in
theorem mcX11_learn : MI yX11_learn YX11_learn 4 RX11 := ⟨⟨rfl, ⟨by decide, by decide, by decide +kernel⟩, in1 1 (by rfl) rfl, in5 42 (by rfl) rfl⟩, in5 40 (by rfl) rfl, in5 41 (by rfl) rfl⟩
set_option maxRecDepth 100000 in
theorem mcX11_cheaper : MI yX11_cheaper YX11_cheaper 4 RX11 := ⟨⟨rfl, ⟨by decide, by decide, by decide +kernel⟩, in1 1 (by rfl) rfl, in5 54 (by rfl) rfl⟩, in5 52 (by rfl) rfl, in5 53 (by rfl) rfl⟩
set_option maxRecDepth 100000 in
theorem mcX11_price : MI yX11_price YX11_price 2 RX11 := ⟨⟨rfl, ⟨by decide, by decide, by decide +kernel⟩, in1 1 (by rfl) rfl, in5 59 (by rfl) rfl⟩, in5 57 (by rfl) rfl, in5 58 (by rfl) rfl⟩
set_option maxRecDepth 100000 in
theorem mcX11_translated : MI yX11_translated YX11_translated 2 RX11 := ⟨⟨rfl, ⟨by decide, by decide, by decide +kernel⟩, in1 1 (by rfl) rfl, in5 64 (by rfl) rfl⟩, in5 62 (by rfl) rfl, in5 63 (by rfl) rfl⟩
set_option maxRecDepth 100000 in
theorem mcX11_languageOfOrder : MI yX11_languageOfOrder YX11_languageOfOrder 1 RX11 := ⟨⟨rfl, ⟨by decide, by decide, by decide +kernel⟩, in1 1 (by rfl) rfl, in5 76 (by rfl) rfl⟩, in5 75 (by rfl) rfl, inP 36 (by rfl) rfl⟩
set_option maxRecDepth 100000 in
theorem mcX11_act : MI yX11_act YX11_act 3 RX11 := ⟨⟨rfl, ⟨by decide, by decide, by decide +kernel⟩, in1 1 (by rfl) rfl, in5 68 (by rfl) rfl⟩, in5 66 (by rfl) rfl, in5 67 (by rfl) rfl⟩
set_option maxRecDepth 100000 in
theorem mcX11_trace : MI yX11_trace YX11_trace 1 RX11 := ⟨⟨rfl, ⟨by decide, by decide, by decide +kernel⟩, in1 1 (by rfl) rfl, in5 108 (by rfl) rfl⟩, in5 106 (by rfl) rfl, in5 107 (by rfl) rfl⟩
set_option maxRecDepth 100000 in
theorem mcX11_keep : MI yX11_keep YX11_keep 2 RX11 := ⟨⟨rfl, ⟨by decide, by decide, by decide +kernel⟩, in1 1 (by rfl) rfl, in5 116 (by rfl) rfl⟩, in5 114 (by rfl) rfl, in5 115 (by rfl) rfl⟩
set_option maxRecDepth 100000 in
theorem mcX11_row : MI yX11_row YX11_row 3 RX11 := ⟨⟨rfl, ⟨by decide, by decide, by decide +kernel⟩, in1 1 (by rfl) rfl, in5 135 (by rfl) rfl⟩, in5 133 (by rfl) rfl, in5 134 (by rfl) rfl⟩
set_option maxRecDepth 100000 in
theorem mcX11_hasPlaces : MI yX11_hasPlaces YX11_hasPlaces 3 RX11 := ⟨⟨rfl, ⟨by decide, by decide, by decide +kernel⟩, in1 1 (by rfl) rfl, in5 155 (by rfl) rfl⟩, in5 154 (by rfl) rfl, inP 42 (by rfl) rfl⟩
set_option maxRecDepth 100000 in
theorem mcX11_refusalAt : MI yX11_refusalAt YX11_refusalAt 2 RX11 := ⟨⟨rfl, ⟨by decide, by decide, by decide +kernel⟩, in1 1 (by rfl) rfl, in5 147 (by rfl) rfl⟩, in5 146 (by rfl) rfl, inP 41 (by rfl) rfl⟩
set_option maxRecDepth 100000 in
theorem mcX11_put : MI yX11_put YX11_put 3 RX11 := ⟨⟨rfl, ⟨by decide, by decide, by decide +kernel⟩, in1 1 (by rfl) rfl, in5 143 (by rfl) rfl⟩, in5 141 (by rfl) rfl, in5 142 (by rfl) rfl⟩
set_option maxRecDepth 100000 in
theorem mcX11_element : MI yX11_element YX11_element 2 RX11 := ⟨⟨rfl, ⟨by decide, by decide, by decide +kernel⟩, in1 1 (by rfl) rfl, in5 166 (by rfl) rfl⟩, in5 164 (by rfl) rfl, in5 165 (by rfl) rfl⟩
set_option maxRecDepth 100000 in
theorem mcX11_shift : MI yX11_shift YX11_shift 5 RX11 := ⟨⟨rfl, ⟨by decide, by decide, by decide +kernel⟩, in1 1 (by rfl) rfl, in5 171 (by rfl) rfl⟩, in5 169 (by rfl) rfl, in5 170 (by rfl) rfl⟩
set_option maxRecDepth 100000 in
theorem mcX11_taken : MI yX11_taken YX11_taken 2 RX11 := ⟨⟨rfl, ⟨by decide, by decide, by decide +kernel⟩, in1 1 (by rfl) rfl, in5 181 (by rfl) rfl⟩, in5 179 (by rfl) rfl, in5 180 (by rfl) rfl⟩
set_option maxRecDepth 100000 in
theorem mcX11_count : MI yX11_count YX11_count 1 RX11 := ⟨⟨rfl, ⟨by decide, by decide, by decide +kernel⟩, in1 1 (by rfl) rfl, in5 193 (by rfl) rfl⟩, in5 191 (by rfl) rfl, in5 192 (by rfl) rfl⟩
set_option maxRecDepth 100000 in
theorem mcX12_within : MSt yX12_within YX12_within 3 := ⟨⟨rfl, ⟨by decide, by decide, by decide +kernel⟩, in1 14 (by rfl) rfl, in6 168 (by rfl) rfl⟩, in6 167 (by rfl) rfl⟩
set_option maxRecDepth 100000 in
theorem mcX12_isLanguage : MI yX12_isLanguage YX12_isLanguage 1 RX12 := ⟨⟨rfl, ⟨by decide, by decide, by decide +kernel⟩, in1 14 (by rfl) rfl, in6 184 (by rfl) rfl⟩, in6 183 (by rfl) rfl, inP 45 (by rfl) rfl⟩
set_option maxRecDepth 100000 in
theorem mcX12_ordersOf : MI yX12_ordersOf YX12_ordersOf 1 RX12 := ⟨⟨rfl, ⟨by decide, by decide, by decide +kernel⟩, in1 14 (by rfl) rfl, in6 176 (by rfl) rfl⟩, in6 175 (by rfl) rfl, inP 44 (by rfl) rfl⟩
set_option maxRecDepth 100000 in
theorem mcX12_hasOrder : MI yX12_hasOrder YX12_hasOrder 2 RX12 := ⟨⟨rfl, ⟨by decide, by decide, by decide +kernel⟩, in1 14 (by rfl) rfl, in6 192 (by rfl) rfl⟩, in6 191 (by rfl) rfl, inP 47 (by rfl) rfl⟩
set_option maxRecDepth 100000 in
theorem mcX12_sumOf : MI yX12_sumOf YX12_sumOf 1 RX12 := ⟨⟨rfl, ⟨by decide, by decide, by decide +kernel⟩, in1 14 (by rfl) rfl, in6 188 (by rfl) rfl⟩, in6 187 (by rfl) rfl, inP 46 (by rfl) rfl⟩
set_option maxRecDepth 100000 in
theorem mcX12_giveCodes : MI yX12_giveCodes YX12_giveCodes 1 RX12 := ⟨⟨rfl, ⟨by decide, by decide, by decide +kernel⟩, in1 14 (by rfl) rfl, in6 172 (by rfl) rfl⟩, in6 171 (by rfl) rfl, inP 43 (by rfl) rfl⟩
set_option maxRecDepth 100000 in
theorem mcX12_language : MI yX12_language YX12_language 1 RX12 := ⟨⟨rfl, ⟨by decide, by decide, by decide +kernel⟩, in1 14 (by rfl) rfl, in6 164 (by rfl) rfl⟩, in6 162 (by rfl) rfl, in6 163 (by rfl) rfl⟩
set_option maxRecDepth 100000 in
theorem mcX12_of : MI yX12_of YX12_of 2 RX12 := ⟨⟨rfl, ⟨by decide, by decide, by decide +kernel⟩, in1 14 (by rfl) rfl, in6 180 (by rfl) rfl⟩, in6 178 (by rfl) rfl, in6 179 (by rfl) rfl⟩
set_option maxRecDepth 100000 in
theorem mcX12_part : MI yX12_part YX12_part 3 RX12 := ⟨⟨rfl, ⟨by decide, by decide, by decide +kernel⟩, in1 14 (by rfl) rfl, in6 196 (by rfl) rfl⟩, in6 194 (by rfl) rfl, in6 195 (by rfl) rfl⟩
set_option maxRecDepth 100000 in
theorem mcX12_clear : MI yX12_clear YX12_clear 0 RX12 := ⟨⟨rfl, ⟨by decide, by decide, by decide +kernel⟩, in1 14 (by rfl) rfl, in6 200 (by rfl) rfl⟩, in6 198 (by rfl) rfl, in6 199 (by rfl) rfl⟩
set_option maxRecDepth 100000 in
theorem mcX12_add : MI yX12_add YX12_add 1 RX12 := ⟨⟨rfl, ⟨by decide, by decide, by decide +kernel⟩, in1 14 (by rfl) rfl, in6 204 (by rfl) rfl⟩, in6 202 (by rfl) rfl, in6 203 (by rfl) rfl⟩
set_option maxRecDepth 100000 in
theorem mcX12_order : MI yX12_order YX12_order 1 RX12 := ⟨⟨rfl, ⟨by decide, by decide, by decide +kernel⟩, in1 14 (by rfl) rfl, in6 209 (by rfl) rfl⟩, in6 207 (by rfl) rfl, in6 208 (by rfl) rfl⟩
set_option maxRecDepth 100000 in
theorem mcX12_isProgram : MI yX12_isProgram YX12_isProgram 1 RX12 := ⟨⟨rfl, ⟨by decide, by decide, by decide +kernel⟩, in1 14 (by rfl) rfl, in6 217 (by rfl) rfl⟩, in6 216 (by rfl) rfl, inP 48 (by rfl) rfl⟩
set_option maxRecDepth 100000 in
theorem mcX12_sizeIn : MI yX12_sizeIn YX12_sizeIn 1 RX12 := ⟨⟨rfl, ⟨by decide, by decide, by decide +kernel⟩, in1 14 (by rfl) rfl, in6 221 (by rfl) rfl⟩, in6 220 (by rfl) rfl, inP 49 (by rfl) rfl⟩
set_option maxRecDepth 100000 in
theorem mcX12_size : MI yX12_size YX12_size 1 RX12 := ⟨⟨rfl, ⟨by decide, by decide, by decide +kernel⟩, in1 14 (by rfl) rfl, in6 213 (by rfl) rfl⟩, in6 211 (by rfl) rfl, in6 212 (by rfl) rfl⟩
set_option maxRecDepth 100000 in
theorem mcX12_packed : MI yX12_packed YX12_packed 0 RX12 := ⟨⟨rfl, ⟨by decide, by decide, by decide +kernel⟩, in1 14 (by rfl) rfl, in6 230 (by rfl) rfl⟩, in6 229 (by rfl) rfl, inP 50 (by rfl) rfl⟩
set_option maxRecDepth 100000 in
theorem mcX12_lookAt : MI yX12_lookAt YX12_lookAt 1 RX12 := ⟨⟨rfl, ⟨by decide, by decide, by decide +kernel⟩, in1 14 (by rfl) rfl, in7 31 (by rfl) rfl⟩, in7 30 (by rfl) rfl, inP 58 (by rfl) rfl⟩
set_option maxRecDepth 100000 in
theorem mcX12_write : MI yX12_write YX12_write 2 RX12 := ⟨⟨rfl, ⟨by decide, by decide, by decide +kernel⟩, in1 14 (by rfl) rfl, in6 238 (by rfl) rfl⟩, in6 237 (by rfl) rfl, inP 52 (by rfl) rfl⟩
set_option maxRecDepth 100000 in
theorem mcX12_start : MI yX12_start YX12_start 1 RX12 := ⟨⟨rfl, ⟨by decide, by decide, by decide +kernel⟩, in1 14 (by rfl) rfl, in7 3 (by rfl) rfl⟩, in7 2 (by rfl) rfl, inP 53 (by rfl) rfl⟩
set_option maxRecDepth 100000 in
theorem mcX12_cameSo : MI yX12_cameSo YX12_cameSo 0 RX12 := ⟨⟨rfl, ⟨by decide, by decide, by decide +kernel⟩, in1 14 (by rfl) rfl, in7 11 (by rfl) rfl⟩, in7 10 (by rfl) rfl, inP 55 (by rfl) rfl⟩
set_option maxRecDepth 100000 in
theorem mcX12_step : MI yX12_step YX12_step 0 RX12 := ⟨⟨rfl, ⟨by decide, by decide, by decide +kernel⟩, in1 14 (by rfl) rfl, in7 7 (by rfl) rfl⟩, in7 6 (by rfl) rfl, inP 54 (by rfl) rfl⟩
set_option maxRecDepth 100000 in
theorem mcX12_runFor : MI yX12_runFor YX12_runFor 4 RX12 := ⟨⟨rfl, ⟨by decide, by decide, by decide +kernel⟩, in1 14 (by rfl) rfl, in6 234 (by rfl) rfl⟩, in6 233 (by rfl) rfl, inP 51 (by rfl) rfl⟩
set_option maxRecDepth 100000 in
theorem mcX12_run : MI yX12_run YX12_run 3 RX12 := ⟨⟨rfl, ⟨by decide, by decide, by decide +kernel⟩, in1 14 (by rfl) rfl, in6 225 (by rfl) rfl⟩, in6 223 (by rfl) rfl, in6 224 (by rfl) rfl⟩
set_option maxRecDepth 100000 in
theorem mcX12_ran : MI yX12_ran YX12_ran 1 RX12 := ⟨⟨rfl, ⟨by decide, by decide, by decide +kernel⟩, in1 14 (by rfl) rfl, in7 15 (by rfl) rfl⟩, in7 13 (by rfl) rfl, in7 14 (by rfl) rfl⟩
set_option maxRecDepth 100000 in
theorem mcX12_listFrom : MI yX12_listFrom YX12_listFrom 5 RX12 := ⟨⟨rfl, ⟨by decide, by decide, by decide +kernel⟩, in1 14 (by rfl) rfl, in7 27 (by rfl) rfl⟩, in7 26 (by rfl) rfl, inP 57 (by rfl) rfl⟩
set_option maxRecDepth 100000 in
theorem mcX12_listAll : MI yX12_listAll YX12_listAll 2 RX12 := ⟨⟨rfl, ⟨by decide, by decide, by decide +kernel⟩, in1 14 (by rfl) rfl, in7 23 (by rfl) rfl⟩, in7 22 (by rfl) rfl, inP 56 (by rfl) rfl⟩
set_option maxRecDepth 100000 in
theorem mcX12_next : MI yX12_next YX12_next 1 RX12 := ⟨⟨rfl, ⟨by decide, by decide, by decide +kernel⟩, in1 14 (by rfl) rfl, in7 19 (by rfl) rfl⟩, in7 17 (by rfl) rfl, in7 18 (by rfl) rfl⟩
set_option maxRecDepth 100000 in
theorem mcX12_feed : MI yX12_feed YX12_feed 2 RX12 := ⟨⟨rfl, ⟨by decide, by decide, by decide +kernel⟩, in1 14 (by rfl) rfl, in7 35 (by rfl) rfl⟩, in7 33 (by rfl) rfl, in7 34 (by rfl) rfl⟩
set_option maxRecDepth 100000 in
theorem mcX12_byteAt : MI yX12_byteAt YX12_byteAt 0 RX12 := ⟨⟨rfl, ⟨by decide, by decide, by decide +kernel⟩, in1 14 (by rfl) rfl, in7 60 (by rfl) rfl⟩, in7 59 (by rfl) rfl, inP 63 (by rfl) rfl⟩
set_option maxRecDepth 100000 in
theorem mcX12_wrong : MI yX12_wrong YX12_wrong 0 RX12 := ⟨⟨rfl, ⟨by decide, by decide, by decide +kernel⟩, in1 14 (by rfl) rfl, in7 64 (by rfl) rfl⟩, in7 63 (by rfl) rfl, inP 64 (by rfl) rfl⟩
set_option maxRecDepth 100000 in
theorem mcX12_takes : MI yX12_takes YX12_takes 1 RX12 := ⟨⟨rfl, ⟨by decide, by decide, by decide +kernel⟩, in1 14 (by rfl) rfl, in7 68 (by rfl) rfl⟩, in7 67 (by rfl) rfl, inP 65 (by rfl) rfl⟩
set_option maxRecDepth 100000 in
theorem mcX12_both : MI yX12_both YX12_both 0 RX12 := ⟨⟨rfl, ⟨by decide, by decide, by decide +kernel⟩, in1 14 (by rfl) rfl, in7 52 (by rfl) rfl⟩, in7 51 (by rfl) rfl, inP 61 (by rfl) rfl⟩
set_option maxRecDepth 100000 in
theorem mcX12_either : MI yX12_either YX12_either 0 RX12 := ⟨⟨rfl, ⟨by decide, by decide, by decide +kernel⟩, in1 14 (by rfl) rfl, in7 48 (by rfl) rfl⟩, in7 47 (by rfl) rfl, inP 60 (by rfl) rfl⟩
set_option maxRecDepth 100000 in
theorem mcX12_named : MI yX12_named YX12_named 1 RX12 := ⟨⟨rfl, ⟨by decide, by decide, by decide +kernel⟩, in1 14 (by rfl) rfl, in7 84 (by rfl) rfl⟩, in7 83 (by rfl) rfl, inP 69 (by rfl) rfl⟩
set_option maxRecDepth 100000 in
theorem mcX12_one : MI yX12_one YX12_one 0 RX12 := ⟨⟨rfl, ⟨by decide, by decide, by decide +kernel⟩, in1 14 (by rfl) rfl, in7 80 (by rfl) rfl⟩, in7 79 (by rfl) rfl, inP 68 (by rfl) rfl⟩
set_option maxRecDepth 100000 in
theorem mcX12_product : MI yX12_product YX12_product 0 RX12 := ⟨⟨rfl, ⟨by decide, by decide, by decide +kernel⟩, in1 14 (by rfl) rfl, in7 76 (by rfl) rfl⟩, in7 75 (by rfl) rfl, inP 67 (by rfl) rfl⟩
set_option maxRecDepth 100000 in
theorem mcX12_sums : MI yX12_sums YX12_sums 0 RX12 := ⟨⟨rfl, ⟨by decide, by decide, by decide +kernel⟩, in1 14 (by rfl) rfl, in7 72 (by rfl) rfl⟩, in7 71 (by rfl) rfl, inP 66 (by rfl) rfl⟩
set_option maxRecDepth 100000 in
theorem mcX12_turned : MI yX12_turned YX12_turned 0 RX12 := ⟨⟨rfl, ⟨by decide, by decide, by decide +kernel⟩, in1 14 (by rfl) rfl, in7 56 (by rfl) rfl⟩, in7 55 (by rfl) rfl, inP 62 (by rfl) rfl⟩
set_option maxRecDepth 100000 in
theorem mcX12_workOut : MI yX12_workOut YX12_workOut 2 RX12 := ⟨⟨rfl, ⟨by decide, by decide, by decide +kernel⟩, in1 14 (by rfl) rfl, in7 44 (by rfl) rfl⟩, in7 43 (by rfl) rfl, inP 59 (by rfl) rfl⟩
set_option maxRecDepth 100000 in
theorem mcX12_task : MI yX12_task YX12_task 1 RX12 := ⟨⟨rfl, ⟨by decide, by decide, by decide +kernel⟩, in1 14 (by rfl) rfl, in7 40 (by rfl) rfl⟩, in7 38 (by rfl) rfl, in7 39 (by rfl) rfl⟩
set_option maxRecDepth 100000 in
theorem mcX12_isTask : MI yX12_isTask YX12_isTask 1 RX12 := ⟨⟨rfl, ⟨by decide, by decide, by decide +kernel⟩, in1 14 (by rfl) rfl, in7 92 (by rfl) rfl⟩, in7 91 (by rfl) rfl, inP 70 (by rfl) rfl⟩
set_option maxRecDepth 100000 in
theorem mcX12_isPassed : MI yX12_isPassed YX12_isPassed 1 RX12 := ⟨⟨rfl, ⟨by decide, by decide, by decide +kernel⟩, in1 14 (by rfl) rfl, in7 96 (by rfl) rfl⟩, in7 95 (by rfl) rfl, inP 71 (by rfl) rfl⟩
set_option maxRecDepth 100000 in
theorem mcX12_passes : MI yX12_passes YX12_passes 3 RX12 := ⟨⟨rfl, ⟨by decide, by decide, by decide +kernel⟩, in1 14 (by rfl) rfl, in7 88 (by rfl) rfl⟩, in7 86 (by rfl) rfl, in7 87 (by rfl) rfl⟩
set_option maxRecDepth 100000 in
theorem mcX12_find : MI yX12_find YX12_find 3 RX12 := ⟨⟨rfl, ⟨by decide, by decide, by decide +kernel⟩, in1 14 (by rfl) rfl, in7 105 (by rfl) rfl⟩, in7 104 (by rfl) rfl, inP 72 (by rfl) rfl⟩
set_option maxRecDepth 100000 in
theorem mcX12_search : MI yX12_search YX12_search 3 RX12 := ⟨⟨rfl, ⟨by decide, by decide, by decide +kernel⟩, in1 14 (by rfl) rfl, in7 100 (by rfl) rfl⟩, in7 98 (by rfl) rfl, in7 99 (by rfl) rfl⟩
set_option maxRecDepth 100000 in
theorem mcX12_searched : MI yX12_searched YX12_searched 1 RX12 := ⟨⟨rfl, ⟨by decide, by decide, by decide +kernel⟩, in1 14 (by rfl) rfl, in7 109 (by rfl) rfl⟩, in7 107 (by rfl) rfl, in7 108 (by rfl) rfl⟩
set_option maxRecDepth 100000 in
theorem mcX12_say : MI yX12_say YX12_say 1 RX12 := ⟨⟨rfl, ⟨by decide, by decide, by decide +kernel⟩, in1 14 (by rfl) rfl, in7 113 (by rfl) rfl⟩, in7 111 (by rfl) rfl, in7 112 (by rfl) rfl⟩
set_option maxRecDepth 100000 in
theorem mcX12_unsay : MI yX12_unsay YX12_unsay 0 RX12 := ⟨⟨rfl, ⟨by decide, by decide, by decide +kernel⟩, in1 14 (by rfl) rfl, in7 117 (by rfl) rfl⟩, in7 115 (by rfl) rfl, in7 116 (by rfl) rfl⟩
set_option maxRecDepth 100000 in
theorem mcX12_isBound : MSt yX12_isBound YX12_isBound 1 := ⟨⟨rfl, ⟨by decide, by decide, by decide +kernel⟩, in1 14 (by rfl) rfl, in7 124 (by rfl) rfl⟩, in7 123 (by rfl) rfl⟩
set_option maxRecDepth 100000 in
theorem mcX12_alike : MI yX12_alike YX12_alike 0 RX12 := ⟨⟨rfl, ⟨by decide, by decide, by decide +kernel⟩, in1 14 (by rfl) rfl, in7 131 (by rfl) rfl⟩, in7 130 (by rfl) rfl, inP 73 (by rfl) rfl⟩
set_option maxRecDepth 100000 in
theorem mcX12_votes : MI yX12_votes YX12_votes 4 RX12 := ⟨⟨rfl, ⟨by decide, by decide, by decide +kernel⟩, in1 14 (by rfl) rfl, in7 121 (by rfl) rfl⟩, in7 119 (by rfl) rfl, in7 120 (by rfl) rfl⟩
set_option maxRecDepth 100000 in
theorem mcX12_shortest : MI yX12_shortest YX12_shortest 3 RX12 := ⟨⟨rfl, ⟨by decide, by decide, by decide +kernel⟩, in1 14 (by rfl) rfl, in7 135 (by rfl) rfl⟩, in7 133 (by rfl) rfl, in7 134 (by rfl) rfl⟩
set_option maxRecDepth 100000 in
theorem mcX12_sureBits : MSt yX12_sureBits YX12_sureBits 3 := ⟨⟨rfl, ⟨by decide, by decide, by decide +kernel⟩, in1 14 (by rfl) rfl, in7 143 (by rfl) rfl⟩, in7 142 (by rfl) rfl⟩
set_option maxRecDepth 100000 in
theorem mcX12_census : MI yX12_census YX12_census 4 RX12 := ⟨⟨rfl, ⟨by decide, by decide, by decide +kernel⟩, in1 14 (by rfl) rfl, in7 140 (by rfl) rfl⟩, in7 138 (by rfl) rfl, in7 139 (by rfl) rfl⟩
set_option maxRecDepth 100000 in
theorem mcX12_copy : MI yX12_copy YX12_copy 1 RX12 := ⟨⟨rfl, ⟨by decide, by decide, by decide +kernel⟩, in1 14 (by rfl) rfl, in7 151 (by rfl) rfl⟩, in7 150 (by rfl) rfl, inP 74 (by rfl) rfl⟩
set_option maxRecDepth 100000 in
theorem mcX12_helped : MI yX12_helped YX12_helped 1 RX12 := ⟨⟨rfl, ⟨by decide, by decide, by decide +kernel⟩, in1 14 (by rfl) rfl, in7 147 (by rfl) rfl⟩, in7 145 (by rfl) rfl, in7 146 (by rfl) rfl⟩
set_option maxRecDepth 100000 in
theorem mcX12_learn : MI yX12_learn YX12_learn 4 RX12 := ⟨⟨rfl, ⟨by decide, by decide, by decide +kernel⟩, in1 14 (by rfl) rfl, in7 155 (by rfl) rfl⟩, in7 153 (by rfl) rfl, in7 154 (by rfl) rfl⟩
set_option maxRecDepth 100000 in
theorem mcX12_cheaper : MI yX12_cheaper YX12_cheaper 4 RX12 := ⟨⟨rfl, ⟨by decide, by decide, by decide +kernel⟩, in1 14 (by rfl) rfl, in7 160 (by rfl) rfl⟩, in7 158 (by rfl) rfl, in7 159 (by rfl) rfl⟩
set_option maxRecDepth 100000 in
theorem mcX12_price : MI yX12_price YX12_price 2 RX12 := ⟨⟨rfl, ⟨by decide, by decide, by decide +kernel⟩, in1 14 (by rfl) rfl, in7 165 (by rfl) rfl⟩, in7 163 (by rfl) rfl, in7 164 (by rfl) rfl⟩
set_option maxRecDepth 100000 in
theorem mcX12_translated : MI yX12_translated YX12_translated 2 RX12 := ⟨⟨rfl, ⟨by decide, by decide, by decide +kernel⟩, in1 14 (by rfl) rfl, in7 169 (by rfl) rfl⟩, in7 167 (by rfl) rfl, in7 168 (by rfl) rfl⟩
set_option maxRecDepth 100000 in
theorem mcX12_kindOf : MSt yX12_kindOf YX12_kindOf 1 := ⟨⟨rfl, ⟨by decide, by decide, by decide +kernel⟩, in1 14 (by rfl) rfl, in7 180 (by rfl) rfl⟩, in7 179 (by rfl) rfl⟩
set_option maxRecDepth 100000 in
theorem mcX12_above : MSt yX12_above YX12_above 1 := ⟨⟨rfl, ⟨by decide, by decide, by decide +kernel⟩, in1 14 (by rfl) rfl, in7 191 (by rfl) rfl⟩, in7 190 (by rfl) rfl⟩
set_option maxRecDepth 100000 in
theorem mcX12_ranBody : MI yX12_ranBody YX12_ranBody 1 RX12 := ⟨⟨rfl, ⟨by decide, by decide, by decide +kernel⟩, in1 14 (by rfl) rfl, in7 188 (by rfl) rfl⟩, in7 187 (by rfl) rfl, inP 77 (by rfl) rfl⟩
set_option maxRecDepth 100000 in
theorem mcX12_stepsAct : MI yX12_stepsAct YX12_stepsAct 2 RX12 := ⟨⟨rfl, ⟨by decide, by decide, by decide +kernel⟩, in1 14 (by rfl) rfl, in7 184 (by rfl) rfl⟩, in7 183 (by rfl) rfl, inP 76 (by rfl) rfl⟩
set_option maxRecDepth 100000 in
theorem mcX12_costs : MI yX12_costs YX12_costs 2 RX12 := ⟨⟨rfl, ⟨by decide, by decide, by decide +kernel⟩, in1 14 (by rfl) rfl, in7 195 (by rfl) rfl⟩, in7 194 (by rfl) rfl, inP 78 (by rfl) rfl⟩
set_option maxRecDepth 100000 in
theorem mcX12_goes : MI yX12_goes YX12_goes 2 RX12 := ⟨⟨rfl, ⟨by decide, by decide, by decide +kernel⟩, in1 14 (by rfl) rfl, in7 199 (by rfl) rfl⟩, in7 198 (by rfl) rfl, inP 79 (by rfl) rfl⟩
set_option maxRecDepth 100000 in
theorem mcX12_tells : MI yX12_tells YX12_tells 2 RX12 := ⟨⟨rfl, ⟨by decide, by decide, by decide +kernel⟩, in1 14 (by rfl) rfl, in7 203 (by rfl) rfl⟩, in7 202 (by rfl) rfl, inP 80 (by rfl) rfl⟩
set_option maxRecDepth 100000 in
theorem mcX12_isOrder : MI yX12_isOrder YX12_isOrder 1 RX12 := ⟨⟨rfl, ⟨by decide, by decide, by decide +kernel⟩, in1 14 (by rfl) rfl, in7 177 (by rfl) rfl⟩, in7 176 (by rfl) rfl, inP 75 (by rfl) rfl⟩
set_option maxRecDepth 100000 in
theorem mcX12_act : MI yX12_act YX12_act 3 RX12 := ⟨⟨rfl, ⟨by decide, by decide, by decide +kernel⟩, in1 14 (by rfl) rfl, in7 173 (by rfl) rfl⟩, in7 171 (by rfl) rfl, in7 172 (by rfl) rfl⟩
set_option maxRecDepth 100000 in
theorem mcX12_trace : MI yX12_trace YX12_trace 1 RX12 := ⟨⟨rfl, ⟨by decide, by decide, by decide +kernel⟩, in1 14 (by rfl) rfl, in7 207 (by rfl) rfl⟩, in7 205 (by rfl) rfl, in7 206 (by rfl) rfl⟩
set_option maxRecDepth 100000 in
theorem mcX12_isShelf : MSt yX12_isShelf YX12_isShelf 1 := ⟨⟨rfl, ⟨by decide, by decide, by decide +kernel⟩, in1 14 (by rfl) rfl, in7 214 (by rfl) rfl⟩, in7 213 (by rfl) rfl⟩
set_option maxRecDepth 100000 in
theorem mcX12_keep : MI yX12_keep YX12_keep 2 RX12 := ⟨⟨rfl, ⟨by decide, by decide, by decide +kernel⟩, in1 14 (by rfl) rfl, in7 211 (by rfl) rfl⟩, in7 209 (by rfl) rfl, in7 210 (by rfl) rfl⟩
set_option maxRecDepth 100000 in
theorem mcX12_row : MI yX12_row YX12_row 3 RX12 := ⟨⟨rfl, ⟨by decide, by decide, by decide +kernel⟩, in1 14 (by rfl) rfl, in7 219 (by rfl) rfl⟩, in7 217 (by rfl) rfl, in7 218 (by rfl) rfl⟩
set_option maxRecDepth 100000 in
theorem mcX12_refusal : MI yX12_refusal YX12_refusal 2 RX12 := ⟨⟨rfl, ⟨by decide, by decide, by decide +kernel⟩, in1 14 (by rfl) rfl, in7 227 (by rfl) rfl⟩, in7 226 (by rfl) rfl, inP 81 (by rfl) rfl⟩
set_option maxRecDepth 100000 in
theorem mcX12_asSort : MSt yX12_asSort YX12_asSort 2 := ⟨⟨rfl, ⟨by decide, by decide, by decide +kernel⟩, in1 14 (by rfl) rfl, in7 230 (by rfl) rfl⟩, in7 229 (by rfl) rfl⟩
set_option maxRecDepth 100000 in
theorem mcX12_put : MI yX12_put YX12_put 3 RX12 := ⟨⟨rfl, ⟨by decide, by decide, by decide +kernel⟩, in1 14 (by rfl) rfl, in7 223 (by rfl) rfl⟩, in7 221 (by rfl) rfl, in7 222 (by rfl) rfl⟩
set_option maxRecDepth 100000 in
theorem mcX12_element : MI yX12_element YX12_element 2 RX12 := ⟨⟨rfl, ⟨by decide, by decide, by decide +kernel⟩, in1 14 (by rfl) rfl, in7 234 (by rfl) rfl⟩, in7 232 (by rfl) rfl, in7 233 (by rfl) rfl⟩
set_option maxRecDepth 100000 in
theorem mcX12_shift : MI yX12_shift YX12_shift 5 RX12 := ⟨⟨rfl, ⟨by decide, by decide, by decide +kernel⟩, in1 14 (by rfl) rfl, in7 239 (by rfl) rfl⟩, in7 237 (by rfl) rfl, in7 238 (by rfl) rfl⟩
set_option maxRecDepth 100000 in
theorem mcX12_taken : MI yX12_taken YX12_taken 2 RX12 := ⟨⟨rfl, ⟨by decide, by decide, by decide +kernel⟩, in1 14 (by rfl) rfl, in8 3 (by rfl) rfl⟩, in8 1 (by rfl) rfl, in8 2 (by rfl) rfl⟩
set_option maxRecDepth 100000 in
theorem mcX12_read : MI yX12_read YX12_read 3 RX12 := ⟨⟨rfl, ⟨by decide, by decide, by decide +kernel⟩, in1 14 (by rfl) rfl, in8 7 (by rfl) rfl⟩, in8 5 (by rfl) rfl, in8 6 (by rfl) rfl⟩
set_option maxRecDepth 100000 in
theorem mcX12_count : MI yX12_count YX12_count 1 RX12 := ⟨⟨rfl, ⟨by decide, by decide, by decide +kernel⟩, in1 14 (by rfl) rfl, in8 11 (by rfl) rfl⟩, in8 9 (by rfl) rfl, in8 10 (by rfl) rfl⟩
set_option maxRecDepth 100000 in
theorem mcJ7_fill_53178 : MSt yJ7_fill_53178 YJ7_fill_53178 2 := ⟨⟨rfl, ⟨by decide, by decide, by decide +kernel⟩, in1 11 (by rfl) rfl, in2 6 (by rfl) rfl⟩, in2 5 (by rfl) rfl⟩
set_option maxRecDepth 100000 in
theorem mcJ7_fill_d0a16 : MSt yJ7_fill_d0a16 YJ7_fill_d0a16 2 := ⟨⟨rfl, ⟨by decide, by decide, by decide +kernel⟩, in1 11 (by rfl) rfl, in5 127 (by rfl) rfl⟩, in5 126 (by rfl) rfl⟩
set_option maxRecDepth 100000 in
theorem w_arrI : Cond.arrayClass .int ∈ TT := in1 40 (by rfl) rfl
set_option maxRecDepth 100000 in
theorem w_arrJ : Cond.arrayClass .long ∈ TT := in2 20 (by rfl) rfl
set_option maxRecDepth 100000 in
theorem w_arrZ : Cond.arrayClass .boolean ∈ TT := in6 160 (by rfl) rfl
set_option maxRecDepth 100000 in
theorem w_ac1 : Cond.native arraycopyName ∈ TT := in3 50 (by rfl) rfl
set_option maxRecDepth 100000 in
theorem w_ac2 : Cond.static arraycopyName ∈ TT := in3 49 (by rfl) rfl
set_option maxRecDepth 100000 in
theorem w_mmax1 : Cond.static Lib.Math.max.name ∈ TT := in3 129 (by rfl) rfl
set_option maxRecDepth 100000 in
theorem w_mmax2 : Cond.code Lib.Math.max.name Lib.Math.max.code 2 (some .int) ∈ TT := in3 130 (by rfl) rfl
set_option maxRecDepth 100000 in
theorem w_mmin1 : Cond.static Lib.Math.min.name ∈ TT := in2 162 (by rfl) rfl
set_option maxRecDepth 100000 in
theorem w_mmin2 : Cond.code Lib.Math.min.name Lib.Math.min.code 2 (some .int) ∈ TT := in2 163 (by rfl) rfl
set_option maxRecDepth 100000 in
theorem w_m3 : Cond.initialized "java/lang/Math" ∈ TT := in1 15 (by rfl) rfl
set_option maxRecDepth 100000 in
theorem w_ac3 : Cond.initialized "java/lang/System" ∈ TT := in1 16 (by rfl) rfl
