/-! What lies where (by program out of the constructors). -/
def sh0 : List (Nat × Nat) := [(11, 18), (17, 6), (6, 2), (13, 12), (6, 2), (13, 12), (4, 11), (13, 48), (13, 8), (13, 20000), (13, 12), (9, 4), (13, 60), (16, 10), (7, 9), (6, 2), (13, 12), (6, 2), (13, 12), (7, 9), (6, 2), (13, 12), (6, 2), (13, 12), (10, 2), (13, 8), (5, 7), (6, 2), (13, 12), (6, 2), (13, 12), (13, 1000), (2, 8), (6, 2), (13, 12), (6, 2), (13, 12), (0, 5), (13, 24), (8, 4), (13, 6), (13, 6), (13, 6), (19, 6), (14, 60), (14, 60), (14, 60), (14, 60), (14, 60), (14, 60), (3, 7), (13, 12), (13, 12), (13, 12), (18, 4), (13, 4), (13, 4), (13, 4), (13, 4), (13, 4), (13, 15), (3, 7), (13, 12), (13, 12), (13, 12), (18, 4), (13, 4), (13, 4), (13, 4), (13, 4), (13, 4), (13, 15), (3, 7), (13, 12), (13, 12), (13, 12), (18, 4), (13, 4), (13, 4), (13, 4), (13, 4), (13, 4), (13, 15), (3, 7), (13, 12), (13, 12), (13, 12), (18, 4), (13, 4), (13, 4), (13, 4), (13, 4), (13, 4), (13, 15), (3, 7), (13, 12), (13, 12), (13, 12), (18, 4), (13, 4), (13, 4), (13, 4), (13, 4), (13, 4), (13, 15), (3, 7), (13, 12), (13, 12), (13, 12), (18, 4), (13, 4), (13, 4), (13, 4), (13, 4), (13, 4), (13, 15), (1, 5), (13, 60), (13, 60), (1, 5), (13, 60), (13, 60), (1, 5), (13, 60), (13, 60), (1, 5), (13, 60), (13, 60), (1, 5), (13, 60), (13, 60), (1, 5), (13, 60), (13, 60), (1, 5), (13, 60), (13, 60), (1, 5), (13, 60), (13, 60), (1, 5), (13, 60), (13, 60), (1, 5), (13, 60), (13, 60), (12, 65), (13, 72), (13, 72), (13, 72), (13, 96), (13, 24), (13, 6), (13, 12), (13, 48), (13, 8), (13, 4200), (13, 4200), (13, 4200), (13, 8), (14, 16385), (13, 16385), (13, 60), (13, 600), (13, 10), (13, 10), (15, 16385), (13, 8), (13, 1000), (13, 24), (13, 6), (13, 6), (14, 360), (14, 60)]
def rfT : List (List (Option Nat)) := [[some 1, none, some 2, some 4, some 6, some 10, none, some 11, some 13, none, some 14, some 19, none, some 24, some 26, some 32, some 37, some 39], [some 50, some 61, some 72, some 83, some 94, some 105], [some 3], [], [some 5], [], [some 7, none, none, none, none, none, none, some 8, none, some 9], [], [], [], [], [some 12], [], [some 116, some 119, some 122, some 125, some 128, some 131, some 134, some 137, some 140, some 143], [some 15, some 17], [some 16], [], [some 18], [], [some 20, some 22], [some 21], [], [some 23], [], [some 25], [], [some 27, some 29, some 31], [some 28], [], [some 30], [], [], [some 33, some 35], [some 34], [], [some 36], [], [some 38], [], [some 40, some 41, some 42, some 43], [], [], [], [some 44, some 45, some 46, some 47, some 48, some 49], [], [], [], [], [], [], [none, some 51, some 52, some 53, some 54, some 59, some 60], [], [], [], [some 55, some 56, some 57, some 58], [], [], [], [], [], [], [none, some 62, some 63, some 64, some 65, some 70, some 71], [], [], [], [some 66, some 67, some 68, some 69], [], [], [], [], [], [], [none, some 73, some 74, some 75, some 76, some 81, some 82], [], [], [], [some 77, some 78, some 79, some 80], [], [], [], [], [], [], [none, some 84, some 85, some 86, some 87, some 92, some 93], [], [], [], [some 88, some 89, some 90, some 91], [], [], [], [], [], [], [none, some 95, some 96, some 97, some 98, some 103, some 104], [], [], [], [some 99, some 100, some 101, some 102], [], [], [], [], [], [], [none, some 106, some 107, some 108, some 109, some 114, some 115], [], [], [], [some 110, some 111, some 112, some 113], [], [], [], [], [], [], [some 117, none, none, some 118], [], [], [some 120, none, none, some 121], [], [], [some 123, none, none, some 124], [], [], [some 126, none, none, some 127], [], [], [some 129, none, none, some 130], [], [], [some 132, none, none, some 133], [], [], [some 135, none, none, some 136], [], [], [some 138, none, none, some 139], [], [], [some 141, none, none, some 142], [], [], [some 144, none, none, some 145], [], [], [some 147, some 148, some 149, some 150, some 151, some 152, none, some 153, none, some 154, none, none, none, none, none, none, some 155, some 156, some 157, some 158, none, none, none, none, none, some 159, some 160, some 161, none, some 162, none, some 163, some 164, some 165, none, none, none, none, none, none, some 166, none, none, none, none, none, none, none, none, none, none, none, none, some 167, none, some 168, some 169, none, none, none, none, some 170, some 171, some 172, some 173], [], [], [], [], [], [], [], [], [], [], [], [], [], [], [], [], [], [], [], [], [], [], [], [], [], [], []]
def rf0 (a k : Nat) : Option Nat := match rfT[a]? with
  | none => none
  | some l => match l[k]? with
    | none => none
    | some r => r
def SHt (t : Nat) : List (Nat × Nat) := sh0 ++ List.replicate t (13, 3)
def MM (t : Nat) (S : St) : Hm := (SHt t, rf0, S)
theorem sq {t : Nat} {q : Nat × Nat} (a : Nat) (h : sh0[a]? = some q) : (SHt t)[a]? = some q := by
  unfold SHt
  rw [List.getElem?_append_left (List.getElem?_eq_some_iff.mp h).1]
  exact h
theorem sh0_len : sh0.length = 174 := by decide +kernel
theorem sqt {t : Nat} : (SHt (t + 1))[174 + t]? = some (13, 3) := by
  unfold SHt
  rw [List.getElem?_append_right (by rw [sh0_len]; omega), sh0_len]
  simp
abbrev fI (t : Nat) (q : Int32 × St) : Option V × Hm := (some (vI q.1), MM t q.2)
abbrev fL (t : Nat) (q : Int64 × St) : Option V × Hm := (some (vL q.1), MM t q.2)
abbrev fR (t : Nat) (q : Option Nat × St) : Option V × Hm := (some (vR q.1), MM t q.2)
abbrev fV (t : Nat) (q : Unit × St) : Option V × Hm := (none, MM t q.2)
abbrev fC (q : (Int32 × Nat) × St) : Option V × Hm := (some (vI q.1.1), MM q.1.2 q.2)
theorem sq1_0 {t a : Nat} (h : a ∈ ad1) : (SHt t)[a]? = some (1, 5) := sq _ ((by decide +kernel : ∀ a ∈ ad1, sh0[a]? = some (1, 5)) a h)
theorem sq1_1 {t a : Nat} (h : a ∈ ad1) : (SHt t)[a + 1]? = some (13, 60) := sq _ ((by decide +kernel : ∀ a ∈ ad1, sh0[a + 1]? = some (13, 60)) a h)
theorem sq1_2 {t a : Nat} (h : a ∈ ad1) : (SHt t)[a + 2]? = some (13, 60) := sq _ ((by decide +kernel : ∀ a ∈ ad1, sh0[a + 2]? = some (13, 60)) a h)
theorem sq3_0 {t a : Nat} (h : a ∈ ad3) : (SHt t)[a]? = some (3, 7) := sq _ ((by decide +kernel : ∀ a ∈ ad3, sh0[a]? = some (3, 7)) a h)
theorem sq3_1 {t a : Nat} (h : a ∈ ad3) : (SHt t)[a + 1]? = some (13, 12) := sq _ ((by decide +kernel : ∀ a ∈ ad3, sh0[a + 1]? = some (13, 12)) a h)
theorem sq3_2 {t a : Nat} (h : a ∈ ad3) : (SHt t)[a + 2]? = some (13, 12) := sq _ ((by decide +kernel : ∀ a ∈ ad3, sh0[a + 2]? = some (13, 12)) a h)
theorem sq3_3 {t a : Nat} (h : a ∈ ad3) : (SHt t)[a + 3]? = some (13, 12) := sq _ ((by decide +kernel : ∀ a ∈ ad3, sh0[a + 3]? = some (13, 12)) a h)
theorem sq3_4 {t a : Nat} (h : a ∈ ad3) : (SHt t)[a + 4]? = some (18, 4) := sq _ ((by decide +kernel : ∀ a ∈ ad3, sh0[a + 4]? = some (18, 4)) a h)
theorem sq3_9 {t a : Nat} (h : a ∈ ad3) : (SHt t)[a + 9]? = some (13, 4) := sq _ ((by decide +kernel : ∀ a ∈ ad3, sh0[a + 9]? = some (13, 4)) a h)
theorem sq3_10 {t a : Nat} (h : a ∈ ad3) : (SHt t)[a + 10]? = some (13, 15) := sq _ ((by decide +kernel : ∀ a ∈ ad3, sh0[a + 10]? = some (13, 15)) a h)
theorem sq6_0 {t a : Nat} (h : a ∈ ad6) : (SHt t)[a]? = some (6, 2) := sq _ ((by decide +kernel : ∀ a ∈ ad6, sh0[a]? = some (6, 2)) a h)
theorem sq6_1 {t a : Nat} (h : a ∈ ad6) : (SHt t)[a + 1]? = some (13, 12) := sq _ ((by decide +kernel : ∀ a ∈ ad6, sh0[a + 1]? = some (13, 12)) a h)
theorem sq7_0 {t a : Nat} (h : a ∈ ad7) : (SHt t)[a]? = some (7, 9) := sq _ ((by decide +kernel : ∀ a ∈ ad7, sh0[a]? = some (7, 9)) a h)
theorem mf7_0 {a : Nat} (h : a ∈ ad7) : a + 1 ∈ ad6 := (by decide +kernel : ∀ a ∈ ad7, a + 1 ∈ ad6) a h
theorem mf7_1 {a : Nat} (h : a ∈ ad7) : a + 3 ∈ ad6 := (by decide +kernel : ∀ a ∈ ad7, a + 3 ∈ ad6) a h
theorem rq1_0 {a : Nat} (h : a ∈ ad1) : rf0 a 0 = some (a + 1) := (by decide +kernel : ∀ a ∈ ad1, rf0 a 0 = some (a + 1)) a h
theorem rq1_3 {a : Nat} (h : a ∈ ad1) : rf0 a 3 = some (a + 2) := (by decide +kernel : ∀ a ∈ ad1, rf0 a 3 = some (a + 2)) a h
theorem rq3_1 {a : Nat} (h : a ∈ ad3) : rf0 a 1 = some (a + 1) := (by decide +kernel : ∀ a ∈ ad3, rf0 a 1 = some (a + 1)) a h
theorem rq3_2 {a : Nat} (h : a ∈ ad3) : rf0 a 2 = some (a + 2) := (by decide +kernel : ∀ a ∈ ad3, rf0 a 2 = some (a + 2)) a h
theorem rq3_3 {a : Nat} (h : a ∈ ad3) : rf0 a 3 = some (a + 3) := (by decide +kernel : ∀ a ∈ ad3, rf0 a 3 = some (a + 3)) a h
theorem rq3_4 {a : Nat} (h : a ∈ ad3) : rf0 a 4 = some (a + 4) := (by decide +kernel : ∀ a ∈ ad3, rf0 a 4 = some (a + 4)) a h
theorem rq3_5 {a : Nat} (h : a ∈ ad3) : rf0 a 5 = some (a + 9) := (by decide +kernel : ∀ a ∈ ad3, rf0 a 5 = some (a + 9)) a h
theorem rq3_6 {a : Nat} (h : a ∈ ad3) : rf0 a 6 = some (a + 10) := (by decide +kernel : ∀ a ∈ ad3, rf0 a 6 = some (a + 10)) a h
theorem rq6_0 {a : Nat} (h : a ∈ ad6) : rf0 a 0 = some (a + 1) := (by decide +kernel : ∀ a ∈ ad6, rf0 a 0 = some (a + 1)) a h
theorem rq7_0 {a : Nat} (h : a ∈ ad7) : rf0 a 0 = some (a + 1) := (by decide +kernel : ∀ a ∈ ad7, rf0 a 0 = some (a + 1)) a h
theorem rq7_1 {a : Nat} (h : a ∈ ad7) : rf0 a 1 = some (a + 3) := (by decide +kernel : ∀ a ∈ ad7, rf0 a 1 = some (a + 3)) a h
theorem aq1 : ∀ j : Nat, j < 6 → rf0 1 j = some (50 + 11 * j) := by decide +kernel
theorem am1 {j : Nat} (h : j < 6) : 50 + 11 * j ∈ ad3 := (by decide +kernel : ∀ j : Nat, j < 6 → 50 + 11 * j ∈ ad3) j h
theorem aq13 : ∀ j : Nat, j < 10 → rf0 13 j = some (116 + 3 * j) := by decide +kernel
theorem am13 {j : Nat} (h : j < 10) : 116 + 3 * j ∈ ad1 := (by decide +kernel : ∀ j : Nat, j < 10 → 116 + 3 * j ∈ ad1) j h
theorem aq43 : ∀ j : Nat, j < 6 → rf0 43 j = some (44 + j) := by decide +kernel
theorem as43 {t j : Nat} (h : j < 6) : (SHt t)[44 + j]? = some (14, 60) := sq _ ((by decide +kernel : ∀ j : Nat, j < 6 → sh0[44 + j]? = some (14, 60)) j h)
theorem bq3_4 {a : Nat} (h : a ∈ ad3) : ∀ j : Nat, j < 4 → rf0 (a + 4) j = some (a + 5 + j) := (by decide +kernel : ∀ a ∈ ad3, ∀ j : Nat, j < 4 → rf0 (a + 4) j = some (a + 5 + j)) a h
theorem bs3_4 {t a j : Nat} (h : a ∈ ad3) (hj : j < 4) : (SHt t)[a + 5 + j]? = some (13, 4) := sq _ ((by decide +kernel : ∀ a ∈ ad3, ∀ j : Nat, j < 4 → sh0[a + 5 + j]? = some (13, 4)) a h j hj)
