/-- the script's length; what may be swapped: the rows of the opener, its line, the rows of the odds -/
abbrev pm_S : Type := Nat × Nat × Nat × Option Nat × Nat × Nat
def pm_LS : List (Nat × Nat) := [(21, 0), (16, 0), (13, 0), (0, 8), (0, 8), (0, 8), (0, 8), (0, 6), (0, 6), (0, 6), (11, 0), (0, 900), (0, 64), (0, 7), (0, 900), (13, 0), (0, 8), (0, 8), (0, 8), (0, 8), (0, 6), (0, 6), (0, 6), (11, 0), (0, 900), (0, 64), (0, 7), (17, 0), (0, 8), (0, 8), (0, 6), (0, 6), (17, 0), (0, 8), (0, 8), (0, 6), (0, 6), (3, 10), (4, 4), (5, 2), (3, 2), (10, 0), (0, 48), (12, 0), (0, 3), (0, 3), (0, 3), (0, 3), (0, 3), (0, 3), (0, 3), (0, 3), (20, 0), (0, 1792), (18, 0), (0, 6), (0, 6), (0, 6), (15, 0), (0, 8), (0, 3200), (0, 800), (0, 100), (0, 100), (14, 0), (1, 1000), (1, 1000), (17, 0), (0, 8), (0, 8), (0, 6), (0, 6), (17, 0), (0, 8), (0, 8), (0, 6), (0, 6), (17, 0), (0, 8), (0, 8), (0, 6), (0, 6), (17, 0), (0, 8), (0, 8), (0, 6), (0, 6), (17, 0), (0, 8), (0, 8), (0, 6), (0, 6), (17, 0), (0, 8), (0, 8), (0, 6), (0, 6), (17, 0), (0, 8), (0, 8), (0, 6), (0, 6), (17, 0), (0, 8), (0, 8), (0, 6), (0, 6), (17, 0), (0, 8), (0, 8), (0, 6), (0, 6), (17, 0), (0, 8), (0, 8), (0, 6), (0, 6), (19, 0), (1, 40), (19, 0), (1, 40), (19, 0), (1, 40), (19, 0), (1, 40), (13, 0), (0, 8), (0, 8), (0, 8), (0, 8), (0, 6), (0, 6), (0, 6), (11, 0), (0, 900), (0, 64), (0, 7), (17, 0), (0, 8), (0, 8), (0, 6), (0, 6), (13, 0), (0, 8), (0, 8), (0, 8), (0, 8), (0, 6), (0, 6), (0, 6), (11, 0), (0, 900), (0, 64), (0, 7), (17, 0), (0, 8), (0, 8), (0, 6), (0, 6), (22, 0), (0, 3870), (2, 2), (0, 900), (0, 1290), (0, 900), (0, 7), (0, 31), (0, 3), (0, 1792), (0, 1792), (0, 1792), (0, 48), (0, 6), (0, 6), (0, 25600), (0, 100), (0, 100), (0, 8), (2, 25600), (0, 256), (1, 1000), (1, 1000), (0, 4), (0, 4), (1, 160)]
def pm_PT : List (List (Option Nat)) := [[some 1, some 15, some 27, some 32, some 37, none, none, some 38, some 39, some 40, none, some 41, some 43, some 52, some 54, some 58, some 64],
  [some 2, none, none, none, some 14],
  [none, none, none, none, none, some 3, some 4, some 5, some 6, some 7, some 8, some 9, some 10],
  [],
  [],
  [],
  [],
  [],
  [],
  [],
  [some 11, some 12, some 13],
  [],
  [],
  [],
  [],
  [none, none, none, none, none, some 16, some 17, some 18, some 19, some 20, some 21, some 22, some 23],
  [],
  [],
  [],
  [],
  [],
  [],
  [],
  [some 24, some 25, some 26],
  [],
  [],
  [],
  [some 28, some 29, some 30, some 31],
  [],
  [],
  [],
  [],
  [some 33, some 34, some 35, some 36],
  [],
  [],
  [],
  [],
  [some 67, some 72, some 77, some 82, some 87, some 92, some 97, some 102, some 107, some 112],
  [some 117, some 119, some 121, some 123],
  [some 125, some 142],
  [some 137, some 154],
  [some 42],
  [],
  [some 44, some 45, some 46, some 47, some 48, some 49, some 50, some 51],
  [],
  [],
  [],
  [],
  [],
  [],
  [],
  [],
  [some 53],
  [],
  [some 55, some 56, some 57],
  [],
  [],
  [],
  [],
  [],
  [],
  [],
  [],
  [],
  [],
  [],
  [],
  [some 68, some 69, some 70, some 71],
  [],
  [],
  [],
  [],
  [some 73, some 74, some 75, some 76],
  [],
  [],
  [],
  [],
  [some 78, some 79, some 80, some 81],
  [],
  [],
  [],
  [],
  [some 83, some 84, some 85, some 86],
  [],
  [],
  [],
  [],
  [some 88, some 89, some 90, some 91],
  [],
  [],
  [],
  [],
  [some 93, some 94, some 95, some 96],
  [],
  [],
  [],
  [],
  [some 98, some 99, some 100, some 101],
  [],
  [],
  [],
  [],
  [some 103, some 104, some 105, some 106],
  [],
  [],
  [],
  [],
  [some 108, some 109, some 110, some 111],
  [],
  [],
  [],
  [],
  [some 113, some 114, some 115, some 116],
  [],
  [],
  [],
  [],
  [some 118],
  [],
  [some 120],
  [],
  [some 122],
  [],
  [some 124],
  [],
  [none, none, none, none, none, some 126, some 127, some 128, some 129, some 130, some 131, some 132, some 133],
  [],
  [],
  [],
  [],
  [],
  [],
  [],
  [some 134, some 135, some 136],
  [],
  [],
  [],
  [some 138, some 139, some 140, some 141],
  [],
  [],
  [],
  [],
  [none, none, none, none, none, some 143, some 144, some 145, some 146, some 147, some 148, some 149, some 150],
  [],
  [],
  [],
  [],
  [],
  [],
  [],
  [some 151, some 152, some 153],
  [],
  [],
  [],
  [some 155, some 156, some 157, some 158],
  [],
  [],
  [],
  [],
  [none, some 160, some 161, some 162, some 163, none, none, none, none, none, none, none, none, none, none, none, some 164, some 165, some 166, none, none, some 167, some 168, some 169, some 170, some 171, none, some 172, some 173, none, some 174, some 175, some 176, some 177, none, some 178, some 179, some 180, some 181, some 182, some 183, some 184],
  [],
  [],
  [],
  [],
  [],
  [],
  [],
  [],
  [],
  [],
  [],
  [],
  [],
  [],
  [],
  [],
  [],
  [],
  [],
  [],
  [],
  [],
  [],
  [],
  []]
def pm_PO (s : pm_S) : List (Option Nat) := [some 59, some 60, some 61, some s.2.1, some s.2.2.1, s.2.2.2.1]
def pm_PD (s : pm_S) : List (Option Nat) := [none, some s.2.2.2.2.1, some s.2.2.2.2.2]
def EE (s : pm_S) : pm_E := (185, 80222, fun c => if c = 4000 then (0, s.1) else pm_LS.getD c (9, 0), fun c k => if c = 58 then (pm_PO s).getD k none else if c = 64 then (pm_PD s).getD k none else (pm_PT.getD c []).getD k none)
theorem pm_sh {s : pm_S} {c : Nat} (h : c < 185) : (EE s).2.2.1 c = pm_LS.getD c (9, 0) := by
  show (if c = 4000 then _ else _) = _
  rw [if_neg (by omega)]
theorem sh_0 {s : pm_S} : (EE s).2.2.1 0 = (21, 0) := rfl
theorem lq_0 {s : pm_S} : 0 < (EE s).1 := by show 0 < 185; decide
theorem pf_0_0 {s : pm_S} : (EE s).2.2.2 0 0 = some 1 := rfl
theorem pf_0_1 {s : pm_S} : (EE s).2.2.2 0 1 = some 15 := rfl
theorem pf_0_2 {s : pm_S} : (EE s).2.2.2 0 2 = some 27 := rfl
theorem pf_0_3 {s : pm_S} : (EE s).2.2.2 0 3 = some 32 := rfl
theorem pf_0_4 {s : pm_S} : (EE s).2.2.2 0 4 = some 37 := rfl
theorem pf_0_7 {s : pm_S} : (EE s).2.2.2 0 7 = some 38 := rfl
theorem pf_0_8 {s : pm_S} : (EE s).2.2.2 0 8 = some 39 := rfl
theorem pf_0_9 {s : pm_S} : (EE s).2.2.2 0 9 = some 40 := rfl
theorem pf_0_11 {s : pm_S} : (EE s).2.2.2 0 11 = some 41 := rfl
theorem pf_0_12 {s : pm_S} : (EE s).2.2.2 0 12 = some 43 := rfl
theorem pf_0_13 {s : pm_S} : (EE s).2.2.2 0 13 = some 52 := rfl
theorem pf_0_14 {s : pm_S} : (EE s).2.2.2 0 14 = some 54 := rfl
theorem pf_0_15 {s : pm_S} : (EE s).2.2.2 0 15 = some 58 := rfl
theorem pf_0_16 {s : pm_S} : (EE s).2.2.2 0 16 = some 64 := rfl
theorem sh_1 {s : pm_S} : (EE s).2.2.1 1 = (16, 0) := rfl
theorem lq_1 {s : pm_S} : 1 < (EE s).1 := by show 1 < 185; decide
theorem pf_1_0 {s : pm_S} : (EE s).2.2.2 1 0 = some 2 := rfl
theorem pf_1_4 {s : pm_S} : (EE s).2.2.2 1 4 = some 14 := rfl
theorem sh_2 {s : pm_S} : (EE s).2.2.1 2 = (13, 0) := rfl
theorem lq_2 {s : pm_S} : 2 < (EE s).1 := by show 2 < 185; decide
theorem pf_2_5 {s : pm_S} : (EE s).2.2.2 2 5 = some 3 := rfl
theorem pf_2_6 {s : pm_S} : (EE s).2.2.2 2 6 = some 4 := rfl
theorem pf_2_7 {s : pm_S} : (EE s).2.2.2 2 7 = some 5 := rfl
theorem pf_2_8 {s : pm_S} : (EE s).2.2.2 2 8 = some 6 := rfl
theorem pf_2_9 {s : pm_S} : (EE s).2.2.2 2 9 = some 7 := rfl
theorem pf_2_10 {s : pm_S} : (EE s).2.2.2 2 10 = some 8 := rfl
theorem pf_2_11 {s : pm_S} : (EE s).2.2.2 2 11 = some 9 := rfl
theorem pf_2_12 {s : pm_S} : (EE s).2.2.2 2 12 = some 10 := rfl
theorem sh_3 {s : pm_S} : (EE s).2.2.1 3 = (0, 8) := rfl
theorem lq_3 {s : pm_S} : 3 < (EE s).1 := by show 3 < 185; decide
theorem sh_4 {s : pm_S} : (EE s).2.2.1 4 = (0, 8) := rfl
theorem lq_4 {s : pm_S} : 4 < (EE s).1 := by show 4 < 185; decide
theorem sh_5 {s : pm_S} : (EE s).2.2.1 5 = (0, 8) := rfl
theorem lq_5 {s : pm_S} : 5 < (EE s).1 := by show 5 < 185; decide
theorem sh_6 {s : pm_S} : (EE s).2.2.1 6 = (0, 8) := rfl
theorem lq_6 {s : pm_S} : 6 < (EE s).1 := by show 6 < 185; decide
theorem sh_7 {s : pm_S} : (EE s).2.2.1 7 = (0, 6) := rfl
theorem lq_7 {s : pm_S} : 7 < (EE s).1 := by show 7 < 185; decide
theorem sh_8 {s : pm_S} : (EE s).2.2.1 8 = (0, 6) := rfl
theorem lq_8 {s : pm_S} : 8 < (EE s).1 := by show 8 < 185; decide
theorem sh_9 {s : pm_S} : (EE s).2.2.1 9 = (0, 6) := rfl
theorem lq_9 {s : pm_S} : 9 < (EE s).1 := by show 9 < 185; decide
theorem sh_10 {s : pm_S} : (EE s).2.2.1 10 = (11, 0) := rfl
theorem lq_10 {s : pm_S} : 10 < (EE s).1 := by show 10 < 185; decide
theorem pf_10_0 {s : pm_S} : (EE s).2.2.2 10 0 = some 11 := rfl
theorem pf_10_1 {s : pm_S} : (EE s).2.2.2 10 1 = some 12 := rfl
theorem pf_10_2 {s : pm_S} : (EE s).2.2.2 10 2 = some 13 := rfl
theorem sh_11 {s : pm_S} : (EE s).2.2.1 11 = (0, 900) := rfl
theorem lq_11 {s : pm_S} : 11 < (EE s).1 := by show 11 < 185; decide
theorem sh_12 {s : pm_S} : (EE s).2.2.1 12 = (0, 64) := rfl
theorem lq_12 {s : pm_S} : 12 < (EE s).1 := by show 12 < 185; decide
theorem sh_13 {s : pm_S} : (EE s).2.2.1 13 = (0, 7) := rfl
theorem lq_13 {s : pm_S} : 13 < (EE s).1 := by show 13 < 185; decide
theorem sh_14 {s : pm_S} : (EE s).2.2.1 14 = (0, 900) := rfl
theorem lq_14 {s : pm_S} : 14 < (EE s).1 := by show 14 < 185; decide
theorem sh_15 {s : pm_S} : (EE s).2.2.1 15 = (13, 0) := rfl
theorem lq_15 {s : pm_S} : 15 < (EE s).1 := by show 15 < 185; decide
theorem pf_15_5 {s : pm_S} : (EE s).2.2.2 15 5 = some 16 := rfl
theorem pf_15_6 {s : pm_S} : (EE s).2.2.2 15 6 = some 17 := rfl
theorem pf_15_7 {s : pm_S} : (EE s).2.2.2 15 7 = some 18 := rfl
theorem pf_15_8 {s : pm_S} : (EE s).2.2.2 15 8 = some 19 := rfl
theorem pf_15_9 {s : pm_S} : (EE s).2.2.2 15 9 = some 20 := rfl
theorem pf_15_10 {s : pm_S} : (EE s).2.2.2 15 10 = some 21 := rfl
theorem pf_15_11 {s : pm_S} : (EE s).2.2.2 15 11 = some 22 := rfl
theorem pf_15_12 {s : pm_S} : (EE s).2.2.2 15 12 = some 23 := rfl
theorem sh_16 {s : pm_S} : (EE s).2.2.1 16 = (0, 8) := rfl
theorem lq_16 {s : pm_S} : 16 < (EE s).1 := by show 16 < 185; decide
theorem sh_17 {s : pm_S} : (EE s).2.2.1 17 = (0, 8) := rfl
theorem lq_17 {s : pm_S} : 17 < (EE s).1 := by show 17 < 185; decide
theorem sh_18 {s : pm_S} : (EE s).2.2.1 18 = (0, 8) := rfl
theorem lq_18 {s : pm_S} : 18 < (EE s).1 := by show 18 < 185; decide
theorem sh_19 {s : pm_S} : (EE s).2.2.1 19 = (0, 8) := rfl
theorem lq_19 {s : pm_S} : 19 < (EE s).1 := by show 19 < 185; decide
theorem sh_20 {s : pm_S} : (EE s).2.2.1 20 = (0, 6) := rfl
theorem lq_20 {s : pm_S} : 20 < (EE s).1 := by show 20 < 185; decide
theorem sh_21 {s : pm_S} : (EE s).2.2.1 21 = (0, 6) := rfl
theorem lq_21 {s : pm_S} : 21 < (EE s).1 := by show 21 < 185; decide
theorem sh_22 {s : pm_S} : (EE s).2.2.1 22 = (0, 6) := rfl
theorem lq_22 {s : pm_S} : 22 < (EE s).1 := by show 22 < 185; decide
theorem sh_23 {s : pm_S} : (EE s).2.2.1 23 = (11, 0) := rfl
theorem lq_23 {s : pm_S} : 23 < (EE s).1 := by show 23 < 185; decide
theorem pf_23_0 {s : pm_S} : (EE s).2.2.2 23 0 = some 24 := rfl
theorem pf_23_1 {s : pm_S} : (EE s).2.2.2 23 1 = some 25 := rfl
theorem pf_23_2 {s : pm_S} : (EE s).2.2.2 23 2 = some 26 := rfl
theorem sh_24 {s : pm_S} : (EE s).2.2.1 24 = (0, 900) := rfl
theorem lq_24 {s : pm_S} : 24 < (EE s).1 := by show 24 < 185; decide
theorem sh_25 {s : pm_S} : (EE s).2.2.1 25 = (0, 64) := rfl
theorem lq_25 {s : pm_S} : 25 < (EE s).1 := by show 25 < 185; decide
theorem sh_26 {s : pm_S} : (EE s).2.2.1 26 = (0, 7) := rfl
theorem lq_26 {s : pm_S} : 26 < (EE s).1 := by show 26 < 185; decide
theorem sh_27 {s : pm_S} : (EE s).2.2.1 27 = (17, 0) := rfl
theorem lq_27 {s : pm_S} : 27 < (EE s).1 := by show 27 < 185; decide
theorem pf_27_0 {s : pm_S} : (EE s).2.2.2 27 0 = some 28 := rfl
theorem pf_27_1 {s : pm_S} : (EE s).2.2.2 27 1 = some 29 := rfl
theorem pf_27_2 {s : pm_S} : (EE s).2.2.2 27 2 = some 30 := rfl
theorem pf_27_3 {s : pm_S} : (EE s).2.2.2 27 3 = some 31 := rfl
theorem sh_28 {s : pm_S} : (EE s).2.2.1 28 = (0, 8) := rfl
theorem lq_28 {s : pm_S} : 28 < (EE s).1 := by show 28 < 185; decide
theorem sh_29 {s : pm_S} : (EE s).2.2.1 29 = (0, 8) := rfl
theorem lq_29 {s : pm_S} : 29 < (EE s).1 := by show 29 < 185; decide
theorem sh_30 {s : pm_S} : (EE s).2.2.1 30 = (0, 6) := rfl
theorem lq_30 {s : pm_S} : 30 < (EE s).1 := by show 30 < 185; decide
theorem sh_31 {s : pm_S} : (EE s).2.2.1 31 = (0, 6) := rfl
theorem lq_31 {s : pm_S} : 31 < (EE s).1 := by show 31 < 185; decide
theorem sh_32 {s : pm_S} : (EE s).2.2.1 32 = (17, 0) := rfl
theorem lq_32 {s : pm_S} : 32 < (EE s).1 := by show 32 < 185; decide
theorem pf_32_0 {s : pm_S} : (EE s).2.2.2 32 0 = some 33 := rfl
theorem pf_32_1 {s : pm_S} : (EE s).2.2.2 32 1 = some 34 := rfl
theorem pf_32_2 {s : pm_S} : (EE s).2.2.2 32 2 = some 35 := rfl
theorem pf_32_3 {s : pm_S} : (EE s).2.2.2 32 3 = some 36 := rfl
theorem sh_33 {s : pm_S} : (EE s).2.2.1 33 = (0, 8) := rfl
theorem lq_33 {s : pm_S} : 33 < (EE s).1 := by show 33 < 185; decide
theorem sh_34 {s : pm_S} : (EE s).2.2.1 34 = (0, 8) := rfl
theorem lq_34 {s : pm_S} : 34 < (EE s).1 := by show 34 < 185; decide
theorem sh_35 {s : pm_S} : (EE s).2.2.1 35 = (0, 6) := rfl
theorem lq_35 {s : pm_S} : 35 < (EE s).1 := by show 35 < 185; decide
theorem sh_36 {s : pm_S} : (EE s).2.2.1 36 = (0, 6) := rfl
theorem lq_36 {s : pm_S} : 36 < (EE s).1 := by show 36 < 185; decide
theorem sh_37 {s : pm_S} : (EE s).2.2.1 37 = (3, 10) := rfl
theorem lq_37 {s : pm_S} : 37 < (EE s).1 := by show 37 < 185; decide
theorem sh_38 {s : pm_S} : (EE s).2.2.1 38 = (4, 4) := rfl
theorem lq_38 {s : pm_S} : 38 < (EE s).1 := by show 38 < 185; decide
theorem sh_39 {s : pm_S} : (EE s).2.2.1 39 = (5, 2) := rfl
theorem lq_39 {s : pm_S} : 39 < (EE s).1 := by show 39 < 185; decide
theorem sh_40 {s : pm_S} : (EE s).2.2.1 40 = (3, 2) := rfl
theorem lq_40 {s : pm_S} : 40 < (EE s).1 := by show 40 < 185; decide
theorem sh_41 {s : pm_S} : (EE s).2.2.1 41 = (10, 0) := rfl
theorem lq_41 {s : pm_S} : 41 < (EE s).1 := by show 41 < 185; decide
theorem pf_41_0 {s : pm_S} : (EE s).2.2.2 41 0 = some 42 := rfl
theorem sh_42 {s : pm_S} : (EE s).2.2.1 42 = (0, 48) := rfl
theorem lq_42 {s : pm_S} : 42 < (EE s).1 := by show 42 < 185; decide
theorem sh_43 {s : pm_S} : (EE s).2.2.1 43 = (12, 0) := rfl
theorem lq_43 {s : pm_S} : 43 < (EE s).1 := by show 43 < 185; decide
theorem pf_43_0 {s : pm_S} : (EE s).2.2.2 43 0 = some 44 := rfl
theorem pf_43_1 {s : pm_S} : (EE s).2.2.2 43 1 = some 45 := rfl
theorem pf_43_2 {s : pm_S} : (EE s).2.2.2 43 2 = some 46 := rfl
theorem pf_43_3 {s : pm_S} : (EE s).2.2.2 43 3 = some 47 := rfl
theorem pf_43_4 {s : pm_S} : (EE s).2.2.2 43 4 = some 48 := rfl
theorem pf_43_5 {s : pm_S} : (EE s).2.2.2 43 5 = some 49 := rfl
theorem pf_43_6 {s : pm_S} : (EE s).2.2.2 43 6 = some 50 := rfl
theorem pf_43_7 {s : pm_S} : (EE s).2.2.2 43 7 = some 51 := rfl
theorem sh_44 {s : pm_S} : (EE s).2.2.1 44 = (0, 3) := rfl
theorem lq_44 {s : pm_S} : 44 < (EE s).1 := by show 44 < 185; decide
theorem sh_45 {s : pm_S} : (EE s).2.2.1 45 = (0, 3) := rfl
theorem lq_45 {s : pm_S} : 45 < (EE s).1 := by show 45 < 185; decide
theorem sh_46 {s : pm_S} : (EE s).2.2.1 46 = (0, 3) := rfl
theorem lq_46 {s : pm_S} : 46 < (EE s).1 := by show 46 < 185; decide
theorem sh_47 {s : pm_S} : (EE s).2.2.1 47 = (0, 3) := rfl
theorem lq_47 {s : pm_S} : 47 < (EE s).1 := by show 47 < 185; decide
theorem sh_48 {s : pm_S} : (EE s).2.2.1 48 = (0, 3) := rfl
theorem lq_48 {s : pm_S} : 48 < (EE s).1 := by show 48 < 185; decide
theorem sh_49 {s : pm_S} : (EE s).2.2.1 49 = (0, 3) := rfl
theorem lq_49 {s : pm_S} : 49 < (EE s).1 := by show 49 < 185; decide
theorem sh_50 {s : pm_S} : (EE s).2.2.1 50 = (0, 3) := rfl
theorem lq_50 {s : pm_S} : 50 < (EE s).1 := by show 50 < 185; decide
theorem sh_51 {s : pm_S} : (EE s).2.2.1 51 = (0, 3) := rfl
theorem lq_51 {s : pm_S} : 51 < (EE s).1 := by show 51 < 185; decide
theorem sh_52 {s : pm_S} : (EE s).2.2.1 52 = (20, 0) := rfl
theorem lq_52 {s : pm_S} : 52 < (EE s).1 := by show 52 < 185; decide
theorem pf_52_0 {s : pm_S} : (EE s).2.2.2 52 0 = some 53 := rfl
theorem sh_53 {s : pm_S} : (EE s).2.2.1 53 = (0, 1792) := rfl
theorem lq_53 {s : pm_S} : 53 < (EE s).1 := by show 53 < 185; decide
theorem sh_54 {s : pm_S} : (EE s).2.2.1 54 = (18, 0) := rfl
theorem lq_54 {s : pm_S} : 54 < (EE s).1 := by show 54 < 185; decide
theorem pf_54_0 {s : pm_S} : (EE s).2.2.2 54 0 = some 55 := rfl
theorem pf_54_1 {s : pm_S} : (EE s).2.2.2 54 1 = some 56 := rfl
theorem pf_54_2 {s : pm_S} : (EE s).2.2.2 54 2 = some 57 := rfl
theorem sh_55 {s : pm_S} : (EE s).2.2.1 55 = (0, 6) := rfl
theorem lq_55 {s : pm_S} : 55 < (EE s).1 := by show 55 < 185; decide
theorem sh_56 {s : pm_S} : (EE s).2.2.1 56 = (0, 6) := rfl
theorem lq_56 {s : pm_S} : 56 < (EE s).1 := by show 56 < 185; decide
theorem sh_57 {s : pm_S} : (EE s).2.2.1 57 = (0, 6) := rfl
theorem lq_57 {s : pm_S} : 57 < (EE s).1 := by show 57 < 185; decide
theorem sh_58 {s : pm_S} : (EE s).2.2.1 58 = (15, 0) := rfl
theorem lq_58 {s : pm_S} : 58 < (EE s).1 := by show 58 < 185; decide
theorem pf_58_0 {s : pm_S} : (EE s).2.2.2 58 0 = some 59 := rfl
theorem pf_58_1 {s : pm_S} : (EE s).2.2.2 58 1 = some 60 := rfl
theorem pf_58_2 {s : pm_S} : (EE s).2.2.2 58 2 = some 61 := rfl
theorem pf_58_3 {s : pm_S} : (EE s).2.2.2 58 3 = some s.2.1 := rfl
theorem pf_58_4 {s : pm_S} : (EE s).2.2.2 58 4 = some s.2.2.1 := rfl
theorem pf_58_5 {s : pm_S} : (EE s).2.2.2 58 5 = s.2.2.2.1 := rfl
theorem sh_59 {s : pm_S} : (EE s).2.2.1 59 = (0, 8) := rfl
theorem lq_59 {s : pm_S} : 59 < (EE s).1 := by show 59 < 185; decide
theorem sh_60 {s : pm_S} : (EE s).2.2.1 60 = (0, 3200) := rfl
theorem lq_60 {s : pm_S} : 60 < (EE s).1 := by show 60 < 185; decide
theorem sh_61 {s : pm_S} : (EE s).2.2.1 61 = (0, 800) := rfl
theorem lq_61 {s : pm_S} : 61 < (EE s).1 := by show 61 < 185; decide
theorem sh_62 {s : pm_S} : (EE s).2.2.1 62 = (0, 100) := rfl
theorem lq_62 {s : pm_S} : 62 < (EE s).1 := by show 62 < 185; decide
theorem sh_63 {s : pm_S} : (EE s).2.2.1 63 = (0, 100) := rfl
theorem lq_63 {s : pm_S} : 63 < (EE s).1 := by show 63 < 185; decide
theorem sh_64 {s : pm_S} : (EE s).2.2.1 64 = (14, 0) := rfl
theorem lq_64 {s : pm_S} : 64 < (EE s).1 := by show 64 < 185; decide
theorem pf_64_1 {s : pm_S} : (EE s).2.2.2 64 1 = some s.2.2.2.2.1 := rfl
theorem pf_64_2 {s : pm_S} : (EE s).2.2.2 64 2 = some s.2.2.2.2.2 := rfl
theorem sh_65 {s : pm_S} : (EE s).2.2.1 65 = (1, 1000) := rfl
theorem lq_65 {s : pm_S} : 65 < (EE s).1 := by show 65 < 185; decide
theorem sh_66 {s : pm_S} : (EE s).2.2.1 66 = (1, 1000) := rfl
theorem lq_66 {s : pm_S} : 66 < (EE s).1 := by show 66 < 185; decide
theorem sh_67 {s : pm_S} : (EE s).2.2.1 67 = (17, 0) := rfl
theorem lq_67 {s : pm_S} : 67 < (EE s).1 := by show 67 < 185; decide
theorem pf_67_0 {s : pm_S} : (EE s).2.2.2 67 0 = some 68 := rfl
theorem pf_67_1 {s : pm_S} : (EE s).2.2.2 67 1 = some 69 := rfl
theorem pf_67_2 {s : pm_S} : (EE s).2.2.2 67 2 = some 70 := rfl
theorem pf_67_3 {s : pm_S} : (EE s).2.2.2 67 3 = some 71 := rfl
theorem sh_68 {s : pm_S} : (EE s).2.2.1 68 = (0, 8) := rfl
theorem lq_68 {s : pm_S} : 68 < (EE s).1 := by show 68 < 185; decide
theorem sh_69 {s : pm_S} : (EE s).2.2.1 69 = (0, 8) := rfl
theorem lq_69 {s : pm_S} : 69 < (EE s).1 := by show 69 < 185; decide
theorem sh_70 {s : pm_S} : (EE s).2.2.1 70 = (0, 6) := rfl
theorem lq_70 {s : pm_S} : 70 < (EE s).1 := by show 70 < 185; decide
theorem sh_71 {s : pm_S} : (EE s).2.2.1 71 = (0, 6) := rfl
theorem lq_71 {s : pm_S} : 71 < (EE s).1 := by show 71 < 185; decide
theorem sh_72 {s : pm_S} : (EE s).2.2.1 72 = (17, 0) := rfl
theorem lq_72 {s : pm_S} : 72 < (EE s).1 := by show 72 < 185; decide
theorem pf_72_0 {s : pm_S} : (EE s).2.2.2 72 0 = some 73 := rfl
theorem pf_72_1 {s : pm_S} : (EE s).2.2.2 72 1 = some 74 := rfl
theorem pf_72_2 {s : pm_S} : (EE s).2.2.2 72 2 = some 75 := rfl
theorem pf_72_3 {s : pm_S} : (EE s).2.2.2 72 3 = some 76 := rfl
theorem sh_73 {s : pm_S} : (EE s).2.2.1 73 = (0, 8) := rfl
theorem lq_73 {s : pm_S} : 73 < (EE s).1 := by show 73 < 185; decide
theorem sh_74 {s : pm_S} : (EE s).2.2.1 74 = (0, 8) := rfl
theorem lq_74 {s : pm_S} : 74 < (EE s).1 := by show 74 < 185; decide
theorem sh_75 {s : pm_S} : (EE s).2.2.1 75 = (0, 6) := rfl
theorem lq_75 {s : pm_S} : 75 < (EE s).1 := by show 75 < 185; decide
theorem sh_76 {s : pm_S} : (EE s).2.2.1 76 = (0, 6) := rfl
theorem lq_76 {s : pm_S} : 76 < (EE s).1 := by show 76 < 185; decide
theorem sh_77 {s : pm_S} : (EE s).2.2.1 77 = (17, 0) := rfl
theorem lq_77 {s : pm_S} : 77 < (EE s).1 := by show 77 < 185; decide
theorem pf_77_0 {s : pm_S} : (EE s).2.2.2 77 0 = some 78 := rfl
theorem pf_77_1 {s : pm_S} : (EE s).2.2.2 77 1 = some 79 := rfl
theorem pf_77_2 {s : pm_S} : (EE s).2.2.2 77 2 = some 80 := rfl
theorem pf_77_3 {s : pm_S} : (EE s).2.2.2 77 3 = some 81 := rfl
theorem sh_78 {s : pm_S} : (EE s).2.2.1 78 = (0, 8) := rfl
theorem lq_78 {s : pm_S} : 78 < (EE s).1 := by show 78 < 185; decide
theorem sh_79 {s : pm_S} : (EE s).2.2.1 79 = (0, 8) := rfl
theorem lq_79 {s : pm_S} : 79 < (EE s).1 := by show 79 < 185; decide
theorem sh_80 {s : pm_S} : (EE s).2.2.1 80 = (0, 6) := rfl
theorem lq_80 {s : pm_S} : 80 < (EE s).1 := by show 80 < 185; decide
theorem sh_81 {s : pm_S} : (EE s).2.2.1 81 = (0, 6) := rfl
theorem lq_81 {s : pm_S} : 81 < (EE s).1 := by show 81 < 185; decide
theorem sh_82 {s : pm_S} : (EE s).2.2.1 82 = (17, 0) := rfl
theorem lq_82 {s : pm_S} : 82 < (EE s).1 := by show 82 < 185; decide
theorem pf_82_0 {s : pm_S} : (EE s).2.2.2 82 0 = some 83 := rfl
theorem pf_82_1 {s : pm_S} : (EE s).2.2.2 82 1 = some 84 := rfl
theorem pf_82_2 {s : pm_S} : (EE s).2.2.2 82 2 = some 85 := rfl
theorem pf_82_3 {s : pm_S} : (EE s).2.2.2 82 3 = some 86 := rfl
theorem sh_83 {s : pm_S} : (EE s).2.2.1 83 = (0, 8) := rfl
theorem lq_83 {s : pm_S} : 83 < (EE s).1 := by show 83 < 185; decide
theorem sh_84 {s : pm_S} : (EE s).2.2.1 84 = (0, 8) := rfl
theorem lq_84 {s : pm_S} : 84 < (EE s).1 := by show 84 < 185; decide
theorem sh_85 {s : pm_S} : (EE s).2.2.1 85 = (0, 6) := rfl
theorem lq_85 {s : pm_S} : 85 < (EE s).1 := by show 85 < 185; decide
theorem sh_86 {s : pm_S} : (EE s).2.2.1 86 = (0, 6) := rfl
theorem lq_86 {s : pm_S} : 86 < (EE s).1 := by show 86 < 185; decide
theorem sh_87 {s : pm_S} : (EE s).2.2.1 87 = (17, 0) := rfl
theorem lq_87 {s : pm_S} : 87 < (EE s).1 := by show 87 < 185; decide
theorem pf_87_0 {s : pm_S} : (EE s).2.2.2 87 0 = some 88 := rfl
theorem pf_87_1 {s : pm_S} : (EE s).2.2.2 87 1 = some 89 := rfl
theorem pf_87_2 {s : pm_S} : (EE s).2.2.2 87 2 = some 90 := rfl
theorem pf_87_3 {s : pm_S} : (EE s).2.2.2 87 3 = some 91 := rfl
theorem sh_88 {s : pm_S} : (EE s).2.2.1 88 = (0, 8) := rfl
theorem lq_88 {s : pm_S} : 88 < (EE s).1 := by show 88 < 185; decide
theorem sh_89 {s : pm_S} : (EE s).2.2.1 89 = (0, 8) := rfl
theorem lq_89 {s : pm_S} : 89 < (EE s).1 := by show 89 < 185; decide
theorem sh_90 {s : pm_S} : (EE s).2.2.1 90 = (0, 6) := rfl
theorem lq_90 {s : pm_S} : 90 < (EE s).1 := by show 90 < 185; decide
theorem sh_91 {s : pm_S} : (EE s).2.2.1 91 = (0, 6) := rfl
theorem lq_91 {s : pm_S} : 91 < (EE s).1 := by show 91 < 185; decide
theorem sh_92 {s : pm_S} : (EE s).2.2.1 92 = (17, 0) := rfl
theorem lq_92 {s : pm_S} : 92 < (EE s).1 := by show 92 < 185; decide
theorem pf_92_0 {s : pm_S} : (EE s).2.2.2 92 0 = some 93 := rfl
theorem pf_92_1 {s : pm_S} : (EE s).2.2.2 92 1 = some 94 := rfl
theorem pf_92_2 {s : pm_S} : (EE s).2.2.2 92 2 = some 95 := rfl
theorem pf_92_3 {s : pm_S} : (EE s).2.2.2 92 3 = some 96 := rfl
theorem sh_93 {s : pm_S} : (EE s).2.2.1 93 = (0, 8) := rfl
theorem lq_93 {s : pm_S} : 93 < (EE s).1 := by show 93 < 185; decide
theorem sh_94 {s : pm_S} : (EE s).2.2.1 94 = (0, 8) := rfl
theorem lq_94 {s : pm_S} : 94 < (EE s).1 := by show 94 < 185; decide
theorem sh_95 {s : pm_S} : (EE s).2.2.1 95 = (0, 6) := rfl
theorem lq_95 {s : pm_S} : 95 < (EE s).1 := by show 95 < 185; decide
theorem sh_96 {s : pm_S} : (EE s).2.2.1 96 = (0, 6) := rfl
theorem lq_96 {s : pm_S} : 96 < (EE s).1 := by show 96 < 185; decide
theorem sh_97 {s : pm_S} : (EE s).2.2.1 97 = (17, 0) := rfl
theorem lq_97 {s : pm_S} : 97 < (EE s).1 := by show 97 < 185; decide
theorem pf_97_0 {s : pm_S} : (EE s).2.2.2 97 0 = some 98 := rfl
theorem pf_97_1 {s : pm_S} : (EE s).2.2.2 97 1 = some 99 := rfl
theorem pf_97_2 {s : pm_S} : (EE s).2.2.2 97 2 = some 100 := rfl
theorem pf_97_3 {s : pm_S} : (EE s).2.2.2 97 3 = some 101 := rfl
theorem sh_98 {s : pm_S} : (EE s).2.2.1 98 = (0, 8) := rfl
theorem lq_98 {s : pm_S} : 98 < (EE s).1 := by show 98 < 185; decide
theorem sh_99 {s : pm_S} : (EE s).2.2.1 99 = (0, 8) := rfl
theorem lq_99 {s : pm_S} : 99 < (EE s).1 := by show 99 < 185; decide
theorem sh_100 {s : pm_S} : (EE s).2.2.1 100 = (0, 6) := rfl
theorem lq_100 {s : pm_S} : 100 < (EE s).1 := by show 100 < 185; decide
theorem sh_101 {s : pm_S} : (EE s).2.2.1 101 = (0, 6) := rfl
theorem lq_101 {s : pm_S} : 101 < (EE s).1 := by show 101 < 185; decide
theorem sh_102 {s : pm_S} : (EE s).2.2.1 102 = (17, 0) := rfl
theorem lq_102 {s : pm_S} : 102 < (EE s).1 := by show 102 < 185; decide
theorem pf_102_0 {s : pm_S} : (EE s).2.2.2 102 0 = some 103 := rfl
theorem pf_102_1 {s : pm_S} : (EE s).2.2.2 102 1 = some 104 := rfl
theorem pf_102_2 {s : pm_S} : (EE s).2.2.2 102 2 = some 105 := rfl
theorem pf_102_3 {s : pm_S} : (EE s).2.2.2 102 3 = some 106 := rfl
theorem sh_103 {s : pm_S} : (EE s).2.2.1 103 = (0, 8) := rfl
theorem lq_103 {s : pm_S} : 103 < (EE s).1 := by show 103 < 185; decide
theorem sh_104 {s : pm_S} : (EE s).2.2.1 104 = (0, 8) := rfl
theorem lq_104 {s : pm_S} : 104 < (EE s).1 := by show 104 < 185; decide
theorem sh_105 {s : pm_S} : (EE s).2.2.1 105 = (0, 6) := rfl
theorem lq_105 {s : pm_S} : 105 < (EE s).1 := by show 105 < 185; decide
theorem sh_106 {s : pm_S} : (EE s).2.2.1 106 = (0, 6) := rfl
theorem lq_106 {s : pm_S} : 106 < (EE s).1 := by show 106 < 185; decide
theorem sh_107 {s : pm_S} : (EE s).2.2.1 107 = (17, 0) := rfl
theorem lq_107 {s : pm_S} : 107 < (EE s).1 := by show 107 < 185; decide
theorem pf_107_0 {s : pm_S} : (EE s).2.2.2 107 0 = some 108 := rfl
theorem pf_107_1 {s : pm_S} : (EE s).2.2.2 107 1 = some 109 := rfl
theorem pf_107_2 {s : pm_S} : (EE s).2.2.2 107 2 = some 110 := rfl
theorem pf_107_3 {s : pm_S} : (EE s).2.2.2 107 3 = some 111 := rfl
theorem sh_108 {s : pm_S} : (EE s).2.2.1 108 = (0, 8) := rfl
theorem lq_108 {s : pm_S} : 108 < (EE s).1 := by show 108 < 185; decide
theorem sh_109 {s : pm_S} : (EE s).2.2.1 109 = (0, 8) := rfl
theorem lq_109 {s : pm_S} : 109 < (EE s).1 := by show 109 < 185; decide
theorem sh_110 {s : pm_S} : (EE s).2.2.1 110 = (0, 6) := rfl
theorem lq_110 {s : pm_S} : 110 < (EE s).1 := by show 110 < 185; decide
theorem sh_111 {s : pm_S} : (EE s).2.2.1 111 = (0, 6) := rfl
theorem lq_111 {s : pm_S} : 111 < (EE s).1 := by show 111 < 185; decide
theorem sh_112 {s : pm_S} : (EE s).2.2.1 112 = (17, 0) := rfl
theorem lq_112 {s : pm_S} : 112 < (EE s).1 := by show 112 < 185; decide
theorem pf_112_0 {s : pm_S} : (EE s).2.2.2 112 0 = some 113 := rfl
theorem pf_112_1 {s : pm_S} : (EE s).2.2.2 112 1 = some 114 := rfl
theorem pf_112_2 {s : pm_S} : (EE s).2.2.2 112 2 = some 115 := rfl
theorem pf_112_3 {s : pm_S} : (EE s).2.2.2 112 3 = some 116 := rfl
theorem sh_113 {s : pm_S} : (EE s).2.2.1 113 = (0, 8) := rfl
theorem lq_113 {s : pm_S} : 113 < (EE s).1 := by show 113 < 185; decide
theorem sh_114 {s : pm_S} : (EE s).2.2.1 114 = (0, 8) := rfl
theorem lq_114 {s : pm_S} : 114 < (EE s).1 := by show 114 < 185; decide
theorem sh_115 {s : pm_S} : (EE s).2.2.1 115 = (0, 6) := rfl
theorem lq_115 {s : pm_S} : 115 < (EE s).1 := by show 115 < 185; decide
theorem sh_116 {s : pm_S} : (EE s).2.2.1 116 = (0, 6) := rfl
theorem lq_116 {s : pm_S} : 116 < (EE s).1 := by show 116 < 185; decide
theorem sh_117 {s : pm_S} : (EE s).2.2.1 117 = (19, 0) := rfl
theorem lq_117 {s : pm_S} : 117 < (EE s).1 := by show 117 < 185; decide
theorem pf_117_0 {s : pm_S} : (EE s).2.2.2 117 0 = some 118 := rfl
theorem sh_118 {s : pm_S} : (EE s).2.2.1 118 = (1, 40) := rfl
theorem lq_118 {s : pm_S} : 118 < (EE s).1 := by show 118 < 185; decide
theorem sh_119 {s : pm_S} : (EE s).2.2.1 119 = (19, 0) := rfl
theorem lq_119 {s : pm_S} : 119 < (EE s).1 := by show 119 < 185; decide
theorem pf_119_0 {s : pm_S} : (EE s).2.2.2 119 0 = some 120 := rfl
theorem sh_120 {s : pm_S} : (EE s).2.2.1 120 = (1, 40) := rfl
theorem lq_120 {s : pm_S} : 120 < (EE s).1 := by show 120 < 185; decide
theorem sh_121 {s : pm_S} : (EE s).2.2.1 121 = (19, 0) := rfl
theorem lq_121 {s : pm_S} : 121 < (EE s).1 := by show 121 < 185; decide
theorem pf_121_0 {s : pm_S} : (EE s).2.2.2 121 0 = some 122 := rfl
theorem sh_122 {s : pm_S} : (EE s).2.2.1 122 = (1, 40) := rfl
theorem lq_122 {s : pm_S} : 122 < (EE s).1 := by show 122 < 185; decide
theorem sh_123 {s : pm_S} : (EE s).2.2.1 123 = (19, 0) := rfl
theorem lq_123 {s : pm_S} : 123 < (EE s).1 := by show 123 < 185; decide
theorem pf_123_0 {s : pm_S} : (EE s).2.2.2 123 0 = some 124 := rfl
theorem sh_124 {s : pm_S} : (EE s).2.2.1 124 = (1, 40) := rfl
theorem lq_124 {s : pm_S} : 124 < (EE s).1 := by show 124 < 185; decide
theorem sh_125 {s : pm_S} : (EE s).2.2.1 125 = (13, 0) := rfl
theorem lq_125 {s : pm_S} : 125 < (EE s).1 := by show 125 < 185; decide
theorem pf_125_5 {s : pm_S} : (EE s).2.2.2 125 5 = some 126 := rfl
theorem pf_125_6 {s : pm_S} : (EE s).2.2.2 125 6 = some 127 := rfl
theorem pf_125_7 {s : pm_S} : (EE s).2.2.2 125 7 = some 128 := rfl
theorem pf_125_8 {s : pm_S} : (EE s).2.2.2 125 8 = some 129 := rfl
theorem pf_125_9 {s : pm_S} : (EE s).2.2.2 125 9 = some 130 := rfl
theorem pf_125_10 {s : pm_S} : (EE s).2.2.2 125 10 = some 131 := rfl
theorem pf_125_11 {s : pm_S} : (EE s).2.2.2 125 11 = some 132 := rfl
theorem pf_125_12 {s : pm_S} : (EE s).2.2.2 125 12 = some 133 := rfl
theorem sh_126 {s : pm_S} : (EE s).2.2.1 126 = (0, 8) := rfl
theorem lq_126 {s : pm_S} : 126 < (EE s).1 := by show 126 < 185; decide
theorem sh_127 {s : pm_S} : (EE s).2.2.1 127 = (0, 8) := rfl
theorem lq_127 {s : pm_S} : 127 < (EE s).1 := by show 127 < 185; decide
theorem sh_128 {s : pm_S} : (EE s).2.2.1 128 = (0, 8) := rfl
theorem lq_128 {s : pm_S} : 128 < (EE s).1 := by show 128 < 185; decide
theorem sh_129 {s : pm_S} : (EE s).2.2.1 129 = (0, 8) := rfl
theorem lq_129 {s : pm_S} : 129 < (EE s).1 := by show 129 < 185; decide
theorem sh_130 {s : pm_S} : (EE s).2.2.1 130 = (0, 6) := rfl
theorem lq_130 {s : pm_S} : 130 < (EE s).1 := by show 130 < 185; decide
theorem sh_131 {s : pm_S} : (EE s).2.2.1 131 = (0, 6) := rfl
theorem lq_131 {s : pm_S} : 131 < (EE s).1 := by show 131 < 185; decide
theorem sh_132 {s : pm_S} : (EE s).2.2.1 132 = (0, 6) := rfl
theorem lq_132 {s : pm_S} : 132 < (EE s).1 := by show 132 < 185; decide
theorem sh_133 {s : pm_S} : (EE s).2.2.1 133 = (11, 0) := rfl
theorem lq_133 {s : pm_S} : 133 < (EE s).1 := by show 133 < 185; decide
theorem pf_133_0 {s : pm_S} : (EE s).2.2.2 133 0 = some 134 := rfl
theorem pf_133_1 {s : pm_S} : (EE s).2.2.2 133 1 = some 135 := rfl
theorem pf_133_2 {s : pm_S} : (EE s).2.2.2 133 2 = some 136 := rfl
theorem sh_134 {s : pm_S} : (EE s).2.2.1 134 = (0, 900) := rfl
theorem lq_134 {s : pm_S} : 134 < (EE s).1 := by show 134 < 185; decide
theorem sh_135 {s : pm_S} : (EE s).2.2.1 135 = (0, 64) := rfl
theorem lq_135 {s : pm_S} : 135 < (EE s).1 := by show 135 < 185; decide
theorem sh_136 {s : pm_S} : (EE s).2.2.1 136 = (0, 7) := rfl
theorem lq_136 {s : pm_S} : 136 < (EE s).1 := by show 136 < 185; decide
theorem sh_137 {s : pm_S} : (EE s).2.2.1 137 = (17, 0) := rfl
theorem lq_137 {s : pm_S} : 137 < (EE s).1 := by show 137 < 185; decide
theorem pf_137_0 {s : pm_S} : (EE s).2.2.2 137 0 = some 138 := rfl
theorem pf_137_1 {s : pm_S} : (EE s).2.2.2 137 1 = some 139 := rfl
theorem pf_137_2 {s : pm_S} : (EE s).2.2.2 137 2 = some 140 := rfl
theorem pf_137_3 {s : pm_S} : (EE s).2.2.2 137 3 = some 141 := rfl
theorem sh_138 {s : pm_S} : (EE s).2.2.1 138 = (0, 8) := rfl
theorem lq_138 {s : pm_S} : 138 < (EE s).1 := by show 138 < 185; decide
theorem sh_139 {s : pm_S} : (EE s).2.2.1 139 = (0, 8) := rfl
theorem lq_139 {s : pm_S} : 139 < (EE s).1 := by show 139 < 185; decide
theorem sh_140 {s : pm_S} : (EE s).2.2.1 140 = (0, 6) := rfl
theorem lq_140 {s : pm_S} : 140 < (EE s).1 := by show 140 < 185; decide
theorem sh_141 {s : pm_S} : (EE s).2.2.1 141 = (0, 6) := rfl
theorem lq_141 {s : pm_S} : 141 < (EE s).1 := by show 141 < 185; decide
theorem sh_142 {s : pm_S} : (EE s).2.2.1 142 = (13, 0) := rfl
theorem lq_142 {s : pm_S} : 142 < (EE s).1 := by show 142 < 185; decide
theorem pf_142_5 {s : pm_S} : (EE s).2.2.2 142 5 = some 143 := rfl
theorem pf_142_6 {s : pm_S} : (EE s).2.2.2 142 6 = some 144 := rfl
theorem pf_142_7 {s : pm_S} : (EE s).2.2.2 142 7 = some 145 := rfl
theorem pf_142_8 {s : pm_S} : (EE s).2.2.2 142 8 = some 146 := rfl
theorem pf_142_9 {s : pm_S} : (EE s).2.2.2 142 9 = some 147 := rfl
theorem pf_142_10 {s : pm_S} : (EE s).2.2.2 142 10 = some 148 := rfl
theorem pf_142_11 {s : pm_S} : (EE s).2.2.2 142 11 = some 149 := rfl
theorem pf_142_12 {s : pm_S} : (EE s).2.2.2 142 12 = some 150 := rfl
theorem sh_143 {s : pm_S} : (EE s).2.2.1 143 = (0, 8) := rfl
theorem lq_143 {s : pm_S} : 143 < (EE s).1 := by show 143 < 185; decide
theorem sh_144 {s : pm_S} : (EE s).2.2.1 144 = (0, 8) := rfl
theorem lq_144 {s : pm_S} : 144 < (EE s).1 := by show 144 < 185; decide
theorem sh_145 {s : pm_S} : (EE s).2.2.1 145 = (0, 8) := rfl
theorem lq_145 {s : pm_S} : 145 < (EE s).1 := by show 145 < 185; decide
theorem sh_146 {s : pm_S} : (EE s).2.2.1 146 = (0, 8) := rfl
theorem lq_146 {s : pm_S} : 146 < (EE s).1 := by show 146 < 185; decide
theorem sh_147 {s : pm_S} : (EE s).2.2.1 147 = (0, 6) := rfl
theorem lq_147 {s : pm_S} : 147 < (EE s).1 := by show 147 < 185; decide
theorem sh_148 {s : pm_S} : (EE s).2.2.1 148 = (0, 6) := rfl
theorem lq_148 {s : pm_S} : 148 < (EE s).1 := by show 148 < 185; decide
theorem sh_149 {s : pm_S} : (EE s).2.2.1 149 = (0, 6) := rfl
theorem lq_149 {s : pm_S} : 149 < (EE s).1 := by show 149 < 185; decide
theorem sh_150 {s : pm_S} : (EE s).2.2.1 150 = (11, 0) := rfl
theorem lq_150 {s : pm_S} : 150 < (EE s).1 := by show 150 < 185; decide
theorem pf_150_0 {s : pm_S} : (EE s).2.2.2 150 0 = some 151 := rfl
theorem pf_150_1 {s : pm_S} : (EE s).2.2.2 150 1 = some 152 := rfl
theorem pf_150_2 {s : pm_S} : (EE s).2.2.2 150 2 = some 153 := rfl
theorem sh_151 {s : pm_S} : (EE s).2.2.1 151 = (0, 900) := rfl
theorem lq_151 {s : pm_S} : 151 < (EE s).1 := by show 151 < 185; decide
theorem sh_152 {s : pm_S} : (EE s).2.2.1 152 = (0, 64) := rfl
theorem lq_152 {s : pm_S} : 152 < (EE s).1 := by show 152 < 185; decide
theorem sh_153 {s : pm_S} : (EE s).2.2.1 153 = (0, 7) := rfl
theorem lq_153 {s : pm_S} : 153 < (EE s).1 := by show 153 < 185; decide
theorem sh_154 {s : pm_S} : (EE s).2.2.1 154 = (17, 0) := rfl
theorem lq_154 {s : pm_S} : 154 < (EE s).1 := by show 154 < 185; decide
theorem pf_154_0 {s : pm_S} : (EE s).2.2.2 154 0 = some 155 := rfl
theorem pf_154_1 {s : pm_S} : (EE s).2.2.2 154 1 = some 156 := rfl
theorem pf_154_2 {s : pm_S} : (EE s).2.2.2 154 2 = some 157 := rfl
theorem pf_154_3 {s : pm_S} : (EE s).2.2.2 154 3 = some 158 := rfl
theorem sh_155 {s : pm_S} : (EE s).2.2.1 155 = (0, 8) := rfl
theorem lq_155 {s : pm_S} : 155 < (EE s).1 := by show 155 < 185; decide
theorem sh_156 {s : pm_S} : (EE s).2.2.1 156 = (0, 8) := rfl
theorem lq_156 {s : pm_S} : 156 < (EE s).1 := by show 156 < 185; decide
theorem sh_157 {s : pm_S} : (EE s).2.2.1 157 = (0, 6) := rfl
theorem lq_157 {s : pm_S} : 157 < (EE s).1 := by show 157 < 185; decide
theorem sh_158 {s : pm_S} : (EE s).2.2.1 158 = (0, 6) := rfl
theorem lq_158 {s : pm_S} : 158 < (EE s).1 := by show 158 < 185; decide
theorem sh_159 {s : pm_S} : (EE s).2.2.1 159 = (22, 0) := rfl
theorem lq_159 {s : pm_S} : 159 < (EE s).1 := by show 159 < 185; decide
theorem pf_159_1 {s : pm_S} : (EE s).2.2.2 159 1 = some 160 := rfl
theorem pf_159_2 {s : pm_S} : (EE s).2.2.2 159 2 = some 161 := rfl
theorem pf_159_3 {s : pm_S} : (EE s).2.2.2 159 3 = some 162 := rfl
theorem pf_159_4 {s : pm_S} : (EE s).2.2.2 159 4 = some 163 := rfl
theorem pf_159_16 {s : pm_S} : (EE s).2.2.2 159 16 = some 164 := rfl
theorem pf_159_17 {s : pm_S} : (EE s).2.2.2 159 17 = some 165 := rfl
theorem pf_159_18 {s : pm_S} : (EE s).2.2.2 159 18 = some 166 := rfl
theorem pf_159_21 {s : pm_S} : (EE s).2.2.2 159 21 = some 167 := rfl
theorem pf_159_22 {s : pm_S} : (EE s).2.2.2 159 22 = some 168 := rfl
theorem pf_159_23 {s : pm_S} : (EE s).2.2.2 159 23 = some 169 := rfl
theorem pf_159_24 {s : pm_S} : (EE s).2.2.2 159 24 = some 170 := rfl
theorem pf_159_25 {s : pm_S} : (EE s).2.2.2 159 25 = some 171 := rfl
theorem pf_159_27 {s : pm_S} : (EE s).2.2.2 159 27 = some 172 := rfl
theorem pf_159_28 {s : pm_S} : (EE s).2.2.2 159 28 = some 173 := rfl
theorem pf_159_30 {s : pm_S} : (EE s).2.2.2 159 30 = some 174 := rfl
theorem pf_159_31 {s : pm_S} : (EE s).2.2.2 159 31 = some 175 := rfl
theorem pf_159_32 {s : pm_S} : (EE s).2.2.2 159 32 = some 176 := rfl
theorem pf_159_33 {s : pm_S} : (EE s).2.2.2 159 33 = some 177 := rfl
theorem pf_159_35 {s : pm_S} : (EE s).2.2.2 159 35 = some 178 := rfl
theorem pf_159_36 {s : pm_S} : (EE s).2.2.2 159 36 = some 179 := rfl
theorem pf_159_37 {s : pm_S} : (EE s).2.2.2 159 37 = some 180 := rfl
theorem pf_159_38 {s : pm_S} : (EE s).2.2.2 159 38 = some 181 := rfl
theorem pf_159_39 {s : pm_S} : (EE s).2.2.2 159 39 = some 182 := rfl
theorem pf_159_40 {s : pm_S} : (EE s).2.2.2 159 40 = some 183 := rfl
theorem pf_159_41 {s : pm_S} : (EE s).2.2.2 159 41 = some 184 := rfl
theorem sh_160 {s : pm_S} : (EE s).2.2.1 160 = (0, 3870) := rfl
theorem lq_160 {s : pm_S} : 160 < (EE s).1 := by show 160 < 185; decide
theorem sh_161 {s : pm_S} : (EE s).2.2.1 161 = (2, 2) := rfl
theorem lq_161 {s : pm_S} : 161 < (EE s).1 := by show 161 < 185; decide
theorem sh_162 {s : pm_S} : (EE s).2.2.1 162 = (0, 900) := rfl
theorem lq_162 {s : pm_S} : 162 < (EE s).1 := by show 162 < 185; decide
theorem sh_163 {s : pm_S} : (EE s).2.2.1 163 = (0, 1290) := rfl
theorem lq_163 {s : pm_S} : 163 < (EE s).1 := by show 163 < 185; decide
theorem sh_164 {s : pm_S} : (EE s).2.2.1 164 = (0, 900) := rfl
theorem lq_164 {s : pm_S} : 164 < (EE s).1 := by show 164 < 185; decide
theorem sh_165 {s : pm_S} : (EE s).2.2.1 165 = (0, 7) := rfl
theorem lq_165 {s : pm_S} : 165 < (EE s).1 := by show 165 < 185; decide
theorem sh_166 {s : pm_S} : (EE s).2.2.1 166 = (0, 31) := rfl
theorem lq_166 {s : pm_S} : 166 < (EE s).1 := by show 166 < 185; decide
theorem sh_167 {s : pm_S} : (EE s).2.2.1 167 = (0, 3) := rfl
theorem lq_167 {s : pm_S} : 167 < (EE s).1 := by show 167 < 185; decide
theorem sh_168 {s : pm_S} : (EE s).2.2.1 168 = (0, 1792) := rfl
theorem lq_168 {s : pm_S} : 168 < (EE s).1 := by show 168 < 185; decide
theorem sh_169 {s : pm_S} : (EE s).2.2.1 169 = (0, 1792) := rfl
theorem lq_169 {s : pm_S} : 169 < (EE s).1 := by show 169 < 185; decide
theorem sh_170 {s : pm_S} : (EE s).2.2.1 170 = (0, 1792) := rfl
theorem lq_170 {s : pm_S} : 170 < (EE s).1 := by show 170 < 185; decide
theorem sh_171 {s : pm_S} : (EE s).2.2.1 171 = (0, 48) := rfl
theorem lq_171 {s : pm_S} : 171 < (EE s).1 := by show 171 < 185; decide
theorem sh_172 {s : pm_S} : (EE s).2.2.1 172 = (0, 6) := rfl
theorem lq_172 {s : pm_S} : 172 < (EE s).1 := by show 172 < 185; decide
theorem sh_173 {s : pm_S} : (EE s).2.2.1 173 = (0, 6) := rfl
theorem lq_173 {s : pm_S} : 173 < (EE s).1 := by show 173 < 185; decide
theorem sh_174 {s : pm_S} : (EE s).2.2.1 174 = (0, 25600) := rfl
theorem lq_174 {s : pm_S} : 174 < (EE s).1 := by show 174 < 185; decide
theorem sh_175 {s : pm_S} : (EE s).2.2.1 175 = (0, 100) := rfl
theorem lq_175 {s : pm_S} : 175 < (EE s).1 := by show 175 < 185; decide
theorem sh_176 {s : pm_S} : (EE s).2.2.1 176 = (0, 100) := rfl
theorem lq_176 {s : pm_S} : 176 < (EE s).1 := by show 176 < 185; decide
theorem sh_177 {s : pm_S} : (EE s).2.2.1 177 = (0, 8) := rfl
theorem lq_177 {s : pm_S} : 177 < (EE s).1 := by show 177 < 185; decide
theorem sh_178 {s : pm_S} : (EE s).2.2.1 178 = (2, 25600) := rfl
theorem lq_178 {s : pm_S} : 178 < (EE s).1 := by show 178 < 185; decide
theorem sh_179 {s : pm_S} : (EE s).2.2.1 179 = (0, 256) := rfl
theorem lq_179 {s : pm_S} : 179 < (EE s).1 := by show 179 < 185; decide
theorem sh_180 {s : pm_S} : (EE s).2.2.1 180 = (1, 1000) := rfl
theorem lq_180 {s : pm_S} : 180 < (EE s).1 := by show 180 < 185; decide
theorem sh_181 {s : pm_S} : (EE s).2.2.1 181 = (1, 1000) := rfl
theorem lq_181 {s : pm_S} : 181 < (EE s).1 := by show 181 < 185; decide
theorem sh_182 {s : pm_S} : (EE s).2.2.1 182 = (0, 4) := rfl
theorem lq_182 {s : pm_S} : 182 < (EE s).1 := by show 182 < 185; decide
theorem sh_183 {s : pm_S} : (EE s).2.2.1 183 = (0, 4) := rfl
theorem lq_183 {s : pm_S} : 183 < (EE s).1 := by show 183 < 185; decide
theorem sh_184 {s : pm_S} : (EE s).2.2.1 184 = (1, 160) := rfl
theorem lq_184 {s : pm_S} : 184 < (EE s).1 := by show 184 < 185; decide
def isS (o : Nat) : Prop := o ∈ [27, 32, 67, 72, 77, 82, 87, 92, 97, 102, 107, 112, 137, 154]
theorem ltS_0 {o : Nat} (h : isS o) {s : pm_S} : o + 0 < (EE s).1 := by
  simp only [isS, List.mem_cons, List.not_mem_nil, or_false] at h
  show o + 0 < 185
  omega
theorem shS_0 {o : Nat} (h : isS o) {s : pm_S} : (EE s).2.2.1 (o + 0) = (17, 0) := by
  simp only [isS, List.mem_cons, List.not_mem_nil, or_false] at h
  rcases h with rfl | rfl | rfl | rfl | rfl | rfl | rfl | rfl | rfl | rfl | rfl | rfl | rfl | rfl <;> rfl
theorem ltS_1 {o : Nat} (h : isS o) {s : pm_S} : o + 1 < (EE s).1 := by
  simp only [isS, List.mem_cons, List.not_mem_nil, or_false] at h
  show o + 1 < 185
  omega
theorem shS_1 {o : Nat} (h : isS o) {s : pm_S} : (EE s).2.2.1 (o + 1) = (0, 8) := by
  simp only [isS, List.mem_cons, List.not_mem_nil, or_false] at h
  rcases h with rfl | rfl | rfl | rfl | rfl | rfl | rfl | rfl | rfl | rfl | rfl | rfl | rfl | rfl <;> rfl
theorem ltS_2 {o : Nat} (h : isS o) {s : pm_S} : o + 2 < (EE s).1 := by
  simp only [isS, List.mem_cons, List.not_mem_nil, or_false] at h
  show o + 2 < 185
  omega
theorem shS_2 {o : Nat} (h : isS o) {s : pm_S} : (EE s).2.2.1 (o + 2) = (0, 8) := by
  simp only [isS, List.mem_cons, List.not_mem_nil, or_false] at h
  rcases h with rfl | rfl | rfl | rfl | rfl | rfl | rfl | rfl | rfl | rfl | rfl | rfl | rfl | rfl <;> rfl
theorem ltS_3 {o : Nat} (h : isS o) {s : pm_S} : o + 3 < (EE s).1 := by
  simp only [isS, List.mem_cons, List.not_mem_nil, or_false] at h
  show o + 3 < 185
  omega
theorem shS_3 {o : Nat} (h : isS o) {s : pm_S} : (EE s).2.2.1 (o + 3) = (0, 6) := by
  simp only [isS, List.mem_cons, List.not_mem_nil, or_false] at h
  rcases h with rfl | rfl | rfl | rfl | rfl | rfl | rfl | rfl | rfl | rfl | rfl | rfl | rfl | rfl <;> rfl
theorem ltS_4 {o : Nat} (h : isS o) {s : pm_S} : o + 4 < (EE s).1 := by
  simp only [isS, List.mem_cons, List.not_mem_nil, or_false] at h
  show o + 4 < 185
  omega
theorem shS_4 {o : Nat} (h : isS o) {s : pm_S} : (EE s).2.2.1 (o + 4) = (0, 6) := by
  simp only [isS, List.mem_cons, List.not_mem_nil, or_false] at h
  rcases h with rfl | rfl | rfl | rfl | rfl | rfl | rfl | rfl | rfl | rfl | rfl | rfl | rfl | rfl <;> rfl
theorem pfS_0 {o : Nat} (h : isS o) {s : pm_S} : (EE s).2.2.2 o 0 = some (o + 1) := by
  simp only [isS, List.mem_cons, List.not_mem_nil, or_false] at h
  rcases h with rfl | rfl | rfl | rfl | rfl | rfl | rfl | rfl | rfl | rfl | rfl | rfl | rfl | rfl <;> rfl
theorem pfS_1 {o : Nat} (h : isS o) {s : pm_S} : (EE s).2.2.2 o 1 = some (o + 2) := by
  simp only [isS, List.mem_cons, List.not_mem_nil, or_false] at h
  rcases h with rfl | rfl | rfl | rfl | rfl | rfl | rfl | rfl | rfl | rfl | rfl | rfl | rfl | rfl <;> rfl
theorem pfS_2 {o : Nat} (h : isS o) {s : pm_S} : (EE s).2.2.2 o 2 = some (o + 3) := by
  simp only [isS, List.mem_cons, List.not_mem_nil, or_false] at h
  rcases h with rfl | rfl | rfl | rfl | rfl | rfl | rfl | rfl | rfl | rfl | rfl | rfl | rfl | rfl <;> rfl
theorem pfS_3 {o : Nat} (h : isS o) {s : pm_S} : (EE s).2.2.2 o 3 = some (o + 4) := by
  simp only [isS, List.mem_cons, List.not_mem_nil, or_false] at h
  rcases h with rfl | rfl | rfl | rfl | rfl | rfl | rfl | rfl | rfl | rfl | rfl | rfl | rfl | rfl <;> rfl
def isL (o : Nat) : Prop := o ∈ [2, 15, 125, 142]
theorem ltL_0 {o : Nat} (h : isL o) {s : pm_S} : o + 0 < (EE s).1 := by
  simp only [isL, List.mem_cons, List.not_mem_nil, or_false] at h
  show o + 0 < 185
  omega
theorem shL_0 {o : Nat} (h : isL o) {s : pm_S} : (EE s).2.2.1 (o + 0) = (13, 0) := by
  simp only [isL, List.mem_cons, List.not_mem_nil, or_false] at h
  rcases h with rfl | rfl | rfl | rfl <;> rfl
theorem ltL_1 {o : Nat} (h : isL o) {s : pm_S} : o + 1 < (EE s).1 := by
  simp only [isL, List.mem_cons, List.not_mem_nil, or_false] at h
  show o + 1 < 185
  omega
theorem shL_1 {o : Nat} (h : isL o) {s : pm_S} : (EE s).2.2.1 (o + 1) = (0, 8) := by
  simp only [isL, List.mem_cons, List.not_mem_nil, or_false] at h
  rcases h with rfl | rfl | rfl | rfl <;> rfl
theorem ltL_2 {o : Nat} (h : isL o) {s : pm_S} : o + 2 < (EE s).1 := by
  simp only [isL, List.mem_cons, List.not_mem_nil, or_false] at h
  show o + 2 < 185
  omega
theorem shL_2 {o : Nat} (h : isL o) {s : pm_S} : (EE s).2.2.1 (o + 2) = (0, 8) := by
  simp only [isL, List.mem_cons, List.not_mem_nil, or_false] at h
  rcases h with rfl | rfl | rfl | rfl <;> rfl
theorem ltL_3 {o : Nat} (h : isL o) {s : pm_S} : o + 3 < (EE s).1 := by
  simp only [isL, List.mem_cons, List.not_mem_nil, or_false] at h
  show o + 3 < 185
  omega
theorem shL_3 {o : Nat} (h : isL o) {s : pm_S} : (EE s).2.2.1 (o + 3) = (0, 8) := by
  simp only [isL, List.mem_cons, List.not_mem_nil, or_false] at h
  rcases h with rfl | rfl | rfl | rfl <;> rfl
theorem ltL_4 {o : Nat} (h : isL o) {s : pm_S} : o + 4 < (EE s).1 := by
  simp only [isL, List.mem_cons, List.not_mem_nil, or_false] at h
  show o + 4 < 185
  omega
theorem shL_4 {o : Nat} (h : isL o) {s : pm_S} : (EE s).2.2.1 (o + 4) = (0, 8) := by
  simp only [isL, List.mem_cons, List.not_mem_nil, or_false] at h
  rcases h with rfl | rfl | rfl | rfl <;> rfl
theorem ltL_5 {o : Nat} (h : isL o) {s : pm_S} : o + 5 < (EE s).1 := by
  simp only [isL, List.mem_cons, List.not_mem_nil, or_false] at h
  show o + 5 < 185
  omega
theorem shL_5 {o : Nat} (h : isL o) {s : pm_S} : (EE s).2.2.1 (o + 5) = (0, 6) := by
  simp only [isL, List.mem_cons, List.not_mem_nil, or_false] at h
  rcases h with rfl | rfl | rfl | rfl <;> rfl
theorem ltL_6 {o : Nat} (h : isL o) {s : pm_S} : o + 6 < (EE s).1 := by
  simp only [isL, List.mem_cons, List.not_mem_nil, or_false] at h
  show o + 6 < 185
  omega
theorem shL_6 {o : Nat} (h : isL o) {s : pm_S} : (EE s).2.2.1 (o + 6) = (0, 6) := by
  simp only [isL, List.mem_cons, List.not_mem_nil, or_false] at h
  rcases h with rfl | rfl | rfl | rfl <;> rfl
theorem ltL_7 {o : Nat} (h : isL o) {s : pm_S} : o + 7 < (EE s).1 := by
  simp only [isL, List.mem_cons, List.not_mem_nil, or_false] at h
  show o + 7 < 185
  omega
theorem shL_7 {o : Nat} (h : isL o) {s : pm_S} : (EE s).2.2.1 (o + 7) = (0, 6) := by
  simp only [isL, List.mem_cons, List.not_mem_nil, or_false] at h
  rcases h with rfl | rfl | rfl | rfl <;> rfl
theorem ltL_8 {o : Nat} (h : isL o) {s : pm_S} : o + 8 < (EE s).1 := by
  simp only [isL, List.mem_cons, List.not_mem_nil, or_false] at h
  show o + 8 < 185
  omega
theorem shL_8 {o : Nat} (h : isL o) {s : pm_S} : (EE s).2.2.1 (o + 8) = (11, 0) := by
  simp only [isL, List.mem_cons, List.not_mem_nil, or_false] at h
  rcases h with rfl | rfl | rfl | rfl <;> rfl
theorem ltL_9 {o : Nat} (h : isL o) {s : pm_S} : o + 9 < (EE s).1 := by
  simp only [isL, List.mem_cons, List.not_mem_nil, or_false] at h
  show o + 9 < 185
  omega
theorem shL_9 {o : Nat} (h : isL o) {s : pm_S} : (EE s).2.2.1 (o + 9) = (0, 900) := by
  simp only [isL, List.mem_cons, List.not_mem_nil, or_false] at h
  rcases h with rfl | rfl | rfl | rfl <;> rfl
theorem ltL_10 {o : Nat} (h : isL o) {s : pm_S} : o + 10 < (EE s).1 := by
  simp only [isL, List.mem_cons, List.not_mem_nil, or_false] at h
  show o + 10 < 185
  omega
theorem shL_10 {o : Nat} (h : isL o) {s : pm_S} : (EE s).2.2.1 (o + 10) = (0, 64) := by
  simp only [isL, List.mem_cons, List.not_mem_nil, or_false] at h
  rcases h with rfl | rfl | rfl | rfl <;> rfl
theorem ltL_11 {o : Nat} (h : isL o) {s : pm_S} : o + 11 < (EE s).1 := by
  simp only [isL, List.mem_cons, List.not_mem_nil, or_false] at h
  show o + 11 < 185
  omega
theorem shL_11 {o : Nat} (h : isL o) {s : pm_S} : (EE s).2.2.1 (o + 11) = (0, 7) := by
  simp only [isL, List.mem_cons, List.not_mem_nil, or_false] at h
  rcases h with rfl | rfl | rfl | rfl <;> rfl
theorem pfL_5 {o : Nat} (h : isL o) {s : pm_S} : (EE s).2.2.2 o 5 = some (o + 1) := by
  simp only [isL, List.mem_cons, List.not_mem_nil, or_false] at h
  rcases h with rfl | rfl | rfl | rfl <;> rfl
theorem pfL_6 {o : Nat} (h : isL o) {s : pm_S} : (EE s).2.2.2 o 6 = some (o + 2) := by
  simp only [isL, List.mem_cons, List.not_mem_nil, or_false] at h
  rcases h with rfl | rfl | rfl | rfl <;> rfl
theorem pfL_7 {o : Nat} (h : isL o) {s : pm_S} : (EE s).2.2.2 o 7 = some (o + 3) := by
  simp only [isL, List.mem_cons, List.not_mem_nil, or_false] at h
  rcases h with rfl | rfl | rfl | rfl <;> rfl
theorem pfL_8 {o : Nat} (h : isL o) {s : pm_S} : (EE s).2.2.2 o 8 = some (o + 4) := by
  simp only [isL, List.mem_cons, List.not_mem_nil, or_false] at h
  rcases h with rfl | rfl | rfl | rfl <;> rfl
theorem pfL_9 {o : Nat} (h : isL o) {s : pm_S} : (EE s).2.2.2 o 9 = some (o + 5) := by
  simp only [isL, List.mem_cons, List.not_mem_nil, or_false] at h
  rcases h with rfl | rfl | rfl | rfl <;> rfl
theorem pfL_10 {o : Nat} (h : isL o) {s : pm_S} : (EE s).2.2.2 o 10 = some (o + 6) := by
  simp only [isL, List.mem_cons, List.not_mem_nil, or_false] at h
  rcases h with rfl | rfl | rfl | rfl <;> rfl
theorem pfL_11 {o : Nat} (h : isL o) {s : pm_S} : (EE s).2.2.2 o 11 = some (o + 7) := by
  simp only [isL, List.mem_cons, List.not_mem_nil, or_false] at h
  rcases h with rfl | rfl | rfl | rfl <;> rfl
theorem pfL_12 {o : Nat} (h : isL o) {s : pm_S} : (EE s).2.2.2 o 12 = some (o + 8) := by
  simp only [isL, List.mem_cons, List.not_mem_nil, or_false] at h
  rcases h with rfl | rfl | rfl | rfl <;> rfl
def isW (o : Nat) : Prop := o ∈ [10, 23, 133, 150]
theorem ltW_0 {o : Nat} (h : isW o) {s : pm_S} : o + 0 < (EE s).1 := by
  simp only [isW, List.mem_cons, List.not_mem_nil, or_false] at h
  show o + 0 < 185
  omega
theorem shW_0 {o : Nat} (h : isW o) {s : pm_S} : (EE s).2.2.1 (o + 0) = (11, 0) := by
  simp only [isW, List.mem_cons, List.not_mem_nil, or_false] at h
  rcases h with rfl | rfl | rfl | rfl <;> rfl
theorem ltW_1 {o : Nat} (h : isW o) {s : pm_S} : o + 1 < (EE s).1 := by
  simp only [isW, List.mem_cons, List.not_mem_nil, or_false] at h
  show o + 1 < 185
  omega
theorem shW_1 {o : Nat} (h : isW o) {s : pm_S} : (EE s).2.2.1 (o + 1) = (0, 900) := by
  simp only [isW, List.mem_cons, List.not_mem_nil, or_false] at h
  rcases h with rfl | rfl | rfl | rfl <;> rfl
theorem ltW_2 {o : Nat} (h : isW o) {s : pm_S} : o + 2 < (EE s).1 := by
  simp only [isW, List.mem_cons, List.not_mem_nil, or_false] at h
  show o + 2 < 185
  omega
theorem shW_2 {o : Nat} (h : isW o) {s : pm_S} : (EE s).2.2.1 (o + 2) = (0, 64) := by
  simp only [isW, List.mem_cons, List.not_mem_nil, or_false] at h
  rcases h with rfl | rfl | rfl | rfl <;> rfl
theorem ltW_3 {o : Nat} (h : isW o) {s : pm_S} : o + 3 < (EE s).1 := by
  simp only [isW, List.mem_cons, List.not_mem_nil, or_false] at h
  show o + 3 < 185
  omega
theorem shW_3 {o : Nat} (h : isW o) {s : pm_S} : (EE s).2.2.1 (o + 3) = (0, 7) := by
  simp only [isW, List.mem_cons, List.not_mem_nil, or_false] at h
  rcases h with rfl | rfl | rfl | rfl <;> rfl
theorem pfW_0 {o : Nat} (h : isW o) {s : pm_S} : (EE s).2.2.2 o 0 = some (o + 1) := by
  simp only [isW, List.mem_cons, List.not_mem_nil, or_false] at h
  rcases h with rfl | rfl | rfl | rfl <;> rfl
theorem pfW_1 {o : Nat} (h : isW o) {s : pm_S} : (EE s).2.2.2 o 1 = some (o + 2) := by
  simp only [isW, List.mem_cons, List.not_mem_nil, or_false] at h
  rcases h with rfl | rfl | rfl | rfl <;> rfl
theorem pfW_2 {o : Nat} (h : isW o) {s : pm_S} : (EE s).2.2.2 o 2 = some (o + 3) := by
  simp only [isW, List.mem_cons, List.not_mem_nil, or_false] at h
  rcases h with rfl | rfl | rfl | rfl <;> rfl
def isY (o : Nat) : Prop := o ∈ [117, 119, 121, 123]
theorem ltY_0 {o : Nat} (h : isY o) {s : pm_S} : o + 0 < (EE s).1 := by
  simp only [isY, List.mem_cons, List.not_mem_nil, or_false] at h
  show o + 0 < 185
  omega
theorem shY_0 {o : Nat} (h : isY o) {s : pm_S} : (EE s).2.2.1 (o + 0) = (19, 0) := by
  simp only [isY, List.mem_cons, List.not_mem_nil, or_false] at h
  rcases h with rfl | rfl | rfl | rfl <;> rfl
theorem ltY_1 {o : Nat} (h : isY o) {s : pm_S} : o + 1 < (EE s).1 := by
  simp only [isY, List.mem_cons, List.not_mem_nil, or_false] at h
  show o + 1 < 185
  omega
theorem shY_1 {o : Nat} (h : isY o) {s : pm_S} : (EE s).2.2.1 (o + 1) = (1, 40) := by
  simp only [isY, List.mem_cons, List.not_mem_nil, or_false] at h
  rcases h with rfl | rfl | rfl | rfl <;> rfl
theorem pfY_0 {o : Nat} (h : isY o) {s : pm_S} : (EE s).2.2.2 o 0 = some (o + 1) := by
  simp only [isY, List.mem_cons, List.not_mem_nil, or_false] at h
  rcases h with rfl | rfl | rfl | rfl <;> rfl
theorem pa_37 {s : pm_S} {i : Nat} (h : i < 10) : (EE s).2.2.2 37 i = some (67 + 5 * i) := by
  rcases (show i = 0 ∨ i = 1 ∨ i = 2 ∨ i = 3 ∨ i = 4 ∨ i = 5 ∨ i = 6 ∨ i = 7 ∨ i = 8 ∨ i = 9 by omega) with rfl | rfl | rfl | rfl | rfl | rfl | rfl | rfl | rfl | rfl <;> rfl
theorem pq_37 {i : Nat} (h : i < 10) : isS (67 + 5 * i) := by
  simp only [isS, List.mem_cons, List.not_mem_nil, or_false]
  omega
theorem pa_38 {s : pm_S} {i : Nat} (h : i < 4) : (EE s).2.2.2 38 i = some (117 + 2 * i) := by
  rcases (show i = 0 ∨ i = 1 ∨ i = 2 ∨ i = 3 by omega) with rfl | rfl | rfl | rfl <;> rfl
theorem pq_38 {i : Nat} (h : i < 4) : isY (117 + 2 * i) := by
  simp only [isY, List.mem_cons, List.not_mem_nil, or_false]
  omega
theorem pa_39 {s : pm_S} {i : Nat} (h : i < 2) : (EE s).2.2.2 39 i = some (125 + 17 * i) := by
  rcases (show i = 0 ∨ i = 1 by omega) with rfl | rfl <;> rfl
theorem pq_39 {i : Nat} (h : i < 2) : isL (125 + 17 * i) := by
  simp only [isL, List.mem_cons, List.not_mem_nil, or_false]
  omega
theorem pa_40 {s : pm_S} {i : Nat} (h : i < 2) : (EE s).2.2.2 40 i = some (137 + 17 * i) := by
  rcases (show i = 0 ∨ i = 1 by omega) with rfl | rfl <;> rfl
theorem pq_40 {i : Nat} (h : i < 2) : isS (137 + 17 * i) := by
  simp only [isS, List.mem_cons, List.not_mem_nil, or_false]
  omega
theorem fr_0_9 : pm_fr 0 9 = some ((0, 0, 2, true)) := by decide +kernel
theorem fr_0_24 : pm_fr 0 24 = some ((7, 2, 2, true)) := by decide +kernel
theorem fr_1_9 : pm_fr 1 9 = some ((1, 0, 2, true)) := by decide +kernel
theorem fr_1_15 : pm_fr 1 15 = some ((1, 1, 2, true)) := by decide +kernel
theorem fr_1_18 : pm_fr 1 18 = some ((1, 2, 2, true)) := by decide +kernel
theorem fr_1_21 : pm_fr 1 21 = some ((1, 3, 0, false)) := by decide +kernel
theorem fr_1_25 : pm_fr 1 25 = some ((1, 4, 0, false)) := by decide +kernel
theorem fr_1_28 : pm_fr 1 28 = some ((1, 5, 0, false)) := by decide +kernel
theorem fr_1_31 : pm_fr 1 31 = some ((1, 6, 0, false)) := by decide +kernel
theorem fr_1_34 : pm_fr 1 34 = some ((1, 7, 0, false)) := by decide +kernel
theorem fr_2_9 : pm_fr 2 9 = some ((2, 0, 2, true)) := by decide +kernel
theorem fr_2_15 : pm_fr 2 15 = some ((2, 1, 2, true)) := by decide +kernel
theorem fr_2_18 : pm_fr 2 18 = some ((2, 2, 2, true)) := by decide +kernel
theorem fr_2_21 : pm_fr 2 21 = some ((2, 3, 2, true)) := by decide +kernel
theorem fr_2_24 : pm_fr 2 24 = some ((2, 4, 2, true)) := by decide +kernel
theorem fr_2_27 : pm_fr 2 27 = some ((2, 5, 2, true)) := by decide +kernel
theorem fr_2_30 : pm_fr 2 30 = some ((2, 6, 2, true)) := by decide +kernel
theorem fr_2_33 : pm_fr 2 33 = some ((2, 7, 2, true)) := by decide +kernel
theorem fr_2_36 : pm_fr 2 36 = some ((2, 8, 0, false)) := by decide +kernel
theorem fr_2_46 : pm_fr 2 46 = some ((2, 9, 0, false)) := by decide +kernel
theorem fr_2_53 : pm_fr 2 53 = some ((2, 10, 0, false)) := by decide +kernel
theorem fr_2_69 : pm_fr 2 69 = some ((3, 9, 2, true)) := by decide +kernel
theorem fr_2_78 : pm_fr 2 78 = some ((3, 0, 0, false)) := by decide +kernel
theorem fr_3_9 : pm_fr 3 9 = some ((3, 0, 0, false)) := by decide +kernel
theorem fr_3_15 : pm_fr 3 15 = some ((3, 5, 2, true)) := by decide +kernel
theorem fr_3_19 : pm_fr 3 19 = some ((3, 6, 2, true)) := by decide +kernel
theorem fr_3_22 : pm_fr 3 22 = some ((3, 7, 2, true)) := by decide +kernel
theorem fr_3_25 : pm_fr 3 25 = some ((3, 8, 2, true)) := by decide +kernel
theorem fr_3_28 : pm_fr 3 28 = some ((3, 9, 2, true)) := by decide +kernel
theorem fr_3_31 : pm_fr 3 31 = some ((3, 10, 2, true)) := by decide +kernel
theorem fr_3_34 : pm_fr 3 34 = some ((3, 11, 2, true)) := by decide +kernel
theorem fr_3_40 : pm_fr 3 40 = some ((3, 12, 2, true)) := by decide +kernel
theorem fr_3_44 : pm_fr 3 44 = some ((3, 1, 0, false)) := by decide +kernel
theorem fr_3_47 : pm_fr 3 47 = some ((3, 2, 0, false)) := by decide +kernel
theorem fr_3_50 : pm_fr 3 50 = some ((3, 3, 0, false)) := by decide +kernel
theorem fr_3_53 : pm_fr 3 53 = some ((3, 4, 0, false)) := by decide +kernel
theorem fr_3_79 : pm_fr 3 79 = some ((1, 5, 0, false)) := by decide +kernel
theorem fr_3_82 : pm_fr 3 82 = some ((1, 4, 0, false)) := by decide +kernel
theorem fr_3_92 : pm_fr 3 92 = some ((1, 7, 0, false)) := by decide +kernel
theorem fr_3_95 : pm_fr 3 95 = some ((1, 6, 0, false)) := by decide +kernel
theorem fr_3_98 : pm_fr 3 98 = some ((1, 2, 2, true)) := by decide +kernel
theorem fr_4_11 : pm_fr 4 11 = some ((4, 1, 2, false)) := by decide +kernel
theorem fr_4_15 : pm_fr 4 15 = some ((4, 2, 2, false)) := by decide +kernel
theorem fr_4_24 : pm_fr 4 24 = some ((4, 0, 1, false)) := by decide +kernel
theorem fr_4_28 : pm_fr 4 28 = some ((9, 2, 0, false)) := by decide +kernel
theorem fr_4_50 : pm_fr 4 50 = some ((3, 4, 0, false)) := by decide +kernel
theorem fr_5_9 : pm_fr 5 9 = some ((5, 0, 2, true)) := by decide +kernel
theorem fr_5_15 : pm_fr 5 15 = some ((5, 1, 2, true)) := by decide +kernel
theorem fr_5_18 : pm_fr 5 18 = some ((5, 2, 2, true)) := by decide +kernel
theorem fr_5_21 : pm_fr 5 21 = some ((5, 3, 2, false)) := by decide +kernel
theorem fr_5_24 : pm_fr 5 24 = some ((5, 4, 2, false)) := by decide +kernel
theorem fr_5_27 : pm_fr 5 27 = some ((5, 5, 2, false)) := by decide +kernel
theorem fr_5_31 : pm_fr 5 31 = some ((5, 7, 0, false)) := by decide +kernel
theorem fr_5_41 : pm_fr 5 41 = some ((5, 6, 0, false)) := by decide +kernel
theorem fr_5_50 : pm_fr 5 50 = some ((3, 11, 2, true)) := by decide +kernel
theorem fr_5_59 : pm_fr 5 59 = some ((5, 8, 0, false)) := by decide +kernel
theorem fr_6_12 : pm_fr 6 12 = some ((6, 0, 2, true)) := by decide +kernel
theorem fr_6_18 : pm_fr 6 18 = some ((6, 3, 0, false)) := by decide +kernel
theorem fr_6_22 : pm_fr 6 22 = some ((6, 4, 2, true)) := by decide +kernel
theorem fr_6_26 : pm_fr 6 26 = some ((6, 1, 0, false)) := by decide +kernel
theorem fr_6_38 : pm_fr 6 38 = some ((6, 5, 0, false)) := by decide +kernel
theorem fr_6_41 : pm_fr 6 41 = some ((6, 2, 0, false)) := by decide +kernel
theorem fr_6_44 : pm_fr 6 44 = some ((6, 6, 0, false)) := by decide +kernel
theorem fr_6_47 : pm_fr 6 47 = some ((6, 10, 0, false)) := by decide +kernel
theorem fr_6_63 : pm_fr 6 63 = some ((3, 0, 0, false)) := by decide +kernel
theorem fr_6_66 : pm_fr 6 66 = some ((3, 3, 0, false)) := by decide +kernel
theorem fr_6_69 : pm_fr 6 69 = some ((6, 7, 0, false)) := by decide +kernel
theorem fr_6_72 : pm_fr 6 72 = some ((6, 8, 0, false)) := by decide +kernel
theorem fr_6_94 : pm_fr 6 94 = some ((6, 9, 0, false)) := by decide +kernel
theorem fr_6_118 : pm_fr 6 118 = some ((3, 4, 0, false)) := by decide +kernel
theorem fr_6_121 : pm_fr 6 121 = some ((3, 1, 0, false)) := by decide +kernel
theorem fr_6_128 : pm_fr 6 128 = some ((3, 6, 2, true)) := by decide +kernel
theorem fr_6_131 : pm_fr 6 131 = some ((3, 7, 2, true)) := by decide +kernel
theorem fr_6_134 : pm_fr 6 134 = some ((3, 2, 0, false)) := by decide +kernel
theorem fr_6_143 : pm_fr 6 143 = some ((3, 10, 2, true)) := by decide +kernel
theorem fr_6_146 : pm_fr 6 146 = some ((3, 11, 2, true)) := by decide +kernel
theorem fr_6_156 : pm_fr 6 156 = some ((6, 11, 3, false)) := by decide +kernel
theorem fr_6_160 : pm_fr 6 160 = some ((3, 12, 2, true)) := by decide +kernel
theorem fr_6_164 : pm_fr 6 164 = some ((1, 3, 0, false)) := by decide +kernel
theorem fr_6_172 : pm_fr 6 172 = some ((1, 6, 0, false)) := by decide +kernel
theorem fr_6_175 : pm_fr 6 175 = some ((1, 7, 0, false)) := by decide +kernel
theorem fr_6_178 : pm_fr 6 178 = some ((1, 4, 0, false)) := by decide +kernel
theorem fr_6_181 : pm_fr 6 181 = some ((1, 5, 0, false)) := by decide +kernel
theorem fr_7_9 : pm_fr 7 9 = some ((7, 0, 2, true)) := by decide +kernel
theorem fr_7_15 : pm_fr 7 15 = some ((7, 1, 2, true)) := by decide +kernel
theorem fr_7_18 : pm_fr 7 18 = some ((7, 2, 2, true)) := by decide +kernel
theorem fr_7_21 : pm_fr 7 21 = some ((7, 3, 2, true)) := by decide +kernel
theorem fr_7_30 : pm_fr 7 30 = some ((7, 4, 0, false)) := by decide +kernel
theorem fr_7_34 : pm_fr 7 34 = some ((7, 5, 0, false)) := by decide +kernel
theorem fr_7_37 : pm_fr 7 37 = some ((7, 6, 0, false)) := by decide +kernel
theorem fr_7_46 : pm_fr 7 46 = some ((3, 8, 2, true)) := by decide +kernel
theorem fr_7_49 : pm_fr 7 49 = some ((3, 5, 2, true)) := by decide +kernel
theorem fr_7_55 : pm_fr 7 55 = some ((3, 10, 2, true)) := by decide +kernel
theorem fr_7_65 : pm_fr 7 65 = some ((3, 9, 2, true)) := by decide +kernel
theorem fr_7_76 : pm_fr 7 76 = some ((3, 11, 2, true)) := by decide +kernel
theorem fr_7_108 : pm_fr 7 108 = some ((7, 7, 0, false)) := by decide +kernel
theorem fr_7_111 : pm_fr 7 111 = some ((9, 2, 0, false)) := by decide +kernel
theorem fr_7_135 : pm_fr 7 135 = some ((3, 4, 0, false)) := by decide +kernel
theorem fr_8_9 : pm_fr 8 9 = some ((8, 0, 2, true)) := by decide +kernel
theorem fr_8_15 : pm_fr 8 15 = some ((8, 1, 2, true)) := by decide +kernel
theorem fr_8_18 : pm_fr 8 18 = some ((8, 2, 2, true)) := by decide +kernel
theorem fr_9_9 : pm_fr 9 9 = some ((9, 0, 2, true)) := by decide +kernel
theorem fr_9_15 : pm_fr 9 15 = some ((9, 2, 0, false)) := by decide +kernel
theorem fr_9_19 : pm_fr 9 19 = some ((9, 1, 0, false)) := by decide +kernel
theorem fr_10_9 : pm_fr 10 9 = some ((10, 0, 2, true)) := by decide +kernel
theorem fr_10_15 : pm_fr 10 15 = some ((3, 2, 0, false)) := by decide +kernel
theorem fr_10_27 : pm_fr 10 27 = some ((3, 1, 0, false)) := by decide +kernel
theorem fr_11_10 : pm_fr 11 10 = some ((11, 0, 2, true)) := by decide +kernel
theorem fr_11_19 : pm_fr 11 19 = some ((11, 1, 2, true)) := by decide +kernel
theorem fr_11_26 : pm_fr 11 26 = some ((11, 2, 2, true)) := by decide +kernel
theorem fr_11_30 : pm_fr 11 30 = some ((11, 3, 2, true)) := by decide +kernel
theorem fr_11_33 : pm_fr 11 33 = some ((11, 4, 2, true)) := by decide +kernel
theorem fr_11_39 : pm_fr 11 39 = some ((11, 7, 2, true)) := by decide +kernel
theorem fr_11_43 : pm_fr 11 43 = some ((11, 8, 2, true)) := by decide +kernel
theorem fr_11_47 : pm_fr 11 47 = some ((11, 9, 2, true)) := by decide +kernel
theorem fr_11_53 : pm_fr 11 53 = some ((11, 11, 2, true)) := by decide +kernel
theorem fr_11_60 : pm_fr 11 60 = some ((11, 12, 2, true)) := by decide +kernel
theorem fr_11_67 : pm_fr 11 67 = some ((11, 13, 2, true)) := by decide +kernel
theorem fr_11_74 : pm_fr 11 74 = some ((11, 14, 2, true)) := by decide +kernel
theorem fr_11_81 : pm_fr 11 81 = some ((11, 15, 2, true)) := by decide +kernel
theorem fr_11_88 : pm_fr 11 88 = some ((11, 16, 2, true)) := by decide +kernel
theorem fr_11_93 : pm_fr 11 93 = some ((6, 1, 0, false)) := by decide +kernel
theorem fr_11_111 : pm_fr 11 111 = some ((6, 2, 0, false)) := by decide +kernel
theorem fr_11_114 : pm_fr 11 114 = some ((6, 0, 2, true)) := by decide +kernel
theorem fr_11_126 : pm_fr 11 126 = some ((3, 3, 0, false)) := by decide +kernel
theorem fr_11_129 : pm_fr 11 129 = some ((6, 3, 0, false)) := by decide +kernel
theorem fr_11_136 : pm_fr 11 136 = some ((7, 0, 2, true)) := by decide +kernel
theorem fr_11_140 : pm_fr 11 140 = some ((3, 6, 2, true)) := by decide +kernel
theorem fr_11_143 : pm_fr 11 143 = some ((3, 7, 2, true)) := by decide +kernel
theorem fr_11_146 : pm_fr 11 146 = some ((7, 1, 2, true)) := by decide +kernel
theorem fr_11_152 : pm_fr 11 152 = some ((3, 9, 2, true)) := by decide +kernel
theorem fr_11_155 : pm_fr 11 155 = some ((7, 2, 2, true)) := by decide +kernel
theorem fr_11_158 : pm_fr 11 158 = some ((3, 11, 2, true)) := by decide +kernel
theorem fr_11_165 : pm_fr 11 165 = some ((7, 3, 2, true)) := by decide +kernel
theorem fr_11_173 : pm_fr 11 173 = some ((7, 4, 0, false)) := by decide +kernel
theorem fr_11_180 : pm_fr 11 180 = some ((7, 6, 0, false)) := by decide +kernel
theorem fr_11_228 : pm_fr 11 228 = some ((11, 6, 0, false)) := by decide +kernel
theorem fr_11_231 : pm_fr 11 231 = some ((11, 5, 0, false)) := by decide +kernel
theorem fr_11_250 : pm_fr 11 250 = some ((7, 7, 0, false)) := by decide +kernel
theorem fr_11_266 : pm_fr 11 266 = some ((2, 0, 2, true)) := by decide +kernel
theorem fr_11_269 : pm_fr 11 269 = some ((2, 1, 2, true)) := by decide +kernel
theorem fr_11_282 : pm_fr 11 282 = some ((3, 0, 0, false)) := by decide +kernel
theorem fr_11_307 : pm_fr 11 307 = some ((2, 3, 2, true)) := by decide +kernel
theorem fr_11_313 : pm_fr 11 313 = some ((10, 0, 2, true)) := by decide +kernel
theorem fr_11_324 : pm_fr 11 324 = some ((3, 2, 0, false)) := by decide +kernel
theorem fr_11_327 : pm_fr 11 327 = some ((3, 1, 0, false)) := by decide +kernel
theorem fr_11_343 : pm_fr 11 343 = some ((8, 0, 2, true)) := by decide +kernel
theorem fr_11_346 : pm_fr 11 346 = some ((8, 1, 2, true)) := by decide +kernel
theorem fr_11_404 : pm_fr 11 404 = some ((4, 0, 1, false)) := by decide +kernel
theorem fr_11_424 : pm_fr 11 424 = some ((9, 2, 0, false)) := by decide +kernel
theorem fr_11_427 : pm_fr 11 427 = some ((11, 10, 0, false)) := by decide +kernel
theorem fr_11_433 : pm_fr 11 433 = some ((7, 5, 0, false)) := by decide +kernel
theorem fr_11_448 : pm_fr 11 448 = some ((2, 2, 2, true)) := by decide +kernel
theorem fr_12_1 : pm_fr 12 1 = some ((12, 0, 0, false)) := by decide +kernel
theorem fr_12_13 : pm_fr 12 13 = some ((12, 1, 2, true)) := by decide +kernel
theorem fr_12_17 : pm_fr 12 17 = some ((12, 2, 2, true)) := by decide +kernel
theorem fr_12_21 : pm_fr 12 21 = some ((12, 3, 2, true)) := by decide +kernel
theorem fr_12_24 : pm_fr 12 24 = some ((12, 4, 2, true)) := by decide +kernel
theorem fr_12_27 : pm_fr 12 27 = some ((12, 14, 0, false)) := by decide +kernel
theorem fr_12_30 : pm_fr 12 30 = some ((12, 16, 2, true)) := by decide +kernel
theorem fr_12_33 : pm_fr 12 33 = some ((12, 17, 2, true)) := by decide +kernel
theorem fr_12_36 : pm_fr 12 36 = some ((12, 18, 2, true)) := by decide +kernel
theorem fr_12_39 : pm_fr 12 39 = some ((12, 21, 2, true)) := by decide +kernel
theorem fr_12_42 : pm_fr 12 42 = some ((12, 22, 2, true)) := by decide +kernel
theorem fr_12_45 : pm_fr 12 45 = some ((12, 23, 2, true)) := by decide +kernel
theorem fr_12_48 : pm_fr 12 48 = some ((12, 24, 2, true)) := by decide +kernel
theorem fr_12_51 : pm_fr 12 51 = some ((12, 25, 2, true)) := by decide +kernel
theorem fr_12_54 : pm_fr 12 54 = some ((12, 26, 0, false)) := by decide +kernel
theorem fr_12_57 : pm_fr 12 57 = some ((12, 27, 2, true)) := by decide +kernel
theorem fr_12_60 : pm_fr 12 60 = some ((12, 28, 2, true)) := by decide +kernel
theorem fr_12_63 : pm_fr 12 63 = some ((12, 30, 2, true)) := by decide +kernel
theorem fr_12_66 : pm_fr 12 66 = some ((12, 31, 2, true)) := by decide +kernel
theorem fr_12_69 : pm_fr 12 69 = some ((12, 32, 2, true)) := by decide +kernel
theorem fr_12_72 : pm_fr 12 72 = some ((12, 33, 2, true)) := by decide +kernel
theorem fr_12_75 : pm_fr 12 75 = some ((12, 35, 2, true)) := by decide +kernel
theorem fr_12_78 : pm_fr 12 78 = some ((12, 36, 2, true)) := by decide +kernel
theorem fr_12_81 : pm_fr 12 81 = some ((12, 37, 2, true)) := by decide +kernel
theorem fr_12_85 : pm_fr 12 85 = some ((12, 38, 2, true)) := by decide +kernel
theorem fr_12_88 : pm_fr 12 88 = some ((12, 39, 2, true)) := by decide +kernel
theorem fr_12_91 : pm_fr 12 91 = some ((12, 40, 2, true)) := by decide +kernel
theorem fr_12_94 : pm_fr 12 94 = some ((12, 41, 2, true)) := by decide +kernel
theorem fr_12_101 : pm_fr 12 101 = some ((12, 5, 0, false)) := by decide +kernel
theorem fr_12_104 : pm_fr 12 104 = some ((12, 8, 0, false)) := by decide +kernel
theorem fr_12_119 : pm_fr 12 119 = some ((12, 6, 0, false)) := by decide +kernel
theorem fr_12_122 : pm_fr 12 122 = some ((12, 7, 0, false)) := by decide +kernel
theorem fr_12_129 : pm_fr 12 129 = some ((12, 9, 0, false)) := by decide +kernel
theorem fr_12_142 : pm_fr 12 142 = some ((12, 10, 0, false)) := by decide +kernel
theorem fr_12_147 : pm_fr 12 147 = some ((12, 11, 0, false)) := by decide +kernel
theorem fr_12_150 : pm_fr 12 150 = some ((12, 12, 0, false)) := by decide +kernel
theorem fr_12_167 : pm_fr 12 167 = some ((12, 15, 0, false)) := by decide +kernel
theorem fr_12_228 : pm_fr 12 228 = some ((12, 13, 0, false)) := by decide +kernel
theorem fr_12_338 : pm_fr 12 338 = some ((12, 19, 0, false)) := by decide +kernel
theorem fr_12_369 : pm_fr 12 369 = some ((12, 20, 0, false)) := by decide +kernel
theorem fr_12_409 : pm_fr 12 409 = some ((12, 29, 0, false)) := by decide +kernel
theorem fr_12_425 : pm_fr 12 425 = some ((12, 34, 0, false)) := by decide +kernel
theorem mv_0_15 : pm_mv 0 15 = some (31) := by decide +kernel
theorem mv_0_21 : pm_mv 0 21 = some (28) := by decide +kernel
theorem mv_0_29 : pm_mv 0 29 = some (32) := by decide +kernel
theorem mv_0_33 : pm_mv 0 33 = some (2) := by decide +kernel
theorem mv_1_49 : pm_mv 1 49 = some (11) := by decide +kernel
theorem mv_2_40 : pm_mv 2 40 = some (97) := by decide +kernel
theorem mv_2_49 : pm_mv 2 49 = some (99) := by decide +kernel
theorem mv_2_56 : pm_mv 2 56 = some (19) := by decide +kernel
theorem mv_2_60 : pm_mv 2 60 = some (35) := by decide +kernel
theorem mv_2_66 : pm_mv 2 66 = some (31) := by decide +kernel
theorem mv_2_72 : pm_mv 2 72 = some (2) := by decide +kernel
theorem mv_2_81 : pm_mv 2 81 = some (21) := by decide +kernel
theorem mv_2_85 : pm_mv 2 85 = some (22) := by decide +kernel
theorem mv_2_103 : pm_mv 2 103 = some (18) := by decide +kernel
theorem mv_3_56 : pm_mv 3 56 = some (6) := by decide +kernel
theorem mv_3_65 : pm_mv 3 65 = some (9) := by decide +kernel
theorem mv_3_75 : pm_mv 3 75 = some (28) := by decide +kernel
theorem mv_3_85 : pm_mv 3 85 = some (33) := by decide +kernel
theorem mv_3_89 : pm_mv 3 89 = some (10) := by decide +kernel
theorem mv_4_34 : pm_mv 4 34 = some (108) := by decide +kernel
theorem mv_4_38 : pm_mv 4 38 = some (90) := by decide +kernel
theorem mv_4_44 : pm_mv 4 44 = some (34) := by decide +kernel
theorem mv_4_53 : pm_mv 4 53 = some (39) := by decide +kernel
theorem mv_5_35 : pm_mv 5 35 = some (90) := by decide +kernel
theorem mv_5_44 : pm_mv 5 44 = some (31) := by decide +kernel
theorem mv_5_70 : pm_mv 5 70 = some (46) := by decide +kernel
theorem mv_5_79 : pm_mv 5 79 = some (45) := by decide +kernel
theorem mv_5_82 : pm_mv 5 82 = some (49) := by decide +kernel
theorem mv_5_86 : pm_mv 5 86 = some (47) := by decide +kernel
theorem mv_5_89 : pm_mv 5 89 = some (34) := by decide +kernel
theorem mv_6_50 : pm_mv 6 50 = some (24) := by decide +kernel
theorem mv_6_53 : pm_mv 6 53 = some (55) := by decide +kernel
theorem mv_6_56 : pm_mv 6 56 = some (62) := by decide +kernel
theorem mv_6_60 : pm_mv 6 60 = some (63) := by decide +kernel
theorem mv_6_79 : pm_mv 6 79 = some (57) := by decide +kernel
theorem mv_6_85 : pm_mv 6 85 = some (59) := by decide +kernel
theorem mv_6_91 : pm_mv 6 91 = some (60) := by decide +kernel
theorem mv_6_108 : pm_mv 6 108 = some (66) := by decide +kernel
theorem mv_6_111 : pm_mv 6 111 = some (67) := by decide +kernel
theorem mv_6_114 : pm_mv 6 114 = some (69) := by decide +kernel
theorem mv_6_124 : pm_mv 6 124 = some (25) := by decide +kernel
theorem mv_6_137 : pm_mv 6 137 = some (26) := by decide +kernel
theorem mv_6_140 : pm_mv 6 140 = some (68) := by decide +kernel
theorem mv_6_149 : pm_mv 6 149 = some (27) := by decide +kernel
theorem mv_6_152 : pm_mv 6 152 = some (29) := by decide +kernel
theorem mv_6_169 : pm_mv 6 169 = some (70) := by decide +kernel
theorem mv_6_184 : pm_mv 6 184 = some (71) := by decide +kernel
theorem mv_6_187 : pm_mv 6 187 = some (7) := by decide +kernel
theorem mv_6_190 : pm_mv 6 190 = some (72) := by decide +kernel
theorem mv_6_193 : pm_mv 6 193 = some (73) := by decide +kernel
theorem mv_6_196 : pm_mv 6 196 = some (74) := by decide +kernel
theorem mv_6_200 : pm_mv 6 200 = some (75) := by decide +kernel
theorem mv_6_203 : pm_mv 6 203 = some (76) := by decide +kernel
theorem mv_6_206 : pm_mv 6 206 = some (8) := by decide +kernel
theorem mv_6_209 : pm_mv 6 209 = some (77) := by decide +kernel
theorem mv_6_212 : pm_mv 6 212 = some (78) := by decide +kernel
theorem mv_6_215 : pm_mv 6 215 = some (79) := by decide +kernel
theorem mv_7_40 : pm_mv 7 40 = some (28) := by decide +kernel
theorem mv_7_52 : pm_mv 7 52 = some (31) := by decide +kernel
theorem mv_7_58 : pm_mv 7 58 = some (99) := by decide +kernel
theorem mv_7_62 : pm_mv 7 62 = some (82) := by decide +kernel
theorem mv_7_68 : pm_mv 7 68 = some (32) := by decide +kernel
theorem mv_7_72 : pm_mv 7 72 = some (34) := by decide +kernel
theorem mv_7_81 : pm_mv 7 81 = some (92) := by decide +kernel
theorem mv_7_91 : pm_mv 7 91 = some (84) := by decide +kernel
theorem mv_7_95 : pm_mv 7 95 = some (87) := by decide +kernel
theorem mv_7_98 : pm_mv 7 98 = some (85) := by decide +kernel
theorem mv_7_102 : pm_mv 7 102 = some (89) := by decide +kernel
theorem mv_7_105 : pm_mv 7 105 = some (91) := by decide +kernel
theorem mv_7_116 : pm_mv 7 116 = some (108) := by decide +kernel
theorem mv_7_120 : pm_mv 7 120 = some (96) := by decide +kernel
theorem mv_7_130 : pm_mv 7 130 = some (93) := by decide +kernel
theorem mv_7_144 : pm_mv 7 144 = some (94) := by decide +kernel
theorem mv_7_147 : pm_mv 7 147 = some (35) := by decide +kernel
theorem mv_8_21 : pm_mv 8 21 = some (82) := by decide +kernel
theorem mv_8_27 : pm_mv 8 27 = some (103) := by decide +kernel
theorem mv_8_31 : pm_mv 8 31 = some (104) := by decide +kernel
theorem mv_8_34 : pm_mv 8 34 = some (2) := by decide +kernel
theorem mv_8_40 : pm_mv 8 40 = some (105) := by decide +kernel
theorem mv_9_28 : pm_mv 9 28 = some (109) := by decide +kernel
theorem mv_9_34 : pm_mv 9 34 = some (113) := by decide +kernel
theorem mv_9_38 : pm_mv 9 38 = some (107) := by decide +kernel
theorem mv_9_42 : pm_mv 9 42 = some (108) := by decide +kernel
theorem mv_10_30 : pm_mv 10 30 = some (116) := by decide +kernel
theorem mv_10_40 : pm_mv 10 40 = some (2) := by decide +kernel
theorem mv_10_51 : pm_mv 10 51 = some (120) := by decide +kernel
theorem mv_11_97 : pm_mv 11 97 = some (53) := by decide +kernel
theorem mv_11_101 : pm_mv 11 101 = some (54) := by decide +kernel
theorem mv_11_104 : pm_mv 11 104 = some (64) := by decide +kernel
theorem mv_11_108 : pm_mv 11 108 = some (65) := by decide +kernel
theorem mv_11_117 : pm_mv 11 117 = some (30) := by decide +kernel
theorem mv_11_121 : pm_mv 11 121 = some (81) := by decide +kernel
theorem mv_11_123 : pm_mv 11 123 = some (124) := by decide +kernel
theorem mv_11_132 : pm_mv 11 132 = some (28) := by decide +kernel
theorem mv_11_149 : pm_mv 11 149 = some (31) := by decide +kernel
theorem mv_11_161 : pm_mv 11 161 = some (82) := by decide +kernel
theorem mv_11_169 : pm_mv 11 169 = some (32) := by decide +kernel
theorem mv_11_176 : pm_mv 11 176 = some (34) := by decide +kernel
theorem mv_11_183 : pm_mv 11 183 = some (131) := by decide +kernel
theorem mv_11_186 : pm_mv 11 186 = some (83) := by decide +kernel
theorem mv_11_189 : pm_mv 11 189 = some (84) := by decide +kernel
theorem mv_11_193 : pm_mv 11 193 = some (133) := by decide +kernel
theorem mv_11_196 : pm_mv 11 196 = some (85) := by decide +kernel
theorem mv_11_200 : pm_mv 11 200 = some (86) := by decide +kernel
theorem mv_11_209 : pm_mv 11 209 = some (87) := by decide +kernel
theorem mv_11_212 : pm_mv 11 212 = some (88) := by decide +kernel
theorem mv_11_215 : pm_mv 11 215 = some (89) := by decide +kernel
theorem mv_11_218 : pm_mv 11 218 = some (90) := by decide +kernel
theorem mv_11_221 : pm_mv 11 221 = some (91) := by decide +kernel
theorem mv_11_224 : pm_mv 11 224 = some (92) := by decide +kernel
theorem mv_11_240 : pm_mv 11 240 = some (141) := by decide +kernel
theorem mv_11_243 : pm_mv 11 243 = some (107) := by decide +kernel
theorem mv_11_246 : pm_mv 11 246 = some (95) := by decide +kernel
theorem mv_11_253 : pm_mv 11 253 = some (97) := by decide +kernel
theorem mv_11_256 : pm_mv 11 256 = some (143) := by decide +kernel
theorem mv_11_259 : pm_mv 11 259 = some (98) := by decide +kernel
theorem mv_11_262 : pm_mv 11 262 = some (146) := by decide +kernel
theorem mv_11_272 : pm_mv 11 272 = some (1) := by decide +kernel
theorem mv_11_276 : pm_mv 11 276 = some (15) := by decide +kernel
theorem mv_11_278 : pm_mv 11 278 = some (16) := by decide +kernel
theorem mv_11_285 : pm_mv 11 285 = some (17) := by decide +kernel
theorem mv_11_289 : pm_mv 11 289 = some (18) := by decide +kernel
theorem mv_11_293 : pm_mv 11 293 = some (150) := by decide +kernel
theorem mv_11_296 : pm_mv 11 296 = some (109) := by decide +kernel
theorem mv_11_299 : pm_mv 11 299 = some (152) := by decide +kernel
theorem mv_11_303 : pm_mv 11 303 = some (20) := by decide +kernel
theorem mv_11_310 : pm_mv 11 310 = some (115) := by decide +kernel
theorem mv_11_316 : pm_mv 11 316 = some (117) := by decide +kernel
theorem mv_11_320 : pm_mv 11 320 = some (118) := by decide +kernel
theorem mv_11_330 : pm_mv 11 330 = some (3) := by decide +kernel
theorem mv_11_333 : pm_mv 11 333 = some (4) := by decide +kernel
theorem mv_11_336 : pm_mv 11 336 = some (2) := by decide +kernel
theorem mv_11_339 : pm_mv 11 339 = some (102) := by decide +kernel
theorem mv_11_349 : pm_mv 11 349 = some (162) := by decide +kernel
theorem mv_11_352 : pm_mv 11 352 = some (164) := by decide +kernel
theorem mv_11_355 : pm_mv 11 355 = some (44) := by decide +kernel
theorem mv_11_358 : pm_mv 11 358 = some (45) := by decide +kernel
theorem mv_11_361 : pm_mv 11 361 = some (48) := by decide +kernel
theorem mv_11_364 : pm_mv 11 364 = some (50) := by decide +kernel
theorem mv_11_367 : pm_mv 11 367 = some (51) := by decide +kernel
theorem mv_11_370 : pm_mv 11 370 = some (168) := by decide +kernel
theorem mv_11_373 : pm_mv 11 373 = some (169) := by decide +kernel
theorem mv_11_380 : pm_mv 11 380 = some (173) := by decide +kernel
theorem mv_11_383 : pm_mv 11 383 = some (36) := by decide +kernel
theorem mv_11_387 : pm_mv 11 387 = some (119) := by decide +kernel
theorem mv_11_393 : pm_mv 11 393 = some (176) := by decide +kernel
theorem mv_11_396 : pm_mv 11 396 = some (38) := by decide +kernel
theorem mv_11_400 : pm_mv 11 400 = some (40) := by decide +kernel
theorem mv_11_412 : pm_mv 11 412 = some (42) := by decide +kernel
theorem mv_11_415 : pm_mv 11 415 = some (111) := by decide +kernel
theorem mv_11_420 : pm_mv 11 420 = some (112) := by decide +kernel
theorem mv_11_430 : pm_mv 11 430 = some (100) := by decide +kernel
theorem mv_11_436 : pm_mv 11 436 = some (35) := by decide +kernel
theorem mv_11_439 : pm_mv 11 439 = some (151) := by decide +kernel
theorem mv_11_443 : pm_mv 11 443 = some (108) := by decide +kernel
theorem mv_11_451 : pm_mv 11 451 = some (110) := by decide +kernel
theorem mv_11_454 : pm_mv 11 454 = some (170) := by decide +kernel
theorem mv_12_125 : pm_mv 12 125 = some (190) := by decide +kernel
theorem mv_12_136 : pm_mv 12 136 = some (192) := by decide +kernel
theorem mv_12_153 : pm_mv 12 153 = some (195) := by decide +kernel
theorem mv_12_156 : pm_mv 12 156 = some (189) := by decide +kernel
theorem mv_12_159 : pm_mv 12 159 = some (196) := by decide +kernel
theorem mv_12_170 : pm_mv 12 170 = some (208) := by decide +kernel
theorem mv_12_173 : pm_mv 12 173 = some (209) := by decide +kernel
theorem mv_12_176 : pm_mv 12 176 = some (210) := by decide +kernel
theorem mv_12_179 : pm_mv 12 179 = some (205) := by decide +kernel
theorem mv_12_182 : pm_mv 12 182 = some (194) := by decide +kernel
theorem mv_12_185 : pm_mv 12 185 = some (211) := by decide +kernel
theorem mv_12_188 : pm_mv 12 188 = some (212) := by decide +kernel
theorem mv_12_191 : pm_mv 12 191 = some (207) := by decide +kernel
theorem mv_12_194 : pm_mv 12 194 = some (206) := by decide +kernel
theorem mv_12_197 : pm_mv 12 197 = some (214) := by decide +kernel
theorem mv_12_200 : pm_mv 12 200 = some (213) := by decide +kernel
theorem mv_12_203 : pm_mv 12 203 = some (197) := by decide +kernel
theorem mv_12_207 : pm_mv 12 207 = some (203) := by decide +kernel
theorem mv_12_210 : pm_mv 12 210 = some (202) := by decide +kernel
theorem mv_12_213 : pm_mv 12 213 = some (200) := by decide +kernel
theorem mv_12_216 : pm_mv 12 216 = some (201) := by decide +kernel
theorem mv_12_219 : pm_mv 12 219 = some (204) := by decide +kernel
theorem mv_12_222 : pm_mv 12 222 = some (198) := by decide +kernel
theorem mv_12_225 : pm_mv 12 225 = some (199) := by decide +kernel
theorem mv_12_231 : pm_mv 12 231 = some (219) := by decide +kernel
theorem mv_12_243 : pm_mv 12 243 = some (223) := by decide +kernel
theorem mv_12_246 : pm_mv 12 246 = some (227) := by decide +kernel
theorem mv_12_250 : pm_mv 12 250 = some (217) := by decide +kernel
theorem mv_12_253 : pm_mv 12 253 = some (220) := by decide +kernel
theorem mv_12_256 : pm_mv 12 256 = some (222) := by decide +kernel
theorem mv_12_260 : pm_mv 12 260 = some (226) := by decide +kernel
theorem mv_12_263 : pm_mv 12 263 = some (232) := by decide +kernel
theorem mv_12_267 : pm_mv 12 267 = some (243) := by decide +kernel
theorem mv_12_272 : pm_mv 12 272 = some (250) := by decide +kernel
theorem mv_12_275 : pm_mv 12 275 = some (248) := by decide +kernel
theorem mv_12_278 : pm_mv 12 278 = some (249) := by decide +kernel
theorem mv_12_281 : pm_mv 12 281 = some (229) := by decide +kernel
theorem mv_12_284 : pm_mv 12 284 = some (230) := by decide +kernel
theorem mv_12_287 : pm_mv 12 287 = some (233) := by decide +kernel
theorem mv_12_290 : pm_mv 12 290 = some (235) := by decide +kernel
theorem mv_12_294 : pm_mv 12 294 = some (236) := by decide +kernel
theorem mv_12_300 : pm_mv 12 300 = some (239) := by decide +kernel
theorem mv_12_303 : pm_mv 12 303 = some (240) := by decide +kernel
theorem mv_12_306 : pm_mv 12 306 = some (242) := by decide +kernel
theorem mv_12_309 : pm_mv 12 309 = some (244) := by decide +kernel
theorem mv_12_317 : pm_mv 12 317 = some (247) := by decide +kernel
theorem mv_12_341 : pm_mv 12 341 = some (255) := by decide +kernel
theorem mv_12_344 : pm_mv 12 344 = some (256) := by decide +kernel
theorem mv_12_349 : pm_mv 12 349 = some (253) := by decide +kernel
theorem mv_12_352 : pm_mv 12 352 = some (254) := by decide +kernel
theorem mv_12_355 : pm_mv 12 355 = some (257) := by decide +kernel
theorem mv_12_358 : pm_mv 12 358 = some (258) := by decide +kernel
theorem mv_12_363 : pm_mv 12 363 = some (261) := by decide +kernel
theorem mv_12_366 : pm_mv 12 366 = some (265) := by decide +kernel
theorem mv_12_372 : pm_mv 12 372 = some (263) := by decide +kernel
theorem mv_12_375 : pm_mv 12 375 = some (264) := by decide +kernel
theorem mv_12_378 : pm_mv 12 378 = some (269) := by decide +kernel
theorem mv_12_381 : pm_mv 12 381 = some (270) := by decide +kernel
theorem mv_12_384 : pm_mv 12 384 = some (271) := by decide +kernel
theorem mv_12_387 : pm_mv 12 387 = some (272) := by decide +kernel
theorem mv_12_394 : pm_mv 12 394 = some (276) := by decide +kernel
theorem mv_12_397 : pm_mv 12 397 = some (277) := by decide +kernel
theorem mv_12_400 : pm_mv 12 400 = some (275) := by decide +kernel
theorem mv_12_404 : pm_mv 12 404 = some (281) := by decide +kernel
theorem mv_12_412 : pm_mv 12 412 = some (285) := by decide +kernel
theorem mv_12_415 : pm_mv 12 415 = some (286) := by decide +kernel
theorem mv_12_418 : pm_mv 12 418 = some (284) := by decide +kernel
theorem mv_12_422 : pm_mv 12 422 = some (294) := by decide +kernel
theorem mv_12_428 : pm_mv 12 428 = some (293) := by decide +kernel
theorem mv_12_431 : pm_mv 12 431 = some (295) := by decide +kernel
theorem mv_12_435 : pm_mv 12 435 = some (291) := by decide +kernel
theorem mv_12_438 : pm_mv 12 438 = some (292) := by decide +kernel
theorem mv_12_441 : pm_mv 12 441 = some (300) := by decide +kernel
theorem mv_12_444 : pm_mv 12 444 = some (302) := by decide +kernel
theorem mv_12_449 : pm_mv 12 449 = some (299) := by decide +kernel
theorem mv_12_452 : pm_mv 12 452 = some (301) := by decide +kernel
theorem mv_12_455 : pm_mv 12 455 = some (306) := by decide +kernel
theorem mv_12_460 : pm_mv 12 460 = some (305) := by decide +kernel
theorem mv_12_470 : pm_mv 12 470 = some (309) := by decide +kernel
theorem mv_12_473 : pm_mv 12 473 = some (310) := by decide +kernel
theorem mv_12_488 : pm_mv 12 488 = some (321) := by decide +kernel
theorem mv_13_13 : pm_mv 13 13 = some (122) := by decide +kernel
theorem mv_13_17 : pm_mv 13 17 = some (186) := by decide +kernel
theorem mv_13_18 : pm_mv 13 18 = some (123) := by decide +kernel
theorem mv_13_22 : pm_mv 13 22 = some (187) := by decide +kernel
theorem mv_13_23 : pm_mv 13 23 = some (125) := by decide +kernel
theorem mv_13_26 : pm_mv 13 26 = some (215) := by decide +kernel
theorem mv_13_27 : pm_mv 13 27 = some (126) := by decide +kernel
theorem mv_13_31 : pm_mv 13 31 = some (216) := by decide +kernel
theorem mv_13_32 : pm_mv 13 32 = some (127) := by decide +kernel
theorem mv_13_35 : pm_mv 13 35 = some (218) := by decide +kernel
theorem mv_13_36 : pm_mv 13 36 = some (128) := by decide +kernel
theorem mv_13_39 : pm_mv 13 39 = some (221) := by decide +kernel
theorem mv_13_40 : pm_mv 13 40 = some (129) := by decide +kernel
theorem mv_13_43 : pm_mv 13 43 = some (225) := by decide +kernel
theorem mv_13_44 : pm_mv 13 44 = some (130) := by decide +kernel
theorem mv_13_47 : pm_mv 13 47 = some (228) := by decide +kernel
theorem mv_13_48 : pm_mv 13 48 = some (132) := by decide +kernel
theorem mv_13_51 : pm_mv 13 51 = some (231) := by decide +kernel
theorem mv_13_52 : pm_mv 13 52 = some (134) := by decide +kernel
theorem mv_13_55 : pm_mv 13 55 = some (234) := by decide +kernel
theorem mv_13_56 : pm_mv 13 56 = some (135) := by decide +kernel
theorem mv_13_59 : pm_mv 13 59 = some (238) := by decide +kernel
theorem mv_13_60 : pm_mv 13 60 = some (136) := by decide +kernel
theorem mv_13_63 : pm_mv 13 63 = some (241) := by decide +kernel
theorem mv_13_64 : pm_mv 13 64 = some (137) := by decide +kernel
theorem mv_13_67 : pm_mv 13 67 = some (245) := by decide +kernel
theorem mv_13_68 : pm_mv 13 68 = some (138) := by decide +kernel
theorem mv_13_71 : pm_mv 13 71 = some (246) := by decide +kernel
theorem mv_13_72 : pm_mv 13 72 = some (139) := by decide +kernel
theorem mv_13_75 : pm_mv 13 75 = some (251) := by decide +kernel
theorem mv_13_76 : pm_mv 13 76 = some (140) := by decide +kernel
theorem mv_13_79 : pm_mv 13 79 = some (252) := by decide +kernel
theorem mv_13_80 : pm_mv 13 80 = some (142) := by decide +kernel
theorem mv_13_83 : pm_mv 13 83 = some (259) := by decide +kernel
theorem mv_13_84 : pm_mv 13 84 = some (144) := by decide +kernel
theorem mv_13_87 : pm_mv 13 87 = some (260) := by decide +kernel
theorem mv_13_88 : pm_mv 13 88 = some (145) := by decide +kernel
theorem mv_13_91 : pm_mv 13 91 = some (262) := by decide +kernel
theorem mv_13_92 : pm_mv 13 92 = some (147) := by decide +kernel
theorem mv_13_95 : pm_mv 13 95 = some (266) := by decide +kernel
theorem mv_13_96 : pm_mv 13 96 = some (148) := by decide +kernel
theorem mv_13_99 : pm_mv 13 99 = some (267) := by decide +kernel
theorem mv_13_100 : pm_mv 13 100 = some (149) := by decide +kernel
theorem mv_13_103 : pm_mv 13 103 = some (268) := by decide +kernel
theorem mv_13_104 : pm_mv 13 104 = some (153) := by decide +kernel
theorem mv_13_107 : pm_mv 13 107 = some (273) := by decide +kernel
theorem mv_13_108 : pm_mv 13 108 = some (154) := by decide +kernel
theorem mv_13_111 : pm_mv 13 111 = some (274) := by decide +kernel
theorem mv_13_112 : pm_mv 13 112 = some (155) := by decide +kernel
theorem mv_13_116 : pm_mv 13 116 = some (279) := by decide +kernel
theorem mv_13_117 : pm_mv 13 117 = some (156) := by decide +kernel
theorem mv_13_120 : pm_mv 13 120 = some (280) := by decide +kernel
theorem mv_13_121 : pm_mv 13 121 = some (157) := by decide +kernel
theorem mv_13_124 : pm_mv 13 124 = some (282) := by decide +kernel
theorem mv_13_125 : pm_mv 13 125 = some (158) := by decide +kernel
theorem mv_13_128 : pm_mv 13 128 = some (283) := by decide +kernel
theorem mv_13_129 : pm_mv 13 129 = some (159) := by decide +kernel
theorem mv_13_132 : pm_mv 13 132 = some (287) := by decide +kernel
theorem mv_13_133 : pm_mv 13 133 = some (160) := by decide +kernel
theorem mv_13_136 : pm_mv 13 136 = some (288) := by decide +kernel
theorem mv_13_137 : pm_mv 13 137 = some (161) := by decide +kernel
theorem mv_13_140 : pm_mv 13 140 = some (289) := by decide +kernel
theorem mv_13_141 : pm_mv 13 141 = some (163) := by decide +kernel
theorem mv_13_144 : pm_mv 13 144 = some (290) := by decide +kernel
theorem mv_13_145 : pm_mv 13 145 = some (165) := by decide +kernel
theorem mv_13_149 : pm_mv 13 149 = some (296) := by decide +kernel
theorem mv_13_150 : pm_mv 13 150 = some (166) := by decide +kernel
theorem mv_13_153 : pm_mv 13 153 = some (297) := by decide +kernel
theorem mv_13_154 : pm_mv 13 154 = some (167) := by decide +kernel
theorem mv_13_157 : pm_mv 13 157 = some (298) := by decide +kernel
theorem mv_13_158 : pm_mv 13 158 = some (171) := by decide +kernel
theorem mv_13_161 : pm_mv 13 161 = some (303) := by decide +kernel
theorem mv_13_162 : pm_mv 13 162 = some (172) := by decide +kernel
theorem mv_13_165 : pm_mv 13 165 = some (304) := by decide +kernel
theorem mv_13_166 : pm_mv 13 166 = some (174) := by decide +kernel
theorem mv_13_169 : pm_mv 13 169 = some (307) := by decide +kernel
theorem mv_13_170 : pm_mv 13 170 = some (175) := by decide +kernel
theorem mv_13_174 : pm_mv 13 174 = some (308) := by decide +kernel
theorem mv_13_175 : pm_mv 13 175 = some (177) := by decide +kernel
theorem mv_13_178 : pm_mv 13 178 = some (313) := by decide +kernel
theorem mv_13_179 : pm_mv 13 179 = some (178) := by decide +kernel
theorem mv_13_182 : pm_mv 13 182 = some (314) := by decide +kernel
theorem mv_13_185 : pm_mv 13 185 = some (179) := by decide +kernel
theorem mv_13_189 : pm_mv 13 189 = some (315) := by decide +kernel
theorem mv_13_190 : pm_mv 13 190 = some (180) := by decide +kernel
theorem mv_13_193 : pm_mv 13 193 = some (317) := by decide +kernel
theorem mv_13_194 : pm_mv 13 194 = some (181) := by decide +kernel
theorem mv_13_197 : pm_mv 13 197 = some (318) := by decide +kernel
theorem mv_13_198 : pm_mv 13 198 = some (182) := by decide +kernel
theorem mv_13_201 : pm_mv 13 201 = some (319) := by decide +kernel
theorem mv_13_202 : pm_mv 13 202 = some (183) := by decide +kernel
theorem mv_13_205 : pm_mv 13 205 = some (320) := by decide +kernel
theorem ms_1_37 : pm_ms 1 37 = some (323) := by decide +kernel
theorem ms_1_53 : pm_ms 1 53 = some (12) := by decide +kernel
theorem ms_1_57 : pm_ms 1 57 = some (13) := by decide +kernel
theorem ms_2_95 : pm_ms 2 95 = some (324) := by decide +kernel
theorem ms_2_100 : pm_ms 2 100 = some (325) := by decide +kernel
theorem ms_3_69 : pm_ms 3 69 = some (323) := by decide +kernel
theorem ms_3_101 : pm_ms 3 101 = some (324) := by decide +kernel
theorem ms_4_18 : pm_ms 4 18 = some (329) := by decide +kernel
theorem ms_5_53 : pm_ms 5 53 = some (323) := by decide +kernel
theorem ms_5_61 : pm_ms 5 61 = some (327) := by decide +kernel
theorem ms_5_67 : pm_ms 5 67 = some (326) := by decide +kernel
theorem ms_5_74 : pm_ms 5 74 = some (322) := by decide +kernel
theorem ms_6_29 : pm_ms 6 29 = some (323) := by decide +kernel
theorem ms_6_35 : pm_ms 6 35 = some (324) := by decide +kernel
theorem ms_6_75 : pm_ms 6 75 = some (56) := by decide +kernel
theorem ms_6_82 : pm_ms 6 82 = some (58) := by decide +kernel
theorem ms_6_88 : pm_ms 6 88 = some (61) := by decide +kernel
theorem ms_7_124 : pm_ms 7 124 = some (324) := by decide +kernel
theorem ms_7_138 : pm_ms 7 138 = some (326) := by decide +kernel
theorem ms_9_22 : pm_ms 9 22 = some (329) := by decide +kernel
theorem ms_10_21 : pm_ms 10 21 = some (327) := by decide +kernel
theorem ms_10_34 : pm_ms 10 34 = some (324) := by decide +kernel
theorem ms_10_45 : pm_ms 10 45 = some (322) := by decide +kernel
theorem ms_11_204 : pm_ms 11 204 = some (322) := by decide +kernel
theorem ms_11_234 : pm_ms 11 234 = some (325) := by decide +kernel
theorem ms_11_377 : pm_ms 11 377 = some (323) := by decide +kernel
theorem ms_11_408 : pm_ms 11 408 = some (41) := by decide +kernel
theorem ms_12_97 : pm_ms 12 97 = some (185) := by decide +kernel
theorem ms_12_132 : pm_ms 12 132 = some (191) := by decide +kernel
theorem ms_12_139 : pm_ms 12 139 = some (193) := by decide +kernel
theorem ms_12_163 : pm_ms 12 163 = some (188) := by decide +kernel
theorem ms_12_239 : pm_ms 12 239 = some (224) := by decide +kernel
theorem ms_12_297 : pm_ms 12 297 = some (237) := by decide +kernel
theorem ms_12_390 : pm_ms 12 390 = some (278) := by decide +kernel
theorem ms_12_464 : pm_ms 12 464 = some (312) := by decide +kernel
theorem ms_12_476 : pm_ms 12 476 = some (311) := by decide +kernel
theorem ms_12_482 : pm_ms 12 482 = some (316) := by decide +kernel
theorem ms_16_13 : pm_ms 16 13 = some (328) := by decide +kernel
theorem mi_3_39 : pm_mi 3 39 = some (5) := by decide +kernel
theorem mi_6_11 : pm_mi 6 11 = some (23) := by decide +kernel
theorem mi_11_9 : pm_mi 11 9 = some (52) := by decide +kernel
theorem mi_11_18 : pm_mi 11 18 = some (23) := by decide +kernel
theorem mi_11_25 : pm_mi 11 25 = some (80) := by decide +kernel
theorem mi_11_52 : pm_mi 11 52 = some (0) := by decide +kernel
theorem mi_11_59 : pm_mi 11 59 = some (14) := by decide +kernel
theorem mi_11_66 : pm_mi 11 66 = some (114) := by decide +kernel
theorem mi_11_73 : pm_mi 11 73 = some (101) := by decide +kernel
theorem mi_11_80 : pm_mi 11 80 = some (43) := by decide +kernel
theorem mi_11_87 : pm_mi 11 87 = some (37) := by decide +kernel
theorem mi_11_92 : pm_mi 11 92 = some (106) := by decide +kernel
theorem mi_13_9 : pm_mi 13 9 = some (121) := by decide +kernel
theorem mi_13_12 : pm_mi 13 12 = some (184) := by decide +kernel
theorem sv_6_99 : pm_sv 6 99 = some (0) := by decide +kernel
theorem sv_6_104 : pm_sv 6 104 = some (1) := by decide +kernel
theorem sv_12_109 : pm_sv 12 109 = some (0) := by decide +kernel
theorem sv_12_115 : pm_sv 12 115 = some (1) := by decide +kernel
theorem cn_3_37 : pm_cn 3 37 = some (1) := by decide +kernel
theorem cn_6_9 : pm_cn 6 9 = some (3) := by decide +kernel
theorem cn_11_7 : pm_cn 11 7 = some (6) := by decide +kernel
theorem cn_11_16 : pm_cn 11 16 = some (3) := by decide +kernel
theorem cn_11_23 : pm_cn 11 23 = some (7) := by decide +kernel
theorem cn_11_37 : pm_cn 11 37 = some (9) := by decide +kernel
theorem cn_11_50 : pm_cn 11 50 = some (0) := by decide +kernel
theorem cn_11_57 : pm_cn 11 57 = some (2) := by decide +kernel
theorem cn_11_64 : pm_cn 11 64 = some (10) := by decide +kernel
theorem cn_11_71 : pm_cn 11 71 = some (8) := by decide +kernel
theorem cn_11_78 : pm_cn 11 78 = some (5) := by decide +kernel
theorem cn_11_85 : pm_cn 11 85 = some (4) := by decide +kernel
theorem cn_13_7 : pm_cn 13 7 = some (11) := by decide +kernel
theorem cn_13_10 : pm_cn 13 10 = some (12) := by decide +kernel
theorem an_11_16 : pm_an 11 16 = some (5) := by decide +kernel
theorem an_11_23 : pm_an 11 23 = some (3) := by decide +kernel
theorem an_11_37 : pm_an 11 37 = some (4) := by decide +kernel
theorem kc_1_63 : pm_kc 1 63 = some (.int (1000000)) := by decide +kernel
theorem kc_1_66 : pm_kc 1 66 = some (.int (-1000000)) := by decide +kernel
theorem kc_6_97 : pm_kc 6 97 = some (.ref 4001) := by decide +kernel
theorem kc_7_134 : pm_kc 7 134 = some (.int (1103515245)) := by decide +kernel
theorem kc_10_54 : pm_kc 10 54 = some (.int (-99000003)) := by decide +kernel
theorem kc_11_168 : pm_kc 11 168 = some (.int (-99000002)) := by decide +kernel
theorem kc_11_386 : pm_kc 11 386 = some (.int (-99000003)) := by decide +kernel
theorem kc_12_259 : pm_kc 12 259 = some (.int (-99000002)) := by decide +kernel
theorem kc_12_271 : pm_kc 12 271 = some (.int (1103515245)) := by decide +kernel
theorem kc_12_403 : pm_kc 12 403 = some (.int (-268435456)) := by decide +kernel
theorem kc_12_421 : pm_kc 12 421 = some (.int (268435456)) := by decide +kernel
theorem kc_12_459 : pm_kc 12 459 = some (.int (-99000003)) := by decide +kernel
theorem kc_12_107 : pm_kc 12 107 = some (.ref 4002) := by decide +kernel
theorem kc_12_145 : pm_kc 12 145 = some (.ref 4003) := by decide +kernel
theorem kc_14_265 : pm_kc 14 265 = some (.int (1431655765)) := by decide +kernel
theorem kc_14_266 : pm_kc 14 266 = some (.int (858993459)) := by decide +kernel
theorem kc_14_267 : pm_kc 14 267 = some (.int (252645135)) := by decide +kernel
theorem kl_1_61 : pm_kl 1 61 = some ((1000000)) := by decide +kernel
theorem kl_1_64 : pm_kl 1 64 = some ((-1000000)) := by decide +kernel
theorem kl_4_57 : pm_kl 4 57 = some ((10)) := by decide +kernel
theorem kl_4_59 : pm_kl 4 59 = some ((100)) := by decide +kernel
theorem kl_7_79 : pm_kl 7 79 = some ((-1)) := by decide +kernel
theorem kl_7_85 : pm_kl 7 85 = some ((400)) := by decide +kernel
theorem kl_7_87 : pm_kl 7 87 = some ((20)) := by decide +kernel
theorem kl_7_89 : pm_kl 7 89 = some ((100)) := by decide +kernel
theorem kl_9_32 : pm_kl 9 32 = some ((-7)) := by decide +kernel
theorem kl_11_391 : pm_kl 11 391 = some ((-2)) := by decide +kernel
theorem kl_11_418 : pm_kl 11 418 = some ((-7)) := by decide +kernel
theorem kl_11_446 : pm_kl 11 446 = some ((10)) := by decide +kernel
theorem kl_12_235 : pm_kl 12 235 = some ((1000000)) := by decide +kernel
theorem kl_12_237 : pm_kl 12 237 = some ((-1000000)) := by decide +kernel
theorem kl_12_313 : pm_kl 12 313 = some ((9)) := by decide +kernel
theorem kl_12_315 : pm_kl 12 315 = some ((99)) := by decide +kernel
theorem kl_12_320 : pm_kl 12 320 = some ((10)) := by decide +kernel
theorem kl_12_322 : pm_kl 12 322 = some ((-1)) := by decide +kernel
theorem kl_12_324 : pm_kl 12 324 = some ((19)) := by decide +kernel
theorem kl_12_326 : pm_kl 12 326 = some ((100)) := by decide +kernel
theorem kl_12_328 : pm_kl 12 328 = some ((199)) := by decide +kernel
theorem kl_12_330 : pm_kl 12 330 = some ((200)) := by decide +kernel
theorem kl_12_332 : pm_kl 12 332 = some ((299)) := by decide +kernel
theorem kl_12_334 : pm_kl 12 334 = some ((300)) := by decide +kernel
theorem kl_12_336 : pm_kl 12 336 = some ((399)) := by decide +kernel
theorem kl_12_347 : pm_kl 12 347 = some ((3)) := by decide +kernel
theorem kl_12_361 : pm_kl 12 361 = some ((40)) := by decide +kernel
theorem kl_12_407 : pm_kl 12 407 = some ((5)) := by decide +kernel
theorem kl_12_447 : pm_kl 12 447 = some ((2)) := by decide +kernel
theorem kl_12_468 : pm_kl 12 468 = some ((-2)) := by decide +kernel
theorem kl_12_480 : pm_kl 12 480 = some ((-7)) := by decide +kernel
theorem kl_12_486 : pm_kl 12 486 = some ((16)) := by decide +kernel
theorem kl_13_183 : pm_kl 13 183 = some ((4294967295)) := by decide +kernel
theorem ac_1_43 : pm_ac 1 43 = true := by decide +kernel
theorem ac_2_89 : pm_ac 2 89 = true := by decide +kernel
theorem ac_3_59 : pm_ac 3 59 = true := by decide +kernel
theorem ac_7_24 : pm_ac 7 24 = true := by decide +kernel
theorem oi_0_3 : pm_oi 0 3 = true := by decide +kernel
theorem oi_1_3 : pm_oi 1 3 = true := by decide +kernel
theorem oi_2_3 : pm_oi 2 3 = true := by decide +kernel
theorem oi_3_3 : pm_oi 3 3 = true := by decide +kernel
theorem oi_4_3 : pm_oi 4 3 = true := by decide +kernel
theorem oi_5_3 : pm_oi 5 3 = true := by decide +kernel
theorem oi_6_3 : pm_oi 6 3 = true := by decide +kernel
theorem oi_7_3 : pm_oi 7 3 = true := by decide +kernel
theorem oi_8_3 : pm_oi 8 3 = true := by decide +kernel
theorem oi_9_3 : pm_oi 9 3 = true := by decide +kernel
theorem oi_10_3 : pm_oi 10 3 = true := by decide +kernel
theorem oi_11_1 : pm_oi 11 1 = true := by decide +kernel
theorem oi_12_7 : pm_oi 12 7 = true := by decide +kernel
theorem np_0 : 0 = pm_np 0 := by decide +kernel
theorem oc_0 : 10 = 10 + pm_oc 0 := by decide +kernel
theorem np_1 : 2 = pm_np 1 := by decide +kernel
theorem oc_1 : 10 = 10 + pm_oc 1 := by decide +kernel
theorem np_2 : 2 = pm_np 2 := by decide +kernel
theorem oc_2 : 10 = 10 + pm_oc 2 := by decide +kernel
theorem np_3 : 2 = pm_np 3 := by decide +kernel
theorem oc_3 : 10 = 10 + pm_oc 3 := by decide +kernel
theorem np_4 : 3 = pm_np 4 := by decide +kernel
theorem oc_4 : 10 = 10 + pm_oc 4 := by decide +kernel
theorem np_5 : 0 = pm_np 5 := by decide +kernel
theorem oc_5 : 11 = 10 + pm_oc 5 := by decide +kernel
theorem np_6 : 0 = pm_np 6 := by decide +kernel
theorem oc_6 : 11 = 10 + pm_oc 6 := by decide +kernel
theorem np_7 : 2 = pm_np 7 := by decide +kernel
theorem oc_7 : 11 = 10 + pm_oc 7 := by decide +kernel
theorem np_8 : 1 = pm_np 8 := by decide +kernel
theorem oc_8 : 11 = 10 + pm_oc 8 := by decide +kernel
theorem np_9 : 1 = pm_np 9 := by decide +kernel
theorem oc_9 : 11 = 10 + pm_oc 9 := by decide +kernel
theorem np_10 : 2 = pm_np 10 := by decide +kernel
theorem oc_10 : 11 = 10 + pm_oc 10 := by decide +kernel
theorem np_11 : 1 = pm_np 11 := by decide +kernel
theorem oc_11 : 11 = 10 + pm_oc 11 := by decide +kernel
theorem np_12 : 3 = pm_np 12 := by decide +kernel
theorem oc_12 : 11 = 10 + pm_oc 12 := by decide +kernel
theorem np_13 : 1 = pm_np 13 := by decide +kernel
theorem oc_13 : 11 = 10 + pm_oc 13 := by decide +kernel
theorem np_14 : 0 = pm_np 14 := by decide +kernel
theorem oc_14 : 12 = 10 + pm_oc 14 := by decide +kernel
theorem np_15 : 1 = pm_np 15 := by decide +kernel
theorem oc_15 : 12 = 10 + pm_oc 15 := by decide +kernel
theorem np_16 : 2 = pm_np 16 := by decide +kernel
theorem oc_16 : 12 = 10 + pm_oc 16 := by decide +kernel
theorem np_17 : 2 = pm_np 17 := by decide +kernel
theorem oc_17 : 12 = 10 + pm_oc 17 := by decide +kernel
theorem np_18 : 2 = pm_np 18 := by decide +kernel
theorem oc_18 : 12 = 10 + pm_oc 18 := by decide +kernel
theorem np_19 : 3 = pm_np 19 := by decide +kernel
theorem oc_19 : 12 = 10 + pm_oc 19 := by decide +kernel
theorem np_20 : 3 = pm_np 20 := by decide +kernel
theorem oc_20 : 12 = 10 + pm_oc 20 := by decide +kernel
theorem np_21 : 2 = pm_np 21 := by decide +kernel
theorem oc_21 : 12 = 10 + pm_oc 21 := by decide +kernel
theorem np_22 : 2 = pm_np 22 := by decide +kernel
theorem oc_22 : 12 = 10 + pm_oc 22 := by decide +kernel
theorem np_23 : 0 = pm_np 23 := by decide +kernel
theorem oc_23 : 13 = 10 + pm_oc 23 := by decide +kernel
theorem np_24 : 0 = pm_np 24 := by decide +kernel
theorem oc_24 : 13 = 10 + pm_oc 24 := by decide +kernel
theorem np_25 : 1 = pm_np 25 := by decide +kernel
theorem oc_25 : 13 = 10 + pm_oc 25 := by decide +kernel
theorem np_26 : 1 = pm_np 26 := by decide +kernel
theorem oc_26 : 13 = 10 + pm_oc 26 := by decide +kernel
theorem np_27 : 1 = pm_np 27 := by decide +kernel
theorem oc_27 : 13 = 10 + pm_oc 27 := by decide +kernel
theorem np_28 : 1 = pm_np 28 := by decide +kernel
theorem oc_28 : 13 = 10 + pm_oc 28 := by decide +kernel
theorem np_29 : 2 = pm_np 29 := by decide +kernel
theorem oc_29 : 13 = 10 + pm_oc 29 := by decide +kernel
theorem np_30 : 1 = pm_np 30 := by decide +kernel
theorem oc_30 : 13 = 10 + pm_oc 30 := by decide +kernel
theorem np_31 : 1 = pm_np 31 := by decide +kernel
theorem oc_31 : 13 = 10 + pm_oc 31 := by decide +kernel
theorem np_32 : 3 = pm_np 32 := by decide +kernel
theorem oc_32 : 13 = 10 + pm_oc 32 := by decide +kernel
theorem np_33 : 3 = pm_np 33 := by decide +kernel
theorem oc_33 : 13 = 10 + pm_oc 33 := by decide +kernel
theorem np_34 : 5 = pm_np 34 := by decide +kernel
theorem oc_34 : 13 = 10 + pm_oc 34 := by decide +kernel
theorem np_35 : 1 = pm_np 35 := by decide +kernel
theorem oc_35 : 13 = 10 + pm_oc 35 := by decide +kernel
theorem np_36 : 1 = pm_np 36 := by decide +kernel
theorem oc_36 : 13 = 10 + pm_oc 36 := by decide +kernel
theorem np_37 : 0 = pm_np 37 := by decide +kernel
theorem oc_37 : 14 = 10 + pm_oc 37 := by decide +kernel
theorem np_38 : 4 = pm_np 38 := by decide +kernel
theorem oc_38 : 14 = 10 + pm_oc 38 := by decide +kernel
theorem np_39 : 2 = pm_np 39 := by decide +kernel
theorem oc_39 : 14 = 10 + pm_oc 39 := by decide +kernel
theorem np_40 : 1 = pm_np 40 := by decide +kernel
theorem oc_40 : 14 = 10 + pm_oc 40 := by decide +kernel
theorem np_41 : 2 = pm_np 41 := by decide +kernel
theorem oc_41 : 14 = 10 + pm_oc 41 := by decide +kernel
theorem np_42 : 1 = pm_np 42 := by decide +kernel
theorem oc_42 : 14 = 10 + pm_oc 42 := by decide +kernel
theorem np_43 : 0 = pm_np 43 := by decide +kernel
theorem oc_43 : 15 = 10 + pm_oc 43 := by decide +kernel
theorem np_44 : 3 = pm_np 44 := by decide +kernel
theorem oc_44 : 15 = 10 + pm_oc 44 := by decide +kernel
theorem np_45 : 1 = pm_np 45 := by decide +kernel
theorem oc_45 : 15 = 10 + pm_oc 45 := by decide +kernel
theorem np_46 : 3 = pm_np 46 := by decide +kernel
theorem oc_46 : 15 = 10 + pm_oc 46 := by decide +kernel
theorem np_47 : 2 = pm_np 47 := by decide +kernel
theorem oc_47 : 15 = 10 + pm_oc 47 := by decide +kernel
theorem np_48 : 1 = pm_np 48 := by decide +kernel
theorem oc_48 : 15 = 10 + pm_oc 48 := by decide +kernel
theorem np_49 : 2 = pm_np 49 := by decide +kernel
theorem oc_49 : 15 = 10 + pm_oc 49 := by decide +kernel
theorem np_50 : 1 = pm_np 50 := by decide +kernel
theorem oc_50 : 15 = 10 + pm_oc 50 := by decide +kernel
theorem np_51 : 1 = pm_np 51 := by decide +kernel
theorem oc_51 : 15 = 10 + pm_oc 51 := by decide +kernel
theorem np_52 : 0 = pm_np 52 := by decide +kernel
theorem oc_52 : 16 = 10 + pm_oc 52 := by decide +kernel
theorem np_53 : 1 = pm_np 53 := by decide +kernel
theorem oc_53 : 16 = 10 + pm_oc 53 := by decide +kernel
theorem np_54 : 1 = pm_np 54 := by decide +kernel
theorem oc_54 : 16 = 10 + pm_oc 54 := by decide +kernel
theorem np_55 : 0 = pm_np 55 := by decide +kernel
theorem oc_55 : 16 = 10 + pm_oc 55 := by decide +kernel
theorem np_56 : 1 = pm_np 56 := by decide +kernel
theorem oc_56 : 16 = 10 + pm_oc 56 := by decide +kernel
theorem np_57 : 2 = pm_np 57 := by decide +kernel
theorem oc_57 : 16 = 10 + pm_oc 57 := by decide +kernel
theorem np_58 : 1 = pm_np 58 := by decide +kernel
theorem oc_58 : 16 = 10 + pm_oc 58 := by decide +kernel
theorem np_59 : 0 = pm_np 59 := by decide +kernel
theorem oc_59 : 16 = 10 + pm_oc 59 := by decide +kernel
theorem np_60 : 1 = pm_np 60 := by decide +kernel
theorem oc_60 : 16 = 10 + pm_oc 60 := by decide +kernel
theorem np_61 : 1 = pm_np 61 := by decide +kernel
theorem oc_61 : 16 = 10 + pm_oc 61 := by decide +kernel
theorem np_62 : 1 = pm_np 62 := by decide +kernel
theorem oc_62 : 16 = 10 + pm_oc 62 := by decide +kernel
theorem np_63 : 2 = pm_np 63 := by decide +kernel
theorem oc_63 : 16 = 10 + pm_oc 63 := by decide +kernel
theorem np_64 : 0 = pm_np 64 := by decide +kernel
theorem oc_64 : 16 = 10 + pm_oc 64 := by decide +kernel
theorem np_65 : 0 = pm_np 65 := by decide +kernel
theorem oc_65 : 16 = 10 + pm_oc 65 := by decide +kernel
theorem np_66 : 0 = pm_np 66 := by decide +kernel
theorem oc_66 : 16 = 10 + pm_oc 66 := by decide +kernel
theorem np_67 : 0 = pm_np 67 := by decide +kernel
theorem oc_67 : 16 = 10 + pm_oc 67 := by decide +kernel
theorem np_68 : 1 = pm_np 68 := by decide +kernel
theorem oc_68 : 16 = 10 + pm_oc 68 := by decide +kernel
theorem np_69 : 1 = pm_np 69 := by decide +kernel
theorem oc_69 : 16 = 10 + pm_oc 69 := by decide +kernel
theorem np_70 : 0 = pm_np 70 := by decide +kernel
theorem oc_70 : 16 = 10 + pm_oc 70 := by decide +kernel
theorem np_71 : 0 = pm_np 71 := by decide +kernel
theorem oc_71 : 16 = 10 + pm_oc 71 := by decide +kernel
theorem np_72 : 0 = pm_np 72 := by decide +kernel
theorem oc_72 : 16 = 10 + pm_oc 72 := by decide +kernel
theorem np_73 : 1 = pm_np 73 := by decide +kernel
theorem oc_73 : 16 = 10 + pm_oc 73 := by decide +kernel
theorem np_74 : 0 = pm_np 74 := by decide +kernel
theorem oc_74 : 16 = 10 + pm_oc 74 := by decide +kernel
theorem np_75 : 0 = pm_np 75 := by decide +kernel
theorem oc_75 : 16 = 10 + pm_oc 75 := by decide +kernel
theorem np_76 : 0 = pm_np 76 := by decide +kernel
theorem oc_76 : 16 = 10 + pm_oc 76 := by decide +kernel
theorem np_77 : 0 = pm_np 77 := by decide +kernel
theorem oc_77 : 16 = 10 + pm_oc 77 := by decide +kernel
theorem np_78 : 0 = pm_np 78 := by decide +kernel
theorem oc_78 : 16 = 10 + pm_oc 78 := by decide +kernel
theorem np_79 : 0 = pm_np 79 := by decide +kernel
theorem oc_79 : 16 = 10 + pm_oc 79 := by decide +kernel
theorem np_80 : 0 = pm_np 80 := by decide +kernel
theorem oc_80 : 17 = 10 + pm_oc 80 := by decide +kernel
theorem np_81 : 1 = pm_np 81 := by decide +kernel
theorem oc_81 : 17 = 10 + pm_oc 81 := by decide +kernel
theorem np_82 : 1 = pm_np 82 := by decide +kernel
theorem oc_82 : 17 = 10 + pm_oc 82 := by decide +kernel
theorem np_83 : 1 = pm_np 83 := by decide +kernel
theorem oc_83 : 17 = 10 + pm_oc 83 := by decide +kernel
theorem np_84 : 2 = pm_np 84 := by decide +kernel
theorem oc_84 : 17 = 10 + pm_oc 84 := by decide +kernel
theorem np_85 : 3 = pm_np 85 := by decide +kernel
theorem oc_85 : 17 = 10 + pm_oc 85 := by decide +kernel
theorem np_86 : 0 = pm_np 86 := by decide +kernel
theorem oc_86 : 17 = 10 + pm_oc 86 := by decide +kernel
theorem np_87 : 2 = pm_np 87 := by decide +kernel
theorem oc_87 : 17 = 10 + pm_oc 87 := by decide +kernel
theorem np_88 : 1 = pm_np 88 := by decide +kernel
theorem oc_88 : 17 = 10 + pm_oc 88 := by decide +kernel
theorem np_89 : 3 = pm_np 89 := by decide +kernel
theorem oc_89 : 17 = 10 + pm_oc 89 := by decide +kernel
theorem np_90 : 1 = pm_np 90 := by decide +kernel
theorem oc_90 : 17 = 10 + pm_oc 90 := by decide +kernel
theorem np_91 : 3 = pm_np 91 := by decide +kernel
theorem oc_91 : 17 = 10 + pm_oc 91 := by decide +kernel
theorem np_92 : 1 = pm_np 92 := by decide +kernel
theorem oc_92 : 17 = 10 + pm_oc 92 := by decide +kernel
theorem np_93 : 0 = pm_np 93 := by decide +kernel
theorem oc_93 : 17 = 10 + pm_oc 93 := by decide +kernel
theorem np_94 : 3 = pm_np 94 := by decide +kernel
theorem oc_94 : 17 = 10 + pm_oc 94 := by decide +kernel
theorem np_95 : 2 = pm_np 95 := by decide +kernel
theorem oc_95 : 17 = 10 + pm_oc 95 := by decide +kernel
theorem np_96 : 2 = pm_np 96 := by decide +kernel
theorem oc_96 : 17 = 10 + pm_oc 96 := by decide +kernel
theorem np_97 : 0 = pm_np 97 := by decide +kernel
theorem oc_97 : 17 = 10 + pm_oc 97 := by decide +kernel
theorem np_98 : 1 = pm_np 98 := by decide +kernel
theorem oc_98 : 17 = 10 + pm_oc 98 := by decide +kernel
theorem np_99 : 1 = pm_np 99 := by decide +kernel
theorem oc_99 : 17 = 10 + pm_oc 99 := by decide +kernel
theorem np_100 : 0 = pm_np 100 := by decide +kernel
theorem oc_100 : 17 = 10 + pm_oc 100 := by decide +kernel
theorem np_101 : 0 = pm_np 101 := by decide +kernel
theorem oc_101 : 18 = 10 + pm_oc 101 := by decide +kernel
theorem np_102 : 3 = pm_np 102 := by decide +kernel
theorem oc_102 : 18 = 10 + pm_oc 102 := by decide +kernel
theorem np_103 : 3 = pm_np 103 := by decide +kernel
theorem oc_103 : 18 = 10 + pm_oc 103 := by decide +kernel
theorem np_104 : 1 = pm_np 104 := by decide +kernel
theorem oc_104 : 18 = 10 + pm_oc 104 := by decide +kernel
theorem np_105 : 1 = pm_np 105 := by decide +kernel
theorem oc_105 : 18 = 10 + pm_oc 105 := by decide +kernel
theorem np_106 : 0 = pm_np 106 := by decide +kernel
theorem oc_106 : 19 = 10 + pm_oc 106 := by decide +kernel
theorem np_107 : 0 = pm_np 107 := by decide +kernel
theorem oc_107 : 19 = 10 + pm_oc 107 := by decide +kernel
theorem np_108 : 1 = pm_np 108 := by decide +kernel
theorem oc_108 : 19 = 10 + pm_oc 108 := by decide +kernel
theorem np_109 : 1 = pm_np 109 := by decide +kernel
theorem oc_109 : 19 = 10 + pm_oc 109 := by decide +kernel
theorem np_110 : 2 = pm_np 110 := by decide +kernel
theorem oc_110 : 19 = 10 + pm_oc 110 := by decide +kernel
theorem np_111 : 2 = pm_np 111 := by decide +kernel
theorem oc_111 : 19 = 10 + pm_oc 111 := by decide +kernel
theorem np_112 : 2 = pm_np 112 := by decide +kernel
theorem oc_112 : 19 = 10 + pm_oc 112 := by decide +kernel
theorem np_113 : 1 = pm_np 113 := by decide +kernel
theorem oc_113 : 19 = 10 + pm_oc 113 := by decide +kernel
theorem np_114 : 0 = pm_np 114 := by decide +kernel
theorem oc_114 : 20 = 10 + pm_oc 114 := by decide +kernel
theorem np_115 : 2 = pm_np 115 := by decide +kernel
theorem oc_115 : 20 = 10 + pm_oc 115 := by decide +kernel
theorem np_116 : 4 = pm_np 116 := by decide +kernel
theorem oc_116 : 20 = 10 + pm_oc 116 := by decide +kernel
theorem np_117 : 3 = pm_np 117 := by decide +kernel
theorem oc_117 : 20 = 10 + pm_oc 117 := by decide +kernel
theorem np_118 : 2 = pm_np 118 := by decide +kernel
theorem oc_118 : 20 = 10 + pm_oc 118 := by decide +kernel
theorem np_119 : 4 = pm_np 119 := by decide +kernel
theorem oc_119 : 20 = 10 + pm_oc 119 := by decide +kernel
theorem np_120 : 4 = pm_np 120 := by decide +kernel
theorem oc_120 : 20 = 10 + pm_oc 120 := by decide +kernel
theorem np_121 : 0 = pm_np 121 := by decide +kernel
theorem oc_121 : 21 = 10 + pm_oc 121 := by decide +kernel
theorem np_122 : 5 = pm_np 122 := by decide +kernel
theorem oc_122 : 21 = 10 + pm_oc 122 := by decide +kernel
theorem np_123 : 1 = pm_np 123 := by decide +kernel
theorem oc_123 : 21 = 10 + pm_oc 123 := by decide +kernel
theorem np_124 : 0 = pm_np 124 := by decide +kernel
theorem oc_124 : 21 = 10 + pm_oc 124 := by decide +kernel
theorem np_125 : 1 = pm_np 125 := by decide +kernel
theorem oc_125 : 21 = 10 + pm_oc 125 := by decide +kernel
theorem np_126 : 2 = pm_np 126 := by decide +kernel
theorem oc_126 : 21 = 10 + pm_oc 126 := by decide +kernel
theorem np_127 : 2 = pm_np 127 := by decide +kernel
theorem oc_127 : 21 = 10 + pm_oc 127 := by decide +kernel
theorem np_128 : 2 = pm_np 128 := by decide +kernel
theorem oc_128 : 21 = 10 + pm_oc 128 := by decide +kernel
theorem np_129 : 2 = pm_np 129 := by decide +kernel
theorem oc_129 : 21 = 10 + pm_oc 129 := by decide +kernel
theorem np_130 : 1 = pm_np 130 := by decide +kernel
theorem oc_130 : 21 = 10 + pm_oc 130 := by decide +kernel
theorem np_131 : 0 = pm_np 131 := by decide +kernel
theorem oc_131 : 21 = 10 + pm_oc 131 := by decide +kernel
theorem np_132 : 1 = pm_np 132 := by decide +kernel
theorem oc_132 : 21 = 10 + pm_oc 132 := by decide +kernel
theorem np_133 : 1 = pm_np 133 := by decide +kernel
theorem oc_133 : 21 = 10 + pm_oc 133 := by decide +kernel
theorem np_134 : 2 = pm_np 134 := by decide +kernel
theorem oc_134 : 21 = 10 + pm_oc 134 := by decide +kernel
theorem np_135 : 1 = pm_np 135 := by decide +kernel
theorem oc_135 : 21 = 10 + pm_oc 135 := by decide +kernel
theorem np_136 : 2 = pm_np 136 := by decide +kernel
theorem oc_136 : 21 = 10 + pm_oc 136 := by decide +kernel
theorem np_137 : 2 = pm_np 137 := by decide +kernel
theorem oc_137 : 21 = 10 + pm_oc 137 := by decide +kernel
theorem np_138 : 1 = pm_np 138 := by decide +kernel
theorem oc_138 : 21 = 10 + pm_oc 138 := by decide +kernel
theorem np_139 : 1 = pm_np 139 := by decide +kernel
theorem oc_139 : 21 = 10 + pm_oc 139 := by decide +kernel
theorem np_140 : 2 = pm_np 140 := by decide +kernel
theorem oc_140 : 21 = 10 + pm_oc 140 := by decide +kernel
theorem np_141 : 1 = pm_np 141 := by decide +kernel
theorem oc_141 : 21 = 10 + pm_oc 141 := by decide +kernel
theorem np_142 : 1 = pm_np 142 := by decide +kernel
theorem oc_142 : 21 = 10 + pm_oc 142 := by decide +kernel
theorem np_143 : 1 = pm_np 143 := by decide +kernel
theorem oc_143 : 21 = 10 + pm_oc 143 := by decide +kernel
theorem np_144 : 2 = pm_np 144 := by decide +kernel
theorem oc_144 : 21 = 10 + pm_oc 144 := by decide +kernel
theorem np_145 : 2 = pm_np 145 := by decide +kernel
theorem oc_145 : 21 = 10 + pm_oc 145 := by decide +kernel
theorem np_146 : 2 = pm_np 146 := by decide +kernel
theorem oc_146 : 21 = 10 + pm_oc 146 := by decide +kernel
theorem np_147 : 2 = pm_np 147 := by decide +kernel
theorem oc_147 : 21 = 10 + pm_oc 147 := by decide +kernel
theorem np_148 : 2 = pm_np 148 := by decide +kernel
theorem oc_148 : 21 = 10 + pm_oc 148 := by decide +kernel
theorem np_149 : 2 = pm_np 149 := by decide +kernel
theorem oc_149 : 21 = 10 + pm_oc 149 := by decide +kernel
theorem np_150 : 1 = pm_np 150 := by decide +kernel
theorem oc_150 : 21 = 10 + pm_oc 150 := by decide +kernel
theorem np_151 : 2 = pm_np 151 := by decide +kernel
theorem oc_151 : 21 = 10 + pm_oc 151 := by decide +kernel
theorem np_152 : 1 = pm_np 152 := by decide +kernel
theorem oc_152 : 21 = 10 + pm_oc 152 := by decide +kernel
theorem np_153 : 1 = pm_np 153 := by decide +kernel
theorem oc_153 : 21 = 10 + pm_oc 153 := by decide +kernel
theorem np_154 : 1 = pm_np 154 := by decide +kernel
theorem oc_154 : 21 = 10 + pm_oc 154 := by decide +kernel
theorem np_155 : 0 = pm_np 155 := by decide +kernel
theorem oc_155 : 21 = 10 + pm_oc 155 := by decide +kernel
theorem np_156 : 0 = pm_np 156 := by decide +kernel
theorem oc_156 : 21 = 10 + pm_oc 156 := by decide +kernel
theorem np_157 : 2 = pm_np 157 := by decide +kernel
theorem oc_157 : 21 = 10 + pm_oc 157 := by decide +kernel
theorem np_158 : 1 = pm_np 158 := by decide +kernel
theorem oc_158 : 21 = 10 + pm_oc 158 := by decide +kernel
theorem np_159 : 0 = pm_np 159 := by decide +kernel
theorem oc_159 : 21 = 10 + pm_oc 159 := by decide +kernel
theorem np_160 : 0 = pm_np 160 := by decide +kernel
theorem oc_160 : 21 = 10 + pm_oc 160 := by decide +kernel
theorem np_161 : 0 = pm_np 161 := by decide +kernel
theorem oc_161 : 21 = 10 + pm_oc 161 := by decide +kernel
theorem np_162 : 2 = pm_np 162 := by decide +kernel
theorem oc_162 : 21 = 10 + pm_oc 162 := by decide +kernel
theorem np_163 : 2 = pm_np 163 := by decide +kernel
theorem oc_163 : 21 = 10 + pm_oc 163 := by decide +kernel
theorem np_164 : 2 = pm_np 164 := by decide +kernel
theorem oc_164 : 21 = 10 + pm_oc 164 := by decide +kernel
theorem np_165 : 3 = pm_np 165 := by decide +kernel
theorem oc_165 : 21 = 10 + pm_oc 165 := by decide +kernel
theorem np_166 : 2 = pm_np 166 := by decide +kernel
theorem oc_166 : 21 = 10 + pm_oc 166 := by decide +kernel
theorem np_167 : 2 = pm_np 167 := by decide +kernel
theorem oc_167 : 21 = 10 + pm_oc 167 := by decide +kernel
theorem np_168 : 2 = pm_np 168 := by decide +kernel
theorem oc_168 : 21 = 10 + pm_oc 168 := by decide +kernel
theorem np_169 : 2 = pm_np 169 := by decide +kernel
theorem oc_169 : 21 = 10 + pm_oc 169 := by decide +kernel
theorem np_170 : 3 = pm_np 170 := by decide +kernel
theorem oc_170 : 21 = 10 + pm_oc 170 := by decide +kernel
theorem np_171 : 2 = pm_np 171 := by decide +kernel
theorem oc_171 : 21 = 10 + pm_oc 171 := by decide +kernel
theorem np_172 : 3 = pm_np 172 := by decide +kernel
theorem oc_172 : 21 = 10 + pm_oc 172 := by decide +kernel
theorem np_173 : 2 = pm_np 173 := by decide +kernel
theorem oc_173 : 21 = 10 + pm_oc 173 := by decide +kernel
theorem np_174 : 3 = pm_np 174 := by decide +kernel
theorem oc_174 : 21 = 10 + pm_oc 174 := by decide +kernel
theorem np_175 : 3 = pm_np 175 := by decide +kernel
theorem oc_175 : 21 = 10 + pm_oc 175 := by decide +kernel
theorem np_176 : 2 = pm_np 176 := by decide +kernel
theorem oc_176 : 21 = 10 + pm_oc 176 := by decide +kernel
theorem np_177 : 3 = pm_np 177 := by decide +kernel
theorem oc_177 : 21 = 10 + pm_oc 177 := by decide +kernel
theorem np_178 : 3 = pm_np 178 := by decide +kernel
theorem oc_178 : 21 = 10 + pm_oc 178 := by decide +kernel
theorem np_179 : 3 = pm_np 179 := by decide +kernel
theorem oc_179 : 21 = 10 + pm_oc 179 := by decide +kernel
theorem np_180 : 3 = pm_np 180 := by decide +kernel
theorem oc_180 : 21 = 10 + pm_oc 180 := by decide +kernel
theorem np_181 : 1 = pm_np 181 := by decide +kernel
theorem oc_181 : 21 = 10 + pm_oc 181 := by decide +kernel
theorem np_182 : 1 = pm_np 182 := by decide +kernel
theorem oc_182 : 21 = 10 + pm_oc 182 := by decide +kernel
theorem np_183 : 1 = pm_np 183 := by decide +kernel
theorem oc_183 : 21 = 10 + pm_oc 183 := by decide +kernel
theorem np_184 : 0 = pm_np 184 := by decide +kernel
theorem oc_184 : 22 = 10 + pm_oc 184 := by decide +kernel
theorem np_185 : 1 = pm_np 185 := by decide +kernel
theorem oc_185 : 22 = 10 + pm_oc 185 := by decide +kernel
theorem np_186 : 5 = pm_np 186 := by decide +kernel
theorem oc_186 : 22 = 10 + pm_oc 186 := by decide +kernel
theorem np_187 : 1 = pm_np 187 := by decide +kernel
theorem oc_187 : 22 = 10 + pm_oc 187 := by decide +kernel
theorem np_188 : 3 = pm_np 188 := by decide +kernel
theorem oc_188 : 22 = 10 + pm_oc 188 := by decide +kernel
theorem np_189 : 0 = pm_np 189 := by decide +kernel
theorem oc_189 : 22 = 10 + pm_oc 189 := by decide +kernel
theorem np_190 : 1 = pm_np 190 := by decide +kernel
theorem oc_190 : 22 = 10 + pm_oc 190 := by decide +kernel
theorem np_191 : 1 = pm_np 191 := by decide +kernel
theorem oc_191 : 22 = 10 + pm_oc 191 := by decide +kernel
theorem np_192 : 0 = pm_np 192 := by decide +kernel
theorem oc_192 : 22 = 10 + pm_oc 192 := by decide +kernel
theorem np_193 : 1 = pm_np 193 := by decide +kernel
theorem oc_193 : 22 = 10 + pm_oc 193 := by decide +kernel
theorem np_194 : 1 = pm_np 194 := by decide +kernel
theorem oc_194 : 22 = 10 + pm_oc 194 := by decide +kernel
theorem np_195 : 1 = pm_np 195 := by decide +kernel
theorem oc_195 : 22 = 10 + pm_oc 195 := by decide +kernel
theorem np_196 : 1 = pm_np 196 := by decide +kernel
theorem oc_196 : 22 = 10 + pm_oc 196 := by decide +kernel
theorem np_197 : 2 = pm_np 197 := by decide +kernel
theorem oc_197 : 22 = 10 + pm_oc 197 := by decide +kernel
theorem np_198 : 0 = pm_np 198 := by decide +kernel
theorem oc_198 : 22 = 10 + pm_oc 198 := by decide +kernel
theorem np_199 : 0 = pm_np 199 := by decide +kernel
theorem oc_199 : 22 = 10 + pm_oc 199 := by decide +kernel
theorem np_200 : 0 = pm_np 200 := by decide +kernel
theorem oc_200 : 22 = 10 + pm_oc 200 := by decide +kernel
theorem np_201 : 0 = pm_np 201 := by decide +kernel
theorem oc_201 : 22 = 10 + pm_oc 201 := by decide +kernel
theorem np_202 : 1 = pm_np 202 := by decide +kernel
theorem oc_202 : 22 = 10 + pm_oc 202 := by decide +kernel
theorem np_203 : 1 = pm_np 203 := by decide +kernel
theorem oc_203 : 22 = 10 + pm_oc 203 := by decide +kernel
theorem np_204 : 1 = pm_np 204 := by decide +kernel
theorem oc_204 : 22 = 10 + pm_oc 204 := by decide +kernel
theorem np_205 : 1 = pm_np 205 := by decide +kernel
theorem oc_205 : 22 = 10 + pm_oc 205 := by decide +kernel
theorem np_206 : 1 = pm_np 206 := by decide +kernel
theorem oc_206 : 22 = 10 + pm_oc 206 := by decide +kernel
theorem np_207 : 1 = pm_np 207 := by decide +kernel
theorem oc_207 : 22 = 10 + pm_oc 207 := by decide +kernel
theorem np_208 : 1 = pm_np 208 := by decide +kernel
theorem oc_208 : 22 = 10 + pm_oc 208 := by decide +kernel
theorem np_209 : 1 = pm_np 209 := by decide +kernel
theorem oc_209 : 22 = 10 + pm_oc 209 := by decide +kernel
theorem np_210 : 1 = pm_np 210 := by decide +kernel
theorem oc_210 : 22 = 10 + pm_oc 210 := by decide +kernel
theorem np_211 : 1 = pm_np 211 := by decide +kernel
theorem oc_211 : 22 = 10 + pm_oc 211 := by decide +kernel
theorem np_212 : 1 = pm_np 212 := by decide +kernel
theorem oc_212 : 22 = 10 + pm_oc 212 := by decide +kernel
theorem np_213 : 1 = pm_np 213 := by decide +kernel
theorem oc_213 : 22 = 10 + pm_oc 213 := by decide +kernel
theorem np_214 : 1 = pm_np 214 := by decide +kernel
theorem oc_214 : 22 = 10 + pm_oc 214 := by decide +kernel
theorem np_215 : 1 = pm_np 215 := by decide +kernel
theorem oc_215 : 22 = 10 + pm_oc 215 := by decide +kernel
theorem np_216 : 2 = pm_np 216 := by decide +kernel
theorem oc_216 : 22 = 10 + pm_oc 216 := by decide +kernel
theorem np_217 : 1 = pm_np 217 := by decide +kernel
theorem oc_217 : 22 = 10 + pm_oc 217 := by decide +kernel
theorem np_218 : 2 = pm_np 218 := by decide +kernel
theorem oc_218 : 22 = 10 + pm_oc 218 := by decide +kernel
theorem np_219 : 1 = pm_np 219 := by decide +kernel
theorem oc_219 : 22 = 10 + pm_oc 219 := by decide +kernel
theorem np_220 : 1 = pm_np 220 := by decide +kernel
theorem oc_220 : 22 = 10 + pm_oc 220 := by decide +kernel
theorem np_221 : 2 = pm_np 221 := by decide +kernel
theorem oc_221 : 22 = 10 + pm_oc 221 := by decide +kernel
theorem np_222 : 2 = pm_np 222 := by decide +kernel
theorem oc_222 : 22 = 10 + pm_oc 222 := by decide +kernel
theorem np_223 : 3 = pm_np 223 := by decide +kernel
theorem oc_223 : 22 = 10 + pm_oc 223 := by decide +kernel
theorem np_224 : 3 = pm_np 224 := by decide +kernel
theorem oc_224 : 22 = 10 + pm_oc 224 := by decide +kernel
theorem np_225 : 2 = pm_np 225 := by decide +kernel
theorem oc_225 : 22 = 10 + pm_oc 225 := by decide +kernel
theorem np_226 : 2 = pm_np 226 := by decide +kernel
theorem oc_226 : 22 = 10 + pm_oc 226 := by decide +kernel
theorem np_227 : 4 = pm_np 227 := by decide +kernel
theorem oc_227 : 22 = 10 + pm_oc 227 := by decide +kernel
theorem np_228 : 1 = pm_np 228 := by decide +kernel
theorem oc_228 : 22 = 10 + pm_oc 228 := by decide +kernel
theorem np_229 : 0 = pm_np 229 := by decide +kernel
theorem oc_229 : 22 = 10 + pm_oc 229 := by decide +kernel
theorem np_230 : 0 = pm_np 230 := by decide +kernel
theorem oc_230 : 22 = 10 + pm_oc 230 := by decide +kernel
theorem np_231 : 1 = pm_np 231 := by decide +kernel
theorem oc_231 : 22 = 10 + pm_oc 231 := by decide +kernel
theorem np_232 : 1 = pm_np 232 := by decide +kernel
theorem oc_232 : 22 = 10 + pm_oc 232 := by decide +kernel
theorem np_233 : 1 = pm_np 233 := by decide +kernel
theorem oc_233 : 22 = 10 + pm_oc 233 := by decide +kernel
theorem np_234 : 2 = pm_np 234 := by decide +kernel
theorem oc_234 : 22 = 10 + pm_oc 234 := by decide +kernel
theorem np_235 : 2 = pm_np 235 := by decide +kernel
theorem oc_235 : 22 = 10 + pm_oc 235 := by decide +kernel
theorem np_236 : 0 = pm_np 236 := by decide +kernel
theorem oc_236 : 22 = 10 + pm_oc 236 := by decide +kernel
theorem np_237 : 1 = pm_np 237 := by decide +kernel
theorem oc_237 : 22 = 10 + pm_oc 237 := by decide +kernel
theorem np_238 : 1 = pm_np 238 := by decide +kernel
theorem oc_238 : 22 = 10 + pm_oc 238 := by decide +kernel
theorem np_239 : 1 = pm_np 239 := by decide +kernel
theorem oc_239 : 22 = 10 + pm_oc 239 := by decide +kernel
theorem np_240 : 1 = pm_np 240 := by decide +kernel
theorem oc_240 : 22 = 10 + pm_oc 240 := by decide +kernel
theorem np_241 : 2 = pm_np 241 := by decide +kernel
theorem oc_241 : 22 = 10 + pm_oc 241 := by decide +kernel
theorem np_242 : 2 = pm_np 242 := by decide +kernel
theorem oc_242 : 22 = 10 + pm_oc 242 := by decide +kernel
theorem np_243 : 2 = pm_np 243 := by decide +kernel
theorem oc_243 : 22 = 10 + pm_oc 243 := by decide +kernel
theorem np_244 : 2 = pm_np 244 := by decide +kernel
theorem oc_244 : 22 = 10 + pm_oc 244 := by decide +kernel
theorem np_245 : 2 = pm_np 245 := by decide +kernel
theorem oc_245 : 22 = 10 + pm_oc 245 := by decide +kernel
theorem np_246 : 1 = pm_np 246 := by decide +kernel
theorem oc_246 : 22 = 10 + pm_oc 246 := by decide +kernel
theorem np_247 : 0 = pm_np 247 := by decide +kernel
theorem oc_247 : 22 = 10 + pm_oc 247 := by decide +kernel
theorem np_248 : 1 = pm_np 248 := by decide +kernel
theorem oc_248 : 22 = 10 + pm_oc 248 := by decide +kernel
theorem np_249 : 0 = pm_np 249 := by decide +kernel
theorem oc_249 : 22 = 10 + pm_oc 249 := by decide +kernel
theorem np_250 : 2 = pm_np 250 := by decide +kernel
theorem oc_250 : 22 = 10 + pm_oc 250 := by decide +kernel
theorem np_251 : 1 = pm_np 251 := by decide +kernel
theorem oc_251 : 22 = 10 + pm_oc 251 := by decide +kernel
theorem np_252 : 2 = pm_np 252 := by decide +kernel
theorem oc_252 : 22 = 10 + pm_oc 252 := by decide +kernel
theorem np_253 : 1 = pm_np 253 := by decide +kernel
theorem oc_253 : 22 = 10 + pm_oc 253 := by decide +kernel
theorem np_254 : 1 = pm_np 254 := by decide +kernel
theorem oc_254 : 22 = 10 + pm_oc 254 := by decide +kernel
theorem np_255 : 1 = pm_np 255 := by decide +kernel
theorem oc_255 : 22 = 10 + pm_oc 255 := by decide +kernel
theorem np_256 : 1 = pm_np 256 := by decide +kernel
theorem oc_256 : 22 = 10 + pm_oc 256 := by decide +kernel
theorem np_257 : 0 = pm_np 257 := by decide +kernel
theorem oc_257 : 22 = 10 + pm_oc 257 := by decide +kernel
theorem np_258 : 0 = pm_np 258 := by decide +kernel
theorem oc_258 : 22 = 10 + pm_oc 258 := by decide +kernel
theorem np_259 : 1 = pm_np 259 := by decide +kernel
theorem oc_259 : 22 = 10 + pm_oc 259 := by decide +kernel
theorem np_260 : 2 = pm_np 260 := by decide +kernel
theorem oc_260 : 22 = 10 + pm_oc 260 := by decide +kernel
theorem np_261 : 0 = pm_np 261 := by decide +kernel
theorem oc_261 : 22 = 10 + pm_oc 261 := by decide +kernel
theorem np_262 : 2 = pm_np 262 := by decide +kernel
theorem oc_262 : 22 = 10 + pm_oc 262 := by decide +kernel
theorem np_263 : 1 = pm_np 263 := by decide +kernel
theorem oc_263 : 22 = 10 + pm_oc 263 := by decide +kernel
theorem np_264 : 2 = pm_np 264 := by decide +kernel
theorem oc_264 : 22 = 10 + pm_oc 264 := by decide +kernel
theorem np_265 : 0 = pm_np 265 := by decide +kernel
theorem oc_265 : 22 = 10 + pm_oc 265 := by decide +kernel
theorem np_266 : 2 = pm_np 266 := by decide +kernel
theorem oc_266 : 22 = 10 + pm_oc 266 := by decide +kernel
theorem np_267 : 2 = pm_np 267 := by decide +kernel
theorem oc_267 : 22 = 10 + pm_oc 267 := by decide +kernel
theorem np_268 : 2 = pm_np 268 := by decide +kernel
theorem oc_268 : 22 = 10 + pm_oc 268 := by decide +kernel
theorem np_269 : 1 = pm_np 269 := by decide +kernel
theorem oc_269 : 22 = 10 + pm_oc 269 := by decide +kernel
theorem np_270 : 1 = pm_np 270 := by decide +kernel
theorem oc_270 : 22 = 10 + pm_oc 270 := by decide +kernel
theorem np_271 : 2 = pm_np 271 := by decide +kernel
theorem oc_271 : 22 = 10 + pm_oc 271 := by decide +kernel
theorem np_272 : 1 = pm_np 272 := by decide +kernel
theorem oc_272 : 22 = 10 + pm_oc 272 := by decide +kernel
theorem np_273 : 1 = pm_np 273 := by decide +kernel
theorem oc_273 : 22 = 10 + pm_oc 273 := by decide +kernel
theorem np_274 : 1 = pm_np 274 := by decide +kernel
theorem oc_274 : 22 = 10 + pm_oc 274 := by decide +kernel
theorem np_275 : 0 = pm_np 275 := by decide +kernel
theorem oc_275 : 22 = 10 + pm_oc 275 := by decide +kernel
theorem np_276 : 2 = pm_np 276 := by decide +kernel
theorem oc_276 : 22 = 10 + pm_oc 276 := by decide +kernel
theorem np_277 : 3 = pm_np 277 := by decide +kernel
theorem oc_277 : 22 = 10 + pm_oc 277 := by decide +kernel
theorem np_278 : 2 = pm_np 278 := by decide +kernel
theorem oc_278 : 22 = 10 + pm_oc 278 := by decide +kernel
theorem np_279 : 0 = pm_np 279 := by decide +kernel
theorem oc_279 : 22 = 10 + pm_oc 279 := by decide +kernel
theorem np_280 : 0 = pm_np 280 := by decide +kernel
theorem oc_280 : 22 = 10 + pm_oc 280 := by decide +kernel
theorem np_281 : 2 = pm_np 281 := by decide +kernel
theorem oc_281 : 22 = 10 + pm_oc 281 := by decide +kernel
theorem np_282 : 2 = pm_np 282 := by decide +kernel
theorem oc_282 : 22 = 10 + pm_oc 282 := by decide +kernel
theorem np_283 : 1 = pm_np 283 := by decide +kernel
theorem oc_283 : 22 = 10 + pm_oc 283 := by decide +kernel
theorem np_284 : 0 = pm_np 284 := by decide +kernel
theorem oc_284 : 22 = 10 + pm_oc 284 := by decide +kernel
theorem np_285 : 2 = pm_np 285 := by decide +kernel
theorem oc_285 : 22 = 10 + pm_oc 285 := by decide +kernel
theorem np_286 : 1 = pm_np 286 := by decide +kernel
theorem oc_286 : 22 = 10 + pm_oc 286 := by decide +kernel
theorem np_287 : 0 = pm_np 287 := by decide +kernel
theorem oc_287 : 22 = 10 + pm_oc 287 := by decide +kernel
theorem np_288 : 0 = pm_np 288 := by decide +kernel
theorem oc_288 : 22 = 10 + pm_oc 288 := by decide +kernel
theorem np_289 : 0 = pm_np 289 := by decide +kernel
theorem oc_289 : 22 = 10 + pm_oc 289 := by decide +kernel
theorem np_290 : 2 = pm_np 290 := by decide +kernel
theorem oc_290 : 22 = 10 + pm_oc 290 := by decide +kernel
theorem np_291 : 1 = pm_np 291 := by decide +kernel
theorem oc_291 : 22 = 10 + pm_oc 291 := by decide +kernel
theorem np_292 : 2 = pm_np 292 := by decide +kernel
theorem oc_292 : 22 = 10 + pm_oc 292 := by decide +kernel
theorem np_293 : 2 = pm_np 293 := by decide +kernel
theorem oc_293 : 22 = 10 + pm_oc 293 := by decide +kernel
theorem np_294 : 4 = pm_np 294 := by decide +kernel
theorem oc_294 : 22 = 10 + pm_oc 294 := by decide +kernel
theorem np_295 : 3 = pm_np 295 := by decide +kernel
theorem oc_295 : 22 = 10 + pm_oc 295 := by decide +kernel
theorem np_296 : 3 = pm_np 296 := by decide +kernel
theorem oc_296 : 22 = 10 + pm_oc 296 := by decide +kernel
theorem np_297 : 2 = pm_np 297 := by decide +kernel
theorem oc_297 : 22 = 10 + pm_oc 297 := by decide +kernel
theorem np_298 : 2 = pm_np 298 := by decide +kernel
theorem oc_298 : 22 = 10 + pm_oc 298 := by decide +kernel
theorem np_299 : 2 = pm_np 299 := by decide +kernel
theorem oc_299 : 22 = 10 + pm_oc 299 := by decide +kernel
theorem np_300 : 2 = pm_np 300 := by decide +kernel
theorem oc_300 : 22 = 10 + pm_oc 300 := by decide +kernel
theorem np_301 : 2 = pm_np 301 := by decide +kernel
theorem oc_301 : 22 = 10 + pm_oc 301 := by decide +kernel
theorem np_302 : 3 = pm_np 302 := by decide +kernel
theorem oc_302 : 22 = 10 + pm_oc 302 := by decide +kernel
theorem np_303 : 2 = pm_np 303 := by decide +kernel
theorem oc_303 : 22 = 10 + pm_oc 303 := by decide +kernel
theorem np_304 : 3 = pm_np 304 := by decide +kernel
theorem oc_304 : 22 = 10 + pm_oc 304 := by decide +kernel
theorem np_305 : 3 = pm_np 305 := by decide +kernel
theorem oc_305 : 22 = 10 + pm_oc 305 := by decide +kernel
theorem np_306 : 5 = pm_np 306 := by decide +kernel
theorem oc_306 : 22 = 10 + pm_oc 306 := by decide +kernel
theorem np_307 : 3 = pm_np 307 := by decide +kernel
theorem oc_307 : 22 = 10 + pm_oc 307 := by decide +kernel
theorem np_308 : 3 = pm_np 308 := by decide +kernel
theorem oc_308 : 22 = 10 + pm_oc 308 := by decide +kernel
theorem np_309 : 2 = pm_np 309 := by decide +kernel
theorem oc_309 : 22 = 10 + pm_oc 309 := by decide +kernel
theorem np_310 : 2 = pm_np 310 := by decide +kernel
theorem oc_310 : 22 = 10 + pm_oc 310 := by decide +kernel
theorem np_311 : 1 = pm_np 311 := by decide +kernel
theorem oc_311 : 22 = 10 + pm_oc 311 := by decide +kernel
theorem np_312 : 2 = pm_np 312 := by decide +kernel
theorem oc_312 : 22 = 10 + pm_oc 312 := by decide +kernel
theorem np_313 : 3 = pm_np 313 := by decide +kernel
theorem oc_313 : 22 = 10 + pm_oc 313 := by decide +kernel
theorem np_314 : 3 = pm_np 314 := by decide +kernel
theorem oc_314 : 22 = 10 + pm_oc 314 := by decide +kernel
theorem np_315 : 3 = pm_np 315 := by decide +kernel
theorem oc_315 : 22 = 10 + pm_oc 315 := by decide +kernel
theorem np_316 : 2 = pm_np 316 := by decide +kernel
theorem oc_316 : 22 = 10 + pm_oc 316 := by decide +kernel
theorem np_317 : 3 = pm_np 317 := by decide +kernel
theorem oc_317 : 22 = 10 + pm_oc 317 := by decide +kernel
theorem np_318 : 1 = pm_np 318 := by decide +kernel
theorem oc_318 : 22 = 10 + pm_oc 318 := by decide +kernel
theorem np_319 : 1 = pm_np 319 := by decide +kernel
theorem oc_319 : 22 = 10 + pm_oc 319 := by decide +kernel
theorem np_320 : 1 = pm_np 320 := by decide +kernel
theorem oc_320 : 22 = 10 + pm_oc 320 := by decide +kernel
theorem np_321 : 0 = pm_np 321 := by decide +kernel
theorem oc_321 : 22 = 10 + pm_oc 321 := by decide +kernel
theorem np_322 : 1 = pm_np 322 := by decide +kernel
theorem np_323 : 2 = pm_np 323 := by decide +kernel
theorem np_324 : 2 = pm_np 324 := by decide +kernel
theorem np_325 : 2 = pm_np 325 := by decide +kernel
theorem np_326 : 2 = pm_np 326 := by decide +kernel
theorem np_327 : 4 = pm_np 327 := by decide +kernel
theorem np_328 : 3 = pm_np 328 := by decide +kernel
theorem np_329 : 2 = pm_np 329 := by decide +kernel
theorem kb_m30 : (Int8.ofInt (-30)).toInt32 = (-30 : Int32) := by decide
theorem kb_m11 : (Int8.ofInt (-11)).toInt32 = (-11 : Int32) := by decide
theorem kb_m10 : (Int8.ofInt (-10)).toInt32 = (-10 : Int32) := by decide
theorem kb_m7 : (Int8.ofInt (-7)).toInt32 = (-7 : Int32) := by decide
theorem kb_m6 : (Int8.ofInt (-6)).toInt32 = (-6 : Int32) := by decide
theorem kb_m5 : (Int8.ofInt (-5)).toInt32 = (-5 : Int32) := by decide
theorem kb_m4 : (Int8.ofInt (-4)).toInt32 = (-4 : Int32) := by decide
theorem kb_m3 : (Int8.ofInt (-3)).toInt32 = (-3 : Int32) := by decide
theorem kb_m2 : (Int8.ofInt (-2)).toInt32 = (-2 : Int32) := by decide
theorem kb_6 : (Int8.ofInt (6)).toInt32 = (6 : Int32) := by decide
theorem kb_7 : (Int8.ofInt (7)).toInt32 = (7 : Int32) := by decide
theorem kb_8 : (Int8.ofInt (8)).toInt32 = (8 : Int32) := by decide
theorem kb_9 : (Int8.ofInt (9)).toInt32 = (9 : Int32) := by decide
theorem kb_10 : (Int8.ofInt (10)).toInt32 = (10 : Int32) := by decide
theorem kb_11 : (Int8.ofInt (11)).toInt32 = (11 : Int32) := by decide
theorem kb_12 : (Int8.ofInt (12)).toInt32 = (12 : Int32) := by decide
theorem kb_13 : (Int8.ofInt (13)).toInt32 = (13 : Int32) := by decide
theorem kb_14 : (Int8.ofInt (14)).toInt32 = (14 : Int32) := by decide
theorem kb_15 : (Int8.ofInt (15)).toInt32 = (15 : Int32) := by decide
theorem kb_16 : (Int8.ofInt (16)).toInt32 = (16 : Int32) := by decide
theorem kb_18 : (Int8.ofInt (18)).toInt32 = (18 : Int32) := by decide
theorem kb_19 : (Int8.ofInt (19)).toInt32 = (19 : Int32) := by decide
theorem kb_20 : (Int8.ofInt (20)).toInt32 = (20 : Int32) := by decide
theorem kb_22 : (Int8.ofInt (22)).toInt32 = (22 : Int32) := by decide
theorem kb_23 : (Int8.ofInt (23)).toInt32 = (23 : Int32) := by decide
theorem kb_24 : (Int8.ofInt (24)).toInt32 = (24 : Int32) := by decide
theorem kb_25 : (Int8.ofInt (25)).toInt32 = (25 : Int32) := by decide
theorem kb_27 : (Int8.ofInt (27)).toInt32 = (27 : Int32) := by decide
theorem kb_30 : (Int8.ofInt (30)).toInt32 = (30 : Int32) := by decide
theorem kb_31 : (Int8.ofInt (31)).toInt32 = (31 : Int32) := by decide
theorem kb_32 : (Int8.ofInt (32)).toInt32 = (32 : Int32) := by decide
theorem kb_33 : (Int8.ofInt (33)).toInt32 = (33 : Int32) := by decide
theorem kb_34 : (Int8.ofInt (34)).toInt32 = (34 : Int32) := by decide
theorem kb_35 : (Int8.ofInt (35)).toInt32 = (35 : Int32) := by decide
theorem kb_36 : (Int8.ofInt (36)).toInt32 = (36 : Int32) := by decide
theorem kb_37 : (Int8.ofInt (37)).toInt32 = (37 : Int32) := by decide
theorem kb_38 : (Int8.ofInt (38)).toInt32 = (38 : Int32) := by decide
theorem kb_39 : (Int8.ofInt (39)).toInt32 = (39 : Int32) := by decide
theorem kb_40 : (Int8.ofInt (40)).toInt32 = (40 : Int32) := by decide
theorem kb_41 : (Int8.ofInt (41)).toInt32 = (41 : Int32) := by decide
theorem kb_42 : (Int8.ofInt (42)).toInt32 = (42 : Int32) := by decide
theorem kb_43 : (Int8.ofInt (43)).toInt32 = (43 : Int32) := by decide
theorem kb_45 : (Int8.ofInt (45)).toInt32 = (45 : Int32) := by decide
theorem kb_47 : (Int8.ofInt (47)).toInt32 = (47 : Int32) := by decide
theorem kb_48 : (Int8.ofInt (48)).toInt32 = (48 : Int32) := by decide
theorem kb_49 : (Int8.ofInt (49)).toInt32 = (49 : Int32) := by decide
theorem kb_50 : (Int8.ofInt (50)).toInt32 = (50 : Int32) := by decide
theorem kb_57 : (Int8.ofInt (57)).toInt32 = (57 : Int32) := by decide
theorem kb_58 : (Int8.ofInt (58)).toInt32 = (58 : Int32) := by decide
theorem kb_59 : (Int8.ofInt (59)).toInt32 = (59 : Int32) := by decide
theorem kb_60 : (Int8.ofInt (60)).toInt32 = (60 : Int32) := by decide
theorem kb_61 : (Int8.ofInt (61)).toInt32 = (61 : Int32) := by decide
theorem kb_62 : (Int8.ofInt (62)).toInt32 = (62 : Int32) := by decide
theorem kb_63 : (Int8.ofInt (63)).toInt32 = (63 : Int32) := by decide
theorem kb_64 : (Int8.ofInt (64)).toInt32 = (64 : Int32) := by decide
theorem kb_66 : (Int8.ofInt (66)).toInt32 = (66 : Int32) := by decide
theorem kb_72 : (Int8.ofInt (72)).toInt32 = (72 : Int32) := by decide
theorem kb_78 : (Int8.ofInt (78)).toInt32 = (78 : Int32) := by decide
theorem kb_79 : (Int8.ofInt (79)).toInt32 = (79 : Int32) := by decide
theorem kb_91 : (Int8.ofInt (91)).toInt32 = (91 : Int32) := by decide
theorem kb_93 : (Int8.ofInt (93)).toInt32 = (93 : Int32) := by decide
theorem kb_97 : (Int8.ofInt (97)).toInt32 = (97 : Int32) := by decide
theorem kb_99 : (Int8.ofInt (99)).toInt32 = (99 : Int32) := by decide
theorem kb_100 : (Int8.ofInt (100)).toInt32 = (100 : Int32) := by decide
theorem kb_110 : (Int8.ofInt (110)).toInt32 = (110 : Int32) := by decide
theorem kb_122 : (Int8.ofInt (122)).toInt32 = (122 : Int32) := by decide
theorem ki_m1 : Int32.ofInt (-1) = (-1 : Int32) := by decide
theorem ki_0 : Int32.ofInt (0) = (0 : Int32) := by decide
theorem ki_1 : Int32.ofInt (1) = (1 : Int32) := by decide
theorem ki_2 : Int32.ofInt (2) = (2 : Int32) := by decide
theorem ki_3 : Int32.ofInt (3) = (3 : Int32) := by decide
theorem ki_4 : Int32.ofInt (4) = (4 : Int32) := by decide
theorem ki_5 : Int32.ofInt (5) = (5 : Int32) := by decide
theorem ks_128 : (Int16.ofInt (128)).toInt32 = (128 : Int32) := by decide
theorem ks_129 : (Int16.ofInt (129)).toInt32 = (129 : Int32) := by decide
theorem ks_130 : (Int16.ofInt (130)).toInt32 = (130 : Int32) := by decide
theorem ks_131 : (Int16.ofInt (131)).toInt32 = (131 : Int32) := by decide
theorem ks_160 : (Int16.ofInt (160)).toInt32 = (160 : Int32) := by decide
theorem ks_200 : (Int16.ofInt (200)).toInt32 = (200 : Int32) := by decide
theorem ks_204 : (Int16.ofInt (204)).toInt32 = (204 : Int32) := by decide
theorem ks_206 : (Int16.ofInt (206)).toInt32 = (206 : Int32) := by decide
theorem ks_207 : (Int16.ofInt (207)).toInt32 = (207 : Int32) := by decide
theorem ks_208 : (Int16.ofInt (208)).toInt32 = (208 : Int32) := by decide
theorem ks_209 : (Int16.ofInt (209)).toInt32 = (209 : Int32) := by decide
theorem ks_210 : (Int16.ofInt (210)).toInt32 = (210 : Int32) := by decide
theorem ks_211 : (Int16.ofInt (211)).toInt32 = (211 : Int32) := by decide
theorem ks_214 : (Int16.ofInt (214)).toInt32 = (214 : Int32) := by decide
theorem ks_215 : (Int16.ofInt (215)).toInt32 = (215 : Int32) := by decide
theorem ks_216 : (Int16.ofInt (216)).toInt32 = (216 : Int32) := by decide
theorem ks_217 : (Int16.ofInt (217)).toInt32 = (217 : Int32) := by decide
theorem ks_218 : (Int16.ofInt (218)).toInt32 = (218 : Int32) := by decide
theorem ks_219 : (Int16.ofInt (219)).toInt32 = (219 : Int32) := by decide
theorem ks_220 : (Int16.ofInt (220)).toInt32 = (220 : Int32) := by decide
theorem ks_255 : (Int16.ofInt (255)).toInt32 = (255 : Int32) := by decide
theorem ks_256 : (Int16.ofInt (256)).toInt32 = (256 : Int32) := by decide
theorem ks_279 : (Int16.ofInt (279)).toInt32 = (279 : Int32) := by decide
theorem ks_300 : (Int16.ofInt (300)).toInt32 = (300 : Int32) := by decide
theorem ks_389 : (Int16.ofInt (389)).toInt32 = (389 : Int32) := by decide
theorem ks_390 : (Int16.ofInt (390)).toInt32 = (390 : Int32) := by decide
theorem ks_800 : (Int16.ofInt (800)).toInt32 = (800 : Int32) := by decide
theorem ks_900 : (Int16.ofInt (900)).toInt32 = (900 : Int32) := by decide
theorem ks_999 : (Int16.ofInt (999)).toInt32 = (999 : Int32) := by decide
theorem ks_1000 : (Int16.ofInt (1000)).toInt32 = (1000 : Int32) := by decide
theorem ks_1290 : (Int16.ofInt (1290)).toInt32 = (1290 : Int32) := by decide
theorem ks_1792 : (Int16.ofInt (1792)).toInt32 = (1792 : Int32) := by decide
theorem ks_3000 : (Int16.ofInt (3000)).toInt32 = (3000 : Int32) := by decide
theorem ks_3001 : (Int16.ofInt (3001)).toInt32 = (3001 : Int32) := by decide
theorem ks_3002 : (Int16.ofInt (3002)).toInt32 = (3002 : Int32) := by decide
theorem ks_3003 : (Int16.ofInt (3003)).toInt32 = (3003 : Int32) := by decide
theorem ks_3004 : (Int16.ofInt (3004)).toInt32 = (3004 : Int32) := by decide
theorem ks_3005 : (Int16.ofInt (3005)).toInt32 = (3005 : Int32) := by decide
theorem ks_3006 : (Int16.ofInt (3006)).toInt32 = (3006 : Int32) := by decide
theorem ks_3007 : (Int16.ofInt (3007)).toInt32 = (3007 : Int32) := by decide
theorem ks_3008 : (Int16.ofInt (3008)).toInt32 = (3008 : Int32) := by decide
theorem ks_3009 : (Int16.ofInt (3009)).toInt32 = (3009 : Int32) := by decide
theorem ks_3200 : (Int16.ofInt (3200)).toInt32 = (3200 : Int32) := by decide
theorem ks_3870 : (Int16.ofInt (3870)).toInt32 = (3870 : Int32) := by decide
theorem ks_12345 : (Int16.ofInt (12345)).toInt32 = (12345 : Int32) := by decide
theorem ks_25600 : (Int16.ofInt (25600)).toInt32 = (25600 : Int32) := by decide
theorem tn_0 : ((0 : Int32)).toNatClampNeg = 0 := by decide
theorem tn_1 : ((1 : Int32)).toNatClampNeg = 1 := by decide
theorem tn_2 : ((2 : Int32)).toNatClampNeg = 2 := by decide
theorem tn_3 : ((3 : Int32)).toNatClampNeg = 3 := by decide
theorem tn_4 : ((4 : Int32)).toNatClampNeg = 4 := by decide
theorem tn_5 : ((5 : Int32)).toNatClampNeg = 5 := by decide
theorem tn_6 : ((6 : Int32)).toNatClampNeg = 6 := by decide
theorem tn_7 : ((7 : Int32)).toNatClampNeg = 7 := by decide
theorem tn_8 : ((8 : Int32)).toNatClampNeg = 8 := by decide
theorem tn_9 : ((9 : Int32)).toNatClampNeg = 9 := by decide
theorem tn_10 : ((10 : Int32)).toNatClampNeg = 10 := by decide
theorem tn_11 : ((11 : Int32)).toNatClampNeg = 11 := by decide
theorem tn_12 : ((12 : Int32)).toNatClampNeg = 12 := by decide
theorem tn_13 : ((13 : Int32)).toNatClampNeg = 13 := by decide
theorem tn_14 : ((14 : Int32)).toNatClampNeg = 14 := by decide
theorem tn_15 : ((15 : Int32)).toNatClampNeg = 15 := by decide
theorem tn_16 : ((16 : Int32)).toNatClampNeg = 16 := by decide
theorem tn_17 : ((17 : Int32)).toNatClampNeg = 17 := by decide
theorem tn_18 : ((18 : Int32)).toNatClampNeg = 18 := by decide
theorem tn_19 : ((19 : Int32)).toNatClampNeg = 19 := by decide
theorem tn_20 : ((20 : Int32)).toNatClampNeg = 20 := by decide
theorem tn_21 : ((21 : Int32)).toNatClampNeg = 21 := by decide
theorem tn_22 : ((22 : Int32)).toNatClampNeg = 22 := by decide
theorem tn_23 : ((23 : Int32)).toNatClampNeg = 23 := by decide
theorem tn_24 : ((24 : Int32)).toNatClampNeg = 24 := by decide
theorem tn_25 : ((25 : Int32)).toNatClampNeg = 25 := by decide
theorem tn_26 : ((26 : Int32)).toNatClampNeg = 26 := by decide
theorem tn_27 : ((27 : Int32)).toNatClampNeg = 27 := by decide
theorem tn_28 : ((28 : Int32)).toNatClampNeg = 28 := by decide
theorem tn_29 : ((29 : Int32)).toNatClampNeg = 29 := by decide
theorem tn_30 : ((30 : Int32)).toNatClampNeg = 30 := by decide
theorem tn_31 : ((31 : Int32)).toNatClampNeg = 31 := by decide
theorem tn_32 : ((32 : Int32)).toNatClampNeg = 32 := by decide
theorem tn_33 : ((33 : Int32)).toNatClampNeg = 33 := by decide
theorem tn_34 : ((34 : Int32)).toNatClampNeg = 34 := by decide
theorem tn_35 : ((35 : Int32)).toNatClampNeg = 35 := by decide
theorem tn_36 : ((36 : Int32)).toNatClampNeg = 36 := by decide
theorem tn_37 : ((37 : Int32)).toNatClampNeg = 37 := by decide
theorem tn_38 : ((38 : Int32)).toNatClampNeg = 38 := by decide
theorem tn_39 : ((39 : Int32)).toNatClampNeg = 39 := by decide
theorem tn_40 : ((40 : Int32)).toNatClampNeg = 40 := by decide
theorem tn_41 : ((41 : Int32)).toNatClampNeg = 41 := by decide
theorem tn_42 : ((42 : Int32)).toNatClampNeg = 42 := by decide
theorem tn_43 : ((43 : Int32)).toNatClampNeg = 43 := by decide
theorem tn_44 : ((44 : Int32)).toNatClampNeg = 44 := by decide
theorem tn_45 : ((45 : Int32)).toNatClampNeg = 45 := by decide
theorem tn_46 : ((46 : Int32)).toNatClampNeg = 46 := by decide
theorem tn_47 : ((47 : Int32)).toNatClampNeg = 47 := by decide
theorem tn_48 : ((48 : Int32)).toNatClampNeg = 48 := by decide
theorem tn_49 : ((49 : Int32)).toNatClampNeg = 49 := by decide
theorem tn_50 : ((50 : Int32)).toNatClampNeg = 50 := by decide
theorem tn_51 : ((51 : Int32)).toNatClampNeg = 51 := by decide
theorem tn_52 : ((52 : Int32)).toNatClampNeg = 52 := by decide
theorem tn_53 : ((53 : Int32)).toNatClampNeg = 53 := by decide
theorem tn_54 : ((54 : Int32)).toNatClampNeg = 54 := by decide
theorem tn_55 : ((55 : Int32)).toNatClampNeg = 55 := by decide
theorem tn_56 : ((56 : Int32)).toNatClampNeg = 56 := by decide
theorem tn_57 : ((57 : Int32)).toNatClampNeg = 57 := by decide
theorem tn_58 : ((58 : Int32)).toNatClampNeg = 58 := by decide
theorem tn_59 : ((59 : Int32)).toNatClampNeg = 59 := by decide
theorem tn_60 : ((60 : Int32)).toNatClampNeg = 60 := by decide
theorem tn_61 : ((61 : Int32)).toNatClampNeg = 61 := by decide
theorem tn_62 : ((62 : Int32)).toNatClampNeg = 62 := by decide
theorem tn_63 : ((63 : Int32)).toNatClampNeg = 63 := by decide
theorem tn_64 : ((64 : Int32)).toNatClampNeg = 64 := by decide
theorem tn_65 : ((65 : Int32)).toNatClampNeg = 65 := by decide
theorem tn_66 : ((66 : Int32)).toNatClampNeg = 66 := by decide
theorem tn_67 : ((67 : Int32)).toNatClampNeg = 67 := by decide
theorem tn_68 : ((68 : Int32)).toNatClampNeg = 68 := by decide
theorem tn_69 : ((69 : Int32)).toNatClampNeg = 69 := by decide
theorem tn_70 : ((70 : Int32)).toNatClampNeg = 70 := by decide
theorem tn_71 : ((71 : Int32)).toNatClampNeg = 71 := by decide
theorem tn_72 : ((72 : Int32)).toNatClampNeg = 72 := by decide
theorem tn_73 : ((73 : Int32)).toNatClampNeg = 73 := by decide
theorem tn_74 : ((74 : Int32)).toNatClampNeg = 74 := by decide
theorem tn_75 : ((75 : Int32)).toNatClampNeg = 75 := by decide
theorem tn_76 : ((76 : Int32)).toNatClampNeg = 76 := by decide
theorem tn_77 : ((77 : Int32)).toNatClampNeg = 77 := by decide
theorem tn_78 : ((78 : Int32)).toNatClampNeg = 78 := by decide
theorem tn_79 : ((79 : Int32)).toNatClampNeg = 79 := by decide
theorem tn_80 : ((80 : Int32)).toNatClampNeg = 80 := by decide
theorem tn_81 : ((81 : Int32)).toNatClampNeg = 81 := by decide
theorem tn_82 : ((82 : Int32)).toNatClampNeg = 82 := by decide
theorem tn_83 : ((83 : Int32)).toNatClampNeg = 83 := by decide
theorem tn_84 : ((84 : Int32)).toNatClampNeg = 84 := by decide
theorem tn_85 : ((85 : Int32)).toNatClampNeg = 85 := by decide
theorem tn_86 : ((86 : Int32)).toNatClampNeg = 86 := by decide
theorem tn_87 : ((87 : Int32)).toNatClampNeg = 87 := by decide
theorem tn_88 : ((88 : Int32)).toNatClampNeg = 88 := by decide
theorem tn_89 : ((89 : Int32)).toNatClampNeg = 89 := by decide
theorem tn_90 : ((90 : Int32)).toNatClampNeg = 90 := by decide
theorem tn_91 : ((91 : Int32)).toNatClampNeg = 91 := by decide
theorem tn_92 : ((92 : Int32)).toNatClampNeg = 92 := by decide
theorem tn_93 : ((93 : Int32)).toNatClampNeg = 93 := by decide
theorem tn_94 : ((94 : Int32)).toNatClampNeg = 94 := by decide
theorem tn_95 : ((95 : Int32)).toNatClampNeg = 95 := by decide
theorem tn_96 : ((96 : Int32)).toNatClampNeg = 96 := by decide
theorem tn_97 : ((97 : Int32)).toNatClampNeg = 97 := by decide
theorem tn_98 : ((98 : Int32)).toNatClampNeg = 98 := by decide
theorem tn_99 : ((99 : Int32)).toNatClampNeg = 99 := by decide
theorem tn_100 : ((100 : Int32)).toNatClampNeg = 100 := by decide
theorem tn_101 : ((101 : Int32)).toNatClampNeg = 101 := by decide
theorem tn_102 : ((102 : Int32)).toNatClampNeg = 102 := by decide
theorem tn_103 : ((103 : Int32)).toNatClampNeg = 103 := by decide
theorem tn_104 : ((104 : Int32)).toNatClampNeg = 104 := by decide
theorem tn_105 : ((105 : Int32)).toNatClampNeg = 105 := by decide
theorem tn_106 : ((106 : Int32)).toNatClampNeg = 106 := by decide
theorem tn_107 : ((107 : Int32)).toNatClampNeg = 107 := by decide
theorem tn_108 : ((108 : Int32)).toNatClampNeg = 108 := by decide
theorem tn_109 : ((109 : Int32)).toNatClampNeg = 109 := by decide
theorem tn_110 : ((110 : Int32)).toNatClampNeg = 110 := by decide
theorem tn_111 : ((111 : Int32)).toNatClampNeg = 111 := by decide
theorem tn_112 : ((112 : Int32)).toNatClampNeg = 112 := by decide
theorem tn_113 : ((113 : Int32)).toNatClampNeg = 113 := by decide
theorem tn_114 : ((114 : Int32)).toNatClampNeg = 114 := by decide
theorem tn_115 : ((115 : Int32)).toNatClampNeg = 115 := by decide
theorem tn_116 : ((116 : Int32)).toNatClampNeg = 116 := by decide
theorem tn_117 : ((117 : Int32)).toNatClampNeg = 117 := by decide
theorem tn_118 : ((118 : Int32)).toNatClampNeg = 118 := by decide
theorem tn_119 : ((119 : Int32)).toNatClampNeg = 119 := by decide
theorem tn_122 : ((122 : Int32)).toNatClampNeg = 122 := by decide
theorem tn_128 : ((128 : Int32)).toNatClampNeg = 128 := by decide
theorem tn_129 : ((129 : Int32)).toNatClampNeg = 129 := by decide
theorem tn_130 : ((130 : Int32)).toNatClampNeg = 130 := by decide
theorem tn_131 : ((131 : Int32)).toNatClampNeg = 131 := by decide
theorem tn_160 : ((160 : Int32)).toNatClampNeg = 160 := by decide
theorem tn_200 : ((200 : Int32)).toNatClampNeg = 200 := by decide
theorem tn_204 : ((204 : Int32)).toNatClampNeg = 204 := by decide
theorem tn_206 : ((206 : Int32)).toNatClampNeg = 206 := by decide
theorem tn_207 : ((207 : Int32)).toNatClampNeg = 207 := by decide
theorem tn_208 : ((208 : Int32)).toNatClampNeg = 208 := by decide
theorem tn_209 : ((209 : Int32)).toNatClampNeg = 209 := by decide
theorem tn_210 : ((210 : Int32)).toNatClampNeg = 210 := by decide
theorem tn_211 : ((211 : Int32)).toNatClampNeg = 211 := by decide
theorem tn_214 : ((214 : Int32)).toNatClampNeg = 214 := by decide
theorem tn_215 : ((215 : Int32)).toNatClampNeg = 215 := by decide
theorem tn_216 : ((216 : Int32)).toNatClampNeg = 216 := by decide
theorem tn_217 : ((217 : Int32)).toNatClampNeg = 217 := by decide
theorem tn_218 : ((218 : Int32)).toNatClampNeg = 218 := by decide
theorem tn_219 : ((219 : Int32)).toNatClampNeg = 219 := by decide
theorem tn_220 : ((220 : Int32)).toNatClampNeg = 220 := by decide
theorem tn_255 : ((255 : Int32)).toNatClampNeg = 255 := by decide
theorem tn_256 : ((256 : Int32)).toNatClampNeg = 256 := by decide
theorem tn_279 : ((279 : Int32)).toNatClampNeg = 279 := by decide
theorem tn_300 : ((300 : Int32)).toNatClampNeg = 300 := by decide
theorem tn_389 : ((389 : Int32)).toNatClampNeg = 389 := by decide
theorem tn_390 : ((390 : Int32)).toNatClampNeg = 390 := by decide
theorem tn_800 : ((800 : Int32)).toNatClampNeg = 800 := by decide
theorem tn_900 : ((900 : Int32)).toNatClampNeg = 900 := by decide
theorem tn_999 : ((999 : Int32)).toNatClampNeg = 999 := by decide
theorem tn_1000 : ((1000 : Int32)).toNatClampNeg = 1000 := by decide
theorem tn_1290 : ((1290 : Int32)).toNatClampNeg = 1290 := by decide
theorem tn_1792 : ((1792 : Int32)).toNatClampNeg = 1792 := by decide
theorem tn_3000 : ((3000 : Int32)).toNatClampNeg = 3000 := by decide
theorem tn_3001 : ((3001 : Int32)).toNatClampNeg = 3001 := by decide
theorem tn_3002 : ((3002 : Int32)).toNatClampNeg = 3002 := by decide
theorem tn_3003 : ((3003 : Int32)).toNatClampNeg = 3003 := by decide
theorem tn_3004 : ((3004 : Int32)).toNatClampNeg = 3004 := by decide
theorem tn_3005 : ((3005 : Int32)).toNatClampNeg = 3005 := by decide
theorem tn_3006 : ((3006 : Int32)).toNatClampNeg = 3006 := by decide
theorem tn_3007 : ((3007 : Int32)).toNatClampNeg = 3007 := by decide
theorem tn_3008 : ((3008 : Int32)).toNatClampNeg = 3008 := by decide
theorem tn_3009 : ((3009 : Int32)).toNatClampNeg = 3009 := by decide
theorem tn_3200 : ((3200 : Int32)).toNatClampNeg = 3200 := by decide
theorem tn_3870 : ((3870 : Int32)).toNatClampNeg = 3870 := by decide
theorem tn_12345 : ((12345 : Int32)).toNatClampNeg = 12345 := by decide
theorem tn_25600 : ((25600 : Int32)).toNatClampNeg = 25600 := by decide
theorem kn_m8 : Int32.ofInt (-8) = (-8 : Int32) := by decide
theorem kn_m2 : Int32.ofInt (-2) = (-2 : Int32) := by decide
theorem kn_m1 : Int32.ofInt (-1) = (-1 : Int32) := by decide
theorem kn_1 : Int32.ofInt (1) = (1 : Int32) := by decide
theorem kn_6 : Int32.ofInt (6) = (6 : Int32) := by decide
abbrev wI (d : Nat) (b : ByteArray) (o : Nat) (rt : Option FieldType) (fi : Bool) (pc : Nat) (ls st : List Value) (s : pm_S) (M : pm_M) (Q : Int32 → pm_S → pm_M → Prop) : Prop := pm_wp (pm_cal d) b o rt fi pc ls st (EE s) M (fun r E1 M1 => ∃ v : Int32, r = some (.int v) ∧ ∃ s1 : pm_S, E1 = EE s1 ∧ Q v s1 M1)
abbrev wL (d : Nat) (b : ByteArray) (o : Nat) (rt : Option FieldType) (fi : Bool) (pc : Nat) (ls st : List Value) (s : pm_S) (M : pm_M) (Q : Int64 → pm_S → pm_M → Prop) : Prop := pm_wp (pm_cal d) b o rt fi pc ls st (EE s) M (fun r E1 M1 => ∃ v : Int64, r = some (.long v) ∧ ∃ s1 : pm_S, E1 = EE s1 ∧ Q v s1 M1)
abbrev wV (d : Nat) (b : ByteArray) (o : Nat) (rt : Option FieldType) (fi : Bool) (pc : Nat) (ls st : List Value) (s : pm_S) (M : pm_M) (Q : pm_S → pm_M → Prop) : Prop := pm_wp (pm_cal d) b o rt fi pc ls st (EE s) M (fun r E1 M1 => r = none ∧ ∃ s1 : pm_S, E1 = EE s1 ∧ Q s1 M1)
def cI (d y : Nat) (as : List Value) (s : pm_S) (M : pm_M) (Q : Int32 → pm_S → pm_M → Prop) : Prop := pm_callI (pm_cal d) y as (EE s) M (fun v E1 M1 => ∃ s1 : pm_S, E1 = EE s1 ∧ Q v s1 M1)
def cL (d y : Nat) (as : List Value) (s : pm_S) (M : pm_M) (Q : Int64 → pm_S → pm_M → Prop) : Prop := pm_callL (pm_cal d) y as (EE s) M (fun v E1 M1 => ∃ s1 : pm_S, E1 = EE s1 ∧ Q v s1 M1)
def cV (d y : Nat) (as : List Value) (s : pm_S) (M : pm_M) (Q : pm_S → pm_M → Prop) : Prop := pm_callV (pm_cal d) y as (EE s) M (fun E1 M1 => ∃ s1 : pm_S, E1 = EE s1 ∧ Q s1 M1)
theorem cI_use {d y : Nat} {as : List Value} {s : pm_S} {M : pm_M} {Q : Int32 → pm_S → pm_M → Prop} {Q' : Int32 → pm_E → pm_M → Prop} (h : cI d y as s M Q) (k : ∀ v s1 M1, Q v s1 M1 → Q' v (EE s1) M1) : pm_callI (pm_cal d) y as (EE s) M Q' := by
  obtain ⟨z, hz, v, hv, s1, he, hq⟩ := h
  exact ⟨z, hz, v, hv, by rw [he]; exact k _ _ _ hq⟩
theorem cL_use {d y : Nat} {as : List Value} {s : pm_S} {M : pm_M} {Q : Int64 → pm_S → pm_M → Prop} {Q' : Int64 → pm_E → pm_M → Prop} (h : cL d y as s M Q) (k : ∀ v s1 M1, Q v s1 M1 → Q' v (EE s1) M1) : pm_callL (pm_cal d) y as (EE s) M Q' := by
  obtain ⟨z, hz, v, hv, s1, he, hq⟩ := h
  exact ⟨z, hz, v, hv, by rw [he]; exact k _ _ _ hq⟩
theorem cV_use {d y : Nat} {as : List Value} {s : pm_S} {M : pm_M} {Q : pm_S → pm_M → Prop} {Q' : pm_E → pm_M → Prop} (h : cV d y as s M Q) (k : ∀ s1 M1, Q s1 M1 → Q' (EE s1) M1) : pm_callV (pm_cal d) y as (EE s) M Q' := by
  obtain ⟨z, hz, hv, s1, he, hq⟩ := h
  exact ⟨z, hz, hv, by rw [he]; exact k _ _ hq⟩
theorem cI_mono {d y : Nat} {as : List Value} {s : pm_S} {M : pm_M} {Q Q' : Int32 → pm_S → pm_M → Prop} (h : cI d y as s M Q) (k : ∀ v s1 M1, Q v s1 M1 → Q' v s1 M1) : cI d y as s M Q' := cI_use h (fun v s1 M1 q => ⟨s1, rfl, k v s1 M1 q⟩)
theorem cL_mono {d y : Nat} {as : List Value} {s : pm_S} {M : pm_M} {Q Q' : Int64 → pm_S → pm_M → Prop} (h : cL d y as s M Q) (k : ∀ v s1 M1, Q v s1 M1 → Q' v s1 M1) : cL d y as s M Q' := cL_use h (fun v s1 M1 q => ⟨s1, rfl, k v s1 M1 q⟩)
theorem cV_mono {d y : Nat} {as : List Value} {s : pm_S} {M : pm_M} {Q Q' : pm_S → pm_M → Prop} (h : cV d y as s M Q) (k : ∀ s1 M1, Q s1 M1 → Q' s1 M1) : cV d y as s M Q' := cV_use h (fun s1 M1 q => ⟨s1, rfl, k s1 M1 q⟩)
theorem t_iconst {cal : pm_C} {b : ByteArray} {o : Nat} {rt : Option FieldType} {fi : Bool} {pc : Nat} {ls st : List Value} {E : pm_E} {M : pm_M} {Q : Option Value → pm_E → pm_M → Prop} {n : Int} {v : Int32} (hc : decode b pc = .ok (.iconst n, 1)) (hv : Int32.ofInt n = v) (h : pm_wp cal b o rt fi (pc + 1) ls (.int v :: st) E M Q) : pm_wp cal b o rt fi pc ls st E M Q := by subst hv; exact s_iconst hc h
theorem t_bipush {cal : pm_C} {b : ByteArray} {o : Nat} {rt : Option FieldType} {fi : Bool} {pc : Nat} {ls st : List Value} {E : pm_E} {M : pm_M} {Q : Option Value → pm_E → pm_M → Prop} {n : Int} {v : Int32} (hc : decode b pc = .ok (.bipush n, 2)) (hv : (Int8.ofInt n).toInt32 = v) (h : pm_wp cal b o rt fi (pc + 2) ls (.int v :: st) E M Q) : pm_wp cal b o rt fi pc ls st E M Q := by subst hv; exact s_bipush hc h
theorem t_sipush {cal : pm_C} {b : ByteArray} {o : Nat} {rt : Option FieldType} {fi : Bool} {pc : Nat} {ls st : List Value} {E : pm_E} {M : pm_M} {Q : Option Value → pm_E → pm_M → Prop} {n : Int} {v : Int32} (hc : decode b pc = .ok (.sipush n, 3)) (hv : (Int16.ofInt n).toInt32 = v) (h : pm_wp cal b o rt fi (pc + 3) ls (.int v :: st) E M Q) : pm_wp cal b o rt fi pc ls st E M Q := by subst hv; exact s_sipush hc h
theorem t_lconst {cal : pm_C} {b : ByteArray} {o : Nat} {rt : Option FieldType} {fi : Bool} {pc : Nat} {ls st : List Value} {E : pm_E} {M : pm_M} {Q : Option Value → pm_E → pm_M → Prop} {n : Fin 2} {v : Int64} (hc : decode b pc = .ok (.lconst n, 1)) (hv : Int64.ofNat (n : Nat) = v) (h : pm_wp cal b o rt fi (pc + 1) ls (.long v :: st) E M Q) : pm_wp cal b o rt fi pc ls st E M Q := by subst hv; exact s_lconst hc h
theorem t_iinc {cal : pm_C} {b : ByteArray} {o : Nat} {rt : Option FieldType} {fi : Bool} {pc : Nat} {ls st : List Value} {E : pm_E} {M : pm_M} {Q : Option Value → pm_E → pm_M → Prop} {i : Nat} {n : Int} {x v : Int32} {ls' : List Value} (hc : decode b pc = .ok (.iinc i n, 3)) (hl : ls[i]? = some (.int x)) (hn : i < ls.length) (hv : Int32.ofInt n = v) (hs : pm_sto ls i (.int (x + v)) = ls') (h : pm_wp cal b o rt fi (pc + 3) ls' st E M Q) : pm_wp cal b o rt fi pc ls st E M Q := by subst hv; subst hs; exact s_iinc hc hl hn h
theorem t_iaload {cal : pm_C} {b : ByteArray} {o : Nat} {rt : Option FieldType} {fi : Bool} {pc : Nat} {ls st : List Value} {E : pm_E} {M : pm_M} {Q : Option Value → pm_E → pm_M → Prop} {i : Int32} {a : Nat} {v : Int32} (hc : decode b pc = .ok (.iaload, 1)) (ha : pm_ok E a 0) (hi : vp_in i (pm_al E a)) (hv : M.1 a i.toNatClampNeg = v) (h : pm_wp cal b o rt fi (pc + 1) ls (.int v :: st) E M Q) : pm_wp cal b o rt fi pc ls (.int i :: .ref a :: st) E M Q := by subst hv; exact s_iaload hc ha hi h
theorem t_baload {cal : pm_C} {b : ByteArray} {o : Nat} {rt : Option FieldType} {fi : Bool} {pc : Nat} {ls st : List Value} {E : pm_E} {M : pm_M} {Q : Option Value → pm_E → pm_M → Prop} {i : Int32} {a : Nat} {v : Int32} (hc : decode b pc = .ok (.baload, 1)) (ha : a < E.1 ∧ (E.2.2.1 a).1 = 2) (hi : vp_in i (pm_al E a)) (hv : M.1 a i.toNatClampNeg = v) (h : pm_wp cal b o rt fi (pc + 1) ls (.int v :: st) E M Q) : pm_wp cal b o rt fi pc ls (.int i :: .ref a :: st) E M Q := by subst hv; exact s_baload hc ha hi h
theorem t_laload {cal : pm_C} {b : ByteArray} {o : Nat} {rt : Option FieldType} {fi : Bool} {pc : Nat} {ls st : List Value} {E : pm_E} {M : pm_M} {Q : Option Value → pm_E → pm_M → Prop} {i : Int32} {a : Nat} {v : Int64} (hc : decode b pc = .ok (.laload, 1)) (ha : a < E.1 ∧ (E.2.2.1 a).1 = 1) (hi : vp_in i (pm_al E a)) (hv : M.2 a i.toNatClampNeg = v) (h : pm_wp cal b o rt fi (pc + 1) ls (.long v :: st) E M Q) : pm_wp cal b o rt fi pc ls (.int i :: .ref a :: st) E M Q := by subst hv; exact s_laload hc ha hi h
theorem t_aaload {cal : pm_C} {b : ByteArray} {o : Nat} {rt : Option FieldType} {fi : Bool} {pc : Nat} {ls st : List Value} {E : pm_E} {M : pm_M} {Q : Option Value → pm_E → pm_M → Prop} {i : Int32} {a x : Nat} (hc : decode b pc = .ok (.aaload, 1)) (ha : a < E.1 ∧ 3 ≤ (E.2.2.1 a).1 ∧ (E.2.2.1 a).1 < 6) (hi : vp_in i (pm_al E a)) (hv : E.2.2.2 a i.toNatClampNeg = some x) (h : pm_wp cal b o rt fi (pc + 1) ls (.ref x :: st) E M Q) : pm_wp cal b o rt fi pc ls (.int i :: .ref a :: st) E M Q := by refine s_aaload hc ha hi ?_; rw [hv]; exact h
theorem t_iastore {cal : pm_C} {b : ByteArray} {o : Nat} {rt : Option FieldType} {fi : Bool} {pc : Nat} {ls st : List Value} {E : pm_E} {M : pm_M} {Q : Option Value → pm_E → pm_M → Prop} {x i : Int32} {a k : Nat} (hc : decode b pc = .ok (.iastore, 1)) (ha : a < E.1 ∧ (E.2.2.1 a).1 = 0) (hi : vp_in i (pm_al E a)) (hk : i.toNatClampNeg = k) (h : pm_wp cal b o rt fi (pc + 1) ls st E (pm_si M a k x) Q) : pm_wp cal b o rt fi pc ls (.int x :: .int i :: .ref a :: st) E M Q := by subst hk; exact s_iastore hc ha hi h
theorem t_bastore {cal : pm_C} {b : ByteArray} {o : Nat} {rt : Option FieldType} {fi : Bool} {pc : Nat} {ls st : List Value} {E : pm_E} {M : pm_M} {Q : Option Value → pm_E → pm_M → Prop} {x i : Int32} {a k : Nat} (hc : decode b pc = .ok (.bastore, 1)) (ha : a < E.1 ∧ (E.2.2.1 a).1 = 2) (hi : vp_in i (pm_al E a)) (hk : i.toNatClampNeg = k) (hx : x = 0 ∨ x = 1) (h : pm_wp cal b o rt fi (pc + 1) ls st E (pm_si M a k x) Q) : pm_wp cal b o rt fi pc ls (.int x :: .int i :: .ref a :: st) E M Q := by subst hk; exact s_bastore hc ha hi hx h
theorem t_lastore {cal : pm_C} {b : ByteArray} {o : Nat} {rt : Option FieldType} {fi : Bool} {pc : Nat} {ls st : List Value} {E : pm_E} {M : pm_M} {Q : Option Value → pm_E → pm_M → Prop} {x : Int64} {i : Int32} {a k : Nat} (hc : decode b pc = .ok (.lastore, 1)) (ha : a < E.1 ∧ (E.2.2.1 a).1 = 1) (hi : vp_in i (pm_al E a)) (hk : i.toNatClampNeg = k) (h : pm_wp cal b o rt fi (pc + 1) ls st E (pm_sj M a k x) Q) : pm_wp cal b o rt fi pc ls (.long x :: .int i :: .ref a :: st) E M Q := by subst hk; exact s_lastore hc ha hi h
theorem t_arraylength {cal : pm_C} {b : ByteArray} {o : Nat} {rt : Option FieldType} {fi : Bool} {pc : Nat} {ls st : List Value} {E : pm_E} {M : pm_M} {Q : Option Value → pm_E → pm_M → Prop} {a : Nat} {v : Int32} (hc : decode b pc = .ok (.arraylength, 1)) (ha : (a < E.1 ∨ a = 4000) ∧ (E.2.2.1 a).1 < 6) (hv : Int32.ofNat (pm_al E a) = v) (h : pm_wp cal b o rt fi (pc + 1) ls (.int v :: st) E M Q) : pm_wp cal b o rt fi pc ls (.ref a :: st) E M Q := by subst hv; exact s_arraylength hc ha h
theorem t_strlen {cal : pm_C} {b : ByteArray} {o : Nat} {rt : Option FieldType} {fi : Bool} {pc : Nat} {ls st : List Value} {E : pm_E} {M : pm_M} {Q : Option Value → pm_E → pm_M → Prop} {ix j : Nat} {v : Int32} (hc : decode b pc = .ok (.invokevirtual ix, 3)) (ht : pm_sv o ix = some 0) (hj : j < 3) (hs : pm_cat st ≤ 8) (hv : Int32.ofNat (pm_sl j) = v) (h : pm_wp cal b o rt fi (pc + 3) ls (.int v :: st) E M Q) : pm_wp cal b o rt fi pc ls (.ref (4001 + j) :: st) E M Q := by subst hv; exact s_strlen hc ht hj hs h
theorem t_store {cal : pm_C} {b : ByteArray} {o : Nat} {rt : Option FieldType} {fi : Bool} {pc : Nat} {ls st : List Value} {E : pm_E} {M : pm_M} {Q : Option Value → pm_E → pm_M → Prop} {ls' : List Value} (hs : ls = ls') (h : pm_wp cal b o rt fi pc ls' st E M Q) : pm_wp cal b o rt fi pc ls st E M Q := by subst hs; exact h
theorem t_if_ne {cal : pm_C} {b : ByteArray} {o : Nat} {rt : Option FieldType} {fi : Bool} {pc : Nat} {ls st : List Value} {E : pm_E} {M : pm_M} {Q : Option Value → pm_E → pm_M → Prop} {x : Int32} {off : Int} {tgt : Nat} (hc : decode b pc = .ok (.ifCond .ne off, 3)) (ht : (pc : Int) + off = (tgt : Int)) (h1 : ¬ x = 0 → pm_wp cal b o rt fi tgt ls st E M Q) (h2 : x = 0 → pm_wp cal b o rt fi (pc + 3) ls st E M Q) : pm_wp cal b o rt fi pc ls (.int x :: st) E M Q := s_if_ne hc ht h1 (fun c => h2 (Classical.not_not.mp c))
theorem t_icmp_ne {cal : pm_C} {b : ByteArray} {o : Nat} {rt : Option FieldType} {fi : Bool} {pc : Nat} {ls st : List Value} {E : pm_E} {M : pm_M} {Q : Option Value → pm_E → pm_M → Prop} {x y : Int32} {off : Int} {tgt : Nat} (hc : decode b pc = .ok (.if_icmp .ne off, 3)) (ht : (pc : Int) + off = (tgt : Int)) (h1 : ¬ x = y → pm_wp cal b o rt fi tgt ls st E M Q) (h2 : x = y → pm_wp cal b o rt fi (pc + 3) ls st E M Q) : pm_wp cal b o rt fi pc ls (.int y :: .int x :: st) E M Q := s_icmp_ne hc ht h1 (fun c => h2 (Classical.not_not.mp c))
theorem t_lc_lt {cal : pm_C} {b : ByteArray} {o : Nat} {rt : Option FieldType} {fi : Bool} {pc : Nat} {ls st : List Value} {E : pm_E} {M : pm_M} {Q : Option Value → pm_E → pm_M → Prop} {x y : Int64} {off : Int} {tgt : Nat} (hc0 : decode b pc = .ok (.lcmp, 1)) (hc : decode b (pc + 1) = .ok (.ifCond .lt off, 3)) (ht : ((pc + 1 : Nat) : Int) + off = (tgt : Int)) (h1 : x < y → pm_wp cal b o rt fi tgt ls st E M Q) (h2 : ¬ (x < y) → pm_wp cal b o rt fi (pc + 4) ls st E M Q) : pm_wp cal b o rt fi pc ls (.long y :: .long x :: st) E M Q := s_lcmp hc0 (s_if_lt hc ht (fun q => h1 ((lg_cmp_lt x y).mp q)) (fun q => h2 (fun z => q ((lg_cmp_lt x y).mpr z))))
theorem t_lc_ge {cal : pm_C} {b : ByteArray} {o : Nat} {rt : Option FieldType} {fi : Bool} {pc : Nat} {ls st : List Value} {E : pm_E} {M : pm_M} {Q : Option Value → pm_E → pm_M → Prop} {x y : Int64} {off : Int} {tgt : Nat} (hc0 : decode b pc = .ok (.lcmp, 1)) (hc : decode b (pc + 1) = .ok (.ifCond .ge off, 3)) (ht : ((pc + 1 : Nat) : Int) + off = (tgt : Int)) (h1 : y ≤ x → pm_wp cal b o rt fi tgt ls st E M Q) (h2 : ¬ (y ≤ x) → pm_wp cal b o rt fi (pc + 4) ls st E M Q) : pm_wp cal b o rt fi pc ls (.long y :: .long x :: st) E M Q := s_lcmp hc0 (s_if_ge hc ht (fun q => h1 ((lg_cmp_ge x y).mp q)) (fun q => h2 (fun z => q ((lg_cmp_ge x y).mpr z))))
theorem t_lc_gt {cal : pm_C} {b : ByteArray} {o : Nat} {rt : Option FieldType} {fi : Bool} {pc : Nat} {ls st : List Value} {E : pm_E} {M : pm_M} {Q : Option Value → pm_E → pm_M → Prop} {x y : Int64} {off : Int} {tgt : Nat} (hc0 : decode b pc = .ok (.lcmp, 1)) (hc : decode b (pc + 1) = .ok (.ifCond .gt off, 3)) (ht : ((pc + 1 : Nat) : Int) + off = (tgt : Int)) (h1 : y < x → pm_wp cal b o rt fi tgt ls st E M Q) (h2 : ¬ (y < x) → pm_wp cal b o rt fi (pc + 4) ls st E M Q) : pm_wp cal b o rt fi pc ls (.long y :: .long x :: st) E M Q := s_lcmp hc0 (s_if_gt hc ht (fun q => h1 ((lg_cmp_gt x y).mp q)) (fun q => h2 (fun z => q ((lg_cmp_gt x y).mpr z))))
theorem t_lc_le {cal : pm_C} {b : ByteArray} {o : Nat} {rt : Option FieldType} {fi : Bool} {pc : Nat} {ls st : List Value} {E : pm_E} {M : pm_M} {Q : Option Value → pm_E → pm_M → Prop} {x y : Int64} {off : Int} {tgt : Nat} (hc0 : decode b pc = .ok (.lcmp, 1)) (hc : decode b (pc + 1) = .ok (.ifCond .le off, 3)) (ht : ((pc + 1 : Nat) : Int) + off = (tgt : Int)) (h1 : x ≤ y → pm_wp cal b o rt fi tgt ls st E M Q) (h2 : ¬ (x ≤ y) → pm_wp cal b o rt fi (pc + 4) ls st E M Q) : pm_wp cal b o rt fi pc ls (.long y :: .long x :: st) E M Q := s_lcmp hc0 (s_if_le hc ht (fun q => h1 ((lg_cmp_le x y).mp q)) (fun q => h2 (fun z => q ((lg_cmp_le x y).mpr z))))
theorem t_lc_eq {cal : pm_C} {b : ByteArray} {o : Nat} {rt : Option FieldType} {fi : Bool} {pc : Nat} {ls st : List Value} {E : pm_E} {M : pm_M} {Q : Option Value → pm_E → pm_M → Prop} {x y : Int64} {off : Int} {tgt : Nat} (hc0 : decode b pc = .ok (.lcmp, 1)) (hc : decode b (pc + 1) = .ok (.ifCond .eq off, 3)) (ht : ((pc + 1 : Nat) : Int) + off = (tgt : Int)) (h1 : x = y → pm_wp cal b o rt fi tgt ls st E M Q) (h2 : ¬ (x = y) → pm_wp cal b o rt fi (pc + 4) ls st E M Q) : pm_wp cal b o rt fi pc ls (.long y :: .long x :: st) E M Q := s_lcmp hc0 (s_if_eq hc ht (fun q => h1 ((lg_cmp_eq x y).mp q)) (fun q => h2 (fun z => q ((lg_cmp_eq x y).mpr z))))
theorem t_lc_ne {cal : pm_C} {b : ByteArray} {o : Nat} {rt : Option FieldType} {fi : Bool} {pc : Nat} {ls st : List Value} {E : pm_E} {M : pm_M} {Q : Option Value → pm_E → pm_M → Prop} {x y : Int64} {off : Int} {tgt : Nat} (hc0 : decode b pc = .ok (.lcmp, 1)) (hc : decode b (pc + 1) = .ok (.ifCond .ne off, 3)) (ht : ((pc + 1 : Nat) : Int) + off = (tgt : Int)) (h1 : ¬ x = y → pm_wp cal b o rt fi tgt ls st E M Q) (h2 : x = y → pm_wp cal b o rt fi (pc + 4) ls st E M Q) : pm_wp cal b o rt fi pc ls (.long y :: .long x :: st) E M Q := s_lcmp hc0 (t_if_ne hc ht (fun q => h1 (fun z => q ((lg_cmp_eq x y).mpr z))) (fun q => h2 ((lg_cmp_eq x y).mp q)))
theorem sw_out {x : Int32} {lo hi : Int} (h : ∀ k : Int, lo ≤ k → k ≤ hi → ¬ x.toInt = k) : x.toInt < lo ∨ hi < x.toInt := by
  by_cases h1 : x.toInt < lo
  · exact Or.inl h1
  · by_cases h2 : hi < x.toInt
    · exact Or.inr h2
    · exact absurd rfl (h x.toInt (by omega) (by omega))
theorem t_tabledef {cal : pm_C} {b : ByteArray} {o : Nat} {rt : Option FieldType} {fi : Bool} {pc : Nat} {ls st : List Value} {E : pm_E} {M : pm_M} {Q : Option Value → pm_E → pm_M → Prop} {x : Int32} {dflt lo hi : Int} {offs : Array Int} {len tgt : Nat} (hc : decode b pc = .ok (.tableswitch dflt lo hi offs, len)) (ht : (pc : Int) + dflt = (tgt : Int)) (hs : x.toInt < lo ∨ hi < x.toInt) (h : pm_wp cal b o rt fi tgt ls st E M Q) : pm_wp cal b o rt fi pc ls (.int x :: st) E M Q := s_tableswitch hc (by rw [if_pos hs]; exact ht) (fun q => absurd hs q) h
/-- a place that is not read any more may hold anything -/
def pm_le (ls ls' : List Value) : Prop := ls.length = ls'.length ∧ ∀ (i : Nat) (v : Value), ls[i]? = some v → v ≠ .null → ls'[i]? = some v
theorem pm_le_cons {a b : Value} {l l' : List Value} (h : a = .null ∨ a = b) (hl : pm_le l l') : pm_le (a :: l) (b :: l') := by
  refine ⟨by simp [hl.1], fun i v hi hn => ?_⟩
  cases i with
  | zero =>
    simp only [List.getElem?_cons_zero, Option.some.injEq] at hi ⊢
    rcases h with rfl | rfl
    · exact absurd hi.symm hn
    · exact hi
  | succ i =>
    simp only [List.getElem?_cons_succ] at hi ⊢
    exact hl.2 i v hi hn
theorem pm_le_nil : pm_le [] [] := ⟨rfl, fun i v h => by simp at h⟩
theorem pm_le_getD {ls ls' : List Value} (h : pm_le ls ls') (i : Nat) (hl : pm_lg (ls.getD i .null) = true) : pm_lg (ls'.getD i .null) = true := by
  rw [List.getD_eq_getElem?_getD] at hl ⊢
  cases hq : ls[i]? with
  | none => rw [hq] at hl; cases hl
  | some v =>
    rw [hq] at hl
    have hv : v ≠ .null := by rintro rfl; cases hl
    rw [h.2 i v hq hv]
    exact hl
theorem pm_le_sto {ls ls' : List Value} (h : pm_le ls ls') (i : Nat) (v : Value) : pm_le (pm_sto ls i v) (pm_sto ls' i v) := by
  have hlen : ∀ (l : List Value), (pm_sto l i v).length = l.length := fun l => pm_sto_len l i v
  refine ⟨by rw [hlen, hlen]; exact h.1, fun j u hj hu => ?_⟩
  have hlt : j < ls.length := by
    have := (List.getElem?_eq_some_iff.mp hj).1
    rw [hlen] at this
    exact this
  by_cases hc : v.category = 2
  · rcases pm_sto2 hc hj hu with ⟨rfl, rfl⟩ | ⟨h1, h2, h3, h4⟩
    · have hlg : pm_lg u = true := by simp [pm_lg, hc]
      unfold pm_sto
      simp only [hlg, if_true]
      rw [List.getElem?_set_ne (by omega)]
      rw [List.getElem?_set]
      simp only [if_true]
      rw [if_pos]
      cases j with
      | zero => dsimp only; rw [← h.1]; exact hlt
      | succ k => dsimp only; split <;> (try simp) <;> rw [← h.1] <;> exact hlt
    · have hlg : pm_lg v = true := by simp [pm_lg, hc]
      unfold pm_sto
      simp only [hlg, if_true]
      rw [List.getElem?_set_ne (fun z => h2 z.symm), List.getElem?_set_ne (fun z => h1 z.symm)]
      have h5 := h.2 j u h3 hu
      cases i with
      | zero => exact h5
      | succ k =>
        dsimp only
        split
        · rename_i q
          have hjk : j ≠ k := by
            rintro rfl
            rw [List.getD_eq_getElem?_getD, h5] at q
            exact h4 ⟨rfl, by simpa [pm_lg] using q⟩
          rw [List.getElem?_set_ne (fun z => hjk z.symm)]
          exact h5
        · exact h5
  · have hc1 : v.category = 1 := by rcases lv_cat v with q | q; exact q; exact absurd q hc
    have hlg : pm_lg v = false := by simp [pm_lg, hc1]
    rcases pm_sto1 hc1 hj hu with ⟨rfl, rfl⟩ | ⟨h1, h3, h4⟩
    · unfold pm_sto
      simp only [hlg, Bool.false_eq_true, if_false]
      rw [List.getElem?_set]
      simp only [if_true]
      rw [if_pos]
      cases j with
      | zero => dsimp only; rw [← h.1]; exact hlt
      | succ k => dsimp only; split <;> (try simp) <;> rw [← h.1] <;> exact hlt
    · unfold pm_sto
      simp only [hlg, Bool.false_eq_true, if_false]
      rw [List.getElem?_set_ne (fun z => h1 z.symm)]
      have h5 := h.2 j u h3 hu
      cases i with
      | zero => exact h5
      | succ k =>
        dsimp only
        split
        · rename_i q
          have hjk : j ≠ k := by
            rintro rfl
            rw [List.getD_eq_getElem?_getD, h5] at q
            exact h4 ⟨rfl, by simpa [pm_lg] using q⟩
          rw [List.getElem?_set_ne (fun z => hjk z.symm)]
          exact h5
        · exact h5
theorem pm_R_weak {cal : pm_C} {b : ByteArray} {o : Nat} {rt : Option FieldType} {fi : Bool} : ∀ (n pc : Nat) (ls ls' st : List Value) (E : pm_E) (M : pm_M) (z : pm_Z), pm_le ls ls' → pm_R cal b o rt fi n pc ls st E M z → pm_R cal b o rt fi n pc ls' st E M z := by
  intro n
  induction n with
  | zero => intro pc ls ls' st E M z _ h; exact h.elim
  | succ n ih =>
    intro pc ls ls' st E M z hle h
    obtain ⟨i, len, hd, h⟩ := h
    refine ⟨i, len, hd, ?_⟩
    cases i with
    | ifCond cnd off =>
      cases cnd <;> (obtain ⟨hln, x, rest, tgt, hst, ht, ⟨hc1, h⟩ | ⟨hc1, h⟩⟩ := h; (exact ⟨hln, x, rest, tgt, hst, ht, Or.inl ⟨hc1, ih _ _ _ _ _ _ _ hle h⟩⟩); (exact ⟨hln, x, rest, tgt, hst, ht, Or.inr ⟨hc1, ih _ _ _ _ _ _ _ hle h⟩⟩))
    | if_icmp cnd off =>
      cases cnd <;> (obtain ⟨hln, x, y, rest, tgt, hst, ht, ⟨hc1, h⟩ | ⟨hc1, h⟩⟩ := h; (exact ⟨hln, x, y, rest, tgt, hst, ht, Or.inl ⟨hc1, ih _ _ _ _ _ _ _ hle h⟩⟩); (exact ⟨hln, x, y, rest, tgt, hst, ht, Or.inr ⟨hc1, ih _ _ _ _ _ _ _ hle h⟩⟩))
    | iconst n =>
      obtain ⟨e1, rest, e2, h⟩ := h
      exact ⟨e1, rest, e2, ih _ _ _ _ _ _ _ hle h⟩
    | bipush n =>
      obtain ⟨e1, rest, e2, h⟩ := h
      exact ⟨e1, rest, e2, ih _ _ _ _ _ _ _ hle h⟩
    | sipush n =>
      obtain ⟨e1, rest, e2, h⟩ := h
      exact ⟨e1, rest, e2, ih _ _ _ _ _ _ _ hle h⟩
    | lconst n =>
      obtain ⟨e1, rest, e2, h⟩ := h
      exact ⟨e1, rest, e2, ih _ _ _ _ _ _ _ hle h⟩
    | iload i =>
      obtain ⟨e1, x, rest, e2, hl, h⟩ := h
      exact ⟨e1, x, rest, e2, (hle.2 _ _ hl (fun q => by cases q)), ih _ _ _ _ _ _ _ hle h⟩
    | iload_n i =>
      obtain ⟨e1, x, rest, e2, hl, h⟩ := h
      exact ⟨e1, x, rest, e2, (hle.2 _ _ hl (fun q => by cases q)), ih _ _ _ _ _ _ _ hle h⟩
    | istore i =>
      obtain ⟨e1, x, rest, e2, hn, h⟩ := h
      exact ⟨e1, x, rest, e2, (by rw [← hle.1]; exact hn), ih _ _ _ _ _ _ _ (pm_le_sto hle _ _) h⟩
    | istore_n i =>
      obtain ⟨e1, x, rest, e2, hn, h⟩ := h
      exact ⟨e1, x, rest, e2, (by rw [← hle.1]; exact hn), ih _ _ _ _ _ _ _ (pm_le_sto hle _ _) h⟩
    | lload i =>
      obtain ⟨e1, x, rest, e2, hl, h⟩ := h
      exact ⟨e1, x, rest, e2, (hle.2 _ _ hl (fun q => by cases q)), ih _ _ _ _ _ _ _ hle h⟩
    | lload_n i =>
      obtain ⟨e1, x, rest, e2, hl, h⟩ := h
      exact ⟨e1, x, rest, e2, (hle.2 _ _ hl (fun q => by cases q)), ih _ _ _ _ _ _ _ hle h⟩
    | lstore i =>
      obtain ⟨e1, x, rest, e2, hn, h⟩ := h
      exact ⟨e1, x, rest, e2, (by rw [← hle.1]; exact hn), ih _ _ _ _ _ _ _ (pm_le_sto hle _ _) h⟩
    | lstore_n i =>
      obtain ⟨e1, x, rest, e2, hn, h⟩ := h
      exact ⟨e1, x, rest, e2, (by rw [← hle.1]; exact hn), ih _ _ _ _ _ _ _ (pm_le_sto hle _ _) h⟩
    | aload i =>
      obtain ⟨e1, x, rest, e2, hl, h⟩ := h
      exact ⟨e1, x, rest, e2, (hle.2 _ _ hl (fun q => by cases q)), ih _ _ _ _ _ _ _ hle h⟩
    | aload_n i =>
      obtain ⟨e1, x, rest, e2, hl, h⟩ := h
      exact ⟨e1, x, rest, e2, (hle.2 _ _ hl (fun q => by cases q)), ih _ _ _ _ _ _ _ hle h⟩
    | astore i =>
      obtain ⟨e1, x, rest, e2, hn, h⟩ := h
      exact ⟨e1, x, rest, e2, (by rw [← hle.1]; exact hn), ih _ _ _ _ _ _ _ (pm_le_sto hle _ _) h⟩
    | astore_n i =>
      obtain ⟨e1, x, rest, e2, hn, h⟩ := h
      exact ⟨e1, x, rest, e2, (by rw [← hle.1]; exact hn), ih _ _ _ _ _ _ _ (pm_le_sto hle _ _) h⟩
    | iinc i n =>
      obtain ⟨e1, x, rest, e2, hl, hn, h⟩ := h
      exact ⟨e1, x, rest, e2, (hle.2 _ _ hl (fun q => by cases q)), (by rw [← hle.1]; exact hn), ih _ _ _ _ _ _ _ (pm_le_sto hle _ _) h⟩
    | iadd =>
      obtain ⟨e1, x, y, rest, e2, h⟩ := h
      exact ⟨e1, x, y, rest, e2, ih _ _ _ _ _ _ _ hle h⟩
    | isub =>
      obtain ⟨e1, x, y, rest, e2, h⟩ := h
      exact ⟨e1, x, y, rest, e2, ih _ _ _ _ _ _ _ hle h⟩
    | imul =>
      obtain ⟨e1, x, y, rest, e2, h⟩ := h
      exact ⟨e1, x, y, rest, e2, ih _ _ _ _ _ _ _ hle h⟩
    | iand =>
      obtain ⟨e1, x, y, rest, e2, h⟩ := h
      exact ⟨e1, x, y, rest, e2, ih _ _ _ _ _ _ _ hle h⟩
    | ior =>
      obtain ⟨e1, x, y, rest, e2, h⟩ := h
      exact ⟨e1, x, y, rest, e2, ih _ _ _ _ _ _ _ hle h⟩
    | ixor =>
      obtain ⟨e1, x, y, rest, e2, h⟩ := h
      exact ⟨e1, x, y, rest, e2, ih _ _ _ _ _ _ _ hle h⟩
    | ishl =>
      obtain ⟨e1, x, y, rest, e2, h⟩ := h
      exact ⟨e1, x, y, rest, e2, ih _ _ _ _ _ _ _ hle h⟩
    | ishr =>
      obtain ⟨e1, x, y, rest, e2, h⟩ := h
      exact ⟨e1, x, y, rest, e2, ih _ _ _ _ _ _ _ hle h⟩
    | ladd =>
      obtain ⟨e1, x, y, rest, e2, h⟩ := h
      exact ⟨e1, x, y, rest, e2, ih _ _ _ _ _ _ _ hle h⟩
    | lsub =>
      obtain ⟨e1, x, y, rest, e2, h⟩ := h
      exact ⟨e1, x, y, rest, e2, ih _ _ _ _ _ _ _ hle h⟩
    | lmul =>
      obtain ⟨e1, x, y, rest, e2, h⟩ := h
      exact ⟨e1, x, y, rest, e2, ih _ _ _ _ _ _ _ hle h⟩
    | land =>
      obtain ⟨e1, x, y, rest, e2, h⟩ := h
      exact ⟨e1, x, y, rest, e2, ih _ _ _ _ _ _ _ hle h⟩
    | lor =>
      obtain ⟨e1, x, y, rest, e2, h⟩ := h
      exact ⟨e1, x, y, rest, e2, ih _ _ _ _ _ _ _ hle h⟩
    | iushr =>
      obtain ⟨e1, x, y, rest, e2, h⟩ := h
      exact ⟨e1, x, y, rest, e2, ih _ _ _ _ _ _ _ hle h⟩
    | lshl =>
      obtain ⟨e1, x, y, rest, e2, h⟩ := h
      exact ⟨e1, x, y, rest, e2, ih _ _ _ _ _ _ _ hle h⟩
    | lshr =>
      obtain ⟨e1, x, y, rest, e2, h⟩ := h
      exact ⟨e1, x, y, rest, e2, ih _ _ _ _ _ _ _ hle h⟩
    | idiv =>
      obtain ⟨e1, x, y, rest, e2, hne, h⟩ := h
      exact ⟨e1, x, y, rest, e2, hne, ih _ _ _ _ _ _ _ hle h⟩
    | irem =>
      obtain ⟨e1, x, y, rest, e2, hne, h⟩ := h
      exact ⟨e1, x, y, rest, e2, hne, ih _ _ _ _ _ _ _ hle h⟩
    | ldiv =>
      obtain ⟨e1, x, y, rest, e2, hne, h⟩ := h
      exact ⟨e1, x, y, rest, e2, hne, ih _ _ _ _ _ _ _ hle h⟩
    | lrem =>
      obtain ⟨e1, x, y, rest, e2, hne, h⟩ := h
      exact ⟨e1, x, y, rest, e2, hne, ih _ _ _ _ _ _ _ hle h⟩
    | lcmp =>
      obtain ⟨e1, x, y, rest, e2, h⟩ := h
      exact ⟨e1, x, y, rest, e2, ih _ _ _ _ _ _ _ hle h⟩
    | i2l =>
      obtain ⟨e1, x, rest, e2, h⟩ := h
      exact ⟨e1, x, rest, e2, ih _ _ _ _ _ _ _ hle h⟩
    | l2i =>
      obtain ⟨e1, x, rest, e2, h⟩ := h
      exact ⟨e1, x, rest, e2, ih _ _ _ _ _ _ _ hle h⟩
    | i2b =>
      obtain ⟨e1, x, rest, e2, h⟩ := h
      exact ⟨e1, x, rest, e2, ih _ _ _ _ _ _ _ hle h⟩
    | i2s =>
      obtain ⟨e1, x, rest, e2, h⟩ := h
      exact ⟨e1, x, rest, e2, ih _ _ _ _ _ _ _ hle h⟩
    | dup =>
      obtain ⟨e1, x, rest, e2, hc1, h⟩ := h
      exact ⟨e1, x, rest, e2, hc1, ih _ _ _ _ _ _ _ hle h⟩
    | pop =>
      obtain ⟨e1, x, rest, e2, hc1, h⟩ := h
      exact ⟨e1, x, rest, e2, hc1, ih _ _ _ _ _ _ _ hle h⟩
    | pop2 =>
      obtain ⟨e1, x, rest, e2, hc1, h⟩ := h
      exact ⟨e1, x, rest, e2, hc1, ih _ _ _ _ _ _ _ hle h⟩
    | dup2 =>
      obtain ⟨e1, ⟨x, y, rest, e2, hc1, hc2, h⟩ | ⟨x, rest, e3, hc1, h⟩⟩ := h
      · exact ⟨e1, Or.inl ⟨x, y, rest, e2, hc1, hc2, ih _ _ _ _ _ _ _ hle h⟩⟩
      · exact ⟨e1, Or.inr ⟨x, rest, e3, hc1, ih _ _ _ _ _ _ _ hle h⟩⟩
    | goto off =>
      obtain ⟨e1, tgt, ht, h⟩ := h
      exact ⟨e1, tgt, ht, ih _ _ _ _ _ _ _ hle h⟩
    | ifnonnull off =>
      obtain ⟨e1, x, rest, tgt, e2, ht, h⟩ := h
      exact ⟨e1, x, rest, tgt, e2, ht, ih _ _ _ _ _ _ _ hle h⟩
    | tableswitch dflt lo hi offs =>
      obtain ⟨x, rest, tgt, e1, ht, hsz, h⟩ := h
      exact ⟨x, rest, tgt, e1, ht, hsz, ih _ _ _ _ _ _ _ hle h⟩
    | lookupswitch dflt ps =>
      obtain ⟨x, rest, tgt, e1, hp, ht, h⟩ := h
      exact ⟨x, rest, tgt, e1, hp, ht, ih _ _ _ _ _ _ _ hle h⟩
    | ldc ix =>
      obtain ⟨e1, v, hv, h⟩ := h
      exact ⟨e1, v, hv, ih _ _ _ _ _ _ _ hle h⟩
    | ldc_w ix =>
      obtain ⟨e1, v, hv, h⟩ := h
      exact ⟨e1, v, hv, ih _ _ _ _ _ _ _ hle h⟩
    | ldc2_w ix =>
      obtain ⟨e1, v, hv, h⟩ := h
      exact ⟨e1, v, hv, ih _ _ _ _ _ _ _ hle h⟩
    | getfield ix =>
      obtain ⟨e1, ci, kf, kd, fin, a, rest, hf, e2, h1, h2, h⟩ := h
      exact ⟨e1, ci, kf, kd, fin, a, rest, hf, e2, h1, h2, ih _ _ _ _ _ _ _ hle h⟩
    | putfield ix =>
      obtain ⟨e1, ci, kf, kd, fin, a, rest, hf, h1, h2, h3, ⟨x, e2, hk2, h⟩ | ⟨x, e3, hk2, h⟩ | ⟨x, e4, hk2, h⟩⟩ := h
      · exact ⟨e1, ci, kf, kd, fin, a, rest, hf, h1, h2, h3, Or.inl ⟨x, e2, hk2, ih _ _ _ _ _ _ _ hle h⟩⟩
      · exact ⟨e1, ci, kf, kd, fin, a, rest, hf, h1, h2, h3, Or.inr (Or.inl ⟨x, e3, hk2, ih _ _ _ _ _ _ _ hle h⟩)⟩
      · exact ⟨e1, ci, kf, kd, fin, a, rest, hf, h1, h2, h3, Or.inr (Or.inr ⟨x, e4, hk2, ih _ _ _ _ _ _ _ hle h⟩)⟩
    | arraylength =>
      obtain ⟨e1, a, rest, e2, ⟨ha, hq⟩, h⟩ := h
      exact ⟨e1, a, rest, e2, ⟨ha, hq⟩, ih _ _ _ _ _ _ _ hle h⟩
    | iaload =>
      obtain ⟨e1, i, a, rest, e2, ⟨ha, hq⟩, hi, h⟩ := h
      exact ⟨e1, i, a, rest, e2, ⟨ha, hq⟩, hi, ih _ _ _ _ _ _ _ hle h⟩
    | baload =>
      obtain ⟨e1, i, a, rest, e2, ⟨ha, hq⟩, hi, h⟩ := h
      exact ⟨e1, i, a, rest, e2, ⟨ha, hq⟩, hi, ih _ _ _ _ _ _ _ hle h⟩
    | laload =>
      obtain ⟨e1, i, a, rest, e2, ⟨ha, hq⟩, hi, h⟩ := h
      exact ⟨e1, i, a, rest, e2, ⟨ha, hq⟩, hi, ih _ _ _ _ _ _ _ hle h⟩
    | iastore =>
      obtain ⟨e1, x, i, a, rest, e2, ⟨ha, hq⟩, hi, h⟩ := h
      exact ⟨e1, x, i, a, rest, e2, ⟨ha, hq⟩, hi, ih _ _ _ _ _ _ _ hle h⟩
    | bastore =>
      obtain ⟨e1, x, i, a, rest, e2, ⟨ha, hq⟩, hi, hx01, h⟩ := h
      exact ⟨e1, x, i, a, rest, e2, ⟨ha, hq⟩, hi, hx01, ih _ _ _ _ _ _ _ hle h⟩
    | lastore =>
      obtain ⟨e1, x, i, a, rest, e2, ⟨ha, hq⟩, hi, h⟩ := h
      exact ⟨e1, x, i, a, rest, e2, ⟨ha, hq⟩, hi, ih _ _ _ _ _ _ _ hle h⟩
    | aaload =>
      obtain ⟨e1, i, a, rest, e2, ⟨ha, hq1, hq2⟩, hi, h⟩ := h
      exact ⟨e1, i, a, rest, e2, ⟨ha, hq1, hq2⟩, hi, ih _ _ _ _ _ _ _ hle h⟩
    | aastore =>
      obtain ⟨e1, x, i, a, rest, e2, ⟨ha, hq1, hq2⟩, hi, ⟨hx1, hx2⟩, h⟩ := h
      exact ⟨e1, x, i, a, rest, e2, ⟨ha, hq1, hq2⟩, hi, ⟨hx1, hx2⟩, ih _ _ _ _ _ _ _ hle h⟩
    | new ix =>
      obtain ⟨e1, ci, hn, hs4, h⟩ := h
      exact ⟨e1, ci, hn, hs4, ih _ _ _ _ _ _ _ hle h⟩
    | newarray ty =>
      obtain ⟨e1, n, kd, rest, e2, hk, hn, hmx, hs4, h⟩ := h
      exact ⟨e1, n, kd, rest, e2, hk, hn, hmx, hs4, ih _ _ _ _ _ _ _ hle h⟩
    | anewarray ix =>
      obtain ⟨e1, n, kd, rest, e2, hk, hn, hmx, hs4, h⟩ := h
      exact ⟨e1, n, kd, rest, e2, hk, hn, hmx, hs4, ih _ _ _ _ _ _ _ hle h⟩
    | invokevirtual ix =>
      obtain ⟨e1, ⟨y, a, As, rest, r, E1, M1, ht, e2, hl, hcat, ha1, ha2, hcal, h⟩ | ⟨j, rest, ht, hj, e3, hcat, h⟩ | ⟨j, i, rest, ht, hj, e4, hi, hcat, h⟩⟩ := h
      · exact ⟨e1, Or.inl ⟨y, a, As, rest, r, E1, M1, ht, e2, hl, hcat, ha1, ha2, hcal, ih _ _ _ _ _ _ _ hle h⟩⟩
      · exact ⟨e1, Or.inr (Or.inl ⟨j, rest, ht, hj, e3, hcat, ih _ _ _ _ _ _ _ hle h⟩)⟩
      · exact ⟨e1, Or.inr (Or.inr ⟨j, i, rest, ht, hj, e4, hi, hcat, ih _ _ _ _ _ _ _ hle h⟩)⟩
    | invokestatic ix =>
      obtain ⟨e1, ⟨y, As, rest, r, E1, M1, ht, e2, hl, hcat, hcal, h⟩ | ⟨a, c2, sp, dp, n2, rest, ht, e3, ha1, hc1, hka, hkc, g1, g2, g3, g4, g5, hcat, h⟩⟩ := h
      · exact ⟨e1, Or.inl ⟨y, As, rest, r, E1, M1, ht, e2, hl, hcat, hcal, ih _ _ _ _ _ _ _ hle h⟩⟩
      · exact ⟨e1, Or.inr ⟨a, c2, sp, dp, n2, rest, ht, e3, ha1, hc1, hka, hkc, g1, g2, g3, g4, g5, hcat, ih _ _ _ _ _ _ _ hle h⟩⟩
    | invokespecial ix =>
      obtain ⟨e1, ⟨y, a, As, rest, r, E1, M1, ht, e2, hl, hcat, hcal, h⟩ | ⟨a, rest, ht, e3, hcat, h⟩⟩ := h
      · exact ⟨e1, Or.inl ⟨y, a, As, rest, r, E1, M1, ht, e2, hl, hcat, hcal, ih _ _ _ _ _ _ _ hle h⟩⟩
      · exact ⟨e1, Or.inr ⟨a, rest, ht, e3, hcat, ih _ _ _ _ _ _ _ hle h⟩⟩
    | ireturn =>
      exact h
    | lreturn =>
      exact h
    | return_ =>
      exact h
    | _ => exact h.elim
theorem pm_weak {cal : pm_C} {b : ByteArray} {o : Nat} {rt : Option FieldType} {fi : Bool} {pc : Nat} {ls' st : List Value} {E : pm_E} {M : pm_M} {Q : Option Value → pm_E → pm_M → Prop} (ls : List Value) (hle : pm_le ls ls') (h : pm_wp cal b o rt fi pc ls st E M Q) : pm_wp cal b o rt fi pc ls' st E M Q := by
  obtain ⟨n, res, h, q⟩ := h
  exact ⟨n, res, pm_R_weak _ _ _ _ _ _ _ _ hle h, q⟩
