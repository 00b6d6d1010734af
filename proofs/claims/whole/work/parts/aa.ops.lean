/-! the class's joints are the reference's -/
def clI (v : Int64) : Int32 := if v ≤ 1000000 then (if (-1000000) ≤ v then v.toInt32 else (-1000000)) else 1000000
theorem clm (v : Int64) : clI v = (if v ≤ 1000000 then (if (-1000000) ≤ v then v else (-1000000)) else 1000000 : Int64).toInt32 := by
  unfold clI
  split
  · split
    · rfl
    · rfl
  · rfl
theorem clI_0 : clI 0 = 0 := by decide
theorem clI_1 : clI 1 = 1 := by decide
theorem le64 {a b : Int32} : a.toInt64 ≤ b.toInt64 ↔ a ≤ b := by
  rw [Int64.le_iff_toInt_le, Int32.le_iff_toInt_le, Int32.toInt_toInt64, Int32.toInt_toInt64]
theorem eq64 {a b : Int32} : a.toInt64 = b.toInt64 ↔ a = b := by
  refine ⟨fun h => ?_, fun h => by rw [h]⟩
  have h1 := le64.1 (Int64.le_of_eq h)
  have h2 := le64.1 (Int64.le_of_eq h.symm)
  exact Int32.le_antisymm h1 h2
theorem bj_2 {a b : Int32} : bj 2 a b = btw 3000 a b := clm (a.toInt64 + b.toInt64)
theorem bj_3 {a b : Int32} : bj 3 a b = btw 3001 a b := clm (a.toInt64 - b.toInt64)
theorem bj_4 {a b : Int32} : bj 4 a b = btw 3002 a b := clm (a.toInt64 * b.toInt64)
theorem bj_5 {a b : Int32} : bj 5 a b = btw 3003 a b := by
  have e1 : bj 5 a b = clI (if a.toInt64 = b.toInt64 then 1 else 0) := rfl
  have e2 : btw 3003 a b = if a = b then 1 else 0 := rfl
  rw [e1, e2]
  by_cases c : a = b
  · rw [if_pos c, if_pos (eq64.2 c), clI_1]
  · rw [if_neg c, if_neg (fun h => c (eq64.1 h)), clI_0]
theorem bj_6 {a b : Int32} : bj 6 a b = btw 3004 a b := by
  have e1 : bj 6 a b = clI (if b.toInt64 ≤ a.toInt64 then 0 else 1) := rfl
  have e2 : btw 3004 a b = if a < b then 1 else 0 := rfl
  rw [e1, e2]
  by_cases c : a < b
  · rw [if_pos c, if_neg (fun h => absurd (le64.1 h) (Int32.not_le.2 c)), clI_1]
  · rw [if_neg c, if_pos (le64.2 (Int32.not_lt.1 c)), clI_0]
theorem bj_7 {a b : Int32} : bj 7 a b = btw 3005 a b := by
  have e1 : bj 7 a b = clI (if a.toInt64 ≤ b.toInt64 then 0 else 1) := rfl
  have e2 : btw 3005 a b = if b < a then 1 else 0 := rfl
  rw [e1, e2]
  by_cases c : b < a
  · rw [if_pos c, if_neg (fun h => absurd (le64.1 h) (Int32.not_le.2 c)), clI_1]
  · rw [if_neg c, if_pos (le64.2 (Int32.not_lt.1 c)), clI_0]
theorem bj_8 {a b : Int32} (ha : a = 0 ∨ a = 1) (hb : b = 0 ∨ b = 1) : bj 8 a b = btw 3007 a b ∧ (btw 3007 a b = 0 ∨ btw 3007 a b = 1) := by
  rcases ha with rfl | rfl <;> rcases hb with rfl | rfl <;> decide
theorem bj_9 {a b : Int32} (ha : a = 0 ∨ a = 1) (hb : b = 0 ∨ b = 1) : bj 9 a b = btw 3008 a b ∧ (btw 3008 a b = 0 ∨ btw 3008 a b = 1) := by
  rcases ha with rfl | rfl <;> rcases hb with rfl | rfl <;> decide
theorem no_01 {a : Int32} (ha : a = 0 ∨ a = 1) : 1 - a = 0 ∨ 1 - a = 1 := by
  rcases ha with rfl | rfl <;> decide
