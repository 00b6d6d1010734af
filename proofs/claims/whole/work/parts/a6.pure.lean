/-! the laws' parser, pure: a state and what the part is worth -/
abbrev PS := Sum (Nat × Nat) Nat
abbrev PR := PS × ((Nat → Int32) → Int32)
def faW (o : Bool) (k : Nat) : Option Nat :=
  if k = 212 then some 0 else if k = 209 then some 1 else if k = 201 then some 2 else if k = 207 then some 3 else if k = 208 then some 4
  else if k = 205 ∧ o = true then some 5 else if k = 213 ∧ o = true then some 6 else none
def zeF : (Nat → Int32) → Int32 := fun _ => 0
/-- a number, a word, a sum in brackets, a choice; r: how many more may be opened -/
def atF (B : Nat → Nat) (n : Nat) (o : Bool) (r : Nat) (sm tr : PS → PR) (x : PS) : PR :=
  if kiF B n x = 128 then (nxF B n x, fun _ => nI (vaF B n x))
  else match faW o (kiF B n x) with
  | some j => (nxF B n x, fun w => w j)
  | none =>
    if kiF B n x = 40 then (if r = 0 then (faF B n 4 x, zeF) else (exF B n 41 (sm (nxF B n x)).1, (sm (nxF B n x)).2))
    else if kiF B n x = 214 then (if r = 0 then (faF B n 4 x, zeF) else
      (exF B n 217 (sm (exF B n 216 (sm (exF B n 215 (tr (nxF B n x)).1)).1)).1, fun w => if (tr (nxF B n x)).2 w = 1 then (sm (exF B n 215 (tr (nxF B n x)).1)).2 w else (sm (exF B n 216 (sm (exF B n 215 (tr (nxF B n x)).1)).1)).2 w))
    else (faF B n 2 x, zeF)
/-- parts joined by operations of one rank -/
def lpF (B : Nat → Nat) (n : Nat) (ops : Nat → Option Int32) (a : PS → PR) : Nat → PR → PR
  | 0, y => y
  | f + 1, y => match ops (kiF B n y.1) with
    | some c => lpF B n ops a f ((a (nxF B n y.1)).1, fun w => btw c (y.2 w) ((a (nxF B n y.1)).2 w))
    | none => y
def opT (k : Nat) : Option Int32 := if k = 42 then some 3002 else none
def opS (k : Nat) : Option Int32 := if k = 43 then some 3000 else if k = 45 then some 3001 else none
def opA (k : Nat) : Option Int32 := if k = 219 then some 3007 else none
def opO (k : Nat) : Option Int32 := if k = 220 then some 3008 else none
def opC (k : Nat) : Option Int32 := if k = 61 then some 3003 else if k = 60 then some 3004 else if k = 62 then some 3005 else none
def teF (B : Nat → Nat) (n : Nat) (o : Bool) (r : Nat) (sm tr : PS → PR) (x : PS) : PR := lpF B n opT (atF B n o r sm tr) 900 (atF B n o r sm tr x)
def suF (B : Nat → Nat) (n : Nat) (o : Bool) (r : Nat) (sm tr : PS → PR) (x : PS) : PR := lpF B n opS (teF B n o r sm tr) 900 (teF B n o r sm tr x)
def unF (B : Nat → Nat) (n : Nat) (o : Bool) (r : Nat) (sm tr un : PS → PR) (x : PS) : PR :=
  if kiF B n x = 218 then (if r = 0 then (faF B n 4 x, zeF) else ((un (nxF B n x)).1, fun w => 1 - (un (nxF B n x)).2 w))
  else if kiF B n x = 91 then (if r = 0 then (faF B n 4 x, zeF) else (exF B n 93 (tr (nxF B n x)).1, (tr (nxF B n x)).2))
  else match opC (kiF B n (suF B n o r sm tr x).1) with
  | some c => ((suF B n o r sm tr (nxF B n (suF B n o r sm tr x).1)).1, fun w => btw c ((suF B n o r sm tr x).2 w) ((suF B n o r sm tr (nxF B n (suF B n o r sm tr x).1)).2 w))
  | none => (faF B n 2 (suF B n o r sm tr x).1, zeF)
def boF (B : Nat → Nat) (n : Nat) (o : Bool) (r : Nat) (sm tr un : PS → PR) (x : PS) : PR := lpF B n opA (unF B n o r sm tr un) 900 (unF B n o r sm tr un x)
def tuF (B : Nat → Nat) (n : Nat) (o : Bool) (r : Nat) (sm tr un : PS → PR) (x : PS) : PR := lpF B n opO (boF B n o r sm tr un) 900 (boF B n o r sm tr un x)
/-- sum, truth, unit with r more to open -/
def levF (B : Nat → Nat) (n : Nat) (o : Bool) : Nat → (PS → PR) × (PS → PR) × (PS → PR)
  | 0 => (suF B n o 0 (fun x => (x, zeF)) (fun x => (x, zeF)), tuF B n o 0 (fun x => (x, zeF)) (fun x => (x, zeF)) (fun x => (x, zeF)), unF B n o 0 (fun x => (x, zeF)) (fun x => (x, zeF)) (fun x => (x, zeF)))
  | r + 1 => (suF B n o (r + 1) (levF B n o r).1 (levF B n o r).2.1, tuF B n o (r + 1) (levF B n o r).1 (levF B n o r).2.1 (levF B n o r).2.2, unF B n o (r + 1) (levF B n o r).1 (levF B n o r).2.1 (levF B n o r).2.2)
/-! behind a fault all stays -/
theorem faW_131 {o : Bool} : faW o 131 = none := by cases o <;> decide
theorem at_dead {B : Nat → Nat} {n r : Nat} {o : Bool} {sm tr : PS → PR} {f : Nat × Nat} : (atF B n o r sm tr (.inl f)).1 = .inl f := by
  unfold atF
  have e : kiF B n (.inl f) = 131 := rfl
  rw [e, if_neg (by decide), faW_131]
  simp only [if_neg (show ¬ 131 = 40 by decide), if_neg (show ¬ 131 = 214 by decide)]
  rfl
theorem lp_dead {B : Nat → Nat} {n k : Nat} {ops : Nat → Option Int32} {a : PS → PR} {y : PR} {f : Nat × Nat} (h : ops 131 = none) (hy : y.1 = .inl f) : (lpF B n ops a k y).1 = .inl f := by
  cases k with
  | zero => exact hy
  | succ k =>
    unfold lpF
    rw [hy, show kiF B n (.inl f) = 131 from rfl, h]
    exact hy
theorem te_dead {B : Nat → Nat} {n r : Nat} {o : Bool} {sm tr : PS → PR} {f : Nat × Nat} : (teF B n o r sm tr (.inl f)).1 = .inl f := lp_dead rfl at_dead
theorem su_dead {B : Nat → Nat} {n r : Nat} {o : Bool} {sm tr : PS → PR} {f : Nat × Nat} : (suF B n o r sm tr (.inl f)).1 = .inl f := lp_dead rfl te_dead
theorem un_dead {B : Nat → Nat} {n r : Nat} {o : Bool} {sm tr un : PS → PR} {f : Nat × Nat} : (unF B n o r sm tr un (.inl f)).1 = .inl f := by
  unfold unF
  have e : kiF B n (.inl f) = 131 := rfl
  rw [e, if_neg (by decide), if_neg (by decide), su_dead, e]
  rfl
theorem bo_dead {B : Nat → Nat} {n r : Nat} {o : Bool} {sm tr un : PS → PR} {f : Nat × Nat} : (boF B n o r sm tr un (.inl f)).1 = .inl f := lp_dead rfl un_dead
theorem tr_dead {B : Nat → Nat} {n r : Nat} {o : Bool} {sm tr un : PS → PR} {f : Nat × Nat} : (tuF B n o r sm tr un (.inl f)).1 = .inl f := lp_dead rfl bo_dead
