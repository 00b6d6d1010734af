/-! what a run of the reference's codes means -/
def evG (w c : Nat → Int32) (a : Nat) : Nat → List Int32 → Option (List Int32)
  | 0, st => some st
  | m + 1, st => (evG w c a m st).bind (evS w (c (a + m)))
theorem evG_L {w c : Nat → Int32} {a : Nat} : ∀ m, evL w (fun k => c (a + k)) m = evG w c a m [] := by
  intro m
  induction m with
  | zero => rfl
  | succ m ih => unfold evL evG; rw [ih]
theorem evG_add {w c : Nat → Int32} {a m : Nat} {st : List Int32} : ∀ k, evG w c a (m + k) st = (evG w c a m st).bind (evG w c (a + m) k) := by
  intro k
  induction k with
  | zero =>
    show evG w c a m st = _
    cases evG w c a m st <;> rfl
  | succ k ih =>
    show (evG w c a (m + k) st).bind (evS w (c (a + (m + k)))) = _
    rw [ih, show a + (m + k) = a + m + k by omega]
    cases evG w c a m st <;> rfl
theorem evG_congr {w c c' : Nat → Int32} {a m : Nat} {st : List Int32} (h : ∀ k, a ≤ k → k < a + m → c' k = c k) : evG w c' a m st = evG w c a m st := by
  induction m with
  | zero => rfl
  | succ m ih =>
    unfold evG
    rw [ih (fun k h1 h2 => h k h1 (by omega)), h (a + m) (by omega) (by omega)]
/-- codes a .. b leave D on the stack -/
def mnM (c : Nat → Int32) (a b : Nat) (D : (Nat → Int32) → Int32) : Prop := a ≤ b ∧ ∀ w st, evG w c a (b - a) st = some (D w :: st)
theorem mnM_congr {c c' : Nat → Int32} {a b : Nat} {D : (Nat → Int32) → Int32} (h : mnM c a b D) (hc : ∀ k, a ≤ k → k < b → c' k = c k) : mnM c' a b D :=
  ⟨h.1, fun w st => by have := h.1; rw [evG_congr (fun k h1 h2 => hc k h1 (by omega))]; exact h.2 w st⟩
theorem mnM_one {c : Nat → Int32} {a : Nat} {D : (Nat → Int32) → Int32} (h : ∀ w st, evS w (c a) st = some (D w :: st)) : mnM c a (a + 1) D :=
  ⟨by omega, fun w st => by rw [show a + 1 - a = 0 + 1 by omega]; exact h w st⟩
theorem mnM_bin {c : Nat → Int32} {a b e : Nat} {k : Int32} {D E : (Nat → Int32) → Int32} (h1 : mnM c a b D) (h2 : mnM c b e E) (hc : c e = k) (h3 : 3000 ≤ k) (h6 : k ≠ 3006) (h9 : k ≠ 3009) : mnM c a (e + 1) (fun w => btw k (D w) (E w)) := by
  obtain ⟨l1, g1⟩ := h1
  obtain ⟨l2, g2⟩ := h2
  refine ⟨by omega, fun w st => ?_⟩
  rw [show e + 1 - a = (b - a) + (e - b) + 1 by omega]
  show (evG w c a ((b - a) + (e - b)) st).bind _ = _
  rw [evG_add, g1 w st, show a + (b - a) = b by omega, show a + (b - a + (e - b)) = e by omega]
  show (evG w c b (e - b) (D w :: st)).bind _ = _
  rw [g2 w, hc]
  show evS w k (E w :: D w :: st) = _
  unfold evS
  rw [if_neg (by grind), if_neg h6, if_neg h9]
theorem mnM_not {c : Nat → Int32} {a b : Nat} {D : (Nat → Int32) → Int32} (h1 : mnM c a b D) (hc : c b = 3006) : mnM c a (b + 1) (fun w => 1 - D w) := by
  obtain ⟨l1, g1⟩ := h1
  refine ⟨by omega, fun w st => ?_⟩
  rw [show b + 1 - a = (b - a) + 1 by omega]
  show (evG w c a (b - a) st).bind _ = _
  rw [g1 w st, show a + (b - a) = b by omega, hc]
  show evS w 3006 (D w :: st) = _
  unfold evS
  rw [if_neg (by decide), if_pos rfl]
theorem mnM_if {c : Nat → Int32} {a b e f : Nat} {D E F : (Nat → Int32) → Int32} (h1 : mnM c a b D) (h2 : mnM c b e E) (h3 : mnM c e f F) (hc : c f = 3009) : mnM c a (f + 1) (fun w => if D w = 1 then E w else F w) := by
  obtain ⟨l1, g1⟩ := h1
  obtain ⟨l2, g2⟩ := h2
  obtain ⟨l3, g3⟩ := h3
  refine ⟨by omega, fun w st => ?_⟩
  rw [show f + 1 - a = (b - a) + ((e - b) + (f - e)) + 1 by omega]
  show (evG w c a ((b - a) + ((e - b) + (f - e))) st).bind _ = _
  rw [evG_add, g1 w st, show a + (b - a) = b by omega, show a + (b - a + (e - b + (f - e))) = f by omega]
  show (evG w c b ((e - b) + (f - e)) (D w :: st)).bind _ = _
  rw [evG_add, g2 w, show b + (e - b) = e by omega]
  show (evG w c e (f - e) (E w :: D w :: st)).bind _ = _
  rw [g3 w, hc]
  show evS w 3009 (F w :: E w :: D w :: st) = _
  unfold evS
  rw [if_neg (by decide), if_neg (by decide), if_pos rfl]
