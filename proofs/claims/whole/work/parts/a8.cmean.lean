/-! what a run of the class's steps means -/
theorem cR_app {c w : Nat → Int32} {to m : Nat} : ∀ k x, cR c w to (k + m) x = (cR c w to k x).bind (cR c w to m) := by
  intro k
  induction k with
  | zero => intro x; rw [Nat.zero_add]; rfl
  | succ k ih =>
    intro x
    rw [show k + 1 + m = (k + m) + 1 by omega]
    show (cS c w to x).bind (cR c w to (k + m)) = ((cS c w to x).bind (cR c w to k)).bind (cR c w to m)
    cases cS c w to x with
    | none => rfl
    | some y => exact ih y
/-- steps a .. b leave D on the stack, if there is room for q more -/
def mnC (c : Nat → Int32) (a b q : Nat) (D : (Nat → Int32) → Int32) : Prop := a ≤ b ∧ ∀ w st to, b ≤ to → st.length + q ≤ 64 → ∃ n, n ≤ b - a ∧ cR c w to n (a, st) = some (b, D w :: st)
theorem mnC_one {c : Nat → Int32} {a q : Nat} {D : (Nat → Int32) → Int32} (hq : 1 ≤ q) (h : ∀ w st to, a < to → st.length < 64 → cS c w to (a, st) = some (a + 1, D w :: st)) : mnC c a (a + 1) q D :=
  ⟨by omega, fun w st to ht hs => ⟨1, by omega, by
    show (cS c w to (a, st)).bind (cR c w to 0) = _
    rw [h w st to (by omega) (by omega)]; rfl⟩⟩
theorem mnC_mo {c : Nat → Int32} {a b q r : Nat} {D : (Nat → Int32) → Int32} (h : mnC c a b q D) (hr : q ≤ r) : mnC c a b r D :=
  ⟨h.1, fun w st to ht hs => h.2 w st to ht (by omega)⟩
theorem mnC_bin {c : Nat → Int32} {a b e p q r : Nat} {k : Int32} {D E F : (Nat → Int32) → Int32} (h1 : mnC c a b p D) (h2 : mnC c b e q E) (hp : p ≤ r) (hq : q + 1 ≤ r) (hc : c e &&& 15 = k) (hk : 1 < k) (h10 : k ≠ 10) (h11 : k ≠ 11) (h12 : k ≠ 12) (hF : ∀ w, bj k (D w) (E w) = F w) : mnC c a (e + 1) r F := by
  obtain ⟨l1, g1⟩ := h1
  obtain ⟨l2, g2⟩ := h2
  refine ⟨by omega, fun w st to ht hs => ?_⟩
  obtain ⟨n1, b1, r1⟩ := g1 w st to (by omega) (by omega)
  obtain ⟨n2, b2, r2⟩ := g2 w (D w :: st) to (by omega) (by simp only [List.length_cons]; omega)
  refine ⟨n1 + (n2 + 1), by omega, ?_⟩
  rw [cR_app, r1]
  show cR c w to (n2 + 1) (b, D w :: st) = _
  rw [cR_app, r2]
  show (cS c w to (e, E w :: D w :: st)).bind (cR c w to 0) = _
  have : cS c w to (e, E w :: D w :: st) = some (e + 1, F w :: st) := by
    unfold cS
    rw [if_pos (show e < to by omega)]
    simp only [hc]
    rw [if_neg h11, if_neg (by grind), if_neg (by grind), if_neg h12, if_neg h10, if_pos hk, hF]
  rw [this]
  rfl
theorem mnC_not {c : Nat → Int32} {a b q : Nat} {D : (Nat → Int32) → Int32} (h1 : mnC c a b q D) (hc : c b &&& 15 = 10) : mnC c a (b + 1) q (fun w => 1 - D w) := by
  obtain ⟨l1, g1⟩ := h1
  refine ⟨by omega, fun w st to ht hs => ?_⟩
  obtain ⟨n1, b1, r1⟩ := g1 w st to (by omega) (by omega)
  refine ⟨n1 + 1, by omega, ?_⟩
  rw [cR_app, r1]
  show (cS c w to (b, D w :: st)).bind (cR c w to 0) = _
  have : cS c w to (b, D w :: st) = some (b + 1, (1 - D w) :: st) := by
    unfold cS
    rw [if_pos (show b < to by omega)]
    simp only [hc]
    rw [if_neg (by decide), if_neg (by decide), if_neg (by decide), if_neg (by decide), if_pos trivial]
  rw [this]
  rfl
/-- a choice: truth a..b, skip-unless at b aims behind the skip at e, which aims at f -/
theorem mnC_if {c : Nat → Int32} {a b e f p q r t : Nat} {D E F : (Nat → Int32) → Int32} (h1 : mnC c a b p D) (h2 : mnC c (b + 1) e q E) (h3 : mnC c (e + 1) f r F) (hp : p ≤ t) (hq : q ≤ t) (hr : r ≤ t) (hf : f < 2 ^ 26)
    (c1 : c b &&& 15 = 12) (c2 : c b >>> ((4 : Int32) &&& 31) = nI (e + 1)) (c3 : c e &&& 15 = 11) (c4 : c e >>> ((4 : Int32) &&& 31) = nI f) (hD : ∀ w, D w = 0 ∨ D w = 1) : mnC c a f t (fun w => if D w = 1 then E w else F w) := by
  obtain ⟨l1, g1⟩ := h1
  obtain ⟨l2, g2⟩ := h2
  obtain ⟨l3, g3⟩ := h3
  refine ⟨by omega, fun w st to ht hs => ?_⟩
  obtain ⟨n1, b1, r1⟩ := g1 w st to (by omega) (by omega)
  have s1 : cS c w to (b, D w :: st) = some (if D w = 0 then e + 1 else b + 1, st) := by
    unfold cS
    rw [if_pos (show b < to by omega)]
    simp only [c1, c2]
    rw [if_neg (by decide), if_neg (by decide), if_neg (by decide), if_pos trivial, if_neg (nI_pos (by omega)), nI_clamp (by omega)]
  rcases hD w with z | z
  · obtain ⟨n3, b3, r3⟩ := g3 w st to ht (by omega)
    refine ⟨n1 + (1 + n3), by omega, ?_⟩
    rw [cR_app, r1]
    show cR c w to (1 + n3) (b, D w :: st) = _
    rw [cR_app]
    show ((cS c w to (b, D w :: st)).bind (cR c w to 0)).bind _ = _
    rw [s1, if_pos z]
    show cR c w to n3 (e + 1, st) = _
    have ez : (if D w = 1 then E w else F w) = F w := if_neg (by rw [z]; decide)
    rw [r3, ← ez]
  · obtain ⟨n2, b2, r2⟩ := g2 w st to (by omega) (by omega)
    have s2 : cS c w to (e, E w :: st) = some (f, E w :: st) := by
      unfold cS
      rw [if_pos (show e < to by omega)]
      simp only [c3, c4]
      rw [if_pos trivial, if_neg (nI_pos (by omega)), nI_clamp (by omega)]
    refine ⟨n1 + (1 + (n2 + 1)), by omega, ?_⟩
    rw [cR_app, r1]
    show cR c w to (1 + (n2 + 1)) (b, D w :: st) = _
    rw [cR_app]
    show ((cS c w to (b, D w :: st)).bind (cR c w to 0)).bind _ = _
    rw [s1, if_neg (by rw [z]; decide)]
    show cR c w to (n2 + 1) (b + 1, st) = _
    rw [cR_app, r2]
    show (cS c w to (e, E w :: st)).bind (cR c w to 0) = _
    have ez : (if D w = 1 then E w else F w) = E w := if_pos z
    rw [s2, ← ez]
    rfl
