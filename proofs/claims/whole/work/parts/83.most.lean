/-! the greatest of some -/
def mxS (v : Nat → Option Int32) (t : Nat) (b : Int32) : Int32 := match v t with
  | none => b
  | some x => if x ≤ b then b else x
theorem mxS_ge {v : Nat → Option Int32} {t : Nat} {b : Int32} : b ≤ mxS v t b := by
  unfold mxS
  cases v t with
  | none => dsimp only; grind
  | some x => dsimp only; grind
theorem i_tr {a b c : Int32} (h1 : a ≤ b) (h2 : b ≤ c) : a ≤ c := by grind
theorem mx_0 {v : Nat → Option Int32} {n : Nat} {b : Int32} : b ≤ itr (mxS v) n b := by
  induction n with
  | zero => rw [itr_0]; grind
  | succ n ih => rw [itr_s]; exact i_tr ih mxS_ge
theorem mx_t {v : Nat → Option Int32} {n t : Nat} {b x : Int32} (ht : t < n) (hv : v t = some x) : x ≤ itr (mxS v) n b := by
  induction n with
  | zero => omega
  | succ n ih =>
    rw [itr_s]
    by_cases e : t = n
    · subst e
      generalize itr (mxS v) t b = y
      unfold mxS
      rw [hv]
      dsimp only
      grind
    · exact i_tr (ih (by omega)) mxS_ge
theorem mx_in {v : Nat → Option Int32} {n : Nat} {b : Int32} : itr (mxS v) n b = b ∨ ∃ t, t < n ∧ v t = some (itr (mxS v) n b) := by
  induction n with
  | zero => exact Or.inl rfl
  | succ n ih =>
    rw [itr_s]
    have key : mxS v n (itr (mxS v) n b) = itr (mxS v) n b ∨ v n = some (mxS v n (itr (mxS v) n b)) := by
      generalize itr (mxS v) n b = y
      unfold mxS
      cases e : v n with
      | none => exact Or.inl rfl
      | some x =>
        dsimp only
        by_cases c : x ≤ y
        · rw [if_pos c]; exact Or.inl rfl
        · rw [if_neg c]; exact Or.inr rfl
    rcases key with k | k
    · rw [k]
      rcases ih with h | ⟨t, h1, h2⟩
      · exact Or.inl h
      · exact Or.inr ⟨t, by omega, h2⟩
    · exact Or.inr ⟨n, by omega, k⟩
theorem bt_test {S m : Nat} : bt S m = S.testBit m := by
  unfold bt
  rw [Nat.testBit_eq_decide_div_mod_eq]
theorem bt_or {S t u : Nat} : bt (S ||| 2 ^ t) u = (bt S u || decide (t = u)) := by
  rw [bt_test, bt_test, Nat.testBit_or, Nat.testBit_two_pow]
/-! who is given what -/
def vaM (c : Nat → Nat → Int32) (T k p S : Nat) (a : Nat → Option Nat) : Prop := (∀ i t, i < k → a i = some t → t < T ∧ bt S t = false ∧ 0 < c (p + i) t) ∧ ∀ i j t, i < k → j < k → a i = some t → a j = some t → i = j
def szM (k : Nat) (a : Nat → Option Nat) : Nat := itr (fun i n => n + if (a i).isSome then 1 else 0) k 0
theorem szM_s {k : Nat} {a : Nat → Option Nat} : szM (k + 1) a = szM k (fun i => a (i + 1)) + if (a 0).isSome then 1 else 0 := by
  induction k with
  | zero => show 0 + _ = 0 + _; rfl
  | succ k ih =>
    have e : szM (k + 1 + 1) a = szM (k + 1) a + if (a (k + 1)).isSome then 1 else 0 := rfl
    have e2 : szM (k + 1) (fun i => a (i + 1)) = szM k (fun i => a (i + 1)) + if (a (k + 1)).isSome then 1 else 0 := rfl
    rw [e, ih, e2]
    omega
theorem szM_le {k : Nat} {a : Nat → Option Nat} : szM k a ≤ k := by
  induction k with
  | zero => exact Nat.le_refl _
  | succ k ih =>
    have e : szM (k + 1) a = szM k a + if (a k).isSome then 1 else 0 := rfl
    rw [e]
    split <;> omega
def cons (x : Option Nat) (a : Nat → Option Nat) : Nat → Option Nat := fun i => match i with
  | 0 => x
  | j + 1 => a j
theorem vaM_none {c : Nat → Nat → Int32} {T k p S : Nat} {a : Nat → Option Nat} (h : vaM c T k (p + 1) S a) : vaM c T (k + 1) p S (cons none a) := by
  constructor
  · intro i t hi e
    cases i with
    | zero => cases e
    | succ i =>
      have := h.1 i t (by omega) e
      rw [show p + (i + 1) = p + 1 + i by omega]; exact this
  · intro i j t hi hj e1 e2
    cases i with
    | zero => cases e1
    | succ i =>
      cases j with
      | zero => cases e2
      | succ j => rw [h.2 i j t (by omega) (by omega) e1 e2]
theorem vaM_some {c : Nat → Nat → Int32} {T k p S u : Nat} {a : Nat → Option Nat} (hu : u < T) (hb : bt S u = false) (hc : 0 < c p u) (h : vaM c T k (p + 1) (S ||| 2 ^ u) a) : vaM c T (k + 1) p S (cons (some u) a) := by
  have no : ∀ i, i < k → a i ≠ some u := by
    intro i hi e
    have := (h.1 i u hi e).2.1
    rw [bt_or] at this
    simp at this
  constructor
  · intro i t hi e
    cases i with
    | zero => cases e; exact ⟨hu, hb, hc⟩
    | succ i =>
      have := h.1 i t (by omega) e
      rw [bt_or] at this
      simp only [Bool.or_eq_false_iff] at this
      rw [show p + (i + 1) = p + 1 + i by omega]
      exact ⟨this.1, this.2.1.1, this.2.2⟩
  · intro i j t hi hj e1 e2
    cases i with
    | zero =>
      cases j with
      | zero => rfl
      | succ j => cases e1; exact absurd e2 (no j (by omega))
    | succ i =>
      cases j with
      | zero => cases e2; exact absurd e1 (no i (by omega))
      | succ j => rw [h.2 i j t (by omega) (by omega) e1 e2]
theorem vaM_tail0 {c : Nat → Nat → Int32} {T k p S : Nat} {a : Nat → Option Nat} (h : vaM c T (k + 1) p S a) (h0 : a 0 = none) : vaM c T k (p + 1) S (fun i => a (i + 1)) := by
  refine ⟨fun i t hi e => ?_, fun i j t hi hj e1 e2 => by have := h.2 (i + 1) (j + 1) t (by omega) (by omega) e1 e2; omega⟩
  have := h.1 (i + 1) t (by omega) e
  rw [show p + 1 + i = p + (i + 1) by omega]; exact this
theorem vaM_tail1 {c : Nat → Nat → Int32} {T k p S u : Nat} {a : Nat → Option Nat} (h : vaM c T (k + 1) p S a) (h0 : a 0 = some u) : vaM c T k (p + 1) (S ||| 2 ^ u) (fun i => a (i + 1)) := by
  refine ⟨fun i t hi e => ?_, fun i j t hi hj e1 e2 => by have := h.2 (i + 1) (j + 1) t (by omega) (by omega) e1 e2; omega⟩
  have := h.1 (i + 1) t (by omega) e
  rw [show p + 1 + i = p + (i + 1) by omega]
  refine ⟨this.1, ?_, this.2.2⟩
  rw [bt_or, this.2.1]
  simp only [Bool.false_or, decide_eq_false_iff_not]
  intro q
  subst q
  have := h.2 0 (i + 1) u (by omega) (by omega) h0 e
  omega
