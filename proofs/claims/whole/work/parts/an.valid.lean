/-! lines, pure: what they keep to -/
theorem inl_ne {x : PS} {p : Nat} (h : ∀ q, x ≠ .inr q) (e : x = .inr p) : False := h p e
theorem thL_dead {B : Nat → Nat} {n t f : Nat} {y : PS × RW} (h : ∀ q, y.1 ≠ .inr q) : thL B n t f y = y := by
  cases f with
  | zero => rfl
  | succ f =>
    have e : kiF B n y.1 = 131 := by
      cases e : y.1 with
      | inl g => rfl
      | inr p => exact absurd e (h p)
    unfold thL
    rw [e, if_neg (by decide), if_neg (by decide)]
theorem peL_dead {B : Nat → Nat} {n T p f : Nat} {y : PS × RW} (h : ∀ q, y.1 ≠ .inr q) : peL B n T p f y = y := by
  cases f with
  | zero => rfl
  | succ f =>
    have e : kiF B n y.1 = 131 := by
      cases e : y.1 with
      | inl g => rfl
      | inr p => exact absurd e (h p)
    unfold peL
    rw [e, if_neg (by decide)]
theorem al_or {x : PS} : (∃ p, x = .inr p) ∨ ∀ q, x ≠ .inr q := by
  cases x with
  | inl f => exact Or.inr (fun q e => by cases e)
  | inr p => exact Or.inl ⟨p, rfl⟩
theorem thL_lo {B : Nat → Nat} {n t : Nat} : ∀ f (y : PS × RW) k, k < 5 → (thL B n t f y).2 k = y.2 k := by
  intro f
  induction f with
  | zero => intro y k _; rfl
  | succ f ih =>
    intro y k hk
    unfold thL
    split
    · rw [ih _ k hk]
      show pm_row y.2 (19 + t) _ k = _
      rw [row_ne (by omega)]
    · split
      · rw [ih _ k hk]
        show pm_row y.2 (27 + t) _ k = _
        rw [row_ne (by omega)]
      · rfl
theorem thL_V {B : Nat → Nat} {n N T P : Nat} : ∀ f (y : PS × RW) p, gV y.2 N (T + 1) P → (thL B n T f y).1 = .inr p → gV (thL B n T f y).2 N (T + 1) P := by
  intro f
  induction f with
  | zero => intro y p h _; exact h
  | succ f ih =>
    intro y p h e
    have go : ∀ o, o = 19 ∨ o = 27 → (thL B n T f (nuF B n 0 9 (nxF B n y.1), pm_row y.2 (o + T) (nI (vaF B n (nxF B n y.1))))).1 = .inr p → gV (thL B n T f (nuF B n 0 9 (nxF B n y.1), pm_row y.2 (o + T) (nI (vaF B n (nxF B n y.1))))).2 N (T + 1) P := by
      intro o ho e1
      rcases al_or (x := nuF B n 0 9 (nxF B n y.1)) with ⟨q, eq⟩ | hd
      · obtain ⟨_, _, h9, _⟩ := nu_al eq
        exact ih _ p (gV_hw h (by omega) h9 ho) e1
      · rw [thL_dead (y := (nuF B n 0 9 (nxF B n y.1), pm_row y.2 (o + T) (nI (vaF B n (nxF B n y.1))))) hd] at e1
        exact absurd e1 (hd p)
    unfold thL at e ⊢
    by_cases c1 : kiF B n y.1 = 207
    · rw [if_pos c1] at e ⊢
      exact go 19 (Or.inl rfl) e
    · rw [if_neg c1] at e ⊢
      by_cases c2 : kiF B n y.1 = 208
      · rw [if_pos c2] at e ⊢
        exact go 27 (Or.inr rfl) e
      · rw [if_neg c2] at e ⊢
        exact h
theorem th_V {B : Nat → Nat} {n N T P p : Nat} {x : PS} {g : RW} (h : gV g N T P) (e : (thF B n N T x g).1 = .inr p) : T < 8 ∧ gV (thF B n N T x g).2 N (T + 1) P ∧ (thF B n N T x g).2 1 = g 1 ∧ (thF B n N T x g).2 2 = nI (T + 1) ∧ (thF B n N T x g).2 3 = g 3 := by
  have hT := h.1.2.2.1
  unfold thF at e ⊢
  by_cases c : T = 8
  · rw [if_pos c] at e
    exact absurd e (fa_inl p)
  · rw [if_neg c] at e ⊢
    have e : (thL B n T 900 (thS B n N T x g)).1 = .inr p := e
    have eg : (thS B n N T x g).2 = pm_row (pm_row g (11 + T) (nI (vaF B n (exF B n 206 (nxF B n x))))) (50 + T) (nI (vaF B n (exF B n 206 (nxF B n x)))) := rfl
    have lo : ∀ k, k < 5 → (thL B n T 900 (thS B n N T x g)).2 k = g k := fun k hk => by rw [thL_lo 900 _ k hk, eg, row_ne (by omega), row_ne (by omega)]
    have v0 : gV (thS B n N T x g).2 N (T + 1) P := by
      rcases al_or (x := (thS B n N T x g).1) with ⟨q, eq⟩ | hd
      · obtain ⟨_, _, h9, _⟩ := nu_al eq
        have := h.1.1
        rw [eg]
        exact gV_thS h (by omega) (by omega)
      · rw [thL_dead hd] at e
        exact absurd e (hd p)
    refine ⟨by omega, gV_row (thL_V 900 _ p v0 e) (by omega), ?_, ?_, ?_⟩
    · show pm_row (thL B n T 900 (thS B n N T x g)).2 2 (nI (T + 1)) 1 = _
      rw [row_ne (by omega), lo 1 (by omega)]
    · show pm_row (thL B n T 900 (thS B n N T x g)).2 2 (nI (T + 1)) 2 = _
      rw [row_eq]
    · show pm_row (thL B n T 900 (thS B n N T x g)).2 2 (nI (T + 1)) 3 = _
      rw [row_ne (by omega), lo 3 (by omega)]
theorem flF_lo {B : Nat → Nat} {n T p : Nat} {y : PS × RW} {k : Nat} (hT : T ≤ 8) (hk : k < 5) : (flF B n T p y).2 k = y.2 k := by
  unfold flF hdF
  split
  · show pm_row y.2 (66 + p) _ k = _
    rw [row_ne (by omega)]
  · split
    · show pm_row y.2 (41 + p) _ k = _
      rw [row_ne (by omega)]
    · split
      · split
        · show giF T p _ y.2 k = _
          unfold giF
          rw [row_ne (by omega)]
          exact (giC_at (T := T) (p := p) (g := y.2) T hT).2 k (by omega)
        · rfl
      · rfl
theorem flF_V {B : Nat → Nat} {n N T P p q : Nat} {y : PS × RW} (h : gV y.2 N T P) (hp : p < P) (e : (flF B n T p y).1 = .inr q) : gV (flF B n T p y).2 N T P := by
  unfold flF hdF at e ⊢
  by_cases c1 : kiF B n y.1 = 209
  · rw [if_pos c1] at e ⊢
    obtain ⟨_, _, h9, _⟩ := nu_al e
    exact gV_mb h hp (Or.inl ⟨rfl, h9⟩)
  · rw [if_neg c1] at e ⊢
    by_cases c2 : kiF B n y.1 = 210
    · rw [if_pos c2] at e ⊢
      obtain ⟨_, _, h9, _⟩ := nu_al e
      exact gV_mb h hp (Or.inr ⟨rfl, h9⟩)
    · rw [if_neg c2] at e ⊢
      by_cases c3 : kiF B n (nxF B n y.1) = 128
      · rw [if_pos c3] at e ⊢
        by_cases c4 : hoK B n T (nxF B n y.1) y.2 = true
        · rw [if_pos c4] at e ⊢
          have c5 := c4
          unfold hoK at c5
          rw [decide_eq_true_eq] at c5
          exact gV_gi h hp c5.1
        · rw [if_neg c4] at e
          exact absurd e (fa_inl q)
      · rw [if_neg c3] at e
        exact absurd e (fa_inl q)
theorem peL_V {B : Nat → Nat} {n N T P : Nat} : ∀ f (y : PS × RW) p, gV y.2 N T (P + 1) → (peL B n T P f y).1 = .inr p → gV (peL B n T P f y).2 N T (P + 1) := by
  intro f
  induction f with
  | zero => intro y p h _; exact h
  | succ f ih =>
    intro y p h e
    unfold peL at e ⊢
    by_cases c : kiF B n y.1 = 209 ∨ kiF B n y.1 = 210 ∨ kiF B n y.1 = 211
    · rw [if_pos c] at e ⊢
      rcases al_or (x := (flF B n T P y).1) with ⟨q, eq⟩ | hd
      · exact ih _ p (flF_V h (by omega) eq) e
      · rw [peL_dead hd] at e
        exact absurd e (hd p)
    · rw [if_neg c] at e ⊢
      exact h
theorem peL_lo {B : Nat → Nat} {n T p : Nat} (hT : T ≤ 8) : ∀ f (y : PS × RW) k, k < 5 → (peL B n T p f y).2 k = y.2 k := by
  intro f
  induction f with
  | zero => intro y k _; rfl
  | succ f ih =>
    intro y k hk
    unfold peL
    split
    · rw [ih _ k hk, flF_lo hT hk]
    · rfl
theorem pe_V {B : Nat → Nat} {n N T P p : Nat} {x : PS} {g : RW} (h : gV g N T P) (e : (peF B n N T P x g).1 = .inr p) : P < 6 ∧ gV (peF B n N T P x g).2 N T (P + 1) ∧ (peF B n N T P x g).2 1 = g 1 ∧ (peF B n N T P x g).2 2 = g 2 ∧ (peF B n N T P x g).2 3 = nI (P + 1) := by
  have hT := h.1.2.2.1
  have hP := h.1.2.2.2.1
  unfold peF at e ⊢
  by_cases c : P = 6
  · rw [if_pos c] at e
    exact absurd e (fa_inl p)
  · rw [if_neg c] at e ⊢
    have e : (peL B n T P 900 (peS B n N P x g)).1 = .inr p := e
    have eg : (peS B n N P x g).2 = pm_row (pm_row g (35 + P) (nI (vaF B n (exF B n 206 (nxF B n x))))) (41 + P) 10 := rfl
    have lo : ∀ k, k < 5 → (peL B n T P 900 (peS B n N P x g)).2 k = g k := fun k hk => by rw [peL_lo hT 900 _ k hk, eg, row_ne (by omega), row_ne (by omega)]
    have v0 : gV (peS B n N P x g).2 N T (P + 1) := by
      rcases al_or (x := (peS B n N P x g).1) with ⟨q, eq⟩ | hd
      · obtain ⟨_, _, h9, _⟩ := nu_al eq
        have := h.1.1
        rw [eg]
        exact gV_peS h (by omega) (by omega)
      · rw [peL_dead hd] at e
        exact absurd e (hd p)
    refine ⟨by omega, gV_row (peL_V 900 _ p v0 e) (by omega), ?_, ?_, ?_⟩
    · show pm_row (peL B n T P 900 (peS B n N P x g)).2 3 (nI (P + 1)) 1 = _
      rw [row_ne (by omega), lo 1 (by omega)]
    · show pm_row (peL B n T P 900 (peS B n N P x g)).2 3 (nI (P + 1)) 2 = _
      rw [row_ne (by omega), lo 2 (by omega)]
    · show pm_row (peL B n T P 900 (peS B n N P x g)).2 3 (nI (P + 1)) 3 = _
      rw [row_eq]
/-! a line, lines -/
abbrev LSt := PS × RW × LWD × LWD
def nzG (g : RW) (k : Nat) : Nat := (g k).toNatClampNeg
def lwF (B : Nat → Nat) (n : Nat) (o : Bool) (x : PS) : PR := (levF B n o 6).1 (exF B n 58 (nxF B n x))
def liB (B : Nat → Nat) (n : Nat) (z : LSt) : LSt :=
  if kiF B n z.1 = 201 then ((thF B n (nzG z.2.1 1) (nzG z.2.1 2) z.1 z.2.1).1, (thF B n (nzG z.2.1 1) (nzG z.2.1 2) z.1 z.2.1).2, z.2.2)
  else if kiF B n z.1 = 202 then ((peF B n (nzG z.2.1 1) (nzG z.2.1 2) (nzG z.2.1 3) z.1 z.2.1).1, (peF B n (nzG z.2.1 1) (nzG z.2.1 2) (nzG z.2.1 3) z.1 z.2.1).2, z.2.2)
  else if kiF B n z.1 = 203 then ((lwF B n false z.1).1, z.2.1, some (lwF B n false z.1).2, z.2.2.2)
  else if kiF B n z.1 = 204 then ((lwF B n true z.1).1, z.2.1, z.2.2.1, some (lwF B n true z.1).2)
  else if kiF B n z.1 = 205 then (nuF B n 0 10 (nxF B n z.1), pm_row z.2.1 4 (nI (vaF B n (nxF B n z.1))), z.2.2)
  else (faF B n 2 z.1, z.2)
def liF (B : Nat → Nat) (n : Nat) (z : LSt) : LSt := (exF B n 59 (liB B n z).1, pm_row (liB B n z).2.1 0 ((liB B n z).2.1 0 + 1), (liB B n z).2.2)
/-- what holds of a state that stands -/
def pV (z : LSt) : Prop := ∀ p, z.1 = .inr p → gV z.2.1 (nzG z.2.1 1) (nzG z.2.1 2) (nzG z.2.1 3) ∧ z.2.1 1 = nI (nzG z.2.1 1) ∧ z.2.1 2 = nI (nzG z.2.1 2) ∧ z.2.1 3 = nI (nzG z.2.1 3)
