/-! lines, pure -/
abbrev RW := Nat → Int32
abbrev LWD := Option ((Nat → Int32) → Int32)
def thL (B : Nat → Nat) (n t : Nat) : Nat → PS × RW → PS × RW
  | 0, y => y
  | f + 1, y => if kiF B n y.1 = 207 then thL B n t f (nuF B n 0 9 (nxF B n y.1), pm_row y.2 (19 + t) (nI (vaF B n (nxF B n y.1))))
    else if kiF B n y.1 = 208 then thL B n t f (nuF B n 0 9 (nxF B n y.1), pm_row y.2 (27 + t) (nI (vaF B n (nxF B n y.1)))) else y
def thS (B : Nat → Nat) (n N T : Nat) (x : PS) (g : RW) : PS × RW := (nuF B n 0 (N - 1) (exF B n 206 (nxF B n x)), pm_row (pm_row g (11 + T) (nI (vaF B n (exF B n 206 (nxF B n x))))) (50 + T) (nI (vaF B n (exF B n 206 (nxF B n x)))))
def thF (B : Nat → Nat) (n N T : Nat) (x : PS) (g : RW) : PS × RW :=
  if T = 8 then (faF B n 4 x, g) else ((thL B n T 900 (thS B n N T x g)).1, pm_row (thL B n T 900 (thS B n N T x g)).2 2 (nI (T + 1)))
/-- person p is given thing t -/
def giC (T p : Nat) (g : RW) : RW := itr (fun k r => if r (50 + k) = nI (10 + p) then pm_row r (50 + k) (r (11 + k)) else r) T g
def giF (T p t : Nat) (g : RW) : RW := pm_row (giC T p g) (50 + t) (nI (10 + p))
def hoK (B : Nat → Nat) (n T : Nat) (x : PS) (g : RW) : Bool := decide (vaF B n x < T ∧ g (50 + vaF B n x) < 10)
def hdF (B : Nat → Nat) (n T p : Nat) (x : PS) (g : RW) : PS × RW :=
  if kiF B n x = 128 then (if hoK B n T x g = true then (nxF B n x, giF T p (vaF B n x) g) else (faF B n 3 x, g)) else (faF B n 2 x, g)
def flF (B : Nat → Nat) (n T p : Nat) (y : PS × RW) : PS × RW :=
  if kiF B n y.1 = 209 then (nuF B n 0 9 (nxF B n y.1), pm_row y.2 (66 + p) (nI (vaF B n (nxF B n y.1))))
  else if kiF B n y.1 = 210 then (nuF B n 0 99 (nxF B n y.1), pm_row y.2 (41 + p) (nI (vaF B n (nxF B n y.1))))
  else hdF B n T p (nxF B n y.1) y.2
def peL (B : Nat → Nat) (n T p : Nat) : Nat → PS × RW → PS × RW
  | 0, y => y
  | f + 1, y => if kiF B n y.1 = 209 ∨ kiF B n y.1 = 210 ∨ kiF B n y.1 = 211 then peL B n T p f (flF B n T p y) else y
def peS (B : Nat → Nat) (n N P : Nat) (x : PS) (g : RW) : PS × RW := (nuF B n 0 (N - 1) (exF B n 206 (nxF B n x)), pm_row (pm_row g (35 + P) (nI (vaF B n (exF B n 206 (nxF B n x))))) (41 + P) 10)
def peF (B : Nat → Nat) (n N T P : Nat) (x : PS) (g : RW) : PS × RW :=
  if P = 6 then (faF B n 4 x, g) else ((peL B n T P 900 (peS B n N P x g)).1, pm_row (peL B n T P 900 (peS B n N P x g)).2 3 (nI (P + 1)))
/-! places -/
def leX (n : Nat) (x x' : PS) : Prop := gdX n x → gdX n x' ∧ ∀ p', x' = .inr p' → ∃ p, x = .inr p ∧ p ≤ p'
theorem leX_rf {n : Nat} {x : PS} : leX n x x := fun h => ⟨h, fun p e => ⟨p, e, Nat.le_refl _⟩⟩
theorem leX_tr {n : Nat} {x y z : PS} (h1 : leX n x y) (h2 : leX n y z) : leX n x z := fun h => by
  obtain ⟨a1, a2⟩ := h1 h
  obtain ⟨b1, b2⟩ := h2 a1
  refine ⟨b1, fun p' e => ?_⟩
  obtain ⟨p, e1, l1⟩ := b2 p' e
  obtain ⟨q, e2, l2⟩ := a2 p e1
  exact ⟨q, e2, by omega⟩
theorem leX_nx {B : Nat → Nat} {n : Nat} {x : PS} (hB : ∀ k, k < n → B k < 256) : leX n x (nxF B n x) := fun h => by
  refine ⟨gd_nx hB h, fun p' e => ?_⟩
  cases x with
  | inl f => cases e
  | inr p =>
    refine ⟨p, rfl, ?_⟩
    obtain ⟨k1, k2, k3, k4, k5, k6, k7⟩ := tk_spec (h p rfl) hB
    have e' : psF B n (tE B n p) = .inr p' := e
    unfold psF at e'
    by_cases z : tK B n (tE B n p) = 131
    · rw [if_pos z] at e'; cases e'
    · rw [if_neg z] at e'
      cases e'
      omega
theorem leX_fa {B : Nat → Nat} {n k : Nat} {x : PS} : leX n x (faF B n k x) := fun _ => ⟨gd_fa, fun p e => absurd e (fa_inl p)⟩
theorem leX_ex {B : Nat → Nat} {n w : Nat} {x : PS} (hB : ∀ k, k < n → B k < 256) : leX n x (exF B n w x) := by
  unfold exF
  split
  · exact leX_nx hB
  · exact leX_fa
theorem leX_nu {B : Nat → Nat} {n lo hi : Nat} {x : PS} (hB : ∀ k, k < n → B k < 256) : leX n x (nuF B n lo hi x) := by
  unfold nuF
  split
  · split
    · exact leX_nx hB
    · exact leX_fa
  · exact leX_fa
theorem ex_al {B : Nat → Nat} {n w p : Nat} {x : PS} (h : exF B n w x = .inr p) : kiF B n x = w ∧ nxF B n x = .inr p := by
  unfold exF at h
  by_cases z : kiF B n x = w
  · rw [if_pos z] at h; exact ⟨z, h⟩
  · rw [if_neg z] at h; exact absurd h (fa_inl p)
theorem nu_al {B : Nat → Nat} {n lo hi p : Nat} {x : PS} (h : nuF B n lo hi x = .inr p) : kiF B n x = 128 ∧ lo ≤ vaF B n x ∧ vaF B n x ≤ hi ∧ nxF B n x = .inr p := by
  unfold nuF at h
  by_cases z : kiF B n x = 128
  · rw [if_pos z] at h
    by_cases z2 : lo ≤ vaF B n x ∧ vaF B n x ≤ hi
    · rw [if_pos z2] at h; exact ⟨z, z2.1, z2.2, h⟩
    · rw [if_neg z2] at h; exact absurd h (fa_inl p)
  · rw [if_neg z] at h; exact absurd h (fa_inl p)
theorem leX_thL {B : Nat → Nat} {n t : Nat} (hB : ∀ k, k < n → B k < 256) : ∀ f y, leX n y.1 (thL B n t f y).1 := by
  intro f
  induction f with
  | zero => intro y; exact leX_rf
  | succ f ih =>
    intro y
    unfold thL
    split
    · exact leX_tr (leX_tr (leX_nx hB) (leX_nu (lo := 0) (hi := 9) hB)) (ih (nuF B n 0 9 (nxF B n y.1), pm_row y.2 (19 + t) (nI (vaF B n (nxF B n y.1)))))
    · split
      · exact leX_tr (leX_tr (leX_nx hB) (leX_nu (lo := 0) (hi := 9) hB)) (ih (nuF B n 0 9 (nxF B n y.1), pm_row y.2 (27 + t) (nI (vaF B n (nxF B n y.1)))))
      · exact leX_rf
theorem leX_thF {B : Nat → Nat} {n N T : Nat} {x : PS} {g : RW} (hB : ∀ k, k < n → B k < 256) : leX n x (thF B n N T x g).1 := by
  unfold thF
  split
  · exact leX_fa
  · refine leX_tr (leX_tr (leX_nx hB) (leX_tr (leX_ex (w := 206) hB) (leX_nu hB))) (leX_thL hB 900 (thS B n N T x g))
theorem leX_flF {B : Nat → Nat} {n T p : Nat} {y : PS × RW} (hB : ∀ k, k < n → B k < 256) : leX n y.1 (flF B n T p y).1 := by
  unfold flF hdF
  split
  · exact leX_tr (leX_nx hB) (leX_nu hB)
  · split
    · exact leX_tr (leX_nx hB) (leX_nu hB)
    · refine leX_tr (leX_nx hB) ?_
      split
      · split
        · exact leX_nx hB
        · exact leX_fa
      · exact leX_fa
theorem leX_peL {B : Nat → Nat} {n T p : Nat} (hB : ∀ k, k < n → B k < 256) : ∀ f y, leX n y.1 (peL B n T p f y).1 := by
  intro f
  induction f with
  | zero => intro y; exact leX_rf
  | succ f ih =>
    intro y
    unfold peL
    split
    · exact leX_tr (leX_flF hB) (ih _)
    · exact leX_rf
theorem leX_peF {B : Nat → Nat} {n N T P : Nat} {x : PS} {g : RW} (hB : ∀ k, k < n → B k < 256) : leX n x (peF B n N T P x g).1 := by
  unfold peF
  split
  · exact leX_fa
  · refine leX_tr (leX_tr (leX_nx hB) (leX_tr (leX_ex (w := 206) hB) (leX_nu hB))) (leX_peL hB 900 (peS B n N P x g))
/-! what a row must keep to -/
def gZ (g : RW) : Prop := g 47 = 0 ∧ g 48 = 0 ∧ g 49 = 0 ∧ g 78 = 0 ∧ (∀ t, t < 8 → g (58 + t) = 0) ∧ ∀ p, p < 6 → g (72 + p) = 0
def gT (g : RW) (N P t : Nat) : Prop := (∃ k : Nat, k < N ∧ g (11 + t) = nI k) ∧ (∃ k : Nat, k ≤ 9 ∧ g (19 + t) = nI k) ∧ (∃ k : Nat, k ≤ 9 ∧ g (27 + t) = nI k) ∧ (g (50 + t) = g (11 + t) ∨ ∃ p : Nat, p < P ∧ g (50 + t) = nI (10 + p))
def gP (g : RW) (N p : Nat) : Prop := (∃ k : Nat, k < N ∧ g (35 + p) = nI k) ∧ (∃ k : Nat, k ≤ 9 ∧ g (66 + p) = nI k) ∧ (∃ k : Nat, k ≤ 99 ∧ g (41 + p) = nI k)
def gV (g : RW) (N T P : Nat) : Prop := (2 ≤ N ∧ N ≤ 8 ∧ T ≤ 8 ∧ P ≤ 6 ∧ ∃ k : Nat, k ≤ 10 ∧ g 4 = nI k) ∧ (∀ t, t < T → gT g N P t) ∧ (∀ t t' p : Nat, t < T → t' < T → p < P → g (50 + t) = nI (10 + p) → g (50 + t') = nI (10 + p) → t = t') ∧ (∀ p, p < P → gP g N p) ∧ (∀ t, T ≤ t → t < 8 → g (19 + t) = 0 ∧ g (27 + t) = 0) ∧ (∀ p, P ≤ p → p < 6 → g (66 + p) = 0) ∧ gZ g
theorem gZ_row {g : RW} {k : Nat} {v : Int32} (h : gZ g) (h1 : k < 47 ∨ (50 ≤ k ∧ k < 58) ∨ (66 ≤ k ∧ k < 72)) : gZ (pm_row g k v) := by
  obtain ⟨a, b, c, d, e, f⟩ := h
  exact ⟨by rw [row_ne (by omega), a], by rw [row_ne (by omega), b], by rw [row_ne (by omega), c], by rw [row_ne (by omega), d], fun t ht => by rw [row_ne (by omega), e t ht], fun p hp => by rw [row_ne (by omega), f p hp]⟩
/-- a number that no part reads -/
theorem gV_row {g : RW} {N T P k : Nat} {v : Int32} (h : gV g N T P) (hk : k < 4) : gV (pm_row g k v) N T P := by
  obtain ⟨⟨a1, a2, a3, a4, m, a5, a6⟩, b, c, d, e, f, z⟩ := h
  refine ⟨⟨a1, a2, a3, a4, m, a5, by rw [row_ne (by omega), a6]⟩, fun t ht => ?_, fun t t' p h1 h2 h3 h4 h5 => ?_, fun p hp => ?_, fun t h1 h2 => ?_, fun p h1 h2 => ?_, gZ_row z (by omega)⟩
  · unfold gT
    rw [row_ne (by omega), row_ne (by omega), row_ne (by omega), row_ne (by omega)]
    exact b t ht
  · rw [row_ne (by omega)] at h4 h5
    exact c t t' p h1 h2 h3 h4 h5
  · unfold gP
    rw [row_ne (by omega), row_ne (by omega), row_ne (by omega)]
    exact d p hp
  · rw [row_ne (by omega), row_ne (by omega)]
    exact e t h1 h2
  · rw [row_ne (by omega)]
    exact f p h1 h2
theorem gV_wet {g : RW} {N T P k : Nat} (h : gV g N T P) (hk : k ≤ 10) : gV (pm_row g 4 (nI k)) N T P := by
  obtain ⟨⟨a1, a2, a3, a4, m, a5, a6⟩, b, c, d, e, f, z⟩ := h
  refine ⟨⟨a1, a2, a3, a4, k, hk, row_eq⟩, fun t ht => ?_, fun t t' p h1 h2 h3 h4 h5 => ?_, fun p hp => ?_, fun t h1 h2 => ?_, fun p h1 h2 => ?_, gZ_row z (by omega)⟩
  · unfold gT
    rw [row_ne (by omega), row_ne (by omega), row_ne (by omega), row_ne (by omega)]
    exact b t ht
  · rw [row_ne (by omega)] at h4 h5
    exact c t t' p h1 h2 h3 h4 h5
  · unfold gP
    rw [row_ne (by omega), row_ne (by omega), row_ne (by omega)]
    exact d p hp
  · rw [row_ne (by omega), row_ne (by omega)]
    exact e t h1 h2
  · rw [row_ne (by omega)]
    exact f p h1 h2
/-- thing T comes -/
theorem gV_thS {g : RW} {N T P v : Nat} (h : gV g N T P) (hT : T < 8) (hv : v < N) : gV (pm_row (pm_row g (11 + T) (nI v)) (50 + T) (nI v)) N (T + 1) P := by
  obtain ⟨⟨a1, a2, a3, a4, m, a5, a6⟩, b, c, d, e, f, z⟩ := h
  have o1 : ∀ k, k ≠ 11 + T → k ≠ 50 + T → pm_row (pm_row g (11 + T) (nI v)) (50 + T) (nI v) k = g k := fun k h1 h2 => by rw [row_ne h2, row_ne h1]
  have e1 : pm_row (pm_row g (11 + T) (nI v)) (50 + T) (nI v) (11 + T) = nI v := by rw [row_ne (by omega), row_eq]
  have e2 : pm_row (pm_row g (11 + T) (nI v)) (50 + T) (nI v) (50 + T) = nI v := row_eq
  have z' : gZ (pm_row (pm_row g (11 + T) (nI v)) (50 + T) (nI v)) := gZ_row (gZ_row z (by omega)) (by omega)
  generalize pm_row (pm_row g (11 + T) (nI v)) (50 + T) (nI v) = g1 at o1 e1 e2 z'
  have w : ∀ t p : Nat, t < T + 1 → p < P → g1 (50 + t) = nI (10 + p) → t < T ∧ g (50 + t) = nI (10 + p) := by
    intro t p h1 h2 h3
    by_cases q : t = T
    · subst q
      rw [e2, nI_inj (by omega) (by omega)] at h3
      omega
    · rw [o1 (50 + t) (by omega) (by omega)] at h3
      exact ⟨by omega, h3⟩
  refine ⟨⟨a1, a2, by omega, a4, m, a5, by rw [o1 4 (by omega) (by omega), a6]⟩, fun t ht => ?_, fun t t' p h1 h2 h3 h4 h5 => ?_, fun p hp => ?_, fun t h1 h2 => ?_, fun p h1 h2 => ?_, z'⟩
  · unfold gT
    by_cases q : t = T
    · subst q
      obtain ⟨x1, x2⟩ := e t (by omega) (by omega)
      refine ⟨⟨v, hv, e1⟩, ⟨0, by omega, ?_⟩, ⟨0, by omega, ?_⟩, Or.inl (by rw [e1, e2])⟩
      · rw [o1 (19 + t) (by omega) (by omega), x1]; rfl
      · rw [o1 (27 + t) (by omega) (by omega), x2]; rfl
    · rw [o1 (11 + t) (by omega) (by omega), o1 (19 + t) (by omega) (by omega), o1 (27 + t) (by omega) (by omega), o1 (50 + t) (by omega) (by omega)]
      exact b t (by omega)
  · obtain ⟨q1, q2⟩ := w t p h1 h3 h4
    obtain ⟨q3, q4⟩ := w t' p h2 h3 h5
    exact c t t' p q1 q3 h3 q2 q4
  · unfold gP
    rw [o1 (35 + p) (by omega) (by omega), o1 (66 + p) (by omega) (by omega), o1 (41 + p) (by omega) (by omega)]
    exact d p hp
  · rw [o1 (19 + t) (by omega) (by omega), o1 (27 + t) (by omega) (by omega)]
    exact e t (by omega) h2
  · rw [o1 (66 + p) (by omega) (by omega)]
    exact f p h1 h2
/-- hue, weight of thing t -/
theorem gV_hw {g : RW} {N T P t v o : Nat} (h : gV g N T P) (ht : t < T) (hv : v ≤ 9) (ho : o = 19 ∨ o = 27) : gV (pm_row g (o + t) (nI v)) N T P := by
  obtain ⟨⟨a1, a2, a3, a4, m, a5, a6⟩, b, c, d, e, f, z⟩ := h
  refine ⟨⟨a1, a2, a3, a4, m, a5, by rw [row_ne (by omega), a6]⟩, fun u hu => ?_, fun t t' p h1 h2 h3 h4 h5 => ?_, fun p hp => ?_, fun u h1 h2 => ?_, fun p h1 h2 => ?_, gZ_row z (by omega)⟩
  · unfold gT
    rw [row_ne (j := 11 + u) (by omega), row_ne (j := 50 + u) (by omega)]
    obtain ⟨x1, x2, x3, x4⟩ := b u hu
    refine ⟨x1, ?_, ?_, x4⟩
    · by_cases q : 19 + u = o + t
      · rw [q, row_eq]; exact ⟨v, hv, rfl⟩
      · rw [row_ne q]; exact x2
    · by_cases q : 27 + u = o + t
      · rw [q, row_eq]; exact ⟨v, hv, rfl⟩
      · rw [row_ne q]; exact x3
  · rw [row_ne (by omega)] at h4 h5
    exact c _ _ p h1 h2 h3 h4 h5
  · unfold gP
    rw [row_ne (by omega), row_ne (by omega), row_ne (by omega)]
    exact d p hp
  · rw [row_ne (by omega), row_ne (by omega)]
    exact e u h1 h2
  · rw [row_ne (by omega)]
    exact f p h1 h2
theorem gV_peS {g : RW} {N T P v : Nat} (h : gV g N T P) (hP : P < 6) (hv : v < N) : gV (pm_row (pm_row g (35 + P) (nI v)) (41 + P) 10) N T (P + 1) := by
  obtain ⟨⟨a1, a2, a3, a4, m, a5, a6⟩, b, c, d, e, f, z⟩ := h
  have o1 : ∀ k, k ≠ 35 + P → k ≠ 41 + P → pm_row (pm_row g (35 + P) (nI v)) (41 + P) 10 k = g k := fun k h1 h2 => by rw [row_ne h2, row_ne h1]
  have e1 : pm_row (pm_row g (35 + P) (nI v)) (41 + P) 10 (35 + P) = nI v := by rw [row_ne (by omega), row_eq]
  have e2 : pm_row (pm_row g (35 + P) (nI v)) (41 + P) 10 (41 + P) = nI 10 := row_eq
  have z' : gZ (pm_row (pm_row g (35 + P) (nI v)) (41 + P) 10) := gZ_row (gZ_row z (by omega)) (by omega)
  generalize pm_row (pm_row g (35 + P) (nI v)) (41 + P) 10 = g1 at o1 e1 e2 z'
  refine ⟨⟨a1, a2, a3, by omega, m, a5, by rw [o1 4 (by omega) (by omega), a6]⟩, fun t ht => ?_, fun t t' p h1 h2 h3 h4 h5 => ?_, fun p hp => ?_, fun t h1 h2 => ?_, fun p h1 h2 => ?_, z'⟩
  · unfold gT
    rw [o1 (11 + t) (by omega) (by omega), o1 (19 + t) (by omega) (by omega), o1 (27 + t) (by omega) (by omega), o1 (50 + t) (by omega) (by omega)]
    obtain ⟨x1, x2, x3, x4⟩ := b t ht
    refine ⟨x1, x2, x3, ?_⟩
    rcases x4 with q | ⟨p, q1, q2⟩
    · exact Or.inl q
    · exact Or.inr ⟨p, by omega, q2⟩
  · rw [o1 (50 + t) (by omega) (by omega)] at h4
    rw [o1 (50 + t') (by omega) (by omega)] at h5
    by_cases q : p < P
    · exact c t t' p h1 h2 q h4 h5
    · exfalso
      obtain ⟨⟨k, k1, k2⟩, _, _, x4⟩ := b t h1
      rcases x4 with q1 | ⟨p', q1, q2⟩
      · rw [q1, k2, nI_inj (by omega) (by omega)] at h4; omega
      · rw [q2, nI_inj (by omega) (by omega)] at h4; omega
  · unfold gP
    by_cases q : p = P
    · subst q
      refine ⟨⟨v, hv, e1⟩, ⟨0, by omega, ?_⟩, ⟨10, by omega, e2⟩⟩
      rw [o1 (66 + p) (by omega) (by omega), f p (by omega) (by omega)]; rfl
    · rw [o1 (35 + p) (by omega) (by omega), o1 (66 + p) (by omega) (by omega), o1 (41 + p) (by omega) (by omega)]
      exact d p (by omega)
  · rw [o1 (19 + t) (by omega) (by omega), o1 (27 + t) (by omega) (by omega)]
    exact e t h1 h2
  · rw [o1 (66 + p) (by omega) (by omega)]
    exact f p (by omega) h2
theorem gV_mb {g : RW} {N T P p v o : Nat} (h : gV g N T P) (hp : p < P) (ho : (o = 66 ∧ v ≤ 9) ∨ (o = 41 ∧ v ≤ 99)) : gV (pm_row g (o + p) (nI v)) N T P := by
  obtain ⟨⟨a1, a2, a3, a4, m, a5, a6⟩, b, c, d, e, f, z⟩ := h
  refine ⟨⟨a1, a2, a3, a4, m, a5, by rw [row_ne (by omega), a6]⟩, fun t ht => ?_, fun t t' p h1 h2 h3 h4 h5 => ?_, fun q hq => ?_, fun u h1 h2 => ?_, fun q h1 h2 => ?_, gZ_row z (by omega)⟩
  · unfold gT
    rw [row_ne (by omega), row_ne (by omega), row_ne (by omega), row_ne (by omega)]
    exact b t ht
  · rw [row_ne (by omega)] at h4 h5
    exact c _ _ p h1 h2 h3 h4 h5
  · unfold gP
    obtain ⟨x1, x2, x3⟩ := d q hq
    rw [row_ne (j := 35 + q) (by omega)]
    refine ⟨x1, ?_, ?_⟩
    · by_cases w : 66 + q = o + p
      · rw [w, row_eq]; exact ⟨v, by omega, rfl⟩
      · rw [row_ne w]; exact x2
    · by_cases w : 41 + q = o + p
      · rw [w, row_eq]; exact ⟨v, by omega, rfl⟩
      · rw [row_ne w]; exact x3
  · rw [row_ne (by omega), row_ne (by omega)]
    exact e u h1 h2
  · rw [row_ne (by omega)]
    exact f q h1 h2
theorem giC_at {T p : Nat} {g : RW} : ∀ m, m ≤ 8 → (∀ k, k < m → giC m p g (50 + k) = if g (50 + k) = nI (10 + p) then g (11 + k) else g (50 + k)) ∧ ∀ k, (k < 50 ∨ 50 + m ≤ k) → giC m p g k = g k := by
  intro m
  induction m with
  | zero => intro _; exact ⟨fun k h => by omega, fun k _ => rfl⟩
  | succ m ih =>
    intro hm
    obtain ⟨i1, i2⟩ := ih (by omega)
    have e : giC (m + 1) p g = if giC m p g (50 + m) = nI (10 + p) then pm_row (giC m p g) (50 + m) (giC m p g (11 + m)) else giC m p g := rfl
    rw [e, i2 (50 + m) (by omega), i2 (11 + m) (by omega)]
    by_cases c : g (50 + m) = nI (10 + p)
    · rw [if_pos c]
      refine ⟨fun k hk => ?_, fun k hk => ?_⟩
      · by_cases q : k = m
        · subst q; rw [row_eq, if_pos c]
        · rw [row_ne (by omega)]; exact i1 k (by omega)
      · rw [row_ne (by omega)]; exact i2 k (by omega)
    · rw [if_neg c]
      refine ⟨fun k hk => ?_, fun k hk => i2 k (by omega)⟩
      by_cases q : k = m
      · subst q; rw [if_neg c]; exact i2 _ (by omega)
      · exact i1 k (by omega)
theorem giF_at {T p t : Nat} {g : RW} (hT : T ≤ 8) (ht : t < T) : (∀ k, k < T → giF T p t g (50 + k) = if k = t then nI (10 + p) else if g (50 + k) = nI (10 + p) then g (11 + k) else g (50 + k)) ∧ ∀ k, (k < 50 ∨ 50 + T ≤ k) → giF T p t g k = g k := by
  obtain ⟨i1, i2⟩ := giC_at (T := T) (p := p) (g := g) T hT
  unfold giF
  refine ⟨fun k hk => ?_, fun k hk => ?_⟩
  · by_cases q : k = t
    · subst q; rw [row_eq, if_pos rfl]
    · rw [row_ne (by omega), if_neg q]; exact i1 k hk
  · rw [row_ne (by omega)]; exact i2 k hk
theorem gV_gi {g : RW} {N T P p t : Nat} (h : gV g N T P) (hp : p < P) (ht : t < T) : gV (giF T p t g) N T P := by
  obtain ⟨⟨a1, a2, a3, a4, m, a5, a6⟩, b, c, d, e, f, z⟩ := h
  obtain ⟨o1, o2⟩ := giF_at (p := p) (g := g) a3 ht
  have z' : gZ (giF T p t g) := by
    obtain ⟨y1, y2, y3, y4, y5, y6⟩ := z
    exact ⟨by rw [o2 _ (by omega), y1], by rw [o2 _ (by omega), y2], by rw [o2 _ (by omega), y3], by rw [o2 _ (by omega), y4], fun t ht => by rw [o2 _ (by omega), y5 t ht], fun p hp => by rw [o2 _ (by omega), y6 p hp]⟩
  generalize giF T p t g = g1 at o1 o2 z'
  have w : ∀ u q : Nat, u < T → q < P → g1 (50 + u) = nI (10 + q) → (u = t ∧ q = p) ∨ (u ≠ t ∧ q ≠ p ∧ g (50 + u) = nI (10 + q)) := by
    intro u q h1 h2 h3
    rw [o1 u h1] at h3
    by_cases c1 : u = t
    · rw [if_pos c1, nI_inj (by omega) (by omega)] at h3
      exact Or.inl ⟨c1, by omega⟩
    · rw [if_neg c1] at h3
      by_cases c2 : g (50 + u) = nI (10 + p)
      · rw [if_pos c2] at h3
        obtain ⟨⟨k, k1, k2⟩, _⟩ := b u h1
        rw [k2, nI_inj (by omega) (by omega)] at h3
        omega
      · rw [if_neg c2] at h3
        refine Or.inr ⟨c1, fun e => ?_, h3⟩
        subst e
        exact c2 h3
  refine ⟨⟨a1, a2, a3, a4, m, a5, by rw [o2 4 (by omega), a6]⟩, fun u hu => ?_, fun u u' q h1 h2 h3 h4 h5 => ?_, fun q hq => ?_, fun u h1 h2 => ?_, fun q h1 h2 => ?_, z'⟩
  · unfold gT
    rw [o2 (11 + u) (by omega), o2 (19 + u) (by omega), o2 (27 + u) (by omega), o1 u hu]
    obtain ⟨x1, x2, x3, x4⟩ := b u hu
    refine ⟨x1, x2, x3, ?_⟩
    by_cases c1 : u = t
    · rw [if_pos c1]; exact Or.inr ⟨p, hp, rfl⟩
    · rw [if_neg c1]
      by_cases c2 : g (50 + u) = nI (10 + p)
      · rw [if_pos c2]; exact Or.inl rfl
      · rw [if_neg c2]; exact x4
  · rcases w u q h1 h3 h4 with ⟨q1, q2⟩ | ⟨q1, q2, q3⟩
    · rcases w u' q h2 h3 h5 with ⟨q4, q5⟩ | ⟨q4, q5, q6⟩
      · omega
      · exact absurd q2 q5
    · rcases w u' q h2 h3 h5 with ⟨q4, q5⟩ | ⟨q4, q5, q6⟩
      · exact absurd q5 q2
      · exact c u u' q h1 h2 h3 q3 q6
  · unfold gP
    rw [o2 (35 + q) (by omega), o2 (66 + q) (by omega), o2 (41 + q) (by omega)]
    exact d q hq
  · rw [o2 (19 + u) (by omega), o2 (27 + u) (by omega)]
    exact e u h1 h2
  · rw [o2 (66 + q) (by omega)]
    exact f q h1 h2
