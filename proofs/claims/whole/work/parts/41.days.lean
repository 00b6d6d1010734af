theorem heldF_none {g : Nat → Int32} {T p : Nat} (h : heldF g T p = none) : ∀ t, t < T → ¬ g (50 + t) = nI (10 + p) := by
  intro t ht e
  rcases fst_cases (fun t => decide (g (50 + t) = nI (10 + p))) T with ⟨_, h2⟩ | ⟨i, h1, _, _, _⟩
  · have := h2 t ht
    simp [e] at this
  · unfold heldF at h; rw [h1] at h; cases h
/-- where a thing can be put -/
theorem Vs_where {g : Nat → Int32} {N T P t : Nat} {v : Int32} (hV : Vd g N T P) (hs : Vs g N T P) (ht : t < T) (hv : (∃ k : Nat, k < N ∧ v = nI k) ∨ (∃ p : Nat, p < P ∧ v = nI (10 + p) ∧ ∀ t', t' < T → t' ≠ t → ¬ g (50 + t') = nI (10 + p)) ∨ v = nI 99) : Vs (pm_row g (50 + t) v) N T P := by
  obtain ⟨h1, h2, h3, h4, h5, h6, h7, _⟩ := hV
  obtain ⟨a1, a2, a3, a4⟩ := hs
  refine ⟨?_, ?_, ?_, ?_⟩
  · rw [row_ne (by omega)]; exact a1
  · intro j hj
    by_cases e : j = t
    · subst e
      rw [row_eq]
      rcases hv with q | ⟨p, q1, q2, _⟩ | q
      · exact Or.inl q
      · exact Or.inr (Or.inl ⟨p, q1, q2⟩)
      · exact Or.inr (Or.inr q)
    · rw [row_ne (by omega)]; exact a2 j hj
  · intro i j p hi hj hp e1 e2
    by_cases ei : i = t
    · by_cases ej : j = t
      · omega
      · subst ei
        rw [row_eq] at e1
        rw [row_ne (by omega)] at e2
        rcases hv with ⟨k, q, q'⟩ | ⟨p', q1, q2, q3⟩ | q
        · rw [e1, nI_inj (by omega) (by omega)] at q'; omega
        · rw [e1, nI_inj (by omega) (by omega)] at q2
          have : p = p' := by omega
          subst this
          exact absurd e2 (q3 j hj ej)
        · rw [e1, nI_inj (by omega) (by omega)] at q; omega
    · by_cases ej : j = t
      · subst ej
        rw [row_eq] at e2
        rw [row_ne (by omega)] at e1
        rcases hv with ⟨k, q, q'⟩ | ⟨p', q1, q2, q3⟩ | q
        · rw [e2, nI_inj (by omega) (by omega)] at q'; omega
        · rw [e2, nI_inj (by omega) (by omega)] at q2
          have : p = p' := by omega
          subst this
          exact absurd e1 (q3 i hi ei)
        · rw [e2, nI_inj (by omega) (by omega)] at q; omega
      · rw [row_ne (by omega)] at e1 e2
        exact a3 i j p hi hj hp e1 e2
  · intro p hp
    rw [row_ne (by omega), row_ne (by omega)]; exact a4 p hp
theorem Vs_out {g : Nat → Int32} {N T P k : Nat} {v : Int32} (hV : Vd g N T P) (hs : Vs g N T P) (hk : k < 47 ∨ (48 ≤ k ∧ k < 50) ∨ (58 ≤ k ∧ k < 66) ∨ 78 ≤ k) : Vs (pm_row g k v) N T P := by
  obtain ⟨h1, h2, h3, h4, h5, h6, h7, _⟩ := hV
  obtain ⟨a1, a2, a3, a4⟩ := hs
  refine ⟨?_, ?_, ?_, ?_⟩
  · rw [row_ne (by omega)]; exact a1
  · intro j hj
    rw [row_ne (by omega)]; exact a2 j hj
  · intro i j p hi hj hp
    rw [row_ne (by omega), row_ne (by omega)]
    exact a3 i j p hi hj hp
  · intro p hp
    rw [row_ne (by omega), row_ne (by omega)]; exact a4 p hp
theorem Vs_mark {g : Nat → Int32} {N T P p k : Nat} (hV : Vd g N T P) (hs : Vs g N T P) (hp : p < P) (hk : k ≤ 9) : Vs (pm_row g (66 + p) (nI k)) N T P := by
  obtain ⟨h1, h2, h3, h4, h5, h6, h7, _⟩ := hV
  obtain ⟨a1, a2, a3, a4⟩ := hs
  refine ⟨?_, ?_, ?_, ?_⟩
  · rw [row_ne (by omega)]; exact a1
  · intro j hj
    rw [row_ne (by omega)]; exact a2 j hj
  · intro i j p hi hj hp
    rw [row_ne (by omega), row_ne (by omega)]
    exact a3 i j p hi hj hp
  · intro q hq
    rw [row_ne (j := 72 + q) (by omega)]
    by_cases e : q = p
    · subst e; rw [row_eq]; exact ⟨⟨k, hk, rfl⟩, (a4 q hq).2⟩
    · rw [row_ne (by omega)]; exact a4 q hq
theorem Vs_borne {g : Nat → Int32} {N T P p k : Nat} (hV : Vd g N T P) (hs : Vs g N T P) (hp : p < P) (hk : k ≤ 99) : Vs (pm_row g (72 + p) (nI k)) N T P := by
  obtain ⟨h1, h2, h3, h4, h5, h6, h7, _⟩ := hV
  obtain ⟨a1, a2, a3, a4⟩ := hs
  refine ⟨?_, ?_, ?_, ?_⟩
  · rw [row_ne (by omega)]; exact a1
  · intro j hj
    rw [row_ne (by omega)]; exact a2 j hj
  · intro i j p hi hj hp
    rw [row_ne (by omega), row_ne (by omega)]
    exact a3 i j p hi hj hp
  · intro q hq
    rw [row_ne (j := 66 + q) (by omega)]
    by_cases e : q = p
    · subst e; rw [row_eq]; exact ⟨(a4 q hq).1, ⟨k, hk, rfl⟩⟩
    · rw [row_ne (by omega)]; exact a4 q hq
theorem Vs_leave {g : Nat → Int32} {N T P p t : Nat} (hV : Vd g N T P) (hs : Vs g N T P) (hp : p < P) (hh : heldF g T p = some t) : Vs (leaveF g T p) N T P := by
  have := hV.2.2.2.2.2.2.2.2.2.1 p hp
  unfold leaveF
  rw [hh]
  exact Vs_where hV hs (heldF_lt hh).1 (Or.inl this.1)
theorem Vs_fetch {g : Nat → Int32} {N T P p t : Nat} (hV : Vd g N T P) (hs : Vs g N T P) (hp : p < P) (ht : t < T) (hh : heldF g T p = none) : Vs (fetchF g p t) N T P :=
  Vs_where hV hs ht (Or.inr (Or.inl ⟨p, hp, rfl, fun t' h' _ => heldF_none hh t' h'⟩))
theorem Vs_swap {g : Nat → Int32} {N T P p q a b : Nat} (hV : Vd g N T P) (hs : Vs g N T P) (hp : p < P) (hq : q < P) (hpq : p ≠ q) (ha : heldF g T p = some a) (hb : heldF g T q = some b) : Vs (swapF g T p q) N T P := by
  have h6 := hV.2.2.2.2.2.1
  have h7 := hV.2.2.2.2.2.2.1
  obtain ⟨ha1, ha2⟩ := heldF_lt ha
  obtain ⟨hb1, hb2⟩ := heldF_lt hb
  have hab : a ≠ b := by
    intro e
    subst e
    rw [ha2, nI_inj (by omega) (by omega)] at hb2
    omega
  obtain ⟨a1, a2, a3, a4⟩ := hs
  unfold swapF
  rw [ha, hb]
  dsimp only
  have ev : ∀ j, pm_row (pm_row g (50 + a) (nI (10 + q))) (50 + b) (nI (10 + p)) (50 + j) = if j = b then nI (10 + p) else if j = a then nI (10 + q) else g (50 + j) := by
    intro j
    by_cases e : j = b
    · subst e; rw [row_eq, if_pos rfl]
    · rw [row_ne (by omega), if_neg e]
      by_cases e2 : j = a
      · subst e2; rw [row_eq, if_pos rfl]
      · rw [row_ne (by omega), if_neg e2]
  have key : ∀ j r : Nat, j < T → r < P → (pm_row (pm_row g (50 + a) (nI (10 + q))) (50 + b) (nI (10 + p)) (50 + j) = nI (10 + r) ↔ (j = b ∧ r = p) ∨ (j = a ∧ r = q) ∨ (j ≠ b ∧ j ≠ a ∧ g (50 + j) = nI (10 + r))) := by
    intro j r hj hr
    rw [ev]
    by_cases e : j = b
    · rw [if_pos e, nI_inj (by omega) (by omega)]; omega
    · rw [if_neg e]
      by_cases e2 : j = a
      · rw [if_pos e2, nI_inj (by omega) (by omega)]; omega
      · rw [if_neg e2]
        simp [e, e2]
  refine ⟨?_, ?_, ?_, ?_⟩
  · rw [row_ne (by omega), row_ne (by omega)]; exact a1
  · intro j hj
    rw [ev]
    by_cases e : j = b
    · rw [if_pos e]; exact Or.inr (Or.inl ⟨p, hp, rfl⟩)
    · rw [if_neg e]
      by_cases e2 : j = a
      · rw [if_pos e2]; exact Or.inr (Or.inl ⟨q, hq, rfl⟩)
      · rw [if_neg e2]; exact a2 j hj
  · intro i j r hi hj hr e1 e2
    rw [key i r hi hr] at e1
    rw [key j r hj hr] at e2
    have fact : ∀ x y : Nat, x < T → g (50 + x) = nI (10 + y) → y < P → (y = p → x = a) ∧ (y = q → x = b) := by
      intro x y hx e hy
      refine ⟨fun z => ?_, fun z => ?_⟩
      · subst z; exact a3 x a y hx ha1 hy e ha2
      · subst z; exact a3 x b y hx hb1 hy e hb2
    rcases e1 with ⟨p1, p2⟩ | ⟨p1, p2⟩ | ⟨p1, p2, p3⟩
    · rcases e2 with ⟨q1, q2⟩ | ⟨q1, q2⟩ | ⟨q1, q2, q3⟩
      · omega
      · omega
      · exact absurd ((fact j r hj q3 hr).1 p2) q2
    · rcases e2 with ⟨q1, q2⟩ | ⟨q1, q2⟩ | ⟨q1, q2, q3⟩
      · omega
      · omega
      · exact absurd ((fact j r hj q3 hr).2 p2) q1
    · rcases e2 with ⟨q1, q2⟩ | ⟨q1, q2⟩ | ⟨q1, q2, q3⟩
      · exact absurd ((fact i r hi p3 hr).1 q2) p2
      · exact absurd ((fact i r hi p3 hr).2 q2) p1
      · exact a3 i j r hi hj hr p3 q3
  · intro r hr
    rw [row_ne (by omega), row_ne (by omega), row_ne (by omega), row_ne (by omega)]; exact a4 r hr
