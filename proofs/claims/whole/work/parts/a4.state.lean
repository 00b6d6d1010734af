/-! the parser's state: a fault, or where the current token is lexed from -/
def tK (B : Nat → Nat) (n p : Nat) : Nat := (tkF B n p).1
def tA (B : Nat → Nat) (n p : Nat) : Nat := (tkF B n p).2.1
def tE (B : Nat → Nat) (n p : Nat) : Nat := (tkF B n p).2.2
def tV (B : Nat → Nat) (n p : Nat) : Nat := nvF B (tA B n p) (tE B n p - tA B n p)
def psF (B : Nat → Nat) (n p : Nat) : Sum (Nat × Nat) Nat := if tK B n p = 131 then .inl (1, tA B n p) else .inr p
def nxF (B : Nat → Nat) (n : Nat) : Sum (Nat × Nat) Nat → Sum (Nat × Nat) Nat
  | .inl f => .inl f
  | .inr p => psF B n (tE B n p)
def faF (B : Nat → Nat) (n k : Nat) : Sum (Nat × Nat) Nat → Sum (Nat × Nat) Nat
  | .inl f => .inl f
  | .inr p => .inl (k, tA B n p)
/-- the kind that stands here; behind a fault 131 -/
def kiF (B : Nat → Nat) (n : Nat) : Sum (Nat × Nat) Nat → Nat
  | .inl _ => 131
  | .inr p => tK B n p
def exF (B : Nat → Nat) (n w : Nat) (x : Sum (Nat × Nat) Nat) : Sum (Nat × Nat) Nat := if kiF B n x = w then nxF B n x else faF B n 2 x
def vaF (B : Nat → Nat) (n : Nat) : Sum (Nat × Nat) Nat → Nat
  | .inl _ => 0
  | .inr p => tV B n p
def nuF (B : Nat → Nat) (n lo hi : Nat) (x : Sum (Nat × Nat) Nat) : Sum (Nat × Nat) Nat := if kiF B n x = 128 then (if lo ≤ vaF B n x ∧ vaF B n x ≤ hi then nxF B n x else faF B n 3 x) else faF B n 2 x
theorem tk_spec {B : Nat → Nat} {n p : Nat} (hp : p ≤ n) (hB : ∀ k, k < n → B k < 256) : p ≤ tA B n p ∧ tA B n p ≤ n ∧ tA B n p ≤ tE B n p ∧ tE B n p ≤ n ∧ (tK B n p ≠ 129 → tA B n p < tE B n p) ∧ tK B n p < 256 ∧ (tK B n p = 128 → tV B n p < 1000) := by
  obtain ⟨z1, z2, z3, z4⟩ := adv_spec (P := isBl B) (n := n) _ p rfl hp
  unfold tV tK tA tE tkF
  generalize adv (isBl B) n p = a at z1 z2 z3 z4 ⊢
  by_cases c1 : n ≤ a
  · simp only [if_pos c1]
    exact ⟨z1, z2, Nat.le_refl _, z2, fun h => absurd rfl h, by omega, fun h => by omega⟩
  · simp only [if_neg c1]
    by_cases c2 : isLe B a = true
    · simp only [if_pos c2]
      obtain ⟨u1, u2, u3, u4⟩ := adv_spec (P := isLe B) (n := n) _ a rfl z2
      have ne : adv (isLe B) n a ≠ a := fun e => u3 (by rw [e]; exact ⟨by omega, c2⟩)
      have := wk_ne (B := B) (a := a) (b := adv (isLe B) n a)
      exact ⟨z1, z2, u1, u2, fun _ => by omega, by omega, fun h => by omega⟩
    · simp only [if_neg c2]
      by_cases c3 : isDi B a = true
      · simp only [if_pos c3]
        obtain ⟨u1, u2, u3, u4⟩ := adv_spec (P := isDi B) (n := n) _ a rfl z2
        have ne : adv (isDi B) n a ≠ a := fun e => u3 (by rw [e]; exact ⟨by omega, c3⟩)
        refine ⟨z1, z2, u1, u2, fun _ => by omega, by split <;> omega, fun h => ?_⟩
        by_cases c4 : adv (isDi B) n a - a ≤ 3
        · have hv := nv_le (B := B) (a := a) (m := adv (isDi B) n a - a) (fun j hj => by
            have := u4 (a + j) (by omega) (by omega)
            unfold isDi at this
            simpa using this) c4
          have hv2 : (10 : Nat) ^ (adv (isDi B) n a - a) ≤ 10 ^ 3 := Nat.pow_le_pow_right (by omega) c4
          omega
        · simp only [if_neg c4] at h; omega
      · simp only [if_neg c3]
        have hb := hB a (by omega)
        by_cases c4 : isSg (B a) = true
        · simp only [if_pos c4]
          have := sg_le c4
          exact ⟨z1, z2, by omega, by omega, fun _ => by omega, by omega, fun h => by omega⟩
        · simp only [if_neg c4]
          exact ⟨z1, z2, by omega, by omega, fun _ => by omega, by omega, fun h => by omega⟩
/-- the class's reader stands at x -/
def CAt (B : Nat → Nat) (n : Nat) (x : Sum (Nat × Nat) Nat) (R : Nat → Int32) : Prop := R 5 = nI n ∧ match x with
  | .inl f => R 2 = nI f.1 ∧ R 3 = nI f.2 ∧ R 7 = nI 131 ∧ 1 ≤ f.1 ∧ f.1 ≤ 4 ∧ f.2 ≤ n
  | .inr p => p ≤ n ∧ tK B n p ≠ 131 ∧ R 2 = 0 ∧ R 3 = -1 ∧ R 7 = nI (tK B n p) ∧ R 8 = nI (tA B n p) ∧ R 6 = nI (tE B n p) ∧ (tK B n p = 128 → R 9 = nI (tV B n p))
def rdK (R R' : Nat → Int32) : Prop := ∀ k, k ≠ 2 → k ≠ 3 → k ≠ 6 → k ≠ 7 → k ≠ 8 → k ≠ 9 → R' k = R k
/-- the tape of the text -/
def tpC (B : Nat → Nat) (n : Nat) (M : pm_M) : Prop := n ≤ 900 ∧ ∀ k, k < n → M.1 14 k = nI (B k) ∧ B k < 256
theorem CAt_st {B : Nat → Nat} {n p : Nat} {R R' : Nat → Int32} (hp : p ≤ n) (hB : ∀ k, k < n → B k < 256) (h5 : R 5 = nI n) (h3 : R 3 = -1) (h : tkR B n p R R') : CAt B n (psF B n p) R' := by
  obtain ⟨h1, h2, h4, h6, h7, h8⟩ := h
  obtain ⟨k1, k2, k3, k4, k5, k6, k7⟩ := tk_spec hp hB
  unfold psF
  by_cases c : tK B n p = 131
  · rw [if_pos c]
    obtain ⟨g1, g2, _⟩ := h7 c
    exact ⟨by rw [h1 5 (by decide) (by decide) (by decide) (by decide) (by decide) (by decide), h5], g1, g2, by rw [h2]; unfold tK at c; rw [c], Nat.le_refl _, by omega, k2⟩
  · rw [if_neg c]
    obtain ⟨g1, g2, g3⟩ := h6 c
    exact ⟨by rw [h1 5 (by decide) (by decide) (by decide) (by decide) (by decide) (by decide), h5], hp, c, g1, by rw [g2, h3], h2, h4, g3, h8⟩
theorem sp_stepX {d : Nat} {s : pm_S} {M : pm_M} {B : Nat → Nat} {n : Nat} {x : Sum (Nat × Nat) Nat} {Q : pm_S → pm_M → Prop} (hd : 4 ≤ d) (ht : tpC B n M) (hc : CAt B n x (M.1 1))
    (hq : ∀ R', CAt B n (nxF B n x) R' → rdK (M.1 1) R' → Q s (pm_ri M 1 R')) : cV d yR_step [.ref 1] s M Q := by
  cases x with
  | inl f =>
    obtain ⟨d, rfl⟩ : ∃ e, d = e + 1 := ⟨d - 1, by omega⟩
    obtain ⟨h5, h2, h3, h7, g1, g2, g3⟩ := hc
    refine enR_step (br_f (by rw [h2, lI 0, nI_inj (by omega) (by omega)]; omega) ?_)
    have := hq (M.1 1) ⟨h5, h2, h3, h7, g1, g2, g3⟩ (fun k _ _ _ _ _ _ => rfl)
    rw [ri_self] at this
    exact this
  | inr p =>
    obtain ⟨h5, hp, hk, h2, h3, h7, h8, h6, h9⟩ := hc
    have hB : ∀ k, k < n → B k < 256 := fun k hk => (ht.2 k hk).2
    obtain ⟨k1, k2, k3, k4, k5, k6, k7⟩ := tk_spec hp hB
    exact sp_step hd ht.1 k4 ht.2 h2 h5 h6 (fun R' hR => hq R' (CAt_st k4 hB h5 h3 hR) hR.1)
theorem sp_failX {d : Nat} {s : pm_S} {M : pm_M} {B : Nat → Nat} {n k : Nat} {x : Sum (Nat × Nat) Nat} {Q : pm_S → pm_M → Prop} (hd : 1 ≤ d) (ht : tpC B n M) (h1 : 1 ≤ k) (h4 : k ≤ 4) (hc : CAt B n x (M.1 1))
    (hq : ∀ R', CAt B n (faF B n k x) R' → rdK (M.1 1) R' → Q s (pm_ri M 1 R')) : cV d yR_fail [.ref 1, .int (nI k)] s M Q := by
  obtain ⟨d, rfl⟩ : ∃ e, d = e + 1 := ⟨d - 1, by omega⟩
  cases x with
  | inl f =>
    obtain ⟨h5, h2, h3, h7, g1, g2, g3⟩ := hc
    refine enR_fail (br_f (by rw [h2, lI 0, nI_inj (by omega) (by omega)]; omega) ?_)
    rw [si_ri]
    exact hq _ ⟨by rw [row_ne (by decide), h5], by rw [row_ne (by decide), h2], by rw [row_ne (by decide), h3], row_eq, g1, g2, g3⟩ (fun k _ _ _ k7 _ _ => row_ne k7)
  | inr p =>
    obtain ⟨h5, hp, hk, h2, h3, h7, h8, h6, h9⟩ := hc
    obtain ⟨k1, k2, k3, k4, k5, k6, k7⟩ := tk_spec hp (fun k hk => (ht.2 k hk).2)
    refine enR_fail (br_t h2 ?_)
    rw [si_ri (M := M), ri_si, ri_si, h8]
    exact hq _ ⟨by rw [row_ne (by decide), row_ne (by decide), row_ne (by decide), h5], by rw [row_ne (by decide), row_ne (by decide), row_eq], by rw [row_ne (by decide), row_eq], row_eq, h1, h4, k2⟩ (fun k k2 k3 _ k7 _ _ => by rw [row_ne k7, row_ne k3, row_ne k2])
theorem CAt_k {B : Nat → Nat} {n : Nat} {x : Sum (Nat × Nat) Nat} {R : Nat → Int32} (hB : ∀ k, k < n → B k < 256) (h : CAt B n x R) : R 7 = nI (kiF B n x) ∧ kiF B n x < 256 := by
  cases x with
  | inl f => exact ⟨h.2.2.2.1, by show 131 < 256; omega⟩
  | inr p => exact ⟨h.2.2.2.2.2.1, (tk_spec h.2.1 hB).2.2.2.2.2.1⟩
theorem sp_expectX {d : Nat} {s : pm_S} {M : pm_M} {B : Nat → Nat} {n w : Nat} {x : Sum (Nat × Nat) Nat} {Q : pm_S → pm_M → Prop} (hd : 5 ≤ d) (ht : tpC B n M) (hw : w < 256) (hc : CAt B n x (M.1 1))
    (hq : ∀ R', CAt B n (exF B n w x) R' → rdK (M.1 1) R' → Q s (pm_ri M 1 R')) : cV d yR_expect [.ref 1, .int (nI w)] s M Q := by
  obtain ⟨d, rfl⟩ : ∃ e, d = e + 1 := ⟨d - 1, by omega⟩
  obtain ⟨e7, l7⟩ := CAt_k (fun k hk => (ht.2 k hk).2) hc
  unfold exF at hq
  refine enR_expect ?_
  rw [e7, nI_inj (by omega) (by omega)]
  refine br_c (fun z => ?_) (fun z => ?_)
  · rw [if_pos z] at hq
    exact sp_stepX (by omega) ht hc hq
  · rw [if_neg z] at hq
    exact sp_failX (k := 2) (by omega) ht (by omega) (by omega) hc hq
theorem CAt_v {B : Nat → Nat} {n : Nat} {x : Sum (Nat × Nat) Nat} {R : Nat → Int32} (hB : ∀ k, k < n → B k < 256) (h : CAt B n x R) (h8 : kiF B n x = 128) : R 9 = nI (vaF B n x) ∧ vaF B n x < 1000 := by
  cases x with
  | inl f => exact absurd h8 (by show ¬ 131 = 128; omega)
  | inr p => exact ⟨h.2.2.2.2.2.2.2.2 h8, (tk_spec h.2.1 hB).2.2.2.2.2.2 h8⟩
theorem sp_numX {d : Nat} {s : pm_S} {M : pm_M} {B : Nat → Nat} {n lo hi : Nat} {x : Sum (Nat × Nat) Nat} {Q : Int32 → pm_S → pm_M → Prop} (hd : 5 ≤ d) (ht : tpC B n M) (hl : lo < 1000) (hh : hi < 1000) (hc : CAt B n x (M.1 1))
    (hq : ∀ R', CAt B n (nuF B n lo hi x) R' → rdK (M.1 1) R' → Q (nI (if kiF B n x = 128 ∧ lo ≤ vaF B n x ∧ vaF B n x ≤ hi then vaF B n x else lo)) s (pm_ri M 1 R')) : cI d yR_readNumber [.ref 1, .int (nI lo), .int (nI hi)] s M Q := by
  obtain ⟨d, rfl⟩ : ∃ e, d = e + 1 := ⟨d - 1, by omega⟩
  obtain ⟨e7, l7⟩ := CAt_k (fun k hk => (ht.2 k hk).2) hc
  unfold nuF at hq
  refine enR_readNumber ?_
  rw [e7, lI 128, nI_inj (by omega) (by omega)]
  refine br_c (fun z => ?_) (fun z => ?_)
  · obtain ⟨e9, l9⟩ := CAt_v (fun k hk => (ht.2 k hk).2) hc z
    simp only [if_pos z] at hq
    rw [e9, nI_ltP (by omega) (by omega), nI_leP (by omega) (by omega)]
    refine br_c (fun z1 => ?_) (fun z1 => br_c (fun z2 => ?_) (fun z2 => ?_))
    · simp only [if_neg (show ¬ (lo ≤ vaF B n x ∧ vaF B n x ≤ hi) by omega), if_neg (show ¬ (kiF B n x = 128 ∧ lo ≤ vaF B n x ∧ vaF B n x ≤ hi) by omega)] at hq
      exact sp_failX (k := 3) (by omega) ht (by omega) (by omega) hc hq
    · simp only [if_pos (show lo ≤ vaF B n x ∧ vaF B n x ≤ hi by omega), if_pos (show kiF B n x = 128 ∧ lo ≤ vaF B n x ∧ vaF B n x ≤ hi by omega)] at hq
      exact sp_stepX (by omega) ht hc hq
    · simp only [if_neg (show ¬ (lo ≤ vaF B n x ∧ vaF B n x ≤ hi) by omega), if_neg (show ¬ (kiF B n x = 128 ∧ lo ≤ vaF B n x ∧ vaF B n x ≤ hi) by omega)] at hq
      exact sp_failX (k := 3) (by omega) ht (by omega) (by omega) hc hq
  · simp only [if_neg z, if_neg (show ¬ (kiF B n x = 128 ∧ lo ≤ vaF B n x ∧ vaF B n x ≤ hi) by omega)] at hq
    exact sp_failX (k := 2) (by omega) ht (by omega) (by omega) hc hq
