/-! the reference's parser stands at x -/
def kdL : List Nat := [128, 129, 130, 131, 40, 41, 42, 43, 45, 58, 59, 60, 61, 62, 91, 93, 200, 201, 202, 203, 204, 205, 206, 207, 208, 209, 210, 211, 212, 213, 214, 215, 216, 217, 218, 219, 220]
theorem kd_in : ∀ k, k < 256 → ((128 ≤ k ∧ k ≤ 131) ∨ (200 ≤ k ∧ k ≤ 220) ∨ isSg k = true) → k ∈ kdL := by decide +kernel
theorem rk_inj : ∀ k, k ∈ kdL → ∀ w, w ∈ kdL → rkK k = rkK w → k = w := by decide +kernel
theorem rk_le : ∀ k, k ∈ kdL → rkK k < 100 := by decide +kernel
theorem tk_in {B : Nat → Nat} {n p : Nat} (hB : ∀ k, k < n → B k < 256) : tK B n p ∈ kdL := by
  unfold tK tkF
  generalize adv (isBl B) n p = a
  by_cases c1 : n ≤ a
  · simp only [if_pos c1]; decide
  · simp only [if_neg c1]
    by_cases c2 : isLe B a = true
    · simp only [if_pos c2]
      have := wk_ne (B := B) (a := a) (b := adv (isLe B) n a)
      exact kd_in _ (by omega) (by omega)
    · simp only [if_neg c2]
      by_cases c3 : isDi B a = true
      · simp only [if_pos c3]
        split <;> decide
      · simp only [if_neg c3]
        by_cases c4 : isSg (B a) = true
        · simp only [if_pos c4]
          exact kd_in _ (hB a (by omega)) (Or.inr (Or.inr c4))
        · simp only [if_neg c4]; decide
def MAt (B : Nat → Nat) (n : Nat) (x : Sum (Nat × Nat) Nat) (R : Nat → Int32) : Prop := R 8 = nI n ∧ match x with
  | .inl f => 1 ≤ f.1 ∧ f.1 ≤ 4 ∧ f.2 ≤ n ∧ ((R 11 = nI f.1 ∧ R 12 = nI f.2) ∨ (f.1 = 1 ∧ R 11 = 0 ∧ R 9 = nI 25 ∧ R 6 = nI f.2))
  | .inr p => p ≤ n ∧ tK B n p ≠ 131 ∧ R 11 = 0 ∧ R 9 = nI (rkK (tK B n p)) ∧ R 6 = nI (tA B n p) ∧ R 7 = nI (tE B n p) ∧ (tK B n p = 128 → R 10 = nI (tV B n p))
def tpM (B : Nat → Nat) (n : Nat) (M : pm_M) : Prop := n ≤ 900 ∧ ∀ k, k < n → M.1 162 k = nI (B k) ∧ B k < 256
def mdK (R R' : Nat → Int32) : Prop := ∀ k, k ≠ 6 → k ≠ 7 → k ≠ 9 → k ≠ 10 → k ≠ 11 → k ≠ 12 → R' k = R k
theorem sp_isX {d : Nat} {s : pm_S} {M : pm_M} {B : Nat → Nat} {n w m : Nat} {x : Sum (Nat × Nat) Nat} {Q : Int32 → pm_S → pm_M → Prop} (hd : 1 ≤ d) (ht : tpM B n M) (hw : w ∈ kdL) (h131 : w ≠ 131) (hm : rkK w = m) (hc : MAt B n x (M.1 159)) (hq1 : kiF B n x = w → Q 1 s M) (hq0 : kiF B n x ≠ w → Q 0 s M) : cI d yM_is [.ref 159, .int (nI m)] s M Q := by
  obtain ⟨d, rfl⟩ : ∃ e, d = e + 1 := ⟨d - 1, by omega⟩
  refine enM_is ?_
  subst hm
  have lw := rk_le w hw
  cases x with
  | inl f =>
    obtain ⟨h8, g1, g2, g3, h | ⟨g4, h11, h9, h6⟩⟩ := hc
    · rw [if_neg (by rw [h.1, lI 0, nI_inj (by omega) (by omega)]; omega)]
      exact hq0 (fun e => h131 e.symm)
    · rw [if_pos h11, h9, if_neg]
      · exact hq0 (fun e => h131 e.symm)
      · rw [nI_inj (by omega) (by omega)]
        intro e
        exact h131 (rk_inj w hw 131 (by decide) (by rw [← e]; decide))
  | inr p =>
    obtain ⟨h8, hp, hk, h11, h9, h6, h7, h10⟩ := hc
    have hi := tk_in (n := n) (p := p) (fun k hk => (ht.2 k hk).2)
    have lk := rk_le _ hi
    rw [if_pos h11, h9]
    simp only [nI_inj (a := rkK (tK B n p)) (b := rkK w) (by omega) (by omega)]
    by_cases c : tK B n p = w
    · rw [if_pos (by rw [c])]; exact hq1 c
    · rw [if_neg (fun e => c (rk_inj _ hi w hw e))]; exact hq0 c
theorem MAt_st {B : Nat → Nat} {n p : Nat} {R R' : Nat → Int32} (hp : p ≤ n) (hB : ∀ k, k < n → B k < 256) (h8 : R 8 = nI n) (h11 : R 11 = 0) (h : tnR B n p R R') : MAt B n (psF B n p) R' := by
  obtain ⟨h1, h2, h4, h6, h7⟩ := h
  obtain ⟨k1, k2, k3, k4, k5, k6, k7⟩ := tk_spec hp hB
  have e11 : R' 11 = 0 := by rw [h1 11 (by decide) (by decide) (by decide) (by decide), h11]
  have e8 : R' 8 = nI n := by rw [h1 8 (by decide) (by decide) (by decide) (by decide), h8]
  unfold psF
  by_cases c : tK B n p = 131
  · rw [if_pos c]
    exact ⟨e8, Nat.le_refl _, by show 1 ≤ 4; omega, k2, Or.inr ⟨rfl, e11, by rw [h2]; unfold tK at c; rw [c]; rfl, h4⟩⟩
  · rw [if_neg c]
    exact ⟨e8, hp, c, e11, h2, h4, h6, h7⟩
theorem sp_nextX {d : Nat} {s : pm_S} {M : pm_M} {B : Nat → Nat} {n p : Nat} {Q : pm_S → pm_M → Prop} (hd : 3 ≤ d) (ht : tpM B n M) (hc : MAt B n (.inr p) (M.1 159))
    (hq : ∀ R', MAt B n (nxF B n (.inr p)) R' → mdK (M.1 159) R' → Q s (pm_ri M 159 R')) : cV d yM_next [.ref 159] s M Q := by
  obtain ⟨h8, hp, hk, h11, h9, h6, h7, h10⟩ := hc
  have hB : ∀ k, k < n → B k < 256 := fun k hk => (ht.2 k hk).2
  obtain ⟨k1, k2, k3, k4, k5, k6, k7⟩ := tk_spec hp hB
  exact sp_next hd ht.1 k4 ht.2 h8 h7 (fun R' hR => hq R' (MAt_st k4 hB h8 h11 hR) (fun k k6 k7 k9 k10 _ _ => hR.1 k k6 k7 k9 k10))
theorem sp_failsX {d : Nat} {s : pm_S} {M : pm_M} {B : Nat → Nat} {n k : Nat} {x : Sum (Nat × Nat) Nat} {Q : pm_S → pm_M → Prop} (hd : 1 ≤ d) (ht : tpM B n M) (h1 : 1 ≤ k) (h4 : k ≤ 4) (hc : MAt B n x (M.1 159))
    (hq : ∀ R', MAt B n (faF B n k x) R' → mdK (M.1 159) R' → (∀ j, j ≠ 11 → j ≠ 12 → R' j = M.1 159 j) → R' 11 ≠ 0 → Q s (pm_ri M 159 R')) : cV d yM_fails [.ref 159, .int (nI k)] s M Q := by
  obtain ⟨d, rfl⟩ : ∃ e, d = e + 1 := ⟨d - 1, by omega⟩
  have nz : ∀ j : Nat, 1 ≤ j → j ≤ 4 → nI j ≠ 0 := fun j a b => by rw [lI 0, ne_eq, nI_inj (by omega) (by omega)]; omega
  cases x with
  | inl f =>
    obtain ⟨h8, g1, g2, g3, h | ⟨g4, h11, h9, h6⟩⟩ := hc
    · refine enM_fails (br_f (by rw [h.1]; exact nz _ g1 g2) ?_)
      have := hq (M.1 159) ⟨h8, g1, g2, g3, Or.inl h⟩ (fun k _ _ _ _ _ _ => rfl) (fun _ _ _ => rfl) (by rw [h.1]; exact nz _ g1 g2)
      rw [ri_self] at this
      exact this
    · refine enM_fails (br_t h11 ?_)
      rw [h9, if_pos (by decide), h6, si_ri (M := M), ri_si]
      refine hq _ ⟨by rw [row_ne (by decide), row_ne (by decide), h8], g1, g2, g3, Or.inl ⟨by rw [row_ne (by decide), row_eq, g4]; rfl, row_eq⟩⟩ (fun k _ _ _ _ k11 k12 => by rw [row_ne k12, row_ne k11]) (fun k k11 k12 => by rw [row_ne k12, row_ne k11]) (by rw [row_ne (by decide), row_eq]; decide)
  | inr p =>
    obtain ⟨h8, hp, hk, h11, h9, h6, h7, h10⟩ := hc
    have hB : ∀ k, k < n → B k < 256 := fun k hk => (ht.2 k hk).2
    obtain ⟨k1, k2, k3, k4, k5, k6, k7⟩ := tk_spec hp hB
    have hi := tk_in (n := n) (p := p) hB
    have lk := rk_le _ hi
    refine enM_fails (br_t h11 ?_)
    rw [h9, if_neg (by rw [lI 25, nI_inj (by omega) (by omega)]; exact fun e => hk (rk_inj _ hi 131 (by decide) (by rw [e]; decide))), h6, si_ri (M := M), ri_si]
    exact hq _ ⟨by rw [row_ne (by decide), row_ne (by decide), h8], h1, h4, k2, Or.inl ⟨by rw [row_ne (by decide), row_eq], row_eq⟩⟩ (fun k _ _ _ _ k11 k12 => by rw [row_ne k12, row_ne k11]) (fun k k11 k12 => by rw [row_ne k12, row_ne k11]) (by rw [row_ne (by decide), row_eq]; exact nz _ h1 h4)
theorem sp_eatsX {d : Nat} {s : pm_S} {M : pm_M} {B : Nat → Nat} {n w m : Nat} {x : Sum (Nat × Nat) Nat} {Q : Int32 → pm_S → pm_M → Prop} (hd : 4 ≤ d) (ht : tpM B n M) (hw : w ∈ kdL) (h131 : w ≠ 131) (hm : rkK w = m) (hc : MAt B n x (M.1 159)) (hq1 : kiF B n x = w → ∀ R', MAt B n (nxF B n x) R' → mdK (M.1 159) R' → Q 1 s (pm_ri M 159 R')) (hq0 : kiF B n x ≠ w → Q 0 s M) : cI d yM_eats [.ref 159, .int (nI m)] s M Q := by
  obtain ⟨d, rfl⟩ : ∃ e, d = e + 1 := ⟨d - 1, by omega⟩
  refine enM_eats (sp_isX (by omega) ht hw h131 hm hc (fun e => br_f (by decide) ?_) (fun e => br_t rfl (hq0 e)))
  cases x with
  | inl f => exact absurd e.symm h131
  | inr p => exact sp_nextX (by omega) ht hc (hq1 e)
def nuG (B : Nat → Nat) (n : Nat) (ok : Nat → Bool) (x : Sum (Nat × Nat) Nat) : Sum (Nat × Nat) Nat := if kiF B n x = 128 then (if ok (vaF B n x) = true then nxF B n x else faF B n 3 x) else faF B n 2 x
theorem nuF_G {B : Nat → Nat} {n lo hi : Nat} {x : Sum (Nat × Nat) Nat} : nuF B n lo hi x = nuG B n (fun v => decide (lo ≤ v ∧ v ≤ hi)) x := by
  unfold nuF nuG
  simp only [decide_eq_true_eq]
theorem sp_takesX {d : Nat} {s : pm_S} {M : pm_M} {B : Nat → Nat} {n : Nat} {ok : Nat → Bool} {x1 x2 : Int32} {x : Sum (Nat × Nat) Nat} {Q : Int32 → pm_S → pm_M → Prop} (hd : 4 ≤ d) (ht : tpM B n M) (hok : ∀ v, v < 1000 → ((x1.toInt64 ≤ (nI v).toInt64 ∧ (nI v).toInt64 ≤ x2.toInt64) ↔ ok v = true)) (hc : MAt B n x (M.1 159))
    (hq : ∀ r R', MAt B n (nuG B n ok x) R' → mdK (M.1 159) R' → (kiF B n x = 128 → r = nI (vaF B n x)) → (¬ (kiF B n x = 128 ∧ ok (vaF B n x) = true) → R' 11 ≠ 0) → Q r s (pm_ri M 159 R')) : cI d yM_takesN [.ref 159, .int x1, .int x2] s M Q := by
  obtain ⟨d, rfl⟩ : ∃ e, d = e + 1 := ⟨d - 1, by omega⟩
  unfold nuG at hq
  refine enM_takesN (sp_isX (w := 128) (m := 23) (by omega) ht (by decide) (by decide) (by decide) hc (fun e => br_f (by decide) ?_) (fun e => br_t rfl ?_))
  · simp only [if_pos e] at hq
    cases x with
    | inl f => exact absurd e (by show ¬ 131 = 128; omega)
    | inr p =>
      have hc2 := hc
      obtain ⟨h8, hp, hk, h11, h9, h6, h7, h10⟩ := hc2
      have e10 := h10 e
      have lv := (tk_spec hp (fun k hk => (ht.2 k hk).2)).2.2.2.2.2.2 e
      have ev : vaF B n (.inr p) = tV B n p := rfl
      rw [e10]
      refine sp_within2 (by omega) (fun z => br_f (by decide) (br_t h11 ?_)) (fun z => br_t rfl ?_)
      · have o := (hok _ lv).1 z
        rw [ev] at hq
        simp only [if_pos o] at hq
        exact sp_nextX (by omega) ht hc (fun R' a b => hq _ R' a b (fun _ => e10) (fun h => absurd ⟨e, o⟩ h))
      · have o : ¬ ok (tV B n p) = true := fun h => z ((hok _ lv).2 h)
        rw [ev] at hq
        simp only [if_neg o] at hq
        refine sp_failsX (k := 3) (by omega) ht (by omega) (by omega) hc (fun R' a b c nz => ?_)
        rw [ri_eq]
        refine br_f nz (hq _ R' a b (fun _ => by rw [c 10 (by decide) (by decide), e10]) (fun _ => nz))
  · simp only [if_neg e] at hq
    refine sp_failsX (k := 2) (by omega) ht (by omega) (by omega) hc (fun R' a b c nz => ?_)
    rw [ri_eq]
    exact br_f nz (hq _ R' a b (fun h => absurd h e) (fun _ => nz))
