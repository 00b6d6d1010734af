def xrF (N T P : Nat) (x : Nat → Int32) (D : Nat) : Nat → Int32 := itr (fun _ y => (rollF y N T P).1) D x
def rmF (N T P : Nat) (x : Nat → Int32) (i : Nat) : Nat → Int32 := (itr (roll1 N T P) i (x, 0)).1
theorem rmF_s {N T P i : Nat} {x : Nat → Int32} : rmF N T P x (i + 1) = if rmF N T P x i (50 + i) < 10 then pm_row (rmF N T P x i) (50 + i) (rollV N (rmF N T P x i (50 + i) + 1) (rollR (rmF N T P x i) N T P i (rmF N T P x i (50 + i) + 1))) else rmF N T P x i := by
  show (roll1 N T P i (itr (roll1 N T P) i (x, 0))).1 = _
  rw [roll1_eq]
  unfold rmF
  split <;> rfl
theorem rmF_T {N T P : Nat} {x : Nat → Int32} : rmF N T P x T = (rollF x N T P).1 := rfl
theorem xrF_s {N T P D : Nat} {x : Nat → Int32} : xrF N T P x (D + 1) = rmF N T P (xrF N T P x D) T := rfl
theorem rmF_hi {N T P i t : Nat} {x : Nat → Int32} (h : i ≤ t) : rmF N T P x i (50 + t) = x (50 + t) := by
  induction i with
  | zero => rfl
  | succ i ih =>
    rw [rmF_s]
    split
    · rw [row_ne (by omega)]; exact ih (by omega)
    · exact ih (by omega)
theorem rmF_lo {N T P i t : Nat} {x : Nat → Int32} (h : t < i) : rmF N T P x i (50 + t) = rmF N T P x (t + 1) (50 + t) := by
  induction i with
  | zero => omega
  | succ i ih =>
    by_cases e : t = i
    · rw [e]
    · rw [rmF_s]
      split
      · rw [row_ne (by omega)]; exact ih (by omega)
      · exact ih (by omega)
theorem rmF_keep {N T P i t : Nat} {x : Nat → Int32} (h : ¬ x (50 + t) < 10) : rmF N T P x i (50 + t) = x (50 + t) := by
  by_cases e : t < i
  · rw [rmF_lo e, rmF_s, rmF_hi (Nat.le_refl _), if_neg h, rmF_hi (Nat.le_refl _)]
  · exact rmF_hi (by omega)
theorem rmF_skip {N T P a b : Nat} {x : Nat → Int32} (hab : a ≤ b) (h : ∀ t, a ≤ t → t < b → ¬ x (50 + t) < 10) : rmF N T P x b = rmF N T P x a := by
  induction b with
  | zero => rw [show a = 0 by omega]
  | succ b ih =>
    by_cases e : a = b + 1
    · rw [e]
    · rw [rmF_s, rmF_hi (Nat.le_refl _), if_neg (h b (by omega) (by omega))]
      exact ih (by omega) (fun t h1 h2 => h t h1 (by omega))
theorem rmF_eqT {N T P i : Nat} {x : Nat → Int32} (h : i ≤ 8) : eqT x (rmF N T P x i) := by
  induction i with
  | zero => exact eqT_rf
  | succ i ih =>
    rw [rmF_s]
    split
    · exact eqT_row (ih (by omega)) (by omega)
    · exact ih (by omega)
theorem xrF_eqT {N T P D : Nat} {x : Nat → Int32} (h : T ≤ 8) : eqT x (xrF N T P x D) := by
  induction D with
  | zero => exact eqT_rf
  | succ D ih => rw [xrF_s]; exact eqT_tr ih (rmF_eqT h)
theorem xrF_keep {N T P D E t : Nat} {x : Nat → Int32} (hE : E ≤ D) (h : ¬ xrF N T P x E (50 + t) < 10) : xrF N T P x D (50 + t) = xrF N T P x E (50 + t) := by
  induction D with
  | zero => rw [show E = 0 by omega]
  | succ D ih =>
    by_cases e : E = D + 1
    · rw [e]
    · have q := ih (by omega)
      rw [xrF_s, rmF_keep (by rw [q]; exact h)]; exact q
theorem cnt_row {b b' : Nat → Bool} {n i : Nat} (hi : i < n) (h1 : b i = true) (h2 : b' i = false) (h3 : ∀ j, j ≠ i → b' j = b j) : cntF b n = cntF b' n + 1 := by
  have low : ∀ m, m ≤ i → cntF b' m = cntF b m := by
    intro m hm
    unfold cntF
    exact itr_congr (fun j hj x => by rw [h3 j (by omega)])
  induction n with
  | zero => omega
  | succ n ih =>
    have e : ∀ c : Nat → Bool, cntF c (n + 1) = cntF c n + if c n then 1 else 0 := fun c => rfl
    rw [e, e]
    by_cases z : i = n
    · subst z
      rw [low i (Nat.le_refl _), h1, h2]; simp
    · rw [ih (by omega), h3 n (by omega)]; omega
theorem cnt_0 {b : Nat → Bool} {n i : Nat} (h : cntF b n = 0) (hi : i < n) : b i = false := by
  induction n with
  | zero => omega
  | succ n ih =>
    have e : cntF b (n + 1) = cntF b n + if b n then 1 else 0 := rfl
    rw [e] at h
    by_cases z : i = n
    · subst z
      cases q : b i with
      | false => rfl
      | true => rw [q] at h; simp at h
    · exact ih (by omega) (by omega)
theorem cnt_le {b : Nat → Bool} {n : Nat} : cntF b n ≤ n := by
  induction n with
  | zero => exact Nat.le_refl _
  | succ n ih =>
    have e : cntF b (n + 1) = cntF b n + if b n then 1 else 0 := rfl
    rw [e]
    split <;> omega
theorem cnt_all {b : Nat → Bool} {n : Nat} (h : ∀ i, i < n → b i = true) : cntF b n = n := by
  induction n with
  | zero => rfl
  | succ n ih =>
    have e : cntF b (n + 1) = cntF b n + if b n then 1 else 0 := rfl
    rw [e, ih (fun i hi => h i (by omega)), h n (by omega)]; simp
theorem hdR_row {x : Nat → Int32} {N T P H t k : Nat} {r : Option Nat} (h6 : P ≤ 6) (h5 : N ≤ 8) (hk : k < N) (ht : t < T) (hx : x (50 + t) = nI k) (hr : ∀ p, r = some p → p < P ∧ k + 1 < N) (hH : hdR x T P H) : hdR (pm_row x (50 + t) (rollV N (nI (k + 1)) r)) T P (orO H r) := by
  have v : ∀ q, q < P → (rollV N (nI (k + 1)) r = nI (10 + q) ↔ r = some q) := by
    intro q hq
    unfold rollV
    cases r with
    | none =>
      simp only [oI, if_true]
      by_cases e : nI (k + 1) = nI N
      · rw [if_pos e, lI 99, nI_inj (by omega) (by omega)]; simp; omega
      · rw [if_neg e, nI_inj (by omega) (by omega)]; simp; omega
    | some p =>
      obtain ⟨r1, r2⟩ := hr p rfl
      have e1 : oI (some p) = nI p := rfl
      have e2 : ¬ oI (some p) = -1 := by rw [e1, m1_ne (by omega)]; simp
      rw [if_neg (by rw [nI_inj (by omega) (by omega)]; omega), if_neg e2, e1, lI 10, nI_add, nI_inj (by omega) (by omega)]
      simp
  have h1 := hH.1
  refine ⟨?_, fun q hq => ?_⟩
  · unfold orO
    cases r with
    | none => exact h1
    | some p =>
      have := (hr p rfl).1
      exact or_lt (T := 6) h1 (by omega)
  · have a1 : heldF (pm_row x (50 + t) (rollV N (nI (k + 1)) r)) T q = none ↔ (heldF x T q = none ∧ ¬ r = some q) := by
      rw [heldF_no, heldF_no]
      constructor
      · intro h
        refine ⟨fun t' ht' => ?_, fun e => ?_⟩
        · by_cases e : t' = t
          · subst e
            rw [hx]
            intro z
            rw [nI_inj (by omega) (by omega)] at z
            omega
          · have := h t' ht'
            rwa [row_ne (by omega)] at this
        · have := h t ht
          rw [row_eq] at this
          exact this ((v q hq).mpr e)
      · intro h t' ht'
        by_cases e : t' = t
        · subst e
          rw [row_eq]
          intro z
          exact h.2 ((v q hq).mp z)
        · rw [row_ne (by omega)]; exact h.1 t' ht'
    rw [a1, ← hH.2 q hq]
    unfold orO
    cases r with
    | none => simp
    | some p =>
      have := (hr p rfl).1
      dsimp only
      rw [bt_or]
      simp
