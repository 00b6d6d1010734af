theorem loop_up {L I : Nat → pm_M → Prop} {e : Nat} (hx : ∀ M, I e M → L e M) (hs : ∀ i M, i < e → I i M → (∀ M', I (i + 1) M' → L (i + 1) M') → L i M) : ∀ M, I 0 M → L 0 M := by
  have : ∀ k, k ≤ e → ∀ M, I (e - k) M → L (e - k) M := by
    intro k
    induction k with
    | zero => intro _ M hI; exact hx M hI
    | succ k ih =>
      intro hk M hI
      refine hs _ M (by omega) hI (fun M' hM' => ?_)
      have e1 : e - k = (e - (k + 1)) + 1 := by omega
      have := ih (by omega) M'
      rw [e1] at this
      exact this hM'
  intro M hI
  have h2 := this e (Nat.le_refl _) M
  rw [Nat.sub_self] at h2
  exact h2 hI
/-- n numbers of a row, from k on, told by w -/
def putR (g : Nat → Int32) (k n : Nat) (w : Nat → Int32) : Nat → Int32 := fun i => if k ≤ i ∧ i < k + n then w (i - k) else g i
theorem putR_in {g w : Nat → Int32} {k n i : Nat} (h : k ≤ i) (h2 : i < k + n) : putR g k n w i = w (i - k) := if_pos ⟨h, h2⟩
theorem putR_out {g w : Nat → Int32} {k n i : Nat} (h : i < k ∨ k + n ≤ i) : putR g k n w i = g i := if_neg (fun q => by omega)
theorem putR_0 {g w : Nat → Int32} {k : Nat} : putR g k 0 w = g := by
  funext i
  exact putR_out (by omega)
theorem putR_s {g w : Nat → Int32} {k n : Nat} : pm_row (putR g k n w) (k + n) (w n) = putR g k (n + 1) w := by
  funext i
  by_cases e : i = k + n
  · subst e
    rw [row_eq, putR_in (by omega) (by omega)]
    congr 1; omega
  · rw [row_ne e]
    by_cases h : k ≤ i ∧ i < k + n
    · rw [putR_in h.1 h.2, putR_in h.1 (by omega)]
    · rw [putR_out (by omega), putR_out (by omega)]
theorem sp_keeps {d : Nat} {s : pm_S} {M : pm_M} {Q : pm_S → pm_M → Prop} (hd : 1 ≤ d) (hq : ∀ M', M'.1 166 = putR (M.1 166) 0 31 (fun j => M.1 160 (47 + j)) → off [166] M M' → Q s M') : cV d yM_keeps [.ref 159] s M Q := by
  obtain ⟨d, rfl⟩ : ∃ e, d = e + 1 := ⟨d - 1, by omega⟩
  refine enM_keeps (loop_up (L := fun i M1 => wM_keeps d 2 [.ref 159, .int (nI i)] [] s M1 Q) (I := fun i M1 => M1.1 166 = putR (M.1 166) 0 i (fun j => M.1 160 (47 + j)) ∧ off [166] M M1) (e := 31) ?_ ?_ M ⟨putR_0.symm, off_rf⟩)
  · intro M1 h
    exact sgM_keeps_2 (br_t (by decide) (hq M1 h.1 h.2))
  · intro i M1 hi h hk
    refine sgM_keeps_2 (br_f (by rw [lI 31, nI_leP (by omega) (by omega)]; omega) ?_)
    rw [lI 47, nI_add, nI_clamp (by omega), nI_clamp (by omega), nI_1]
    refine ⟨vpI (by omega) (by omega), vpI (by omega) (by omega), hk _ ⟨?_, off_si h.2 (by decide)⟩⟩
    rw [si_eq, h.1, (h.2 160 (by decide)).1, ← putR_s, Nat.zero_add]
theorem sp_isAgain {d : Nat} {s : pm_S} {M : pm_M} {Q : pm_S → pm_M → Prop} (hd : 1 ≤ d) (hq : ∀ M', M'.1 160 = putR (M.1 160) 47 31 (M.1 166) → off [160] M M' → Q s M') : cV d yM_isAgain [.ref 159] s M Q := by
  obtain ⟨d, rfl⟩ : ∃ e, d = e + 1 := ⟨d - 1, by omega⟩
  refine enM_isAgain (loop_up (L := fun i M1 => wM_isAgain d 2 [.ref 159, .int (nI i)] [] s M1 Q) (I := fun i M1 => M1.1 160 = putR (M.1 160) 47 i (M.1 166) ∧ off [160] M M1) (e := 31) ?_ ?_ M ⟨putR_0.symm, off_rf⟩)
  · intro M1 h
    exact sgM_isAgain_2 (br_t (by decide) (hq M1 h.1 h.2))
  · intro i M1 hi h hk
    refine sgM_isAgain_2 (br_f (by rw [lI 31, nI_leP (by omega) (by omega)]; omega) ?_)
    rw [lI 47, nI_add, nI_clamp (by omega), nI_clamp (by omega), nI_1]
    refine ⟨vpI (by omega) (by omega), vpI (by omega) (by omega), hk _ ⟨?_, off_si h.2 (by decide)⟩⟩
    rw [si_eq, h.1, (h.2 166 (by decide)).1, ← putR_s]
/-- the row when a deed was noted behind n others, w being what was -/
def noteF (g : Nat → Int32) (n : Nat) (w : Nat → Int32) : Nat → Int32 :=
  if n = 10 then pm_row (putR (pm_row (putR g 79 279 (fun j => g (110 + j))) 78 (nI 9)) 358 31 w) 78 (nI 10)
  else pm_row (putR g (79 + 31 * n) 31 w) 78 (nI (n + 1))
theorem noteF_out {g w : Nat → Int32} {n i : Nat} (hn : n ≤ 10) (h : i < 78 ∨ 389 ≤ i) : noteF g n w i = g i := by
  unfold noteF
  split
  · rw [row_ne (by omega), putR_out (by omega), row_ne (by omega), putR_out (by omega)]
  · rw [row_ne (by omega), putR_out (by omega)]
theorem noteF_78 {g w : Nat → Int32} {n : Nat} (hn : n ≤ 10) : noteF g n w 78 = nI (min (n + 1) 10) := by
  unfold noteF
  split
  · rename_i h; subst h; rw [row_eq]; rfl
  · rename_i h
    rw [row_eq]
    rw [Nat.min_eq_left (by omega)]
theorem sp_notes {d : Nat} {s : pm_S} {M : pm_M} {g : Nat → Int32} {n : Nat} {Q : pm_S → pm_M → Prop} (hd : 1 ≤ d) (hg : M.1 160 = g) (hn : g 78 = nI n) (h10 : n ≤ 10) (hq : ∀ M', M'.1 160 = noteF g n (M.1 166) → off [160] M M' → Q s M') : cV d yM_notes [.ref 159] s M Q := by
  obtain ⟨d, rfl⟩ : ∃ e, d = e + 1 := ⟨d - 1, by omega⟩
  have last : ∀ (m : Nat) (r : Nat → Int32) (M0 : pm_M), m < 10 → M0.1 160 = r → r 78 = nI m → off [160] M M0 → pm_row (putR r (79 + 31 * m) 31 (M.1 166)) 78 (nI (m + 1)) = noteF g n (M.1 166) → wM_notes d 58 [.ref 159, .int 0] [] s M0 Q := by
    intro m r M0 hm hr h78 ho hE
    refine loop_up (L := fun i M1 => wM_notes d 58 [.ref 159, .int (nI i)] [] s M1 Q) (I := fun i M1 => M1.1 160 = putR r (79 + 31 * m) i (M.1 166) ∧ off [160] M M1) (e := 31) ?_ ?_ M0 ⟨hr.trans putR_0.symm, ho⟩
    · intro M1 h
      refine sgM_notes_58 (br_t (by decide) (hq _ ?_ (off_si h.2 (by decide))))
      rw [si_eq, h.1, putR_out (by omega), h78, nI_1, hE]
    · intro i M1 hi h hk
      have e78 : M1.1 160 78 = nI m := by rw [h.1, putR_out (by omega), h78]
      refine sgM_notes_58 (br_f (by rw [lI 31, nI_leP (by omega) (by omega)]; omega) ?_)
      rw [e78, lI 31, lI 79, pk_mul, nI_add, nI_add, nI_clamp (by omega), nI_clamp (by omega), nI_1]
      refine ⟨vpI (by omega) (by omega), vpI (by omega) (by omega), hk _ ⟨?_, off_si h.2 (by decide)⟩⟩
      rw [si_eq, h.1, (h.2 166 (by decide)).1, ← putR_s]
  refine enM_notes ?_
  rw [hg, hn, lI 10, nI_inj (by omega) (by omega)]
  refine br_c (fun c => ?_) (fun c => ?_)
  · subst c
    refine loop_up (L := fun i M1 => wM_notes d 14 [.ref 159, .int (nI i)] [] s M1 Q) (I := fun i M1 => M1.1 160 = putR g 79 i (fun j => g (110 + j)) ∧ off [160] M M1) (e := 279) ?_ ?_ M ⟨hg.trans putR_0.symm, off_rf⟩
    · intro M1 h
      refine sgM_notes_14 (br_t (by decide) ?_)
      refine last 9 (pm_row (putR g 79 279 (fun j => g (110 + j))) 78 (nI 9)) _ (by omega) ?_ row_eq (off_si h.2 (by decide)) ?_
      · rw [si_eq, h.1, putR_out (by omega), hn]; rfl
      · unfold noteF; rw [if_pos rfl]
    · intro i M1 hi h hk
      refine sgM_notes_14 (br_f (by rw [lI 279, nI_leP (by omega) (by omega)]; omega) ?_)
      rw [lI 110, lI 79, nI_add, nI_add, nI_clamp (by omega), nI_clamp (by omega), nI_1]
      refine ⟨vpI (by omega) (by omega), vpI (by omega) (by omega), hk _ ⟨?_, off_si h.2 (by decide)⟩⟩
      rw [si_eq, h.1, putR_out (by omega), ← putR_s]
  · refine last n g M (by omega) hg hn off_rf ?_
    unfold noteF; rw [if_neg c]
