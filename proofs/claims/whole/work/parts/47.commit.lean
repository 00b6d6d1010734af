def CW : List Nat := [25, 26, 27, 28, 29, 30, 31, 32, 33, 34, 35, 36]
def CX (x : Nat) : List Nat := [0, 67 + 5 * x, 67 + 5 * x + 1, 67 + 5 * x + 2, 67 + 5 * x + 3, 67 + 5 * x + 4]
theorem CX_in {x c : Nat} : c ∈ CX x ++ CW ↔ c = 0 ∨ (67 + 5 * x ≤ c ∧ c < 72 + 5 * x) ∨ (25 ≤ c ∧ c < 37) := by
  unfold CX CW
  simp
  omega
/-- the class keeps g for undoing, and is at g' -/
def Cm (M0 M1 : pm_M) (g g' : Nat → Int32) (T P x n : Nat) : Prop := SR M1 27 g' T P ∧ SR M1 (67 + 5 * x) g T P ∧ M1.1 0 5 = nI ((x + 1) % 10) ∧ M1.1 0 6 = nI (min (n + 1) 10) ∧ M1.1 0 10 = M0.1 0 10 ∧ off (CX x ++ CW) M0 M1
/-- what the reference's deeds change -/
def Rf (M M' : pm_M) : Prop := off [159, 160, 164, 165, 166] M M' ∧ M'.1 159 5 = M.1 159 5 ∧ M'.1 159 13 = M.1 159 13 ∧ M'.1 159 14 = M.1 159 14
theorem Rf_rf {M : pm_M} : Rf M M := ⟨off_rf, rfl, rfl, rfl⟩
theorem Rf_tr {M M1 M2 : pm_M} (h1 : Rf M M1) (h2 : Rf M1 M2) : Rf M M2 := ⟨off_tr h1.1 h2.1, h2.2.1.trans h1.2.1, h2.2.2.1.trans h1.2.2.1, h2.2.2.2.trans h1.2.2.2⟩
theorem Rf_off {S : List Nat} {M M' : pm_M} (h : off S M M') (hS : ∀ c, c ∈ S → c ∈ [160, 164, 165, 166]) : Rf M M' := by
  have e := (h 159 (fun q => by have := hS _ q; revert this; decide)).1
  refine ⟨off_mo h (fun c hc => List.mem_cons_of_mem _ (hS c hc)), ?_, ?_, ?_⟩ <;> rw [e]
theorem Rf_159 {M : pm_M} {k : Nat} {v : Int32} (h : k ≠ 5 ∧ k ≠ 13 ∧ k ≠ 14) : Rf M (pm_si M 159 k v) := by
  refine ⟨off_si off_rf (by decide), ?_, ?_, ?_⟩ <;> rw [si_eq, row_ne (by omega)]
theorem nS67 {x : Nat} (hx : x < 10) : isS (67 + 5 * x) := by
  unfold isS
  simp
  omega
theorem sp_remember {d : Nat} {s : pm_S} {M : pm_M} {g : Nat → Int32} {T P x n : Nat} {Q : pm_S → pm_M → Prop} (hd : 2 ≤ d) (h8 : T ≤ 8) (h6 : P ≤ 6) (hx : x < 10) (hn : n ≤ 10) (e5 : M.1 0 5 = nI x) (e6 : M.1 0 6 = nI n) (hs : SR M 27 g T P) (hq : ∀ M', SR M' (67 + 5 * x) g T P → M'.1 0 5 = nI ((x + 1) % 10) → M'.1 0 6 = nI (min (n + 1) 10) → M'.1 0 10 = M.1 0 10 → off (CX x) M M' → Q s M') : cV d yG_remember [.ref 0] s M Q := by
  obtain ⟨d, rfl⟩ : ∃ e, d = e + 1 := ⟨d - 1, by omega⟩
  refine enG_remember ?_
  rw [e5]
  refine ⟨vpI (by omega) (by omega), fun o eo ho => ?_⟩
  rw [nI_clamp (by omega)] at eo
  subst eo
  refine sp_sbecome (by omega) ho isS_27 (by omega) h8 h6 hs (fun M1 s1 o1 => ?_)
  have z0 : M1.1 0 = M.1 0 := (o1 0 (by simp; omega)).1
  rw [z0, e5, e6, nI_1, nI_1, lI 10, pk_rem (by omega) (by omega) (by omega)]
  have e : (if nI 10 < nI (n + 1) then nI 10 else nI (n + 1)) = nI (min (n + 1) 10) := by
    by_cases c : 10 < n + 1
    · rw [if_pos (by rw [nI_ltP (by omega) (by omega)]; exact c), Nat.min_eq_right (by omega)]
    · rw [if_neg (by rw [nI_ltP (by omega) (by omega)]; exact c), Nat.min_eq_left (by omega)]
  refine sp_min (by omega) ?_
  rw [e]
  have o1' : off (CX x) M M1 := off_mo o1 (fun c hc => List.mem_cons_of_mem _ hc)
  refine hq _ ?_ ?_ ?_ ?_ (off_si (off_si o1' (by simp [CX])) (by simp [CX]))
  · refine SR_cells s1 (fun c hc => ?_)
    simp at hc
    rw [si_ne (by omega), si_ne (by omega)]
  · rw [si_eq, si_eq, row_ne (by omega), row_eq]
  · rw [si_eq, row_eq]
  · rw [si_eq, si_eq, row_ne (by omega), row_ne (by omega), z0]
theorem sp_agreed {d : Nat} {s : pm_S} {M : pm_M} {g g' : Nat → Int32} {T P x n : Nat} {a : Int32} {Q : Int32 → pm_S → pm_M → Prop} (hd : 3 ≤ d) (h8 : T ≤ 8) (h6 : P ≤ 6) (hx : x < 10) (hn : n ≤ 10) (e5 : M.1 0 5 = nI x) (e6 : M.1 0 6 = nI n) (hs : SR M 27 g T P) (ht : SR M 32 g' T P) (hq : ∀ M', Cm M M' g g' T P x n → Q a s M') : cI d yG_agreed [.ref 0, .int a] s M Q := by
  obtain ⟨d, rfl⟩ : ∃ e, d = e + 1 := ⟨d - 1, by omega⟩
  refine enG_agreed (sp_remember (by omega) h8 h6 hx hn e5 e6 hs (fun M1 s1 f5 f6 f10 o1 => ?_))
  have ht1 : SR M1 32 g' T P := SR_off o1 ht (by
    intro c hc q
    unfold CX at q
    simp at hc q
    omega)
  refine sp_sbecome (by omega) isS_27 isS_32 (by omega) h8 h6 ht1 (fun M2 s2 o2 => ?_)
  have z0 : M2.1 0 = M1.1 0 := (o2 0 (by decide)).1
  refine hq M2 ⟨s2, SR_off o2 s1 ?_, ?_, ?_, ?_, off_tr (off_mo o1 (fun c hc => List.mem_append_left _ hc)) (off_mo o2 ?_)⟩
  · intro c hc q
    simp at hc q
    omega
  · rw [z0]; exact f5
  · rw [z0]; exact f6
  · rw [z0]; exact f10
  · intro c hc
    rw [CX_in]
    simp at hc
    omega
theorem KEEP_gap {c : Nat} (h : c ∈ KEEP) : c ≠ 0 ∧ (c < 25 ∨ 117 ≤ c) ∧ c ≠ 159 ∧ c ≠ 160 ∧ c ≠ 164 ∧ c ≠ 165 ∧ c ≠ 166 := by
  unfold KEEP at h
  simp at h
  omega
theorem Inv_commit {L : Nat} {s : pm_S} {M0 M1 M2 : pm_M} {g g' w : Nat → Int32} {N T P x n : Nat} (hs : okS L s) (hR : Rest M0) (hg : M0.1 160 = g) (hl : LV M0 g N T P) (hz : LZ M0 15) (hn : n ≤ 10) (hx : x < 10) (hp : ∀ k, k < n → SR M0 (67 + 5 * ((x + 10 - n + k) % 10)) (blk g k) T P ∧ Vs (blk g k) N T P) (hv : Vs g N T P) (hC : Cm M0 M1 g g' T P x n) (hf : Rf M1 M2) (h2 : M2.1 160 = noteF g' n w) (hw : ∀ j, j < 31 → w j = g (47 + j)) (he : eqL g g') (hv' : Vs g' N T P) : Inv L s M2 := by
  obtain ⟨c1, c2, c3, c4, c5, c6⟩ := hC
  have h8 : T ≤ 8 := hl.2.2.2.2.2.2.1
  have h6 : P ≤ 6 := hl.2.2.2.2.2.2.2.1
  have hE : eqW g (noteF g' n w) := fun i hi => by rw [noteF_out hn (by omega)]; exact he i (by omega)
  have hF : Fr M0 M2 := by
    have k1 : ∀ c, c ∈ KEEP → M2.1 c = M0.1 c ∧ M2.2 c = M0.2 c := by
      intro c hc
      have q := KEEP_gap hc
      have a1 := c6 c (fun z => by rw [CX_in] at z; omega)
      have a2 := hf.1 c (by simp; omega)
      exact ⟨a2.1.trans a1.1, a2.2.trans a1.2⟩
    have a159 : M1.1 159 = M0.1 159 := (c6 159 (fun z => by rw [CX_in] at z; omega)).1
    refine ⟨k1, ?_, ?_, ?_, ?_, ?_⟩
    · rw [(hf.1 0 (by decide)).1, c5]
    · rw [hf.2.1, a159]
    · rw [hf.2.2.1, a159]
    · rw [hf.2.2.2, a159]
    · rw [hg, h2]; exact hE
  have b0 : M2.1 0 = M1.1 0 := (hf.1 0 (by decide)).1
  have hlow : ∀ i, 47 ≤ i → i < 78 → noteF g' n w i = g' i := fun i _ h => noteF_out hn (by omega)
  have cells : ∀ c, c < 159 → M2.1 c = M1.1 c := fun c hc => (hf.1 c (by simp; omega)).1
  refine ⟨hs, Rest_fr hF hR, N, T, P, ?_, ?_, ?_, ?_, ?_⟩
  · rw [h2]
    refine ⟨LR_congrW hE h8 h6 (LR_cells hl.1 (fun c hc => (hF.1 c ?_).1)), Vd_congrW hE hl.2⟩
    revert hc c; decide
  · unfold LZ at hz ⊢
    rw [(hF.1 23 (by decide)).1]
    exact hz
  · rw [h2]; exact Vs_congr ⟨h8, h6⟩ hv' hlow
  · rw [h2]
    exact SR_congr (SR_cells c1 (fun c hc => cells c (by simp at hc; omega))) h8 h6 hlow
  · rw [h2]
    refine ⟨min (n + 1) 10, (x + 1) % 10, by omega, by omega, noteF_78 hn, ?_, ?_, fun k hk => ?_⟩
    · rw [b0]; exact c3
    · rw [b0]; exact c4
    have old : ∀ k' y, k' < n → (x + 10 - n + k') % 10 = y → y ≠ x → (∀ i, 47 ≤ i → i < 78 → blk (noteF g' n w) k i = blk g k' i) → SR M2 (67 + 5 * y) (blk (noteF g' n w) k) T P ∧ Vs (blk (noteF g' n w) k) N T P := by
      intro k' y hk' ey hyx hb
      have q := hp k' hk'
      rw [ey] at q
      have hy : y < 10 := by omega
      refine ⟨SR_congr (SR_cells q.1 (fun c hc => ?_)) h8 h6 hb, Vs_congr ⟨h8, h6⟩ q.2 hb⟩
      simp at hc
      rw [cells c (by omega)]
      exact (c6 c (fun z => by rw [CX_in] at z; omega)).1
    have new : ∀ y, y = x → (∀ i, 47 ≤ i → i < 78 → blk (noteF g' n w) k i = w (i - 47)) → SR M2 (67 + 5 * y) (blk (noteF g' n w) k) T P ∧ Vs (blk (noteF g' n w) k) N T P := by
      intro y ey hb
      subst ey
      have hb' : ∀ i, 47 ≤ i → i < 78 → blk (noteF g' n w) k i = g i := by
        intro i h1 h2
        rw [hb i h1 h2, hw _ (by omega)]
        exact congrArg g (by omega)
      refine ⟨SR_congr (SR_cells c2 (fun c hc => cells c (by simp at hc; omega))) h8 h6 hb', Vs_congr ⟨h8, h6⟩ hv hb'⟩
    have ebl : ∀ k, 78 ≤ 32 + 31 * k + 47 → ∀ i, 47 ≤ i → blk g' k i = blk g k i := by
      intro k _ i hi
      exact he _ (by omega)
    by_cases c10 : n = 10
    · by_cases ck : k = 9
      · refine new _ (by omega) (fun i h1 h2 => ?_)
        rw [noteF_blk hn hk h1 h2, if_pos c10, if_pos ck]
      · refine old (k + 1) _ (by omega) (by omega) (by omega) (fun i h1 h2 => ?_)
        rw [noteF_blk hn hk h1 h2, if_pos c10, if_neg ck]
        exact ebl (k + 1) (by omega) i h1
    · by_cases ck : k = n
      · refine new _ (by omega) (fun i h1 h2 => ?_)
        rw [noteF_blk hn hk h1 h2, if_neg c10, if_pos ck]
      · refine old k _ (by omega) (by omega) (by omega) (fun i h1 h2 => ?_)
        rw [noteF_blk hn hk h1 h2, if_neg c10, if_neg ck]
        exact ebl k (by omega) i h1
