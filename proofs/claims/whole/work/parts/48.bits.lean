/-- cells whose numbers no call needs from the one before -/
def SC : List Nat := [2, 3, 4, 5, 6, 7, 8, 9, 10, 11, 12, 13, 25, 26, 32, 33, 34, 35, 36, 41, 42, 43, 44, 45, 46, 47, 48, 49, 50, 51, 52, 53, 54, 55, 56, 57, 58, 59, 60, 61, 62, 63, 64, 65, 66, 159, 163, 164, 165, 166, 167, 168, 169, 170, 171, 172, 173, 174, 175, 176, 177, 178, 179, 180, 181]
theorem SC_gap {c : Nat} (h : c ∈ SC) : (2 ≤ c ∧ c ≤ 13) ∨ c = 25 ∨ c = 26 ∨ (32 ≤ c ∧ c ≤ 36) ∨ (41 ≤ c ∧ c ≤ 66) ∨ c = 159 ∨ (163 ≤ c ∧ c ≤ 181) := by
  unfold SC at h
  simp at h
  omega
theorem KEEP_SC {c : Nat} (h : c ∈ KEEP) : c ∉ SC := by
  intro q
  have := SC_gap q
  unfold KEEP at h
  simp at h
  omega
theorem Inv_scr1 {L : Nat} {s s' : pm_S} {M M' : pm_M} (hI : Inv L s M) (hs : okS L s') (h : ∀ c, c ∉ SC → M'.1 c = M.1 c) (hj : ∀ c, c ∈ KEEP → M'.2 c = M.2 c) (h5 : M'.1 159 5 = M.1 159 5) (h13 : M'.1 159 13 = M.1 159 13) (h14 : M'.1 159 14 = M.1 159 14) : Inv L s' M' := by
  obtain ⟨_, hR, N, T, P, hl, hz, hv, hn, n, x, p1, p2, p3, p4, p5, p6⟩ := hI
  have e160 : M'.1 160 = M.1 160 := h 160 (by decide)
  have e0 : M'.1 0 = M.1 0 := h 0 (by decide)
  have hF : Fr M M' := ⟨fun c hc => ⟨h c (KEEP_SC hc), hj c hc⟩, by rw [e0], h5, h13, h14, by rw [e160]; exact eqW_rf⟩
  refine ⟨hs, Rest_fr hF hR, N, T, P, ?_, ?_, ?_, ?_, n, x, p1, p2, ?_, ?_, ?_, fun k hk => ⟨?_, ?_⟩⟩
  · rw [e160]
    refine ⟨LR_cells hl.1 (fun c hc => h c ?_), hl.2⟩
    revert hc c; decide
  · unfold LZ at hz ⊢
    rw [h 23 (by decide)]; exact hz
  · rw [e160]; exact hv
  · rw [e160]
    refine SR_cells hn (fun c hc => h c ?_)
    revert hc c; decide
  · rw [e160]; exact p3
  · rw [e0]; exact p4
  · rw [e0]; exact p5
  · rw [e160]
    refine SR_cells (p6 k hk).1 (fun c hc => h c (fun q => ?_))
    have := SC_gap q
    simp at hc
    omega
  · rw [e160]; exact (p6 k hk).2
theorem Inv_scr {L : Nat} {s s' : pm_S} {M M' : pm_M} (hI : Inv L s M) (hs : okS L s') (h : off SC M M') (h5 : M'.1 159 5 = M.1 159 5) (h13 : M'.1 159 13 = M.1 159 13) (h14 : M'.1 159 14 = M.1 159 14) : Inv L s' M' :=
  Inv_scr1 hI hs (fun c hc => (h c hc).1) (fun c hc => (h c (KEEP_SC hc)).2) h5 h13 h14
theorem C32_SC : ∀ c, c ∈ C32 → c ∈ SC := by decide
theorem R_SC : ∀ c, c ∈ [159, 164, 165, 166] → c ∈ SC := by decide
/-! sets -/
def setF (b : Nat → Bool) (n : Nat) : Nat := itr (fun i r => r + (if b i then 2 ^ i else 0)) n 0
theorem setF_lt {b : Nat → Bool} {n : Nat} : setF b n < 2 ^ n := by
  unfold setF
  induction n with
  | zero => simp [itr]
  | succ n ih =>
    rw [itr_s, Nat.pow_succ]
    split <;> omega
theorem setF_stop {b : Nat → Bool} {n m : Nat} (h : n ≤ m) (hb : ∀ i, n ≤ i → i < m → b i = false) : setF b m = setF b n := by
  unfold setF
  exact itr_stop h (fun i x h1 h2 => by simp [hb i h1 h2])
theorem setF_congr {b b' : Nat → Bool} {n : Nat} (h : ∀ i, i < n → b i = b' i) : setF b n = setF b' n := by
  unfold setF
  exact itr_congr (fun i hi x => by rw [h i hi])
theorem bit_add : ∀ i, i < 10 → ∀ r, r < 2 ^ i → nI r ||| ((1 : Int32) <<< (nI i &&& 31)) = nI (r + 2 ^ i) := by decide +kernel
theorem or_zero (x : Int32) : x ||| 0 = x := by
  simp
theorem set_step {b : Nat → Bool} {i : Nat} (hi : i < 10) : nI (setF b i) ||| (if b i then (1 : Int32) <<< (nI i &&& 31) else 0) = nI (setF b (i + 1)) := by
  have e : setF b (i + 1) = setF b i + (if b i then 2 ^ i else 0) := rfl
  rw [e]
  by_cases c : b i = true
  · rw [if_pos c, if_pos c]; exact bit_add i hi _ setF_lt
  · rw [if_neg c, if_neg c, or_zero]; rfl
theorem set_step2 {b : Nat → Bool} {i : Nat} (hi : i < 10) : (if b i then nI (setF b i) ||| ((1 : Int32) <<< (nI i &&& 31)) else nI (setF b i)) = nI (setF b (i + 1)) := by
  rw [← set_step hi]
  by_cases c : b i = true
  · rw [if_pos c, if_pos c]
  · rw [if_neg c, if_neg c, or_zero]
/-- how many numbers a set has -/
def cntF (b : Nat → Bool) (n : Nat) : Nat := itr (fun i r => r + (if b i then 1 else 0)) n 0
