/-! a tray in the class -/
def YR (M : pm_M) (y n : Nat) (f : Nat → Int64) : Prop := M.1 y 2 = nI n ∧ n ≤ 40 ∧ ∀ k, k < n → M.2 (y + 1) k = f k
theorem YR_off {S : List Nat} {M M' : pm_M} {y n : Nat} {f : Nat → Int64} (h : off S M M') (hy : YR M y n f) (h1 : y ∉ S) (h2 : y + 1 ∉ S) : YR M' y n f := by
  unfold YR
  rw [(h y h1).1, (h (y + 1) h2).2]
  exact hy
theorem sp_hasPlace {d : Nat} {s : pm_S} {M : pm_M} {y n : Nat} {f : Nat → Int64} {x : Int32} {Q : Int32 → pm_S → pm_M → Prop} (hd : 1 ≤ d) (hy : isY y) (hr : YR M y n f) (h1 : inI x n → Q 1 s M) (h0 : ¬ inI x n → Q 0 s M) : cI d yY_hasPlace [.ref y, .int x] s M Q := by
  obtain ⟨d, rfl⟩ : ∃ e, d = e + 1 := ⟨d - 1, by omega⟩
  refine enY_hasPlace hy ?_
  rw [hr.1]
  have h40 := hr.2.1
  by_cases c : inI x n
  · have := h1 c
    obtain ⟨k, hk, rfl⟩ := c
    rw [if_neg (nI_pos (by omega)), if_neg (by rw [nI_leP (by omega) (by omega)]; omega), if_neg (by rw [lI 40, nI_leP (by omega) (by omega)]; omega)]
    exact this
  · have := h0 c
    rw [inI_iff (by omega)] at c
    by_cases z : x < 0
    · rw [if_pos z]; exact this
    · rw [if_neg z]
      by_cases z2 : nI n ≤ x
      · rw [if_pos z2]; exact this
      · exact absurd ⟨z, z2⟩ c
theorem sp_at {d : Nat} {s : pm_S} {M : pm_M} {y n k : Nat} {f : Nat → Int64} {Q : Int64 → pm_S → pm_M → Prop} (hd : 2 ≤ d) (hy : isY y) (hr : YR M y n f) (hk : k < n) (hq : Q (f k) s M) : cL d yY_at [.ref y, .int (nI k)] s M Q := by
  obtain ⟨d, rfl⟩ : ∃ e, d = e + 1 := ⟨d - 1, by omega⟩
  have h40 := hr.2.1
  refine enY_at hy (sp_hasPlace (by omega) hy hr (fun _ => ⟨fun _ => vpI (by omega) (by omega), ?_⟩) (fun h => absurd ⟨k, hk, rfl⟩ h))
  rw [if_neg (by decide), nI_clamp (by omega), hr.2.2 k hk]
  exact hq
theorem isY_ge {y : Nat} (h : isY y) : 117 ≤ y := by
  unfold isY at h
  simp at h
  omega
theorem isY_C32 {y : Nat} (h : isY y) : y ∉ C32 ∧ y + 1 ∉ C32 := by
  have := isY_ge h
  unfold C32
  simp
  omega
theorem sp_doAll {d : Nat} {s : pm_S} {M : pm_M} {g : Nat → Int32} {N T P y n : Nat} {f : Nat → Int64} {Q : Int32 → pm_S → pm_M → Prop} (hd : 7 ≤ d) (hy : isY y) (hr : YR M y n f) (hl : LV M g N T P) (hv : Vs g N T P) (hs : SR M 32 g T P) (hq : ∀ M', SR M' 32 (tellF g N T P f n).1 T P → M'.1 32 7 = tellW (tellF g N T P f n).2 → off C32 M M' → Q (tellN n (tellF g N T P f n).2) s M') : cI d yS_doAll [.ref 32, .ref 15, .ref y] s M Q := by
  obtain ⟨d, rfl⟩ : ∃ e, d = e + 1 := ⟨d - 1, by omega⟩
  have h40 := hr.2.1
  refine enS_doAll hy ?_
  refine loop_mem (L := fun i (x : (Nat → Int32) × Option (Nat × Int32)) M1 => match x.2 with
    | none => wS_doAll d 7 [.ref 32, .ref 15, .ref y, .int (nI i)] [] s M1 Q
    | some a => Q (nI a.1) s M1) (I := fun x M1 => SR M1 32 x.1 T P ∧ M1.1 32 7 = tellW x.2 ∧ off C32 M M1 ∧ eqL g x.1 ∧ Vs x.1 N T P) (f := tell1 N T P f) (e := n) (a0 := (g, none)) ?_ ?_ (pm_si M 32 7 0) ⟨SR_why hs rfl, ?_, off_si off_rf (by decide), eqL_rf, hv⟩
  · intro M1 h
    obtain ⟨b1, b2, b4, b5, b6⟩ := h
    have := hq M1 b1 b2 b4
    unfold tellF at this
    generalize itr (tell1 N T P f) n (g, none) = x at this b1 b2 b5 b6 ⊢
    obtain ⟨x1, x2⟩ := x
    cases x2 with
    | some a => exact this
    | none =>
      dsimp only
      have hr1 := YR_off b4 hr (isY_C32 hy).1 (isY_C32 hy).2
      refine sgS_doAll_7 hy ?_
      rw [hr1.1]
      refine br_t (by rw [nI_leP (by omega) (by omega)]; exact Nat.le_refl _) (sp_max (by omega) ?_)
      have e : (if 0 < nI n then nI n else 0) = nI n := by
        by_cases z : 0 < n
        · rw [if_pos (show (0 : Int32) < nI n by rw [l0, nI_ltP (by omega) (by omega)]; exact z)]
        · have : n = 0 := by omega
          subst this; rfl
      rw [e]
      exact this
  · intro i M1 hi h hk
    generalize itr (tell1 N T P f) i (g, none) = x at h hk ⊢
    obtain ⟨x1, x2⟩ := x
    obtain ⟨b1, b2, b4, b5, b6⟩ := h
    cases x2 with
    | some a => exact hk M1 ⟨b1, b2, b4, b5, b6⟩
    | none =>
      dsimp only at b1 b5 b6 ⊢
      have hr1 := YR_off b4 hr (isY_C32 hy).1 (isY_C32 hy).2
      have hl1 : LV M1 x1 N T P := LV_off b4 (LV_eqL b5 hl)
      refine sgS_doAll_7 hy ?_
      rw [hr1.1, nI_1]
      refine br_f (by rw [nI_leP (by omega) (by omega)]; omega) (sp_at (by omega) hy hr1 hi (sp_attempt (by omega) hl1 b6 b1 (fun M2 s2 o2 => ?_)))
      simp only [tell1] at hk
      refine br_c (fun c => ?_) (fun c => ?_)
      · simp only [if_pos c] at hk s2
        have w := Vs_do (Vd_congr b5 hl.2) b6 c
        refine hk _ ⟨SR_why s2 rfl, ?_, off_si (off_tr b4 o2) (by decide), eqL_tr b5 w.1, w.2⟩
        rw [si_eq, row_eq]; exact c
      · simp only [if_neg c] at hk s2
        refine hk _ ⟨SR_why s2 rfl, ?_, off_si (off_tr b4 o2) (by decide), b5, b6⟩
        rw [si_eq, row_eq]; rfl
  · rw [si_eq, row_eq]; rfl
/-! a season's deed -/
def drawnF (g : Nat → Int32) : (Nat → Int32) × Int32 :=
  let x1 := drawX (g 49)
  let x2 := drawX x1
  let x3 := drawX x2
  let how := drawM x1 6
  let p := drawM x2 6
  if 2 ≤ how then (if how = 2 then (pm_row g 49 x2, p) else if how = 3 then (pm_row g 49 x2, 10 + p) else if how = 4 then (pm_row g 49 x3, 100 + 10 * p + drawM x3 8) else (pm_row g 49 x3, 200 + 10 * p + drawM x3 6))
  else (pm_row g 49 x1, -1)
theorem sp_drawn {d : Nat} {s : pm_S} {M : pm_M} {g : Nat → Int32} {Q : Int32 → pm_S → pm_M → Prop} (hd : 2 ≤ d) (hg : M.1 160 = g) (hq : ∀ M', M'.1 160 = (drawnF g).1 → off [160, 164, 165] M M' → Q (drawnF g).2 s M') : cI d yM_drawn [.ref 159] s M Q := by
  obtain ⟨d, rfl⟩ : ∃ e, d = e + 1 := ⟨d - 1, by omega⟩
  unfold drawnF at hq
  refine enM_drawn (sp_draw (by omega) hg (by decide) (fun M1 e1 o1 => ?_))
  refine br_c (fun c => ?_) (fun c => ?_)
  · simp only [if_pos c] at hq
    refine sp_draw (by omega) e1 (by decide) (fun M2 e2 o2 => ?_)
    rw [row_eq, row_row] at e2
    rw [row_eq]
    have o2' := off_tr o1 o2
    refine br_c (fun c2 => ?_) (fun c2 => br_c (fun c3 => ?_) (fun c3 => br_c (fun c4 => ?_) (fun c4 => ?_)))
    · simp only [if_pos c2] at hq
      exact hq M2 e2 o2'
    · simp only [if_neg c2, if_pos c3] at hq
      exact hq M2 e2 o2'
    · simp only [if_neg c2, if_neg c3, if_pos c4] at hq
      refine sp_draw (by omega) e2 (by decide) (fun M3 e3 o3 => ?_)
      rw [row_eq, row_row] at e3
      rw [row_eq]
      exact hq M3 e3 (off_tr o2' o3)
    · simp only [if_neg c2, if_neg c3, if_neg c4] at hq
      refine sp_draw (by omega) e2 (by decide) (fun M3 e3 o3 => ?_)
      rw [row_eq, row_row] at e3
      rw [row_eq]
      exact hq M3 e3 (off_tr o2' o3)
  · simp only [if_neg c] at hq
    exact hq M1 e1 o1
theorem Vs_drawn {g : Nat → Int32} {N T P : Nat} (hV : Vd g N T P) (hs : Vs g N T P) : eqL g (drawnF g).1 ∧ Vs (drawnF g).1 N T P := by
  have : ∃ x, (drawnF g).1 = pm_row g 49 x := by
    unfold drawnF
    dsimp only
    split
    · split
      · exact ⟨_, rfl⟩
      · split
        · exact ⟨_, rfl⟩
        · split <;> exact ⟨_, rfl⟩
    · exact ⟨_, rfl⟩
  obtain ⟨x, e⟩ := this
  rw [e]
  exact ⟨eqL_row eqL_rf (by omega) (by omega), Vs_out hV hs (by omega)⟩
theorem sp_seasonDeed {d : Nat} {s : pm_S} {M : pm_M} {g : Nat → Int32} {N T P : Nat} {Q : Int32 → pm_S → pm_M → Prop} (hd : 7 ≤ d) (hl : LV M g N T P) (hv : Vs g N T P) (hs : SR M 32 g T P) (hq : ∀ M', SR M' 32 (if whyF (drawnF g).1 T P (drawnF g).2.toInt64 = 0 then doF (drawnF g).1 N T P (drawnF g).2.toInt64 else (drawnF g).1) T P → off C32 M M' → Q (whyF (drawnF g).1 T P (drawnF g).2.toInt64) s M') : cI d yS_seasonDeed [.ref 32, .ref 15] s M Q := by
  obtain ⟨d, rfl⟩ : ∃ e, d = e + 1 := ⟨d - 1, by omega⟩
  have h6 := hl.2.2.2.2.2.2.1
  have h7 := hl.2.2.2.2.2.2.2.1
  have fin : ∀ (M1 : pm_M) (v : Int64), SR M1 32 (drawnF g).1 T P → off C32 M M1 → (drawnF g).2.toInt64 = v → cI d yS_attempt [.ref 32, .ref 15, .long v] s M1 Q := by
    intro M1 v s1 o1 ev
    have w := Vs_drawn hl.2 hv
    rw [ev] at hq
    exact sp_attempt (by omega) (LV_off o1 (LV_eqL w.1 hl)) w.2 s1 (fun M2 s2 o2 => hq M2 s2 (off_tr o1 o2))
  clear hq
  unfold drawnF at fin
  refine enS_seasonDeed (sp_cdraw (by omega) h6 h7 hs (fun M1 s1 o1 => ?_))
  have em : ∀ x b : Int32, drawR x - drawR x / b * b = drawM x b := fun _ _ => rfl
  rw [em]
  refine br_c (fun c => ?_) (fun c => ?_)
  · simp only [if_pos c] at fin
    refine sp_cdraw (by omega) h6 h7 s1 (fun M2 s2 o2 => ?_)
    rw [row_eq, row_row] at s2
    rw [row_eq, em]
    have o2' := off_tr o1 o2
    refine br_c (fun c2 => ?_) (fun c2 => br_c (fun c3 => ?_) (fun c3 => br_c (fun c4 => ?_) (fun c4 => ?_)))
    · simp only [if_pos c2] at fin
      exact fin M2 _ s2 o2' rfl
    · simp only [if_neg c2, if_pos c3] at fin
      exact fin M2 _ s2 o2' rfl
    · simp only [if_neg c2, if_neg c3, if_pos c4] at fin
      refine sp_cdraw (by omega) h6 h7 s2 (fun M3 s3 o3 => ?_)
      rw [row_eq, row_row] at s3
      rw [row_eq, em]
      exact fin M3 _ s3 (off_tr o2' o3) rfl
    · simp only [if_neg c2, if_neg c3, if_neg c4] at fin
      refine sp_cdraw (by omega) h6 h7 s2 (fun M3 s3 o3 => ?_)
      rw [row_eq, row_row] at s3
      rw [row_eq, em]
      exact fin M3 _ s3 (off_tr o2' o3) rfl
  · simp only [if_neg c] at fin
    exact fin M1 _ s1 o1 (by decide)
