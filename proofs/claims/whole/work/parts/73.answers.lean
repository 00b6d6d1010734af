def vN (f : Nat → Int64) (i : Nat) : Nat := (f i).toInt.toNat
theorem codeF_0 {n most B : Nat} {f : Nat → Int64} (hB : B < 2 ^ 29) (h : codeF n most B f = 0) : 1 ≤ n ∧ n ≤ most ∧ ∀ i, i < n → vN f i < B ∧ f i = lN (vN f i) := by
  unfold codeF at h
  by_cases c : n < 1 ∨ most < n
  · rw [if_pos c] at h; exact absurd h (by decide)
  rw [if_neg c] at h
  rcases fst_cases (fun k => decide (ixN (f k) B = none)) n with ⟨h1, h2⟩ | ⟨i, h1, _⟩
  · refine ⟨by omega, by omega, fun i hi => ?_⟩
    have := h2 i hi
    cases hx : ixN (f i) B with
    | none => rw [hx] at this; simp at this
    | some k =>
      have e := ixN_eq hx (by omega)
      have l := ixN_lt hx
      unfold vN
      rw [e, pk_lT (by omega)]
      simpa using l
  · rw [h1, if_neg (by simp)] at h; exact absurd h (by decide)
def ansS (g : Nat → Int32) (p m : Nat) (f : Nat → Int64) (i : Nat) : Bool := decide (byB g p (vN f i / 2) (nI m) = decide (vN f i % 2 = 1))
def ansB (g : Nat → Int32) (p : Nat) (f : Nat → Int64) (n m : Nat) : Bool := decide (fst (fun i => !ansS g p m f i) n = none)
theorem fst_s {P : Nat → Bool} {n : Nat} : (fst P (n + 1) = none) ↔ (fst P n = none ∧ P n = false) := by
  simp only [fst]
  cases h : fst P n <;> cases h2 : P n <;> simp
theorem ansB_s {g : Nat → Int32} {p m i : Nat} {f : Nat → Int64} : ansB g p f (i + 1) m = (ansB g p f i m && ansS g p m f i) := by
  unfold ansB
  rw [Bool.eq_iff_iff]
  simp only [decide_eq_true_eq, Bool.and_eq_true, fst_s]
  simp
theorem half_c : ∀ k, k < 16 → (nI k >>> ((1 : Int32) &&& 31) = nI (k / 2)) ∧ ((nI k &&& 1 = 1) = (k % 2 = 1)) ∧ nI k / 2 = nI (k / 2) ∧ ((lN k - lN k / 2 * 2 = 1) = (k % 2 = 1)) := by
  have h : ∀ k, k < 16 → (nI k >>> ((1 : Int32) &&& 31) = nI (k / 2)) ∧ ((nI k &&& 1 = 1) ↔ (k % 2 = 1)) ∧ nI k / 2 = nI (k / 2) ∧ ((lN k - lN k / 2 * 2 = 1) ↔ (k % 2 = 1)) := by decide +kernel
  intro k hk
  obtain ⟨a, b, c, e⟩ := h k hk
  exact ⟨a, propext b, c, propext e⟩
theorem byB_if {g : Nat → Int32} {p t : Nat} {mk : Int32} {c : Prop} [Decidable c] : ((if claimF g mk p t ≤ 0 then (0 : Int32) else 1) = (if c then 1 else 0)) = (byB g p t mk = decide c) := by
  unfold byB
  by_cases a : claimF g mk p t ≤ 0 <;> by_cases b : c <;> simp [a, b]
theorem sp_would {d : Nat} {s : pm_S} {M : pm_M} {g : Nat → Int32} {T P p m y n : Nat} {f : Nat → Int64} {Q : Int32 → pm_S → pm_M → Prop} (hd : 4 ≤ d) (hl : LR M 15 g T P) (hT : g 2 = nI T) (h8 : T ≤ 8) (hy : isY y) (hr : YR M y n f) (hv : ∀ i, i < n → vN f i < 2 * T ∧ f i = lN (vN f i)) (hq : ∀ M', off [25, 26] M M' → Q (if ansB g p f n m then 1 else 0) s M') : cI d yG_wouldAnswer [.ref 0, .ref y, .int (nI p), .int (nI m)] s M Q := by
  obtain ⟨d, rfl⟩ : ∃ e, d = e + 1 := ⟨d - 1, by omega⟩
  have h40 := hr.2.1
  have hy1 : y ∉ [25, 26] ∧ y + 1 ∉ [25, 26] := by
    have := isY_ge hy
    simp; omega
  refine enG_wouldAnswer hy ?_
  refine loop_fst (L := fun i => ∀ M1, off [25, 26] M M1 → wG_wouldAnswer d 3 [.ref 0, .ref y, .int (nI p), .int (nI m), .int (nI i), .null, .null] [] s M1 Q) (P := fun i => !ansS g p m f i) (e := n) (K := fun r => ∀ M1, off [25, 26] M M1 → Q (if decide (r = none) then 1 else 0) s M1) hq ?_ ?_ M off_rf
  · intro hk M1 o1
    have hr1 := YR_off o1 hr hy1.1 hy1.2
    refine sgG_wouldAnswer_3 hy (br_t (by rw [hr1.1, nI_leP (by omega) (by omega)]; exact Nat.le_refl _) ?_)
    exact hk M1 o1
  · intro i hi k1 k2 M1 o1
    have hr1 := YR_off o1 hr hy1.1 hy1.2
    have hl1 : LR M1 15 g T P := LR_off o1 hl (by decide)
    obtain ⟨v1, v2⟩ := hv i hi
    obtain ⟨c1, c2, _, _⟩ := half_c (vN f i) (by omega)
    refine sgG_wouldAnswer_3 hy (br_f (by rw [hr1.1, nI_leP (by omega) (by omega)]; omega) (sp_at (by omega) hy hr1 hi ?_))
    rw [v2, lN_32, c1]
    simp only [c2]
    refine sp_claimBy (by omega) hl1 hT h8 (by omega) (fun M2 o2 => ?_)
    rw [byB_if, nI_1]
    have o3 := off_tr o1 o2
    refine br_c (fun c => k2 ?_ M2 o3) (fun c => ?_)
    · unfold ansS; simp [c]
    · have := k1 (by unfold ansS; simp only [c, decide_false, Bool.not_false]) M2 o3
      exact this
theorem sp_marksBy {d : Nat} {s : pm_S} {M : pm_M} {g : Nat → Int32} {T P p y n : Nat} {f : Nat → Int64} {Q : Int32 → pm_S → pm_M → Prop} (hd : 5 ≤ d) (hl : LR M 15 g T P) (hT : g 2 = nI T) (h8 : T ≤ 8) (hy : isY y) (hr : YR M y n f) (hv : ∀ i, i < n → vN f i < 2 * T ∧ f i = lN (vN f i)) (hq : ∀ M', off [25, 26] M M' → Q (nI (setF (ansB g p f n) 10)) s M') : cI d yG_marksBy [.ref 0, .ref y, .int (nI p)] s M Q := by
  obtain ⟨d, rfl⟩ : ∃ e, d = e + 1 := ⟨d - 1, by omega⟩
  have hy1 : y ∉ [25, 26] ∧ y + 1 ∉ [25, 26] := by
    have := isY_ge hy
    simp; omega
  refine enG_marksBy hy ?_
  refine loop_up (L := fun i M1 => wG_marksBy d 5 [.ref 0, .ref y, .int (nI p), .int (nI (setF (ansB g p f n) i)), .int (nI i)] [] s M1 Q) (I := fun i M1 => off [25, 26] M M1) (e := 10) ?_ ?_ M off_rf
  · intro M1 o1
    exact sgG_marksBy_5 hy (br_t (by decide) (hq M1 o1))
  · intro m M1 hm o1 hk
    refine sgG_marksBy_5 hy (br_f (by rw [lI 10, nI_leP (by omega) (by omega)]; omega) (sp_would (T := T) (P := P) (by omega) (LR_off o1 hl (by decide)) hT h8 hy (YR_off o1 hr hy1.1 hy1.2) hv (fun M2 o2 => ?_)))
    have q := set_step2 (b := ansB g p f n) (i := m) (by omega)
    have e : (if (if ansB g p f n m then (1 : Int32) else 0) = 0 then nI (setF (ansB g p f n) m) else nI (setF (ansB g p f n) m) ||| ((1 : Int32) <<< (nI m &&& 31))) = nI (setF (ansB g p f n) (m + 1)) := by
      rw [← q]
      cases ansB g p f n m <;> simp
    rw [e, nI_1]
    exact hk M2 (off_tr o1 o2)
theorem sp_marksOf {d : Nat} {s : pm_S} {M : pm_M} {g : Nat → Int32} {N T P p r n : Nat} {f : Nat → Int64} {Q : Int32 → pm_S → pm_M → Prop} (hd : 5 ≤ d) (hg : M.1 160 = g) (hV : Vd g N T P) (hp : p < P) (hr : r < 4) (h40 : n ≤ 40) (hn : M.1 183 r = nI n) (hf : f = fun k => M.2 184 (40 * r + k)) (hv : ∀ i, i < n → vN f i < 2 * T ∧ f i = lN (vN f i)) (hq : ∀ M', M'.1 160 = g → off [160, 164, 165] M M' → Q (nI (setF (ansB g p f n) 10)) s M') : cI d yM_marksOf [.ref 159, .int (nI r), .int (nI p)] s M Q := by
  obtain ⟨d, rfl⟩ : ∃ e, d = e + 1 := ⟨d - 1, by omega⟩
  have h8 := hV.2.2.2.2.2.1
  refine enM_marksOf ?_
  refine loop_up (L := fun i M1 => wM_marksOf d 5 [.ref 159, .int (nI r), .int (nI p), .int (nI (setF (ansB g p f n) i)), .int (nI i), .null, .null] [] s M1 Q) (I := fun i M1 => M1.1 160 = g ∧ off [160, 164, 165] M M1) (e := 10) ?_ ?_ M ⟨hg, off_rf⟩
  · intro M1 h
    exact sgM_marksOf_5 (br_t (by decide) (hq M1 h.1 h.2))
  · intro m M1 hm h hk
    refine sgM_marksOf_5 (br_f (by rw [lI 10, nI_leP (by omega) (by omega)]; omega) ?_)
    refine loop_up (L := fun i M2 => wM_marksOf d 18 [.ref 159, .int (nI r), .int (nI p), .int (nI (setF (ansB g p f n) m)), .int (nI m), .int (if ansB g p f i m then 1 else 0), .int (nI i)] [] s M2 Q) (I := fun i M2 => M2.1 160 = g ∧ off [160, 164, 165] M M2) (e := n) ?_ ?_ M1 h
    · intro M2 h2
      refine sgM_marksOf_18 ?_
      rw [nI_clamp (by omega), (h2.2 183 (by decide)).1, hn]
      refine ⟨vpI (by omega) (by omega), br_t (by rw [nI_leP (by omega) (by omega)]; exact Nat.le_refl _) ?_⟩
      have q := set_step (b := ansB g p f n) (i := m) (by omega)
      have e : (if (if ansB g p f n m then (1 : Int32) else 0) = 0 then (0 : Int32) else (1 : Int32) <<< (nI m &&& 31)) = (if ansB g p f n m then (1 : Int32) <<< (nI m &&& 31) else 0) := by
        cases ansB g p f n m <;> simp
      rw [e, q, nI_1]
      exact hk M2 h2
    · intro i M2 hi h2 hk2
      obtain ⟨v1, v2⟩ := hv i hi
      obtain ⟨_, _, c3, c4⟩ := half_c (vN f i) (by omega)
      have ef : M2.2 184 (40 * r + i) = lN (vN f i) := by
        rw [(h2.2 184 (by decide)).2, ← v2, hf]
      refine sgM_marksOf_18 ?_
      rw [nI_clamp (by omega), (h2.2 183 (by decide)).1, hn, lI 40, pk_mul, nI_add, nI_clamp (by omega), ef, lN_32, c3]
      refine ⟨vpI (by omega) (by omega), br_f (by rw [nI_leP (by omega) (by omega)]; omega) ⟨vpI (by omega) (by omega), ?_⟩⟩
      refine sp_claimsBy (T := T) (P := P) (by omega) h2.1 hV hp (by omega) (fun M3 g3 o3 => ⟨vpI (by omega) (by omega), fun v ev => ?_⟩)
      rw [(o3 184 (by decide)).2, ef] at ev
      simp only [c4] at ev
      have e : v = if ansB g p f (i + 1) m then 1 else 0 := by
        rw [ev, ansB_s]
        cases ansB g p f i m with
        | false => simp
        | true =>
          have e2 : ansS g p m f i = decide (byB g p (vN f i / 2) (nI m) = decide (vN f i % 2 = 1)) := rfl
          rw [e2]
          by_cases z1 : byB g p (vN f i / 2) (nI m) = true <;> by_cases z2 : vN f i % 2 = 1 <;> simp [z1, z2]
      rw [e, nI_1]
      exact hk2 M3 ⟨g3, off_tr h2.2 o3⟩
