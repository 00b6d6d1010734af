theorem Scr_16 {S : List Nat} {M M' : pm_M} (h : off S M M') (hS : ∀ c, c ∈ S → c = 160 ∨ c ∈ SC) (e0 : M'.1 160 = M.1 160) (h5 : M'.1 159 5 = M.1 159 5) (h13 : M'.1 159 13 = M.1 159 13) (h14 : M'.1 159 14 = M.1 159 14) : Scr M M' := by
  refine ⟨fun c hc => ?_, fun c hc => (h c (fun q => ?_)).2, h5, h13, h14⟩
  · by_cases z : c = 160
    · subst z; exact e0
    · refine (h c (fun q => ?_)).1
      rcases hS _ q with w | w
      · exact z w
      · exact hc w
  · rcases hS _ q with w | w
    · exact KEEP_160 hc w
    · exact KEEP_SC hc w
/-- no things on racks -/
def clrF (g : Nat → Int32) (T : Nat) : Nat → Int32 := fun j => if 50 ≤ j ∧ j < 50 + T ∧ g j < 10 then 99 else g j
theorem clrF_s {g : Nat → Int32} {i : Nat} : (if 10 ≤ clrF g i (50 + i) then clrF g i else pm_row (clrF g i) (50 + i) 99) = clrF g (i + 1) := by
  have e0 : clrF g i (50 + i) = g (50 + i) := by unfold clrF; rw [if_neg (by omega)]
  rw [e0]
  by_cases c : 10 ≤ g (50 + i)
  · rw [if_pos c]
    funext j
    unfold clrF
    by_cases e : j = 50 + i
    · subst e
      rw [if_neg (by omega), if_neg (fun q => i_nlt c q.2.2)]
    · have : (50 ≤ j ∧ j < 50 + i ∧ g j < 10) ↔ (50 ≤ j ∧ j < 50 + (i + 1) ∧ g j < 10) := by
        constructor
        · rintro ⟨a, b, d⟩; exact ⟨a, by omega, d⟩
        · rintro ⟨a, b, d⟩; exact ⟨a, by omega, d⟩
      simp only [this]
  · rw [if_neg c]
    funext j
    by_cases e : j = 50 + i
    · subst e
      rw [row_eq]
      unfold clrF
      rw [if_pos ⟨by omega, by omega, i_lt c⟩]
    · rw [row_ne e]
      unfold clrF
      have : (50 ≤ j ∧ j < 50 + i ∧ g j < 10) ↔ (50 ≤ j ∧ j < 50 + (i + 1) ∧ g j < 10) := by
        constructor
        · rintro ⟨a, b, d⟩; exact ⟨a, by omega, d⟩
        · rintro ⟨a, b, d⟩; exact ⟨a, by omega, d⟩
      simp only [this]
theorem clrF_eqT {g : Nat → Int32} {T : Nat} (h8 : T ≤ 8) : eqT g (clrF g T) := fun i hi => by unfold clrF; rw [if_neg (by omega)]
theorem clrF_in {g : Nat → Int32} {T t : Nat} (ht : t < T) : clrF g T (50 + t) = if g (50 + t) < 10 then 99 else g (50 + t) := by
  unfold clrF
  by_cases c : g (50 + t) < 10
  · rw [if_pos ⟨by omega, by omega, c⟩, if_pos c]
  · rw [if_neg (fun q => c q.2.2), if_neg c]
theorem clrF_ge {g : Nat → Int32} {T t : Nat} (ht : t < T) : ¬ clrF g T (50 + t) < 10 := by
  rw [clrF_in ht]
  split
  · decide
  · assumption
theorem sp_clears {d : Nat} {s : pm_S} {M : pm_M} {g : Nat → Int32} {T : Nat} {Q : pm_S → pm_M → Prop} (hd : 2 ≤ d) (hg : M.1 160 = g) (h2 : g 2 = nI T) (h8 : T ≤ 8) (hq : ∀ M', M'.1 160 = clrF g T → (∀ j, j < 31 → M'.1 166 j = g (47 + j)) → off [160, 166] M M' → Q s M') : cV d yM_clears [.ref 159] s M Q := by
  obtain ⟨d, rfl⟩ : ∃ e, d = e + 1 := ⟨d - 1, by omega⟩
  refine enM_clears (sp_keeps (by omega) (fun M1 e1 o1 => ?_))
  have g1 := r160 o1 (by decide) hg
  have k1 : ∀ j, j < 31 → M1.1 166 j = g (47 + j) := fun j hj => by rw [e1, putR_in (by omega) (by omega), hg, Nat.sub_zero]
  refine loop_up (L := fun i M2 => wM_clears d 6 [.ref 159, .int (nI i)] [] s M2 Q) (I := fun i M2 => M2.1 160 = clrF g i ∧ M2.1 166 = M1.1 166 ∧ off [160, 166] M M2) (e := T) ?_ ?_ M1 ⟨?_, rfl, off_mo o1 (by decide)⟩
  · intro M2 b
    have z2 : clrF g T 2 = g 2 := clrF_eqT h8 2 (by omega)
    refine sgM_clears_6 (br_t (by rw [b.1, z2, h2, nI_leP (by omega) (by omega)]; exact Nat.le_refl _) (hq M2 b.1 (fun j hj => by rw [b.2.1]; exact k1 j hj) b.2.2))
  · intro i M2 hi b hk
    have z2 : clrF g i 2 = g 2 := clrF_eqT (by omega) 2 (by omega)
    have st := clrF_s (g := g) (i := i)
    refine sgM_clears_6 (br_f (by rw [b.1, z2, h2, nI_leP (by omega) (by omega)]; omega) ?_)
    rw [lI 50, nI_add, nI_clamp (by omega), b.1, nI_1]
    refine ⟨vpI (by omega) (by omega), br_c (fun c => ?_) (fun c => ⟨vpI (by omega) (by omega), ?_⟩)⟩
    · rw [if_pos c] at st
      exact hk M2 ⟨b.1.trans st, b.2.1, b.2.2⟩
    · rw [if_neg c] at st
      exact hk _ ⟨by rw [si_eq, b.1]; exact st, by rw [si_ne (by decide)]; exact b.2.1, off_si b.2.2 (by decide)⟩
  · rw [g1]
    funext j
    unfold clrF
    rw [if_neg (by omega)]
theorem again_eq {g x : Nat → Int32} {w : Nat → Int32} (hx : eqT g x) (hw : ∀ j, j < 31 → w j = g (47 + j)) : putR x 47 31 w = g := by
  funext i
  by_cases c : 47 ≤ i ∧ i < 78
  · rw [putR_in c.1 c.2, hw _ (by omega)]; exact congrArg g (by omega)
  · rw [putR_out (by omega)]; exact hx i (by omega)
theorem sp_goesTo {d : Nat} {s : pm_S} {M : pm_M} {g : Nat → Int32} {N T P t st E : Nat} {Q : Int32 → pm_S → pm_M → Prop} (hd : 6 ≤ d) (hg : M.1 160 = g) (hV : Vd g N T P) (ht : t < T) (h1 : ∀ D, D < E → xrF N T P (pm_row (clrF g T) (50 + t) (nI st)) D (50 + t) < 10) (h2 : ¬ xrF N T P (pm_row (clrF g T) (50 + t) (nI st)) E (50 + t) < 10) (hq : ∀ M', M'.1 160 = g → M'.1 159 20 = nI E → (∀ k, k ≠ 20 → M'.1 159 k = M.1 159 k) → off [159, 160, 164, 165, 166] M M' → Q (if xrF N T P (pm_row (clrF g T) (50 + t) (nI st)) E (50 + t) = 99 then -1 else xrF N T P (pm_row (clrF g T) (50 + t) (nI st)) E (50 + t) - 10) s M') : cI d yM_goesTo [.ref 159, .int (nI t), .int (nI st)] s M Q := by
  obtain ⟨d, rfl⟩ : ∃ e, d = e + 1 := ⟨d - 1, by omega⟩
  have h8 := hV.2.2.2.2.2.1
  refine enM_goesTo (sp_clears (T := T) (by omega) hg hV.2.1 h8 (fun M1 g1 k1 o1 => ?_))
  rw [lI 50, nI_add, nI_clamp (by omega)]
  refine ⟨vpI (by omega) (by omega), ?_⟩
  have x0 : eqT g (pm_row (clrF g T) (50 + t) (nI st)) := eqT_row (clrF_eqT h8) (by omega)
  generalize hxx : pm_row (clrF g T) (50 + t) (nI st) = x at *
  refine loop_up (L := fun D M2 => wM_goesTo d 19 [.ref 159, .int (nI t), .null, .null] [] s M2 Q) (I := fun D M2 => M2.1 160 = xrF N T P x D ∧ M2.1 166 = M1.1 166 ∧ M2.1 159 20 = nI D ∧ (∀ k, k ≠ 20 → M2.1 159 k = M.1 159 k) ∧ off [159, 160, 164, 165, 166] M M2) (e := E) ?_ ?_ _ ⟨?_, ?_, ?_, ?_, ?_⟩
  · rintro M2 ⟨b1, b2, b3, b4, b5⟩
    refine sgM_goesTo_19 ?_
    rw [lI 50, nI_add, nI_clamp (by omega), b1]
    refine ⟨vpI (by omega) (by omega), br_t (i_le h2) ⟨vpI (by omega) (by omega), sp_isAgain (by omega) (fun M3 e3 o3 => hq M3 ?_ ?_ ?_ (off_tr b5 (off_mo o3 (by decide))))⟩⟩
    · rw [e3, b1, b2]
      exact again_eq (eqT_tr x0 (xrF_eqT h8)) k1
    · rw [(o3 159 (by decide)).1]; exact b3
    · intro k hk
      rw [(o3 159 (by decide)).1]; exact b4 k hk
  · rintro D M2 hD ⟨b1, b2, b3, b4, b5⟩ hk
    refine sgM_goesTo_19 ?_
    rw [lI 50, nI_add, nI_clamp (by omega), b1]
    refine ⟨vpI (by omega) (by omega), br_f (i_nle (h1 D hD)) (sp_rolls (by omega) b1 (Vd_congr (eqT_L (eqT_tr x0 (xrF_eqT h8))) hV) (fun M3 e3 o3 => hk _ ⟨?_, ?_, ?_, ?_, ?_⟩))⟩
    · rw [si_ne (by decide), e3]; rfl
    · rw [si_ne (by decide), (o3 166 (by decide)).1]; exact b2
    · rw [si_eq, row_eq, (o3 159 (by decide)).1, b3, nI_1]
    · intro k hk'
      rw [si_eq, row_ne hk', (o3 159 (by decide)).1]; exact b4 k hk'
    · exact off_si (off_tr b5 (off_mo o3 (by decide))) (by decide)
  · rw [si_ne (by decide), si_eq, g1, hxx]; rfl
  · rw [si_ne (by decide), si_ne (by decide)]
  · rw [si_eq, row_eq]; rfl
  · intro k hk
    rw [si_eq, row_ne hk, si_ne (by decide), (o1 159 (by decide)).1]
  · exact off_si (off_si (off_mo o1 (by decide)) (by decide)) (by decide)
/-! where things are when some are left -/
def lvF (g : Nat → Int32) (T : Nat) (w f : Nat → Nat) (n : Nat) : Nat → Int32 := itr (fun i x => pm_row x (50 + w i) (nI (f i))) n (clrF g T)
theorem lv_out {g : Nat → Int32} {T n t : Nat} {w f : Nat → Nat} (h : ∀ i, i < n → w i ≠ t) : lvF g T w f n (50 + t) = clrF g T (50 + t) := by
  induction n with
  | zero => rfl
  | succ n ih =>
    show pm_row (lvF g T w f n) (50 + w n) (nI (f n)) (50 + t) = _
    rw [row_ne (by have := h n (by omega); omega)]
    exact ih (fun i hi => h i (by omega))
theorem lv_in {g : Nat → Int32} {T n i : Nat} {w f : Nat → Nat} (hi : i < n) (h : ∀ i j, i < n → j < n → w i = w j → i = j) : lvF g T w f n (50 + w i) = nI (f i) := by
  induction n with
  | zero => omega
  | succ n ih =>
    show pm_row (lvF g T w f n) (50 + w n) (nI (f n)) (50 + w i) = _
    by_cases e : i = n
    · subst e; rw [row_eq]
    · rw [row_ne (fun q => e (h i n hi (by omega) (by omega)))]
      exact ih (by omega) (fun a b h1 h2 => h a b (by omega) (by omega))
theorem lv_eqT {g : Nat → Int32} {T n : Nat} {w f : Nat → Nat} (h8 : T ≤ 8) (hw : ∀ i, i < n → w i < T) : eqT g (lvF g T w f n) := by
  induction n with
  | zero => exact clrF_eqT h8
  | succ n ih =>
    refine eqT_row (ih (fun i hi => hw i (by omega))) ?_
    have := hw n (by omega)
    omega
def frF (g : Nat → Int32) (T P : Nat) (w : Nat → Nat) (n : Nat) : Nat := itr (fun i H => rmO H (hoF g P (w i))) n (setF (holdB g T) P)
theorem hoF_iff {g : Nat → Int32} {P t p : Nat} (h6 : P ≤ 6) (hp : p < P) : hoF g P t = some p ↔ g (50 + t) = nI (10 + p) := by
  constructor
  · intro h
    rcases fst_cases (fun p => decide (g (50 + t) = nI (10 + p))) P with ⟨h1, _⟩ | ⟨i, h1, h2, h3, _⟩
    · unfold hoF at h; rw [h1] at h; cases h
    · unfold hoF at h; rw [h1] at h; cases h; simpa using h3
  · exact hoF_some h6 hp
theorem frF_bt {g : Nat → Int32} {T P n : Nat} {w : Nat → Nat} (h6 : P ≤ 6) : frF g T P w n < 64 ∧ ∀ q, q < P → (bt (frF g T P w n) q = true ↔ (¬ heldF g T q = none ∧ ∀ i, i < n → ¬ g (50 + w i) = nI (10 + q))) := by
  induction n with
  | zero =>
    refine ⟨?_, fun q hq => ?_⟩
    · have : setF (holdB g T) P < 2 ^ P := setF_lt
      have h2 : 2 ^ P ≤ 2 ^ 6 := Nat.pow_le_pow_right (by omega) h6
      show setF (holdB g T) P < 64
      omega
    · show bt (setF (holdB g T) P) q = true ↔ _
      rw [setF_bt hq]
      unfold holdB
      simp
  | succ n ih =>
    have e : frF g T P w (n + 1) = rmO (frF g T P w n) (hoF g P (w n)) := rfl
    rw [e]
    obtain ⟨i1, i2⟩ := ih
    cases ho : hoF g P (w n) with
    | none =>
      refine ⟨i1, fun q hq => ?_⟩
      show bt (frF g T P w n) q = true ↔ _
      rw [i2 q hq]
      constructor
      · rintro ⟨a, b⟩
        refine ⟨a, fun i hi => ?_⟩
        by_cases z : i = n
        · subst z
          intro y
          rw [(hoF_iff h6 hq).mpr y] at ho; cases ho
        · exact b i (by omega)
      · rintro ⟨a, b⟩; exact ⟨a, fun i hi => b i (by omega)⟩
    | some p =>
      have hp : p < P := by
        rcases fst_cases (fun p => decide (g (50 + w n) = nI (10 + p))) P with ⟨h1, _⟩ | ⟨i, h1, h2, _⟩
        · unfold hoF at ho; rw [h1] at ho; cases ho
        · unfold hoF at ho; rw [h1] at ho; cases ho; exact h2
      have hg := (hoF_iff h6 hp).mp ho
      refine ⟨Nat.lt_of_le_of_lt (Nat.sub_le _ _) i1, fun q hq => ?_⟩
      show bt (frF g T P w n - frF g T P w n / 2 ^ p % 2 * 2 ^ p) q = true ↔ _
      rw [rem_bit _ i1 p (by omega) q (by omega)]
      simp only [Bool.and_eq_true, Bool.not_eq_true', decide_eq_false_iff_not]
      rw [i2 q hq]
      constructor
      · rintro ⟨⟨a, b⟩, c⟩
        refine ⟨a, fun i hi => ?_⟩
        by_cases z : i = n
        · subst z
          rw [hg, nI_inj (by omega) (by omega)]; omega
        · exact b i (by omega)
      · rintro ⟨a, b⟩
        refine ⟨⟨a, fun i hi => b i (by omega)⟩, fun z => ?_⟩
        exact b n (by omega) (by rw [hg, z])
theorem hdR_lv {g : Nat → Int32} {N T P n : Nat} {w f : Nat → Nat} (hV : Vd g N T P) (hv : Vs g N T P) (hw : ∀ i, i < n → w i < T) (hf : ∀ i, i < n → f i < N) (h : ∀ i j, i < n → j < n → w i = w j → i = j) : hdR (lvF g T w f n) T P (frF g T P w n) := by
  have h5 := hV.2.2.2.2.1
  have h6 := hV.2.2.2.2.2.2.1
  obtain ⟨b1, b2⟩ := frF_bt (g := g) (T := T) (w := w) (n := n) h6
  refine ⟨b1, fun q hq => ?_⟩
  constructor
  · intro z
    rw [heldF_no]
    intro t ht e
    by_cases c : ∃ i, i < n ∧ w i = t
    · obtain ⟨i, i1, i2⟩ := c
      subst i2
      have := hf i i1
      rw [lv_in i1 h, nI_inj (by omega) (by omega)] at e
      omega
    · have c' : ∀ i, i < n → w i ≠ t := fun i hi z => c ⟨i, hi, z⟩
      rw [lv_out c', clrF_in ht] at e
      by_cases c2 : g (50 + t) < 10
      · rw [if_pos c2, lI 99, nI_inj (by omega) (by omega)] at e; omega
      · rw [if_neg c2] at e
        have : bt (frF g T P w n) q = true := by
          rw [b2 q hq]
          refine ⟨fun y => heldF_no.mp y t ht e, fun i hi y => ?_⟩
          exact c' i hi (hv.2.2.1 (w i) t q (hw i hi) ht hq y e)
        rw [this] at z; cases z
  · intro z
    rw [heldF_no] at z
    cases y : bt (frF g T P w n) q with
    | false => rfl
    | true =>
      exfalso
      obtain ⟨y1, y2⟩ := (b2 q hq).mp y
      cases e : heldF g T q with
      | none => exact y1 e
      | some t =>
        obtain ⟨t1, t2⟩ := heldF_lt e
        have c' : ∀ i, i < n → w i ≠ t := fun i hi z => y2 i hi (by rw [z]; exact t2)
        refine z t t1 ?_
        rw [lv_out c', clrF_in t1, t2, if_neg (v10 (by omega))]
