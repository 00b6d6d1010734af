/-! the class's next token -/
theorem row_self {α : Type} {f : Nat → α} {k : Nat} {v : α} (h : f k = v) : pm_row f k v = f := by
  funext j
  by_cases c : j = k
  · subst c; rw [row_eq, h]
  · rw [row_ne c]
theorem sp_isLetter {d : Nat} {s : pm_S} {M : pm_M} {b : Nat} {Q : Int32 → pm_S → pm_M → Prop} (hd : 1 ≤ d) (hb : b < 256) (hq1 : (97 ≤ b ∧ b ≤ 122) → Q 1 s M) (hq0 : ¬ (97 ≤ b ∧ b ≤ 122) → Q 0 s M) : cI d yR_isLetter [.int (nI b)] s M Q := by
  obtain ⟨d, rfl⟩ : ∃ e, d = e + 1 := ⟨d - 1, by omega⟩
  refine enR_isLetter ?_
  rw [lI 97, lI 122]
  simp only [nI_ltP (a := b) (b := 97) (by omega) (by omega), nI_ltP (a := 122) (b := b) (by omega) (by omega)]
  by_cases c1 : b < 97
  · rw [if_pos c1]; exact hq0 (by omega)
  · rw [if_neg c1]
    by_cases c2 : 122 < b
    · rw [if_pos c2]; exact hq0 (by omega)
    · rw [if_neg c2]; exact hq1 (by omega)
theorem sp_isDigit {d : Nat} {s : pm_S} {M : pm_M} {b : Nat} {Q : Int32 → pm_S → pm_M → Prop} (hd : 1 ≤ d) (hb : b < 256) (hq1 : (48 ≤ b ∧ b ≤ 57) → Q 1 s M) (hq0 : ¬ (48 ≤ b ∧ b ≤ 57) → Q 0 s M) : cI d yR_isDigit [.int (nI b)] s M Q := by
  obtain ⟨d, rfl⟩ : ∃ e, d = e + 1 := ⟨d - 1, by omega⟩
  refine enR_isDigit ?_
  rw [lI 48, lI 57]
  simp only [nI_ltP (a := b) (b := 48) (by omega) (by omega), nI_ltP (a := 57) (b := b) (by omega) (by omega)]
  by_cases c1 : b < 48
  · rw [if_pos c1]; exact hq0 (by omega)
  · rw [if_neg c1]
    by_cases c2 : 57 < b
    · rw [if_pos c2]; exact hq0 (by omega)
    · rw [if_neg c2]; exact hq1 (by omega)
theorem sgF {b : Nat} (h : ¬ nI b = 40 ∧ ¬ nI b = 41 ∧ ¬ nI b = 42 ∧ ¬ nI b = 43 ∧ ¬ nI b = 45 ∧ ¬ nI b = 58 ∧ ¬ nI b = 59 ∧ ¬ nI b = 60 ∧ ¬ nI b = 61 ∧ ¬ nI b = 62 ∧ ¬ nI b = 91 ∧ ¬ nI b = 93) : isSg b = false := by
  obtain ⟨h1, h2, h3, h4, h5, h6, h7, h8, h9, ha, hb, hc⟩ := h
  cases e : isSg b with
  | false => rfl
  | true =>
    unfold isSg at e
    simp only [List.contains_eq_mem, List.mem_cons, List.not_mem_nil, or_false, decide_eq_true_eq] at e
    rcases e with e | e | e | e | e | e | e | e | e | e | e | e <;> subst e
    · exact absurd rfl h1
    · exact absurd rfl h2
    · exact absurd rfl h3
    · exact absurd rfl h4
    · exact absurd rfl h5
    · exact absurd rfl h6
    · exact absurd rfl h7
    · exact absurd rfl h8
    · exact absurd rfl h9
    · exact absurd rfl ha
    · exact absurd rfl hb
    · exact absurd rfl hc
theorem sp_isSign {d : Nat} {s : pm_S} {M : pm_M} {b : Nat} {Q : Int32 → pm_S → pm_M → Prop} (hd : 1 ≤ d) (hb : b < 256) (hq1 : isSg b = true → Q 1 s M) (hq0 : isSg b = false → Q 0 s M) : cI d yR_isSign [.int (nI b)] s M Q := by
  obtain ⟨d, rfl⟩ : ∃ e, d = e + 1 := ⟨d - 1, by omega⟩
  exact enR_isSign (br_c (fun h => hq1 (by rw [lI 40, nI_inj (by omega) (by omega)] at h; subst h; rfl)) (fun g40 => br_c (fun h => hq1 (by rw [lI 41, nI_inj (by omega) (by omega)] at h; subst h; rfl)) (fun g41 => br_c (fun h => hq1 (by rw [lI 42, nI_inj (by omega) (by omega)] at h; subst h; rfl)) (fun g42 => br_c (fun h => hq1 (by rw [lI 43, nI_inj (by omega) (by omega)] at h; subst h; rfl)) (fun g43 => br_c (fun h => hq1 (by rw [lI 45, nI_inj (by omega) (by omega)] at h; subst h; rfl)) (fun g45 => br_c (fun h => hq1 (by rw [lI 58, nI_inj (by omega) (by omega)] at h; subst h; rfl)) (fun g58 => br_c (fun h => hq1 (by rw [lI 59, nI_inj (by omega) (by omega)] at h; subst h; rfl)) (fun g59 => br_c (fun h => hq1 (by rw [lI 60, nI_inj (by omega) (by omega)] at h; subst h; rfl)) (fun g60 => br_c (fun h => hq1 (by rw [lI 61, nI_inj (by omega) (by omega)] at h; subst h; rfl)) (fun g61 => br_c (fun h => hq1 (by rw [lI 62, nI_inj (by omega) (by omega)] at h; subst h; rfl)) (fun g62 => br_c (fun h => hq1 (by rw [lI 91, nI_inj (by omega) (by omega)] at h; subst h; rfl)) (fun g91 => br_c (fun h => hq1 (by rw [lI 93, nI_inj (by omega) (by omega)] at h; subst h; rfl)) (fun g93 => hq0 (sgF ⟨g40, g41, g42, g43, g45, g58, g59, g60, g61, g62, g91, g93⟩))))))))))))))
/-- the reader's row behind a token -/
def tkR (B : Nat → Nat) (n p : Nat) (R R' : Nat → Int32) : Prop :=
  (∀ k, k ≠ 2 → k ≠ 3 → k ≠ 6 → k ≠ 7 → k ≠ 8 → k ≠ 9 → R' k = R k) ∧ R' 7 = nI (tkF B n p).1 ∧ R' 8 = nI (tkF B n p).2.1
  ∧ ((tkF B n p).1 ≠ 131 → R' 2 = 0 ∧ R' 3 = R 3 ∧ R' 6 = nI (tkF B n p).2.2)
  ∧ ((tkF B n p).1 = 131 → R' 2 = 1 ∧ R' 3 = nI (tkF B n p).2.1 ∧ ∃ b, b ≤ n ∧ R' 6 = nI b)
  ∧ ((tkF B n p).1 = 128 → R' 9 = nI (nvF B (tkF B n p).2.1 ((tkF B n p).2.2 - (tkF B n p).2.1)))
theorem nv_le {B : Nat → Nat} {a m : Nat} (hB : ∀ i, i < m → 48 ≤ B (a + i) ∧ B (a + i) ≤ 57) : m ≤ 3 → nvF B a m < 10 ^ m := by
  induction m with
  | zero => intro _; unfold nvF; rw [itr_0]; omega
  | succ m ih =>
    intro hm
    have h1 := ih (fun i hi => hB i (by omega)) (by omega)
    have h2 := hB m (by omega)
    unfold nvF at h1 ⊢
    rw [itr_s]
    have : (10 : Nat) ^ (m + 1) = 10 ^ m * 10 := Nat.pow_succ ..
    omega
theorem sp_fail1 {d : Nat} {s : pm_S} {M : pm_M} {x : Int32} {R : Nat → Int32} {Q : pm_S → pm_M → Prop} (hd : 1 ≤ d) (h : R 2 = 0) (hq : Q s (pm_ri M 1 (pm_row (pm_row (pm_row R 2 x) 3 (R 8)) 7 131))) : cV d yR_fail [.ref 1, .int x] s (pm_ri M 1 R) Q := by
  obtain ⟨d, rfl⟩ : ∃ e, d = e + 1 := ⟨d - 1, by omega⟩
  refine enR_fail (br_t (by rw [ri_eq]; exact h) ?_)
  rw [ri_eq, ri_si, ri_si, ri_si]
  exact hq
theorem sp_readDigits {d : Nat} {s : pm_S} {M : pm_M} {B : Nat → Nat} {n a : Nat} {R : Nat → Int32} {Q : pm_S → pm_M → Prop} (hd : 2 ≤ d) (hn : n ≤ 900) (ha : a ≤ n) (hB : ∀ k, k < n → M.1 14 k = nI (B k) ∧ B k < 256) (h2 : R 2 = 0) (h5 : R 5 = nI n) (h6 : R 6 = nI a) (h8 : R 8 = nI a)
    (hq : ∀ R', (∀ k, k ≠ 2 → k ≠ 3 → k ≠ 6 → k ≠ 7 → k ≠ 9 → R' k = R k) → R' 6 = nI (adv (isDi B) n a) → (adv (isDi B) n a - a ≤ 3 → R' 2 = 0 ∧ R' 3 = R 3 ∧ R' 7 = 128 ∧ R' 9 = nI (nvF B a (adv (isDi B) n a - a))) → (¬ adv (isDi B) n a - a ≤ 3 → R' 2 = 1 ∧ R' 3 = nI a ∧ R' 7 = 131) → Q s (pm_ri M 1 R')) : cV d yR_readDigits [.ref 1] s (pm_ri M 1 R) Q := by
  obtain ⟨d, rfl⟩ : ∃ e, d = e + 1 := ⟨d - 1, by omega⟩
  refine enR_readDigits ?_
  rw [ri_si]
  obtain ⟨z1, z2, z3, z4⟩ := adv_spec (P := isDi B) (n := n) _ a rfl ha
  have run : ∀ q i R1, a + i + q = adv (isDi B) n a → (∀ k, k ≠ 6 → k ≠ 9 → R1 k = R k) → R1 6 = nI (a + i) → R1 9 = nI (nvF B a (min i 3)) → wR_readDigits d 5 [.ref 1] [] s (pm_ri M 1 R1) Q := by
    intro q
    induction q with
    | zero =>
      intro i R1 hi e1 e2 e3
      have ei : a + i = adv (isDi B) n a := by omega
      have done : (((R1 6 - R1 8 ≤ 3) → Q s (pm_si (pm_ri M 1 R1) 1 7 128)) ∧ (¬ (R1 6 - R1 8 ≤ 3) → cV d yR_fail [.ref 1, .int 1] s (pm_si (pm_ri M 1 R1) 1 7 128) (fun s1 M1 => Q s1 M1))) := by
        rw [e2, e1 8 (by decide) (by decide), h8, pk_sub (by omega), lI 3, nI_leP (by omega) (by omega)]
        refine br_c (fun z => ?_) (fun z => ?_)
        · rw [ri_si]
          refine hq _ (fun k k2 k3 k6 k7 k9 => by rw [row_ne k7, e1 k k6 k9]) (by rw [row_ne (by decide), e2, ei]) (fun _ => ⟨?_, ?_, row_eq, ?_⟩) (fun z1 => by omega)
          · rw [row_ne (by decide), e1 2 (by decide) (by decide), h2]
          · rw [row_ne (by decide), e1 3 (by decide) (by decide)]
          · rw [row_ne (by decide), e3, show min i 3 = adv (isDi B) n a - a by omega]
        · rw [ri_si]
          refine sp_fail1 (by omega) (by rw [row_ne (by decide), e1 2 (by decide) (by decide), h2]) ?_
          refine hq _ (fun k k2 k3 k6 k7 k9 => by rw [row_ne k7, row_ne k3, row_ne k2, row_ne k7, e1 k k6 k9]) (by rw [row_ne (by decide), row_ne (by decide), row_ne (by decide), row_ne (by decide), e2, ei]) (fun z1 => by omega) (fun _ => ⟨?_, ?_, row_eq⟩)
          · rw [row_ne (by decide), row_ne (by decide), row_eq]
          · rw [row_ne (by decide), row_eq, row_ne (by decide), e1 8 (by decide) (by decide), h8]
      refine sgR_readDigits_5 ?_
      rw [ri_eq, e1 5 (by decide) (by decide), h5]
      rw [e2] at done ⊢
      rw [nI_leP (by omega) (by omega)]
      refine br_c (fun _ => done) (fun z => ⟨vpI (by omega) (by omega), ?_⟩)
      obtain ⟨y1, y2⟩ := hB (a + i) (by omega)
      rw [nI_clamp (by omega), ri_ne (by decide), y1]
      refine sp_isDigit (by omega) y2 (fun w => ?_) (fun w => br_t rfl ?_)
      · exact absurd ⟨by omega, by rw [← ei]; unfold isDi; simpa using w⟩ z3
      · simp only [ri_eq]
        rw [e2]
        exact done
    | succ q ih =>
      intro i R1 hi e1 e2 e3
      have hdi := z4 (a + i) (by omega) (by omega)
      unfold isDi at hdi
      rw [decide_eq_true_eq] at hdi
      obtain ⟨y1, y2⟩ := hB (a + i) (by omega)
      refine sgR_readDigits_5 ?_
      rw [ri_eq, e1 5 (by decide) (by decide), h5, e2, nI_leP (by omega) (by omega)]
      refine br_f (by omega) ⟨vpI (by omega) (by omega), ?_⟩
      rw [nI_clamp (by omega), ri_ne (by decide), y1]
      refine sp_isDigit (by omega) y2 (fun w => br_f (by decide) ?_) (fun w => absurd hdi w)
      rw [ri_eq, e2, e1 8 (by decide) (by decide), h8, pk_sub (by omega), lI 3, nI_leP (by omega) (by omega)]
      refine br_c (fun z => ?_) (fun z => ⟨vpI (by omega) (by omega), ?_⟩)
      · rw [ri_si, nI_1]
        refine ih (i + 1) _ (by omega) (fun k k6 k9 => by rw [row_ne k6, e1 k k6 k9]) row_eq ?_
        rw [row_ne (by decide), e3, show min i 3 = min (i + 1) 3 by omega]
      · have hv := nv_le (B := B) (a := a) (m := i) (fun j hj => by
          have := z4 (a + j) (by omega) (by omega)
          unfold isDi at this
          simpa using this) (by omega)
        have hv2 : (10 : Nat) ^ i ≤ 10 ^ 3 := Nat.pow_le_pow_right (by omega) (by omega)
        rw [nI_clamp (by omega), ri_ne (by decide), y1, ri_si, si_ri, ri_eq, ri_ri, nI_1]
        refine ih (i + 1) _ (by omega) (fun k k6 k9 => by rw [row_ne k6, row_ne k9, e1 k k6 k9]) row_eq ?_
        rw [row_ne (by decide), row_eq, e3, show min i 3 = i by omega, show min (i + 1) 3 = i + 1 by omega]
        unfold nvF at hv ⊢
        rw [itr_s]
        generalize itr _ i 0 = v at hv ⊢
        rw [lI 10, pk_mul, nI_add, lI 48, pk_sub (by omega)]
        congr 1
        omega
  have := run (adv (isDi B) n a - a) 0 (pm_row R 9 0) (by omega) (fun k k6 k9 => by rw [row_ne k9]) (by rw [row_ne (by decide), h6]; rfl) (by rw [row_eq]; rfl)
  exact this
theorem wk_ne {B : Nat → Nat} {a b : Nat} : wkF B a b = 130 ∨ (200 ≤ wkF B a b ∧ wkF B a b ≤ 220) := by
  unfold wkF
  rcases fst_cases (mtB B a b) 21 with ⟨h1, h2⟩ | ⟨i, h1, h2, h3, h4⟩
  · rw [h1]; exact Or.inl rfl
  · rw [h1]; exact Or.inr ⟨by show 200 ≤ 200 + i; omega, by show 200 + i ≤ 220; omega⟩
theorem sg_le {b : Nat} (h : isSg b = true) : b ≤ 93 := by
  unfold isSg at h
  simp only [List.contains_eq_mem, List.mem_cons, List.not_mem_nil, or_false, decide_eq_true_eq] at h
  omega
theorem sp_step {d : Nat} {s : pm_S} {M : pm_M} {B : Nat → Nat} {n p : Nat} {Q : pm_S → pm_M → Prop} (hd : 4 ≤ d) (hn : n ≤ 900) (hp : p ≤ n) (hB : ∀ k, k < n → M.1 14 k = nI (B k) ∧ B k < 256) (h2 : M.1 1 2 = 0) (h5 : M.1 1 5 = nI n) (h6 : M.1 1 6 = nI p)
    (hq : ∀ R', tkR B n p (M.1 1) R' → Q s (pm_ri M 1 R')) : cV d yR_step [.ref 1] s M Q := by
  obtain ⟨d, rfl⟩ : ∃ e, d = e + 1 := ⟨d - 1, by omega⟩
  refine enR_step (br_t h2 ?_)
  have bl : ∀ f p R, n - p = f → p ≤ n → R 5 = nI n → R 6 = nI p → wR_step d 60 [.ref 1] [] s (pm_ri M 1 (pm_row R 6 (nI (adv (isBl B) n p)))) Q → wR_step d 8 [.ref 1] [] s (pm_ri M 1 R) Q := by
    intro f
    induction f with
    | zero =>
      intro p R hf hp e5 e6 hk
      rw [adv_here (by omega), row_self e6] at hk
      refine sgR_step_8 ?_
      rw [ri_eq, e5, e6, nI_leP (by omega) (by omega)]
      exact br_t (by omega) hk
    | succ f ih =>
      intro p R hf hp e5 e6 hk
      obtain ⟨y1, y2⟩ := hB p (by omega)
      refine sgR_step_8 ?_
      rw [ri_eq, e5, e6, nI_leP (by omega) (by omega), nI_clamp (by omega), ri_ne (by decide), y1, ri_si, nI_1, lI 32, lI 10, nI_inj (by omega) (by omega), nI_inj (by omega) (by omega)]
      have go : isBl B p = true → wR_step d 8 [.ref 1] [] s (pm_ri M 1 (pm_row R 6 (nI (p + 1)))) Q := fun z => by
        rw [adv_step (by omega) z] at hk
        exact ih (p + 1) _ (by omega) (by omega) (by rw [row_ne (by decide), e5]) row_eq (by rw [row_row]; exact hk)
      refine br_f (by omega) ⟨vpI (by omega) (by omega), br_c (fun z => go (by unfold isBl; simp [z])) (fun z => ⟨vpI (by omega) (by omega), br_c (fun z2 => go (by unfold isBl; simp [z2])) (fun z2 => ?_)⟩)⟩
      rw [adv_here (fun h => by have := h.2; unfold isBl at this; simp at this; omega), row_self e6] at hk
      exact hk
  obtain ⟨z1, z2, z3, z4⟩ := adv_spec (P := isBl B) (n := n) _ p rfl hp
  have et : tkF B n p = if n ≤ adv (isBl B) n p then (129, adv (isBl B) n p, adv (isBl B) n p)
    else if isLe B (adv (isBl B) n p) = true then (wkF B (adv (isBl B) n p) (adv (isLe B) n (adv (isBl B) n p)), adv (isBl B) n p, adv (isLe B) n (adv (isBl B) n p))
    else if isDi B (adv (isBl B) n p) = true then ((if adv (isDi B) n (adv (isBl B) n p) - adv (isBl B) n p ≤ 3 then 128 else 131), adv (isBl B) n p, adv (isDi B) n (adv (isBl B) n p))
    else if isSg (B (adv (isBl B) n p)) = true then (B (adv (isBl B) n p), adv (isBl B) n p, adv (isBl B) n p + 1)
    else (131, adv (isBl B) n p, adv (isBl B) n p + 1) := rfl
  have fin := bl _ p (M.1 1) rfl hp h5 h6
  rw [ri_self] at fin
  refine fin ?_
  clear fin bl z3 z4
  generalize adv (isBl B) n p = a at et z1 z2 ⊢
  unfold tkR at hq
  rw [et] at hq
  clear et
  refine sgR_step_60 ?_
  rw [ri_eq, row_eq, row_ne (by decide), h5, nI_ltP (by omega) (by omega), nI_clamp (by omega)]
  refine br_c (fun c1 => ⟨vpI (by omega) (by omega), ?_⟩) (fun c1 => ?_)
  · simp only [if_neg (show ¬ n ≤ a by omega)] at hq
    obtain ⟨y1, y2⟩ := hB a c1
    rw [ri_ne (by decide), y1, ri_si]
    have q6 : (pm_row (pm_row (M.1 1) 6 (nI a)) 8 (nI a)) 6 = nI a := by rw [row_ne (by decide), row_eq]
    have q8 : (pm_row (pm_row (M.1 1) 6 (nI a)) 8 (nI a)) 8 = nI a := row_eq
    have q5 : (pm_row (pm_row (M.1 1) 6 (nI a)) 8 (nI a)) 5 = nI n := by rw [row_ne (by decide), row_ne (by decide), h5]
    have q2 : (pm_row (pm_row (M.1 1) 6 (nI a)) 8 (nI a)) 2 = 0 := by rw [row_ne (by decide), row_ne (by decide), h2]
    have qk : ∀ k, k ≠ 6 → k ≠ 8 → (pm_row (pm_row (M.1 1) 6 (nI a)) 8 (nI a)) k = M.1 1 k := fun k k6 k8 => by rw [row_ne k8, row_ne k6]
    generalize pm_row (pm_row (M.1 1) 6 (nI a)) 8 (nI a) = R at q6 q8 q5 q2 qk ⊢
    refine sp_isLetter (by omega) y2 (fun w => br_f (by decide) ?_) (fun w => br_t rfl ⟨by rw [ri_eq, q6]; exact vpI (by omega) (by omega), ?_⟩)
    · simp only [if_pos (show isLe B a = true by unfold isLe; simpa using w)] at hq
      have le : ∀ f q R, n - q = f → q ≤ n → a ≤ q → R 5 = nI n → R 6 = nI q → R 8 = nI a → Q s (pm_ri M 1 (pm_row (pm_row R 6 (nI (adv (isLe B) n q))) 7 (nI (wkF B a (adv (isLe B) n q))))) → wR_step d 104 [.ref 1] [] s (pm_ri M 1 R) Q := by
        intro f
        induction f with
        | zero =>
          intro q R hf hqn haq e5 e6 e8 hk
          rw [adv_here (by omega), row_self e6] at hk
          refine sgR_step_104 ?_
          rw [ri_eq, e5, e6, e8, nI_leP (by omega) (by omega)]
          refine br_t (by omega) (sp_wordFrom (B := B) (n := n) (by omega) hn hqn haq (fun k hk => by rw [ri_ne (by decide)]; exact hB k hk) ?_)
          rw [ri_si]
          exact hk
        | succ f ih =>
          intro q R hf hqn haq e5 e6 e8 hk
          obtain ⟨y1, y2⟩ := hB q (by omega)
          refine sgR_step_104 ?_
          rw [ri_eq, e5, e6, nI_leP (by omega) (by omega), nI_clamp (by omega), ri_ne (by decide), y1]
          refine br_f (by omega) ⟨vpI (by omega) (by omega), sp_isLetter (by omega) y2 (fun w => br_f (by decide) ?_) (fun w => br_t rfl ?_)⟩
          · rw [adv_step (by omega) (by unfold isLe; simpa using w)] at hk
            rw [ri_eq, ri_si, e6, nI_1]
            exact ih (q + 1) _ (by omega) (by omega) (by omega) (by rw [row_ne (by decide), e5]) row_eq (by rw [row_ne (by decide), e8]) (by rw [row_row]; exact hk)
          · rw [adv_here (fun h => w (by have := h.2; unfold isLe at this; simpa using this)), row_self e6] at hk
            rw [ri_eq, e6, e8]
            refine sp_wordFrom (B := B) (n := n) (by omega) hn hqn haq (fun k hk => by rw [ri_ne (by decide)]; exact hB k hk) ?_
            rw [ri_si]
            exact hk
      refine le _ a R rfl z2 (Nat.le_refl _) q5 q6 q8 (hq _ ⟨fun k k2 k3 k6 k7 k8 k9 => by rw [row_ne k7, row_ne k6, qk k k6 k8], row_eq, by rw [row_ne (by decide), row_ne (by decide), q8], fun _ => ⟨?_, ?_, ?_⟩, fun h => ?_, fun h => ?_⟩)
      · rw [row_ne (by decide), row_ne (by decide), q2]
      · rw [row_ne (by decide), row_ne (by decide), qk 3 (by decide) (by decide)]
      · rw [row_ne (by decide), row_eq]
      · have := wk_ne (B := B) (a := a) (b := adv (isLe B) n a); omega
      · have := wk_ne (B := B) (a := a) (b := adv (isLe B) n a); omega
    · simp only [if_neg (show ¬ isLe B a = true by unfold isLe; simpa using w)] at hq
      rw [ri_eq, q6, nI_clamp (by omega), ri_ne (by decide), y1]
      refine sp_isDigit (by omega) y2 (fun w1 => br_f (by decide) ?_) (fun w1 => br_t rfl ⟨by rw [ri_eq, q6]; exact vpI (by omega) (by omega), ?_⟩)
      · simp only [if_pos (show isDi B a = true by unfold isDi; simpa using w1)] at hq
        obtain ⟨u1, u2, u3, u4⟩ := adv_spec (P := isDi B) (n := n) _ a rfl z2
        refine sp_readDigits (by omega) hn z2 hB q2 q5 q6 q8 (fun R' r1 r2 r3 r4 => hq R' ⟨fun k k2 k3 k6 k7 k8 k9 => by rw [r1 k k2 k3 k6 k7 k9, qk k k6 k8], ?_, by rw [r1 8 (by decide) (by decide) (by decide) (by decide) (by decide), q8], ?_, ?_, ?_⟩)
        · by_cases c : adv (isDi B) n a - a ≤ 3
          · rw [if_pos c]; exact (r3 c).2.2.1
          · rw [if_neg c]; exact (r4 c).2.2
        · intro h
          by_cases c : adv (isDi B) n a - a ≤ 3
          · exact ⟨(r3 c).1, by rw [(r3 c).2.1, qk 3 (by decide) (by decide)], r2⟩
          · exact absurd (if_neg c) h
        · intro h
          by_cases c : adv (isDi B) n a - a ≤ 3
          · simp only [if_pos c] at h; omega
          · exact ⟨(r4 c).1, (r4 c).2.1, _, u2, r2⟩
        · intro h
          by_cases c : adv (isDi B) n a - a ≤ 3
          · exact (r3 c).2.2.2
          · simp only [if_neg c] at h; omega
      · simp only [if_neg (show ¬ isDi B a = true by unfold isDi; simpa using w1)] at hq
        rw [ri_eq, q6, nI_clamp (by omega), ri_ne (by decide), y1]
        refine sp_isSign (by omega) y2 (fun w2 => br_f (by decide) ⟨by rw [ri_eq, q6]; exact vpI (by omega) (by omega), ?_⟩) (fun w2 => br_t rfl ?_)
        · simp only [if_pos w2] at hq
          have hs := sg_le w2
          rw [ri_eq, q6, nI_clamp (by omega), ri_ne (by decide), y1, ri_si, ri_si, nI_1]
          refine hq _ ⟨fun k k2 k3 k6 k7 k8 k9 => by rw [row_ne k6, row_ne k7, qk k k6 k8], by rw [row_ne (by decide), row_eq], by rw [row_ne (by decide), row_ne (by decide), q8], fun _ => ⟨?_, ?_, row_eq⟩, fun h => ?_, fun h => ?_⟩
          · rw [row_ne (by decide), row_ne (by decide), q2]
          · rw [row_ne (by decide), row_ne (by decide), qk 3 (by decide) (by decide)]
          · omega
          · omega
        · simp only [if_neg (show ¬ isSg (B a) = true by rw [w2]; decide)] at hq
          refine sp_fail1 (by omega) q2 (hq _ ⟨fun k k2 k3 k6 k7 k8 k9 => by rw [row_ne k7, row_ne k3, row_ne k2, qk k k6 k8], row_eq, by rw [row_ne (by decide), row_ne (by decide), row_ne (by decide), q8], fun h => absurd rfl h, fun _ => ⟨?_, ?_, a, z2, ?_⟩, fun h => ?_⟩)
          · rw [row_ne (by decide), row_ne (by decide), row_eq]
          · rw [row_ne (by decide), row_eq, q8]
          · rw [row_ne (by decide), row_ne (by decide), row_ne (by decide), q6]
          · omega
  · simp only [if_pos (show n ≤ a by omega)] at hq
    rw [ri_si, ri_si]
    refine hq _ ⟨fun k k2 k3 k6 k7 k8 k9 => by rw [row_ne k7, row_ne k8, row_ne k6], row_eq, by rw [row_ne (by decide), row_eq], fun _ => ⟨?_, ?_, ?_⟩, fun h => ?_, fun h => ?_⟩
    · rw [row_ne (by decide), row_ne (by decide), row_ne (by decide), h2]
    · rw [row_ne (by decide), row_ne (by decide), row_ne (by decide)]
    · rw [row_ne (by decide), row_ne (by decide), row_eq]
    · omega
    · omega
