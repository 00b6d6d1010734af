theorem sp_see {d : Nat} {s : pm_S} {M : pm_M} {B : Nat → Nat} {n x : Nat} {Q : Int32 → pm_S → pm_M → Prop} (hd : 1 ≤ d) (hn : n ≤ 900) (hx : x ≤ 1000) (hB : ∀ k, k < n → M.1 162 k = nI (B k) ∧ B k < 256) (h8 : M.1 159 8 = nI n) (hq1 : n ≤ x → Q (-1) s M) (hq2 : x < n → Q (nI (B x)) s M) : cI d yM_see [.ref 159, .int (nI x)] s M Q := by
  obtain ⟨d, rfl⟩ : ∃ e, d = e + 1 := ⟨d - 1, by omega⟩
  refine enM_see ?_
  rw [h8]
  simp only [nI_leP (a := n) (b := x) (by omega) (by omega)]
  refine ⟨fun z => vpI (by omega) (by omega), ?_⟩
  by_cases c : n ≤ x
  · rw [if_pos c]; exact hq1 c
  · rw [if_neg c, nI_clamp (by omega), (hB x (by omega)).1]; exact hq2 (by omega)
theorem sp_seeS {d : Nat} {s : pm_S} {M : pm_M} {B : Nat → Nat} {n x : Nat} {Q : Int32 → pm_S → pm_M → Prop} (hd : 1 ≤ d) (hn : n ≤ 900) (hx : x ≤ 1000) (hB : ∀ k, k < n → M.1 162 k = nI (B k) ∧ B k < 256) (h8 : M.1 159 8 = nI n) (hq1 : (x < n ∧ isLe B x = true) → Q 1 s M) (hq0 : ¬ (x < n ∧ isLe B x = true) → Q 0 s M) : cI d yM_see [.ref 159, .int (nI x)] s M (fun r3 s3 M3 => cI d yM_isSmall [.int r3] s3 M3 Q) := by
  obtain ⟨d, rfl⟩ : ∃ e, d = e + 1 := ⟨d - 1, by omega⟩
  refine sp_see (by omega) hn hx hB h8 (fun z => enM_isSmall ?_) (fun z => enM_isSmall ?_)
  · rw [if_pos (by decide)]; exact hq0 (by omega)
  · have hb := (hB x z).2
    rw [lI 97, lI 122]
    simp only [nI_ltP (a := B x) (b := 97) (by omega) (by omega), nI_ltP (a := 122) (b := B x) (by omega) (by omega)]
    unfold isLe at hq1 hq0
    simp only [decide_eq_true_eq] at hq1 hq0
    by_cases c1 : B x < 97
    · rw [if_pos c1]; exact hq0 (by omega)
    · rw [if_neg c1]
      by_cases c2 : 122 < B x
      · rw [if_pos c2]; exact hq0 (by omega)
      · rw [if_neg c2]; exact hq1 (by omega)
theorem sp_seeD {d : Nat} {s : pm_S} {M : pm_M} {B : Nat → Nat} {n x : Nat} {Q : Int32 → pm_S → pm_M → Prop} (hd : 1 ≤ d) (hn : n ≤ 900) (hx : x ≤ 1000) (hB : ∀ k, k < n → M.1 162 k = nI (B k) ∧ B k < 256) (h8 : M.1 159 8 = nI n) (hq1 : (x < n ∧ isDi B x = true) → Q 1 s M) (hq0 : ¬ (x < n ∧ isDi B x = true) → Q 0 s M) : cI d yM_see [.ref 159, .int (nI x)] s M (fun r3 s3 M3 => cI d yM_isDigit [.int r3] s3 M3 Q) := by
  obtain ⟨d, rfl⟩ : ∃ e, d = e + 1 := ⟨d - 1, by omega⟩
  refine sp_see (by omega) hn hx hB h8 (fun z => enM_isDigit ?_) (fun z => enM_isDigit ?_)
  · rw [if_pos (by decide)]; exact hq0 (by omega)
  · have hb := (hB x z).2
    rw [lI 48, lI 57]
    simp only [nI_ltP (a := B x) (b := 48) (by omega) (by omega), nI_ltP (a := 57) (b := B x) (by omega) (by omega)]
    unfold isDi at hq1 hq0
    simp only [decide_eq_true_eq] at hq1 hq0
    by_cases c1 : B x < 48
    · rw [if_pos c1]; exact hq0 (by omega)
    · rw [if_neg c1]
      by_cases c2 : 57 < B x
      · rw [if_pos c2]; exact hq0 (by omega)
      · rw [if_neg c2]; exact hq1 (by omega)
/-- the model's row behind a token -/
def tnR (B : Nat → Nat) (n p : Nat) (R R' : Nat → Int32) : Prop :=
  (∀ k, k ≠ 6 → k ≠ 7 → k ≠ 9 → k ≠ 10 → R' k = R k) ∧ R' 9 = nI (rkK (tkF B n p).1) ∧ R' 6 = nI (tkF B n p).2.1 ∧ R' 7 = nI (tkF B n p).2.2
  ∧ ((tkF B n p).1 = 128 → R' 10 = nI (nvF B (tkF B n p).2.1 ((tkF B n p).2.2 - (tkF B n p).2.1)))
theorem sp_next {d : Nat} {s : pm_S} {M : pm_M} {B : Nat → Nat} {n p : Nat} {Q : pm_S → pm_M → Prop} (hd : 3 ≤ d) (hn : n ≤ 900) (hp : p ≤ n) (hB : ∀ k, k < n → M.1 162 k = nI (B k) ∧ B k < 256) (h8 : M.1 159 8 = nI n) (h7 : M.1 159 7 = nI p)
    (hq : ∀ R', tnR B n p (M.1 159) R' → Q s (pm_ri M 159 R')) : cV d yM_next [.ref 159] s M Q := by
  obtain ⟨d, rfl⟩ : ∃ e, d = e + 1 := ⟨d - 1, by omega⟩
  refine enM_next ?_
  have hB' : ∀ R : Nat → Int32, ∀ k, k < n → (pm_ri M 159 R).1 162 k = nI (B k) ∧ B k < 256 := fun R k hk => by rw [ri_ne (by decide)]; exact hB k hk
  have bl : ∀ f p R, n - p = f → p ≤ n → R 8 = nI n → R 6 = nI p → wM_next d 8 [.ref 159, .null] [] s (pm_ri M 159 (pm_row R 6 (nI (adv (isBl B) n p)))) Q → wM_next d 8 [.ref 159, .null] [] s (pm_ri M 159 R) Q := by
    intro f
    induction f with
    | zero =>
      intro p R hf hp e8 e6 hk
      rw [adv_here (by omega), row_self e6] at hk
      exact hk
    | succ f ih =>
      intro p R hf hp e8 e6 hk
      by_cases c : isBl B p = true
      · rw [adv_step (by omega) c] at hk
        have go := ih (p + 1) (pm_row R 6 (nI (p + 1))) (by omega) (by omega) (by rw [row_ne (by decide), e8]) row_eq (by rw [row_row]; exact hk)
        unfold isBl at c
        rw [decide_eq_true_eq] at c
        refine sgM_next_8 ?_
        rw [ri_eq, e6]
        refine sp_see (by omega) hn (by omega) (hB' _) (by rw [ri_eq, e8]) (fun z => by omega) (fun z => ?_)
        have hb := (hB p z).2
        rw [lI 10, nI_inj (by omega) (by omega), ri_eq, e6, nI_1, ri_si]
        refine br_c (fun _ => go) (fun z1 => ?_)
        refine sp_see (by omega) hn (by omega) (hB' _) (by rw [ri_eq, e8]) (fun z => by omega) (fun z => ?_)
        rw [lI 32, nI_inj (by omega) (by omega), ri_eq, e6, nI_1, ri_si]
        exact br_t (by omega) go
      · rw [adv_here (fun h => c h.2), row_self e6] at hk
        exact hk
  obtain ⟨z1, z2, z3, z4⟩ := adv_spec (P := isBl B) (n := n) _ p rfl hp
  have et : tkF B n p = if n ≤ adv (isBl B) n p then (129, adv (isBl B) n p, adv (isBl B) n p)
    else if isLe B (adv (isBl B) n p) = true then (wkF B (adv (isBl B) n p) (adv (isLe B) n (adv (isBl B) n p)), adv (isBl B) n p, adv (isLe B) n (adv (isBl B) n p))
    else if isDi B (adv (isBl B) n p) = true then ((if adv (isDi B) n (adv (isBl B) n p) - adv (isBl B) n p ≤ 3 then 128 else 131), adv (isBl B) n p, adv (isDi B) n (adv (isBl B) n p))
    else if isSg (B (adv (isBl B) n p)) = true then (B (adv (isBl B) n p), adv (isBl B) n p, adv (isBl B) n p + 1)
    else (131, adv (isBl B) n p, adv (isBl B) n p + 1) := rfl
  rw [si_ri, h7]
  refine bl _ p _ rfl hp (by rw [row_ne (by decide), h8]) row_eq ?_
  rw [row_row]
  clear bl z4
  generalize adv (isBl B) n p = a at et z1 z2 z3 ⊢
  unfold tnR at hq
  rw [et] at hq
  clear et
  have q6 : (pm_row (M.1 159) 6 (nI a)) 6 = nI a := row_eq
  have q8 : (pm_row (M.1 159) 6 (nI a)) 8 = nI n := by rw [row_ne (by decide), h8]
  have qk : ∀ k, k ≠ 6 → (pm_row (M.1 159) 6 (nI a)) k = M.1 159 k := fun k k6 => row_ne k6
  generalize pm_row (M.1 159) 6 (nI a) = R at q6 q8 qk ⊢
  have tail : ((R 6 < R 8) → cI d yM_see [.ref 159, .int (R 6)] s (pm_ri M 159 (pm_row R 7 (R 6))) (fun r3 s3 M3 => cI d yM_isSmall [.int r3] s3 M3 (fun r4 s4 M4 => (((r4 = 0) → cI d yM_see [.ref 159, .int (M4.1 159 6)] s4 M4 (fun r5 s5 M5 => cI d yM_isDigit [.int r5] s5 M5 (fun r6 s6 M6 => (((r6 = 0) → wM_next d 254 [.ref 159, .int 0] [] s6 (pm_si (pm_si M6 159 7 ((M6.1 159 7) + 1)) 159 9 25) Q) ∧ (¬ (r6 = 0) → wM_next d 146 [.ref 159, .null] [] s6 (pm_si M6 159 10 0) Q))))) ∧ (¬ (r4 = 0) → wM_next d 89 [.ref 159, .null] [] s4 M4 Q))))) ∧ (¬ (R 6 < R 8) → Q s (pm_si (pm_ri M 159 (pm_row R 7 (R 6))) 159 9 24)) := by
    rw [q6, q8, nI_ltP (by omega) (by omega)]
    have r6 : (pm_row R 7 (nI a)) 6 = nI a := by rw [row_ne (by decide), q6]
    have r7 : (pm_row R 7 (nI a)) 7 = nI a := row_eq
    have r8 : (pm_row R 7 (nI a)) 8 = nI n := by rw [row_ne (by decide), q8]
    have rk : ∀ k, k ≠ 6 → k ≠ 7 → (pm_row R 7 (nI a)) k = M.1 159 k := fun k k6 k7 => by rw [row_ne k7, qk k k6]
    generalize pm_row R 7 (nI a) = R at r6 r7 r8 rk ⊢
    refine br_c (fun c1 => ?_) (fun c1 => ?_)
    · simp only [if_neg (show ¬ n ≤ a by omega)] at hq
      refine sp_seeS (by omega) hn (by omega) (hB' _) (by rw [ri_eq, r8]) (fun w => br_f (by decide) ?_) (fun w => br_t rfl ?_)
      · simp only [if_pos w.2] at hq
        have le : ∀ f q R, n - q = f → q ≤ n → a ≤ q → R 8 = nI n → R 6 = nI a → R 7 = nI q → Q s (pm_ri M 159 (pm_row (pm_row R 7 (nI (adv (isLe B) n q))) 9 (nI (rkK (wkF B a (adv (isLe B) n q)))))) → wM_next d 89 [.ref 159, .null] [] s (pm_ri M 159 R) Q := by
          intro f
          induction f with
          | zero =>
            intro q R hf hqn haq e8 e6 e7 hk
            rw [adv_here (by omega), row_self e7] at hk
            refine sgM_next_89 ?_
            rw [ri_eq, e7]
            refine sp_seeS (by omega) hn (by omega) (hB' _) (by rw [ri_eq, e8]) (fun w => by omega) (fun w => br_t rfl (sp_keyAt (by omega) hn hqn haq (hB' _) (by rw [ri_eq, e6]) (by rw [ri_eq, e7]) ?_))
            rw [ri_si]
            exact hk
          | succ f ih =>
            intro q R hf hqn haq e8 e6 e7 hk
            refine sgM_next_89 ?_
            rw [ri_eq, e7]
            refine sp_seeS (by omega) hn (by omega) (hB' _) (by rw [ri_eq, e8]) (fun w => br_f (by decide) ?_) (fun w => br_t rfl ?_)
            · rw [adv_step w.1 w.2] at hk
              rw [ri_eq, ri_si, e7, nI_1]
              exact ih (q + 1) _ (by omega) (by omega) (by omega) (by rw [row_ne (by decide), e8]) (by rw [row_ne (by decide), e6]) row_eq (by rw [row_row]; exact hk)
            · rw [adv_here w, row_self e7] at hk
              refine sp_keyAt (by omega) hn hqn haq (hB' _) (by rw [ri_eq, e6]) (by rw [ri_eq, e7]) ?_
              rw [ri_si]
              exact hk
        refine le _ a R rfl z2 (Nat.le_refl _) r8 r6 r7 (hq _ ⟨fun k k6 k7 k9 k10 => by rw [row_ne k9, row_ne k7, rk k k6 k7], row_eq, by rw [row_ne (by decide), row_ne (by decide), r6], by rw [row_ne (by decide), row_eq], fun h => ?_⟩)
        have := wk_ne (B := B) (a := a) (b := adv (isLe B) n a); omega
      · simp only [if_neg (show ¬ isLe B a = true from fun h => w ⟨c1, h⟩)] at hq
        rw [ri_eq, r6]
        refine sp_seeD (by omega) hn (by omega) (hB' _) (by rw [ri_eq, r8]) (fun w1 => br_f (by decide) ?_) (fun w1 => br_t rfl ?_)
        · simp only [if_pos w1.2] at hq
          obtain ⟨u1, u2, u3, u4⟩ := adv_spec (P := isDi B) (n := n) _ a rfl z2
          rw [ri_si]
          have run : ∀ q i R1, a + i + q = adv (isDi B) n a → (∀ k, k ≠ 7 → k ≠ 10 → R1 k = R k) → R1 7 = nI (a + i) → R1 10 = nI (nvF B a (min i 3)) → wM_next d 146 [.ref 159, .null] [] s (pm_ri M 159 R1) Q := by
            intro q
            induction q with
            | zero =>
              intro i R1 hi e1 e2 e3
              have ei : a + i = adv (isDi B) n a := by omega
              refine sgM_next_146 ?_
              rw [ri_eq, e2]
              refine sp_seeD (by omega) hn (by omega) (hB' _) (by rw [ri_eq, e1 8 (by decide) (by decide), r8]) (fun w => ?_) (fun w => br_t rfl ?_)
              · rw [ei] at w; exact absurd w u3
              · rw [ri_eq, ri_si, e2, e1 6 (by decide) (by decide), r6, pk_sub (by omega), lI 3]
                simp only [nI_leP (a := a + i - a) (b := 3) (by omega) (by omega)]
                refine hq _ ⟨fun k k6 k7 k9 k10 => by rw [row_ne k9, e1 k k7 k10, rk k k6 k7], ?_, by rw [row_ne (by decide), e1 6 (by decide) (by decide), r6], by rw [row_ne (by decide), e2, ei], fun h => ?_⟩
                · rw [row_eq, ei]
                  by_cases c : adv (isDi B) n a - a ≤ 3
                  · simp only [if_pos c]; rfl
                  · simp only [if_neg c]; rfl
                · by_cases c : adv (isDi B) n a - a ≤ 3
                  · rw [row_ne (by decide), e3, show min i 3 = adv (isDi B) n a - a by omega]
                  · simp only [if_neg c] at h; omega
            | succ q ih =>
              intro i R1 hi e1 e2 e3
              have hdi := u4 (a + i) (by omega) (by omega)
              have hdj := hdi
              unfold isDi at hdi
              rw [decide_eq_true_eq] at hdi
              refine sgM_next_146 ?_
              rw [ri_eq, e2]
              refine sp_seeD (by omega) hn (by omega) (hB' _) (by rw [ri_eq, e1 8 (by decide) (by decide), r8]) (fun w => br_f (by decide) ?_) (fun w => absurd ⟨by omega, hdj⟩ w)
              rw [ri_eq, e2, e1 6 (by decide) (by decide), r6, pk_sub (by omega), lI 3, nI_leP (by omega) (by omega)]
              refine br_c (fun z => ?_) (fun z => sp_see (by omega) hn (by omega) (hB' _) (by rw [ri_eq, e1 8 (by decide) (by decide), r8]) (fun z => by omega) (fun _ => ?_))
              · rw [ri_si, nI_1]
                refine ih (i + 1) _ (by omega) (fun k k7 k10 => by rw [row_ne k7, e1 k k7 k10]) row_eq ?_
                rw [row_ne (by decide), e3, show min i 3 = min (i + 1) 3 by omega]
              · have hv := nv_le (B := B) (a := a) (m := i) (fun j hj => by
                  have := u4 (a + j) (by omega) (by omega)
                  unfold isDi at this
                  simpa using this) (by omega)
                have hv2 : (10 : Nat) ^ i ≤ 10 ^ 3 := Nat.pow_le_pow_right (by omega) (by omega)
                rw [ri_si, si_ri, ri_eq, ri_ri, ri_eq, e2, nI_1]
                refine ih (i + 1) _ (by omega) (fun k k7 k10 => by rw [row_ne k7, row_ne k10, e1 k k7 k10]) row_eq ?_
                rw [row_ne (by decide), row_eq, e3, show min i 3 = i by omega, show min (i + 1) 3 = i + 1 by omega]
                unfold nvF at hv ⊢
                rw [itr_s]
                generalize itr _ i 0 = v at hv ⊢
                rw [lI 10, pk_mul, nI_add, lI 48, pk_sub (by omega)]
                congr 1
                omega
          exact run (adv (isDi B) n a - a) 0 (pm_row R 10 0) (by omega) (fun k k7 k10 => by rw [row_ne k10]) (by rw [row_ne (by decide), r7]; rfl) (by rw [row_eq]; rfl)
        · simp only [if_neg (show ¬ isDi B a = true from fun h => w1 ⟨c1, h⟩)] at hq
          have hb := (hB a c1).2
          rw [ri_eq, r7, ri_si, ri_si, nI_1]
          have run : ∀ q i R1, i + q = 12 → (∀ k, k ≠ 7 → k ≠ 9 → R1 k = R k) → R1 7 = nI (a + 1) → R1 9 = nI (sgK (B a) i) → wM_next d 254 [.ref 159, .int (nI i)] [] s (pm_ri M 159 R1) Q := by
            intro q
            induction q with
            | zero =>
              intro i R1 hi e1 e2 e3
              have ei : i = 12 := by omega
              subst ei
              refine sgM_next_254 (br_t (by decide) ?_)
              rw [sgK_12 _ hb] at e3
              by_cases c : isSg (B a) = true
              · simp only [if_pos c] at hq e3
                have hs := sg_le c
                exact hq _ ⟨fun k k6 k7 k9 k10 => by rw [e1 k k7 k9, rk k k6 k7], e3, by rw [e1 6 (by decide) (by decide), r6], e2, fun h => by omega⟩
              · simp only [if_neg c] at hq e3
                exact hq _ ⟨fun k k6 k7 k9 k10 => by rw [e1 k k7 k9, rk k k6 k7], e3, by rw [e1 6 (by decide) (by decide), r6], e2, fun h => by omega⟩
            | succ q ih =>
              intro i R1 hi e1 e2 e3
              obtain ⟨y1, y2⟩ := sgL_tab i (by omega)
              refine sgM_next_254 (br_f (by rw [lI 12, nI_leP (by omega) (by omega)]; omega) ?_)
              rw [ri_eq, e1 6 (by decide) (by decide), r6]
              refine sp_see (by omega) hn (by omega) (hB' _) (by rw [ri_eq, e1 8 (by decide) (by decide), r8]) (fun z => by omega) (fun _ => ⟨vpI (by omega) (by omega), ?_⟩)
              rw [nI_clamp (by omega), y1, nI_inj (by omega) (by omega), nI_1, ri_si]
              have es : sgK (B a) (i + 1) = if B a = sgL i then 30 + i else sgK (B a) i := rfl
              refine br_c (fun z => ih (i + 1) _ (by omega) (fun k k7 k9 => by rw [row_ne k9, e1 k k7 k9]) (by rw [row_ne (by decide), e2]) ?_) (fun z => ih (i + 1) _ (by omega) e1 e2 ?_)
              · rw [row_eq, es, if_pos z, lI 30, nI_add]
              · rw [e3, es, if_neg z]
          exact run 12 0 _ rfl (fun k k7 k9 => by rw [row_ne k9, row_ne k7]) (by rw [row_ne (by decide), row_eq]) (by rw [row_eq]; rfl)
    · simp only [if_pos (show n ≤ a by omega)] at hq
      rw [ri_si]
      refine hq _ ⟨fun k k6 k7 k9 k10 => by rw [row_ne k9, rk k k6 k7], row_eq, by rw [row_ne (by decide), r6], by rw [row_ne (by decide), r7], fun h => by omega⟩
  refine sgM_next_8 ?_
  rw [ri_eq, q6]
  have see0 : ∀ {Q : Int32 → pm_S → pm_M → Prop}, (n ≤ a → Q (-1) s (pm_ri M 159 R)) → (a < n → Q (nI (B a)) s (pm_ri M 159 R)) → cI d yM_see [.ref 159, .int (nI a)] s (pm_ri M 159 R) Q := fun g1 g2 => sp_see (by omega) hn (by omega) (hB' _) (by rw [ri_eq, q8]) g1 g2
  have nb : a < n → B a < 256 ∧ B a ≠ 10 ∧ B a ≠ 32 := fun h => ⟨(hB a h).2, fun e => z3 ⟨h, by unfold isBl; simp [e]⟩, fun e => z3 ⟨h, by unfold isBl; simp [e]⟩⟩
  refine see0 (fun z => br_f (by decide) ?_) (fun z => br_f (by rw [lI 10, nI_inj (by have := nb z; omega) (by omega)]; exact (nb z).2.1) ?_)
  · rw [ri_eq, q6]
    refine see0 (fun z => br_f (by decide) ?_) (fun z => by omega)
    rw [ri_eq, ri_si]
    exact tail
  · rw [ri_eq, q6]
    refine see0 (fun z => by omega) (fun z => br_f (by rw [lI 32, nI_inj (by have := nb z; omega) (by omega)]; exact (nb z).2.2) ?_)
    rw [ri_eq, ri_si]
    exact tail
