/-! the class's laws' parser: chains of states -/
def cK (M M' : pm_M) : Prop := (∀ c, c ≠ 1 → c ≠ 10 → c ≠ 11 → M'.1 c = M.1 c) ∧ M'.2 = M.2 ∧ (∀ k, k ≠ 2 → k ≠ 3 → k ≠ 6 → k ≠ 7 → k ≠ 8 → k ≠ 9 → k ≠ 10 → M'.1 1 k = M.1 1 k) ∧ ∀ k, k ≠ 3 → M'.1 10 k = M.1 10 k
theorem cK_rf {M : pm_M} : cK M M := ⟨fun _ _ _ _ => rfl, rfl, fun _ _ _ _ _ _ _ _ => rfl, fun _ _ => rfl⟩
theorem cK_tr {M M1 M2 : pm_M} (h : cK M M1) (k : cK M1 M2) : cK M M2 :=
  ⟨fun c h1 h2 h3 => by rw [k.1 c h1 h2 h3, h.1 c h1 h2 h3], by rw [k.2.1, h.2.1], fun j a b c d e f g => by rw [k.2.2.1 j a b c d e f g, h.2.2.1 j a b c d e f g], fun j a => by rw [k.2.2.2 j a, h.2.2.2 j a]⟩
theorem cK_rd {M : pm_M} {R : Nat → Int32} (h : ∀ k, k ≠ 2 → k ≠ 3 → k ≠ 6 → k ≠ 7 → k ≠ 8 → k ≠ 9 → k ≠ 10 → R k = M.1 1 k) : cK M (pm_ri M 1 R) :=
  ⟨fun c h1 _ _ => ri_ne h1, rfl, fun j a b c d e f g => by rw [ri_eq]; exact h j a b c d e f g, fun j _ => by rw [ri_ne (by decide)]⟩
theorem cK_tp {B : Nat → Nat} {n : Nat} {M M' : pm_M} (h : cK M M') (ht : tpC B n M) : tpC B n M' := ⟨ht.1, fun k hk => by rw [h.1 14 (by decide) (by decide) (by decide)]; exact ht.2 k hk⟩
/-- from x, a, M on to x', b, M'; c: how many bytes more than steps -/
def chC (B : Nat → Nat) (n c : Nat) (x : PS) (a : Nat) (M : pm_M) (x' : PS) (b : Nat) (M' : pm_M) : Prop :=
  cK M M' ∧ tpC B n M' ∧ CAt B n x' (M'.1 1) ∧ M'.1 10 3 = nI b ∧ a ≤ b ∧ b ≤ 900 ∧ ∀ p', x' = .inr p' → ∃ p, x = .inr p ∧ a ≤ p ∧ b + c + p ≤ a + p' ∧ ∀ k, k < a → M'.1 11 k = M.1 11 k
theorem chC_tr {B : Nat → Nat} {n c c' a b e : Nat} {x x1 x2 : PS} {M M1 M2 : pm_M} (h : chC B n c x a M x1 b M1) (k : chC B n c' x1 b M1 x2 e M2) : chC B n (c + c') x a M x2 e M2 := by
  obtain ⟨h1, h2, h3, h4, h5, h6, h7⟩ := h
  obtain ⟨k1, k2, k3, k4, k5, k6, k7⟩ := k
  refine ⟨cK_tr h1 k1, k2, k3, k4, by omega, k6, fun p2 e2 => ?_⟩
  obtain ⟨p1, e1, l1, l2, l3⟩ := k7 p2 e2
  obtain ⟨p, e0, m1, m2, m3⟩ := h7 p1 e1
  exact ⟨p, e0, m1, by omega, fun j hj => by rw [l3 j (by omega), m3 j hj]⟩
theorem chC_mo {B : Nat → Nat} {n c c' a b : Nat} {x x1 : PS} {M M1 : pm_M} (h : chC B n c x a M x1 b M1) (hc : c' ≤ c) : chC B n c' x a M x1 b M1 := by
  obtain ⟨h1, h2, h3, h4, h5, h6, h7⟩ := h
  refine ⟨h1, h2, h3, h4, h5, h6, fun p1 e1 => ?_⟩
  obtain ⟨p, e0, m1, m2, m3⟩ := h7 p1 e1
  exact ⟨p, e0, m1, by omega, m3⟩
theorem chC_self {B : Nat → Nat} {n c a b : Nat} {x x1 : PS} {M M1 : pm_M} (h : chC B n c x a M x1 b M1) : chC B n 0 x1 b M1 x1 b M1 := by
  obtain ⟨h1, h2, h3, h4, h5, h6, h7⟩ := h
  refine ⟨cK_rf, h2, h3, h4, Nat.le_refl _, h6, fun p1 e1 => ?_⟩
  obtain ⟨p, e0, m1, m2, m3⟩ := h7 p1 e1
  exact ⟨p1, e1, by omega, by omega, fun _ _ => rfl⟩
/-- the reader's row alone changes -/
theorem chC_row {B : Nat → Nat} {n c a b c' : Nat} {x x1 x2 : PS} {M M1 : pm_M} {R : Nat → Int32} (h : chC B n c x a M x1 b M1) (hR : ∀ k, k ≠ 2 → k ≠ 3 → k ≠ 6 → k ≠ 7 → k ≠ 8 → k ≠ 9 → k ≠ 10 → R k = M1.1 1 k) (hc : CAt B n x2 R) (ha : ∀ p2, x2 = .inr p2 → ∃ p1, x1 = .inr p1 ∧ p1 + c' ≤ p2) : chC B n (c + c') x a M x2 b (pm_ri M1 1 R) := by
  refine chC_tr h ?_
  obtain ⟨h1, h2, h3, h4, h5, h6, h7⟩ := h
  refine ⟨cK_rd hR, cK_tp (cK_rd hR) h2, by rw [ri_eq]; exact hc, by rw [ri_ne (by decide)]; exact h4, Nat.le_refl _, h6, fun p2 e2 => ?_⟩
  obtain ⟨p1, e1, l⟩ := ha p2 e2
  obtain ⟨p, e0, m1, m2, m3⟩ := h7 p1 e1
  exact ⟨p1, e1, by omega, by omega, fun k _ => by rw [ri_ne (by decide)]⟩
theorem nx_adv {B : Nat → Nat} {n : Nat} {x : PS} (hB : ∀ k, k < n → B k < 256) (hx : ∀ p, x = .inr p → p ≤ n) (hk : kiF B n x ≠ 129) : ∀ p2, nxF B n x = .inr p2 → ∃ p1, x = .inr p1 ∧ p1 + 1 ≤ p2 := by
  intro p2 e
  cases x with
  | inl f => cases e
  | inr p =>
    refine ⟨p, rfl, ?_⟩
    obtain ⟨k1, k2, k3, k4, k5, k6, k7⟩ := tk_spec (hx p rfl) hB
    have e' : psF B n (tE B n p) = .inr p2 := e
    unfold psF at e'
    by_cases z : tK B n (tE B n p) = 131
    · rw [if_pos z] at e'; cases e'
    · rw [if_neg z] at e'
      cases e'
      have := k5 hk
      omega
theorem CAt_n {B : Nat → Nat} {n : Nat} {x : PS} {R : Nat → Int32} (h : CAt B n x R) : ∀ p, x = .inr p → p ≤ n := by
  intro p e
  subst e
  exact h.2.1
theorem sp_stC {d : Nat} {s : pm_S} {M M1 : pm_M} {B : Nat → Nat} {n c a b : Nat} {x x1 : PS} {Q : pm_S → pm_M → Prop} (hd : 4 ≤ d) (h : chC B n c x a M x1 b M1) (hk : kiF B n x1 ≠ 129)
    (hq : ∀ M', chC B n (c + 1) x a M (nxF B n x1) b M' → chC B n 1 x1 b M1 (nxF B n x1) b M' → M'.1 1 10 = M1.1 1 10 → Q s M') : cV d yR_step [.ref 1] s M1 Q := by
  refine sp_stepX hd h.2.1 h.2.2.1 (fun R' a1 a2 => ?_)
  have hn := nx_adv (fun k hk => (h.2.1.2 k hk).2) (CAt_n h.2.2.1) hk
  have hr : ∀ k, k ≠ 2 → k ≠ 3 → k ≠ 6 → k ≠ 7 → k ≠ 8 → k ≠ 9 → k ≠ 10 → R' k = M1.1 1 k := fun k b1 b2 b3 b4 b5 b6 _ => a2 k b1 b2 b3 b4 b5 b6
  have h1 := chC_row (c' := 1) (chC_self h) hr a1 hn
  exact hq _ (chC_row h hr a1 hn) (chC_mo h1 (by omega)) (by rw [ri_eq]; exact a2 10 (by decide) (by decide) (by decide) (by decide) (by decide) (by decide))
theorem sp_exC {d : Nat} {s : pm_S} {M M1 : pm_M} {B : Nat → Nat} {n c a b w : Nat} {x x1 : PS} {Q : pm_S → pm_M → Prop} (hd : 5 ≤ d) (h : chC B n c x a M x1 b M1) (hw : w < 256) (h9 : w ≠ 129)
    (hq : ∀ M', chC B n (c + 1) x a M (exF B n w x1) b M' → chC B n 1 x1 b M1 (exF B n w x1) b M' → M'.1 1 10 = M1.1 1 10 → Q s M') : cV d yR_expect [.ref 1, .int (nI w)] s M1 Q := by
  refine sp_expectX hd h.2.1 hw h.2.2.1 (fun R' a1 a2 => ?_)
  have hn : ∀ p2, exF B n w x1 = .inr p2 → ∃ p1, x1 = .inr p1 ∧ p1 + 1 ≤ p2 := by
    intro p2 e
    unfold exF at e
    by_cases z : kiF B n x1 = w
    · rw [if_pos z] at e
      exact nx_adv (fun k hk => (h.2.1.2 k hk).2) (CAt_n h.2.2.1) (by rw [z]; exact h9) p2 e
    · rw [if_neg z] at e
      cases x1 <;> cases e
  have hr : ∀ k, k ≠ 2 → k ≠ 3 → k ≠ 6 → k ≠ 7 → k ≠ 8 → k ≠ 9 → k ≠ 10 → R' k = M1.1 1 k := fun k b1 b2 b3 b4 b5 b6 _ => a2 k b1 b2 b3 b4 b5 b6
  have h1 := chC_row (c' := 1) (chC_self h) hr a1 hn
  exact hq _ (chC_row h hr a1 hn) (chC_mo h1 (by omega)) (by rw [ri_eq]; exact a2 10 (by decide) (by decide) (by decide) (by decide) (by decide) (by decide))
theorem fa_inl {B : Nat → Nat} {n k : Nat} {x : PS} : ∀ p, faF B n k x ≠ .inr p := by
  intro p e
  cases x <;> cases e
theorem sp_faC {d : Nat} {s : pm_S} {M M1 : pm_M} {B : Nat → Nat} {n c a b k : Nat} {x x1 : PS} {Q : pm_S → pm_M → Prop} (hd : 1 ≤ d) (h : chC B n c x a M x1 b M1) (h1 : 1 ≤ k) (h4 : k ≤ 4)
    (hq : ∀ M', chC B n c x a M (faF B n k x1) b M' → Q s M') : cV d yR_fail [.ref 1, .int (nI k)] s M1 Q := by
  refine sp_failX hd h.2.1 h1 h4 h.2.2.1 (fun R' a1 a2 => hq _ ?_)
  exact chC_row (c' := 0) h (fun k b1 b2 b3 b4 b5 b6 _ => a2 k b1 b2 b3 b4 b5 b6) a1 (fun p e => absurd e (fa_inl p))
theorem sp_addC {d : Nat} {s : pm_S} {M M1 : pm_M} {B : Nat → Nat} {n c a b : Nat} {k v : Int32} {x x1 : PS} {Q : Int32 → pm_S → pm_M → Prop} (hd : 1 ≤ d) (h : chC B n (c + 1) x a M x1 b M1)
    (hq : ∀ M' b', chC B n c x a M x1 b' M' → M'.1 1 = M1.1 1 → (∀ p1, x1 = .inr p1 → b' = b + 1 ∧ b < 900 ∧ M'.1 11 = pm_row (M1.1 11) b (k ||| (v <<< ((4 : Int32) &&& 31)))) → Q (nI b) s M') : cI d yW_add [.ref 10, .int k, .int v] s M1 Q := by
  obtain ⟨d, rfl⟩ : ∃ e, d = e + 1 := ⟨d - 1, by omega⟩
  obtain ⟨h1, h2, h3, h4, h5, h6, h7⟩ := h
  have hlt : ∀ p1, x1 = .inr p1 → b < 900 := by
    intro p1 e1
    obtain ⟨p, e0, m1, m2, m3⟩ := h7 p1 e1
    have := CAt_n h3 p1 e1
    have := h2.1
    omega
  refine enW_add ?_
  rw [h4, lI 900, nI_leP (by omega) (by omega)]
  refine br_c (fun z => ?_) (fun z => ⟨vpI (by omega) (by omega), ?_⟩)
  · refine hq M1 b ⟨h1, h2, h3, h4, h5, h6, fun p1 e1 => ?_⟩ rfl (fun p1 e1 => ?_)
    · have := hlt p1 e1; omega
    · have := hlt p1 e1; omega
  · rw [nI_clamp (by omega), nI_1]
    have k1 : cK M1 (pm_si (pm_si M1 11 b (k ||| (v <<< ((4 : Int32) &&& 31)))) 10 3 (nI (b + 1))) := ⟨fun j a1 a2 a3 => by rw [si_ne a2, si_ne a3], rfl, fun j _ _ _ _ _ _ _ => by rw [si_ne (by decide), si_ne (by decide)], fun j hj => by rw [si_eq, row_ne hj, si_ne (by decide)]⟩
    have e1 : (pm_si (pm_si M1 11 b (k ||| (v <<< ((4 : Int32) &&& 31)))) 10 3 (nI (b + 1))).1 1 = M1.1 1 := by rw [si_ne (by decide), si_ne (by decide)]
    have e11 : (pm_si (pm_si M1 11 b (k ||| (v <<< ((4 : Int32) &&& 31)))) 10 3 (nI (b + 1))).1 11 = pm_row (M1.1 11) b (k ||| (v <<< ((4 : Int32) &&& 31))) := by rw [si_ne (by decide), si_eq]
    have e10 : (pm_si (pm_si M1 11 b (k ||| (v <<< ((4 : Int32) &&& 31)))) 10 3 (nI (b + 1))).1 10 3 = nI (b + 1) := by rw [si_eq, row_eq]
    generalize pm_si (pm_si M1 11 b (k ||| (v <<< ((4 : Int32) &&& 31)))) 10 3 (nI (b + 1)) = M2 at k1 e1 e11 e10
    refine hq M2 (b + 1) ⟨cK_tr h1 k1, cK_tp k1 h2, by rw [e1]; exact h3, e10, by omega, by omega, fun p1 ep => ?_⟩ e1 (fun p1 ep => ⟨rfl, by omega, e11⟩)
    obtain ⟨p, e0, m1, m2, m3⟩ := h7 p1 ep
    exact ⟨p, e0, m1, by omega, fun j hj => by rw [e11, row_ne (by omega), m3 j hj]⟩
theorem sp_aimC {d : Nat} {s : pm_S} {M M1 : pm_M} {B : Nat → Nat} {n c a b j : Nat} {x x1 : PS} {Q : pm_S → pm_M → Prop} (hd : 1 ≤ d) (h : chC B n c x a M x1 b M1) (hj : a ≤ j) (h9 : j ≤ 900)
    (hq : ∀ M', chC B n c x a M x1 b M' → M'.1 1 = M1.1 1 → (j < b → M'.1 11 = pm_row (M1.1 11) j ((M1.1 11 j &&& 15) ||| (nI b <<< ((4 : Int32) &&& 31)))) → Q s M') : cV d yW_aimToEnd [.ref 10, .int (nI j)] s M1 Q := by
  obtain ⟨d, rfl⟩ : ∃ e, d = e + 1 := ⟨d - 1, by omega⟩
  obtain ⟨h1, h2, h3, h4, h5, h6, h7⟩ := h
  refine enW_aimToEnd (br_f (nI_pos (by omega)) ?_)
  rw [h4, nI_leP (by omega) (by omega)]
  refine br_c (fun z => ?_) (fun z => ⟨vpI (by omega) (by omega), vpI (by omega) (by omega), ?_⟩)
  · exact hq M1 ⟨h1, h2, h3, h4, h5, h6, h7⟩ rfl (fun z2 => by omega)
  · rw [nI_clamp (by omega)]
    have k1 : cK M1 (pm_si M1 11 j ((M1.1 11 j &&& 15) ||| (nI b <<< ((4 : Int32) &&& 31)))) := ⟨fun j a1 a2 a3 => by rw [si_ne a3], rfl, fun j _ _ _ _ _ _ _ => by rw [si_ne (by decide)], fun j hj => by rw [si_ne (by decide)]⟩
    have e1 : (pm_si M1 11 j ((M1.1 11 j &&& 15) ||| (nI b <<< ((4 : Int32) &&& 31)))).1 1 = M1.1 1 := by rw [si_ne (by decide)]
    have e11 : (pm_si M1 11 j ((M1.1 11 j &&& 15) ||| (nI b <<< ((4 : Int32) &&& 31)))).1 11 = pm_row (M1.1 11) j ((M1.1 11 j &&& 15) ||| (nI b <<< ((4 : Int32) &&& 31))) := by rw [si_eq]
    have e10 : (pm_si M1 11 j ((M1.1 11 j &&& 15) ||| (nI b <<< ((4 : Int32) &&& 31)))).1 10 3 = nI b := by rw [si_ne (by decide), h4]
    generalize pm_si M1 11 j ((M1.1 11 j &&& 15) ||| (nI b <<< ((4 : Int32) &&& 31))) = M2 at k1 e1 e11 e10
    refine hq M2 ⟨cK_tr h1 k1, cK_tp k1 h2, by rw [e1]; exact h3, e10, by omega, by omega, fun p1 ep => ?_⟩ e1 (fun _ => e11)
    obtain ⟨p, e0, m1, m2, m3⟩ := h7 p1 ep
    exact ⟨p, e0, m1, by omega, fun i hi => by rw [e11, row_ne (by omega), m3 i hi]⟩
