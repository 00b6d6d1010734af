/-! a text, pure and the class -/
def lnL (B : Nat → Nat) (n : Nat) : Nat → LSt → LSt
  | 0, z => z
  | f + 1, z => if kiF B n z.1 = 129 ∨ kiF B n z.1 = 131 then z else lnL B n f (liF B n z)
def plG : RW := fun k => if k = 1 then 2 else 0
def hdN (B : Nat → Nat) (n : Nat) : Nat := vaF B n (exF B n 200 (psF B n 0))
def hdZ (B : Nat → Nat) (n : Nat) : LSt := (exF B n 59 (nuF B n 2 8 (exF B n 200 (psF B n 0))), pm_row (pm_row plG 1 (nI (hdN B n))) 0 (0 + 1), none, none)
def txF (B : Nat → Nat) (n : Nat) : LSt := lnL B n 900 (hdZ B n)
theorem hdZ_al {B : Nat → Nat} {n p : Nat} (e : (hdZ B n).1 = .inr p) : 2 ≤ hdN B n ∧ hdN B n ≤ 8 ∧ nzG (hdZ B n).2.1 1 = hdN B n ∧ nzG (hdZ B n).2.1 2 = 0 ∧ nzG (hdZ B n).2.1 3 = 0 ∧ (hdZ B n).2.1 1 = nI (hdN B n) ∧ (hdZ B n).2.1 2 = nI 0 ∧ (hdZ B n).2.1 3 = nI 0 := by
  have e : exF B n 59 (nuF B n 2 8 (exF B n 200 (psF B n 0))) = .inr p := e
  obtain ⟨q, eq⟩ := ex_al2 p e
  obtain ⟨_, x1, x2, _⟩ := nu_al eq
  have h1 : (hdZ B n).2.1 1 = nI (hdN B n) := by
    show pm_row (pm_row plG 1 (nI (hdN B n))) 0 (0 + 1) 1 = _
    rw [row_ne (by omega), row_eq]
  have h2 : (hdZ B n).2.1 2 = nI 0 := by
    show pm_row (pm_row plG 1 (nI (hdN B n))) 0 (0 + 1) 2 = _
    rw [row_ne (by omega), row_ne (by omega)]; rfl
  have h3 : (hdZ B n).2.1 3 = nI 0 := by
    show pm_row (pm_row plG 1 (nI (hdN B n))) 0 (0 + 1) 3 = _
    rw [row_ne (by omega), row_ne (by omega)]; rfl
  have l : hdN B n ≤ 8 := x2
  exact ⟨x1, x2, nz_nI h1 (by omega), nz_nI h2 (by omega), nz_nI h3 (by omega), h1, h2, h3⟩
theorem plG_0 {k : Nat} (h : k ≠ 1) : plG k = 0 := by unfold plG; rw [if_neg h]
theorem hdZ_V {B : Nat → Nat} {n : Nat} : pV (hdZ B n) := by
  intro p e
  obtain ⟨a1, a2, a3, a4, a5, a6, a7, a8⟩ := hdZ_al e
  rw [a3, a4, a5]
  refine ⟨gV_row (gV_row ?_ (by omega)) (by omega), a6, a7, a8⟩
  refine ⟨⟨a1, a2, by omega, by omega, 0, by omega, plG_0 (by omega)⟩, fun t ht => by omega, fun t t' p h => by omega, fun p hp => by omega, fun t _ _ => ⟨plG_0 (by omega), plG_0 (by omega)⟩, fun p _ _ => plG_0 (by omega), plG_0 (by omega), plG_0 (by omega), plG_0 (by omega), plG_0 (by omega), fun t _ => plG_0 (by omega), fun p _ => plG_0 (by omega)⟩
theorem lnL_V {B : Nat → Nat} {n : Nat} : ∀ f z, pV z → pV (lnL B n f z) := by
  intro f
  induction f with
  | zero => intro z h; exact h
  | succ f ih =>
    intro z h
    unfold lnL
    by_cases c : kiF B n z.1 = 129 ∨ kiF B n z.1 = 131
    · rw [if_pos c]; exact h
    · rw [if_neg c]
      exact ih _ (li_V h (ki_al (B := B) (n := n) (by omega)))
theorem ln_C {d : Nat} {s : pm_S} {M0 : pm_M} {B : Nat → Nat} {n : Nat} {Q : Int32 → pm_S → pm_M → Prop} (hd : 70 ≤ d) : ∀ f i M z, i + f = 900 → cLn B n M0 M z → pV z → (∀ M', cLn B n M0 M' (lnL B n f z) → wG_line d 58 [.ref 0, .null, .null] [] s M' Q) → wG_line d 28 [.ref 0, .null, .int (nI i)] [] s M Q := by
  obtain ⟨d, rfl⟩ : ∃ e, d = e + 1 := ⟨d - 1, by omega⟩
  intro f
  induction f with
  | zero =>
    intro i M z hi hc hv hq
    obtain rfl : i = 900 := by omega
    exact sgG_line_28 (br_t (by decide) (hq M hc))
  | succ f ih =>
    intro i M z hi hc hv hq
    have hc' := hc
    obtain ⟨a, hs, _⟩ := hc
    obtain ⟨e7, l7⟩ := CAt_k (fun k hk => (hs.2.1.2 k hk).2) hs.2.2.1
    unfold lnL at hq
    refine sgG_line_28 (br_f (by rw [lI 900, nI_leP (by omega) (by omega)]; omega) (enR_goesOn ?_))
    rw [e7]
    cases e : z.1 with
    | inl g =>
      have c := hs.2.2.1
      rw [e] at c
      rw [if_pos (Or.inr (by rw [e]; rfl))] at hq
      have : ¬ M.1 1 2 = 0 := by
        rw [c.2.1, lI 0, nI_inj (by have := c.2.2.2.2.2.1; omega) (by omega)]
        have := c.2.2.2.2.1
        omega
      rw [if_neg this]
      exact br_t rfl (hq M hc')
    | inr p =>
      have c := hs.2.2.1
      rw [e] at c
      have ek : kiF B n z.1 = tK B n p := by rw [e]; rfl
      have k31 : kiF B n z.1 ≠ 131 := by rw [ek]; exact c.2.2.1
      rw [if_pos c.2.2.2.1, ← e, lI 129]
      simp only [nI_inj (a := kiF B n z.1) (b := 129) (by omega) (by omega)]
      by_cases z9 : kiF B n z.1 = 129
      · rw [if_pos z9]
        rw [if_pos (Or.inl z9)] at hq
        exact br_t rfl (hq M hc')
      · rw [if_neg z9]
        rw [if_neg (by omega)] at hq
        refine br_f (by decide) (li_C hd hc' hv ⟨p, e⟩ (fun M' c' => ?_))
        rw [nI_1]
        exact ih (i + 1) M' _ (by omega) c' (li_V hv ⟨p, e⟩) hq
theorem tx_C {d : Nat} {s : pm_S} {M : pm_M} {B : Nat → Nat} {n m : Nat} {Q : Int32 → pm_S → pm_M → Prop} (hd : 70 ≤ d) (hm : m ≤ 900) (hn : n ≤ m) (h1 : M.1 1 1 = nI m) (hB : ∀ k, k < n → M.1 14 k = nI (B k) ∧ B k < 256)
    (hq : ∀ M', cLn B n (pm_si M 1 1 0) M' (txF B n) → wG_line d 58 [.ref 0, .null, .null] [] s M' Q) : cV d yR_begin [.ref 1, .int (nI n)] s M (fun s1 M1 => wG_line d 28 [.ref 0, .null, .int 0] [] s1 M1 Q) := by
  have hd0 := hd
  obtain ⟨d, rfl⟩ : ∃ e, d = e + 1 := ⟨d - 1, by omega⟩
  refine enR_begin (sp_min (by omega) (sp_max (by omega) ?_))
  have e1 : (if M.1 1 1 < nI n then M.1 1 1 else nI n) = nI n := by
    rw [h1, if_neg (by rw [nI_ltP (by omega) (by omega)]; omega)]
  have e2 : (if (0 : Int32) < nI n then nI n else 0) = nI n := by
    by_cases c : n = 0
    · subst c; rfl
    · rw [if_pos (by rw [lI 0, nI_ltP (by omega) (by omega)]; omega)]
  rw [e1, e2]
  obtain ⟨d, rfl⟩ : ∃ e, d = e + 1 := ⟨d - 1, by omega⟩
  refine enL_clear ?_
  obtain ⟨d, rfl⟩ : ∃ e, d = e + 1 := ⟨d - 1, by omega⟩
  refine enW_clear ?_
  have ra : ∀ k, (pm_si (pm_si (pm_si (pm_si (pm_si (pm_si M 1 5 (nI n)) 1 1 0) 1 2 0) 1 3 (-1)) 1 6 0) 1 10 0).1 1 k = pm_row (pm_row (pm_row (pm_row (pm_row (pm_row (M.1 1) 5 (nI n)) 1 0) 2 0) 3 (-1)) 6 0) 10 0 k := fun k => by rw [si_eq, si_eq, si_eq, si_eq, si_eq, si_eq]
  have rc : ∀ c, c ≠ 1 → (pm_si (pm_si (pm_si (pm_si (pm_si (pm_si M 1 5 (nI n)) 1 1 0) 1 2 0) 1 3 (-1)) 1 6 0) 1 10 0).1 c = M.1 c := fun c hc => by rw [si_ne hc, si_ne hc, si_ne hc, si_ne hc, si_ne hc, si_ne hc]
  have r2 : (pm_si (pm_si (pm_si (pm_si (pm_si (pm_si M 1 5 (nI n)) 1 1 0) 1 2 0) 1 3 (-1)) 1 6 0) 1 10 0).2 = M.2 := rfl
  generalize pm_si (pm_si (pm_si (pm_si (pm_si (pm_si M 1 5 (nI n)) 1 1 0) 1 2 0) 1 3 (-1)) 1 6 0) 1 10 0 = Mb at ra rc r2
  have sa : ∀ k, (pm_si (pm_si (pm_si (pm_si (pm_si (pm_si (pm_si (pm_si (pm_si (pm_si Mb 2 0 2) 2 1 0) 2 2 0) 2 3 0) 2 4 0) 10 3 0) 10 4 0) 10 5 0) 10 6 0) 10 7 0).1 2 k = pm_row (pm_row (pm_row (pm_row (pm_row (Mb.1 2) 0 2) 1 0) 2 0) 3 0) 4 0 k := fun k => by rw [si_ne (by decide), si_ne (by decide), si_ne (by decide), si_ne (by decide), si_ne (by decide), si_eq, si_eq, si_eq, si_eq, si_eq]
  have sb : ∀ k, (pm_si (pm_si (pm_si (pm_si (pm_si (pm_si (pm_si (pm_si (pm_si (pm_si Mb 2 0 2) 2 1 0) 2 2 0) 2 3 0) 2 4 0) 10 3 0) 10 4 0) 10 5 0) 10 6 0) 10 7 0).1 10 k = pm_row (pm_row (pm_row (pm_row (pm_row (Mb.1 10) 3 0) 4 0) 5 0) 6 0) 7 0 k := fun k => by rw [si_eq, si_eq, si_eq, si_eq, si_eq, si_ne (by decide), si_ne (by decide), si_ne (by decide), si_ne (by decide), si_ne (by decide)]
  have sc : ∀ c, c ≠ 2 → c ≠ 10 → (pm_si (pm_si (pm_si (pm_si (pm_si (pm_si (pm_si (pm_si (pm_si (pm_si Mb 2 0 2) 2 1 0) 2 2 0) 2 3 0) 2 4 0) 10 3 0) 10 4 0) 10 5 0) 10 6 0) 10 7 0).1 c = Mb.1 c := fun c h1 h2 => by rw [si_ne h2, si_ne h2, si_ne h2, si_ne h2, si_ne h2, si_ne h1, si_ne h1, si_ne h1, si_ne h1, si_ne h1]
  have s2 : (pm_si (pm_si (pm_si (pm_si (pm_si (pm_si (pm_si (pm_si (pm_si (pm_si Mb 2 0 2) 2 1 0) 2 2 0) 2 3 0) 2 4 0) 10 3 0) 10 4 0) 10 5 0) 10 6 0) 10 7 0).2 = Mb.2 := rfl
  generalize pm_si (pm_si (pm_si (pm_si (pm_si (pm_si (pm_si (pm_si (pm_si (pm_si Mb 2 0 2) 2 1 0) 2 2 0) 2 3 0) 2 4 0) 10 3 0) 10 4 0) 10 5 0) 10 6 0) 10 7 0 = Mc at sa sb sc s2
  have c1 : ∀ k, Mc.1 1 k = pm_row (pm_row (pm_row (pm_row (pm_row (pm_row (M.1 1) 5 (nI n)) 1 0) 2 0) 3 (-1)) 6 0) 10 0 k := fun k => by rw [sc 1 (by decide) (by decide), ra]
  have q5 : Mc.1 1 5 = nI n := by rw [c1, row_ne (by decide), row_ne (by decide), row_ne (by decide), row_ne (by decide), row_ne (by decide), row_eq]
  have q1 : Mc.1 1 1 = 0 := by rw [c1, row_ne (by decide), row_ne (by decide), row_ne (by decide), row_ne (by decide), row_eq]
  have q2 : Mc.1 1 2 = 0 := by rw [c1, row_ne (by decide), row_ne (by decide), row_ne (by decide), row_eq]
  have q3 : Mc.1 1 3 = -1 := by rw [c1, row_ne (by decide), row_ne (by decide), row_eq]
  have q6 : Mc.1 1 6 = nI 0 := by rw [c1, row_ne (by decide), row_eq]; rfl
  have q10 : Mc.1 1 10 = 0 := by rw [c1, row_eq]
  have q14 : ∀ k, k < n → Mc.1 14 k = nI (B k) ∧ B k < 256 := fun k hk => by rw [sc 14 (by decide) (by decide), rc 14 (by decide)]; exact hB k hk
  refine sp_step (p := 0) (by omega) (by omega) (by omega) q14 q2 q5 q6 (fun R1 hR => ?_)
  have s1 : sC B n (pm_si M 1 1 0) (pm_ri Mc 1 R1) (psF B n 0) plG 2 0 0 0 none none := by
    refine ⟨⟨fun c hc => by rw [ri_ne (by omega), sc c (by omega) (by omega), rc c (by omega), si_ne (by omega)], by show Mc.2 = M.2; rw [s2, r2], by rw [ri_eq, hR.1 1 (by decide) (by decide) (by decide) (by decide) (by decide) (by decide), q1, si_eq, row_eq]⟩, ⟨by omega, fun k hk => by rw [ri_ne (by decide)]; exact q14 k hk⟩, by rw [ri_eq]; exact CAt_st (by omega) (fun k hk => (q14 k hk).2) q5 q3 hR, fun p _ => ⟨by rw [ri_eq, hR.1 10 (by decide) (by decide) (by decide) (by decide) (by decide) (by decide), q10], ?_, ?_⟩⟩
    · refine ⟨?_, ?_, ?_, ?_, ?_, fun t ht => by omega, fun p hp => by omega⟩
      · rw [ri_ne (by decide), sa, row_ne (by decide), row_ne (by decide), row_ne (by decide), row_ne (by decide), row_eq]; rfl
      · rw [ri_ne (by decide), sa, row_ne (by decide), row_ne (by decide), row_ne (by decide), row_eq]; rfl
      · rw [ri_ne (by decide), sa, row_ne (by decide), row_ne (by decide), row_eq]; rfl
      · rw [ri_ne (by decide), sa, row_ne (by decide), row_eq]; rfl
      · rw [ri_ne (by decide), sa, row_eq]; rfl
    · refine ⟨?_, by omega, ⟨?_, ?_⟩, ?_, ?_⟩
      · rw [ri_ne (by decide), sb, row_ne (by decide), row_ne (by decide), row_ne (by decide), row_ne (by decide), row_eq]; rfl
      · rw [ri_ne (by decide), sb, row_ne (by decide), row_ne (by decide), row_ne (by decide), row_eq]
      · rw [ri_ne (by decide), sb, row_ne (by decide), row_ne (by decide), row_eq]
      · rw [ri_ne (by decide), sb, row_ne (by decide), row_eq]
      · rw [ri_ne (by decide), sb, row_eq]
  refine sp_exS (w := 200) (by omega) s1 (by omega) (fun R2 s2 => sp_nuS (lo := 2) (hi := 8) (by omega) s2 (by omega) (by omega) (fun R3 r s3 e3 => ?_))
  rw [ri_ri, ri_ri] at s3 ⊢
  have s4 : sC B n (pm_si M 1 1 0) (pm_si (pm_ri Mc 1 R3) 2 0 r) (nuF B n 2 8 (exF B n 200 (psF B n 0))) (pm_row plG 1 (nI (hdN B n))) (hdN B n) 0 0 0 none none := by
    refine sC_put s3 (fC_si fC_rf (by omega)) (si_ne (by decide)) (si_ne (by decide)) (si_ne (by decide)) (fun al t => ?_)
    obtain ⟨p, ep⟩ := al
    obtain ⟨er, _, _⟩ := e3 p ep
    obtain ⟨a1, a2, a3, a4, a5, a6, a7⟩ := t
    exact ⟨by rw [si_eq, row_eq, er]; rfl, by rw [si_eq, row_ne (by decide), a2], by rw [si_eq, row_ne (by decide), a3], by rw [si_eq, row_ne (by decide), a4, row_ne (by decide)], by rw [si_eq, row_ne (by decide), a5, row_ne (by decide)], fun t ht => by omega, fun p hp => by omega⟩
  refine sp_exS (w := 59) (by omega) s4 (by omega) (fun R5 s5 => ?_)
  have s6 : sC B n (pm_si M 1 1 0) (pm_si (pm_ri (pm_si (pm_ri Mc 1 R3) 2 0 r) 1 R5) 2 3 1) (hdZ B n).1 (hdZ B n).2.1 (hdN B n) 0 0 0 none none := by
    refine sC_put s5 (fC_si fC_rf (by omega)) (si_ne (by decide)) (si_ne (by decide)) (si_ne (by decide)) (fun al t => ?_)
    obtain ⟨a1, a2, a3, a4, a5, a6, a7⟩ := t
    have eg : (hdZ B n).2.1 = pm_row (pm_row plG 1 (nI (hdN B n))) 0 (0 + 1) := rfl
    rw [eg]
    exact ⟨by rw [si_eq, row_ne (by decide), a1], by rw [si_eq, row_ne (by decide), a2], by rw [si_eq, row_ne (by decide), a3], by rw [si_eq, row_eq, row_eq]; rfl, by rw [si_eq, row_ne (by decide), a5, row_ne (by decide), row_ne (by decide), row_ne (by decide)], fun t ht => by omega, fun p hp => by omega⟩
  generalize pm_si (pm_ri (pm_si (pm_ri Mc 1 R3) 2 0 r) 1 R5) 2 3 1 = Md at s6
  refine ln_C hd0 900 0 Md (hdZ B n) (by omega) ⟨0, sC_to s6 (fun al => ?_), fun p _ => by omega⟩ hdZ_V hq
  obtain ⟨p, ep⟩ := al
  obtain ⟨_, _, a3, a4, a5, _⟩ := hdZ_al ep
  exact ⟨a3, a4, a5⟩
