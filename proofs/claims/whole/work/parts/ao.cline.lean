/-! a line, the class -/
theorem nz_nI {g : RW} {k m : Nat} (h : g k = nI m) (hm : m < 2 ^ 31) : nzG g k = m := by unfold nzG; rw [h, nI_clamp hm]
theorem li_V {B : Nat → Nat} {n : Nat} {z : LSt} (h : pV z) (ha : ∃ p, z.1 = .inr p) : pV (liF B n z) := by
  obtain ⟨p0, e0⟩ := ha
  obtain ⟨hv, h1, h2, h3⟩ := h p0 e0
  have hN := hv.1.2.1
  have hT := hv.1.2.2.1
  have hP := hv.1.2.2.2.1
  have b : ∀ p, (liB B n z).1 = .inr p → ∃ N T P : Nat, gV (liB B n z).2.1 N T P ∧ (liB B n z).2.1 1 = nI N ∧ (liB B n z).2.1 2 = nI T ∧ (liB B n z).2.1 3 = nI P := by
    intro p e
    unfold liB at e ⊢
    by_cases c1 : kiF B n z.1 = 201
    · rw [if_pos c1] at e ⊢
      obtain ⟨x1, x2, x3, x4, x5⟩ := th_V hv e
      exact ⟨_, _, _, x2, x3.trans h1, x4, x5.trans h3⟩
    rw [if_neg c1] at e ⊢
    by_cases c2 : kiF B n z.1 = 202
    · rw [if_pos c2] at e ⊢
      obtain ⟨x1, x2, x3, x4, x5⟩ := pe_V hv e
      exact ⟨_, _, _, x2, x3.trans h1, x4.trans h2, x5⟩
    rw [if_neg c2] at e ⊢
    by_cases c3 : kiF B n z.1 = 203
    · rw [if_pos c3]
      exact ⟨_, _, _, hv, h1, h2, h3⟩
    rw [if_neg c3] at e ⊢
    by_cases c4 : kiF B n z.1 = 204
    · rw [if_pos c4]
      exact ⟨_, _, _, hv, h1, h2, h3⟩
    rw [if_neg c4] at e ⊢
    by_cases c5 : kiF B n z.1 = 205
    · rw [if_pos c5] at e ⊢
      obtain ⟨_, _, h9, _⟩ := nu_al e
      refine ⟨_, _, _, gV_wet hv h9, ?_, ?_, ?_⟩
      · show pm_row z.2.1 4 (nI (vaF B n (nxF B n z.1))) 1 = _
        rw [row_ne (by omega)]; exact h1
      · show pm_row z.2.1 4 (nI (vaF B n (nxF B n z.1))) 2 = _
        rw [row_ne (by omega)]; exact h2
      · show pm_row z.2.1 4 (nI (vaF B n (nxF B n z.1))) 3 = _
        rw [row_ne (by omega)]; exact h3
    · rw [if_neg c5] at e
      exact absurd e (fa_inl p)
  intro p e
  have e : exF B n 59 (liB B n z).1 = .inr p := e
  obtain ⟨q, eq⟩ := ex_al2 p e
  obtain ⟨N, T, P, k0, k1, k2, k3⟩ := b q eq
  have f1 : (liF B n z).2.1 1 = nI N := by
    show pm_row (liB B n z).2.1 0 ((liB B n z).2.1 0 + 1) 1 = _
    rw [row_ne (by omega), k1]
  have f2 : (liF B n z).2.1 2 = nI T := by
    show pm_row (liB B n z).2.1 0 ((liB B n z).2.1 0 + 1) 2 = _
    rw [row_ne (by omega), k2]
  have f3 : (liF B n z).2.1 3 = nI P := by
    show pm_row (liB B n z).2.1 0 ((liB B n z).2.1 0 + 1) 3 = _
    rw [row_ne (by omega), k3]
  have q2 := k0.1.2.1
  have q3 := k0.1.2.2.1
  have q4 := k0.1.2.2.2.1
  rw [nz_nI f1 (by omega), nz_nI f2 (by omega), nz_nI f3 (by omega)]
  exact ⟨gV_row k0 (by omega), f1, f2, f3⟩
theorem CAt_row {B : Nat → Nat} {n k : Nat} {x : PS} {R : Nat → Int32} {v : Int32} (h : CAt B n x R) (hk : k = 11 ∨ k = 10) : CAt B n x (pm_row R k v) := by
  cases x with
  | inl f =>
    obtain ⟨h5, h2, h3, h7, g1, g2, g3⟩ := h
    exact ⟨by rw [row_ne (by omega), h5], by rw [row_ne (by omega), h2], by rw [row_ne (by omega), h3], by rw [row_ne (by omega), h7], g1, g2, g3⟩
  | inr p =>
    obtain ⟨h5, hp, hk', h2, h3, h7, h8, h6, h9⟩ := h
    exact ⟨by rw [row_ne (by omega), h5], hp, hk', by rw [row_ne (by omega), h2], by rw [row_ne (by omega), h3], by rw [row_ne (by omega), h7], by rw [row_ne (by omega), h8], by rw [row_ne (by omega), h6], fun e => by rw [row_ne (by omega), h9 e]⟩
theorem la_C {d : Nat} {s : pm_S} {M0 M : pm_M} {B : Nat → Nat} {n N T P a p : Nat} {o : Bool} {x : PS} {g : RW} {l0 l1 : LWD} {Q : pm_S → pm_M → Prop} (hd : 62 ≤ d) (h : sC B n M0 M x g N T P a l0 l1) (hx : x = .inr p) (hap : a ≤ p) (hk : kiF B n x ≠ 129)
    (hq : ∀ M' b, sC B n M0 M' (lwF B n o x).1 g N T P b (if o = true then l0 else some (lwF B n o x).2) (if o = true then some (lwF B n o x).2 else l1) → (∀ p', (lwF B n o x).1 = .inr p' → b ≤ p') → Q s M') : cV d yR_readLaw [.ref 1, .int (oB o)] s M Q := by
  obtain ⟨d, rfl⟩ : ∃ e, d = e + 1 := ⟨d - 1, by omega⟩
  obtain ⟨f0, t0, c0, al0⟩ := h
  obtain ⟨n0, hT, hL⟩ := al0 p hx
  refine enR_readLaw ⟨by cases o; exact Or.inl rfl; exact Or.inr rfl, ?_⟩
  have e11 : (pm_si M 1 11 (oB o)).1 1 = pm_row (M.1 1) 11 (oB o) := si_eq
  have ec : ∀ c, c ≠ 1 → (pm_si M 1 11 (oB o)).1 c = M.1 c := fun c hc => si_ne hc
  have f1 : fC M (pm_si M 1 11 (oB o)) := ⟨fun c hc => ec c (by omega), rfl, by rw [e11, row_ne (by decide)]⟩
  have n1 : (pm_si M 1 11 (oB o)).1 1 10 = 0 := by rw [e11, row_ne (by decide), n0]
  have o1 : (pm_si M 1 11 (oB o)).1 1 11 = oB o := by rw [e11, row_eq]
  have ca : CAt B n x ((pm_si M 1 11 (oB o)).1 1) := by rw [e11]; exact CAt_row c0 (Or.inl rfl)
  have t1 : tpC B n (pm_si M 1 11 (oB o)) := fC_tp f1 t0
  have T1 : TC (pm_si M 1 11 (oB o)) g N T P := TC_cells hT (fun c h1 h2 => ec c (by omega))
  have L1 : LC (pm_si M 1 11 (oB o)) a l0 l1 := LC_cells hL (ec _ (by decide)) (ec _ (by decide))
  generalize pm_si M 1 11 (oB o) = M1 at f1 n1 o1 ca t1 T1 L1
  clear e11 ec
  have s0 : chC B n 0 x a M1 x a M1 := ⟨cK_rf, t1, ca, L1.1, Nat.le_refl _, L1.2.1, fun p' e => ⟨p', e, by rw [hx] at e; cases e; exact hap, by omega, fun _ _ => rfl⟩⟩
  refine sp_stC (by omega) s0 hk (fun M2 c2 s2 n2 => ?_)
  refine sp_exC (w := 58) (by omega) c2 (by omega) (by omega) (fun M3 c3 s3 n3 => ?_)
  have n3' : M3.1 1 10 = 0 := by rw [n3, n2, n1]
  have o3 : M3.1 1 11 = oB o := by rw [c3.1.2.2.1 11 (by decide) (by decide) (by decide) (by decide) (by decide) (by decide) (by decide), o1]
  have z3 : M3.1 10 3 = nI a := c3.2.2.2.1
  refine (lev_C 6 (Nat.le_refl _)).1 d s M3 _ a _ (by omega) ⟨chC_self c3, fun p' e => ⟨n3', o3⟩⟩ (fun M4 w4 => ?_)
  obtain ⟨b, c4, al4⟩ := w4
  have c5 := chC_tr c3 c4
  have z4 : M4.1 10 3 = nI b := c4.2.2.2.1
  have lab : a ≤ b := c4.2.2.2.2.1
  have lb9 : b ≤ 900 := c4.2.2.2.2.2.1
  have hle : ∀ p', (lwF B n o x).1 = .inr p' → b ≤ p' := fun p' e => by
    obtain ⟨q, eq, x1, x2, x3⟩ := c5.2.2.2.2.2.2 p' e
    rw [hx] at eq; cases eq
    omega
  -- the law's ends are told
  have fin : ∀ law : Nat, law = (if o = true then 1 else 0) → sC B n M0 (pm_si (pm_si M4 10 (4 + 2 * law) (nI a)) 10 (5 + 2 * law) (nI b)) (lwF B n o x).1 g N T P b (if o = true then l0 else some (lwF B n o x).2) (if o = true then some (lwF B n o x).2 else l1) := by
    intro law hlaw
    have ec : ∀ c, c ≠ 10 → (pm_si (pm_si M4 10 (4 + 2 * law) (nI a)) 10 (5 + 2 * law) (nI b)).1 c = M4.1 c := fun c hc => by rw [si_ne hc, si_ne hc]
    have er : (pm_si (pm_si M4 10 (4 + 2 * law) (nI a)) 10 (5 + 2 * law) (nI b)).1 10 = pm_row (pm_row (M4.1 10) (4 + 2 * law) (nI a)) (5 + 2 * law) (nI b) := by rw [si_eq, si_eq]
    have e2 : (pm_si (pm_si M4 10 (4 + 2 * law) (nI a)) 10 (5 + 2 * law) (nI b)).2 = M4.2 := rfl
    generalize pm_si (pm_si M4 10 (4 + 2 * law) (nI a)) 10 (5 + 2 * law) (nI b) = M5 at ec er e2
    have k5 := c5.1
    have f5 : fC M1 M5 := ⟨fun c hc => by rw [ec c (by omega), k5.1 c (by omega) (by omega) (by omega)], by rw [e2, k5.2.1], by rw [ec 1 (by decide), k5.2.2.1 1 (by decide) (by decide) (by decide) (by decide) (by decide) (by decide) (by decide)]⟩
    refine ⟨fC_tr f0 (fC_tr f1 f5), fC_tp f5 t1, by rw [ec 1 (by decide)]; exact c4.2.2.1, fun p' e => ?_⟩
    obtain ⟨n4, m4⟩ := al4 p' e
    obtain ⟨q, eq, x1, x2, x3⟩ := c5.2.2.2.2.2.2 p' e
    refine ⟨by rw [ec 1 (by decide), n4, n3'], TC_cells T1 (fun c h1 h2 => by rw [ec c (by omega), k5.1 c (by omega) (by omega) (by omega)]), ?_⟩
    have keep : ∀ law' l, law' ≠ law → law' < 2 → LC1 M1 a law' l → LC1 M5 b law' l := by
      intro law' l hne hl2 hl
      have hl1 : law < 2 := by rw [hlaw]; split <;> omega
      cases l with
      | none =>
        obtain ⟨y1, y2⟩ := hl
        exact ⟨by rw [er, row_ne (by omega), row_ne (by omega), k5.2.2.2 _ (by omega), y1], by rw [er, row_ne (by omega), row_ne (by omega), k5.2.2.2 _ (by omega), y2]⟩
      | some D =>
        obtain ⟨fr, to, y1, y2, y3, y4⟩ := hl
        exact ⟨fr, to, by rw [er, row_ne (by omega), row_ne (by omega), k5.2.2.2 _ (by omega), y1], by rw [er, row_ne (by omega), row_ne (by omega), k5.2.2.2 _ (by omega), y2], by omega, mcC_congr y4 (fun k h1 h2 => by rw [ec 11 (by decide), x3 k (by omega)])⟩
    have mine : LC1 M5 b law (some (lwF B n o x).2) := ⟨a, b, by rw [er, row_ne (by omega), row_eq], by rw [er, row_eq], Nat.le_refl _, mcC_congr m4 (fun k _ _ => by rw [ec 11 (by decide)])⟩
    refine ⟨by rw [er, row_ne (by omega), row_ne (by omega), z4], lb9, ?_, ?_⟩
    · cases o with
      | false =>
        have : law = 0 := hlaw
        subst this
        exact mine
      | true =>
        have : law = 1 := hlaw
        subst this
        exact keep 0 l0 (by omega) (by omega) L1.2.2.1
    · cases o with
      | false =>
        have : law = 0 := hlaw
        subst this
        exact keep 1 l1 (by omega) (by omega) L1.2.2.2
      | true =>
        have : law = 1 := hlaw
        subst this
        exact mine
  rw [z3, z4]
  cases o with
  | false => exact br_t rfl (hq _ b (fin 0 rfl) hle)
  | true => exact br_f (by decide) (hq _ b (fin 1 rfl) hle)
def cLn (B : Nat → Nat) (n : Nat) (M0 M : pm_M) (z : LSt) : Prop := ∃ a, sC B n M0 M z.1 z.2.1 (nzG z.2.1 1) (nzG z.2.1 2) (nzG z.2.1 3) a z.2.2.1 z.2.2.2 ∧ ∀ p, z.1 = .inr p → a ≤ p
/-- what the numbers of things and people are matters only where it stands -/
theorem sC_to {B : Nat → Nat} {n N T P N' T' P' a : Nat} {M0 M : pm_M} {x : PS} {g : RW} {l0 l1 : LWD} (h : sC B n M0 M x g N T P a l0 l1) (he : (∃ p, x = .inr p) → N' = N ∧ T' = T ∧ P' = P) : sC B n M0 M x g N' T' P' a l0 l1 := by
  obtain ⟨h1, h2, h3, h4⟩ := h
  refine ⟨h1, h2, h3, fun p e => ?_⟩
  obtain ⟨rfl, rfl, rfl⟩ := he ⟨p, e⟩
  exact h4 p e
theorem li_C {d : Nat} {s : pm_S} {M0 M : pm_M} {B : Nat → Nat} {n : Nat} {z : LSt} {Q : pm_S → pm_M → Prop} (hd : 70 ≤ d) (h : cLn B n M0 M z) (hv : pV z) (hx : ∃ p, z.1 = .inr p)
    (hq : ∀ M', cLn B n M0 M' (liF B n z) → Q s M') : cV d yR_readLine [.ref 1] s M Q := by
  obtain ⟨d, rfl⟩ : ∃ e, d = e + 1 := ⟨d - 1, by omega⟩
  obtain ⟨a, hs, hap⟩ := h
  obtain ⟨p, ep⟩ := hx
  obtain ⟨gv, g1, g2, g3⟩ := hv p ep
  have hpV := li_V (B := B) (n := n) hv ⟨p, ep⟩
  obtain ⟨e7, l7⟩ := CAt_k (fun k hk => (hs.2.1.2 k hk).2) hs.2.2.1
  have hB : ∀ k, k < n → B k < 256 := fun k hk => (hs.2.1.2 k hk).2
  have gd : gdX n z.1 := fun q e => CAt_n hs.2.2.1 q e
  have hap := hap p ep
  -- the end of a line
  have fin : ∀ (M1 : pm_M) (N T P b : Nat), sC B n M0 M1 (liB B n z).1 (liB B n z).2.1 N T P b (liB B n z).2.2.1 (liB B n z).2.2.2 → (∀ q, (liB B n z).1 = .inr q → b ≤ q) → ((∃ q, (liB B n z).1 = .inr q) → N = nzG (liB B n z).2.1 1 ∧ T = nzG (liB B n z).2.1 2 ∧ P = nzG (liB B n z).2.1 3 ∧ T ≤ 8 ∧ P ≤ 6) → cV d yR_expect [.ref 1, .int 59] s M1 (fun s2 M2 => Q s2 (pm_si M2 2 3 ((M2.1 2 3) + 1))) := by
    intro M1 N T P b h1 h2 h3
    refine sp_exS (w := 59) (by omega) h1 (by omega) (fun R s2 => hq _ ⟨b, ?_, fun q eq => ?_⟩)
    · refine sC_put s2 (fC_si fC_rf (by omega)) (si_ne (by decide)) (si_ne (by decide)) (si_ne (by decide)) (fun al t => ?_)
      obtain ⟨q, eq⟩ := al
      obtain ⟨q', eq'⟩ := ex_al2 q eq
      obtain ⟨x1, x2, x3, x4, x5⟩ := h3 ⟨q', eq'⟩
      have y1 : nzG (liF B n z).2.1 1 = N := by rw [x1]; show (pm_row (liB B n z).2.1 0 ((liB B n z).2.1 0 + 1) 1).toNatClampNeg = _; rw [row_ne (by omega)]; rfl
      have y2 : nzG (liF B n z).2.1 2 = T := by rw [x2]; show (pm_row (liB B n z).2.1 0 ((liB B n z).2.1 0 + 1) 2).toNatClampNeg = _; rw [row_ne (by omega)]; rfl
      have y3 : nzG (liF B n z).2.1 3 = P := by rw [x3]; show (pm_row (liB B n z).2.1 0 ((liB B n z).2.1 0 + 1) 3).toNatClampNeg = _; rw [row_ne (by omega)]; rfl
      rw [y1, y2, y3]
      obtain ⟨a1, a2, a3, a4, a5, a6, a7⟩ := t
      have e0 : (liF B n z).2.1 = pm_row (liB B n z).2.1 0 ((liB B n z).2.1 0 + 1) := rfl
      rw [e0]
      refine ⟨by rw [si_eq, row_ne (by omega), a1], by rw [si_eq, row_ne (by omega), a2], by rw [si_eq, row_ne (by omega), a3], by rw [si_eq, row_eq, a4, row_eq], by rw [si_eq, row_ne (by omega), a5, row_ne (by omega)], fun t ht => ?_, fun q hq' => ?_⟩
      · unfold tcT
        rw [si_ne (by decide), si_ne (by decide), si_ne (by decide), si_ne (by decide), row_ne (by omega), row_ne (by omega), row_ne (by omega), row_ne (by omega)]
        exact a6 t ht
      · unfold tcP
        rw [si_ne (by decide), si_ne (by decide), si_ne (by decide), row_ne (by omega), row_ne (by omega), row_ne (by omega)]
        exact a7 q hq'
    · obtain ⟨q', eq'⟩ := ex_al2 q eq
      have gq : gdX n (liB B n z).1 := fun r e => CAt_n h1.2.2.1 r e
      obtain ⟨q2, e2, l2⟩ := (leX_ex hB gq).2 q eq
      have := h2 q2 e2
      omega
  refine enR_readLine ?_
  rw [e7]
  simp only [lI 201, lI 202, lI 203, lI 204, lI 205, nI_inj (a := kiF B n z.1) (b := 201) (by omega) (by omega), nI_inj (a := kiF B n z.1) (b := 202) (by omega) (by omega), nI_inj (a := kiF B n z.1) (b := 203) (by omega) (by omega), nI_inj (a := kiF B n z.1) (b := 204) (by omega) (by omega), nI_inj (a := kiF B n z.1) (b := 205) (by omega) (by omega)]
  unfold liB at fin
  have hT8 := gv.1.2.2.1
  have hP6 := gv.1.2.2.2.1
  have hN8 := gv.1.2.1
  refine br_c (fun c1 => ?_) (fun c1 => br_c (fun c2 => ?_) (fun c2 => br_c (fun c3 => ?_) (fun c3 => br_c (fun c4 => ?_) (fun c4 => br_c (fun c5 => ?_) (fun c5 => ?_)))))
  · simp only [if_pos c1] at fin
    refine th_C (by omega) gv hs ⟨p, ep⟩ (fun M1 s1 => fin M1 _ _ _ a s1 (fun q e => ?_) (fun al => ?_))
    · obtain ⟨q2, e2, l2⟩ := (leX_thF hB gd).2 q e
      rw [ep] at e2; cases e2; omega
    · obtain ⟨q, e⟩ := al
      obtain ⟨x1, x2, x3, x4, x5⟩ := th_V gv e
      exact ⟨(nz_nI (x3.trans g1) (by omega)).symm, (nz_nI x4 (by omega)).symm, (nz_nI (x5.trans g3) (by omega)).symm, by omega, hP6⟩
  · simp only [if_neg c1, if_pos c2] at fin
    refine pe_C (by omega) gv hs ⟨p, ep⟩ (fun f y p h e => peL_V f y p h e) (fun M1 s1 => fin M1 _ _ _ a s1 (fun q e => ?_) (fun al => ?_))
    · obtain ⟨q2, e2, l2⟩ := (leX_peF hB gd).2 q e
      rw [ep] at e2; cases e2; omega
    · obtain ⟨q, e⟩ := al
      obtain ⟨x1, x2, x3, x4, x5⟩ := pe_V gv e
      exact ⟨(nz_nI (x3.trans g1) (by omega)).symm, (nz_nI (x4.trans g2) (by omega)).symm, (nz_nI x5 (by omega)).symm, hT8, by omega⟩
  · simp only [if_neg c1, if_neg c2, if_pos c3] at fin
    rw [if_neg (show ¬ kiF B n z.1 = 204 by omega)]
    exact la_C (o := false) (by omega) hs ep hap (by omega) (fun M1 b s1 l1 => fin M1 _ _ _ b s1 l1 (fun _ => ⟨rfl, rfl, rfl, hT8, hP6⟩))
  · simp only [if_neg c1, if_neg c2, if_neg c3, if_pos c4] at fin
    rw [if_pos c4]
    exact la_C (o := true) (by omega) hs ep hap (by omega) (fun M1 b s1 l1 => fin M1 _ _ _ b s1 l1 (fun _ => ⟨rfl, rfl, rfl, hT8, hP6⟩))
  · simp only [if_neg c1, if_neg c2, if_neg c3, if_neg c4, if_pos c5] at fin
    refine sp_stS (by omega) hs (fun R1 s1 => sp_nuS (lo := 0) (hi := 10) (by omega) s1 (by omega) (by omega) (fun R2 r s2 e2 => ?_))
    rw [ri_ri] at s2 ⊢
    refine fin _ (nzG z.2.1 1) (nzG z.2.1 2) (nzG z.2.1 3) a ?_ (fun q e => ?_) (fun al => ⟨?_, ?_, ?_, hT8, hP6⟩)
    · refine sC_put s2 (fC_si fC_rf (by omega)) (si_ne (by decide)) (si_ne (by decide)) (si_ne (by decide)) (fun al t => ?_)
      obtain ⟨q, eq⟩ := al
      obtain ⟨er, _, _⟩ := e2 q eq
      obtain ⟨a1, a2, a3, a4, a5, a6, a7⟩ := t
      refine ⟨by rw [si_eq, row_ne (by omega), a1], by rw [si_eq, row_ne (by omega), a2], by rw [si_eq, row_ne (by omega), a3], by rw [si_eq, row_ne (by omega), a4, row_ne (by omega)], by rw [si_eq, row_eq, row_eq, er], fun t ht => ?_, fun q hq' => ?_⟩
      · unfold tcT
        rw [si_ne (by decide), si_ne (by decide), si_ne (by decide), si_ne (by decide), row_ne (by omega), row_ne (by omega), row_ne (by omega), row_ne (by omega)]
        exact a6 t ht
      · unfold tcP
        rw [si_ne (by decide), si_ne (by decide), si_ne (by decide), row_ne (by omega), row_ne (by omega), row_ne (by omega)]
        exact a7 q hq'
    · obtain ⟨q2, e3, l2⟩ := (leX_tr (leX_nx hB) (leX_nu hB) gd).2 q e
      rw [ep] at e3; cases e3; omega
    · show nzG z.2.1 1 = (pm_row z.2.1 4 (nI (vaF B n (nxF B n z.1))) 1).toNatClampNeg
      rw [row_ne (by omega)]; rfl
    · show nzG z.2.1 2 = (pm_row z.2.1 4 (nI (vaF B n (nxF B n z.1))) 2).toNatClampNeg
      rw [row_ne (by omega)]; rfl
    · show nzG z.2.1 3 = (pm_row z.2.1 4 (nI (vaF B n (nxF B n z.1))) 3).toNatClampNeg
      rw [row_ne (by omega)]; rfl
  · simp only [if_neg c1, if_neg c2, if_neg c3, if_neg c4, if_neg c5] at fin
    exact sp_faS (k := 2) (by omega) hs (by omega) (by omega) (fun M' h' => fin M' 0 0 0 0 (h' _ _ _ _ _ _ _) (fun q e => absurd e (fa_inl q)) (fun al => absurd al.choose_spec (fa_inl _)))
