/-! lines, the class: a person -/
def gvH (R0 : Nat → Int32) (q : Int32) (i : Nat) : Nat → Int32 := fun k => if k < i ∧ R0 k = q then -1 else R0 k
theorem gvH_s {R0 : Nat → Int32} {q : Int32} {i : Nat} : gvH R0 q (i + 1) = if R0 i = q then pm_row (gvH R0 q i) i (-1) else gvH R0 q i := by
  funext k
  by_cases c : R0 i = q
  · rw [if_pos c]
    by_cases e : k = i
    · subst e
      rw [row_eq]
      unfold gvH
      rw [if_pos ⟨by omega, c⟩]
    · rw [row_ne e]
      unfold gvH
      by_cases c2 : k < i ∧ R0 k = q
      · rw [if_pos c2, if_pos ⟨by omega, c2.2⟩]
      · rw [if_neg c2, if_neg (fun h => c2 ⟨by omega, h.2⟩)]
  · rw [if_neg c]
    unfold gvH
    by_cases c2 : k < i ∧ R0 k = q
    · rw [if_pos c2, if_pos ⟨by omega, c2.2⟩]
    · rw [if_neg c2, if_neg (fun h => c2 ⟨by
        have := h.1
        by_cases e : k = i
        · subst e; exact absurd h.2 c
        · omega, h.2⟩)]
theorem gvH_i {R0 : Nat → Int32} {q : Int32} {i : Nat} : gvH R0 q i i = R0 i := by
  unfold gvH
  rw [if_neg (by omega)]
theorem sp_giveTo {d : Nat} {s : pm_S} {M : pm_M} {q r : Int32} {Q : pm_S → pm_M → Prop} (hd : 2 ≤ d)
    (hq : ∀ R, (∀ T t : Nat, M.1 2 1 = nI T → T ≤ 8 → r = nI t → t < T → ∀ k, k < T → R k = if k = t then q else if M.1 6 k = q then -1 else M.1 6 k) → Q s (pm_ri M 6 R)) : cV d yL_giveTo [.ref 2, .int q, .int r] s M Q := by
  obtain ⟨d, rfl⟩ : ∃ e, d = e + 1 := ⟨d - 1, by omega⟩
  refine enL_giveTo ?_
  have fin : ∀ i, i ≤ 8 → (∀ T : Nat, M.1 2 1 = nI T → T ≤ 8 → T ≤ i) → cI d yL_hasThing [.ref 2, .int r] s (pm_ri M 6 (gvH (M.1 6) q i)) (fun r1 s1 M1 => (((r1 = 0) → Q s1 M1) ∧ (¬ (r1 = 0) → vp_in r 8 ∧ Q s1 (pm_si M1 6 r.toNatClampNeg q)))) := by
    intro i h8 hi
    obtain ⟨d, rfl⟩ : ∃ e, d = e + 1 := ⟨d - 1, by omega⟩
    refine enL_hasThing L2 ?_
    rw [ri_ne (by decide)]
    by_cases c1 : r < 0
    · rw [if_pos c1]
      refine br_t rfl (hq _ (fun T t h1 h2 h3 h4 => ?_))
      rw [h3] at c1
      exact absurd c1 (nI_pos (by omega))
    · rw [if_neg c1]
      by_cases c2 : M.1 2 1 ≤ r
      · rw [if_pos c2]
        refine br_t rfl (hq _ (fun T t h1 h2 h3 h4 => ?_))
        rw [h1, h3, nI_leP (by omega) (by omega)] at c2
        omega
      · rw [if_neg c2]
        by_cases c3 : 8 ≤ r
        · rw [if_pos c3]
          refine br_t rfl (hq _ (fun T t h1 h2 h3 h4 => ?_))
          rw [h3, lI 8, nI_leP (by omega) (by omega)] at c3
          omega
        · rw [if_neg c3]
          obtain ⟨t, ht, rfl⟩ := nI_of c1
          rw [lI 8, nI_leP (by omega) (by omega)] at c3
          refine br_f (by decide) ⟨vpI (by omega) (by omega), ?_⟩
          rw [nI_clamp (by omega), ri_si]
          refine hq _ (fun T t' h1 h2 h3 h4 k hk => ?_)
          rw [nI_inj (by omega) (by omega)] at h3
          subst h3
          have := hi T h1 h2
          by_cases e : k = t
          · subst e; rw [row_eq, if_pos rfl]
          · rw [row_ne e, if_neg e]
            unfold gvH
            by_cases c4 : M.1 6 k = q
            · rw [if_pos ⟨by omega, c4⟩, if_pos c4]
            · rw [if_neg (fun h => c4 h.2), if_neg c4]
  have loop : ∀ f i, i + f = 8 → wL_giveTo d 2 [.ref 2, .int q, .int r, .int (nI i)] [] s (pm_ri M 6 (gvH (M.1 6) q i)) Q := by
    intro f
    induction f with
    | zero =>
      intro i hi
      obtain rfl : i = 8 := by omega
      refine sgL_giveTo_2 (br_c (fun _ => fin 8 (by omega) (fun T _ h => h)) (fun _ => br_t (by decide) (fin 8 (by omega) (fun T _ h => h))))
    | succ f ih =>
      intro i hi
      refine sgL_giveTo_2 ?_
      rw [ri_ne (by decide), ri_eq]
      refine br_c (fun c => fin i (by omega) (fun T h1 h2 => ?_)) (fun c => br_f ?_ ⟨vpI (by omega) (by omega), ?_⟩)
      · rw [h1, nI_leP (by omega) (by omega)] at c; exact c
      · rw [lI 8, nI_leP (by omega) (by omega)]; omega
      · rw [nI_clamp (by omega), gvH_i, nI_1]
        have := ih (i + 1) (by omega)
        rw [gvH_s] at this
        refine br_c (fun z => ⟨vpI (by omega) (by omega), ?_⟩) (fun z => ?_)
        · rw [if_pos z] at this
          rw [ri_si]; exact this
        · rw [if_neg z] at this
          exact this
  have := loop 8 0 (by omega)
  rw [show gvH (M.1 6) q 0 = M.1 6 from by
    funext k
    unfold gvH
    rw [if_neg (by omega)], ri_self] at this
  exact this
theorem pe_C {d : Nat} {s : pm_S} {M0 M : pm_M} {B : Nat → Nat} {n N T P a : Nat} {x : PS} {g : RW} {l0 l1 : LWD} {Q : pm_S → pm_M → Prop} (hd : 9 ≤ d) (hv : gV g N T P) (h : sC B n M0 M x g N T P a l0 l1) (hx : ∃ p, x = .inr p)
    (hV : ∀ f y p, gV y.2 N T (P + 1) → (peL B n T P f y).1 = .inr p → gV (peL B n T P f y).2 N T (P + 1))
    (hq : ∀ M', sC B n M0 M' (peF B n N T P x g).1 (peF B n N T P x g).2 N T (P + 1) a l0 l1 → Q s M') : cV d yR_readPerson [.ref 1] s M Q := by
  obtain ⟨d, rfl⟩ : ∃ e, d = e + 1 := ⟨d - 1, by omega⟩
  obtain ⟨p, ep⟩ := hx
  obtain ⟨-, hT, hL⟩ := h.2.2.2 p ep
  have hv0 := hv
  obtain ⟨⟨v1, v2, v3, v4, -⟩, -, -, -, -, v5, -⟩ := hv
  unfold peF at hq
  refine enR_readPerson ?_
  rw [hT.2.2.1, lI 6, nI_ltP (by omega) (by omega)]
  refine br_c (fun c => ?_) (fun c => ?_)
  rotate_left
  · rw [if_pos (show P = 6 by omega)] at hq
    exact sp_faS (k := 4) (by omega) h (by omega) (by omega) (fun M' h' => hq M' (h' _ _ _ _ _ _ _))
  rw [if_neg (show ¬ P = 6 by omega)] at hq
  refine sp_stS (by omega) h (fun R1 s1 => sp_exS (w := 206) (by omega) s1 (by omega) (fun R2 s2 => ?_))
  rw [ri_ri] at s2 ⊢
  rw [ri_ne (by decide), hT.1, lI 1, pk_sub (by omega)]
  refine sp_nuS (lo := 0) (hi := N - 1) (by omega) s2 (by omega) (by omega) (fun R3 r s3 e3 => ?_)
  rw [ri_ri] at s3 ⊢
  obtain ⟨d, rfl⟩ : ∃ e, d = e + 1 := ⟨d - 1, by omega⟩
  refine enL_addPerson (sp_min (by omega) ?_)
  have eT : (if (5 : Int32) < (pm_ri M 1 R3).1 2 2 then (5 : Int32) else (pm_ri M 1 R3).1 2 2) = nI P := by
    rw [ri_ne (by decide), hT.2.2.1, if_neg]
    rw [lI 5, nI_ltP (by omega) (by omega)]; omega
  rw [eT, nI_clamp (by omega), nI_1]
  refine ⟨vpI (by omega) (by omega), vpI (by omega) (by omega), vpI (by omega) (by omega), ?_⟩
  have eg : (peS B n N P x g).2 = pm_row (pm_row g (35 + P) (nI (vaF B n (exF B n 206 (nxF B n x))))) (41 + P) 10 := rfl
  have s4 : sC B n M0 (pm_si (pm_si (pm_si (pm_si (pm_ri M 1 R3) 7 P r) 8 P 0) 9 P 10) 2 2 (nI (P + 1))) (peS B n N P x g).1 (peS B n N P x g).2 N T (P + 1) a l0 l1 := by
    refine sC_put s3 (fC_si (fC_si (fC_si (fC_si fC_rf (by omega)) (by omega)) (by omega)) (by omega)) ?_ ?_ ?_ (fun al t3 => ?_)
    · rw [si_ne (by decide), si_ne (by decide), si_ne (by decide), si_ne (by decide)]
    · rw [si_ne (by decide), si_ne (by decide), si_ne (by decide), si_ne (by decide)]
    · rw [si_ne (by decide), si_ne (by decide), si_ne (by decide), si_ne (by decide)]
    · obtain ⟨p3, ep3⟩ := al
      obtain ⟨er, _, _⟩ := e3 p3 ep3
      generalize pm_ri M 1 R3 = Mb at t3
      obtain ⟨a1, a2, a3, a4, a5, a6, a7⟩ := t3
      have r2 : (pm_si (pm_si (pm_si (pm_si Mb 7 P r) 8 P 0) 9 P 10) 2 2 (nI (P + 1))).1 2 = pm_row (Mb.1 2) 2 (nI (P + 1)) := by rw [si_eq, si_ne (by decide), si_ne (by decide), si_ne (by decide)]
      have r7 : (pm_si (pm_si (pm_si (pm_si Mb 7 P r) 8 P 0) 9 P 10) 2 2 (nI (P + 1))).1 7 = pm_row (Mb.1 7) P r := by rw [si_ne (by decide), si_ne (by decide), si_ne (by decide), si_eq]
      have r8 : (pm_si (pm_si (pm_si (pm_si Mb 7 P r) 8 P 0) 9 P 10) 2 2 (nI (P + 1))).1 8 = pm_row (Mb.1 8) P 0 := by rw [si_ne (by decide), si_ne (by decide), si_eq, si_ne (by decide)]
      have r9 : (pm_si (pm_si (pm_si (pm_si Mb 7 P r) 8 P 0) 9 P 10) 2 2 (nI (P + 1))).1 9 = pm_row (Mb.1 9) P 10 := by rw [si_ne (by decide), si_eq, si_ne (by decide), si_ne (by decide)]
      have r3 : ∀ c, 3 ≤ c → c ≤ 6 → (pm_si (pm_si (pm_si (pm_si Mb 7 P r) 8 P 0) 9 P 10) 2 2 (nI (P + 1))).1 c = Mb.1 c := fun c h1 h2 => by rw [si_ne (by omega), si_ne (by omega), si_ne (by omega), si_ne (by omega)]
      generalize pm_si (pm_si (pm_si (pm_si Mb 7 P r) 8 P 0) 9 P 10) 2 2 (nI (P + 1)) = Mc at r2 r3 r7 r8 r9
      have go : ∀ k, k ≠ 35 + P → k ≠ 41 + P → (peS B n N P x g).2 k = g k := fun k h1 h2 => by rw [eg, row_ne h2, row_ne h1]
      have g1 : (peS B n N P x g).2 (35 + P) = r := by rw [eg, row_ne (by omega), row_eq, er]
      have g2 : (peS B n N P x g).2 (41 + P) = 10 := by rw [eg, row_eq]
      clear eg
      generalize (peS B n N P x g).2 = g' at go g1 g2
      have z1 := v5 P (Nat.le_refl _) c
      refine ⟨by rw [r2, row_ne (by omega), a1], by rw [r2, row_ne (by omega), a2], by rw [r2, row_eq], by rw [r2, row_ne (by omega), a4, go 0 (by omega) (by omega)], by rw [r2, row_ne (by omega), a5, go 4 (by omega) (by omega)], fun t ht => ?_, fun q hq' => ?_⟩
      · unfold tcT
        rw [r3 3 (by omega) (by omega), r3 4 (by omega) (by omega), r3 5 (by omega) (by omega), r3 6 (by omega) (by omega), go (11 + t) (by omega) (by omega), go (19 + t) (by omega) (by omega), go (27 + t) (by omega) (by omega), go (50 + t) (by omega) (by omega)]
        obtain ⟨b1, b2, b3, b4⟩ := a6 t ht
        refine ⟨b1, b2, b3, ?_⟩
        rcases b4 with q | ⟨q, q1, q2⟩
        · exact Or.inl q
        · exact Or.inr ⟨q, by omega, q2⟩
      · unfold tcP
        rw [r7, r8, r9]
        by_cases e : q = P
        · subst e
          rw [row_eq, row_eq, row_eq, g1, g2, go (66 + q) (by omega) (by omega), z1]
          exact ⟨rfl, rfl, rfl⟩
        · rw [row_ne e, row_ne e, row_ne e, go (35 + q) (by omega) (by omega), go (66 + q) (by omega) (by omega), go (41 + q) (by omega) (by omega)]
          exact a7 q (by omega)
  have gy : ∀ p, (peS B n N P x g).1 = .inr p → gV (peS B n N P x g).2 N T (P + 1) := fun p e => by
    obtain ⟨e1, e2, e4, _⟩ := nu_al e
    rw [eg]
    exact gV_peS hv0 c (by omega)
  generalize pm_si (pm_si (pm_si (pm_si (pm_ri M 1 R3) 7 P r) 8 P 0) 9 P 10) 2 2 (nI (P + 1)) = M4 at s4
  clear eg
  generalize peS B n N P x g = y at s4 hq gy
  -- mark, bears, holds
  have flag : ∀ (M : pm_M) (y : PS × RW) (K : pm_S → pm_M → Prop), (∀ p, y.1 = .inr p → gV y.2 N T (P + 1)) → sC B n M0 M y.1 y.2 N T (P + 1) a l0 l1 → (kiF B n y.1 = 209 ∨ kiF B n y.1 = 210 ∨ kiF B n y.1 = 211) → (∀ M', sC B n M0 M' (flF B n T P y).1 (flF B n T P y).2 N T (P + 1) a l0 l1 → K s M') → cV (d + 1) yR_readFlag [.ref 1, .int (nI P)] s M K := by
    intro M y K hg hs hk hK
    obtain ⟨e7, l7⟩ := CAt_k (fun k hk => (hs.2.1.2 k hk).2) hs.2.2.1
    have put : ∀ (o c : Nat) (R : Nat → Int32) (r : Int32) (x' : PS) (v : Nat), ((o = 66 ∧ c = 8) ∨ (o = 41 ∧ c = 9)) → sC B n M0 (pm_ri M 1 R) x' y.2 N T (P + 1) a l0 l1 → (∀ p, x' = .inr p → r = nI v) → sC B n M0 (pm_si (pm_ri M 1 R) c P r) x' (pm_row y.2 (o + P) (nI v)) N T (P + 1) a l0 l1 := by
      intro o c R r x' v ho hs' hr
      refine sC_put hs' (fC_si fC_rf (by omega)) (si_ne (by omega)) (si_ne (by omega)) (si_ne (by omega)) (fun al t3 => ?_)
      obtain ⟨p3, ep3⟩ := al
      have er := hr p3 ep3
      obtain ⟨a1, a2, a3, a4, a5, a6, a7⟩ := t3
      refine ⟨by rw [si_ne (by omega), a1], by rw [si_ne (by omega), a2], by rw [si_ne (by omega), a3], by rw [si_ne (by omega), a4, row_ne (by omega)], by rw [si_ne (by omega), a5, row_ne (by omega)], fun t ht => ?_, fun q hq' => ?_⟩
      · unfold tcT
        rw [si_ne (by omega), si_ne (by omega), si_ne (by omega), si_ne (by omega), row_ne (by omega), row_ne (by omega), row_ne (by omega), row_ne (by omega)]
        exact a6 t ht
      · obtain ⟨b1, b2, b3⟩ := a7 q hq'
        unfold tcP
        rw [row_ne (j := 35 + q) (by omega), si_ne (c := 7) (by omega)]
        rcases ho with ⟨rfl, rfl⟩ | ⟨rfl, rfl⟩
        · rw [si_eq, si_ne (by omega), row_ne (j := 41 + q) (by omega)]
          refine ⟨b1, ?_, b3⟩
          by_cases e : q = P
          · subst e; rw [row_eq, row_eq, er]
          · rw [row_ne e, row_ne (by omega), b2]
        · rw [si_eq, si_ne (by omega), row_ne (j := 66 + q) (by omega)]
          refine ⟨b1, b2, ?_⟩
          by_cases e : q = P
          · subst e; rw [row_eq, row_eq, er]
          · rw [row_ne e, row_ne (by omega), b3]
    unfold flF at hK
    refine enR_readFlag (sp_stS (by omega) hs (fun R1 s1 => ?_))
    rw [e7]
    simp only [lI 209, lI 210, nI_inj (a := kiF B n y.1) (b := 209) (by omega) (by omega), nI_inj (a := kiF B n y.1) (b := 210) (by omega) (by omega)]
    refine br_c (fun z => ?_) (fun z => br_c (fun z2 => ?_) (fun z2 => ?_))
    · rw [if_pos z] at hK
      refine sp_nuS (lo := 0) (hi := 9) (by omega) s1 (by omega) (by omega) (fun R2 r s2 e2 => ⟨vpI (by omega) (by omega), ?_⟩)
      rw [ri_ri] at s2 ⊢
      rw [nI_clamp (by omega)]
      exact hK _ (put 66 8 R2 r _ _ (Or.inl ⟨rfl, rfl⟩) s2 (fun p e => (e2 p e).1))
    · rw [if_neg z, if_pos z2] at hK
      refine sp_nuS (lo := 0) (hi := 99) (by omega) s1 (by omega) (by omega) (fun R2 r s2 e2 => ⟨vpI (by omega) (by omega), ?_⟩)
      rw [ri_ri] at s2 ⊢
      rw [nI_clamp (by omega)]
      exact hK _ (put 41 9 R2 r _ _ (Or.inr ⟨rfl, rfl⟩) s2 (fun p e => (e2 p e).1))
    · rw [if_neg z, if_neg z2] at hK
      obtain ⟨p1, ep1⟩ := ki_al (B := B) (n := n) (x := y.1) (by omega)
      have gy := hg p1 ep1
      obtain ⟨f7, g7⟩ := CAt_k (fun k hk => (s1.2.1.2 k hk).2) s1.2.2.1
      generalize nxF B n y.1 = x1 at hK s1 f7 g7
      generalize pm_ri M 1 R1 = M1 at s1 f7
      rw [f7]
      simp only [lI 128, nI_inj (a := kiF B n x1) (b := 128) (by omega) (by omega)]
      unfold hdF at hK
      have dead : ∀ (M2 : pm_M) (x2 : PS) (r : Int32) (g2 : RW), (∀ p, x2 ≠ .inr p) → sC B n M0 M2 x2 y.2 N T (P + 1) a l0 l1 → (∀ M', sC B n M0 M' x2 g2 N T (P + 1) a l0 l1 → K s M') → cV d yL_giveTo [.ref 2, .int (nI P), .int r] s M2 (fun s3 M3 => K s3 M3) := by
        intro M2 x2 r g2 hx2 hs2 hk2
        refine sp_giveTo (by omega) (fun R _ => hk2 _ ?_)
        exact sC_put hs2 (fC_ri fC_rf (by omega)) (ri_ne (by decide)) (ri_ne (by decide)) (ri_ne (by decide)) (fun al _ => absurd al.choose_spec (hx2 _))
      refine br_c (fun c1 => ?_) (fun c1 => ?_)
      · rw [if_pos c1] at hK
        obtain ⟨e9, l9⟩ := CAt_v (fun k hk => (s1.2.1.2 k hk).2) s1.2.2.1 c1
        obtain ⟨p2, ep2⟩ := ki_al (B := B) (n := n) (x := x1) (by omega)
        obtain ⟨-, hT1, -⟩ := s1.2.2.2 p2 ep2
        rw [e9]
        -- can be held
        have can : cI d yL_canBeHeld [.ref 2, .int (nI (vaF B n x1))] s M1 (fun r2 s4 M4 => ((r2 = 0 → cV d yR_fail [.ref 1, .int 3] s4 M4 (fun s7 M7 => K s7 M7)) ∧ (¬ (r2 = 0) → cI d yR_readNumber [.ref 1, .int 0, .int 7] s4 M4 (fun r3 s5 M5 => cV d yL_giveTo [.ref 2, .int (nI P), .int r3] s5 M5 (fun s6 M6 => K s6 M6))))) := by
          have no : hoK B n T x1 y.2 = false → cV d yR_fail [.ref 1, .int 3] s M1 (fun s7 M7 => K s7 M7) := by
            intro hk0
            rw [hk0, if_neg (by decide)] at hK
            exact sp_faS (k := 3) (by omega) s1 (by omega) (by omega) (fun M' h' => hK M' (h' _ _ _ _ _ _ _))
          obtain ⟨d, rfl⟩ : ∃ e, d = e + 1 := ⟨d - 1, by omega⟩
          refine enL_canBeHeld (sp_hasThing (by omega) L2 hT1.2.1 v3 (fun hi => ?_) (fun hi => ?_))
          · obtain ⟨t, ht, et⟩ := hi
            rw [nI_inj (by omega) (by omega)] at et
            obtain ⟨b1, b2, b3, b4⟩ := hT1.2.2.2.2.2.1 t ht
            obtain ⟨⟨k, k1, k2⟩, -, -, -⟩ := gy.2.1 t ht
            rw [nI_clamp (by omega)]
            refine ⟨fun _ => vpI (by omega) (by omega), ?_⟩
            rw [if_neg (by decide), et]
            rcases b4 with ⟨q1, q2⟩ | ⟨q, q0, q1, q2⟩
            · rw [if_pos q1]
              have hk1 : hoK B n T x1 y.2 = true := by
                unfold hoK
                rw [decide_eq_true_eq, et, q2, k2, lI 10, nI_ltP (by omega) (by omega)]
                exact ⟨ht, by omega⟩
              rw [hk1, if_pos rfl] at hK
              refine br_f (by decide) (sp_nuS (lo := 0) (hi := 7) (by omega) s1 (by omega) (by omega) (fun R2 r s2 e2 => ?_))
              have e08 : nuF B n 0 7 x1 = nxF B n x1 := by
                unfold nuF
                rw [if_pos c1, if_pos ⟨by omega, by omega⟩]
              rw [e08] at s2 e2
              by_cases al : ∃ p, nxF B n x1 = .inr p
              · obtain ⟨p3, ep3⟩ := al
                obtain ⟨er, _, _⟩ := e2 p3 ep3
                refine sp_giveTo (by omega) (fun R hR => hK _ ?_)
                show sC B n M0 (pm_ri (pm_ri M1 1 R2) 6 R) (nxF B n x1) (giF T P (vaF B n x1) y.2) N T (P + 1) a l0 l1
                refine sC_put s2 (fC_ri fC_rf (by omega)) (ri_ne (by decide)) (ri_ne (by decide)) (ri_ne (by decide)) (fun _ t3 => ?_)
                rw [et] at er ⊢
                have hR := hR T t (by rw [ri_ne (by decide)]; exact hT1.2.1) v3 er ht
                obtain ⟨o1, o2⟩ := giF_at (p := P) (g := y.2) v3 ht
                obtain ⟨a1, a2, a3, a4, a5, a6, a7⟩ := t3
                refine ⟨by rw [ri_ne (by omega), a1], by rw [ri_ne (by omega), a2], by rw [ri_ne (by omega), a3], by rw [ri_ne (by omega), a4, o2 0 (by omega)], by rw [ri_ne (by omega), a5, o2 4 (by omega)], fun u hu => ?_, fun q hq' => ?_⟩
                · unfold tcT
                  rw [ri_ne (by omega), ri_ne (by omega), ri_ne (by omega), ri_eq, o2 (11 + u) (by omega), o2 (19 + u) (by omega), o2 (27 + u) (by omega), o1 u hu, hR u hu]
                  obtain ⟨w1, w2, w3, w4⟩ := a6 u hu
                  refine ⟨w1, w2, w3, ?_⟩
                  by_cases c5 : u = t
                  · rw [if_pos c5, if_pos c5]; exact Or.inr ⟨P, by omega, rfl, rfl⟩
                  · rw [if_neg c5, if_neg c5]
                    obtain ⟨⟨k', k1', k2'⟩, -, -, -⟩ := gy.2.1 u hu
                    rcases w4 with ⟨x3, x4⟩ | ⟨q', x2, x3, x4⟩
                    · rw [x3, if_neg (show ¬ (-1 : Int32) = nI P from fun h => by have := m1_ne (a := P) (by omega); rw [← h] at this; exact this.mp rfl), x4, k2', if_neg (by rw [nI_inj (by omega) (by omega)]; omega)]
                      exact Or.inl ⟨rfl, rfl⟩
                    · rw [x3, x4]
                      by_cases c6 : q' = P
                      · subst c6
                        rw [if_pos rfl, if_pos rfl]
                        exact Or.inl ⟨rfl, rfl⟩
                      · rw [if_neg (by rw [nI_inj (by omega) (by omega)]; exact c6), if_neg (by rw [nI_inj (by omega) (by omega)]; omega)]
                        exact Or.inr ⟨q', x2, rfl, rfl⟩
                · unfold tcP
                  rw [ri_ne (by omega), ri_ne (by omega), ri_ne (by omega), o2 (35 + q) (by omega), o2 (66 + q) (by omega), o2 (41 + q) (by omega)]
                  exact a7 q hq'
              · exact dead _ _ r _ (fun p e => al ⟨p, e⟩) s2 hK
            · have hk0 : hoK B n T x1 y.2 = false := by
                unfold hoK
                rw [decide_eq_false_iff_not, et, q2, lI 10, nI_ltP (by omega) (by omega)]
                omega
              have e0 : (if M1.1 6 t = (-1) then (1 : Int32) else 0) = 0 := by
                rw [q1, if_neg]
                rw [m1_ne (by omega)]; exact not_false
              rw [e0]
              exact br_t rfl (no hk0)
          · have hk0 : hoK B n T x1 y.2 = false := by
              unfold hoK
              rw [decide_eq_false_iff_not]
              exact fun hh => hi ⟨_, hh.1, rfl⟩
            exact ⟨fun q => absurd rfl q, br_t rfl (no hk0)⟩
        exact can
      · rw [if_neg c1] at hK
        refine sp_nuS (lo := 0) (hi := 7) (by omega) s1 (by omega) (by omega) (fun R2 r s2 e2 => ?_)
        have e08 : nuF B n 0 7 x1 = faF B n 2 x1 := by
          unfold nuF
          rw [if_neg c1]
        rw [e08] at s2
        exact dead _ _ r _ (fun p e => fa_inl p e) s2 hK
  have loop : ∀ f i M (y : PS × RW), i + f = 900 → (∀ p, y.1 = .inr p → gV y.2 N T (P + 1)) → sC B n M0 M y.1 y.2 N T (P + 1) a l0 l1 → (∀ M', sC B n M0 M' (peL B n T P f y).1 (peL B n T P f y).2 N T (P + 1) a l0 l1 → Q s M') → wR_readPerson (d + 1) 53 [.ref 1, .int (nI P), .int (nI i)] [] s M Q := by
    intro f
    induction f with
    | zero =>
      intro i M y hi hg hs hq
      obtain rfl : i = 900 := by omega
      exact sgR_readPerson_53 (br_t (by decide) (hq M hs))
    | succ f ih =>
      intro i M y hi hg hs hq
      obtain ⟨e7, l7⟩ := CAt_k (fun k hk => (hs.2.1.2 k hk).2) hs.2.2.1
      unfold peL at hq
      have nxt : (kiF B n y.1 = 209 ∨ kiF B n y.1 = 210 ∨ kiF B n y.1 = 211) → cV (d + 1) yR_readFlag [.ref 1, .int (nI P)] s M (fun s1 M1 => wR_readPerson (d + 1) 53 [.ref 1, .int (nI P), .int (nI i + 1)] [] s1 M1 Q) := by
        intro hk
        rw [if_pos hk] at hq
        refine flag M y _ hg hs hk (fun M' s' => ?_)
        rw [nI_1]
        refine ih (i + 1) M' (flF B n T P y) (by omega) (fun p e => ?_) s' hq
        obtain ⟨p0, e0⟩ := ki_al (B := B) (n := n) (x := y.1) (by omega)
        have h1 : peL B n T P 1 y = flF B n T P y := by
          unfold peL
          rw [if_pos hk]
          rfl
        have := hV 1 y p (hg p0 e0)
        rw [h1] at this
        exact this e
      refine sgR_readPerson_53 (br_f (by rw [lI 900, nI_leP (by omega) (by omega)]; omega) ?_)
      rw [e7]
      simp only [lI 209, lI 210, lI 211, nI_inj (a := kiF B n y.1) (b := 209) (by omega) (by omega), nI_inj (a := kiF B n y.1) (b := 210) (by omega) (by omega), nI_inj (a := kiF B n y.1) (b := 211) (by omega) (by omega)]
      refine br_c (fun z => nxt (Or.inl z)) (fun z => br_c (fun z2 => nxt (Or.inr (Or.inl z2))) (fun z2 => br_c (fun z3 => nxt (Or.inr (Or.inr z3))) (fun z3 => ?_)))
      rw [if_neg (by omega)] at hq
      exact hq M hs
  refine loop 900 0 M4 y (by omega) gy s4 (fun M' s5 => hq M' ?_)
  obtain ⟨b1, b2, b3, b4⟩ := s5
  refine ⟨b1, b2, b3, fun p e => ?_⟩
  obtain ⟨c1, c2, c3⟩ := b4 p e
  exact ⟨c1, TC_g v3 (by omega) c2 (fun k _ _ _ k3 => row_ne k3), c3⟩
