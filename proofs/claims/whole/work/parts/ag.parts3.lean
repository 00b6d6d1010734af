/-! the class's laws' parser: atoms, units, all levels -/
theorem faW_lt {o : Bool} {k j : Nat} (h : faW o k = some j) : j < 7 ∧ k ≠ 129 ∧ k ≠ 131 := by
  unfold faW at h
  by_cases c1 : k = 212
  · rw [if_pos c1] at h; cases h; omega
  · rw [if_neg c1] at h
    by_cases c2 : k = 209
    · rw [if_pos c2] at h; cases h; omega
    · rw [if_neg c2] at h
      by_cases c3 : k = 201
      · rw [if_pos c3] at h; cases h; omega
      · rw [if_neg c3] at h
        by_cases c4 : k = 207
        · rw [if_pos c4] at h; cases h; omega
        · rw [if_neg c4] at h
          by_cases c5 : k = 208
          · rw [if_pos c5] at h; cases h; omega
          · rw [if_neg c5] at h
            by_cases c6 : k = 205 ∧ o = true
            · rw [if_pos c6] at h; cases h; omega
            · rw [if_neg c6] at h
              by_cases c7 : k = 213 ∧ o = true
              · rw [if_pos c7] at h; cases h; omega
              · rw [if_neg c7] at h; cases h
def faI (o : Bool) (k : Nat) : Int32 := match faW o k with
  | some j => nI j
  | none => -1
theorem sp_factOf {d : Nat} {s : pm_S} {M : pm_M} {k : Nat} {o : Bool} {Q : Int32 → pm_S → pm_M → Prop} (hd : 1 ≤ d) (hk : k < 256) (ho : k = 131 ∨ M.1 1 11 = oB o) (hq : Q (faI o k) s M) : cI d yR_factOf [.ref 1, .int (nI k)] s M Q := by
  obtain ⟨d, rfl⟩ : ∃ e, d = e + 1 := ⟨d - 1, by omega⟩
  refine enR_factOf ?_
  simp only [lI 201, lI 205, lI 207, lI 208, lI 209, lI 212, lI 213, nI_inj (a := k) (b := 201) (by omega) (by omega), nI_inj (a := k) (b := 205) (by omega) (by omega), nI_inj (a := k) (b := 207) (by omega) (by omega), nI_inj (a := k) (b := 208) (by omega) (by omega), nI_inj (a := k) (b := 209) (by omega) (by omega), nI_inj (a := k) (b := 212) (by omega) (by omega), nI_inj (a := k) (b := 213) (by omega) (by omega)]
  refine br_c (fun z => ?_) (fun z1 => br_c (fun z => ?_) (fun z2 => br_c (fun z => ?_) (fun z3 => br_c (fun z => ?_) (fun z4 => br_c (fun z => ?_) (fun z5 => br_c (fun z => ?_) (fun z6 => br_c (fun z => ?_) (fun z7 => ?_)))))))
  · subst z; cases o <;> exact hq
  · subst z
    rcases ho with h | h
    · cases h
    · cases o
      · rw [if_pos (by rw [h]; rfl)]; exact hq
      · rw [if_neg (by rw [h]; decide)]; exact hq
  · subst z; cases o <;> exact hq
  · subst z; cases o <;> exact hq
  · subst z; cases o <;> exact hq
  · subst z; cases o <;> exact hq
  · subst z
    rcases ho with h | h
    · cases h
    · cases o
      · rw [if_pos (by rw [h]; rfl)]; exact hq
      · rw [if_neg (by rw [h]; decide)]; exact hq
  · have : faW o k = none := by
      unfold faW
      rw [if_neg z6, if_neg z5, if_neg z1, if_neg z3, if_neg z4, if_neg (fun h => z2 h.1), if_neg (fun h => z7 h.1)]
    unfold faI at hq
    rw [this] at hq
    exact hq
def chF (B : Nat → Nat) (n : Nat) (sm tr : PS → PR) (x : PS) : PR := (exF B n 217 (sm (exF B n 216 (sm (exF B n 215 (tr x).1)).1)).1, fun w => if (tr x).2 w = 1 then (sm (exF B n 215 (tr x).1)).2 w else (sm (exF B n 216 (sm (exF B n 215 (tr x).1)).1)).2 w)
theorem spC_mo {B : Nat → Nat} {n y dm dm' r q q' : Nat} {o : Bool} {F : PS → PR} (h : spC B n o y dm r q F) (h1 : dm ≤ dm') (h2 : q ≤ q') : spC B n o y dm' r q' F := by
  intro d s M x a Q hd h0 hq
  refine h d s M x a Q (by omega) h0 (fun M' hw => hq M' ?_)
  obtain ⟨b, c1, al⟩ := hw
  exact ⟨b, c1, fun p' ep => ⟨(al p' ep).1, mcC_mo (al p' ep).2 h2⟩⟩
theorem at_C {B : Nat → Nat} {n dm r q : Nat} {o : Bool} {sm tr : PS → PR} (hr : r ≤ 6) (h4 : 6 ≤ dm) (hq1 : 1 ≤ q) (hS : r ≠ 0 → spC B n o yR_readSum dm (r - 1) q sm) (hH : r ≠ 0 → spC B n o yR_readChoice dm (r - 1) q (chF B n sm tr)) : spC B n o yR_readAtom (dm + 1) r q (atF B n o r sm tr) := by
  intro d s M x a Q hd h0 hq
  obtain ⟨d, rfl⟩ : ∃ e, d = e + 1 := ⟨d - 1, by omega⟩
  have hs := h0.1
  obtain ⟨e7, l7⟩ := CAt_k (fun k hk => (hs.2.1.2 k hk).2) hs.2.2.1
  have ho : kiF B n x = 131 ∨ M.1 1 11 = oB o := by
    cases x with
    | inl f => exact Or.inl rfl
    | inr p => exact Or.inr (h0.2 p rfl).2
  refine enR_readAtom ?_
  rw [e7]
  refine sp_factOf (o := o) (by omega) l7 ho ?_
  rw [e7, lI 128, nI_inj (by omega) (by omega)]
  unfold atF at hq
  refine br_c (fun c1 => ?_) (fun c1 => ?_)
  · simp only [if_pos c1] at hq
    obtain ⟨e9, l9⟩ := CAt_v (fun k hk => (hs.2.1.2 k hk).2) hs.2.2.1 c1
    rw [e9]
    exact sp_asC (by omega) hs (by rw [c1]; decide) (by rw [c1]; decide) (fun M' k1 k2 k3 => hq M' ⟨a + 1, k1, fun p' ep => ⟨k2, mcC_num l9 hq1 (by rw [k3, row_eq])⟩⟩)
  simp only [if_neg c1] at hq
  unfold faI
  cases e : faW o (kiF B n x) with
  | some j =>
    simp only [e] at hq
    obtain ⟨l1, l2, l3⟩ := faW_lt e
    refine br_f (by show ¬ nI j = -1; rw [m1_ne (by omega)]; exact not_false) ?_
    exact sp_asC (by omega) hs l2 l3 (fun M' k1 k2 k3 => hq M' ⟨a + 1, k1, fun p' ep => ⟨k2, mcC_word l1 hq1 (by rw [k3, row_eq])⟩⟩)
  | none =>
    simp only [e] at hq
    refine br_t rfl ?_
    simp only [lI 40, lI 214, nI_inj (a := kiF B n x) (b := 40) (by omega) (by omega), nI_inj (a := kiF B n x) (b := 214) (by omega) (by omega)]
    have up : ∀ (M1 M2 : pm_M) (y : PS) (p' : Nat), (M2.1 1 10 = M1.1 1 10) → (M1.1 1 10 = nI (7 - r) ∧ M.1 1 10 = nI (6 - r)) → r ≠ 0 → (pm_si M2 1 10 (M2.1 1 10 - 1)).1 1 10 = M.1 1 10 := by
      intro M1 M2 y p' h1 h2 h3
      rw [si_eq, row_eq, h1, h2.1, h2.2, l1, pk_sub (by omega)]
      congr 1; omega
    refine br_c (fun c2 => ?_) (fun c2 => br_c (fun c3 => ?_) (fun c3 => ?_))
    · simp only [if_pos c2] at hq
      refine sp_giC (by omega) hr h0 (by rw [c2]; decide) (by rw [c2]; decide) (fun r0 M1 k1 i1 n1 => br_f (by decide) ?_) (fun r0 M1 k1 => br_t rfl ?_)
      · simp only [if_neg r0] at hq
        refine hS r0 d s M1 _ a _ (by omega) i1 (fun M2 w2 => ?_)
        obtain ⟨b, k2, al2⟩ := w2
        refine sp_exC (w := 41) (by omega) (chC_tr k1 k2) (by omega) (by omega) (fun M3 k3 s3 n3 => ?_)
        refine hq _ ⟨b, chC_mo (chC_10 k3) (by omega), fun p' ep => ?_⟩
        obtain ⟨p2, e2, x1, x2, x3⟩ := s3.2.2.2.2.2.2 p' ep
        obtain ⟨p1, e1, y1, y2, y3⟩ := k2.2.2.2.2.2.2 p2 e2
        refine ⟨up M1 M3 x p' (by rw [n3, (al2 p2 e2).1]) (n1 p1 e1) r0, mcC_congr (al2 p2 e2).2 (fun k h1 h2 => ?_)⟩
        rw [si_ne (by decide), x3 k h2]
      · simp only [if_pos r0] at hq
        exact hq M1 ⟨a, k1, fun p' ep => absurd ep (fa_inl p')⟩
    · simp only [if_neg c2, if_pos c3] at hq
      refine sp_giC (by omega) hr h0 (by rw [c3]; decide) (by rw [c3]; decide) (fun r0 M1 k1 i1 n1 => br_f (by decide) ?_) (fun r0 M1 k1 => br_t rfl ?_)
      · simp only [if_neg r0] at hq
        refine hH r0 d s M1 _ a _ (by omega) i1 (fun M2 w2 => ?_)
        obtain ⟨b, k2, al2⟩ := w2
        refine hq _ ⟨b, chC_mo (chC_10 (chC_tr k1 k2)) (by omega), fun p' ep => ?_⟩
        obtain ⟨p1, e1, y1, y2, y3⟩ := k2.2.2.2.2.2.2 p' ep
        refine ⟨up M1 M2 x p' (al2 p' ep).1 (n1 p1 e1) r0, mcC_congr (al2 p' ep).2 (fun k h1 h2 => ?_)⟩
        rw [si_ne (by decide)]
      · simp only [if_pos r0] at hq
        exact hq M1 ⟨a, k1, fun p' ep => absurd ep (fa_inl p')⟩
    · simp only [if_neg c2, if_neg c3] at hq
      exact sp_faC (k := 2) (by omega) hs (by omega) (by omega) (fun M1 k1 => hq M1 ⟨a, k1, fun p' ep => absurd ep (fa_inl p')⟩)
theorem un_C {B : Nat → Nat} {n dm r q : Nat} {o : Bool} {sm tr un : PS → PR} (hr : r ≤ 6) (h4 : 6 ≤ dm) (hS : spC B n o yR_readSum dm r q (suF B n o r sm tr)) (hU : r ≠ 0 → spC B n o yR_readUnit (dm + 1) (r - 1) (q + 1) un) (hT : r ≠ 0 → spC B n o yR_readTruth (dm + 1) (r - 1) (q + 1) tr) : spC B n o yR_readUnit (dm + 2) r (q + 1) (unF B n o r sm tr un) := by
  intro d s M x a Q hd h0 hq
  obtain ⟨d, rfl⟩ : ∃ e, d = e + 1 := ⟨d - 1, by omega⟩
  have hs := h0.1
  obtain ⟨e7, l7⟩ := CAt_k (fun k hk => (hs.2.1.2 k hk).2) hs.2.2.1
  have up : ∀ (M1 M2 : pm_M) (y : PS) (p' : Nat), (M2.1 1 10 = M1.1 1 10) → (M1.1 1 10 = nI (7 - r) ∧ M.1 1 10 = nI (6 - r)) → r ≠ 0 → (pm_si M2 1 10 (M2.1 1 10 - 1)).1 1 10 = M.1 1 10 := by
    intro M1 M2 y p' h1 h2 h3
    rw [si_eq, row_eq, h1, h2.1, h2.2, l1, pk_sub (by omega)]
    congr 1; omega
  refine enR_readUnit ?_
  rw [e7]
  simp only [lI 218, lI 91, nI_inj (a := kiF B n x) (b := 218) (by omega) (by omega), nI_inj (a := kiF B n x) (b := 91) (by omega) (by omega)]
  unfold unF at hq
  refine br_c (fun c1 => ?_) (fun c1 => br_c (fun c2 => ?_) (fun c2 => ?_))
  · simp only [if_pos c1] at hq
    refine sp_giC (by omega) hr h0 (by rw [c1]; decide) (by rw [c1]; decide) (fun r0 M1 k1 i1 n1 => br_f (by decide) ?_) (fun r0 M1 k1 => br_t rfl ?_)
    · simp only [if_neg r0] at hq
      refine hU r0 d s M1 _ a _ (by omega) i1 (fun M2 w2 => ?_)
      obtain ⟨b, k2, al2⟩ := w2
      have k12 := chC_tr k1 k2
      refine sp_addC (c := 0) (by omega) k12 (fun M3 b3 k3 n3 v3 => ?_)
      refine hq _ ⟨b3, chC_10 k3, fun p' ep => ?_⟩
      obtain ⟨eb, lb, r3⟩ := v3 p' ep
      obtain ⟨p1, e1, y1, y2, y3⟩ := k2.2.2.2.2.2.2 p' ep
      subst eb
      refine ⟨up M1 M3 x p' (by rw [n3, (al2 p' ep).1]) (n1 p1 e1) r0, ?_⟩
      refine mcC_not (mcC_congr (al2 p' ep).2 (fun k h1 h2 => ?_)) ?_
      · rw [si_ne (by decide), r3, row_ne (by omega)]
      · rw [si_ne (by decide), r3, row_eq]
        exact (st_op 10 (by omega)).1
    · simp only [if_pos r0] at hq
      exact hq M1 ⟨a, k1, fun p' ep => absurd ep (fa_inl p')⟩
  · simp only [if_neg c1, if_pos c2] at hq
    refine sp_giC (by omega) hr h0 (by rw [c2]; decide) (by rw [c2]; decide) (fun r0 M1 k1 i1 n1 => br_f (by decide) ?_) (fun r0 M1 k1 => br_t rfl ?_)
    · simp only [if_neg r0] at hq
      refine hT r0 d s M1 _ a _ (by omega) i1 (fun M2 w2 => ?_)
      obtain ⟨b, k2, al2⟩ := w2
      refine sp_exC (w := 93) (by omega) (chC_tr k1 k2) (by omega) (by omega) (fun M3 k3 s3 n3 => ?_)
      refine hq _ ⟨b, chC_mo (chC_10 k3) (by omega), fun p' ep => ?_⟩
      obtain ⟨p2, e2, x1, x2, x3⟩ := s3.2.2.2.2.2.2 p' ep
      obtain ⟨p1, e1, y1, y2, y3⟩ := k2.2.2.2.2.2.2 p2 e2
      refine ⟨up M1 M3 x p' (by rw [n3, (al2 p2 e2).1]) (n1 p1 e1) r0, mcC_congr (al2 p2 e2).2 (fun k h1 h2 => ?_)⟩
      rw [si_ne (by decide), x3 k h2]
    · simp only [if_pos r0] at hq
      exact hq M1 ⟨a, k1, fun p' ep => absurd ep (fa_inl p')⟩
  · simp only [if_neg c1, if_neg c2] at hq
    refine hS d s M x a _ (by omega) h0 (fun M1 w1 => ?_)
    obtain ⟨b, k1, al1⟩ := w1
    generalize suF B n o r sm tr x = y at hq k1 al1
    obtain ⟨d, rfl⟩ : ∃ e, d = e + 1 := ⟨d - 1, by omega⟩
    obtain ⟨f7, g7⟩ := CAt_k (fun k hk => (k1.2.1.2 k hk).2) k1.2.2.1
    have cmp : ∀ (j : Nat) (c : Int32), opC (kiF B n y.1) = some c → kiF B n y.1 ≠ 129 → 2 ≤ j → j < 10 → (∀ u v, bj (nI j) u v = btw c u v) → wR_readComparison d 63 [.ref 1, .int (nI j)] [] s M1 Q := by
      intro j c ec hk h2 h10 hb
      simp only [ec] at hq
      refine sgR_readComparison_63 (sp_stC (by omega) k1 hk (fun M2 c2 s2 n2 => ?_))
      have i2 : inC B n o r (nxF B n y.1) b M2 := chC_in c2 h0 (fun p1 e1 => by
        obtain ⟨p, e0, _⟩ := s2.2.2.2.2.2.2 p1 e1
        rw [n2, (al1 p e0).1])
      refine hS d s M2 _ b _ (by omega) i2 (fun M3 w3 => ?_)
      obtain ⟨e, k3, al3⟩ := w3
      have k23 := chC_tr c2 k3
      refine sp_addC (c := 0) (by omega) k23 (fun M4 b4 k4 n4 v4 => ?_)
      refine hq M4 ⟨b4, k4, fun p' ep => ?_⟩
      obtain ⟨eb, lb, r4⟩ := v4 p' ep
      obtain ⟨p2, e2, x1, x2, x3⟩ := k3.2.2.2.2.2.2 p' ep
      obtain ⟨p1, e1, y1, y2, y3⟩ := s2.2.2.2.2.2.2 p2 e2
      subst eb
      have l2 := mcC_le (al3 p' ep).2
      have l1 := mcC_le (al1 p1 e1).2
      refine ⟨by rw [n4, (al3 p' ep).1, n2, (al1 p1 e1).1], ?_⟩
      refine mcC_bin (k := nI j) (p := q) (q := q) (mcC_congr (al1 p1 e1).2 (fun k h1 h2 => ?_)) (mcC_congr (al3 p' ep).2 (fun k h1 h2 => ?_)) (by omega) (Nat.le_refl _) ?_ ?_ ?_ ?_ ?_ (fun w => hb _ _)
      · rw [r4, row_ne (by omega), x3 k h2, y3 k h2]
      · rw [r4, row_ne (by omega)]
      · rw [r4, row_eq]
        exact (st_op _ (by omega)).1
      · rw [lI 1, nI_ltP (by omega) (by omega)]; omega
      · rw [lI 10, ne_eq, nI_inj (by omega) (by omega)]; omega
      · rw [lI 11, ne_eq, nI_inj (by omega) (by omega)]; omega
      · rw [lI 12, ne_eq, nI_inj (by omega) (by omega)]; omega
    refine enR_readComparison ?_
    rw [f7]
    simp only [lI 61, lI 60, nI_inj (a := kiF B n y.1) (b := 61) (by omega) (by omega), nI_inj (a := kiF B n y.1) (b := 60) (by omega) (by omega)]
    refine sgR_readComparison_29 ?_
    rw [f7]
    simp only [lI 61, lI 60, lI 62, nI_inj (a := kiF B n y.1) (b := 61) (by omega) (by omega), nI_inj (a := kiF B n y.1) (b := 60) (by omega) (by omega), nI_inj (a := kiF B n y.1) (b := 62) (by omega) (by omega)]
    refine br_c (fun z1 => ?_) (fun z1 => br_c (fun z2 => ?_) (fun z2 => br_c (fun z3 => ?_) (fun z3 => ?_)))
    · rw [if_pos z1]
      exact cmp 5 3003 (by unfold opC; rw [if_pos z1]) (by rw [z1]; decide) (by omega) (by omega) (fun u v => bj_5)
    · rw [if_neg z1, if_pos z2]
      exact cmp 6 3004 (by unfold opC; rw [if_neg z1, if_pos z2]) (by rw [z2]; decide) (by omega) (by omega) (fun u v => bj_6)
    · rw [if_neg z1, if_neg z2]
      exact cmp 7 3005 (by unfold opC; rw [if_neg z1, if_neg z2, if_pos z3]) (by rw [z3]; decide) (by omega) (by omega) (fun u v => bj_7)
    · have ec : opC (kiF B n y.1) = none := by unfold opC; rw [if_neg z1, if_neg z2, if_neg z3]
      simp only [ec] at hq
      exact sp_faC (k := 2) (by omega) k1 (by omega) (by omega) (fun M2 k2 => hq M2 ⟨b, k2, fun p' ep => absurd ep (fa_inl p')⟩)
theorem lv_C {B : Nat → Nat} {n r : Nat} {o : Bool} {sm tr un : PS → PR} (hr : r ≤ 6) (hS : r ≠ 0 → spC B n o yR_readSum (8 * r + 2) (r - 1) (5 * r) sm) (hT : r ≠ 0 → spC B n o yR_readTruth (8 * r + 6) (r - 1) (5 * r + 1) tr) (hU : r ≠ 0 → spC B n o yR_readUnit (8 * r + 4) (r - 1) (5 * r) un) (h01 : ∀ w, (∀ x, is01 ((tr x).2 w)) ∧ ∀ x, is01 ((un x).2 w)) :
    spC B n o yR_readSum (8 * r + 10) r (5 * r + 3) (suF B n o r sm tr) ∧ spC B n o yR_readTruth (8 * r + 14) r (5 * r + 6) (tuF B n o r sm tr un) ∧ spC B n o yR_readUnit (8 * r + 12) r (5 * r + 4) (unF B n o r sm tr un) := by
  have a0 : spC B n o yR_readAtom (8 * r + 7 + 1) r (5 * r + 1) (atF B n o r sm tr) := at_C hr (by omega) (by omega) (fun h => spC_mo (hS h) (by omega) (by omega)) (fun h => ch_C (by omega) (spC_mo (hS h) (by omega) (by omega)) (hT h) (fun x w => (h01 w).1 x))
  have a1 := te_C (by omega) a0
  have a2 := su_C (by omega) a1
  have a3 := un_C hr (by omega) a2 (fun h => spC_mo (hU h) (by omega) (by omega)) (fun h => spC_mo (hT h) (by omega) (by omega))
  have v3 : ∀ x w, is01 ((unF B n o r sm tr un x).2 w) := fun x w => un_01 (h01 w).1 (h01 w).2 x
  have a4 := bo_C (by omega) a3 v3
  have v4 : ∀ x w, is01 ((boF B n o r sm tr un x).2 w) := fun x w => lp_01 opA_c (fun x => v3 x w) _ _ (v3 x w)
  have a5 := tu_C (by omega) a4 v4
  exact ⟨a2, a5, a3⟩
theorem lev_C {B : Nat → Nat} {n : Nat} {o : Bool} : ∀ r, r ≤ 6 → spC B n o yR_readSum (8 * r + 10) r (5 * r + 3) (levF B n o r).1 ∧ spC B n o yR_readTruth (8 * r + 14) r (5 * r + 6) (levF B n o r).2.1 ∧ spC B n o yR_readUnit (8 * r + 12) r (5 * r + 4) (levF B n o r).2.2 := by
  intro r
  induction r with
  | zero =>
    intro h
    exact lv_C h (fun h => absurd rfl h) (fun h => absurd rfl h) (fun h => absurd rfl h) (fun w => ⟨fun _ => Or.inl rfl, fun _ => Or.inl rfl⟩)
  | succ r ih =>
    intro h
    obtain ⟨i1, i2, i3⟩ := ih (by omega)
    exact lv_C h (fun _ => spC_mo i1 (by omega) (by omega)) (fun _ => spC_mo i2 (by omega) (by omega)) (fun _ => spC_mo i3 (by omega) (by omega)) (fun w => lev_01 r)
