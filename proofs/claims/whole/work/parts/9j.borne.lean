theorem sp_laysBorne {d : Nat} {s : pm_S} {M : pm_M} {g : Nat → Int32} {N T P W r n p : Nat} {f : Nat → Int64} {Q : pm_S → pm_M → Prop} (hd : 4 ≤ d) (hg : M.1 160 = g) (hV : Vd g N T P) (hW : g 4 = nI W) (hW10 : W ≤ 10) (hr4 : r < 4) (h183 : M.1 183 r = nI n) (hf : ∀ k, k < n → M.2 184 (40 * r + k) = f k) (hn : n ≤ 10) (hv : ∀ i, i < n → vN f i < T ∧ f i = lN (vN f i)) (hp : p < P) (hq : ∀ M', (∀ k, k < 1000 → M'.2 180 k = lN (lkF g p W f n k)) → off [164, 165, 180, 181] M M' → Q s M') : cV d yM_laysBorne [.ref 159, .int (nI r), .int (nI p)] s M Q := by
  obtain ⟨d, rfl⟩ : ∃ e, d = e + 1 := ⟨d - 1, by omega⟩
  have h8 := hV.2.2.2.2.2.1
  have h6 := hV.2.2.2.2.2.2.1
  have hok := hV.2.2.2.2.2.2.2.2.2.2.2
  have v4 : vp_in (nI r) 4 := vpI (by omega) (by omega)
  refine enM_laysBorne ?_
  refine loop_up (L := fun k M1 => wM_laysBorne d 2 [.ref 159, .int (nI r), .int (nI p), .int (nI k), .null, .null] [] s M1 Q) (I := fun k M1 => (∀ j, j < k → M1.2 180 j = lN (lkF g p W f 0 j)) ∧ off [164, 165, 180, 181] M M1) (e := 1000) ?_ ?_ M ⟨fun j h => by omega, off_rf⟩
  · rintro M1 ⟨b1, b2⟩
    refine sgM_laysBorne_2 (br_t (by decide) ?_)
    refine loop_up (L := fun i M2 => wM_laysBorne d 32 [.ref 159, .int (nI r), .int (nI p), .int (nI i), .null, .null] [] s M2 Q) (I := fun i M2 => (∀ j, j < 1000 → M2.2 180 j = lN (lkF g p W f i j)) ∧ off [164, 165, 180, 181] M M2) (e := n) ?_ ?_ M1 ⟨b1, b2⟩
    · rintro M2 ⟨c1, c2⟩
      refine sgM_laysBorne_32 ?_
      rw [nI_clamp (by omega), (c2 183 (by decide)).1, h183]
      exact ⟨v4, br_t (by rw [nI_leP (by omega) (by omega)]; exact Nat.le_refl _) (hq M2 c1 c2)⟩
    · rintro i M2 hi ⟨c1, c2⟩ hk
      obtain ⟨v1, v2⟩ := hv i hi
      have ef : M2.2 184 (40 * r + i) = lN (vN f i) := by rw [(c2 184 (by decide)).2, hf i hi]; exact v2
      refine sgM_laysBorne_32 ?_
      rw [nI_clamp (by omega), (c2 183 (by decide)).1, h183, lI 40, pk_mul, nI_add, nI_clamp (by omega), ef, lN_32]
      refine ⟨v4, br_f (by rw [nI_leP (by omega) (by omega)]; omega) ⟨vpI (by omega) (by omega), ?_⟩⟩
      refine loop_up (L := fun k M3 => wM_laysBorne d 59 [.ref 159, .int (nI r), .int (nI p), .int (nI i), .int (nI (vN f i)), .int (nI k)] [] s M3 Q) (I := fun k M3 => (∀ j, j < 1000 → M3.2 180 j = lN (lkF g p W f i j)) ∧ (∀ j, j < k → M3.2 181 j = lN 0) ∧ off [164, 165, 180, 181] M M3) (e := 1000) ?_ ?_ M2 ⟨c1, fun j h => by omega, c2⟩
      · rintro M3 ⟨d1, d2, d3⟩
        refine sgM_laysBorne_59 (br_t (by decide) ?_)
        refine loop_up (L := fun k M4 => wM_laysBorne d 84 [.ref 159, .int (nI r), .int (nI p), .int (nI i), .int (nI (vN f i)), .int (nI k)] [] s M4 Q) (I := fun k M4 => (∀ j, j < 1000 → M4.2 180 j = lN (lkF g p W f i j)) ∧ (∀ j, j < 1000 → M4.2 181 j = lN (lkP g p W f i k j)) ∧ off [164, 165, 180, 181] M M4) (e := 1000) ?_ ?_ M3 ⟨d1, d2, d3⟩
        · rintro M4 ⟨e1, e2, e3⟩
          refine sgM_laysBorne_84 (br_t (by decide) ?_)
          refine loop_up (L := fun k M5 => wM_laysBorne d 191 [.ref 159, .int (nI r), .int (nI p), .int (nI i), .null, .int (nI k)] [] s M5 Q) (I := fun k M5 => (∀ j, j < k → M5.2 180 j = lN (lkF g p W f (i + 1) j)) ∧ (∀ j, j < 1000 → M5.2 181 j = lN (lkF g p W f (i + 1) j)) ∧ off [164, 165, 180, 181] M M5) (e := 1000) ?_ ?_ M4 ⟨fun j h => by omega, e2, e3⟩
          · rintro M5 ⟨f1, f2, f3⟩
            refine sgM_laysBorne_191 (br_t (by decide) ?_)
            rw [nI_1]
            exact hk M5 ⟨f1, f3⟩
          · rintro k M5 hk5 ⟨f1, f2, f3⟩ hkk
            have v1000 : vp_in (nI k) 1000 := vpI (by omega) (by omega)
            refine sgM_laysBorne_191 (br_f (by rw [lI 1000, nI_leP (by omega) (by omega)]; omega) ⟨v1000, v1000, ?_⟩)
            rw [nI_clamp (by omega), nI_1, f2 k hk5]
            refine hkk _ ⟨fun j hj => ?_, fun j hj => by rw [sj_ne (by decide)]; exact f2 j hj, off_sj f3 (by decide)⟩
            rw [sj_eq]
            by_cases z : j = k
            · subst z; rw [row_eq]
            · rw [row_ne z]; exact f1 j (by omega)
        · rintro k M4 hk4 ⟨e1, e2, e3⟩ hkk
          have v1000 : vp_in (nI k) 1000 := vpI (by omega) (by omega)
          have g4 := r160 e3 (by decide) hg
          refine sgM_laysBorne_84 (br_f (by rw [lI 1000, nI_leP (by omega) (by omega)]; omega) ⟨v1000, ?_⟩)
          rw [nI_clamp (by omega), e1 k hk4, lL 0, nI_1]
          have bd := lk_bd (g := g) (p := p) (f := f) (W := W) (i := i) (k := k) hW10 (by omega) (by omega)
          have st := lkP_s (g := g) (p := p) (W := W) (i := i) (k := k) (f := f)
          refine br_c (fun z => ?_) (fun z => ?_)
          · rw [pk_lEQ (by omega) (by omega)] at z
            rw [dsS_0 z] at st
            exact hkk M4 ⟨e1, fun j hj => by rw [st]; exact e2 j hj, e3⟩
          · rw [pk_lEQ (by omega) (by omega)] at z
            have kle : k ≤ 99 * i := by
              apply Classical.byContradiction
              intro c
              exact z (lkF_sup (by omega) (by omega))
            unfold dsS at st
            rw [if_neg z] at st
            obtain ⟨q0, q0'⟩ := bnF_k g p (vN f i) 0 k
            obtain ⟨q1, q1'⟩ := bnF_k g p (vN f i) 1 k
            refine sp_burdenOf (g := g) (by omega) g4 hok (by omega) (by omega) (fun M5 o5 => ?_)
            have g5 := r160 o5 (by decide) g4
            rw [q0, nI_add, nI_clamp (by omega), g5, hW, (o5 180 (by decide)).2, (o5 181 (by decide)).2, e1 k hk4, e2 _ (by omega), lI 10, pk_sub hW10, nI_l (by omega), lN_mul, lN_add]
            refine ⟨vpI (by omega) (by omega), v1000, vpI (by omega) (by omega), ?_⟩
            generalize hM6 : pm_sj M5 181 (k + bnF g p (vN f i) 0 k) (lN (lkP g p W f i k (k + bnF g p (vN f i) 0 k) + lkF g p W f i k * (10 - W))) = M6
            have o6 : off [164, 165, 181] M4 M6 := by rw [← hM6]; exact off_sj (off_mo o5 (by decide)) (by decide)
            have g6 := r160 o6 (by decide) g4
            have d6 : ∀ j, j < 1000 → M6.2 181 j = lN (adN (lkP g p W f i k) (k + bnF g p (vN f i) 0 k) (lkF g p W f i k * (10 - W)) j) := by
              intro j hj
              rw [← hM6, sj_eq]
              unfold adN
              by_cases e : j = k + bnF g p (vN f i) 0 k
              · rw [e, row_eq, row_eq]
              · rw [row_ne e, row_ne e, (o5 181 (by decide)).2]; exact e2 j hj
            refine sp_burdenOf (g := g) (by omega) g6 hok (by omega) (by omega) (fun M7 o7 => ?_)
            have g7 := r160 o7 (by decide) g6
            rw [q1, nI_add, nI_clamp (by omega), g7, hW, (o7 180 (by decide)).2, (o6 180 (by decide)).2, (o7 181 (by decide)).2, e1 k hk4, d6 _ (by omega), nI_l (by omega), lN_mul, lN_add]
            refine ⟨vpI (by omega) (by omega), v1000, vpI (by omega) (by omega), hkk _ ⟨fun j hj => ?_, fun j hj => ?_, off_sj (off_tr e3 (off_tr (off_mo o6 (by decide)) (off_mo o7 (by decide)))) (by decide)⟩⟩
            · rw [sj_ne (by decide), (o7 180 (by decide)).2, (o6 180 (by decide)).2]; exact e1 j hj
            · rw [sj_eq, st]
              rw [show adN (adN (lkP g p W f i k) (k + bnF g p (vN f i) 0 k) (lkF g p W f i k * (10 - W))) (k + bnF g p (vN f i) 1 k) (lkF g p W f i k * W) j = pm_row (adN (lkP g p W f i k) (k + bnF g p (vN f i) 0 k) (lkF g p W f i k * (10 - W))) (k + bnF g p (vN f i) 1 k) (adN (lkP g p W f i k) (k + bnF g p (vN f i) 0 k) (lkF g p W f i k * (10 - W)) (k + bnF g p (vN f i) 1 k) + lkF g p W f i k * W) j from rfl]
              by_cases e : j = k + bnF g p (vN f i) 1 k
              · rw [e, row_eq, row_eq]
              · rw [row_ne e, row_ne e, (o7 181 (by decide)).2]; exact d6 j hj
      · rintro k M3 hk3 ⟨d1, d2, d3⟩ hkk
        refine sgM_laysBorne_59 (br_f (by rw [lI 1000, nI_leP (by omega) (by omega)]; omega) ⟨vpI (by omega) (by omega), ?_⟩)
        rw [nI_clamp (by omega), nI_1]
        refine hkk _ ⟨fun j hj => by rw [sj_ne (by decide)]; exact d1 j hj, fun j hj => ?_, off_sj d3 (by decide)⟩
        rw [sj_eq]
        by_cases z : j = k
        · subst z; rw [row_eq]; rfl
        · rw [row_ne z]; exact d2 j (by omega)
  · rintro k M1 hk ⟨b1, b2⟩ hkk
    refine sgM_laysBorne_2 (br_f (by rw [lI 1000, nI_leP (by omega) (by omega)]; omega) ⟨vpI (by omega) (by omega), ?_⟩)
    rw [nI_clamp (by omega), nI_1]
    refine hkk _ ⟨fun j hj => ?_, off_sj b2 (by decide)⟩
    rw [sj_eq]
    by_cases z : j = k
    · subst z
      rw [row_eq]
      show _ = lN (if j = 0 then 1 else 0)
      simp only [l0, nI_inj (a := j) (b := 0) (by omega) (by omega)]
      by_cases y : j = 0
      · rw [if_pos y, if_pos y]; rfl
      · rw [if_neg y, if_neg y]; rfl
    · rw [row_ne z]; exact b1 j (by omega)
theorem sp_tens {d : Nat} {s : pm_S} {M : pm_M} {n : Nat} {Q : Int64 → pm_S → pm_M → Prop} (hd : 1 ≤ d) (hn : n ≤ 40) (hq : Q (lN (10 ^ n)) s M) : cL d yM_tens [.int (nI n)] s M Q := by
  obtain ⟨d, rfl⟩ : ∃ e, d = e + 1 := ⟨d - 1, by omega⟩
  refine enM_tens ?_
  refine loop_up (L := fun k M1 => wM_tens d 4 [.int (nI n), .long (lN (10 ^ k)), .null, .int (nI k)] [] s M1 Q) (I := fun k M1 => M1 = M) (e := n) ?_ ?_ M rfl
  · intro M1 e
    subst e
    exact sgM_tens_4 (br_t (by rw [nI_leP (by omega) (by omega)]; exact Nat.le_refl _) hq)
  · intro k M1 hk e hkk
    subst e
    refine sgM_tens_4 (br_f (by rw [nI_leP (by omega) (by omega)]; omega) ?_)
    rw [lL 10, lN_mul, ← Nat.pow_succ, nI_1]
    exact hkk M1 rfl
theorem sp_chanceCode {d : Nat} {s : pm_S} {M : pm_M} {T P : Nat} {v u : Int32} {Q : Int32 → pm_S → pm_M → Prop} (hd : 4 ≤ d) (e1 : M.1 15 1 = nI T) (e2 : M.1 15 2 = nI P) (h8 : T ≤ 8) (h6' : P ≤ 6) (hT : iTray M) (h2 : ¬ (inI v 4 ∧ inI u P) → Q (-2) s M) (h6 : ∀ r, r < 4 → v = nI r → inI u P → M.1 182 r = -1 → Q (-6) s M) (h0 : ∀ r n, r < 4 → v = nI r → inI u P → n ≤ 40 → M.1 183 r = nI n → YR M (117 + 2 * r) n (fun k => M.2 184 (40 * r + k)) → Q (codeF n 10 T (fun k => M.2 184 (40 * r + k))) s M) : cI d yG_chanceCode [.ref 0, .int v, .int u] s M Q := by
  obtain ⟨d, rfl⟩ : ∃ e, d = e + 1 := ⟨d - 1, by omega⟩
  refine enG_chanceCode (sp_hasTray (by omega) (fun hv => br_f (by decide) ?_) (fun hv => br_t rfl (h2 (fun q => hv q.1))))
  refine sp_hasPerson (by omega) e2 h6' (fun hu => br_f (by decide) ?_) (fun hu => br_t rfl (h2 (fun q => hu q.2)))
  obtain ⟨r, hr, rfl⟩ := hv
  refine ⟨vpI (by omega) (by omega), fun o eo ho => ?_⟩
  rw [nI_clamp (by omega)] at eo
  subst eo
  rw [e1, lI 10]
  rcases hT r hr with ⟨z1, z2⟩ | ⟨n, q, q0, q1, q2, q3, q4⟩
  · obtain ⟨d, rfl⟩ : ∃ e, d = e + 1 := ⟨d - 1, by omega⟩
    obtain ⟨d, rfl⟩ : ∃ e, d = e + 1 := ⟨d - 1, by omega⟩
    refine enY_codeForNumbers ho (enY_isMissing ho ?_)
    rw [z1]
    exact br_f (by decide) (h6 r hr rfl hu z2)
  · exact sp_codeFor (by omega) ho q4 (by omega) (by omega) (h0 r n hr rfl hu q4.2.1 q3 q4)
theorem sp_noChance {d : Nat} {s : pm_S} {M : pm_M} {g : Nat → Int32} {N T P : Nat} {v u : Int32} {Q : Int32 → pm_S → pm_M → Prop} (hd : 4 ≤ d) (hg : M.1 160 = g) (hV : Vd g N T P) (hT : iTray M) (h2 : ¬ (inI v 4 ∧ inI u P) → Q (-2) s M) (h6 : ∀ r, r < 4 → v = nI r → inI u P → M.1 182 r = -1 → Q (-6) s M) (h0 : ∀ r n, r < 4 → v = nI r → inI u P → n ≤ 40 → M.1 183 r = nI n → YR M (117 + 2 * r) n (fun k => M.2 184 (40 * r + k)) → Q (codeF n 10 T (fun k => M.2 184 (40 * r + k))) s M) : cI d yM_noChance [.ref 159, .int v, .int u] s M Q := by
  obtain ⟨d, rfl⟩ : ∃ e, d = e + 1 := ⟨d - 1, by omega⟩
  have e2 := hV.2.1
  have e3 := hV.2.2.1
  have h8 := hV.2.2.2.2.2.1
  have h7 := hV.2.2.2.2.2.2.1
  refine enM_noChance ?_
  rw [lL 0, lL 3]
  refine sp_within2 (by omega) (fun h => br_f (by decide) ?_) (fun h => br_t rfl (h2 (fun q => h ((wi_inI (by omega)).mpr q.1))))
  obtain ⟨r, hr, rfl⟩ := (wi_inI (by omega)).mp h
  refine sp_isPerson (n := P) (by omega) (by rw [hg]; exact e3) h7 (fun hu => br_f (by decide) ?_) (fun hu => br_t rfl (h2 (fun q => hu ((inN_i (by omega)).mpr q.2))))
  have hu' : inI u P := (inN_i (by omega)).mp hu
  rw [lI 10]
  refine sp_noRow (n := 0) (by omega) hT hr (by omega) (fun z => br_f (by decide) (h6 r hr rfl hu' z)) (fun n h40 z1 z2 => ?_)
  have := h0 r n hr rfl hu' h40 z1 z2
  unfold codeF at this
  by_cases c : n < 1 ∨ 10 < n
  · rw [if_pos c] at this ⊢
    exact br_f (by decide) this
  · rw [if_neg c] at this ⊢
    refine br_t rfl ?_
    refine loop_fst (L := fun i => wM_noChance d 41 [.ref 159, .int (nI r), .null, .null, .int (nI i)] [] s M Q) (P := fun k => decide (ixN (M.2 184 (40 * r + k)) T = none)) (e := n) (K := fun w => Q (if w = none then 0 else -3) s M) this ?_ ?_
    · intro hk
      refine sgM_noChance_41 ?_
      rw [nI_clamp (by omega), z1]
      exact ⟨vpI (by omega) (by omega), br_t (by rw [nI_leP (by omega) (by omega)]; exact Nat.le_refl _) hk⟩
    · intro i hi k1 k2
      refine sgM_noChance_41 ?_
      rw [nI_clamp (by omega), z1, lI 40, pk_mul, nI_add, nI_clamp (by omega), nI_1]
      refine ⟨vpI (by omega) (by omega), br_f (by rw [nI_leP (by omega) (by omega)]; omega) ⟨vpI (by omega) (by omega), sp_isThing (n := T) (by omega) (by rw [hg]; exact e2) h8 (fun q => br_f (by decide) (k2 ?_)) (fun q => br_t rfl (k1 ?_))⟩⟩
      · obtain ⟨k, hk, e⟩ := q
        rw [e, ixN_k (by omega), if_pos hk]
        simp
      · simp only [decide_eq_true_eq]
        exact ixN_none q (by omega)
