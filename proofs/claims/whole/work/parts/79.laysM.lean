theorem sub1 (x : Int32) : x - 1 = x + (-1) := by grind
theorem m1_lt0 : nI 0 + (-1) < 0 := by decide
theorem sp_laysMatching {d : Nat} {s : pm_S} {M : pm_M} {g : Nat → Int32} {N T P : Nat} {Q : pm_S → pm_M → Prop} (hd : 4 ≤ d) (hg : M.1 160 = g) (hV : Vd g N T P) (hq : ∀ M', KM M' (clF g) T P → MT M' (clF g) T P 0 → off [164, 165, 168, 169, 170, 171] M M' → Q s M') : cV d yM_laysMatching [.ref 159] s M Q := by
  obtain ⟨d, rfl⟩ : ∃ e, d = e + 1 := ⟨d - 1, by omega⟩
  obtain ⟨h1, h2, h3, h4, h5, h8, h6, _, _, _, hok, _⟩ := hV
  have h256 := pow_le8 h8
  refine enM_laysMatching ?_
  refine loop_up (L := fun i M1 => wM_laysMatching d 2 [.ref 159, .int (nI i), .null] [] s M1 Q) (I := fun i M1 => KM M1 (clF g) T i ∧ off [164, 165, 168, 169, 170, 171] M M1) (e := P) ?_ ?_ M ⟨fun p t h => by omega, off_rf⟩
  · intro M1 h
    have g1 := r160 h.2 (by decide) hg
    refine sgM_laysMatching_2 (br_t (by rw [g1, h3, nI_leP (by omega) (by omega)]; exact Nat.le_refl _) ?_)
    refine loop_up (L := fun i M2 => wM_laysMatching d 55 [.ref 159, .int (nI i), .null] [] s M2 Q) (I := fun i M2 => KM M2 (clF g) T P ∧ off [164, 165, 168, 169, 170, 171] M M2 ∧ ∀ S, S < i → M2.1 168 (256 * P + S) = 0 ∧ M2.1 169 (256 * P + S) = 0 ∧ M2.1 170 (256 * P + S) = 1) (e := 256) ?_ ?_ M1 ⟨h.1, h.2, fun S h => by omega⟩
    · intro M2 b
      have g2 := r160 b.2.1 (by decide) hg
      refine sgM_laysMatching_55 (br_t (by decide) ?_)
      rw [g2, h3, sub1]
      have base : MT M2 (clF g) T P P := by
        intro p S a1 a2 a3
        have : p = P := by omega
        subst this
        rw [Nat.sub_self]
        exact b.2.2 S (by omega)
      have down : ∀ q, q ≤ P → ∀ M3, KM M3 (clF g) T P → off [164, 165, 168, 169, 170, 171] M M3 → MT M3 (clF g) T P q → wM_laysMatching d 131 [.ref 159, .int (nI q + (-1)), .null] [] s M3 Q := by
        intro q
        induction q with
        | zero =>
          intro _ M3 k3 o3 m3
          exact sgM_laysMatching_131 (br_t m1_lt0 (hq M3 k3 m3 o3))
        | succ q ih =>
          intro hqP M3 k3 o3 m3
          rw [pk_m1 q]
          refine sgM_laysMatching_131 (br_f (nI_pos (by omega)) ?_)
          refine loop_up (L := fun i M4 => wM_laysMatching d 137 [.ref 159, .int (nI q), .int (nI i)] [] s M4 Q) (I := fun i M4 => KM M4 (clF g) T P ∧ off [164, 165, 168, 169, 170, 171] M M4 ∧ MT M4 (clF g) T P (q + 1) ∧ ∀ S, S < i → M4.1 168 (256 * q + S) = smF (clF g) T (P - q) q S ∧ M4.1 169 (256 * q + S) = m1F (clF g) T (P - q) q S ∧ M4.1 170 (256 * q + S) = wyF (clF g) T (P - q) q S) (e := 2 ^ T) ?_ ?_ M3 ⟨k3, o3, m3, fun S h => by omega⟩
          · intro M4 b4
            have g4 := r160 b4.2.1 (by decide) hg
            refine sgM_laysMatching_137 (br_t ?_ (ih (by omega) M4 b4.1 b4.2.1 ?_))
            · rw [g4, h2, shl_k T h8, nI_leP (by omega) (by omega)]; exact Nat.le_refl _
            · intro p S z1 z2 z3
              by_cases e : p = q
              · subst e; exact b4.2.2.2 S z3
              · exact b4.2.2.1 p S (by omega) z2 z3
          · intro S M4 hS b4 hk4
            have g4 := r160 b4.2.1 (by decide) hg
            refine sgM_laysMatching_137 (br_f (by rw [g4, h2, shl_k T h8, nI_leP (by omega) (by omega)]; omega) (sp_laysGiven (by omega) g4 h2 b4.1 h8 h6 (by omega) hS b4.2.2.1 ?_))
            rw [nI_1]
            have o5 : off [168, 169, 170] M4 (pm_si (pm_si (pm_si M4 168 (256 * q + S) (smF (clF g) T (P - q) q S)) 169 (256 * q + S) (m1F (clF g) T (P - q) q S)) 170 (256 * q + S) (wyF (clF g) T (P - q) q S)) := off_si (off_si (off_si off_rf (by decide)) (by decide)) (by decide)
            refine hk4 _ ⟨KM_off o5 (by decide) b4.1, off_tr b4.2.1 (off_mo o5 (by decide)), ?_, ?_⟩
            · intro p S' z1 z2 z3
              have := b4.2.2.1 p S' z1 z2 z3
              rw [si_ne (by decide), si_ne (by decide), si_eq, si_ne (by decide), si_eq, si_ne (by decide), si_eq, si_ne (by decide), si_ne (by decide), row_ne (by omega), row_ne (by omega), row_ne (by omega)]
              exact this
            · intro S' hS'
              rw [si_ne (by decide), si_ne (by decide), si_eq, si_ne (by decide), si_eq, si_ne (by decide), si_eq, si_ne (by decide), si_ne (by decide)]
              by_cases e : S' = S
              · subst e
                rw [row_eq, row_eq, row_eq]
                exact ⟨rfl, rfl, rfl⟩
              · rw [row_ne (by omega), row_ne (by omega), row_ne (by omega)]
                exact b4.2.2.2 S' (by omega)
      exact down P (Nat.le_refl _) M2 b.1 b.2.1 base
    · intro S M2 hS b hk
      have g2 := r160 b.2.1 (by decide) hg
      refine sgM_laysMatching_55 (br_f (by rw [lI 256, nI_leP (by omega) (by omega)]; omega) ?_)
      rw [g2, h3, lI 256, pk_mul, nI_add, nI_clamp (by omega), nI_1]
      have o5 : off [168, 169, 170] M2 (pm_si (pm_si (pm_si M2 168 (256 * P + S) 0) 169 (256 * P + S) 0) 170 (256 * P + S) 1) := off_si (off_si (off_si off_rf (by decide)) (by decide)) (by decide)
      refine ⟨vpI (by omega) (by omega), vpI (by omega) (by omega), vpI (by omega) (by omega), hk _ ⟨KM_off o5 (by decide) b.1, off_tr b.2.1 (off_mo o5 (by decide)), ?_⟩⟩
      intro S' hS'
      rw [si_ne (by decide), si_ne (by decide), si_eq, si_ne (by decide), si_eq, si_ne (by decide), si_eq, si_ne (by decide), si_ne (by decide)]
      by_cases e : S' = S
      · subst e
        rw [row_eq, row_eq, row_eq]
        exact ⟨rfl, rfl, rfl⟩
      · rw [row_ne (by omega), row_ne (by omega), row_ne (by omega)]
        exact b.2.2 S' (by omega)
  · intro p M1 hp h hk
    have g1 := r160 h.2 (by decide) hg
    refine sgM_laysMatching_2 (br_f (by rw [g1, h3, nI_leP (by omega) (by omega)]; omega) ?_)
    refine loop_up (L := fun i M2 => wM_laysMatching d 14 [.ref 159, .int (nI p), .int (nI i)] [] s M2 Q) (I := fun i M2 => KM M2 (clF g) T p ∧ off [164, 165, 168, 169, 170, 171] M M2 ∧ ∀ t, t < i → M2.1 171 (8 * p + t) = clF g p t) (e := T) ?_ ?_ M1 ⟨h.1, h.2, fun t h => by omega⟩
    · intro M2 b
      have g2 := r160 b.2.1 (by decide) hg
      refine sgM_laysMatching_14 (br_t (by rw [g2, h2, nI_leP (by omega) (by omega)]; exact Nat.le_refl _) ?_)
      rw [nI_1]
      refine hk M2 ⟨fun p' t z1 z2 => ?_, b.2.1⟩
      by_cases e : p' = p
      · subst e; exact b.2.2 t z2
      · exact b.1 p' t (by omega) z2
    · intro t M2 ht b hk2
      have g2 := r160 b.2.1 (by decide) hg
      refine sgM_laysMatching_14 (br_f (by rw [g2, h2, nI_leP (by omega) (by omega)]; omega) (sp_claimsOf (g := g) (by omega) g2 hok (by omega) (by omega) (fun M3 o3 => ?_)))
      rw [lI 8, pk_mul, nI_add, nI_clamp (by omega), nI_1]
      have e3 : M3.1 171 = M2.1 171 := (o3 171 (by decide)).1
      refine ⟨vpI (by omega) (by omega), hk2 _ ⟨fun p' t' z1 z2 => ?_, off_si (off_tr b.2.1 (off_mo o3 (by decide))) (by decide), fun t' z => ?_⟩⟩
      · rw [si_eq, row_ne (by omega), e3]; exact b.1 p' t' z1 z2
      · rw [si_eq, e3]
        by_cases e : t' = t
        · subst e; rw [row_eq]; rfl
        · rw [row_ne (by omega)]; exact b.2.2 t' (by omega)
