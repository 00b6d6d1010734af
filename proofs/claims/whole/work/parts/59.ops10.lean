theorem shY {s : pm_S} {r : Nat} (hr : r < 4) : 117 + 2 * r + 1 < 185 ∧ (EE s).2.2.1 (117 + 2 * r + 1) = (1, 40) := by
  refine ⟨by omega, ?_⟩
  have : r = 0 ∨ r = 1 ∨ r = 2 ∨ r = 3 := by omega
  rcases this with rfl | rfl | rfl | rfl <;> rfl
theorem sp_fillJ {d : Nat} {s : pm_S} {M : pm_M} {a n : Nat} {x : Int64} {Q : pm_S → pm_M → Prop} (hd : 1 ≤ d) (ha : a < 185 ∧ (EE s).2.2.1 a = (1, n)) (hn : n < 2 ^ 30) (hq : ∀ M', (∀ j, j < n → M'.2 a j = x) → M'.1 = M.1 → (∀ c, c ≠ a → M'.2 c = M.2 c) → Q s M') : cV d yarr_fill_JJ [.ref a, .long x] s M Q := by
  obtain ⟨d, rfl⟩ : ∃ e, d = e + 1 := ⟨d - 1, by omega⟩
  refine enarr_fill_JJ ha ?_
  refine loop_up (L := fun i M1 => warr_fill_JJ d 6 [.ref a, .long x, .null, .int (nI i), .int (nI n)] [] s M1 Q) (I := fun i M1 => (∀ j, j < i → M1.2 a j = x) ∧ M1.1 = M.1 ∧ ∀ c, c ≠ a → M1.2 c = M.2 c) (e := n) ?_ ?_ M ⟨fun j h => by omega, rfl, fun _ _ => rfl⟩
  · intro M1 h
    refine sgarr_fill_JJ_6 ha (br_t ?_ (hq M1 h.1 h.2.1 h.2.2))
    rw [nI_leP (by omega) (by omega)]; exact Nat.le_refl _
  · intro i M1 hi h hk
    refine sgarr_fill_JJ_6 ha (br_f (by rw [nI_leP (by omega) (by omega)]; omega) ?_)
    rw [nI_clamp (by omega), nI_1]
    refine ⟨vpI (by omega) (by omega), hk _ ⟨fun j hj => ?_, by rw [sj_1]; exact h.2.1, fun c hc => by rw [sj_ne hc]; exact h.2.2 c hc⟩⟩
    rw [sj_eq]
    by_cases e : j = i
    · subst e; rw [row_eq]
    · rw [row_ne e]; exact h.1 j (by omega)
theorem op_numbers {L d : Nat} {s : pm_S} {M : pm_M} {v u w : Int32} (hd : 12 ≤ d) (hI : Inv L s M) : cI d yG_numbers [.ref 0, .int v, .int u, .int w] s M (fun r s1 M1 => cI d yM_numbers [.ref 159, .int v, .int u, .int w] s1 M1 (same L r)) := by
  obtain ⟨d, rfl⟩ : ∃ e, d = e + 1 := ⟨d - 1, by omega⟩
  obtain ⟨g, N, T, P, x, n, hc⟩ := Inv_ctx hI
  have rd := ctx_read hc
  obtain ⟨t1, t2, t3⟩ := hc.2.1
  have noV : ¬ (inI v 4 ∧ inI u 4) → cI (d + 1) yM_numbers [.ref 159, .int v, .int u, .int w] s M (same L (-2)) := by
    intro h
    refine enM_numbers ?_
    rw [lL 0, lL 3]
    refine sp_within2 (by omega) (fun h1 => br_f (by decide) ?_) (fun _ => br_t rfl ⟨rfl, rd⟩)
    exact sp_within2 (by omega) (fun h2 => absurd ⟨(wi_inI (by omega)).mp h1, (wi_inI (by omega)).mp h2⟩ h) (fun _ => br_t rfl ⟨rfl, rd⟩)
  have noW : inI v 4 → inI u 4 → ¬ inI w 41 → cI (d + 1) yM_numbers [.ref 159, .int v, .int u, .int w] s M (same L (-3)) := by
    intro hv hu h
    refine enM_numbers ?_
    rw [lL 0, lL 3, lL 40]
    refine sp_within2 (by omega) (fun _ => br_f (by decide) ?_) (fun z => absurd ((wi_inI (by omega)).mpr hv) z)
    refine sp_within2 (by omega) (fun _ => br_f (by decide) ?_) (fun z => absurd ((wi_inI (by omega)).mpr hu) z)
    exact sp_within2 (by omega) (fun z => absurd ((wi_inI (by omega)).mp z) h) (fun _ => br_t rfl ⟨rfl, rd⟩)
  refine enG_numbers (sp_hasTray (by omega) (fun hv => br_f (by decide) ?_) (fun hv => br_t rfl (noV (fun q => hv q.1))))
  refine br_c (fun c => noV (fun q => ?_)) (fun c1 => br_c (fun c2 => ?_) (fun c2 => noV (fun q => ?_)))
  · have := q.2; rw [inI_iff (by omega)] at this; exact this.1 c
  rotate_left
  · obtain ⟨k, hk, rfl⟩ := q.2
    exact c2 (by rw [lI 4, nI_ltP (by omega) (by omega)]; omega)
  have hu : inI u 4 := by
    obtain ⟨k, hk, rfl⟩ := nI_of c1
    rw [lI 4, nI_ltP (by omega) (by omega)] at c2
    exact ⟨k, c2, rfl⟩
  refine br_c (fun c => noW hv hu (fun q => ?_)) (fun c3 => br_c (fun c4 => ?_) (fun c4 => noW hv hu (fun q => ?_)))
  · rw [inI_iff (by omega)] at q; exact q.1 c
  rotate_left
  · obtain ⟨k, hk, rfl⟩ := q
    exact c4 (by rw [lI 40, nI_leP (by omega) (by omega)]; omega)
  have hw : inI w 41 := by
    obtain ⟨k, hk, rfl⟩ := nI_of c3
    rw [lI 40, nI_leP (by omega) (by omega)] at c4
    exact ⟨k, by omega, rfl⟩
  obtain ⟨r, hr, rfl⟩ := hv
  obtain ⟨q, hq, rfl⟩ := hu
  obtain ⟨m, hm, rfl⟩ := hw
  refine ⟨vpI (by omega) (by omega), fun o eo ho => ?_⟩
  rw [nI_clamp (by omega)] at eo
  subst eo
  obtain ⟨d, rfl⟩ : ∃ e, d = e + 1 := ⟨d - 1, by omega⟩
  refine enY_beginAnew ho (sp_fillJ (by omega) (shY hr) (by omega) (fun M1 j1 i1 k1 => ?_))
  refine enM_numbers ?_
  rw [lL 0, lL 3, lL 40]
  refine sp_within2 (by omega) (fun _ => br_f (by decide) ?_) (fun z => absurd ((wi_inI (by omega)).mpr ⟨r, hr, rfl⟩) z)
  refine sp_within2 (by omega) (fun _ => br_f (by decide) ?_) (fun z => absurd ((wi_inI (by omega)).mpr ⟨q, hq, rfl⟩) z)
  refine sp_within2 (by omega) (fun _ => br_f (by decide) ?_) (fun z => absurd ((wi_inI (by omega)).mpr ⟨m, hm, rfl⟩) z)
  rw [nI_clamp (by omega)]
  refine ⟨vpI (by omega) (by omega), vpI (by omega) (by omega), ?_⟩
  generalize hM2 : pm_si (pm_si (pm_si M1 159 0 0) 182 r (nI q)) 183 r (nI m) = M2
  have b1 : ∀ c, c ≠ 117 + 2 * r → c ≠ 159 → c ≠ 182 → c ≠ 183 → M2.1 c = M.1 c := by
    intro c z1 z2 z3 z4
    rw [← hM2, si_ne z4, si_ne z3, si_ne z2, i1, si_ne z1, si_ne z1]
  have b159 : ∀ k, k ≠ 0 → M2.1 159 k = M.1 159 k := by
    intro k hk
    rw [← hM2, si_ne (by decide), si_ne (by decide), si_eq, row_ne hk, i1, si_ne (by omega), si_ne (by omega)]
  have b182 : M2.1 182 = pm_row (M.1 182) r (nI q) := by
    rw [← hM2, si_ne (by decide), si_eq, si_ne (by decide), i1, si_ne (by omega), si_ne (by omega)]
  have b183 : M2.1 183 = pm_row (M.1 183) r (nI m) := by
    rw [← hM2, si_eq, si_ne (by decide), si_ne (by decide), i1, si_ne (by omega), si_ne (by omega)]
  have by1 : M2.1 (117 + 2 * r) 1 = nI q ∧ M2.1 (117 + 2 * r) 2 = nI m := by
    rw [← hM2, si_ne (by omega), si_ne (by omega), si_ne (by omega), i1, si_eq, si_eq, row_eq, row_ne (by omega), row_eq]
    exact ⟨rfl, rfl⟩
  have b2 : ∀ c, c ≠ 117 + 2 * r + 1 → M2.2 c = M.2 c := by
    intro c z
    rw [← hM2, si_2, si_2, si_2, k1 c z, si_2, si_2]
  have b2y : ∀ j, j < 40 → M2.2 (117 + 2 * r + 1) j = 0 := by
    intro j hj
    rw [← hM2, si_2, si_2, si_2]; exact j1 j hj
  refine loop_up (L := fun i Mx => wM_numbers (d + 1) 64 [.ref 159, .int (nI r), .null, .int (nI m), .int (nI i)] [] s Mx (same L 0)) (I := fun i Mx => (∀ k, k < i → Mx.2 184 (40 * r + k) = 0) ∧ (∀ j, (j < 40 * r ∨ 40 * r + 40 ≤ j) → Mx.2 184 j = M2.2 184 j) ∧ Mx.1 = M2.1 ∧ ∀ c, c ≠ 184 → Mx.2 c = M2.2 c) (e := m) ?_ ?_ M2 ⟨fun k h => by omega, fun _ _ => rfl, rfl, fun _ _ => rfl⟩
  · intro M3 h3
    obtain ⟨p1, p2, p3, p4⟩ := h3
    refine sgM_numbers_64 (br_t (by rw [nI_leP (by omega) (by omega)]; exact Nat.le_refl _) ⟨rfl, ?_⟩)
    refine Inv_rest hI (fun c hc => by rw [p3]; exact b1 c (by omega) (by omega) (by omega) (by omega)) ⟨?_, fun r' hr' => ?_, ?_⟩
    · exact iTape_cells (fun c hc => by rw [p3]; exact b1 c (by omega) (by omega) (by omega) (by omega)) (by rw [p3]; exact b159 5 (by omega)) (by rw [p3]; exact b159 13 (by omega)) (by rw [p3]; exact b159 14 (by omega)) t1
    · rw [p3, b182, b183]
      by_cases e : r' = r
      · subst e
        refine Or.inr ⟨m, q, hq, row_eq, by1.1, row_eq, by rw [p3]; exact by1.2, by omega, fun k hk => ?_⟩
        rw [p4 _ (by omega), b2y k (by omega)]
        exact (p1 k hk).symm
      · rw [row_ne e, row_ne e, b1 (117 + 2 * r') (by omega) (by omega) (by omega) (by omega)]
        rcases t2 r' hr' with z | ⟨n', q', z1, z2, z3, z4, z5, z6, z7⟩
        · exact Or.inl z
        · refine Or.inr ⟨n', q', z1, z2, z3, z4, by rw [p3, b1 (117 + 2 * r') (by omega) (by omega) (by omega) (by omega)]; exact z5, z6, fun k hk => ?_⟩
          rw [p4 _ (by omega), b2 _ (by omega), z7 k hk]
          show M.2 184 (40 * r' + k) = M3.2 184 (40 * r' + k)
          rw [p2 _ (by omega), b2 184 (by omega)]
    · exact iImg_cells (fun c hc => by rw [p3]; exact b1 c (by omega) (by omega) (by omega) (by omega)) t3
  · intro i M3 hi h3 hk
    obtain ⟨p1, p2, p3, p4⟩ := h3
    refine sgM_numbers_64 (br_f (by rw [nI_leP (by omega) (by omega)]; omega) ?_)
    rw [lI 40, pk_mul, nI_add, nI_clamp (by omega), nI_1]
    refine ⟨vpI (by omega) (by omega), hk _ ⟨fun k hk => ?_, fun j hj => ?_, by rw [sj_1]; exact p3, fun c hc => by rw [sj_ne hc]; exact p4 c hc⟩⟩
    · rw [sj_eq]
      by_cases e : k = i
      · subst e; rw [row_eq]
      · rw [row_ne (by omega)]; exact p1 k (by omega)
    · rw [sj_eq, row_ne (by omega)]; exact p2 j hj
