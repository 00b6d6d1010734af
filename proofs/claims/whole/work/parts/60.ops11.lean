def sameL (L : Nat) (r : Int64) : Int64 → pm_S → pm_M → Prop := fun r' s M => r = r' ∧ Inv L s M
def cutF (q : Int32) (v : Int64) : Int64 := if q = 0 then (((v.toInt32).toInt8.toInt32).toInt64) else (if q = 1 then (((v.toInt32).toInt16.toInt32).toInt64) else (if q = 2 then ((v.toInt32).toInt64) else v))
theorem sp_ycut {d : Nat} {s : pm_S} {M : pm_M} {o : Nat} {v : Int64} {Q : Int64 → pm_S → pm_M → Prop} (hd : 1 ≤ d) (ho : isY o) (hq : Q (cutF (M.1 o 1) v) s M) : cL d yY_cut [.ref o, .long v] s M Q := by
  obtain ⟨d, rfl⟩ : ∃ e, d = e + 1 := ⟨d - 1, by omega⟩
  unfold cutF at hq
  refine enY_cut ho (br_c (fun c => ?_) (fun c => br_c (fun c2 => ?_) (fun c2 => br_c (fun c3 => ?_) (fun c3 => ?_))))
  · rw [if_pos c] at hq; exact hq
  · rw [if_neg c, if_pos c2] at hq; exact hq
  · rw [if_neg c, if_neg c2, if_pos c3] at hq; exact hq
  · rw [if_neg c, if_neg c2, if_neg c3] at hq; exact hq
theorem sp_put {d : Nat} {s : pm_S} {M : pm_M} {o n k : Nat} {f : Nat → Int64} {v : Int64} {Q : Int64 → pm_S → pm_M → Prop} (hd : 2 ≤ d) (ho : isY o) (hr : YR M o n f) (hk : k < n) (hq : Q (cutF (M.1 o 1) v) s (pm_sj M (o + 1) k (cutF (M.1 o 1) v))) : cL d yY_put [.ref o, .int (nI k), .long v] s M Q := by
  obtain ⟨d, rfl⟩ : ∃ e, d = e + 1 := ⟨d - 1, by omega⟩
  have h40 := hr.2.1
  refine enY_put ho (sp_hasPlace (by omega) ho hr (fun _ => br_f (by decide) (sp_ycut (by omega) ho ?_)) (fun h => absurd ⟨k, hk, rfl⟩ h))
  rw [nI_clamp (by omega), sj_eq, row_eq]
  exact ⟨vpI (by omega) (by omega), vpI (by omega) (by omega), hq⟩
theorem sp_mcut {d : Nat} {s : pm_S} {M : pm_M} {q : Int32} {v : Int64} {Q : Int64 → pm_S → pm_M → Prop} (hd : 1 ≤ d) (hq : Q (cutF q v) s M) : cL d yM_cut [.long v, .int q] s M Q := by
  obtain ⟨d, rfl⟩ : ∃ e, d = e + 1 := ⟨d - 1, by omega⟩
  exact enM_cut hq
/-- a number written on both sides -/
theorem iTray_put {M M' : pm_M} {r k : Nat} {z : Int64} (hT : iTray M) (hr : r < 4) (hk : k < 40) (h1 : ∀ c, (117 ≤ c ∧ c ≤ 124) ∨ c = 182 ∨ c = 183 → M'.1 c = M.1 c) (h2 : M'.2 (117 + 2 * r + 1) = pm_row (M.2 (117 + 2 * r + 1)) k z) (h3 : M'.2 184 = pm_row (M.2 184) (40 * r + k) z) (h4 : ∀ r', r' < 4 → r' ≠ r → M'.2 (117 + 2 * r' + 1) = M.2 (117 + 2 * r' + 1)) : iTray M' := by
  intro r' hr'
  rw [h1 182 (by omega), h1 183 (by omega), h1 (117 + 2 * r') (by omega)]
  rcases hT r' hr' with q | ⟨n, q, q1, q2, q3, q4, q5, q6, q7⟩
  · exact Or.inl q
  · refine Or.inr ⟨n, q, q1, q2, q3, q4, by rw [h1 (117 + 2 * r') (by omega)]; exact q5, q6, fun j hj => ?_⟩
    show M'.2 (117 + 2 * r' + 1) j = M'.2 184 (40 * r' + j)
    rw [h3]
    by_cases e : r' = r
    · subst e
      rw [h2]
      by_cases e2 : j = k
      · subst e2; rw [row_eq, row_eq]
      · rw [row_ne e2, row_ne (by omega)]; exact q7 j hj
    · rw [h4 r' hr' e, row_ne (by omega)]; exact q7 j hj
theorem op_write {L d : Nat} {s : pm_S} {M : pm_M} {v u : Int32} {w : Int64} (hd : 12 ≤ d) (hI : Inv L s M) : cL d yG_write [.ref 0, .int v, .int u, .long w] s M (fun r s1 M1 => cL d yM_write [.ref 159, .int v, .int u, .long w] s1 M1 (sameL L r)) := by
  obtain ⟨d, rfl⟩ : ∃ e, d = e + 1 := ⟨d - 1, by omega⟩
  obtain ⟨g, N, T, P, x, n, hc⟩ := Inv_ctx hI
  have rd := ctx_read hc
  obtain ⟨t1, hT, t3⟩ := hc.2.1
  obtain ⟨d, rfl⟩ : ∃ e, d = e + 1 := ⟨d - 1, by omega⟩
  refine enG_write (enG_trayCode (sp_hasTray (by omega) (fun hv => br_f (by decide) ?_) (fun hv => br_t rfl (br_f (by decide) ?_))))
  · obtain ⟨r, hr, rfl⟩ := hv
    refine ⟨vpI (by omega) (by omega), fun o eo ho => ?_⟩
    rw [nI_clamp (by omega)] at eo
    subst eo
    refine sp_isMissing (by omega) hr hT (fun m1 => br_f (by decide) ?_) (fun m q q1 q2 q3 q4 q5 => br_t rfl ⟨vpI (by omega) (by omega), fun o eo ho => ?_⟩)
    · refine enM_write (sp_noTray (by omega) (iTray_159 hT) (fun h => absurd ⟨r, hr, rfl⟩ h) (fun _ _ _ _ => br_f (by decide) ⟨rfl, rd⟩) (fun r' m q hr' e q1 q2 => ?_))
      rw [nI_inj (by omega) (by omega)] at e
      subst e
      rw [si_ne (by decide), m1] at q2
      exact absurd q2.symm (by rw [m1_ne (by omega)]; exact id)
    · rw [nI_clamp (by omega)] at eo
      subst eo
      have h40 := q5.2.1
      have ref : ∀ (Mx : pm_M) (ans : Int64), iTray Mx → Mx.1 182 r = nI q → Mx.1 183 r = nI m → (¬ inI u m → sameL L ans (-7) s (pm_si Mx 159 0 0)) → (∀ k, k < m → u = nI k → sameL L ans (cutF (nI q) w) s (pm_sj (pm_si Mx 159 0 0) 184 (40 * r + k) (cutF (nI q) w))) → cL (d + 1 + 1) yM_write [.ref 159, .int (nI r), .int u, .long w] s Mx (sameL L ans) := by
        intro Mx ans hTx x182 x183 k0 k1
        refine enM_write (sp_noTray (by omega) (iTray_159 hTx) (fun h => absurd ⟨r, hr, rfl⟩ h) (fun r' hr' e z => ?_) (fun r' m' q' hr' e _ _ z3 z4 => br_t rfl ?_))
        · rw [nI_inj (by omega) (by omega)] at e
          subst e
          rw [si_ne (by decide), x182] at z
          exact absurd z (by rw [m1_ne (by omega)]; exact id)
        rw [nI_clamp (by omega), si_ne (by decide), x183]
        refine ⟨vpI (by omega) (by omega), sp_within2 (by omega) (fun h => br_f (by decide) ⟨vpI (by omega) (by omega), ?_⟩) (fun h => br_t rfl (k0 (fun z => h ((inN_iff (by omega)).mpr ((inN_i (by omega)).mpr z)))))⟩
        obtain ⟨k, hk, rfl⟩ := (inN_i (by omega)).mp ((inN_iff (by omega)).mp h)
        rw [si_ne (by decide), x182]
        refine sp_mcut (by omega) ?_
        rw [lI 40, pk_mul, nI_add, nI_clamp (by omega), sj_eq, row_eq]
        exact ⟨vpI (by omega) (by omega), vpI (by omega) (by omega), k1 k hk rfl⟩
      refine sp_hasPlace (by omega) ho q5 (fun h => br_f (by decide) ⟨vpI (by omega) (by omega), fun o eo ho => ?_⟩) (fun h => br_t rfl ?_)
      · rw [nI_clamp (by omega)] at eo
        subst eo
        obtain ⟨k, hk, rfl⟩ := h
        refine sp_put (by omega) ho q5 hk ?_
        rw [q3]
        refine enM_write ?_
        rw [nI_clamp (by omega)]
        refine enM_noTray ?_
        rw [lL 0, lL 3]
        refine sp_within2 (by omega) (fun _ => ⟨fun _ => vpI (by omega) (by omega), ?_⟩) (fun z => absurd ((wi_inI (by omega)).mpr ⟨r, hr, rfl⟩) z)
        rw [if_neg (by decide), nI_clamp (by omega), si_ne (by decide), si_ne (by decide), sj_1, q2, q4, if_neg (by rw [m1_ne (by omega)]; exact id)]
        refine br_t rfl ⟨vpI (by omega) (by omega), sp_within2 (by omega) (fun h => br_f (by decide) ⟨vpI (by omega) (by omega), ?_⟩) (fun h => absurd ((inN_iff (by omega)).mpr ((inN_i (by omega)).mpr ⟨k, hk, rfl⟩)) h)⟩
        rw [si_ne (by decide), sj_1, q2]
        refine sp_mcut (by omega) ?_
        rw [lI 40, pk_mul, nI_add, nI_clamp (by omega), sj_eq, row_eq]
        refine ⟨vpI (by omega) (by omega), vpI (by omega) (by omega), rfl, ?_⟩
        have f1 : ∀ c, c ≠ 159 → (pm_sj (pm_si (pm_sj M (117 + 2 * r + 1) k (cutF (nI q) w)) 159 0 0) 184 (40 * r + k) (cutF (nI q) w)).1 c = M.1 c := by
          intro c z
          rw [sj_1, si_ne z, sj_1]
        have f159 : ∀ j, j ≠ 0 → (pm_sj (pm_si (pm_sj M (117 + 2 * r + 1) k (cutF (nI q) w)) 159 0 0) 184 (40 * r + k) (cutF (nI q) w)).1 159 j = M.1 159 j := by
          intro j z
          rw [sj_1, si_eq, row_ne z, sj_1]
        refine Inv_rest hI (fun c hc => f1 c (by omega)) ⟨iTape_cells (fun c hc => f1 c (by omega)) (f159 5 (by omega)) (f159 13 (by omega)) (f159 14 (by omega)) t1, ?_, iImg_cells (fun c hc => f1 c (by omega)) t3⟩
        refine iTray_put (k := k) (z := cutF (nI q) w) hT hr (by omega) (fun c hc => f1 c (by omega)) ?_ ?_ (fun r' hr' hne => ?_)
        · rw [sj_ne (by omega), si_2, sj_eq]
        · rw [sj_eq, si_2, sj_ne (by omega)]
        · rw [sj_ne (by omega), si_2, sj_ne (by omega)]
      · exact ref M _ hT q2 q4 (fun _ => ⟨rfl, rd⟩) (fun k hk e => absurd ⟨k, hk, e⟩ h)
  · exact enM_write (sp_noTray (by omega) (iTray_159 hT) (fun _ => br_f (by decide) ⟨rfl, rd⟩) (fun r hr e => absurd ⟨r, hr, e⟩ hv) (fun r m q hr e => absurd ⟨r, hr, e⟩ hv))
