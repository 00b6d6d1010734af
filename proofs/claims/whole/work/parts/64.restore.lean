theorem op_restore {L d : Nat} {s : pm_S} {M : pm_M} {v : Int32} (hd : 12 ≤ d) (hI : Inv L s M) : cI d yG_restore [.ref 0, .int v] s M (fun r s1 M1 => cI d yM_restore [.ref 159, .int v] s1 M1 (same L r)) := by
  obtain ⟨d, rfl⟩ : ∃ e, d = e + 1 := ⟨d - 1, by omega⟩
  obtain ⟨g, N, T, P, x, n, hc⟩ := Inv_ctx hI
  have rd := ctx_read hc
  obtain ⟨a1, ⟨t1, t2, m, m1, m2, m3⟩, a3, a4, a5, a6, a7, a8, a9, a10, a11, a12, a13⟩ := hc
  have no : ¬ inI v 2 → cI (d + 1) yM_restore [.ref 159, .int v] s M (same L (-2)) := by
    intro h
    refine enM_restore ?_
    rw [lL 0, lL 1]
    exact sp_within2 (by omega) (fun h2 => absurd ((wi_inI (by omega)).mp h2) h) (fun _ => br_t rfl ⟨rfl, rd⟩)
  refine enG_restore (br_c (fun c => no (fun q => ?_)) (fun c1 => br_c (fun c2 => ?_) (fun c2 => no (fun q => ?_))))
  · rw [inI_iff (by omega)] at q; exact q.1 c
  rotate_left
  · obtain ⟨k, hk, rfl⟩ := q
    exact c2 (by rw [lI 2, nI_ltP (by omega) (by omega)]; omega)
  obtain ⟨i, _, rfl⟩ := nI_of c1
  have hi : i < 2 := by rwa [lI 2, nI_ltP (by omega) (by omega)] at c2
  rw [m2, bit_get m m1 i hi]
  rcases m3 i hi with ⟨q1, q2⟩ | ⟨q1, q2, N', T', P', i1, i2, i3, i4, i5⟩
  · rw [q1]
    refine br_t rfl (enM_restore ?_)
    rw [lL 0, lL 1]
    refine sp_within2 (by omega) (fun _ => br_f (by decide) ⟨vpI (by omega) (by omega), br_t ?_ ⟨rfl, rd⟩⟩) (fun h => absurd ((wi_inI (by omega)).mpr ⟨i, hi, rfl⟩) h)
    rw [si_ne (by decide), nI_clamp (by omega)]; exact q2
  rw [q1]
  have h8 : T' ≤ 8 := i1.2.2.2.2.2.1
  have h6 : P' ≤ 6 := i1.2.2.2.2.2.2.1
  refine br_f (by decide) ⟨vpI (by omega) (by omega), fun o eo ho => ?_⟩
  rw [nI_clamp (by omega)] at eo
  subst eo
  have i4' := i4
  obtain ⟨z, za, zb, y1, y2, y3, y4, y5, y6⟩ := i4
  refine sp_lbecome (by omega) isL_15 ho (by omega) y4 y1 (fun M1 b1 b2 b3 b4 b5 o1 => ⟨vpI (by omega) (by omega), fun o eo hs => ?_⟩)
  rw [nI_clamp (by omega)] at eo
  subst eo
  have k1 : ∀ c, (c < 15 ∨ 24 < c) → M1.1 c = M.1 c ∧ M1.2 c = M.2 c := fun c hc => o1 c (by simp; omega)
  have hsi : SR M1 (137 + 17 * i) (fun j => M.1 160 (1290 * (i + 1) + j)) T' P' := SR_cells i5 (fun c hc => (k1 c (by simp at hc; omega)).1)
  have lr := LR_copy (o := 15) h8 h6 i3 i4' y4 y1 b1 b2 b3 b4 b5
  refine sp_sbecome (by omega) isS_27 hs (by omega) h8 h6 hsi (fun M2 s2 o2 => ?_)
  have k2 : ∀ c, (c < 27 ∨ 31 < c) → M2.1 c = M1.1 c ∧ M2.2 c = M1.2 c := fun c hc => o2 c (by simp; omega)
  obtain ⟨d, rfl⟩ : ∃ e, d = e + 1 := ⟨d - 1, by omega⟩
  refine enG_forgetPast ?_
  have all : ∀ c, c ≠ 0 → (c < 15 ∨ 31 < c) → (pm_si (pm_si M2 0 5 0) 0 6 0).1 c = M.1 c ∧ (pm_si (pm_si M2 0 5 0) 0 6 0).2 c = M.2 c := by
    intro c h0 h1
    rw [si_ne h0, si_ne h0, si_2, si_2, (k2 c (by omega)).1, (k1 c (by omega)).1, (k2 c (by omega)).2, (k1 c (by omega)).2]
    exact ⟨rfl, rfl⟩
  have e5 : (pm_si (pm_si M2 0 5 0) 0 6 0).1 0 5 = 0 := by rw [si_eq, row_ne (by omega), si_eq, row_eq]
  have e6 : (pm_si (pm_si M2 0 5 0) 0 6 0).1 0 6 = 0 := by rw [si_eq, row_eq]
  have e10 : (pm_si (pm_si M2 0 5 0) 0 6 0).1 0 10 = nI m := by rw [si_eq, row_ne (by omega), si_eq, row_ne (by omega), (k2 0 (by omega)).1, (k1 0 (by omega)).1, m2]
  have l15 : LR (pm_si (pm_si M2 0 5 0) 0 6 0) 15 (fun j => M.1 160 (1290 * (i + 1) + j)) T' P' := LR_cells lr.1 (fun c hc => by
    simp at hc
    rw [si_ne (by omega), si_ne (by omega), (k2 c (by omega)).1])
  have z15 : LZ (pm_si (pm_si M2 0 5 0) 0 6 0) 15 := by
    have := lr.2
    unfold LZ at this ⊢
    rw [si_ne (by omega), si_ne (by omega), (k2 (15 + 8) (by omega)).1]; exact this
  have s27 : SR (pm_si (pm_si M2 0 5 0) 0 6 0) 27 (fun j => M.1 160 (1290 * (i + 1) + j)) T' P' := SR_cells s2 (fun c hc => by
    simp at hc
    rw [si_ne (by omega), si_ne (by omega)])
  generalize pm_si (pm_si M2 0 5 0) 0 6 0 = M3 at all e5 e6 e10 l15 z15 s27
  rw [a3] at l15 s27 i1 i2
  have g3 : M3.1 160 = g := ((all 160 (by omega) (by omega)).1).trans a3
  refine enM_restore ?_
  rw [lL 0, lL 1]
  refine sp_within2 (by omega) (fun _ => br_f (by decide) ⟨vpI (by omega) (by omega), br_f ?_ ?_⟩) (fun h => absurd ((wi_inI (by omega)).mpr ⟨i, hi, rfl⟩) h)
  · rw [si_ne (by decide), nI_clamp (by omega), (all 161 (by omega) (by omega)).1, q2]; decide
  refine loop_up (L := fun j Mx => wM_restore (d + 1) 32 [.ref 159, .int (nI i), .int (nI j)] [] s Mx (same L 0)) (I := fun j Mx => Mx.1 160 = putR g 0 j (fun j => g (1290 * (i + 1) + j)) ∧ off [159, 160] M3 Mx ∧ ∀ k, k ≠ 0 → Mx.1 159 k = M3.1 159 k) (e := 1290) ?_ ?_ _ ⟨by rw [si_ne (by decide), g3, putR_0], off_si off_rf (by decide), fun k hk => by rw [si_eq, row_ne hk]⟩
  · intro M4 h4
    obtain ⟨g4, o4, f4⟩ := h4
    refine sgM_restore_32 (br_t (by decide) ⟨rfl, ?_⟩)
    have g5 : (pm_si M4 160 78 0).1 160 = pm_row (putR g 0 1290 (fun j => g (1290 * (i + 1) + j))) 78 0 := by rw [si_eq, g4]
    have c3 : ∀ c, c ≠ 159 → c ≠ 160 → (pm_si M4 160 78 0).1 c = M3.1 c ∧ (pm_si M4 160 78 0).2 c = M3.2 c := by
      intro c h1 h2
      rw [si_ne h2, si_2]
      exact o4 c (by simp; omega)
    have e59 : ∀ k, k ≠ 0 → (pm_si M4 160 78 0).1 159 k = M.1 159 k := by
      intro k hk
      rw [si_ne (by decide), f4 k hk, (all 159 (by omega) (by omega)).1]
    generalize pm_si M4 160 78 0 = M5 at g5 c3 e59
    have cl : ∀ c, c ≠ 0 → c ≠ 159 → c ≠ 160 → (c < 15 ∨ 31 < c) → M5.1 c = M.1 c ∧ M5.2 c = M.2 c := by
      intro c h0 h1 h2 h3
      have q1 := c3 c h1 h2
      have q2 := all c h0 h3
      exact ⟨q1.1.trans q2.1, q1.2.trans q2.2⟩
    have low : ∀ j, j < 1290 → j ≠ 78 → M5.1 160 j = g (1290 * (i + 1) + j) := by
      intro j h1 h2
      rw [g5, row_ne h2, putR_in (by omega) (by omega), Nat.sub_zero]
    have hM : eqM (fun j => g (1290 * (i + 1) + j)) (M5.1 160) := fun j h1 h2 => low j h1 (by omega)
    refine ⟨a1, ⟨iTape_cells (fun c hc => (cl c (by omega) (by omega) (by omega) (by omega)).1) (e59 5 (by omega)) (e59 13 (by omega)) (e59 14 (by omega)) t1, fun r hr => ?_, m, m1, by rw [(c3 0 (by omega) (by omega)).1]; exact e10, fun j hj => ?_⟩, N', T', P', ⟨?_, Vd_M hM i1⟩, ?_, ?_, ?_, 0, 0, by omega, by omega, ?_, ?_, ?_, fun k hk => by omega⟩
    · have := t2 r hr
      unfold YR at this ⊢
      rw [(cl 182 (by omega) (by omega) (by omega) (by omega)).1, (cl 183 (by omega) (by omega) (by omega) (by omega)).1, (cl 184 (by omega) (by omega) (by omega) (by omega)).2, (cl (117 + 2 * r) (by omega) (by omega) (by omega) (by omega)).1, (cl (117 + 2 * r + 1) (by omega) (by omega) (by omega) (by omega)).2]
      exact this
    · rw [(cl 161 (by omega) (by omega) (by omega) (by omega)).1]
      rcases m3 j hj with q | ⟨q1, q2, q3⟩
      · exact Or.inl q
      · refine Or.inr ⟨q1, q2, img_M (h := fun k => M.1 160 (1290 * (j + 1) + k)) (fun k hk => ?_) (img_cells hj (fun c h1 h2 => (cl c (by omega) (by omega) (by omega) (by omega)).1) q3)⟩
        show M5.1 160 (1290 * (j + 1) + k) = M.1 160 (1290 * (j + 1) + k)
        rw [g5, row_ne (by omega), putR_out (by omega), a3]
    · exact LR_M hM i1 (LR_cells l15 (fun c hc => (c3 c (by simp at hc; omega) (by simp at hc; omega)).1))
    · unfold LZ at z15 ⊢
      rw [(c3 (15 + 8) (by omega) (by omega)).1]; exact z15
    · exact Vs_congr ⟨h8, h6⟩ i2 (fun j _ h => low j (by omega) (by omega))
    · exact SR_congr (SR_cells s27 (fun c hc => (c3 c (by simp at hc; omega) (by simp at hc; omega)).1)) h8 h6 (fun j _ h => low j (by omega) (by omega))
    · rw [g5, row_eq]; rfl
    · rw [(c3 0 (by omega) (by omega)).1]; exact e5
    · rw [(c3 0 (by omega) (by omega)).1]; exact e6
  · intro j M4 hj h4 hk
    obtain ⟨g4, o4, f4⟩ := h4
    refine sgM_restore_32 (br_f (by rw [lI 1290, nI_leP (by omega) (by omega)]; omega) ?_)
    rw [nI_1, lI 1290, pk_mul, nI_add, nI_clamp (by omega), nI_clamp (by omega), nI_1]
    refine ⟨vpI (by omega) (by omega), vpI (by omega) (by omega), hk _ ⟨?_, off_si o4 (by decide), fun k hk => by rw [si_ne (by decide)]; exact f4 k hk⟩⟩
    rw [si_eq, g4, putR_out (by omega), ← putR_s, Nat.zero_add]
