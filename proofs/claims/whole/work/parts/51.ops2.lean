/-- both answer the same, and what holds between two calls holds again -/
def same (L : Nat) (r : Int32) : Int32 → pm_S → pm_M → Prop := fun r' s M => r = r' ∧ Inv L s M
theorem r160 {S : List Nat} {M M' : pm_M} {g : Nat → Int32} (h : off S M M') (hS : 160 ∉ S) (hg : M.1 160 = g) : M'.1 160 = g := (h 160 hS).1.trans hg
theorem Cm_160 {M0 M1 : pm_M} {g g' h : Nat → Int32} {T P x n : Nat} (hx : x < 10) (hC : Cm M0 M1 g g' T P x n) (hg : M0.1 160 = h) : M1.1 160 = h := by
  refine (hC.2.2.2.2.2 160 (fun z => ?_)).1.trans hg
  rw [CX_in] at z
  omega
theorem b32 {M M' : pm_M} (h : off [32, 32 + 1, 32 + 2, 32 + 3, 32 + 4] M M') : off C32 M M' := off_mo h (by decide)
theorem op_seed {L d : Nat} {s : pm_S} {M : pm_M} {v : Int32} (hd : 12 ≤ d) (hI : Inv L s M) : cI d yG_seed [.ref 0, .int v] s M (fun r s1 M1 => cI d yM_seed [.ref 159, .int v] s1 M1 (same L r)) := by
  obtain ⟨d, rfl⟩ : ∃ e, d = e + 1 := ⟨d - 1, by omega⟩
  obtain ⟨g, N, T, P, x, n, hc⟩ := Inv_ctx hI
  have hc' := hc
  obtain ⟨a1, a2, a3, a4, a5, a6, a7, a8, a9, a10, a11, a12, a13⟩ := hc
  have h8 : T ≤ 8 := a4.2.2.2.2.2.2.1
  have h6 : P ≤ 6 := a4.2.2.2.2.2.2.2.1
  refine enG_seed (sp_remember (by omega) h8 h6 a7 a6 a12 a13 a10 (fun M1 s1 f5 f6 f10 o1 => ?_))
  have e27 : M.1 27 6 = g 49 := a10.2.2.1
  have hs27 : SR M1 27 g T P := SR_off o1 a10 (by
    intro c hc q
    unfold CX at q
    simp at hc q
    omega)
  have hC : Cm M (pm_si M1 27 6 v) g (pm_row g 49 v) T P x n := by
    refine ⟨SR_own (k := 6) hs27 h8 h6 (by omega) (by omega), SR_cells s1 (fun c hc => si_ne (by simp at hc; omega)), ?_, ?_, ?_, off_si (off_mo o1 (fun c hc => List.mem_append_left _ hc)) ?_⟩
    · rw [si_ne (by omega)]; exact f5
    · rw [si_ne (by omega)]; exact f6
    · rw [si_ne (by omega)]; exact f10
    · rw [CX_in]; omega
  have g1 := Cm_160 a7 hC a3
  generalize pm_si M1 27 6 v = M2 at hC g1
  refine enM_seed (ref_keep (g := g) (by omega) (by rw [si_ne (by decide)]; exact g1) (fun M3 g3 w3 f3 => ?_))
  refine ref_notes (g := g) (g' := pm_row g 49 v) (by omega) (by rw [si_eq, g3]) (by rw [row_ne (by omega)]; exact a11) a6 (fun j hj => by rw [si_ne (by decide)]; exact w3 j hj) (fun M4 w g4 w4 e4 f4 => ⟨?_, ?_⟩)
  · rw [e27, e4, si_ne (by decide), w3 2 (by omega)]
  · refine ctx_commit hc' hC (Rf_tr (Rf_159 (k := 0) (v := 0) (by omega)) (Rf_tr f3 (Rf_tr (Rf_off (off_si off_rf (by decide : 160 ∈ [160])) (by decide)) f4))) g4 w4 (eqL_row eqL_rf (by omega) (by omega)) (Vs_out a4.2 a9 (by omega))
theorem op_leave {L d : Nat} {s : pm_S} {M : pm_M} {v : Int32} (hd : 12 ≤ d) (hI : Inv L s M) : cI d yG_leave [.ref 0, .int v] s M (fun r s1 M1 => cI d yM_leave [.ref 159, .int v] s1 M1 (same L r)) := by
  obtain ⟨d, rfl⟩ : ∃ e, d = e + 1 := ⟨d - 1, by omega⟩
  obtain ⟨g, N, T, P, x, n, hc⟩ := Inv_ctx hI
  have hc' := hc
  obtain ⟨a1, a2, a3, a4, a5, a6, a7, a8, a9, a10, a11, a12, a13⟩ := hc
  have h8 : T ≤ 8 := a4.2.2.2.2.2.2.1
  have h6 : P ≤ 6 := a4.2.2.2.2.2.2.2.1
  have main : ∀ r1 : Int32, (∀ p, p < P → v = nI p → r1 = oI (heldF g T p)) → cV d yS_become [.ref 32, .ref 27] s M (fun s2 M2 => cI d yS_tryLeave [.ref 32, .ref 15, .int v] s2 M2 (fun r2 s3 M3 => (((r2 = 0) → cI d yG_agreed [.ref 0, .int r1] s3 M3 (fun r3 s4 M4 => cI (d + 1) yM_leave [.ref 159, .int v] s4 M4 (same L r3))) ∧ (¬ (r2 = 0) → cI (d + 1) yM_leave [.ref 159, .int v] s3 M3 (same L (((-10)) - r2)))))) := by
    intro r1 hr1
    refine sp_sbecome (by omega) isS_32 isS_27 (by omega) h8 h6 a10 (fun M1 s1 o1 => ?_)
    have o1' := b32 o1
    refine sp_tryLeave (by omega) (LV_off o1' a4) s1 (fun M2 s2 o2 => ?_)
    have o2' := off_tr o1' o2
    refine br_c (fun c => ?_) (fun c => ?_)
    · rw [if_pos c] at s2
      cases hx : ixN v.toInt64 P with
      | none => rw [hx] at c; exact absurd c n10
      | some p =>
        have hp := ixN_lt hx
        have ev : v = nI p := by
          have q := ixN_eq hx (by omega)
          rw [← nI_l (by omega)] at q
          have := congrArg Int64.toInt32 q
          simpa using this
        subst ev
        have w0 := c
        rw [nI_l (by omega)] at w0
        obtain ⟨_, t, ht⟩ := whyHold_0 (by omega) w0
        rw [nI_clamp (by omega)] at s2
        have hs27 : SR M2 27 g T P := SR_off o2' a10 (by decide)
        have e0 := (o2' 0 (by decide)).1
        refine sp_agreed (by omega) h8 h6 a7 a6 (by rw [e0]; exact a12) (by rw [e0]; exact a13) hs27 s2 (fun M3 hC3 => ?_)
        have hC := Cm_pre o2' hC3
        have g3 := Cm_160 a7 hC a3
        rw [hr1 p hp rfl, ht]
        refine enM_leave (sp_whyHolds (by omega) (by rw [si_ne (by decide)]; exact g3) a4.2 (br_t c ?_))
        refine ref_keep (g := g) (by omega) (by rw [si_ne (by decide)]; exact g3) (fun M4 g4 w4 f4 => ?_)
        refine sp_leaves (by omega) g4 a4.2 hp ht (fun M5 g5 o5 => ?_)
        have f5 := Rf_off o5 (by decide)
        have w := Vs_leave a4.2 a9 hp ht
        have he : eqL g (leaveF g T p) := by
          have := (heldF_lt ht).1
          unfold leaveF; rw [ht]
          exact eqL_row eqL_rf (by omega) (by omega)
        refine ref_notes (g := g) (by omega) g5 (by rw [he 78 (by omega)]; exact a11) a6 (fun j hj => by rw [(o5 166 (by decide)).1]; exact w4 j hj) (fun M6 w6 g6 e6 _ f6 => ⟨rfl, ?_⟩)
        exact ctx_commit hc' hC (Rf_tr (Rf_159 (k := 0) (v := 0) (by omega)) (Rf_tr f4 (Rf_tr f5 f6))) g6 e6 he w
    · have g2 := r160 o2' (by decide) a3
      refine enM_leave (sp_whyHolds (by omega) (by rw [si_ne (by decide)]; exact g2) a4.2 (br_f c ⟨rfl, ?_⟩))
      exact ctx_same hc' o2' (Rf_159 (by omega)) (by rw [si_ne (by decide)]; exact g2)
  refine enG_leave (sp_heldX (by omega) isS_27 a10 h8 (fun h => main _ (fun p hp e => ?_)) (fun h => main _ (fun p hp e => absurd ⟨p, by omega, e⟩ h)))
  rw [e, nI_clamp (by omega)]
