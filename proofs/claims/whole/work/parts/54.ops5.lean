theorem op_undo {L d : Nat} {s : pm_S} {M : pm_M} {v : Int32} (hd : 12 ≤ d) (hI : Inv L s M) : cI d yG_undo [.ref 0, .int v] s M (fun r s1 M1 => cI d yM_undo [.ref 159, .int v] s1 M1 (same L r)) := by
  obtain ⟨d, rfl⟩ : ∃ e, d = e + 1 := ⟨d - 1, by omega⟩
  obtain ⟨g, N, T, P, x, n, hc⟩ := Inv_ctx hI
  have hc' := hc
  obtain ⟨a1, a2, a3, a4, a5, a6, a7, a8, a9, a10, a11, a12, a13⟩ := hc
  have h8 : T ≤ 8 := a4.2.2.2.2.2.2.1
  have h6 : P ≤ 6 := a4.2.2.2.2.2.2.2.1
  have no : ¬ ((nI 1 ≤ v ∧ v ≤ nI 10) ∧ v ≤ nI n) → cI (d + 1) yM_undo [.ref 159, .int v] s M (same L (-3)) := by
    intro h
    have fin : same L (-3) (-3) s (pm_si M 159 0 0) := ⟨rfl, ctx_same hc' off_rf (Rf_159 (by omega)) (by rw [si_ne (by decide)]; exact a3)⟩
    refine enM_undo ?_
    rw [lL 1, lL 10]
    refine sp_within2 (by omega) (fun h2 => br_f (by decide) ?_) (fun _ => br_t rfl fin)
    rw [si_ne (by decide), a3, a11]
    exact br_f (fun q => h ⟨(wi_int (by omega) (by omega)).mp h2, q⟩) fin
  refine enG_undo (br_c (fun c1 => no (fun q => ?_)) (fun c1 => br_c (fun c2 => no (fun q => ?_)) (fun c2 => ?_)))
  · rw [l1] at c1; exact i_nlt q.1.1 c1
  · rw [lI 10] at c2; exact i_nlt q.1.2 c2
  rw [a13]
  refine br_c (fun c3 => ?_) (fun c3 => no (fun q => c3 q.2))
  have hv : nI 1 ≤ v ∧ v ≤ nI 10 := ⟨i_le c1, i_le c2⟩
  obtain ⟨k, hk, rfl⟩ := nI_of2 (M := 10) (n := 10) (by decide) (i_nlt (by have := hv.1; rw [← l1] at this; grind)) hv.2
  have k1 : 1 ≤ k := by
    have := hv.1
    rwa [nI_leP (by omega) (by omega)] at this
  have kn : k ≤ n := by rwa [nI_leP (by omega) (by omega)] at c3
  rw [a12]
  refine floorMod10 a7 k1 hk (by omega) ⟨vpI (by omega) (by omega), fun o eo ho => ?_⟩
  rw [nI_clamp (by omega)] at eo
  subst eo
  have hy : (x + 10 - n + (n - k)) % 10 = (x + 10 - k) % 10 := by congr 1; omega
  have pk := a8 (n - k) (by omega)
  rw [hy] at pk
  have sq : SR (pm_si M 0 5 (nI ((x + 10 - k) % 10))) (67 + 5 * ((x + 10 - k) % 10)) (blk g (n - k)) T P := SR_cells pk.1 (fun c hc => si_ne (by simp at hc; omega))
  refine sp_sbecome (by omega) isS_27 ho (by omega) h8 h6 sq (fun M1 s1 o1 => ?_)
  have e0 : M1.1 0 = pm_row (M.1 0) 5 (nI ((x + 10 - k) % 10)) := by rw [(o1 0 (by decide)).1, si_eq]
  rw [e0, row_ne (by omega), a13, pk_sub kn]
  have om : off [0, 27, 28, 29, 30, 31] M (pm_si M1 0 6 (nI (n - k))) := off_si (off_tr (off_si off_rf (by decide)) (off_mo o1 (by decide))) (by decide)
  have f5 : (pm_si M1 0 6 (nI (n - k))).1 0 5 = nI ((x + 10 - k) % 10) := by rw [si_eq, row_ne (by omega), e0, row_eq]
  have f6 : (pm_si M1 0 6 (nI (n - k))).1 0 6 = nI (n - k) := by rw [si_eq, row_eq]
  have f10 : (pm_si M1 0 6 (nI (n - k))).1 0 10 = M.1 0 10 := by rw [si_eq, row_ne (by omega), e0, row_ne (by omega)]
  have s27 : SR (pm_si M1 0 6 (nI (n - k))) 27 (blk g (n - k)) T P := SR_cells s1 (fun c hc => si_ne (by simp at hc; omega))
  generalize pm_si M1 0 6 (nI (n - k)) = M2 at om f5 f6 f10 s27
  have g2 : M2.1 160 = g := (om 160 (by decide)).1.trans a3
  refine enM_undo ?_
  rw [lL 1, lL 10]
  refine sp_within2 (by omega) (fun _ => br_f (by decide) ?_) (fun h => absurd ((wi_int (by omega) (by omega)).mpr hv) h)
  rw [si_ne (by decide), g2, a11]
  refine br_t c3 ?_
  rw [pk_sub kn]
  refine loop_up (L := fun i Mx => wM_undo d 44 [.ref 159, .null, .int (nI i)] [] s Mx (same L (nI (n - k)))) (I := fun i Mx => Mx.1 160 = putR (pm_row g 78 (nI (n - k))) 47 i (fun j => g (79 + 31 * (n - k) + j)) ∧ off [159, 160] M2 Mx ∧ Mx.1 159 5 = M2.1 159 5 ∧ Mx.1 159 13 = M2.1 159 13 ∧ Mx.1 159 14 = M2.1 159 14) (e := 31) ?_ ?_ _ ⟨?_, ?_, ?_, ?_, ?_⟩
  · intro M3 h3
    obtain ⟨g3, o3, q5, q13, q14⟩ := h3
    have hE : eqW g (M3.1 160) := fun i hi => by rw [g3, putR_out (by omega), row_ne (by omega)]
    refine sgM_undo_44 (br_t (by decide) ⟨?_, ?_⟩)
    · rw [g3, putR_out (by omega), row_eq]
    have low : ∀ i, 47 ≤ i → i < 78 → M3.1 160 i = blk g (n - k) i := by
      intro i h1 h2
      rw [g3, putR_in (by omega) (by omega)]
      exact congrArg g (by omega)
    have bl : ∀ j i, 47 ≤ i → i < 78 → blk (M3.1 160) j i = blk g j i := by
      intro j i h1 h2
      unfold blk
      rw [g3, putR_out (by omega), row_ne (by omega)]
    have all : ∀ c, c ≠ 0 → (c < 27 ∨ 31 < c) → c ≠ 159 → c ≠ 160 → M3.1 c = M.1 c ∧ M3.2 c = M.2 c := by
      intro c z1 z2 z3 z4
      have b1 := om c (by simp; omega)
      have b2 := o3 c (by simp; omega)
      exact ⟨b2.1.trans b1.1, b2.2.trans b1.2⟩
    have hF : Fr M M3 := by
      refine ⟨fun c hc => ?_, ?_, ?_, ?_, ?_, ?_⟩
      · have q := KEEP_gap hc
        exact all c (by omega) (by omega) (by omega) (by omega)
      · rw [(o3 0 (by decide)).1, f10]
      · rw [q5, (om 159 (by decide)).1]
      · rw [q13, (om 159 (by decide)).1]
      · rw [q14, (om 159 (by decide)).1]
      · rw [a3]; exact hE
    refine ⟨a1, Rest_fr hF a2, N, T, P, ⟨LR_congrW hE h8 h6 (LR_cells a4.1 (fun c hc => (hF.1 c ?_).1)), Vd_congrW hE a4.2⟩, ?_, Vs_congr ⟨h8, h6⟩ pk.2 low, SR_congr (SR_cells s27 (fun c hc => ?_)) h8 h6 low, n - k, (x + 10 - k) % 10, by omega, by omega, ?_, ?_, ?_, fun j hj => ?_⟩
    · revert hc c; decide
    · unfold LZ at a5 ⊢
      rw [(hF.1 23 (by decide)).1]; exact a5
    · simp at hc
      exact (o3 c (by simp; omega)).1
    · rw [g3, putR_out (by omega), row_eq]
    · rw [(o3 0 (by decide)).1]; exact f5
    · rw [(o3 0 (by decide)).1]; exact f6
    · have e : ((x + 10 - k) % 10 + 10 - (n - k) + j) % 10 = (x + 10 - n + j) % 10 := by omega
      rw [e]
      have q := a8 j (by omega)
      refine ⟨SR_congr (SR_cells q.1 (fun c hc => ?_)) h8 h6 (bl j), Vs_congr ⟨h8, h6⟩ q.2 (bl j)⟩
      simp at hc
      exact (all c (by omega) (by omega) (by omega) (by omega)).1
  · intro i M3 hi h3 hkk
    obtain ⟨g3, o3, q5, q13, q14⟩ := h3
    have e78 : M3.1 160 78 = nI (n - k) := by rw [g3, putR_out (by omega), row_eq]
    refine sgM_undo_44 (br_f (by rw [lI 31, nI_leP (by omega) (by omega)]; omega) ?_)
    rw [e78, lI 31, lI 79, lI 47, pk_mul, nI_add, nI_add, nI_add, nI_clamp (by omega), nI_clamp (by omega), nI_1]
    refine ⟨vpI (by omega) (by omega), vpI (by omega) (by omega), hkk _ ⟨?_, off_si o3 (by decide), ?_, ?_, ?_⟩⟩
    · rw [si_eq, g3, putR_out (by omega), row_ne (by omega), ← putR_s]
    · rw [si_ne (by decide)]; exact q5
    · rw [si_ne (by decide)]; exact q13
    · rw [si_ne (by decide)]; exact q14
  · rw [si_eq, si_ne (by decide), g2, putR_0]
  · exact off_si (off_si off_rf (by decide)) (by decide)
  · rw [si_ne (by decide), si_eq, row_ne (by omega)]
  · rw [si_ne (by decide), si_eq, row_ne (by omega)]
  · rw [si_ne (by decide), si_eq, row_ne (by omega)]
/-! trays -/
theorem nY {r : Nat} (hr : r < 4) : isY (117 + 2 * r) := by
  unfold isY
  simp
  omega
theorem sp_noTray {d : Nat} {s : pm_S} {M : pm_M} {v : Int32} {Q : Int32 → pm_S → pm_M → Prop} (hd : 2 ≤ d) (hT : iTray M) (h1 : ¬ inI v 4 → Q (-2) s M) (h2 : ∀ r, r < 4 → v = nI r → M.1 182 r = -1 → Q (-6) s M) (h3 : ∀ r n q, r < 4 → v = nI r → q < 4 → M.1 182 r = nI q → M.1 183 r = nI n → YR M (117 + 2 * r) n (fun k => M.2 184 (40 * r + k)) → Q 0 s M) : cI d yM_noTray [.ref 159, .int v] s M Q := by
  obtain ⟨d, rfl⟩ : ∃ e, d = e + 1 := ⟨d - 1, by omega⟩
  refine enM_noTray ?_
  rw [lL 0, lL 3]
  refine sp_within2 (by omega) (fun h => ?_) (fun h => ⟨fun q => absurd rfl q, ?_⟩)
  · obtain ⟨r, hr, rfl⟩ := (wi_inI (by omega)).mp h
    refine ⟨fun _ => vpI (by omega) (by omega), ?_⟩
    rw [if_neg (by decide), nI_clamp (by omega)]
    rcases hT r hr with ⟨q1, q2⟩ | ⟨n, q, q1, q2, q3, q4, q5⟩
    · rw [if_pos q2]; exact h2 r hr rfl q2
    · rw [if_neg (by rw [q2, m1_ne (by omega)]; exact id)]; exact h3 r n q hr rfl q1 q2 q4 q5
  · rw [if_pos rfl]
    exact h1 (fun q => h ((wi_inI (by omega)).mpr q))
theorem sp_hasTray {d : Nat} {s : pm_S} {M : pm_M} {v : Int32} {Q : Int32 → pm_S → pm_M → Prop} (hd : 1 ≤ d) (h1 : inI v 4 → Q 1 s M) (h0 : ¬ inI v 4 → Q 0 s M) : cI d yG_hasTray [.ref 0, .int v] s M Q := by
  obtain ⟨d, rfl⟩ : ∃ e, d = e + 1 := ⟨d - 1, by omega⟩
  refine enG_hasTray ?_
  by_cases c : inI v 4
  · have := h1 c
    obtain ⟨r, hr, rfl⟩ := c
    rw [if_neg (nI_pos (by omega)), if_neg (by rw [lI 4, nI_leP (by omega) (by omega)]; omega)]
    exact this
  · have := h0 c
    rw [inI_iff (by omega)] at c
    by_cases z : v < 0
    · rw [if_pos z]; exact this
    · rw [if_neg z]
      by_cases z2 : (4 : Int32) ≤ v
      · rw [if_pos z2]; exact this
      · exact absurd ⟨z, z2⟩ c
theorem sp_isMissing {d : Nat} {s : pm_S} {M : pm_M} {r : Nat} {Q : Int32 → pm_S → pm_M → Prop} (hd : 1 ≤ d) (hr : r < 4) (hT : iTray M) (h1 : M.1 182 r = -1 → Q 1 s M) (h0 : ∀ n q, q < 4 → M.1 182 r = nI q → M.1 (117 + 2 * r) 1 = nI q → M.1 183 r = nI n → YR M (117 + 2 * r) n (fun k => M.2 184 (40 * r + k)) → Q 0 s M) : cI d yY_isMissing [.ref (117 + 2 * r)] s M Q := by
  obtain ⟨d, rfl⟩ : ∃ e, d = e + 1 := ⟨d - 1, by omega⟩
  refine enY_isMissing (nY hr) ?_
  rcases hT r hr with ⟨q1, q2⟩ | ⟨n, q, q1, q2, q3, q4, q5⟩
  · rw [q1, if_neg (by decide)]; exact h1 q2
  · have h40 := q5.2.1
    rw [q5.1, if_pos (by rw [l0, nI_leP (by omega) (by omega)]; omega)]
    exact h0 n q q1 q2 q3 q4 q5
