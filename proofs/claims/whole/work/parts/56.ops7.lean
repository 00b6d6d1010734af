theorem tell_zero {g : Nat → Int32} {N T P n : Nat} {f : Nat → Int64} (h40 : n ≤ 40) (h : tellN n (tellF g N T P f n).2 ≤ 0) : (tellF g N T P f n).1 = g ∧ tellN n (tellF g N T P f n).2 = 0 := by
  have key : ((tellF g N T P f n).2 = none → n = 0 → (tellF g N T P f n).1 = g) ∧ ∀ a, (tellF g N T P f n).2 = some a → a.1 < n ∧ (a.1 = 0 → (tellF g N T P f n).1 = g) := by
    unfold tellF
    refine itr_inv (f := tell1 N T P f) (n := n) (a := (g, none)) (fun i x => (x.2 = none → i = 0 → x.1 = g) ∧ ∀ a, x.2 = some a → a.1 < i ∧ (a.1 = 0 → x.1 = g)) ⟨fun _ _ => rfl, fun a h => by cases h⟩ (fun i x hi hx => ?_)
    obtain ⟨x1, x2⟩ := x
    cases x2 with
    | some b =>
      have := hx.2 b rfl
      refine ⟨fun z => (by cases z), fun a ha => ?_⟩
      cases ha
      exact ⟨by omega, this.2⟩
    | none =>
      simp only [tell1]
      by_cases c : whyF x1 T P (f i) = 0
      · simp only [if_pos c]
        exact ⟨fun _ z => by omega, fun a ha => by cases ha⟩
      · simp only [if_neg c]
        refine ⟨fun z => (by cases z), fun a ha => ?_⟩
        cases ha
        exact ⟨by simp, fun z => hx.1 rfl z⟩
  generalize tellF g N T P f n = X at key h
  obtain ⟨x1, x2⟩ := X
  cases x2 with
  | none =>
    simp only [tellN] at h ⊢
    rw [l0, nI_leP (by omega) (by omega)] at h
    have e : n = 0 := by omega
    exact ⟨key.1 rfl e, by rw [e]; rfl⟩
  | some a =>
    simp only [tellN] at h ⊢
    have q := key.2 a rfl
    rw [l0, nI_leP (by omega) (by omega)] at h
    have e : a.1 = 0 := by omega
    exact ⟨q.2 e, by rw [e]; rfl⟩
theorem op_perform {L d : Nat} {s : pm_S} {M : pm_M} {v : Int32} (hd : 12 ≤ d) (hI : Inv L s M) : cI d yG_perform [.ref 0, .int v] s M (fun r s1 M1 => cI d yM_perform [.ref 159, .int v] s1 M1 (same L r)) := by
  obtain ⟨d, rfl⟩ : ∃ e, d = e + 1 := ⟨d - 1, by omega⟩
  obtain ⟨g, N, T, P, x, n, hc⟩ := Inv_ctx hI
  have hc' := hc
  obtain ⟨a1, a2, a3, a4, a5, a6, a7, a8, a9, a10, a11, a12, a13⟩ := hc
  have h8 : T ≤ 8 := a4.2.2.2.2.2.2.1
  have h6 : P ≤ 6 := a4.2.2.2.2.2.2.2.1
  have hT : iTray M := a2.2.1
  have fin : ∀ a : Int32, same L a a s (pm_si M 159 0 0) := fun a => ⟨rfl, ctx_same hc' off_rf (Rf_159 (by omega)) (by rw [si_ne (by decide)]; exact a3)⟩
  obtain ⟨d, rfl⟩ : ∃ e, d = e + 1 := ⟨d - 1, by omega⟩
  refine enG_perform (enG_trayCode (sp_hasTray (by omega) (fun hv => br_f (by decide) ?_) (fun hv => br_t rfl (br_f (by decide) ?_))))
  · obtain ⟨r, hr, rfl⟩ := hv
    refine ⟨vpI (by omega) (by omega), fun o eo ho => ?_⟩
    rw [nI_clamp (by omega)] at eo
    subst eo
    refine sp_isMissing (by omega) hr hT (fun m1 => br_f (by decide) ?_) (fun m q q1 q2 q3 q4 q5 => br_t rfl ?_)
    · refine enM_perform (sp_noTray (by omega) (iTray_159 hT) (fun h => absurd ⟨r, hr, rfl⟩ h) (fun _ _ _ _ => br_f (by decide) (fin _)) (fun r' m q hr' e q1 q2 => ?_))
      rw [nI_inj (by omega) (by omega)] at e
      subst e
      rw [si_ne (by decide), m1] at q2
      exact absurd q2.symm (by rw [m1_ne (by omega)]; exact id)
    · have h40 := q5.2.1
      refine sp_sbecome (by omega) isS_32 isS_27 (by omega) h8 h6 a10 (fun M1 s1 o1 => ⟨vpI (by omega) (by omega), fun o eo ho => ?_⟩)
      rw [nI_clamp (by omega)] at eo
      subst eo
      have o1' := b32 o1
      refine sp_doAll (by omega) ho (YR_off o1' q5 (isY_C32 ho).1 (isY_C32 ho).2) (LV_off o1' a4) a9 s1 (fun M2 s2 e7 o2 => ?_)
      have o2' := off_tr o1' o2
      have w := Vs_tell (f := fun k => M.2 184 (40 * r + k)) (n := m) a4.2 a9
      have tz := tell_zero (g := g) (N := N) (T := T) (P := P) (n := m) (f := fun k => M.2 184 (40 * r + k)) h40
      have ref : ∀ (Mx : pm_M) (ans : Int32), Mx.1 160 = g → Mx.1 182 = M.1 182 → Mx.1 183 = M.1 183 → Mx.2 184 = M.2 184 → iTray Mx → (tellN m (tellF g N T P (fun k => M.2 184 (40 * r + k)) m).2 ≤ 0 → ∀ My, My.1 160 = (tellF g N T P (fun k => M.2 184 (40 * r + k)) m).1 → Rf Mx My → same L ans (tellN m (tellF g N T P (fun k => M.2 184 (40 * r + k)) m).2) s My) → (¬ tellN m (tellF g N T P (fun k => M.2 184 (40 * r + k)) m).2 ≤ 0 → ∀ My w6, My.1 160 = noteF (tellF g N T P (fun k => M.2 184 (40 * r + k)) m).1 n w6 → (∀ j, j < 31 → w6 j = g (47 + j)) → Rf Mx My → same L ans (tellN m (tellF g N T P (fun k => M.2 184 (40 * r + k)) m).2) s My) → cI (d + 1 + 1) yM_perform [.ref 159, .int (nI r)] s Mx (same L ans) := by
        intro Mx ans gx x182 x183 x184 hTx k1 k2
        refine enM_perform (sp_noTray (by omega) (iTray_159 hTx) (fun h => absurd ⟨r, hr, rfl⟩ h) (fun r' hr' e z => ?_) (fun r' m' q' hr' e _ _ z3 z4 => br_t rfl ?_))
        · rw [nI_inj (by omega) (by omega)] at e
          subst e
          rw [si_ne (by decide), x182, q2] at z
          exact absurd z (by rw [m1_ne (by omega)]; exact id)
        refine ref_keep (g := g) (by omega) (by rw [si_ne (by decide)]; exact gx) (fun M3 g3 w3 f3 => ?_)
        have m183 : M3.1 183 r = nI m := by rw [(f3.1 183 (by decide)).1, si_ne (by decide), x183]; exact q4
        have m184 : M3.2 184 = M.2 184 := by rw [(f3.1 184 (by decide)).2]; exact x184
        refine sp_tells (g := g) (N := N) (T := T) (P := P) (n := m) (by omega) g3 a4.2 a9 hr m183 h40 ?_
        rw [m184]
        generalize tellF g N T P (fun k => M.2 184 (40 * r + k)) m = X at k1 k2 w
        intro M4 g4 t4 f4 o4
        have fr := Rf_tr (Rf_159 (M := Mx) (k := 0) (v := 0) (by omega)) (Rf_tr f3 (Rf_tell o4 f4))
        refine br_c (fun c => k1 c M4 g4 fr) (fun c => ?_)
        exact ref_notes (g := g) (by omega) g4 (by rw [w.1 78 (by omega)]; exact a11) a6 (fun j hj => by rw [(o4 166 (by decide)).1]; exact w3 j hj) (fun M6 w6 g6 e6 _ f6 => k2 c M6 w6 g6 e6 (Rf_tr fr f6))
      generalize tellF g N T P (fun k => M.2 184 (40 * r + k)) m = X at ref w s2 e7 tz ⊢
      refine br_c (fun c => ?_) (fun c => ?_)
      · refine ref M2 0 (r160 o2' (by decide) a3) (o2' 182 (by decide)).1 (o2' 183 (by decide)).1 (o2' 184 (by decide)).2 (iTray_off o2' C32_tr hT) (fun _ My gy fy => ⟨(tz c).2.symm, ?_⟩) (fun z => absurd c z)
        exact ctx_same hc' o2' fy (gy.trans (tz c).1)
      · have hs27 : SR M2 27 g T P := SR_off o2' a10 (by decide)
        have e0 := (o2' 0 (by decide)).1
        refine sp_agreed (by omega) h8 h6 a7 a6 (by rw [e0]; exact a12) (by rw [e0]; exact a13) hs27 s2 (fun M3 hC3 => ?_)
        have hC := Cm_pre o2' hC3
        have all : ∀ z, 117 ≤ z → M3.1 z = M.1 z ∧ M3.2 z = M.2 z := fun z hz => hC.2.2.2.2.2 z (fun q => by rw [CX_in] at q; omega)
        refine ref M3 _ ((all 160 (by omega)).1.trans a3) (all 182 (by omega)).1 (all 183 (by omega)).1 (all 184 (by omega)).2 ?_ (fun z => absurd z c) (fun _ My w6 gy wy fy => ⟨rfl, ctx_commit hc' hC fy gy wy w.1 w.2⟩)
        intro r' hr'
        have := hT r' hr'
        unfold YR at this ⊢
        rw [(all 182 (by omega)).1, (all 183 (by omega)).1, (all 184 (by omega)).2, (all (117 + 2 * r') (by omega)).1, (all (117 + 2 * r' + 1) (by omega)).2]
        exact this
  · exact enM_perform (sp_noTray (by omega) (iTray_159 hT) (fun _ => br_f (by decide) (fin _)) (fun r hr e => absurd ⟨r, hr, e⟩ hv) (fun r m q hr e => absurd ⟨r, hr, e⟩ hv))
/-! seasons -/
def sea1 (N T P : Nat) (_ : Nat) (x : (Nat → Int32) × Nat) : (Nat → Int32) × Nat := if whyF (drawnF x.1).1 T P (drawnF x.1).2.toInt64 = 0 then (doF (drawnF x.1).1 N T P (drawnF x.1).2.toInt64, x.2 + 1) else ((drawnF x.1).1, x.2)
theorem Vs_sea1 {g : Nat → Int32} {N T P i : Nat} {x : (Nat → Int32) × Nat} (hV : Vd g N T P) (he : eqL g x.1) (hs : Vs x.1 N T P) : eqL g (sea1 N T P i x).1 ∧ Vs (sea1 N T P i x).1 N T P := by
  have w := Vs_drawn (Vd_congr he hV) hs
  have he2 := eqL_tr he w.1
  unfold sea1
  split
  · rename_i c
    have := Vs_do (Vd_congr he2 hV) w.2 c
    exact ⟨eqL_tr he2 this.1, this.2⟩
  · exact ⟨he2, w.2⟩
theorem op_season {L d : Nat} {s : pm_S} {M : pm_M} {v u : Int32} (hd : 12 ≤ d) (hI : Inv L s M) : cI d yG_season [.ref 0, .int v, .int u] s M (fun r s1 M1 => cI d yM_season [.ref 159, .int v, .int u] s1 M1 (same L r)) := by
  obtain ⟨d, rfl⟩ : ∃ e, d = e + 1 := ⟨d - 1, by omega⟩
  obtain ⟨g, N, T, P, x, n, hc⟩ := Inv_ctx hI
  have hc' := hc
  obtain ⟨a1, a2, a3, a4, a5, a6, a7, a8, a9, a10, a11, a12, a13⟩ := hc
  have h8 : T ≤ 8 := a4.2.2.2.2.2.2.1
  have h6 : P ≤ 6 := a4.2.2.2.2.2.2.2.1
  have no : ¬ (nI 1 ≤ u ∧ u ≤ nI 40) → cI (d + 1) yM_season [.ref 159, .int v, .int u] s M (same L (-3)) := by
    intro h
    refine enM_season ?_
    rw [lL 1, lL 40]
    refine sp_within2 (by omega) (fun h2 => absurd ((wi_int (by omega) (by omega)).mp h2) h) (fun _ => br_t rfl ⟨rfl, ?_⟩)
    exact ctx_same hc' off_rf (Rf_159 (by omega)) (by rw [si_ne (by decide)]; exact a3)
  refine enG_season (br_c (fun c1 => no (fun q => ?_)) (fun c1 => br_c (fun c2 => ?_) (fun c2 => no (fun q => c2 q.2))))
  · rw [l1] at c1; exact i_nlt q.1 c1
  have hv : nI 1 ≤ u ∧ u ≤ nI 40 := ⟨i_le c1, c2⟩
  obtain ⟨k, hk, rfl⟩ := nI_of2 (M := 40) (n := 40) (by decide) (i_nlt (by have := hv.1; rw [← l1] at this; grind)) c2
  refine sp_sbecome (by omega) isS_32 isS_27 (by omega) h8 h6 a10 (fun M1 s1 o1 => ?_)
  have o1' := b32 o1
  have e49 : eqL g (pm_row g 49 v) := eqL_row eqL_rf (by omega) (by omega)
  have v49 : Vs (pm_row g 49 v) N T P := Vs_out a4.2 a9 (by omega)
  have inv : ∀ i, eqL g (itr (sea1 N T P) i (pm_row g 49 v, 0)).1 ∧ Vs (itr (sea1 N T P) i (pm_row g 49 v, 0)).1 N T P ∧ (itr (sea1 N T P) i (pm_row g 49 v, 0)).2 ≤ i := fun i =>
    itr_inv (f := sea1 N T P) (n := i) (a := (pm_row g 49 v, 0)) (fun j x => eqL g x.1 ∧ Vs x.1 N T P ∧ x.2 ≤ j) ⟨e49, v49, Nat.le_refl _⟩ (fun j x _ hx => by
      have q := Vs_sea1 (i := j) a4.2 hx.1 hx.2.1
      refine ⟨q.1, q.2, ?_⟩
      unfold sea1
      split
      · have := hx.2.2; simp; exact this
      · have := hx.2.2; simp; omega)
  refine loop_mem (L := fun i (y : (Nat → Int32) × Nat) Mx => wG_season d 38 [.ref 0, .null, .int (nI k), .int (nI y.2), .int (nI i)] [] s Mx (fun r s1 M1 => cI (d + 1) yM_season [.ref 159, .int v, .int (nI k)] s1 M1 (same L r))) (I := fun y Mx => SR Mx 32 y.1 T P ∧ off C32 M Mx) (f := sea1 N T P) (e := k) (a0 := (pm_row g 49 v, 0)) ?_ ?_ _ ⟨SR_own (k := 6) s1 h8 h6 (by omega) (by omega), off_si o1' (by decide)⟩
  · intro M2 h2
    obtain ⟨s2, o2'⟩ := h2
    have iv := inv k
    have ref : ∀ (Mx : pm_M) (ans : Int32), Mx.1 160 = g → (nI (itr (sea1 N T P) k (pm_row g 49 v, 0)).2 ≤ 0 → ∀ My, My.1 160 = g → Rf Mx My → same L ans (nI (itr (sea1 N T P) k (pm_row g 49 v, 0)).2) s My) → (¬ nI (itr (sea1 N T P) k (pm_row g 49 v, 0)).2 ≤ 0 → ∀ My w6, My.1 160 = noteF (itr (sea1 N T P) k (pm_row g 49 v, 0)).1 n w6 → (∀ j, j < 31 → w6 j = g (47 + j)) → Rf Mx My → same L ans (nI (itr (sea1 N T P) k (pm_row g 49 v, 0)).2) s My) → cI (d + 1) yM_season [.ref 159, .int v, .int (nI k)] s Mx (same L ans) := by
      intro Mx ans gx k1 k2
      refine enM_season ?_
      rw [lL 1, lL 40]
      refine sp_within2 (by omega) (fun _ => br_f (by decide) ?_) (fun h => absurd ((wi_int (by omega) (by omega)).mpr hv) h)
      refine ref_keep (g := g) (by omega) (by rw [si_ne (by decide)]; exact gx) (fun M4 g4 w4 f4 => ?_)
      refine loop_mem (L := fun i (y : (Nat → Int32) × Nat) Mz => wM_season d 37 [.ref 159, .null, .int (nI k), .int (nI y.2), .int (nI i), .null] [] s Mz (same L ans)) (I := fun y Mz => Mz.1 160 = y.1 ∧ off [160, 164, 165] M4 Mz ∧ eqL g y.1 ∧ Vs y.1 N T P) (f := sea1 N T P) (e := k) (a0 := (pm_row g 49 v, 0)) ?_ ?_ _ ⟨by rw [si_eq, g4], off_si off_rf (by decide), e49, v49⟩
      · intro M5 h5
        obtain ⟨g5, o5, he, w⟩ := h5
        have fr := Rf_tr (Rf_159 (M := Mx) (k := 0) (v := 0) (by omega)) (Rf_tr f4 (Rf_off o5 (by decide)))
        have w5 : ∀ j, j < 31 → M5.1 166 j = g (47 + j) := fun j hj => by rw [(o5 166 (by decide)).1]; exact w4 j hj
        refine sgM_season_37 (br_t (by rw [nI_leP (by omega) (by omega)]; exact Nat.le_refl _) (br_c (fun c => ?_) (fun c => ?_)))
        · refine sp_isAgain (by omega) (fun M6 g6 o6 => k1 c M6 ?_ (Rf_tr fr (Rf_off o6 (by decide))))
          rw [g6, g5]
          exact putR_back he w5
        · exact ref_notes (g := g) (by omega) g5 (by rw [he 78 (by omega)]; exact a11) a6 w5 (fun M6 w6 g6 e6 _ f6 => k2 c M6 w6 g6 e6 (Rf_tr fr f6))
      · intro i M5 hi h5 hkk
        generalize itr (sea1 N T P) i _ = y at h5 hkk ⊢
        obtain ⟨g5, o5, he, w⟩ := h5
        have q := Vs_sea1 (i := i) a4.2 he w
        have wd := Vs_drawn (Vd_congr he a4.2) w
        have hVd := Vd_congr (eqL_tr he wd.1) a4.2
        refine sgM_season_37 (br_f (by rw [nI_leP (by omega) (by omega)]; omega) (sp_drawn (by omega) g5 (fun M6 g6 o6 => sp_whyNot (by omega) g6 hVd (fun M7 o7 => ?_))))
        rw [nI_1, nI_1]
        have g7 : M7.1 160 = (drawnF y.1).1 := (o7 160 (by decide)).1.trans g6
        have o7' := off_tr o5 (off_tr o6 (off_mo o7 (by decide)))
        unfold sea1 at hkk q
        refine br_c (fun c => ?_) (fun c => ?_)
        · rw [if_pos c] at hkk q
          have z := sp_does (d := d) (s := s) (M := M7) (v := (drawnF y.1).2.toInt64) (Q := fun s5 M5 => wM_season d 37 [.ref 159, .null, .int (nI k), .int (nI (y.2 + 1)), .int (nI (i + 1)), .null] [] s5 M5 (same L ans)) (by omega) g7 hVd c (fun M8 g8 o8 => hkk M8 ⟨g8, off_tr o7' o8, q.1, q.2⟩)
          rw [show (drawnF y.1).2.toInt64.toInt32 = (drawnF y.1).2 by simp] at z
          exact z
        · rw [if_neg c] at hkk q
          exact hkk M7 ⟨g7, o7', q.1, q.2⟩
    generalize itr (sea1 N T P) k _ = y at s2 iv ref ⊢
    refine sgG_season_38 (br_t (by rw [nI_leP (by omega) (by omega)]; exact Nat.le_refl _) (br_c (fun c => ?_) (fun c => ?_)))
    · have e : y.2 = 0 := by
        have := iv.2.2
        rw [l0, nI_leP (by omega) (by omega)] at c
        omega
      exact ref M2 0 (r160 o2' (by decide) a3) (fun _ My gy fy => ⟨by rw [e]; rfl, ctx_same hc' o2' fy gy⟩) (fun z => absurd c z)
    · have hs27 : SR M2 27 g T P := SR_off o2' a10 (by decide)
      have e0 := (o2' 0 (by decide)).1
      refine sp_agreed (by omega) h8 h6 a7 a6 (by rw [e0]; exact a12) (by rw [e0]; exact a13) hs27 s2 (fun M3 hC3 => ?_)
      have hC := Cm_pre o2' hC3
      exact ref M3 _ (Cm_160 a7 hC a3) (fun z => absurd z c) (fun _ My w6 gy wy fy => ⟨rfl, ctx_commit hc' hC fy gy wy iv.1 iv.2.1⟩)
  · intro i M2 hi h2 hkk
    have iv := inv i
    generalize itr (sea1 N T P) i _ = y at h2 hkk iv ⊢
    obtain ⟨s2, o2'⟩ := h2
    refine sgG_season_38 (br_f (by rw [nI_leP (by omega) (by omega)]; omega) (sp_seasonDeed (by omega) (LV_off o2' (LV_eqL iv.1 a4)) iv.2.1 s2 (fun M3 s3 o3 => ?_)))
    rw [nI_1, nI_1]
    unfold sea1 at hkk
    by_cases c : whyF (drawnF y.1).1 T P (drawnF y.1).2.toInt64 = 0
    · rw [if_pos c] at hkk s3 ⊢
      exact hkk M3 ⟨s3, off_tr o2' o3⟩
    · rw [if_neg c] at hkk s3 ⊢
      exact hkk M3 ⟨s3, off_tr o2' o3⟩
