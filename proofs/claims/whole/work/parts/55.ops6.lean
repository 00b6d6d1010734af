theorem putR_back {g g' w : Nat → Int32} (he : eqL g g') (hw : ∀ j, j < 31 → w j = g (47 + j)) : putR g' 47 31 w = g := by
  funext i
  by_cases c : 47 ≤ i ∧ i < 47 + 31
  · rw [putR_in c.1 c.2, hw _ (by omega)]
    exact congrArg g (by omega)
  · rw [putR_out (by omega), he i (by omega)]
theorem Rf_tell {M M' : pm_M} (h : off [159, 160, 164, 165] M M') (hf : ∀ i, i ≠ 19 → M'.1 159 i = M.1 159 i) : Rf M M' := ⟨off_mo h (by decide), hf 5 (by omega), hf 13 (by omega), hf 14 (by omega)⟩
theorem iTray_off {S : List Nat} {M M' : pm_M} (h : off S M M') (hS : ∀ c, c ∈ S → c < 117 ∨ (124 < c ∧ c < 182)) (hT : iTray M) : iTray M' := by
  intro r hr
  have := hT r hr
  have no : ∀ c, (117 ≤ c ∧ c ≤ 124) ∨ (182 ≤ c) → c ∉ S := fun c z q => by have := hS c q; omega
  unfold YR at this ⊢
  rw [(h 182 (no _ (by omega))).1, (h 183 (no _ (by omega))).1, (h 184 (no _ (by omega))).2, (h (117 + 2 * r) (no _ (by omega))).1, (h (117 + 2 * r + 1) (no _ (by omega))).2]
  exact this
theorem iTray_159 {M : pm_M} {v : Int32} (hT : iTray M) : iTray (pm_si M 159 0 v) := iTray_off (off_si off_rf (by decide : 159 ∈ [159])) (by decide) hT
theorem C32_tr : ∀ c, c ∈ C32 → c < 117 ∨ (124 < c ∧ c < 182) := by decide
theorem op_judge {L d : Nat} {s : pm_S} {M : pm_M} {v u : Int32} (hd : 12 ≤ d) (hI : Inv L s M) : cI d yG_judge [.ref 0, .int v, .int u] s M (fun r s1 M1 => cI d yM_judge [.ref 159, .int v, .int u] s1 M1 (same L r)) := by
  obtain ⟨d, rfl⟩ : ∃ e, d = e + 1 := ⟨d - 1, by omega⟩
  obtain ⟨g, N, T, P, x, n, hc⟩ := Inv_ctx hI
  have hc' := hc
  obtain ⟨a1, a2, a3, a4, a5, a6, a7, a8, a9, a10, a11, a12, a13⟩ := hc
  have h8 : T ≤ 8 := a4.2.2.2.2.2.2.1
  have h6 : P ≤ 6 := a4.2.2.2.2.2.2.2.1
  have hT : iTray M := a2.2.1
  have fin : ∀ a : Int32, same L a a s (pm_si M 159 0 0) := fun a => ⟨rfl, ctx_same hc' off_rf (Rf_159 (by omega)) (by rw [si_ne (by decide)]; exact a3)⟩
  have noU : ¬ inI u 4 → cI (d + 1) yM_judge [.ref 159, .int v, .int u] s M (same L (-2)) := by
    intro h
    refine enM_judge ?_
    rw [lL 0, lL 3]
    exact sp_within2 (by omega) (fun h2 => absurd ((wi_inI (by omega)).mp h2) h) (fun _ => br_t rfl (fin _))
  have noV : ¬ inI v 4 → cI (d + 1) yM_judge [.ref 159, .int v, .int u] s M (same L (-2)) := by
    intro h
    refine enM_judge ?_
    rw [lL 0, lL 3]
    refine sp_within2 (by omega) (fun _ => br_f (by decide) ?_) (fun _ => br_t rfl (fin _))
    exact sp_noTray (by omega) (iTray_159 hT) (fun _ => br_f (by decide) (fin _)) (fun r hr e => absurd ⟨r, hr, e⟩ h) (fun r m q hr e => absurd ⟨r, hr, e⟩ h)
  refine enG_judge (sp_hasTray (by omega) (fun hv => br_f (by decide) ?_) (fun hv => br_t rfl (noV hv)))
  refine br_c (fun c => noU (fun q => ?_)) (fun c1 => br_c (fun c2 => ?_) (fun c2 => noU (fun q => ?_)))
  · rw [inI_iff (by omega)] at q; exact q.1 c
  rotate_left
  · obtain ⟨k, hk, rfl⟩ := q
    exact c2 (by rw [lI 3, nI_leP (by omega) (by omega)]; omega)
  have hu : inI u 4 := (inI_iff (by omega)).mpr ⟨c1, fun q => by
    obtain ⟨k, hk, rfl⟩ := nI_of c1
    rw [lI 3, nI_leP (by omega) (by omega)] at c2
    rw [nI_leP (by omega) (by omega)] at q
    omega⟩
  obtain ⟨r, hr, rfl⟩ := hv
  refine ⟨vpI (by omega) (by omega), fun o eo ho => ?_⟩
  rw [nI_clamp (by omega)] at eo
  subst eo
  refine sp_isMissing (by omega) hr hT (fun m1 => br_f (by decide) ?_) (fun m q q1 q2 q3 q4 q5 => br_t rfl ?_)
  · refine enM_judge ?_
    rw [lL 0, lL 3]
    refine sp_within2 (by omega) (fun _ => br_f (by decide) ?_) (fun h => absurd ((wi_inI (by omega)).mpr hu) h)
    refine sp_noTray (by omega) (iTray_159 hT) (fun h => absurd ⟨r, hr, rfl⟩ h) (fun _ _ _ _ => br_f (by decide) (fin _)) (fun r' m q hr' e q1 q2 => ?_)
    rw [nI_inj (by omega) (by omega)] at e
    subst e
    rw [si_ne (by decide), m1] at q2
    exact absurd q2.symm (by rw [m1_ne (by omega)]; exact id)
  · have h40 := q5.2.1
    refine sp_sbecome (by omega) isS_32 isS_27 (by omega) h8 h6 a10 (fun M1 s1 o1 => ⟨vpI (by omega) (by omega), fun o eo ho => ?_⟩)
    rw [nI_clamp (by omega)] at eo
    subst eo
    have o1' := b32 o1
    refine sp_doAll (by omega) ho (YR_off o1' q5 (isY_C32 ho).1 (isY_C32 ho).2) (LV_off o1' a4) a9 s1 (fun M2 s2 e7 o2 => ?_)
    have o2' := off_tr o1' o2
    have g2 := r160 o2' (by decide) a3
    have e184 : M2.2 184 = M.2 184 := (o2' 184 (by decide)).2
    have e183 : M2.1 183 = M.1 183 := (o2' 183 (by decide)).1
    have w := Vs_tell (f := fun k => M.2 184 (40 * r + k)) (n := m) a4.2 a9
    have ref : ∀ ans : Int32, (if u = 0 then (if tellW (tellF g N T P (fun k => M.2 184 (40 * r + k)) m).2 = 0 then (-1) else tellN m (tellF g N T P (fun k => M.2 184 (40 * r + k)) m).2) else (if u = 1 then tellW (tellF g N T P (fun k => M.2 184 (40 * r + k)) m).2 else (if u = 2 then nI (setF (holdB (tellF g N T P (fun k => M.2 184 (40 * r + k)) m).1 T) P) else bitsF (nI (setF (offB (tellF g N T P (fun k => M.2 184 (40 * r + k)) m).1) T))))) = ans → cI (d + 1) yM_judge [.ref 159, .int (nI r), .int u] s M2 (same L ans) := by
      intro ans hans
      refine enM_judge ?_
      rw [lL 0, lL 3]
      refine sp_within2 (by omega) (fun _ => br_f (by decide) ?_) (fun h => absurd ((wi_inI (by omega)).mpr hu) h)
      have hT2 : iTray (pm_si M2 159 0 0) := iTray_159 (iTray_off o2' C32_tr hT)
      refine sp_noTray (by omega) hT2 (fun h => absurd ⟨r, hr, rfl⟩ h) (fun r' hr' e z => ?_) (fun r' m' q' hr' e _ _ z3 z4 => br_t rfl ?_)
      · rw [nI_inj (by omega) (by omega)] at e
        subst e
        rw [si_ne (by decide), (o2' 182 (by decide)).1, q2] at z
        exact absurd z (by rw [m1_ne (by omega)]; exact id)
      refine ref_keep (g := g) (by omega) (by rw [si_ne (by decide)]; exact g2) (fun M3 g3 w3 f3 => ?_)
      have m183 : M3.1 183 r = nI m := by rw [(f3.1 183 (by decide)).1, si_ne (by decide), e183]; exact q4
      have m184 : M3.2 184 = M.2 184 := by rw [(f3.1 184 (by decide)).2]; exact e184
      refine sp_tells (g := g) (N := N) (T := T) (P := P) (n := m) (by omega) g3 a4.2 a9 hr m183 h40 ?_
      rw [m184]
      generalize tellF g N T P (fun k => M.2 184 (40 * r + k)) m = X at hans w
      intro M4 g4 t4 f4 o4
      have z2 : X.1 2 = nI T := by rw [w.1 2 (by omega)]; exact a4.2.2.1
      have z3 : X.1 3 = nI P := by rw [w.1 3 (by omega)]; exact a4.2.2.2.1
      refine sp_holders (by omega) g4 z2 z3 h8 h6 (sp_officeSet (by omega) g4 z2 h8 (sp_bitsOf (by omega) ?_))
      refine sp_isAgain (by omega) (fun M5 g5 o5 => ⟨?_, ?_⟩)
      · rw [(o5 159 (by decide)).1, t4]; exact hans.symm
      · refine ctx_same hc' o2' (Rf_tr (Rf_159 (k := 0) (v := 0) (by omega)) (Rf_tr f3 (Rf_tr (Rf_tell o4 f4) (Rf_off o5 (by decide))))) ?_
        rw [g5, g4]
        exact putR_back w.1 (fun j hj => by rw [(o4 166 (by decide)).1]; exact w3 j hj)
    have wV := Vd_congr w.1 a4.2
    generalize tellF g N T P (fun k => M.2 184 (40 * r + k)) m = X at ref w s2 e7 wV ⊢
    rw [e7]
    refine br_c (fun d0 => ?_) (fun d0 => br_c (fun d1 => ?_) (fun d1 => br_c (fun d2 => ?_) (fun d2 => ?_)))
    · exact ref _ (by rw [if_pos d0])
    · exact ref _ (by rw [if_neg d0, if_pos d1])
    · exact sp_holderBits (by omega) isS_32 s2 wV w.2 (ref _ (by rw [if_neg d0, if_neg d1, if_pos d2]))
    · exact sp_officeBits (by omega) isS_32 s2 h8 (sp_bitCount (by omega) (pow8 h8) (ref _ (by rw [if_neg d0, if_neg d1, if_neg d2])))
