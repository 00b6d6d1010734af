theorem op_mark {L d : Nat} {s : pm_S} {M : pm_M} {v u : Int32} (hd : 12 ≤ d) (hI : Inv L s M) : cI d yG_mark [.ref 0, .int v, .int u] s M (fun r s1 M1 => cI d yM_mark [.ref 159, .int v, .int u] s1 M1 (same L r)) := by
  obtain ⟨d, rfl⟩ : ∃ e, d = e + 1 := ⟨d - 1, by omega⟩
  obtain ⟨g, N, T, P, x, n, hc⟩ := Inv_ctx hI
  have hc' := hc
  obtain ⟨a1, a2, a3, a4, a5, a6, a7, a8, a9, a10, a11, a12, a13⟩ := hc
  have h8 : T ≤ 8 := a4.2.2.2.2.2.2.1
  have h6 : P ≤ 6 := a4.2.2.2.2.2.2.2.1
  have h3 := a4.2.2.2.1
  obtain ⟨d, rfl⟩ : ∃ e, d = e + 1 := ⟨d - 1, by omega⟩
  refine enG_mark (enS_markOf ⟨fun c1 c2 => ?_, ?_⟩)
  · obtain ⟨k, hk, rfl⟩ := nI_of c1
    rw [lI 6, nI_leP (by omega) (by omega)] at c2
    exact vpI (by omega) (by omega)
  refine sp_sbecome (by omega) isS_32 isS_27 (by omega) h8 h6 a10 (fun M1 s1 o1 => ?_)
  have o1' := b32 o1
  refine sp_tryMark (by omega) (LV_off o1' a4) s1 (fun i1 i2 M2 s2 o2 => br_t rfl ?_) (fun i1 => br_f (by decide) ?_)
  · have o2' := off_tr o1' o2
    obtain ⟨p, hp, rfl⟩ := i1
    rw [nI_clamp (by omega)] at s2 ⊢
    have hs27 : SR M2 27 g T P := SR_off o2' a10 (by decide)
    have e0 := (o2' 0 (by decide)).1
    have e30 : M.1 30 p = g (66 + p) := (a10.2.2.2.2.1 p hp).1
    rw [if_neg (nI_pos (by omega)), if_neg (by rw [lI 6, nI_leP (by omega) (by omega)]; omega), e30]
    refine sp_agreed (by omega) h8 h6 a7 a6 (by rw [e0]; exact a12) (by rw [e0]; exact a13) hs27 s2 (fun M3 hC3 => ?_)
    have hC := Cm_pre o2' hC3
    have g3 := Cm_160 a7 hC a3
    refine enM_mark (sp_isPerson (n := P) (by omega) (by rw [si_ne (by decide), g3]; exact h3) h6 (fun _ => br_f (by decide) ?_) (fun h => absurd ((inN_i (by omega)).mpr ⟨p, hp, rfl⟩) h))
    rw [lL 0, lL 9]
    refine sp_within2 (by omega) (fun _ => br_f (by decide) ?_) (fun h => absurd ((wi_inI (by omega)).mpr i2) h)
    refine ref_keep (g := g) (by omega) (by rw [si_ne (by decide)]; exact g3) (fun M4 g4 w4 f4 => ?_)
    rw [lI 66, lI 19, nI_add, nI_add, nI_clamp (by omega), nI_clamp (by omega)]
    refine ⟨vpI (by omega) (by omega), ?_⟩
    obtain ⟨k, hk, rfl⟩ := i2
    have w := Vs_mark (k := k) a4.2 a9 hp (by omega)
    have he : eqL g (pm_row g (66 + p) (nI k)) := eqL_row eqL_rf (by omega) (by omega)
    refine ref_notes (g := g) (g' := pm_row g (66 + p) (nI k)) (by omega) (by rw [si_eq, g4]) (by rw [he 78 (by omega)]; exact a11) a6 (fun j hj => by rw [si_ne (by decide)]; exact w4 j hj) (fun M6 w6 g6 e6 e166 f6 => ?_)
    refine ⟨vpI (by omega) (by omega), ?_, ?_⟩
    · rw [e166, si_ne (by decide), w4 _ (by omega)]
      exact congrArg g (by omega)
    · exact ctx_commit hc' hC (Rf_tr (Rf_159 (k := 0) (v := 0) (by omega)) (Rf_tr f4 (Rf_tr (Rf_off (off_si off_rf (by decide : 160 ∈ [160])) (by decide)) f6))) g6 e6 he w
  · have g2 := r160 o1' (by decide) a3
    have fin : same L (-10 - 1) (-11) s (pm_si M1 159 0 0) := ⟨by decide, ctx_same hc' o1' (Rf_159 (by omega)) (by rw [si_ne (by decide)]; exact g2)⟩
    refine enM_mark (sp_isPerson (n := P) (by omega) (by rw [si_ne (by decide), g2]; exact h3) h6 (fun h => br_f (by decide) ?_) (fun h => br_t rfl fin))
    rw [lL 0, lL 9]
    refine sp_within2 (by omega) (fun h2 => absurd ⟨(inN_i (by omega)).mp h, (wi_inI (by omega)).mp h2⟩ i1) (fun _ => br_t rfl fin)
/-! days -/
def daysF (g : Nat → Int32) (N T P k : Nat) : (Nat → Int32) × Int32 := itr (fun _ x => ((dayF x.1 N T P).1, x.2 + (dayF x.1 N T P).2)) k (g, 0)
theorem Vs_days {g : Nat → Int32} {N T P k : Nat} (hV : Vd g N T P) (hs : Vs g N T P) : eqL g (daysF g N T P k).1 ∧ Vs (daysF g N T P k).1 N T P :=
  itr_inv (fun (_ : Nat) (x : (Nat → Int32) × Int32) => eqL g x.1 ∧ Vs x.1 N T P) ⟨eqL_rf, hs⟩ (fun i x _ hx => by
    have := Vs_day (Vd_congr hx.1 hV) hx.2
    exact ⟨eqL_tr hx.1 this.1, this.2⟩)
theorem op_days {L d : Nat} {s : pm_S} {M : pm_M} {v : Int32} (hd : 12 ≤ d) (hI : Inv L s M) : cI d yG_days [.ref 0, .int v] s M (fun r s1 M1 => cI d yM_days [.ref 159, .int v] s1 M1 (same L r)) := by
  obtain ⟨d, rfl⟩ : ∃ e, d = e + 1 := ⟨d - 1, by omega⟩
  obtain ⟨g, N, T, P, x, n, hc⟩ := Inv_ctx hI
  have hc' := hc
  obtain ⟨a1, a2, a3, a4, a5, a6, a7, a8, a9, a10, a11, a12, a13⟩ := hc
  have h8 : T ≤ 8 := a4.2.2.2.2.2.2.1
  have h6 : P ≤ 6 := a4.2.2.2.2.2.2.2.1
  have no : ¬ (nI 1 ≤ v ∧ v ≤ nI 99) → cI (d + 1) yM_days [.ref 159, .int v] s M (same L (-3)) := by
    intro h
    refine enM_days ?_
    rw [lL 1, lL 99]
    refine sp_within2 (by omega) (fun h2 => absurd ((wi_int (by omega) (by omega)).mp h2) h) (fun _ => br_t rfl ⟨rfl, ?_⟩)
    exact ctx_same hc' off_rf (Rf_159 (by omega)) (by rw [si_ne (by decide)]; exact a3)
  refine enG_days (br_c (fun c1 => no (fun q => ?_)) (fun c1 => br_c (fun c2 => ?_) (fun c2 => no (fun q => c2 q.2))))
  · rw [l1] at c1; exact i_nlt q.1 c1
  have hv : nI 1 ≤ v ∧ v ≤ nI 99 := ⟨i_le c1, c2⟩
  obtain ⟨k, hk, rfl⟩ := nI_of2 (M := 99) (n := 99) (by decide) (i_nlt (by have := hv.1; rw [← l1] at this; grind)) c2
  refine sp_sbecome (by omega) isS_32 isS_27 (by omega) h8 h6 a10 (fun M1 s1 o1 => ?_)
  have o1' := b32 o1
  refine loop_mem (L := fun i (y : (Nat → Int32) × Int32) M1 => wG_days d 29 [.ref 0, .int (nI k), .int y.2, .int (nI i)] [] s M1 (fun r s1 M1 => cI (d + 1) yM_days [.ref 159, .int (nI k)] s1 M1 (same L r))) (I := fun y M1 => SR M1 32 y.1 T P ∧ off C32 M M1) (f := fun _ x => ((dayF x.1 N T P).1, x.2 + (dayF x.1 N T P).2)) (e := k) (a0 := (g, 0)) ?_ ?_ M1 ⟨s1, o1'⟩
  · intro M2 h2
    obtain ⟨s2, o2'⟩ := h2
    have hd2 : itr (fun (_ : Nat) (x : (Nat → Int32) × Int32) => ((dayF x.1 N T P).1, x.2 + (dayF x.1 N T P).2)) k (g, 0) = daysF g N T P k := rfl
    rw [hd2] at s2 ⊢
    have hs27 : SR M2 27 g T P := SR_off o2' a10 (by decide)
    have e0 := (o2' 0 (by decide)).1
    refine sgG_days_29 (br_t (by rw [nI_leP (by omega) (by omega)]; exact Nat.le_refl _) ?_)
    refine sp_agreed (by omega) h8 h6 a7 a6 (by rw [e0]; exact a12) (by rw [e0]; exact a13) hs27 s2 (fun M3 hC3 => ?_)
    have hC := Cm_pre o2' hC3
    have g3 := Cm_160 a7 hC a3
    refine enM_days ?_
    rw [lL 1, lL 99]
    refine sp_within2 (by omega) (fun _ => br_f (by decide) ?_) (fun h => absurd ((wi_int (by omega) (by omega)).mpr hv) h)
    refine ref_keep (g := g) (by omega) (by rw [si_ne (by decide)]; exact g3) (fun M4 g4 w4 f4 => ?_)
    refine loop_mem (L := fun i (y : (Nat → Int32) × Int32) Mx => wM_days d 28 [.ref 159, .int (nI k), .int y.2, .int (nI i)] [] s Mx (same L (daysF g N T P k).2)) (I := fun y Mx => Mx.1 160 = y.1 ∧ off [160, 164, 165] M4 Mx ∧ eqL g y.1 ∧ Vs y.1 N T P) (f := fun _ x => ((dayF x.1 N T P).1, x.2 + (dayF x.1 N T P).2)) (e := k) (a0 := (g, 0)) ?_ ?_ M4 ⟨g4, off_rf, eqL_rf, a9⟩
    · intro M5 h5
      obtain ⟨g5, o5, he, w⟩ := h5
      rw [hd2] at g5 he w ⊢
      refine sgM_days_28 (br_t (by rw [nI_leP (by omega) (by omega)]; exact Nat.le_refl _) ?_)
      refine ref_notes (g := g) (by omega) g5 (by rw [he 78 (by omega)]; exact a11) a6 (fun j hj => by rw [(o5 166 (by decide)).1]; exact w4 j hj) (fun M6 w6 g6 e6 _ f6 => ⟨rfl, ?_⟩)
      exact ctx_commit hc' hC (Rf_tr (Rf_159 (k := 0) (v := 0) (by omega)) (Rf_tr f4 (Rf_tr (Rf_off o5 (by decide)) f6))) g6 e6 he w
    · intro i M5 hi h5 hkk
      generalize itr _ i _ = y at h5 hkk ⊢
      obtain ⟨g5, o5, he, w⟩ := h5
      refine sgM_days_28 (br_f (by rw [nI_leP (by omega) (by omega)]; omega) (sp_goesDay (by omega) g5 (Vd_congr he a4.2) (fun M6 g6 o6 => ?_)))
      have z := Vs_day (Vd_congr he a4.2) w
      rw [nI_1]
      exact hkk M6 ⟨g6, off_tr o5 o6, eqL_tr he z.1, z.2⟩
  · intro i M2 hi h2 hkk
    have hx := Vs_days (k := i) a4.2 a9
    have hd2 : itr (fun (_ : Nat) (x : (Nat → Int32) × Int32) => ((dayF x.1 N T P).1, x.2 + (dayF x.1 N T P).2)) i (g, 0) = daysF g N T P i := rfl
    rw [hd2] at h2 hkk ⊢
    obtain ⟨s2, o2'⟩ := h2
    refine sgG_days_29 (br_f (by rw [nI_leP (by omega) (by omega)]; omega) (sp_passDay (by omega) (LV_off o2' (LV_eqL hx.1 a4)) hx.2 s2 (fun M3 s3 o3 => ?_)))
    rw [nI_1]
    exact hkk M3 ⟨s3, off_tr o2' o3⟩
/-! undoing -/
theorem floorMod10 {x k : Nat} (hx : x < 10) (h1 : 1 ≤ k) (hk : k ≤ 10) {d : Nat} {s : pm_S} {M : pm_M} {Q : Int32 → pm_S → pm_M → Prop} (hd : 1 ≤ d) (hq : Q (nI ((x + 10 - k) % 10)) s M) : cI d ymath_floorMod [.int (nI x - nI k), .int 10] s M Q := by
  obtain ⟨d, rfl⟩ : ∃ e, d = e + 1 := ⟨d - 1, by omega⟩
  have key : ∀ a, a < 10 → ∀ b, b < 11 → 1 ≤ b → (if (0 : Int32) ≤ ((nI a - nI b) ^^^ 10) then (nI a - nI b) - (nI a - nI b) / 10 * 10 else if (nI a - nI b) - (nI a - nI b) / 10 * 10 = 0 then (nI a - nI b) - (nI a - nI b) / 10 * 10 else (nI a - nI b) - (nI a - nI b) / 10 * 10 + 10) = nI ((a + 10 - b) % 10) := by decide +kernel
  have q := key x hx k (by omega) h1
  refine enmath_floorMod ⟨by decide, br_c (fun c => ?_) (fun c => br_c (fun c2 => ?_) (fun c2 => ?_))⟩
  · rw [if_pos c] at q; rw [q]; exact hq
  · rw [if_neg c, if_pos c2] at q; rw [q]; exact hq
  · rw [if_neg c, if_neg c2] at q; rw [q]; exact hq
