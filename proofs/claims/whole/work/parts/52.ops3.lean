theorem wi_int {y : Int32} {a b : Nat} (ha : a < 2 ^ 31) (hb : b < 2 ^ 31) : (lN a ≤ y.toInt64 ∧ y.toInt64 ≤ lN b) ↔ (nI a ≤ y ∧ y ≤ nI b) := by
  rw [le_lN ha, lN_le' hb, Int32.le_iff_toInt_le, Int32.le_iff_toInt_le, nI_toInt ha, nI_toInt hb, Int32.toInt_toInt64]
theorem wi_inI {y : Int32} {b : Nat} (hb : b < 2 ^ 29) : (lN 0 ≤ y.toInt64 ∧ y.toInt64 ≤ lN b) ↔ inI y (b + 1) := by
  rw [wi_int (by omega) (by omega), inI_iff (by omega), ← l0]
  have e : (nI (b + 1) ≤ y) ↔ ¬ (y ≤ nI b) := by
    rw [Int32.le_iff_toInt_le, Int32.le_iff_toInt_le, nI_toInt (by omega), nI_toInt (by omega)]
    omega
  rw [e]
  constructor
  · intro h; exact ⟨i_nlt h.1, fun q => q h.2⟩
  · intro h
    exact ⟨i_le h.1, Classical.byContradiction h.2⟩
theorem ixN_i {v : Int32} {n p : Nat} (h : ixN v.toInt64 n = some p) (hn : n < 2 ^ 30) : v = nI p := by
  have hp := ixN_lt h
  have q := ixN_eq h hn
  rw [← nI_l (by omega)] at q
  have := congrArg Int64.toInt32 q
  simpa using this
theorem enS_borneBy_ {d : Nat} {s : pm_S} {M : pm_M} {x1 : Int32} {Q : Int32 → pm_S → pm_M → Prop} (hd : 1 ≤ d) (h : (¬ (x1 < 0) → (¬ (6 ≤ x1) → vp_in x1 6)) ∧ Q ((if x1 < 0 then 0 else (if 6 ≤ x1 then 0 else (M.1 36 x1.toNatClampNeg)))) s M) : cI d yS_borneBy [.ref 32, .int x1] s M Q := by
  obtain ⟨d, rfl⟩ : ∃ e, d = e + 1 := ⟨d - 1, by omega⟩
  exact enS_borneBy h
theorem op_open {L d : Nat} {s : pm_S} {M : pm_M} {v : Int32} (hd : 12 ≤ d) (hI : Inv L s M) : cI d yG_open [.ref 0, .int v] s M (fun r s1 M1 => cI d yM_open [.ref 159, .int v] s1 M1 (same L r)) := by
  obtain ⟨d, rfl⟩ : ∃ e, d = e + 1 := ⟨d - 1, by omega⟩
  obtain ⟨g, N, T, P, x, n, hc⟩ := Inv_ctx hI
  have hc' := hc
  obtain ⟨a1, a2, a3, a4, a5, a6, a7, a8, a9, a10, a11, a12, a13⟩ := hc
  have h8 : T ≤ 8 := a4.2.2.2.2.2.2.1
  have h6 : P ≤ 6 := a4.2.2.2.2.2.2.2.1
  refine enG_open (sp_sbecome (by omega) isS_32 isS_27 (by omega) h8 h6 a10 (fun M1 s1 o1 => ?_))
  have o1' := b32 o1
  refine sp_tryOpen (by omega) (LV_off o1' a4) s1 (fun M2 s2 o2 => ?_)
  have o2' := off_tr o1' o2
  refine br_c (fun c => ?_) (fun c => ?_)
  · rw [if_pos c] at s2
    cases hx : ixN v.toInt64 P with
    | none => rw [hx] at c; exact absurd c n10
    | some p =>
      have hp := ixN_lt hx
      have ev := ixN_i hx (by omega)
      subst ev
      have w0 := c
      rw [nI_l (by omega)] at w0
      obtain ⟨_, t, ht, hb⟩ := whyOpen_0 (by omega) w0
      rw [nI_clamp (by omega)] at s2
      have hs27 : SR M2 27 g T P := SR_off o2' a10 (by decide)
      have e0 := (o2' 0 (by decide)).1
      refine enS_borneBy_ (d := d) (by omega) ⟨fun _ _ => vpI (by omega) (by omega), ?_⟩
      have e36 : M2.1 36 p = openF g T p (72 + p) := (s2.2.2.2.2.1 p hp).2
      rw [if_neg (nI_pos (by omega)), if_neg (by rw [lI 6, nI_leP (by omega) (by omega)]; omega), nI_clamp (by omega), e36]
      refine sp_agreed (by omega) h8 h6 a7 a6 (by rw [e0]; exact a12) (by rw [e0]; exact a13) hs27 s2 (fun M3 hC3 => ?_)
      have hC := Cm_pre o2' hC3
      have g3 := Cm_160 a7 hC a3
      refine enM_open (sp_whyOpen (g := g) (by omega) (by rw [si_ne (by decide)]; exact g3) a4.2 (fun Ma oa => br_t c ?_))
      have fa := Rf_off oa (by decide)
      have ga : Ma.1 160 = g := by rw [(oa 160 (by decide)).1, si_ne (by decide)]; exact g3
      refine ref_keep (g := g) (by omega) ga (fun M4 g4 w4 f4 => ?_)
      refine sp_opens1 (by omega) g4 a4.2 hp ht (fun M5 g5 o5 => ?_)
      have f5 := Rf_off o5 (by decide)
      have w := Vs_open a4.2 a9 hp ht hb
      have he : eqL g (openF g T p) := by
        have := (heldF_lt ht).1
        unfold openF; rw [ht]
        exact eqL_row (eqL_row eqL_rf (by omega) (by omega)) (by omega) (by omega)
      refine ref_notes (g := g) (by omega) g5 (by rw [he 78 (by omega)]; exact a11) a6 (fun j hj => by rw [(o5 166 (by decide)).1]; exact w4 j hj) (fun M6 w6 g6 e6 _ f6 => ?_)
      rw [lI 72, nI_add, nI_clamp (by omega), g6, noteF_out a6 (by omega)]
      refine ⟨vpI (by omega) (by omega), rfl, ?_⟩
      exact ctx_commit hc' hC (Rf_tr (Rf_159 (k := 0) (v := 0) (by omega)) (Rf_tr fa (Rf_tr f4 (Rf_tr f5 f6)))) g6 e6 he w
  · have g2 := r160 o2' (by decide) a3
    refine enM_open (sp_whyOpen (g := g) (by omega) (by rw [si_ne (by decide)]; exact g2) a4.2 (fun Ma oa => br_f c ⟨rfl, ?_⟩))
    exact ctx_same hc' o2' (Rf_tr (Rf_159 (k := 0) (v := 0) (by omega)) (Rf_off oa (by decide))) (by rw [(oa 160 (by decide)).1, si_ne (by decide)]; exact g2)
theorem op_swap {L d : Nat} {s : pm_S} {M : pm_M} {v u : Int32} (hd : 12 ≤ d) (hI : Inv L s M) : cI d yG_swap [.ref 0, .int v, .int u] s M (fun r s1 M1 => cI d yM_swap [.ref 159, .int v, .int u] s1 M1 (same L r)) := by
  obtain ⟨d, rfl⟩ : ∃ e, d = e + 1 := ⟨d - 1, by omega⟩
  obtain ⟨g, N, T, P, x, n, hc⟩ := Inv_ctx hI
  have hc' := hc
  obtain ⟨a1, a2, a3, a4, a5, a6, a7, a8, a9, a10, a11, a12, a13⟩ := hc
  have h8 : T ≤ 8 := a4.2.2.2.2.2.2.1
  have h6 : P ≤ 6 := a4.2.2.2.2.2.2.2.1
  refine enG_swap (sp_sbecome (by omega) isS_32 isS_27 (by omega) h8 h6 a10 (fun M1 s1 o1 => ?_))
  have o1' := b32 o1
  refine sp_trySwap (by omega) (LV_off o1' a4) s1 (fun M2 s2 o2 => ?_)
  have o2' := off_tr o1' o2
  refine br_c (fun c => ?_) (fun c => ?_)
  · rw [if_pos c] at s2
    cases hx : ixN v.toInt64 P with
    | none => rw [hx] at c; exact absurd c n10
    | some p =>
      cases hy : ixN u.toInt64 P with
      | none => rw [hx, hy] at c; exact absurd c n10
      | some q =>
        have hp := ixN_lt hx
        have hqq := ixN_lt hy
        have ev := ixN_i hx (by omega)
        have eu := ixN_i hy (by omega)
        subst ev
        subst eu
        have w0 := c
        rw [nI_l (by omega), nI_l (by omega)] at w0
        obtain ⟨_, _, hne, ⟨a, ha⟩, ⟨b, hb⟩⟩ := whySwap_0 (by omega) (by omega) w0
        rw [nI_clamp (by omega), nI_clamp (by omega)] at s2
        have hs27 : SR M2 27 g T P := SR_off o2' a10 (by decide)
        have e0 := (o2' 0 (by decide)).1
        refine sp_heldThing (by omega) isS_32 s2 h8 (by omega) ?_
        refine sp_agreed (by omega) h8 h6 a7 a6 (by rw [e0]; exact a12) (by rw [e0]; exact a13) hs27 s2 (fun M3 hC3 => ?_)
        have hC := Cm_pre o2' hC3
        have g3 := Cm_160 a7 hC a3
        refine enM_swap (sp_whySwap (g := g) (by omega) (by rw [si_ne (by decide)]; exact g3) a4.2 (br_t c ?_))
        refine ref_keep (g := g) (by omega) (by rw [si_ne (by decide)]; exact g3) (fun M4 g4 w4 f4 => ?_)
        refine sp_swaps (by omega) g4 a4.2 ha hb (fun M5 g5 o5 => ?_)
        have f5 := Rf_off o5 (by decide)
        have w := Vs_swap a4.2 a9 hp hqq hne ha hb
        have he : eqL g (swapF g T p q) := by
          have := (heldF_lt ha).1
          have := (heldF_lt hb).1
          unfold swapF; rw [ha, hb]
          exact eqL_row (eqL_row eqL_rf (by omega) (by omega)) (by omega) (by omega)
        refine ref_notes (g := g) (by omega) g5 (by rw [he 78 (by omega)]; exact a11) a6 (fun j hj => by rw [(o5 166 (by decide)).1]; exact w4 j hj) (fun M6 w6 g6 e6 _ f6 => ?_)
        refine sp_heldByN (g := noteF (swapF g T p q) n w6) (by omega) g6 (by rw [noteF_out a6 (by omega), he 2 (by omega)]; exact a4.2.2.1) h8 ⟨?_, ?_⟩
        · rw [heldF_congr (fun t ht => noteF_out a6 (by omega))]
        · exact ctx_commit hc' hC (Rf_tr (Rf_159 (k := 0) (v := 0) (by omega)) (Rf_tr f4 (Rf_tr f5 f6))) g6 e6 he w
  · have g2 := r160 o2' (by decide) a3
    refine enM_swap (sp_whySwap (g := g) (by omega) (by rw [si_ne (by decide)]; exact g2) a4.2 (br_f c ⟨rfl, ?_⟩))
    exact ctx_same hc' o2' (Rf_159 (by omega)) (by rw [si_ne (by decide)]; exact g2)
theorem pow8 {b : Nat → Bool} {T : Nat} (h : T ≤ 8) : setF b T < 1024 := by
  have h1 := setF_lt (b := b) (n := T)
  have h2 : 2 ^ T ≤ 2 ^ 8 := Nat.pow_le_pow_right (by omega) h
  omega
theorem op_fetch {L d : Nat} {s : pm_S} {M : pm_M} {v u : Int32} (hd : 12 ≤ d) (hI : Inv L s M) : cI d yG_fetch [.ref 0, .int v, .int u] s M (fun r s1 M1 => cI d yM_fetch [.ref 159, .int v, .int u] s1 M1 (same L r)) := by
  obtain ⟨d, rfl⟩ : ∃ e, d = e + 1 := ⟨d - 1, by omega⟩
  obtain ⟨g, N, T, P, x, n, hc⟩ := Inv_ctx hI
  have hc' := hc
  obtain ⟨a1, a2, a3, a4, a5, a6, a7, a8, a9, a10, a11, a12, a13⟩ := hc
  have h8 : T ≤ 8 := a4.2.2.2.2.2.2.1
  have h6 : P ≤ 6 := a4.2.2.2.2.2.2.2.1
  refine enG_fetch (sp_sbecome (by omega) isS_32 isS_27 (by omega) h8 h6 a10 (fun M1 s1 o1 => ?_))
  have o1' := b32 o1
  refine sp_tryFetch (by omega) (LV_off o1' a4) s1 (fun M2 s2 o2 => ?_)
  have o2' := off_tr o1' o2
  refine br_c (fun c => ?_) (fun c => ?_)
  · rw [if_pos c] at s2
    cases hx : ixN v.toInt64 P with
    | none => rw [hx] at c; exact absurd c n10
    | some p =>
      cases hy : ixN u.toInt64 T with
      | none => rw [hx, hy] at c; exact absurd c n10
      | some t =>
        have hp := ixN_lt hx
        have htt := ixN_lt hy
        have ev := ixN_i hx (by omega)
        have eu := ixN_i hy (by omega)
        subst ev
        subst eu
        have w0 := c
        rw [nI_l (by omega), nI_l (by omega)] at w0
        obtain ⟨_, _, hh, _⟩ := whyFetch_0 (by omega) (by omega) w0
        rw [nI_clamp (by omega), nI_clamp (by omega)] at s2
        have hs27 : SR M2 27 g T P := SR_off o2' a10 (by decide)
        have e0 := (o2' 0 (by decide)).1
        refine sp_officeBits (by omega) isS_32 s2 h8 (sp_bitCount (by omega) (pow8 h8) ?_)
        refine sp_agreed (by omega) h8 h6 a7 a6 (by rw [e0]; exact a12) (by rw [e0]; exact a13) hs27 s2 (fun M3 hC3 => ?_)
        have hC := Cm_pre o2' hC3
        have g3 := Cm_160 a7 hC a3
        refine enM_fetch (sp_whyFetch (g := g) (by omega) (by rw [si_ne (by decide)]; exact g3) a4.2 (fun Ma oa => br_t c ?_))
        have fa := Rf_off oa (by decide)
        have ga : Ma.1 160 = g := by rw [(oa 160 (by decide)).1, si_ne (by decide)]; exact g3
        refine ref_keep (g := g) (by omega) ga (fun M4 g4 w4 f4 => ?_)
        rw [lI 50, lI 10, nI_add, nI_add, nI_clamp (by omega)]
        refine ⟨vpI (by omega) (by omega), ?_⟩
        have w := Vs_fetch a4.2 a9 hp htt hh
        have he : eqL g (fetchF g p t) := eqL_row eqL_rf (by omega) (by omega)
        refine ref_notes (g := g) (g' := fetchF g p t) (by omega) (by rw [si_eq, g4]; rfl) (by rw [he 78 (by omega)]; exact a11) a6 (fun j hj => by rw [si_ne (by decide)]; exact w4 j hj) (fun M6 w6 g6 e6 _ f6 => ?_)
        refine sp_officeSet (g := noteF (fetchF g p t) n w6) (by omega) g6 (by rw [noteF_out a6 (by omega), he 2 (by omega)]; exact a4.2.2.1) h8 (sp_bitsOf (by omega) ⟨?_, ?_⟩)
        · have e : setF (offB (noteF (fetchF g p t) n w6)) T = setF (offB (fetchF g p t)) T := setF_congr (fun i hi => by unfold offB; rw [noteF_out a6 (by omega)])
          rw [e]
        · exact ctx_commit hc' hC (Rf_tr (Rf_159 (k := 0) (v := 0) (by omega)) (Rf_tr fa (Rf_tr f4 (Rf_tr (Rf_off (off_si off_rf (by decide : 160 ∈ [160])) (by decide)) f6)))) g6 e6 he w
  · have g2 := r160 o2' (by decide) a3
    refine enM_fetch (sp_whyFetch (g := g) (by omega) (by rw [si_ne (by decide)]; exact g2) a4.2 (fun Ma oa => br_f c ⟨rfl, ?_⟩))
    exact ctx_same hc' o2' (Rf_tr (Rf_159 (k := 0) (v := 0) (by omega)) (Rf_off oa (by decide))) (by rw [(oa 160 (by decide)).1, si_ne (by decide)]; exact g2)
