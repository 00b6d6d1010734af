theorem lo_SC : ∀ c, c ∈ [159, 164, 165, 174, 175, 176, 177] → c ∈ SC := by decide
theorem iTray_rows {M M' : pm_M} {r n : Nat} {z : Nat → Int64} (hT : iTray M) (hr : r < 4) (hn : n ≤ 40) (h1 : M'.1 = M.1) (h2 : ∀ j, M'.2 (117 + 2 * r + 1) j = if j < n then z j else M.2 (117 + 2 * r + 1) j) (h3 : ∀ i, M'.2 184 i = if 40 * r ≤ i ∧ i < 40 * r + n then z (i - 40 * r) else M.2 184 i) (h4 : ∀ r', r' < 4 → r' ≠ r → M'.2 (117 + 2 * r' + 1) = M.2 (117 + 2 * r' + 1)) : iTray M' := by
  intro r' hr'
  rw [h1]
  rcases hT r' hr' with q | ⟨m, q, q1, q2, q3, q4, q5, q6, q7⟩
  · exact Or.inl q
  · refine Or.inr ⟨m, q, q1, q2, q3, q4, by rw [h1]; exact q5, q6, fun j hj => ?_⟩
    show M'.2 (117 + 2 * r' + 1) j = M'.2 184 (40 * r' + j)
    rw [h3]
    by_cases e : r' = r
    · subst e
      rw [h2]
      by_cases c : j < n
      · rw [if_pos c, if_pos (by omega)]; congr 1; omega
      · rw [if_neg c, if_neg (by omega)]; exact q7 j hj
    · rw [h4 r' hr' e, if_neg (by omega)]; exact q7 j hj
theorem Inv_rows {L : Nat} {s s' : pm_S} {M M' : pm_M} {r n : Nat} {z : Nat → Int64} (hI : Inv L s M) (hs : okS L s') (h : ∀ c, c ∉ SC → M'.1 c = M.1 c) (h5 : M'.1 159 5 = M.1 159 5) (h13 : M'.1 159 13 = M.1 159 13) (h14 : M'.1 159 14 = M.1 159 14) (hr : r < 4) (hn : n ≤ 40) (h2 : ∀ j, M'.2 (117 + 2 * r + 1) j = if j < n then z j else M.2 (117 + 2 * r + 1) j) (h3 : ∀ i, M'.2 184 i = if 40 * r ≤ i ∧ i < 40 * r + n then z (i - 40 * r) else M.2 184 i) (h4 : ∀ r', r' < 4 → r' ≠ r → M'.2 (117 + 2 * r' + 1) = M.2 (117 + 2 * r' + 1)) : Inv L s' M' := by
  have I2 : Inv L s' (M'.1, M.2) := Inv_scr1 hI hs h (fun _ _ => rfl) h5 h13 h14
  obtain ⟨t1, t2, t3⟩ := I2.2.1
  exact Inv_rest I2 (fun _ _ => rfl) ⟨iTape_cells (fun _ _ => rfl) rfl rfl rfl t1, iTray_rows t2 hr hn rfl h2 h3 h4, iImg_cells (fun _ _ => rfl) t3⟩
theorem cut_small : ∀ q, q < 4 → ∀ t, t < 9 → cutF (nI q) (nI t).toInt64 = lN t := by decide +kernel
theorem sp_noTrayP {d : Nat} {s : pm_S} {M : pm_M} {r q : Nat} {Q : Int32 → pm_S → pm_M → Prop} (hd : 2 ≤ d) (hr : r < 4) (hq4 : q < 4) (h : M.1 182 r = nI q) (hq : Q 0 s M) : cI d yM_noTray [.ref 159, .int (nI r)] s M Q := by
  obtain ⟨d, rfl⟩ : ∃ e, d = e + 1 := ⟨d - 1, by omega⟩
  refine enM_noTray ?_
  rw [lL 0, lL 3]
  refine sp_within2 (by omega) (fun _ => ⟨fun _ => vpI (by omega) (by omega), ?_⟩) (fun z => absurd ((wi_inI (by omega)).mpr ⟨r, hr, rfl⟩) z)
  rw [if_neg (by decide), nI_clamp (by omega), h, if_neg (by rw [m1_ne (by omega)]; exact id)]
  exact hq
theorem stp_lt {b : Nat → Nat → Nat} {B S i : Nat} (hS : S < 256) (hD : fd b B S 0 < 14) (hi : i < pcN S) : stp b B (stF b B S i) < 8 := by
  obtain ⟨a1, a2, a3⟩ := stF_ok (b := b) (B := B) (S := S) rfl hD hS i (by omega)
  have x256 : (stF b B S i).1 < 256 := by omega
  have x0 : (stF b B S i).1 ≠ 0 := fun z => by
    have := (pc0 x256).mpr z
    omega
  exact (stp_ok hD x256 x0 a1).2.1
theorem op_lists {L d : Nat} {s : pm_S} {M : pm_M} {v u w : Int32} (hd : 40 ≤ d) (hI : Inv L s M) : cI d yG_lists [.ref 0, .int v, .int u, .int w] s M (fun r s1 M1 => cI d yM_lists [.ref 159, .int v, .int u, .int w] s1 M1 (same L r)) := by
  obtain ⟨d, rfl⟩ : ∃ e, d = e + 1 := ⟨d - 1, by omega⟩
  obtain ⟨g, N, T, P, x, n, hc⟩ := Inv_ctx hI
  have rd := ctx_read hc
  obtain ⟨a1, a2, a3, a4, a5, a6, a7, a8, a9, a10, a11, a12, a13⟩ := hc
  have h8 : T ≤ 8 := a4.2.2.2.2.2.2.1
  have h6 : P ≤ 6 := a4.2.2.2.2.2.2.2.1
  have h256 := pow_le8 h8
  have h2 := a4.2.2.1
  have h3 := a4.2.2.2.1
  have iT := a2.2.1
  have e0 : (pm_si M 159 0 0).1 160 = g := by rw [si_ne (by decide)]; exact a3
  have no2 : ¬ (inI v 4 ∧ inI u P) → cI (d + 1) yM_lists [.ref 159, .int v, .int u, .int w] s M (same L (-2)) := by
    intro h
    refine enM_lists ?_
    rw [lL 0, lL 3]
    refine sp_within2 (by omega) (fun z => br_f (by decide) ?_) (fun _ => br_t rfl ⟨rfl, rd⟩)
    exact sp_isPerson (n := P) (by omega) (by rw [e0]; exact h3) h6 (fun y => absurd ⟨(wi_inI (by omega)).mp z, (inN_i (by omega)).mp y⟩ h) (fun _ => br_t rfl ⟨rfl, rd⟩)
  refine enG_lists (sp_hasTray (by omega) (fun hv => br_f (by decide) ?_) (fun hv => br_t rfl (no2 (fun q => hv q.1))))
  refine sp_hasPerson (by omega) (a4.1.2.2.1.trans h3) h6 (fun hu => br_f (by decide) ?_) (fun hu => br_t rfl (no2 (fun q => hu q.2)))
  have hv' := hv
  have hu' := (inN_i (p := u) (n := P) (by omega)).mpr hu
  obtain ⟨r, hr, rfl⟩ := hv
  obtain ⟨p, hp, rfl⟩ := hu
  have v4 : vp_in (nI r) 4 := vpI (by omega) (by omega)
  refine ⟨v4, fun o eo ho => ?_⟩
  rw [nI_clamp (by omega)] at eo
  subst eo
  -- up to the tray
  have enR : ∀ s' M' (Q : Int32 → pm_S → pm_M → Prop), M'.1 160 = g → cI d yM_noTray [.ref 159, .int (nI r)] s' (pm_si M' 159 0 0) (fun r3 s3 M3 => (((r3 = 0) → cI d yM_isSet [.ref 159, .int w] s3 M3 (fun r4 s4 M4 => ((r4 = 0 → Q (-3) s4 M4) ∧ (¬ (r4 = 0) → cI d yM_laysOpening [.ref 159, .int (nI p), .int w] s4 M4 (fun r5 s5 M5 => ((r5 = (-1) → Q (-5) s5 M5) ∧ (¬ (r5 = (-1)) → cI d yM_bitsOf [.int w] s5 M5 (fun r6 s6 M6 => vp_in (nI r) 4 ∧ ((((M6.1 183 (nI r).toNatClampNeg) ≤ r6) → vp_in (nI r) 4 ∧ wM_lists d 99 [.ref 159, .int (nI r), .null, .null, .null, .int (M6.1 183 (nI r).toNatClampNeg), .int 0] [] s6 M6 Q) ∧ (¬ ((M6.1 183 (nI r).toNatClampNeg) ≤ r6) → cI d yM_bitsOf [.int w] s6 M6 (fun r7 s7 M7 => wM_lists d 99 [.ref 159, .int (nI r), .null, .null, .null, .int r7, .int 0] [] s7 M7 Q))))))))))) ∧ (¬ (r3 = 0) → Q r3 s3 M3))) → cI (d + 1) yM_lists [.ref 159, .int (nI r), .int (nI p), .int w] s' M' Q := by
    intro s' M' Q g' h
    refine enM_lists ?_
    rw [lL 0, lL 3]
    refine sp_within2 (by omega) (fun _ => br_f (by decide) ?_) (fun z => absurd ((wi_inI (by omega)).mpr hv') z)
    exact sp_isPerson (n := P) (by omega) (by rw [si_ne (by decide), g']; exact h3) h6 (fun _ => br_f (by decide) h) (fun z => absurd hu' z)
  refine sp_isMissing (by omega) hr iT (fun m1 => br_f (by decide) (enR s M _ a3 ?_)) (fun m q q0 q2 q3 q4 q5 => br_t rfl ?_)
  · refine sp_noTray (by omega) (iTray_159 iT) (fun h => absurd ⟨r, hr, rfl⟩ h) (fun _ _ _ _ => br_f (by decide) ⟨rfl, rd⟩) (fun r' m q hr' e q1 q2 => ?_)
    rw [nI_inj (by omega) (by omega)] at e
    subst e
    rw [si_ne (by decide), m1] at q2
    exact absurd q2.symm (by rw [m1_ne (by omega)]; exact id)
  have h40 := q5.2.1
  refine sp_hasSet (by omega) (a4.1.2.1.trans h2) h8 (fun hw => br_f (by decide) ?_) (fun hw => br_t rfl (enR s M _ a3 (sp_noTrayP (by omega) hr q0 (by rw [si_ne (by decide)]; exact q2) (br_t rfl (sp_isSet (by omega) (by rw [e0]; exact h2) h8 (fun z => absurd z hw) (fun _ => br_t rfl ⟨rfl, rd⟩))))))
  have hw' := hw
  obtain ⟨S, hS, rfl⟩ := hw
  obtain ⟨B, hB99, hB⟩ := (a4.2.2.2.2.2.2.2.2.2.2.1 p hp).2
  obtain ⟨pcS, pc8⟩ := pc_k S (by omega)
  refine sp_nbegin (L := L) (by omega) a1 a4 a10 hp hB hB99 (fun s' M1 ok' hs' n1 o1 => ?_)
  refine sp_findOrder (L := L) (by omega) ok' hs' a4.2 hp hB99 hS (LR_off o1 a4.1 (by decide)) n1 (fun s2 M2 ok2 f2 o2 => ?_)
  have sc2 : Scr M M2 := Scr_tr (Scr_off o1 (by decide)) (Scr_off o2 (by decide))
  refine sp_bitCount (by omega) (by omega) ?_
  rw [pcS]
  by_cases hD : fd (bO g p) B S 0 < 14
  · rw [if_pos hD]
    refine br_t (by rw [nI_leP (by omega) (by omega)]; exact Nat.le_refl _) ?_
    have e2 : M2.1 (117 + 2 * r) 2 = nI m := by rw [Scr_c sc2 (KEEP_SC (KEEP_tray hr (by omega) (by omega)))]; exact q5.1
    have e1 : M2.1 (117 + 2 * r) 1 = nI q := by rw [Scr_c sc2 (KEEP_SC (KEEP_tray hr (by omega) (by omega)))]; exact q3
    rw [e2]
    refine sp_min (by omega) ?_
    have em : (if nI m < nI (pcN S) then nI m else nI (pcN S)) = nI (min (pcN S) m) := by
      by_cases y : m < pcN S
      · rw [if_pos (by rw [nI_ltP (by omega) (by omega)]; exact y), Nat.min_eq_right (by omega)]
      · rw [if_neg (by rw [nI_ltP (by omega) (by omega)]; exact y), Nat.min_eq_left (by omega)]
    rw [em]
    obtain ⟨F, hF, hF1, hF2⟩ : ∃ F, min (pcN S) m = F ∧ F ≤ pcN S ∧ F ≤ m := ⟨_, rfl, Nat.min_le_left _ _, Nat.min_le_right _ _⟩
    rw [hF]
    refine loop_up (L := fun i M3 => wG_lists d 108 [.ref 0, .null, .null, .null, .ref (117 + 2 * r), .null, .int (nI F), .int (nI i)] [] s2 M3 _) (I := fun i M3 => M3.1 = M2.1 ∧ (∀ j, M3.2 (117 + 2 * r + 1) j = if j < i then lN (stp (bO g p) B (stF (bO g p) B S j)) else M2.2 (117 + 2 * r + 1) j) ∧ ∀ c, c ≠ 117 + 2 * r + 1 → M3.2 c = M2.2 c) (e := F) ?_ ?_ M2 ⟨rfl, fun j => by rw [if_neg (by omega)], fun _ _ => rfl⟩
    · rintro M3 ⟨b1, b2, b3⟩
      refine sgG_lists_108 ho (br_t (by rw [nI_leP (by omega) (by omega)]; exact Nat.le_refl _) ?_)
      have c1 : ∀ c, c ∉ SC → M3.1 c = M.1 c := fun c hc => by rw [b1]; exact sc2.1 c hc
      have g3 : M3.1 160 = g := (c1 160 (by decide)).trans a3
      refine enR s2 M3 _ g3 (sp_noTrayP (by omega) hr q0 (by rw [si_ne (by decide), c1 182 (by decide)]; exact q2) (br_t rfl ?_))
      have g3' : (pm_si M3 159 0 0).1 160 = g := by rw [si_ne (by decide)]; exact g3
      refine sp_isSet (by omega) (by rw [g3']; exact h2) h8 (fun _ => br_f (by decide) ?_) (fun z => absurd hw' z)
      refine sp_laysOpening (by omega) g3' a4.2 hp hB hB99 hS (fun M4 f4 k4 o4 => ?_)
      rw [dy_m1 (by omega)]
      refine br_f (by omega) (sp_bitsOf (by omega) ?_)
      have e183 : M4.1 183 r = nI m := by rw [(o4 183 (by decide)).1, si_ne (by decide), c1 183 (by decide)]; exact q4
      rw [pcS, nI_clamp (by omega), e183]
      refine ⟨v4, ?_⟩
      have wr : wM_lists d 99 [.ref 159, .int (nI r), .null, .null, .null, .int (nI F), .int 0] [] s2 M4 (same L (nI F)) := by
        refine loop_up (L := fun i M5 => wM_lists d 99 [.ref 159, .int (nI r), .null, .null, .null, .int (nI F), .int (nI i)] [] s2 M5 (same L (nI F))) (I := fun i M5 => M5.1 = M4.1 ∧ (∀ j, M5.2 184 j = if 40 * r ≤ j ∧ j < 40 * r + i then lN (stp (bO g p) B (stF (bO g p) B S (j - 40 * r))) else M4.2 184 j) ∧ ∀ c, c ≠ 184 → M5.2 c = M4.2 c) (e := F) ?_ ?_ M4 ⟨rfl, fun j => by rw [if_neg (by omega)], fun _ _ => rfl⟩
        · rintro M5 ⟨d1, d2, d3⟩
          refine sgM_lists_99 (br_t (by rw [nI_leP (by omega) (by omega)]; exact Nat.le_refl _) ⟨rfl, ?_⟩)
          have p1 : ∀ c, c ∉ SC → M5.1 c = M.1 c := fun c hc => by
            rw [d1, (o4 c (fun q => hc (lo_SC c q))).1, si_ne (fun q => hc (by subst q; decide))]; exact c1 c hc
          have p159 : ∀ k, k ≠ 34 → k ≠ 0 → M5.1 159 k = M2.1 159 k := fun k z1 z2 => by rw [d1, k4 k z1, si_eq, row_ne z2, b1]
          have p2 : ∀ c, c ≠ 184 → c ∉ [159, 164, 165, 174, 175, 176, 177] → M5.2 c = M3.2 c := fun c z1 z2 => by rw [d3 c z1, (o4 c z2).2, si_2]
          refine Inv_rows (r := r) (n := F) (z := fun j => lN (stp (bO g p) B (stF (bO g p) B S j))) hI ok2 p1 (by rw [p159 5 (by omega) (by omega)]; exact sc2.2.2.1) (by rw [p159 13 (by omega) (by omega)]; exact sc2.2.2.2.1) (by rw [p159 14 (by omega) (by omega)]; exact sc2.2.2.2.2) hr (by omega) (fun j => ?_) (fun j => ?_) (fun r' hr' hne => ?_)
          · rw [p2 _ (by omega) (by simp; omega), b2 j, sc2.2.1 _ (KEEP_tray hr (by omega) (by omega))]
          · rw [d2 j, (o4 184 (by decide)).2, si_2, b3 184 (by omega), sc2.2.1 184 (by decide)]
          · rw [p2 _ (by omega) (by simp; omega), b3 _ (by omega), sc2.2.1 _ (KEEP_tray hr' (by omega) (by omega))]
        · rintro i M5 hi ⟨d1, d2, d3⟩ hk
          refine sgM_lists_99 (br_f (by rw [nI_leP (by omega) (by omega)]; omega) ⟨vpI (by omega) (by omega), ?_⟩)
          have st := stp_lt (b := bO g p) (B := B) (S := S) (i := i) (by omega) hD (by omega)
          rw [lI 40, pk_mul, nI_add, nI_clamp (by omega), nI_clamp (by omega), d1, f4 hD i (by omega), nI_l (by omega), nI_1]
          refine ⟨vpI (by omega) (by omega), hk _ ⟨by rw [sj_1]; exact d1, fun j => ?_, fun c hc => by rw [sj_ne hc]; exact d3 c hc⟩⟩
          rw [sj_eq]
          by_cases e : j = 40 * r + i
          · subst e
            rw [row_eq, if_pos (by omega), Nat.add_sub_cancel_left]
          · rw [row_ne e, d2 j]
            have : (40 * r ≤ j ∧ j < 40 * r + i) ↔ (40 * r ≤ j ∧ j < 40 * r + (i + 1)) := by omega
            simp only [this]
      refine br_c (fun y => ⟨v4, ?_⟩) (fun y => sp_bitsOf (by omega) ?_)
      · rw [nI_leP (by omega) (by omega)] at y
        have : F = m := by rw [← hF]; exact Nat.min_eq_right y
        rw [this] at wr
        rw [this]
        exact wr
      · rw [nI_leP (by omega) (by omega)] at y
        rw [pcS]
        have : F = pcN S := by rw [← hF]; exact Nat.min_eq_left (by omega)
        rw [this] at wr
        rw [this]
        exact wr
    · rintro i M3 hi ⟨b1, b2, b3⟩ hk
      have st := stp_lt (b := bO g p) (B := B) (S := S) (i := i) (by omega) hD (by omega)
      refine sgG_lists_108 ho (br_f (by rw [nI_leP (by omega) (by omega)]; omega) ?_)
      obtain ⟨d, rfl⟩ : ∃ e, d = e + 1 := ⟨d - 1, by omega⟩
      refine enN_orderAt ⟨fun _ _ => vpI (by omega) (by omega), ?_⟩
      rw [if_neg (nI_pos (by omega)), if_neg (by rw [lI 8, nI_leP (by omega) (by omega)]; omega), nI_clamp (by omega), b1, f2 hD i (by omega)]
      refine sp_put (n := m) (f := M3.2 (117 + 2 * r + 1)) (by omega) ho ⟨by rw [b1]; exact e2, h40, fun _ _ => rfl⟩ (by omega) ?_
      rw [b1, e1, cut_small q q0 _ (by omega), nI_1]
      refine hk _ ⟨by rw [sj_1]; exact b1, fun j => ?_, fun c hc => by rw [sj_ne hc]; exact b3 c hc⟩
      rw [sj_eq]
      by_cases e : j = i
      · subst e; rw [row_eq, if_pos (by omega)]
      · rw [row_ne e, b2 j]
        have : (j < i) ↔ (j < i + 1) := by omega
        simp only [this]
  · rw [if_neg hD]
    have S0 : S ≠ 0 := fun z => hD (by rw [z, fd_0]; omega)
    have pcn : pcN S ≠ 0 := fun z => S0 ((pc0 (by omega)).mp z)
    refine br_f (by rw [l0, nI_leP (by omega) (by omega)]; omega) ?_
    have g2 := (Scr_c sc2 (c := 160) (by decide)).trans a3
    have s3 := Scr_tr sc2 (Scr_159 (M := M2) (k := 0) (v := 0) (by omega))
    have g3 := (Scr_c s3 (c := 160) (by decide)).trans a3
    refine enR s2 M2 _ g2 (sp_noTrayP (by omega) hr q0 (by rw [(Scr_tr4 s3).1]; exact q2) (br_t rfl ?_))
    refine sp_isSet (by omega) (by rw [g3]; exact h2) h8 (fun _ => br_f (by decide) ?_) (fun z => absurd hw' z)
    refine sp_laysOpening (by omega) g3 a4.2 hp hB hB99 hS (fun M4 f4 k4 o4 => ?_)
    rw [dy_m1 (by omega)]
    exact br_t hD ⟨rfl, Inv_Scr hI ok2 (Scr_tr s3 (Scr_O o4 k4))⟩
