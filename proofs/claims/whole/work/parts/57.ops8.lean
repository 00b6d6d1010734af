theorem ctx_read {L : Nat} {s : pm_S} {M : pm_M} {g : Nat → Int32} {N T P x n : Nat} (hc : Ctx L s M g N T P x n) : Inv L s (pm_si M 159 0 0) := ctx_same hc off_rf (Rf_159 (by omega)) (by rw [si_ne (by decide)]; exact hc.2.2.1)
theorem op_fault {L d : Nat} {s : pm_S} {M : pm_M} {v : Int32} (hd : 12 ≤ d) (hI : Inv L s M) : cI d yG_fault [.ref 0, .int v] s M (fun r s1 M1 => cI d yM_fault [.ref 159, .int v] s1 M1 (same L r)) := by
  obtain ⟨d, rfl⟩ : ∃ e, d = e + 1 := ⟨d - 1, by omega⟩
  obtain ⟨g, N, T, P, x, n, hc⟩ := Inv_ctx hI
  obtain ⟨⟨_, t2, t3⟩, _⟩ := hc.2.1
  refine enG_fault (br_c (fun c => enM_fault ⟨?_, ctx_read hc⟩) (fun c => enM_fault ⟨?_, ctx_read hc⟩))
  · rw [if_pos c]; exact t2
  · rw [if_neg c, t3]
theorem op_thing {L d : Nat} {s : pm_S} {M : pm_M} {v u : Int32} (hd : 12 ≤ d) (hI : Inv L s M) : cI d yG_thing [.ref 0, .int v, .int u] s M (fun r s1 M1 => cI d yM_thing [.ref 159, .int v, .int u] s1 M1 (same L r)) := by
  obtain ⟨d, rfl⟩ : ∃ e, d = e + 1 := ⟨d - 1, by omega⟩
  obtain ⟨g, N, T, P, x, n, hc⟩ := Inv_ctx hI
  have rd := ctx_read hc
  obtain ⟨a1, a2, a3, a4, a5, a6, a7, a8, a9, a10, a11, a12, a13⟩ := hc
  have h8 : T ≤ 8 := a4.2.2.2.2.2.2.1
  have h2 := a4.2.2.1
  have g1 : (pm_si M 159 0 0).1 160 = g := by rw [si_ne (by decide)]; exact a3
  refine enG_thing (sp_hasThing (by omega) isL_15 (a4.1.2.1.trans h2) h8 (fun h => br_f (by decide) ?_) (fun h => br_t rfl ?_))
  · obtain ⟨t, ht, rfl⟩ := h
    have v8 : vp_in (nI t) 8 := vpI (by omega) (by omega)
    have e28 : M.1 28 t = g (50 + t) := (a10.2.2.2.1 t ht).1
    have e29 : M.1 29 t = g (58 + t) := (a10.2.2.2.1 t ht).2
    have e17 : M.1 17 t = g (19 + t) := (a4.1.2.2.2.2.2.1 t ht).1
    have e18 : M.1 18 t = g (27 + t) := (a4.1.2.2.2.2.2.1 t ht).2
    have ref : ∀ ans : Int32, (if u = 0 then g (50 + t) else if u = 1 then g (19 + t) else if u = 2 then g (27 + t) else if u = 3 then g (58 + t) else -2) = ans → cI (d + 1) yM_thing [.ref 159, .int (nI t), .int u] s M (same L ans) := by
      intro ans ha
      refine enM_thing (sp_isThing (n := T) (by omega) (by rw [g1]; exact h2) h8 (fun _ => br_f (by decide) ?_) (fun h => absurd ((inN_i (by omega)).mpr ⟨t, ht, rfl⟩) h))
      rw [lI 50, lI 19, lI 27, lI 58, nI_add, nI_add, nI_add, nI_add, nI_clamp (by omega), nI_clamp (by omega), nI_clamp (by omega), nI_clamp (by omega), g1]
      refine br_c (fun c0 => ⟨vpI (by omega) (by omega), ?_, rd⟩) (fun c0 => br_c (fun c1 => ⟨vpI (by omega) (by omega), ?_, rd⟩) (fun c1 => br_c (fun c2 => ⟨vpI (by omega) (by omega), ?_, rd⟩) (fun c2 => br_c (fun c3 => ⟨vpI (by omega) (by omega), ?_, rd⟩) (fun c3 => ⟨?_, rd⟩))))
      · rw [← ha, if_pos c0]
      · rw [← ha, if_neg c0, if_pos c1]
      · rw [← ha, if_neg c0, if_neg c1, if_pos c2]
      · rw [← ha, if_neg c0, if_neg c1, if_neg c2, if_pos c3]
      · rw [← ha, if_neg c0, if_neg c1, if_neg c2, if_neg c3]
    rw [nI_clamp (by omega), e28, e29, e17, e18]
    refine br_c (fun c0 => ⟨v8, ref _ ?_⟩) (fun c0 => br_c (fun c1 => ⟨v8, ref _ ?_⟩) (fun c1 => br_c (fun c2 => ⟨v8, ref _ ?_⟩) (fun c2 => br_c (fun c3 => ⟨v8, ref _ ?_⟩) (fun c3 => ref _ ?_))))
    · rw [if_pos c0]
    · rw [if_neg c0, if_pos c1]
    · rw [if_neg c0, if_neg c1, if_pos c2]
    · rw [if_neg c0, if_neg c1, if_neg c2, if_pos c3]
    · rw [if_neg c0, if_neg c1, if_neg c2, if_neg c3]
  · exact enM_thing (sp_isThing (n := T) (by omega) (by rw [g1]; exact h2) h8 (fun q => absurd ((inN_i (by omega)).mp q) h) (fun _ => br_t rfl ⟨rfl, rd⟩))
theorem op_person {L d : Nat} {s : pm_S} {M : pm_M} {v u : Int32} (hd : 12 ≤ d) (hI : Inv L s M) : cI d yG_person [.ref 0, .int v, .int u] s M (fun r s1 M1 => cI d yM_person [.ref 159, .int v, .int u] s1 M1 (same L r)) := by
  obtain ⟨d, rfl⟩ : ∃ e, d = e + 1 := ⟨d - 1, by omega⟩
  obtain ⟨g, N, T, P, x, n, hc⟩ := Inv_ctx hI
  have rd := ctx_read hc
  obtain ⟨a1, a2, a3, a4, a5, a6, a7, a8, a9, a10, a11, a12, a13⟩ := hc
  have h8 : T ≤ 8 := a4.2.2.2.2.2.2.1
  have h6 : P ≤ 6 := a4.2.2.2.2.2.2.2.1
  have h2 := a4.2.2.1
  have h3 := a4.2.2.2.1
  have g1 : (pm_si M 159 0 0).1 160 = g := by rw [si_ne (by decide)]; exact a3
  refine enG_person (sp_hasPerson (by omega) (a4.1.2.2.1.trans h3) h6 (fun h => br_f (by decide) ?_) (fun h => br_t rfl ?_))
  · obtain ⟨p, hp, rfl⟩ := h
    have v6 : vp_in (nI p) 6 := vpI (by omega) (by omega)
    have e20 : M.1 20 p = g (35 + p) := (a4.1.2.2.2.2.2.2.1 p hp).1
    have e22 : M.1 22 p = g (41 + p) := (a4.1.2.2.2.2.2.2.1 p hp).2
    have e30 : M.1 30 p = g (66 + p) := (a10.2.2.2.2.1 p hp).1
    have e31 : M.1 31 p = g (72 + p) := (a10.2.2.2.2.1 p hp).2
    have ref : ∀ ans : Int32, (if u = 0 then g (35 + p) else if u = 1 then g (66 + p) else if u = 2 then g (41 + p) else if u = 3 then oI (heldF g T p) else if u = 4 then g (72 + p) else -2) = ans → cI (d + 1) yM_person [.ref 159, .int (nI p), .int u] s M (same L ans) := by
      intro ans ha
      refine enM_person (sp_isPerson (n := P) (by omega) (by rw [g1]; exact h3) h6 (fun _ => br_f (by decide) ?_) (fun h => absurd ((inN_i (by omega)).mpr ⟨p, hp, rfl⟩) h))
      rw [lI 35, lI 66, lI 41, lI 72, nI_add, nI_add, nI_add, nI_add, nI_clamp (by omega), nI_clamp (by omega), nI_clamp (by omega), nI_clamp (by omega), g1]
      refine br_c (fun c0 => ⟨vpI (by omega) (by omega), ?_, rd⟩) (fun c0 => br_c (fun c1 => ⟨vpI (by omega) (by omega), ?_, rd⟩) (fun c1 => br_c (fun c2 => ⟨vpI (by omega) (by omega), ?_, rd⟩) (fun c2 => br_c (fun c3 => sp_heldByN (by omega) g1 h2 h8 ⟨?_, rd⟩) (fun c3 => br_c (fun c4 => ⟨vpI (by omega) (by omega), ?_, rd⟩) (fun c4 => ⟨?_, rd⟩)))))
      · rw [← ha, if_pos c0]
      · rw [← ha, if_neg c0, if_pos c1]
      · rw [← ha, if_neg c0, if_neg c1, if_pos c2]
      · rw [← ha, if_neg c0, if_neg c1, if_neg c2, if_pos c3]
      · rw [← ha, if_neg c0, if_neg c1, if_neg c2, if_neg c3, if_pos c4]
      · rw [← ha, if_neg c0, if_neg c1, if_neg c2, if_neg c3, if_neg c4]
    rw [nI_clamp (by omega), e20, e22, e30, e31]
    refine br_c (fun c0 => ⟨v6, ref _ ?_⟩) (fun c0 => br_c (fun c1 => ⟨v6, ref _ ?_⟩) (fun c1 => br_c (fun c2 => ⟨v6, ref _ ?_⟩) (fun c2 => br_c (fun c3 => sp_heldThing (by omega) isS_27 a10 h8 (by omega) (ref _ ?_)) (fun c3 => br_c (fun c4 => ⟨v6, ref _ ?_⟩) (fun c4 => ref _ ?_)))))
    · rw [if_pos c0]
    · rw [if_neg c0, if_pos c1]
    · rw [if_neg c0, if_neg c1, if_pos c2]
    · rw [if_neg c0, if_neg c1, if_neg c2, if_pos c3]
    · rw [if_neg c0, if_neg c1, if_neg c2, if_neg c3, if_pos c4]
    · rw [if_neg c0, if_neg c1, if_neg c2, if_neg c3, if_neg c4]
  · exact enM_person (sp_isPerson (n := P) (by omega) (by rw [g1]; exact h3) h6 (fun q => absurd ((inN_i (by omega)).mp q) h) (fun _ => br_t rfl ⟨rfl, rd⟩))
theorem op_claims {L d : Nat} {s : pm_S} {M : pm_M} {v u : Int32} (hd : 12 ≤ d) (hI : Inv L s M) : cI d yG_claims [.ref 0, .int v, .int u] s M (fun r s1 M1 => cI d yM_claims [.ref 159, .int v, .int u] s1 M1 (same L r)) := by
  obtain ⟨d, rfl⟩ : ∃ e, d = e + 1 := ⟨d - 1, by omega⟩
  obtain ⟨g, N, T, P, x, n, hc⟩ := Inv_ctx hI
  have rd := ctx_read hc
  have hc' := hc
  obtain ⟨a1, a2, a3, a4, a5, a6, a7, a8, a9, a10, a11, a12, a13⟩ := hc
  have h8 : T ≤ 8 := a4.2.2.2.2.2.2.1
  have h6 : P ≤ 6 := a4.2.2.2.2.2.2.2.1
  have h2 := a4.2.2.1
  have h3 := a4.2.2.2.1
  have g1 : (pm_si M 159 0 0).1 160 = g := by rw [si_ne (by decide)]; exact a3
  refine enG_claims (sp_hasPerson (by omega) (a4.1.2.2.1.trans h3) h6 (fun h => br_f (by decide) ?_) (fun h => br_t rfl ?_))
  · refine sp_hasThing (by omega) isL_15 (a4.1.2.1.trans h2) h8 (fun k => br_f (by decide) ?_) (fun k => br_t rfl ?_)
    · obtain ⟨p, hp, rfl⟩ := h
      obtain ⟨t, ht, rfl⟩ := k
      have e30 : M.1 30 p = g (66 + p) := (a10.2.2.2.2.1 p hp).1
      rw [nI_clamp (by omega), e30]
      refine ⟨vpI (by omega) (by omega), sp_claimBy (by omega) a4.1 h2 h8 ht (fun M1 o1 => ?_)⟩
      have o1' : off C32 M M1 := off_mo o1 (by decide)
      have g2 : (pm_si M1 159 0 0).1 160 = g := by rw [si_ne (by decide)]; exact r160 o1' (by decide) a3
      refine enM_claims (sp_isPerson (n := P) (by omega) (by rw [g2]; exact h3) h6 (fun _ => br_f (by decide) ?_) (fun h => absurd ((inN_i (by omega)).mpr ⟨p, hp, rfl⟩) h))
      refine sp_isThing (n := T) (by omega) (by rw [g2]; exact h2) h8 (fun _ => br_f (by decide) ?_) (fun h => absurd ((inN_i (by omega)).mpr ⟨t, ht, rfl⟩) h)
      refine sp_claimsOf (g := g) (by omega) g2 a4.2.2.2.2.2.2.2.2.2.2.2.1 (by omega) (by omega) (fun M2 o2 => ⟨rfl, ?_⟩)
      exact ctx_same hc' o1' (Rf_tr (Rf_159 (k := 0) (v := 0) (by omega)) (Rf_off o2 (by decide))) ((o2 160 (by decide)).1.trans g2)
    · refine enM_claims (sp_isPerson (n := P) (by omega) (by rw [g1]; exact h3) h6 (fun _ => br_f (by decide) ?_) (fun _ => br_t rfl ⟨rfl, rd⟩))
      exact sp_isThing (n := T) (by omega) (by rw [g1]; exact h2) h8 (fun q => absurd ((inN_i (by omega)).mp q) k) (fun _ => br_t rfl ⟨rfl, rd⟩)
  · exact enM_claims (sp_isPerson (n := P) (by omega) (by rw [g1]; exact h3) h6 (fun q => absurd ((inN_i (by omega)).mp q) h) (fun _ => br_t rfl ⟨rfl, rd⟩))
theorem op_burden {L d : Nat} {s : pm_S} {M : pm_M} {v u : Int32} (hd : 12 ≤ d) (hI : Inv L s M) : cI d yG_burden [.ref 0, .int v, .int u] s M (fun r s1 M1 => cI d yM_burden [.ref 159, .int v, .int u] s1 M1 (same L r)) := by
  obtain ⟨d, rfl⟩ : ∃ e, d = e + 1 := ⟨d - 1, by omega⟩
  obtain ⟨g, N, T, P, x, n, hc⟩ := Inv_ctx hI
  have rd := ctx_read hc
  have hc' := hc
  obtain ⟨a1, a2, a3, a4, a5, a6, a7, a8, a9, a10, a11, a12, a13⟩ := hc
  have h8 : T ≤ 8 := a4.2.2.2.2.2.2.1
  have h6 : P ≤ 6 := a4.2.2.2.2.2.2.2.1
  have h2 := a4.2.2.1
  have h3 := a4.2.2.2.1
  have g1 : (pm_si M 159 0 0).1 160 = g := by rw [si_ne (by decide)]; exact a3
  refine enG_burden (sp_hasPerson (by omega) (a4.1.2.2.1.trans h3) h6 (fun h => br_f (by decide) ?_) (fun h => br_t rfl ?_))
  · refine sp_hasThing (by omega) isL_15 (a4.1.2.1.trans h2) h8 (fun k => br_f (by decide) ?_) (fun k => br_t rfl ?_)
    · obtain ⟨p, hp, rfl⟩ := h
      obtain ⟨t, ht, rfl⟩ := k
      have e30 : M.1 30 p = g (66 + p) := (a10.2.2.2.2.1 p hp).1
      have e31 : M.1 31 p = g (72 + p) := (a10.2.2.2.2.1 p hp).2
      have e27 : M.1 27 4 = g 47 := a10.1
      rw [nI_clamp (by omega), e30, e31, e27]
      refine ⟨vpI (by omega) (by omega), vpI (by omega) (by omega), sp_cburden (by omega) a4.1 h2 h8 (a4.2.2.2.2.2.2.2.2.2.1 t ht).2 ht (fun M1 o1 => ?_)⟩
      have o1' : off C32 M M1 := off_mo o1 (by decide)
      have g2 : (pm_si M1 159 0 0).1 160 = g := by rw [si_ne (by decide)]; exact r160 o1' (by decide) a3
      refine enM_burden (sp_isPerson (n := P) (by omega) (by rw [g2]; exact h3) h6 (fun _ => br_f (by decide) ?_) (fun h => absurd ((inN_i (by omega)).mpr ⟨p, hp, rfl⟩) h))
      refine sp_isThing (n := T) (by omega) (by rw [g2]; exact h2) h8 (fun _ => br_f (by decide) ?_) (fun h => absurd ((inN_i (by omega)).mpr ⟨t, ht, rfl⟩) h)
      refine sp_burdenNow (g := g) (by omega) g2 a4.2.2.2.2.2.2.2.2.2.2.2.2 (by omega) (by omega) (fun M2 o2 => ⟨rfl, ?_⟩)
      exact ctx_same hc' o1' (Rf_tr (Rf_159 (k := 0) (v := 0) (by omega)) (Rf_off o2 (by decide))) ((o2 160 (by decide)).1.trans g2)
    · refine enM_burden (sp_isPerson (n := P) (by omega) (by rw [g1]; exact h3) h6 (fun _ => br_f (by decide) ?_) (fun _ => br_t rfl ⟨rfl, rd⟩))
      exact sp_isThing (n := T) (by omega) (by rw [g1]; exact h2) h8 (fun q => absurd ((inN_i (by omega)).mp q) k) (fun _ => br_t rfl ⟨rfl, rd⟩)
  · exact enM_burden (sp_isPerson (n := P) (by omega) (by rw [g1]; exact h3) h6 (fun q => absurd ((inN_i (by omega)).mp q) h) (fun _ => br_t rfl ⟨rfl, rd⟩))
