theorem tray_pres {M : pm_M} {r n q : Nat} {f : Nat → Int64} (q0 : q < 4) (q1 : M.1 182 r = nI q) : ¬ M.1 182 r = -1 := by
  rw [q1, m1_ne (by omega)]; simp
theorem noPlan_2 {d : Nat} {s : pm_S} {M M1 : pm_M} {g : Nat → Int32} {N T P : Nat} {v : Int32} {Q : Int32 → pm_S → pm_M → Prop} (hd : 4 ≤ d) (hg : M.1 160 = g) (hV : Vd g N T P) (hT : iTray M) (hs : Scr M M1) (h : ¬ inI v 4) (hq : Q (-2) s M1) : cI d yM_noPlan [.ref 159, .int v] s M1 Q :=
  sp_noPlan hd ((Scr_c hs (by decide)).trans hg) hV (iTray_Scr hs hT) (fun _ => hq) (fun r hr e _ => absurd ⟨r, hr, e⟩ h) (fun r n q hr e _ _ _ _ => absurd ⟨r, hr, e⟩ h)
theorem noPlan_6 {d : Nat} {s : pm_S} {M M1 : pm_M} {g : Nat → Int32} {N T P r : Nat} {Q : Int32 → pm_S → pm_M → Prop} (hd : 4 ≤ d) (hg : M.1 160 = g) (hV : Vd g N T P) (hT : iTray M) (hs : Scr M M1) (hr : r < 4) (z : M.1 182 r = -1) (hq : Q (-6) s M1) : cI d yM_noPlan [.ref 159, .int (nI r)] s M1 Q := by
  refine sp_noPlan hd ((Scr_c hs (by decide)).trans hg) hV (iTray_Scr hs hT) (fun h => absurd ⟨r, hr, rfl⟩ h) (fun _ _ _ _ => hq) (fun r' n q hr' e q0 q1 _ _ => ?_)
  rw [nI_inj (by omega) (by omega)] at e
  subst e
  rw [(Scr_tr4 hs).1] at q1
  exact absurd z (tray_pres (n := 0) (f := fun _ => 0) q0 q1)
theorem noPlan_0 {d : Nat} {s : pm_S} {M M1 : pm_M} {g : Nat → Int32} {N T P r n q : Nat} {Q : Int32 → pm_S → pm_M → Prop} (hd : 4 ≤ d) (hg : M.1 160 = g) (hV : Vd g N T P) (hT : iTray M) (hs : Scr M M1) (hr : r < 4) (q0 : q < 4) (q1 : M.1 182 r = nI q) (q3 : M.1 183 r = nI n) (hn : n ≤ 40) (hq : Q (plF T P n (fun k => M.2 184 (40 * r + k))) s M1) : cI d yM_noPlan [.ref 159, .int (nI r)] s M1 Q := by
  have t4 := Scr_tr4 hs
  refine sp_noPlan hd ((Scr_c hs (by decide)).trans hg) hV (iTray_Scr hs hT) (fun h => absurd ⟨r, hr, rfl⟩ h) (fun r' hr' e z => ?_) (fun r' n' q' hr' e _ _ z3 z4 => ?_)
  · rw [nI_inj (by omega) (by omega)] at e
    subst e
    rw [t4.1] at z
    exact absurd z (tray_pres (n := 0) (f := fun _ => 0) q0 q1)
  · rw [nI_inj (by omega) (by omega)] at e
    subst e
    have := z4.2.1
    rw [t4.2.1, q3, nI_inj (by omega) (by omega)] at z3
    subst z3
    rw [t4.2.2]
    exact hq
theorem op_plans {L d : Nat} {s : pm_S} {M : pm_M} {v : Int32} (hd : 12 ≤ d) (hI : Inv L s M) : cI d yG_plans [.ref 0, .int v] s M (fun r s1 M1 => cI d yM_plans [.ref 159, .int v] s1 M1 (same L r)) := by
  obtain ⟨d, rfl⟩ : ∃ e, d = e + 1 := ⟨d - 1, by omega⟩
  obtain ⟨g, N, T, P, x, n, hc⟩ := Inv_ctx hI
  have rd := ctx_read hc
  obtain ⟨a1, a2, a3, a4, a5, a6, a7, a8, a9, a10, a11, a12, a13⟩ := hc
  have h5 : N ≤ 8 := a4.2.2.2.2.2.1
  have h4 : 2 ≤ N := a4.2.2.2.2.1
  have h8 : T ≤ 8 := a4.2.2.2.2.2.2.1
  have h6 : P ≤ 6 := a4.2.2.2.2.2.2.2.1
  have h1 := a4.2.1
  have h2 := a4.2.2.1
  have h3 := a4.2.2.2.1
  have iT := a2.2.1
  have sc := Scr_159 (M := M) (k := 0) (v := 0) (by omega)
  refine enG_plans (sp_planCode (by omega) (a4.1.2.1.trans h2) (a4.1.2.2.1.trans h3) h8 h6 iT (fun h => br_f (by decide) (enM_plans (noPlan_2 (by omega) a3 a4.2 iT sc h (br_f (by decide) ⟨rfl, rd⟩)))) (fun r hr e z => ?_) (fun r n q hr e q0 q1 q3 q4 => ?_))
  · subst e
    exact br_f (by decide) (enM_plans (noPlan_6 (by omega) a3 a4.2 iT sc hr z (br_f (by decide) ⟨rfl, rd⟩)))
  · subst e
    have h40 := q4.2.1
    refine br_c (fun c => ⟨vpI (by omega) (by omega), fun o eo ho => ?_⟩) (fun c => ?_)
    · rw [nI_clamp (by omega)] at eo
      subst eo
      obtain ⟨n1, n3, ok⟩ := plF_0 c
      have h512 := pow512 (N := N) (n := n) h5 n3
      refine sp_beginPlan (by omega) a4 a10 a9 hr q4 n3 ok (fun M1 L1 b1 => ?_)
      refine sp_search (fl := false) (b := fun i => vN (fun k => M.2 184 (40 * r + k)) i % 10) (by omega) a4 a9 n3 L1 (fun i hi => ⟨b1 i hi, (okP_1 h8 (ok i hi)).2.1⟩) (fun _ M2 L2 => ?_) (fun z => by cases z)
      have s2 := Lft_scr L2
      have s3 := Scr_tr s2 (Scr_159 (M := M2) (k := 0) (v := 0) (by omega))
      refine enM_plans (noPlan_0 (by omega) a3 a4.2 iT s3 hr q0 q1 q3 h40 (br_t c ?_))
      refine loop_up (L := fun k M3 => wM_plans d 22 [.ref 159, .int (nI r), .null, .int (nI (cntF (plB g N T P n (fun i => vN (fun k => M.2 184 (40 * r + k)) i / 10) (fun i => vN (fun k => M.2 184 (40 * r + k)) i % 10)) k)), .int (nI k)] [] s M3 (same L (nI (cntF (plB g N T P n (fun i => vN (fun k => M.2 184 (40 * r + k)) i / 10) (fun i => vN (fun k => M.2 184 (40 * r + k)) i % 10)) (N ^ n))))) (I := fun k M3 => Scr M M3) (e := N ^ n) ?_ ?_ _ s3
      · intro M3 s4
        have g4 := (Scr_c s4 (c := 160) (by decide)).trans a3
        refine sgM_plans_22 ?_
        rw [nI_clamp (by omega), (Scr_tr4 s4).2.1, q3]
        refine ⟨vpI (by omega) (by omega), sp_rowsOf (by omega) g4 h1 n3 (br_t (by rw [nI_leP (by omega) (by omega)]; exact Nat.le_refl _) ⟨rfl, Inv_Scr hI a1 s4⟩)⟩
      · intro k M3 hk s4 hkk
        have g4 := (Scr_c s4 (c := 160) (by decide)).trans a3
        have t4 := Scr_tr4 s4
        refine sgM_plans_22 ?_
        rw [nI_clamp (by omega), t4.2.1, q3]
        refine ⟨vpI (by omega) (by omega), sp_rowsOf (by omega) g4 h1 n3 (br_f (by rw [nI_leP (by omega) (by omega)]; omega) ⟨vpI (by omega) (by omega), ?_⟩)⟩
        rw [t4.2.1, q3]
        refine sp_laysLeft (by omega) g4 h1 n3 h4 h5 hk (fun M4 f4 o4 => ?_)
        have s5 := Scr_tr s4 (Scr_off o4 (by decide))
        have t5 := Scr_tr4 s5
        refine sp_isPlan (N := N) (T := T) (P := P) (c := k) (f := fun k => M.2 184 (40 * r + k)) (by omega) ((Scr_c s5 (c := 160) (by decide)).trans a3) a4.2 hr (by rw [t5.2.1]; exact q3) n3 (fun i hi => by rw [t5.2.2]) ok f4 (fun M5 g5 o5 => ?_)
        have s6 := Scr_tr s5 (Scr_160 o5 (by decide) (by rw [g5, (Scr_c s5 (c := 160) (by decide)).trans a3]))
        have q := hkk M5 s6
        have ec : ∀ b : Nat → Bool, cntF b (k + 1) = cntF b k + if b k then 1 else 0 := fun b => rfl
        rw [ec] at q
        rw [nI_1]
        cases e : plB g N T P n (fun i => vN (fun k => M.2 184 (40 * r + k)) i / 10) (fun i => vN (fun k => M.2 184 (40 * r + k)) i % 10) k with
        | false =>
          rw [e] at q
          have e9 : (if (if false = true then (1 : Int32) else 0) = 0 then (0 : Int32) else 1) = 0 := by decide
          rw [e9, add0]; exact q
        | true =>
          rw [e] at q
          have e9 : (if (if true = true then (1 : Int32) else 0) = 0 then (0 : Int32) else 1) = nI 1 := by decide
          rw [e9, nI_add]; exact q
    · exact enM_plans (noPlan_0 (by omega) a3 a4.2 iT sc hr q0 q1 q3 h40 (br_f c ⟨rfl, rd⟩))
theorem op_plan {L d : Nat} {s : pm_S} {M : pm_M} {v u : Int32} (hd : 12 ≤ d) (hI : Inv L s M) : cI d yG_plan [.ref 0, .int v, .int u] s M (fun r s1 M1 => cI d yM_plan [.ref 159, .int v, .int u] s1 M1 (same L r)) := by
  obtain ⟨d, rfl⟩ : ∃ e, d = e + 1 := ⟨d - 1, by omega⟩
  obtain ⟨g, N, T, P, x, n, hc⟩ := Inv_ctx hI
  have rd := ctx_read hc
  obtain ⟨a1, a2, a3, a4, a5, a6, a7, a8, a9, a10, a11, a12, a13⟩ := hc
  have h5 : N ≤ 8 := a4.2.2.2.2.2.1
  have h4 : 2 ≤ N := a4.2.2.2.2.1
  have h8 : T ≤ 8 := a4.2.2.2.2.2.2.1
  have h6 : P ≤ 6 := a4.2.2.2.2.2.2.2.1
  have h1 := a4.2.1
  have h2 := a4.2.2.1
  have h3 := a4.2.2.2.1
  have iT := a2.2.1
  have sc := Scr_159 (M := M) (k := 0) (v := 0) (by omega)
  refine enG_plan (sp_planCode (by omega) (a4.1.2.1.trans h2) (a4.1.2.2.1.trans h3) h8 h6 iT (fun h => br_f (by decide) (enM_plan (noPlan_2 (by omega) a3 a4.2 iT sc h (br_f (by decide) ⟨rfl, rd⟩)))) (fun r hr e z => ?_) (fun r n q hr e q0 q1 q3 q4 => ?_))
  · subst e
    exact br_f (by decide) (enM_plan (noPlan_6 (by omega) a3 a4.2 iT sc hr z (br_f (by decide) ⟨rfl, rd⟩)))
  · subst e
    have h40 := q4.2.1
    have v4 : vp_in (nI r) 4 := vpI (by omega) (by omega)
    refine br_c (fun c => ⟨v4, fun o eo ho => ?_⟩) (fun c => ?_)
    · rw [nI_clamp (by omega)] at eo
      subst eo
      obtain ⟨n1, n3, ok⟩ := plF_0 c
      have h512 := pow512 (N := N) (n := n) h5 n3
      refine sp_hasPlace (by omega) ho q4 (fun hu => br_f (by decide) ?_) (fun hu => br_t rfl ?_)
      · have hu' := hu
        obtain ⟨i, hi, rfl⟩ := hu
        refine br_t (by rw [lI 3, nI_ltP (by omega) (by omega)]; omega) ⟨v4, fun o eo ho => ?_⟩
        rw [nI_clamp (by omega)] at eo
        subst eo
        refine sp_beginPlan (by omega) a4 a10 a9 hr q4 n3 ok (fun M1 L1 b1 => ?_)
        refine sp_search (fl := true) (b := fun i => vN (fun k => M.2 184 (40 * r + k)) i % 10) (by omega) a4 a9 n3 L1 (fun i hi => ⟨b1 i hi, (okP_1 h8 (ok i hi)).2.1⟩) (fun z => by cases z) (fun _ M2 L2 z2 => ⟨fun _ => vpI (by omega) (by omega), ?_⟩)
        have s2 := Lft_scr L2
        have s3 := Scr_tr s2 (Scr_159 (M := M2) (k := 0) (v := 0) (by omega))
        have t3 := Scr_tr4 s3
        rw [nI_clamp (by omega)]
        generalize hpl : plB g N T P n (fun i => vN (fun k => M.2 184 (40 * r + k)) i / 10) (fun i => vN (fun k => M.2 184 (40 * r + k)) i % 10) = pl at z2
        have ref : cI (d + 1) yM_plan [.ref 159, .int (nI r), .int (nI i)] s M2 (same L (match fst pl (N ^ n) with | none => -1 | some c => nI (dg N n c i))) := by
          refine enM_plan (noPlan_0 (by omega) a3 a4.2 iT s3 hr q0 q1 q3 h40 (br_t c ⟨v4, ?_⟩))
          rw [nI_clamp (by omega), t3.2.1, q3]
          refine sp_within2 (by omega) (fun _ => br_f (by decide) ?_) (fun z => absurd ((inN_iff (by omega)).mpr ((inN_i (by omega)).mpr hu')) z)
          refine loop_fst (L := fun k => ∀ M3, Scr M M3 → wM_plan d 41 [.ref 159, .int (nI r), .int (nI i), .null, .int (nI k)] [] s M3 (same L (match fst pl (N ^ n) with | none => -1 | some c => nI (dg N n c i)))) (P := pl) (e := N ^ n) (K := fun w => ∀ M3, Scr M M3 → same L (match fst pl (N ^ n) with | none => -1 | some c => nI (dg N n c i)) (match w with | none => -1 | some c => nI (dg N n c i)) s M3) (fun M3 s4 => ⟨rfl, Inv_Scr hI a1 s4⟩) ?_ ?_ _ s3
          · intro hk M3 s4
            have g4 := (Scr_c s4 (c := 160) (by decide)).trans a3
            refine sgM_plan_41 ?_
            rw [nI_clamp (by omega), (Scr_tr4 s4).2.1, q3]
            exact ⟨v4, sp_rowsOf (by omega) g4 h1 n3 (br_t (by rw [nI_leP (by omega) (by omega)]; exact Nat.le_refl _) (hk M3 s4))⟩
          · intro k hk k1 k2 M3 s4
            have g4 := (Scr_c s4 (c := 160) (by decide)).trans a3
            have t4 := Scr_tr4 s4
            refine sgM_plan_41 ?_
            rw [nI_clamp (by omega), t4.2.1, q3]
            refine ⟨v4, sp_rowsOf (by omega) g4 h1 n3 (br_f (by rw [nI_leP (by omega) (by omega)]; omega) ⟨v4, ?_⟩)⟩
            rw [t4.2.1, q3]
            refine sp_laysLeft (by omega) g4 h1 n3 h4 h5 hk (fun M4 f4 o4 => ?_)
            have s5 := Scr_tr s4 (Scr_off o4 (by decide))
            have t5 := Scr_tr4 s5
            refine sp_isPlan (N := N) (T := T) (P := P) (c := k) (f := fun k => M.2 184 (40 * r + k)) (by omega) ((Scr_c s5 (c := 160) (by decide)).trans a3) a4.2 hr (by rw [t5.2.1]; exact q3) n3 (fun i hi => by rw [t5.2.2]) ok f4 (fun M5 g5 o5 => ?_)
            have s6 := Scr_tr s5 (Scr_160 o5 (by decide) (by rw [g5, (Scr_c s5 (c := 160) (by decide)).trans a3]))
            rw [hpl, nI_1, nI_clamp (by omega), (o5 167 (by decide)).1, f4 i hi]
            cases e : pl k with
            | false => exact br_t rfl (k2 e M5 s6)
            | true => exact br_f (by decide) ⟨vpI (by omega) (by omega), k1 e M5 s6⟩
        cases e : fst pl (N ^ n) with
        | none =>
          rw [e] at ref
          exact ref
        | some c' =>
          rw [e] at ref
          have z := z2 c' e i hi
          rw [if_neg (by rw [if_neg (by simp)]; decide), z]
          exact ref
      · refine enM_plan (noPlan_0 (by omega) a3 a4.2 iT sc hr q0 q1 q3 h40 (br_t c ⟨v4, ?_⟩))
        rw [nI_clamp (by omega), (Scr_tr4 sc).2.1, q3]
        exact sp_within2 (by omega) (fun z => absurd ((inN_i (by omega)).mp ((inN_iff (by omega)).mp z)) hu) (fun _ => br_t rfl ⟨rfl, rd⟩)
    · exact enM_plan (noPlan_0 (by omega) a3 a4.2 iT sc hr q0 q1 q3 h40 (br_f c ⟨rfl, rd⟩))
