theorem xor_xor {a b : Nat} : a ^^^ (a ^^^ b) = b := by
  rw [← Nat.xor_assoc, Nat.xor_self, Nat.zero_xor]
theorem sp_laysOpening {d : Nat} {s : pm_S} {M : pm_M} {g : Nat → Int32} {N T P p B S : Nat} {Q : Int32 → pm_S → pm_M → Prop} (hd : 8 ≤ d) (hg : M.1 160 = g) (hV : Vd g N T P) (hp : p < P) (hB : g (41 + p) = nI B) (hB99 : B ≤ 99) (hS : S < 2 ^ T) (hq : ∀ M', (fd (bO g p) B S 0 < 14 → ∀ i, i < pcN S → M'.1 177 i = nI (stp (bO g p) B (stF (bO g p) B S i))) → (∀ k, k ≠ 34 → M'.1 159 k = M.1 159 k) → off [159, 164, 165, 174, 175, 176, 177] M M' → Q (dyI (bO g p) B S) s M') : cI d yM_laysOpening [.ref 159, .int (nI p), .int (nI S)] s M Q := by
  obtain ⟨d, rfl⟩ : ∃ e, d = e + 1 := ⟨d - 1, by omega⟩
  have h8 := hV.2.2.2.2.2.1
  have h256 := pow_le8 h8
  have hS256 : S < 256 := by omega
  have F : (268435456 : Int32) = nI 268435456 := rfl
  obtain ⟨pcS, pc8⟩ := pc_k S hS256
  have lS := fd_le (b := bO g p) (B := B) (r := S) (k := 0) hS256
  refine enM_laysOpening ?_
  rw [l0, nI_inj (by omega) (by omega)]
  unfold dyI at hq
  refine br_c (fun z => ?_) (fun z => ?_)
  · rw [if_pos z] at hq
    exact hq M (fun _ i hi => by rw [z, show pcN 0 = 0 from rfl] at hi; omega) (fun k _ => rfl) off_rf
  rw [if_neg z] at hq
  refine sp_laysMore (by omega) hg hV hp hB hB99 hS (fun M1 m1 o1 => ?_)
  have e0 : M1.1 174 0 = capI (fd (bO g p) B S 0) := by
    have := m1 0 (by omega) (by omega) (by unfold sbN; simp) 0 (by omega)
    rw [Nat.xor_zero] at this
    exact this
  have o1' : off [159, 164, 165, 174, 175, 176, 177] M M1 := off_mo o1 (by decide)
  rw [e0, F]
  unfold capI
  by_cases c14 : fd (bO g p) B S 0 = 14
  · rw [if_pos c14, F]
    refine br_f (by rw [nI_ltP (by omega) (by omega)]; omega) ?_
    rw [if_neg (by omega)] at hq
    refine hq _ (fun h => by omega) (fun k hk => ?_) (off_si o1' (by decide))
    rw [si_eq, row_ne hk, (o1 159 (by decide)).1]
  have hD : fd (bO g p) B S 0 < 14 := by omega
  rw [if_neg c14]
  rw [if_pos hD] at hq
  refine br_t (by rw [nI_ltP (by omega) (by omega)]; omega) ?_
  generalize hDD : fd (bO g p) B S 0 = D at *
  refine loop_up (L := fun k M2 => wM_laysOpening d 36 [.ref 159, .int (nI p), .int (nI S), .int (nI k), .null, .null, .null] [] s M2 Q) (I := fun k M2 => (∀ j, j < k → M2.1 175 j = if j = 0 then 0 else 268435456) ∧ M2.1 174 = M1.1 174 ∧ M2.1 159 34 = nI D ∧ (∀ k, k ≠ 34 → M2.1 159 k = M.1 159 k) ∧ off [159, 164, 165, 174, 175, 176, 177] M M2) (e := 100) ?_ ?_ _ ⟨fun j h => by omega, by rw [si_ne (by decide)], by rw [si_eq, row_eq], fun k hk => by rw [si_eq, row_ne hk, (o1 159 (by decide)).1], off_si o1' (by decide)⟩
  · rintro M2 ⟨b1, b2, b3, b4, b5⟩
    refine sgM_laysOpening_36 (br_t (by decide) ?_)
    have G0 : GR M2 175 (bO g p) B D S (fun k => k = 0) := by
      intro k hk
      rw [b1 k hk]
      by_cases e : k = 0
      · subst e
        left
        refine ⟨rfl, ?_⟩
        rw [if_pos rfl, hDD, Nat.sub_self]; rfl
      · right
        exact ⟨e, if_neg e⟩
    refine loop_up (L := fun i M3 => ∀ o, o ≤ S → sbN o S = true → S ^^^ o = (stF (bO g p) B S i).1 → GR M3 175 (bO g p) B D (stF (bO g p) B S i).1 (stF (bO g p) B S i).2 → wM_laysOpening d 70 [.ref 159, .int (nI p), .int (nI S), .int (nI o), .int (nI i), .null, .null] [] s M3 Q) (I := fun i M3 => (∀ j, j < i → M3.1 177 j = nI (stp (bO g p) B (stF (bO g p) B S j))) ∧ M3.1 174 = M1.1 174 ∧ M3.1 159 34 = nI D ∧ (∀ k, k ≠ 34 → M3.1 159 k = M.1 159 k) ∧ off [159, 164, 165, 174, 175, 176, 177] M M3) (e := pcN S) ?_ ?_ M2 ⟨fun j h => by omega, b2, b3, b4, b5⟩ 0 (by omega) (by unfold sbN; simp) (by rw [Nat.xor_zero]; rfl) G0
    · rintro M3 ⟨c1, c2, c3, c4, c5⟩ o ho hs hx hG
      obtain ⟨_, a2, a3⟩ := stF_ok (b := bO g p) (B := B) (S := S) hDD hD hS256 (pcN S) (Nat.le_refl _)
      have z0 : (stF (bO g p) B S (pcN S)).1 = 0 := (pc0 (by omega)).mp (by omega)
      rw [z0] at hx
      have eo := xor_z hx
      refine sgM_laysOpening_70 (br_t (by rw [eo]) ?_)
      rw [c3, nI_1, Nat.add_comm D 1]
      exact hq M3 (fun _ => c1) c4 c5
    · rintro i M3 hi ⟨c1, c2, c3, c4, c5⟩ hk o ho hs hx hG
      obtain ⟨a1, a2, a3⟩ := stF_ok (b := bO g p) (B := B) (S := S) hDD hD hS256 i (by omega)
      have x256 : (stF (bO g p) B S i).1 < 256 := by omega
      have x0 : (stF (bO g p) B S i).1 ≠ 0 := fun z => by
        have := (pc0 x256).mpr z
        omega
      obtain ⟨s1, s2, s4, s5, s6⟩ := stp_ok hD x256 x0 a1
      have eN : stF (bO g p) B S (i + 1) = nxt (bO g p) B (stF (bO g p) B S i) := rfl
      rw [eN] at hk
      generalize hxx : stF (bO g p) B S i = x at a1 a2 a3 x256 x0 s1 s2 s4 s5 s6 hk hx hG ⊢
      have oS : ¬ o = S := fun z => by rw [z, Nat.xor_self] at hx; exact x0 hx.symm
      refine sgM_laysOpening_70 (br_f (by rw [nI_inj (by omega) (by omega)]; exact oS) ?_)
      have exo : nI S &&& (nI o ^^^ (-1)) = nI x.1 := by rw [and_cpl hS256 (by omega), ← xor_sub (by omega) hS256 hs, hx]
      have srch : ∀ q t, t + q = stp (bO g p) B x → ∀ M4, off [164, 165, 176] M3 M4 → wM_laysOpening d 78 [.ref 159, .int (nI p), .int (nI S), .int (nI o), .int (nI i), .int (nI t), .null] [] s M4 Q := by
        intro q
        have gT : ∀ t M4 (Q' : Int32 → pm_S → pm_M → Prop), t < 8 → bt x.1 t = true → off [164, 165, 176] M3 M4 → (∀ M5 l, GR M5 176 (bO g p) B D (x.1 - 2 ^ t) (rchN (bO g p) B x.2 x.1 t) → FL (rchN (bO g p) B x.2 x.1 t) l → off [164, 165, 176] M4 M5 → Q' l s M5) → cI d yM_goesThing [.ref 159, .int (nI p), .int (nI o), .int (nI t)] s M4 Q' := by
          intro t M4 Q' t8 cb o4 kk
          have o34 : off [159, 164, 165, 174, 175, 176, 177] M M4 := off_tr c5 (off_mo o4 (by decide))
          refine sp_goesThing (S := S) (B := B) (D := D) (rch := x.2) (by omega) (r160 o34 (by decide) hg) hV hp hB hB99 hS256 ho hs t8 (by rw [hx]; exact cb) (fun o' h1 h2 h3 k hk' => ?_) (by rw [(o4 159 (by decide)).1]; exact c3) hD (by rw [hx]; intro k hk'; rw [(o4 175 (by decide)).1]; exact hG k hk') (by rw [hx]; exact a1.2) (fun M5 l hG5 hF5 o5 => ?_)
          · rw [(o4 174 (by decide)).1, c2]; exact m1 o' (by omega) h2 h3 k hk'
          · rw [hx] at hG5 hF5
            exact kk M5 l hG5 hF5 o5
        induction q with
        | zero =>
          intro t ht M4 o4
          have et : t = stp (bO g p) B x := by omega
          subst et
          refine sgM_laysOpening_78 ?_
          rw [exo]
          refine sp_isIn (by omega) (by omega) (by omega) ?_
          rw [if_pos s4]
          refine br_f (by decide) (gT _ M4 _ s2 s4 o4 (fun M5 l hG5 hF5 o5 => ?_))
          have l1' : l = 1 := by
            rcases hF5 with ⟨y, _⟩ | ⟨_, y⟩
            · exact y
            · obtain ⟨k, hk'⟩ := s5
              exact absurd hk' (y k)
          obtain ⟨_, _, m3, m4, m5, m6⟩ := op_more hS256 (by omega) s2 hs (by rw [hx]; exact s4)
          rw [hx] at m6
          refine br_f (by rw [l1']; decide) ⟨vpI (by omega) (by omega), ?_⟩
          rw [or_k _ s2 o (by omega), nI_clamp (by omega)]
          have o35 := off_tr o4 o5
          refine loop_up (L := fun k M6 => wM_laysOpening d 128 [.ref 159, .int (nI p), .int (nI S), .int (nI (o ||| 2 ^ stp (bO g p) B x)), .int (nI i), .null, .int (nI k)] [] s M6 Q) (I := fun k M6 => (∀ j, j < k → M6.1 175 j = M5.1 176 j) ∧ M6.1 176 = M5.1 176 ∧ (∀ j, j < i + 1 → M6.1 177 j = nI (stp (bO g p) B (stF (bO g p) B S j))) ∧ M6.1 174 = M1.1 174 ∧ M6.1 159 34 = nI D ∧ (∀ k, k ≠ 34 → M6.1 159 k = M.1 159 k) ∧ off [159, 164, 165, 174, 175, 176, 177] M M6) (e := 100) ?_ ?_ _ ⟨fun j h => by omega, by rw [si_ne (by decide)], fun j hj => ?_, by rw [si_ne (by decide), (o35 174 (by decide)).1]; exact c2, by rw [si_ne (by decide), (o35 159 (by decide)).1]; exact c3, fun k hk' => by rw [si_ne (by decide), (o35 159 (by decide)).1]; exact c4 k hk', off_si (off_tr c5 (off_mo o35 (by decide))) (by decide)⟩
          · rintro M6 ⟨f1, f2, f3, f4, f5, f6, f7⟩
            refine sgM_laysOpening_128 (br_t (by decide) ?_)
            rw [nI_1]
            refine hk M6 ⟨f3, f4, f5, f6, f7⟩ (o ||| 2 ^ stp (bO g p) B x) m4 m5 m6 (fun k hk' => ?_)
            rw [f1 k hk']
            exact hG5 k hk'
          · rintro k M6 hk6 ⟨f1, f2, f3, f4, f5, f6, f7⟩ hkk
            have v100 : vp_in (nI k) 100 := vpI (by omega) (by omega)
            refine sgM_laysOpening_128 (br_f (by rw [lI 99, nI_ltP (by omega) (by omega)]; omega) ⟨v100, v100, ?_⟩)
            rw [nI_clamp (by omega), nI_1]
            refine hkk _ ⟨fun j hj => ?_, by rw [si_ne (by decide)]; exact f2, fun j hj => by rw [si_ne (by decide)]; exact f3 j hj, by rw [si_ne (by decide)]; exact f4, by rw [si_ne (by decide)]; exact f5, fun k hk' => by rw [si_ne (by decide)]; exact f6 k hk', off_si f7 (by decide)⟩
            rw [si_eq]
            by_cases e : j = k
            · subst e; rw [row_eq, f2]
            · rw [row_ne e]; exact f1 j (by omega)
          · rw [si_eq]
            by_cases e : j = i
            · subst e; rw [row_eq, hxx]
            · rw [row_ne e, (o35 177 (by decide)).1]; exact c1 j (by omega)
        | succ q ihq =>
          intro t ht M4 o4
          have t8 : t < 8 := by omega
          have gf := s6 t (by omega)
          refine sgM_laysOpening_78 ?_
          rw [exo, nI_1]
          refine sp_isIn (by omega) (by omega) (by omega) ?_
          cases cb : bt x.1 t with
          | false => exact br_t rfl (ihq (t + 1) (by omega) M4 o4)
          | true =>
            refine br_f (by decide) (gT t M4 _ t8 cb o4 (fun M5 l hG5 hF5 o5 => ?_))
            have l0' : l = 0 := by
              rcases hF5 with ⟨_, y⟩ | ⟨y, _⟩
              · have := goB_iff.mpr ⟨cb, y⟩
                rw [this] at gf; cases gf
              · exact y
            exact br_t l0' (ihq (t + 1) (by omega) M5 (off_tr o4 o5))
      exact srch (stp (bO g p) B x) 0 (by omega) M3 off_rf
  · rintro k M2 hk ⟨b1, b2, b3, b4, b5⟩ hkk
    refine sgM_laysOpening_36 (br_f (by rw [lI 99, nI_ltP (by omega) (by omega)]; omega) ⟨vpI (by omega) (by omega), ?_⟩)
    rw [nI_clamp (by omega), nI_1, l0]
    simp only [nI_inj (a := k) (b := 0) (by omega) (by omega)]
    refine hkk _ ⟨fun j hj => ?_, by rw [si_ne (by decide)]; exact b2, by rw [si_ne (by decide)]; exact b3, fun k hk' => by rw [si_ne (by decide)]; exact b4 k hk', off_si b5 (by decide)⟩
    rw [si_eq]
    by_cases e : j = k
    · subst e; rw [row_eq]; rfl
    · rw [row_ne e]; exact b1 j (by omega)
theorem Scr_O {M M' : pm_M} (h : off [159, 164, 165, 174, 175, 176, 177] M M') (k : ∀ j, j ≠ 34 → M'.1 159 j = M.1 159 j) : Scr M M' := Scr_16 h (by decide) (h 160 (by decide)).1 (k 5 (by omega)) (k 13 (by omega)) (k 14 (by omega))
theorem sp_openingCode {d : Nat} {s : pm_S} {M : pm_M} {T P : Nat} {v u : Int32} {Q : Int32 → pm_S → pm_M → Prop} (hd : 2 ≤ d) (e1 : M.1 15 1 = nI T) (e2 : M.1 15 2 = nI P) (h8 : T ≤ 8) (h6 : P ≤ 6) (h2 : ¬ inI v P → Q (-2) s M) (h3 : inI v P → ¬ inI u (2 ^ T) → Q (-3) s M) (h0 : inI v P → inI u (2 ^ T) → Q 0 s M) : cI d yG_openingCode [.ref 0, .int v, .int u] s M Q := by
  obtain ⟨d, rfl⟩ : ∃ e, d = e + 1 := ⟨d - 1, by omega⟩
  refine enG_openingCode (sp_hasPerson (by omega) e2 h6 (fun hv => br_f (by decide) (sp_hasSet (by omega) e1 h8 (fun hu => ?_) (fun hu => ?_))) (fun hv => br_t rfl (h2 hv)))
  · rw [if_neg (by decide)]; exact h0 hv hu
  · rw [if_pos rfl]; exact h3 hv hu
theorem op_opening {L d : Nat} {s : pm_S} {M : pm_M} {v u : Int32} (hd : 40 ≤ d) (hI : Inv L s M) : cI d yG_opening [.ref 0, .int v, .int u] s M (fun r s1 M1 => cI d yM_opening [.ref 159, .int v, .int u] s1 M1 (same L r)) := by
  obtain ⟨d, rfl⟩ : ∃ e, d = e + 1 := ⟨d - 1, by omega⟩
  obtain ⟨g, N, T, P, x, n, hc⟩ := Inv_ctx hI
  have rd := ctx_read hc
  obtain ⟨a1, a2, a3, a4, a5, a6, a7, a8, a9, a10, a11, a12, a13⟩ := hc
  have h8 : T ≤ 8 := a4.2.2.2.2.2.2.1
  have h6 : P ≤ 6 := a4.2.2.2.2.2.2.2.1
  have h256 := pow_le8 h8
  have h2 := a4.2.2.1
  have h3 := a4.2.2.2.1
  have e0 : (pm_si M 159 0 0).1 160 = g := by rw [si_ne (by decide)]; exact a3
  refine enG_opening (sp_openingCode (by omega) (a4.1.2.1.trans h2) (a4.1.2.2.1.trans h3) h8 h6 (fun hv => br_f (by decide) ?_) (fun hv hu => br_f (by decide) ?_) (fun hv hu => br_t rfl ?_))
  · exact enM_opening (sp_isPerson (n := P) (by omega) (by rw [e0]; exact h3) h6 (fun z => absurd ((inN_i (by omega)).mp z) hv) (fun _ => br_t rfl ⟨rfl, rd⟩))
  · exact enM_opening (sp_isPerson (n := P) (by omega) (by rw [e0]; exact h3) h6 (fun _ => br_f (by decide) (sp_isSet (by omega) (by rw [e0]; exact h2) h8 (fun z => absurd z hu) (fun _ => br_t rfl ⟨rfl, rd⟩))) (fun z => absurd ((inN_i (by omega)).mpr hv) z))
  · have hv' := (inN_i (p := v) (n := P) (by omega)).mpr hv
    have hu' := hu
    obtain ⟨p, hp, rfl⟩ := hv
    obtain ⟨S, hS, rfl⟩ := hu
    obtain ⟨B, hB99, hB⟩ := (a4.2.2.2.2.2.2.2.2.2.2.1 p hp).2
    refine sp_nbegin (L := L) (by omega) a1 a4 a10 hp hB hB99 (fun s' M1 ok' hs' n1 o1 => ?_)
    refine sp_fewest (by omega) hs' a4.2 hp hB99 hS (LR_off o1 a4.1 (by decide)) n1 (fun M2 n2 o2 => ?_)
    have s2 : Scr M M2 := Scr_tr (Scr_off o1 (by decide)) (Scr_off o2 (by decide))
    have s3 := Scr_tr s2 (Scr_159 (M := M2) (k := 0) (v := 0) (by omega))
    have g3 := (Scr_c s3 (c := 160) (by decide)).trans a3
    refine enM_opening (sp_isPerson (n := P) (by omega) (by rw [g3]; exact h3) h6 (fun _ => br_f (by decide) ?_) (fun z => absurd hv' z))
    refine sp_isSet (by omega) (by rw [g3]; exact h2) h8 (fun _ => br_f (by decide) ?_) (fun z => absurd hu' z)
    exact sp_laysOpening (by omega) g3 a4.2 hp hB hB99 hS (fun M3 f3 k3 o3 => ⟨rfl, Inv_Scr hI ok' (Scr_tr s3 (Scr_O o3 k3))⟩)
theorem dy_m1 {b : Nat → Nat → Nat} {B S : Nat} (hS : S < 256) : (dyI b B S = -1) = ¬ fd b B S 0 < 14 := by
  have l := fd_le (b := b) (B := B) (r := S) (k := 0) hS
  unfold dyI
  by_cases z : S = 0
  · rw [if_pos z, z, fd_0]
    refine propext ⟨fun h => absurd h (by decide), fun h => absurd (show 0 < 14 by omega) h⟩
  · rw [if_neg z]
    by_cases y : fd b B S 0 < 14
    · rw [if_pos y, m1_ne (by omega)]; simp [y]
    · rw [if_neg y]; simp [y]
theorem op_openedBy {L d : Nat} {s : pm_S} {M : pm_M} {v u w : Int32} (hd : 40 ≤ d) (hI : Inv L s M) : cI d yG_openedBy [.ref 0, .int v, .int u, .int w] s M (fun r s1 M1 => cI d yM_openedBy [.ref 159, .int v, .int u, .int w] s1 M1 (same L r)) := by
  obtain ⟨d, rfl⟩ : ∃ e, d = e + 1 := ⟨d - 1, by omega⟩
  obtain ⟨g, N, T, P, x, n, hc⟩ := Inv_ctx hI
  have rd := ctx_read hc
  obtain ⟨a1, a2, a3, a4, a5, a6, a7, a8, a9, a10, a11, a12, a13⟩ := hc
  have h8 : T ≤ 8 := a4.2.2.2.2.2.2.1
  have h6 : P ≤ 6 := a4.2.2.2.2.2.2.2.1
  have h256 := pow_le8 h8
  have h2 := a4.2.2.1
  have h3 := a4.2.2.2.1
  have e0 : (pm_si M 159 0 0).1 160 = g := by rw [si_ne (by decide)]; exact a3
  refine enG_openedBy (sp_openingCode (by omega) (a4.1.2.1.trans h2) (a4.1.2.2.1.trans h3) h8 h6 (fun hv => br_f (by decide) ?_) (fun hv hu => br_f (by decide) ?_) (fun hv hu => br_t rfl ?_))
  · exact enM_openedBy (sp_isPerson (n := P) (by omega) (by rw [e0]; exact h3) h6 (fun z => absurd ((inN_i (by omega)).mp z) hv) (fun _ => br_t rfl ⟨rfl, rd⟩))
  · exact enM_openedBy (sp_isPerson (n := P) (by omega) (by rw [e0]; exact h3) h6 (fun _ => br_f (by decide) (sp_isSet (by omega) (by rw [e0]; exact h2) h8 (fun z => absurd z hu) (fun _ => br_t rfl ⟨rfl, rd⟩))) (fun z => absurd ((inN_i (by omega)).mpr hv) z))
  · have hv' := (inN_i (p := v) (n := P) (by omega)).mpr hv
    have hu' := hu
    obtain ⟨p, hp, rfl⟩ := hv
    obtain ⟨S, hS, rfl⟩ := hu
    obtain ⟨B, hB99, hB⟩ := (a4.2.2.2.2.2.2.2.2.2.2.1 p hp).2
    refine br_c (fun w0 => ?_) (fun w0 => ?_)
    · obtain ⟨j, hj, rfl⟩ := nI_of (i_nlt w0)
      obtain ⟨pcS, pc8⟩ := pc_k S (by omega)
      refine sp_nbegin (L := L) (by omega) a1 a4 a10 hp hB hB99 (fun s' M1 ok' hs' n1 o1 => ?_)
      refine sp_findOrder (L := L) (by omega) ok' hs' a4.2 hp hB99 hS (LR_off o1 a4.1 (by decide)) n1 (fun s2 M2 ok2 f2 o2 => ?_)
      have sc2 : Scr M M2 := Scr_tr (Scr_off o1 (by decide)) (Scr_off o2 (by decide))
      have s3 := Scr_tr sc2 (Scr_159 (M := M2) (k := 0) (v := 0) (by omega))
      have g3 := (Scr_c s3 (c := 160) (by decide)).trans a3
      have ref : ∀ ans, (if fd (bO g p) B S 0 < 14 then (if j < pcN S then nI (stp (bO g p) B (stF (bO g p) B S j)) else -1) else -1) = ans → cI (d + 1) yM_openedBy [.ref 159, .int (nI p), .int (nI S), .int (nI j)] s2 M2 (same L ans) := by
        intro ans ha
        refine enM_openedBy (sp_isPerson (n := P) (by omega) (by rw [g3]; exact h3) h6 (fun _ => br_f (by decide) ?_) (fun z => absurd hv' z))
        refine sp_isSet (by omega) (by rw [g3]; exact h2) h8 (fun _ => br_f (by decide) (br_t w0 ?_)) (fun z => absurd hu' z)
        refine sp_laysOpening (by omega) g3 a4.2 hp hB hB99 hS (fun M3 f3 k3 o3 => ?_)
        have inv := Inv_Scr hI ok2 (Scr_tr s3 (Scr_O o3 k3))
        rw [dy_m1 (by omega)]
        refine br_c (fun z => ?_) (fun z => ?_)
        · rw [if_neg z] at ha
          exact ⟨ha.symm, inv⟩
        · have hD : fd (bO g p) B S 0 < 14 := by omega
          rw [if_pos hD] at ha
          refine sp_bitsOf (by omega) ?_
          rw [pcS]
          simp only [nI_ltP (a := j) (b := pcN S) (by omega) (by omega)]
          by_cases y : j < pcN S
          · refine ⟨fun _ => vpI (by omega) (by omega), ?_, inv⟩
            rw [if_pos y] at ha
            rw [if_pos y, nI_clamp (by omega), f3 hD j y]
            exact ha.symm
          · refine ⟨fun q => absurd q y, ?_, inv⟩
            rw [if_neg y] at ha
            rw [if_neg y]
            exact ha.symm
      by_cases hD : fd (bO g p) B S 0 < 14
      · rw [if_pos hD, nI_leP (by omega) (by omega)]
        refine br_c (fun y => ref _ (by rw [if_pos hD, if_neg (by omega)])) (fun y => ?_)
        obtain ⟨d, rfl⟩ : ∃ e, d = e + 1 := ⟨d - 1, by omega⟩
        refine enN_orderAt ⟨fun _ _ => vpI (by omega) (by omega), ref _ ?_⟩
        rw [if_pos hD, if_pos (by omega), if_neg (nI_pos (by omega)), if_neg (by rw [lI 8, nI_leP (by omega) (by omega)]; omega), nI_clamp (by omega), f2 hD j (by omega)]
      · rw [if_neg hD]
        exact br_t (by rw [l0, nI_leP (by omega) (by omega)]; omega) (ref _ (by rw [if_neg hD]))
    · refine enM_openedBy (sp_isPerson (n := P) (by omega) (by rw [e0]; exact h3) h6 (fun _ => br_f (by decide) ?_) (fun z => absurd hv' z))
      exact sp_isSet (by omega) (by rw [e0]; exact h2) h8 (fun _ => br_f (by decide) (br_f w0 ⟨rfl, rd⟩)) (fun z => absurd hu' z)
