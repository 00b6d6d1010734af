/-- in E days a thing left at st is where it stays, and that tells a -/
def goC (g : Nat → Int32) (N T P t st : Nat) (E : Nat) (a : Int32) : Prop := (∀ D', D' < E → xrF N T P (pm_row (clrF g T) (50 + t) (nI st)) D' (50 + t) < 10) ∧ ¬ xrF N T P (pm_row (clrF g T) (50 + t) (nI st)) E (50 + t) < 10 ∧ (if xrF N T P (pm_row (clrF g T) (50 + t) (nI st)) E (50 + t) = 99 then -1 else xrF N T P (pm_row (clrF g T) (50 + t) (nI st)) E (50 + t) - 10) = a
theorem goC_uni {g : Nat → Int32} {N T P t st E E' : Nat} {a a' : Int32} (h : goC g N T P t st E a) (h' : goC g N T P t st E' a') : a = a' := by
  obtain ⟨h1, h2, h3⟩ := h
  obtain ⟨k1, k2, k3⟩ := h'
  have : E = E' := by
    by_cases c : E < E'
    · exact absurd (k1 E c) h2
    · by_cases c2 : E' < E
      · exact absurd (h1 E' c2) k2
      · omega
  subst this
  rw [← h3, ← k3]
noncomputable def srB (g : Nat → Int32) (N T P t p : Nat) (st : Nat) : Bool := @decide (∃ E, goC g N T P t st E (nI p)) (Classical.propDecidable _)
theorem srB_eq {g : Nat → Int32} {N T P t p st E : Nat} {a : Int32} (h : goC g N T P t st E a) : (a = nI p) = (srB g N T P t p st = true) := by
  refine propext ⟨fun e => ?_, fun e => ?_⟩
  · exact @decide_eq_true _ (Classical.propDecidable _) ⟨E, e ▸ h⟩
  · obtain ⟨E', h'⟩ := @of_decide_eq_true _ (Classical.propDecidable _) e
    exact goC_uni h h'
theorem op_sources {L d : Nat} {s : pm_S} {M : pm_M} {v u : Int32} (hd : 12 ≤ d) (hI : Inv L s M) : cI d yG_sources [.ref 0, .int v, .int u] s M (fun r s1 M1 => cI d yM_sources [.ref 159, .int v, .int u] s1 M1 (same L r)) := by
  obtain ⟨d, rfl⟩ : ∃ e, d = e + 1 := ⟨d - 1, by omega⟩
  obtain ⟨g, N, T, P, x, n, hc⟩ := Inv_ctx hI
  have rd := ctx_read hc
  obtain ⟨a1, a2, a3, a4, a5, a6, a7, a8, a9, a10, a11, a12, a13⟩ := hc
  have h5 : N ≤ 8 := a4.2.2.2.2.2.1
  have h8 : T ≤ 8 := a4.2.2.2.2.2.2.1
  have h6 : P ≤ 6 := a4.2.2.2.2.2.2.2.1
  have h1 := a4.2.1
  have h2 := a4.2.2.1
  have h3 := a4.2.2.2.1
  have e0 : (pm_si M 159 0 0).1 160 = g := by rw [si_ne (by decide)]; exact a3
  have no : ¬ (inI v T ∧ inI u P) → cI (d + 1) yM_sources [.ref 159, .int v, .int u] s M (same L (-2)) := by
    intro h
    refine enM_sources (sp_isThing (n := T) (by omega) (by rw [e0]; exact h2) h8 (fun q => br_f (by decide) ?_) (fun _ => br_t rfl ⟨rfl, rd⟩))
    exact sp_isPerson (n := P) (by omega) (by rw [e0]; exact h3) h6 (fun q2 => absurd ⟨(inN_i (by omega)).mp q, (inN_i (by omega)).mp q2⟩ h) (fun _ => br_t rfl ⟨rfl, rd⟩)
  refine enG_sources (sp_hasThing (by omega) isL_15 (a4.1.2.1.trans h2) h8 (fun hv => br_f (by decide) ?_) (fun hv => br_t rfl (no (fun q => hv q.1))))
  refine sp_hasPerson (by omega) (a4.1.2.2.1.trans h3) h6 (fun hu => br_f (by decide) ?_) (fun hu => br_t rfl (no (fun q => hu q.2)))
  have hv' := (inN_i (p := v) (n := T) (by omega)).mpr hv
  have hu' := (inN_i (p := u) (n := P) (by omega)).mpr hu
  obtain ⟨t, ht, rfl⟩ := hv
  obtain ⟨p, hp, rfl⟩ := hu
  refine sp_lone (by omega) a4 a10 a9 ht (fun M1 L1 => ?_)
  refine loop_up (L := fun i M2 => wG_sources d 68 [.ref 0, .null, .int (nI p), .int (nI (setF (srB g N T P t p) i)), .int (nI i)] [] s M2 (fun r s1 M1 => cI (d + 1) yM_sources [.ref 159, .int (nI t), .int (nI p)] s1 M1 (same L r))) (I := fun i M2 => Lft M M2 g T P 1 (fun _ => t) ∧ ∀ st, st < i → ∃ E a, goC g N T P t st E a) (e := N) ?_ ?_ M1 ⟨L1, fun st h => by omega⟩
  · rintro M2 ⟨L2, al⟩
    have s2 := Lft_scr L2
    have s3 := Scr_tr s2 (Scr_159 (M := M2) (k := 0) (v := 0) (by omega))
    have g3 := (Scr_c s3 (c := 160) (by decide)).trans a3
    refine sgG_sources_68 (br_t (by rw [(L2.1 15 (by decide)).1, a4.1.1, h1, nI_leP (by omega) (by omega)]; exact Nat.le_refl _) ?_)
    refine enM_sources (sp_isThing (n := T) (by omega) (by rw [g3]; exact h2) h8 (fun _ => br_f (by decide) ?_) (fun q => absurd hv' q))
    refine sp_isPerson (n := P) (by omega) (by rw [g3]; exact h3) h6 (fun _ => br_f (by decide) ?_) (fun q => absurd hu' q)
    refine loop_up (L := fun i M4 => wM_sources d 31 [.ref 159, .int (nI t), .int (nI p), .int (nI (setF (srB g N T P t p) i)), .int (nI i)] [] s M4 (same L (nI (setF (srB g N T P t p) N)))) (I := fun i M4 => Scr M M4) (e := N) ?_ ?_ _ s3
    · intro M4 s4
      have g4 := (Scr_c s4 (c := 160) (by decide)).trans a3
      exact sgM_sources_31 (br_t (by rw [g4, h1, nI_leP (by omega) (by omega)]; exact Nat.le_refl _) ⟨rfl, Inv_Scr hI a1 s4⟩)
    · intro st M4 hst s4 hk
      have g4 := (Scr_c s4 (c := 160) (by decide)).trans a3
      obtain ⟨E, a, hE⟩ := al st hst
      refine sgM_sources_31 (br_f (by rw [g4, h1, nI_leP (by omega) (by omega)]; omega) ?_)
      refine sp_goesTo (E := E) (N := N) (P := P) (by omega) g4 a4.2 ht hE.1 hE.2.1 (fun M5 g5 e20 k5 o5 v ev => ?_)
      rw [hE.2.2] at ev
      simp only [srB_eq (p := p) hE] at ev
      rw [set_step (b := srB g N T P t p) (i := st) (by omega)] at ev
      rw [ev, nI_1]
      exact hk M5 (Scr_tr s4 (Scr_16 o5 (by decide) (by rw [g5, g4]) (k5 5 (by omega)) (k5 13 (by omega)) (k5 14 (by omega))))
  · rintro st M2 hst ⟨L2, al⟩ hk
    refine sgG_sources_68 (br_f (by rw [(L2.1 15 (by decide)).1, a4.1.1, h1, nI_leP (by omega) (by omega)]; omega) ?_)
    refine sp_go1 (by omega) a4 a9 L2 hst (fun M3 E a L3 e44 e45 f1 f2 f3 f4 => ?_)
    have hE : goC g N T P t st E a := ⟨f1, f2, f3⟩
    rw [e44]
    simp only [srB_eq (p := p) hE]
    rw [set_step2 (b := srB g N T P t p) (i := st) (by omega), nI_1]
    refine hk M3 ⟨L3, fun st' h => ?_⟩
    by_cases e : st' = st
    · subst e; exact ⟨E, a, hE⟩
    · exact al st' (by omega)
