theorem op_show {L d : Nat} {s : pm_S} {M : pm_M} {v u : Int32} (hd : 12 ≤ d) (hI : Inv L s M) : cI d yG_show [.ref 0, .int v, .int u] s M (fun r s1 M1 => cI d yM_show [.ref 159, .int v, .int u] s1 M1 (same L r)) := by
  obtain ⟨d, rfl⟩ : ∃ e, d = e + 1 := ⟨d - 1, by omega⟩
  obtain ⟨g, N, T, P, x, n, hc⟩ := Inv_ctx hI
  have rd := ctx_read hc
  obtain ⟨a1, a2, a3, a4, a5, a6, a7, a8, a9, a10, a11, a12, a13⟩ := hc
  have h8 : T ≤ 8 := a4.2.2.2.2.2.2.1
  have h6 : P ≤ 6 := a4.2.2.2.2.2.2.2.1
  have h2 := a4.2.2.1
  have h3 := a4.2.2.2.1
  have iT := a2.2.1
  have sc := Scr_159 (M := M) (k := 0) (v := 0) (by omega)
  have e0 : (pm_si M 159 0 0).1 160 = g := by rw [si_ne (by decide)]; exact a3
  have t4 := Scr_tr4 sc
  refine enG_show (sp_answersCode (by omega) (a4.1.2.1.trans h2) (a4.1.2.2.1.trans h3) h8 h6 iT (fun h => ?_) (fun r hr hv hu z => ?_) (fun r n hr hv hu h40 z1 z2 => ?_))
  · refine br_f (by decide) (enM_show (sp_noAnswers (by omega) e0 a4.2 (iTray_Scr sc iT) (fun _ => br_f (by decide) ⟨rfl, rd⟩) (fun r hr hv hu _ => absurd ⟨⟨r, hr, hv⟩, hu⟩ h) (fun r n hr hv hu _ _ _ => absurd ⟨⟨r, hr, hv⟩, hu⟩ h)))
  · refine br_f (by decide) (enM_show (sp_noAnswers (by omega) e0 a4.2 (iTray_Scr sc iT) (fun h => absurd ⟨⟨r, hr, hv⟩, hu⟩ h) (fun _ _ _ _ _ => br_f (by decide) ⟨rfl, rd⟩) (fun r' n hr' hv' hu' _ q1 q2 => ?_)))
    subst hv
    rw [nI_inj (by omega) (by omega)] at hv'
    subst hv'
    rcases iT r hr with ⟨w1, w2⟩ | ⟨n', q', q0', q1', q2', q3', q4'⟩
    · have := q2.1
      rw [show (pm_si M 159 0 0).1 (117 + 2 * r) = M.1 (117 + 2 * r) from si_ne (by omega), w1] at this
      have := (m1_ne (a := n) (by have := q2.2.1; omega)).mp this.symm
      exact this.elim
    · rw [q1'] at z
      exact ((m1_ne (a := q') (by omega)).mp z).elim
  · subst hv
    have hf : (fun k => (pm_si M 159 0 0).2 184 (40 * r + k)) = fun k => M.2 184 (40 * r + k) := rfl
    have noA : ∀ (Q : Int32 → pm_S → pm_M → Prop) M1, Scr M M1 → Q (codeF n 16 (2 * T) (fun k => M.2 184 (40 * r + k))) s M1 → cI d yM_noAnswers [.ref 159, .int (nI r), .int u] s M1 Q := by
      intro Q M1 s1 hQ
      have t1 := Scr_tr4 s1
      refine sp_noAnswers (by omega) ((Scr_c s1 (by decide)).trans a3) a4.2 (iTray_Scr s1 iT) (fun h => absurd ⟨⟨r, hr, rfl⟩, hu⟩ h) (fun r' hr' hv' hu' z => ?_) (fun r' n' hr' hv' hu' _ q1 q2 => ?_)
      · rw [nI_inj (by omega) (by omega)] at hv'
        subst hv'
        rw [t1.1] at z
        rcases iT r hr with ⟨w1, w2⟩ | ⟨n', q', q0', q1', q2', q3', q4'⟩
        · have := z2.1
          rw [w1] at this
          exact ((m1_ne (a := n) (by omega)).mp this.symm).elim
        · rw [q1'] at z
          exact ((m1_ne (a := q') (by omega)).mp z).elim
      · rw [nI_inj (by omega) (by omega)] at hv'
        subst hv'
        rw [t1.2.1, z1, nI_inj (by omega) (by omega)] at q1
        subst q1
        rw [t1.2.2]
        exact hQ
    refine br_c (fun c => ?_) (fun c => ?_)
    · refine ⟨vpI (by omega) (by omega), fun o eo ho => ?_⟩
      rw [nI_clamp (by omega)] at eo
      subst eo
      obtain ⟨p, hp, rfl⟩ := hu
      obtain ⟨c1, c2, c3⟩ := codeF_0 (by omega) c
      have hS : setF (ansB g p (fun k => M.2 184 (40 * r + k)) n) 10 < 1024 := setF_lt
      have ref : ∀ M1 ans, off [25, 26] M M1 → (if setF (ansB g p (fun k => M.2 184 (40 * r + k)) n) 10 = 0 then -1 else shF g p (setF (ansB g p (fun k => M.2 184 (40 * r + k)) n) 10) T) = ans → cI (d + 1) yM_show [.ref 159, .int (nI r), .int (nI p)] s M1 (same L ans) := by
        intro M1 ans o1 ha
        have s1 : Scr M M1 := Scr_off o1 (by decide)
        have s2 := Scr_tr s1 (Scr_159 (M := M1) (k := 0) (v := 0) (by omega))
        have t2 := Scr_tr4 s2
        refine enM_show (noA _ _ s2 (br_t c ?_))
        refine sp_marksOf (N := N) (by omega) ((Scr_c s2 (by decide)).trans a3) a4.2 hp hr h40 (by rw [t2.2.1]; exact z1) (by rw [t2.2.2]) c3 (fun M3 g3 o3 => ?_)
        refine sp_showM (N := N) (by omega) g3 a4.2 hp hS (fun M4 g4 o4 => ⟨ha.symm, Inv_Scr hI a1 (Scr_tr s2 (Scr_160 (off_tr o3 o4) (by decide) ?_))⟩)
        rw [g4, (Scr_c s2 (by decide)).trans a3]
      refine sp_marksBy (by omega) a4.1 h2 h8 ho z2 c3 (fun M1 o1 => br_c (fun c4 => ?_) (fun c4 => ?_))
      · rw [l0, nI_inj (by omega) (by omega)] at c4
        exact ref M1 _ o1 (if_pos c4)
      · rw [l0, nI_inj (by omega) (by omega)] at c4
        refine sp_showC (by omega) (LR_off o1 a4.1 (by decide)) h2 h8 hS (fun M2 o2 => ref M2 _ (off_tr o1 o2) (if_neg c4))
    · exact enM_show (noA _ _ sc (br_f c ⟨rfl, rd⟩))
