def Ctx (L : Nat) (s : pm_S) (M : pm_M) (g : Nat → Int32) (N T P x n : Nat) : Prop := okS L s ∧ Rest M ∧ M.1 160 = g ∧ LV M g N T P ∧ LZ M 15 ∧ n ≤ 10 ∧ x < 10 ∧ (∀ k, k < n → SR M (67 + 5 * ((x + 10 - n + k) % 10)) (blk g k) T P ∧ Vs (blk g k) N T P) ∧ Vs g N T P ∧ SR M 27 g T P ∧ g 78 = nI n ∧ M.1 0 5 = nI x ∧ M.1 0 6 = nI n
theorem Inv_ctx {L : Nat} {s : pm_S} {M : pm_M} (h : Inv L s M) : ∃ g N T P x n, Ctx L s M g N T P x n := by
  obtain ⟨hs, hR, N, T, P, hl, hz, hv, hn, n, x, p1, p2, p3, p4, p5, p6⟩ := h
  exact ⟨M.1 160, N, T, P, x, n, hs, hR, rfl, hl, hz, p1, p2, p6, hv, hn, p3, p4, p5⟩
theorem ref_keep {d : Nat} {s : pm_S} {M : pm_M} {g : Nat → Int32} {Q : pm_S → pm_M → Prop} (hd : 1 ≤ d) (hg : M.1 160 = g) (hq : ∀ M', M'.1 160 = g → (∀ j, j < 31 → M'.1 166 j = g (47 + j)) → Rf M M' → Q s M') : cV d yM_keeps [.ref 159] s M Q := by
  refine sp_keeps hd (fun M' h1 h2 => hq M' ((h2 160 (by decide)).1.trans hg) (fun j hj => ?_) (Rf_off h2 (by decide)))
  rw [h1, putR_in (by omega) (by omega), hg, Nat.sub_zero]
theorem ref_notes {d : Nat} {s : pm_S} {M : pm_M} {g g' : Nat → Int32} {n : Nat} {Q : pm_S → pm_M → Prop} (hd : 1 ≤ d) (hg : M.1 160 = g') (h78 : g' 78 = nI n) (hn : n ≤ 10) (hw : ∀ j, j < 31 → M.1 166 j = g (47 + j)) (hq : ∀ M' w, M'.1 160 = noteF g' n w → (∀ j, j < 31 → w j = g (47 + j)) → M'.1 166 = M.1 166 → Rf M M' → Q s M') : cV d yM_notes [.ref 159] s M Q :=
  sp_notes hd hg h78 hn (fun M' h1 h2 => hq M' _ h1 hw (h2 166 (by decide)).1 (Rf_off h2 (by decide)))
theorem Cm_pre {M0 M1 M2 : pm_M} {g g' : Nat → Int32} {T P x n : Nat} (ho : off C32 M0 M1) (h : Cm M1 M2 g g' T P x n) : Cm M0 M2 g g' T P x n := by
  obtain ⟨c1, c2, c3, c4, c5, c6⟩ := h
  refine ⟨c1, c2, c3, c4, ?_, off_tr (off_mo ho ?_) c6⟩
  · rw [c5, (ho 0 (by decide)).1]
  · intro c hc
    rw [CX_in]
    unfold C32 at hc
    simp at hc
    omega
theorem ctx_commit {L : Nat} {s : pm_S} {M0 M1 M2 : pm_M} {g g' w : Nat → Int32} {N T P x n : Nat} (hc : Ctx L s M0 g N T P x n) (hC : Cm M0 M1 g g' T P x n) (hf : Rf M1 M2) (h2 : M2.1 160 = noteF g' n w) (hw : ∀ j, j < 31 → w j = g (47 + j)) (he : eqL g g') (hv' : Vs g' N T P) : Inv L s M2 := by
  obtain ⟨a1, a2, a3, a4, a5, a6, a7, a8, a9, a10, a11, a12, a13⟩ := hc
  exact Inv_commit a1 a2 a3 a4 a5 a6 a7 a8 a9 hC hf h2 hw he hv'
/-- nothing came of it -/
theorem ctx_same {L : Nat} {s : pm_S} {M0 M1 M2 : pm_M} {g : Nat → Int32} {N T P x n : Nat} (hc : Ctx L s M0 g N T P x n) (ho : off C32 M0 M1) (hf : Rf M1 M2) (h2 : M2.1 160 = g) : Inv L s M2 := by
  obtain ⟨a1, a2, a3, a4, a5, a6, a7, a8, a9, a10, a11, a12, a13⟩ := hc
  have hI : Inv L s M0 := by
    refine ⟨a1, a2, N, T, P, ?_, a5, ?_, ?_, n, x, a6, a7, ?_, a12, a13, ?_⟩ <;> rw [a3] <;> assumption
  have e9 : M1.1 159 = M0.1 159 := (ho 159 (by decide)).1
  refine Inv_scr1 hI a1 (fun c hc => ?_) (fun c hc => ?_) ?_ ?_ ?_
  · have b1 := (ho c (fun z => hc (C32_SC c z))).1
    by_cases e : c = 160
    · subst e
      rw [h2, a3]
    · refine (hf.1 c (fun z => hc (R_SC c ?_))).1.trans b1
      simp at z ⊢
      omega
  · have q := KEEP_gap hc
    refine (hf.1 c (by simp; omega)).2.trans (ho c (fun z => ?_)).2
    exact KEEP_SC hc (C32_SC c z)
  · rw [hf.2.1, e9]
  · rw [hf.2.2.1, e9]
  · rw [hf.2.2.2, e9]
theorem sp_heldX {d : Nat} {s : pm_S} {M : pm_M} {g : Nat → Int32} {o T P : Nat} {x : Int32} {Q : Int32 → pm_S → pm_M → Prop} (hd : 1 ≤ d) (ho : isS o) (hs : SR M o g T P) (h8 : T ≤ 8) (h1 : inI x 6 → Q (oI (heldF g T x.toNatClampNeg)) s M) (h0 : ¬ inI x 6 → Q (-1) s M) : cI d yS_heldThing [.ref o, .int x] s M Q := by
  by_cases c : inI x 6
  · have := h1 c
    obtain ⟨k, hk, rfl⟩ := c
    rw [nI_clamp (by omega)] at this
    exact sp_heldThing hd ho hs h8 hk this
  · obtain ⟨d, rfl⟩ : ∃ e, d = e + 1 := ⟨d - 1, by omega⟩
    have := h0 c
    rw [inI_iff (by omega)] at c
    refine enS_heldThing ho (br_c (fun _ => this) (fun c1 => br_f (fun c2 => c ⟨c1, ?_⟩) this))
    rw [← lI 6]
    exact i_nle c2
