/-! what a call that only reads may have changed -/
def Scr (M M' : pm_M) : Prop := (∀ c, c ∉ SC → M'.1 c = M.1 c) ∧ (∀ c, c ∈ KEEP → M'.2 c = M.2 c) ∧ M'.1 159 5 = M.1 159 5 ∧ M'.1 159 13 = M.1 159 13 ∧ M'.1 159 14 = M.1 159 14
theorem Scr_rf {M : pm_M} : Scr M M := ⟨fun _ _ => rfl, fun _ _ => rfl, rfl, rfl, rfl⟩
theorem Scr_tr {M M1 M2 : pm_M} (h1 : Scr M M1) (h2 : Scr M1 M2) : Scr M M2 := by
  obtain ⟨a1, a2, a3, a4, a5⟩ := h1
  obtain ⟨b1, b2, b3, b4, b5⟩ := h2
  exact ⟨fun c hc => (b1 c hc).trans (a1 c hc), fun c hc => (b2 c hc).trans (a2 c hc), b3.trans a3, b4.trans a4, b5.trans a5⟩
theorem KEEP_160 {c : Nat} (h : c ∈ KEEP) : c ≠ 160 := (KEEP_gap h).2.2.2.1
theorem Scr_off {S : List Nat} {M M' : pm_M} (h : off S M M') (hS : ∀ c, c ∈ S → c ∈ SC ∧ c ≠ 159) : Scr M M' := by
  have e := (h 159 (fun q => (hS _ q).2 rfl)).1
  refine ⟨fun c hc => (h c (fun q => hc (hS c q).1)).1, fun c hc => (h c (fun q => KEEP_SC hc (hS c q).1)).2, ?_, ?_, ?_⟩ <;> rw [e]
theorem Scr_160 {S : List Nat} {M M' : pm_M} (h : off S M M') (hS : ∀ c, c ∈ S → c = 160 ∨ (c ∈ SC ∧ c ≠ 159)) (e0 : M'.1 160 = M.1 160) : Scr M M' := by
  have e := (h 159 (fun q => (hS _ q).elim (fun z => by omega) (fun z => z.2 rfl))).1
  refine ⟨fun c hc => ?_, fun c hc => (h c (fun q => ?_)).2, ?_, ?_, ?_⟩
  · by_cases z : c = 160
    · subst z; exact e0
    · refine (h c (fun q => ?_)).1
      rcases hS _ q with w | w
      · exact z w
      · exact hc w.1
  · rcases hS _ q with w | w
    · exact KEEP_160 hc w
    · exact KEEP_SC hc w.1
  all_goals rw [e]
theorem Scr_159 {M : pm_M} {k : Nat} {v : Int32} (h : k ≠ 5 ∧ k ≠ 13 ∧ k ≠ 14) : Scr M (pm_si M 159 k v) := by
  refine ⟨fun c hc => si_ne (fun e => hc (by subst e; decide)), fun c _ => rfl, ?_, ?_, ?_⟩ <;> rw [si_eq, row_ne (by omega)]
theorem Inv_Scr {L : Nat} {s s' : pm_S} {M M' : pm_M} (hI : Inv L s M) (hs : okS L s') (h : Scr M M') : Inv L s' M' :=
  Inv_scr1 hI hs h.1 h.2.1 h.2.2.1 h.2.2.2.1 h.2.2.2.2
theorem Scr_c {M M' : pm_M} {c : Nat} (h : Scr M M') (hc : c ∉ SC) : M'.1 c = M.1 c := h.1 c hc
theorem Scr_LR {M M' : pm_M} {g : Nat → Int32} {T P : Nat} (h : Scr M M') (hl : LR M 15 g T P) : LR M' 15 g T P := LR_cells hl (fun c hc => h.1 c (by revert hc c; decide))
theorem Scr_LV {M M' : pm_M} {g : Nat → Int32} {N T P : Nat} (h : Scr M M') (hl : LV M g N T P) : LV M' g N T P := ⟨Scr_LR h hl.1, hl.2⟩
theorem Scr_SR {M M' : pm_M} {g : Nat → Int32} {T P : Nat} (h : Scr M M') (hs : SR M 27 g T P) : SR M' 27 g T P := SR_cells hs (fun c hc => h.1 c (by revert hc c; decide))
theorem Scr_YR {M M' : pm_M} {r n : Nat} {f : Nat → Int64} (hr : r < 4) (h : Scr M M') (hy : YR M (117 + 2 * r) n f) : YR M' (117 + 2 * r) n f := by
  unfold YR
  rw [h.1 (117 + 2 * r) (KEEP_SC (KEEP_tray hr (by omega) (by omega))), h.2.1 (117 + 2 * r + 1) (KEEP_tray hr (by omega) (by omega))]
  exact hy
theorem Scr_tr4 {M M' : pm_M} (h : Scr M M') : M'.1 182 = M.1 182 ∧ M'.1 183 = M.1 183 ∧ M'.2 184 = M.2 184 := ⟨h.1 182 (by decide), h.1 183 (by decide), h.2.1 184 (by decide)⟩
theorem iTray_Scr {M M' : pm_M} (h : Scr M M') (hT : iTray M) : iTray M' := by
  intro r hr
  have := hT r hr
  unfold YR at this ⊢
  rw [(Scr_tr4 h).1, (Scr_tr4 h).2.1, (Scr_tr4 h).2.2, h.1 (117 + 2 * r) (KEEP_SC (KEEP_tray hr (by omega) (by omega))), h.2.1 (117 + 2 * r + 1) (KEEP_tray hr (by omega) (by omega))]
  exact this
