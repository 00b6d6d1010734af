/-- whether a person would claim a thing by a mark -/
def byB (g : Nat → Int32) (p t : Nat) (mk : Int32) : Bool := decide (¬ claimF g mk p t ≤ 0)
theorem row_same {α : Type} {f : Nat → α} {k : Nat} {v : α} : pm_row (pm_row f k v) k (f k) = f := by
  rw [row_row]
  funext j
  by_cases e : j = k
  · subst e; rw [row_eq]
  · rw [row_ne e]
theorem sp_claimsBy {d : Nat} {s : pm_S} {M : pm_M} {g : Nat → Int32} {N T P p t : Nat} {mk : Int32} {Q : Int32 → pm_S → pm_M → Prop} (hd : 4 ≤ d) (hg : M.1 160 = g) (hV : Vd g N T P) (hp : p < P) (ht : t < T) (hq : ∀ M', M'.1 160 = g → off [160, 164, 165] M M' → Q (if byB g p t mk then 1 else 0) s M') : cI d yM_claimsBy [.ref 159, .int (nI p), .int mk, .int (nI t)] s M Q := by
  obtain ⟨d, rfl⟩ : ∃ e, d = e + 1 := ⟨d - 1, by omega⟩
  have h8 := hV.2.2.2.2.2.1
  have h6 := hV.2.2.2.2.2.2.1
  have v : vp_in (nI (66 + p)) 3870 := vpI (by omega) (by omega)
  refine enM_claimsBy ?_
  rw [lI 66, nI_add, nI_clamp (by omega), hg]
  have he : eqL g (pm_row g (66 + p) mk) := eqL_row eqL_rf (by omega) (by omega)
  have hV' := Vd_congr he hV
  refine ⟨v, v, sp_claimsOf (g := pm_row g (66 + p) mk) (by omega) (by rw [si_eq, hg]) hV'.2.2.2.2.2.2.2.2.2.2.1 (by omega) (by omega) (fun M1 o1 => ⟨v, ?_⟩)⟩
  rw [row_eq, claimF_congr he (by omega)]
  have e1 : M1.1 160 = pm_row g (66 + p) mk := by rw [(o1 160 (by decide)).1, si_eq, hg]
  have e : (if claimF g mk p t ≤ 0 then (0 : Int32) else 1) = if byB g p t mk then 1 else 0 := by
    unfold byB
    by_cases c : claimF g mk p t ≤ 0
    · simp [c]
    · rw [if_neg c, if_pos (by simp only [c, not_false_eq_true, decide_true])]
  rw [e]
  exact hq _ (by rw [si_eq, e1, row_same]) (off_si (off_tr (off_si off_rf (by decide)) (off_mo o1 (by decide))) (by decide))
