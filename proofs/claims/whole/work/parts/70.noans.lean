theorem sp_noRow {d : Nat} {s : pm_S} {M : pm_M} {r n most : Nat} {Q : Int32 → pm_S → pm_M → Prop} (hd : 3 ≤ d) (hT : iTray M) (hr : r < 4) (hm : most ≤ 40) (h6 : M.1 182 r = -1 → Q (-6) s M) (h0 : ∀ n, n ≤ 40 → M.1 183 r = nI n → YR M (117 + 2 * r) n (fun k => M.2 184 (40 * r + k)) → Q (if n < 1 ∨ most < n then -4 else 0) s M) : cI d yM_noRow [.ref 159, .int (nI r), .int (nI most)] s M Q := by
  obtain ⟨d, rfl⟩ : ∃ e, d = e + 1 := ⟨d - 1, by omega⟩
  refine enM_noRow (sp_noTray (by omega) hT (fun h => absurd ⟨r, hr, rfl⟩ h) (fun r' hr' e z => br_f (by decide) ?_) (fun r' m q hr' e q1 q2 q3 q4 => br_t rfl ?_))
  · rw [nI_inj (by omega) (by omega)] at e
    subst e
    exact h6 z
  · rw [nI_inj (by omega) (by omega)] at e
    subst e
    have h40 := q4.2.1
    have := h0 m h40 q3 q4
    rw [nI_clamp (by omega), q3, nI_l (by omega), nI_l (by omega), lL 1]
    refine ⟨vpI (by omega) (by omega), sp_within2 (by omega) (fun h => ?_) (fun h => ?_)⟩
    · rw [wi_k (by omega) (by omega) (by omega)] at h
      rw [if_neg (by omega)] at this
      rw [if_neg (by decide)]
      exact this
    · rw [wi_k (by omega) (by omega) (by omega)] at h
      rw [if_pos (by omega)] at this
      rw [if_pos rfl]
      exact this
