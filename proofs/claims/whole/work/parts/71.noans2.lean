theorem sp_noAnswers {d : Nat} {s : pm_S} {M : pm_M} {g : Nat → Int32} {N T P : Nat} {v u : Int32} {Q : Int32 → pm_S → pm_M → Prop} (hd : 4 ≤ d) (hg : M.1 160 = g) (hV : Vd g N T P) (hT : iTray M) (h2 : ¬ (inI v 4 ∧ inI u P) → Q (-2) s M) (h6 : ∀ r, r < 4 → v = nI r → inI u P → M.1 182 r = -1 → Q (-6) s M) (h0 : ∀ r n, r < 4 → v = nI r → inI u P → n ≤ 40 → M.1 183 r = nI n → YR M (117 + 2 * r) n (fun k => M.2 184 (40 * r + k)) → Q (codeF n 16 (2 * T) (fun k => M.2 184 (40 * r + k))) s M) : cI d yM_noAnswers [.ref 159, .int v, .int u] s M Q := by
  obtain ⟨d, rfl⟩ : ∃ e, d = e + 1 := ⟨d - 1, by omega⟩
  have e2 := hV.2.1
  have e3 := hV.2.2.1
  have h8 := hV.2.2.2.2.2.1
  have h7 := hV.2.2.2.2.2.2.1
  refine enM_noAnswers ?_
  rw [lL 0, lL 3]
  refine sp_within2 (by omega) (fun h => br_f (by decide) ?_) (fun h => br_t rfl (h2 (fun q => h ((wi_inI (by omega)).mpr q.1))))
  obtain ⟨r, hr, rfl⟩ := (wi_inI (by omega)).mp h
  refine sp_isPerson (n := P) (by omega) (by rw [hg]; exact e3) h7 (fun hu => br_f (by decide) ?_) (fun hu => br_t rfl (h2 (fun q => hu ((inN_i (by omega)).mpr q.2))))
  have hu' : inI u P := (inN_i (by omega)).mp hu
  rw [lI 16]
  refine sp_noRow (n := 0) (by omega) hT hr (by omega) (fun z => br_f (by decide) (h6 r hr rfl hu' z)) (fun n h40 z1 z2 => ?_)
  have := h0 r n hr rfl hu' h40 z1 z2
  unfold codeF at this
  by_cases c : n < 1 ∨ 16 < n
  · rw [if_pos c] at this ⊢
    exact br_f (by decide) this
  · rw [if_neg c] at this ⊢
    refine br_t rfl ?_
    refine loop_fst (L := fun i => wM_noAnswers d 41 [.ref 159, .int (nI r), .null, .null, .int (nI i)] [] s M Q) (P := fun k => decide (ixN (M.2 184 (40 * r + k)) (2 * T) = none)) (e := n) (K := fun w => Q (if w = none then 0 else -3) s M) this ?_ ?_
    · intro hk
      refine sgM_noAnswers_41 ?_
      rw [nI_clamp (by omega), z1]
      exact ⟨vpI (by omega) (by omega), br_t (by rw [nI_leP (by omega) (by omega)]; exact Nat.le_refl _) hk⟩
    · intro i hi k1 k2
      refine sgM_noAnswers_41 ?_
      rw [nI_clamp (by omega), z1, lI 40, lI 2, pk_mul, nI_add, nI_clamp (by omega), hg, e2, pk_mul, nI_1]
      refine ⟨vpI (by omega) (by omega), br_f (by rw [nI_leP (by omega) (by omega)]; omega) ⟨vpI (by omega) (by omega), sp_within2 (by omega) (fun q => br_f (by decide) (k2 ?_)) (fun q => br_t rfl (k1 ?_))⟩⟩
      · obtain ⟨k, hk, e⟩ := (inN_iff (by omega)).mp q
        rw [e, ixN_k (by omega), if_pos hk]
        simp
      · simp only [decide_eq_true_eq]
        exact ixN_none (fun z => q ((inN_iff (by omega)).mpr z)) (by omega)
