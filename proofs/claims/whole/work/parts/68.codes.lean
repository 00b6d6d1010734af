/-- what refuses a row of numbers -/
def codeF (n most B : Nat) (f : Nat → Int64) : Int32 := if n < 1 ∨ most < n then -4 else if fst (fun k => decide (ixN (f k) B = none)) n = none then 0 else -3
theorem sp_codeFor {d : Nat} {s : pm_S} {M : pm_M} {o n most B : Nat} {f : Nat → Int64} {Q : Int32 → pm_S → pm_M → Prop} (hd : 3 ≤ d) (ho : isY o) (hr : YR M o n f) (hm : most ≤ 40) (hB : B < 2 ^ 29) (hq : Q (codeF n most B f) s M) : cI d yY_codeForNumbers [.ref o, .int (nI most), .int (nI B)] s M Q := by
  obtain ⟨d, rfl⟩ : ∃ e, d = e + 1 := ⟨d - 1, by omega⟩
  obtain ⟨d, rfl⟩ : ∃ e, d = e + 1 := ⟨d - 1, by omega⟩
  have h40 := hr.2.1
  refine enY_codeForNumbers ho (enY_isMissing ho ?_)
  rw [hr.1, if_pos (by rw [l0, nI_leP (by omega) (by omega)]; omega), l1, nI_ltP (by omega) (by omega), nI_leP (by omega) (by omega)]
  unfold codeF at hq
  refine br_t rfl (br_c (fun c => ?_) (fun c => br_c (fun c2 => ?_) (fun c2 => ?_)))
  · rw [if_pos (by omega)] at hq; exact hq
  · rw [if_neg (by omega)] at hq
    refine loop_fst (L := fun i => wY_codeForNumbers (d + 1) 31 [.ref o, .null, .int (nI B), .int (nI i)] [] s M Q) (P := fun k => decide (ixN (f k) B = none)) (e := n) (K := fun r => Q (if r = none then 0 else -3) s M) hq ?_ ?_
    · intro hk
      refine sgY_codeForNumbers_31 ho (br_t (by rw [hr.1, nI_leP (by omega) (by omega)]; exact Nat.le_refl _) hk)
    · intro i hi k1 k2
      refine sgY_codeForNumbers_31 ho (br_f (by rw [hr.1, nI_leP (by omega) (by omega)]; omega) (sp_at (by omega) ho hr hi ?_))
      rw [nI_l (by omega), nI_1]
      cases hx : ixN (f i) B with
      | none =>
        have := k1 (by simp [hx])
        refine br_c (fun _ => this) (fun c3 => sp_at (by omega) ho hr hi (br_f (fun c4 => ?_) this))
        have z := ixN_out (by omega) hx c3
        rw [Int64.le_iff_toInt_le] at z
        rw [Int64.lt_iff_toInt_lt] at c4
        omega
      | some k =>
        have hk := ixN_lt hx
        have e := ixN_eq hx (by omega)
        rw [e, lL 0, lN_ltP (by omega) (by omega)]
        refine br_f (by omega) (sp_at (by omega) ho hr hi ?_)
        rw [e, lN_ltP (by omega) (by omega)]
        exact br_t hk (k2 (by simp [hx]))
  · rw [if_pos (by omega)] at hq; exact hq
