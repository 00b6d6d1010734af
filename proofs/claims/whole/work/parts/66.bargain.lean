def barB (g : Nat → Int32) (T p q : Nat) : Bool := match heldF g T p, heldF g T q with
  | some a, some b => decide (¬ clF g p b ≤ clF g p a) && decide (¬ clF g q a ≤ clF g q b)
  | _, _ => false
def barQ (g : Nat → Int32) (T P p : Nat) : Option Nat := fst (fun j => barB g T p (p + 1 + j)) (P - (p + 1))
def barF (g : Nat → Int32) (T P : Nat) : Int32 := match fst (fun p => (barQ g T P p).isSome) P with
  | none => -1
  | some p => match barQ g T P p with
    | none => -1
    | some j => nI (10 * p + (p + 1 + j))
theorem sp_bothGain {d : Nat} {s : pm_S} {M : pm_M} {g : Nat → Int32} {T P p q : Nat} {Q : Int32 → pm_S → pm_M → Prop} (hd : 2 ≤ d) (hK : KR M g T P) (hs : SR M 27 g T P) (h8 : T ≤ 8) (h6 : P ≤ 6) (hp : p < P) (hq' : q < P) (hq : Q (if barB g T p q then 1 else 0) s M) : cI d yG_bothGain [.ref 0, .int (nI p), .int (nI q)] s M Q := by
  obtain ⟨d, rfl⟩ : ∃ e, d = e + 1 := ⟨d - 1, by omega⟩
  unfold barB at hq
  refine enG_bothGain (sp_heldThing (by omega) isS_27 hs h8 (by omega) (sp_heldThing (by omega) isS_27 hs h8 (by omega) ?_))
  simp only [oIheld h8]
  cases ha : heldF g T p with
  | none => rw [ha] at hq; exact br_t rfl hq
  | some a =>
    cases hb : heldF g T q with
    | none => rw [ha, hb] at hq; exact br_f (by simp) (br_t rfl hq)
    | some b =>
      have ta := (heldF_lt ha).1
      have tb := (heldF_lt hb).1
      rw [ha, hb] at hq
      dsimp only at hq
      refine br_f (by simp) (br_f (by simp) (sp_of (by omega) hK h8 h6 hp tb (sp_of (by omega) hK h8 h6 hp ta (br_c (fun c => ?_) (fun c => ?_)))))
      · simp only [c, not_true_eq_false, decide_false, Bool.false_and, Bool.false_eq_true, if_false] at hq
        exact hq
      · refine sp_of (by omega) hK h8 h6 hq' ta (sp_of (by omega) hK h8 h6 hq' tb ?_)
        by_cases c2 : clF g q a ≤ clF g q b
        · rw [if_pos c2]
          simp only [c, c2, not_true_eq_false, not_false_eq_true, decide_false, decide_true, Bool.and_false, Bool.false_eq_true, if_false] at hq
          exact hq
        · rw [if_neg c2]
          simp only [c, c2, not_false_eq_true, decide_true, Bool.and_true, if_true] at hq
          exact hq
theorem op_bargain {L d : Nat} {s : pm_S} {M : pm_M} (hd : 12 ≤ d) (hI : Inv L s M) : cI d yG_bargain [.ref 0] s M (fun r s1 M1 => cI d yM_bargain [.ref 159] s1 M1 (same L r)) := by
  obtain ⟨d, rfl⟩ : ∃ e, d = e + 1 := ⟨d - 1, by omega⟩
  obtain ⟨g, N, T, P, x, n, hc⟩ := Inv_ctx hI
  obtain ⟨a1, a2, a3, a4, a5, a6, a7, a8, a9, a10, a11, a12, a13⟩ := hc
  have h8 : T ≤ 8 := a4.2.2.2.2.2.2.1
  have h6 : P ≤ 6 := a4.2.2.2.2.2.2.2.1
  have h2 := a4.2.2.1
  have h3 := a4.2.2.2.1
  refine enG_bargain (sp_gather (by omega) a4 a10 (fun M1 hK o1 => ?_))
  have e15 : M1.1 15 2 = nI P := by rw [(o1 15 (by decide)).1]; exact a4.1.2.2.1.trans h3
  have s27 : SR M1 27 g T P := SR_off o1 a10 (by decide)
  have g1 : M1.1 160 = g := r160 o1 (by decide) a3
  have ref : cI (d + 1) yM_bargain [.ref 159] s M1 (same L (barF g T P)) := by
    have fin : ∀ M2, off [159, 164, 165] M1 M2 ∧ (∀ k, k ≠ 0 → M2.1 159 k = M1.1 159 k) → ∀ a, a = barF g T P → same L (barF g T P) a s M2 := by
      intro M2 h a ea
      refine ⟨ea.symm, Inv_scr hI a1 (off_tr (off_mo o1 (by decide)) (off_mo h.1 (by decide))) ?_ ?_ ?_⟩
      · rw [h.2 5 (by omega), (o1 159 (by decide)).1]
      · rw [h.2 13 (by omega), (o1 159 (by decide)).1]
      · rw [h.2 14 (by omega), (o1 159 (by decide)).1]
    have up : ∀ M2 M3, (off [159, 164, 165] M1 M2 ∧ (∀ k, k ≠ 0 → M2.1 159 k = M1.1 159 k)) → off [164, 165] M2 M3 → (off [159, 164, 165] M1 M3 ∧ (∀ k, k ≠ 0 → M3.1 159 k = M1.1 159 k)) := by
      intro M2 M3 h o
      exact ⟨off_tr h.1 (off_mo o (by decide)), fun k hk => by rw [(o 159 (by decide)).1]; exact h.2 k hk⟩
    have gg : ∀ M2, (off [159, 164, 165] M1 M2 ∧ (∀ k, k ≠ 0 → M2.1 159 k = M1.1 159 k)) → M2.1 160 = g := fun M2 h => r160 h.1 (by decide) g1
    refine enM_bargain ?_
    refine loop_fst (L := fun i => ∀ M2, (off [159, 164, 165] M1 M2 ∧ (∀ k, k ≠ 0 → M2.1 159 k = M1.1 159 k)) → wM_bargain d 7 [.ref 159, .int (nI i), .null, .null, .null] [] s M2 (same L (barF g T P))) (P := fun p => (barQ g T P p).isSome) (e := P) (K := fun r => ∀ M2, (off [159, 164, 165] M1 M2 ∧ (∀ k, k ≠ 0 → M2.1 159 k = M1.1 159 k)) → same L (barF g T P) (match r with | none => -1 | some p => match barQ g T P p with | none => -1 | some j => nI (10 * p + (p + 1 + j))) s M2) ?_ ?_ ?_ _ ⟨off_si off_rf (by decide), fun k hk => by rw [si_eq, row_ne hk]⟩
    · intro M2 h
      exact fin M2 h _ rfl
    · intro hk M2 h
      refine sgM_bargain_7 (br_t ?_ (hk M2 h))
      rw [gg M2 h, h3, nI_leP (by omega) (by omega)]; exact Nat.le_refl _
    · intro p hp k1 k2 M2 h
      refine sgM_bargain_7 (br_f (by rw [gg M2 h, h3, nI_leP (by omega) (by omega)]; omega) ?_)
      rw [nI_1]
      refine loop_fst (L := fun j => ∀ M3, (off [159, 164, 165] M1 M3 ∧ (∀ k, k ≠ 0 → M3.1 159 k = M1.1 159 k)) → wM_bargain d 21 [.ref 159, .int (nI p), .int (nI (p + 1 + j)), .null, .null] [] s M3 (same L (barF g T P))) (P := fun j => barB g T p (p + 1 + j)) (e := P - (p + 1)) (K := fun r => ∀ M3, (off [159, 164, 165] M1 M3 ∧ (∀ k, k ≠ 0 → M3.1 159 k = M1.1 159 k)) → match r with | none => wM_bargain d 7 [.ref 159, .int (nI (p + 1)), .null, .null, .null] [] s M3 (same L (barF g T P)) | some j => same L (barF g T P) (nI (10 * p + (p + 1 + j))) s M3) ?_ ?_ ?_ M2 h
      · intro M3 h3'
        show match barQ g T P p with | none => _ | some j => _
        cases e : barQ g T P p with
        | none => exact k2 (by rw [e]; rfl) M3 h3'
        | some j =>
          have := k1 (by rw [e]; rfl) M3 h3'
          dsimp only at this
          rw [e] at this
          exact this
      · intro kk M3 h3'
        refine sgM_bargain_21 (br_t ?_ ?_)
        · rw [gg M3 h3', h3, nI_leP (by omega) (by omega)]; omega
        · rw [nI_1]; exact kk M3 h3'
      · intro j hj q1 q2 M3 h3'
        have hq : p + 1 + j < P := by omega
        refine sgM_bargain_21 (br_f (by rw [gg M3 h3', h3, nI_leP (by omega) (by omega)]; omega) ?_)
        refine sp_heldByN (by omega) (gg M3 h3') h2 h8 (sp_heldByN (by omega) (gg M3 h3') h2 h8 ?_)
        simp only [oIheld h8]
        rw [nI_1]
        unfold barB at q1 q2
        cases ha : heldF g T p with
        | none =>
          simp only [ha] at q2
          exact br_t rfl (q2 trivial M3 h3')
        | some a =>
          cases hb : heldF g T (p + 1 + j) with
          | none =>
            simp only [ha, hb] at q2
            exact br_f (by simp) (br_t rfl (q2 trivial M3 h3'))
          | some b =>
            have ta := (heldF_lt ha).1
            have tb := (heldF_lt hb).1
            simp only [ha, hb] at q1 q2
            have lo := a4.2.2.2.2.2.2.2.2.2.2.2.1
            refine br_f (by simp) (br_f (by simp) (sp_claimsOf (g := g) (by omega) (gg M3 h3') lo (by omega) (by omega) (fun M4 o4 => ?_)))
            have h4' := up M3 M4 h3' o4
            refine sp_claimsOf (g := g) (by omega) (gg M4 h4') lo (by omega) (by omega) (fun M5 o5 => ?_)
            have h5' := up M4 M5 h4' o5
            refine br_c (fun c => ?_) (fun c => ?_)
            · refine q2 ?_ M5 h5'
              have c' : clF g p b ≤ clF g p a := c
              simp [c']
            refine sp_claimsOf (g := g) (by omega) (gg M5 h5') lo (by omega) (by omega) (fun M6 o6 => ?_)
            have h6' := up M5 M6 h5' o6
            refine sp_claimsOf (g := g) (by omega) (gg M6 h6') lo (by omega) (by omega) (fun M7 o7 => ?_)
            have h7' := up M6 M7 h6' o7
            refine br_c (fun c2 => ?_) (fun c2 => ?_)
            · refine q2 ?_ M7 h7'
              have c' : clF g (p + 1 + j) a ≤ clF g (p + 1 + j) b := c2
              simp [c']
            · have c' : ¬ clF g p b ≤ clF g p a := c
              have c2' : ¬ clF g (p + 1 + j) a ≤ clF g (p + 1 + j) b := c2
              have := q1 (by simp only [c', c2', not_false_eq_true, decide_true, Bool.and_self]) M7 h7'
              rw [lI 10, pk_mul, nI_add]
              exact this
  refine loop_fst (L := fun i => wG_bargain d 17 [.ref 0, .int (nI i), .null] [] s M1 (fun r s1 M1 => cI (d + 1) yM_bargain [.ref 159] s1 M1 (same L r))) (P := fun p => (barQ g T P p).isSome) (e := P) (K := fun r => cI (d + 1) yM_bargain [.ref 159] s M1 (same L (match r with | none => -1 | some p => match barQ g T P p with | none => -1 | some j => nI (10 * p + (p + 1 + j))))) ref ?_ ?_
  · intro hk
    exact sgG_bargain_17 (br_t (by rw [e15, nI_leP (by omega) (by omega)]; exact Nat.le_refl _) hk)
  · intro p hp k1 k2
    refine sgG_bargain_17 (br_f (by rw [e15, nI_leP (by omega) (by omega)]; omega) ?_)
    rw [nI_1]
    refine loop_fst (L := fun j => wG_bargain d 32 [.ref 0, .int (nI p), .int (nI (p + 1 + j))] [] s M1 (fun r s1 M1 => cI (d + 1) yM_bargain [.ref 159] s1 M1 (same L r))) (P := fun j => barB g T p (p + 1 + j)) (e := P - (p + 1)) (K := fun r => match r with | none => wG_bargain d 17 [.ref 0, .int (nI (p + 1)), .null] [] s M1 (fun r s1 M1 => cI (d + 1) yM_bargain [.ref 159] s1 M1 (same L r)) | some j => cI (d + 1) yM_bargain [.ref 159] s M1 (same L (nI (10 * p + (p + 1 + j))))) ?_ ?_ ?_
    · show match barQ g T P p with | none => _ | some j => _
      cases e : barQ g T P p with
      | none => exact k2 (by rw [e]; rfl)
      | some j =>
        have := k1 (by rw [e]; rfl)
        dsimp only at this
        rw [e] at this
        exact this
    · intro kk
      refine sgG_bargain_32 (br_t (by rw [e15, nI_leP (by omega) (by omega)]; omega) ?_)
      rw [nI_1]; exact kk
    · intro j hj q1 q2
      refine sgG_bargain_32 (br_f (by rw [e15, nI_leP (by omega) (by omega)]; omega) (sp_bothGain (by omega) hK s27 h8 h6 hp (by omega) ?_))
      rw [nI_1, lI 10, pk_mul, nI_add]
      cases e : barB g T p (p + 1 + j) with
      | false => exact br_t rfl (q2 e)
      | true => exact br_f (by decide) (q1 e)
