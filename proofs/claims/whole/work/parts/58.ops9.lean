theorem Inv_rest {L : Nat} {s : pm_S} {M M' : pm_M} (hI : Inv L s M) (h : ∀ c, (c = 0 ∨ (15 ≤ c ∧ c ≤ 24) ∨ (27 ≤ c ∧ c ≤ 31) ∨ (67 ≤ c ∧ c ≤ 116) ∨ c = 160) → M'.1 c = M.1 c) (hR : Rest M') : Inv L s M' := by
  obtain ⟨hs, _, N, T, P, hl, hz, hv, hn, n, x, p1, p2, p3, p4, p5, p6⟩ := hI
  have e160 : M'.1 160 = M.1 160 := h 160 (by omega)
  have e0 : M'.1 0 = M.1 0 := h 0 (by omega)
  refine ⟨hs, hR, N, T, P, ?_, ?_, ?_, ?_, n, x, p1, p2, ?_, ?_, ?_, fun k hk => ⟨?_, ?_⟩⟩
  · rw [e160]
    refine ⟨LR_cells hl.1 (fun c hc => h c ?_), hl.2⟩
    simp at hc
    omega
  · unfold LZ at hz ⊢
    rw [h 23 (by omega)]; exact hz
  · rw [e160]; exact hv
  · rw [e160]
    refine SR_cells hn (fun c hc => h c ?_)
    simp at hc
    omega
  · rw [e160]; exact p3
  · rw [e0]; exact p4
  · rw [e0]; exact p5
  · rw [e160]
    refine SR_cells (p6 k hk).1 (fun c hc => h c ?_)
    simp at hc
    omega
  · rw [e160]; exact (p6 k hk).2
theorem iImg_cells {M M' : pm_M} (h : ∀ c, (c = 0 ∨ (125 ≤ c ∧ c ≤ 158) ∨ c = 160 ∨ c = 161) → M'.1 c = M.1 c) (hi : iImg M) : iImg M' := by
  obtain ⟨m, m1, m2, m3⟩ := hi
  refine ⟨m, m1, by rw [h 0 (by omega)]; exact m2, fun i hi => ?_⟩
  rw [h 161 (by omega), h 160 (by omega)]
  rcases m3 i hi with q | ⟨q1, q2, N, T, P, q3, q4, q5, q6, q7⟩
  · exact Or.inl q
  · refine Or.inr ⟨q1, q2, N, T, P, q3, q4, LR_cells q5 (fun c hc => h c ?_), ?_, SR_cells q7 (fun c hc => h c ?_)⟩
    · simp at hc
      omega
    · unfold LZ at q6 ⊢
      rw [h (125 + 17 * i + 8) (by omega)]
      exact q6
    · simp at hc
      omega
theorem iTape_cells {M M' : pm_M} (h : ∀ c, (c = 1 ∨ c = 14 ∨ c = 162) → M'.1 c = M.1 c) (h5 : M'.1 159 5 = M.1 159 5) (h13 : M'.1 159 13 = M.1 159 13) (h14 : M'.1 159 14 = M.1 159 14) (ht : iTape M) : iTape M' := by
  unfold iTape at ht ⊢
  rw [h 1 (by omega), h 14 (by omega), h 162 (by omega), h5, h13, h14]
  exact ht
/-! counting -/
def hB (g : Nat → Int32) : Nat → Bool := fun t => decide (¬ g (50 + t) < 10 ∧ g (50 + t) < 16)
theorem sp_heldSet {d : Nat} {s : pm_S} {M : pm_M} {g : Nat → Int32} {N T P : Nat} {Q : Int32 → pm_S → pm_M → Prop} (hd : 2 ≤ d) (hg : M.1 160 = g) (hV : Vd g N T P) (hv : Vs g N T P) (hq : Q (nI (setF (hB g) T)) s M) : cI d yM_heldSet [.ref 159] s M Q := by
  obtain ⟨d, rfl⟩ : ∃ e, d = e + 1 := ⟨d - 1, by omega⟩
  obtain ⟨h1, h2, h3, h4, h5, h8, h6, _⟩ := hV
  refine enM_heldSet ?_
  refine loop_up (L := fun i M1 => wM_heldSet d 4 [.ref 159, .int (nI (setF (hB g) i)), .int (nI i)] [] s M1 Q) (I := fun i M1 => M1 = M) (e := T) ?_ ?_ M rfl
  · intro M1 e
    subst e
    refine sgM_heldSet_4 (br_t ?_ hq)
    rw [hg, h2, nI_leP (by omega) (by omega)]; exact Nat.le_refl _
  · intro i M1 hi e hk
    subst e
    refine sgM_heldSet_4 (br_f ?_ ?_)
    · rw [hg, h2, nI_leP (by omega) (by omega)]; omega
    rw [lI 50, nI_add, nI_clamp (by omega), hg, nI_1, lL 10, lL 16]
    have q := set_step (b := hB g) (i := i) (by omega)
    have iff : (nI 10 ≤ g (50 + i) ∧ g (50 + i) ≤ nI 16) ↔ hB g i = true := by
      simp only [hB, decide_eq_true_eq]
      rw [lI 10, lI 16]
      rcases hv.2.1 i hi with ⟨k, k1, k2⟩ | ⟨p, k1, k2⟩ | k2
      · rw [k2, nI_leP (by omega) (by omega), nI_leP (by omega) (by omega), nI_ltP (by omega) (by omega), nI_ltP (by omega) (by omega)]; omega
      · rw [k2, nI_leP (by omega) (by omega), nI_leP (by omega) (by omega), nI_ltP (by omega) (by omega), nI_ltP (by omega) (by omega)]; omega
      · rw [k2, nI_leP (by omega) (by omega), nI_leP (by omega) (by omega), nI_ltP (by omega) (by omega), nI_ltP (by omega) (by omega)]; omega
    refine ⟨vpI (by omega) (by omega), sp_within2 (by omega) (fun h => ?_) (fun h => ?_)⟩
    · rw [wi_int (by omega) (by omega), iff] at h
      rw [if_pos h] at q
      rw [if_neg (by decide), q]
      exact hk M1 rfl
    · rw [wi_int (by omega) (by omega), iff] at h
      rw [if_neg h] at q
      rw [if_pos rfl, q]
      exact hk M1 rfl
theorem sp_heldBits {d : Nat} {s : pm_S} {M : pm_M} {g : Nat → Int32} {T P : Nat} {Q : Int32 → pm_S → pm_M → Prop} (hd : 2 ≤ d) (hs : SR M 27 g T P) (h8 : T ≤ 8) (hq : Q (nI (setF (hB g) T)) s M) : cI d yS_heldBits [.ref 27] s M Q := by
  obtain ⟨d, rfl⟩ : ∃ e, d = e + 1 := ⟨d - 1, by omega⟩
  obtain ⟨d, rfl⟩ : ∃ e, d = e + 1 := ⟨d - 1, by omega⟩
  generalize hb : (fun t => decide (¬ M.1 28 t < 10 ∧ M.1 28 t < 16)) = b
  have e1 : setF (hB g) T = setF b 8 := by
    have q1 : setF b 8 = setF b T := setF_stop h8 (fun i h1 h2 => by
      rw [← hb]
      have q : M.1 28 i < 10 := hs.2.2.2.2.2 i h1 h2
      simp [q])
    rw [q1]
    refine setF_congr (fun i hi => ?_)
    rw [← hb]
    have q : M.1 28 i = g (50 + i) := (hs.2.2.2.1 i hi).1
    simp only [hB, q]
  rw [e1] at hq
  refine enS_heldBits ?_
  refine loop_up (L := fun i M1 => wS_heldBits (d + 1) 4 [.ref 27, .int (nI (setF b i)), .int (nI i)] [] s M1 Q) (I := fun i M1 => M1 = M) (e := 8) ?_ ?_ M rfl
  · intro M1 e
    subst e
    exact sgS_heldBits_4 (br_t (by decide) hq)
  · intro i M1 hi e hk
    subst e
    have v8 : vp_in (nI i) 8 := vpI (by omega) (by omega)
    have q := set_step2 (b := b) (i := i) (by omega)
    have := hk M1 rfl
    rw [← nI_1] at this
    refine sgS_heldBits_4 (br_f (by rw [lI 8, nI_leP (by omega) (by omega)]; omega) (enS_holderOf (br_f (nI_pos (by omega)) (br_f (by rw [lI 8, nI_leP (by omega) (by omega)]; omega) ⟨v8, ?_⟩))))
    rw [nI_clamp (by omega)]
    have bi : b i = decide (¬ M1.1 28 i < 10 ∧ M1.1 28 i < 16) := by rw [← hb]
    refine br_c (fun c => ?_) (fun c => ⟨v8, br_c (fun c2 => ⟨v8, ?_⟩) (fun c2 => ?_)⟩)
    · rw [if_neg (by rw [bi]; simp [c])] at q
      rw [if_pos rfl, q]; exact this
    · rw [if_pos (by rw [bi]; simp [c, c2])] at q
      rw [if_neg ?_, q]
      · exact this
      · obtain ⟨m, m1, m2⟩ := nI_of (x := M1.1 28 i) (fun z => c (by grind))
        rw [m2] at c c2 ⊢
        rw [lI 10, nI_ltP (by omega) (by omega)] at c
        rw [lI 10, pk_sub (by omega), m1_ne (by omega)]
        exact id
    · rw [if_neg (by rw [bi]; simp [c2])] at q
      rw [if_pos rfl, q]; exact this
theorem op_count {L d : Nat} {s : pm_S} {M : pm_M} {v : Int32} (hd : 12 ≤ d) (hI : Inv L s M) : cI d yG_count [.ref 0, .int v] s M (fun r s1 M1 => cI d yM_count [.ref 159, .int v] s1 M1 (same L r)) := by
  obtain ⟨d, rfl⟩ : ∃ e, d = e + 1 := ⟨d - 1, by omega⟩
  obtain ⟨g, N, T, P, x, n, hc⟩ := Inv_ctx hI
  have rd := ctx_read hc
  obtain ⟨a1, a2, a3, a4, a5, a6, a7, a8, a9, a10, a11, a12, a13⟩ := hc
  have h8 : T ≤ 8 := a4.2.2.2.2.2.2.1
  have g1 : (pm_si M 159 0 0).1 160 = g := by rw [si_ne (by decide)]; exact a3
  obtain ⟨⟨nn, _, t1, t2, _⟩, _⟩ := a2.1
  have ref : ∀ ans : Int32, (if v = 0 then g 1 else if v = 1 then g 2 else if v = 2 then g 3 else if v = 3 then nI (setF (offB g) T) else if v = 4 then nI (setF (hB g) T) else if v = 5 then g 47 else if v = 6 then g 48 else if v = 7 then g 78 else if v = 8 then nI nn else if v = 9 then g 0 else -1) = ans → cI (d + 1) yM_count [.ref 159, .int v] s M (same L ans) := by
    intro ans ha
    refine enM_count ?_
    rw [a3, t2]
    refine br_c (fun c0 => ⟨?_, rd⟩) (fun c0 => br_c (fun c1 => ⟨?_, rd⟩) (fun c1 => br_c (fun c2 => ⟨?_, rd⟩) (fun c2 => br_c (fun c3 => sp_officeSet (by omega) g1 a4.2.2.1 h8 ⟨?_, rd⟩) (fun c3 => br_c (fun c4 => sp_heldSet (by omega) g1 a4.2 a9 ⟨?_, rd⟩) (fun c4 => br_c (fun c5 => ⟨?_, rd⟩) (fun c5 => br_c (fun c6 => ⟨?_, rd⟩) (fun c6 => br_c (fun c7 => ⟨?_, rd⟩) (fun c7 => br_c (fun c8 => ⟨?_, rd⟩) (fun c8 => br_c (fun c9 => ⟨?_, rd⟩) (fun c9 => ⟨?_, rd⟩))))))))))
    all_goals rw [← ha]
    all_goals simp [*]
  refine enG_count ?_
  have l0' : M.1 15 0 = g 1 := a4.1.1
  have l1' : M.1 15 1 = g 2 := a4.1.2.1
  have l2' : M.1 15 2 = g 3 := a4.1.2.2.1
  have l3' : M.1 15 3 = g 0 := a4.1.2.2.2.1
  have s4' : M.1 27 4 = g 47 := a10.1
  have s5' : M.1 27 5 = g 48 := a10.2.1
  rw [l0', l1', l2', l3', s4', s5', t1, a13, ← a11]
  refine br_c (fun c0 => ref _ ?_) (fun c0 => br_c (fun c1 => ref _ ?_) (fun c1 => br_c (fun c2 => ref _ ?_) (fun c2 => br_c (fun c3 => sp_officeBits (by omega) isS_27 a10 h8 (ref _ ?_)) (fun c3 => br_c (fun c4 => sp_heldBits (by omega) a10 h8 (ref _ ?_)) (fun c4 => br_c (fun c5 => ref _ ?_) (fun c5 => br_c (fun c6 => ref _ ?_) (fun c6 => br_c (fun c7 => ref _ ?_) (fun c7 => br_c (fun c8 => ref _ ?_) (fun c8 => br_c (fun c9 => ref _ ?_) (fun c9 => ref _ ?_))))))))))
  · rw [if_pos c0]
  · rw [if_neg c0, if_pos c1]
  · rw [if_neg c0, if_neg c1, if_pos c2]
  · rw [if_neg c0, if_neg c1, if_neg c2, if_pos c3]
  · rw [if_neg c0, if_neg c1, if_neg c2, if_neg c3, if_pos c4]
  · rw [if_neg c0, if_neg c1, if_neg c2, if_neg c3, if_neg c4, if_pos c5]
  · rw [if_neg c0, if_neg c1, if_neg c2, if_neg c3, if_neg c4, if_neg c5, if_pos c6]
  · rw [if_neg c0, if_neg c1, if_neg c2, if_neg c3, if_neg c4, if_neg c5, if_neg c6, if_pos c7]
  · rw [if_neg c0, if_neg c1, if_neg c2, if_neg c3, if_neg c4, if_neg c5, if_neg c6, if_neg c7, if_pos c8]
  · rw [if_neg c0, if_neg c1, if_neg c2, if_neg c3, if_neg c4, if_neg c5, if_neg c6, if_neg c7, if_neg c8, if_pos c9]
  · rw [if_neg c0, if_neg c1, if_neg c2, if_neg c3, if_neg c4, if_neg c5, if_neg c6, if_neg c7, if_neg c8, if_neg c9]
