theorem sp_rowsOf {d : Nat} {s : pm_S} {M : pm_M} {g : Nat → Int32} {N n : Nat} {Q : Int32 → pm_S → pm_M → Prop} (hd : 1 ≤ d) (hg : M.1 160 = g) (h1 : g 1 = nI N) (hn : n ≤ 3) (hq : Q (nI (N ^ n)) s M) : cI d yM_rowsOf [.ref 159, .int (nI n)] s M Q := by
  obtain ⟨d, rfl⟩ : ∃ e, d = e + 1 := ⟨d - 1, by omega⟩
  refine enM_rowsOf ?_
  refine loop_up (L := fun i M1 => wM_rowsOf d 4 [.ref 159, .int (nI n), .int (nI (N ^ i)), .int (nI i)] [] s M1 Q) (I := fun i M1 => M1 = M) (e := n) ?_ ?_ M rfl
  · intro M1 e
    subst e
    exact sgM_rowsOf_4 (br_t (by rw [nI_leP (by omega) (by omega)]; exact Nat.le_refl _) hq)
  · intro i M1 hi e hk
    subst e
    refine sgM_rowsOf_4 (br_f (by rw [nI_leP (by omega) (by omega)]; omega) ?_)
    rw [hg, h1, pk_mul, nI_1, ← Nat.pow_succ]
    exact hk M1 rfl
theorem sp_laysLeft {d : Nat} {s : pm_S} {M : pm_M} {g : Nat → Int32} {N n c : Nat} {Q : pm_S → pm_M → Prop} (hd : 1 ≤ d) (hg : M.1 160 = g) (hN : g 1 = nI N) (hn : n ≤ 3) (h2 : 2 ≤ N) (h5 : N ≤ 8) (hc : c < N ^ n) (hq : ∀ M', (∀ i, i < n → M'.1 167 i = nI (dg N n c i)) → off [167] M M' → Q s M') : cV d yM_laysLeft [.ref 159, .int (nI n), .int (nI c)] s M Q := by
  obtain ⟨d, rfl⟩ : ∃ e, d = e + 1 := ⟨d - 1, by omega⟩
  have h512 := pow512 (N := N) (n := n) h5 hn
  refine enM_laysLeft ?_
  rw [sub1]
  have down : ∀ q, q ≤ n → ∀ M1, off [167] M M1 → (∀ i, q ≤ i → i < n → M1.1 167 i = nI (dg N n c i)) → wM_laysLeft d 7 [.ref 159, .null, .null, .int (nI (c / N ^ (n - q))), .int (nI q + (-1))] [] s M1 Q := by
    intro q
    induction q with
    | zero =>
      intro _ M1 o1 b
      exact sgM_laysLeft_7 (br_t m1_lt0 (hq M1 (fun i hi => b i (by omega) hi) o1))
    | succ q ih =>
      intro hq' M1 o1 b
      have hc2 : c / N ^ (n - (q + 1)) < 513 := Nat.lt_of_le_of_lt (Nat.div_le_self _ _) (by omega)
      have g1 := r160 o1 (by decide) hg
      rw [pk_m1 q]
      refine sgM_laysLeft_7 (br_f (nI_pos (by omega)) ?_)
      rw [g1, hN, nI_clamp (by omega), pk_rem (by omega) (by omega) (by omega), pk_div (by omega) (by omega) (by omega)]
      have e : c / N ^ (n - (q + 1)) / N = c / N ^ (n - q) := by
        rw [Nat.div_div_eq_div_mul, ← Nat.pow_succ, show (n - (q + 1)).succ = n - q by omega]
      rw [e]
      have nz : ¬ nI N = 0 := by rw [l0, nI_inj (by omega) (by omega)]; omega
      refine ⟨nz, vpI (by omega) (by omega), nz, ih (by omega) _ (off_si o1 (by decide)) (fun i h1 h2 => ?_)⟩
      rw [si_eq]
      by_cases z : i = q
      · subst z
        rw [row_eq]
        unfold dg
        rw [show n - 1 - i = n - (i + 1) by omega]
      · rw [row_ne z]; exact b i (by omega) h2
  have := down n (Nat.le_refl _) M off_rf (fun i h1 h2 => by omega)
  rwa [Nat.sub_self, Nat.pow_zero, Nat.div_one] at this
theorem sp_isPlan {d : Nat} {s : pm_S} {M : pm_M} {g : Nat → Int32} {N T P r n c : Nat} {f : Nat → Int64} {Q : Int32 → pm_S → pm_M → Prop} (hd : 6 ≤ d) (hg : M.1 160 = g) (hV : Vd g N T P) (hr : r < 4) (h183 : M.1 183 r = nI n) (hn : n ≤ 3) (hf : ∀ k, k < n → M.2 184 (40 * r + k) = f k) (ok : ∀ i, i < n → okP T P f i = true) (hl : ∀ i, i < n → M.1 167 i = nI (dg N n c i)) (hq : ∀ M', M'.1 160 = g → off [160, 164, 165, 166] M M' → Q (if plB g N T P n (fun i => vN f i / 10) (fun i => vN f i % 10) c = true then 1 else 0) s M') : cI d yM_isPlan [.ref 159, .int (nI r)] s M Q := by
  obtain ⟨d, rfl⟩ : ∃ e, d = e + 1 := ⟨d - 1, by omega⟩
  have h8 := hV.2.2.2.2.2.1
  have h6 := hV.2.2.2.2.2.2.1
  have v4 : vp_in (nI r) 4 := vpI (by omega) (by omega)
  have hw : ∀ i, i < n → (fun i => vN f i / 10) i < T := fun i hi => (okP_1 h8 (ok i hi)).1
  refine enM_isPlan (sp_clears (T := T) (by omega) hg hV.2.1 h8 (fun M1 g1 k1 o1 => ?_))
  refine loop_up (L := fun i M2 => wM_isPlan d 6 [.ref 159, .int (nI r), .int (nI i), .null] [] s M2 Q) (I := fun i M2 => M2.1 160 = lvF g T (fun i => vN f i / 10) (dg N n c) i ∧ M2.1 166 = M1.1 166 ∧ off [160, 164, 165, 166] M M2) (e := n) ?_ ?_ M1 ⟨g1, rfl, off_mo o1 (by decide)⟩
  · rintro M2 ⟨b1, b2, b3⟩
    refine sgM_isPlan_6 ?_
    rw [nI_clamp (by omega), (b3 183 (by decide)).1, h183]
    refine ⟨v4, br_t (by rw [nI_leP (by omega) (by omega)]; exact Nat.le_refl _) ?_⟩
    have xT : eqT g (lvF g T (fun i => vN f i / 10) (dg N n c) n) := lv_eqT h8 hw
    unfold plB at hq
    generalize lvF g T (fun i => vN f i / 10) (dg N n c) n = x at b1 xT hq
    refine loop_up (L := fun D M3 => wM_isPlan d 53 [.ref 159, .int (nI r), .int (nI D), .null] [] s M3 Q) (I := fun D M3 => M3.1 160 = xrF N T P x D ∧ M3.1 166 = M1.1 166 ∧ off [160, 164, 165, 166] M M3) (e := 9) ?_ ?_ M2 ⟨b1, b2, b3⟩
    · rintro M3 ⟨d1, d2, d3⟩
      refine sgM_isPlan_53 (br_t (by decide) ?_)
      refine loop_up (L := fun i M4 => wM_isPlan d 74 [.ref 159, .int (nI r), .int (if decide (fst (fun i => !decide (xrF N T P x 9 (50 + vN f i / 10) = nI (10 + vN f i % 10))) i = none) = true then 1 else 0), .int (nI i)] [] s M4 Q) (I := fun i M4 => M4 = M3) (e := n) ?_ ?_ M3 rfl
      · intro M4 e4
        subst e4
        refine sgM_isPlan_74 ?_
        rw [nI_clamp (by omega), (d3 183 (by decide)).1, h183]
        refine ⟨v4, br_t (by rw [nI_leP (by omega) (by omega)]; exact Nat.le_refl _) (sp_isAgain (by omega) (fun M5 e5 o5 => ⟨b01, hq M5 ?_ (off_tr d3 (off_mo o5 (by decide)))⟩))⟩
        rw [e5, d1, d2]
        exact again_eq (eqT_tr xT (xrF_eqT h8)) k1
      · intro i M4 hi e4 hk
        subst e4
        obtain ⟨q1, q2, q3, q4, q5⟩ := okP_1 h8 (ok i hi)
        obtain ⟨z1, z2, z3⟩ := k80 _ q4
        have ef : M4.2 184 (40 * r + i) = lN (vN f i) := by rw [(d3 184 (by decide)).2, hf i hi]; exact q3
        refine sgM_isPlan_74 ?_
        rw [nI_clamp (by omega), (d3 183 (by decide)).1, h183, lI 40, pk_mul, nI_add, nI_clamp (by omega), ef, lN_32, z3, z2, lI 50, nI_add, nI_clamp (by omega), d1, nI_1]
        refine ⟨v4, br_f (by rw [nI_leP (by omega) (by omega)]; omega) ⟨vpI (by omega) (by omega), vpI (by omega) (by omega), vpI (by omega) (by omega), fun v ev => ?_⟩⟩
        have iff : ((xrF N T P x 9 (50 + vN f i / 10)).toInt64 = (10 : Int64) + lN (vN f i % 10)) = (xrF N T P x 9 (50 + vN f i / 10) = nI (10 + vN f i % 10)) := by
          have e10 : (10 : Int64) + lN (vN f i % 10) = (nI (10 + vN f i % 10)).toInt64 := by
            rw [nI_l (by omega)]
            have : ∀ k, k < 10 → (10 : Int64) + lN k = lN (10 + k) := by decide +kernel
            exact this _ (by omega)
          rw [e10]
          refine propext ⟨fun h => ?_, fun h => by rw [h]⟩
          have := congrArg Int64.toInt32 h
          simpa using this
        simp only [iff] at ev
        have st : v = if decide (fst (fun i => !decide (xrF N T P x 9 (50 + vN f i / 10) = nI (10 + vN f i % 10))) (i + 1) = none) = true then 1 else 0 := by
          rw [ev]
          simp only [decide_eq_true_eq, fst_s]
          by_cases c1 : fst (fun i => !decide (xrF N T P x 9 (50 + vN f i / 10) = nI (10 + vN f i % 10))) i = none <;> by_cases c2 : xrF N T P x 9 (50 + vN f i / 10) = nI (10 + vN f i % 10) <;> simp [c1, c2]
        rw [st]
        exact hk M4 rfl
    · rintro D M3 hD ⟨d1, d2, d3⟩ hk
      refine sgM_isPlan_53 (br_f (by rw [lI 8, nI_ltP (by omega) (by omega)]; omega) (sp_rolls (by omega) d1 (Vd_congr (eqT_L (eqT_tr xT (xrF_eqT h8))) hV) (fun M4 e4 o4 => ?_)))
      rw [nI_1]
      refine hk M4 ⟨e4, by rw [(o4 166 (by decide)).1]; exact d2, off_tr d3 (off_mo o4 (by decide))⟩
  · rintro i M2 hi ⟨b1, b2, b3⟩ hk
    obtain ⟨q1, q2, q3, q4, q5⟩ := okP_1 h8 (ok i hi)
    obtain ⟨z1, z2, z3⟩ := k80 _ q4
    have ef : M2.2 184 (40 * r + i) = lN (vN f i) := by rw [(b3 184 (by decide)).2, hf i hi]; exact q3
    refine sgM_isPlan_6 ?_
    rw [nI_clamp (by omega), (b3 183 (by decide)).1, h183, lI 40, pk_mul, nI_add, nI_clamp (by omega), ef, lN_32, z3, lI 50, nI_add, nI_clamp (by omega), nI_clamp (by omega), (b3 167 (by decide)).1, hl i hi, nI_1]
    refine ⟨v4, br_f (by rw [nI_leP (by omega) (by omega)]; omega) ⟨vpI (by omega) (by omega), vpI (by omega) (by omega), vpI (by omega) (by omega), hk _ ⟨?_, by rw [si_ne (by decide)]; exact b2, off_si b3 (by decide)⟩⟩⟩
    rw [si_eq, b1]; rfl
