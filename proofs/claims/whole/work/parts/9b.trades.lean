theorem rd_lt {g : Nat → Int32} {T P k : Nat} (h : k < rdF g T P) : k < 6 ∧ (trF g T P k).1 ≠ 0 := by
  unfold rdF at h
  rcases fst_cases (fun k => decide ((trF g T P k).1 = 0)) 6 with ⟨e, q⟩ | ⟨i, e, q1, q2, q3⟩
  · rw [e] at h
    exact ⟨h, by simpa using q k h⟩
  · rw [e] at h
    have h' : k < i := h
    exact ⟨by omega, by simpa using q3 k h'⟩
theorem rd_0 {g : Nat → Int32} {N T P : Nat} (hV : Vd g N T P) : (trF g T P (rdF g T P)).1 = 0 ∧ rdF g T P ≤ 6 := by
  unfold rdF
  rcases fst_cases (fun k => decide ((trF g T P k).1 = 0)) 6 with ⟨e, q⟩ | ⟨i, e, q1, q2, q3⟩
  · rw [e]; exact ⟨trF_6 hV, Nat.le_refl _⟩
  · rw [e]; exact ⟨by simpa using q2, by dsimp only; omega⟩
theorem sp_isRing {d : Nat} {s : pm_S} {M : pm_M} {g : Nat → Int32} {T L p : Nat} {Q : Int32 → pm_S → pm_M → Prop} (hd : 1 ≤ d) (hp : p < 6) (hb : bt L p = true) (hM : ∀ q, q < 6 → bt L q = true → M.1 172 q = nI (ptF g T L q)) (hq : Q (if rgB (ptF g T L) p = true then 1 else 0) s M) : cI d yM_isRing [.ref 159, .int (nI p)] s M Q := by
  obtain ⟨d, rfl⟩ : ∃ e, d = e + 1 := ⟨d - 1, by omega⟩
  refine enM_isRing ⟨vpI (by omega) (by omega), ?_⟩
  rw [nI_clamp (by omega), hM p hp hb]
  unfold rgB at hq
  refine loop_fst (L := fun k => wM_isRing d 9 [.ref 159, .int (nI p), .int (nI (pw (ptF g T L) (k + 1) p)), .int (nI k)] [] s M Q) (P := fun k => decide (pw (ptF g T L) (k + 1) p = p)) (e := 6) (K := fun r => Q (if (match r with | some _ => true | none => decide (pw (ptF g T L) 7 p = p)) = true then 1 else 0) s M) hq ?_ ?_
  · intro h
    have i7 := pw_in (g := g) (T := T) (k := 6 + 1) hp hb
    refine sgM_isRing_9 (br_t (by decide) ?_)
    simp only [nI_inj (a := pw (ptF g T L) (6 + 1) p) (b := p) (by omega) (by omega)]
    simp only [decide_eq_true_eq] at h
    exact h
  · intro k hk k1 k2
    have ik := pw_in (g := g) (T := T) (k := k + 1) hp hb
    refine sgM_isRing_9 (br_f (by rw [lI 6, nI_leP (by omega) (by omega)]; omega) ?_)
    simp only [nI_inj (a := pw (ptF g T L) (k + 1) p) (b := p) (by omega) (by omega)]
    rw [nI_clamp (by omega), hM _ ik.1 ik.2, nI_1]
    refine br_c (fun c => ?_) (fun c => ⟨vpI (by omega) (by omega), k2 (by simp [c])⟩)
    have := k1 (by simp [c])
    rw [if_pos c]
    exact this
theorem sp_laysTrade {d : Nat} {s : pm_S} {M : pm_M} {g : Nat → Int32} {N T P : Nat} {Q : pm_S → pm_M → Prop} (hd : 5 ≤ d) (hg : M.1 160 = g) (hV : Vd g N T P) (hv : Vs g N T P) (hq : ∀ M', (∀ p, p < 6 → M'.1 173 p = (trF g T P (rdF g T P)).2 p) → M'.1 159 29 = nI (rdF g T P) → (∀ k, k ≠ 29 → M'.1 159 k = M.1 159 k) → off [159, 164, 165, 172, 173] M M' → Q s M') : cV d yM_laysTrade [.ref 159] s M Q := by
  obtain ⟨d, rfl⟩ : ∃ e, d = e + 1 := ⟨d - 1, by omega⟩
  have h2 := hV.2.1
  have h3 := hV.2.2.1
  have h8 := hV.2.2.2.2.2.1
  have h6 := hV.2.2.2.2.2.2.1
  refine enM_laysTrade (sp_holders (T := T) (P := P) (by omega) hg h2 h3 h8 h6 ?_)
  refine loop_up (L := fun i M1 => wM_laysTrade d 12 [.ref 159, .int (nI (setF (holdB g T) P)), .int (nI i), .null] [] s M1 Q) (I := fun i M1 => (∀ p, p < i → M1.1 173 p = -1) ∧ M1.1 159 29 = nI 0 ∧ (∀ k, k ≠ 29 → M1.1 159 k = M.1 159 k) ∧ off [159, 164, 165, 172, 173] M M1) (e := 6) ?_ ?_ _ ⟨fun p h => by omega, by rw [si_eq, row_eq]; rfl, fun k hk => by rw [si_eq, row_ne hk], off_si off_rf (by decide)⟩
  · rintro M1 ⟨b1, b2, b3, b4⟩
    refine sgM_laysTrade_12 (br_t (by decide) ?_)
    refine loop_up (L := fun k M2 => wM_laysTrade d 31 [.ref 159, .int (nI (trF g T P k).1), .null, .null] [] s M2 Q) (I := fun k M2 => (∀ p, p < 6 → M2.1 173 p = (trF g T P k).2 p) ∧ M2.1 159 29 = nI k ∧ (∀ j, j ≠ 29 → M2.1 159 j = M.1 159 j) ∧ off [159, 164, 165, 172, 173] M M2) (e := rdF g T P) ?_ ?_ M1 ⟨b1, b2, b3, b4⟩
    · rintro M2 ⟨c1, c2, c3, c4⟩
      refine sgM_laysTrade_31 (br_t ?_ (hq M2 c1 c2 c3 c4))
      rw [(rd_0 hV).1]; rfl
    · rintro k M2 hk ⟨c1, c2, c3, c4⟩ hkk
      obtain ⟨k6, kz⟩ := rd_lt hk
      have ok := trF_ok (g := g) hV k
      have L64 := ok.1
      refine sgM_laysTrade_31 (br_f (by rw [l0, nI_inj (by omega) (by omega)]; exact kz) ?_)
      generalize hLL : (trF g T P k).1 = LL at ok L64 kz ⊢
      refine loop_up (L := fun p M3 => wM_laysTrade d 37 [.ref 159, .int (nI LL), .int (nI p), .null] [] s M3 Q) (I := fun p M3 => (∀ q, q < p → bt LL q = true → M3.1 172 q = nI (ptF g T LL q)) ∧ (∀ p, p < 6 → M3.1 173 p = (trF g T P k).2 p) ∧ M3.1 159 29 = nI k ∧ (∀ j, j ≠ 29 → M3.1 159 j = M.1 159 j) ∧ off [159, 164, 165, 172, 173] M M3) (e := P) ?_ ?_ M2 ⟨fun q h => by omega, c1, c2, c3, c4⟩
      · rintro M3 ⟨d0, d1, d2, d3, d4⟩
        have g3 := r160 d4 (by decide) hg
        have pt : ∀ q, q < 6 → bt LL q = true → M3.1 172 q = nI (ptF g T LL q) := fun q hq hb => d0 q (ok.2 q hq hb).1 hb
        refine sgM_laysTrade_37 (br_t (by rw [g3, h3, nI_leP (by omega) (by omega)]; exact Nat.le_refl _) ?_)
        have e6 : goF g T LL P = goF g T LL 6 := (setF_stop h6 (fun i h1 h2 => by
          cases z : bt LL i with
          | false => rfl
          | true => have := (ok.2 i h2 z).1; omega)).symm
        refine loop_up (L := fun i M4 => wM_laysTrade d 78 [.ref 159, .int (nI LL), .int (nI (goF g T LL i)), .int (nI i)] [] s M4 Q) (I := fun i M4 => (∀ p, p < 6 → M4.1 173 p = if p < i ∧ (bt LL p && rgB (ptF g T LL) p) = true then oI (heldF g T (ptF g T LL p)) else (trF g T P k).2 p) ∧ M4.1 172 = M3.1 172 ∧ M4.1 159 29 = nI k ∧ (∀ j, j ≠ 29 → M4.1 159 j = M.1 159 j) ∧ off [159, 164, 165, 172, 173] M M4) (e := P) ?_ ?_ M3 ⟨fun p hp => by rw [if_neg (by omega)]; exact d1 p hp, rfl, d2, d3, d4⟩
        · rintro M4 ⟨f0, f1, f2, f3, f4⟩
          have g4 := r160 f4 (by decide) hg
          refine sgM_laysTrade_78 (br_t (by rw [g4, h3, nI_leP (by omega) (by omega)]; exact Nat.le_refl _) ?_)
          rw [e6, (df_bit LL L64 _ goF_lt).1, f2, nI_1]
          have e : (trF g T P (k + 1)).1 = dfN LL (goF g T LL 6) := by rw [← hLL]; rfl
          rw [← e]
          refine hkk _ ⟨fun p hp => ?_, by rw [si_eq, row_eq], fun j hj => by rw [si_eq, row_ne hj]; exact f3 j hj, off_si f4 (by decide)⟩
          rw [si_ne (by decide), f0 p hp]
          have e2 : (trF g T P (k + 1)).2 p = if bt (goF g T LL 6) p = true then oI (heldF g T (ptF g T LL p)) else (trF g T P k).2 p := by rw [← hLL]; rfl
          rw [e2, goF_bt hp]
          by_cases z : p < P
          · simp only [z, true_and]
          · have zb : bt LL p = false := by
              cases y : bt LL p with
              | false => rfl
              | true => exact absurd (ok.2 p hp y).1 z
            rw [if_neg (fun w => z w.1), if_neg (by rw [zb]; simp)]
        · rintro p M4 hp ⟨f0, f1, f2, f3, f4⟩ hk4
          have g4 := r160 f4 (by decide) hg
          have st := set_step2 (b := fun p => bt LL p && rgB (ptF g T LL) p) (i := p) (by omega)
          have eqv : ∀ q, q ≠ p → ((q < p ∧ (bt LL q && rgB (ptF g T LL) q) = true) ↔ (q < p + 1 ∧ (bt LL q && rgB (ptF g T LL) q) = true)) := by
            intro q y
            constructor
            · rintro ⟨a, b⟩; exact ⟨by omega, b⟩
            · rintro ⟨a, b⟩; exact ⟨by omega, b⟩
          have same' : (bt LL p && rgB (ptF g T LL) p) = false → wM_laysTrade d 78 [.ref 159, .int (nI LL), .int (nI (goF g T LL p)), .int (nI (p + 1))] [] s M4 Q := by
            intro z
            have e1 : goF g T LL (p + 1) = goF g T LL p + (if (bt LL p && rgB (ptF g T LL) p) = true then 2 ^ p else 0) := rfl
            rw [if_neg (by rw [z]; simp), Nat.add_zero] at e1
            rw [e1] at hk4
            refine hk4 M4 ⟨fun q hq => ?_, f1, f2, f3, f4⟩
            rw [f0 q hq]
            by_cases y : q = p
            · subst y
              rw [if_neg (fun w => by rw [z] at w; exact absurd w.2 (by simp)), if_neg (fun w => by rw [z] at w; exact absurd w.2 (by simp))]
            · simp only [eqv q y]
          refine sgM_laysTrade_78 (br_f (by rw [g4, h3, nI_leP (by omega) (by omega)]; omega) (sp_isIn (by omega) (by omega) (by omega) ?_))
          rw [nI_1]
          cases c : bt LL p with
          | false => exact br_t rfl (same' (by rw [c]; rfl))
          | true =>
            refine br_f (by decide) (sp_isRing (g := g) (T := T) (L := LL) (by omega) (by omega) c (fun q hq hb => by rw [f1]; exact pt q hq hb) ?_)
            cases r : rgB (ptF g T LL) p with
            | false => exact br_t rfl (same' (by rw [c, r]; rfl))
            | true =>
              refine br_f (by decide) ⟨vpI (by omega) (by omega), ?_⟩
              rw [nI_clamp (by omega), f1, pt p (by omega) c]
              refine sp_heldByN (by omega) g4 h2 h8 ⟨vpI (by omega) (by omega), ?_⟩
              rw [if_pos (by rw [c, r]; rfl)] at st
              have e : nI (goF g T LL p) ||| ((1 : Int32) <<< (nI p &&& 31)) = nI (goF g T LL (p + 1)) := st
              rw [e]
              refine hk4 _ ⟨fun q hq => ?_, by rw [si_ne (by decide)]; exact f1, by rw [si_ne (by decide)]; exact f2, fun j hj => by rw [si_ne (by decide)]; exact f3 j hj, off_si f4 (by decide)⟩
              rw [si_eq]
              by_cases y : q = p
              · subst y
                rw [row_eq, if_pos ⟨by omega, by rw [c, r]; rfl⟩]
              · rw [row_ne y, f0 q hq]
                simp only [eqv q y]
      · rintro p M3 hp ⟨d0, d1, d2, d3, d4⟩ hk3
        have g3 := r160 d4 (by decide) hg
        refine sgM_laysTrade_37 (br_f (by rw [g3, h3, nI_leP (by omega) (by omega)]; omega) (sp_isIn (by omega) (by omega) (by omega) ?_))
        rw [nI_1]
        cases c : bt LL p with
        | false =>
          refine br_t rfl (hk3 M3 ⟨fun q hq hb => ?_, d1, d2, d3, d4⟩)
          by_cases y : q = p
          · subst y; rw [c] at hb; cases hb
          · exact d0 q (by omega) hb
        | true =>
          refine br_f (by decide) (sp_pointed (by omega) g3 hV hv ok (by omega) c (fun M4 o4 => ⟨vpI (by omega) (by omega), ?_⟩))
          rw [nI_clamp (by omega)]
          refine hk3 _ ⟨fun q hq hb => ?_, fun q hq => by rw [si_ne (by decide), (o4 173 (by decide)).1]; exact d1 q hq, by rw [si_ne (by decide), (o4 159 (by decide)).1]; exact d2, fun j hj => by rw [si_ne (by decide), (o4 159 (by decide)).1]; exact d3 j hj, off_si (off_tr d4 (off_mo o4 (by decide))) (by decide)⟩
          rw [si_eq]
          by_cases y : q = p
          · subst y; rw [row_eq]
          · rw [row_ne y, (o4 172 (by decide)).1]; exact d0 q (by omega) hb
  · rintro p M1 hp ⟨b1, b2, b3, b4⟩ hk
    refine sgM_laysTrade_12 (br_f (by rw [lI 6, nI_leP (by omega) (by omega)]; omega) ⟨vpI (by omega) (by omega), ?_⟩)
    rw [nI_clamp (by omega), nI_1]
    refine hk _ ⟨fun q hq => ?_, by rw [si_ne (by decide)]; exact b2, fun j hj => by rw [si_ne (by decide)]; exact b3 j hj, off_si b4 (by decide)⟩
    rw [si_eq]
    by_cases y : q = p
    · subst y; rw [row_eq]
    · rw [row_ne y]; exact b1 q (by omega)
theorem Scr_T {M M' : pm_M} (h : off [159, 164, 165, 172, 173] M M') (k : ∀ j, j ≠ 29 → M'.1 159 j = M.1 159 j) : Scr M M' := Scr_16 h (by decide) (h 160 (by decide)).1 (k 5 (by omega)) (k 13 (by omega)) (k 14 (by omega))
theorem op_rounds {L d : Nat} {s : pm_S} {M : pm_M} (hd : 12 ≤ d) (hI : Inv L s M) : cI d yG_rounds [.ref 0] s M (fun r s1 M1 => cI d yM_rounds [.ref 159] s1 M1 (same L r)) := by
  obtain ⟨d, rfl⟩ : ∃ e, d = e + 1 := ⟨d - 1, by omega⟩
  obtain ⟨g, N, T, P, x, n, hc⟩ := Inv_ctx hI
  obtain ⟨a1, a2, a3, a4, a5, a6, a7, a8, a9, a10, a11, a12, a13⟩ := hc
  refine enG_rounds (sp_gather (by omega) a4 a10 (fun M1 hK o1 => sp_run (by omega) a4.2 a9 (SR_off o1 a10 (by decide)) hK (fun M2 f2 o2 => ?_)))
  have s2 : Scr M M2 := Scr_tr (Scr_off o1 (by decide)) (Scr_off o2 (by decide))
  have s3 := Scr_tr s2 (Scr_159 (M := M2) (k := 0) (v := 0) (by omega))
  refine enM_rounds (sp_laysTrade (by omega) ((Scr_c s3 (by decide)).trans a3) a4.2 a9 (fun M3 f3 e3 k3 o3 => ⟨e3.symm, Inv_Scr hI a1 (Scr_tr s3 (Scr_T o3 k3))⟩))
theorem op_trade {L d : Nat} {s : pm_S} {M : pm_M} {v : Int32} (hd : 12 ≤ d) (hI : Inv L s M) : cI d yG_trade [.ref 0, .int v] s M (fun r s1 M1 => cI d yM_trade [.ref 159, .int v] s1 M1 (same L r)) := by
  obtain ⟨d, rfl⟩ : ∃ e, d = e + 1 := ⟨d - 1, by omega⟩
  obtain ⟨g, N, T, P, x, n, hc⟩ := Inv_ctx hI
  have rd := ctx_read hc
  obtain ⟨a1, a2, a3, a4, a5, a6, a7, a8, a9, a10, a11, a12, a13⟩ := hc
  have h6 : P ≤ 6 := a4.2.2.2.2.2.2.2.1
  have h3 := a4.2.2.2.1
  refine enG_trade (sp_hasPerson (by omega) (a4.1.2.2.1.trans h3) h6 (fun hv => br_f (by decide) ?_) (fun hv => br_t rfl ?_))
  · have hv' := (inN_i (p := v) (n := P) (by omega)).mpr hv
    obtain ⟨p, hp, rfl⟩ := hv
    refine sp_gather (by omega) a4 a10 (fun M1 hK o1 => sp_run (by omega) a4.2 a9 (SR_off o1 a10 (by decide)) hK (fun M2 f2 o2 => ⟨vpI (by omega) (by omega), ?_⟩))
    have s2 : Scr M M2 := Scr_tr (Scr_off o1 (by decide)) (Scr_off o2 (by decide))
    have s3 := Scr_tr s2 (Scr_159 (M := M2) (k := 0) (v := 0) (by omega))
    have g3 := (Scr_c s3 (c := 160) (by decide)).trans a3
    rw [nI_clamp (by omega), (f2 p (by omega)).1]
    refine enM_trade (sp_isPerson (n := P) (by omega) (by rw [g3]; exact h3) h6 (fun _ => br_f (by decide) ?_) (fun q => absurd hv' q))
    refine sp_laysTrade (by omega) g3 a4.2 a9 (fun M3 f3 e3 k3 o3 => ⟨vpI (by omega) (by omega), ?_, Inv_Scr hI a1 (Scr_tr s3 (Scr_T o3 k3))⟩)
    rw [nI_clamp (by omega), f3 p (by omega)]
  · exact enM_trade (sp_isPerson (n := P) (by omega) (by rw [si_ne (by decide), a3]; exact h3) h6 (fun q => absurd ((inN_i (by omega)).mp q) hv) (fun _ => br_t rfl ⟨rfl, rd⟩))
def tdB (g : Nat → Int32) (T P p : Nat) : Bool := decide (¬ (trF g T P (rdF g T P)).2 p = oI (heldF g T p))
theorem op_traders {L d : Nat} {s : pm_S} {M : pm_M} (hd : 12 ≤ d) (hI : Inv L s M) : cI d yG_traders [.ref 0] s M (fun r s1 M1 => cI d yM_traders [.ref 159] s1 M1 (same L r)) := by
  obtain ⟨d, rfl⟩ : ∃ e, d = e + 1 := ⟨d - 1, by omega⟩
  obtain ⟨g, N, T, P, x, n, hc⟩ := Inv_ctx hI
  obtain ⟨a1, a2, a3, a4, a5, a6, a7, a8, a9, a10, a11, a12, a13⟩ := hc
  have h8 : T ≤ 8 := a4.2.2.2.2.2.2.1
  have h6 : P ≤ 6 := a4.2.2.2.2.2.2.2.1
  have h2 := a4.2.2.1
  have h3 := a4.2.2.2.1
  refine enG_traders (sp_gather (by omega) a4 a10 (fun M1 hK o1 => sp_run (by omega) a4.2 a9 (SR_off o1 a10 (by decide)) hK (fun M2 f2 o2 => ?_)))
  have s2 : Scr M M2 := Scr_tr (Scr_off o1 (by decide)) (Scr_off o2 (by decide))
  have s3 := Scr_tr s2 (Scr_159 (M := M2) (k := 0) (v := 0) (by omega))
  have g3 := (Scr_c s3 (c := 160) (by decide)).trans a3
  have c15 : M2.1 15 2 = nI P := by rw [Scr_c s2 (by decide)]; exact a4.1.2.2.1.trans h3
  have ref : cI (d + 1) yM_traders [.ref 159] s M2 (same L (nI (setF (tdB g T P) P))) := by
    refine enM_traders (sp_laysTrade (by omega) g3 a4.2 a9 (fun M3 f3 e3 k3 o3 => ?_))
    have s4 := Scr_tr s3 (Scr_T o3 k3)
    have g4 := (Scr_c s4 (c := 160) (by decide)).trans a3
    refine loop_up (L := fun i M4 => wM_traders d 13 [.ref 159, .int (nI (setF (tdB g T P) i)), .int (nI i)] [] s M4 (same L (nI (setF (tdB g T P) P)))) (I := fun i M4 => M4 = M3) (e := P) ?_ ?_ M3 rfl
    · intro M4 e
      subst e
      exact sgM_traders_13 (br_t (by rw [g4, h3, nI_leP (by omega) (by omega)]; exact Nat.le_refl _) ⟨rfl, Inv_Scr hI a1 s4⟩)
    · intro p M4 hp e hk
      subst e
      refine sgM_traders_13 (br_f (by rw [g4, h3, nI_leP (by omega) (by omega)]; omega) ⟨vpI (by omega) (by omega), sp_heldByN (by omega) g4 h2 h8 (fun v ev => ?_)⟩)
      rw [nI_clamp (by omega), f3 p (by omega)] at ev
      have st := set_step (b := tdB g T P) (i := p) (by omega)
      have e2 : (if (trF g T P (rdF g T P)).2 p = oI (heldF g T p) then (0 : Int32) else 1 <<< (nI p &&& 31)) = (if tdB g T P p = true then (1 : Int32) <<< (nI p &&& 31) else 0) := by
        unfold tdB
        by_cases z : (trF g T P (rdF g T P)).2 p = oI (heldF g T p)
        · simp [z]
        · simp [z]
      rw [e2, st] at ev
      rw [ev, nI_1]
      exact hk M4 rfl
  refine loop_up (L := fun i M4 => wG_traders d 39 [.ref 0, .int (nI (setF (tdB g T P) i)), .int (nI i)] [] s M4 (fun r s1 M1 => cI (d + 1) yM_traders [.ref 159] s1 M1 (same L r))) (I := fun i M4 => M4 = M2) (e := P) ?_ ?_ M2 rfl
  · intro M4 e
    subst e
    exact sgG_traders_39 (br_t (by rw [c15, nI_leP (by omega) (by omega)]; exact Nat.le_refl _) ref)
  · intro p M4 hp e hk
    subst e
    have v6 : vp_in (nI p) 6 := vpI (by omega) (by omega)
    refine sgG_traders_39 (br_f (by rw [c15, nI_leP (by omega) (by omega)]; omega) ⟨v6, v6, ?_⟩)
    rw [nI_clamp (by omega), (f2 p (by omega)).1, (f2 p (by omega)).2, nI_1]
    have st := set_step2 (b := tdB g T P) (i := p) (by omega)
    have e2 : (if (trF g T P (rdF g T P)).2 p = oI (heldF g T p) then nI (setF (tdB g T P) p) else nI (setF (tdB g T P) p) ||| ((1 : Int32) <<< (nI p &&& 31))) = nI (setF (tdB g T P) (p + 1)) := by
      rw [← st]
      unfold tdB
      by_cases z : (trF g T P (rdF g T P)).2 p = oI (heldF g T p)
      · simp [z]
      · simp [z]
    rw [e2]
    exact hk M4 rfl
