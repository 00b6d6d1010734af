/-- how far a thing left has come -/
def ST (N P : Nat) (X : Nat → Nat → Int32) (w : Nat → Nat) (lo D : Nat) (y : Nat → Int32) (M : pm_M) (i : Nat) : Prop :=
  (M.1 45 i = 0 ∧ M.1 44 i = -1 ∧ ∃ k, k < N ∧ lo ≤ k ∧ M.1 50 i = nI k ∧ y (50 + w i) = nI k ∧ ∀ D', D' ≤ D → X D' (50 + w i) < 10) ∨
  (∃ E, 1 ≤ E ∧ E ≤ lo ∧ E ≤ 8 ∧ M.1 45 i = nI E ∧ (∀ D', D' < E → X D' (50 + w i) < 10) ∧ (E ≤ D → X E (50 + w i) = y (50 + w i)) ∧ ((M.1 44 i = -1 ∧ y (50 + w i) = 99) ∨ ∃ p, p < P ∧ M.1 44 i = nI p ∧ y (50 + w i) = nI (10 + p)))
/-- the order: by the things' numbers -/
def ORD (M : pm_M) (n : Nat) (w o : Nat → Nat) : Prop := (∀ k, k < n → M.1 51 k = nI (o k) ∧ o k < n) ∧ (∀ j j', j < j' → j' < n → w (o j) < w (o j')) ∧ ∀ i, i < n → ∃ k, k < n ∧ o k = i
theorem ORD_inj {M : pm_M} {n : Nat} {w o : Nat → Nat} (h : ORD M n w o) {i j : Nat} (hi : i < n) (hj : j < n) (e : w i = w j) : i = j := by
  obtain ⟨k, k1, k2⟩ := h.2.2 i hi
  obtain ⟨l, l1, l2⟩ := h.2.2 j hj
  by_cases c : k < l
  · have := h.2.1 k l c l1
    rw [k2, l2] at this; omega
  · by_cases c2 : l < k
    · have := h.2.1 l k c2 k1
      rw [k2, l2] at this; omega
    · have : k = l := by omega
      subst this
      rw [← k2, ← l2]
theorem v10 {p : Nat} (hp : p < 6) : ¬ nI (10 + p) < 10 := by rw [lI 10, nI_ltP (by omega) (by omega)]; omega
theorem ST_end {N P D : Nat} {X : Nat → Nat → Int32} {w : Nat → Nat} {M : pm_M} {i : Nat} (h5 : N ≤ 8) (h : ST N P X w (D + 1) D (X (D + 1)) M i) : ST N P X w (D + 1) (D + 1) (X (D + 1)) M i := by
  rcases h with ⟨a1, a2, k, a3, a4, a5, a6, a7⟩ | ⟨E, a1, a2, a2', a3, a4, a5, a6⟩
  · refine Or.inl ⟨a1, a2, k, a3, a4, a5, a6, fun D' hD' => ?_⟩
    by_cases e : D' = D + 1
    · rw [e, a6, lI 10, nI_ltP (by omega) (by omega)]; omega
    · exact a7 D' (by omega)
  · refine Or.inr ⟨E, a1, a2, a2', a3, a4, fun _ => ?_, a6⟩
    by_cases e : E = D + 1
    · rw [e]
    · exact a5 (by omega)
theorem ST_other {N P lo D : Nat} {X : Nat → Nat → Int32} {w : Nat → Nat} {y y' : Nat → Int32} {M M' : pm_M} {i : Nat} (h : ST N P X w lo D y M i) (e1 : M'.1 44 i = M.1 44 i) (e2 : M'.1 45 i = M.1 45 i) (e3 : M'.1 50 i = M.1 50 i) (e4 : y' (50 + w i) = y (50 + w i)) : ST N P X w lo D y' M' i := by
  unfold ST at h ⊢
  rw [e1, e2, e3, e4]; exact h
theorem sp_travel {d : Nat} {s : pm_S} {M : pm_M} {g x : Nat → Int32} {N T P H n : Nat} {w o f : Nat → Nat} {Q : pm_S → pm_M → Prop} (hd : 3 ≤ d) (hN : M.1 15 0 = nI N) (hP : M.1 15 2 = nI P) (h5 : N ≤ 8) (h8 : T ≤ 8) (h6 : P ≤ 6) (hK : KR M g T P) (hh : ∀ p, p < P → M.1 20 p = g (35 + p)) (hn : n ≤ 3) (h43 : M.1 43 8 = nI n) (hf : M.1 43 9 = nI H ^^^ (-1)) (hH : hdR x T P H) (hx : eqT g x) (hw : ∀ i, i < n → M.1 48 i = nI (w i) ∧ w i < T ∧ M.1 49 i = nI (f i) ∧ f i < N ∧ x (50 + w i) = nI (f i)) (hO : ORD M n w o) (hs : ∀ t, t < T → (∀ i, i < n → w i ≠ t) → ¬ x (50 + t) < 10) (hq : ∀ M', (∀ i, i < n → ∃ E, 1 ≤ E ∧ E ≤ 8 ∧ M'.1 45 i = nI E ∧ (∀ D', D' < E → xrF N T P x D' (50 + w i) < 10) ∧ ((M'.1 44 i = -1 ∧ xrF N T P x E (50 + w i) = 99) ∨ ∃ p, p < P ∧ M'.1 44 i = nI p ∧ xrF N T P x E (50 + w i) = nI (10 + p))) → off [43, 44, 45, 50] M M' → M'.1 43 8 = M.1 43 8 → M'.1 43 9 = M.1 43 9 → Q s M') : cV d yF_travel [.ref 43, .ref 15, .ref 41] s M Q := by
  obtain ⟨d, rfl⟩ : ∃ e, d = e + 1 := ⟨d - 1, by omega⟩
  refine enF_travel ?_
  rw [hf]
  refine loop_up (L := fun i M1 => wF_travel d 10 [.ref 43, .ref 15, .ref 41, .int (nI i), .null, .null, .null] [] s M1 Q) (I := fun i M1 => off [43, 44, 45, 50] M M1 ∧ M1.1 43 8 = nI n ∧ M1.1 43 9 = nI H ^^^ (-1) ∧ M1.1 43 10 = nI H ^^^ (-1) ∧ ∀ j, j < i → M1.1 50 j = nI (f j) ∧ M1.1 44 j = -1 ∧ M1.1 45 j = 0) (e := n) ?_ ?_ _ ⟨off_si off_rf (by decide), by rw [si_eq, row_ne (by decide)]; exact h43, by rw [si_eq, row_ne (by decide)]; exact hf, by rw [si_eq, row_eq], fun j h => by omega⟩
  · rintro M1 ⟨o1, b8, b9, b10, b⟩
    refine sgF_travel_10 (br_t (by rw [b8, nI_leP (by omega) (by omega)]; exact Nat.le_refl _) ?_)
    rw [b8]
    -- the days
    have days : ∀ r D, D + r = 8 → ∀ M2 c, off [43, 44, 45, 50] M M2 → M2.1 43 8 = nI n → M2.1 43 9 = nI H ^^^ (-1) → c = cntF (fun i => decide (M2.1 45 i = 0)) n → (∃ H', hdR (xrF N T P x D) T P H' ∧ M2.1 43 10 = nI H' ^^^ (-1)) → (∀ i, i < n → ST N P (xrF N T P x) w D D (xrF N T P x D) M2 i) → (∀ t, t < T → (∀ i, i < n → w i ≠ t) → ¬ xrF N T P x D (50 + t) < 10) → wF_travel d 58 [.ref 43, .ref 15, .ref 41, .int (nI c), .int (nI (D + 1)), .null, .null] [] s M2 Q := by
      intro r
      have done : ∀ D M2, off [43, 44, 45, 50] M M2 → M2.1 43 8 = nI n → M2.1 43 9 = nI H ^^^ (-1) → (∀ i, i < n → ST N P (xrF N T P x) w D D (xrF N T P x D) M2 i) → (∀ i, i < n → ¬ M2.1 45 i = 0) → Q s M2 := by
        intro D M2 o2 c8 c9 st al
        refine hq M2 (fun i hi => ?_) o2 (c8.trans h43.symm) (c9.trans hf.symm)
        rcases st i hi with a | ⟨E, a1, a2, a2', a3, a4, a5, a6⟩
        · exact absurd a.1 (al i hi)
        · refine ⟨E, a1, a2', a3, a4, ?_⟩
          rw [a5 (by omega)]; exact a6
      induction r with
      | zero =>
        intro D hD M2 c o2 c8 c9 ec _ st _
        refine sgF_travel_58 (br_t (by rw [lI 8, nI_ltP (by omega) (by omega)]; omega) (done D M2 o2 c8 c9 st (fun i hi z => ?_)))
        rcases st i hi with ⟨_, _, k, k1, k2, _⟩ | ⟨E, a1, a2, a2', a3, _⟩
        · omega
        · rw [z, l0, nI_inj (by omega) (by omega)] at a3; omega
      | succ r ih =>
        intro D hD M2 c o2 c8 c9 ec ⟨H', hH', c10⟩ st ns
        have cle := cnt_le (b := fun i => decide (M2.1 45 i = 0)) (n := n)
        refine sgF_travel_58 (br_f (by rw [lI 8, nI_ltP (by omega) (by omega)]; omega) (br_c (fun z => ?_) (fun z => ?_)))
        · rw [l0, nI_leP (by omega) (by omega)] at z
          refine done D M2 o2 c8 c9 st (fun i hi z2 => ?_)
          have := cnt_0 (b := fun i => decide (M2.1 45 i = 0)) (n := n) (i := i) (by omega) hi
          simp [z2] at this
        · -- the things by their numbers
          have iT : ∀ k, k ≤ n → (if k < n then w (o k) else T) ≤ 8 := by
            intro k hk
            split
            · have := (hw (o k) (hO.1 k (by omega)).2).2.1; omega
            · exact h8
          have gap : ∀ a k, k ≤ n → (∀ j, j < k → w (o j) < a) → a ≤ (if k < n then w (o k) else T) → rmF N T P (xrF N T P x D) (if k < n then w (o k) else T) = rmF N T P (xrF N T P x D) a := by
            intro a k hk ha hle
            refine rmF_skip hle (fun t t1 t2 => ns t ?_ (fun i hi e => ?_))
            · split at t2
              · have := (hw (o k) (hO.1 k (by omega)).2).2.1; omega
              · exact t2
            · obtain ⟨j, j1, j2⟩ := hO.2.2 i hi
              by_cases c1 : j < k
              · have := ha j c1
                rw [j2] at this; omega
              · rw [if_pos (by omega)] at t2
                by_cases c2 : j = k
                · rw [← c2, j2] at t2; omega
                · have := hO.2.1 k j (by omega) j1
                  rw [j2] at this; omega
          have inner : ∀ q k, k + q = n → ∀ M3 c3, off [43, 44, 45, 50] M M3 → M3.1 43 8 = nI n → M3.1 43 9 = nI H ^^^ (-1) → c3 = cntF (fun i => decide (M3.1 45 i = 0)) n → (∃ H', hdR (rmF N T P (xrF N T P x D) (if k < n then w (o k) else T)) T P H' ∧ M3.1 43 10 = nI H' ^^^ (-1)) → (∀ j, j < k → ST N P (xrF N T P x) w (D + 1) D (rmF N T P (xrF N T P x D) (if k < n then w (o k) else T)) M3 (o j)) → (∀ j, k ≤ j → j < n → ST N P (xrF N T P x) w D D (rmF N T P (xrF N T P x D) (if k < n then w (o k) else T)) M3 (o j)) → wF_travel d 72 [.ref 43, .ref 15, .ref 41, .int (nI c3), .int (nI (D + 1)), .int (nI k), .null] [] s M3 Q := by
            intro q
            induction q with
            | zero =>
              intro k hk M3 c3 o3 d8 d9 ec3 hb st1 _
              have hkn : ¬ k < n := by omega
              rw [if_neg hkn] at hb st1
              refine sgF_travel_72 (br_t (by rw [d8, nI_leP (by omega) (by omega)]; omega) ?_)
              rw [nI_1]
              refine ih (D + 1) (by omega) M3 c3 o3 d8 d9 ec3 hb (fun i hi => ?_) (fun t ht hne => ?_)
              · obtain ⟨j, j1, j2⟩ := hO.2.2 i hi
                have := st1 j (by omega)
                rw [j2] at this
                exact ST_end h5 this
              · have q := ns t ht hne
                show ¬ rmF N T P (xrF N T P x D) T (50 + t) < 10
                rw [rmF_keep q]; exact q
            | succ q ihq =>
              intro k hk M3 c3 o3 d8 d9 ec3 hb st1 st2
              have hkn : k < n := by omega
              rw [if_pos hkn] at hb st1 st2
              obtain ⟨oo1, oo2⟩ := hO.1 k hkn
              obtain ⟨w1, w2, _, _, _⟩ := hw (o k) oo2
              have e51 : M3.1 51 k = nI (o k) := by rw [(o3 51 (by decide)).1]; exact oo1
              generalize hy : rmF N T P (xrF N T P x D) (w (o k)) = y at hb st1 st2
              have nx : rmF N T P (xrF N T P x D) (if k + 1 < n then w (o (k + 1)) else T) = rmF N T P (xrF N T P x D) (w (o k) + 1) := by
                refine gap (w (o k) + 1) (k + 1) (by omega) (fun j hj => ?_) ?_
                · by_cases e : j = k
                  · rw [e]; omega
                  · have := hO.2.1 j k (by omega) hkn; omega
                · split
                  · rename_i c1
                    have := hO.2.1 k (k + 1) (by omega) c1; omega
                  · omega
              have ne : ∀ j, j < n → j ≠ k → w (o j) ≠ w (o k) ∧ o j ≠ o k := by
                intro j hj hne
                have : w (o j) ≠ w (o k) := by
                  by_cases c1 : j < k
                  · have := hO.2.1 j k c1 hkn; omega
                  · have := hO.2.1 k j (by omega) hj; omega
                exact ⟨this, fun e => this (by rw [e])⟩
              have cle3 := cnt_le (b := fun i => decide (M3.1 45 i = 0)) (n := n)
              have stk := st2 k (Nat.le_refl _) hkn
              refine sgF_travel_72 (br_f (by rw [d8, nI_leP (by omega) (by omega)]; omega) ?_)
              rw [nI_clamp (by omega), e51, nI_clamp (by omega), nI_1]
              refine ⟨vpI (by omega) (by omega), vpI (by omega) (by omega), ?_⟩
              rcases stk with ⟨a1, a2, kk, a3, a4, a5, a6, a7⟩ | ⟨E, a1, a2, a2', a3, a4, a5, a6⟩
              · refine br_t a1 ?_
                obtain ⟨H3, hH3, d10⟩ := hb
                have yT : eqT g y := by rw [← hy]; exact eqT_tr (eqT_tr hx (xrF_eqT h8)) (rmF_eqT (by omega))
                have ym : rmF N T P (xrF N T P x D) (w (o k) + 1) = pm_row y (50 + w (o k)) (rollV N (nI (kk + 1)) (rollR y N T P (w (o k)) (nI (kk + 1)))) := by
                  rw [rmF_s, hy, a6, if_pos (by rw [lI 10, nI_ltP (by omega) (by omega)]; omega), nI_1]
                have c15 := (o3 15 (by decide)).1
                have c20 := (o3 20 (by decide)).1
                refine sp_arrives (g := g) (x := y) (N := N) (T := T) (P := P) (H := H3) (k := kk) (t := w (o k)) (by omega) (by rw [c15]; exact hN) (by rw [c15]; exact hP) h5 h8 h6 (KR_off o3 (by decide) hK) (fun p hp => by rw [c20]; exact hh p hp) (by omega) a3 a5 (by rw [(o3 48 (by decide)).1]; exact w1) w2 a2 d10 hH3 yT (fun M4 e50 e44 f8 f9 f10 o4 => ?_)
                have rr : ∀ p, rollR y N T P (w (o k)) (nI (kk + 1)) = some p → p < P ∧ kk + 1 < N := by
                  intro p hp
                  refine ⟨(rollR_some hp).1, ?_⟩
                  unfold rollR at hp
                  split at hp
                  · cases hp
                  · rename_i z2
                    rw [nI_leP (by omega) (by omega)] at z2; omega
                have hd4 : hdR (rmF N T P (xrF N T P x D) (w (o k) + 1)) T P (orO H3 (rollR y N T P (w (o k)) (nI (kk + 1)))) := by
                  rw [ym]; exact hdR_row h6 h5 a3 w2 a6 rr hH3
                have o4' : off [43, 44, 45, 50] M M4 := off_tr o3 (off_mo o4 (by decide))
                have e45 : M4.1 45 = M3.1 45 := (o4 45 (by decide)).1
                have keep : ∀ lo j M5, j < n → j ≠ k → M5.1 44 = M4.1 44 → M5.1 50 = M4.1 50 → (∀ i, i ≠ o k → M5.1 45 i = M4.1 45 i) → ST N P (xrF N T P x) w lo D y M3 (o j) → ST N P (xrF N T P x) w lo D (rmF N T P (xrF N T P x D) (w (o k) + 1)) M5 (o j) := by
                  intro lo j M5 hj hne z44 z50 z45 sj
                  obtain ⟨n1, n2⟩ := ne j hj hne
                  refine ST_other sj ?_ ?_ ?_ ?_
                  · rw [z44, e44, row_ne n2]
                  · rw [z45 _ n2, e45]
                  · rw [z50, e50, row_ne n2]
                  · rw [ym, row_ne (by omega)]
                by_cases res : kk + 1 = N ∨ ¬ rollR y N T P (w (o k)) (nI (kk + 1)) = none
                · rw [if_pos res]
                  refine br_f (by decide) ⟨vpI (by omega) (by omega), ?_⟩
                  have cr := cnt_row (b := fun i => decide (M3.1 45 i = 0)) (b' := fun i => decide ((pm_si M4 45 (o k) (nI (D + 1))).1 45 i = 0)) (n := n) (i := o k) oo2 (by simp [a1]) (by
                    rw [si_eq, row_eq]
                    simp only [decide_eq_false_iff_not]
                    rw [l0, nI_inj (by omega) (by omega)]; omega) (fun j hj => by rw [si_eq, row_ne hj, e45])
                  have ec4 : nI c3 + (-1) = nI (c3 - 1) := by
                    obtain ⟨c4, hc4⟩ : ∃ c4, c3 = c4 + 1 := ⟨c3 - 1, by omega⟩
                    rw [hc4, pk_m1]; rfl
                  rw [ec4]
                  have new : ST N P (xrF N T P x) w (D + 1) D (rmF N T P (xrF N T P x D) (w (o k) + 1)) (pm_si M4 45 (o k) (nI (D + 1))) (o k) := by
                    refine Or.inr ⟨D + 1, by omega, Nat.le_refl _, by omega, by rw [si_eq, row_eq], fun D' hD' => a7 D' (by omega), fun h => by omega, ?_⟩
                    rw [si_ne (by decide), e44, row_eq, ym, row_eq]
                    cases hr : rollR y N T P (w (o k)) (nI (kk + 1)) with
                    | none =>
                      have hN' : kk + 1 = N := by
                        rcases res with z | z
                        · exact z
                        · exact absurd hr z
                      refine Or.inl ⟨rfl, ?_⟩
                      unfold rollV
                      rw [if_pos (by rw [hN'])]
                    | some p =>
                      obtain ⟨r1, r2⟩ := rr p hr
                      refine Or.inr ⟨p, r1, rfl, ?_⟩
                      have x1 : oI (some p) = nI p := rfl
                      have x2 : ¬ oI (some p) = -1 := by rw [x1, m1_ne (by omega)]; simp
                      unfold rollV
                      rw [if_neg (by rw [nI_inj (by omega) (by omega)]; omega), if_neg x2, x1, lI 10, nI_add]
                  refine ihq (k + 1) (by omega) _ _ (off_si o4' (by decide)) (by rw [si_ne (by decide), f8]; exact d8) (by rw [si_ne (by decide), f9]; exact d9) (by omega) ⟨_, by rw [nx]; exact hd4, by rw [si_ne (by decide)]; exact f10⟩ (fun j hj => ?_) (fun j hj1 hj2 => ?_)
                  · rw [nx]
                    by_cases e : j = k
                    · subst e; exact new
                    · exact keep _ j _ (by omega) e (by rw [si_ne (by decide)]) (by rw [si_ne (by decide)]) (fun i hi => by rw [si_eq, row_ne hi]) (st1 j (by omega))
                  · rw [nx]
                    exact keep _ j _ hj2 (by omega) (by rw [si_ne (by decide)]) (by rw [si_ne (by decide)]) (fun i hi => by rw [si_eq, row_ne hi]) (st2 j (by omega) hj2)
                · rw [if_neg res]
                  refine br_t rfl ?_
                  have res1 : ¬ kk + 1 = N := fun z => res (Or.inl z)
                  have res2 : rollR y N T P (w (o k)) (nI (kk + 1)) = none := by
                    cases hr : rollR y N T P (w (o k)) (nI (kk + 1)) with
                    | none => rfl
                    | some p => exact absurd (Or.inr (by rw [hr]; simp)) res
                  have new : ST N P (xrF N T P x) w (D + 1) D (rmF N T P (xrF N T P x D) (w (o k) + 1)) M4 (o k) := by
                    refine Or.inl ⟨by rw [e45]; exact a1, by rw [e44, row_eq, res2]; rfl, kk + 1, by omega, by omega, by rw [e50, row_eq], ?_, a7⟩
                    rw [ym, row_eq, res2]
                    unfold rollV
                    rw [if_neg (by rw [nI_inj (by omega) (by omega)]; exact res1), if_pos (show oI none = -1 from rfl)]
                  refine ihq (k + 1) (by omega) M4 c3 o4' (by rw [f8]; exact d8) (by rw [f9]; exact d9) (by rw [e45]; exact ec3) ⟨_, by rw [nx]; exact hd4, f10⟩ (fun j hj => ?_) (fun j hj1 hj2 => ?_)
                  · rw [nx]
                    by_cases e : j = k
                    · subst e; exact new
                    · exact keep _ j _ (by omega) e rfl rfl (fun i hi => rfl) (st1 j (by omega))
                  · rw [nx]
                    exact keep _ j _ hj2 (by omega) rfl rfl (fun i hi => rfl) (st2 j (by omega) hj2)
              · have yn : ¬ y (50 + w (o k)) < 10 := by
                  rcases a6 with ⟨_, z⟩ | ⟨p, z1, _, z2⟩
                  · rw [z]; decide
                  · rw [z2]; exact v10 (by omega)
                have ym : rmF N T P (xrF N T P x D) (w (o k) + 1) = y := by rw [rmF_s, hy, if_neg yn]
                rw [ym] at nx
                refine br_f (by rw [a3, l0, nI_inj (by omega) (by omega)]; omega) (ihq (k + 1) (by omega) M3 c3 o3 d8 d9 ec3 (by rw [nx]; exact hb) (fun j hj => ?_) (fun j hj1 hj2 => ?_))
                · rw [nx]
                  by_cases e : j = k
                  · subst e
                    exact Or.inr ⟨E, a1, by omega, a2', a3, a4, a5, a6⟩
                  · exact st1 j (by omega)
                · rw [nx]; exact st2 j (by omega) hj2
          have g0 := gap 0 0 (by omega) (fun j hj => by omega) (by omega)
          refine inner n 0 (by omega) M2 c o2 c8 c9 ec ⟨H', ?_, c10⟩ (fun j hj => by omega) (fun j _ hj => ?_)
          · rw [g0]; exact hH'
          · rw [g0]; exact st (o j) (hO.1 j hj).2
    have call : cntF (fun i => decide (M1.1 45 i = 0)) n = n := cnt_all (fun i hi => by simp [(b i hi).2.2])
    refine days 8 0 (by omega) M1 n o1 b8 b9 call.symm ⟨H, hH, b10⟩ (fun i hi => ?_) hs
    obtain ⟨_, w2, _, w4, w5⟩ := hw i hi
    refine Or.inl ⟨(b i hi).2.2, (b i hi).2.1, f i, w4, by omega, (b i hi).1, w5, fun D' hD' => ?_⟩
    rw [show D' = 0 by omega]
    show x (50 + w i) < 10
    rw [w5, lI 10, nI_ltP (by omega) (by omega)]; omega
  · rintro i M1 hi ⟨o1, b8, b9, b10, b⟩ hk
    refine sgF_travel_10 (br_f (by rw [b8, nI_leP (by omega) (by omega)]; omega) ?_)
    rw [nI_clamp (by omega), (o1 49 (by decide)).1, (hw i hi).2.2.1, nI_1]
    have v3 : vp_in (nI i) 3 := vpI (by omega) (by omega)
    refine ⟨v3, v3, v3, v3, hk _ ⟨off_si (off_si (off_si o1 (by decide)) (by decide)) (by decide), by rw [si_ne (by decide), si_ne (by decide), si_ne (by decide)]; exact b8, by rw [si_ne (by decide), si_ne (by decide), si_ne (by decide)]; exact b9, by rw [si_ne (by decide), si_ne (by decide), si_ne (by decide)]; exact b10, fun j hj => ?_⟩⟩
    rw [si_ne (by decide), si_ne (by decide), si_eq, si_ne (by decide), si_eq, si_ne (by decide), si_eq, si_ne (by decide), si_ne (by decide)]
    by_cases e : j = i
    · subst e; rw [row_eq, row_eq, row_eq]; exact ⟨rfl, rfl, rfl⟩
    · rw [row_ne e, row_ne e, row_ne e]; exact b j (by omega)
