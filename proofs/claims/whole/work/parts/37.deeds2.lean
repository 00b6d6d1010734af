theorem sp_leaves {d : Nat} {s : pm_S} {M : pm_M} {g : Nat → Int32} {N T P p t : Nat} {Q : Int32 → pm_S → pm_M → Prop} (hd : 2 ≤ d) (hg : M.1 160 = g) (hV : Vd g N T P) (hp : p < P) (hh : heldF g T p = some t) (hq : ∀ M', M'.1 160 = leaveF g T p → off [160, 164, 165] M M' → Q (nI t) s M') : cI d yM_leaves [.ref 159, .int (nI p)] s M Q := by
  obtain ⟨d, rfl⟩ : ∃ e, d = e + 1 := ⟨d - 1, by omega⟩
  obtain ⟨h1, h2, h3, h4, h5, h6, h7, h8, h9, h10, h11, h12⟩ := hV
  have ht := heldF_lt hh
  refine enM_leaves (sp_heldByN (by omega) hg h2 h6 ?_)
  rw [hh]
  show _ ∧ _ ∧ Q (nI t) s (pm_si M 160 ((50 : Int32) + nI t).toNatClampNeg _)
  rw [lI 35, lI 50, nI_add, nI_clamp (by omega), hg]
  refine ⟨vpI (by omega) (by omega), ?_, ?_⟩
  · show vp_in (nI 50 + nI t) 3870
    rw [nI_add]; exact vpI (by omega) (by omega)
  rw [nI_add, nI_clamp (by omega)]
  refine hq _ ?_ (off_si off_rf (by decide))
  rw [si_eq, hg, leaveF, hh]
theorem sp_opens1 {d : Nat} {s : pm_S} {M : pm_M} {g : Nat → Int32} {N T P p t : Nat} {Q : pm_S → pm_M → Prop} (hd : 5 ≤ d) (hg : M.1 160 = g) (hV : Vd g N T P) (hp : p < P) (hh : heldF g T p = some t) (hq : ∀ M', M'.1 160 = openF g T p → off [160, 164, 165] M M' → Q s M') : cV d yM_opens1 [.ref 159, .int (nI p)] s M Q := by
  obtain ⟨d, rfl⟩ : ∃ e, d = e + 1 := ⟨d - 1, by omega⟩
  obtain ⟨h1, h2, h3, h4, h5, h6, h7, h8, h9, h10, h11, h12⟩ := hV
  have ht := heldF_lt hh
  refine enM_opens1 (sp_heldByN (by omega) hg h2 h6 ?_)
  rw [hh]
  simp only [oI]
  rw [lI 72, lI 58, nI_add, nI_add, nI_clamp (by omega), nI_clamp (by omega), hg]
  refine ⟨vpI (by omega) (by omega), sp_burdenNow (g := g) (by omega) hg h12 (by omega) (by omega) (fun M' hM' => ⟨vpI (by omega) (by omega), vpI (by omega) (by omega), vpI (by omega) (by omega), ?_⟩)⟩
  refine hq _ ?_ (off_si (off_si (off_mo hM' (by decide)) (by decide)) (by decide))
  rw [si_eq, si_eq, (hM' 160 (by decide)).1, hg, row_ne (by omega), openF, hh]
theorem sp_swaps {d : Nat} {s : pm_S} {M : pm_M} {g : Nat → Int32} {N T P p q a b : Nat} {Q : pm_S → pm_M → Prop} (hd : 2 ≤ d) (hg : M.1 160 = g) (hV : Vd g N T P) (ha : heldF g T p = some a) (hb : heldF g T q = some b) (hq : ∀ M', M'.1 160 = swapF g T p q → off [160, 164, 165] M M' → Q s M') : cV d yM_swaps [.ref 159, .int (nI p), .int (nI q)] s M Q := by
  obtain ⟨d, rfl⟩ : ∃ e, d = e + 1 := ⟨d - 1, by omega⟩
  obtain ⟨h1, h2, h3, h4, h5, h6, h7, h8, h9, h10, h11, h12⟩ := hV
  have hta := heldF_lt ha
  have htb := heldF_lt hb
  refine enM_swaps (sp_heldByN (by omega) hg h2 h6 (sp_heldByN (by omega) hg h2 h6 ?_))
  rw [ha, hb]
  simp only [oI]
  rw [lI 50, lI 10, nI_add, nI_add, nI_add, nI_add, nI_clamp (by omega), nI_clamp (by omega)]
  refine ⟨vpI (by omega) (by omega), vpI (by omega) (by omega), ?_⟩
  refine hq _ ?_ (off_si (off_si off_rf (by decide)) (by decide))
  rw [si_eq, si_eq, hg, swapF, ha, hb]
theorem tk_small {g : Nat → Int32} {T P t i : Nat} {st : Int32} (h : (tk g T P t st).1 = some i) : i < P := by
  have := itr_inv (f := tk1 g T t st) (n := P) (a := (none, 0)) (fun n b => ∀ i, b.1 = some i → i < n) (fun i h => by cases h) (fun i x hi hx j hj => by
    unfold tk1 at hj
    by_cases z : x.2 < tkc g T t st i
    · rw [if_pos z] at hj; cases hj; omega
    · rw [if_neg z] at hj; have := hx j hj; omega)
  exact this i h
theorem sp_taker {d : Nat} {s : pm_S} {M : pm_M} {g : Nat → Int32} {N T P t : Nat} {st : Int32} {Q : Int32 → pm_S → pm_M → Prop} (hd : 4 ≤ d) (hg : M.1 160 = g) (hV : Vd g N T P) (ht : t < T) (hq : ∀ M', off [164, 165] M M' → Q (oI (tk g T P t st).1) s M') : cI d yM_taker [.ref 159, .int (nI t), .int st] s M Q := by
  obtain ⟨d, rfl⟩ : ∃ e, d = e + 1 := ⟨d - 1, by omega⟩
  obtain ⟨h1, h2, h3, h4, h5, h6, h7, h8, h9, h10, h11, h12⟩ := hV
  refine enM_taker ?_
  refine loop_mem (L := fun i (b : Option Nat × Int32) M1 => wM_taker d 8 [.ref 159, .int (nI t), .int st, .int (oI b.1), .int b.2, .int (nI i), .null] [] s M1 Q) (I := fun _ M1 => off [164, 165] M M1) (f := tk1 g T t st) (e := P) (a0 := (none, 0)) ?_ ?_ M off_rf
  · intro M1 hM1
    refine sgM_taker_8 (br_t ?_ (hq M1 hM1))
    rw [(hM1 160 (by decide)).1, hg, h3, nI_leP (by omega) (by omega)]
    exact Nat.le_refl _
  · intro i M1 hi hM1 hk
    have hg1 : M1.1 160 = g := (hM1 160 (by decide)).1.trans hg
    refine sgM_taker_8 (br_f ?_ ?_)
    · rw [hg1, h3, nI_leP (by omega) (by omega)]; omega
    rw [lI 35, nI_add, nI_clamp (by omega), hg1, nI_1]
    generalize itr _ i _ = b at hk ⊢
    have step : ∀ (its : Int32) (M2 : pm_M), tkc g T t st i = its → off [164, 165] M M2 → wM_taker d 8 [.ref 159, .int (nI t), .int st, .int (if b.2 < its then nI i else oI b.1), .int (if b.2 < its then its else b.2), .int (nI (i + 1)), .null] [] s M2 Q := by
      intro its M2 e ho
      have := hk M2 ho
      unfold tk1 at this
      rw [e] at this
      by_cases z : b.2 < its
      · rw [if_pos z] at this; rw [if_pos z, if_pos z]; exact this
      · rw [if_neg z] at this; rw [if_neg z, if_neg z]; exact this
    refine ⟨vpI (by omega) (by omega), br_c (fun c => ?_) (fun c => ?_)⟩
    · refine sp_heldByN (by omega) hg1 h2 h6 ?_
      rw [show (oI (heldF g T i) = -1) = (heldF g T i = none) from oIheld h6]
      refine br_c (fun c2 => ?_) (fun c2 => ?_)
      · refine sp_claimsOf (g := g) (by omega) hg1 h11 (by omega) (by omega) (fun M' hM' => ?_)
        exact step _ M' (by unfold tkc; rw [if_pos ⟨c, c2⟩]) (off_tr hM1 hM')
      · exact step 0 M1 (by unfold tkc; rw [if_neg (fun q => c2 q.2)]) hM1
    · exact step 0 M1 (by unfold tkc; rw [if_neg (fun q => c q.1)]) hM1
theorem roll1_eqL {g : Nat → Int32} {N T P t : Nat} {x : (Nat → Int32) × Int32} (h : eqL g x.1) (ht : t < 8) : eqL g (roll1 N T P t x).1 := by
  unfold roll1
  split
  · exact eqL_row h (by omega) (by omega)
  · exact h
theorem sp_rolls {d : Nat} {s : pm_S} {M : pm_M} {g : Nat → Int32} {N T P : Nat} {Q : Int32 → pm_S → pm_M → Prop} (hd : 5 ≤ d) (hg : M.1 160 = g) (hV : Vd g N T P) (hq : ∀ M', M'.1 160 = (rollF g N T P).1 → off [160, 164, 165] M M' → Q (rollF g N T P).2 s M') : cI d yM_rolls [.ref 159] s M Q := by
  obtain ⟨d, rfl⟩ : ∃ e, d = e + 1 := ⟨d - 1, by omega⟩
  have h6 : T ≤ 8 := hV.2.2.2.2.2.1
  refine enM_rolls ?_
  have key := loop_mem (L := fun i (x : (Nat → Int32) × Int32) M1 => wM_rolls d 4 [.ref 159, .int x.2, .int (nI i), .null, .null] [] s M1 Q) (I := fun x M1 => M1.1 160 = x.1 ∧ eqL g x.1 ∧ off [160, 164, 165] M M1) (f := roll1 N T P) (e := T) (a0 := (g, 0)) ?_ ?_ M ⟨hg, eqL_rf, off_rf⟩
  · exact key
  · intro M1 hM1
    have hV1 := Vd_congr hM1.2.1 hV
    refine sgM_rolls_4 (br_t ?_ (hq M1 hM1.1 hM1.2.2))
    rw [hM1.1, hV1.2.1, nI_leP (by omega) (by omega)]
    exact Nat.le_refl _
  · intro i M1 hi hM1 hk
    obtain ⟨hg1, he1, ho1⟩ := hM1
    have hV1 := Vd_congr he1 hV
    have hk2 : ∀ M', M'.1 160 = (roll1 N T P i (itr (roll1 N T P) i (g, 0))).1 → off [160, 164, 165] M M' → wM_rolls d 4 [.ref 159, .int (roll1 N T P i (itr (roll1 N T P) i (g, 0))).2, .int (nI (i + 1)), .null, .null] [] s M' Q := fun M' a b => hk M' ⟨a, roll1_eqL he1 (by omega), b⟩
    clear hk
    generalize itr (roll1 N T P) i (g, 0) = x at hk2 hg1 he1 hV1 ⊢
    have hx1 := hV1.1
    have hx2 := hV1.2.1
    refine sgM_rolls_4 (br_f ?_ ?_)
    · rw [hg1, hx2, nI_leP (by omega) (by omega)]; omega
    rw [lI 50, nI_add, nI_clamp (by omega), hg1, nI_1, hx1]
    refine ⟨vpI (by omega) (by omega), br_c (fun c => ⟨vpI (by omega) (by omega), ?_⟩) (fun c => ?_)⟩
    · unfold roll1 at hk2
      rw [if_pos c] at hk2
      dsimp only at hk2
      have fin : ∀ (r : Option Nat) (M2 : pm_M), M2.1 160 = x.1 → off [160, 164, 165] M M2 → (if nI N ≤ x.1 (50 + i) + 1 then none else (tk x.1 T P i (x.1 (50 + i) + 1)).1) = r → wM_rolls d 63 [.ref 159, .int x.2, .int (nI i), .int (x.1 (50 + i) + 1), .null] [.int (oI r)] s M2 Q := by
        intro r M2 hM2 ho2 hr
        refine sgM_rolls_63 ?_
        rw [lI 50, nI_add, nI_clamp (by omega), nI_1, hM2, hx1]
        refine ⟨vpI (by omega) (by omega), ?_⟩
        rw [hr] at hk2
        exact hk2 _ (by rw [si_eq, hM2]) (off_si ho2 (by decide))
      refine br_c (fun c2 => ?_) (fun c2 => ?_)
      · exact fin none M1 hg1 ho1 (by rw [if_pos c2])
      · refine sp_taker (g := x.1) (by omega) hg1 hV1 hi (fun M' hM' => ?_)
        exact fin _ M' ((hM' 160 (by decide)).1.trans hg1) (off_tr ho1 (off_mo hM' (by decide))) (by rw [if_neg c2])
    · have := hk2 M1 (by unfold roll1; rw [if_neg c]; exact hg1) ho1
      unfold roll1 at this
      rw [if_neg c] at this
      exact this
theorem sp_draw {d : Nat} {s : pm_S} {M : pm_M} {g : Nat → Int32} {b : Int32} {Q : Int32 → pm_S → pm_M → Prop} (hd : 1 ≤ d) (hg : M.1 160 = g) (hb : ¬ b = 0) (hq : ∀ M', M'.1 160 = pm_row g 49 (drawX (g 49)) → off [160, 164, 165] M M' → Q (drawM (drawX (g 49)) b) s M') : cI d yM_draw [.ref 159, .int b] s M Q := by
  obtain ⟨d, rfl⟩ : ∃ e, d = e + 1 := ⟨d - 1, by omega⟩
  refine enM_draw ⟨hb, ?_⟩
  rw [hg]
  exact hq _ (by rw [si_eq, hg]; rfl) (off_si off_rf (by decide))
theorem day0_eqL {g : Nat → Int32} : eqL g (day0 g) := by
  unfold day0
  exact itr_inv (fun _ r => eqL g r) (eqL_row (eqL_row eqL_rf (by omega) (by omega)) (by omega) (by omega)) (fun i x hi hx => eqL_row hx (by omega) (by omega))
theorem sp_goesDay {d : Nat} {s : pm_S} {M : pm_M} {g : Nat → Int32} {N T P : Nat} {Q : Int32 → pm_S → pm_M → Prop} (hd : 6 ≤ d) (hg : M.1 160 = g) (hV : Vd g N T P) (hq : ∀ M', M'.1 160 = (dayF g N T P).1 → off [160, 164, 165] M M' → Q (dayF g N T P).2 s M') : cI d yM_goesDay [.ref 159] s M Q := by
  obtain ⟨d, rfl⟩ : ∃ e, d = e + 1 := ⟨d - 1, by omega⟩
  refine enM_goesDay (sp_draw (by omega) hg (by decide) (fun M1 hM1 ho1 => ?_))
  rw [hM1, row_ne (by omega)]
  have key := loop_mem (L := fun i (r : Nat → Int32) M1 => wM_goesDay d 29 [.ref 159, .int (nI i)] [] s M1 Q) (I := fun r M1 => M1.1 160 = r ∧ off [160, 164, 165] M M1) (f := fun p r => pm_row r (72 + p) 0) (e := 6) (a0 := pm_row (pm_row g 49 (drawX (g 49))) 47 (if g 4 ≤ drawM (drawX (g 49)) 10 then 0 else 1)) ?_ ?_ (pm_si M1 160 47 (if g 4 ≤ drawM (drawX (g 49)) 10 then 0 else 1)) ⟨by rw [si_eq, hM1], off_si ho1 (by decide)⟩
  · exact key
  · intro M2 hM2
    have h0 : M2.1 160 = day0 g := hM2.1
    refine sgM_goesDay_29 (br_t (by decide) ?_)
    have e48 : M2.1 160 48 = g 48 := by
      rw [h0]
      unfold day0
      exact itr_inv (fun (_ : Nat) (r : Nat → Int32) => r 48 = g 48) (by rw [row_ne (by omega), row_ne (by omega)]) (fun i x hi hx => by rw [row_ne (by omega)]; exact hx)
    rw [e48]
    refine sp_rolls (g := pm_row (day0 g) 48 (g 48 + 1)) (by omega) (by rw [si_eq, h0]) (Vd_congr (eqL_row day0_eqL (by omega) (by omega)) hV) (fun M' a b => hq M' a (off_tr (off_si hM2.2 (by decide)) b))
  · intro i M2 hi hM2 hk
    refine sgM_goesDay_29 (br_f ?_ ?_)
    · rw [lI 6, nI_leP (by omega) (by omega)]; omega
    rw [lI 72, nI_add, nI_clamp (by omega), nI_1]
    exact ⟨vpI (by omega) (by omega), hk _ ⟨by rw [si_eq, hM2.1], off_si hM2.2 (by decide)⟩⟩
