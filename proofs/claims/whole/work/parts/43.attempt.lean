theorem EE36 {s : pm_S} : 36 < 185 ∧ (EE s).2.2.1 36 = (0, 6) := ⟨by decide, sh_36⟩
theorem sp_cdraw {d : Nat} {s : pm_S} {M : pm_M} {g : Nat → Int32} {T P : Nat} {Q : Int32 → pm_S → pm_M → Prop} (hd : 1 ≤ d) (h8 : T ≤ 8) (h6 : P ≤ 6) (hs : SR M 32 g T P) (hq : ∀ M', SR M' 32 (pm_row g 49 (drawX (g 49))) T P → off C32 M M' → Q (drawR (drawX (g 49))) s M') : cI d yS_draw [.ref 32] s M Q := by
  obtain ⟨d, rfl⟩ : ∃ e, d = e + 1 := ⟨d - 1, by omega⟩
  refine enS_draw ?_
  rw [hs.2.2.1]
  exact hq _ (SR_own (k := 6) hs h8 h6 (by omega) (by omega)) (off_si off_rf (by decide))
theorem sp_passDay {d : Nat} {s : pm_S} {M : pm_M} {g : Nat → Int32} {N T P : Nat} {Q : Int32 → pm_S → pm_M → Prop} (hd : 5 ≤ d) (hl : LV M g N T P) (hv : Vs g N T P) (hs : SR M 32 g T P) (hq : ∀ M', SR M' 32 (dayF g N T P).1 T P → off C32 M M' → Q (dayF g N T P).2 s M') : cI d yS_passDay [.ref 32, .ref 15] s M Q := by
  obtain ⟨d, rfl⟩ : ∃ e, d = e + 1 := ⟨d - 1, by omega⟩
  have h1 := hl.2.1
  have h2 := hl.2.2.1
  have h5 := hl.2.2.2.2.2.1
  have h6 := hl.2.2.2.2.2.2.1
  have h7 := hl.2.2.2.2.2.2.2.1
  refine enS_passDay (sp_cdraw (by omega) h6 h7 hs (fun M1 s1 o1 => ?_))
  have e15 : M1.1 15 4 = g 4 := (LV_off o1 hl).1.2.2.2.2.1
  rw [e15]
  have s2 := SR_own (k := 4) (v := if g 4 ≤ drawM (drawX (g 49)) 10 then 0 else 1) s1 h6 h7 (by omega) (by omega)
  refine sp_fill (by omega) EE36 (by omega) (fun M2 e2 o2 => ?_)
  have o2' : off C32 M M2 := off_tr (off_si o1 (by decide)) (off_mo o2 (by decide))
  have s2' : SR M2 32 (day0 g) T P := by
    rw [day0_put]
    have q := SR_off (S := [36]) (o := 32) o2 (T := T) (P := 0) (g := pm_row (pm_row g 49 (drawX (g 49))) 47 (if g 4 ≤ drawM (drawX (g 49)) 10 then 0 else 1))
    obtain ⟨a1, a2, a3, a4, a5, a6⟩ := s2
    have n32 : M2.1 32 = _ := (o2 32 (by decide)).1
    have n33 : M2.1 33 = _ := (o2 33 (by decide)).1
    have n34 : M2.1 34 = _ := (o2 34 (by decide)).1
    have n35 : M2.1 35 = _ := (o2 35 (by decide)).1
    unfold SR
    rw [n32, n33, n34, n35, e2, putR_out (by omega), putR_out (by omega), putR_out (by omega)]
    refine ⟨a1, a2, a3, ?_, ?_, a6⟩
    · intro t ht
      rw [putR_out (by omega), putR_out (by omega)]; exact a4 t ht
    · intro p hp
      rw [putR_out (by omega), putR_in (by omega) (by omega), putR_in (by omega) (by omega)]
      exact ⟨(a5 p hp).1, rfl⟩
  have hV0 : Vd (day0 g) N T P := Vd_congr day0_eqL hl.2
  have hv0 : Vs (day0 g) N T P := Vs_day0 hl.2 hv
  have e48 : (day0 g) 48 = g 48 := by
    rw [day0_put, putR_out (by omega), row_ne (by omega), row_ne (by omega)]
  have hl0 : LV M (day0 g) N T P := LV_eqL day0_eqL hl
  have fin : ∀ M3, SR M3 32 (itr (roll1 N T P) T (day0 g, 0)).1 T P → off C32 M M3 → Q (itr (roll1 N T P) T (day0 g, 0)).2 s (pm_si M3 32 5 (M3.1 32 5 + 1)) := by
    intro M3 s3 o3
    have eq := itr_48 (g := day0 g) (N := N) (T := T) (P := P) (i := T) (n := 0) (v := g 48 + 1) h6 h7 h6
    unfold dayF rollF at hq
    rw [eq] at hq
    have d48 : (itr (roll1 N T P) T (day0 g, 0)).1 48 = g 48 := by
      rw [← e48]
      exact itr_inv (f := roll1 N T P) (n := T) (a := (day0 g, (0 : Int32))) (fun _ x => x.1 48 = day0 g 48) rfl (fun i x hi hx => by
        rw [roll1_eq]
        split
        · dsimp only; rw [row_ne (by omega)]; exact hx
        · exact hx)
    rw [s3.2.1, d48]
    exact hq _ (SR_own (k := 5) s3 h6 h7 (by omega) (by omega)) (off_si o3 (by decide))
  refine loop_mem (L := fun i (x : (Nat → Int32) × Int32) M1 => wS_passDay d 35 [.ref 32, .ref 15, .int x.2, .int (nI i)] [] s M1 Q) (I := fun x M1 => SR M1 32 x.1 T P ∧ off C32 M M1) (f := roll1 N T P) (e := T) (a0 := (day0 g, 0)) ?_ ?_ M2 ⟨s2', o2'⟩
  · intro M3 h
    have hL3 := (LV_off h.2 hl).1
    refine sgS_passDay_35 (br_c (fun c => fin M3 h.1 h.2) (fun c => sp_hasThing (by omega) isL_15 (hL3.2.1.trans h2) h6 (fun q => ?_) (fun q => br_t rfl (fin M3 h.1 h.2))))
    obtain ⟨j, hj, e⟩ := q
    rw [nI_inj (by omega) (by omega)] at e
    omega
  · intro i M3 hi h hk
    have hx := itr_roll (n := 0) hV0 hv0 (show i ≤ T by omega)
    generalize itr (roll1 N T P) i (day0 g, 0) = x at hk h hx ⊢
    obtain ⟨s3, o3⟩ := h
    have hl3 : LV M3 x.1 N T P := LV_off o3 (LV_eqL hx.1 hl0)
    have hL3 := (LV_off o3 hl).1
    have v8 : vp_in (nI i) 8 := vpI (by omega) (by omega)
    refine sgS_passDay_35 (br_f (by rw [lI 8, nI_leP (by omega) (by omega)]; omega) (sp_hasThing (by omega) isL_15 (hL3.2.1.trans h2) h6 (fun q => br_f (by decide) ?_) (fun q => absurd ⟨i, hi, rfl⟩ q)))
    have e33 : M3.1 33 i = x.1 (50 + i) := (s3.2.2.2.1 i hi).1
    rw [nI_clamp (by omega), e33, nI_1]
    rw [roll1_eq] at hk
    have big : ∀ m : Nat, 10 ≤ m → m < 100 → x.1 (50 + i) = nI m → vp_in (nI i) 8 ∧ ((x.1 (50 + i) < 0 → wS_passDay d 35 [.ref 32, .ref 15, .int x.2, .int (nI (i + 1))] [] s M3 Q) ∧ (¬ x.1 (50 + i) < 0 → vp_in (nI i) 8 ∧ ((8 ≤ x.1 (50 + i) → wS_passDay d 35 [.ref 32, .ref 15, .int x.2, .int (nI (i + 1))] [] s M3 Q) ∧ (¬ 8 ≤ x.1 (50 + i) → False)))) := by
      intro m m1 m2 em
      have c1 : ¬ x.1 (50 + i) < 10 := by rw [em, lI 10, nI_ltP (by omega) (by omega)]; omega
      rw [if_neg c1] at hk
      refine ⟨v8, fun _ => hk M3 ⟨s3, o3⟩, fun _ => ⟨v8, fun _ => hk M3 ⟨s3, o3⟩, fun c => c ?_⟩⟩
      rw [em, lI 8, nI_leP (by omega) (by omega)]; omega
    have bigs : ∀ m : Nat, 10 ≤ m → m < 100 → x.1 (50 + i) = nI m → ∀ R : Prop, vp_in (nI i) 8 ∧ ((x.1 (50 + i) < 0 → wS_passDay d 35 [.ref 32, .ref 15, .int x.2, .int (nI (i + 1))] [] s M3 Q) ∧ (¬ x.1 (50 + i) < 0 → vp_in (nI i) 8 ∧ ((8 ≤ x.1 (50 + i) → wS_passDay d 35 [.ref 32, .ref 15, .int x.2, .int (nI (i + 1))] [] s M3 Q) ∧ (¬ 8 ≤ x.1 (50 + i) → R)))) := by
      intro m m1 m2 em R
      obtain ⟨b1, b2, b3⟩ := big m m1 m2 em
      exact ⟨b1, b2, fun q => ⟨(b3 q).1, (b3 q).2.1, fun z => ((b3 q).2.2 z).elim⟩⟩
    rcases hx.2.2.1 i hi with ⟨k, hkN, ek⟩ | ⟨p, hp, ek⟩ | ek
    · have c1 : x.1 (50 + i) < 10 := by rw [ek, lI 10, nI_ltP (by omega) (by omega)]; omega
      simp only [if_pos c1] at hk
      refine ⟨v8, br_f (by rw [ek]; exact nI_pos (by omega)) ⟨v8, br_f (by rw [ek, lI 8, nI_leP (by omega) (by omega)]; omega) ⟨v8, ?_⟩⟩⟩
      rw [ek, nI_1] at hk ⊢
      refine sp_nextPlace (by omega) hl3 s3 hi (by omega) (fun M4 o4 => ?_)
      have s4 : SR M4 32 x.1 T P := SR_off o4 s3 (by decide)
      have o4' : off C32 M M4 := off_tr o3 (off_mo o4 (by decide))
      refine ⟨v8, v8, fun _ => v8, fun v1 ev => ?_⟩
      rw [si_eq, row_eq] at ev
      have s5 := SR_where (v := rollV N (nI (k + 1)) (rollR x.1 N T P i (nI (k + 1)))) s4 h6 h7 hi
      have := hk _ ⟨s5, off_si o4' (by decide)⟩
      have e1 : v1 = x.2 + (if oI (rollR x.1 N T P i (nI (k + 1))) = -1 then 0 else 1) := by
        rw [ev]
        congr 1
        unfold rollV
        simp only [nI_inj (a := k + 1) (b := N) (by omega) (by omega)]
        by_cases z : k + 1 = N
        · simp only [if_pos z]
          have : rollR x.1 N T P i (nI (k + 1)) = none := by
            unfold rollR
            rw [if_pos (by rw [nI_leP (by omega) (by omega)]; omega)]
          rw [this]
          decide
        · simp only [if_neg z]
          cases hr : rollR x.1 N T P i (nI (k + 1)) with
          | none =>
            simp only [oI, if_true]
            rw [if_pos (by rw [lI 10, nI_ltP (by omega) (by omega)]; omega)]
          | some p =>
            have hp := (rollR_some hr).1
            simp only [oI, m1_ne (a := p) (by omega), if_false]
            rw [lI 10, nI_add, if_neg (by rw [nI_ltP (by omega) (by omega)]; omega), if_neg (by rw [lI 99, nI_inj (by omega) (by omega)]; omega)]
      rw [e1]
      exact this
    · exact bigs (10 + p) (by omega) (by omega) ek _
    · exact bigs 99 (by omega) (by omega) ek _
