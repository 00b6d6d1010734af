/-- rows that tell the same line as far as a line goes -/
def eqM (g g' : Nat → Int32) : Prop := ∀ i, i < 1290 → (i < 47 ∨ 390 ≤ i) → g' i = g i
theorem evL_congr2 {w c c' : Nat → Int32} {n : Nat} (h : ∀ k, k < n → c' k = c k) : evL w c' n = evL w c n := by
  induction n with
  | zero => rfl
  | succ n ih =>
    unfold evL
    rw [ih (fun k hk => h k (by omega)), h n (by omega)]
theorem lw_M {g g' : Nat → Int32} {law lim : Nat} (hl : law < 2) (he : eqM g g') (ho : lwOk g law lim) : lwOk g' law lim ∧ ∀ w, evF g' law w = evF g law w := by
  obtain ⟨fr, n, h1, h2, h3, h4⟩ := ho
  have e7 : g' (7 + law) = nI fr := (he _ (by omega) (by omega)).trans h1
  have e9 : g' (9 + law) = nI n := (he _ (by omega) (by omega)).trans h2
  have ec : ∀ k, k < n → lwC g' law k = lwC g law k := by
    intro k hk
    unfold lwC
    rw [e7, h1, nI_clamp (by omega)]
    exact he _ (by omega) (by omega)
  refine ⟨⟨fr, n, e7, e9, h3, ?_⟩, fun w => ?_⟩
  · rw [he (5 + law) (by omega) (by omega)]
    rcases h4 with q | ⟨q1, q2⟩
    · exact Or.inl q
    · refine Or.inr ⟨fun k hk => by rw [ec k hk]; exact q1 k hk, fun w => ?_⟩
      rw [evL_congr2 ec]; exact q2 w
  · unfold evF lwN
    rw [e9, h2, nI_clamp (by omega), evL_congr2 ec]
theorem Vd_M {g g' : Nat → Int32} {N T P : Nat} (he : eqM g g') (hv : Vd g N T P) : Vd g' N T P := by
  obtain ⟨h1, h2, h3, h4, h5, h6, h7, h8, h9, h10, h11, h12⟩ := hv
  refine ⟨(he _ (by omega) (by omega)).trans h1, (he _ (by omega) (by omega)).trans h2, (he _ (by omega) (by omega)).trans h3, h4, h5, h6, h7, ?_, ?_, ?_, (lw_M (by omega) he h11).1, (lw_M (by omega) he h12).1⟩
  · rw [he _ (by omega) (by omega)]; exact h8
  · intro t ht
    rw [he _ (by omega) (by omega), he _ (by omega) (by omega)]; exact h9 t ht
  · intro p hp
    rw [he _ (by omega) (by omega), he _ (by omega) (by omega)]; exact h10 p hp
theorem lwS_M {g g' : Nat → Int32} {M : pm_M} {lw st law lim : Nat} (hl : law < 2) (he : eqM g g') (ho : lwOk g law lim) (hs : lwS M lw st g law lim) : lwS M lw st g' law lim := by
  obtain ⟨fr, to, h1, h2, h3, h4, h5, h6⟩ := hs
  refine ⟨fr, to, h1, h2, h3, h4, ?_, ?_⟩
  · rw [he _ (by omega) (by omega)]; exact h5
  · rw [he _ (by omega) (by omega)]
    intro q w w' hw
    rw [(lw_M hl he ho).2]
    exact h6 q w w' hw
theorem LR_M {g g' : Nat → Int32} {M : pm_M} {l N T P : Nat} (he : eqM g g') (hv : Vd g N T P) (hl : LR M l g T P) : LR M l g' T P := by
  obtain ⟨a1, a2, a3, a4, a5, a6, a7, a8, a9⟩ := hl
  obtain ⟨h1, h2, h3, h4, h5, h6, h7, h8, h9, h10, h11, h12⟩ := hv
  refine ⟨a1.trans (he _ (by omega) (by omega)).symm, a2.trans (he _ (by omega) (by omega)).symm, a3.trans (he _ (by omega) (by omega)).symm, a4.trans (he _ (by omega) (by omega)).symm, a5.trans (he _ (by omega) (by omega)).symm, ?_, ?_, lwS_M (by omega) he h11 a8, lwS_M (by omega) he h12 a9⟩
  · intro t ht
    rw [he _ (by omega) (by omega), he _ (by omega) (by omega)]; exact a6 t ht
  · intro p hp
    rw [he _ (by omega) (by omega), he _ (by omega) (by omega)]; exact a7 p hp
theorem img_M {M : pm_M} {i : Nat} {h h' : Nat → Int32} (e : ∀ j, j < 1290 → h' j = h j) (q : iImg1 M i h) : iImg1 M i h' := by
  obtain ⟨N, T, P, q3, q4, q5, q6, q7⟩ := q
  have he : eqM h h' := fun j hj _ => e j hj
  have h8 := q3.2.2.2.2.2.1
  have h6 := q3.2.2.2.2.2.2.1
  exact ⟨N, T, P, Vd_M he q3, Vs_congr ⟨h8, h6⟩ q4 (fun j _ h2 => e j (by omega)), LR_M he q3 q5, q6, SR_congr q7 h8 h6 (fun j _ h2 => e j (by omega))⟩
theorem img_cells {M M' : pm_M} {i : Nat} {h : Nat → Int32} (hi : i < 2) (e : ∀ c, 125 + 17 * i ≤ c → c < 142 + 17 * i → M'.1 c = M.1 c) (q : iImg1 M i h) : iImg1 M' i h := by
  obtain ⟨N, T, P, q3, q4, q5, q6, q7⟩ := q
  refine ⟨N, T, P, q3, q4, LR_cells q5 (fun c hc => e c ?_ ?_), ?_, SR_cells q7 (fun c hc => e c ?_ ?_)⟩
  · simp at hc; omega
  · simp at hc; omega
  · unfold LZ at q6 ⊢
    rw [e _ (by omega) (by omega)]; exact q6
  · simp at hc; omega
  · simp at hc; omega
theorem bit_or : ∀ m, m < 4 → ∀ i, i < 2 → nI m ||| ((1 : Int32) <<< (nI i &&& 31)) = nI (if m / 2 ^ i % 2 = 1 then m else m + 2 ^ i) := by decide +kernel
theorem bit_get : ∀ m, m < 4 → ∀ i, i < 2 → ((nI m >>> (nI i &&& 31)) &&& 1) = nI (m / 2 ^ i % 2) := by decide +kernel
theorem bit_set : ∀ m, m < 4 → ∀ i, i < 2 → (if m / 2 ^ i % 2 = 1 then m else m + 2 ^ i) < 4 ∧ ∀ j, j < 2 → (if m / 2 ^ i % 2 = 1 then m else m + 2 ^ i) / 2 ^ j % 2 = if j = i then 1 else m / 2 ^ j % 2 := by decide
theorem nL_img {i : Nat} (h : i < 2) : isL (125 + 17 * i) := by unfold isL; simp; omega
theorem op_image {L d : Nat} {s : pm_S} {M : pm_M} {v : Int32} (hd : 12 ≤ d) (hI : Inv L s M) : cI d yG_image [.ref 0, .int v] s M (fun r s1 M1 => cI d yM_image [.ref 159, .int v] s1 M1 (same L r)) := by
  obtain ⟨d, rfl⟩ : ∃ e, d = e + 1 := ⟨d - 1, by omega⟩
  obtain ⟨g, N, T, P, x, n, hc⟩ := Inv_ctx hI
  have rd := ctx_read hc
  obtain ⟨a1, ⟨t1, t2, m, m1, m2, m3⟩, a3, a4, a5, a6, a7, a8, a9, a10, a11, a12, a13⟩ := hc
  have h8 : T ≤ 8 := a4.2.2.2.2.2.2.1
  have h6 : P ≤ 6 := a4.2.2.2.2.2.2.2.1
  have no : ¬ inI v 2 → cI (d + 1) yM_image [.ref 159, .int v] s M (same L (-2)) := by
    intro h
    refine enM_image ?_
    rw [lL 0, lL 1]
    exact sp_within2 (by omega) (fun h2 => absurd ((wi_inI (by omega)).mp h2) h) (fun _ => br_t rfl ⟨rfl, rd⟩)
  refine enG_image (br_c (fun c => no (fun q => ?_)) (fun c1 => br_c (fun c2 => ?_) (fun c2 => no (fun q => ?_))))
  · rw [inI_iff (by omega)] at q; exact q.1 c
  rotate_left
  · obtain ⟨k, hk, rfl⟩ := q
    exact c2 (by rw [lI 2, nI_ltP (by omega) (by omega)]; omega)
  obtain ⟨i, _, rfl⟩ := nI_of c1
  have hi : i < 2 := by rwa [lI 2, nI_ltP (by omega) (by omega)] at c2
  refine ⟨vpI (by omega) (by omega), fun o eo ho => ?_⟩
  rw [nI_clamp (by omega)] at eo
  subst eo
  obtain ⟨z, za, zb, y1, y2, y3, y4, y5, y6⟩ := a5
  refine sp_lbecome (by omega) ho isL_15 (by omega) y4 y1 (fun M1 b1 b2 b3 b4 b5 o1 => ⟨vpI (by omega) (by omega), fun o eo hs => ?_⟩)
  rw [nI_clamp (by omega)] at eo
  subst eo
  have k1 : ∀ c, (c < 125 + 17 * i ∨ 125 + 17 * i + 9 < c) → M1.1 c = M.1 c ∧ M1.2 c = M.2 c := fun c hc => o1 c (by simp; omega)
  have hs27 : SR M1 27 g T P := SR_cells a10 (fun c hc => (k1 c (by simp at hc; omega)).1)
  have lr := LR_copy (o := 125 + 17 * i) h8 h6 a4.1 ⟨z, za, zb, y1, y2, y3, y4, y5, y6⟩ y4 y1 b1 b2 b3 b4 b5
  refine sp_sbecome (by omega) hs isS_27 (by omega) h8 h6 hs27 (fun M2 s2 o2 => ?_)
  have k2 : ∀ c, (c < 137 + 17 * i ∨ 137 + 17 * i + 4 < c) → M2.1 c = M1.1 c ∧ M2.2 c = M1.2 c := fun c hc => o2 c (by simp; omega)
  have e0 : M2.1 0 = M.1 0 := by rw [(k2 0 (by omega)).1, (k1 0 (by omega)).1]
  rw [e0, m2, bit_or m m1 i hi]
  have hb := bit_set m m1 i hi
  generalize (if m / 2 ^ i % 2 = 1 then m else m + 2 ^ i) = m' at hb
  have all : ∀ c, c ≠ 0 → (c < 125 + 17 * i ∨ 142 + 17 * i ≤ c) → (pm_si M2 0 10 (nI m')).1 c = M.1 c ∧ (pm_si M2 0 10 (nI m')).2 c = M.2 c := by
    intro c h0 h1
    rw [si_ne h0, si_2, (k2 c (by omega)).1, (k1 c (by omega)).1, (k2 c (by omega)).2, (k1 c (by omega)).2]
    exact ⟨rfl, rfl⟩
  have e0' : ∀ k, k ≠ 10 → (pm_si M2 0 10 (nI m')).1 0 k = M.1 0 k := by
    intro k hk
    rw [si_eq, row_ne hk, e0]
  have e10 : (pm_si M2 0 10 (nI m')).1 0 10 = nI m' := by rw [si_eq, row_eq]
  have im : iImg1 (pm_si M2 0 10 (nI m')) i g := by
    refine ⟨N, T, P, a4.2, a9, LR_cells lr.1 (fun c hc => ?_), ?_, SR_cells s2 (fun c hc => ?_)⟩
    · simp at hc
      rw [si_ne (by omega), (k2 c (by omega)).1]
    · have := lr.2
      unfold LZ at this ⊢
      rw [si_ne (by omega), (k2 _ (by omega)).1]; exact this
    · simp at hc
      rw [si_ne (by omega)]
  generalize pm_si M2 0 10 (nI m') = M3 at all e0' e10 im
  have g3 : M3.1 160 = g := ((all 160 (by omega) (by omega)).1).trans a3
  refine enM_image ?_
  rw [lL 0, lL 1]
  refine sp_within2 (by omega) (fun _ => br_f (by decide) ?_) (fun h => absurd ((wi_inI (by omega)).mpr ⟨i, hi, rfl⟩) h)
  refine loop_up (L := fun j Mx => wM_image d 20 [.ref 159, .int (nI i), .int (nI j)] [] s Mx (same L 0)) (I := fun j Mx => Mx.1 160 = putR g (1290 * (i + 1)) j g ∧ off [159, 160] M3 Mx ∧ ∀ k, k ≠ 0 → Mx.1 159 k = M3.1 159 k) (e := 1290) ?_ ?_ _ ⟨by rw [si_ne (by decide), g3, putR_0], off_si off_rf (by decide), fun k hk => by rw [si_eq, row_ne hk]⟩
  · intro M4 h4
    obtain ⟨g4, o4, f4⟩ := h4
    refine sgM_image_20 (br_t (by decide) ⟨vpI (by omega) (by omega), rfl, ?_⟩)
    rw [nI_clamp (by omega)]
    have cl : ∀ c, c ≠ 0 → c ≠ 159 → c ≠ 160 → c ≠ 161 → (c < 125 + 17 * i ∨ 142 + 17 * i ≤ c) → (pm_si M4 161 i 1).1 c = M.1 c ∧ (pm_si M4 161 i 1).2 c = M.2 c := by
      intro c h0 h1 h2 h3 h4
      have q1 := o4 c (by simp; omega)
      have q2 := all c h0 h4
      rw [si_ne h3, si_2, q1.1, q1.2]
      exact q2
    have g5 : (pm_si M4 161 i 1).1 160 = putR g (1290 * (i + 1)) 1290 g := by rw [si_ne (by decide)]; exact g4
    have e50 : (pm_si M4 161 i 1).1 0 = M3.1 0 := by rw [si_ne (by decide), (o4 0 (by decide)).1]
    have e61 : (pm_si M4 161 i 1).1 161 = pm_row (M.1 161) i 1 := by rw [si_eq, (o4 161 (by decide)).1, (all 161 (by omega) (by omega)).1]
    have e59 : ∀ k, k ≠ 0 → (pm_si M4 161 i 1).1 159 k = M.1 159 k := by
      intro k hk
      rw [si_ne (by decide), f4 k hk, (all 159 (by omega) (by omega)).1]
    have imx : iImg1 (pm_si M4 161 i 1) i g := img_cells hi (fun c h1 h2 => by rw [si_ne (by omega), (o4 c (by simp; omega)).1]) im
    generalize pm_si M4 161 i 1 = M5 at cl g5 e50 e61 e59 imx
    have low : ∀ j, j < 1290 → putR g (1290 * (i + 1)) 1290 g j = g j := fun j hj => putR_out (by omega)
    have hM : eqM g (putR g (1290 * (i + 1)) 1290 g) := fun j hj _ => low j hj
    refine ⟨a1, ⟨iTape_cells (fun c hc => (cl c (by omega) (by omega) (by omega) (by omega) (by omega)).1) (e59 5 (by omega)) (e59 13 (by omega)) (e59 14 (by omega)) t1, fun r hr => ?_, m', hb.1, by rw [e50]; exact e10, fun j hj => ?_⟩, N, T, P, ⟨?_, ?_⟩, ?_, ?_, ?_, n, x, a6, a7, ?_, ?_, ?_, fun k hk => ?_⟩
    · have := t2 r hr
      unfold YR at this ⊢
      rw [(cl 182 (by omega) (by omega) (by omega) (by omega) (by omega)).1, (cl 183 (by omega) (by omega) (by omega) (by omega) (by omega)).1, (cl 184 (by omega) (by omega) (by omega) (by omega) (by omega)).2, (cl (117 + 2 * r) (by omega) (by omega) (by omega) (by omega) (by omega)).1, (cl (117 + 2 * r + 1) (by omega) (by omega) (by omega) (by omega) (by omega)).2]
      exact this
    · rw [hb.2 j hj, e61, g5]
      by_cases e : j = i
      · subst e
        refine Or.inr ⟨if_pos rfl, row_eq, img_M (h := g) (fun k hk => ?_) imx⟩
        rw [putR_in (by omega) (by omega)]
        exact congrArg g (by omega)
      · rw [if_neg e, row_ne e]
        rcases m3 j hj with q | ⟨q1, q2, q3⟩
        · exact Or.inl q
        · refine Or.inr ⟨q1, q2, img_M (h := fun k => M.1 160 (1290 * (j + 1) + k)) (fun k hk => ?_) (img_cells hj (fun c h1 h2 => (cl c (by omega) (by omega) (by omega) (by omega) (by omega)).1) q3)⟩
          rw [putR_out (by omega), a3]
    · rw [g5]; exact LR_M hM a4.2 (LR_cells a4.1 (fun c hc => (cl c (by simp at hc; omega) (by simp at hc; omega) (by simp at hc; omega) (by simp at hc; omega) (by simp at hc; omega)).1))
    · rw [g5]; exact Vd_M hM a4.2
    · unfold LZ
      rw [(cl (15 + 8) (by omega) (by omega) (by omega) (by omega) (by omega)).1]
      exact ⟨z, za, zb, y1, y2, y3, y4, y5, y6⟩
    · rw [g5]; exact Vs_congr ⟨h8, h6⟩ a9 (fun j _ h => low j (by omega))
    · rw [g5]
      exact SR_congr (SR_cells a10 (fun c hc => (cl c (by simp at hc; omega) (by simp at hc; omega) (by simp at hc; omega) (by simp at hc; omega) (by simp at hc; omega)).1)) h8 h6 (fun j _ h => low j (by omega))
    · rw [g5, low 78 (by omega)]; exact a11
    · rw [e50, e0' 5 (by omega)]; exact a12
    · rw [e50, e0' 6 (by omega)]; exact a13
    · rw [g5]
      have bl : ∀ j, 47 ≤ j → j < 78 → blk (putR g (1290 * (i + 1)) 1290 g) k j = blk g k j := fun j h1 h2 => low _ (by omega)
      exact ⟨SR_congr (SR_cells (a8 k hk).1 (fun c hc => (cl c (by simp at hc; omega) (by simp at hc; omega) (by simp at hc; omega) (by simp at hc; omega) (by simp at hc; omega)).1)) h8 h6 bl, Vs_congr ⟨h8, h6⟩ (a8 k hk).2 bl⟩
  · intro j M4 hj h4 hk
    obtain ⟨g4, o4, f4⟩ := h4
    refine sgM_image_20 (br_f (by rw [lI 1290, nI_leP (by omega) (by omega)]; omega) ?_)
    rw [nI_1, lI 1290, pk_mul, nI_add, nI_clamp (by omega), nI_clamp (by omega), nI_1]
    refine ⟨vpI (by omega) (by omega), vpI (by omega) (by omega), hk _ ⟨?_, off_si o4 (by decide), fun k hk => by rw [si_ne (by decide)]; exact f4 k hk⟩⟩
    rw [si_eq, g4, putR_out (by omega), ← putR_s]
