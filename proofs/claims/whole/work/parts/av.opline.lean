theorem op_line {L d : Nat} {s : pm_S} {M : pm_M} {v : Int32} (hd : 80 ≤ d) (hI : Inv L s M) : cI d yG_line [.ref 0, .int v] s M (fun r s1 M1 => cI d yM_line [.ref 159, .int v] s1 M1 (same L r)) := by
  obtain ⟨d, rfl⟩ : ∃ e, d = e + 1 := ⟨d - 1, by omega⟩
  have hI0 := hI
  obtain ⟨g0, N0, T0, P0, x0, n0, hc⟩ := Inv_ctx hI
  have rd := ctx_read hc
  obtain ⟨a1, ⟨t1, t2, t3⟩, a3, -⟩ := hc
  obtain ⟨⟨m, m9, m1, m5, mt⟩, mf, mp⟩ := t1
  have no : ¬ inI v (m + 1) → cI (d + 1) yM_line [.ref 159, .int v] s M (same L (-3)) := by
    intro h
    refine enM_line ?_
    rw [m5]
    refine sp_within2 (by omega) (fun h2 => absurd ?_ h) (fun _ => br_t rfl ⟨rfl, rd⟩)
    have e0 : (0 : Int64) = (nI 0).toInt64 := by decide
    rw [e0, le64, le64] at h2
    have c0 : ¬ v < 0 := Int32.not_lt.2 h2.1
    obtain ⟨k, _, rfl⟩ := nI_of c0
    have := h2.2
    rw [nI_leP (by omega) (by omega)] at this
    exact ⟨k, by omega, rfl⟩
  refine enG_line (br_c (fun c => no (fun q => ?_)) (fun c1 => br_c (fun c2 => ?_) (fun c2 => no (fun q => ?_))))
  · rw [inI_iff (by omega)] at q; exact q.1 c
  rotate_left
  · obtain ⟨k, hk, rfl⟩ := q
    exact c2 (by rw [m1, nI_leP (by omega) (by omega)]; omega)
  obtain ⟨n, _, rfl⟩ := nI_of c1
  rw [m1, nI_leP (by omega) (by omega)] at c2
  have hB : ∃ B : Nat → Nat, ∀ k, k < m → M.1 162 k = nI (B k) ∧ B k < 256 := ⟨fun k => (M.1 162 k).toNatClampNeg, fun k hk => by
    obtain ⟨_, b, b1, b2⟩ := mt k hk
    show M.1 162 k = nI (M.1 162 k).toNatClampNeg ∧ (M.1 162 k).toNatClampNeg < 256
    rw [b2, nI_clamp (by omega)]
    exact ⟨rfl, b1⟩⟩
  obtain ⟨B, hB⟩ := hB
  refine tx_C (B := B) (by omega) m9 c2 m1 (fun k hk => by rw [(mt k (by omega)).1]; exact hB k (by omega)) (fun M1 cl1 => ?_)
  have hv : pV (txF B n) := lnL_V 900 _ hdZ_V
  obtain ⟨a, sc, -⟩ := cl1
  obtain ⟨⟨f1, f2, f3⟩, tp1, ca1, al1⟩ := sc
  have k1 : ∀ c, (c < 1 ∨ 11 < c) → M1.1 c = M.1 c := fun c hc => by rw [f1 c hc, si_ne (by omega)]
  have k1j : M1.2 = M.2 := f2
  have s11 : M1.1 1 1 = 0 := by rw [f3, si_eq, row_eq]
  -- the tape is empty, trays and images stay
  have tray : ∀ M' : pm_M, (∀ c, (117 ≤ c ∧ c ≤ 124) ∨ (182 ≤ c ∧ c ≤ 184) → M'.1 c = M.1 c ∧ M'.2 c = M.2 c) → iTray M' := by
    intro M' h r hr
    have := t2 r hr
    unfold YR at this ⊢
    rw [(h 182 (by omega)).1, (h 183 (by omega)).1, (h 184 (by omega)).2, (h (117 + 2 * r) (by omega)).1, (h (117 + 2 * r + 1) (by omega)).2]
    exact this
  -- the reference reads
  have ref : ∀ (M3 : pm_M) (r : Int32), (∀ c, 158 < c → M3.1 c = M.1 c) → (∀ (M' : pm_M) (a' : Nat), (∀ c, c ≠ 159 → c ≠ 163 → M'.1 c = M3.1 c) → M'.2 = M3.2 → M'.1 159 5 = 0 → MAt B n (txF B n).1 (M'.1 159) → (∀ p, (txF B n).1 = .inr p → TM M' (txF B n).2.1 a' (txF B n).2.2.1 (txF B n).2.2.2) → ((∀ q, (txF B n).1 ≠ .inr q) → M'.1 159 11 ≠ 0) → wM_line d 110 [.ref 159, .null, .null] [] s M' (same L r)) → cI (d + 1) yM_line [.ref 159, .int (nI n)] s M3 (same L r) := by
    intro M3 r h3 hk
    refine tx_M (B := B) (by omega) m9 c2 (by rw [h3 159 (by omega)]; exact m5) (fun k hk => by rw [h3 162 (by omega)]; exact hB k (by omega)) (fun M' rl nz => ?_)
    obtain ⟨a', ⟨⟨b1, b2, b3⟩, -, b4, b5⟩, -⟩ := rl
    refine hk M' a' (fun c h1 h2 => by rw [b1 c h1 h2, si_ne h1, si_ne h1, si_ne h1]) b2 ?_ b4 b5 nz
    rw [b3 5 (by decide) (by decide) (by decide) (by decide) (by decide) (by decide) (by decide), si_eq, row_eq]
  rcases al_or (x := (txF B n).1) with ⟨p, ep⟩ | hdd
  rotate_left
  · -- a fault
    obtain ⟨f, ef⟩ : ∃ f, (txF B n).1 = .inl f := by
      cases e : (txF B n).1 with
      | inl f => exact ⟨f, rfl⟩
      | inr p => exact absurd e (hdd p)
    rw [ef] at ca1
    obtain ⟨-, x2, x3, -, x5, x6, x7⟩ := ca1
    refine sgG_line_58 (br_f (by rw [x2, lI 0, nI_inj (by omega) (by omega)]; omega) ?_)
    refine ref M1 _ (fun c hc => k1 c (by omega)) (fun M2 a' b1 b2 b5 b4 _ nz => ?_)
    rw [ef] at b4
    have nz := nz hdd
    obtain ⟨-, -, -, -, b6 | ⟨-, b7, -⟩⟩ := b4
    rotate_left
    · exact absurd b7 nz
    refine sgM_line_110 (br_f nz ?_)
    rw [if_neg nz, b6.1, b6.2, x2]
    refine ⟨rfl, ?_⟩
    have ec : ∀ c, c ≠ 159 → c ≠ 163 → (c < 1 ∨ 11 < c) → (pm_si (pm_si M2 159 13 (nI f.1)) 159 14 (nI f.2)).1 c = M.1 c ∧ (pm_si (pm_si M2 159 13 (nI f.1)) 159 14 (nI f.2)).2 c = M.2 c := fun c h1 h2 h3 => by
      rw [si_ne h1, si_ne h1, si_2, si_2, b1 c h1 h2, k1 c h3, b2, k1j]
      exact ⟨rfl, rfl⟩
    have e1 : (pm_si (pm_si M2 159 13 (nI f.1)) 159 14 (nI f.2)).1 1 = M1.1 1 := by rw [si_ne (by decide), si_ne (by decide), b1 1 (by decide) (by decide)]
    refine Inv_rest hI0 (fun c hc => (ec c (by omega) (by omega) (by omega)).1) ⟨⟨⟨0, by omega, by rw [e1, s11]; rfl, ?_, fun k hk => by omega⟩, ?_, ?_⟩, tray _ (fun c hc => ec c (by omega) (by omega) (by omega)), iImg_cells (fun c hc => (ec c (by omega) (by omega) (by omega)).1) t3⟩
    · rw [si_eq, row_ne (by decide), si_eq, row_ne (by decide), b5]; rfl
    · rw [e1, x2, si_eq, row_ne (by decide), si_eq, row_eq]
    · rw [e1, x3, si_eq, row_eq]
  -- a new line
  rw [ep] at ca1
  obtain ⟨-, -, -, x2, x3, -⟩ := ca1
  obtain ⟨-, hT, hL⟩ := al1 p ep
  obtain ⟨gv, g1, g2, g3⟩ := hv p ep
  have v8 := gv.1.2.2.1
  have v6 := gv.1.2.2.2.1
  generalize nzG (txF B n).2.1 1 = N at hT gv g1
  generalize nzG (txF B n).2.1 2 = T at hT gv g2 v8
  generalize nzG (txF B n).2.1 3 = P at hT gv g3 v6
  refine sgG_line_58 (br_t x2 ?_)
  refine sp_lbecome (o := 15) (q := 2) (by omega) isL_15 L2 (by omega) hL.1 hL.2.1 (fun M2 y1 y2 y3 y4 y5 yo => ?_)
  have k2 : ∀ c, (c < 15 ∨ 24 < c) → M2.1 c = M1.1 c ∧ M2.2 c = M1.2 c := fun c hc => yo c (by simp; omega)
  have q0 : M2.1 15 1 = nI T := by rw [y1 1 (by omega), hT.2.1]
  have q1 : M2.1 15 2 = nI P := by rw [y1 2 (by omega), hT.2.2.1]
  refine sp_begin (T := T) (P := P) (by omega) v8 v6 q0 q1 (fun M3 o3 w1 w2 w4 w5 w6 => ?_)
  have k3 : ∀ c, (c < 27 ∨ 31 < c) → M3.1 c = M2.1 c ∧ M3.2 c = M2.2 c := fun c hc => o3 c (by simp; omega)
  obtain ⟨d, rfl⟩ : ∃ e, d = e + 1 := ⟨d - 1, by omega⟩
  refine enG_forgetPast ?_
  have f0 : ∀ c, c ≠ 0 → (pm_si (pm_si M3 0 5 0) 0 6 0).1 c = M3.1 c ∧ (pm_si (pm_si M3 0 5 0) 0 6 0).2 c = M3.2 c := fun c hc => by rw [si_ne hc, si_ne hc]; exact ⟨rfl, rfl⟩
  have f5 : (pm_si (pm_si M3 0 5 0) 0 6 0).1 0 5 = 0 := by rw [si_eq, row_ne (by omega), si_eq, row_eq]
  have f6 : (pm_si (pm_si M3 0 5 0) 0 6 0).1 0 6 = 0 := by rw [si_eq, row_eq]
  have f10 : (pm_si (pm_si M3 0 5 0) 0 6 0).1 0 10 = M.1 0 10 := by rw [si_eq, row_ne (by omega), si_eq, row_ne (by omega), (k3 0 (by omega)).1, (k2 0 (by omega)).1, k1 0 (by omega)]
  generalize pm_si (pm_si M3 0 5 0) 0 6 0 = M4 at f0 f5 f6 f10
  have r4 : M4.1 15 3 = (txF B n).2.1 0 := by rw [(f0 15 (by omega)).1, (k3 15 (by omega)).1, y1 3 (by omega), hT.2.2.2.1]
  rw [r4]
  have all4 : ∀ c, c ≠ 0 → (c < 1 ∨ 11 < c) → (c < 15 ∨ 31 < c) → M4.1 c = M.1 c ∧ M4.2 c = M.2 c := fun c h0 h1 h2 => by
    rw [(f0 c h0).1, (f0 c h0).2, (k3 c (by omega)).1, (k3 c (by omega)).2, (k2 c (by omega)).1, (k2 c (by omega)).2, k1 c h1, k1j]
    exact ⟨rfl, rfl⟩
  refine ref M4 _ (fun c hc => (all4 c (by omega) (by omega) (by omega)).1) (fun M5 a' b1 b2 b5 b4 bT _ => ?_)
  have bT := bT p ep
  rw [ep] at b4
  have z11 := MAt_0 b4
  refine sgM_line_110 (br_t z11 ?_)
  rw [z11, if_pos rfl]
  have h0 : ∀ c, c ≠ 159 → (pm_si (pm_si M5 159 13 0) 159 14 (-1)).1 c = M5.1 c := fun c hc => by rw [si_ne hc, si_ne hc]
  have h59 : ∀ k, k ≠ 13 → k ≠ 14 → (pm_si (pm_si M5 159 13 0) 159 14 (-1)).1 159 k = M5.1 159 k := fun k h1 h2 => by rw [si_eq, row_ne h2, si_eq, row_ne h1]
  have h13 : (pm_si (pm_si M5 159 13 0) 159 14 (-1)).1 159 13 = 0 := by rw [si_eq, row_ne (by omega), si_eq, row_eq]
  have h14 : (pm_si (pm_si M5 159 13 0) 159 14 (-1)).1 159 14 = -1 := by rw [si_eq, row_eq]
  have hj2 : (pm_si (pm_si M5 159 13 0) 159 14 (-1)).2 = M5.2 := rfl
  generalize pm_si (pm_si M5 159 13 0) 159 14 (-1) = M6 at h0 h59 h13 h14 hj2
  have e160 : M6.1 160 = M.1 160 := by rw [h0 160 (by decide), b1 160 (by decide) (by decide), (all4 160 (by omega) (by omega) (by omega)).1]
  refine loop_up (L := fun j Mx => wM_line (d + 1) 154 [.ref 159, .null, .int (nI j)] [] s Mx (same L ((txF B n).2.1 0))) (I := fun j Mx => Mx.1 160 = putR (M.1 160) 0 j (M6.1 163) ∧ off [160] M6 Mx) (e := 1290) ?_ ?_ M6 ⟨by rw [putR_0, e160], off_rf⟩
  rotate_left
  · intro j Mx hj hx hk
    obtain ⟨g4, o4⟩ := hx
    refine sgM_line_154 (br_f (by rw [lI 1290, nI_leP (by omega) (by omega)]; omega) ⟨vpI (by omega) (by omega), vpI (by omega) (by omega), ?_⟩)
    rw [nI_1, nI_clamp (by omega)]
    refine hk _ ⟨?_, off_si o4 (by decide)⟩
    rw [si_eq, g4, (o4 163 (by decide)).1]
    have := putR_s (g := M.1 160) (w := M6.1 163) (k := 0) (n := j)
    rw [Nat.zero_add] at this
    exact this
  intro M7 h7
  obtain ⟨g7, o7⟩ := h7
  have hG : ∀ j, j < 1290 → M7.1 160 j = M5.1 163 j := fun j hj => by rw [g7, putR_in (by omega) (by omega), Nat.sub_zero, h0 163 (by decide)]
  obtain ⟨lr, lz, vd, vs, g78, gg0, eG⟩ := line_meet hT hL bT gv g1 g2 g3 hG
  refine sgM_line_154 (br_t (by decide) ⟨gg0.symm, ?_⟩)
  have c7 : ∀ c, c ≠ 159 → c ≠ 160 → c ≠ 163 → M7.1 c = M4.1 c ∧ M7.2 c = M4.2 c := fun c h1 h2 h3 => by
    obtain ⟨u1, u2⟩ := o7 c (by simp; omega)
    rw [u1, u2, h0 c h1, hj2, b1 c h1 h3, b2]
    exact ⟨rfl, rfl⟩
  have c59 : M7.1 159 = M6.1 159 := (o7 159 (by decide)).1
  have cM : ∀ c, c ≠ 0 → c ≠ 159 → c ≠ 160 → c ≠ 163 → (c < 1 ∨ 11 < c) → (c < 15 ∨ 31 < c) → M7.1 c = M.1 c ∧ M7.2 c = M.2 c := fun c h0 h1 h2 h3 h4 h5 => by
    obtain ⟨u1, u2⟩ := c7 c h1 h2 h3
    obtain ⟨w1, w2⟩ := all4 c h0 h4 h5
    exact ⟨u1.trans w1, u2.trans w2⟩
  have c41 : M7.1 1 = M1.1 1 := by rw [(c7 1 (by omega) (by omega) (by omega)).1, (f0 1 (by omega)).1, (k3 1 (by omega)).1, (k2 1 (by omega)).1]
  obtain ⟨lr2, lz2⟩ := LR_copy (o := 15) v8 v6 lr lz hL.1 hL.2.1 y1 y2 y3 y4 y5
  have c15 : ∀ c, 15 ≤ c → c ≤ 24 → M7.1 c = M2.1 c := fun c h1 h2 => by rw [(c7 c (by omega) (by omega) (by omega)).1, (f0 c (by omega)).1, (k3 c (by omega)).1]
  have c27 : ∀ c, 27 ≤ c → c ≤ 31 → M7.1 c = M3.1 c := fun c h1 h2 => by rw [(c7 c (by omega) (by omega) (by omega)).1, (f0 c (by omega)).1]
  obtain ⟨im, i1, i2, i3⟩ := t3
  refine ⟨a1, ⟨⟨⟨0, by omega, by rw [c41, s11]; rfl, by rw [c59, h59 5 (by decide) (by decide), b5]; rfl, fun k hk => by omega⟩, by rw [c41, x2, c59, h13], by rw [c41, x3, c59, h14]⟩, tray _ (fun c hc => cM c (by omega) (by omega) (by omega) (by omega) (by omega) (by omega)), im, i1, by rw [(c7 0 (by omega) (by omega) (by omega)).1, f10, i2], fun j hj => ?_⟩, N, T, P, ⟨LR_cells lr2 (fun c hc => c15 c (by simp at hc; omega) (by simp at hc; omega)), vd⟩, ?_, vs, ?_, 0, 0, by omega, by omega, g78, ?_, ?_, fun k hk => by omega⟩
  · rw [(cM 161 (by omega) (by omega) (by omega) (by omega) (by omega) (by omega)).1]
    rcases i3 j hj with q | ⟨q1, q2, q3⟩
    · exact Or.inl q
    · refine Or.inr ⟨q1, q2, img_M (h := fun k => M.1 160 (1290 * (j + 1) + k)) (fun k hk => ?_) (img_cells hj (fun c h1 h2 => (cM c (by omega) (by omega) (by omega) (by omega) (by omega) (by omega)).1) q3)⟩
      show M7.1 160 (1290 * (j + 1) + k) = M.1 160 (1290 * (j + 1) + k)
      rw [g7, putR_out (by omega)]
  · unfold LZ at lz2 ⊢
    rw [c15 (15 + 8) (by omega) (by omega)]; exact lz2
  · -- the new state
    obtain ⟨-, -, -, -, -, tc6, tc7⟩ := hT
    obtain ⟨-, gt, -, -, -, -, z1, z2, z3, z4, z5, z6⟩ := gv
    refine ⟨by rw [c27 27 (by omega) (by omega), w4, eG 47 (by omega) (by omega), z1], by rw [c27 27 (by omega) (by omega), w5, eG 48 (by omega) (by omega), z2], by rw [c27 27 (by omega) (by omega), w6, eG 49 (by omega) (by omega), z3], fun t ht => ?_, fun q hq => ?_, fun t h1 h2 => ?_⟩
    · obtain ⟨u1, u2⟩ := w1 t (by omega)
      obtain ⟨e1, e2, e3, e4⟩ := tc6 t ht
      rw [c27 (27 + 1) (by omega) (by omega), c27 (27 + 2) (by omega) (by omega), eG (50 + t) (by omega) (by omega), eG (58 + t) (by omega) (by omega), z5 t (by omega)]
      refine ⟨?_, u2⟩
      show M3.1 28 t = _
      rw [u1]
      unfold bgW
      have r19 : M2.1 19 t = M1.1 6 t := y2 4 t (by omega) (by omega) (by omega)
      have r16 : M2.1 16 t = M1.1 3 t := y2 1 t (by omega) (by omega) (by omega)
      rw [if_pos ht, r19, r16]
      rcases e4 with ⟨q1, q2⟩ | ⟨q, q0, q1, q2⟩
      · rw [if_pos q1, q2, e1]
      · rw [if_neg (by rw [q1, m1_ne (by omega)]; exact not_false), q1, q2, lI 10, nI_add]
    · obtain ⟨u1, u2⟩ := w2 q (by omega)
      obtain ⟨e1, e2, e3⟩ := tc7 q hq
      rw [c27 (27 + 3) (by omega) (by omega), c27 (27 + 4) (by omega) (by omega), eG (66 + q) (by omega) (by omega), eG (72 + q) (by omega) (by omega), z6 q (by omega)]
      refine ⟨?_, u2⟩
      show M3.1 30 q = _
      rw [u1]
      unfold bgP
      have r21 : M2.1 21 q = M1.1 8 q := y3 6 q (by omega) (by omega) (by omega)
      rw [if_pos hq, r21, e2]
    · obtain ⟨u1, u2⟩ := w1 t h2
      rw [c27 (27 + 1) (by omega) (by omega)]
      show M3.1 28 t < 10
      rw [u1]
      unfold bgW
      rw [if_neg (by omega)]
      decide
  · rw [(c7 0 (by omega) (by omega) (by omega)).1]; exact f5
  · rw [(c7 0 (by omega) (by omega) (by omega)).1]; exact f6
