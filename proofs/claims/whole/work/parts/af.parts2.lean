/-! the class's laws' parser: going in, choices, units -/
theorem CAt_10 {B : Nat → Nat} {n : Nat} {x : PS} {R : Nat → Int32} {v : Int32} (h : CAt B n x R) : CAt B n x (pm_row R 10 v) := by
  cases x with
  | inl f =>
    obtain ⟨h5, h2, h3, h7, g1, g2, g3⟩ := h
    exact ⟨by rw [row_ne (by decide), h5], by rw [row_ne (by decide), h2], by rw [row_ne (by decide), h3], by rw [row_ne (by decide), h7], g1, g2, g3⟩
  | inr p =>
    obtain ⟨h5, hp, hk, h2, h3, h7, h8, h6, h9⟩ := h
    exact ⟨by rw [row_ne (by decide), h5], hp, hk, by rw [row_ne (by decide), h2], by rw [row_ne (by decide), h3], by rw [row_ne (by decide), h7], by rw [row_ne (by decide), h8], by rw [row_ne (by decide), h6], fun e => by rw [row_ne (by decide), h9 e]⟩
theorem chC_10 {B : Nat → Nat} {n c a b : Nat} {x x1 : PS} {M M1 : pm_M} {v : Int32} (h : chC B n c x a M x1 b M1) : chC B n c x a M x1 b (pm_si M1 1 10 v) := by
  rw [si_ri]
  exact chC_row (c' := 0) h (fun k _ _ _ _ _ _ k10 => row_ne k10) (CAt_10 h.2.2.1) (fun p e => ⟨p, e, by omega⟩)
theorem sp_giC {d : Nat} {s : pm_S} {M : pm_M} {B : Nat → Nat} {n r a : Nat} {o : Bool} {x : PS} {Q : Int32 → pm_S → pm_M → Prop} (hd : 5 ≤ d) (hr : r ≤ 6) (h : inC B n o r x a M) (hk : kiF B n x ≠ 129) (hk2 : kiF B n x ≠ 131)
    (hq1 : r ≠ 0 → ∀ M', chC B n 1 x a M (nxF B n x) a M' → inC B n o (r - 1) (nxF B n x) a M' → (∀ p, nxF B n x = .inr p → M'.1 1 10 = nI (7 - r) ∧ M.1 1 10 = nI (6 - r)) → Q 1 s M')
    (hq0 : r = 0 → ∀ M', chC B n 0 x a M (faF B n 4 x) a M' → Q 0 s M') : cI d yR_goesIn [.ref 1] s M Q := by
  obtain ⟨d, rfl⟩ : ∃ e, d = e + 1 := ⟨d - 1, by omega⟩
  obtain ⟨hs, ha⟩ := h
  cases x with
  | inl f => exact absurd rfl hk2
  | inr p =>
    obtain ⟨a1, a2⟩ := ha p rfl
    refine enR_goesIn ?_
    rw [a1, lI 6, nI_ltP (by omega) (by omega)]
    refine br_c (fun z => ?_) (fun z => ?_)
    · rw [nI_1]
      have h1 := chC_10 (v := nI (6 - r + 1)) hs
      refine sp_stC (by omega) h1 hk (fun M' c1 s1 n1 => ?_)
      have e10 : M'.1 1 10 = nI (6 - r + 1) := by rw [n1, si_eq, row_eq]
      refine hq1 (by omega) M' (chC_mo c1 (by omega)) ⟨chC_self c1, fun q eq => ⟨by rw [e10]; congr 1; omega, ?_⟩⟩ (fun q eq => ⟨by rw [e10]; congr 1; omega, a1⟩)
      rw [c1.1.2.2.1 11 (by decide) (by decide) (by decide) (by decide) (by decide) (by decide) (by decide), a2]
    · exact sp_faC (k := 4) (by omega) hs (by omega) (by omega) (fun M' c1 => hq0 (by omega) M' c1)
theorem sp_asC {d : Nat} {s : pm_S} {M : pm_M} {B : Nat → Nat} {n a : Nat} {k v : Int32} {x : PS} {Q : pm_S → pm_M → Prop} (hd : 4 ≤ d) (h : chC B n 0 x a M x a M) (hk : kiF B n x ≠ 129) (hk2 : kiF B n x ≠ 131)
    (hq : ∀ M', chC B n 0 x a M (nxF B n x) (a + 1) M' → M'.1 1 10 = M.1 1 10 → M'.1 11 = pm_row (M.1 11) a (k ||| (v <<< ((4 : Int32) &&& 31))) → Q s M') : cI d yW_add [.ref 10, .int k, .int v] s M (fun _ s1 M1 => cV d yR_step [.ref 1] s1 M1 Q) := by
  obtain ⟨h1, h2, h3, h4, h5, h6, h7⟩ := h
  have hn := nx_adv (fun k hk => (h2.2 k hk).2) (CAt_n h3) hk
  have hlt : a < 900 := by
    cases x with
    | inl f => exact absurd rfl hk2
    | inr p =>
      obtain ⟨p', e0, m1, m2, m3⟩ := h7 p rfl
      cases e0
      obtain ⟨k1, k2, k3, k4, k5, k6, k7⟩ := tk_spec (CAt_n h3 p rfl) (fun k hk => (h2.2 k hk).2)
      have := k5 hk
      have := h2.1
      omega
  obtain ⟨e, rfl⟩ : ∃ e, d = e + 1 := ⟨d - 1, by omega⟩
  refine enW_add ?_
  rw [h4, lI 900, nI_leP (by omega) (by omega)]
  refine br_f (by omega) ⟨vpI (by omega) (by omega), ?_⟩
  rw [nI_clamp (by omega), nI_1]
  have k1 : cK M (pm_si (pm_si M 11 a (k ||| (v <<< ((4 : Int32) &&& 31)))) 10 3 (nI (a + 1))) := ⟨fun j a1 a2 a3 => by rw [si_ne a2, si_ne a3], rfl, fun j _ _ _ _ _ _ _ => by rw [si_ne (by decide), si_ne (by decide)], fun j hj => by rw [si_eq, row_ne hj, si_ne (by decide)]⟩
  have e1 : (pm_si (pm_si M 11 a (k ||| (v <<< ((4 : Int32) &&& 31)))) 10 3 (nI (a + 1))).1 1 = M.1 1 := by rw [si_ne (by decide), si_ne (by decide)]
  have e11 : (pm_si (pm_si M 11 a (k ||| (v <<< ((4 : Int32) &&& 31)))) 10 3 (nI (a + 1))).1 11 = pm_row (M.1 11) a (k ||| (v <<< ((4 : Int32) &&& 31))) := by rw [si_ne (by decide), si_eq]
  have e10 : (pm_si (pm_si M 11 a (k ||| (v <<< ((4 : Int32) &&& 31)))) 10 3 (nI (a + 1))).1 10 3 = nI (a + 1) := by rw [si_eq, row_eq]
  generalize pm_si (pm_si M 11 a (k ||| (v <<< ((4 : Int32) &&& 31)))) 10 3 (nI (a + 1)) = M2 at k1 e1 e11 e10
  refine sp_stepX hd (cK_tp k1 h2) (by rw [e1]; exact h3) (fun R' r1 r2 => ?_)
  have hr : ∀ k, k ≠ 2 → k ≠ 3 → k ≠ 6 → k ≠ 7 → k ≠ 8 → k ≠ 9 → k ≠ 10 → R' k = M2.1 1 k := fun k b1 b2 b3 b4 b5 b6 _ => r2 k b1 b2 b3 b4 b5 b6
  refine hq _ ⟨cK_tr k1 (cK_rd hr), cK_tp (cK_rd hr) (cK_tp k1 h2), by rw [ri_eq]; exact r1, by rw [ri_ne (by decide)]; exact e10, by omega, by omega, fun p' ep => ?_⟩ ?_ ?_
  · obtain ⟨p1, ep1, l⟩ := hn p' ep
    obtain ⟨p, e0, m1, m2, m3⟩ := h7 p1 ep1
    exact ⟨p1, ep1, by omega, by omega, fun j hj => by rw [ri_ne (by decide), e11, row_ne (by omega)]⟩
  · rw [ri_eq, ← e1]; exact r2 10 (by decide) (by decide) (by decide) (by decide) (by decide) (by decide)
  · rw [ri_ne (by decide), e11]
theorem ch_C {B : Nat → Nat} {n dm r q : Nat} {o : Bool} {sm tr : PS → PR} (h4 : 5 ≤ dm) (hS : spC B n o yR_readSum dm r q sm) (hT : spC B n o yR_readTruth dm r q tr) (hV : ∀ x w, is01 ((tr x).2 w)) :
    spC B n o yR_readChoice (dm + 1) r q (fun x => (exF B n 217 (sm (exF B n 216 (sm (exF B n 215 (tr x).1)).1)).1, fun w => if (tr x).2 w = 1 then (sm (exF B n 215 (tr x).1)).2 w else (sm (exF B n 216 (sm (exF B n 215 (tr x).1)).1)).2 w)) := by
  intro d s M x a Q hd h0 hq
  obtain ⟨d, rfl⟩ : ∃ e, d = e + 1 := ⟨d - 1, by omega⟩
  refine enR_readChoice (hT d s M x a _ (by omega) h0 (fun M1 w1 => ?_))
  obtain ⟨b, c1, al1⟩ := w1
  refine sp_exC (w := 215) (by omega) c1 (by omega) (by omega) (fun M2 c2 s2 n2 => ?_)
  refine sp_addC (c := 0) (by omega) c2 (fun M3 b3 c3 k3 v3 => ?_)
  have hx2 : ∀ p, exF B n 215 (tr x).1 = .inr p → M3.1 1 10 = M.1 1 10 := fun p e => by
    obtain ⟨p1, e1, _⟩ := s2.2.2.2.2.2.2 p e
    rw [k3, n2, (al1 p1 e1).1]
  refine hS d s M3 _ b3 _ (by omega) (chC_in c3 h0 hx2) (fun M4 w4 => ?_)
  obtain ⟨e, c4, al4⟩ := w4
  have c4' := chC_tr c3 c4
  refine sp_exC (w := 216) (by omega) c4' (by omega) (by omega) (fun M5 c5 s5 n5 => ?_)
  refine sp_addC (c := 0) (by omega) c5 (fun M6 b6 c6 k6 v6 => ?_)
  have lb : a ≤ b := c1.2.2.2.2.1
  have lb9 : b ≤ 900 := c1.2.2.2.2.2.1
  have le9 : e ≤ 900 := c4.2.2.2.2.2.1
  have lae : a ≤ e := c4'.2.2.2.2.1
  refine sp_aimC (j := b) (by omega) c6 lb lb9 (fun M7 c7 k7 v7 => ?_)
  have hx5 : ∀ p, exF B n 216 (sm (exF B n 215 (tr x).1)).1 = .inr p → M7.1 1 10 = M.1 1 10 := fun p ep => by
    obtain ⟨p4, e4, _⟩ := s5.2.2.2.2.2.2 p ep
    obtain ⟨p2, e2, _⟩ := c4.2.2.2.2.2.2 p4 e4
    rw [k7, k6, n5, (al4 p4 e4).1, hx2 p2 e2]
  refine hS d s M7 _ b6 _ (by omega) (chC_in c7 h0 hx5) (fun M8 w8 => ?_)
  obtain ⟨f, c8, al8⟩ := w8
  have c8' := chC_tr c7 c8
  refine sp_exC (w := 217) (by omega) c8' (by omega) (by omega) (fun M9 c9 s9 n9 => ?_)
  refine sp_aimC (j := e) (by omega) c9 lae le9 (fun M10 c10 k10 v10 => ?_)
  refine hq M10 ⟨f, chC_mo c10 (by omega), fun p9 ep9 => ?_⟩
  obtain ⟨p8, e8, x1, x2, x3⟩ := s9.2.2.2.2.2.2 p9 ep9
  obtain ⟨p5, e5, y1, y2, y3⟩ := c8.2.2.2.2.2.2 p8 e8
  obtain ⟨p4, e4, z1, z2, z3⟩ := s5.2.2.2.2.2.2 p5 e5
  obtain ⟨p2, e2, u1, u2, u3⟩ := c4.2.2.2.2.2.2 p4 e4
  obtain ⟨p1, e1, t1, t2, t3⟩ := s2.2.2.2.2.2.2 p2 e2
  obtain ⟨eb3, l3, r3⟩ := v3 p2 e2
  obtain ⟨eb6, l6, r6⟩ := v6 p5 e5
  subst eb3
  subst eb6
  have m1 := (al1 p1 e1).2
  have m4 := (al4 p4 e4).2
  have m8 := (al8 p8 e8).2
  have lbe := mcC_le m4
  have lef := mcC_le m8
  have f9 : f ≤ 900 := c8.2.2.2.2.2.1
  have r7 := v7 (by omega)
  have r10 := v10 (by omega)
  have g1 : ∀ k, k < e + 1 → k ≠ e → k ≠ b → M10.1 11 k = M5.1 11 k := fun k h1 h2 h3 => by
    rw [r10, row_ne h2, x3 k (by omega), y3 k h1, r7, row_ne h3, r6, row_ne h2]
  have g2 : ∀ k, k < e → k ≠ b → M10.1 11 k = M4.1 11 k := fun k h1 h3 => by
    rw [g1 k (by omega) (by omega) h3, z3 k h1]
  have gb : M10.1 11 b = nI 12 ||| (nI (e + 1) <<< ((4 : Int32) &&& 31)) := by
    rw [r10, row_ne (by omega), x3 b (by omega), y3 b (by omega), r7, row_eq, r6, row_ne (by omega), z3 b (by omega), u3 b (by omega), r3, row_eq]
    have := (st_op 12 (by omega)).1
    rw [show ((12 : Int32) ||| ((0 : Int32) <<< ((4 : Int32) &&& 31))) &&& 15 = nI 12 from this]
  have ge : M10.1 11 e = nI 11 ||| (nI f <<< ((4 : Int32) &&& 31)) := by
    rw [r10, row_eq, x3 e (by omega), y3 e (by omega), r7, row_ne (by omega), r6, row_eq]
    have := (st_op 11 (by omega)).1
    rw [show ((11 : Int32) ||| ((0 : Int32) <<< ((4 : Int32) &&& 31))) &&& 15 = nI 11 from this]
  refine ⟨by rw [k10, n9, (al8 p8 e8).1, hx5 p5 e5], ?_⟩
  refine mcC_if (p := q) (q := q) (r := q) (b := b) (e := e) (mcC_congr m1 (fun k h1 h2 => ?_)) (mcC_congr m4 (fun k h1 h2 => ?_)) (mcC_congr m8 (fun k h1 h2 => ?_)) (Nat.le_refl _) (Nat.le_refl _) (Nat.le_refl _) (by omega) ?_ ?_ ?_ ?_ (fun w => hV x w)
  · rw [g2 k (by omega) (by omega), u3 k (by omega), r3, row_ne (by omega), t3 k h2]
  · rw [g2 k h2 (by omega)]
  · rw [r10, row_ne (by omega), x3 k h2]
  · rw [gb]; exact (st_aim 12 (by omega) (by omega) (e + 1) (by omega)).1
  · rw [gb]; exact (st_aim 12 (by omega) (by omega) (e + 1) (by omega)).2
  · rw [ge]; exact (st_aim 11 (by omega) (by omega) f (by omega)).1
  · rw [ge]; exact (st_aim 11 (by omega) (by omega) f (by omega)).2
