theorem noCh_2 {d : Nat} {s : pm_S} {M M1 : pm_M} {g : Nat → Int32} {N T P : Nat} {v u : Int32} {Q : Int32 → pm_S → pm_M → Prop} (hd : 4 ≤ d) (hg : M.1 160 = g) (hV : Vd g N T P) (hT : iTray M) (hs : Scr M M1) (h : ¬ (inI v 4 ∧ inI u P)) (hq : Q (-2) s M1) : cI d yM_noChance [.ref 159, .int v, .int u] s M1 Q :=
  sp_noChance hd ((Scr_c hs (by decide)).trans hg) hV (iTray_Scr hs hT) (fun _ => hq) (fun r hr e hu _ => absurd ⟨⟨r, hr, e⟩, hu⟩ h) (fun r n hr e hu _ _ _ => absurd ⟨⟨r, hr, e⟩, hu⟩ h)
theorem noCh_6 {d : Nat} {s : pm_S} {M M1 : pm_M} {g : Nat → Int32} {N T P r : Nat} {u : Int32} {Q : Int32 → pm_S → pm_M → Prop} (hd : 4 ≤ d) (hg : M.1 160 = g) (hV : Vd g N T P) (hT : iTray M) (hs : Scr M M1) (hr : r < 4) (hu : inI u P) (z : M.1 182 r = -1) (hq : Q (-6) s M1) : cI d yM_noChance [.ref 159, .int (nI r), .int u] s M1 Q := by
  refine sp_noChance hd ((Scr_c hs (by decide)).trans hg) hV (iTray_Scr hs hT) (fun h => absurd ⟨⟨r, hr, rfl⟩, hu⟩ h) (fun _ _ _ _ _ => hq) (fun r' n hr' e _ h40 q1 q2 => ?_)
  rw [nI_inj (by omega) (by omega)] at e
  subst e
  have q3 := q2.1
  rcases hT r hr with ⟨w1, w2⟩ | ⟨n', q', q0', q1', q2', q3', q4'⟩
  · rw [hs.1 (117 + 2 * r) (KEEP_SC (KEEP_tray hr (by omega) (by omega))), w1] at q3
    exact ((m1_ne (a := n) (by omega)).mp q3.symm).elim
  · rw [q1'] at z
    exact ((m1_ne (a := q') (by omega)).mp z).elim
theorem noCh_0 {d : Nat} {s : pm_S} {M M1 : pm_M} {g : Nat → Int32} {N T P r n : Nat} {u : Int32} {Q : Int32 → pm_S → pm_M → Prop} (hd : 4 ≤ d) (hg : M.1 160 = g) (hV : Vd g N T P) (hT : iTray M) (hs : Scr M M1) (hr : r < 4) (hu : inI u P) (h40 : n ≤ 40) (z1 : M.1 183 r = nI n) (z2 : YR M (117 + 2 * r) n (fun k => M.2 184 (40 * r + k))) (hq : Q (codeF n 10 T (fun k => M.2 184 (40 * r + k))) s M1) : cI d yM_noChance [.ref 159, .int (nI r), .int u] s M1 Q := by
  have t1 := Scr_tr4 hs
  refine sp_noChance hd ((Scr_c hs (by decide)).trans hg) hV (iTray_Scr hs hT) (fun h => absurd ⟨⟨r, hr, rfl⟩, hu⟩ h) (fun r' hr' e _ z => ?_) (fun r' n' hr' e _ h40' q1 q2 => ?_)
  · rw [nI_inj (by omega) (by omega)] at e
    subst e
    rw [t1.1] at z
    rcases hT r hr with ⟨w1, w2⟩ | ⟨n', q', q0', q1', q2', q3', q4'⟩
    · have := z2.1
      rw [w1] at this
      exact ((m1_ne (a := n) (by omega)).mp this.symm).elim
    · rw [q1'] at z
      exact ((m1_ne (a := q') (by omega)).mp z).elim
  · rw [nI_inj (by omega) (by omega)] at e
    subst e
    rw [t1.2.1, z1, nI_inj (by omega) (by omega)] at q1
    subst q1
    rw [t1.2.2]
    exact hq
theorem lk_sum {g : Nat → Int32} {p W n : Nat} {f : Nat → Int64} (hW : W ≤ 10) (hn : n ≤ 10) : smN (lkF g p W f n) 1000 = 10 ^ n := dsF_sum hW (fun i k => ⟨(bnF_k g p _ 0 k).2, (bnF_k g p _ 1 k).2⟩) n hn
theorem op_chance {L d : Nat} {s : pm_S} {M : pm_M} {v u w : Int32} (hd : 80 ≤ d) (hI : Inv L s M) : cL d yG_chance [.ref 0, .int v, .int u, .int w] s M (fun r s1 M1 => cL d yM_chance [.ref 159, .int v, .int u, .int w] s1 M1 (sameL L r)) := by
  obtain ⟨d, rfl⟩ : ∃ e, d = e + 1 := ⟨d - 1, by omega⟩
  obtain ⟨g, N, T, P, x, n0, hc⟩ := Inv_ctx hI
  have rd := ctx_read hc
  obtain ⟨a1, a2, a3, a4, a5, a6, a7, a8, a9, a10, a11, a12, a13⟩ := hc
  have h8 : T ≤ 8 := a4.2.2.2.2.2.2.1
  have h6 : P ≤ 6 := a4.2.2.2.2.2.2.2.1
  have h2 := a4.2.2.1
  have h3 := a4.2.2.2.1
  obtain ⟨W, hW10, hW⟩ := a4.2.2.2.2.2.2.2.2.1
  have iT := a2.2.1
  have sc := Scr_159 (M := M) (k := 0) (v := 0) (by omega)
  have no : ¬ inI w 2 → cL (d + 1) yM_chance [.ref 159, .int v, .int u, .int w] s M (sameL L (-2)) := by
    intro h
    refine enM_chance ?_
    rw [lL 0, lL 1]
    exact sp_within2 (by omega) (fun z => absurd ((wi_inI (by omega)).mp z) h) (fun _ => br_t rfl ⟨rfl, rd⟩)
  have hww : ¬ w < 0 → w ≤ 1 → inI w 2 := by
    intro z1 z2
    obtain ⟨k, hk, rfl⟩ := nI_of z1
    rw [l1, nI_leP (by omega) (by omega)] at z2
    exact ⟨k, by omega, rfl⟩
  refine enG_chance (br_c (fun z => no (fun q => by rw [inI_iff (by omega)] at q; exact q.1 z)) (fun z1 => br_c (fun z2 => ?_) (fun z2 => no (fun q => ?_))))
  rotate_left
  · obtain ⟨k, hk, rfl⟩ := q
    exact z2 (by rw [l1, nI_leP (by omega) (by omega)]; omega)
  have hw := hww z1 z2
  have enR : ∀ s' M', Scr M M' → ∀ Q : Int64 → pm_S → pm_M → Prop, cI d yM_noChance [.ref 159, .int v, .int u] s' (pm_si M' 159 0 0) (fun r2 s2 M2 => (((r2 = 0) → cV d yM_laysBorne [.ref 159, .int v, .int u] s2 M2 (fun s3 M3 => wM_chance d 48 [.ref 159, .int v, .int u, .int w, .null, .long 0, .null, .int 0, .null] [] s3 M3 Q)) ∧ (¬ (r2 = 0) → Q (r2.toInt64) s2 M2))) → cL (d + 1) yM_chance [.ref 159, .int v, .int u, .int w] s' M' Q := by
    intro s' M' _ Q h
    refine enM_chance ?_
    rw [lL 0, lL 1]
    exact sp_within2 (by omega) (fun _ => br_f (by decide) h) (fun z => absurd ((wi_inI (by omega)).mpr hw) z)
  refine sp_chanceCode (by omega) (a4.1.2.1.trans h2) (a4.1.2.2.1.trans h3) h8 h6 iT (fun h => br_f (by decide) (enR s M Scr_rf _ (noCh_2 (by omega) a3 a4.2 iT sc h (br_f (by decide) ⟨rfl, rd⟩)))) (fun r hr e hu z => ?_) (fun r n hr e hu h40 q1 q2 => ?_)
  · subst e
    exact br_f (by decide) (enR s M Scr_rf _ (noCh_6 (by omega) a3 a4.2 iT sc hr hu z (br_f (by decide) ⟨rfl, rd⟩)))
  · subst e
    have v4 : vp_in (nI r) 4 := vpI (by omega) (by omega)
    refine br_c (fun c => ⟨v4, fun o eo ho => ?_⟩) (fun c => enR s M Scr_rf _ (noCh_0 (by omega) a3 a4.2 iT sc hr hu h40 q1 q2 (br_f c ⟨rfl, rd⟩)))
    rw [nI_clamp (by omega)] at eo
    subst eo
    obtain ⟨n1, n10, hv⟩ := codeF_0 (by omega) c
    have hu' := hu
    obtain ⟨p, hp, rfl⟩ := hu
    obtain ⟨bb, hb99, hbb⟩ := (a4.2.2.2.2.2.2.2.2.2.2.1 p hp).2
    refine sp_spread (L := L) (by omega) a1 a4 a10 hW hW10 hr q2 n10 hv hp (fun s' M1 ok' t1 w1 o1 => ⟨vpI (by omega) (by omega), ?_⟩)
    obtain ⟨c1, c2, c3⟩ := okS_or ok'
    have s1 : Scr M M1 := Scr_off o1 (by decide)
    have e22 : M1.1 22 p = nI bb := by rw [Scr_c s1 (by decide)]; exact (a4.1.2.2.2.2.2.2.1 p hp).2.trans hbb
    rw [nI_clamp (by omega), e22]
    generalize hf : (fun k => M.2 184 (40 * r + k)) = f at *
    have hv2 : ∀ i, i < n → vN f i < T ∧ f i = lN (vN f i) := fun i hi => ⟨(hv i hi).1, by rw [← (hv i hi).2, ← hf]⟩
    have sum := lk_sum (g := g) (p := p) (W := W) (f := f) hW10 n10
    have p10n := p10 n10
    have ppos : 0 < 10 ^ n := Nat.pos_of_ne_zero (by simp)
    have ab : smN (lkF g p W f n) (bb + 1) ≤ 10 ^ n := by
      have := smN_mono (tab := lkF g p W f n) (m := bb + 1) (n := 1000) (by omega)
      omega
    have gpos : 0 < Nat.gcd (smN (lkF g p W f n) (bb + 1)) (10 ^ n) := Nat.gcd_pos_of_pos_right _ ppos
    have gle : Nat.gcd (smN (lkF g p W f n) (bb + 1)) (10 ^ n) ≤ 10 ^ n := Nat.le_of_dvd ppos (Nat.gcd_dvd_right _ _)
    have eu : eU 68 (smN (lkF g p W f n) (bb + 1)) (10 ^ n) := eU_pow 34 _ _ (by omega)
    have nz : ¬ lN (Nat.gcd (smN (lkF g p W f n) (bb + 1)) (10 ^ n)) = 0 := by rw [lL 0, pk_lEQ (by omega) (by omega)]; omega
    have ref : ∀ ans, (if w = 0 then lN (smN (lkF g p W f n) (bb + 1)) / lN (Nat.gcd (smN (lkF g p W f n) (bb + 1)) (10 ^ n)) else lN (10 ^ n) / lN (Nat.gcd (smN (lkF g p W f n) (bb + 1)) (10 ^ n))) = ans → cL (d + 1) yM_chance [.ref 159, .int (nI r), .int (nI p), .int w] s' M1 (sameL L ans) := by
      intro ans ha
      have s2 := Scr_tr s1 (Scr_159 (M := M1) (k := 0) (v := 0) (by omega))
      have g2 := (Scr_c s2 (c := 160) (by decide)).trans a3
      have t2 := Scr_tr4 s2
      refine enR s' M1 s1 _ (noCh_0 (by omega) a3 a4.2 iT s2 hr hu' h40 q1 (by rw [hf]; exact q2) (br_t (by rw [hf]; exact c) ?_))
      refine sp_laysBorne (f := f) (W := W) (by omega) g2 a4.2 hW hW10 hr (by rw [t2.2.1]; exact q1) (fun k hk => by rw [t2.2.2, ← hf]) n10 hv2 hp (fun M3 t3 o3 => ?_)
      have s3 := Scr_tr s2 (Scr_off o3 (by decide))
      have g3 := (Scr_c s3 (c := 160) (by decide)).trans a3
      have t4 := Scr_tr4 s3
      refine loop_up (L := fun k M4 => wM_chance d 48 [.ref 159, .int (nI r), .int (nI p), .int w, .null, .long (lN (smN (lkF g p W f n) k)), .null, .int (nI k), .null] [] s' M4 (sameL L ans)) (I := fun k M4 => M4 = M3) (e := bb + 1) ?_ ?_ M3 rfl
      · intro M4 e4
        subst e4
        refine sgM_chance_48 ?_
        rw [lI 41, nI_add, nI_clamp (by omega), g3, hbb, nI_clamp (by omega), t4.2.1, q1]
        refine ⟨vpI (by omega) (by omega), br_t (by rw [nI_ltP (by omega) (by omega)]; omega) ⟨v4, sp_tens (by omega) (by omega) (sp_common 68 _ _ d _ eu (by omega) (by omega) (by omega) (br_c (fun z => ⟨nz, ?_⟩) (fun z => ⟨v4, ?_⟩)))⟩⟩
        · rw [if_pos z] at ha
          exact ⟨ha.symm, Inv_Scr hI ok' s3⟩
        · rw [if_neg z] at ha
          rw [t4.2.1, q1]
          exact sp_tens (by omega) (by omega) ⟨nz, ha.symm, Inv_Scr hI ok' s3⟩
      · intro k M4 hk e4 hkk
        subst e4
        refine sgM_chance_48 ?_
        rw [lI 41, nI_add, nI_clamp (by omega), g3, hbb, nI_clamp (by omega), nI_clamp (by omega), t3 k (by omega), lN_add, nI_1]
        exact ⟨vpI (by omega) (by omega), br_f (by rw [nI_ltP (by omega) (by omega)]; omega) ⟨vpI (by omega) (by omega), hkk M4 rfl⟩⟩
    obtain ⟨d, rfl⟩ : ∃ e, d = e + 1 := ⟨d - 1, by omega⟩
    refine enO_waysUpTo ?_
    refine loop_up (L := fun k M4 => wO_waysUpTo d 5 [.ref 64, .int (nI bb), .long (lN (smN (lkF g p W f n) k)), .null, .int (nI k)] [] s' M4 _) (I := fun k M4 => M4 = M1) (e := bb + 1) ?_ ?_ M1 rfl
    · intro M4 e4
      subst e4
      refine sgO_waysUpTo_5 (br_t (by rw [nI_ltP (by omega) (by omega)]; omega) ?_)
      rw [w1]
      refine enO_commonDivisor (sp_commonC 68 _ _ 0 eu (by omega) (by omega) (by omega) (br_t ?_ ?_))
      · rw [lL 1, pk_lLE (by omega) (by omega)]; omega
      · rw [w1]
        exact br_c (fun z => ⟨nz, ref _ (by rw [if_pos z])⟩) (fun z => ⟨nz, ref _ (by rw [if_neg z])⟩)
    · intro k M4 hk e4 hkk
      subst e4
      refine sgO_waysUpTo_5 (br_f (by rw [nI_ltP (by omega) (by omega)]; omega) (br_f (by rw [lI 1000, nI_leP (by omega) (by omega)]; omega) ⟨c1, vpI (by omega) (by omega), ?_⟩))
      rw [nI_clamp (by omega), t1 k (by omega), lN_add, nI_1]
      exact hkk M4 rfl
theorem op_bearing {L d : Nat} {s : pm_S} {M : pm_M} {v u w : Int32} (hd : 12 ≤ d) (hI : Inv L s M) : cI d yG_bearing [.ref 0, .int v, .int u, .int w] s M (fun r s1 M1 => cI d yM_bearing [.ref 159, .int v, .int u, .int w] s1 M1 (same L r)) := by
  obtain ⟨d, rfl⟩ : ∃ e, d = e + 1 := ⟨d - 1, by omega⟩
  obtain ⟨g, N, T, P, x, n0, hc⟩ := Inv_ctx hI
  have rd := ctx_read hc
  obtain ⟨a1, a2, a3, a4, a5, a6, a7, a8, a9, a10, a11, a12, a13⟩ := hc
  have h8 : T ≤ 8 := a4.2.2.2.2.2.2.1
  have h6 : P ≤ 6 := a4.2.2.2.2.2.2.2.1
  have h2 := a4.2.2.1
  have h3 := a4.2.2.2.1
  obtain ⟨W, hW10, hW⟩ := a4.2.2.2.2.2.2.2.2.1
  have iT := a2.2.1
  have sc := Scr_159 (M := M) (k := 0) (v := 0) (by omega)
  refine enG_bearing (sp_chanceCode (by omega) (a4.1.2.1.trans h2) (a4.1.2.2.1.trans h3) h8 h6 iT (fun h => br_f (by decide) (enM_bearing (noCh_2 (by omega) a3 a4.2 iT sc h (br_f (by decide) ⟨rfl, rd⟩)))) (fun r hr e hu z => ?_) (fun r n hr e hu h40 q1 q2 => ?_))
  · subst e
    exact br_f (by decide) (enM_bearing (noCh_6 (by omega) a3 a4.2 iT sc hr hu z (br_f (by decide) ⟨rfl, rd⟩)))
  · subst e
    have v4 : vp_in (nI r) 4 := vpI (by omega) (by omega)
    refine br_c (fun c => ?_) (fun c => enM_bearing (noCh_0 (by omega) a3 a4.2 iT sc hr hu h40 q1 q2 (br_f c ⟨rfl, rd⟩)))
    have no : ¬ inI w 101 → cI (d + 1) yM_bearing [.ref 159, .int (nI r), .int u, .int w] s M (same L (-3)) := by
      intro h
      refine enM_bearing (noCh_0 (by omega) a3 a4.2 iT sc hr hu h40 q1 q2 (br_t c ?_))
      rw [lL 0, lL 100]
      exact sp_within2 (by omega) (fun z => absurd ((wi_inI (by omega)).mp z) h) (fun _ => br_t rfl ⟨rfl, rd⟩)
    refine br_c (fun z => no (fun q => by rw [inI_iff (by omega)] at q; exact q.1 z)) (fun z1 => br_c (fun z2 => ⟨v4, fun o eo ho => ?_⟩) (fun z2 => no (fun q => ?_)))
    rotate_left
    · obtain ⟨k, hk, rfl⟩ := q
      exact z2 (by rw [lI 100, nI_leP (by omega) (by omega)]; omega)
    have hw : inI w 101 := by
      obtain ⟨k, hk, rfl⟩ := nI_of z1
      rw [lI 100, nI_leP (by omega) (by omega)] at z2
      exact ⟨k, by omega, rfl⟩
    have hw' := hw
    obtain ⟨m, hm, rfl⟩ := hw
    rw [nI_clamp (by omega)] at eo
    subst eo
    obtain ⟨n1, n10, hv⟩ := codeF_0 (by omega) c
    have hu' := hu
    obtain ⟨p, hp, rfl⟩ := hu
    refine sp_spread (L := L) (by omega) a1 a4 a10 hW hW10 hr q2 n10 hv hp (fun s' M1 ok' t1 w1 o1 => ?_)
    obtain ⟨c1, c2, c3⟩ := okS_or ok'
    have s1 : Scr M M1 := Scr_off o1 (by decide)
    generalize hf : (fun k => M.2 184 (40 * r + k)) = f at *
    have hv2 : ∀ i, i < n → vN f i < T ∧ f i = lN (vN f i) := fun i hi => ⟨(hv i hi).1, by rw [← (hv i hi).2, ← hf]⟩
    have sum := lk_sum (g := g) (p := p) (W := W) (f := f) hW10 n10
    have p10n := p10 n10
    have sle : ∀ k, k ≤ 1000 → smN (lkF g p W f n) k ≤ 10 ^ n := fun k hk => by
      have := smN_mono (tab := lkF g p W f n) (m := k) (n := 1000) hk
      omega
    have mul : m * 10 ^ n ≤ 100 * 10 ^ n := Nat.mul_le_mul_right _ (by omega)
    -- the first that is enough
    obtain ⟨K, kf, kl, ke, kb⟩ : ∃ K, fst (fun k => decide (m * 10 ^ n ≤ smN (lkF g p W f n) (k + 1) * 100)) 1000 = some K ∧ K < 1000 ∧ m * 10 ^ n ≤ smN (lkF g p W f n) (K + 1) * 100 ∧ True := by
      rcases fst_cases (fun k => decide (m * 10 ^ n ≤ smN (lkF g p W f n) (k + 1) * 100)) 1000 with ⟨_, q⟩ | ⟨i, q, q3, q4, _⟩
      · have := q 999 (by omega)
        rw [show 999 + 1 = 1000 from rfl, sum] at this
        simp only [decide_eq_false_iff_not] at this
        omega
      · exact ⟨i, q, q3, by simpa using q4, trivial⟩
    have cmp : ∀ k, k < 1000 → ((lN (smN (lkF g p W f n) (k + 1)) * 100 < lN m * lN (10 ^ n)) ↔ ¬ m * 10 ^ n ≤ smN (lkF g p W f n) (k + 1) * 100) := by
      intro k hk
      have := sle (k + 1) (by omega)
      rw [lL 100, lN_mul, lN_mul, pk_lLT (by omega) (by omega)]
      omega
    have ref : cI (d + 1) yM_bearing [.ref 159, .int (nI r), .int (nI p), .int (nI m)] s' M1 (same L (nI K)) := by
      have s2 := Scr_tr s1 (Scr_159 (M := M1) (k := 0) (v := 0) (by omega))
      have g2 := (Scr_c s2 (c := 160) (by decide)).trans a3
      have t2 := Scr_tr4 s2
      refine enM_bearing (noCh_0 (by omega) a3 a4.2 iT s2 hr hu' h40 q1 (by rw [hf]; exact q2) (br_t (by rw [hf]; exact c) ?_))
      rw [lL 0, lL 100]
      refine sp_within2 (by omega) (fun _ => br_f (by decide) ?_) (fun z => absurd ((wi_inI (by omega)).mpr hw') z)
      refine sp_laysBorne (f := f) (W := W) (by omega) g2 a4.2 hW hW10 hr (by rw [t2.2.1]; exact q1) (fun k hk => by rw [t2.2.2, ← hf]) n10 hv2 hp (fun M3 t3 o3 => ?_)
      have s3 := Scr_tr s2 (Scr_off o3 (by decide))
      have t4 := Scr_tr4 s3
      refine loop_fst (L := fun k => wM_bearing d 48 [.ref 159, .int (nI r), .null, .int (nI m), .null, .long (lN (smN (lkF g p W f n) k)), .null, .int (nI k)] [] s' M3 (same L (nI K))) (P := fun k => decide (m * 10 ^ n ≤ smN (lkF g p W f n) (k + 1) * 100)) (e := 1000) (K := fun w => same L (nI K) (oI w) s' M3) (by rw [kf]; exact ⟨rfl, Inv_Scr hI ok' s3⟩) ?_ ?_
      · intro h
        exact sgM_bearing_48 (br_t (by decide) h)
      · intro k hk k1 k2
        have ek : smN (lkF g p W f n) (k + 1) = smN (lkF g p W f n) k + lkF g p W f n k := rfl
        refine sgM_bearing_48 (br_f (by rw [lI 1000, nI_leP (by omega) (by omega)]; omega) ⟨vpI (by omega) (by omega), v4, ?_⟩)
        rw [nI_clamp (by omega), t4.2.1, q1]
        refine sp_tens (by omega) (by omega) ?_
        rw [nI_clamp (by omega), t3 k hk, lN_add, ← ek, nI_l (by omega), cmp k hk, nI_1]
        exact br_c (fun z => k2 (by simpa using z)) (fun z => k1 (by simpa using z))
    obtain ⟨d, rfl⟩ : ∃ e, d = e + 1 := ⟨d - 1, by omega⟩
    refine enO_leastFor ?_
    refine loop_fst (L := fun k => wO_leastFor d 5 [.ref 64, .int (nI m), .long (lN (smN (lkF g p W f n) k)), .null, .int (nI k)] [] s' M1 (fun r2 s3 M3 => cI (d + 1 + 1) yM_bearing [.ref 159, .int (nI r), .int (nI p), .int (nI m)] s3 M3 (same L r2))) (P := fun k => decide (m * 10 ^ n ≤ smN (lkF g p W f n) (k + 1) * 100)) (e := 1000) (K := fun w => w = some K ∧ cI (d + 1 + 1) yM_bearing [.ref 159, .int (nI r), .int (nI p), .int (nI m)] s' M1 (same L (nI K))) ⟨kf, ref⟩ ?_ ?_
    · intro h
      exact absurd h.1 (by simp)
    · intro k hk k1 k2
      have ek : smN (lkF g p W f n) (k + 1) = smN (lkF g p W f n) k + lkF g p W f n k := rfl
      refine sgO_leastFor_5 (br_f (by rw [lI 1000, nI_leP (by omega) (by omega)]; omega) ⟨c1, vpI (by omega) (by omega), ?_⟩)
      rw [nI_clamp (by omega), t1 k hk, lN_add, ← ek, nI_l (by omega), w1, cmp k hk, nI_1]
      refine br_c (fun z => k2 (by simpa using z)) (fun z => ?_)
      obtain ⟨y1, y2⟩ := k1 (by simpa using z)
      injection y1 with y1
      rw [y1]
      exact y2
