/-! the class's laws' parser: its parts -/
def oB (o : Bool) : Int32 := if o = true then 1 else 0
def inC (B : Nat → Nat) (n : Nat) (o : Bool) (r : Nat) (x : PS) (a : Nat) (M : pm_M) : Prop := chC B n 0 x a M x a M ∧ ∀ p, x = .inr p → M.1 1 10 = nI (6 - r) ∧ M.1 1 11 = oB o
def pwC (B : Nat → Nat) (n : Nat) (x : PS) (a q : Nat) (M M' : pm_M) (y : PR) : Prop := ∃ b, chC B n 0 x a M y.1 b M' ∧ ∀ p', y.1 = .inr p' → M'.1 1 10 = M.1 1 10 ∧ mcC (M'.1 11) a b q y.2
def spC (B : Nat → Nat) (n : Nat) (o : Bool) (y dm r q : Nat) (F : PS → PR) : Prop := ∀ (d : Nat) (s : pm_S) (M : pm_M) (x : PS) (a : Nat) (Q : pm_S → pm_M → Prop), dm ≤ d → inC B n o r x a M → (∀ M', pwC B n x a q M M' (F x) → Q s M') → cV d y [.ref 1] s M Q
theorem chC_in {B : Nat → Nat} {n c a b r : Nat} {o : Bool} {x x1 : PS} {M M1 : pm_M} (h : chC B n c x a M x1 b M1) (h0 : inC B n o r x a M) (hn : ∀ p1, x1 = .inr p1 → M1.1 1 10 = M.1 1 10) : inC B n o r x1 b M1 := by
  refine ⟨chC_self h, fun p1 e1 => ?_⟩
  obtain ⟨h1, h2, h3, h4, h5, h6, h7⟩ := h
  obtain ⟨p, e0, m1, m2, m3⟩ := h7 p1 e1
  obtain ⟨i1, i2⟩ := h0.2 p e0
  exact ⟨by rw [hn p1 e1, i1], by rw [h1.2.2.1 11 (by decide) (by decide) (by decide) (by decide) (by decide) (by decide) (by decide), i2]⟩
theorem lp_C {B : Nat → Nat} {n y dm r q q' a d : Nat} {o : Bool} {x : PS} {M0 : pm_M} {s : pm_S} {F : PS → PR} {ops : Nat → Option Int32} {jo : Nat → Nat} {V : Int32 → Prop} {Q : pm_S → pm_M → Prop} {W : Nat → pm_S → pm_M → Prop}
    (hF : spC B n o y dm r q F) (hd : dm ≤ d) (h4 : 4 ≤ d) (hq : q + 1 ≤ q') (hV : ∀ x w, V ((F x).2 w)) (h0 : inC B n o r x a M0)
    (hJ : ∀ k c, ops k = some c → k ≠ 129 ∧ 2 ≤ jo k ∧ jo k < 10 ∧ ∀ u v, V u → V v → bj (nI (jo k)) u v = btw c u v ∧ V (btw c u v))
    (h900 : ∀ M, Q s M → W 900 s M)
    (hW : ∀ i M k, i < 900 → M.1 1 7 = nI k → k < 256 → (ops k = none → Q s M) → (∀ c, ops k = some c → cV d yR_step [.ref 1] s M (fun s1 M1 => cV d y [.ref 1] s1 M1 (fun s2 M2 => cI d yW_add [.ref 10, .int (nI (jo k)), .int 0] s2 M2 (fun _ s3 M3 => W (i + 1) s3 M3)))) → W i s M) :
    ∀ f i M (z : PR), i + f = 900 → pwC B n x a q' M0 M z → (∀ w, V (z.2 w)) → (∀ M', pwC B n x a q' M0 M' (lpF B n ops F f z) → Q s M') → W i s M := by
  intro f
  induction f with
  | zero =>
    intro i M z hi hz hv hqq
    obtain rfl : i = 900 := by omega
    exact h900 M (hqq M hz)
  | succ f ih =>
    intro i M z hi hz hv hqq
    have hz' := hz
    obtain ⟨b, ch, al⟩ := hz
    obtain ⟨e7, l7⟩ := CAt_k (fun k hk => (ch.2.1.2 k hk).2) ch.2.2.1
    unfold lpF at hqq
    refine hW i M (kiF B n z.1) (by omega) e7 l7 (fun e => ?_) (fun c e => ?_)
    · simp only [e] at hqq
      exact hqq M hz'
    · simp only [e] at hqq
      obtain ⟨j1, j2, j3, j4⟩ := hJ _ _ e
      refine sp_stC h4 ch j1 (fun M1 c1 s1 n1 => ?_)
      have i1 : inC B n o r (nxF B n z.1) b M1 := chC_in c1 h0 (fun p1 e1 => by
        obtain ⟨p, e0, _⟩ := s1.2.2.2.2.2.2 p1 e1
        rw [n1, (al p e0).1])
      refine hF d s M1 (nxF B n z.1) b _ hd i1 (fun M2 w2 => ?_)
      obtain ⟨e2, c2, al2⟩ := w2
      have c3 : chC B n (0 + 1 + 0) x a M0 (F (nxF B n z.1)).1 e2 M2 := chC_tr c1 c2
      refine sp_addC (c := 0) (by omega) c3 (fun M3 b3 c4 k1 k2 => ?_)
      refine ih (i + 1) M3 ((F (nxF B n z.1)).1, fun w => btw c (z.2 w) ((F (nxF B n z.1)).2 w)) (by omega) ⟨b3, c4, fun p' ep => ?_⟩ (fun w => (j4 _ _ (hv w) (hV _ w)).2) hqq
      obtain ⟨eb, lb, e11⟩ := k2 p' ep
      obtain ⟨a1, a2⟩ := al2 p' ep
      obtain ⟨p1, ep1, x1, x2, x3⟩ := c2.2.2.2.2.2.2 p' ep
      obtain ⟨p0, ep0, y1, y2, y3⟩ := s1.2.2.2.2.2.2 p1 ep1
      obtain ⟨z1, z2⟩ := al p0 ep0
      refine ⟨by rw [k1, a1, n1, z1], ?_⟩
      subst eb
      have l2 := mcC_le a2
      have l1 := mcC_le z2
      refine mcC_bin (k := nI (jo (kiF B n z.1))) (p := q') (q := q) (mcC_congr z2 (fun k h1 h2 => ?_)) (mcC_congr a2 (fun k h1 h2 => ?_)) (Nat.le_refl _) hq ?_ ?_ ?_ ?_ ?_ (fun w => (j4 _ _ (hv w) (hV _ w)).1)
      · rw [e11, row_ne (by omega), x3 k h2, y3 k h2]
      · rw [e11, row_ne (by omega)]
      · rw [e11, row_eq]
        exact (st_op _ (by omega)).1
      · rw [lI 1, nI_ltP (by omega) (by omega)]; omega
      · rw [lI 10, ne_eq, nI_inj (by omega) (by omega)]; omega
      · rw [lI 11, ne_eq, nI_inj (by omega) (by omega)]; omega
      · rw [lI 12, ne_eq, nI_inj (by omega) (by omega)]; omega
theorem opT_c {k : Nat} {c : Int32} (h : opT k = some c) : k = 42 ∧ c = 3002 := by
  unfold opT at h
  by_cases c1 : k = 42
  · rw [if_pos c1] at h; cases h; exact ⟨c1, rfl⟩
  · rw [if_neg c1] at h; cases h
theorem opS_c {k : Nat} {c : Int32} (h : opS k = some c) : (k = 43 ∧ c = 3000) ∨ (k = 45 ∧ c = 3001) := by
  unfold opS at h
  by_cases c1 : k = 43
  · rw [if_pos c1] at h; cases h; exact Or.inl ⟨c1, rfl⟩
  · rw [if_neg c1] at h
    by_cases c2 : k = 45
    · rw [if_pos c2] at h; cases h; exact Or.inr ⟨c2, rfl⟩
    · rw [if_neg c2] at h; cases h
theorem opA_c2 {k : Nat} {c : Int32} (h : opA k = some c) : k = 219 ∧ c = 3007 := by
  unfold opA at h
  by_cases c1 : k = 219
  · rw [if_pos c1] at h; cases h; exact ⟨c1, rfl⟩
  · rw [if_neg c1] at h; cases h
theorem opO_c2 {k : Nat} {c : Int32} (h : opO k = some c) : k = 220 ∧ c = 3008 := by
  unfold opO at h
  by_cases c1 : k = 220
  · rw [if_pos c1] at h; cases h; exact ⟨c1, rfl⟩
  · rw [if_neg c1] at h; cases h
theorem te_C {B : Nat → Nat} {n dm r q : Nat} {o : Bool} {sm tr : PS → PR} (h4 : 4 ≤ dm) (hF : spC B n o yR_readAtom dm r q (atF B n o r sm tr)) : spC B n o yR_readTerm (dm + 1) r (q + 1) (teF B n o r sm tr) := by
  intro d s M x a Q hd h0 hq
  obtain ⟨d, rfl⟩ : ∃ e, d = e + 1 := ⟨d - 1, by omega⟩
  refine enR_readTerm (hF d s M x a _ (by omega) h0 (fun M1 w1 => ?_))
  obtain ⟨b, c1, al⟩ := w1
  have run := lp_C (s := s) (q' := q + 1) (ops := opT) (jo := fun _ => 4) (V := fun _ => True) (Q := Q) (W := fun i s M => wR_readTerm d 6 [.ref 1, .int (nI i)] [] s M Q) hF (d := d) (by omega) (by omega) (Nat.le_refl _) (fun _ _ => trivial) h0
    (fun k c e => by obtain ⟨rfl, rfl⟩ := opT_c e; exact ⟨by decide, by omega, by omega, fun u v _ _ => ⟨bj_4, trivial⟩⟩)
    (fun M h => sgR_readTerm_6 (br_t (by decide) h))
    (fun i M k hi e7 l7 k1 k2 => by
      refine sgR_readTerm_6 (br_f (by rw [lI 900, nI_leP (by omega) (by omega)]; omega) ?_)
      rw [e7, lI 42, nI_inj (by omega) (by omega)]
      refine br_c (fun z => ?_) (fun z => k1 (by unfold opT; rw [if_neg z]))
      have := k2 3002 (by unfold opT; rw [if_pos z])
      rw [nI_1]
      exact this)
  exact run 900 0 M1 _ (by omega) ⟨b, c1, fun p' ep => ⟨(al p' ep).1, mcC_mo (al p' ep).2 (by omega)⟩⟩ (fun _ => trivial) hq
theorem su_C {B : Nat → Nat} {n dm r q : Nat} {o : Bool} {sm tr : PS → PR} (h4 : 4 ≤ dm) (hF : spC B n o yR_readTerm dm r q (teF B n o r sm tr)) : spC B n o yR_readSum (dm + 1) r (q + 1) (suF B n o r sm tr) := by
  intro d s M x a Q hd h0 hq
  obtain ⟨d, rfl⟩ : ∃ e, d = e + 1 := ⟨d - 1, by omega⟩
  refine enR_readSum (hF d s M x a _ (by omega) h0 (fun M1 w1 => ?_))
  obtain ⟨b, c1, al⟩ := w1
  have run := lp_C (s := s) (q' := q + 1) (ops := opS) (jo := fun k => if k = 43 then 2 else 3) (V := fun _ => True) (Q := Q) (W := fun i s M => wR_readSum d 6 [.ref 1, .int (nI i), .null] [] s M Q) hF (d := d) (by omega) (by omega) (Nat.le_refl _) (fun _ _ => trivial) h0
    (fun k c e => by
      rcases opS_c e with ⟨rfl, rfl⟩ | ⟨rfl, rfl⟩
      · exact ⟨by decide, by decide, by decide, fun u v _ _ => ⟨bj_2, trivial⟩⟩
      · exact ⟨by decide, by decide, by decide, fun u v _ _ => ⟨bj_3, trivial⟩⟩)
    (fun M h => sgR_readSum_6 (br_t (by decide) h))
    (fun i M k hi e7 l7 k1 k2 => by
      refine sgR_readSum_6 (br_f (by rw [lI 900, nI_leP (by omega) (by omega)]; omega) ?_)
      rw [e7]
      simp only [lI 43, lI 45, nI_inj (a := k) (b := 43) (by omega) (by omega), nI_inj (a := k) (b := 45) (by omega) (by omega)]
      refine br_c (fun z => ?_) (fun z => br_c (fun z2 => ?_) (fun z2 => k1 (by unfold opS; rw [if_neg z, if_neg z2])))
      · rw [if_pos z]
        refine sgR_readSum_45 ?_
        have := k2 3000 (by unfold opS; rw [if_pos z])
        rw [if_pos z] at this
        rw [nI_1]
        exact this
      · rw [if_neg z]
        refine sgR_readSum_45 ?_
        have := k2 3001 (by unfold opS; rw [if_neg z, if_pos z2])
        rw [if_neg z] at this
        rw [nI_1]
        exact this)
  exact run 900 0 M1 _ (by omega) ⟨b, c1, fun p' ep => ⟨(al p' ep).1, mcC_mo (al p' ep).2 (by omega)⟩⟩ (fun _ => trivial) hq
theorem bo_C {B : Nat → Nat} {n dm r q : Nat} {o : Bool} {sm tr un : PS → PR} (h4 : 4 ≤ dm) (hF : spC B n o yR_readUnit dm r q (unF B n o r sm tr un)) (hV : ∀ x w, is01 ((unF B n o r sm tr un x).2 w)) : spC B n o yR_readBoth (dm + 1) r (q + 1) (boF B n o r sm tr un) := by
  intro d s M x a Q hd h0 hq
  obtain ⟨d, rfl⟩ : ∃ e, d = e + 1 := ⟨d - 1, by omega⟩
  refine enR_readBoth (hF d s M x a _ (by omega) h0 (fun M1 w1 => ?_))
  obtain ⟨b, c1, al⟩ := w1
  have run := lp_C (s := s) (q' := q + 1) (ops := opA) (jo := fun _ => 8) (V := is01) (Q := Q) (W := fun i s M => wR_readBoth d 6 [.ref 1, .int (nI i)] [] s M Q) hF (d := d) (by omega) (by omega) (Nat.le_refl _) hV h0
    (fun k c e => by obtain ⟨rfl, rfl⟩ := opA_c2 e; exact ⟨by decide, by omega, by omega, fun u v hu hv => bj_8 hu hv⟩)
    (fun M h => sgR_readBoth_6 (br_t (by decide) h))
    (fun i M k hi e7 l7 k1 k2 => by
      refine sgR_readBoth_6 (br_f (by rw [lI 900, nI_leP (by omega) (by omega)]; omega) ?_)
      rw [e7, lI 219, nI_inj (by omega) (by omega)]
      refine br_c (fun z => ?_) (fun z => k1 (by unfold opA; rw [if_neg z]))
      have := k2 3007 (by unfold opA; rw [if_pos z])
      rw [nI_1]
      exact this)
  exact run 900 0 M1 _ (by omega) ⟨b, c1, fun p' ep => ⟨(al p' ep).1, mcC_mo (al p' ep).2 (by omega)⟩⟩ (fun w => hV _ w) hq
theorem tu_C {B : Nat → Nat} {n dm r q : Nat} {o : Bool} {sm tr un : PS → PR} (h4 : 4 ≤ dm) (hF : spC B n o yR_readBoth dm r q (boF B n o r sm tr un)) (hV : ∀ x w, is01 ((boF B n o r sm tr un x).2 w)) : spC B n o yR_readTruth (dm + 1) r (q + 1) (tuF B n o r sm tr un) := by
  intro d s M x a Q hd h0 hq
  obtain ⟨d, rfl⟩ : ∃ e, d = e + 1 := ⟨d - 1, by omega⟩
  refine enR_readTruth (hF d s M x a _ (by omega) h0 (fun M1 w1 => ?_))
  obtain ⟨b, c1, al⟩ := w1
  have run := lp_C (s := s) (q' := q + 1) (ops := opO) (jo := fun _ => 9) (V := is01) (Q := Q) (W := fun i s M => wR_readTruth d 6 [.ref 1, .int (nI i)] [] s M Q) hF (d := d) (by omega) (by omega) (Nat.le_refl _) hV h0
    (fun k c e => by obtain ⟨rfl, rfl⟩ := opO_c2 e; exact ⟨by decide, by omega, by omega, fun u v hu hv => bj_9 hu hv⟩)
    (fun M h => sgR_readTruth_6 (br_t (by decide) h))
    (fun i M k hi e7 l7 k1 k2 => by
      refine sgR_readTruth_6 (br_f (by rw [lI 900, nI_leP (by omega) (by omega)]; omega) ?_)
      rw [e7, lI 220, nI_inj (by omega) (by omega)]
      refine br_c (fun z => ?_) (fun z => k1 (by unfold opO; rw [if_neg z]))
      have := k2 3008 (by unfold opO; rw [if_pos z])
      rw [nI_1]
      exact this)
  exact run 900 0 M1 _ (by omega) ⟨b, c1, fun p' ep => ⟨(al p' ep).1, mcC_mo (al p' ep).2 (by omega)⟩⟩ (fun w => hV _ w) hq
