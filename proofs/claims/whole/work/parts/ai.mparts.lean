/-! the reference's laws' parser: its parts -/
def limO (o : Bool) : Nat := if o = true then 7 else 5
def okc (o : Bool) (c : Int32) : Prop := (c < 1000 → 0 ≤ c) ∧ (1000 ≤ c → c < 3000 → ∃ j : Nat, j < limO o ∧ c = nI (1000 + j))
def bnD (D : (Nat → Int32) → Int32) : Prop := ∀ w, (∀ i, i < 7 → bdC (w i)) → bdC (D w)
def inM (B : Nat → Nat) (n : Nat) (o : Bool) (x : PS) (a : Nat) (M : pm_M) : Prop := chM B n 0 x a M x a M ∧ M.1 159 15 = oB o
def gdM (o : Bool) (M : pm_M) (a b : Nat) (D : (Nat → Int32) → Int32) : Prop := mnM (fun k => M.1 163 (390 + k)) a b D ∧ (∀ k, a ≤ k → k < b → okc o (M.1 163 (390 + k))) ∧ bnD D
def pwM (B : Nat → Nat) (n : Nat) (o : Bool) (x : PS) (a : Nat) (M M' : pm_M) (y : PR) : Prop := ∃ b, chM B n 0 x a M y.1 b M' ∧ ∀ p', y.1 = .inr p' → gdM o M' a b y.2
def spM (B : Nat → Nat) (n : Nat) (o : Bool) (y dm r : Nat) (F : PS → PR) : Prop := ∀ (d : Nat) (s : pm_S) (M : pm_M) (x : PS) (a : Nat) (Q : pm_S → pm_M → Prop), dm ≤ d → inM B n o x a M → (∀ M', pwM B n o x a M M' (F x) → Q s M') → cV d y [.ref 159, .int (nI (6 - r))] s M Q
theorem spM_mo {B : Nat → Nat} {n y dm dm' r : Nat} {o : Bool} {F : PS → PR} (h : spM B n o y dm r F) (h1 : dm ≤ dm') : spM B n o y dm' r F :=
  fun d s M x a Q hd h0 hq => h d s M x a Q (by omega) h0 hq
theorem chM_in {B : Nat → Nat} {n c a b : Nat} {o : Bool} {x x1 : PS} {M M1 : pm_M} (h : chM B n c x a M x1 b M1) (h0 : inM B n o x a M) : inM B n o x1 b M1 :=
  ⟨chM_self h, by rw [h.1.2.2.1 15 (by decide) (by decide) (by decide) (by decide) (by decide) (by decide)]; exact h0.2⟩
theorem gdM_le {o : Bool} {M : pm_M} {a b : Nat} {D : (Nat → Int32) → Int32} (h : gdM o M a b D) : a ≤ b := h.1.1
theorem gdM_congr {o : Bool} {M M' : pm_M} {a b : Nat} {D : (Nat → Int32) → Int32} (h : gdM o M a b D) (he : ∀ k, k < b → M'.1 163 (390 + k) = M.1 163 (390 + k)) : gdM o M' a b D :=
  ⟨mnM_congr h.1 (fun k _ h2 => he k h2), fun k h1 h2 => by rw [he k h2]; exact h.2.1 k h1 h2, h.2.2⟩
theorem okc_op {o : Bool} {c : Int32} (h : 3000 ≤ c) : okc o c := ⟨fun z => by grind, fun _ z => by grind⟩
theorem gdM_bin {o : Bool} {M : pm_M} {a b e : Nat} {c : Int32} {D E : (Nat → Int32) → Int32} (h1 : gdM o M a b D) (h2 : gdM o M b e E) (hc : M.1 163 (390 + e) = c) (h3 : 3000 ≤ c) (h6 : c ≠ 3006) (h9 : c ≠ 3009) (hb : bnD (fun w => btw c (D w) (E w))) : gdM o M a (e + 1) (fun w => btw c (D w) (E w)) := by
  refine ⟨mnM_bin h1.1 h2.1 hc h3 h6 h9, fun k a1 a2 => ?_, hb⟩
  by_cases z : k < b
  · exact h1.2.1 k a1 z
  · by_cases z2 : k < e
    · exact h2.2.1 k (by omega) z2
    · obtain rfl : k = e := by omega
      rw [hc]; exact okc_op h3
theorem gdM_not {o : Bool} {M : pm_M} {a b : Nat} {D : (Nat → Int32) → Int32} (h1 : gdM o M a b D) (hc : M.1 163 (390 + b) = 3006) (hb : bnD (fun w => 1 - D w)) : gdM o M a (b + 1) (fun w => 1 - D w) := by
  refine ⟨mnM_not h1.1 hc, fun k a1 a2 => ?_, hb⟩
  by_cases z : k < b
  · exact h1.2.1 k a1 z
  · obtain rfl : k = b := by omega
    rw [hc]; exact okc_op (by decide)
theorem gdM_if {o : Bool} {M : pm_M} {a b e f : Nat} {D E F : (Nat → Int32) → Int32} (h1 : gdM o M a b D) (h2 : gdM o M b e E) (h3 : gdM o M e f F) (hc : M.1 163 (390 + f) = 3009) : gdM o M a (f + 1) (fun w => if D w = 1 then E w else F w) := by
  refine ⟨mnM_if h1.1 h2.1 h3.1 hc, fun k a1 a2 => ?_, fun w hw => ?_⟩
  · by_cases z : k < b
    · exact h1.2.1 k a1 z
    · by_cases z2 : k < e
      · exact h2.2.1 k (by omega) z2
      · by_cases z3 : k < f
        · exact h3.2.1 k (by omega) z3
        · obtain rfl : k = f := by omega
          rw [hc]; exact okc_op (by decide)
  · show bdC (if D w = 1 then E w else F w)
    split
    · exact h2.2.2 w hw
    · exact h3.2.2 w hw
theorem bd_cl {v : Int64} : bdC (clI v) := by
  have e1 : (-1000000 : Int32).toInt = -1000000 := by decide
  have e2 : (1000000 : Int32).toInt = 1000000 := by decide
  have e3 : (-1000000 : Int64).toInt = -1000000 := by decide
  have e4 : (1000000 : Int64).toInt = 1000000 := by decide
  unfold clI bdC
  split
  · rename_i h1
    split
    · rename_i h2
      rw [Int64.le_iff_toInt_le] at h1 h2
      rw [e3] at h2
      rw [e4] at h1
      rw [Int32.le_iff_toInt_le, Int32.le_iff_toInt_le, e1, e2, Int64.toInt_toInt32]
      have : v.toInt.bmod (2 ^ 32) = v.toInt := Int.bmod_eq_of_le (by omega) (by omega)
      rw [this]
      exact ⟨h2, h1⟩
    · decide
  · decide
theorem bd_01 {v : Int32} (h : is01 v) : bdC v := by
  rcases h with rfl | rfl
  · exact bd_nI (k := 0) (by omega)
  · exact bd_nI (k := 1) (by omega)
theorem tk_end {B : Nat → Nat} {n : Nat} : tK B n n = 129 := by
  obtain ⟨z1, z2, z3, z4⟩ := adv_spec (P := isBl B) (n := n) _ n rfl (Nat.le_refl _)
  unfold tK tkF
  rw [if_pos z1]
theorem lp_M {B : Nat → Nat} {n y dm r a d : Nat} {o : Bool} {x : PS} {M0 : pm_M} {s : pm_S} {F : PS → PR} {ops : Nat → Option Int32} {V : Int32 → Prop} {Q W : pm_S → pm_M → Prop}
    (hF : spM B n o y dm r F) (hd : dm ≤ d) (h1 : 1 ≤ d) (hV : ∀ x w, V ((F x).2 w)) (h0 : inM B n o x a M0) (hO : ops 129 = none) (hO2 : ops 131 = none)
    (hJ : ∀ k c, ops k = some c → 3000 ≤ c ∧ c ≠ 3006 ∧ c ≠ 3009 ∧ ∀ u v, V u → V v → V (btw c u v) ∧ bdC (btw c u v))
    (hW : ∀ M z, tpM B n M → MAt B n z (M.1 159) → (ops (kiF B n z) = none → Q s M) → (∀ c, ops (kiF B n z) = some c → ∀ R', MAt B n (nxF B n z) R' → mdK (M.1 159) R' → cV d y [.ref 159, .int (nI (6 - r))] s (pm_ri M 159 R') (fun s2 M2 => cV d yM_codes [.ref 159, .int c] s2 M2 (fun s3 M3 => W s3 M3))) → W s M) :
    ∀ f M (z : PR), (∀ p, z.1 = .inr p → n ≤ p + f) → pwM B n o x a M0 M z → (∀ w, V (z.2 w)) → (∀ M', pwM B n o x a M0 M' (lpF B n ops F f z) → Q s M') → W s M := by
  intro f
  induction f with
  | zero =>
    intro M z hf hz hv hqq
    have hz' := hz
    obtain ⟨b, ch, al⟩ := hz
    have no : ops (kiF B n z.1) = none := by
      cases e : z.1 with
      | inl g => exact hO2
      | inr p =>
        have h2 := hf p e
        have h3 := MAt_n ch.2.2.1 p e
        obtain rfl : p = n := by omega
        show ops (tK B p p) = none
        rw [tk_end]; exact hO
    exact hW M z.1 ch.2.1 ch.2.2.1 (fun _ => hqq M hz') (fun c e => by rw [no] at e; cases e)
  | succ f ih =>
    intro M z hf hz hv hqq
    have hz' := hz
    obtain ⟨b, ch, al⟩ := hz
    unfold lpF at hqq
    refine hW M z.1 ch.2.1 ch.2.2.1 (fun e => ?_) (fun c e R' m1 m2 => ?_)
    · simp only [e] at hqq
      exact hqq M hz'
    · simp only [e] at hqq
      obtain ⟨j1, j2, j3, j4⟩ := hJ _ _ e
      have k9 : kiF B n z.1 ≠ 129 := fun h => by rw [h, hO] at e; cases e
      have k31 : kiF B n z.1 ≠ 131 := fun h => by rw [h, hO2] at e; cases e
      obtain ⟨c1, s1⟩ := chM_nx ch k9 k31 m1 m2
      refine hF d s _ (nxF B n z.1) b _ hd (chM_in c1 h0) (fun M2 w2 => ?_)
      obtain ⟨e2, c2, al2⟩ := w2
      have kk := chM_tr c1 c2
      refine sp_coM (c := 0) h1 kk (fun M3 b3 c4 k2 => ?_)
      have hpos := nx_pos (fun k hk => (ch.2.1.2 k hk).2) (MAt_n ch.2.2.1) k9 k31
      refine ih M3 ((F (nxF B n z.1)).1, fun w => btw c (z.2 w) ((F (nxF B n z.1)).2 w)) (fun p' ep => ?_) ⟨b3, c4, fun p' ep => ?_⟩ (fun w => (j4 _ _ (hv w) (hV _ w)).1) hqq
      · have ep2 : (F (nxF B n z.1)).1 = .inr p' := ep
        obtain ⟨p0, e0⟩ := ki_al k31
        have f0 := hf p0 e0
        have z3 := c2.2.2.1
        have z7 := c2.2.2.2.2.2.2.1
        rw [ep2] at z3 z7
        have z8 := (z7 (MAt_0 z3)).2.2.1
        have z9 := (z7 (MAt_0 z3)).2.1
        have z10 := c2.2.2.2.2.1
        rw [e0] at hpos z8 z9
        have q1 : posX (.inr p0) = p0 := rfl
        have q2 : posX (.inr p') = p' := rfl
        rw [q1] at hpos
        rw [q2] at z8
        omega
      · obtain ⟨eb, lb, v3, r3⟩ := k2 p' ep
        obtain ⟨p1, ep1, x3⟩ := chM_al c2 ep
        obtain ⟨p0, ep0, y3⟩ := chM_al s1 ep1
        subst eb
        have g1 := al p0 ep0
        have g2 := al2 p' ep
        have l2 := gdM_le g2
        refine gdM_bin (c := c) (gdM_congr g1 (fun k hk => by rw [r3 k (by omega), x3 k hk, y3 k hk])) (gdM_congr g2 (fun k hk => r3 k hk)) v3 j1 j2 j3 (fun w hw => (j4 _ _ (hv w) (hV _ w)).2)
theorem te_M {B : Nat → Nat} {n dm r : Nat} {o : Bool} {sm tr : PS → PR} (h4 : 4 ≤ dm) (hF : spM B n o yM_readAtom dm r (atF B n o r sm tr)) : spM B n o yM_readTerm (dm + 1) r (teF B n o r sm tr) := by
  intro d s M x a Q hd h0 hq
  obtain ⟨d, rfl⟩ : ∃ e, d = e + 1 := ⟨d - 1, by omega⟩
  refine enM_readTerm (hF d s M x a _ (by omega) h0 (fun M1 w1 => ?_))
  refine lp_M (ops := opT) (V := fun _ => True) (Q := Q) (W := fun s M => wM_readTerm d 5 [.ref 159, .int (nI (6 - r))] [] s M Q) hF (d := d) (by omega) (by omega) (fun _ _ => trivial) h0 rfl rfl
    (fun k c e => by obtain ⟨rfl, rfl⟩ := opT_c e; exact ⟨by decide, by decide, by decide, fun u v _ _ => ⟨trivial, by rw [← bj_4]; exact bd_cl⟩⟩)
    (fun M z t1 t2 k1 k2 => ?_) 900 M1 _ (fun p _ => by have := h0.1.2.1.1; omega) w1 (fun _ => trivial) hq
  refine sgM_readTerm_5 (sp_eatsX (w := 42) (m := 34) (by omega) t1 (by decide) (by decide) (by decide) t2 (fun e R' a1 a2 => br_f (by decide) (k2 3002 (by rw [e]; rfl) R' a1 a2)) (fun e => br_t rfl (k1 (by unfold opT; rw [if_neg e]))))
theorem bo_M {B : Nat → Nat} {n dm r : Nat} {o : Bool} {sm tr un : PS → PR} (h4 : 4 ≤ dm) (hF : spM B n o yM_readUnit dm r (unF B n o r sm tr un)) (hV : ∀ x w, is01 ((unF B n o r sm tr un x).2 w)) : spM B n o yM_readBoth (dm + 1) r (boF B n o r sm tr un) := by
  intro d s M x a Q hd h0 hq
  obtain ⟨d, rfl⟩ : ∃ e, d = e + 1 := ⟨d - 1, by omega⟩
  refine enM_readBoth (hF d s M x a _ (by omega) h0 (fun M1 w1 => ?_))
  refine lp_M (ops := opA) (V := is01) (Q := Q) (W := fun s M => wM_readBoth d 5 [.ref 159, .int (nI (6 - r))] [] s M Q) hF (d := d) (by omega) (by omega) hV h0 rfl rfl
    (fun k c e => by obtain ⟨rfl, rfl⟩ := opA_c2 e; exact ⟨by decide, by decide, by decide, fun u v hu hv => ⟨(bj_8 hu hv).2, bd_01 (bj_8 hu hv).2⟩⟩)
    (fun M z t1 t2 k1 k2 => ?_) 900 M1 _ (fun p _ => by have := h0.1.2.1.1; omega) w1 (fun w => hV _ w) hq
  refine sgM_readBoth_5 (sp_eatsX (w := 219) (m := 18) (by omega) t1 (by decide) (by decide) (by decide) t2 (fun e R' a1 a2 => br_f (by decide) (k2 3007 (by rw [e]; rfl) R' a1 a2)) (fun e => br_t rfl (k1 (by unfold opA; rw [if_neg e]))))
theorem tu_M {B : Nat → Nat} {n dm r : Nat} {o : Bool} {sm tr un : PS → PR} (h4 : 4 ≤ dm) (hF : spM B n o yM_readBoth dm r (boF B n o r sm tr un)) (hV : ∀ x w, is01 ((boF B n o r sm tr un x).2 w)) : spM B n o yM_readTruth (dm + 1) r (tuF B n o r sm tr un) := by
  intro d s M x a Q hd h0 hq
  obtain ⟨d, rfl⟩ : ∃ e, d = e + 1 := ⟨d - 1, by omega⟩
  refine enM_readTruth (hF d s M x a _ (by omega) h0 (fun M1 w1 => ?_))
  refine lp_M (ops := opO) (V := is01) (Q := Q) (W := fun s M => wM_readTruth d 5 [.ref 159, .int (nI (6 - r))] [] s M Q) hF (d := d) (by omega) (by omega) hV h0 rfl rfl
    (fun k c e => by obtain ⟨rfl, rfl⟩ := opO_c2 e; exact ⟨by decide, by decide, by decide, fun u v hu hv => ⟨(bj_9 hu hv).2, bd_01 (bj_9 hu hv).2⟩⟩)
    (fun M z t1 t2 k1 k2 => ?_) 900 M1 _ (fun p _ => by have := h0.1.2.1.1; omega) w1 (fun w => hV _ w) hq
  refine sgM_readTruth_5 (sp_eatsX (w := 220) (m := 19) (by omega) t1 (by decide) (by decide) (by decide) t2 (fun e R' a1 a2 => br_f (by decide) (k2 3008 (by rw [e]; rfl) R' a1 a2)) (fun e => br_t rfl (k1 (by unfold opO; rw [if_neg e]))))
theorem su_M {B : Nat → Nat} {n dm r : Nat} {o : Bool} {sm tr : PS → PR} (h4 : 4 ≤ dm) (hF : spM B n o yM_readTerm dm r (teF B n o r sm tr)) : spM B n o yM_readSum (dm + 1) r (suF B n o r sm tr) := by
  intro d s M x a Q hd h0 hq
  obtain ⟨d, rfl⟩ : ∃ e, d = e + 1 := ⟨d - 1, by omega⟩
  refine enM_readSum (hF d s M x a _ (by omega) h0 (fun M1 w1 => ?_))
  refine lp_M (ops := opS) (V := fun _ => True) (Q := Q) (W := fun s M => wM_readSum d 5 [.ref 159, .int (nI (6 - r)), .null] [] s M Q) hF (d := d) (by omega) (by omega) (fun _ _ => trivial) h0 rfl rfl
    (fun k c e => by
      rcases opS_c e with ⟨rfl, rfl⟩ | ⟨rfl, rfl⟩
      · exact ⟨by decide, by decide, by decide, fun u v _ _ => ⟨trivial, by rw [← bj_2]; exact bd_cl⟩⟩
      · exact ⟨by decide, by decide, by decide, fun u v _ _ => ⟨trivial, by rw [← bj_3]; exact bd_cl⟩⟩)
    (fun M z t1 t2 k1 k2 => ?_) 900 M1 _ (fun p _ => by have := h0.1.2.1.1; omega) w1 (fun _ => trivial) hq
  have go : ∀ (w m : Nat) (c : Int32), w ≠ 131 → kiF B n z = w → opS w = some c → rkK w = m → m < 100 → ((if nI m = 32 then 3000 else 3001) : Int32) = c → wM_readSum d 23 [.ref 159, .int (nI (6 - r)), .null] [] s M Q := by
    intro w m c h131 e ec em lm ecc
    refine sgM_readSum_23 ?_
    obtain ⟨p, ep⟩ := ki_al (B := B) (n := n) (x := z) (by rw [e]; exact h131)
    subst ep
    have e9 : M.1 159 9 = nI m := by
      have := t2.2.2.2.2.1
      rw [this]
      have e' : tK B n p = w := e
      rw [e', em]
    rw [e9, ecc]
    exact sp_nextX (by omega) t1 t2 (fun R' a1 a2 => k2 c (by rw [e]; exact ec) R' a1 a2)
  refine sgM_readSum_5 (sp_isX (w := 43) (m := 32) (by omega) t1 (by decide) (by decide) (by decide) t2 (fun e => br_f (by decide) ?_) (fun e => br_t rfl (sp_isX (w := 45) (m := 33) (by omega) t1 (by decide) (by decide) (by decide) t2 (fun e2 => br_f (by decide) ?_) (fun e2 => br_t rfl (k1 (by unfold opS; rw [if_neg e, if_neg e2]))))))
  · exact go 43 32 3000 (by decide) e rfl (by decide) (by omega) (by decide)
  · exact go 45 33 3001 (by decide) e2 rfl (by decide) (by omega) (by decide)
