/-! a line, the reference -/
theorem MAt_15 {B : Nat → Nat} {n : Nat} {x : PS} {R : Nat → Int32} {v : Int32} (h : MAt B n x R) : MAt B n x (pm_row R 15 v) := by
  cases x with
  | inl f =>
    obtain ⟨h8, g1, g2, g3, h⟩ := h
    refine ⟨by rw [row_ne (by decide), h8], g1, g2, g3, ?_⟩
    rcases h with ⟨a, b⟩ | ⟨a, b, c, e⟩
    · exact Or.inl ⟨by rw [row_ne (by decide), a], by rw [row_ne (by decide), b]⟩
    · exact Or.inr ⟨a, by rw [row_ne (by decide), b], by rw [row_ne (by decide), c], by rw [row_ne (by decide), e]⟩
  | inr p =>
    obtain ⟨h8, hp, hk, h11, h9, h6, h7, h10⟩ := h
    exact ⟨by rw [row_ne (by decide), h8], hp, hk, by rw [row_ne (by decide), h11], by rw [row_ne (by decide), h9], by rw [row_ne (by decide), h6], by rw [row_ne (by decide), h7], fun e => by rw [row_ne (by decide), h10 e]⟩
theorem chM_15 {B : Nat → Nat} {n a : Nat} {x : PS} {M : pm_M} {v : Int32} (h : chM B n 0 x a M x a M) : chM B n 0 x a (pm_si M 159 15 v) x a (pm_si M 159 15 v) := by
  obtain ⟨h1, h2, h3, h4, h5, h6, h7, h8⟩ := h
  refine ⟨mK_rf, ⟨h2.1, fun k hk => by rw [si_ne (by decide)]; exact h2.2 k hk⟩, by rw [si_eq]; exact MAt_15 h3, by rw [si_ne (by decide)]; exact h4, h5, h6, fun z => ⟨z, ?_, by omega, fun _ _ => rfl⟩, h8⟩
  rw [si_eq, row_ne (by decide)] at z
  exact (h7 z).2.1
theorem fM_mK {M M' : pm_M} (h : mK M M') : fM M M' := ⟨h.1, h.2.1, fun k a b c d e f _ => h.2.2.1 k a b c d e f⟩
theorem la_M {d : Nat} {s : pm_S} {M0 M : pm_M} {B : Nat → Nat} {n a p law : Nat} {o : Bool} {x : PS} {g : RW} {l0 l1 : LWD} {Q : pm_S → pm_M → Prop} (hd : 62 ≤ d) (h : sM B n M0 M x g a l0 l1) (hx : x = .inr p) (hap : a ≤ p) (hk : kiF B n x ≠ 129) (hlaw : law = if o = true then 1 else 0)
    (hq : ∀ M' b, sM B n M0 M' (lwF B n o x).1 g b (if o = true then l0 else some (lwF B n o x).2) (if o = true then some (lwF B n o x).2 else l1) → (∀ p', (lwF B n o x).1 = .inr p' → b ≤ p' ∧ p ≤ p') → Q s M') : cV d yM_readLaw [.ref 159, .int (nI law)] s M Q := by
  obtain ⟨d, rfl⟩ : ∃ e, d = e + 1 := ⟨d - 1, by omega⟩
  obtain ⟨f0, t0, c0, al0⟩ := h
  have hT := al0 p hx
  have hl2 : law < 2 := by rw [hlaw]; split <;> omega
  have hk2 : kiF B n x ≠ 131 := by rw [hx] at c0 ⊢; exact c0.2.2.1
  have px : posX x = p := by rw [hx]; rfl
  have s0 : chM B n 0 x a M x a M := ⟨mK_rf, t0, c0, hT.2.1, Nat.le_refl _, hT.2.2.1, fun z => ⟨z, by omega, by omega, fun _ _ => rfl⟩, fun p' e => ⟨p', e⟩⟩
  refine enM_readLaw (sp_nxM (by omega) s0 hk hk2 (fun M2 c2 s2 z2 => ?_))
  refine sp_efM (w := 58) (m := 31) (K := fun s3 M3 => wM_readLaw d 18 [.ref 159, .int (nI law), .null] [] s3 M3 Q) (by omega) c2 (by decide) (by decide) (by decide) (by decide) (fun M3 c3 s3 => ?_)
  refine sgM_readLaw_18 ?_
  have z3 : M3.1 163 389 = nI a := c3.2.2.2.1
  rw [z3]
  have i3 : inM B n o (exF B n 58 (nxF B n x)) a (pm_si M3 159 15 (nI law)) := ⟨chM_15 (chM_self c3), by
    rw [si_eq, row_eq, hlaw]
    cases o <;> rfl⟩
  have k3 := c3.1
  refine (lev_M 6 (Nat.le_refl _)).1 d s _ _ a _ (by omega) i3 (fun M4 w4 => ?_)
  obtain ⟨b, c4, al4⟩ := w4
  have z4 : M4.1 163 389 = nI b := c4.2.2.2.1
  have lab : a ≤ b := c4.2.2.2.2.1
  have lb9 : b ≤ 900 := c4.2.2.2.2.2.1
  have k4 := c4.1
  have f4 : fM M M4 := by
    refine fM_tr (fM_mK k3) (fM_tr ?_ (fM_mK k4))
    exact ⟨fun c h1 _ => si_ne h1, rfl, fun k _ _ _ _ _ _ k15 => by rw [si_eq, row_ne k15]⟩
  have hle : ∀ p', (lwF B n o x).1 = .inr p' → b ≤ p' ∧ p ≤ p' := fun p' e => by
    have e : ((levF B n o 6).1 (exF B n 58 (nxF B n x))).1 = .inr p' := e
    have m4 := c4.2.2.1
    have y4 := c4.2.2.2.2.2.2.1
    rw [e] at m4 y4
    obtain ⟨_, y5, y6, _⟩ := y4 (MAt_0 m4)
    obtain ⟨q, eq⟩ := c4.2.2.2.2.2.2.2 p' e
    have m3 := c3.2.2.1
    have y3 := c3.2.2.2.2.2.2.1
    rw [eq] at m3 y3 y5 y6
    obtain ⟨_, y7, y8, _⟩ := y3 (MAt_0 m3)
    have e1 : posX (.inr p') = p' := rfl
    have e2 : posX (.inr q) = q := rfl
    rw [e1] at y6
    rw [e2] at y5 y6 y8
    omega
  have row4 : ∀ k, k < 389 → M4.1 163 k = M.1 163 k := fun k hk' => by rw [k4.2.2.2 k hk', si_ne (by decide), k3.2.2.2 k hk']
  have h5 : ∀ b', b' = 5 ∨ b' = 7 ∨ b' = 9 → (nI b' + nI law).toNatClampNeg = b' + law := fun b' _ => by rw [nI_add, nI_clamp (by omega)]
  rw [lI 5, lI 7, lI 9, h5 5 (by omega), h5 7 (by omega), h5 9 (by omega)]
  refine br_c (fun z => ⟨by rw [nI_add]; exact vpI (by omega) (by omega), by rw [nI_add]; exact vpI (by omega) (by omega), by rw [nI_add]; exact vpI (by omega) (by omega), ?_⟩) (fun z => ?_)
  rotate_left
  · refine hq M4 b ⟨fM_tr f0 f4, c4.2.1, c4.2.2.1, fun p' e => ?_⟩ hle
    have e : ((levF B n o 6).1 (exF B n 58 (nxF B n x))).1 = .inr p' := e
    have m4 := c4.2.2.1
    rw [e] at m4
    exact absurd (MAt_0 m4) z
  rw [si_eq, row_ne (by omega), si_eq, row_ne (by omega), z4, pk_sub lab]
  have er : ∀ k, k ≠ 5 + law → k ≠ 7 + law → k ≠ 9 + law → (pm_si (pm_si (pm_si M4 163 (5 + law) 1) 163 (7 + law) (nI a)) 163 (9 + law) (nI (b - a))).1 163 k = M4.1 163 k := fun k h1 h2 h3 => by rw [si_eq, row_ne h3, si_eq, row_ne h2, si_eq, row_ne h1]
  have e5 : (pm_si (pm_si (pm_si M4 163 (5 + law) 1) 163 (7 + law) (nI a)) 163 (9 + law) (nI (b - a))).1 163 (5 + law) = 1 := by rw [si_eq, row_ne (by omega), si_eq, row_ne (by omega), si_eq, row_eq]
  have e7 : (pm_si (pm_si (pm_si M4 163 (5 + law) 1) 163 (7 + law) (nI a)) 163 (9 + law) (nI (b - a))).1 163 (7 + law) = nI a := by rw [si_eq, row_ne (by omega), si_eq, row_eq]
  have e9 : (pm_si (pm_si (pm_si M4 163 (5 + law) 1) 163 (7 + law) (nI a)) 163 (9 + law) (nI (b - a))).1 163 (9 + law) = nI (b - a) := by rw [si_eq, row_eq]
  have f5 : fM M4 (pm_si (pm_si (pm_si M4 163 (5 + law) 1) 163 (7 + law) (nI a)) 163 (9 + law) (nI (b - a))) := fM_si (fM_si (fM_si fM_rf))
  have e159 : (pm_si (pm_si (pm_si M4 163 (5 + law) 1) 163 (7 + law) (nI a)) 163 (9 + law) (nI (b - a))).1 159 = M4.1 159 := by rw [si_ne (by decide), si_ne (by decide), si_ne (by decide)]
  generalize pm_si (pm_si (pm_si M4 163 (5 + law) 1) 163 (7 + law) (nI a)) 163 (9 + law) (nI (b - a)) = M5 at er e5 e7 e9 f5 e159
  refine hq M5 b ⟨fM_tr f0 (fM_tr f4 f5), fM_tp f5 c4.2.1, by rw [e159]; exact c4.2.2.1, fun p' e => ?_⟩ hle
  have e : ((levF B n o 6).1 (exF B n 58 (nxF B n x))).1 = .inr p' := e
  obtain ⟨q, eq, x4⟩ := chM_al c4 e
  obtain ⟨q2, eq2, x3⟩ := chM_al c3 eq
  have rowc : ∀ k, k < a → M5.1 163 (390 + k) = M.1 163 (390 + k) := fun k hk' => by rw [er _ (by omega) (by omega) (by omega), x4 k hk', si_ne (by decide), x3 k hk']
  have keep : ∀ law' l, law' ≠ law → law' < 2 → LM1 M a law' l → LM1 M5 b law' l := by
    intro law' l hne hl hh
    cases l with
    | none =>
      obtain ⟨y1, y2, y3⟩ := hh
      exact ⟨by rw [er _ (by omega) (by omega) (by omega), row4 _ (by omega), y1], by rw [er _ (by omega) (by omega) (by omega), row4 _ (by omega), y2], by rw [er _ (by omega) (by omega) (by omega), row4 _ (by omega), y3]⟩
    | some D =>
      obtain ⟨fr, m, y1, y2, y3, y4, y5⟩ := hh
      exact ⟨fr, m, by rw [er _ (by omega) (by omega) (by omega), row4 _ (by omega), y1], by rw [er _ (by omega) (by omega) (by omega), row4 _ (by omega), y2], by rw [er _ (by omega) (by omega) (by omega), row4 _ (by omega), y3], by omega, gdM_congr y5 (fun k hk' => rowc k (by omega))⟩
  have mine : LM1 M5 b law (some (lwF B n o x).2) := by
    refine ⟨a, b - a, e5, e7, e9, by omega, ?_⟩
    have eo : decide (law = 1) = o := by
      rw [hlaw]
      cases o <;> rfl
    rw [eo, show a + (b - a) = b by omega]
    exact gdM_congr (al4 p' e) (fun k _ => er _ (by omega) (by omega) (by omega))
  refine ⟨fun k h1 h2 => by rw [er k (by omega) (by omega) (by omega), row4 k (by omega)]; exact hT.1 k h1 h2, by rw [er 389 (by omega) (by omega) (by omega), z4], lb9, ?_, ?_⟩
  · cases o with
    | false =>
      have : law = 0 := hlaw
      subst this
      exact mine
    | true =>
      have : law = 1 := hlaw
      subst this
      exact keep 0 l0 (by omega) (by omega) hT.2.2.2.1
  · cases o with
    | false =>
      have : law = 0 := hlaw
      subst this
      exact keep 1 l1 (by omega) (by omega) hT.2.2.2.2
    | true =>
      have : law = 1 := hlaw
      subst this
      exact mine
def rLn (B : Nat → Nat) (n : Nat) (M0 M : pm_M) (z : LSt) : Prop := ∃ a, sM B n M0 M z.1 z.2.1 a z.2.2.1 z.2.2.2 ∧ ∀ p, z.1 = .inr p → a ≤ p
theorem en_M {d : Nat} {s : pm_S} {M0 M : pm_M} {B : Nat → Nat} {n a : Nat} {x : PS} {g : RW} {l0 l1 : LWD} {Q : pm_S → pm_M → Prop} (hd : 6 ≤ d) (h : sM B n M0 M x g a l0 l1)
    (hq : ∀ M', sM B n M0 M' (exF B n 59 x) (pm_row g 0 (g 0 + 1)) a l0 l1 → Q s M') : cV d yM_ends [.ref 159] s M Q := by
  obtain ⟨d, rfl⟩ : ∃ e, d = e + 1 := ⟨d - 1, by omega⟩
  refine enM_ends (sp_efR (w := 59) (m := 30) (K := fun s2 M2 => Q s2 (pm_si M2 163 0 ((M2.1 163 0) + 1))) (by omega) h (by decide) (by decide) (by decide) (fun R s1 => hq _ ?_))
  exact sM_put s1 (fM_si fM_rf) (si_ne (by decide)) (fun _ t => TM_row t (by omega) (by rw [t.1 0 (by omega) (by omega)]))
theorem li_M {d : Nat} {s : pm_S} {M0 M : pm_M} {B : Nat → Nat} {n p : Nat} {z : LSt} {Q : pm_S → pm_M → Prop} (hd : 70 ≤ d) (h : rLn B n M0 M z) (hv : pV z) (ep : z.1 = .inr p) (hk : kiF B n z.1 ≠ 129)
    (hq : ∀ M', rLn B n M0 M' (liF B n z) → (∀ p', (liF B n z).1 = .inr p' → p + 1 ≤ p') → Q s M') : cV d yM_readLine [.ref 159] s M (fun s1 M1 => cV d yM_ends [.ref 159] s1 M1 (fun s2 M2 => Q s2 M2)) := by
  obtain ⟨d, rfl⟩ : ∃ e, d = e + 1 := ⟨d - 1, by omega⟩
  obtain ⟨a, hs, hap⟩ := h
  obtain ⟨gv, g1, g2, g3⟩ := hv p ep
  have hB : ∀ k, k < n → B k < 256 := fun k hk => (hs.2.1.2 k hk).2
  have gd : gdX n z.1 := fun q e => MAt_n hs.2.2.1 q e
  have hap := hap p ep
  have m11 : M.1 159 11 = 0 := by have := hs.2.2.1; rw [ep] at this; exact MAt_0 this
  have hT8 := gv.1.2.2.1
  have hP6 := gv.1.2.2.2.1
  have hN8 := gv.1.2.1
  have fin : ∀ (M1 : pm_M) (b : Nat), sM B n M0 M1 (liB B n z).1 (liB B n z).2.1 b (liB B n z).2.2.1 (liB B n z).2.2.2 → (∀ q, (liB B n z).1 = .inr q → b ≤ q ∧ p ≤ q) → cV (d + 1) yM_ends [.ref 159] s M1 (fun s2 M2 => Q s2 M2) := by
    intro M1 b h1 h2
    refine en_M (by omega) h1 (fun M' s' => hq M' ⟨b, s', fun q eq => ?_⟩ (fun q eq => ?_))
    · have eq : exF B n 59 (liB B n z).1 = .inr q := eq
      have gq : gdX n (liB B n z).1 := fun r e => MAt_n h1.2.2.1 r e
      obtain ⟨q2, e2, l2⟩ := (leX_ex hB gq).2 q eq
      have := h2 q2 e2
      omega
    · have eq : exF B n 59 (liB B n z).1 = .inr q := eq
      have gq : gdX n (liB B n z).1 := fun r e => MAt_n h1.2.2.1 r e
      obtain ⟨e59, enx⟩ := ex_al eq
      obtain ⟨q2, e2, l2⟩ := nx_adv hB gq (by omega) q enx
      have := h2 q2 e2
      omega
  unfold liB at fin
  have k9 : ∀ w m : Nat, kiF B n z.1 = w → rkK w = m → M.1 159 9 = nI m := fun w m h1 h2 => by
    obtain ⟨e9, _⟩ := MAt_k hB hs.2.2.1 m11
    rw [e9, h1, h2]
  refine enM_readLine (br_t m11 (sp_isX (w := 201) (m := 1) (by omega) hs.2.1 (by decide) (by decide) (by decide) hs.2.2.1 (fun c1 => br_f (by decide) ?_) (fun c1 => br_t rfl (sp_isX (w := 202) (m := 5) (by omega) hs.2.1 (by decide) (by decide) (by decide) hs.2.2.1 (fun c2 => br_f (by decide) ?_) (fun c2 => br_t rfl (sp_isX (w := 203) (m := 9) (by omega) hs.2.1 (by decide) (by decide) (by decide) hs.2.2.1 (fun c3 => br_f (by decide) ?_) (fun c3 => br_t rfl (sp_isX (w := 204) (m := 10) (by omega) hs.2.1 (by decide) (by decide) (by decide) hs.2.2.1 (fun c4 => br_f (by decide) ?_) (fun c4 => br_t rfl (sp_eatsX (w := 205) (m := 11) (by omega) hs.2.1 (by decide) (by decide) (by decide) hs.2.2.1 (fun c5 R a1 a2 => br_f (by decide) ?_) (fun c5 => br_t rfl ?_)))))))))))
  · simp only [if_pos c1] at fin
    refine th_M (by omega) gv g1 g2 hs ⟨p, ep⟩ (fun M1 s1 => fin M1 a s1 (fun q e => ?_))
    obtain ⟨q2, e2, l2⟩ := (leX_thF hB gd).2 q e
    rw [ep] at e2; cases e2; omega
  · simp only [if_neg c1, if_pos c2] at fin
    refine pe_M (by omega) gv g1 g2 g3 hs ⟨p, ep⟩ (fun M1 s1 => fin M1 a s1 (fun q e => ?_))
    obtain ⟨q2, e2, l2⟩ := (leX_peF hB gd).2 q e
    rw [ep] at e2; cases e2; omega
  · simp only [if_neg c1, if_neg c2, if_pos c3] at fin
    rw [k9 203 9 c3 (by decide), lI 9, pk_sub (by omega)]
    exact la_M (o := false) (by omega) hs ep hap hk rfl (fun M1 b s1 l1 => fin M1 b s1 l1)
  · simp only [if_neg c1, if_neg c2, if_neg c3, if_pos c4] at fin
    rw [k9 204 10 c4 (by decide), lI 9, pk_sub (by omega)]
    exact la_M (o := true) (by omega) hs ep hap hk rfl (fun M1 b s1 l1 => fin M1 b s1 l1)
  · simp only [if_neg c1, if_neg c2, if_neg c3, if_neg c4, if_pos c5] at fin
    have s1 := sM_row hs a2 a1 nx_al
    refine sp_taR (lo := 0) (hi := 10) (by omega) s1 (by omega) (by omega) (fun R2 r s2 e2 _ => ?_)
    rw [ri_ri] at s2 ⊢
    refine fin _ a (sM_put s2 (fM_si fM_rf) (si_ne (by decide)) (fun al t => ?_)) (fun q e => ?_)
    · obtain ⟨q, eq⟩ := al
      exact TM_row t (by omega) (e2 q eq).1
    · obtain ⟨q2, e3, l2⟩ := (leX_tr (leX_nx hB) (leX_nu hB) gd).2 q e
      rw [ep] at e3; cases e3; omega
  · simp only [if_neg c1, if_neg c2, if_neg c3, if_neg c4, if_neg c5] at fin
    exact sp_faR (k := 2) (by omega) hs (by omega) (by omega) (fun R s1 _ => fin _ a s1 (fun q e => absurd e (fa_inl q)))
