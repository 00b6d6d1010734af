/-! lines, the reference: a person -/
theorem ok_T : ∀ T, T < 9 → ∀ v, v < 1000 → (((0 : Int32).toInt64 ≤ (nI v).toInt64 ∧ (nI v).toInt64 ≤ (nI T - 1).toInt64) ↔ decide (v < T) = true) := by
  intro T hT v hv
  rw [le64, le64]
  by_cases c : T = 0
  · subst c
    have e : nI 0 - 1 = (-1 : Int32) := by decide
    rw [e]
    refine ⟨fun h => ?_, fun h => by rw [decide_eq_true_eq] at h; omega⟩
    have h2 := Int32.le_iff_toInt_le.mp h.2
    have h1 := Int32.le_iff_toInt_le.mp h.1
    have e1 : (-1 : Int32).toInt = -1 := by decide
    have e0 : (0 : Int32).toInt = 0 := by decide
    rw [e1] at h2
    rw [e0] at h1
    omega
  · rw [lI 1, pk_sub (by omega), lI 0, nI_leP (by omega) (by omega), nI_leP (by omega) (by omega), decide_eq_true_eq]
    omega
theorem sp_hoM {d : Nat} {s : pm_S} {M0 M : pm_M} {B : Nat → Nat} {n N T P p a : Nat} {x : PS} {g : RW} {l0 l1 : LWD} {Q : pm_S → pm_M → Prop} (hd : 6 ≤ d) (hp : p < 6) (hv : (∃ q, x = .inr q) → gV g N T P) (hT8 : T ≤ 8) (h : sM B n M0 M x g a l0 l1) (m2 : M.1 163 2 = nI T)
    (hq : ∀ M', sM B n M0 M' (hdF B n T p x g).1 (hdF B n T p x g).2 a l0 l1 → (M'.1 159 11 = 0 → M'.1 163 2 = nI T) → Q s M') : cV d yM_readHolds [.ref 159, .int (nI p)] s M Q := by
  obtain ⟨d, rfl⟩ : ∃ e, d = e + 1 := ⟨d - 1, by omega⟩
  unfold hdF at hq
  -- a number taken
  have take : ∀ (M1 : pm_M) (x1 : PS), sM B n M0 M1 x1 g a l0 l1 → M1.1 163 2 = nI T → (∀ R r, sM B n M0 (pm_ri M1 159 R) (nuG B n (fun v => decide (v < T)) x1) g a l0 l1 → (kiF B n x1 = 128 → r = nI (vaF B n x1)) → (¬ (kiF B n x1 = 128 ∧ vaF B n x1 < T) → R 11 ≠ 0) → (((pm_ri M1 159 R).1 159 11 = 0) → wM_readHolds d 68 [.ref 159, .int (nI p), .int r, .int 0] [] s (pm_ri M1 159 R) Q) ∧ (¬ ((pm_ri M1 159 R).1 159 11 = 0) → Q s (pm_ri M1 159 R))) → cI d yM_takesN [.ref 159, .int 0, .int ((M1.1 163 2) - 1)] s M1 (fun r2 s2 M2 => ((((M2.1 159 11) = 0) → wM_readHolds d 68 [.ref 159, .int (nI p), .int r2, .int 0] [] s2 M2 Q) ∧ (¬ ((M2.1 159 11) = 0) → Q s2 M2))) := by
    intro M1 x1 h1 h2 k
    rw [h2]
    refine sp_takesX (ok := fun v => decide (v < T)) (by omega) h1.2.1 (ok_T T (by omega)) h1.2.2.1 (fun r R a1 a2 a3 a4 => ?_)
    refine k R r (sM_row h1 a2 a1 (fun p' e => ?_)) a3 (fun hn => a4 (fun hh => hn ⟨hh.1, by have := hh.2; rw [decide_eq_true_eq] at this; exact this⟩))
    unfold nuG at e
    by_cases c1 : kiF B n x1 = 128
    · rw [if_pos c1] at e
      by_cases c2 : decide (vaF B n x1 < T) = true
      · rw [if_pos c2] at e; exact nx_al p' e
      · rw [if_neg c2] at e; exact absurd e (fa_inl p')
    · rw [if_neg c1] at e; exact absurd e (fa_inl p')
  refine enM_readHolds (sp_isX (w := 128) (m := 23) (by omega) h.2.1 (by decide) (by decide) (by decide) h.2.2.1 (fun c1 => br_f (by decide) ?_) (fun c1 => br_t rfl ?_))
  rotate_left
  · rw [if_neg c1] at hq
    refine take M x h m2 (fun R r h1 h2 h3 => ?_)
    have nz := h3 (fun hh => c1 hh.1)
    refine br_f (by rw [ri_eq]; exact nz) (hq _ ?_ (fun z => by rw [ri_eq] at z; exact absurd z nz))
    unfold nuG at h1
    rw [if_neg c1] at h1
    exact h1
  · rw [if_pos c1] at hq
    have hB : ∀ k, k < n → B k < 256 := fun k hk => (h.2.1.2 k hk).2
    obtain ⟨e10, l10⟩ := MAt_v hB h.2.2.1 c1
    obtain ⟨q0, eq0⟩ := ki_al (B := B) (n := n) (x := x) (by omega)
    have hTM := h.2.2.2 q0 eq0
    have gv := hv ⟨q0, eq0⟩
    rw [m2, e10, nI_leP (by omega) (by omega)]
    refine br_c (fun c2 => ?_) (fun c2 => ⟨by rw [lI 50, nI_add]; exact vpI (by omega) (by omega), ?_⟩)
    · have hk0 : hoK B n T x g = false := by
        unfold hoK
        rw [decide_eq_false_iff_not]
        omega
      rw [if_neg (by rw [hk0]; decide)] at hq
      refine (m2 ▸ take M x h m2) (fun R r h1 h2 h3 => ?_)
      have nz := h3 (fun hh => by omega)
      refine br_f (by rw [ri_eq]; exact nz) (hq _ ?_ (fun z => by rw [ri_eq] at z; exact absurd z nz))
      unfold nuG at h1
      rw [if_pos c1, if_neg (by rw [decide_eq_true_eq]; omega)] at h1
      exact h1
    · rw [lI 50, nI_add, nI_clamp (by omega), hTM.1 (50 + vaF B n x) (by omega) (by omega)]
      refine br_c (fun c3 => ?_) (fun c3 => ?_)
      · have hk1 : hoK B n T x g = true := by
          unfold hoK
          rw [decide_eq_true_eq]
          exact ⟨by omega, c3⟩
        rw [if_pos hk1] at hq
        refine (m2 ▸ take M x h m2) (fun R r h1 h2 h3 => ?_)
        have er := h2 c1
        unfold nuG at h1
        rw [if_pos c1, if_pos (by rw [decide_eq_true_eq]; omega)] at h1
        refine br_c (fun z => ?_) (fun z => hq _ (sM_dead h1 (fun q e => z (by have e' : nxF B n x = .inr q := e; have := h1.2.2.1; rw [e'] at this; exact MAt_0 this))) (fun z2 => absurd z2 z))
        rw [er]
        have mm : (pm_ri M 159 R).1 163 = M.1 163 := ri_ne (by decide)
        generalize pm_ri M 159 R = M1 at h1 mm
        generalize vaF B n x = t at c2 hq
        have ht : t < T := by omega
        -- who holds it no more
        have loop : ∀ f i, i + f = T → wM_readHolds d 68 [.ref 159, .int (nI p), .int (nI t), .int (nI i)] [] s (pm_ri M1 163 (giC i p (M1.1 163))) Q := by
          intro f
          induction f with
          | zero =>
            intro i hi
            obtain rfl : i = T := by omega
            have gl := (giC_at (T := i) (p := p) (g := M1.1 163) i hT8).2
            refine sgM_readHolds_68 ?_
            rw [ri_eq, gl 2 (by omega), mm, m2, ← mm]
            refine br_t (by rw [nI_leP (by omega) (by omega)]; omega) ⟨by rw [lI 50, nI_add]; exact vpI (by omega) (by omega), ?_⟩
            rw [lI 50, nI_add, nI_clamp (by omega), ri_si, lI 10, nI_add]
            refine hq _ (sM_put h1 (fM_ri fM_rf) (ri_ne (by decide)) (fun al tm => ?_)) (fun _ => ?_)
            · obtain ⟨o1, o2⟩ := giF_at (T := i) (p := p) (t := t) (g := M1.1 163) hT8 ht
              obtain ⟨u1, u2⟩ := giF_at (T := i) (p := p) (t := t) (g := g) hT8 ht
              refine TM_put tm (fun k hk => ?_) (fun k k1 k2 k3 => ?_)
              · rw [ri_eq]; exact o2 k (by omega)
              · rw [ri_eq]
                show giF i p t (M1.1 163) k = giF i p t g k
                by_cases z : k < 50 ∨ 50 + i ≤ k
                · rw [o2 k z, u2 k z, k3]
                · obtain ⟨j, rfl⟩ : ∃ j, k = 50 + j := ⟨k - 50, by omega⟩
                  rw [o1 j (by omega), u1 j (by omega), k3, tm.1 (11 + j) (by omega) (by omega)]
            · rw [ri_eq, row_ne (by omega), gl 2 (by omega), mm, m2]
          | succ f ih =>
            intro i hi
            obtain ⟨g1, g2⟩ := giC_at (T := T) (p := p) (g := M1.1 163) i (by omega)
            refine sgM_readHolds_68 ?_
            rw [ri_eq, g2 2 (by omega), mm, m2, ← mm]
            refine br_f (by rw [nI_leP (by omega) (by omega)]; omega) ⟨by rw [lI 50, nI_add]; exact vpI (by omega) (by omega), ?_⟩
            rw [lI 50, nI_add, nI_clamp (by omega), lI 10, nI_add, lI 11, nI_add, nI_clamp (by omega), nI_1]
            have := ih (i + 1) (by omega)
            have e : giC (i + 1) p (M1.1 163) = if giC i p (M1.1 163) (50 + i) = nI (10 + p) then pm_row (giC i p (M1.1 163)) (50 + i) (giC i p (M1.1 163) (11 + i)) else giC i p (M1.1 163) := rfl
            rw [e] at this
            refine br_c (fun z => ⟨vpI (by omega) (by omega), vpI (by omega) (by omega), ?_⟩) (fun z => ?_)
            · rw [if_pos z] at this
              rw [ri_si]; exact this
            · rw [if_neg z] at this
              exact this
        have := loop T 0 (by omega)
        rw [show giC 0 p (M1.1 163) = M1.1 163 from rfl, ri_self] at this
        exact this
      · have hk0 : hoK B n T x g = false := by
          unfold hoK
          rw [decide_eq_false_iff_not]
          exact fun hh => c3 hh.2
        rw [if_neg (by rw [hk0]; decide)] at hq
        refine sp_faR (k := 3) (by omega) h (by omega) (by omega) (fun R h1 h2 => ?_)
        have m2' : (pm_ri M 159 R).1 163 2 = nI T := by rw [ri_ne (by decide)]; exact m2
        refine take _ _ h1 m2' (fun R2 r h3 _ h5 => ?_)
        have kd : kiF B n (faF B n 3 x) = 131 := by cases x <;> rfl
        have nz := h5 (fun hh => by rw [kd] at hh; omega)
        refine br_f (by rw [ri_eq]; exact nz) (hq _ ?_ (fun z => by rw [ri_eq] at z; exact absurd z nz))
        have e2 : nuG B n (fun v => decide (v < T)) (faF B n 3 x) = faF B n 3 x := by
          unfold nuG
          rw [if_neg (by rw [kd]; decide)]
          cases x <;> rfl
        rw [e2] at h3
        exact h3
theorem peL_st {B : Nat → Nat} {n T p f : Nat} {y : PS × RW} (h : ¬ (kiF B n y.1 = 209 ∨ kiF B n y.1 = 210 ∨ kiF B n y.1 = 211)) : peL B n T p f y = y := by
  cases f with
  | zero => rfl
  | succ f =>
    unfold peL
    rw [if_neg h]
theorem fl_M {d : Nat} {s : pm_S} {M0 M : pm_M} {B : Nat → Nat} {n N T P p a : Nat} {y : PS × RW} {l0 l1 : LWD} {K : Int32 → pm_S → pm_M → Prop} (hd : 8 ≤ d) (hp : p < 6) (hv : (∃ q, y.1 = .inr q) → gV y.2 N T P) (hT8 : T ≤ 8) (h : sM B n M0 M y.1 y.2 a l0 l1) (m2 : M.1 163 2 = nI T)
    (hq1 : (kiF B n y.1 = 209 ∨ kiF B n y.1 = 210 ∨ kiF B n y.1 = 211) → ∀ M' r, sM B n M0 M' (flF B n T p y).1 (flF B n T p y).2 a l0 l1 → (r = 1 ∨ (r = 0 ∧ M'.1 159 11 ≠ 0)) → (r = 1 → M'.1 163 2 = nI T) → K r s M')
    (hq0 : ¬ (kiF B n y.1 = 209 ∨ kiF B n y.1 = 210 ∨ kiF B n y.1 = 211) → K 0 s M) : cI d yM_readFlag [.ref 159, .int (nI p)] s M K := by
  obtain ⟨d, rfl⟩ : ∃ e, d = e + 1 := ⟨d - 1, by omega⟩
  have ans : ∀ M' : pm_M, ((if M'.1 159 11 = 0 then 1 else 0 : Int32) = 1 ∨ ((if M'.1 159 11 = 0 then 1 else 0 : Int32) = 0 ∧ M'.1 159 11 ≠ 0)) := by
    intro M'
    by_cases z : M'.1 159 11 = 0
    · rw [if_pos z]; exact Or.inl rfl
    · rw [if_neg z]; exact Or.inr ⟨rfl, z⟩
  unfold flF at hq1
  refine enM_readFlag (sp_eatsX (w := 209) (m := 6) (by omega) h.2.1 (by decide) (by decide) (by decide) h.2.2.1 (fun e R a1 a2 => br_f (by decide) ?_) (fun e => br_t rfl (sp_eatsX (w := 210) (m := 7) (by omega) h.2.1 (by decide) (by decide) (by decide) h.2.2.1 (fun e2 R a1 a2 => br_f (by decide) ?_) (fun e2 => br_t rfl (sp_eatsX (w := 211) (m := 8) (by omega) h.2.1 (by decide) (by decide) (by decide) h.2.2.1 (fun e3 R a1 a2 => br_f (by decide) ?_) (fun e3 => br_t rfl (hq0 (by omega))))))))
  · have hq1 := hq1 (Or.inl e)
    rw [if_pos e] at hq1
    have s1 := sM_row h a2 a1 nx_al
    refine sp_taR (lo := 0) (hi := 9) (by omega) s1 (by omega) (by omega) (fun R2 r s2 e2 _ => ⟨by rw [lI 66, nI_add]; exact vpI (by omega) (by omega), ?_⟩)
    rw [ri_ri] at s2 ⊢
    rw [lI 66, nI_add, nI_clamp (by omega)]
    refine hq1 _ _ (sM_put s2 (fM_si fM_rf) (si_ne (by decide)) (fun al t => ?_)) ?_ (fun _ => ?_)
    · obtain ⟨p3, ep3⟩ := al
      exact TM_row t (by omega) (e2 p3 ep3).1
    · have := ans (pm_si (pm_ri M 159 R2) 163 (66 + p) r)
      rw [si_ne (by decide)] at this
      rw [si_ne (by decide)]
      exact this
    · rw [si_eq, row_ne (by omega), ri_ne (by decide), m2]
  · have hq1 := hq1 (Or.inr (Or.inl e2))
    rw [if_neg e, if_pos e2] at hq1
    have s1 := sM_row h a2 a1 nx_al
    refine sp_taR (lo := 0) (hi := 99) (by omega) s1 (by omega) (by omega) (fun R2 r s2 e2 _ => ⟨by rw [lI 41, nI_add]; exact vpI (by omega) (by omega), ?_⟩)
    rw [ri_ri] at s2 ⊢
    rw [lI 41, nI_add, nI_clamp (by omega)]
    refine hq1 _ _ (sM_put s2 (fM_si fM_rf) (si_ne (by decide)) (fun al t => ?_)) ?_ (fun _ => ?_)
    · obtain ⟨p3, ep3⟩ := al
      exact TM_row t (by omega) (e2 p3 ep3).1
    · have := ans (pm_si (pm_ri M 159 R2) 163 (41 + p) r)
      rw [si_ne (by decide)] at this
      rw [si_ne (by decide)]
      exact this
    · rw [si_eq, row_ne (by omega), ri_ne (by decide), m2]
  · have hq1 := hq1 (Or.inr (Or.inr e3))
    rw [if_neg e, if_neg e2] at hq1
    have s1 := sM_row h a2 a1 nx_al
    refine sp_hoM (by omega) hp (fun al => hv (by
      obtain ⟨q, eq⟩ := al
      exact nx_al q eq)) hT8 s1 (by rw [ri_ne (by decide)]; exact m2) (fun M' s2 t2 => ?_)
    refine hq1 M' _ s2 (ans M') (fun z => t2 ?_)
    by_cases c : M'.1 159 11 = 0
    · exact c
    · rw [if_neg c] at z; cases z
theorem pe_M {d : Nat} {s : pm_S} {M0 M : pm_M} {B : Nat → Nat} {n N T P a : Nat} {x : PS} {g : RW} {l0 l1 : LWD} {Q : pm_S → pm_M → Prop} (hd : 10 ≤ d) (hv : gV g N T P) (g1 : g 1 = nI N) (g2 : g 2 = nI T) (g3 : g 3 = nI P) (h : sM B n M0 M x g a l0 l1) (hx : ∃ p, x = .inr p)
    (hq : ∀ M', sM B n M0 M' (peF B n N T P x g).1 (peF B n N T P x g).2 a l0 l1 → Q s M') : cV d yM_readPerson [.ref 159] s M Q := by
  obtain ⟨d, rfl⟩ : ∃ e, d = e + 1 := ⟨d - 1, by omega⟩
  obtain ⟨p, ep⟩ := hx
  have hT := h.2.2.2 p ep
  have hv0 := hv
  obtain ⟨⟨v1, v2, v3, v4, -⟩, -⟩ := hv
  have m1 : M.1 163 1 = nI N := by rw [hT.1 1 (by omega) (by omega), g1]
  have m2 : M.1 163 2 = nI T := by rw [hT.1 2 (by omega) (by omega), g2]
  have m3 : M.1 163 3 = nI P := by rw [hT.1 3 (by omega) (by omega), g3]
  have m11 : M.1 159 11 = 0 := by have := h.2.2.1; rw [ep] at this; exact MAt_0 this
  unfold peF at hq
  refine enM_readPerson ?_
  rw [m3, lI 6, nI_inj (by omega) (by omega)]
  refine br_c (fun c => ?_) (fun c => ?_)
  · rw [if_pos c] at hq
    refine sp_faR (k := 4) (by omega) h (by omega) (by omega) (fun R h1 h2 => sgM_readPerson_18 (br_f (by rw [ri_eq]; exact h2) (hq _ h1)))
  rw [if_neg c] at hq
  refine sgM_readPerson_18 (br_t m11 (sp_nxR (by omega) h ⟨p, ep⟩ (fun R1 s1 => ?_)))
  refine sp_efR (w := 206) (m := 2) (K := fun s3 M3 => wM_readPerson d 43 [.ref 159, .int (nI P)] [] s3 M3 Q) (by omega) s1 (by decide) (by decide) (by decide) (fun R2 s2 => ?_)
  rw [ri_ri] at s2 ⊢
  refine sgM_readPerson_43 ?_
  rw [ri_ne (by decide), m1, lI 1, pk_sub (by omega)]
  refine sp_taR (lo := 0) (hi := N - 1) (by omega) s2 (by omega) (by omega) (fun R3 r s3 e3 _ => ?_)
  rw [ri_ri] at s3 ⊢
  rw [lI 35, lI 41, nI_add, nI_add, nI_clamp (by omega), nI_clamp (by omega)]
  refine ⟨vpI (by omega) (by omega), vpI (by omega) (by omega), ?_⟩
  have s4 : sM B n M0 (pm_si (pm_si (pm_ri M 159 R3) 163 (35 + P) r) 163 (41 + P) 10) (peS B n N P x g).1 (peS B n N P x g).2 a l0 l1 := by
    refine sM_put s3 (fM_si (fM_si fM_rf)) (by rw [si_ne (by decide), si_ne (by decide)]) (fun al t => ?_)
    obtain ⟨p3, ep3⟩ := al
    obtain ⟨er, _, _⟩ := e3 p3 ep3
    exact TM_row (TM_row t (by omega) er) (by omega) rfl
  have eg : (peS B n N P x g).2 = pm_row (pm_row g (35 + P) (nI (vaF B n (exF B n 206 (nxF B n x))))) (41 + P) 10 := rfl
  have y3 : (peS B n N P x g).2 3 = nI P := by rw [eg, row_ne (by omega), row_ne (by omega), g3]
  have gy : (∃ p, (peS B n N P x g).1 = .inr p) → gV (peS B n N P x g).2 N T (P + 1) := fun al => by
    obtain ⟨p, e⟩ := al
    obtain ⟨e1, e2, e4, _⟩ := nu_al e
    rw [eg]
    exact gV_peS hv0 (by omega) (by omega)
  have n9 : n ≤ 900 := h.2.1.1
  have q2 : (pm_si (pm_si (pm_ri M 159 R3) 163 (35 + P) r) 163 (41 + P) 10).1 163 2 = nI T := by rw [si_eq, row_ne (by omega), si_eq, row_ne (by omega), ri_ne (by decide), m2]
  generalize pm_si (pm_si (pm_ri M 159 R3) 163 (35 + P) r) 163 (41 + P) 10 = M4 at s4 q2
  clear eg
  generalize peS B n N P x g = y at s4 hq y3 gy
  have loop : ∀ f M (y : PS × RW), (∀ p, y.1 = .inr p → n ≤ p + f) → y.2 3 = nI P → ((∃ p, y.1 = .inr p) → gV y.2 N T (P + 1)) → M.1 163 2 = nI T → sM B n M0 M y.1 y.2 a l0 l1 → (∀ M', sM B n M0 M' (peL B n T P f y).1 (pm_row (peL B n T P f y).2 3 (nI (P + 1))) a l0 l1 → Q s M') → wM_readPerson d 76 [.ref 159, .int (nI P)] [] s M Q := by
    have out : ∀ f M (y : PS × RW), y.2 3 = nI P → ¬ (kiF B n y.1 = 209 ∨ kiF B n y.1 = 210 ∨ kiF B n y.1 = 211) → sM B n M0 M y.1 y.2 a l0 l1 → (∀ M', sM B n M0 M' (peL B n T P f y).1 (pm_row (peL B n T P f y).2 3 (nI (P + 1))) a l0 l1 → Q s M') → (M.1 159 11 = 0 → Q s (pm_si M 163 3 ((M.1 163 3) + 1))) ∧ (¬ M.1 159 11 = 0 → Q s M) := by
      intro f M y y3 hk hs hq
      rw [peL_st hk] at hq
      refine ⟨fun _ => hq _ (sM_put hs (fM_si fM_rf) (si_ne (by decide)) (fun al t => TM_row t (by omega) ?_)), fun z => hq _ (sM_dead hs (fun p e => z (by have := hs.2.2.1; rw [e] at this; exact MAt_0 this)))⟩
      rw [t.1 3 (by omega) (by omega), y3, nI_1]
    intro f
    induction f with
    | zero =>
      intro M y hf y3 gy q2 hs hq
      have k1 : ¬ (kiF B n y.1 = 209 ∨ kiF B n y.1 = 210 ∨ kiF B n y.1 = 211) := by
        rcases al_or (x := y.1) with ⟨p, e⟩ | hd
        · rw [e, ki_end (by have := hf p e; omega) (MAt_n hs.2.2.1 p e)]
          decide
        · cases e : y.1 with
          | inl f => show ¬ (131 = 209 ∨ 131 = 210 ∨ 131 = 211); decide
          | inr p => exact absurd e (hd p)
      have o := out 0 M y y3 k1 hs hq
      exact sgM_readPerson_76 (br_c (fun z => fl_M (by omega) (by omega) gy v3 hs q2 (fun hk => absurd hk k1) (fun _ => br_t rfl o)) (fun z => o))
    | succ f ih =>
      intro M y hf y3 gy q2 hs hq
      by_cases k1 : kiF B n y.1 = 209 ∨ kiF B n y.1 = 210 ∨ kiF B n y.1 = 211
      · have hal : ∃ p, y.1 = .inr p := ki_al (B := B) (n := n) (by omega)
        obtain ⟨p1, e1⟩ := hal
        have z0 : M.1 159 11 = 0 := by have := hs.2.2.1; rw [e1] at this; exact MAt_0 this
        unfold peL at hq
        rw [if_pos k1] at hq
        have hB : ∀ k, k < n → B k < 256 := fun k hk => (hs.2.1.2 k hk).2
        have gd : gdX n y.1 := fun r e => MAt_n hs.2.2.1 r e
        refine sgM_readPerson_76 (br_t z0 (fl_M (by omega) (by omega) gy v3 hs q2 (fun hk M' r s' hr hm => ?_) (fun hk => absurd k1 hk)))
        rcases hr with rfl | ⟨rfl, nz⟩
        · refine br_f (by decide) (ih M' (flF B n T P y) (fun q eq => ?_) (by rw [flF_lo v3 (by omega), y3]) (fun al => ?_) (hm rfl) s' hq)
          · have st : ∃ q0, nxF B n y.1 = .inr q0 ∧ q0 ≤ q := by
              unfold flF hdF at eq
              have g2 := gd_nx hB gd
              by_cases c1 : kiF B n y.1 = 209
              · rw [if_pos c1] at eq
                exact (leX_nu hB g2).2 q eq
              · rw [if_neg c1] at eq
                by_cases c2 : kiF B n y.1 = 210
                · rw [if_pos c2] at eq
                  exact (leX_nu hB g2).2 q eq
                · rw [if_neg c2] at eq
                  by_cases c3 : kiF B n (nxF B n y.1) = 128
                  · rw [if_pos c3] at eq
                    by_cases c4 : hoK B n T (nxF B n y.1) y.2 = true
                    · rw [if_pos c4] at eq
                      exact (leX_nx hB g2).2 q eq
                    · rw [if_neg c4] at eq
                      exact absurd eq (fa_inl q)
                  · rw [if_neg c3] at eq
                    exact absurd eq (fa_inl q)
            obtain ⟨q0, eq0, lq⟩ := st
            obtain ⟨q3, e3, l3⟩ := nx_adv hB gd (by omega) q0 eq0
            rw [e1] at e3; cases e3
            have := hf p1 e1
            omega
          · obtain ⟨q, eq⟩ := al
            exact flF_V (gy ⟨p1, e1⟩) (by omega) eq
        · have hdd : ∀ q, (flF B n T P y).1 ≠ .inr q := fun q e => nz (by have := s'.2.2.1; rw [e] at this; exact MAt_0 this)
          rw [peL_dead hdd] at hq
          exact br_t rfl (br_f nz (hq M' (sM_dead s' hdd)))
      · have o := out (f + 1) M y y3 k1 hs hq
        exact sgM_readPerson_76 (br_c (fun z => fl_M (by omega) (by omega) gy v3 hs q2 (fun hk => absurd hk k1) (fun _ => br_t rfl o)) (fun z => o))
  exact loop 900 M4 y (fun _ _ => by omega) y3 gy q2 s4 hq
