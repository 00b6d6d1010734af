def Pr0 (b : Nat → Nat → Nat) (B o0 o k : Nat) : Prop := (o = 0 ∧ k = 0) ∨ ∃ t k', t < 8 ∧ bt o t = true ∧ o - 2 ^ t < o0 ∧ Rh b B (o - 2 ^ t) k' ∧ k = k' + b t k' ∧ k ≤ B
def PrI (b : Nat → Nat → Nat) (B o0 i j o k : Nat) : Prop := Pr0 b B o0 o k ∨ ∃ t k', t < 8 ∧ bt o t = true ∧ o - 2 ^ t = o0 ∧ (k' < i ∨ (k' = i ∧ t < j)) ∧ Rh b B o0 k' ∧ k = k' + b t k' ∧ k ≤ B
def CB (M : pm_M) (S : Nat) (Pr : Nat → Nat → Prop) : Prop := ∀ o, o < 256 → sbN o S = true → ∀ k, k < 100 → (M.1 178 (100 * o + k) = 1 ∧ Pr o k) ∨ (M.1 178 (100 * o + k) = 0 ∧ ¬ Pr o k)
theorem CB_eq {M : pm_M} {S : Nat} {Pr Pr' : Nat → Nat → Prop} (h : CB M S Pr) (e : ∀ o, o < 256 → sbN o S = true → ∀ k, k < 100 → (Pr o k ↔ Pr' o k)) : CB M S Pr' := by
  intro o ho hs k hk
  rw [← e o ho hs k hk]
  exact h o ho hs k hk
theorem CB_c {M M' : pm_M} {S : Nat} {Pr : Nat → Nat → Prop} (h : CB M S Pr) (e : M'.1 178 = M.1 178) : CB M' S Pr := by
  intro o ho hs k hk
  rw [e]; exact h o ho hs k hk
theorem Pr0_self {b : Nat → Nat → Nat} {B o k : Nat} (ho : o < 256) : Pr0 b B o o k ↔ Rh b B o k := by
  unfold Pr0
  by_cases h0 : o = 0
  · subst h0
    rw [Rh_0]
    constructor
    · rintro (h | ⟨t, k', _, h, _⟩)
      · exact h.2
      · simp [bt] at h
    · intro h; exact Or.inl ⟨rfl, h⟩
  · rw [Rh_step ho h0]
    constructor
    · rintro (h | ⟨t, k', a1, a2, a3, a4⟩)
      · exact absurd h.1 h0
      · exact ⟨t, k', a1, a2, a4⟩
    · rintro ⟨t, k', a1, a2, a4⟩
      have := (rm_k t a1 o ho a2).2.2.1
      have := Nat.two_pow_pos t
      exact Or.inr ⟨t, k', a1, a2, by omega, a4⟩
theorem PrI_self {b : Nat → Nat → Nat} {B o i j k : Nat} (ho : o < 256) : PrI b B o i j o k ↔ Rh b B o k := by
  unfold PrI
  rw [Pr0_self ho]
  constructor
  · rintro (h | ⟨t, k', a1, a2, a3, _⟩)
    · exact h
    · have := (rm_k t a1 o ho a2).2.2.1
      have := Nat.two_pow_pos t
      omega
  · intro h; exact Or.inl h
theorem sp_inADayM {d : Nat} {s : pm_S} {M : pm_M} {g : Nat → Int32} {N T P p B S : Nat} {Q : Int32 → pm_S → pm_M → Prop} (hd : 4 ≤ d) (hg : M.1 160 = g) (hV : Vd g N T P) (hp : p < P) (hB : g (41 + p) = nI B) (hB99 : B ≤ 99) (hS : S < 2 ^ T) (hq : ∀ M', off [164, 165, 178] M M' → Q (nI (bsF (bO g p) B S (S + 1))) s M') : wM_inADay d 30 [.ref 159, .int (nI p), .int (nI S), .int 0, .null, .null, .null, .null, .null] [] s M Q := by
  have h8 := hV.2.2.2.2.2.1
  have h6 := hV.2.2.2.2.2.2.1
  have hok := hV.2.2.2.2.2.2.2.2.2.2.2
  have h256 := pow_le8 h8
  have hS256 : S < 256 := by omega
  have F : (268435456 : Int32) = nI 268435456 := rfl
  refine loop_up (L := fun i M1 => wM_inADay d 30 [.ref 159, .int (nI p), .int (nI S), .int (nI i), .null, .null, .null, .null, .null] [] s M1 Q) (I := fun i M1 => (∀ j, j < i → M1.1 178 j = if j = 0 then 1 else 0) ∧ off [164, 165, 178] M M1) (e := 25600) ?_ ?_ M ⟨fun j h => by omega, off_rf⟩
  · rintro M1 ⟨b1, b2⟩
    refine sgM_inADay_30 (br_t (by decide) ?_)
    have C0 : CB M1 S (Pr0 (bO g p) B 0) := by
      intro o ho hs k hk
      rw [b1 _ (by omega)]
      by_cases z : 100 * o + k = 0
      · rw [if_pos z]
        exact Or.inl ⟨rfl, Or.inl ⟨by omega, by omega⟩⟩
      · rw [if_neg z]
        refine Or.inr ⟨rfl, ?_⟩
        rintro (h | ⟨t, k', _, _, h, _⟩)
        · omega
        · omega
    refine loop_up (L := fun o M2 => wM_inADay d 63 [.ref 159, .int (nI p), .int (nI S), .int (nI (bsF (bO g p) B S o)), .int (nI o), .null, .null, .null, .null] [] s M2 Q) (I := fun o M2 => CB M2 S (Pr0 (bO g p) B o) ∧ off [164, 165, 178] M M2) (e := S + 1) ?_ ?_ M1 ⟨C0, b2⟩
    · rintro M2 ⟨c1, c2⟩
      exact sgM_inADay_63 (br_t (by rw [nI_ltP (by omega) (by omega)]; omega) (hq M2 c2))
    · rintro o M2 ho ⟨c1, c2⟩ hk
      have o256 : o < 256 := by omega
      have bl := bsF_le (b := bO g p) (B := B) (S := S) (n := o) (by omega)
      obtain ⟨p1, p1'⟩ := pc_k o o256
      obtain ⟨p2, p2'⟩ := pc_k _ bl
      have eq : bsF (bO g p) B S (o + 1) = bsS (bO g p) B S o (bsF (bO g p) B S o) := rfl
      rw [eq] at hk
      generalize bsF (bO g p) B S o = m at bl p2 p2' hk ⊢
      unfold bsS at hk
      refine sgM_inADay_63 (br_f (by rw [nI_ltP (by omega) (by omega)]; omega) ?_)
      rw [sub0 o256 hS256, nI_1]
      refine br_c (fun hs => ?_) (fun hs => ?_)
      · have exo : nI S &&& (nI o ^^^ (-1)) = nI (S ^^^ o) := by rw [and_cpl hS256 o256, ← xor_sub o256 hS256 hs]
        have hx := xor_lt (a := S) (b := o) hS256 o256
        refine loop_up (L := fun i M3 => ∀ l5 : Int32, ((l5 = 1 ∧ ∃ k, k < i ∧ Rh (bO g p) B o k) ∨ (l5 = 0 ∧ ∀ k, k < i → ¬ Rh (bO g p) B o k)) → wM_inADay d 87 [.ref 159, .int (nI p), .int (nI S), .int (nI m), .int (nI o), .int l5, .int (nI i), .null, .null] [] s M3 Q) (I := fun i M3 => CB M3 S (PrI (bO g p) B o i 0) ∧ off [164, 165, 178] M M3) (e := 100) ?_ ?_ M2 ⟨CB_eq c1 (fun o' _ _ k _ => ⟨fun h => Or.inl h, fun h => h.elim id (fun ⟨t, k', _, _, _, h, _⟩ => by omega)⟩), c2⟩ 0 (Or.inr ⟨rfl, fun k h => by omega⟩)
        · rintro M3 ⟨d1, d2⟩ l5 h5
          have d1' : CB M3 S (Pr0 (bO g p) B (o + 1)) := CB_eq d1 (fun o' ho' _ k _ => by
            unfold PrI Pr0
            constructor
            · rintro ((h | ⟨t, k', a1, a2, a3, a4⟩) | ⟨t, k', a1, a2, a3, a4, a5⟩)
              · exact Or.inl h
              · exact Or.inr ⟨t, k', a1, a2, by omega, a4⟩
              · exact Or.inr ⟨t, k', a1, a2, by omega, by rw [a3]; exact a5⟩
            · rintro (h | ⟨t, k', a1, a2, a3, a4, a5⟩)
              · exact Or.inl (Or.inl h)
              · by_cases z : o' - 2 ^ t = o
                · refine Or.inr ⟨t, k', a1, a2, z, Or.inl ?_, by rw [← z]; exact a4, a5⟩
                  have := Rh_le (Nat.lt_of_le_of_lt (Nat.sub_le _ _) ho') a4
                  omega
                · exact Or.inl (Or.inr ⟨t, k', a1, a2, by omega, a4, a5⟩))
          have zf : (∃ k, k < 100 ∧ Rh (bO g p) B o k) ↔ fd (bO g p) B o 0 = 0 := by
            rw [← Rh_iff o256]
            exact ⟨fun ⟨k, _, h⟩ => ⟨k, h⟩, fun ⟨k, h⟩ => ⟨k, by have := Rh_le o256 h; omega, h⟩⟩
          refine sgM_inADay_87 (br_t (by decide) ?_)
          rcases h5 with ⟨h5, hex⟩ | ⟨h5, hno⟩
          · have fz := zf.mp hex
            refine br_f (by rw [h5]; decide) (sp_bitsOf (by omega) (sp_bitsOf (by omega) ?_))
            rw [p1, p2, nI_1]
            simp only [nI_leP (a := pcN o) (b := pcN m) (by omega) (by omega)]
            have := hk M3 ⟨d1', d2⟩
            by_cases y : pcN o ≤ pcN m
            · rw [if_pos y]
              rw [if_neg (by omega)] at this
              exact this
            · rw [if_neg y]
              rw [if_pos ⟨hs, by omega, fz⟩] at this
              exact this
          · refine br_t h5 ?_
            rw [nI_1]
            have := hk M3 ⟨d1', d2⟩
            rw [if_neg (fun q => by obtain ⟨k, h1, h2⟩ := zf.mpr q.2.2; exact hno k h1 h2)] at this
            exact this
        · rintro i M3 hi ⟨d1, d2⟩ hk3 l5 h5
          refine sgM_inADay_87 (br_f (by rw [lI 99, nI_ltP (by omega) (by omega)]; omega) ?_)
          rw [lI 100, pk_mul, nI_add, nI_clamp (by omega), nI_1]
          refine ⟨vpI (by omega) (by omega), ?_⟩
          rcases d1 o o256 hs i hi with ⟨y1, y2⟩ | ⟨y1, y2⟩
          · rw [PrI_self o256] at y2
            refine br_f (by rw [y1]; decide) ?_
            refine loop_up (L := fun j M4 => wM_inADay d 119 [.ref 159, .int (nI p), .int (nI S), .int (nI m), .int (nI o), .int 1, .int (nI i), .int (nI j), .null] [] s M4 Q) (I := fun j M4 => CB M4 S (PrI (bO g p) B o i j) ∧ off [164, 165, 178] M M4) (e := 8) ?_ ?_ M3 ⟨d1, d2⟩
            · rintro M4 ⟨f1, f2⟩
              refine sgM_inADay_119 (br_t (by decide) ?_)
              rw [nI_1]
              refine hk3 M4 ⟨CB_eq f1 (fun o' _ _ k _ => ?_), f2⟩ 1 (Or.inl ⟨rfl, i, by omega, y2⟩)
              unfold PrI
              constructor
              · rintro (h | ⟨t, k', a1, a2, a3, a4, a5⟩)
                · exact Or.inl h
                · exact Or.inr ⟨t, k', a1, a2, a3, Or.inl (by omega), a5⟩
              · rintro (h | ⟨t, k', a1, a2, a3, a4, a5⟩)
                · exact Or.inl h
                · exact Or.inr ⟨t, k', a1, a2, a3, by omega, a5⟩
            · rintro j M4 hj ⟨f1, f2⟩ hk4
              have g4 := r160 f2 (by decide) hg
              have same' : (∀ o', o' < 256 → sbN o' S = true → bt o' j = true → o' - 2 ^ j = o → ¬ i + bO g p j i ≤ B) → ∀ M5, off [164, 165] M4 M5 → wM_inADay d 119 [.ref 159, .int (nI p), .int (nI S), .int (nI m), .int (nI o), .int 1, .int (nI i), .int (nI (j + 1)), .null] [] s M5 Q := by
                intro hn M5 o5
                refine hk4 M5 ⟨CB_eq (CB_c f1 (o5 178 (by decide)).1) (fun o' ho' hs' k _ => ?_), off_tr f2 (off_mo o5 (by decide))⟩
                unfold PrI
                constructor
                · rintro (h | ⟨t, k', a1, a2, a3, a4, a5⟩)
                  · exact Or.inl h
                  · exact Or.inr ⟨t, k', a1, a2, a3, by omega, a5⟩
                · rintro (h | ⟨t, k', a1, a2, a3, a4, a5, a6, a7⟩)
                  · exact Or.inl h
                  · by_cases z : k' = i ∧ t = j
                    · obtain ⟨z1, z2⟩ := z
                      subst z1
                      subst z2
                      exact absurd (by omega) (hn o' ho' hs' a2 a3)
                    · exact Or.inr ⟨t, k', a1, a2, a3, by omega, a5, a6, a7⟩
              refine sgM_inADay_119 (br_f (by rw [lI 8, nI_leP (by omega) (by omega)]; omega) ?_)
              rw [exo]
              refine sp_isIn (by omega) (by omega) (by omega) ?_
              cases cb : bt (S ^^^ o) j with
              | false =>
                refine br_t rfl (sgM_inADay_160 ?_)
                rw [lI 41, nI_add, nI_clamp (by omega), g4, hB, F, nI_1]
                refine ⟨vpI (by omega) (by omega), br_t (by rw [nI_ltP (by omega) (by omega)]; omega) (same' (fun o' ho' hs' hb' e' => ?_) M4 off_rf)⟩
                exfalso
                have oj : bt o j = false := by rw [← e', bt_rm ho' hj hb']; simp
                have Sj := sb_bt ho' hS256 hs' hb'
                rw [bt_xor, oj, Sj] at cb
                cases cb
              | true =>
                obtain ⟨m1, m2, m3, m4, m5, m6⟩ := op_more hS256 o256 hj hs cb
                have bo := bO_le (g := g) (p := p) (t := j) (k := i)
                refine br_f (by decide) (sp_burdenOf (g := g) (by omega) g4 hok (by omega) hj (fun M5 o5 => sgM_inADay_160 ?_))
                have g5 := r160 o5 (by decide) g4
                rw [(bnF_k g p j 0 i).1, lI 41, nI_add, nI_clamp (by omega), g5, hB, or_k j hj o o256, lI 100, pk_mul, nI_1]
                change vp_in (nI (41 + p)) 3870 ∧ ((nI B < nI i + nI (bO g p j i) → _) ∧ (¬ nI B < nI i + nI (bO g p j i) → vp_in (nI (100 * (o ||| 2 ^ j)) + (nI i + nI (bO g p j i))) 25600 ∧ wM_inADay d 119 [.ref 159, .int (nI p), .int (nI S), .int (nI m), .int (nI o), .int 1, .int (nI i), .int (nI (j + 1)), .null] [] s (pm_si M5 178 (nI (100 * (o ||| 2 ^ j)) + (nI i + nI (bO g p j i))).toNatClampNeg 1) Q))
                rw [nI_add, nI_add, nI_clamp (by omega), nI_ltP (by omega) (by omega)]
                refine ⟨vpI (by omega) (by omega), br_c (fun z => same' (fun _ _ _ _ _ => by omega) M5 o5) (fun z => ⟨vpI (by omega) (by omega), hk4 _ ⟨?_, off_si (off_tr f2 (off_mo o5 (by decide))) (by decide)⟩⟩)⟩
                intro o' ho' hs' k hk'
                rw [si_eq]
                by_cases e : 100 * o' + k = 100 * (o ||| 2 ^ j) + (i + bO g p j i)
                · have eo : o' = o ||| 2 ^ j := by omega
                  have ek : k = i + bO g p j i := by omega
                  rw [e, row_eq]
                  left
                  refine ⟨rfl, Or.inr ⟨j, i, hj, ?_, ?_, by omega, y2, ek, by omega⟩⟩
                  · rw [eo, bt_or]; simp
                  · rw [eo, or_sub o256 hj m1]
                · rw [row_ne e, (o5 178 (by decide)).1]
                  have iff : PrI (bO g p) B o i j o' k ↔ PrI (bO g p) B o i (j + 1) o' k := by
                    unfold PrI
                    constructor
                    · rintro (h | ⟨t, k', a1, a2, a3, a4, a5⟩)
                      · exact Or.inl h
                      · exact Or.inr ⟨t, k', a1, a2, a3, by omega, a5⟩
                    · rintro (h | ⟨t, k', a1, a2, a3, a4, a5, a6, a7⟩)
                      · exact Or.inl h
                      · by_cases y : k' = i ∧ t = j
                        · obtain ⟨z1, z2⟩ := y
                          subst z1
                          subst z2
                          exfalso
                          refine e ?_
                          have : o' = o ||| 2 ^ t := by
                            apply bt_ext
                            intro u
                            rw [bt_or, ← a3, bt_rm ho' hj a2]
                            by_cases eu : t = u
                            · subst eu; rw [a2]; simp
                            · simp [eu]
                          omega
                        · exact Or.inr ⟨t, k', a1, a2, a3, by omega, a5, a6, a7⟩
                  rw [← iff]
                  exact f1 o' ho' hs' k hk'
          · rw [PrI_self o256] at y2
            refine br_t y1 (hk3 M3 ⟨CB_eq d1 (fun o' _ _ k _ => ?_), d2⟩ l5 ?_)
            · unfold PrI
              constructor
              · rintro (h | ⟨t, k', a1, a2, a3, a4, a5⟩)
                · exact Or.inl h
                · exact Or.inr ⟨t, k', a1, a2, a3, Or.inl (by omega), a5⟩
              · rintro (h | ⟨t, k', a1, a2, a3, a4, a5, a6⟩)
                · exact Or.inl h
                · refine Or.inr ⟨t, k', a1, a2, a3, Or.inl ?_, a5, a6⟩
                  have : k' ≠ i := fun z => y2 (z ▸ a5)
                  omega
            · rcases h5 with ⟨h5, k, h1, h2⟩ | ⟨h5, hno⟩
              · exact Or.inl ⟨h5, k, by omega, h2⟩
              · refine Or.inr ⟨h5, fun k h1 h2 => ?_⟩
                by_cases z : k = i
                · subst z; exact y2 h2
                · exact hno k (by omega) h2
      · rw [if_neg (fun q => hs q.1)] at hk
        refine hk M2 ⟨CB_eq c1 (fun o' ho' hs' k _ => ?_), c2⟩
        unfold Pr0
        constructor
        · rintro (h | ⟨t, k', a1, a2, a3, a4⟩)
          · exact Or.inl h
          · exact Or.inr ⟨t, k', a1, a2, by omega, a4⟩
        · rintro (h | ⟨t, k', a1, a2, a3, a4⟩)
          · exact Or.inl h
          · refine Or.inr ⟨t, k', a1, a2, ?_, a4⟩
            have : o' - 2 ^ t ≠ o := fun z => hs (by rw [← z]; exact sb_rm ho' hS256 a1 hs' a2)
            omega
  · rintro i M1 hi ⟨b1, b2⟩ hk
    refine sgM_inADay_30 (br_f (by rw [lI 25600, nI_leP (by omega) (by omega)]; omega) ⟨vpI (by omega) (by omega), ?_⟩)
    rw [nI_clamp (by omega), nI_1, l0]
    simp only [nI_inj (a := i) (b := 0) (by omega) (by omega)]
    refine hk _ ⟨fun j hj => ?_, off_si b2 (by decide)⟩
    rw [si_eq]
    by_cases e : j = i
    · subst e; rw [row_eq]; rfl
    · rw [row_ne e]; exact b1 j (by omega)
theorem op_inADay {L d : Nat} {s : pm_S} {M : pm_M} {v u : Int32} (hd : 40 ≤ d) (hI : Inv L s M) : cI d yG_inADay [.ref 0, .int v, .int u] s M (fun r s1 M1 => cI d yM_inADay [.ref 159, .int v, .int u] s1 M1 (same L r)) := by
  obtain ⟨d, rfl⟩ : ∃ e, d = e + 1 := ⟨d - 1, by omega⟩
  obtain ⟨g, N, T, P, x, n, hc⟩ := Inv_ctx hI
  have rd := ctx_read hc
  obtain ⟨a1, a2, a3, a4, a5, a6, a7, a8, a9, a10, a11, a12, a13⟩ := hc
  have h8 : T ≤ 8 := a4.2.2.2.2.2.2.1
  have h6 : P ≤ 6 := a4.2.2.2.2.2.2.2.1
  have h256 := pow_le8 h8
  have h2 := a4.2.2.1
  have h3 := a4.2.2.2.1
  have e0 : (pm_si M 159 0 0).1 160 = g := by rw [si_ne (by decide)]; exact a3
  refine enG_inADay (sp_openingCode (by omega) (a4.1.2.1.trans h2) (a4.1.2.2.1.trans h3) h8 h6 (fun hv => br_f (by decide) ?_) (fun hv hu => br_f (by decide) ?_) (fun hv hu => br_t rfl ?_))
  · exact enM_inADay (sp_isPerson (n := P) (by omega) (by rw [e0]; exact h3) h6 (fun z => absurd ((inN_i (by omega)).mp z) hv) (fun _ => br_t rfl ⟨rfl, rd⟩))
  · exact enM_inADay (sp_isPerson (n := P) (by omega) (by rw [e0]; exact h3) h6 (fun _ => br_f (by decide) (sp_isSet (by omega) (by rw [e0]; exact h2) h8 (fun z => absurd z hu) (fun _ => br_t rfl ⟨rfl, rd⟩))) (fun z => absurd ((inN_i (by omega)).mpr hv) z))
  · have hv' := (inN_i (p := v) (n := P) (by omega)).mpr hv
    have hu' := hu
    obtain ⟨p, hp, rfl⟩ := hv
    obtain ⟨S, hS, rfl⟩ := hu
    obtain ⟨B, hB99, hB⟩ := (a4.2.2.2.2.2.2.2.2.2.2.1 p hp).2
    refine sp_nbegin (L := L) (by omega) a1 a4 a10 hp hB hB99 (fun s' M1 ok' hs' n1 o1 => ?_)
    refine sp_mostInADay (by omega) hs' a4.2 hp hB99 hS (LR_off o1 a4.1 (by decide)) n1 (fun M2 o2 => ?_)
    have s2 : Scr M M2 := Scr_tr (Scr_off o1 (by decide)) (Scr_off o2 (by decide))
    have s3 := Scr_tr s2 (Scr_159 (M := M2) (k := 0) (v := 0) (by omega))
    have g3 := (Scr_c s3 (c := 160) (by decide)).trans a3
    refine enM_inADay (sp_isPerson (n := P) (by omega) (by rw [g3]; exact h3) h6 (fun _ => br_f (by decide) ?_) (fun z => absurd hv' z))
    refine sp_isSet (by omega) (by rw [g3]; exact h2) h8 (fun _ => br_f (by decide) ?_) (fun z => absurd hu' z)
    exact sp_inADayM (by omega) g3 a4.2 hp hB hB99 hS (fun M3 o3 => ⟨rfl, Inv_Scr hI ok' (Scr_tr s3 (Scr_off o3 (by decide)))⟩)
