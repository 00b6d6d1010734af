def clF (g : Nat → Int32) (p t : Nat) : Int32 := claimF g (g (66 + p)) p t
/-- the class's table tells the claims -/
def KR (M : pm_M) (g : Nat → Int32) (T P : Nat) : Prop := ∀ p t, p < P → t < T → M.1 42 (8 * p + t) = clF g p t
theorem sp_gather {d : Nat} {s : pm_S} {M : pm_M} {g : Nat → Int32} {N T P : Nat} {Q : pm_S → pm_M → Prop} (hd : 4 ≤ d) (hl : LV M g N T P) (hs : SR M 27 g T P) (hq : ∀ M', KR M' g T P → off [25, 26, 42] M M' → Q s M') : cV d yK_gather [.ref 41, .ref 15, .ref 27] s M Q := by
  obtain ⟨d, rfl⟩ : ∃ e, d = e + 1 := ⟨d - 1, by omega⟩
  obtain ⟨hL, hV⟩ := hl
  obtain ⟨h1, h2, h3, h4, h5, h8, h6, _⟩ := hV
  refine enK_gather ?_
  refine loop_up (L := fun i M1 => wK_gather d 2 [.ref 41, .ref 15, .ref 27, .int (nI i), .null] [] s M1 Q) (I := fun i M1 => (∀ p t, p < i → t < T → M1.1 42 (8 * p + t) = clF g p t) ∧ off [25, 26, 42] M M1) (e := P) ?_ ?_ M ⟨fun p t h => by omega, off_rf⟩
  · intro M1 h
    have hL1 : LR M1 15 g T P := LR_off h.2 hL (by decide)
    refine sgK_gather_2 (br_c (fun c => hq M1 h.1 h.2) (fun c => sp_hasPerson (by omega) (hL1.2.2.1.trans h3) h6 (fun q => ?_) (fun q => br_t rfl (hq M1 h.1 h.2))))
    obtain ⟨j, hj, e⟩ := q
    rw [nI_inj (by omega) (by omega)] at e
    omega
  · intro p M1 hp h hk
    have hL1 : LR M1 15 g T P := LR_off h.2 hL (by decide)
    refine sgK_gather_2 (br_f (by rw [lI 6, nI_leP (by omega) (by omega)]; omega) (sp_hasPerson (by omega) (hL1.2.2.1.trans h3) h6 (fun q => br_f (by decide) ?_) (fun q => absurd ⟨p, hp, rfl⟩ q)))
    refine loop_up (L := fun j M2 => wK_gather d 19 [.ref 41, .ref 15, .ref 27, .int (nI p), .int (nI j)] [] s M2 Q) (I := fun j M2 => (∀ p' t, p' < p → t < T → M2.1 42 (8 * p' + t) = clF g p' t) ∧ (∀ t, t < j → M2.1 42 (8 * p + t) = clF g p t) ∧ off [25, 26, 42] M M2) (e := T) ?_ ?_ M1 ⟨h.1, fun t h => by omega, h.2⟩
    · intro M2 h2'
      have hL2 : LR M2 15 g T P := LR_off h2'.2.2 hL (by decide)
      have fin : wK_gather d 2 [.ref 41, .ref 15, .ref 27, .int (nI p + 1), .null] [] s M2 Q := by
        rw [nI_1]
        refine hk M2 ⟨fun p' t a b => ?_, h2'.2.2⟩
        by_cases e : p' = p
        · subst e; exact h2'.2.1 t b
        · exact h2'.1 p' t (by omega) b
      refine sgK_gather_19 (br_c (fun c => fin) (fun c => sp_hasThing (by omega) isL_15 (hL2.2.1.trans h2) h8 (fun q => ?_) (fun q => br_t rfl fin)))
      obtain ⟨j, hj, e⟩ := q
      rw [nI_inj (by omega) (by omega)] at e
      omega
    · intro t M2 ht h2' hk2
      obtain ⟨q1, q2, q3⟩ := h2'
      have hL2 : LR M2 15 g T P := LR_off q3 hL (by decide)
      refine sgK_gather_19 (br_f (by rw [lI 8, nI_leP (by omega) (by omega)]; omega) (sp_hasThing (by omega) isL_15 (hL2.2.1.trans h2) h8 (fun q => br_f (by decide) ⟨vpI (by omega) (by omega), ?_⟩) (fun q => absurd ⟨t, ht, rfl⟩ q)))
      have e30 : M2.1 30 p = g (66 + p) := by
        rw [(q3 30 (by decide)).1]; exact (hs.2.2.2.2.1 p hp).1
      rw [nI_clamp (by omega), e30]
      refine sp_claimBy (by omega) hL2 h2 h8 ht (fun M3 o3 => ?_)
      rw [lI 8, pk_mul, nI_add, nI_clamp (by omega), nI_1]
      have e42 : M3.1 42 = M2.1 42 := (o3 42 (by decide)).1
      refine ⟨vpI (by omega) (by omega), hk2 _ ⟨fun p' t' a b => ?_, fun t' a => ?_, off_si (off_tr q3 (off_mo o3 (by decide))) (by decide)⟩⟩
      · rw [si_eq, row_ne (by omega), e42]; exact q1 p' t' a b
      · rw [si_eq, e42]
        by_cases e : t' = t
        · subst e
          rw [show 8 * p + t' = p * 8 + t' by omega, row_eq]; rfl
        · rw [row_ne (by omega)]; exact q2 t' (by omega)
theorem sp_of {d : Nat} {s : pm_S} {M : pm_M} {g : Nat → Int32} {T P p t : Nat} {Q : Int32 → pm_S → pm_M → Prop} (hd : 1 ≤ d) (hK : KR M g T P) (h8 : T ≤ 8) (h6 : P ≤ 6) (hp : p < P) (ht : t < T) (hq : Q (clF g p t) s M) : cI d yK_of [.ref 41, .int (nI p), .int (nI t)] s M Q := by
  obtain ⟨d, rfl⟩ : ∃ e, d = e + 1 := ⟨d - 1, by omega⟩
  refine enK_of (br_f (nI_pos (by omega)) (br_f (by rw [lI 6, nI_leP (by omega) (by omega)]; omega) (br_f (nI_pos (by omega)) (br_t (by rw [lI 8, nI_ltP (by omega) (by omega)]; omega) ?_))))
  rw [lI 8, pk_mul, nI_add, nI_clamp (by omega)]
  refine ⟨vpI (by omega) (by omega), ?_⟩
  rw [show p * 8 + t = 8 * p + t by omega, hK p t hp ht]
  exact hq
theorem KR_off {S : List Nat} {M M' : pm_M} {g : Nat → Int32} {T P : Nat} (h : off S M M') (hS : 42 ∉ S) (hK : KR M g T P) : KR M' g T P := fun p t a b => by rw [(h 42 hS).1]; exact hK p t a b
/-- nothing came of it: the class used scratch cells alone -/
theorem ctx_scr {L : Nat} {s s' : pm_S} {M0 M1 M2 : pm_M} (hI : Inv L s M0) (hs : okS L s') (h1 : ∀ c, c ∉ SC → M1.1 c = M0.1 c) (h1' : ∀ c, c ∈ KEEP → M1.2 c = M0.2 c) (h9 : M1.1 159 = M0.1 159) (h2 : ∀ c, c ∉ SC → M2.1 c = M1.1 c) (h2' : ∀ c, c ∈ KEEP → M2.2 c = M1.2 c) (h5 : M2.1 159 5 = M1.1 159 5) (h13 : M2.1 159 13 = M1.1 159 13) (h14 : M2.1 159 14 = M1.1 159 14) : Inv L s' M2 :=
  Inv_scr1 hI hs (fun c hc => (h2 c hc).trans (h1 c hc)) (fun c hc => (h2' c hc).trans (h1' c hc)) (by rw [h5, h9]) (by rw [h13, h9]) (by rw [h14, h9])
