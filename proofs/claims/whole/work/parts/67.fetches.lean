/-- who has most, above 0, the first, one left aside -/
def moS (c : Nat → Int32) (a : Option Nat) (p : Nat) (b : Option Nat × Int32) : Option Nat × Int32 := if some p = a then b else if c p ≤ b.2 then b else (some p, c p)
def moF (c : Nat → Int32) (a : Option Nat) (n : Nat) : Option Nat × Int32 := itr (moS c a) n (none, 0)
theorem moF_s {c : Nat → Int32} {a : Option Nat} {n : Nat} : moF c a (n + 1) = moS c a n (moF c a n) := rfl
theorem moF_aside {c : Nat → Int32} {a n : Nat} (h : n ≤ a) : moF c (some a) n = moF c none n := by
  unfold moF
  refine itr_congr (fun p hp x => ?_)
  unfold moS
  have e : ¬ some p = some a := by simp; omega
  have e2 : ¬ some p = none := by simp
  simp only [if_neg e, if_neg e2]
theorem moF_ok {c : Nat → Int32} {a : Option Nat} {n : Nat} : ((moF c a n).1 = none → (moF c a n).2 = 0) ∧ ∀ p, (moF c a n).1 = some p → p < n ∧ c p = (moF c a n).2 := by
  unfold moF
  refine itr_inv (f := moS c a) (n := n) (a := (none, 0)) (fun i b => (b.1 = none → b.2 = 0) ∧ ∀ p, b.1 = some p → p < i ∧ c p = b.2) ⟨fun _ => rfl, fun p h => by cases h⟩ (fun i b hi hb => ?_)
  unfold moS
  split
  · exact ⟨hb.1, fun p hp => ⟨by have := (hb.2 p hp).1; omega, (hb.2 p hp).2⟩⟩
  · split
    · exact ⟨hb.1, fun p hp => ⟨by have := (hb.2 p hp).1; omega, (hb.2 p hp).2⟩⟩
    · refine ⟨fun h => (by cases h), fun p hp => ?_⟩
      cases hp
      exact ⟨by omega, rfl⟩
def seS (c : Nat → Int32) (p : Nat) (b : (Option Nat × Int32) × Int32) : (Option Nat × Int32) × Int32 := if c p ≤ b.1.2 then (b.1, if c p ≤ b.2 then b.2 else c p) else ((some p, c p), b.1.2)
def seV (c : Nat → Int32) (n : Nat) : Int32 := match (moF c none n).1 with
  | none => 0
  | some a => (moF c (some a) n).2
theorem se_mo {c : Nat → Int32} {n : Nat} : itr (seS c) n ((none, 0), 0) = (moF c none n, seV c n) := by
  induction n with
  | zero => rfl
  | succ n ih =>
    rw [itr_s, ih]
    unfold seS
    dsimp only
    have ok := moF_ok (c := c) (a := none) (n := n)
    have e : moF c none (n + 1) = if c n ≤ (moF c none n).2 then moF c none n else (some n, c n) := by
      rw [moF_s]; unfold moS; rw [if_neg (by simp)]
    by_cases h : c n ≤ (moF c none n).2
    · rw [if_pos h] at e
      rw [if_pos h]
      unfold seV
      rw [e]
      cases q : (moF c none n).1 with
      | none =>
        have z := ok.1 q
        rw [z] at h
        dsimp only
        rw [if_pos h]
      | some a =>
        dsimp only
        have ha := (ok.2 a q).1
        rw [moF_s]
        unfold moS
        have e3 : ¬ some n = some a := by simp; omega
        simp only [if_neg e3]
        by_cases h2 : c n ≤ (moF c (some a) n).2
        · rw [if_pos h2, if_pos h2]
        · rw [if_neg h2, if_neg h2]
    · rw [if_neg h] at e
      rw [if_neg h]
      unfold seV
      rw [e]
      dsimp only
      rw [moF_s]
      unfold moS
      rw [if_pos rfl, moF_aside (Nat.le_refl _)]
theorem oI_eq {p : Nat} {a : Option Nat} (hp : p < 100) (ha : ∀ i, a = some i → i < 100) : (nI p = oI a) = (some p = a) := by
  cases a with
  | none => simp [oI, m1_ne (a := p) (by omega)]
  | some i =>
    have := ha i rfl
    simp only [oI]
    rw [nI_inj (by omega) (by omega)]
    simp
theorem sp_mostOf {d : Nat} {s : pm_S} {M : pm_M} {g : Nat → Int32} {T P t : Nat} {a : Option Nat} {Q : Int32 → pm_S → pm_M → Prop} (hd : 2 ≤ d) (hK : KR M g T P) (h8 : T ≤ 8) (h6 : P ≤ 6) (ht : t < T) (ha : ∀ i, a = some i → i < P) (hq : Q (oI (moF (fun p => clF g p t) a P).1) s M) : cI d yK_mostOf [.ref 41, .int (nI t), .int (nI P), .int (oI a)] s M Q := by
  obtain ⟨d, rfl⟩ : ∃ e, d = e + 1 := ⟨d - 1, by omega⟩
  refine enK_mostOf ?_
  refine loop_itr (L := fun i (b : Option Nat × Int32) => wK_mostOf d 9 [.ref 41, .int (nI t), .int (nI P), .int (oI a), .int (oI b.1), .int b.2, .int (nI i)] [] s M Q) (f := moS (fun p => clF g p t) a) (e := P) (a0 := (none, 0)) ?_ ?_
  · exact sgK_mostOf_9 (br_t (by rw [nI_leP (by omega) (by omega)]; exact Nat.le_refl _) hq)
  · intro p hp hk
    generalize itr (moS (fun p => clF g p t) a) p (none, 0) = b at hk ⊢
    refine sgK_mostOf_9 (br_f (by rw [nI_leP (by omega) (by omega)]; omega) ?_)
    rw [oI_eq (by omega) (fun i hi => by have := ha i hi; omega), nI_1]
    unfold moS at hk
    refine br_c (fun c => ?_) (fun c => ?_)
    · rw [if_pos c] at hk; exact hk
    · rw [if_neg c] at hk
      refine sp_of (by omega) hK h8 h6 hp ht (br_c (fun c2 => ?_) (fun c2 => ?_))
      · rw [if_pos c2] at hk; exact hk
      · rw [if_neg c2] at hk
        exact sp_of (by omega) hK h8 h6 hp ht hk
theorem op_fetches {L d : Nat} {s : pm_S} {M : pm_M} {v u : Int32} (hd : 12 ≤ d) (hI : Inv L s M) : cI d yG_fetches [.ref 0, .int v, .int u] s M (fun r s1 M1 => cI d yM_fetches [.ref 159, .int v, .int u] s1 M1 (same L r)) := by
  obtain ⟨d, rfl⟩ : ∃ e, d = e + 1 := ⟨d - 1, by omega⟩
  obtain ⟨g, N, T, P, x, n, hc⟩ := Inv_ctx hI
  have rd := ctx_read hc
  obtain ⟨a1, a2, a3, a4, a5, a6, a7, a8, a9, a10, a11, a12, a13⟩ := hc
  have h8 : T ≤ 8 := a4.2.2.2.2.2.2.1
  have h6 : P ≤ 6 := a4.2.2.2.2.2.2.2.1
  have h2 := a4.2.2.1
  have h3 := a4.2.2.2.1
  have g0 : (pm_si M 159 0 0).1 160 = g := by rw [si_ne (by decide)]; exact a3
  have no : ¬ (inI v T ∧ inI u 2) → cI (d + 1) yM_fetches [.ref 159, .int v, .int u] s M (same L (-2)) := by
    intro h
    refine enM_fetches (sp_isThing (n := T) (by omega) (by rw [g0]; exact h2) h8 (fun q => br_f (by decide) ?_) (fun _ => br_t rfl ⟨rfl, rd⟩))
    rw [lL 0, lL 1]
    exact sp_within2 (by omega) (fun q2 => absurd ⟨(inN_i (by omega)).mp q, (wi_inI (by omega)).mp q2⟩ h) (fun _ => br_t rfl ⟨rfl, rd⟩)
  refine enG_fetches (sp_hasThing (by omega) isL_15 (a4.1.2.1.trans h2) h8 (fun hv => br_f (by decide) ?_) (fun hv => br_t rfl (no (fun q => hv q.1))))
  refine br_c (fun c => no (fun q => ?_)) (fun c1 => br_c (fun c2 => ?_) (fun c2 => no (fun q => ?_)))
  · have := q.2; rw [inI_iff (by omega)] at this; exact this.1 c
  rotate_left
  · obtain ⟨k, hk, rfl⟩ := q.2
    exact c2 (by rw [l1, nI_leP (by omega) (by omega)]; omega)
  have hu : inI u 2 := by
    obtain ⟨k, hk, rfl⟩ := nI_of c1
    rw [l1, nI_leP (by omega) (by omega)] at c2
    exact ⟨k, by omega, rfl⟩
  have hvv := hv
  obtain ⟨t, ht, rfl⟩ := hv
  refine sp_gather (by omega) a4 a10 (fun M1 hK o1 => ?_)
  have e15 : M1.1 15 2 = nI P := by rw [(o1 15 (by decide)).1]; exact a4.1.2.2.1.trans h3
  have g1 : M1.1 160 = g := r160 o1 (by decide) a3
  have ref : ∀ ans, (if u = 0 then oI (moF (fun p => clF g p t) none P).1 else seV (fun p => clF g p t) P) = ans → cI (d + 1) yM_fetches [.ref 159, .int (nI t), .int u] s M1 (same L ans) := by
    intro ans ha
    refine enM_fetches (sp_isThing (n := T) (by omega) (by rw [si_ne (by decide), g1]; exact h2) h8 (fun q => br_f (by decide) ?_) (fun q => absurd ((inN_i (by omega)).mpr hvv) q))
    rw [lL 0, lL 1]
    refine sp_within2 (by omega) (fun q => br_f (by decide) ?_) (fun q => absurd ((wi_inI (by omega)).mpr hu) q)
    refine loop_mem (L := fun i (b : (Option Nat × Int32) × Int32) M2 => wM_fetches d 38 [.ref 159, .int (nI t), .int u, .int (oI b.1.1), .int b.1.2, .int b.2, .int (nI i), .null] [] s M2 (same L ans)) (I := fun _ M2 => off [159, 164, 165] M1 M2 ∧ (∀ k, k ≠ 0 → M2.1 159 k = M1.1 159 k)) (f := seS (fun p => clF g p t)) (e := P) (a0 := ((none, 0), 0)) ?_ ?_ _ ⟨off_si off_rf (by decide), fun k hk => by rw [si_eq, row_ne hk]⟩
    · intro M2 h
      rw [se_mo]
      refine sgM_fetches_38 (br_t (by rw [r160 h.1 (by decide) g1, h3, nI_leP (by omega) (by omega)]; exact Nat.le_refl _) ⟨ha.symm, Inv_scr hI a1 (off_tr (off_mo o1 (by decide)) (off_mo h.1 (by decide))) ?_ ?_ ?_⟩)
      · rw [h.2 5 (by omega), (o1 159 (by decide)).1]
      · rw [h.2 13 (by omega), (o1 159 (by decide)).1]
      · rw [h.2 14 (by omega), (o1 159 (by decide)).1]
    · intro p M2 hp h hk
      generalize itr (seS (fun p => clF g p t)) p _ = b at hk ⊢
      have g2 := r160 h.1 (by decide) g1
      refine sgM_fetches_38 (br_f (by rw [g2, h3, nI_leP (by omega) (by omega)]; omega) (sp_claimsOf (g := g) (by omega) g2 a4.2.2.2.2.2.2.2.2.2.2.2.1 (by omega) (by omega) (fun M3 o3 => ?_)))
      have h' : off [159, 164, 165] M1 M3 ∧ (∀ k, k ≠ 0 → M3.1 159 k = M1.1 159 k) := ⟨off_tr h.1 (off_mo o3 (by decide)), fun k hk => by rw [(o3 159 (by decide)).1]; exact h.2 k hk⟩
      have := hk M3 h'
      rw [nI_1]
      unfold seS at this
      refine br_c (fun c => ?_) (fun c => ?_)
      · have c' : clF g p t ≤ b.1.2 := c
        rw [if_pos c'] at this
        exact this
      · have c' : ¬ clF g p t ≤ b.1.2 := c
        rw [if_neg c'] at this
        exact this
  have ok := moF_ok (c := fun p => clF g p t) (a := none) (n := P)
  rw [e15]
  refine sp_mostOf (a := none) (by omega) hK h8 h6 ht (fun i hi => by cases hi) ?_
  unfold seV at ref
  refine br_c (fun c => ref _ (by rw [if_pos c, if_pos c])) (fun c => ?_)
  rw [oI_m1 (fun i hi => by have := (ok.2 i hi).1; omega)]
  refine br_c (fun c3 => ref _ (by rw [if_neg c, if_neg c, c3])) (fun c3 => ?_)
  cases hw : (moF (fun p => clF g p t) none P).1 with
  | none => exact absurd hw c3
  | some w =>
    have hwP := (ok.2 w hw).1
    have ok2 := moF_ok (c := fun p => clF g p t) (a := some w) (n := P)
    rw [e15]
    refine sp_mostOf (a := some w) (by omega) hK h8 h6 ht (fun i hi => by cases hi; exact hwP) ?_
    rw [oI_m1 (fun i hi => by have := (ok2.2 i hi).1; omega)]
    rw [hw] at ref
    refine br_c (fun c4 => ref _ (by rw [if_neg c]; exact ok2.1 c4)) (fun c4 => ?_)
    cases hz : (moF (fun p => clF g p t) (some w) P).1 with
    | none => exact absurd hz c4
    | some y =>
      have q := ok2.2 y hz
      refine sp_of (by omega) hK h8 h6 q.1 ht (ref _ ?_)
      rw [if_neg c]
      exact q.2.symm
