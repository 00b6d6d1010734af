theorem sp_someBy {d : Nat} {s : pm_S} {M : pm_M} {g : Nat → Int32} {T P p : Nat} {Q : Int32 → pm_S → pm_M → Prop} (hd : 2 ≤ d) (hK : KR M g T P) (h8 : T ≤ 8) (h6 : P ≤ 6) (hp : p < P) (hq : Q (if someB (clF g) T p = true then 1 else 0) s M) : cI d yK_someBy [.ref 41, .int (nI p), .int (nI T)] s M Q := by
  obtain ⟨d, rfl⟩ : ∃ e, d = e + 1 := ⟨d - 1, by omega⟩
  refine enK_someBy ?_
  refine loop_fst (L := fun i => wK_someBy d 2 [.ref 41, .int (nI p), .int (nI T), .int (nI i)] [] s M Q) (P := fun t => decide (0 < clF g p t)) (e := T) (K := fun r => Q (if r.isSome = true then 1 else 0) s M) hq ?_ ?_
  · intro hn
    exact sgK_someBy_2 (br_t (by rw [nI_leP (by omega) (by omega)]; exact Nat.le_refl _) hn)
  · intro t ht k1 k2
    refine sgK_someBy_2 (br_f (by rw [nI_leP (by omega) (by omega)]; omega) (sp_of (by omega) hK h8 h6 hp ht (br_c (fun z => ?_) (fun z => ?_))))
    · rw [nI_1]
      exact k2 (by simp [i_nlt z])
    · exact k1 (by simp [i_lt z])
theorem sp_mostGiven {s : pm_S} {M : pm_M} {g : Nat → Int32} {c : Nat → Nat → Int32} {T P m : Nat} (hg : M.1 160 = g) (h2 : g 2 = nI T) (h3 : g 3 = nI P) (hm : M.1 159 26 = nI m) (hmP : m < P) (hK : KM M c T P) (h8 : T ≤ 8) (h6 : P ≤ 6) : ∀ k p S d (Q : Int32 → pm_S → pm_M → Prop), p + k = P → k + 3 ≤ d → S < 2 ^ T → Q (mgF c T m k p S) s M → cI d yM_mostGiven [.ref 159, .int (nI p), .int (nI S)] s M Q := by
  have h256 := pow_le8 h8
  intro k
  induction k with
  | zero =>
    intro p S d Q hk hd hS hq
    obtain ⟨d, rfl⟩ : ∃ e, d = e + 1 := ⟨d - 1, by omega⟩
    exact enM_mostGiven (br_t (by rw [hg, h3, nI_inj (by omega) (by omega)]; omega) hq)
  | succ k ih =>
    intro p S d Q hk hd hS hq
    obtain ⟨d, rfl⟩ : ∃ e, d = e + 1 := ⟨d - 1, by omega⟩
    refine enM_mostGiven (br_f (by rw [hg, h3, nI_inj (by omega) (by omega)]; omega) ?_)
    have loop : ∀ b, b = (if p = m then (-268435456) else mgF c T m k (p + 1) S) → wM_mostGiven d 38 [.ref 159, .int (nI p), .int (nI S), .int b, .int 0, .null] [] s M Q := by
      intro b eb
      refine loop_itr (L := fun i (x : Int32) => wM_mostGiven d 38 [.ref 159, .int (nI p), .int (nI S), .int x, .int (nI i), .null] [] s M Q) (f := mgS c (mgF c T m k (p + 1)) p S) (e := T) (a0 := b) ?_ ?_
      · refine sgM_mostGiven_38 (br_t (by rw [hg, h2, nI_leP (by omega) (by omega)]; exact Nat.le_refl _) ?_)
        rw [eb]; exact hq
      · intro t ht hk2
        generalize itr (mgS c (mgF c T m k (p + 1)) p S) t b = x at hk2 ⊢
        refine sgM_mostGiven_38 (br_f (by rw [hg, h2, nI_leP (by omega) (by omega)]; omega) (sp_claimed (by omega) hK h8 h6 (by omega) ht hS ?_))
        rw [nI_1, nI_1, orI hS ht h8]
        unfold mgS at hk2
        refine br_c (fun z => ?_) (fun z => ?_)
        · rw [if_pos z] at hk2; exact hk2
        · rw [if_neg z] at hk2
          exact ih (p + 1) _ d _ (by omega) (by omega) (or_lt hS ht) hk2
    rw [hm, nI_inj (by omega) (by omega)]
    refine br_c (fun z => loop _ (by rw [if_pos z])) (fun z => ?_)
    rw [nI_1]
    exact ih (p + 1) S d _ (by omega) (by omega) hS (loop _ (by rw [if_neg z]))
theorem op_without {L d : Nat} {s : pm_S} {M : pm_M} (hd : 12 ≤ d) (hI : Inv L s M) : cI d yG_without [.ref 0] s M (fun r s1 M1 => cI d yM_without [.ref 159] s1 M1 (same L r)) := by
  obtain ⟨d, rfl⟩ : ∃ e, d = e + 1 := ⟨d - 1, by omega⟩
  obtain ⟨g, N, T, P, x, n, hc⟩ := Inv_ctx hI
  obtain ⟨a1, a2, a3, a4, a5, a6, a7, a8, a9, a10, a11, a12, a13⟩ := hc
  have h8 : T ≤ 8 := a4.2.2.2.2.2.2.1
  have h6 : P ≤ 6 := a4.2.2.2.2.2.2.2.1
  have h2 := a4.2.2.1
  have h3 := a4.2.2.2.1
  refine enG_without (sp_gather (by omega) a4 a10 (fun M1 hK o1 => ?_))
  have c15 := (o1 15 (by decide)).1
  have t15 : M1.1 15 1 = nI T := by rw [c15]; exact a4.1.2.1.trans h2
  have p15 : M1.1 15 2 = nI P := by rw [c15]; exact a4.1.2.2.1.trans h3
  have ref : cI (d + 1) yM_without [.ref 159] s M1 (same L (nI (setF (fun p => !someB (clF g) T p) P))) := by
    have s1 : Scr M M1 := Scr_off o1 (by decide)
    have s3 := Scr_tr s1 (Scr_159 (M := M1) (k := 0) (v := 0) (by omega))
    have g3 := (Scr_c s3 (c := 160) (by decide)).trans a3
    refine enM_without (sp_laysMatching (by omega) g3 a4.2 (fun M3 k3 m3 o3 => ?_))
    have s4 := Scr_tr s3 (Scr_off o3 (by decide))
    refine loop_up (L := fun i M4 => wM_without d 13 [.ref 159, .int (nI (setF (fun p => !someB (clF g) T p) i)), .int (nI i)] [] s M4 (same L (nI (setF (fun p => !someB (clF g) T p) P)))) (I := fun i M4 => Scr M M4 ∧ KM M4 (clF g) T P ∧ M4.1 169 = M3.1 169) (e := P) ?_ ?_ M3 ⟨s4, k3, rfl⟩
    · intro M4 b
      have g4 := (Scr_c b.1 (c := 160) (by decide)).trans a3
      refine sgM_without_13 (br_t (by rw [g4, h3, nI_leP (by omega) (by omega)]; exact Nat.le_refl _) ⟨rfl, Inv_Scr hI a1 (Scr_tr b.1 (Scr_159 (by omega)))⟩)
    · intro p M4 hp b hk
      have g4 := (Scr_c b.1 (c := 160) (by decide)).trans a3
      refine sgM_without_13 (br_f (by rw [g4, h3, nI_leP (by omega) (by omega)]; omega) ?_)
      refine sp_mostGiven (g := g) (c := clF g) (T := T) (P := P) (m := p) (by rw [si_ne (by decide)]; exact g4) h2 h3 (by rw [si_eq, row_eq]) hp (fun p' t z1 z2 => by rw [si_ne (by decide)]; exact b.2.1 p' t z1 z2) h8 h6 P 0 0 d _ (by omega) (by omega) (Nat.two_pow_pos T) (fun v ev => ?_)
      have e9 : (pm_si M4 159 26 (nI p)).1 169 0 = m1F (clF g) T P 0 0 := by
        rw [si_ne (by decide), b.2.2]
        exact (m3 0 0 (by omega) (by omega) (Nat.two_pow_pos T)).2.1
      rw [e9] at ev
      simp only [without_eq h6 hp] at ev
      have q := set_step (b := fun p => !someB (clF g) T p) (i := p) (by omega)
      have e2 : (if someB (clF g) T p = true then (0 : Int32) else 1 <<< (nI p &&& 31)) = (if (!someB (clF g) T p) = true then (1 : Int32) <<< (nI p &&& 31) else 0) := by
        cases someB (clF g) T p <;> simp
      rw [e2, q] at ev
      rw [ev, nI_1]
      exact hk _ ⟨Scr_tr b.1 (Scr_159 (by omega)), fun p' t z1 z2 => by rw [si_ne (by decide)]; exact b.2.1 p' t z1 z2, by rw [si_ne (by decide)]; exact b.2.2⟩
  refine loop_up (L := fun i M2 => wG_without d 19 [.ref 0, .int (nI (setF (fun p => !someB (clF g) T p) i)), .int (nI i)] [] s M2 (fun r s1 M1 => cI (d + 1) yM_without [.ref 159] s1 M1 (same L r))) (I := fun i M2 => M2 = M1) (e := P) ?_ ?_ M1 rfl
  · intro M2 e
    subst e
    exact sgG_without_19 (br_t (by rw [p15, nI_leP (by omega) (by omega)]; exact Nat.le_refl _) ref)
  · intro p M2 hp e hk
    subst e
    refine sgG_without_19 (br_f (by rw [p15, nI_leP (by omega) (by omega)]; omega) ?_)
    rw [t15]
    refine sp_someBy (by omega) hK h8 h6 hp ?_
    have q := set_step2 (b := fun p => !someB (clF g) T p) (i := p) (by omega)
    have e2 : (if (if someB (clF g) T p = true then (1 : Int32) else 0) = 0 then nI (setF (fun p => !someB (clF g) T p) p) ||| ((1 : Int32) <<< (nI p &&& 31)) else nI (setF (fun p => !someB (clF g) T p) p)) = nI (setF (fun p => !someB (clF g) T p) (p + 1)) := by
      rw [← q]
      cases someB (clF g) T p <;> simp
    rw [e2, nI_1]
    exact hk M2 rfl
