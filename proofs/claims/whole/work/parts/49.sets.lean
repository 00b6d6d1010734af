def bcF (x1 : Int32) : Int32 :=
  let v1 := x1 - (((x1.toUInt32 >>> ((1 : Int32).toUInt32 &&& Int32.toUInt32 31)).toInt32) &&& 1431655765)
  let v2 := (v1 &&& 858993459) + (((v1.toUInt32 >>> ((2 : Int32).toUInt32 &&& Int32.toUInt32 31)).toInt32) &&& 858993459)
  let v3 := (v2 + ((v2.toUInt32 >>> ((4 : Int32).toUInt32 &&& Int32.toUInt32 31)).toInt32)) &&& 252645135
  let v4 := v3 + ((v3.toUInt32 >>> ((8 : Int32).toUInt32 &&& Int32.toUInt32 31)).toInt32)
  let v5 := v4 + ((v4.toUInt32 >>> ((16 : Int32).toUInt32 &&& Int32.toUInt32 31)).toInt32)
  v5 &&& 63
theorem bc_bits : ∀ k, k < 1024 → bcF (nI k) = bitsF (nI k) := by decide +kernel
theorem sp_bitCount {d : Nat} {s : pm_S} {M : pm_M} {k : Nat} {Q : Int32 → pm_S → pm_M → Prop} (hd : 1 ≤ d) (hk : k < 1024) (hq : Q (bitsF (nI k)) s M) : cI d yint_bitCount [.int (nI k)] s M Q := by
  obtain ⟨d, rfl⟩ : ∃ e, d = e + 1 := ⟨d - 1, by omega⟩
  rw [← bc_bits k hk] at hq
  refine enint_bitCount (fun v1 e1 v2 e2 v3 e3 v4 e4 v5 e5 => ?_)
  subst e1
  subst e2
  subst e3
  subst e4
  subst e5
  exact hq
def offB (g : Nat → Int32) : Nat → Bool := fun t => decide (g (50 + t) = 99)
def holdB (g : Nat → Int32) (T : Nat) : Nat → Bool := fun p => decide (¬ heldF g T p = none)
theorem sp_officeSet {d : Nat} {s : pm_S} {M : pm_M} {g : Nat → Int32} {T : Nat} {Q : Int32 → pm_S → pm_M → Prop} (hd : 1 ≤ d) (hg : M.1 160 = g) (h2 : g 2 = nI T) (h8 : T ≤ 8) (hq : Q (nI (setF (offB g) T)) s M) : cI d yM_officeSet [.ref 159] s M Q := by
  obtain ⟨d, rfl⟩ : ∃ e, d = e + 1 := ⟨d - 1, by omega⟩
  refine enM_officeSet ?_
  refine loop_up (L := fun i M1 => wM_officeSet d 4 [.ref 159, .int (nI (setF (offB g) i)), .int (nI i)] [] s M1 Q) (I := fun i M1 => M1 = M) (e := T) ?_ ?_ M rfl
  · intro M1 e
    subst e
    refine sgM_officeSet_4 (br_t ?_ hq)
    rw [hg, h2, nI_leP (by omega) (by omega)]; exact Nat.le_refl _
  · intro i M1 hi e hk
    subst e
    refine sgM_officeSet_4 (br_f ?_ ?_)
    · rw [hg, h2, nI_leP (by omega) (by omega)]; omega
    rw [lI 50, nI_add, nI_clamp (by omega), hg, nI_1]
    refine ⟨vpI (by omega) (by omega), fun v ev => ?_⟩
    have q := set_step (b := offB g) (i := i) (by omega)
    simp only [offB, decide_eq_true_eq] at q
    rw [ev, q]
    exact hk M1 rfl
theorem sp_officeBits {d : Nat} {s : pm_S} {M : pm_M} {g : Nat → Int32} {o T P : Nat} {Q : Int32 → pm_S → pm_M → Prop} (hd : 1 ≤ d) (ho : isS o) (hs : SR M o g T P) (h8 : T ≤ 8) (hq : Q (nI (setF (offB g) T)) s M) : cI d yS_officeBits [.ref o] s M Q := by
  obtain ⟨d, rfl⟩ : ∃ e, d = e + 1 := ⟨d - 1, by omega⟩
  generalize hb : (fun t => decide (M.1 (o + 1) t = 99)) = b
  have e1 : setF (offB g) T = setF b 8 := by
    have q1 : setF b 8 = setF b T := setF_stop h8 (fun i h1 h2 => by
      rw [← hb]
      have := hs.2.2.2.2.2 i h1 h2
      simp
      intro z
      rw [z] at this
      exact absurd this (by decide))
    rw [q1]
    refine setF_congr (fun i hi => ?_)
    rw [← hb]
    show decide (g (50 + i) = 99) = decide (M.1 (o + 1) i = 99)
    rw [(hs.2.2.2.1 i hi).1]
  rw [e1] at hq
  refine enS_officeBits ho ?_
  refine loop_up (L := fun i M1 => wS_officeBits d 4 [.ref o, .int (nI (setF b i)), .int (nI i)] [] s M1 Q) (I := fun i M1 => M1 = M) (e := 8) ?_ ?_ M rfl
  · intro M1 e
    subst e
    exact sgS_officeBits_4 ho (br_t (by decide) hq)
  · intro i M1 hi e hk
    subst e
    refine sgS_officeBits_4 ho (br_f (by rw [lI 8, nI_leP (by omega) (by omega)]; omega) ⟨vpI (by omega) (by omega), ?_⟩)
    rw [nI_clamp (by omega), nI_1]
    have q := set_step2 (b := b) (i := i) (by omega)
    rw [← hb] at q
    simp only [decide_eq_true_eq] at q
    rw [← hb, q, hb]
    exact hk M1 rfl
theorem sp_holders {d : Nat} {s : pm_S} {M : pm_M} {g : Nat → Int32} {T P : Nat} {Q : Int32 → pm_S → pm_M → Prop} (hd : 2 ≤ d) (hg : M.1 160 = g) (h2 : g 2 = nI T) (h3 : g 3 = nI P) (h8 : T ≤ 8) (h6 : P ≤ 6) (hq : Q (nI (setF (holdB g T) P)) s M) : cI d yM_holders [.ref 159] s M Q := by
  obtain ⟨d, rfl⟩ : ∃ e, d = e + 1 := ⟨d - 1, by omega⟩
  refine enM_holders ?_
  refine loop_up (L := fun i M1 => wM_holders d 4 [.ref 159, .int (nI (setF (holdB g T) i)), .int (nI i)] [] s M1 Q) (I := fun i M1 => M1 = M) (e := P) ?_ ?_ M rfl
  · intro M1 e
    subst e
    refine sgM_holders_4 (br_t ?_ hq)
    rw [hg, h3, nI_leP (by omega) (by omega)]; exact Nat.le_refl _
  · intro i M1 hi e hk
    subst e
    refine sgM_holders_4 (br_f ?_ (sp_heldByN (by omega) hg h2 h8 (fun v ev => ?_)))
    · rw [hg, h3, nI_leP (by omega) (by omega)]; omega
    have q := set_step (b := holdB g T) (i := i) (by omega)
    simp only [oIheld h8] at ev
    have e2 : (if heldF g T i = none then (0 : Int32) else 1 <<< (nI i &&& 31)) = (if holdB g T i = true then (1 : Int32) <<< (nI i &&& 31) else 0) := by
      unfold holdB
      by_cases z : heldF g T i = none
      · simp [z]
      · simp [z]
    rw [e2, q] at ev
    rw [ev, nI_1]
    exact hk M1 rfl
theorem held_out {g : Nat → Int32} {N T P p : Nat} (hV : Vd g N T P) (hs : Vs g N T P) (hp : P ≤ p) (h6 : p < 10) : heldF g T p = none := by
  have h5 := hV.2.2.2.2.1
  have h7 := hV.2.2.2.2.2.2.1
  cases e : heldF g T p with
  | none => rfl
  | some t =>
    obtain ⟨h1, h2⟩ := heldF_lt e
    rcases hs.2.1 t h1 with ⟨k, k1, k2⟩ | ⟨q, k1, k2⟩ | k2
    · rw [h2, nI_inj (by omega) (by omega)] at k2; omega
    · rw [h2, nI_inj (by omega) (by omega)] at k2; omega
    · rw [h2, nI_inj (by omega) (by omega)] at k2; omega
theorem sp_holderBits {d : Nat} {s : pm_S} {M : pm_M} {g : Nat → Int32} {o N T P : Nat} {Q : Int32 → pm_S → pm_M → Prop} (hd : 2 ≤ d) (ho : isS o) (hs : SR M o g T P) (hV : Vd g N T P) (hv : Vs g N T P) (hq : Q (nI (setF (holdB g T) P)) s M) : cI d yS_holderBits [.ref o] s M Q := by
  obtain ⟨d, rfl⟩ : ∃ e, d = e + 1 := ⟨d - 1, by omega⟩
  have h8 := hV.2.2.2.2.2.1
  have h6 := hV.2.2.2.2.2.2.1
  have e1 : setF (holdB g T) 6 = setF (holdB g T) P := setF_stop h6 (fun i h1 h2 => by
    unfold holdB
    simp [held_out hV hv h1 (by omega)])
  rw [← e1] at hq
  refine enS_holderBits ho ?_
  refine loop_up (L := fun i M1 => wS_holderBits d 4 [.ref o, .int (nI (setF (holdB g T) i)), .int (nI i)] [] s M1 Q) (I := fun i M1 => M1 = M) (e := 6) ?_ ?_ M rfl
  · intro M1 e
    subst e
    exact sgS_holderBits_4 ho (br_t (by decide) hq)
  · intro i M1 hi e hk
    subst e
    refine sgS_holderBits_4 ho (br_f (by rw [lI 6, nI_leP (by omega) (by omega)]; omega) (sp_heldThing (by omega) ho hs h8 (by omega) ?_))
    simp only [oIheld h8]
    have q := set_step2 (b := holdB g T) (i := i) (by omega)
    have e2 : (if heldF g T i = none then nI (setF (holdB g T) i) else nI (setF (holdB g T) i) ||| ((1 : Int32) <<< (nI i &&& 31))) = nI (setF (holdB g T) (i + 1)) := by
      rw [← q]
      unfold holdB
      by_cases z : heldF g T i = none
      · simp [z]
      · simp [z]
    rw [e2, nI_1]
    exact hk M1 rfl
