/-! things left: rows that differ in where things are alone -/
def eqT (g g' : Nat → Int32) : Prop := ∀ i, (i < 50 ∨ 58 ≤ i) → g' i = g i
theorem eqT_rf {g : Nat → Int32} : eqT g g := fun _ _ => rfl
theorem eqT_tr {g g1 g2 : Nat → Int32} (h1 : eqT g g1) (h2 : eqT g1 g2) : eqT g g2 := fun i hi => (h2 i hi).trans (h1 i hi)
theorem eqT_row {g g1 : Nat → Int32} {t : Nat} {v : Int32} (h : eqT g g1) (ht : t < 8) : eqT g (pm_row g1 (50 + t) v) := fun i hi => by
  rw [row_ne (by omega)]
  exact h i hi
theorem eqT_L {g g' : Nat → Int32} (h : eqT g g') : eqL g g' := fun i hi => h i (by omega)
theorem eqT_cl {g g' : Nat → Int32} {p t : Nat} (h : eqT g g') (ht : t < 8) (hp : p < 6) : clF g' p t = clF g p t := by
  unfold clF
  rw [h (66 + p) (by omega), claimF_congr (eqT_L h) ht]
theorem heldF_no {g : Nat → Int32} {T p : Nat} : heldF g T p = none ↔ ∀ t, t < T → g (50 + t) ≠ nI (10 + p) := by
  rcases fst_cases (fun t => decide (g (50 + t) = nI (10 + p))) T with ⟨h1, h2⟩ | ⟨j, h1, h2, h3, _⟩
  · constructor
    · intro _ t ht
      have := h2 t ht
      simpa using this
    · intro _; exact h1
  · constructor
    · intro q; unfold heldF at q; rw [h1] at q; cases q
    · intro q; exact absurd (by simpa using h3) (q j h2)
theorem fr_bit : ∀ H, H < 64 → ∀ p, p < 6 → decide (((nI H ^^^ (-1)) >>> (nI p &&& 31)) &&& 1 = 1) = !bt H p := by decide +kernel
theorem fr_or : ∀ H, H < 64 → ∀ p, p < 6 → (nI H ^^^ (-1)) ||| ((1 : Int32) <<< (nI p &&& 31)) = nI (H - H / 2 ^ p % 2 * 2 ^ p) ^^^ (-1) := by decide +kernel
theorem fr_and : ∀ H, H < 64 → ∀ p, p < 6 → (nI H ^^^ (-1)) &&& (((1 : Int32) <<< (nI p &&& 31)) ^^^ (-1)) = nI (H ||| 2 ^ p) ^^^ (-1) := by decide +kernel
theorem rem_bit : ∀ H, H < 64 → ∀ p, p < 6 → ∀ q, q < 6 → bt (H - H / 2 ^ p % 2 * 2 ^ p) q = (bt H q && !decide (p = q)) := by decide +kernel
theorem frI {H p : Nat} (hH : H < 64) (hp : p < 6) : (((nI H ^^^ (-1)) >>> (nI p &&& 31)) &&& 1 = 1) = (bt H p = false) := by
  have := fr_bit H hH p hp
  rw [Bool.eq_iff_iff] at this
  simp only [decide_eq_true_eq, Bool.not_eq_true'] at this
  exact propext this
def hdR (x : Nat → Int32) (T P H : Nat) : Prop := H < 64 ∧ ∀ p, p < P → (bt H p = false ↔ heldF x T p = none)
theorem sp_arrives {d : Nat} {s : pm_S} {M : pm_M} {g x : Nat → Int32} {N T P H i k t : Nat} {Q : Int32 → pm_S → pm_M → Prop} (hd : 2 ≤ d) (hN : M.1 15 0 = nI N) (hP : M.1 15 2 = nI P) (h5 : N ≤ 8) (h8 : T ≤ 8) (h6 : P ≤ 6) (hK : KR M g T P) (hh : ∀ p, p < P → M.1 20 p = g (35 + p)) (hi : i < 3) (hk : k < N) (hpl : M.1 50 i = nI k) (hw : M.1 48 i = nI t) (ht : t < T) (htk : M.1 44 i = -1) (hf : M.1 43 10 = nI H ^^^ (-1)) (hH : hdR x T P H) (hx : eqT g x) (hq : ∀ M', M'.1 50 = pm_row (M.1 50) i (nI (k + 1)) → M'.1 44 = pm_row (M.1 44) i (oI (rollR x N T P t (nI (k + 1)))) → M'.1 43 8 = M.1 43 8 → M'.1 43 9 = M.1 43 9 → M'.1 43 10 = nI (orO H (rollR x N T P t (nI (k + 1)))) ^^^ (-1) → off [43, 44, 50] M M' → Q (if k + 1 = N ∨ ¬ rollR x N T P t (nI (k + 1)) = none then 1 else 0) s M') : cI d yF_arrives [.ref 43, .ref 15, .ref 41, .int (nI i)] s M Q := by
  obtain ⟨d, rfl⟩ : ∃ e, d = e + 1 := ⟨d - 1, by omega⟩
  refine enF_arrives ?_
  rw [nI_clamp (by omega), hpl, nI_1, si_eq, row_eq]
  have v3 : vp_in (nI i) 3 := vpI (by omega) (by omega)
  refine ⟨v3, v3, v3, sp_hasStation (by omega) (by rw [si_ne (by decide)]; exact hN) h5 (fun q => br_f (by decide) ?_) (fun q => br_t rfl ?_)⟩
  · obtain ⟨j, hj, ej⟩ := q
    rw [nI_inj (by omega) (by omega)] at ej
    have hkN : k + 1 < N := by omega
    have eR : rollR x N T P t (nI (k + 1)) = (tk x T P t (nI (k + 1))).1 := by
      unfold rollR
      rw [if_neg (by rw [nI_leP (by omega) (by omega)]; omega)]
    rw [eR] at hq
    generalize hM0 : pm_si M 50 i (nI (k + 1)) = M0
    have o0 : off [50] M M0 := by rw [← hM0]; exact off_si off_rf (by decide)
    have m50 : M0.1 50 = pm_row (M.1 50) i (nI (k + 1)) := by rw [← hM0, si_eq]
    have m44 : M0.1 44 = M.1 44 := (o0 44 (by decide)).1
    have start : M0.1 44 = pm_row (M.1 44) i (oI (none : Option Nat)) := by
      rw [m44]
      show M.1 44 = pm_row (M.1 44) i (-1)
      rw [← htk]
      funext j
      by_cases e : j = i
      · subst e; rw [row_eq]
      · rw [row_ne e]
    have fin : ∀ M1, M1.1 44 = pm_row (M.1 44) i (oI (tk x T P t (nI (k + 1))).1) → off [44] M0 M1 → wF_arrives d 121 [.ref 43, .null, .null, .int (nI i), .null, .null] [] s M1 Q := by
      intro M1 e1 o1
      have o2 := off_tr (off_mo o0 (by decide : ∀ c, c ∈ [50] → c ∈ [43, 44, 50])) (off_mo o1 (by decide : ∀ c, c ∈ [44] → c ∈ [43, 44, 50]))
      have e43 : M1.1 43 = M.1 43 := by rw [(o1 43 (by decide)).1, (o0 43 (by decide)).1]
      have e50 : M1.1 50 = pm_row (M.1 50) i (nI (k + 1)) := by rw [(o1 50 (by decide)).1, m50]
      refine sgF_arrives_121 ?_
      rw [nI_clamp (by omega), e1, row_eq]
      refine ⟨v3, ?_⟩
      cases hr : (tk x T P t (nI (k + 1))).1 with
      | none =>
        refine br_t rfl ?_
        have := hq M1 e50 e1 (by rw [e43]) (by rw [e43]) (by rw [e43, hf, hr]; rfl) o2
        rw [if_neg (by rw [hr]; simp; omega)] at this
        exact this
      | some p =>
        have hp := tk_small hr
        refine br_f (by simp only [oI]; rw [m1_ne (by omega)]; simp) ⟨v3, ?_⟩
        have := hq (pm_si M1 43 10 (M1.1 43 10 &&& (((1 : Int32) <<< (oI (some p) &&& 31)) ^^^ (-1)))) (by rw [si_ne (by decide)]; exact e50) (by rw [si_ne (by decide)]; exact e1) (by rw [si_eq, row_ne (by decide), e43]) (by rw [si_eq, row_ne (by decide), e43]) (by rw [si_eq, row_eq, e43, hf, hr]; exact fr_and H hH.1 p (by omega)) (off_si o2 (by decide))
        rw [if_pos (by rw [hr]; simp)] at this
        exact this
    refine loop_mem (L := fun p (b : Option Nat × Int32) M1 => wF_arrives d 31 [.ref 43, .ref 15, .ref 41, .int (nI i), .int b.2, .int (nI p)] [] s M1 Q) (I := fun b M1 => M1.1 44 = pm_row (M.1 44) i (oI b.1) ∧ off [44] M0 M1) (f := tk1 x T t (nI (k + 1))) (e := P) (a0 := (none, 0)) ?_ ?_ M0 ⟨start, off_rf⟩
    · intro M1 b
      have c15 : M1.1 15 = M.1 15 := by rw [(b.2 15 (by decide)).1, (o0 15 (by decide)).1]
      refine sgF_arrives_31 (br_c (fun _ => fin M1 b.1 b.2) (fun _ => sp_hasPerson (by omega) (by rw [c15]; exact hP) h6 (fun q => ?_) (fun _ => br_t rfl (fin M1 b.1 b.2))))
      obtain ⟨j', hj', e'⟩ := q
      rw [nI_inj (by omega) (by omega)] at e'
      omega
    · intro p M1 hp b hk1
      have pos := tk_ge (g := x) (T := T) (t := t) (i := p) (st := nI (k + 1))
      generalize itr (tk1 x T t (nI (k + 1))) p (none, 0) = y at b hk1 pos ⊢
      have c15 : M1.1 15 = M.1 15 := by rw [(b.2 15 (by decide)).1, (o0 15 (by decide)).1]
      have c20 : M1.1 20 = M.1 20 := by rw [(b.2 20 (by decide)).1, (o0 20 (by decide)).1]
      have c43 : M1.1 43 = M.1 43 := by rw [(b.2 43 (by decide)).1, (o0 43 (by decide)).1]
      have c48 : M1.1 48 = M.1 48 := by rw [(b.2 48 (by decide)).1, (o0 48 (by decide)).1]
      have c50 : M1.1 50 i = nI (k + 1) := by rw [(b.2 50 (by decide)).1, m50, row_eq]
      have cK : KR M1 g T P := KR_c (by rw [(b.2 42 (by decide)).1, (o0 42 (by decide)).1]) hK
      have ecl : clF g p t = claimF x (x (66 + p)) p t := (eqT_cl hx (by omega) (by omega)).symm
      refine sgF_arrives_31 (br_f (by rw [lI 6, nI_leP (by omega) (by omega)]; omega) (sp_hasPerson (by omega) (by rw [c15]; exact hP) h6 (fun _ => br_f (by decide) ⟨vpI (by omega) (by omega), v3, ?_⟩) (fun q => absurd ⟨p, hp, rfl⟩ q)))
      rw [nI_clamp (by omega), nI_clamp (by omega), c20, hh p hp, c50, c43, hf, frI hH.1 (by omega), c48, hw, nI_1]
      have e35 : x (35 + p) = g (35 + p) := hx _ (by omega)
      have same' : ¬ (g (35 + p) = nI (k + 1) ∧ heldF x T p = none) → wF_arrives d 31 [.ref 43, .ref 15, .ref 41, .int (nI i), .int y.2, .int (nI (p + 1))] [] s M1 Q := by
        intro hn
        have e : tk1 x T t (nI (k + 1)) p y = y := by
          have ek : tkc x T t (nI (k + 1)) p = 0 := by
            unfold tkc
            rw [e35, if_neg hn]
          unfold tk1
          rw [ek, if_neg (i_nlt pos)]
        rw [e] at hk1
        exact hk1 M1 b
      refine br_c (fun z1 => br_c (fun z2 => ⟨v3, ?_⟩) (fun z2 => same' (fun q => z2 ((hH.2 p hp).mpr q.2)))) (fun z1 => same' (fun q => z1 q.1))
      have hz := (hH.2 p hp).mp z2
      have e : tk1 x T t (nI (k + 1)) p y = if y.2 < clF g p t then (some p, clF g p t) else y := by
        have ek : tkc x T t (nI (k + 1)) p = clF g p t := by
          unfold tkc
          rw [e35, if_pos ⟨z1, hz⟩, ecl]
        unfold tk1
        rw [ek]
      rw [e] at hk1
      refine sp_of (by omega) cK h8 h6 hp ht (br_c (fun z3 => ?_) (fun z3 => ⟨v3, ?_⟩))
      · rw [if_neg (i_nlt z3)] at hk1
        exact hk1 M1 b
      · rw [if_pos (i_lt z3)] at hk1
        rw [c48, hw]
        refine sp_of (by omega) cK h8 h6 hp ht ⟨v3, hk1 _ ⟨?_, off_si b.2 (by decide)⟩⟩
        rw [si_eq, b.1, row_row]
        rfl
  · have hkN : k + 1 = N := by
      by_cases e : k + 1 < N
      · exact absurd ⟨k + 1, e, rfl⟩ q
      · omega
    have eR : rollR x N T P t (nI (k + 1)) = none := by
      unfold rollR
      rw [if_pos (by rw [hkN, nI_leP (by omega) (by omega)]; exact Nat.le_refl _)]
    rw [eR] at hq
    have := hq (pm_si M 50 i (nI (k + 1))) si_eq (by
      rw [si_ne (by decide)]
      show M.1 44 = pm_row (M.1 44) i (-1)
      rw [← htk]
      funext j
      by_cases e : j = i
      · subst e; rw [row_eq]
      · rw [row_ne e]) (by rw [si_ne (by decide)]) (by rw [si_ne (by decide)]) (by rw [si_ne (by decide)]; exact hf) (off_si off_rf (by decide))
    rw [if_pos (Or.inl hkN)] at this
    exact this
